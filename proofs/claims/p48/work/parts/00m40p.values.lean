/-! What both sides tell of an account. -/
theorem q_req {a : Nat} (h : a < 6) : f_X10_requireAccount (nI a) = some (Sum.inr ()) := by
  unfold f_X10_requireAccount
  rw [if_neg (nI_pos (by omega)), if_pos (show nI a < 6 from (c_lt (b := 6) (by omega) (by decide)).mpr h)]
theorem m_acc {a : Nat} (h : a < 6) : f_X11_isAccount (nI a) = some 1 := by
  unfold f_X11_isAccount f_X11_in
  rw [if_neg (nI_pos (by omega)), if_neg (show ¬ 5 < nI a from fun q => by have := (c_lt (a := 5) (by decide) (by omega)).mp q; omega), Option.bind_some, if_neg (by decide)]
theorem q_req2 {a b : Nat} (ha : a < 6) (hb : b < 6) : f_X10_requireAccounts (nI a) (nI b) = some (Sum.inr ()) := by
  simp only [f_X10_requireAccounts, q_req ha, q_req hb, Option.bind_some, Sum.elim_inr]
theorem m_acc2 {a b : Nat} (ha : a < 6) (hb : b < 6) : f_X11_areAccounts (nI a) (nI b) = some 1 := by
  simp only [f_X11_areAccounts, m_acc ha, m_acc hb, Option.bind_some, n1, if_false]
theorem v_wholeDigits {c : SC} {B : Nat} {nu de : Nat → Nat} (R : Rok B nu de) (C : Cok c B nu de) {a : Nat} (h : a < 6) : f_X10_wholeDigits c (nI a) = some (Sum.inr (nI (dcn B (whl nu de a)))) := by
  simp only [f_X10_wholeDigits, q_req h, Option.bind_some, Sum.elim_inr, q_wh R C h, C.1, q_count R.1 R.2.1 (R.wh h).1]
theorem v_requireColumn {c : SC} {B : Nat} {nu de : Nat → Nat} (R : Rok B nu de) (C : Cok c B nu de) {a k : Nat} (h : a < 6) (hk : k < dcn B (whl nu de a)) : f_X10_requireColumn c (nI a) (nI k) = some (Sum.inr ()) := by
  have h1 := dcn_le B (whl nu de a)
  have e1 : ¬ nI k < 0 := nI_pos (by omega)
  have e2 : nI k < nI (dcn B (whl nu de a)) := (c_lt (by omega) (by omega)).mpr hk
  simp only [f_X10_requireColumn, e1, if_false, v_wholeDigits R C h, Option.bind_some, Sum.elim_inr, e2, if_true]
theorem v_wholeDigit {c : SC} {B : Nat} {nu de : Nat → Nat} (R : Rok B nu de) (C : Cok c B nu de) {a k : Nat} (h : a < 6) (hk : k < dcn B (whl nu de a)) : f_X10_wholeDigit c (nI a) (nI k) = some (Sum.inr (nI (dgt B (whl nu de a) k))) := by
  have h1 := dcn_le B (whl nu de a)
  have e := q_byDiv (k := k) R.1 R.2.1 (R.wh h).1 (by omega)
  simp only [f_X10_wholeDigit, v_requireColumn R C h hk, Option.bind_some, Sum.elim_inr, q_wh R C h, C.1, e]
  rfl
theorem v_wholeDigitByPowers {c : SC} {B : Nat} {nu de : Nat → Nat} (R : Rok B nu de) (C : Cok c B nu de) {a k : Nat} (h : a < 6) (hk : k < dcn B (whl nu de a)) : f_X10_wholeDigitByPowers c (nI a) (nI k) = some (Sum.inr (nI (dgt B (whl nu de a) k))) := by
  have h1 := dcn_le B (whl nu de a)
  have e := q_byPow R.1 R.2.1 (R.wh h).1 hk
  simp only [f_X10_wholeDigitByPowers, v_requireColumn R C h hk, Option.bind_some, Sum.elim_inr, q_wh R C h, C.1, e]
  rfl
def dsm (B w : Nat) : Nat := sm (dgt B w) (dcn B w)
theorem dsm_le {B w : Nat} (hB : 1 < B) (hB2 : B < 17) : dsm B w ≤ 480 := by
  have h := sm_dgt_le (w := w) (n := dcn B w) hB hB2
  have h2 := dcn_le B w
  unfold dsm
  omega
theorem v_digitSum {c : SC} {B : Nat} {nu de : Nat → Nat} (R : Rok B nu de) (C : Cok c B nu de) {a : Nat} (h : a < 6) : f_X10_digitSum c (nI a) = some (Sum.inr (nI (dsm B (whl nu de a)))) := by
  simp only [f_X10_digitSum, q_req h, Option.bind_some, Sum.elim_inr, q_wh R C h, C.1, q_sum R.1 R.2.1 (R.wh h).1]
  rfl
theorem v_leftByDividing {c : SC} {B : Nat} {nu de : Nat → Nat} (R : Rok B nu de) (C : Cok c B nu de) {a : Nat} (h : a < 6) : f_X10_leftByDividing c (nI a) = some (Sum.inr (nI (whl nu de a % (B - 1)))) := by
  have hB := R.1
  have hB2 := R.2.1
  have hw := (R.wh h).1
  have e1 : nI B - 1 = nI (B - 1) := pk_sub (b := 1) (by omega)
  simp only [f_X10_leftByDividing, q_req h, Option.bind_some, Sum.elim_inr, q_wh R C h, C.1, e1, nI_l (show B - 1 < 2 ^ 31 by omega), nI_l (show whl nu de a < 2 ^ 31 by omega), q_left (show whl nu de a < 2 ^ 63 by omega) (show 0 < B - 1 by omega) (show B - 1 < 2 ^ 63 by omega), lN_i]
theorem v_leftByDigits {c : SC} {B : Nat} {nu de : Nat → Nat} (R : Rok B nu de) (C : Cok c B nu de) {a : Nat} (h : a < 6) : f_X10_leftByDigits c (nI a) = some (Sum.inr (nI (whl nu de a % (B - 1)))) := by
  have hB := R.1
  have hB2 := R.2.1
  have hw := (R.wh h).1
  have hs := dsm_le (w := whl nu de a) hB hB2
  have e1 : nI B - 1 = nI (B - 1) := pk_sub (b := 1) (by omega)
  have e2 := q_sum hB hB2 hw
  have e3 : sm (dgt B (whl nu de a)) (dcn B (whl nu de a)) = dsm B (whl nu de a) := rfl
  have e4 : dsm B (whl nu de a) % (B - 1) = whl nu de a % (B - 1) := sm_left hB hw
  rw [e3] at e2
  simp only [f_X10_leftByDigits, q_req h, Option.bind_some, Sum.elim_inr, q_wh R C h, C.1, e1, e2, nI_l (show B - 1 < 2 ^ 31 by omega), nI_l (show dsm B (whl nu de a) < 2 ^ 31 by omega), q_left (show dsm B (whl nu de a) < 2 ^ 63 by omega) (show 0 < B - 1 by omega) (show B - 1 < 2 ^ 63 by omega), lN_i, e4]
theorem m_left {ss : Nat → Int32} {B : Nat} {nu de : Nat → Nat} (R : Rok B nu de) (M : Mok ss B nu de) {a : Nat} (h : a < 6) (th : Int32) : f_X11_left th ss (nI a) = some (nI (whl nu de a % (B - 1)), 0) := by
  have hB := R.1
  have hB2 := R.2.1
  have hw := (R.wh h).1
  have e1 : nI B - 1 = nI (B - 1) := pk_sub (b := 1) (by omega)
  have e2 : ¬ nI (B - 1) = 0 := c_ne0 (by omega) (by omega)
  simp only [f_X11_left, m_acc h, Option.bind_some, n1, if_false, m_wholeOf R M h, z0, M.1, e1, e2, pk_rem (show whl nu de a < 2 ^ 31 by omega) (show 0 < B - 1 by omega) (show B - 1 < 2 ^ 31 by omega)]
-- behind the point
def isP (B c k : Nat) : Prop := (c = 1 ∧ k = 0) ∨ (1 < c ∧ isOrd B c k)
theorem isP_one {B c k k' : Nat} (h : isP B c k) (h' : isP B c k') : k = k' := by
  rcases h with ⟨h1, h2⟩ | ⟨h1, h2⟩ <;> rcases h' with ⟨h3, h4⟩ | ⟨h3, h4⟩
  · omega
  · omega
  · omega
  · exact isOrd_one h2 h4
def prd (B d : Nat) : Nat := ((f_X11_periodOf (nI d) (nI B)).getD 0).toNatClampNeg
theorem prd_ok {B d : Nat} (hB : 1 < B) (hB2 : B < 17) (hd : 0 < d) (hd2 : d ≤ 999) : f_X11_periodOf (nI d) (nI B) = some (nI (prd B d)) ∧ isP B (hcop B 10 d) (prd B d) ∧ prd B d ≤ 998 := by
  obtain ⟨k, h1, h2, h3⟩ := m_period (B := B) (d := d) (t := 10) hB (by omega) hd (by omega) (by omega) (by omega)
  obtain ⟨g1, g2, g3⟩ := hcop_ok (B := B) (by omega) 10 d hd (by omega)
  have e : prd B d = k := by
    unfold prd
    rw [h1]
    exact nI_clamp (by omega)
  rw [e]
  exact ⟨h1, h2, by omega⟩
theorem m_headOf {B d : Nat} (hB : 1 < B) (hB2 : B < 17) (hd : 0 < d) (hd2 : d ≤ 999) : f_X11_headOf (nI d) (nI B) = some (nI (hlen B 10 d)) :=
  m_head (by omega) (by omega) hd (by omega) (by omega)
theorem q_headB {B d : Nat} (hB : 1 < B) (hB2 : B < 17) (hd : 0 < d) (hd2 : d ≤ 999) : f_X0_head (lN d) (nI B) = some (nI (hlen B 10 d)) :=
  q_head (by omega) (by omega) hd (by omega) (by omega)
theorem q_copB {B d : Nat} (hB : 1 < B) (hB2 : B < 17) (hd : 0 < d) (hd2 : d ≤ 999) : f_X0_coprimePart (lN d) (nI B) = some (lN (hcop B 10 d)) :=
  q_cop (by omega) (by omega) hd (by omega) (by omega)
theorem q_perB {B n d : Nat} (hB : 1 < B) (hB2 : B < 17) (hd : 0 < d) (hd2 : d ≤ 999) (hg : Nat.gcd n d = 1) : f_X0_periodByDividing (lN (n % d)) (lN d) (nI B) (nI (hlen B 10 d)) = some (nI (prd B d)) := by
  have hg2 : Nat.gcd (n % d) d = 1 := by rw [← Nat.gcd_rec, Nat.gcd_comm]; exact hg
  obtain ⟨k, h1, h2⟩ := q_period (B := B) (d := d) (t := 10) (x := n % d) hB (by omega) (Nat.mod_lt _ hd) (by omega) (by omega) (by omega) hg2
  rw [h1, isP_one h2 (prd_ok hB hB2 hd hd2).2.1]
theorem q_ordB {B d : Nat} (hB : 1 < B) (hB2 : B < 17) (hd : 0 < d) (hd2 : d ≤ 999) {lim : Nat} (hl : prd B d ≤ lim) (hl2 : lim < 4000000) : f_X0_timesToOne (nI B) (lN (hcop B 10 d)) (nI lim) = some (nI (prd B d)) := by
  obtain ⟨g1, g2, g3⟩ := hcop_ok (B := B) (by omega) 10 d hd (by omega)
  rcases (prd_ok hB hB2 hd hd2).2.1 with ⟨h1, h2⟩ | ⟨h1, h2⟩
  · rw [h1, h2]; exact q_ord1
  · exact q_ord (by omega) h1 (by omega) h2 hl hl2
theorem v_headLength {c : SC} {B : Nat} {nu de : Nat → Nat} (R : Rok B nu de) (C : Cok c B nu de) {a : Nat} (h : a < 6) : f_X10_headLength c (nI a) = some (Sum.inr (nI (hlen B 10 (de a)))) := by
  obtain ⟨r1, r2, r3, r4⟩ := R.2.2 a h
  simp only [f_X10_headLength, q_req h, Option.bind_some, Sum.elim_inr, q_den C h, C.1, nI_l (show de a < 2 ^ 31 by omega), q_headB R.1 R.2.1 r2 r3]
theorem v_periodLength {c : SC} {B : Nat} {nu de : Nat → Nat} (R : Rok B nu de) (C : Cok c B nu de) {a : Nat} (h : a < 6) : f_X10_periodLength c (nI a) = some (Sum.inr (nI (prd B (de a)))) := by
  obtain ⟨r1, r2, r3, r4⟩ := R.2.2 a h
  have e := q_perB R.1 R.2.1 r2 r3 r4
  have e2 : lN (rst nu de a) = lN (nu a % de a) := rfl
  simp only [f_X10_periodLength, q_req h, Option.bind_some, Sum.elim_inr, q_den C h, C.1, nI_l (show de a < 2 ^ 31 by omega), q_headB R.1 R.2.1 r2 r3, q_rst R C h, e2, e]
theorem v_periodByOrder {c : SC} {B : Nat} {nu de : Nat → Nat} (R : Rok B nu de) (C : Cok c B nu de) {a : Nat} (h : a < 6) : f_X10_periodByOrder c (nI a) = some (Sum.inr (nI (prd B (de a)))) := by
  obtain ⟨r1, r2, r3, r4⟩ := R.2.2 a h
  have e := q_ordB (lim := 999) R.1 R.2.1 r2 r3 (by have := (prd_ok R.1 R.2.1 r2 r3).2.2; omega) (by omega)
  have e2 : (999 : Int32) = nI 999 := rfl
  simp only [f_X10_periodByOrder, q_req h, Option.bind_some, Sum.elim_inr, q_den C h, C.1, nI_l (show de a < 2 ^ 31 by omega), q_copB R.1 R.2.1 r2 r3, e2, e]
def bdg (B x d p : Nat) : Nat := x * B ^ p % d * B / d
theorem bdg_lt {B x d p : Nat} (hB : 1 < B) (hd : 0 < d) : bdg B x d p < B := dig_lt hd (Nat.mod_lt _ hd) (by omega)
theorem v_digitBehind {c : SC} {B : Nat} {nu de : Nat → Nat} (R : Rok B nu de) (C : Cok c B nu de) {a p : Nat} (h : a < 6) (hp : p ≤ 2000) : f_X10_digitBehind c (nI a) (nI p) = some (Sum.inr (nI (bdg B (rst nu de a) (de a) p))) := by
  obtain ⟨r1, r2, r3, r4⟩ := R.2.2 a h
  have hB := R.1
  have hB2 := R.2.1
  have e1 : ¬ nI p < 0 := nI_pos (by omega)
  have e2 : nI p ≤ 2000 := (nI_leI (b := 2000) (by omega) (by decide)).mpr hp
  have e := q_digit (B := B) (x := rst nu de a) (d := de a) (p := p) (Nat.mod_lt _ r2) (by omega) (by omega) (by omega) (by omega)
  simp only [f_X10_digitBehind, q_req h, Option.bind_some, Sum.elim_inr, e1, if_false, e2, if_true, q_rst R C h, q_den C h, C.1, nI_l (show de a < 2 ^ 31 by omega), e]
  rfl
theorem m_after_loop {ss : Nat → Int32} {B : Nat} {nu de : Nat → Nat} (R : Rok B nu de) (M : Mok ss B nu de) {a p : Nat} (h : a < 6) (hp : p ≤ 2000) : ∀ (t n i : Nat) (its : Int32), i + t = p → t + 1 < n → f_X11_digitAfter_b18 n ss (nI a) (nI p) (nI (rst nu de a * B ^ i % de a)) its (nI i) = some (nI (bdg B (rst nu de a) (de a) p)) := by
  obtain ⟨r1, r2, r3, r4⟩ := R.2.2 a h
  have hB := R.1
  have hB2 := R.2.1
  have step : ∀ n i its, i ≤ p → f_X11_digitAfter_b18 (n + 1) ss (nI a) (nI p) (nI (rst nu de a * B ^ i % de a)) its (nI i) = f_X11_digitAfter_b18 n ss (nI a) (nI p) (nI (rst nu de a * B ^ (i + 1) % de a)) (nI (bdg B (rst nu de a) (de a) i)) (nI (i + 1)) := by
    intro n i its hi
    have hm : rst nu de a * B ^ i % de a < de a := Nat.mod_lt _ r2
    have hp : rst nu de a * B ^ i % de a * B < 2 ^ 31 := by
      have : rst nu de a * B ^ i % de a * B ≤ 999 * 17 := Nat.mul_le_mul (by omega) (by omega)
      omega
    have e1 : ¬ nI p < nI i := fun q => by have := (c_lt (by omega) (by omega)).mp q; omega
    have e2 : ¬ nI (de a) = 0 := c_ne0 (by omega) r2
    have e3 := mul_mod_step (rst nu de a) B (de a) i
    show (if nI p < nI i then _ else _) = _
    rw [if_neg e1, m_down h, Option.bind_some, (M.2 a h).2, if_neg e2, Option.bind_some, if_neg e2, show (0 : Int32).toNatClampNeg = 0 from rfl, M.1, pk_mul, pk_rem hp r2 (by omega), pk_div hp r2 (by omega), nI_1, e3]
    rfl
  intro t
  induction t with
  | zero =>
    intro n i its hi hn
    obtain ⟨n, rfl⟩ : ∃ m, n = m + 2 := ⟨n - 2, by omega⟩
    have hip : i = p := by omega
    subst hip
    rw [step (n + 1) i its (by omega)]
    show (if nI i < nI (i + 1) then _ else _) = _
    rw [if_pos ((c_lt (by omega) (by omega)).mpr (by omega))]
  | succ t ih =>
    intro n i its hi hn
    obtain ⟨n, rfl⟩ : ∃ m, n = m + 1 := ⟨n - 1, by omega⟩
    rw [step n i its (by omega)]
    exact ih n (i + 1) _ (by omega) (by omega)
theorem m_digitAfter {ss : Nat → Int32} {B : Nat} {nu de : Nat → Nat} (R : Rok B nu de) (M : Mok ss B nu de) {a p : Nat} (h : a < 6) (hp : p ≤ 2000) : f_X11_digitAfter ss (nI a) (nI p) = some (nI (bdg B (rst nu de a) (de a) p)) := by
  obtain ⟨r1, r2, r3, r4⟩ := R.2.2 a h
  have e2 : ¬ nI (de a) = 0 := c_ne0 (by omega) r2
  have hm : nu a % de a < de a := Nat.mod_lt _ r2
  have e := m_after_loop R M h hp p xfuel 0 0 (by omega) (by unfold xfuel; omega)
  rw [Nat.pow_zero, Nat.mul_one, Nat.mod_eq_of_lt (show rst nu de a < de a from hm)] at e
  unfold f_X11_digitAfter
  rw [m_up h, Option.bind_some, m_down h, Option.bind_some, (M.2 a h).1, (M.2 a h).2, if_neg e2, pk_rem (by omega) r2 (by omega)]
  exact e
-- the order of two accounts
def odr (nu de : Nat → Nat) (a b : Nat) : Int32 := if nu a * de b < nu b * de a then -1 else if nu b * de a < nu a * de b then 1 else 0
theorem v_order {c : SC} {B : Nat} {nu de : Nat → Nat} (R : Rok B nu de) (C : Cok c B nu de) {a b : Nat} (ha : a < 6) (hb : b < 6) : f_X10_order c (nI a) (nI b) = some (odr nu de a b) := by
  obtain ⟨h1, h2, h3, h4⟩ := R.2.2 a ha
  obtain ⟨k1, k2, k3, k4⟩ := R.2.2 b hb
  have b1 : nu a * de b ≤ 999999999 * 999 := Nat.mul_le_mul h1 k3
  have b2 : nu b * de a ≤ 999999999 * 999 := Nat.mul_le_mul k1 h3
  simp only [f_X10_order, q_num C ha, q_num C hb, q_den C ha, q_den C hb, Option.bind_some, nI_l (show nu a < 2 ^ 31 by omega), nI_l (show de a < 2 ^ 31 by omega), nI_l (show nu b < 2 ^ 31 by omega), nI_l (show de b < 2 ^ 31 by omega), lN_mul, pk_lEQ (show nu a * de b < 2 ^ 63 by omega) (show nu b * de a < 2 ^ 63 by omega), pk_lLT (show nu b * de a < 2 ^ 63 by omega) (show nu a * de b < 2 ^ 63 by omega)]
  unfold odr
  by_cases e : nu a * de b = nu b * de a
  · rw [if_pos e, if_neg (by omega), if_neg (by omega)]
  · rw [if_neg e]
    by_cases g : nu b * de a < nu a * de b
    · rw [if_pos g, if_neg (by omega), if_pos g]
    · rw [if_neg g, if_pos (by omega)]
theorem m_holds {ss : Nat → Int32} {B : Nat} {nu de : Nat → Nat} (R : Rok B nu de) (M : Mok ss B nu de) {a b : Nat} (ha : a < 6) (hb : b < 6) : f_X11_holds ss (nI a) (nI b) = some (odr nu de a b) := by
  obtain ⟨h1, h2, h3, h4⟩ := R.2.2 a ha
  obtain ⟨k1, k2, k3, k4⟩ := R.2.2 b hb
  have b1 : nu a * de b ≤ 999999999 * 999 := Nat.mul_le_mul h1 k3
  have b2 : nu b * de a ≤ 999999999 * 999 := Nat.mul_le_mul k1 h3
  simp only [f_X11_holds, m_up ha, m_up hb, m_down ha, m_down hb, Option.bind_some, (M.2 a ha).1, (M.2 a ha).2, (M.2 b hb).1, (M.2 b hb).2, nI_l (show nu a < 2 ^ 31 by omega), nI_l (show de a < 2 ^ 31 by omega), nI_l (show nu b < 2 ^ 31 by omega), nI_l (show de b < 2 ^ 31 by omega), lN_mul]
  unfold odr
  by_cases g : nu a * de b < nu b * de a
  · obtain ⟨g1, g2⟩ := sub_neg g (by omega)
    rw [if_pos g, if_pos (Int64.lt_iff_toInt_lt.mpr g1)]
  · rw [lN_sub (by omega), if_neg (fun q => by have := (pk_lLT (b := 0) (by omega) (by decide)).mp q; omega), if_neg g]
    by_cases g2 : nu b * de a < nu a * de b
    · rw [if_pos ((c_L0lt (by omega)).mpr (by omega)), if_pos g2]
    · rw [if_neg (fun q => by have := (c_L0lt (by omega)).mp q; omega), if_neg g2]
def rch (nu de : Nat → Nat) : Nat → Nat
  | 0 => 0
  | i + 1 => if odr nu de (i + 1) (rch nu de i) ≤ 0 then rch nu de i else i + 1
theorem rch_le {nu de : Nat → Nat} : ∀ i, rch nu de i ≤ i := by
  intro i; induction i with
  | zero => exact Nat.le_refl _
  | succ i ih => show (if odr nu de (i + 1) (rch nu de i) ≤ 0 then rch nu de i else i + 1) ≤ i + 1; split <;> omega
theorem v_rich_loop {c : SC} {B : Nat} {nu de : Nat → Nat} (R : Rok B nu de) (C : Cok c B nu de) : ∀ (t n i : Nat), i + t = 5 → t < n → f_X10_richest_b4 n c (nI (rch nu de i)) (nI (i + 1)) = some (nI (rch nu de 5)) := by
  intro t
  induction t with
  | zero =>
    intro n i h hn
    obtain ⟨n, rfl⟩ : ∃ m, n = m + 1 := ⟨n - 1, by omega⟩
    have hi : i = 5 := by omega
    subst hi
    show (if (6 : Int32) ≤ nI 6 then _ else _) = _
    rw [if_pos (by decide)]
  | succ t ih =>
    intro n i h hn
    obtain ⟨n, rfl⟩ : ∃ m, n = m + 1 := ⟨n - 1, by omega⟩
    have hr := rch_le (nu := nu) (de := de) i
    have e := ih n (i + 1) (by omega) (by omega)
    show (if (6 : Int32) ≤ nI (i + 1) then _ else ((f_X10_order c (nI (i + 1)) (nI (rch nu de i))).bind fun v13 => (if v13 ≤ 0 then f_X10_richest_b21 (f_X10_richest_b4 n) c (nI (rch nu de i)) (nI (i + 1)) else f_X10_richest_b21 (f_X10_richest_b4 n) c (nI (i + 1)) (nI (i + 1))))) = _
    rw [if_neg (fun q => by have := (nI_leI (a := 6) (by decide) (by omega)).mp q; omega), v_order R C (by omega) (by omega), Option.bind_some]
    unfold f_X10_richest_b21
    rw [nI_1]
    by_cases g : odr nu de (i + 1) (rch nu de i) ≤ 0
    · rw [if_pos g]
      rw [show rch nu de (i + 1) = rch nu de i from if_pos g] at e
      exact e
    · rw [if_neg g]
      rw [show rch nu de (i + 1) = i + 1 from if_neg g] at e
      exact e
theorem v_richest {c : SC} {B : Nat} {nu de : Nat → Nat} (R : Rok B nu de) (C : Cok c B nu de) : f_X10_richest c = some (nI (rch nu de 5)) := by
  unfold f_X10_richest
  exact v_rich_loop R C 5 xfuel 0 (by omega) (by decide)
theorem m_rich_loop {ss : Nat → Int32} {B : Nat} {nu de : Nat → Nat} (R : Rok B nu de) (M : Mok ss B nu de) : ∀ (t n i : Nat), i + t = 5 → t < n → f_X11_greatest_b4 n ss (nI (rch nu de i)) (nI (i + 1)) = some (nI (rch nu de 5)) := by
  intro t
  induction t with
  | zero =>
    intro n i h hn
    obtain ⟨n, rfl⟩ : ∃ m, n = m + 1 := ⟨n - 1, by omega⟩
    have hi : i = 5 := by omega
    subst hi
    show (if (6 : Int32) ≤ nI 6 then _ else _) = _
    rw [if_pos (by decide)]
  | succ t ih =>
    intro n i h hn
    obtain ⟨n, rfl⟩ : ∃ m, n = m + 1 := ⟨n - 1, by omega⟩
    have hr := rch_le (nu := nu) (de := de) i
    have e := ih n (i + 1) (by omega) (by omega)
    show (if (6 : Int32) ≤ nI (i + 1) then _ else ((f_X11_holds ss (nI (i + 1)) (nI (rch nu de i))).bind fun v13 => (if v13 ≤ 0 then f_X11_greatest_b24 (f_X11_greatest_b4 n) ss (nI (i + 1)) (nI (rch nu de i)) else f_X11_greatest_b24 (f_X11_greatest_b4 n) ss (nI (i + 1)) (nI (i + 1))))) = _
    rw [if_neg (fun q => by have := (nI_leI (a := 6) (by decide) (by omega)).mp q; omega), m_holds R M (by omega) (by omega), Option.bind_some]
    unfold f_X11_greatest_b24
    rw [nI_1]
    by_cases g : odr nu de (i + 1) (rch nu de i) ≤ 0
    · rw [if_pos g]
      rw [show rch nu de (i + 1) = rch nu de i from if_pos g] at e
      exact e
    · rw [if_neg g]
      rw [show rch nu de (i + 1) = i + 1 from if_neg g] at e
      exact e
theorem m_greatest {ss : Nat → Int32} {B : Nat} {nu de : Nat → Nat} (R : Rok B nu de) (M : Mok ss B nu de) : f_X11_greatest ss = some (nI (rch nu de 5)) := by
  unfold f_X11_greatest
  exact m_rich_loop R M 5 xfuel 0 (by omega) (by decide)
