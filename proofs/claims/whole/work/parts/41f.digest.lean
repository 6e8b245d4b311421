/-! The digest, on both sides. -/
def h2 (v : Nat → Int64) (x : Int64) : Nat → Int64
  | 0 => x
  | j + 1 => 31 * (31 * h2 v x j + v j) + v j
def h1 (v : Nat → Int64) (x : Int64) : Nat → Int64
  | 0 => x
  | j + 1 => 31 * h1 v x j + v j
def aW (B : Nat) (nu de : Nat → Nat) (a : Nat) (x : Int64) : Int64 := 31 * (31 * (31 * h2 (fun j => (nI (dgt B (whl nu de a) j)).toInt64) (31 * (31 * (31 * (31 * x + (nI (nu a)).toInt64) + (nI (de a)).toInt64) + (nI (whl nu de a)).toInt64) + (nI (dcn B (whl nu de a))).toInt64) (dcn B (whl nu de a)) + (nI (dsm B (whl nu de a))).toInt64) + (nI (whl nu de a % (B - 1))).toInt64) + (nI (whl nu de a % (B - 1))).toInt64
def aB (B : Nat) (nu de : Nat → Nat) (a : Nat) (r x : Int64) : Int64 := 31 * (31 * (31 * (31 * h1 (fun j => (nI (bdg B (rst nu de a) (de a) j)).toInt64) (31 * (31 * (31 * x + (nI (hlen B 10 (de a))).toInt64) + (nI (prd B (de a))).toInt64) + (nI (prd B (de a))).toInt64) 10 + (nI (bst (de a) 14).1).toInt64) + r) + (nI (wln B (whl nu de a) (de a))).toInt64) + (wch B (whl nu de a) (rst nu de a) (de a) (wln B (whl nu de a) (de a) - 1)).toInt64
theorem c_mw_loop {c : SC} {B : Nat} {nu de : Nat → Nat} (R : Rok B nu de) (C : Cok c B nu de) {a : Nat} (h : a < 6) (x : Int64) : ∀ (t n j : Nat), j + t = dcn B (whl nu de a) → t < n → f_X10_mixWhole_b58 n c (nI a) (nI (dcn B (whl nu de a))) (h2 (fun j => (nI (dgt B (whl nu de a) j)).toInt64) x j) (nI j) = some (31 * (31 * (31 * h2 (fun j => (nI (dgt B (whl nu de a) j)).toInt64) x (dcn B (whl nu de a)) + (nI (dsm B (whl nu de a))).toInt64) + (nI (whl nu de a % (B - 1))).toInt64) + (nI (whl nu de a % (B - 1))).toInt64) := by
  have hN := dcn_le B (whl nu de a)
  intro t
  induction t with
  | zero =>
    intro n j hj hn
    obtain ⟨n, rfl⟩ : ∃ q, n = q + 1 := ⟨n - 1, by omega⟩
    have hi : j = dcn B (whl nu de a) := by omega
    subst hi
    unfold f_X10_mixWhole_b58
    rw [if_pos ((nI_leI (by omega) (by omega)).mpr (Nat.le_refl _)), v_digitSum R C h, Option.bind_some, Sum.elim_inr]
    unfold f_X10_mix
    rw [Option.bind_some, v_leftByDigits R C h, Option.bind_some, Sum.elim_inr, Option.bind_some, v_leftByDividing R C h, Option.bind_some, Sum.elim_inr, Option.bind_some]
  | succ t ih =>
    intro n j hj hn
    obtain ⟨n, rfl⟩ : ∃ q, n = q + 1 := ⟨n - 1, by omega⟩
    have e := ih n (j + 1) (by omega) (by omega)
    unfold f_X10_mixWhole_b58
    rw [if_neg (fun q => by have := (nI_leI (by omega) (by omega)).mp q; omega), v_wholeDigit R C h (by omega), Option.bind_some, Sum.elim_inr]
    unfold f_X10_mix
    rw [Option.bind_some, v_wholeDigitByPowers R C h (by omega), Option.bind_some, Sum.elim_inr, Option.bind_some, nI_1]
    exact e
theorem c_mixWhole {c : SC} {B : Nat} {nu de : Nat → Nat} (R : Rok B nu de) (C : Cok c B nu de) {a : Nat} (h : a < 6) (x : Int64) : f_X10_mixWhole c x (nI a) = some (aW B nu de a x) := by
  have hN := dcn_le B (whl nu de a)
  have e1 : f_X10_numerator c (nI a) = some (Sum.inr (nI (nu a))) := by
    simp only [f_X10_numerator, q_req h, q_num C h, Option.bind_some, Sum.elim_inr]
  have e2 : f_X10_denominator c (nI a) = some (Sum.inr (nI (de a))) := by
    simp only [f_X10_denominator, q_req h, q_den C h, Option.bind_some, Sum.elim_inr]
  have e3 : f_X10_whole c (nI a) = some (Sum.inr (nI (whl nu de a))) := by
    simp only [f_X10_whole, q_req h, q_wh R C h, Option.bind_some, Sum.elim_inr]
  unfold f_X10_mixWhole
  rw [v_wholeDigits R C h, Option.bind_some, Sum.elim_inr, e1, Option.bind_some, Sum.elim_inr]
  unfold f_X10_mix
  rw [Option.bind_some, e2, Option.bind_some, Sum.elim_inr, Option.bind_some, e3, Option.bind_some, Sum.elim_inr, Option.bind_some, Option.bind_some]
  exact c_mw_loop R C h _ (dcn B (whl nu de a)) xfuel 0 (by omega) (by unfold xfuel; omega)
theorem c_mb_loop {c : SC} {B : Nat} {nu de : Nat → Nat} (R : Rok B nu de) (C : Cok c B nu de) {a : Nat} (h : a < 6) {r : Int64} (hr : f_X10_readIn c (nI a) (nI 16) = some (Sum.inr r)) (x : Int64) : ∀ (t n j : Nat), j + t = 10 → t < n → f_X10_mixBehind_b41 n c (nI a) (h1 (fun j => (nI (bdg B (rst nu de a) (de a) j)).toInt64) x j) (nI j) = some (31 * (31 * (31 * (31 * h1 (fun j => (nI (bdg B (rst nu de a) (de a) j)).toInt64) x 10 + (nI (bst (de a) 14).1).toInt64) + r) + (nI (wln B (whl nu de a) (de a))).toInt64) + (wch B (whl nu de a) (rst nu de a) (de a) (wln B (whl nu de a) (de a) - 1)).toInt64) := by
  obtain ⟨r1, r2, r3, r4⟩ := R.2.2 a h
  obtain ⟨w1, w2⟩ := wln_le (w := whl nu de a) R.1 R.2.1 r2 r3
  have w3 := dcn_pos B (whl nu de a)
  intro t
  induction t with
  | zero =>
    intro n j hj hn
    obtain ⟨n, rfl⟩ : ∃ q, n = q + 1 := ⟨n - 1, by omega⟩
    have hi : j = 10 := by omega
    subst hi
    have hr' : f_X10_readIn c (nI a) 16 = some (Sum.inr r) := hr
    unfold f_X10_mixBehind_b41
    rw [if_pos (show (10 : Int32) ≤ nI 10 by decide), v_shortestBase R C h, Option.bind_some, Sum.elim_inr]
    unfold f_X10_mix
    rw [Option.bind_some, hr', Option.bind_some, Sum.elim_inr, Option.bind_some, v_writtenLength R C h, Option.bind_some, Sum.elim_inr, Option.bind_some, show nI (wln B (whl nu de a) (de a)) - 1 = nI (wln B (whl nu de a) (de a) - 1) from pk_sub (b := 1) (by omega), v_writtenAt R C h (by omega), Option.bind_some, Sum.elim_inr, Option.bind_some]
  | succ t ih =>
    intro n j hj hn
    obtain ⟨n, rfl⟩ : ∃ q, n = q + 1 := ⟨n - 1, by omega⟩
    have e := ih n (j + 1) (by omega) (by omega)
    unfold f_X10_mixBehind_b41
    rw [if_neg (show ¬ (10 : Int32) ≤ nI j from fun q => by have := (nI_leI (a := 10) (by decide) (by omega)).mp q; omega), v_digitBehind R C h (by omega), Option.bind_some, Sum.elim_inr]
    unfold f_X10_mix
    rw [Option.bind_some, nI_1]
    exact e
theorem c_mixBehind {c : SC} {B : Nat} {nu de : Nat → Nat} (R : Rok B nu de) (C : Cok c B nu de) {a : Nat} (h : a < 6) {r : Int64} (hr : f_X10_readIn c (nI a) (nI 16) = some (Sum.inr r)) (x : Int64) : f_X10_mixBehind c x (nI a) = some (aB B nu de a r x) := by
  unfold f_X10_mixBehind
  rw [v_headLength R C h, Option.bind_some, Sum.elim_inr]
  unfold f_X10_mix
  rw [Option.bind_some, v_periodLength R C h, Option.bind_some, Sum.elim_inr, Option.bind_some, v_periodByOrder R C h, Option.bind_some, Sum.elim_inr, Option.bind_some]
  exact c_mb_loop R C h hr _ 10 xfuel 0 (by omega) (by unfold xfuel; omega)
theorem m_da_end {ss : Nat → Int32} {B : Nat} {nu de : Nat → Nat} (R : Rok B nu de) (M : Mok ss B nu de) {a : Nat} (h : a < 6) {r : Int64} (hr : ∀ d0 dm, ∃ D m, f_X11_reads16 ss d0 dm (nI a) (nI 16) = some (r, D, m)) (x : Int64) (d0 : Nat → Int32) (dm : Int32) : ∀ (t n j : Nat), j + t = 10 → t < n → ∃ D m, f_X11_digestAccount_b209 n ss d0 dm (nI a) (h1 (fun j => (nI (bdg B (rst nu de a) (de a) j)).toInt64) x j) (nI j) = some (31 * (31 * (31 * (31 * h1 (fun j => (nI (bdg B (rst nu de a) (de a) j)).toInt64) x 10 + (nI (bst (de a) 14).1).toInt64) + r) + (nI (wln B (whl nu de a) (de a))).toInt64) + (wch B (whl nu de a) (rst nu de a) (de a) (wln B (whl nu de a) (de a) - 1)).toInt64, D, m) := by
  obtain ⟨r1, r2, r3, r4⟩ := R.2.2 a h
  obtain ⟨w1, w2⟩ := wln_le (w := whl nu de a) R.1 R.2.1 r2 r3
  have w3 := dcn_pos B (whl nu de a)
  intro t
  induction t with
  | zero =>
    intro n j hj hn
    obtain ⟨n, rfl⟩ : ∃ q, n = q + 1 := ⟨n - 1, by omega⟩
    have hi : j = 10 := by omega
    subst hi
    obtain ⟨D, m, hr'⟩ := hr d0 dm
    have hr' : f_X11_reads16 ss d0 dm (nI a) 16 = some (r, D, m) := hr'
    unfold f_X11_digestAccount_b209
    rw [if_pos (show (10 : Int32) ≤ nI 10 by decide), m_bestBase R M h, Option.bind_some, hr', Option.bind_some, m_writtenMany R M h, Option.bind_some, m_writtenMany R M h, Option.bind_some, show nI (wln B (whl nu de a) (de a)) - 1 = nI (wln B (whl nu de a) (de a) - 1) from pk_sub (b := 1) (by omega), m_writes R M h (by omega), Option.bind_some]
    exact ⟨_, _, rfl⟩
  | succ t ih =>
    intro n j hj hn
    obtain ⟨n, rfl⟩ : ∃ q, n = q + 1 := ⟨n - 1, by omega⟩
    have e := ih n (j + 1) (by omega) (by omega)
    unfold f_X11_digestAccount_b209
    rw [if_neg (show ¬ (10 : Int32) ≤ nI j from fun q => by have := (nI_leI (a := 10) (by decide) (by omega)).mp q; omega), m_digitAfter R M h (by omega), Option.bind_some, nI_1]
    exact e
theorem m_dw_loop {ss : Nat → Int32} {N B w : Nat} {a : Int32} (hN : N ≤ 30) (D : Nat → Int32) (hD : ∀ j, j < N → D j = nI (dgt B w j)) (x : Int64) : ∀ (t n j : Nat), j + t = N → t < n → f_X11_digestAccount_b58 n ss D (nI N) a (h2 (fun j => (nI (dgt B w j)).toInt64) x j) (nI j) = f_X11_digestAccount_b58 1 ss D (nI N) a (h2 (fun j => (nI (dgt B w j)).toInt64) x N) (nI N) := by
  intro t
  induction t with
  | zero =>
    intro n j hj hn
    obtain ⟨n, rfl⟩ : ∃ q, n = q + 1 := ⟨n - 1, by omega⟩
    have hi : j = N := by omega
    subst hi
    conv => lhs; unfold f_X11_digestAccount_b58
    conv => rhs; unfold f_X11_digestAccount_b58
    rw [if_pos ((nI_leI (by omega) (by omega)).mpr (Nat.le_refl _)), if_pos ((nI_leI (by omega) (by omega)).mpr (Nat.le_refl _))]
  | succ t ih =>
    intro n j hj hn
    obtain ⟨n, rfl⟩ : ∃ q, n = q + 1 := ⟨n - 1, by omega⟩
    have e := ih n (j + 1) (by omega) (by omega)
    conv => lhs; unfold f_X11_digestAccount_b58
    rw [if_neg (fun q => by have := (nI_leI (by omega) (by omega)).mp q; omega), if_neg (nI_in (by omega) (by omega)), if_neg (nI_in (by omega) (by omega)), nI_clamp (by omega), hD j (by omega), nI_1]
    exact e
theorem m_digestAccount {ss : Nat → Int32} {B : Nat} {nu de : Nat → Nat} (R : Rok B nu de) (M : Mok ss B nu de) {a : Nat} (h : a < 6) {r : Int64} (hr : ∀ d0 dm, ∃ D m, f_X11_reads16 ss d0 dm (nI a) (nI 16) = some (r, D, m)) (x : Int64) (d0 : Nat → Int32) (dm : Int32) : ∃ D m, f_X11_digestAccount ss d0 dm x (nI a) = some (aB B nu de a r (aW B nu de a x), D, m) := by
  obtain ⟨r1, r2, r3, r4⟩ := R.2.2 a h
  have hB := R.1
  have hB2 := R.2.1
  have hN := dcn_le B (whl nu de a)
  have hw := (R.wh h).1
  have hds := dsm_le (w := whl nu de a) hB hB2
  have e1 : nI B - 1 = nI (B - 1) := pk_sub (b := 1) (by omega)
  have e2 : ¬ nI (B - 1) = 0 := c_ne0 (by omega) (by omega)
  unfold f_X11_digestAccount
  rw [m_tells R M h, Option.bind_some, m_up h, Option.bind_some, m_down h, Option.bind_some, m_wholeOf R M h, Option.bind_some, (M.2 a h).1, (M.2 a h).2]
  have e3 := m_dw_loop (ss := ss) (B := B) (w := whl nu de a) (a := nI a) hN (dfn B (whl nu de a) d0 (dcn B (whl nu de a))) (fun j hj => dfn_at hj) (31 * (31 * (31 * (31 * x + (nI (nu a)).toInt64) + (nI (de a)).toInt64) + (nI (whl nu de a)).toInt64) + (nI (dcn B (whl nu de a))).toInt64) (dcn B (whl nu de a)) xfuel 0 (by omega) (by unfold xfuel; omega)
  have e4 : f_X11_digestAccount_b58 xfuel ss (dfn B (whl nu de a) d0 (dcn B (whl nu de a))) (nI (dcn B (whl nu de a))) (nI a) (31 * (31 * (31 * (31 * x + (nI (nu a)).toInt64) + (nI (de a)).toInt64) + (nI (whl nu de a)).toInt64) + (nI (dcn B (whl nu de a))).toInt64) 0 = _ := e3
  rw [e4]
  unfold f_X11_digestAccount_b58
  rw [if_pos ((nI_leI (by omega) (by omega)).mpr (Nat.le_refl _)), m_wholeOf R M h, Option.bind_some, z0, M.1, e1, if_neg e2, m_down h, Option.bind_some, (M.2 a h).2, (prd_ok hB hB2 r2 r3).1, Option.bind_some, m_sumOf R M h, Option.bind_some, Option.bind_some, m_headOf hB hB2 r2 r3, Option.bind_some, pk_rem (by omega) (by omega) (by omega)]
  exact m_da_end R M h hr _ _ _ 10 xfuel 0 (by omega) (by unfold xfuel; omega)
theorem acc_dig {c : SC} {ss : Nat → Int32} {B : Nat} {nu de : Nat → Nat} (R : Rok B nu de) (C : Cok c B nu de) (M : Mok ss B nu de) {a : Nat} (h : a < 6) : ∃ g : Int64 → Int64, (∀ x, ((f_X10_mixWhole c x (nI a)).bind fun v => f_X10_mixBehind c v (nI a)) = some (g x)) ∧ ∀ x d0 dm, ∃ D m, f_X11_digestAccount ss d0 dm x (nI a) = some (g x, D, m) := by
  obtain ⟨r, k1, -⟩ := v_readIn R C M h (x := 16) (by omega) (by omega) (fun _ => 0) 0
  refine ⟨fun x => aB B nu de a r (aW B nu de a x), fun x => ?_, fun x d0 dm => m_digestAccount R M h (fun d1 dm1 => ?_) x d0 dm⟩
  · rw [c_mixWhole R C h x, Option.bind_some, c_mixBehind R C h k1]
  · obtain ⟨r', k1', k2'⟩ := v_readIn R C M h (x := 16) (by omega) (by omega) d1 dm1
    rw [k1] at k1'
    have := Sum.inr.inj (Option.some.inj k1')
    subst this
    exact ⟨_, _, k2'⟩
-- pairs
theorem c_mp_loop {c : SC} {res : RC} {col : CC} {a b : Int32} {L B w : Nat} (hL : L ≤ 31) (h1' : col.1 = nI L) (hf : ∀ j, j < L → col.2.2.2 j = nI (dgt B w j)) (x : Int64) : ∀ (t n j : Nat), j + t = L → t < n → f_X10_mixPair_b39 n c res col a b (h1 (fun j => (nI (dgt B w j)).toInt64) x j) (nI j) = f_X10_mixPair_b39 1 c res col a b (h1 (fun j => (nI (dgt B w j)).toInt64) x L) (nI L) := by
  intro t
  induction t with
  | zero =>
    intro n j hj hn
    obtain ⟨n, rfl⟩ : ∃ q, n = q + 1 := ⟨n - 1, by omega⟩
    have hi : j = L := by omega
    subst hi
    conv => lhs; unfold f_X10_mixPair_b39
    conv => rhs; unfold f_X10_mixPair_b39
    rw [h1', if_pos ((nI_leI (by omega) (by omega)).mpr (Nat.le_refl _)), if_pos ((nI_leI (by omega) (by omega)).mpr (Nat.le_refl _))]
  | succ t ih =>
    intro n j hj hn
    obtain ⟨n, rfl⟩ : ∃ q, n = q + 1 := ⟨n - 1, by omega⟩
    have e := ih n (j + 1) (by omega) (by omega)
    conv => lhs; unfold f_X10_mixPair_b39
    rw [h1', if_neg (fun q => by have := (nI_leI (by omega) (by omega)).mp q; omega), q_digitAt (by omega), Option.bind_some, hf j (by omega)]
    unfold f_X10_mix
    rw [Option.bind_some, nI_1]
    exact e
theorem m_dp_loop {ss : Nat → Int32} {t0 u0 : Int64} {d0 ot f : Nat → Int32} {dm om car chm a b : Int32} {L B w : Nat} (hL : L ≤ 31) (hf : ∀ j, j < L → f j = nI (dgt B w j)) (x : Int64) : ∀ (t n j : Nat), j + t = L → t < n → f_X11_digestPair_b33 n ss t0 u0 d0 dm ot om f (nI L) car chm a b (h1 (fun j => (nI (dgt B w j)).toInt64) x j) (nI j) = f_X11_digestPair_b33 1 ss t0 u0 d0 dm ot om f (nI L) car chm a b (h1 (fun j => (nI (dgt B w j)).toInt64) x L) (nI L) := by
  intro t
  induction t with
  | zero =>
    intro n j hj hn
    obtain ⟨n, rfl⟩ : ∃ q, n = q + 1 := ⟨n - 1, by omega⟩
    have hi : j = L := by omega
    subst hi
    conv => lhs; unfold f_X11_digestPair_b33
    conv => rhs; unfold f_X11_digestPair_b33
    rw [if_pos ((nI_leI (by omega) (by omega)).mpr (Nat.le_refl _)), if_pos ((nI_leI (by omega) (by omega)).mpr (Nat.le_refl _))]
  | succ t ih =>
    intro n j hj hn
    obtain ⟨n, rfl⟩ : ∃ q, n = q + 1 := ⟨n - 1, by omega⟩
    have e := ih n (j + 1) (by omega) (by omega)
    conv => lhs; unfold f_X11_digestPair_b33
    rw [if_neg (fun q => by have := (nI_leI (by omega) (by omega)).mp q; omega), if_neg (nI_in (by omega) (by omega)), nI_clamp (by omega), hf j (by omega), nI_1]
    exact e
theorem pair_dig {c : SC} {ss : Nat → Int32} {B : Nat} {nu de : Nat → Nat} (R : Rok B nu de) (C : Cok c B nu de) (M : Mok ss B nu de) {a b : Nat} (ha : a < 6) (hb : b < 6) (res : RC) (col : CC) (t u : Int64) (d0 : Nat → Int32) (dm : Int32) (ot : Nat → Int32) (om : Int32) (column : Nat → Int32) (cm car chm : Int32) (x : Int64) : ∃ y res' col' w, f_X10_mixPair c res col x (nI a) (nI b) = some (y, res', col') ∧ f_X11_digestPair ss t u d0 dm ot om column cm car chm x (nI a) (nI b) = some (y, w) := by
  obtain ⟨f, f1, f2⟩ := v_formColumns R C ha hb col
  obtain ⟨D, O, g, g1, g2⟩ := m_columns R M ha hb d0 dm ot om column cm car chm
  have hu := (R.wh ha).1
  have hv := (R.wh hb).1
  have hL := clen_le B (whl nu de a) (whl nu de b)
  have htot := v_total R C ha hb (c1 := nI (cct B (whl nu de a) (whl nu de b) (cln B (whl nu de a) (whl nu de b)))) (c2 := nI (cmx B (whl nu de a) (whl nu de b) (cln B (whl nu de a) (whl nu de b)))) f2
  obtain ⟨r, k1⟩ := v_whyNoSum R C ha hb res
  have k2 := m_makesSum t u R M ha hb
  obtain ⟨k, r', w', k3, k4⟩ := v_periodOfSum R C M ha hb r (lN (rdn (nu a * de b + nu b * de a) (de a * de b))) (lN (rdd (nu a * de b + nu b * de a) (de a * de b)))
  unfold f_X10_mixPair f_X11_digestPair
  rw [f1, g1, Option.bind_some, Option.bind_some]
  unfold f_X10_mix
  rw [Option.bind_some, Option.bind_some]
  dsimp only
  have e1 := c_mp_loop (c := c) (res := res) (col := (nI (clen B (whl nu de a) (whl nu de b)), nI (cct B (whl nu de a) (whl nu de b) (cln B (whl nu de a) (whl nu de b))), nI (cmx B (whl nu de a) (whl nu de b) (cln B (whl nu de a) (whl nu de b))), f)) (a := nI a) (b := nI b) (B := B) (w := whl nu de a + whl nu de b) hL rfl f2 (31 * (31 * x + (nI (cct B (whl nu de a) (whl nu de b) (cln B (whl nu de a) (whl nu de b)))).toInt64) + (nI (cmx B (whl nu de a) (whl nu de b) (cln B (whl nu de a) (whl nu de b)))).toInt64) (clen B (whl nu de a) (whl nu de b)) xfuel 0 (by omega) (by unfold xfuel; omega)
  have e2 := m_dp_loop (ss := ss) (t0 := t) (u0 := u) (d0 := D) (dm := nI (dcn B (whl nu de a))) (ot := O) (om := nI (dcn B (whl nu de b))) (f := g) (car := nI (cct B (whl nu de a) (whl nu de b) (cln B (whl nu de a) (whl nu de b)))) (chm := nI (cmx B (whl nu de a) (whl nu de b) (cln B (whl nu de a) (whl nu de b)))) (a := nI a) (b := nI b) (B := B) (w := whl nu de a + whl nu de b) hL g2 (31 * (31 * x + (nI (cct B (whl nu de a) (whl nu de b) (cln B (whl nu de a) (whl nu de b)))).toInt64) + (nI (cmx B (whl nu de a) (whl nu de b) (cln B (whl nu de a) (whl nu de b)))).toInt64) (clen B (whl nu de a) (whl nu de b)) xfuel 0 (by omega) (by unfold xfuel; omega)
  have e3 : ∃ y res' col', f_X10_mixPair_b39 1 c res (nI (clen B (whl nu de a) (whl nu de b)), nI (cct B (whl nu de a) (whl nu de b) (cln B (whl nu de a) (whl nu de b))), nI (cmx B (whl nu de a) (whl nu de b) (cln B (whl nu de a) (whl nu de b))), f) (nI a) (nI b) (h1 (fun j => (nI (dgt B (whl nu de a + whl nu de b) j)).toInt64) (31 * (31 * x + (nI (cct B (whl nu de a) (whl nu de b) (cln B (whl nu de a) (whl nu de b)))).toInt64) + (nI (cmx B (whl nu de a) (whl nu de b) (cln B (whl nu de a) (whl nu de b)))).toInt64) (clen B (whl nu de a) (whl nu de b))) (nI (clen B (whl nu de a) (whl nu de b))) = some (y, res', col') ∧ ∃ w, f_X11_digestPair_b33 1 ss t u D (nI (dcn B (whl nu de a))) O (nI (dcn B (whl nu de b))) g (nI (clen B (whl nu de a) (whl nu de b))) (nI (cct B (whl nu de a) (whl nu de b) (cln B (whl nu de a) (whl nu de b)))) (nI (cmx B (whl nu de a) (whl nu de b) (cln B (whl nu de a) (whl nu de b)))) (nI a) (nI b) (h1 (fun j => (nI (dgt B (whl nu de a + whl nu de b) j)).toInt64) (31 * (31 * x + (nI (cct B (whl nu de a) (whl nu de b) (cln B (whl nu de a) (whl nu de b)))).toInt64) + (nI (cmx B (whl nu de a) (whl nu de b) (cln B (whl nu de a) (whl nu de b)))).toInt64) (clen B (whl nu de a) (whl nu de b))) (nI (clen B (whl nu de a) (whl nu de b))) = some (y, w) := by
    generalize h1 (fun j => (nI (dgt B (whl nu de a + whl nu de b) j)).toInt64) (31 * (31 * x + (nI (cct B (whl nu de a) (whl nu de b) (cln B (whl nu de a) (whl nu de b)))).toInt64) + (nI (cmx B (whl nu de a) (whl nu de b) (cln B (whl nu de a) (whl nu de b)))).toInt64) (clen B (whl nu de a) (whl nu de b)) = X
    unfold f_X10_mixPair_b39 f_X11_digestPair_b33
    rw [if_pos ((nI_leI (by omega) (by omega)).mpr (Nat.le_refl _)), if_pos ((nI_leI (by omega) (by omega)).mpr (Nat.le_refl _)), htot, Option.bind_some]
    unfold f_X10_mix
    rw [Option.bind_some, k1, Option.bind_some, Sum.elim_inr, Option.bind_some, k3, Option.bind_some, Sum.elim_inr, Option.bind_some, v_order R C ha hb, Option.bind_some, Option.bind_some, m_wholeOf R M ha, Option.bind_some, m_wholeOf R M hb, Option.bind_some, k2, Option.bind_some, k4, Option.bind_some, m_holds R M ha hb, Option.bind_some, nI_l (show whl nu de a < 2 ^ 31 by omega), nI_l (show whl nu de b < 2 ^ 31 by omega), lN_add]
    exact ⟨_, _, _, rfl, _, rfl⟩
  obtain ⟨y, res', col', e4, w, e5⟩ := e3
  exact ⟨y, res', col', w, Eq.trans e1 e4, Eq.trans e2 e5⟩
