/-! The shortest base, reading in another base, written accounts. -/
theorem q_ord_lim {B r k lim : Nat} (hB : B < 2 ^ 11) (hr : 1 < r) (hr2 : r < 2 ^ 20) (hk : isOrd B r k) (hl : lim < k) (hk2 : k < 2 ^ 20) : ∃ v, f_X0_timesToOne (nI B) (lN r) (nI lim) = some (nI v) ∧ lim ≤ v ∧ v < 2 ^ 20 := by
  have loop : ∀ (t n i : Nat), 0 < i → i + t = (if lim = 0 then 1 else lim) → t < n → f_X0_timesToOne_b17 n (nI B) (lN r) (nI lim) (lN (B ^ i % r)) (nI i) = some (nI (if lim = 0 then 1 else lim)) := by
    intro t
    induction t with
    | zero =>
      intro n i hi hit hn
      obtain ⟨n, rfl⟩ : ∃ m, n = m + 1 := ⟨n - 1, by omega⟩
      have e : i = (if lim = 0 then 1 else lim) := by omega
      have hle : lim ≤ i := by rw [e]; split <;> omega
      show (if lN (B ^ i % r) = 1 then some (nI i) else (if nI lim ≤ nI i then some (nI i) else _)) = _
      rw [← e]
      have hi2 : i < 2 ^ 21 := by rw [e]; split <;> omega
      by_cases q : lN (B ^ i % r) = 1
      · rw [if_pos q]
      · rw [if_neg q, if_pos ((nI_leI (by omega) (by omega)).mpr hle)]
    | succ t ih =>
      intro n i hi hit hn
      obtain ⟨n, rfl⟩ : ∃ m, n = m + 1 := ⟨n - 1, by omega⟩
      have hm : B ^ i % r < r := Nat.mod_lt _ (by omega)
      have hlt : i < lim := by
        by_cases h0 : lim = 0
        · rw [if_pos h0] at hit; omega
        · rw [if_neg h0] at hit; omega
      have h2 : ¬ lN (B ^ i % r) = 1 := fun q => hk.2.2 i hi (by omega) ((c_lN1 (by omega)).mp q)
      have h3 : ¬ lN r = 0 := fun q => by have := (pk_lEQ (b := 0) (by omega) (by decide)).mp q; omega
      have h4 : ¬ nI lim ≤ nI i := fun q => by have := (nI_leI (by omega) (by omega)).mp q; omega
      have hp : B ^ i % r * B < 2 ^ 63 := by
        have : B ^ i % r * B ≤ 2 ^ 20 * 2 ^ 11 := Nat.mul_le_mul (by omega) (by omega)
        have e : (2 : Nat) ^ 20 * 2 ^ 11 < 2 ^ 63 := by decide
        omega
      show (if lN (B ^ i % r) = 1 then _ else (if nI lim ≤ nI i then _ else (if lN r = 0 then none else f_X0_timesToOne_b17 n (nI B) (lN r) (nI lim) ((lN (B ^ i % r) * (nI B).toInt64) - (lN (B ^ i % r) * (nI B).toInt64) / lN r * lN r) (nI i + 1)))) = _
      rw [if_neg h2, if_neg h4, if_neg h3, nI_l (by omega), lN_mul, pk_lRem hp (by omega) (by omega), nI_1]
      have e : B ^ i % r * B % r = B ^ (i + 1) % r := by rw [Nat.pow_succ, Nat.mul_mod, Nat.mod_mod, ← Nat.mul_mod]
      rw [e]
      exact ih n (i + 1) (by omega) (by omega) (by omega)
  refine ⟨if lim = 0 then 1 else lim, ?_, by split <;> omega, by split <;> omega⟩
  unfold f_X0_timesToOne
  have h1 : 1 < lN r := (pk_lLT (a := 1) (by decide) (by omega)).mpr hr
  have h3 : ¬ lN r = 0 := fun q => by have := (pk_lEQ (b := 0) (by omega) (by decide)).mp q; omega
  rw [if_pos h1, if_neg h3, nI_l (by omega), pk_lRem (by omega) (by omega) (by omega)]
  have h := loop ((if lim = 0 then 1 else lim) - 1) xfuel 1 (by omega) (by split <;> omega) (by unfold xfuel; split <;> omega)
  rw [Nat.pow_one] at h
  exact h
def bln (d B : Nat) : Nat := hlen B 10 d + prd B d
def bst (d : Nat) : Nat → Nat × Nat
  | 0 => (2, bln d 2)
  | i + 1 => if bln d (i + 3) < (bst d i).2 then (i + 3, bln d (i + 3)) else bst d i
theorem bln_le {d B : Nat} (hB : 1 < B) (hB2 : B < 17) (hd : 0 < d) (hd2 : d ≤ 999) : bln d B ≤ 1008 := by
  have := (prd_ok hB hB2 hd hd2).2.2
  have := hlen_le (B := B) 10 d
  unfold bln; omega
theorem bst_le {d : Nat} (hd : 0 < d) (hd2 : d ≤ 999) : ∀ i, i ≤ 14 → (bst d i).2 ≤ 1008 ∧ (bst d i).1 ≤ 16 := by
  intro i
  induction i with
  | zero => intro _; exact ⟨bln_le (by omega) (by omega) hd hd2, by show 2 ≤ 16; omega⟩
  | succ i ih =>
    intro hi
    have h := ih (by omega)
    have h2 := bln_le (d := d) (B := i + 3) (by omega) (by omega) hd hd2
    show (if bln d (i + 3) < (bst d i).2 then (i + 3, bln d (i + 3)) else bst d i).2 ≤ 1008 ∧ (if bln d (i + 3) < (bst d i).2 then (i + 3, bln d (i + 3)) else bst d i).1 ≤ 16
    split
    · exact ⟨h2, by show i + 3 ≤ 16; omega⟩
    · exact h
/-- one base more, on the class's side -/
theorem q_base_step {c : SC} {d b best least n : Nat} (hb : 1 < b) (hb2 : b < 17) (hd : 0 < d) (hd2 : d ≤ 999) (hl : least ≤ 1998) : f_X10_shortestBase_b23 (n + 1) c (nI d) (nI best) (nI least) (nI b) = (if bln d b < least then f_X10_shortestBase_b23 n c (nI d) (nI b) (nI (bln d b)) (nI (b + 1)) else f_X10_shortestBase_b23 n c (nI d) (nI best) (nI least) (nI (b + 1))) := by
  have hle := bln_le hb hb2 hd hd2
  have hh := hlen_le (B := b) 10 d
  obtain ⟨p1, p2, p3⟩ := prd_ok hb hb2 hd hd2
  obtain ⟨g1, g2, g3⟩ := hcop_ok (B := b) (by omega) 10 d hd (by omega)
  have e16 : ¬ 16 < nI b := fun q => by have := (c_lt (a := 16) (by decide) (by omega)).mp q; omega
  have hv : ∃ v, f_X0_timesToOne (nI b) (lN (hcop b 10 d)) (nI least) = some (nI v) ∧ v < 2 ^ 20 ∧ ((v = prd b d) ∨ (least ≤ v ∧ least < prd b d)) := by
    by_cases q : prd b d ≤ least
    · exact ⟨_, q_ordB hb hb2 hd hd2 q (by omega), by omega, Or.inl rfl⟩
    · rcases p2 with ⟨h1, h2⟩ | ⟨h1, h2⟩
      · omega
      · obtain ⟨v, e1, e2, e3⟩ := q_ord_lim (by omega) h1 (by omega) h2 (show least < prd b d by omega) (by omega)
        exact ⟨v, e1, e3, Or.inr ⟨e2, by omega⟩⟩
  obtain ⟨v, v1, v2, v3⟩ := hv
  show (if 16 < nI b then _ else ((f_X0_coprimePart (nI d).toInt64 (nI b)).bind fun v36 => ((f_X0_timesToOne (nI b) v36 (nI least)).bind fun v41 => ((f_X0_head (nI d).toInt64 (nI b)).bind fun v50 => (if nI least ≤ (v50 + v41) then f_X10_shortestBase_b72 (f_X10_shortestBase_b23 n) c (nI d) (nI best) (nI least) (nI b) else f_X10_shortestBase_b72 (f_X10_shortestBase_b23 n) c (nI d) (nI b) (v50 + v41) (nI b)))))) = _
  rw [if_neg e16, nI_l (by omega), q_copB hb hb2 hd hd2, Option.bind_some, v1, Option.bind_some, q_headB hb hb2 hd hd2, Option.bind_some, nI_add]
  unfold f_X10_shortestBase_b72
  rw [nI_1]
  unfold bln at *
  rcases v3 with rfl | ⟨v4, v5⟩
  · by_cases q : hlen b 10 d + prd b d < least
    · rw [if_pos q, if_neg (fun w => by have := (nI_leI (by omega) (by omega)).mp w; omega)]
    · rw [if_neg q, if_pos ((nI_leI (by omega) (by omega)).mpr (by omega))]
  · rw [if_pos (show nI least ≤ nI (hlen b 10 d + v) from (nI_leI (by omega) (by omega)).mpr (by omega)), if_neg (show ¬ hlen b 10 d + prd b d < least by omega)]
theorem q_base_loop {c : SC} {d : Nat} (hd : 0 < d) (hd2 : d ≤ 999) : ∀ (t n i : Nat), i + t = 14 → t < n → f_X10_shortestBase_b23 n c (nI d) (nI (bst d i).1) (nI (bst d i).2) (nI (i + 3)) = some (Sum.inr (nI (bst d 14).1)) := by
  intro t
  induction t with
  | zero =>
    intro n i h hn
    obtain ⟨n, rfl⟩ : ∃ m, n = m + 1 := ⟨n - 1, by omega⟩
    have hi : i = 14 := by omega
    subst hi
    show (if (16 : Int32) < nI 17 then _ else _) = _
    rw [if_pos (by decide)]
  | succ t ih =>
    intro n i h hn
    obtain ⟨n, rfl⟩ : ∃ m, n = m + 1 := ⟨n - 1, by omega⟩
    have hb := bst_le hd hd2 i (by omega)
    have e := ih n (i + 1) (by omega) (by omega)
    rw [q_base_step (by omega) (by omega) hd hd2 (by omega)]
    by_cases q : bln d (i + 3) < (bst d i).2
    · rw [if_pos q]
      rw [show bst d (i + 1) = (i + 3, bln d (i + 3)) from if_pos q] at e
      exact e
    · rw [if_neg q]
      rw [show bst d (i + 1) = bst d i from if_neg q] at e
      exact e
theorem v_shortestBase {c : SC} {B : Nat} {nu de : Nat → Nat} (R : Rok B nu de) (C : Cok c B nu de) {a : Nat} (h : a < 6) : f_X10_shortestBase c (nI a) = some (Sum.inr (nI (bst (de a) 14).1)) := by
  obtain ⟨r1, r2, r3, r4⟩ := R.2.2 a h
  have e := q_base_loop (c := c) r2 r3 14 3999999 0 (by omega) (by omega)
  have e0 := q_base_step (c := c) (d := de a) (b := 2) (best := 2) (least := 1998) (n := 3999999) (by omega) (by omega) r2 r3 (by omega)
  have hl := bln_le (d := de a) (B := 2) (by omega) (by omega) r2 r3
  rw [if_pos (by omega)] at e0
  simp only [f_X10_shortestBase, q_req h, Option.bind_some, Sum.elim_inr, q_den C h]
  exact e0.trans e
theorem m_base_loop {ss : Nat → Int32} {B : Nat} {nu de : Nat → Nat} (R : Rok B nu de) (M : Mok ss B nu de) {a : Nat} (h : a < 6) : ∀ (t n i : Nat), i + t = 14 → t < n → f_X11_bestBase_b25 n ss (nI a) (nI (bst (de a) i).1) (nI (bst (de a) i).2) (nI (i + 3)) = some (nI (bst (de a) 14).1) := by
  obtain ⟨r1, r2, r3, r4⟩ := R.2.2 a h
  intro t
  induction t with
  | zero =>
    intro n i h hn
    obtain ⟨n, rfl⟩ : ∃ m, n = m + 1 := ⟨n - 1, by omega⟩
    have hi : i = 14 := by omega
    subst hi
    show (if (17 : Int32) ≤ nI 17 then _ else _) = _
    rw [if_pos (by decide)]
  | succ t ih =>
    intro n i hi hn
    obtain ⟨n, rfl⟩ : ∃ m, n = m + 1 := ⟨n - 1, by omega⟩
    have hb := bst_le r2 r3 i (by omega)
    have e := ih n (i + 1) (by omega) (by omega)
    have hle := bln_le (d := de a) (B := i + 3) (by omega) (by omega) r2 r3
    have p1 := (prd_ok (B := i + 3) (by omega) (by omega) r2 r3).1
    show (if (17 : Int32) ≤ nI (i + 3) then _ else ((f_X11_down ss (nI a)).bind fun v34 => ((f_X11_headOf v34 (nI (i + 3))).bind fun v39 => ((f_X11_down ss (nI a)).bind fun v44 => ((f_X11_periodOf v44 (nI (i + 3))).bind fun v49 => (if nI (bst (de a) i).2 ≤ (v39 + v49) then f_X11_bestBase_b67 (f_X11_bestBase_b25 n) ss (nI a) (nI (bst (de a) i).2) (nI (i + 3)) (v39 + v49) (nI (bst (de a) i).1) else f_X11_bestBase_b67 (f_X11_bestBase_b25 n) ss (nI a) (nI (bst (de a) i).2) (nI (i + 3)) (v39 + v49) (nI (i + 3))))))) ) = _
    rw [if_neg (fun q => by have := (nI_leI (a := 17) (by decide) (by omega)).mp q; omega), m_down h, Option.bind_some, (M.2 a h).2, m_headOf (by omega) (by omega) r2 r3, Option.bind_some, Option.bind_some, p1, Option.bind_some, nI_add]
    show (if nI (bst (de a) i).2 ≤ nI (bln (de a) (i + 3)) then f_X11_bestBase_b67 (f_X11_bestBase_b25 n) ss (nI a) (nI (bst (de a) i).2) (nI (i + 3)) (nI (bln (de a) (i + 3))) (nI (bst (de a) i).1) else f_X11_bestBase_b67 (f_X11_bestBase_b25 n) ss (nI a) (nI (bst (de a) i).2) (nI (i + 3)) (nI (bln (de a) (i + 3))) (nI (i + 3))) = _
    unfold f_X11_bestBase_b67 f_X11_bestBase_b80
    rw [nI_1]
    by_cases q : bln (de a) (i + 3) < (bst (de a) i).2
    · have w : ¬ nI (bst (de a) i).2 ≤ nI (bln (de a) (i + 3)) := fun w => by have := (nI_leI (by omega) (by omega)).mp w; omega
      rw [if_neg w, if_neg w]
      rw [show bst (de a) (i + 1) = (i + 3, bln (de a) (i + 3)) from if_pos q] at e
      exact e
    · have w : nI (bst (de a) i).2 ≤ nI (bln (de a) (i + 3)) := (nI_leI (by omega) (by omega)).mpr (by omega)
      rw [if_pos w, if_pos w]
      rw [show bst (de a) (i + 1) = bst (de a) i from if_neg q] at e
      exact e
theorem m_bestBase {ss : Nat → Int32} {B : Nat} {nu de : Nat → Nat} (R : Rok B nu de) (M : Mok ss B nu de) {a : Nat} (h : a < 6) : f_X11_bestBase ss (nI a) = some (nI (bst (de a) 14).1) := by
  obtain ⟨r1, r2, r3, r4⟩ := R.2.2 a h
  have e := m_base_loop R M h 14 xfuel 0 (by omega) (by decide)
  have p1 := (prd_ok (B := 2) (by omega) (by omega) r2 r3).1
  have p2 := m_headOf (B := 2) (by omega) (by omega) r2 r3
  unfold f_X11_bestBase
  rw [m_down h, Option.bind_some, (M.2 a h).2, show (2 : Int32) = nI 2 from rfl, p2, Option.bind_some, Option.bind_some, p1, Option.bind_some, nI_add]
  exact e
-- reading in another base
theorem read_loop {c : SC} {ss D : Nat → Int32} {B w N x : Nat} (hc : c.1 = nI B) (hB : 1 < B) (hB2 : B < 17) (hw : w < 2 ^ 30) (hx : 1 < x) (hx2 : x < 17) (hN : N ≤ 30) (hD : ∀ j, j < N → D j = nI (dgt B w j)) : ∀ (k n m v : Nat), k ≤ N → v ≤ 999999999999999 → k < n → k + 1 < m → ∃ r, f_X10_readIn_b35 n c (nI x) (nI w) (lN v) (nI k + (-1)) = some (Sum.inr r) ∧ f_X11_reads16_b18 m ss D (nI N) (nI x) (lN v) 1 (nI k + (-1)) = some (r, D, nI N) := by
  intro k
  induction k with
  | zero =>
    intro n m v hk hv hn hm
    obtain ⟨n, rfl⟩ : ∃ q, n = q + 1 := ⟨n - 1, by omega⟩
    obtain ⟨m, rfl⟩ : ∃ q, m = q + 1 := ⟨m - 1, by omega⟩
    refine ⟨lN v, ?_, ?_⟩
    · show (if nI 0 + (-1) < 0 then _ else _) = _
      rw [if_pos (by decide)]
    · show (if nI 0 + (-1) < 0 then (if (1 : Int32) = 0 then _ else some (lN v, D, nI N)) else _) = _
      rw [if_pos (by decide), if_neg (by decide)]
  | succ k ih =>
    intro n m v hk hv hn hm
    obtain ⟨n, rfl⟩ : ∃ q, n = q + 1 := ⟨n - 1, by omega⟩
    obtain ⟨m, rfl⟩ : ∃ q, m = q + 2 := ⟨m - 2, by omega⟩
    have hd := dgt_lt (w := w) (k := k) hB
    have hq : f_X9_byDividing (nI w) (nI B) (nI k) = some (nI (dgt B w k)) := q_byDiv (w := w) (k := k) hB hB2 hw (by omega)
    have hvx : v * x ≤ 999999999999999 * 16 := Nat.mul_le_mul hv (by omega)
    have hneg : ¬ nI k < 0 := nI_pos (by omega)
    have hin : ¬ (nI k < 0 ∨ 40 ≤ (nI k).toNatClampNeg) := nI_in (by omega) (by omega)
    have hDk : D (nI k).toNatClampNeg = nI (dgt B w k) := by rw [nI_clamp (by omega)]; exact hD k (by omega)
    have stop : ∀ x3 : Int64, f_X11_reads16_b18 (m + 1) ss D (nI N) (nI x) x3 0 (nI k + (-1)) = some (-1, D, nI N) := by
      intro x3
      show (if nI k + (-1) < 0 then (if (0 : Int32) = 0 then some (-1, D, nI N) else _) else (if (0 : Int32) = 0 then (if (0 : Int32) = 0 then some (-1, D, nI N) else _) else _)) = _
      rw [if_pos rfl, if_pos rfl, ite_self]
    rw [pk_m1]
    have c1 : f_X10_readIn_b35 (n + 1) c (nI x) (nI w) (lN v) (nI k) = (if nI x ≤ nI (dgt B w k) then some (Sum.inr (-1)) else if 999999999999999 < lN (v * x + dgt B w k) then some (Sum.inr (-1)) else f_X10_readIn_b35 n c (nI x) (nI w) (lN (v * x + dgt B w k)) (nI k + (-1))) := by
      show (if nI k < 0 then _ else ((f_X9_byDividing (nI w) c.1 (nI k)).bind fun v50 => (if nI x ≤ v50 then some (Sum.inr (-1)) else (if 999999999999999 < ((lN v * (nI x).toInt64) + v50.toInt64) then some (Sum.inr (-1)) else f_X10_readIn_b35 n c (nI x) (nI w) ((lN v * (nI x).toInt64) + v50.toInt64) (nI k + (-1)))))) = _
      rw [if_neg hneg, hc, hq, Option.bind_some]
      show (if nI x ≤ nI (dgt B w k) then _ else (if 999999999999999 < ((lN v * (nI x).toInt64) + (nI (dgt B w k)).toInt64) then _ else _)) = _
      rw [nI_l (by omega), nI_l (by omega), lN_mul, lN_add]
    have c2 : f_X11_reads16_b18 (m + 2) ss D (nI N) (nI x) (lN v) 1 (nI k) = (if nI x ≤ nI (dgt B w k) then some (-1, D, nI N) else if 999999999999999 < lN (v * x + dgt B w k) then some (-1, D, nI N) else f_X11_reads16_b18 (m + 1) ss D (nI N) (nI x) (lN (v * x + dgt B w k)) 1 (nI k + (-1))) := by
      show (if nI k < 0 then _ else (if (1 : Int32) = 0 then _ else (if nI k < 0 ∨ 40 ≤ (nI k).toNatClampNeg then none else (if nI k < 0 ∨ 40 ≤ (nI k).toNatClampNeg then none else (if nI x ≤ (D (nI k).toNatClampNeg) then f_X11_reads16_b18 (m + 1) ss D (nI N) (nI x) ((lN v * (nI x).toInt64) + ((D (nI k).toNatClampNeg).toInt64)) 0 (nI k + (-1)) else (if 999999999999999 < ((lN v * (nI x).toInt64) + ((D (nI k).toNatClampNeg).toInt64)) then f_X11_reads16_b18 (m + 1) ss D (nI N) (nI x) ((lN v * (nI x).toInt64) + ((D (nI k).toNatClampNeg).toInt64)) 0 (nI k + (-1)) else f_X11_reads16_b18 (m + 1) ss D (nI N) (nI x) ((lN v * (nI x).toInt64) + ((D (nI k).toNatClampNeg).toInt64)) 1 (nI k + (-1)))))))) = _
      rw [if_neg hneg, if_neg (by decide), if_neg hin, if_neg hin, hDk, nI_l (by omega), nI_l (by omega), lN_mul, lN_add, stop]
    rw [c1, c2]
    by_cases q1 : nI x ≤ nI (dgt B w k)
    · rw [if_pos q1, if_pos q1]; exact ⟨_, rfl, rfl⟩
    · rw [if_neg q1, if_neg q1]
      by_cases q2 : 999999999999999 < lN (v * x + dgt B w k)
      · rw [if_pos q2, if_pos q2]; exact ⟨_, rfl, rfl⟩
      · rw [if_neg q2, if_neg q2]
        have q3 : v * x + dgt B w k ≤ 999999999999999 := by
          rcases Nat.lt_or_ge 999999999999999 (v * x + dgt B w k) with z | z
          · exact absurd ((pk_lLT (a := 999999999999999) (by omega) (by omega)).mpr z) q2
          · exact z
        exact ih n (m + 1) _ (by omega) q3 (by omega) (by omega)
theorem v_readIn {c : SC} {ss : Nat → Int32} {B : Nat} {nu de : Nat → Nat} (R : Rok B nu de) (C : Cok c B nu de) (M : Mok ss B nu de) {a x : Nat} (h : a < 6) (hx : 1 < x) (hx2 : x < 17) (d0 : Nat → Int32) (dm : Int32) : ∃ r, f_X10_readIn c (nI a) (nI x) = some (Sum.inr r) ∧ f_X11_reads16 ss d0 dm (nI a) (nI x) = some (r, dfn B (whl nu de a) d0 (dcn B (whl nu de a)), nI (dcn B (whl nu de a))) := by
  have hN := dcn_le B (whl nu de a)
  have hp := dcn_pos B (whl nu de a)
  have hw := (R.wh h).1
  have ht := m_tells R M h d0 dm
  have hq := q_wh R C h
  have hc := q_count R.1 R.2.1 hw
  have hC := C.1
  generalize whl nu de a = w at *
  generalize hNN : dcn B w = N at *
  have hD : ∀ j, j < N → dfn B w d0 N j = nI (dgt B w j) := fun j hj => dfn_at hj
  generalize dfn B w d0 N = D at *
  have l1 : N < xfuel := by unfold xfuel; omega
  have l2 : N + 1 < xfuel := by unfold xfuel; omega
  have e := read_loop (c := c) (ss := ss) (D := D) (N := N) hC R.1 R.2.1 hw hx hx2 hN hD N xfuel xfuel 0 (Nat.le_refl _) (by omega) l1 l2
  have es : nI N - 1 = nI N + (-1) := Int32.sub_eq_add_neg _ _
  have b1 : ¬ nI x < 2 := fun q => by have := (c_lt (b := 2) (by omega) (by decide)).mp q; omega
  have b2 : nI x ≤ 16 := (nI_leI (b := 16) (by omega) (by decide)).mpr (by omega)
  have z : (0 : Int64) = lN 0 := rfl
  obtain ⟨r, e1, e2⟩ := e
  refine ⟨r, ?_, ?_⟩
  · have hb : f_X10_requireBase (nI x) = some (Sum.inr ()) := by simp only [f_X10_requireBase, b1, b2, if_true, if_false]
    unfold f_X10_readIn
    rw [q_req h, Option.bind_some, Sum.elim_inr, hb, Option.bind_some, Sum.elim_inr, hq, Option.bind_some, hC, hc, Option.bind_some, es]
    exact e1
  · unfold f_X11_reads16
    rw [ht, Option.bind_some]
    show f_X11_reads16_b18 xfuel ss D (nI N) (nI x) (lN 0) 1 (nI N - 1) = _
    rw [es]
    exact e2
