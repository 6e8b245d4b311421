/-! The class alone: what each action of the law comes to, and that undo takes it back. -/
def Hw (hist : HC) : Prop := ∃ k nx : Nat, k ≤ 6 ∧ nx < 6 ∧ hist.1 = nI k ∧ hist.2.1 = nI nx
def Nk (c : SC) (B : Nat) (nu de : Nat → Nat) : Prop := Rok B nu de ∧ Cok c B nu de ∧ c.2.2.1 = 0
def Alk (c x : SC) : Prop := c.1 = x.1 ∧ c.2.1 = x.2.1 ∧ c.2.2.1 = x.2.2.1 ∧ ∀ j, j < 6 → c.2.2.2.1 j = x.2.2.2.1 j ∧ c.2.2.2.2 j = x.2.2.2.2 j
theorem Nk.alk {c x : SC} {B : Nat} {nu de : Nat → Nat} (h : Nk x B nu de) (e : Alk c x) : Nk c B nu de :=
  ⟨h.1, ⟨e.1.trans h.2.1.1, fun a ha => ⟨((e.2.2.2 a ha).1).trans (h.2.1.2 a ha).1, ((e.2.2.2 a ha).2).trans (h.2.1.2 a ha).2⟩⟩, e.2.2.1.trans h.2.2⟩
/-- a state of the model's kind that says the same -/
theorem Nk.mk' {c : SC} {B : Nat} {nu de : Nat → Nat} (h : Nk c B nu de) : ∃ ss, Mok ss B nu de ∧ Sok c ss := by
  refine ⟨fun j => if j = 0 then nI B else if j = 1 then -1 else if j = 2 then 0 else if j < 9 then nI (nu (j - 3)) else nI (de (j - 9)), ⟨rfl, fun a ha => ⟨?_, ?_⟩⟩, ?_, fun _ => rfl, fun q => absurd h.2.2 q⟩
  · show (if 3 + a = 0 then nI B else if 3 + a = 1 then -1 else if 3 + a = 2 then 0 else if 3 + a < 9 then nI (nu (3 + a - 3)) else nI (de (3 + a - 9))) = _
    rw [if_neg (by omega), if_neg (by omega), if_neg (by omega), if_pos (by omega), show 3 + a - 3 = a by omega]
  · show (if 9 + a = 0 then nI B else if 9 + a = 1 then -1 else if 9 + a = 2 then 0 else if 9 + a < 9 then nI (nu (9 + a - 3)) else nI (de (9 + a - 9))) = _
    rw [if_neg (by omega), if_neg (by omega), if_neg (by omega), if_neg (by omega), show 9 + a - 9 = a by omega]
  · exact h.2.2.symm
theorem hw_push {hist : HC} (H : Hw hist) (x : SC) : ∃ hist', f_X3_push hist x = some hist' ∧ Hw hist' ∧ (6 ≤ hist.1 → hist'.1 = 6) ∧ (¬ 6 ≤ hist.1 → hist'.1 = hist.1 + 1) ∧ ∀ now' : SC, ∃ c hist2, f_X10_undo now' hist' = some (Sum.inr (hist'.1 - 1, c, hist2)) ∧ Alk c x ∧ Hw hist2 := by
  obtain ⟨k, nx, hk, hnx, h1, h2⟩ := H
  obtain ⟨c, hc, e⟩ := q_push x hk hnx h1 h2
  have hm1 : (if k = 6 then 6 else k + 1) ≤ 6 ∧ 0 < (if k = 6 then 6 else k + 1) := by split <;> omega
  refine ⟨_, e, ⟨if k = 6 then 6 else k + 1, (nx + 1) % 6, hm1.1, by omega, rfl, rfl⟩, fun h => ?_, fun h => ?_, fun now' => ?_⟩
  · rw [h1] at h
    have := (nI_leI (a := 6) (b := k) (by omega) (by omega)).mp h
    show nI (if k = 6 then 6 else k + 1) = 6
    rw [if_pos (by omega)]
    rfl
  · rw [h1] at h ⊢
    have hk6 : ¬ k = 6 := fun q => h (by rw [q]; decide)
    show nI (if k = 6 then 6 else k + 1) = nI k + 1
    rw [if_neg hk6]
    exact (nI_add k 1).symm
  · generalize (if k = 6 then 6 else k + 1) = m at hm1 e ⊢
    obtain ⟨c2, hc2, e2⟩ := q_pop (hist := (nI m, nI ((nx + 1) % 6), rup hist.2.2 nx c)) (nx := (nx + 1) % 6) now' hm1.1 hm1.2 (by omega) rfl rfl
    have hi : ((nx + 1) % 6 + 5) % 6 = nx := by omega
    have e0 : ¬ nI m = 0 := c_ne0 (by omega) hm1.2
    have e3 : f_X10_undo now' (nI m, nI ((nx + 1) % 6), rup hist.2.2 nx c) = some (Sum.inr (nI (m - 1), c2, (nI (m - 1), nI (((nx + 1) % 6 + 5) % 6), rup hist.2.2 nx c))) := by
      simp only [f_X10_undo, e0, if_false, e2, Option.bind_some]
    have hr : (rup hist.2.2 nx c) (((nx + 1) % 6 + 5) % 6) = c := by rw [hi]; exact rup_at
    have hc3 : c2.1 = c.1 ∧ c2.2.1 = c.2.1 ∧ c2.2.2.1 = c.2.2.1 ∧ ∀ j, j < 6 → c2.2.2.2.1 j = c.2.2.2.1 j ∧ c2.2.2.2.2 j = c.2.2.2.2 j := by
      have hc4 := hc2
      simp only [hr] at hc4
      exact hc4
    refine ⟨c2, (nI (m - 1), nI (((nx + 1) % 6 + 5) % 6), rup hist.2.2 nx c), ?_, ⟨hc3.1.trans hc.1, hc3.2.1.trans hc.2.1, hc3.2.2.1.trans hc.2.2.1, fun j hj => ⟨(hc3.2.2.2 j hj).1.trans (hc.2.2.2 j hj).1, (hc3.2.2.2 j hj).2.trans (hc.2.2.2 j hj).2⟩⟩, ?_⟩
    · show f_X10_undo now' (nI m, nI ((nx + 1) % 6), rup hist.2.2 nx c) = some (Sum.inr (nI m - 1, c2, _))
      rw [show nI m - 1 = nI (m - 1) from pk_sub (b := 1) hm1.2]
      exact e3
    · exact ⟨m - 1, ((nx + 1) % 6 + 5) % 6, by omega, by omega, rfl, rfl⟩
theorem v_num {c : SC} {B : Nat} {nu de : Nat → Nat} (C : Cok c B nu de) {a : Nat} (h : a < 6) : f_X10_numerator c (nI a) = some (Sum.inr (nI (nu a))) := by
  unfold f_X10_numerator
  rw [q_req h, Option.bind_some, Sum.elim_inr, q_num C h, Option.bind_some]
theorem v_den {c : SC} {B : Nat} {nu de : Nat → Nat} (C : Cok c B nu de) {a : Nat} (h : a < 6) : f_X10_denominator c (nI a) = some (Sum.inr (nI (de a))) := by
  unfold f_X10_denominator
  rw [q_req h, Option.bind_some, Sum.elim_inr, q_den C h, Option.bind_some]
theorem v_wh {c : SC} {B : Nat} {nu de : Nat → Nat} (R : Rok B nu de) (C : Cok c B nu de) {a : Nat} (h : a < 6) : f_X10_whole c (nI a) = some (Sum.inr (nI (whl nu de a))) := by
  unfold f_X10_whole
  rw [q_req h, Option.bind_some, Sum.elim_inr, q_wh R C h, Option.bind_some]
/-- what the law's told comes to -/
def tlf (B : Nat) (nu de : Nat → Nat) : Nat → Int64
  | 0 => (31 * 3) + (nI B).toInt64
  | i + 1 => (31 * ((31 * tlf B nu de i) + (nI (nu i)).toInt64)) + (nI (de i)).toInt64
def tld (B : Nat) (nu de : Nat → Nat) : Int64 := (31 * tlf B nu de 6) + ((0 : Int32).toInt64)
theorem told_loop {c : SC} {B : Nat} {nu de : Nat → Nat} (K : Nk c B nu de) : ∀ (t n i : Nat), i + t = 6 → t < n → f_L_told_b18 n c (tlf B nu de i) (nI i) = some (tld B nu de) := by
  intro t
  induction t with
  | zero =>
    intro n i hi hn
    obtain ⟨n, rfl⟩ : ∃ q, n = q + 1 := ⟨n - 1, by omega⟩
    obtain rfl : i = 6 := by omega
    unfold f_L_told_b18 f_X10_hasStopped
    rw [if_pos (show (6 : Int32) ≤ nI 6 by decide), if_pos K.2.2, Option.bind_some, if_pos rfl]
    rfl
  | succ t ih =>
    intro n i hi hn
    obtain ⟨n, rfl⟩ : ∃ q, n = q + 1 := ⟨n - 1, by omega⟩
    have hl : ¬ (6 : Int32) ≤ nI i := fun q => by have := (nI_leI (a := 6) (by omega) (by omega)).mp q; omega
    unfold f_L_told_b18
    rw [if_neg hl, v_num K.2.1 (by omega), Option.bind_some, Sum.elim_inr, v_den K.2.1 (by omega), Option.bind_some, Sum.elim_inr, show nI i + 1 = nI (i + 1) from nI_add i 1]
    exact ih n (i + 1) (by omega) (by omega)
theorem told_ok {c : SC} {B : Nat} {nu de : Nat → Nat} (K : Nk c B nu de) : f_L_told c = some (tld B nu de) := by
  unfold f_L_told f_X10_base
  rw [Option.bind_some, K.2.1.1]
  show f_L_told_b18 xfuel c (tlf B nu de 0) (nI 0) = _
  exact told_loop K 6 xfuel 0 rfl (by decide)
theorem low_ok (x : Int32) {N : Nat} (h0 : 0 < N) (hN : N < 2 ^ 31) : ∃ r, r < N ∧ f_L_low x (nI N) = some (nI r) := by
  obtain ⟨j, hj, e⟩ := pk_andE x (m := 2147483647) 31 (by decide)
  refine ⟨j % N, Nat.mod_lt _ h0, ?_⟩
  unfold f_L_low
  rw [if_neg (nI_ne0 h0 hN), e, pk_rem hj h0 hN]
theorem sv_ok {now : SC} {hist : HC} {B : Nat} {nu de : Nat → Nat} {a n d : Nat} (K : Nk now B nu de) (H : Hw hist) (ha : a < 6) (hn : n ≤ 999999999) (hd0 : 0 < d) (hd : d ≤ 999) (hg : Nat.gcd n d = 1) : ∃ now' hist', f_X10_saveAndStore now hist (lN n, lN d) (nI a) = some (now', hist') ∧ Nk now' B (stv nu a n) (stv de a d) ∧ f_X3_push hist now = some hist' := by
  obtain ⟨hist', e, -⟩ := hw_push H now
  obtain ⟨ss, M, S⟩ := K.mk'
  obtain ⟨R', C', -, -⟩ := store_ok K.1 K.2.1 M S ha hn hd0 hd hg
  refine ⟨_, hist', ?_, ⟨R', C', K.2.2⟩, e⟩
  unfold f_X10_saveAndStore
  rw [e, Option.bind_some, q_store _ _ ha, Option.bind_some]
  show some ((now.1, now.2.1, now.2.2.1, upd now.2.2.2.1 a (lN n).toInt32, upd now.2.2.2.2 a (lN d).toInt32), hist') = _
  rw [lN_i, lN_i]
theorem base_req {b : Nat} (hb : 1 < b) (hb2 : b < 17) : f_X10_requireBase (nI b) = some (Sum.inr ()) := by
  have b1 : ¬ nI b < 2 := fun q => by have := (c_lt (b := 2) (by omega) (by decide)).mp q; omega
  have b2 : nI b ≤ 16 := (nI_leI (b := 16) (by omega) (by decide)).mpr (by omega)
  simp only [f_X10_requireBase, b1, b2, if_true, if_false]
section
variable {now : SC} {hist : HC} {B : Nat} {nu de : Nat → Nat}
theorem st_base {b : Nat} (K : Nk now B nu de) (H : Hw hist) (hb : 1 < b) (hb2 : b < 17) : ∃ v now' hist', f_X10_setBase now hist (nI b) = some (Sum.inr (v, now', hist')) ∧ Nk now' b nu de ∧ f_X3_push hist now = some hist' := by
  obtain ⟨hist', e, -⟩ := hw_push H now
  refine ⟨now.1, (nI b, now.2.1, now.2.2.1, now.2.2.2.1, now.2.2.2.2), hist', ?_, ⟨⟨hb, hb2, K.1.2.2⟩, ⟨rfl, K.2.1.2⟩, K.2.2⟩, e⟩
  simp only [f_X10_setBase, base_req hb hb2, Option.bind_some, Sum.elim_inr, e]
theorem st_frac {a n d : Nat} (K : Nk now B nu de) (H : Hw hist) (res : RC) (ha : a < 6) (hn : n ≤ 999999999) (hd0 : 0 < d) (hd : d ≤ 999) : ∃ v now' hist' r, f_X10_setFraction now hist res (nI a) (nI n) (nI d) = some (Sum.inr (v, now', hist', r)) ∧ Nk now' B (stv nu a (rdn n d)) (stv de a (rdd n d)) ∧ f_X3_push hist now = some hist' := by
  obtain ⟨g1, g2, g3, g4⟩ := red_ok (n := n) hd0
  obtain ⟨now', hist', e1, K', e2⟩ := sv_ok (n := rdn n d) (d := rdd n d) K H ha (by omega) g1 (by omega) g4
  have y1 : ¬ nI n < 0 := nI_pos (by omega)
  have y2 : nI n ≤ 999999999 := (nI_leI (b := 999999999) (by omega) (by decide)).mpr hn
  have z1 : ¬ nI d < 1 := fun q => by have := (c_lt (b := 1) (by omega) (by decide)).mp q; omega
  have z2 : nI d ≤ 999 := (nI_leI (b := 999) (by omega) (by decide)).mpr hd
  refine ⟨nI (stv de a (rdd n d) a), now', hist', (lN (rdn n d), lN (rdd n d)), ?_, K', e2⟩
  simp only [f_X10_setFraction, q_req ha, Option.bind_some, Sum.elim_inr, y1, y2, z1, z2, if_true, if_false, nI_l (show n < 2 ^ 31 by omega), nI_l (show d < 2 ^ 31 by omega), q_put res (show n < 2 ^ 63 by omega) hd0 (show d < 2 ^ 63 by omega), e1, q_den K'.2.1 ha]
theorem st_add {a b : Nat} (K : Nk now B nu de) (H : Hw hist) (res : RC) (ha : a < 6) (hb : b < 6) (h0 : cod (nu a * de b + nu b * de a) (de a * de b) = 0) : ∃ v now' hist' r, f_X10_add now hist res (nI a) (nI b) = some (Sum.inr (v, now', hist', r)) ∧ Nk now' B (stv nu a (rdn (nu a * de b + nu b * de a) (de a * de b))) (stv de a (rdd (nu a * de b + nu b * de a) (de a * de b))) ∧ f_X3_push hist now = some hist' := by
  obtain ⟨s1, s2, s3, s4⟩ := q_formSum res K.1 K.2.1 ha hb
  generalize nu a * de b + nu b * de a = n at *
  generalize de a * de b = d at *
  have hr := q_reason (n := n) (d := d) (by omega) s3 (by omega)
  rw [if_pos h0] at hr
  obtain ⟨g1, g2, g3, g4⟩ := red_ok (n := n) s3
  obtain ⟨k1, k2⟩ := cod_0 h0
  obtain ⟨now', hist', e1, K', e2⟩ := sv_ok (n := rdn n d) (d := rdd n d) K H ha k1 g1 k2 g4
  refine ⟨nI (stv nu a (rdn n d) a), now', hist', (lN (rdn n d), lN (rdd n d)), ?_, K', e2⟩
  simp only [f_X10_add, q_req2 ha hb, Option.bind_some, Sum.elim_inr, s1, f_X10_requirePossible, hr, if_true, e1, q_num K'.2.1 ha]
theorem cod_small {n d : Nat} (hn : n ≤ 999999999) (hd0 : 0 < d) (hd : d ≤ 999) : cod n d = 0 := by
  obtain ⟨g1, g2, g3, g4⟩ := red_ok (n := n) hd0
  unfold cod
  rw [if_neg (by omega), if_neg (by omega)]
theorem st_sub {a : Nat} (K : Nk now B nu de) (H : Hw hist) (res : RC) (ha : a < 6) : ∃ v now' hist' r, f_X10_subtract now hist res (nI a) (nI a) = some (Sum.inr (v, now', hist', r)) ∧ Nk now' B (stv nu a (rdn 0 (de a * de a))) (stv de a (rdd 0 (de a * de a))) ∧ f_X3_push hist now = some hist' := by
  obtain ⟨-, s2, s3, s4⟩ := q_formSum res K.1 K.2.1 ha ha
  have s1 := q_formDiff res K.1 K.2.1 ha ha
  rw [lN_sub (Nat.le_refl _), Nat.sub_self, q_put res (by omega) s3 (by omega)] at s1
  generalize de a * de a = d at *
  have h0 : cod 0 d = 0 := by
    unfold cod
    have e1 : rdn 0 d = 0 := by unfold rdn; rw [Nat.zero_div]
    have e2 : rdd 0 d = 1 := by unfold rdd; rw [Nat.gcd_zero_left]; exact Nat.div_self s3
    rw [e1, e2]
    decide
  have hr := q_reason (n := 0) (d := d) (by omega) s3 (by omega)
  rw [if_pos h0] at hr
  obtain ⟨g1, g2, g3, g4⟩ := red_ok (n := 0) s3
  obtain ⟨k1, k2⟩ := cod_0 h0
  obtain ⟨now', hist', e1, K', e2⟩ := sv_ok (n := rdn 0 d) (d := rdd 0 d) K H ha k1 g1 k2 g4
  refine ⟨nI (stv nu a (rdn 0 d) a), now', hist', (lN (rdn 0 d), lN (rdd 0 d)), ?_, K', e2⟩
  simp only [f_X10_subtract, q_req2 ha ha, Option.bind_some, Sum.elim_inr, s1, f_X10_requirePossible, hr, if_true, e1, q_num K'.2.1 ha]
theorem st_up {a : Nat} (K : Nk now B nu de) (H : Hw hist) (res : RC) (ha : a < 6) (hn : nu a ≤ 60000000) : ∃ v now' hist' r, f_X10_shift now hist res (nI a) 1 = some (Sum.inr (v, now', hist', r)) ∧ Nk now' B (stv nu a (rdn (nu a * B) (de a))) (stv de a (rdd (nu a * B) (de a))) ∧ f_X3_push hist now = some hist' := by
  obtain ⟨r1, r2, r3, r4⟩ := K.1.2.2 a ha
  have hB := K.1.2.1
  have hB1 := K.1.1
  have b1 : nu a * B ≤ 60000000 * 16 := Nat.mul_le_mul hn (by omega)
  have h0 := cod_small (n := nu a * B) (d := de a) (by omega) r2 r3
  have hr := q_reason (n := nu a * B) (d := de a) (by omega) r2 (by omega)
  rw [if_pos h0] at hr
  obtain ⟨g1, g2, g3, g4⟩ := red_ok (n := nu a * B) r2
  obtain ⟨now', hist', e1, K', e2⟩ := sv_ok (n := rdn (nu a * B) (de a)) (d := rdd (nu a * B) (de a)) K H ha (by omega) g1 (by omega) g4
  have y0 : (0 : Int32) ≤ 1 := by decide
  have y1 : ¬ (1 : Int32) < -3 := by decide
  have y2 : (1 : Int32) ≤ 3 := by decide
  have hp := q_power (B := B) (e := 1) (by omega)
  rw [Nat.pow_one] at hp
  have hp' : f_X5_power (lN B) 1 = some (lN B) := hp
  have hf : f_X10_formShift now res (nI a) 1 = some (lN (rdn (nu a * B) (de a)), lN (rdd (nu a * B) (de a))) := by
    simp only [f_X10_formShift, y0, if_true, K.2.1.1, nI_l (show B < 2 ^ 31 by omega), hp', Option.bind_some, q_num K.2.1 ha, q_den K.2.1 ha, nI_l (show nu a < 2 ^ 31 by omega), nI_l (show de a < 2 ^ 31 by omega), lN_mul, q_put res (show nu a * B < 2 ^ 63 by omega) r2 (show de a < 2 ^ 63 by omega)]
  refine ⟨nI (stv de a (rdd (nu a * B) (de a)) a), now', hist', (lN (rdn (nu a * B) (de a)), lN (rdd (nu a * B) (de a))), ?_, K', e2⟩
  simp only [f_X10_shift, q_req ha, y1, y2, if_true, if_false, Option.bind_some, Sum.elim_inr, hf, f_X10_requirePossible, hr, e1, q_den K'.2.1 ha]
theorem st_down {a : Nat} (K : Nk now B nu de) (H : Hw hist) (res : RC) (ha : a < 6) (hd : de a ≤ 60) : ∃ v now' hist' r, f_X10_shift now hist res (nI a) (-1) = some (Sum.inr (v, now', hist', r)) ∧ Nk now' B (stv nu a (rdn (nu a) (de a * B))) (stv de a (rdd (nu a) (de a * B))) ∧ f_X3_push hist now = some hist' := by
  obtain ⟨r1, r2, r3, r4⟩ := K.1.2.2 a ha
  have hB := K.1.2.1
  have hB1 := K.1.1
  have b1 : de a * B ≤ 60 * 16 := Nat.mul_le_mul hd (by omega)
  have b2 : 0 < de a * B := Nat.mul_pos r2 (by omega)
  have h0 := cod_small (n := nu a) (d := de a * B) (by omega) b2 (by omega)
  have hr := q_reason (n := nu a) (d := de a * B) (by omega) b2 (by omega)
  rw [if_pos h0] at hr
  obtain ⟨g1, g2, g3, g4⟩ := red_ok (n := nu a) b2
  obtain ⟨now', hist', e1, K', e2⟩ := sv_ok (n := rdn (nu a) (de a * B)) (d := rdd (nu a) (de a * B)) K H ha (by omega) g1 (by omega) g4
  have y0 : ¬ (0 : Int32) ≤ -1 := by decide
  have y1 : ¬ (-1 : Int32) < -3 := by decide
  have y2 : (-1 : Int32) ≤ 3 := by decide
  have y3 : (0 : Int32) - -1 = 1 := by decide
  have hp := q_power (B := B) (e := 1) (by omega)
  rw [Nat.pow_one] at hp
  have hp' : f_X5_power (lN B) 1 = some (lN B) := hp
  have hf : f_X10_formShift now res (nI a) (-1) = some (lN (rdn (nu a) (de a * B)), lN (rdd (nu a) (de a * B))) := by
    simp only [f_X10_formShift, y0, if_false, y3, K.2.1.1, nI_l (show B < 2 ^ 31 by omega), hp', Option.bind_some, q_num K.2.1 ha, q_den K.2.1 ha, nI_l (show nu a < 2 ^ 31 by omega), nI_l (show de a < 2 ^ 31 by omega), lN_mul, q_put res (show nu a < 2 ^ 63 by omega) b2 (show de a * B < 2 ^ 63 by omega)]
  refine ⟨nI (stv de a (rdd (nu a) (de a * B)) a), now', hist', (lN (rdn (nu a) (de a * B)), lN (rdd (nu a) (de a * B))), ?_, K', e2⟩
  simp only [f_X10_shift, q_req ha, y1, y2, if_true, if_false, Option.bind_some, Sum.elim_inr, hf, f_X10_requirePossible, hr, e1, q_den K'.2.1 ha]
theorem st_pay {a b k : Nat} (K : Nk now B nu de) (H : Hw hist) (res : RC) (ha : a < 6) (hb : b < 6) (hne : a ≠ b) (hk0 : 0 < k) (hk : k ≤ 50) (hw : k ≤ whl nu de a) (hnb : nu b ≤ 900000000) : ∃ v now' hist' r, f_X10_pay now hist res (nI a) (nI b) (nI k) = some (Sum.inr (v, now', hist', r)) ∧ Nk now' B (stv (stv nu b (rdn (nu b + k * de b) (de b))) a (rdn (nu a - k * de a) (de a))) (stv (stv de b (rdd (nu b + k * de b) (de b))) a (rdd (nu a - k * de a) (de a))) ∧ f_X3_push hist now = some hist' := by
  have R := K.1
  have C := K.2.1
  obtain ⟨r1, r2, r3, r4⟩ := R.2.2 a ha
  obtain ⟨rb1, rb2, rb3, rb4⟩ := R.2.2 b hb
  have hab : ¬ nI a = nI b := fun q => hne ((nI_eq (by omega) (by omega)).mp q)
  have z1 : ¬ nI k < 1 := fun q => by have := (c_lt (b := 1) (by omega) (by decide)).mp q; omega
  have z2 : nI k ≤ 999999 := (nI_leI (b := 999999) (by omega) (by decide)).mpr (by omega)
  have qd := fun r => q_coinsDown r R C ha (show k ≤ 999999 by omega)
  have hkd : k * de a ≤ nu a := by
    unfold whl at hw
    exact (Nat.le_div_iff_mul_le r2).mp hw
  have hqd : ∀ r, f_X10_formWithCoins now r (nI a) (-(nI k)).toInt64 = some (lN (rdn (nu a - k * de a) (de a)), lN (rdd (nu a - k * de a) (de a))) := by
    intro r
    rw [qd r, lN_sub hkd, q_put r (by omega) r2 (by omega)]
  obtain ⟨a1, a2, a3, a4⟩ := red_ok (n := nu a - k * de a) r2
  have hra := q_reason (n := nu a - k * de a) (d := de a) (by omega) r2 (by omega)
  rw [if_pos (cod_small (by omega) r2 r3)] at hra
  have hkb : k * de b ≤ 50 * 999 := Nat.mul_le_mul hk rb3
  obtain ⟨qu, qu2⟩ := q_coinsUp (k := k) (lN (rdn (nu a - k * de a) (de a)), lN (rdd (nu a - k * de a) (de a))) R C hb (show k ≤ 999999 by omega)
  have hrb := q_reason (n := nu b + k * de b) (d := de b) (by omega) rb2 (by omega)
  rw [if_pos (cod_small (by omega) rb2 rb3)] at hrb
  obtain ⟨g1, g2, g3, g4⟩ := red_ok (n := nu b + k * de b) rb2
  obtain ⟨now', hist', e1, K', e2⟩ := sv_ok (n := rdn (nu b + k * de b) (de b)) (d := rdd (nu b + k * de b) (de b)) K H hb (by omega) g1 (by omega) g4
  have qd' := q_coinsDown (k := k) (lN (rdn (nu b + k * de b) (de b)), lN (rdd (nu b + k * de b) (de b))) K'.1 K'.2.1 ha (show k ≤ 999999 by omega)
  rw [stv_ne hne, stv_ne hne, lN_sub hkd, q_put _ (by omega) r2 (by omega)] at qd'
  obtain ⟨ss, M, S⟩ := K'.mk'
  obtain ⟨R2, C2, -, -⟩ := store_ok (n := rdn (nu a - k * de a) (de a)) (d := rdd (nu a - k * de a) (de a)) K'.1 K'.2.1 M S ha (by omega) a1 (by omega) a4
  have hs : f_X7_store now' (lN (rdn (nu a - k * de a) (de a)), lN (rdd (nu a - k * de a) (de a))) (nI a) = some (now'.1, now'.2.1, now'.2.2.1, upd now'.2.2.2.1 a (nI (rdn (nu a - k * de a) (de a))), upd now'.2.2.2.2 a (nI (rdd (nu a - k * de a) (de a)))) := by
    rw [q_store _ _ ha, lN_i, lN_i]
  refine ⟨nI (stv (stv nu b (rdn (nu b + k * de b) (de b))) a (rdn (nu a - k * de a) (de a)) a), (now'.1, now'.2.1, now'.2.2.1, upd now'.2.2.2.1 a (nI (rdn (nu a - k * de a) (de a))), upd now'.2.2.2.2 a (nI (rdd (nu a - k * de a) (de a)))), hist', (lN (rdn (nu a - k * de a) (de a)), lN (rdd (nu a - k * de a) (de a))), ?_, ⟨R2, C2, K'.2.2⟩, e2⟩
  simp only [f_X10_pay, q_req2 ha hb, Option.bind_some, Sum.elim_inr, hab, z1, z2, if_true, if_false, hqd, f_X10_requirePossible, hra, qu, hrb, e1, qd', hs, q_num C2 ha]
end
/-- a step of the law: it does nothing, or saves the state and comes to the numbers B', nu', de', whatever the objects are -/
def Stq (B : Nat) (nu de : Nat → Nat) (f : SC → HC → RC → Option (Int32 × SC × HC × RC)) : Prop := ∃ (did : Int32) (B' : Nat) (nu' de' : Nat → Nat), ∀ (now : SC) (hist : HC) (res : RC), Nk now B nu de → Hw hist → ∃ now' hist' res', f now hist res = some (did, now', hist', res') ∧ ((did = 0 ∧ now' = now ∧ hist' = hist) ∨ (did = 1 ∧ Nk now' B' nu' de' ∧ f_X3_push hist now = some hist'))
section
variable {B : Nat} {nu de : Nat → Nat} {f : SC → HC → RC → Option (Int32 × SC × HC × RC)}
theorem stq0 (h : ∀ (now : SC) (hist : HC) (res : RC), Nk now B nu de → ∃ r, f now hist res = some (0, now, hist, r)) : Stq B nu de f :=
  ⟨0, B, nu, de, fun now hist res K _ => by
    obtain ⟨r, e⟩ := h now hist res K
    exact ⟨now, hist, r, e, Or.inl ⟨rfl, rfl, rfl⟩⟩⟩
theorem stq1 (B' : Nat) (nu' de' : Nat → Nat) (h : ∀ (now : SC) (hist : HC) (res : RC), Nk now B nu de → Hw hist → ∃ now' hist' r, f now hist res = some (1, now', hist', r) ∧ Nk now' B' nu' de' ∧ f_X3_push hist now = some hist') : Stq B nu de f :=
  ⟨1, B', nu', de', fun now hist res K H => by
    obtain ⟨now', hist', r, e, k1, k2⟩ := h now hist res K H
    exact ⟨now', hist', r, e, Or.inr ⟨rfl, k1, k2⟩⟩⟩
theorem stq_base (x : Int32) : Stq B nu de (fun now hist res => ((f_L_low x 15).bind fun v93 => ((f_X10_setBase now hist (2 + v93)).bind fun v97 => Sum.elim (fun t97 => none) (fun u97 => (some (1, u97.2.1, u97.2.2, res))) v97))) := by
  obtain ⟨r, hr, e⟩ := low_ok x (N := 15) (by decide) (by decide)
  have e' : f_L_low x 15 = some (nI r) := e
  refine stq1 (r + 2) nu de (fun now hist res K H => ?_)
  obtain ⟨v, now', hist', e1, k1, k2⟩ := st_base (b := r + 2) K H (by omega) (by omega)
  refine ⟨now', hist', res, ?_, k1, k2⟩
  rw [e', Option.bind_some, show (2 : Int32) + nI r = nI (r + 2) by rw [Nat.add_comm]; exact nI_add 2 r, e1, Option.bind_some, Sum.elim_inr]
theorem stq_frac (x y : Int32) {a N M : Nat} (ha : a < 6) (hN0 : 0 < N) (hN : N ≤ 1000000000) (hM0 : 0 < M) (hM : M ≤ 999) {n0 : Nat} (hn0 : n0 ≤ 999999999) : Stq B nu de (fun now hist res => f_L_act_b148 now hist res (nI M) y 1 (nI n0) (nI a)) := by
  obtain ⟨r, hr, e⟩ := low_ok y (N := M) hM0 (by omega)
  refine stq1 B (stv nu a (rdn n0 (r + 1))) (stv de a (rdd n0 (r + 1))) (fun now hist res K H => ?_)
  obtain ⟨v, now', hist', r', e1, k1, k2⟩ := st_frac (n := n0) (d := r + 1) K H res ha hn0 (by omega) (by omega)
  refine ⟨now', hist', r', ?_, k1, k2⟩
  unfold f_L_act_b148
  rw [e, Option.bind_some, show (1 : Int32) + nI r = nI (r + 1) by rw [Nat.add_comm]; exact nI_add 1 r, e1, Option.bind_some, Sum.elim_inr]
theorem stq_fracs (x : Int32) {a N : Nat} (ha : a < 6) (hN0 : 0 < N) (hN : N ≤ 1000000000) : Stq B nu de (fun now hist res => f_L_act_b123 now hist res x (nI N) x (nI a)) := by
  obtain ⟨r, hr, e⟩ := low_ok x (N := N) hN0 (by omega)
  unfold f_L_act_b123
  simp only [e, Option.bind_some]
  by_cases c : ((x >>> ((19 : Int32) &&& 31)) &&& 1) = 0
  · simp only [c, if_true]
    exact stq_frac x _ (N := 1) (M := 36) (n0 := r) ha (by omega) (by omega) (by omega) (by omega) (by omega)
  · simp only [c, if_false]
    exact stq_frac x _ (N := 1) (M := 999) (n0 := r) ha (by omega) (by omega) (by omega) (by omega) (by omega)
theorem stq_add (R : Rok B nu de) {a b : Nat} (ha : a < 6) (hb : b < 6) : Stq B nu de (fun now hist res => ((f_X10_whyNoSum now res (nI a) (nI b)).bind fun v162 => Sum.elim (fun t162 => none) (fun u162 => (if u162.1 ≤ 0 then ((f_X10_add now hist u162.2 (nI a) (nI b)).bind fun v174 => Sum.elim (fun t174 => none) (fun u174 => (some (1, u174.2.1, u174.2.2.1, u174.2.2.2))) v174) else (some (0, now, hist, u162.2)))) v162)) := by
  have hc := cod_le (nu a * de b + nu b * de a) (de a * de b)
  by_cases h0 : cod (nu a * de b + nu b * de a) (de a * de b) = 0
  · refine stq1 B (stv nu a (rdn (nu a * de b + nu b * de a) (de a * de b))) (stv de a (rdd (nu a * de b + nu b * de a) (de a * de b))) (fun now hist res K H => ?_)
    obtain ⟨r, e⟩ := v_whyNoSum K.1 K.2.1 ha hb res
    obtain ⟨v, now', hist', r', e1, k1, k2⟩ := st_add K H r ha hb h0
    refine ⟨now', hist', r', ?_, k1, k2⟩
    rw [e, Option.bind_some, Sum.elim_inr]
    show (if nI (cod (nu a * de b + nu b * de a) (de a * de b)) ≤ 0 then ((f_X10_add now hist r (nI a) (nI b)).bind fun v174 => Sum.elim (fun t174 => none) (fun u174 => (some (1, u174.2.1, u174.2.2.1, u174.2.2.2))) v174) else (some (0, now, hist, r))) = _
    rw [if_pos ((c_le0 (by omega)).mpr h0), e1, Option.bind_some, Sum.elim_inr]
  · refine stq0 (fun now hist res K => ?_)
    obtain ⟨r, e⟩ := v_whyNoSum K.1 K.2.1 ha hb res
    refine ⟨r, ?_⟩
    rw [e, Option.bind_some, Sum.elim_inr]
    show (if nI (cod (nu a * de b + nu b * de a) (de a * de b)) ≤ 0 then ((f_X10_add now hist r (nI a) (nI b)).bind fun v174 => Sum.elim (fun t174 => none) (fun u174 => (some (1, u174.2.1, u174.2.2.1, u174.2.2.2))) v174) else (some (0, now, hist, r))) = _
    rw [if_neg (fun q => h0 ((c_le0 (by omega)).mp q))]
theorem stq_sub {a : Nat} (ha : a < 6) : Stq B nu de (fun now hist res => ((f_X10_subtract now hist res (nI a) (nI a)).bind fun v183 => Sum.elim (fun t183 => none) (fun u183 => (some (1, u183.2.1, u183.2.2.1, u183.2.2.2))) v183)) := by
  refine stq1 B (stv nu a (rdn 0 (de a * de a))) (stv de a (rdd 0 (de a * de a))) (fun now hist res K H => ?_)
  obtain ⟨v, now', hist', r', e1, k1, k2⟩ := st_sub K H res ha
  refine ⟨now', hist', r', ?_, k1, k2⟩
  rw [e1, Option.bind_some, Sum.elim_inr]
theorem stq_shift (R : Rok B nu de) (x : Int32) {a : Nat} (ha : a < 6) : Stq B nu de (fun now hist res => ((f_X10_denominator now (nI a)).bind fun v191 => Sum.elim (fun t191 => none) (fun u191 => (if 60 < u191 then (some (0, now, hist, res)) else ((f_X10_numerator now (nI a)).bind fun v201 => Sum.elim (fun t201 => none) (fun u201 => (if u201 ≤ 60000000 then (if (x &&& 1) = 0 then f_L_act_b224 now hist res 1 (nI a) else f_L_act_b224 now hist res (-1) (nI a)) else (some (0, now, hist, res)))) v201))) v191)) := by
  obtain ⟨r1, r2, r3, r4⟩ := R.2.2 a ha
  by_cases c1 : (60 : Int32) < nI (de a)
  · refine stq0 (fun now hist res K => ⟨res, ?_⟩)
    rw [v_den K.2.1 ha, Option.bind_some, Sum.elim_inr, if_pos c1]
  · have d60 : de a ≤ 60 := by
      rcases Nat.lt_or_ge 60 (de a) with q | q
      · exact absurd ((nI_ltI (a := 60) (by omega) (by omega)).mpr q) c1
      · exact q
    by_cases c2 : nI (nu a) ≤ 60000000
    · have n60 : nu a ≤ 60000000 := (nI_leI (b := 60000000) (by omega) (by decide)).mp c2
      by_cases c3 : (x &&& 1) = 0
      · refine stq1 B (stv nu a (rdn (nu a * B) (de a))) (stv de a (rdd (nu a * B) (de a))) (fun now hist res K H => ?_)
        obtain ⟨v, now', hist', r', e1, k1, k2⟩ := st_up K H res ha n60
        refine ⟨now', hist', r', ?_, k1, k2⟩
        rw [v_den K.2.1 ha, Option.bind_some, Sum.elim_inr, if_neg c1, v_num K.2.1 ha, Option.bind_some, Sum.elim_inr, if_pos c2, if_pos c3]
        unfold f_L_act_b224
        rw [e1, Option.bind_some, Sum.elim_inr]
      · refine stq1 B (stv nu a (rdn (nu a) (de a * B))) (stv de a (rdd (nu a) (de a * B))) (fun now hist res K H => ?_)
        obtain ⟨v, now', hist', r', e1, k1, k2⟩ := st_down K H res ha d60
        refine ⟨now', hist', r', ?_, k1, k2⟩
        rw [v_den K.2.1 ha, Option.bind_some, Sum.elim_inr, if_neg c1, v_num K.2.1 ha, Option.bind_some, Sum.elim_inr, if_pos c2, if_neg c3]
        unfold f_L_act_b224
        rw [e1, Option.bind_some, Sum.elim_inr]
    · refine stq0 (fun now hist res K => ⟨res, ?_⟩)
      rw [v_den K.2.1 ha, Option.bind_some, Sum.elim_inr, if_neg c1, v_num K.2.1 ha, Option.bind_some, Sum.elim_inr, if_neg c2]
theorem stq_pay (R : Rok B nu de) {a b r : Nat} (ha : a < 6) (hb : b < 6) (hr : r < 50) : Stq B nu de (fun now hist res => (if nI a = nI b then (some (0, now, hist, res)) else ((f_X10_whole now (nI a)).bind fun v248 => Sum.elim (fun t248 => none) (fun u248 => (if u248 < (1 + nI r) then (some (0, now, hist, res)) else ((f_X10_numerator now (nI b)).bind fun v259 => Sum.elim (fun t259 => none) (fun u259 => (if u259 ≤ 900000000 then ((f_X10_pay now hist res (nI a) (nI b) (1 + nI r)).bind fun v275 => Sum.elim (fun t275 => none) (fun u275 => (some (1, u275.2.1, u275.2.2.1, u275.2.2.2))) v275) else (some (0, now, hist, res)))) v259))) v248))) := by
  rw [show (1 : Int32) + nI r = nI (r + 1) by rw [Nat.add_comm]; exact nI_add 1 r]
  obtain ⟨r1, r2, r3, r4⟩ := R.2.2 b hb
  have hw := (R.wh ha).1
  by_cases c0 : nI a = nI b
  · exact stq0 (fun now hist res K => ⟨res, if_pos c0⟩)
  · have hne : a ≠ b := fun q => c0 (by rw [q])
    by_cases c1 : nI (whl nu de a) < nI (r + 1)
    · refine stq0 (fun now hist res K => ⟨res, ?_⟩)
      rw [if_neg c0, v_wh K.1 K.2.1 ha, Option.bind_some, Sum.elim_inr, if_pos c1]
    · have hk : r + 1 ≤ whl nu de a := by
        rcases Nat.lt_or_ge (whl nu de a) (r + 1) with q | q
        · exact absurd ((nI_ltI (by omega) (by omega)).mpr q) c1
        · exact q
      by_cases c2 : nI (nu b) ≤ 900000000
      · have n9 : nu b ≤ 900000000 := (nI_leI (b := 900000000) (by omega) (by decide)).mp c2
        refine stq1 B (stv (stv nu b (rdn (nu b + (r + 1) * de b) (de b))) a (rdn (nu a - (r + 1) * de a) (de a))) (stv (stv de b (rdd (nu b + (r + 1) * de b) (de b))) a (rdd (nu a - (r + 1) * de a) (de a))) (fun now hist res K H => ?_)
        obtain ⟨v, now', hist', r', e1, k1, k2⟩ := st_pay K H res ha hb hne (k := r + 1) (by omega) (by omega) hk n9
        refine ⟨now', hist', r', ?_, k1, k2⟩
        rw [if_neg c0, v_wh K.1 K.2.1 ha, Option.bind_some, Sum.elim_inr, if_neg c1, v_num K.2.1 hb, Option.bind_some, Sum.elim_inr, if_pos c2, e1, Option.bind_some, Sum.elim_inr]
      · refine stq0 (fun now hist res K => ⟨res, ?_⟩)
        rw [if_neg c0, v_wh K.1 K.2.1 ha, Option.bind_some, Sum.elim_inr, if_neg c1, v_num K.2.1 hb, Option.bind_some, Sum.elim_inr, if_neg c2]
end
theorem to12 {w : Int32} (h : ¬ (w.toInt < 0 ∨ 11 < w.toInt)) : w = 0 ∨ w = 1 ∨ w = 2 ∨ w = 3 ∨ w = 4 ∨ w = 5 ∨ w = 6 ∨ w = 7 ∨ w = 8 ∨ w = 9 ∨ w = 10 ∨ w = 11 := by
  have e : w.toInt = 0 ∨ w.toInt = 1 ∨ w.toInt = 2 ∨ w.toInt = 3 ∨ w.toInt = 4 ∨ w.toInt = 5 ∨ w.toInt = 6 ∨ w.toInt = 7 ∨ w.toInt = 8 ∨ w.toInt = 9 ∨ w.toInt = 10 ∨ w.toInt = 11 := by omega
  rcases e with e | e | e | e | e | e | e | e | e | e | e | e
  · exact Or.inl (Int32.toInt_inj.mp e)
  · exact Or.inr (Or.inl (Int32.toInt_inj.mp e))
  · exact Or.inr (Or.inr (Or.inl (Int32.toInt_inj.mp e)))
  · exact Or.inr (Or.inr (Or.inr (Or.inl (Int32.toInt_inj.mp e))))
  · exact Or.inr (Or.inr (Or.inr (Or.inr (Or.inl (Int32.toInt_inj.mp e)))))
  · exact Or.inr (Or.inr (Or.inr (Or.inr (Or.inr (Or.inl (Int32.toInt_inj.mp e))))))
  · exact Or.inr (Or.inr (Or.inr (Or.inr (Or.inr (Or.inr (Or.inl (Int32.toInt_inj.mp e)))))))
  · exact Or.inr (Or.inr (Or.inr (Or.inr (Or.inr (Or.inr (Or.inr (Or.inl (Int32.toInt_inj.mp e))))))))
  · exact Or.inr (Or.inr (Or.inr (Or.inr (Or.inr (Or.inr (Or.inr (Or.inr (Or.inl (Int32.toInt_inj.mp e)))))))))
  · exact Or.inr (Or.inr (Or.inr (Or.inr (Or.inr (Or.inr (Or.inr (Or.inr (Or.inr (Or.inl (Int32.toInt_inj.mp e))))))))))
  · exact Or.inr (Or.inr (Or.inr (Or.inr (Or.inr (Or.inr (Or.inr (Or.inr (Or.inr (Or.inr (Or.inl (Int32.toInt_inj.mp e)))))))))))
  · exact Or.inr (Or.inr (Or.inr (Or.inr (Or.inr (Or.inr (Or.inr (Or.inr (Or.inr (Or.inr (Or.inr (Int32.toInt_inj.mp e)))))))))))
