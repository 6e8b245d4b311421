/-! Sums by columns, on both sides. -/
def cy (B u v : Nat) : Nat → Nat
  | 0 => 0
  | i + 1 => if dgt B u i + dgt B v i + cy B u v i < B then 0 else 1
def chn (B u v : Nat) : Nat → Nat
  | 0 => 0
  | i + 1 => if dgt B u i + dgt B v i + cy B u v i < B then 0 else chn B u v i + 1
def cct (B u v : Nat) : Nat → Nat
  | 0 => 0
  | i + 1 => cct B u v i + cy B u v (i + 1)
def cmx (B u v : Nat) : Nat → Nat
  | 0 => 0
  | i + 1 => if cmx B u v i < chn B u v (i + 1) then chn B u v (i + 1) else cmx B u v i
theorem cy_le {B u v : Nat} : ∀ i, cy B u v i ≤ 1 := by
  intro i; cases i with
  | zero => exact Nat.zero_le _
  | succ i => show (if _ then 0 else 1) ≤ 1; split <;> omega
theorem chn_le {B u v : Nat} : ∀ i, chn B u v i ≤ i := by
  intro i; induction i with
  | zero => exact Nat.le_refl _
  | succ i ih => show (if dgt B u i + dgt B v i + cy B u v i < B then 0 else chn B u v i + 1) ≤ i + 1; split <;> omega
theorem cct_le {B u v : Nat} : ∀ i, cct B u v i ≤ i := by
  intro i; induction i with
  | zero => exact Nat.le_refl _
  | succ i ih => have := cy_le (B := B) (u := u) (v := v) (i + 1); show _ + _ ≤ i + 1; omega
theorem cmx_le {B u v : Nat} : ∀ i, cmx B u v i ≤ i := by
  intro i; induction i with
  | zero => exact Nat.le_refl _
  | succ i ih => have := chn_le (B := B) (u := u) (v := v) (i + 1); show (if cmx B u v i < chn B u v (i + 1) then chn B u v (i + 1) else cmx B u v i) ≤ i + 1; split <;> omega
theorem cy_eq {B u v : Nat} (hB : 1 < B) : ∀ i, cy B u v i = (u % B ^ i + v % B ^ i) / B ^ i := by
  intro i
  induction i with
  | zero => show 0 = _; rw [Nat.pow_zero, Nat.mod_one, Nat.mod_one]
  | succ i ih =>
    have hp : 0 < B ^ i := Nat.pow_pos (by omega)
    have h1 := dgt_lt (w := u) (k := i) hB
    have h2 := dgt_lt (w := v) (k := i) hB
    have h3 := cy_le (B := B) (u := u) (v := v) i
    have e : (u % B ^ (i + 1) + v % B ^ (i + 1)) / B ^ (i + 1) = (dgt B u i + dgt B v i + cy B u v i) / B := by
      rw [Nat.mod_pow_succ, Nat.mod_pow_succ, Nat.pow_succ, ← Nat.div_div_eq_div_mul, ih]
      show (u % B ^ i + B ^ i * dgt B u i + (v % B ^ i + B ^ i * dgt B v i)) / B ^ i / B = _
      have e2 : u % B ^ i + B ^ i * dgt B u i + (v % B ^ i + B ^ i * dgt B v i) = (u % B ^ i + v % B ^ i) + B ^ i * (dgt B u i + dgt B v i) := by rw [Nat.mul_add]; omega
      rw [e2, Nat.add_mul_div_left _ _ hp, Nat.add_comm]
    rw [e]
    show (if _ then 0 else 1) = _
    by_cases h : dgt B u i + dgt B v i + cy B u v i < B
    · rw [if_pos h, Nat.div_eq_of_lt h]
    · rw [if_neg h]
      exact (Nat.div_eq_of_lt_le (by omega) (by omega)).symm
theorem cd_eq {B u v : Nat} (hB : 1 < B) (i : Nat) : (dgt B u i + dgt B v i + cy B u v i) % B = dgt B (u + v) i := by
  have hp : 0 < B ^ i := Nat.pow_pos (by omega)
  have e : (u + v) / B ^ i = u / B ^ i + v / B ^ i + cy B u v i := by
    rw [cy_eq hB]
    have e2 : u + v = (u % B ^ i + v % B ^ i) + B ^ i * (u / B ^ i + v / B ^ i) := by
      have a := Nat.div_add_mod u (B ^ i)
      have b := Nat.div_add_mod v (B ^ i)
      rw [Nat.mul_add]; omega
    conv => lhs; rw [e2]
    rw [Nat.add_mul_div_left _ _ hp, Nat.add_comm]
  unfold dgt
  rw [e, Nat.add_assoc, Nat.mod_add_mod, Nat.add_left_comm, Nat.mod_add_mod, Nat.add_left_comm, ← Nat.add_assoc]
theorem cy_step {B u v : Nat} (hB : 1 < B) (i : Nat) : (dgt B u i + dgt B v i + cy B u v i) / B = cy B u v (i + 1) := by
  have h1 := dgt_lt (w := u) (k := i) hB
  have h2 := dgt_lt (w := v) (k := i) hB
  have h3 := cy_le (B := B) (u := u) (v := v) i
  show _ = (if _ then 0 else 1)
  by_cases h : dgt B u i + dgt B v i + cy B u v i < B
  · rw [if_pos h, Nat.div_eq_of_lt h]
  · rw [if_neg h]
    exact Nat.div_eq_of_lt_le (by omega) (by omega)
/-- how many columns -/
def cln (B u v : Nat) : Nat := if dcn B u < dcn B v then dcn B v else dcn B u
theorem cln_le (B u v : Nat) : cln B u v ≤ 30 := by unfold cln; have := dcn_le B u; have := dcn_le B v; split <;> omega
theorem cln_u (B u v : Nat) : dcn B u ≤ cln B u v := by unfold cln; split <;> omega
theorem cln_v (B u v : Nat) : dcn B v ≤ cln B u v := by unfold cln; split <;> omega
theorem lt_cln {B u v : Nat} (hB : 1 < B) (hu : u < 2 ^ 30) (hv : v < 2 ^ 30) : u < B ^ cln B u v ∧ v < B ^ cln B u v :=
  ⟨Nat.lt_of_lt_of_le (dcn_high hB hu) (Nat.pow_le_pow_right (by omega) (cln_u B u v)), Nat.lt_of_lt_of_le (dcn_high hB hv) (Nat.pow_le_pow_right (by omega) (cln_v B u v))⟩
theorem cln_top {B u v : Nat} (hB : 1 < B) (hu : u < 2 ^ 30) (hv : v < 2 ^ 30) : (u + v) / B ^ cln B u v = cy B u v (cln B u v) := by
  obtain ⟨h1, h2⟩ := lt_cln hB hu hv
  rw [cy_eq hB, Nat.mod_eq_of_lt h1, Nat.mod_eq_of_lt h2]
def clen (B u v : Nat) : Nat := cln B u v + cy B u v (cln B u v)
theorem clen_le (B u v : Nat) : clen B u v ≤ 31 := by unfold clen; have := cln_le B u v; have := cy_le (B := B) (u := u) (v := v) (cln B u v); omega
theorem clen_pos (B u v : Nat) : 0 < clen B u v := by unfold clen; have := cln_u B u v; have := dcn_pos B u; omega
theorem clen_top {B u v : Nat} (hB : 1 < B) (hu : u < 2 ^ 30) (hv : v < 2 ^ 30) : (u + v) / B ^ clen B u v = 0 := by
  have h := cln_top hB hu hv
  have hl := cy_le (B := B) (u := u) (v := v) (cln B u v)
  unfold clen
  rcases Nat.lt_or_ge (cy B u v (cln B u v)) 1 with q | q
  · have q0 : cy B u v (cln B u v) = 0 := by omega
    rw [q0, Nat.add_zero, h, q0]
  · have q1 : cy B u v (cln B u v) = 1 := by omega
    rw [q1, ← pow_div, h, q1]
    exact Nat.div_eq_of_lt hB
theorem dgt_high {B w k : Nat} (hB : 1 < B) (hw : w < 2 ^ 30) (hk : dcn B w ≤ k) : dgt B w k = 0 := by
  unfold dgt
  rw [Nat.div_eq_of_lt (Nat.lt_of_lt_of_le (dcn_high hB hw) (Nat.pow_le_pow_right (by omega) hk)), Nat.zero_mod]
theorem dgt_div_high {B w k : Nat} (hB : 1 < B) (hw : w < 2 ^ 30) (hk : dcn B w ≤ k) : w / B ^ k = 0 :=
  Nat.div_eq_of_lt (Nat.lt_of_lt_of_le (dcn_high hB hw) (Nat.pow_le_pow_right (by omega) hk))
/-- the row of columns -/
def cfn (B w : Nat) (d0 : Nat → Int32) (k : Nat) : Nat → Int32 := fun j => if j < k then nI (dgt B w j) else d0 j
theorem cfn_up {B w k : Nat} {d0 : Nat → Int32} : upd (cfn B w d0 k) k (nI (dgt B w k)) = cfn B w d0 (k + 1) := dfn_up
theorem q_form_end {B u v : Nat} {d0 : Nat → Int32} (c0 : Int32) (hB : 1 < B) (hB2 : B < 17) (hu : u < 2 ^ 30) (hv : v < 2 ^ 30) (m c : Int32) : ∃ f, f_X1_form_b179 (c0, c, m, cfn B (u + v) d0 (cln B u v)) (nI (cln B u v)) (lN (cy B u v (cln B u v))) = some (nI (clen B u v), c, m, f) ∧ ∀ j, j < clen B u v → f j = nI (dgt B (u + v) j) := by
  have hN := cln_le B u v
  have hl := cy_le (B := B) (u := u) (v := v) (cln B u v)
  have ht := cln_top hB hu hv
  unfold f_X1_form_b179
  rcases Nat.lt_or_ge (cy B u v (cln B u v)) 1 with q | q
  · have q0 : cy B u v (cln B u v) = 0 := by omega
    refine ⟨cfn B (u + v) d0 (cln B u v), ?_, ?_⟩
    · unfold clen; rw [q0, if_neg (by decide), Nat.add_zero]
    · intro j hj
      unfold clen at hj
      exact if_pos (by omega)
  · have q1 : cy B u v (cln B u v) = 1 := by omega
    refine ⟨upd (cfn B (u + v) d0 (cln B u v)) (cln B u v) 1, ?_, ?_⟩
    · unfold clen; rw [q1, if_pos (by decide), if_neg (fun q => by have := (nI_leI (a := 31) (by decide) (by omega)).mp q; omega), if_neg (nI_in (by omega) (by omega)), nI_clamp (by omega), nI_1]
    · intro j hj
      unfold clen at hj
      by_cases h : j = cln B u v
      · subst h
        rw [pk_us]
        unfold dgt
        rw [ht, q1, Nat.mod_eq_of_lt hB]; rfl
      · rw [pk_un h]
        exact if_pos (by omega)
theorem q_form_loop {B u v : Nat} {d0 : Nat → Int32} (c0 : Int32) (hB : 1 < B) (hB2 : B < 17) (hu : u < 2 ^ 30) (hv : v < 2 ^ 30) : ∀ (t n i : Nat), i + t = cln B u v → t < n → ∃ f, f_X1_form_b42 n (c0, nI (cct B u v i), nI (cmx B u v i), cfn B (u + v) d0 i) (nI B) (nI (cln B u v)) (lN (u / B ^ i)) (lN (v / B ^ i)) (lN (cy B u v i)) (nI (chn B u v i)) (nI i) = some (nI (clen B u v), nI (cct B u v (cln B u v)), nI (cmx B u v (cln B u v)), f) ∧ ∀ j, j < clen B u v → f j = nI (dgt B (u + v) j) := by
  have hN := cln_le B u v
  intro t
  induction t with
  | zero =>
    intro n i hi hn
    obtain ⟨n, rfl⟩ : ∃ m, n = m + 1 := ⟨n - 1, by omega⟩
    have e : i = cln B u v := by omega
    subst e
    obtain ⟨f, h1, h2⟩ := q_form_end (d0 := d0) c0 hB hB2 hu hv (nI (cmx B u v (cln B u v))) (nI (cct B u v (cln B u v)))
    refine ⟨f, ?_, h2⟩
    show (if nI (cln B u v) ≤ nI (cln B u v) then _ else _) = _
    rw [if_pos ((nI_leI (by omega) (by omega)).mpr (Nat.le_refl _)), h1]
  | succ t ih =>
    intro n i hi hn
    obtain ⟨n, rfl⟩ : ∃ m, n = m + 1 := ⟨n - 1, by omega⟩
    obtain ⟨f, h1, h2⟩ := ih n (i + 1) (by omega) (by omega)
    refine ⟨f, ?_, h2⟩
    have hdu := Nat.div_le_self u (B ^ i)
    have hdv := Nat.div_le_self v (B ^ i)
    have a1 := dgt_lt (w := u) (k := i) hB
    have a2 := dgt_lt (w := v) (k := i) hB
    have a3 := cy_le (B := B) (u := u) (v := v) i
    have a4 := chn_le (B := B) (u := u) (v := v) i
    have a5 := cmx_le (B := B) (u := u) (v := v) i
    have a6 := chn_le (B := B) (u := u) (v := v) (i + 1)
    have a7 := cct_le (B := B) (u := u) (v := v) i
    show (if nI (cln B u v) ≤ nI i then _ else (if (30 : Int32) ≤ nI i then _ else ((f_X5_left (lN (u / B ^ i)) (nI B).toInt64).bind fun v60 => ((f_X5_left (lN (v / B ^ i)) (nI B).toInt64).bind fun v67 => (if ((v60 + v67) + lN (cy B u v i)) < (nI B).toInt64 then f_X1_form_b89 (f_X1_form_b42 n) _ (nI B) (nI (cln B u v)) (lN (u / B ^ i)) (lN (v / B ^ i)) (nI (chn B u v i)) (nI i) ((v60 + v67) + lN (cy B u v i)) 0 else f_X1_form_b89 (f_X1_form_b42 n) _ (nI B) (nI (cln B u v)) (lN (u / B ^ i)) (lN (v / B ^ i)) (nI (chn B u v i)) (nI i) ((v60 + v67) + lN (cy B u v i)) 1))))) = _
    rw [if_neg (fun q => by have := (nI_leI (by omega) (by omega)).mp q; omega), if_neg (fun q => by have := (nI_leI (a := 30) (by decide) (by omega)).mp q; omega), nI_l (by omega), q_left (by omega) (by omega) (by omega), Option.bind_some, q_left (by omega) (by omega) (by omega), Option.bind_some, lN_add, lN_add]
    have b123 : ∀ (t0 : Nat), f_X1_form_b123 (f_X1_form_b42 n) (c0, nI (cct B u v i), nI (cmx B u v i), cfn B (u + v) d0 i) (nI B) (nI (cln B u v)) (lN (u / B ^ i)) (lN (v / B ^ i)) (lN (cy B u v (i + 1))) (nI (chn B u v (i + 1))) (nI i) (lN (dgt B u i + dgt B v i + cy B u v i)) (nI (cy B u v (i + 1))) (nI (cct B u v i)) = some (nI (clen B u v), nI (cct B u v (cln B u v)), nI (cmx B u v (cln B u v)), f) := by
      intro _
      unfold f_X1_form_b123
      rw [nI_l (by omega), q_left (by omega) (by omega) (by omega), Option.bind_some, if_neg (nI_in (by omega) (by omega)), q_quot (by omega) (by omega), Option.bind_some, q_quot (by omega) (by omega), Option.bind_some, lN_i, cd_eq hB, nI_clamp (by omega), cfn_up, pow_div, pow_div, nI_1, nI_add]
      have e : (if nI (cmx B u v i) < nI (chn B u v (i + 1)) then nI (chn B u v (i + 1)) else nI (cmx B u v i)) = nI (cmx B u v (i + 1)) := by
        show _ = nI (if cmx B u v i < chn B u v (i + 1) then _ else _)
        by_cases h : cmx B u v i < chn B u v (i + 1)
        · rw [if_pos h, if_pos ((c_lt (by omega) (by omega)).mpr h)]
        · rw [if_neg h, if_neg (fun q => h ((c_lt (by omega) (by omega)).mp q))]
      show f_X1_form_b42 n (c0, nI (cct B u v (i + 1)), (if nI (cmx B u v i) < nI (chn B u v (i + 1)) then nI (chn B u v (i + 1)) else nI (cmx B u v i)), cfn B (u + v) d0 (i + 1)) _ _ _ _ _ _ _ = _
      rw [e]; exact h1
    show (if lN (dgt B u i + dgt B v i + cy B u v i) < lN B then f_X1_form_b89 (f_X1_form_b42 n) _ (nI B) (nI (cln B u v)) (lN (u / B ^ i)) (lN (v / B ^ i)) (nI (chn B u v i)) (nI i) (lN (dgt B u i + dgt B v i + cy B u v i)) 0 else f_X1_form_b89 (f_X1_form_b42 n) _ (nI B) (nI (cln B u v)) (lN (u / B ^ i)) (lN (v / B ^ i)) (nI (chn B u v i)) (nI i) (lN (dgt B u i + dgt B v i + cy B u v i)) 1) = _
    by_cases hs : dgt B u i + dgt B v i + cy B u v i < B
    · have e1 : cy B u v (i + 1) = 0 := if_pos hs
      have e2 : chn B u v (i + 1) = 0 := if_pos hs
      rw [if_pos ((pk_lLT (by omega) (by omega)).mpr hs)]
      have b := b123 0
      rw [e1, e2] at b
      unfold f_X1_form_b89 f_X1_form_b106
      rw [if_neg (by decide), if_pos (by decide)]
      exact b
    · have e1 : cy B u v (i + 1) = 1 := if_neg hs
      have e2 : chn B u v (i + 1) = chn B u v i + 1 := if_neg hs
      rw [if_neg (fun q => hs ((pk_lLT (by omega) (by omega)).mp q))]
      have b := b123 0
      rw [e1, e2] at b
      unfold f_X1_form_b89 f_X1_form_b106
      rw [if_pos rfl, nI_1, if_neg (nI_nle (by omega) (by omega))]
      exact b
theorem q_form {B u v : Nat} (col : CC) (hB : 1 < B) (hB2 : B < 17) (hu : u < 2 ^ 30) (hv : v < 2 ^ 30) : ∃ f, f_X1_form col (nI u) (nI v) (nI B) = some (nI (clen B u v), nI (cct B u v (cln B u v)), nI (cmx B u v (cln B u v)), f) ∧ ∀ j, j < clen B u v → f j = nI (dgt B (u + v) j) := by
  obtain ⟨f, h1, h2⟩ := q_form_loop (d0 := col.2.2.2) col.1 hB hB2 hu hv (cln B u v) xfuel 0 (by omega) (by have := cln_le B u v; unfold xfuel; omega)
  refine ⟨f, ?_, h2⟩
  have hdu := dcn_le B u
  have hdv := dcn_le B v
  unfold f_X1_form
  rw [q_count hB hB2 hu, Option.bind_some, q_count hB hB2 hv, Option.bind_some, nI_l (by omega), nI_l (by omega)]
  have e : (if nI (dcn B u) < nI (dcn B v) then nI (dcn B v) else nI (dcn B u)) = nI (cln B u v) := by
    unfold cln
    by_cases h : dcn B u < dcn B v
    · rw [if_pos h, if_pos ((c_lt (by omega) (by omega)).mpr h)]
    · rw [if_neg h, if_neg (fun q => h ((c_lt (by omega) (by omega)).mp q))]
  rw [e]
  rw [Nat.pow_zero, Nat.div_one, Nat.div_one, show cfn B (u + v) col.2.2.2 0 = col.2.2.2 from dfn_0] at h1
  exact h1
theorem q_digitAt {col : CC} {k : Nat} (h : k < 31) : f_X1_digitAt col (nI k) = some (col.2.2.2 k) := by
  unfold f_X1_digitAt
  rw [if_neg (nI_pos (by omega)), if_neg (fun q => by have := (nI_leI (a := 31) (by decide) (by omega)).mp q; omega), if_neg (nI_in (by omega) (by omega)), nI_clamp (by omega)]
theorem q_total_loop {B w L : Nat} {col : CC} (hB2 : B < 17) (hB : 1 < B) (hL : L ≤ 31) (hf : ∀ j, j < L → col.2.2.2 j = nI (dgt B w j)) : ∀ (i n : Nat), i ≤ L → i + 1 < n → f_X1_total_b10 n col (nI B) (lN (w / B ^ i)) (nI i + (-1)) = some (lN w) := by
  intro i
  induction i with
  | zero =>
    intro n hi hn
    obtain ⟨n, rfl⟩ : ∃ m, n = m + 1 := ⟨n - 1, by omega⟩
    show (if nI 0 + (-1) < 0 then some (lN (w / B ^ 0)) else _) = _
    rw [if_pos (by decide), Nat.pow_zero, Nat.div_one]
  | succ i ih =>
    intro n hi hn
    obtain ⟨n, rfl⟩ : ∃ m, n = m + 1 := ⟨n - 1, by omega⟩
    have a1 := dgt_lt (w := w) (k := i) hB
    rw [pk_m1]
    show (if nI i < 0 then _ else ((f_X1_digitAt col (nI i)).bind fun v22 => f_X1_total_b10 n col (nI B) (lN (w / B ^ (i + 1)) * (nI B).toInt64 + v22.toInt64) (nI i + (-1)))) = _
    rw [if_neg (nI_pos (by omega)), q_digitAt (by omega), Option.bind_some, hf i (by omega), nI_l (by omega), nI_l (by omega), lN_mul, lN_add, ← pow_div]
    have e : w / B ^ i / B * B + dgt B w i = w / B ^ i := by
      unfold dgt; rw [Nat.mul_comm]; exact Nat.div_add_mod _ _
    rw [e]
    exact ih n (by omega) (by omega)
theorem q_total {B u v : Nat} {c m : Int32} {f : Nat → Int32} (hB : 1 < B) (hB2 : B < 17) (hu : u < 2 ^ 30) (hv : v < 2 ^ 30) (hf : ∀ j, j < clen B u v → f j = nI (dgt B (u + v) j)) : f_X1_total (nI (clen B u v), c, m, f) (nI B) = some (lN (u + v)) := by
  have h := q_total_loop (col := (nI (clen B u v), c, m, f)) hB2 hB (clen_le B u v) hf (clen B u v) xfuel (Nat.le_refl _) (by have := clen_le B u v; unfold xfuel; omega)
  rw [clen_top hB hu hv] at h
  unfold f_X1_total
  show f_X1_total_b10 xfuel _ (nI B) (lN 0) (nI (clen B u v) - 1) = _
  rw [show nI (clen B u v) - 1 = nI (clen B u v) + (-1) from Int32.sub_eq_add_neg _ _]
  exact h
