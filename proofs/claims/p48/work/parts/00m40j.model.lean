/-! What a state of accounts is, and the model's digits and columns over it. -/
def Rok (B : Nat) (nu de : Nat → Nat) : Prop := 1 < B ∧ B < 17 ∧ ∀ a, a < 6 → nu a ≤ 999999999 ∧ 0 < de a ∧ de a ≤ 999 ∧ Nat.gcd (nu a) (de a) = 1
def Mok (ss : Nat → Int32) (B : Nat) (nu de : Nat → Nat) : Prop := ss 0 = nI B ∧ ∀ a, a < 6 → ss (3 + a) = nI (nu a) ∧ ss (9 + a) = nI (de a)
def Cok (c : SC) (B : Nat) (nu de : Nat → Nat) : Prop := c.1 = nI B ∧ ∀ a, a < 6 → c.2.2.2.1 a = nI (nu a) ∧ c.2.2.2.2 a = nI (de a)
def whl (nu de : Nat → Nat) (a : Nat) : Nat := nu a / de a
def rst (nu de : Nat → Nat) (a : Nat) : Nat := nu a % de a
theorem Rok.wh {B : Nat} {nu de : Nat → Nat} (R : Rok B nu de) {a : Nat} (h : a < 6) : whl nu de a < 2 ^ 30 ∧ whl nu de a ≤ 999999999 := by
  obtain ⟨h1, h2, h3, h4⟩ := R.2.2 a h
  have : nu a / de a ≤ nu a := Nat.div_le_self _ _
  unfold whl
  omega
theorem m_wholeOf {B : Nat} {nu de : Nat → Nat} {ss : Nat → Int32} (R : Rok B nu de) (M : Mok ss B nu de) {a : Nat} (h : a < 6) : f_X11_wholeOf ss (nI a) = some (nI (whl nu de a)) := by
  obtain ⟨h1, h2, h3, h4⟩ := R.2.2 a h
  exact m_whole h (M.2 a h).1 (M.2 a h).2 (by omega) h2 (by omega)
theorem m_tells {B : Nat} {nu de : Nat → Nat} {ss : Nat → Int32} (R : Rok B nu de) (M : Mok ss B nu de) {a : Nat} (h : a < 6) (d0 : Nat → Int32) (dm : Int32) : f_X11_tellsDigits ss d0 dm (nI a) = some (dfn B (whl nu de a) d0 (dcn B (whl nu de a)), nI (dcn B (whl nu de a))) := by
  unfold f_X11_tellsDigits
  rw [m_wholeOf R M h, Option.bind_some]
  exact m_tell0 R.1 R.2.1 M.1 (R.wh h).1
theorem m_sumOf {B : Nat} {nu de : Nat → Nat} {ss : Nat → Int32} (R : Rok B nu de) (M : Mok ss B nu de) {a : Nat} (h : a < 6) (d0 : Nat → Int32) (dm : Int32) : f_X11_sumOf ss d0 dm (nI a) = some (nI (sm (dgt B (whl nu de a)) (dcn B (whl nu de a))), dfn B (whl nu de a) d0 (dcn B (whl nu de a)), nI (dcn B (whl nu de a))) := by
  unfold f_X11_sumOf
  rw [m_tells R M h, Option.bind_some]
  exact m_sum_loop (dcn_le _ _) (dcn B (whl nu de a)) xfuel 0 (by omega) (by have := dcn_le B (whl nu de a); unfold xfuel; omega)
theorem m_col_copy {B v N : Nat} {ss D ot column : Nat → Int32} {cm car chm a : Int32} (hN : N ≤ 30) (hD : ∀ j, j < N → D j = nI (dgt B v j)) : ∀ (t n i : Nat), i + t = N → t < n → f_X11_tellsColumns_b15 n ss D (nI N) (dfn B v ot i) (nI N) column cm car chm a (nI i) = ((f_X11_tellsDigits ss D (nI N) a).bind fun v43 => (if v43.2 ≤ nI N then f_X11_tellsColumns_b69 ss v43.1 v43.2 (dfn B v ot N) (nI N) column cm car chm (nI N) else f_X11_tellsColumns_b69 ss v43.1 v43.2 (dfn B v ot N) (nI N) column cm car chm v43.2)) := by
  intro t
  induction t with
  | zero =>
    intro n i h hn
    obtain ⟨n, rfl⟩ : ∃ m, n = m + 1 := ⟨n - 1, by omega⟩
    have hi : i = N := by omega
    subst hi
    show (if nI i ≤ nI i then _ else _) = _
    rw [if_pos ((nI_leI (by omega) (by omega)).mpr (Nat.le_refl _))]
  | succ t ih =>
    intro n i h hn
    obtain ⟨n, rfl⟩ : ∃ m, n = m + 1 := ⟨n - 1, by omega⟩
    show (if nI N ≤ nI i then _ else (if nI i < 0 ∨ 40 ≤ (nI i).toNatClampNeg then none else (if nI i < 0 ∨ 40 ≤ (nI i).toNatClampNeg then none else f_X11_tellsColumns_b15 n ss D (nI N) (upd (dfn B v ot i) (nI i).toNatClampNeg (D (nI i).toNatClampNeg)) (nI N) column cm car chm a (nI i + 1)))) = _
    rw [if_neg (fun q => by have := (nI_leI (by omega) (by omega)).mp q; omega), if_neg (nI_in (by omega) (by omega)), if_neg (nI_in (by omega) (by omega)), nI_clamp (by omega), hD i (by omega), dfn_up, nI_1]
    exact ih n (i + 1) (by omega) (by omega)
theorem m_col_loop {B u v : Nat} {ss D O d0 : Nat → Int32} (hB : 1 < B) (hB2 : B < 17) (hb : ss 0 = nI B) (hu : u < 2 ^ 30) (hv : v < 2 ^ 30) (hD : ∀ j, j < dcn B u → D j = nI (dgt B u j)) (hO : ∀ j, j < dcn B v → O j = nI (dgt B v j)) : ∀ (t n i : Nat), i + t = cln B u v → t < n → ∃ f, f_X11_tellsColumns_b90 n ss D (nI (dcn B u)) O (nI (dcn B v)) (cfn B (u + v) d0 i) (nI (cln B u v)) (nI (cct B u v i)) (nI (cmx B u v i)) (nI (cy B u v i)) (nI (chn B u v i)) (nI i) = some (D, nI (dcn B u), O, nI (dcn B v), f, nI (clen B u v), nI (cct B u v (cln B u v)), nI (cmx B u v (cln B u v))) ∧ ∀ j, j < clen B u v → f j = nI (dgt B (u + v) j) := by
  have hN := cln_le B u v
  have hN1 := dcn_le B u
  have hN2 := dcn_le B v
  intro t
  induction t with
  | zero =>
    intro n i hi hn
    obtain ⟨n, rfl⟩ : ∃ m, n = m + 1 := ⟨n - 1, by omega⟩
    have e : i = cln B u v := by omega
    subst e
    have hl := cy_le (B := B) (u := u) (v := v) (cln B u v)
    have ht := cln_top hB hu hv
    rcases Nat.lt_or_ge (cy B u v (cln B u v)) 1 with q | q
    · have q0 : cy B u v (cln B u v) = 0 := by omega
      refine ⟨cfn B (u + v) d0 (cln B u v), ?_, ?_⟩
      · show (if nI (cln B u v) ≤ nI (cln B u v) then (if nI (cy B u v (cln B u v)) = 1 then _ else some (D, nI (dcn B u), O, nI (dcn B v), cfn B (u + v) d0 (cln B u v), nI (cln B u v), nI (cct B u v (cln B u v)), nI (cmx B u v (cln B u v)))) else _) = _
        unfold clen
        rw [if_pos ((nI_leI (by omega) (by omega)).mpr (Nat.le_refl _)), q0, if_neg (by decide), Nat.add_zero]
      · intro j hj
        unfold clen at hj
        exact if_pos (by omega)
    · have q1 : cy B u v (cln B u v) = 1 := by omega
      refine ⟨upd (cfn B (u + v) d0 (cln B u v)) (cln B u v) 1, ?_, ?_⟩
      · show (if nI (cln B u v) ≤ nI (cln B u v) then (if nI (cy B u v (cln B u v)) = 1 then (if nI (cln B u v) < 0 ∨ 41 ≤ (nI (cln B u v)).toNatClampNeg then none else some (D, nI (dcn B u), O, nI (dcn B v), upd (cfn B (u + v) d0 (cln B u v)) (nI (cln B u v)).toNatClampNeg 1, nI (cln B u v) + 1, nI (cct B u v (cln B u v)), nI (cmx B u v (cln B u v)))) else _) else _) = _
        unfold clen
        rw [if_pos ((nI_leI (by omega) (by omega)).mpr (Nat.le_refl _)), q1, if_pos (by decide), if_neg (nI_in (by omega) (by omega)), nI_clamp (by omega), nI_1]
      · intro j hj
        unfold clen at hj
        by_cases h : j = cln B u v
        · subst h
          rw [pk_us]
          unfold dgt
          rw [ht, q1, Nat.mod_eq_of_lt hB]; rfl
        · rw [pk_un h]
          exact if_pos (by omega)
  | succ t ih =>
    intro n i hi hn
    obtain ⟨n, rfl⟩ : ∃ m, n = m + 1 := ⟨n - 1, by omega⟩
    obtain ⟨f, h1, h2⟩ := ih n (i + 1) (by omega) (by omega)
    refine ⟨f, ?_, h2⟩
    have a1 := dgt_lt (w := u) (k := i) hB
    have a2 := dgt_lt (w := v) (k := i) hB
    have a3 := cy_le (B := B) (u := u) (v := v) i
    have a4 := chn_le (B := B) (u := u) (v := v) i
    have a5 := cmx_le (B := B) (u := u) (v := v) i
    have a6 := chn_le (B := B) (u := u) (v := v) (i + 1)
    have a7 := cct_le (B := B) (u := u) (v := v) i
    have e193 : f_X11_tellsColumns_b193 (f_X11_tellsColumns_b90 n) ss D (nI (dcn B u)) O (nI (dcn B v)) (cfn B (u + v) d0 (i + 1)) (nI (cln B u v)) (nI (cct B u v (i + 1))) (nI (cmx B u v i)) (nI (cy B u v (i + 1))) (nI i) (nI (chn B u v (i + 1))) = some (D, nI (dcn B u), O, nI (dcn B v), f, nI (clen B u v), nI (cct B u v (cln B u v)), nI (cmx B u v (cln B u v))) := by
      unfold f_X11_tellsColumns_b193 f_X11_tellsColumns_b214
      rw [nI_1]
      have e : cmx B u v (i + 1) = (if cmx B u v i < chn B u v (i + 1) then chn B u v (i + 1) else cmx B u v i) := rfl
      by_cases h : cmx B u v i < chn B u v (i + 1)
      · rw [if_neg (fun q => by have := (nI_leI (by omega) (by omega)).mp q; omega)]
        rw [if_pos h] at e
        rw [e] at h1
        exact h1
      · rw [if_pos ((nI_leI (by omega) (by omega)).mpr (by omega))]
        rw [if_neg h] at e
        rw [e] at h1
        exact h1
    have e139 : f_X11_tellsColumns_b139 (f_X11_tellsColumns_b90 n) ss D (nI (dcn B u)) O (nI (dcn B v)) (cfn B (u + v) d0 i) (nI (cln B u v)) (nI (cct B u v i)) (nI (cmx B u v i)) (nI (cy B u v i)) (nI (chn B u v i)) (nI i) (nI (dgt B v i)) (nI (dgt B u i)) = some (D, nI (dcn B u), O, nI (dcn B v), f, nI (clen B u v), nI (cct B u v (cln B u v)), nI (cmx B u v (cln B u v))) := by
      unfold f_X11_tellsColumns_b139
      rw [show (0 : Int32).toNatClampNeg = 0 from rfl, hb, if_neg (c_ne0 (by omega) (by omega)), if_neg (c_ne0 (by omega) (by omega)), if_neg (nI_in (by omega) (by omega)), nI_add, nI_add, pk_rem (by omega) (by omega) (by omega), pk_div (by omega) (by omega) (by omega), cd_eq hB, cy_step hB, nI_clamp (by omega), cfn_up, nI_add, nI_1]
      by_cases hs : dgt B u i + dgt B v i + cy B u v i < B
      · have e1 : cy B u v (i + 1) = 0 := if_pos hs
        have e2 : chn B u v (i + 1) = 0 := if_pos hs
        have e3 : cct B u v (i + 1) = cct B u v i + cy B u v (i + 1) := rfl
        rw [if_neg (by rw [e1]; decide), ← e3]
        rw [e2] at e193; exact e193
      · have e1 : cy B u v (i + 1) = 1 := if_neg hs
        have e2 : chn B u v (i + 1) = chn B u v i + 1 := if_neg hs
        have e3 : cct B u v (i + 1) = cct B u v i + cy B u v (i + 1) := rfl
        rw [if_pos (by rw [e1]; rfl), ← e3, ← e2]
        exact e193
    have e119 : f_X11_tellsColumns_b119 (f_X11_tellsColumns_b90 n) ss D (nI (dcn B u)) O (nI (dcn B v)) (cfn B (u + v) d0 i) (nI (cln B u v)) (nI (cct B u v i)) (nI (cmx B u v i)) (nI (cy B u v i)) (nI (chn B u v i)) (nI i) (nI (dgt B u i)) = some (D, nI (dcn B u), O, nI (dcn B v), f, nI (clen B u v), nI (cct B u v (cln B u v)), nI (cmx B u v (cln B u v))) := by
      unfold f_X11_tellsColumns_b119
      by_cases h : dcn B v ≤ i
      · rw [if_pos ((nI_leI (by omega) (by omega)).mpr h)]
        rw [dgt_high hB hv h] at e139
        exact e139
      · rw [if_neg (fun q => h ((nI_leI (by omega) (by omega)).mp q)), if_neg (nI_in (by omega) (by omega)), nI_clamp (by omega), hO i (by omega)]
        exact e139
    show (if nI (cln B u v) ≤ nI i then _ else (if nI (dcn B u) ≤ nI i then f_X11_tellsColumns_b119 (f_X11_tellsColumns_b90 n) ss D (nI (dcn B u)) O (nI (dcn B v)) (cfn B (u + v) d0 i) (nI (cln B u v)) (nI (cct B u v i)) (nI (cmx B u v i)) (nI (cy B u v i)) (nI (chn B u v i)) (nI i) (nI 0) else (if nI i < 0 ∨ 40 ≤ (nI i).toNatClampNeg then none else f_X11_tellsColumns_b119 (f_X11_tellsColumns_b90 n) ss D (nI (dcn B u)) O (nI (dcn B v)) (cfn B (u + v) d0 i) (nI (cln B u v)) (nI (cct B u v i)) (nI (cmx B u v i)) (nI (cy B u v i)) (nI (chn B u v i)) (nI i) (D (nI i).toNatClampNeg)))) = _
    rw [if_neg (fun q => by have := (nI_leI (by omega) (by omega)).mp q; omega)]
    by_cases h : dcn B u ≤ i
    · rw [if_pos ((nI_leI (by omega) (by omega)).mpr h)]
      rw [dgt_high hB hu h] at e119
      exact e119
    · rw [if_neg (fun q => h ((nI_leI (by omega) (by omega)).mp q)), if_neg (nI_in (by omega) (by omega)), nI_clamp (by omega), hD i (by omega)]
      exact e119
theorem m_columns {B : Nat} {nu de : Nat → Nat} {ss : Nat → Int32} (R : Rok B nu de) (M : Mok ss B nu de) {a b : Nat} (ha : a < 6) (hb : b < 6) (d0 : Nat → Int32) (dm : Int32) (ot : Nat → Int32) (om : Int32) (column : Nat → Int32) (cm car chm : Int32) : ∃ D O f, f_X11_tellsColumns ss d0 dm ot om column cm car chm (nI a) (nI b) = some (D, nI (dcn B (whl nu de a)), O, nI (dcn B (whl nu de b)), f, nI (clen B (whl nu de a) (whl nu de b)), nI (cct B (whl nu de a) (whl nu de b) (cln B (whl nu de a) (whl nu de b))), nI (cmx B (whl nu de a) (whl nu de b) (cln B (whl nu de a) (whl nu de b)))) ∧ ∀ j, j < clen B (whl nu de a) (whl nu de b) → f j = nI (dgt B (whl nu de a + whl nu de b) j) := by
  have hu := (R.wh ha).1
  have hv := (R.wh hb).1
  have htb := m_tells R M hb d0 dm
  have hta := m_tells R M ha (dfn B (whl nu de b) d0 (dcn B (whl nu de b))) (nI (dcn B (whl nu de b)))
  generalize whl nu de a = u at *
  generalize whl nu de b = v at *
  have hN1 := dcn_le B u
  have hN2 := dcn_le B v
  have hN := cln_le B u v
  obtain ⟨f, h1, h2⟩ := m_col_loop (D := dfn B u (dfn B v d0 (dcn B v)) (dcn B u)) (O := dfn B v ot (dcn B v)) (d0 := column) R.1 R.2.1 M.1 hu hv (fun j hj => dfn_at hj) (fun j hj => dfn_at hj) (cln B u v) xfuel 0 (by omega) (by unfold xfuel; omega)
  refine ⟨dfn B u (dfn B v d0 (dcn B v)) (dcn B u), dfn B v ot (dcn B v), f, ?_, h2⟩
  unfold f_X11_tellsColumns
  rw [htb, Option.bind_some]
  have h3 := m_col_copy (B := B) (v := v) (ss := ss) (D := dfn B v d0 (dcn B v)) (ot := ot) (column := column) (cm := cm) (car := car) (chm := chm) (a := nI a) hN2 (fun j hj => dfn_at hj) (dcn B v) xfuel 0 (by omega) (by unfold xfuel; omega)
  rw [dfn_0] at h3
  show f_X11_tellsColumns_b15 xfuel ss (dfn B v d0 (dcn B v)) (nI (dcn B v)) ot (nI (dcn B v)) column cm car chm (nI a) (nI 0) = _
  rw [h3, hta, Option.bind_some]
  have e : (if nI (dcn B u) ≤ nI (dcn B v) then f_X11_tellsColumns_b69 ss (dfn B u (dfn B v d0 (dcn B v)) (dcn B u)) (nI (dcn B u)) (dfn B v ot (dcn B v)) (nI (dcn B v)) column cm car chm (nI (dcn B v)) else f_X11_tellsColumns_b69 ss (dfn B u (dfn B v d0 (dcn B v)) (dcn B u)) (nI (dcn B u)) (dfn B v ot (dcn B v)) (nI (dcn B v)) column cm car chm (nI (dcn B u))) = f_X11_tellsColumns_b69 ss (dfn B u (dfn B v d0 (dcn B v)) (dcn B u)) (nI (dcn B u)) (dfn B v ot (dcn B v)) (nI (dcn B v)) column cm car chm (nI (cln B u v)) := by
    by_cases h : dcn B u ≤ dcn B v
    · rw [if_pos ((nI_leI (by omega) (by omega)).mpr h)]
      have : cln B u v = dcn B v := by unfold cln; split <;> omega
      rw [this]
    · rw [if_neg (fun q => h ((nI_leI (by omega) (by omega)).mp q))]
      have : cln B u v = dcn B u := by unfold cln; split <;> omega
      rw [this]
  refine Eq.trans e ?_
  unfold f_X11_tellsColumns_b69
  rw [show cfn B (u + v) column 0 = column from dfn_0] at h1
  exact h1
