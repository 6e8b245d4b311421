/-! Accounts as they are written. -/
theorem hp0 {B d : Nat} (hB : 1 < B) (hB2 : B < 17) (hd : 0 < d) (hd2 : d ≤ 999) : hlen B 10 d + prd B d = 0 ↔ d = 1 := by
  obtain ⟨p1, p2, p3⟩ := prd_ok hB hB2 hd hd2
  constructor
  · intro h
    have h1 : hlen B 10 d = 0 := by omega
    have h2 : prd B d = 0 := by omega
    obtain ⟨e, he, hdv⟩ := hcop_split (B := B) (by omega) 10 d hd (by omega)
    rw [h1, Nat.pow_zero] at hdv
    have he1 : e = 1 := Nat.dvd_one.mp hdv
    rcases p2 with ⟨c1, c2⟩ | ⟨c1, c2⟩
    · rw [he, he1, c1]
    · have := c2.1; omega
  · intro h
    subst h
    obtain ⟨g1, g2, g3⟩ := hcop_ok (B := B) (by omega) 10 1 (by omega) (by omega)
    have hc : hcop B 10 1 = 1 := by omega
    have h2 : prd B 1 = 0 := by
      rcases p2 with ⟨c1, c2⟩ | ⟨c1, c2⟩
      · exact c2
      · omega
    have h3 : hlen B 10 1 = 0 := by
      rw [hlen_more (B := B) (by omega) 1 10 1 (by omega) (by omega) (by omega)]
      unfold hlen
      rw [if_pos (Nat.gcd_one_left B)]
    omega
def wln (B w d : Nat) : Nat := dcn B w + (if d = 1 then 0 else 1 + hlen B 10 d + prd B d + (if prd B d = 0 then 0 else 2))
theorem wln_le {B w d : Nat} (hB : 1 < B) (hB2 : B < 17) (hd : 0 < d) (hd2 : d ≤ 999) : wln B w d ≤ 1100 ∧ dcn B w ≤ wln B w d := by
  have h1 := (prd_ok hB hB2 hd hd2).2.2
  have h2 := hlen_le (B := B) 10 d
  have h3 := dcn_le B w
  unfold wln
  split <;> (try split) <;> omega
theorem v_writtenLength {c : SC} {B : Nat} {nu de : Nat → Nat} (R : Rok B nu de) (C : Cok c B nu de) {a : Nat} (h : a < 6) : f_X10_writtenLength c (nI a) = some (Sum.inr (nI (wln B (whl nu de a) (de a)))) := by
  obtain ⟨r1, r2, r3, r4⟩ := R.2.2 a h
  have hB := R.1
  have hB2 := R.2.1
  have e := q_perB hB hB2 r2 r3 r4
  have e2 : lN (rst nu de a) = lN (nu a % de a) := rfl
  have h1 := (prd_ok hB hB2 r2 r3).2.2
  have h2 := hlen_le (B := B) 10 (de a)
  have h3 := dcn_le B (whl nu de a)
  have hz := hp0 hB hB2 r2 r3
  unfold f_X10_writtenLength
  rw [q_req h, Option.bind_some, Sum.elim_inr, q_wh R C h, Option.bind_some, C.1, q_count hB hB2 (R.wh h).1, Option.bind_some, q_den C h, Option.bind_some, nI_l (by omega), q_headB hB hB2 r2 r3, Option.bind_some, q_rst R C h, Option.bind_some, e2, e, Option.bind_some, nI_add]
  unfold f_X10_writtenLength_b85 wln
  by_cases d1 : de a = 1
  · have z := hz.mpr d1
    rw [if_pos ((c_le0 (by omega)).mpr z), if_pos ((c_le0 (by omega)).mpr (by omega)), if_pos d1, Nat.add_zero]
  · have z : ¬ hlen B 10 (de a) + prd B (de a) = 0 := fun q => d1 (hz.mp q)
    rw [if_neg (fun q => z ((c_le0 (by omega)).mp q)), if_neg d1]
    by_cases p0 : prd B (de a) = 0
    · rw [if_pos ((c_le0 (by omega)).mpr p0), if_pos p0, show (1 : Int32) = nI 1 from rfl, nI_add, nI_add, p0]
      rfl
    · rw [if_neg (fun q => p0 ((c_le0 (by omega)).mp q)), if_neg p0, show (1 : Int32) = nI 1 from rfl, show (2 : Int32) = nI 2 from rfl, nI_add, nI_add, nI_add, nI_add]
      congr 3
      omega
theorem m_writtenMany {ss : Nat → Int32} {B : Nat} {nu de : Nat → Nat} (R : Rok B nu de) (M : Mok ss B nu de) {a : Nat} (h : a < 6) (d0 : Nat → Int32) (dm : Int32) : f_X11_writtenMany ss d0 dm (nI a) = some (nI (wln B (whl nu de a) (de a)), dfn B (whl nu de a) d0 (dcn B (whl nu de a)), nI (dcn B (whl nu de a))) := by
  obtain ⟨r1, r2, r3, r4⟩ := R.2.2 a h
  have hB := R.1
  have hB2 := R.2.1
  have h1 := (prd_ok hB hB2 r2 r3)
  have h2 := hlen_le (B := B) 10 (de a)
  have h3 := dcn_le B (whl nu de a)
  unfold f_X11_writtenMany
  rw [m_tells R M h, Option.bind_some, m_down h, Option.bind_some, (M.2 a h).2, z0, M.1, m_headOf hB hB2 r2 r3, Option.bind_some, Option.bind_some, h1.1, Option.bind_some, Option.bind_some]
  unfold wln
  by_cases d1 : de a = 1
  · rw [if_pos (show nI (de a) = 1 by rw [d1]; rfl), if_pos d1, show (0 : Int32) = nI 0 from rfl, nI_add]
  · rw [if_neg (show ¬ nI (de a) = 1 from fun q => d1 ((c_nI1 (by omega)).mp q)), if_neg d1]
    by_cases p0 : prd B (de a) = 0
    · rw [if_pos ((c_le0 (by omega)).mpr p0), if_pos p0, show (1 : Int32) = nI 1 from rfl, show (0 : Int32) = nI 0 from rfl, nI_add, nI_add, nI_add, nI_add]
    · rw [if_neg (fun q => p0 ((c_le0 (by omega)).mp q)), if_neg p0, show (1 : Int32) = nI 1 from rfl, show (2 : Int32) = nI 2 from rfl, nI_add, nI_add, nI_add, nI_add]
def sgn (x : Int32) : Int32 := if 10 ≤ x then (97 + x) - 10 else 48 + x
theorem q_code (x : Int32) : f_X10_codeOfDigit x = some (sgn x) := by
  unfold f_X10_codeOfDigit sgn; split <;> rfl
theorem m_sign (x : Int32) : f_X11_sign x = some (sgn x) := by
  unfold f_X11_sign sgn; split <;> rfl
def wch (B w x d p : Nat) : Int32 :=
  if p < dcn B w then sgn (nI (dgt B w (dcn B w - 1 - p)))
  else if p = dcn B w then 46
  else if p - dcn B w ≤ hlen B 10 d then sgn (nI (bdg B x d (p - dcn B w - 1)))
  else if p - dcn B w = hlen B 10 d + 1 then 40
  else if p - dcn B w - 2 < hlen B 10 d + prd B d then sgn (nI (bdg B x d (p - dcn B w - 2)))
  else 41
theorem v_codeBehind {c : SC} {B : Nat} {nu de : Nat → Nat} (R : Rok B nu de) (C : Cok c B nu de) {a q : Nat} (h : a < 6) (hq : q ≤ 1100) : f_X10_codeBehind c (nI a) (nI q) = some (if q = 0 then 46 else if q ≤ hlen B 10 (de a) then sgn (nI (bdg B (rst nu de a) (de a) (q - 1))) else if q = hlen B 10 (de a) + 1 then 40 else if q - 2 < hlen B 10 (de a) + prd B (de a) then sgn (nI (bdg B (rst nu de a) (de a) (q - 2))) else 41) := by
  obtain ⟨r1, r2, r3, r4⟩ := R.2.2 a h
  have hB := R.1
  have hB2 := R.2.1
  have e : f_X0_periodByDividing (lN (rst nu de a)) (lN (de a)) (nI B) (nI (hlen B 10 (de a))) = some (nI (prd B (de a))) := q_perB hB hB2 r2 r3 r4
  have h1 := (prd_ok hB hB2 r2 r3).2.2
  have h2 := hlen_le (B := B) 10 (de a)
  have hx : rst nu de a < de a := Nat.mod_lt _ r2
  unfold f_X10_codeBehind
  rw [q_den C h, Option.bind_some, q_rst R C h, Option.bind_some, nI_l (by omega), C.1, q_headB hB hB2 r2 r3, Option.bind_some]
  by_cases q0 : q = 0
  · rw [if_pos (show nI q = 0 by rw [q0]; rfl), if_pos q0]
  · rw [if_neg (show ¬ nI q = 0 from c_ne0 (by omega) (by omega)), if_neg q0]
    by_cases q1 : q ≤ hlen B 10 (de a)
    · rw [if_neg (show ¬ nI (hlen B 10 (de a)) < nI q from fun w => by have := (c_lt (by omega) (by omega)).mp w; omega), if_pos q1, show nI q - 1 = nI (q - 1) from pk_sub (b := 1) (by omega), q_digit hx (by omega) (by omega) (by omega) (by omega), Option.bind_some, q_code]
      rfl
    · rw [if_pos ((c_lt (by omega) (by omega)).mpr (by omega)), if_neg q1, nI_1]
      by_cases q2 : q = hlen B 10 (de a) + 1
      · rw [if_pos (show nI q = nI (hlen B 10 (de a) + 1) by rw [q2]), if_pos q2]
      · rw [if_neg (fun w => q2 ((nI_eq (by omega) (by omega)).mp w)), if_neg q2, e, Option.bind_some, nI_add, show nI q - 2 = nI (q - 2) from pk_sub (b := 2) (by omega)]
        by_cases q3 : q - 2 < hlen B 10 (de a) + prd B (de a)
        · rw [if_neg (fun w => by have := (nI_leI (by omega) (by omega)).mp w; omega), if_pos q3, q_digit hx (by omega) (by omega) (by omega) (by omega), Option.bind_some, q_code]
          rfl
        · rw [if_pos ((nI_leI (by omega) (by omega)).mpr (by omega)), if_neg q3]
theorem v_writtenAt {c : SC} {B : Nat} {nu de : Nat → Nat} (R : Rok B nu de) (C : Cok c B nu de) {a p : Nat} (h : a < 6) (hp : p < wln B (whl nu de a) (de a)) : f_X10_writtenAt c (nI a) (nI p) = some (Sum.inr (wch B (whl nu de a) (rst nu de a) (de a) p)) := by
  obtain ⟨r1, r2, r3, r4⟩ := R.2.2 a h
  have hB := R.1
  have hB2 := R.2.1
  obtain ⟨h3, h5⟩ := wln_le (w := whl nu de a) hB hB2 r2 r3
  have h4 := dcn_le B (whl nu de a)
  unfold f_X10_writtenAt
  rw [q_req h, Option.bind_some, Sum.elim_inr, if_neg (nI_pos (by omega)), v_writtenLength R C h, Option.bind_some, Sum.elim_inr, if_pos ((c_lt (by omega) (by omega)).mpr hp), q_wh R C h, Option.bind_some, C.1, q_count hB hB2 (R.wh h).1, Option.bind_some]
  unfold wch
  by_cases q : p < dcn B (whl nu de a)
  · rw [if_neg (fun w => by have := (nI_leI (by omega) (by omega)).mp w; omega), if_pos q, show nI (dcn B (whl nu de a)) - 1 = nI (dcn B (whl nu de a) - 1) from pk_sub (b := 1) (dcn_pos _ _), pk_sub (by omega), q_byDiv hB hB2 (R.wh h).1 (by omega), Option.bind_some, q_code]
    rfl
  · rw [if_pos ((nI_leI (by omega) (by omega)).mpr (by omega)), if_neg q, pk_sub (by omega), v_codeBehind R C h (by omega), Option.bind_some]
    by_cases q0 : p = dcn B (whl nu de a)
    · rw [if_pos q0, if_pos (by omega)]
    · rw [if_neg q0, if_neg (by omega)]
theorem m_writes {ss : Nat → Int32} {B : Nat} {nu de : Nat → Nat} (R : Rok B nu de) (M : Mok ss B nu de) {a p : Nat} (h : a < 6) (hp : p < wln B (whl nu de a) (de a)) (d0 : Nat → Int32) (dm : Int32) : f_X11_writes ss d0 dm (nI a) (nI p) = some (wch B (whl nu de a) (rst nu de a) (de a) p, dfn B (whl nu de a) d0 (dcn B (whl nu de a)), nI (dcn B (whl nu de a))) := by
  obtain ⟨r1, r2, r3, r4⟩ := R.2.2 a h
  have hB := R.1
  have hB2 := R.2.1
  obtain ⟨h3, h5⟩ := wln_le (w := whl nu de a) hB hB2 r2 r3
  have h4 := dcn_le B (whl nu de a)
  have hdp := dcn_pos B (whl nu de a)
  have h1 := prd_ok hB hB2 r2 r3
  have h2 := hlen_le (B := B) 10 (de a)
  unfold f_X11_writes
  rw [m_tells R M h, Option.bind_some]
  unfold wch
  by_cases q : p < dcn B (whl nu de a)
  · rw [if_neg (show ¬ nI (dcn B (whl nu de a)) ≤ nI p from fun w => by have := (nI_leI (by omega) (by omega)).mp w; omega), if_pos q, show nI (dcn B (whl nu de a)) - 1 = nI (dcn B (whl nu de a) - 1) from pk_sub (b := 1) hdp, pk_sub (by omega), if_neg (nI_in (by omega) (by omega)), nI_clamp (by omega)]
    show ((f_X11_sign (dfn B (whl nu de a) d0 (dcn B (whl nu de a)) (dcn B (whl nu de a) - 1 - p))).bind _) = _
    rw [dfn_at (by omega), m_sign, Option.bind_some]
  · rw [if_pos (show nI (dcn B (whl nu de a)) ≤ nI p from (nI_leI (by omega) (by omega)).mpr (by omega)), if_neg q, m_down h, Option.bind_some, (M.2 a h).2, z0, M.1, m_headOf hB hB2 r2 r3, Option.bind_some, Option.bind_some, h1.1, Option.bind_some, pk_sub (by omega)]
    by_cases q0 : p = dcn B (whl nu de a)
    · have e0 : p - dcn B (whl nu de a) = 0 := by omega
      rw [e0, if_neg (show ¬ (0 : Int32) ≤ nI 0 - 1 by decide), if_pos q0]
    · have e1 : nI (p - dcn B (whl nu de a)) - 1 = nI (p - dcn B (whl nu de a) - 1) := pk_sub (b := 1) (by omega)
      rw [if_neg q0, e1, if_pos (nI_pos' (by omega))]
      have hw : p < dcn B (whl nu de a) + (1 + hlen B 10 (de a) + prd B (de a) + (if prd B (de a) = 0 then 0 else 2)) := by
        unfold wln at hp
        by_cases d1 : de a = 1
        · rw [if_pos d1] at hp; omega
        · rw [if_neg d1] at hp; exact hp
      by_cases q1 : p - dcn B (whl nu de a) ≤ hlen B 10 (de a)
      · rw [if_neg (show ¬ nI (hlen B 10 (de a)) ≤ nI (p - dcn B (whl nu de a) - 1) from fun w => by have := (nI_leI (by omega) (by omega)).mp w; omega), if_pos q1, m_digitAfter R M h (by omega), Option.bind_some, m_sign, Option.bind_some]
      · rw [if_pos (show nI (hlen B 10 (de a)) ≤ nI (p - dcn B (whl nu de a) - 1) from (nI_leI (by omega) (by omega)).mpr (by omega)), if_neg q1]
        by_cases q2 : p - dcn B (whl nu de a) = hlen B 10 (de a) + 1
        · rw [if_pos (show nI (p - dcn B (whl nu de a) - 1) = nI (hlen B 10 (de a)) by rw [q2]; rfl), if_pos q2]
        · rw [if_neg (show ¬ nI (p - dcn B (whl nu de a) - 1) = nI (hlen B 10 (de a)) from fun w => by have := (nI_eq (by omega) (by omega)).mp w; omega), if_neg q2, nI_add, nI_1]
          have hpp : prd B (de a) ≠ 0 := by
            intro z
            rw [z, if_pos rfl] at hw
            omega
          rw [if_neg hpp] at hw
          by_cases q3 : p - dcn B (whl nu de a) - 2 < hlen B 10 (de a) + prd B (de a)
          · rw [if_neg (show ¬ nI (p - dcn B (whl nu de a) - 1) = nI (hlen B 10 (de a) + prd B (de a) + 1) from fun w => by have := (nI_eq (by omega) (by omega)).mp w; omega), if_pos q3, show nI (p - dcn B (whl nu de a) - 1) - 1 = nI (p - dcn B (whl nu de a) - 1 - 1) from pk_sub (b := 1) (by omega), show p - dcn B (whl nu de a) - 1 - 1 = p - dcn B (whl nu de a) - 2 by omega, m_digitAfter R M h (by omega), Option.bind_some, m_sign, Option.bind_some]
          · rw [if_pos (show nI (p - dcn B (whl nu de a) - 1) = nI (hlen B 10 (de a) + prd B (de a) + 1) by rw [show p - dcn B (whl nu de a) - 1 = hlen B 10 (de a) + prd B (de a) + 1 by omega]), if_neg q3]
