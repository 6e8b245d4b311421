/-! The state of both sides, the saved states, the snapshot. -/
def Sok (c : SC) (ss : Nat → Int32) : Prop := ss 2 = c.2.2.1 ∧ (c.2.2.1 = 0 → ss 1 = -1) ∧ (c.2.2.1 ≠ 0 → ss 1 = c.2.1 ∧ ss 1 ≠ -1)
def Sh (c : SC) (ss : Nat → Int32) : Prop := ∃ B nu de, Rok B nu de ∧ Cok c B nu de ∧ Mok ss B nu de ∧ Sok c ss
theorem Sh.congr {c c' : SC} {ss ss' : Nat → Int32} (h : Sh c ss) (h1 : c'.1 = c.1) (h2 : c'.2.1 = c.2.1) (h3 : c'.2.2.1 = c.2.2.1) (h4 : ∀ j, j < 6 → c'.2.2.2.1 j = c.2.2.2.1 j ∧ c'.2.2.2.2 j = c.2.2.2.2 j) (h5 : ∀ j, j < 15 → ss' j = ss j) : Sh c' ss' := by
  obtain ⟨B, nu, de, R, C, M, S⟩ := h
  refine ⟨B, nu, de, R, ⟨h1.trans C.1, fun a ha => ?_⟩, ⟨(h5 0 (by omega)).trans M.1, fun a ha => ?_⟩, ?_⟩
  · rw [(h4 a ha).1, (h4 a ha).2]; exact C.2 a ha
  · rw [h5 _ (by omega), h5 _ (by omega)]; exact M.2 a ha
  · unfold Sok
    rw [h2, h3, h5 _ (by omega), h5 _ (by omega)]; exact S
/-- copies of the first values -/
def cpf (n : Nat) (f g : Nat → Int32) : Nat → Int32 := fun j => if j < n then f j else g j
theorem cpf_at {n j : Nat} {f g : Nat → Int32} (h : j < n) : cpf n f g j = f j := if_pos h
theorem cpf_up {n : Nat} {f g : Nat → Int32} : upd (cpf n f g) n (f n) = cpf (n + 1) f g := by
  funext j
  by_cases h : j = n
  · subst h; rw [pk_us]; exact (if_pos (by omega)).symm
  · rw [pk_un h]
    by_cases h2 : j < n
    · exact (if_pos h2).trans (if_pos (by omega)).symm
    · exact (if_neg h2).trans (if_neg (by omega)).symm
theorem cpf_0 {f g : Nat → Int32} : cpf 0 f g = g := by funext j; exact if_neg (by omega)
theorem q_take_loop {x xo : SC} : ∀ (t n i : Nat), i + t = 6 → t < n → f_X7_takeFrom_b26 n (x.1, x.2.1, x.2.2.1, cpf i xo.2.2.2.1 x.2.2.2.1, cpf i xo.2.2.2.2 x.2.2.2.2) xo (nI i) = some (x.1, x.2.1, x.2.2.1, cpf 6 xo.2.2.2.1 x.2.2.2.1, cpf 6 xo.2.2.2.2 x.2.2.2.2) := by
  intro t
  induction t with
  | zero =>
    intro n i h hn
    obtain ⟨n, rfl⟩ : ∃ m, n = m + 1 := ⟨n - 1, by omega⟩
    have hi : i = 6 := by omega
    subst hi
    rfl
  | succ t ih =>
    intro n i h hn
    obtain ⟨n, rfl⟩ : ∃ m, n = m + 1 := ⟨n - 1, by omega⟩
    have hin : ¬ (nI i < 0 ∨ 6 ≤ (nI i).toNatClampNeg) := nI_in (by omega) (by omega)
    show (if (6 : Int32) ≤ nI i then _ else (if nI i < 0 ∨ 6 ≤ (nI i).toNatClampNeg then none else (if nI i < 0 ∨ 6 ≤ (nI i).toNatClampNeg then none else (if nI i < 0 ∨ 6 ≤ (nI i).toNatClampNeg then none else (if nI i < 0 ∨ 6 ≤ (nI i).toNatClampNeg then none else f_X7_takeFrom_b26 n (x.1, x.2.1, x.2.2.1, upd (cpf i xo.2.2.2.1 x.2.2.2.1) (nI i).toNatClampNeg (xo.2.2.2.1 (nI i).toNatClampNeg), upd (cpf i xo.2.2.2.2 x.2.2.2.2) (nI i).toNatClampNeg (xo.2.2.2.2 (nI i).toNatClampNeg)) xo (nI i + 1)))))) = _
    rw [if_neg (fun q => by have := (nI_leI (a := 6) (by decide) (by omega)).mp q; omega), if_neg hin, if_neg hin, if_neg hin, if_neg hin, nI_clamp (by omega), cpf_up, cpf_up, nI_1]
    exact ih n (i + 1) (by omega) (by omega)
theorem q_take (x xo : SC) : ∃ c, f_X7_takeFrom x xo = some c ∧ c.1 = xo.1 ∧ c.2.1 = xo.2.1 ∧ c.2.2.1 = xo.2.2.1 ∧ ∀ j, j < 6 → c.2.2.2.1 j = xo.2.2.2.1 j ∧ c.2.2.2.2 j = xo.2.2.2.2 j := by
  have h := q_take_loop (x := (xo.1, xo.2.1, xo.2.2.1, x.2.2.2.1, x.2.2.2.2)) (xo := xo) 6 xfuel 0 (by omega) (by decide)
  refine ⟨(xo.1, xo.2.1, xo.2.2.1, cpf 6 xo.2.2.2.1 x.2.2.2.1, cpf 6 xo.2.2.2.2 x.2.2.2.2), ?_, rfl, rfl, rfl, fun j hj => ⟨cpf_at (f := xo.2.2.2.1) hj, cpf_at (f := xo.2.2.2.2) hj⟩⟩
  unfold f_X7_takeFrom
  rw [cpf_0, cpf_0] at h
  exact h
theorem Sh.take {c xo : SC} {ss ss' : Nat → Int32} (h : Sh xo ss) (e : c.1 = xo.1 ∧ c.2.1 = xo.2.1 ∧ c.2.2.1 = xo.2.2.1 ∧ ∀ j, j < 6 → c.2.2.2.1 j = xo.2.2.2.1 j ∧ c.2.2.2.2 j = xo.2.2.2.2 j) (h5 : ∀ j, j < 15 → ss' j = ss j) : Sh c ss' :=
  h.congr e.1 e.2.1 e.2.2.1 e.2.2.2 h5
def Hs (hist : HC) (states : Nat → Int32) (many : Int32) : Prop := ∃ k nx : Nat, k ≤ 6 ∧ nx < 6 ∧ hist.1 = nI k ∧ many = nI k ∧ hist.2.1 = nI nx ∧ ∀ q, q < k → Sh (hist.2.2 ((nx + 6 - k + q) % 6)) (fun i => states (15 * q + i))
theorem lt6 {x : Nat} (h : x < 6) : x = 0 ∨ x = 1 ∨ x = 2 ∨ x = 3 ∨ x = 4 ∨ x = 5 := by omega
theorem q_push {hist : HC} {k nx : Nat} (x : SC) (hk : k ≤ 6) (hnx : nx < 6) (h1 : hist.1 = nI k) (h2 : hist.2.1 = nI nx) : ∃ c, (c.1 = x.1 ∧ c.2.1 = x.2.1 ∧ c.2.2.1 = x.2.2.1 ∧ ∀ j, j < 6 → c.2.2.2.1 j = x.2.2.2.1 j ∧ c.2.2.2.2 j = x.2.2.2.2 j) ∧ f_X3_push hist x = some (nI (if k = 6 then 6 else k + 1), nI ((nx + 1) % 6), rup hist.2.2 nx c) := by
  obtain ⟨c, e, hc⟩ := q_take (hist.2.2 nx) x
  refine ⟨c, hc, ?_⟩
  have e63 : ∀ t0, f_X3_push_b63 (hist.1, hist.2.1, rup hist.2.2 nx c) x t0 = some (nI (if k = 6 then 6 else k + 1), t0, rup hist.2.2 nx c) := by
    intro t0
    show some ((if 6 < hist.1 + 1 then 6 else hist.1 + 1), t0, rup hist.2.2 nx c) = _
    rw [h1, nI_1]
    by_cases h : k = 6
    · subst h; rw [if_pos rfl]; rfl
    · rw [if_neg h, if_neg (fun q => by have := (c_lt (a := 6) (by decide) (by omega)).mp q; omega)]
  have e41 : f_X3_push_b41 (hist.1, hist.2.1, rup hist.2.2 nx c) x = some (nI (if k = 6 then 6 else k + 1), nI ((nx + 1) % 6), rup hist.2.2 nx c) := by
    show (if 6 ≤ hist.2.1 + 1 then f_X3_push_b63 (hist.1, hist.2.1, rup hist.2.2 nx c) x 0 else f_X3_push_b63 (hist.1, hist.2.1, rup hist.2.2 nx c) x (hist.2.1 + 1)) = _
    rw [e63, e63, h2, nI_1]
    by_cases h : 6 ≤ nx + 1
    · rw [if_pos (show (6 : Int32) ≤ nI (nx + 1) from (nI_leI (a := 6) (by decide) (by omega)).mpr h), show (nx + 1) % 6 = 0 by omega]; rfl
    · rw [if_neg (show ¬ (6 : Int32) ≤ nI (nx + 1) from fun q => h ((nI_leI (a := 6) (by decide) (by omega)).mp q)), show (nx + 1) % 6 = nx + 1 by omega]
  unfold f_X3_push
  rw [h2, if_neg (nI_pos (by omega)), if_neg (fun q => by have := (nI_leI (a := 6) (by decide) (by omega)).mp q; omega)]
  rw [h2] at e41
  rcases lt6 hnx with q | q | q | q | q | q <;> subst q
  · rw [if_pos (by decide), e, Option.bind_some, e41]
  · rw [if_neg (by decide), if_pos (by decide), e, Option.bind_some, e41]
  · rw [if_neg (by decide), if_neg (by decide), if_pos (by decide), e, Option.bind_some, e41]
  · rw [if_neg (by decide), if_neg (by decide), if_neg (by decide), if_pos (by decide), e, Option.bind_some, e41]
  · rw [if_neg (by decide), if_neg (by decide), if_neg (by decide), if_neg (by decide), if_pos (by decide), e, Option.bind_some, e41]
  · rw [if_neg (by decide), if_neg (by decide), if_neg (by decide), if_neg (by decide), if_neg (by decide), if_pos (by decide), e, Option.bind_some, e41]
/-- the model's row of saved states: i cells of a state laid in -/
def sfn (k : Nat) (ss st : Nat → Int32) (i : Nat) : Nat → Int32 := fun j => if 15 * k ≤ j ∧ j < 15 * k + i then ss (j - 15 * k) else st j
theorem sfn_up {k i : Nat} {ss st : Nat → Int32} : upd (sfn k ss st i) (15 * k + i) (ss i) = sfn k ss st (i + 1) := by
  funext j
  by_cases h : j = 15 * k + i
  · subst h
    rw [pk_us]
    unfold sfn
    rw [if_pos (by omega), show 15 * k + i - 15 * k = i by omega]
  · rw [pk_un h]
    unfold sfn
    by_cases h2 : 15 * k ≤ j ∧ j < 15 * k + i
    · rw [if_pos h2, if_pos (by omega)]
    · rw [if_neg h2, if_neg (by omega)]
theorem sfn_0 {k : Nat} {ss st : Nat → Int32} : sfn k ss st 0 = st := by funext j; exact if_neg (by omega)
theorem m_rec_loop {k : Nat} {ss st : Nat → Int32} (hk : k < 6) : ∀ (t n i : Nat), i + t = 15 → t < n → f_X11_records_b50 n ss (sfn k ss st i) (nI k) (nI i) = some (sfn k ss st 15, nI (k + 1)) := by
  intro t
  induction t with
  | zero =>
    intro n i h hn
    obtain ⟨n, rfl⟩ : ∃ m, n = m + 1 := ⟨n - 1, by omega⟩
    have hi : i = 15 := by omega
    subst hi
    show (if (15 : Int32) ≤ nI 15 then some (sfn k ss st 15, nI k + 1) else _) = _
    rw [if_pos (by decide), nI_1]
  | succ t ih =>
    intro n i h hn
    obtain ⟨n, rfl⟩ : ∃ m, n = m + 1 := ⟨n - 1, by omega⟩
    have e15 : (15 : Int32) * nI k + nI i = nI (15 * k + i) := by rw [show (15 : Int32) = nI 15 from rfl, pk_mul, nI_add]
    show (if (15 : Int32) ≤ nI i then _ else (if nI i < 0 ∨ 15 ≤ (nI i).toNatClampNeg then none else (if ((15 : Int32) * nI k + nI i) < 0 ∨ 90 ≤ ((15 : Int32) * nI k + nI i).toNatClampNeg then none else f_X11_records_b50 n ss (upd (sfn k ss st i) ((15 : Int32) * nI k + nI i).toNatClampNeg (ss (nI i).toNatClampNeg)) (nI k) (nI i + 1)))) = _
    rw [e15, if_neg (fun q => by have := (nI_leI (a := 15) (by decide) (by omega)).mp q; omega), if_neg (nI_in (by omega) (by omega)), if_neg (nI_in (by omega) (by omega)), nI_clamp (by omega), nI_clamp (by omega), sfn_up, nI_1]
    exact ih n (i + 1) (by omega) (by omega)
/-- the saved states moved down by one -/
def mvd (st : Nat → Int32) (i : Nat) : Nat → Int32 := fun j => if j < i then st (j + 15) else st j
theorem mvd_up {st : Nat → Int32} {i : Nat} : upd (mvd st i) i (mvd st i (i + 15)) = mvd st (i + 1) := by
  funext j
  by_cases h : j = i
  · subst h
    rw [pk_us]
    unfold mvd
    rw [if_neg (by omega), if_pos (by omega)]
  · rw [pk_un h]
    unfold mvd
    by_cases h2 : j < i
    · rw [if_pos h2, if_pos (by omega)]
    · rw [if_neg h2, if_neg (by omega)]
theorem mvd_0 {st : Nat → Int32} : mvd st 0 = st := by funext j; exact if_neg (by omega)
theorem m_mvd_loop {ss st : Nat → Int32} : ∀ (t n i : Nat), i + t = 75 → t < n → f_X11_records_b11 n ss (mvd st i) (nI 6) (nI i) = f_X11_records_b48 ss (mvd st 75) (nI 5) := by
  intro t
  induction t with
  | zero =>
    intro n i h hn
    obtain ⟨n, rfl⟩ : ∃ m, n = m + 1 := ⟨n - 1, by omega⟩
    have hi : i = 75 := by omega
    subst hi
    show (if (75 : Int32) ≤ nI 75 then f_X11_records_b48 ss (mvd st 75) (nI 6 - 1) else _) = _
    rw [if_pos (by decide), show nI 6 - 1 = nI 5 from pk_sub (a := 6) (b := 1) (by omega)]
  | succ t ih =>
    intro n i h hn
    obtain ⟨n, rfl⟩ : ∃ m, n = m + 1 := ⟨n - 1, by omega⟩
    have e15 : nI i + (15 : Int32) = nI (i + 15) := nI_add i 15
    show (if (75 : Int32) ≤ nI i then _ else (if (nI i + 15) < 0 ∨ 90 ≤ (nI i + 15).toNatClampNeg then none else (if nI i < 0 ∨ 90 ≤ (nI i).toNatClampNeg then none else f_X11_records_b11 n ss (upd (mvd st i) (nI i).toNatClampNeg (mvd st i (nI i + 15).toNatClampNeg)) (nI 6) (nI i + 1)))) = _
    rw [e15, if_neg (fun q => by have := (nI_leI (a := 75) (by decide) (by omega)).mp q; omega), if_neg (nI_in (by omega) (by omega)), if_neg (nI_in (by omega) (by omega)), nI_clamp (by omega), nI_clamp (by omega), mvd_up, nI_1]
    exact ih n (i + 1) (by omega) (by omega)
theorem m_records {ss st : Nat → Int32} {k : Nat} (hk : k ≤ 6) : f_X11_records ss st (nI k) = some (if k = 6 then sfn 5 ss (mvd st 75) 15 else sfn k ss st 15, nI (if k = 6 then 6 else k + 1)) := by
  unfold f_X11_records
  by_cases h : k = 6
  · subst h
    have e := m_mvd_loop (ss := ss) (st := st) 75 xfuel 0 (by omega) (by decide)
    rw [mvd_0] at e
    rw [if_pos rfl, if_pos rfl, if_pos (by decide)]
    refine Eq.trans e ?_
    have e2 := m_rec_loop (k := 5) (ss := ss) (st := mvd st 75) (by omega) 15 xfuel 0 (by omega) (by decide)
    rw [sfn_0] at e2
    exact e2
  · rw [if_neg h, if_neg h, if_neg (show ¬ nI k = 6 from fun q => h ((nI_eq (b := 6) (by omega) (by decide)).mp q))]
    have e2 := m_rec_loop (k := k) (ss := ss) (st := st) (by omega) 15 xfuel 0 (by omega) (by decide)
    rw [sfn_0] at e2
    exact e2
theorem rup_at {r : Nat → SC} {k : Nat} {x : SC} : rup r k x k = x := if_pos rfl
theorem rup_ne {r : Nat → SC} {k j : Nat} {x : SC} (h : j ≠ k) : rup r k x j = r j := if_neg h
/-- a state is saved, on both sides -/
theorem push_ok {hist : HC} {states : Nat → Int32} {many : Int32} {now : SC} {ss : Nat → Int32} (H : Hs hist states many) (h : Sh now ss) : ∃ hist' states' many', f_X3_push hist now = some hist' ∧ f_X11_records ss states many = some (states', many') ∧ Hs hist' states' many' := by
  obtain ⟨k, nx, hk, hnx, h1, h2, h3, h4⟩ := H
  obtain ⟨c, hc, e⟩ := q_push now hk hnx h1 h3
  refine ⟨_, _, _, e, by rw [h2]; exact m_records hk, (if k = 6 then 6 else k + 1), (nx + 1) % 6, by split <;> omega, by omega, rfl, rfl, rfl, ?_⟩
  intro q hq
  show Sh (rup hist.2.2 nx c (((nx + 1) % 6 + 6 - (if k = 6 then 6 else k + 1) + q) % 6)) _
  by_cases hk6 : k = 6
  · subst hk6
    rw [if_pos rfl] at hq
    rw [if_pos rfl, if_pos rfl]
    by_cases hq5 : q = 5
    · subst hq5
      rw [show ((nx + 1) % 6 + 6 - 6 + 5) % 6 = nx by omega, rup_at]
      refine h.take hc (fun j hj => ?_)
      show sfn 5 ss (mvd states 75) 15 (15 * 5 + j) = ss j
      unfold sfn
      rw [if_pos (by omega), show 15 * 5 + j - 15 * 5 = j by omega]
    · rw [rup_ne (by omega)]
      have e2 := h4 (q + 1) (by omega)
      rw [show (nx + 6 - 6 + (q + 1)) % 6 = ((nx + 1) % 6 + 6 - 6 + q) % 6 by omega] at e2
      refine e2.congr rfl rfl rfl (fun _ _ => ⟨rfl, rfl⟩) (fun j hj => ?_)
      show sfn 5 ss (mvd states 75) 15 (15 * q + j) = states (15 * (q + 1) + j)
      unfold sfn mvd
      rw [if_neg (by omega), if_pos (by omega), show 15 * q + j + 15 = 15 * (q + 1) + j by omega]
  · rw [if_neg hk6] at hq
    rw [if_neg hk6, if_neg hk6]
    by_cases hqk : q = k
    · subst hqk
      rw [show ((nx + 1) % 6 + 6 - (q + 1) + q) % 6 = nx by omega, rup_at]
      refine h.take hc (fun j hj => ?_)
      show sfn q ss states 15 (15 * q + j) = ss j
      unfold sfn
      rw [if_pos (by omega), show 15 * q + j - 15 * q = j by omega]
    · rw [rup_ne (by omega)]
      have e2 := h4 q (by omega)
      rw [show (nx + 6 - k + q) % 6 = ((nx + 1) % 6 + 6 - (k + 1) + q) % 6 by omega] at e2
      refine e2.congr rfl rfl rfl (fun _ _ => ⟨rfl, rfl⟩) (fun j hj => ?_)
      show sfn k ss states 15 (15 * q + j) = states (15 * q + j)
      unfold sfn
      rw [if_neg (by omega)]
