/-! undo, keep, restore; the buffer; the stop. -/
theorem q_pop {hist : HC} {k nx : Nat} (x : SC) (hk : k ≤ 6) (hk0 : 0 < k) (hnx : nx < 6) (h1 : hist.1 = nI k) (h2 : hist.2.1 = nI nx) : ∃ c, (c.1 = (hist.2.2 ((nx + 5) % 6)).1 ∧ c.2.1 = (hist.2.2 ((nx + 5) % 6)).2.1 ∧ c.2.2.1 = (hist.2.2 ((nx + 5) % 6)).2.2.1 ∧ ∀ j, j < 6 → c.2.2.2.1 j = (hist.2.2 ((nx + 5) % 6)).2.2.2.1 j ∧ c.2.2.2.2 j = (hist.2.2 ((nx + 5) % 6)).2.2.2.2 j) ∧ f_X3_pop hist x = some ((nI (k - 1), nI ((nx + 5) % 6), hist.2.2), c) := by
  obtain ⟨c, e, hc⟩ := q_take x (hist.2.2 ((nx + 5) % 6))
  refine ⟨c, hc, ?_⟩
  have hcount : (if (hist.1 - 1) < 0 then 0 else (hist.1 - 1)) = nI (k - 1) := by
    rw [h1, show nI k - 1 = nI (k - 1) from pk_sub (b := 1) (by omega), if_neg (nI_pos (by omega))]
  have e18 : ∀ m, m < 6 → m = (nx + 5) % 6 → f_X3_pop_b18 hist x (nI m) = some ((nI (k - 1), nI m, hist.2.2), c) := by
    intro m hm hmm
    rw [← hmm] at e
    unfold f_X3_pop_b18
    rw [hcount, if_neg (show ¬ 6 ≤ nI m from fun q => by have := (nI_leI (a := 6) (by decide) (by omega)).mp q; omega)]
    rcases lt6 hm with q | q | q | q | q | q <;> subst q
    · rw [if_pos (by decide), e, Option.bind_some]
    · rw [if_neg (by decide), if_pos (by decide), e, Option.bind_some]
    · rw [if_neg (by decide), if_neg (by decide), if_pos (by decide), e, Option.bind_some]
    · rw [if_neg (by decide), if_neg (by decide), if_neg (by decide), if_pos (by decide), e, Option.bind_some]
    · rw [if_neg (by decide), if_neg (by decide), if_neg (by decide), if_neg (by decide), if_pos (by decide), e, Option.bind_some]
    · rw [if_neg (by decide), if_neg (by decide), if_neg (by decide), if_neg (by decide), if_neg (by decide), if_pos (by decide), e, Option.bind_some]
  unfold f_X3_pop
  rw [h2]
  by_cases h : nx = 0
  · subst h
    rw [if_pos (by decide)]
    exact e18 5 (by omega) (by omega)
  · rw [if_neg (nI_nle (by omega) (by omega)), show nI nx - 1 = nI (nx - 1) from pk_sub (b := 1) (by omega), e18 (nx - 1) (by omega) (by omega), show (nx + 5) % 6 = nx - 1 by omega]
theorem m_undo_loop {ss st : Nat → Int32} {k : Nat} (th : Int32) (hk : k < 6) : ∀ (t n i : Nat), i + t = 15 → t < n → f_X11_undo_b30 n th (cpf i (fun j => st (15 * k + j)) ss) st (nI k) (nI i) = some (nI k, th, cpf 15 (fun j => st (15 * k + j)) ss, nI k) := by
  intro t
  induction t with
  | zero =>
    intro n i h hn
    obtain ⟨n, rfl⟩ : ∃ m, n = m + 1 := ⟨n - 1, by omega⟩
    have hi : i = 15 := by omega
    subst hi
    show (if (15 : Int32) ≤ nI 15 then _ else _) = _
    rw [if_pos (by decide)]
  | succ t ih =>
    intro n i h hn
    obtain ⟨n, rfl⟩ : ∃ m, n = m + 1 := ⟨n - 1, by omega⟩
    have e15 : (15 : Int32) * nI k + nI i = nI (15 * k + i) := by rw [show (15 : Int32) = nI 15 from rfl, pk_mul, nI_add]
    have eu := cpf_up (n := i) (f := fun j => st (15 * k + j)) (g := ss)
    show (if (15 : Int32) ≤ nI i then _ else (if ((15 : Int32) * nI k + nI i) < 0 ∨ 90 ≤ ((15 : Int32) * nI k + nI i).toNatClampNeg then none else (if nI i < 0 ∨ 15 ≤ (nI i).toNatClampNeg then none else f_X11_undo_b30 n th (upd (cpf i (fun j => st (15 * k + j)) ss) (nI i).toNatClampNeg (st ((15 : Int32) * nI k + nI i).toNatClampNeg)) st (nI k) (nI i + 1)))) = _
    rw [e15, if_neg (fun q => by have := (nI_leI (a := 15) (by decide) (by omega)).mp q; omega), if_neg (nI_in (by omega) (by omega)), if_neg (nI_in (by omega) (by omega)), nI_clamp (by omega), nI_clamp (by omega), eu, nI_1]
    exact ih n (i + 1) (by omega) (by omega)
theorem op_undo {now : SC} {hist : HC} {ss states : Nat → Int32} {many : Int32} (S : Sh now ss) (H : Hs hist states many) (arr : Nat → Int64) (th : Int32) : ∃ P Q, f_L_undo now hist arr = some P ∧ f_X11_undo th ss states many = some Q ∧ Op P.1 Q.1 Q.2.1 (P.2.2.2 0) ∧ Sh P.2.1 Q.2.2.1 ∧ Hs P.2.2.1 states Q.2.2.2 := by
  obtain ⟨k, nx, hk, hnx, h1, h2, h3, h4⟩ := id H
  by_cases hk0 : k = 0
  · subst hk0
    have e0 : hist.1 = 0 := h1
    have e1 : f_L_undo now hist arr = some (1, now, hist, arr) := by
      simp only [f_L_undo, f_X10_undo, e0, if_true, Option.bind_some, Sum.elim_inl]
    have e2 : f_X11_undo th ss states many = some (0, 1, ss, many) := by
      have e3 : many = 0 := h2
      simp only [f_X11_undo, e3, if_true, f_X11_fails, Option.bind_some]
    exact ⟨_, _, e1, e2, ⟨rfl, fun q => absurd q n1⟩, S, H⟩
  · obtain ⟨c, hc, e⟩ := q_pop now hk (by omega) hnx h1 h3
    have e0 : ¬ hist.1 = 0 := by rw [h1]; exact c_ne0 (by omega) (by omega)
    have e0' : ¬ many = 0 := by rw [h2]; exact c_ne0 (by omega) (by omega)
    have e1 : f_L_undo now hist arr = some (0, c, (nI (k - 1), nI ((nx + 5) % 6), hist.2.2), vp_updL arr 0 (nI (k - 1)).toInt64) := by
      simp only [f_L_undo, f_X10_undo, e0, if_false, e, Option.bind_some, Sum.elim_inr, z0]
    have e2 : f_X11_undo th ss states many = some (nI (k - 1), 0, cpf 15 (fun j => states (15 * (k - 1) + j)) ss, nI (k - 1)) := by
      have e3 := m_undo_loop (ss := ss) (st := states) (k := k - 1) 0 (by omega) 15 xfuel 0 (by omega) (by decide)
      rw [cpf_0] at e3
      have e5 : many - 1 = nI (k - 1) := by rw [h2]; exact pk_sub (b := 1) (by omega)
      simp only [f_X11_undo, e0', if_false, e5]
      exact e3
    have hq := h4 (k - 1) (by omega)
    rw [show (nx + 6 - k + (k - 1)) % 6 = (nx + 5) % 6 by omega] at hq
    refine ⟨_, _, e1, e2, ⟨rfl, fun _ => ?_⟩, hq.take hc (fun j hj => ?_), k - 1, (nx + 5) % 6, by omega, by omega, rfl, rfl, rfl, fun q hq => ?_⟩
    · show vp_updL arr 0 (nI (k - 1)).toInt64 0 = _
      rw [pk_uLs]
    · exact cpf_at (f := fun j => states (15 * (k - 1) + j)) hj
    · have := h4 q (by omega)
      rw [show (nx + 6 - k + q) % 6 = ((nx + 5) % 6 + 6 - (k - 1) + q) % 6 by omega] at this
      exact this
/-- the snapshot of both sides -/
def Sn (snap : SC) (has : Int32) (snapshot : Nat → Int32) (hasS : Int32) : Prop := hasS = has ∧ (has ≠ 0 → Sh snap snapshot)
theorem m_keep_loop {ss sn : Nat → Int32} (th h0 : Int32) : ∀ (t n i : Nat), i + t = 15 → t < n → f_X11_keep_b7 n th ss (cpf i ss sn) h0 (nI i) = some (ss 0, th, cpf 15 ss sn, 1) := by
  intro t
  induction t with
  | zero =>
    intro n i h hn
    obtain ⟨n, rfl⟩ : ∃ m, n = m + 1 := ⟨n - 1, by omega⟩
    have hi : i = 15 := by omega
    subst hi
    show (if (15 : Int32) ≤ nI 15 then _ else _) = _
    rw [if_pos (by decide)]; rfl
  | succ t ih =>
    intro n i h hn
    obtain ⟨n, rfl⟩ : ∃ m, n = m + 1 := ⟨n - 1, by omega⟩
    show (if (15 : Int32) ≤ nI i then _ else (if nI i < 0 ∨ 15 ≤ (nI i).toNatClampNeg then none else (if nI i < 0 ∨ 15 ≤ (nI i).toNatClampNeg then none else f_X11_keep_b7 n th ss (upd (cpf i ss sn) (nI i).toNatClampNeg (ss (nI i).toNatClampNeg)) h0 (nI i + 1)))) = _
    rw [if_neg (fun q => by have := (nI_leI (a := 15) (by decide) (by omega)).mp q; omega), if_neg (nI_in (by omega) (by omega)), if_neg (nI_in (by omega) (by omega)), nI_clamp (by omega), cpf_up, nI_1]
    exact ih n (i + 1) (by omega) (by omega)
theorem op_keep {now snap : SC} {ss sn : Nat → Int32} (has hasS : Int32) (S : Sh now ss) (th : Int32) : ∃ P Q, f_X10_keep now snap has = some P ∧ f_X11_keep th ss sn hasS = some Q ∧ P.1 = Q.1 ∧ Sn P.2.1 P.2.2 Q.2.2.1 Q.2.2.2 := by
  obtain ⟨c, e, hc⟩ := q_take snap now
  have e3 := m_keep_loop (ss := ss) (sn := sn) 0 hasS 15 xfuel 0 (by omega) (by decide)
  rw [cpf_0] at e3
  have e1 : f_X10_keep now snap has = some (now.1, c, 1) := by
    simp only [f_X10_keep, e, Option.bind_some]
  refine ⟨_, _, e1, e3, ?_, rfl, fun _ => S.take hc (fun j hj => cpf_at hj)⟩
  obtain ⟨B, nu, de, R, C, M, T⟩ := S
  exact C.1.trans M.1.symm
theorem m_rest_loop {ss sn st : Nat → Int32} (th m h0 : Int32) : ∀ (t n i : Nat), i + t = 15 → t < n → f_X11_restore_b24 n th (cpf i sn ss) st m sn h0 (nI i) = some (cpf 15 sn ss 0, th, cpf 15 sn ss, st, m) := by
  intro t
  induction t with
  | zero =>
    intro n i h hn
    obtain ⟨n, rfl⟩ : ∃ m, n = m + 1 := ⟨n - 1, by omega⟩
    have hi : i = 15 := by omega
    subst hi
    show (if (15 : Int32) ≤ nI 15 then _ else _) = _
    rw [if_pos (by decide)]; rfl
  | succ t ih =>
    intro n i h hn
    obtain ⟨n, rfl⟩ : ∃ m, n = m + 1 := ⟨n - 1, by omega⟩
    show (if (15 : Int32) ≤ nI i then _ else (if nI i < 0 ∨ 15 ≤ (nI i).toNatClampNeg then none else (if nI i < 0 ∨ 15 ≤ (nI i).toNatClampNeg then none else f_X11_restore_b24 n th (upd (cpf i sn ss) (nI i).toNatClampNeg (sn (nI i).toNatClampNeg)) st m sn h0 (nI i + 1)))) = _
    rw [if_neg (fun q => by have := (nI_leI (a := 15) (by decide) (by omega)).mp q; omega), if_neg (nI_in (by omega) (by omega)), if_neg (nI_in (by omega) (by omega)), nI_clamp (by omega), cpf_up, nI_1]
    exact ih n (i + 1) (by omega) (by omega)
theorem op_restore {now snap : SC} {hist : HC} {ss states sn : Nat → Int32} {many has hasS : Int32} (S : Sh now ss) (H : Hs hist states many) (N : Sn snap has sn hasS) (arr : Nat → Int64) (th : Int32) : ∃ P Q, f_L_restore now snap has hist arr = some P ∧ f_X11_restore th ss states many sn hasS = some Q ∧ Op P.1 Q.1 Q.2.1 (P.2.2.2 0) ∧ Sh P.2.1 Q.2.2.1 ∧ Hs P.2.2.1 Q.2.2.2.1 Q.2.2.2.2 := by
  obtain ⟨rfl, N2⟩ := N
  by_cases h0 : hasS = 0
  · have e1 : f_L_restore now snap hasS hist arr = some (1, now, hist, arr) := by
      simp only [f_L_restore, f_X10_restore, h0, if_true, Option.bind_some, Sum.elim_inl]
    have e2 : f_X11_restore th ss states many sn hasS = some (0, 1, ss, states, many) := by
      simp only [f_X11_restore, h0, if_true, f_X11_fails, Option.bind_some]
    exact ⟨_, _, e1, e2, ⟨rfl, fun q => absurd q n1⟩, S, H⟩
  · obtain ⟨hist', states', many', e1, e2, H'⟩ := push_ok H S
    obtain ⟨c, e, hc⟩ := q_take now snap
    have S' := N2 h0
    have S2 : Sh c (cpf 15 sn ss) := S'.take hc (fun j hj => cpf_at hj)
    have e3 := m_rest_loop (ss := ss) (sn := sn) (st := states') 0 many' hasS 15 xfuel 0 (by omega) (by decide)
    rw [cpf_0] at e3
    have e4 : f_L_restore now snap hasS hist arr = some (0, c, hist', vp_updL arr 0 c.1.toInt64) := by
      simp only [f_L_restore, f_X10_restore, h0, if_false, e1, e, Option.bind_some, Sum.elim_inr, z0]
    have e5 : f_X11_restore th ss states many sn hasS = some (cpf 15 sn ss 0, 0, cpf 15 sn ss, states', many') := by
      simp only [f_X11_restore, h0, if_false, e2, Option.bind_some]
      exact e3
    refine ⟨_, _, e4, e5, ⟨rfl, fun _ => ?_⟩, S2, H'⟩
    show vp_updL arr 0 c.1.toInt64 0 = (cpf 15 sn ss 0).toInt64
    obtain ⟨B, nu, de, R, C, M, T⟩ := S2
    rw [pk_uLs, C.1, M.1]
/-- the buffer of both sides -/
def En (ent : EC) (text : Nat → Int32) (length : Int32) : Prop := ∃ (n : Nat) (cs : Nat → Nat), n ≤ 60 ∧ ent.1 = nI n ∧ length = nI n ∧ ∀ i, i < n → ent.2.1 i = nI (cs i) ∧ text i = nI (cs i) ∧ 33 ≤ cs i ∧ cs i ≤ 126
theorem op_append {ent : EC} {text : Nat → Int32} {length : Int32} (N : En ent text length) (arr : Nat → Int64) (th x : Int32) : ∃ P Q, f_L_append ent arr x = some P ∧ f_X11_append th text length x = some Q ∧ Op P.1 Q.1 Q.2.1 (P.2.2 0) ∧ En P.2.1 Q.2.2.1 Q.2.2.2 := by
  obtain ⟨n, cs, hn, h1, h2, h3⟩ := id N
  by_cases x1 : x < 33
  · have e1 : f_L_append ent arr x = some (1, ent, arr) := by
      simp only [f_L_append, f_X10_append, f_X10_append_b12, x1, if_true, Option.bind_some, Sum.elim_inl]
    have e2 : f_X11_append th text length x = some (0, 1, text, length) := by
      simp only [f_X11_append, f_X11_in, x1, if_true, f_X11_fails, Option.bind_some]
    exact ⟨_, _, e1, e2, ⟨rfl, fun q => absurd q n1⟩, N⟩
  · by_cases x2 : x ≤ 126
    · have x3 : ¬ 126 < x := Int32.not_lt.mpr x2
      have x0 : ¬ x < 0 := fun q => x1 (Int32.lt_trans q (by decide))
      obtain ⟨c, hc, rfl⟩ := nI_of2 (n := 126) (M := 126) rfl x0 x2
      have hc1 : 33 ≤ c := by
        rcases Nat.lt_or_ge c 33 with q | q
        · exact absurd ((c_lt (b := 33) (by omega) (by decide)).mpr q) x1
        · exact q
      by_cases hf : n < 60
      · have f1 : ent.1 < 60 := by rw [h1]; exact (c_lt (b := 60) (by omega) (by decide)).mpr hf
        have f2 : ¬ ent.1 < 0 := by rw [h1]; exact nI_pos (by omega)
        have f3 : ¬ 60 ≤ ent.1 := Int32.not_le.mpr f1
        have f4 : ¬ (ent.1 < 0 ∨ 60 ≤ ent.1.toNatClampNeg) := by rw [h1]; exact nI_in (by omega) (by omega)
        have f5 : ent.1.toNatClampNeg = n := by rw [h1]; exact nI_clamp (by omega)
        have f6 : ent.1 + 1 = nI (n + 1) := by rw [h1, nI_1]
        have g1 : ¬ length = 60 := by rw [h2]; exact fun q => by have := (nI_eq (b := 60) (by omega) (by decide)).mp q; omega
        have g4 : ¬ (length < 0 ∨ 60 ≤ length.toNatClampNeg) := by rw [h2]; exact nI_in (by omega) (by omega)
        have g5 : length.toNatClampNeg = n := by rw [h2]; exact nI_clamp (by omega)
        have g6 : length + 1 = nI (n + 1) := by rw [h2, nI_1]
        have e1 : f_L_append ent arr (nI c) = some (0, (nI (n + 1), upd ent.2.1 n (nI c), ent.2.2.1, ent.2.2.2), vp_updL arr 0 (nI (n + 1)).toInt64) := by
          have f7 : ¬ 60 ≤ n := by omega
          simp only [f_L_append, f_X10_append, x1, x2, f1, if_true, if_false, f_X2_put, f2, f3, f5, f6, false_or, f7, Option.bind_some, Sum.elim_inr, z0]
        have e2 : f_X11_append th text length (nI c) = some (nI (n + 1), 0, upd text n (nI c), nI (n + 1)) := by
          rw [g5] at g4
          simp only [f_X11_append, f_X11_in, x1, x3, if_false, n1, g1, g4, g5, g6, Option.bind_some]
        refine ⟨_, _, e1, e2, ⟨rfl, fun _ => ?_⟩, n + 1, stv cs n c, by omega, rfl, rfl, fun i hi => ?_⟩
        · show vp_updL arr 0 (nI (n + 1)).toInt64 0 = _
          rw [pk_uLs]
        · show upd ent.2.1 n (nI c) i = _ ∧ upd text n (nI c) i = _ ∧ _
          by_cases hin : i = n
          · subst hin; rw [pk_us, pk_us, stv_at]; exact ⟨rfl, rfl, hc1, hc⟩
          · rw [pk_un hin, pk_un hin, stv_ne hin]; exact h3 i (by omega)
      · have f1 : ¬ ent.1 < 60 := by rw [h1]; exact fun q => hf ((c_lt (b := 60) (by omega) (by decide)).mp q)
        have g1 : length = 60 := by rw [h2, show n = 60 by omega]; rfl
        have e1 : f_L_append ent arr (nI c) = some (2, ent, arr) := by
          simp only [f_L_append, f_X10_append, x1, x2, f1, if_true, if_false, Option.bind_some, Sum.elim_inl, d32]
        have e2 : f_X11_append th text length (nI c) = some (0, 2, text, length) := by
          simp only [f_X11_append, f_X11_in, x1, x3, if_false, n1, g1, if_true, f_X11_fails, Option.bind_some]
        exact ⟨_, _, e1, e2, ⟨rfl, fun q => absurd q n2⟩, N⟩
    · have x3 : 126 < x := Int32.not_le.mp x2
      have e1 : f_L_append ent arr x = some (1, ent, arr) := by
        simp only [f_L_append, f_X10_append, f_X10_append_b12, x1, x2, if_true, if_false, Option.bind_some, Sum.elim_inl]
      have e2 : f_X11_append th text length x = some (0, 1, text, length) := by
        simp only [f_X11_append, f_X11_in, x1, x3, if_true, if_false, f_X11_fails, Option.bind_some]
      exact ⟨_, _, e1, e2, ⟨rfl, fun q => absurd q n1⟩, N⟩
theorem op_clear {ent : EC} {text : Nat → Int32} {length : Int32} (N : En ent text length) (th : Int32) : ∃ P Q, f_X10_clearBuffer ent = some P ∧ f_X11_clearBuffer th length = some Q ∧ P.1 = Q.1 ∧ En P.2 text Q.2.2 := by
  obtain ⟨n, cs, hn, h1, h2, h3⟩ := N
  exact ⟨_, _, rfl, rfl, h1.trans h2.symm, 0, cs, by omega, rfl, rfl, fun i hi => absurd hi (by omega)⟩
theorem op_stopped {now : SC} {ss : Nat → Int32} (S : Sh now ss) (th : Int32) : ∃ v Q, f_X10_hasStopped now = some v ∧ f_X11_hasStopped th ss = some Q ∧ v = Q.1 := by
  obtain ⟨B, nu, de, R, C, M, T1, T2, T3⟩ := S
  by_cases h : now.2.2.1 = 0
  · have e1 : f_X10_hasStopped now = some 0 := by simp only [f_X10_hasStopped, h, if_true]
    have e2 : f_X11_hasStopped th ss = some (0, 0) := by
      unfold f_X11_hasStopped
      rw [show (1 : Int32).toNatClampNeg = 1 from rfl, if_pos (T2 h)]
    exact ⟨_, _, e1, e2, rfl⟩
  · have e1 : f_X10_hasStopped now = some 1 := by simp only [f_X10_hasStopped, h, if_false]
    have e2 : f_X11_hasStopped th ss = some (1, 0) := by
      unfold f_X11_hasStopped
      rw [show (1 : Int32).toNatClampNeg = 1 from rfl, if_neg (T3 h).2]
    exact ⟨_, _, e1, e2, rfl⟩
theorem op_stoppedPart {now : SC} {ss : Nat → Int32} (S : Sh now ss) (arr : Nat → Int64) (th : Int32) : ∃ P Q, f_L_stoppedPart now arr = some P ∧ f_X11_stoppedPart th ss = some Q ∧ Op P.1 Q.1 Q.2 (P.2 0) := by
  obtain ⟨B, nu, de, R, C, M, T1, T2, T3⟩ := S
  by_cases h : now.2.2.1 = 0
  · have e1 : f_L_stoppedPart now arr = some (1, arr) := by simp only [f_L_stoppedPart, f_X10_stoppedPart, f_X10_requireStop, h, if_true, Option.bind_some, Sum.elim_inl]
    have e2 : f_X11_stoppedPart th ss = some (0, 1) := by
      unfold f_X11_stoppedPart
      rw [show (1 : Int32).toNatClampNeg = 1 from rfl, if_pos (T2 h)]; rfl
    exact ⟨_, _, e1, e2, rfl, fun q => absurd q n1⟩
  · have e1 : f_L_stoppedPart now arr = some (0, vp_updL arr 0 now.2.1.toInt64) := by simp only [f_L_stoppedPart, f_X10_stoppedPart, f_X10_requireStop, h, if_false, Option.bind_some, Sum.elim_inr, z0]
    have e2 : f_X11_stoppedPart th ss = some (ss 1, 0) := by
      unfold f_X11_stoppedPart
      rw [show (1 : Int32).toNatClampNeg = 1 from rfl, if_neg (T3 h).2]
    refine ⟨_, _, e1, e2, rfl, fun _ => ?_⟩
    show vp_updL arr 0 now.2.1.toInt64 0 = (ss 1).toInt64
    rw [pk_uLs, (T3 h).1]
theorem op_whyStopped {now : SC} {ss : Nat → Int32} (S : Sh now ss) (arr : Nat → Int64) (th : Int32) : ∃ P Q, f_L_whyStopped now arr = some P ∧ f_X11_whyStopped th ss = some Q ∧ Op P.1 Q.1 Q.2 (P.2 0) := by
  obtain ⟨B, nu, de, R, C, M, T1, T2, T3⟩ := S
  by_cases h : now.2.2.1 = 0
  · have e1 : f_L_whyStopped now arr = some (1, arr) := by simp only [f_L_whyStopped, f_X10_whyStopped, f_X10_requireStop, h, if_true, Option.bind_some, Sum.elim_inl]
    have e2 : f_X11_whyStopped th ss = some (0, 1) := by
      unfold f_X11_whyStopped
      rw [show (1 : Int32).toNatClampNeg = 1 from rfl, if_pos (T2 h)]; rfl
    exact ⟨_, _, e1, e2, rfl, fun q => absurd q n1⟩
  · have e1 : f_L_whyStopped now arr = some (0, vp_updL arr 0 now.2.2.1.toInt64) := by simp only [f_L_whyStopped, f_X10_whyStopped, f_X10_requireStop, h, if_false, Option.bind_some, Sum.elim_inr, z0]
    have e2 : f_X11_whyStopped th ss = some (ss 2, 0) := by
      unfold f_X11_whyStopped
      rw [show (1 : Int32).toNatClampNeg = 1 from rfl, if_neg (T3 h).2]; rfl
    refine ⟨_, _, e1, e2, rfl, fun _ => ?_⟩
    show vp_updL arr 0 now.2.2.1.toInt64 0 = (ss 2).toInt64
    rw [pk_uLs, T1]
