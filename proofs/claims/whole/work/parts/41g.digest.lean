/-! The whole digest, on both sides. -/
theorem dig_accounts {c : SC} {ss : Nat → Int32} {B : Nat} {nu de : Nat → Nat} (R : Rok B nu de) (C : Cok c B nu de) (M : Mok ss B nu de) (hist : HC) (ent : EC) (res : RC) (col : CC) (th many : Int32) (text : Nat → Int32) (len : Int32) (tt u : Int64) (ot : Nat → Int32) (om : Int32) (column : Nat → Int32) (cm car chm : Int32) : ∀ (t n n' i : Nat) (x : Int64) (d0 : Nat → Int32) (dm : Int32), i + t = 6 → t < n → t < n' → ∃ y D m, f_X10_digest_b42 n c hist ent res col x (nI i) = f_X10_digest_b70 xfuel c hist ent res col y 0 ∧ f_X11_digest_b45 n' th ss many text len tt u d0 dm ot om column cm car chm x (nI i) = f_X11_digest_b66 xfuel th ss many text len tt u D m ot om column cm car chm y 0 := by
  intro t
  induction t with
  | zero =>
    intro n n' i x d0 dm hi hn hn'
    obtain ⟨n, rfl⟩ : ∃ q, n = q + 1 := ⟨n - 1, by omega⟩
    obtain ⟨n', rfl⟩ : ∃ q, n' = q + 1 := ⟨n' - 1, by omega⟩
    have hi : i = 6 := by omega
    subst hi
    refine ⟨x, d0, dm, ?_, ?_⟩
    · unfold f_X10_digest_b42; rw [if_pos (show (6 : Int32) ≤ nI 6 by decide)]
    · unfold f_X11_digest_b45; rw [if_pos (show (6 : Int32) ≤ nI 6 by decide)]
  | succ t ih =>
    intro n n' i x d0 dm hi hn hn'
    obtain ⟨n, rfl⟩ : ∃ q, n = q + 1 := ⟨n - 1, by omega⟩
    obtain ⟨n', rfl⟩ : ∃ q, n' = q + 1 := ⟨n' - 1, by omega⟩
    obtain ⟨g, g1, g2⟩ := acc_dig R C M (a := i) (by omega)
    obtain ⟨D, m, e1⟩ := g2 x d0 dm
    obtain ⟨y, D', m', e2, e3⟩ := ih n n' (i + 1) (g x) D m (by omega) (by omega) (by omega)
    have h6 : ¬ (6 : Int32) ≤ nI i := fun q => by have := (nI_leI (a := 6) (by decide) (by omega)).mp q; omega
    refine ⟨y, D', m', ?_, ?_⟩
    · unfold f_X10_digest_b42
      rw [if_neg h6]
      have e4 := g1 x
      cases hq : f_X10_mixWhole c x (nI i) with
      | none => rw [hq] at e4; cases e4
      | some v =>
        rw [hq, Option.bind_some] at e4
        rw [Option.bind_some, e4, Option.bind_some, nI_1]
        exact e2
    · unfold f_X11_digest_b45
      rw [if_neg h6, e1, Option.bind_some, nI_1]
      exact e3
theorem dig_pairs {c : SC} {ss : Nat → Int32} {B : Nat} {nu de : Nat → Nat} (R : Rok B nu de) (C : Cok c B nu de) (M : Mok ss B nu de) (hist : HC) (ent : EC) (th many : Int32) (text : Nat → Int32) (len : Int32) : ∀ (t n n' i : Nat) (x : Int64) (res : RC) (col : CC) (tt u : Int64) (d0 : Nat → Int32) (dm : Int32) (ot : Nat → Int32) (om : Int32) (column : Nat → Int32) (cm car chm : Int32), i + t = 6 → t < n → t < n' → ∃ y res' col' tt' u' d0' dm' ot' om' column' cm' car' chm', f_X10_digest_b70 n c hist ent res col x (nI i) = f_X10_digest_b97 xfuel c hist ent res' col' y 0 ∧ f_X11_digest_b66 n' th ss many text len tt u d0 dm ot om column cm car chm x (nI i) = f_X11_digest_b93 xfuel th ss many text len tt' u' d0' dm' ot' om' column' cm' car' chm' y 0 := by
  intro t
  induction t with
  | zero =>
    intro n n' i x res col tt u d0 dm ot om column cm car chm hi hn hn'
    obtain ⟨n, rfl⟩ : ∃ q, n = q + 1 := ⟨n - 1, by omega⟩
    obtain ⟨n', rfl⟩ : ∃ q, n' = q + 1 := ⟨n' - 1, by omega⟩
    have hi : i = 6 := by omega
    subst hi
    refine ⟨x, res, col, tt, u, d0, dm, ot, om, column, cm, car, chm, ?_, ?_⟩
    · unfold f_X10_digest_b70; rw [if_pos (show (6 : Int32) ≤ nI 6 by decide)]
    · unfold f_X11_digest_b66; rw [if_pos (show (6 : Int32) ≤ nI 6 by decide)]
  | succ t ih =>
    intro n n' i x res col tt u d0 dm ot om column cm car chm hi hn hn'
    obtain ⟨n, rfl⟩ : ∃ q, n = q + 1 := ⟨n - 1, by omega⟩
    obtain ⟨n', rfl⟩ : ∃ q, n' = q + 1 := ⟨n' - 1, by omega⟩
    obtain ⟨y, res', col', w, e1, e2⟩ := pair_dig R C M (a := i) (b := (i + 1) % 6) (by omega) (by omega) res col tt u d0 dm ot om column cm car chm x
    have h6 : ¬ (6 : Int32) ≤ nI i := fun q => by have := (nI_leI (a := 6) (by decide) (by omega)).mp q; omega
    have hr : nI (i + 1) - nI (i + 1) / 6 * 6 = nI ((i + 1) % 6) := pk_rem (d := 6) (by omega) (by omega) (by omega)
    obtain ⟨y', res2, col2, tt2, u2, d02, dm2, ot2, om2, column2, cm2, car2, chm2, e3, e4⟩ := ih n n' (i + 1) y res' col' w.1 w.2.1 w.2.2.1 w.2.2.2.1 w.2.2.2.2.1 w.2.2.2.2.2.1 w.2.2.2.2.2.2.1 w.2.2.2.2.2.2.2.1 w.2.2.2.2.2.2.2.2.1 w.2.2.2.2.2.2.2.2.2 (by omega) (by omega) (by omega)
    refine ⟨y', res2, col2, tt2, u2, d02, dm2, ot2, om2, column2, cm2, car2, chm2, ?_, ?_⟩
    · unfold f_X10_digest_b70
      rw [if_neg h6, nI_1, hr, e1, Option.bind_some]
      exact e3
    · unfold f_X11_digest_b66
      rw [if_neg h6, nI_1, hr, e2, Option.bind_some]
      exact e4
theorem dig_shares {c : SC} {ss : Nat → Int32} {B : Nat} {nu de : Nat → Nat} (R : Rok B nu de) (C : Cok c B nu de) (M : Mok ss B nu de) (hist : HC) (ent : EC) (th many : Int32) (text : Nat → Int32) (len : Int32) (res : RC) (col : CC) (tt u : Int64) (d0 : Nat → Int32) (dm : Int32) (ot : Nat → Int32) (om : Int32) (column : Nat → Int32) (cm car chm : Int32) : ∀ (t n n' i : Nat) (x : Int64), i + t = 6 → t < n → t < n' → ∃ y, f_X10_digest_b97 n c hist ent res col x (nI i) = (f_X10_mixTexts c ent y).bind (fun v => some (v, res, col)) ∧ f_X11_digest_b93 n' th ss many text len tt u d0 dm ot om column cm car chm x (nI i) = (if ss 1 = (-1) then f_X11_digest_b140 th ss many text len tt u d0 dm ot om column cm car chm 0 (31 * y) else f_X11_digest_b140 th ss many text len tt u d0 dm ot om column cm car chm 1 (31 * y)) := by
  intro t
  induction t with
  | zero =>
    intro n n' i x hi hn hn'
    obtain ⟨n, rfl⟩ : ∃ q, n = q + 1 := ⟨n - 1, by omega⟩
    obtain ⟨n', rfl⟩ : ∃ q, n' = q + 1 := ⟨n' - 1, by omega⟩
    have hi : i = 6 := by omega
    subst hi
    refine ⟨x, ?_, ?_⟩
    · unfold f_X10_digest_b97; rw [if_pos (show (6 : Int32) ≤ nI 6 by decide)]
    · unfold f_X11_digest_b93; rw [if_pos (show (6 : Int32) ≤ nI 6 by decide)]; rfl
  | succ t ih =>
    intro n n' i x hi hn hn'
    obtain ⟨n, rfl⟩ : ∃ q, n = q + 1 := ⟨n - 1, by omega⟩
    obtain ⟨n', rfl⟩ : ∃ q, n' = q + 1 := ⟨n' - 1, by omega⟩
    obtain ⟨b1, b2⟩ := bits_share R (a := i) (by omega)
    obtain ⟨y, e1, e2⟩ := ih n n' (i + 1) (31 * x + (shr nu de i).toInt64) (by omega) (by omega) (by omega)
    have h6 : ¬ (6 : Int32) ≤ nI i := fun q => by have := (nI_leI (a := 6) (by decide) (by omega)).mp q; omega
    refine ⟨y, ?_, ?_⟩
    · unfold f_X10_digest_b97
      rw [if_neg h6, v_shareOf R C (by omega), Option.bind_some, Sum.elim_inr, b1, Option.bind_some]
      unfold f_X10_mix
      rw [Option.bind_some, nI_1]
      exact e1
    · unfold f_X11_digest_b93
      rw [if_neg h6, m_share R M (by omega), Option.bind_some, b2, Option.bind_some, nI_1]
      exact e2
theorem c_codes {c : SC} {ent : EC} {cs : Nat → Nat} {n : Nat} (T : Tx ent.2.1 cs n) (hl : ent.1 = nI n) (x : Int64) : ∀ (t k i : Nat), i + t = n → t < k → f_X10_mixTexts_b66 k c ent (h1 (fun j => (nI (cs j)).toInt64) x i) (nI i) = some (h1 (fun j => (nI (cs j)).toInt64) x n) := by
  have hn := T.1
  intro t
  induction t with
  | zero =>
    intro k i hi hk
    obtain ⟨k, rfl⟩ : ∃ q, k = q + 1 := ⟨k - 1, by omega⟩
    have hi : i = n := by omega
    subst hi
    unfold f_X10_mixTexts_b66
    rw [hl, if_pos ((nI_leI (by omega) (by omega)).mpr (Nat.le_refl _))]
  | succ t ih =>
    intro k i hi hk
    obtain ⟨k, rfl⟩ : ∃ q, k = q + 1 := ⟨k - 1, by omega⟩
    have e := ih k (i + 1) (by omega) (by omega)
    unfold f_X10_mixTexts_b66
    rw [hl, if_neg (fun q => by have := (nI_leI (by omega) (by omega)).mp q; omega), q_codeAt T (by omega), Option.bind_some]
    unfold f_X10_mix
    rw [Option.bind_some, nI_1]
    exact e
theorem m_codes {ss text : Nat → Int32} {cs : Nat → Nat} {n : Nat} (T : Tx text cs n) (th many : Int32) (tt u : Int64) (d0 : Nat → Int32) (dm : Int32) (ot : Nat → Int32) (om : Int32) (column : Nat → Int32) (cm car chm : Int32) (x : Int64) : ∀ (t k i : Nat), i + t = n → t < k → f_X11_digest_b197 k th ss many text (nI n) tt u d0 dm ot om column cm car chm (h1 (fun j => (nI (cs j)).toInt64) x i) (nI i) = some (h1 (fun j => (nI (cs j)).toInt64) x n, th, tt, u, d0, dm, ot, om, column, cm, car, chm) := by
  have hn := T.1
  intro t
  induction t with
  | zero =>
    intro k i hi hk
    obtain ⟨k, rfl⟩ : ∃ q, k = q + 1 := ⟨k - 1, by omega⟩
    have hi : i = n := by omega
    subst hi
    unfold f_X11_digest_b197
    rw [if_pos ((nI_leI (by omega) (by omega)).mpr (Nat.le_refl _))]
  | succ t ih =>
    intro k i hi hk
    obtain ⟨k, rfl⟩ : ∃ q, k = q + 1 := ⟨k - 1, by omega⟩
    have e := ih k (i + 1) (by omega) (by omega)
    unfold f_X11_digest_b197
    rw [if_neg (fun q => by have := (nI_leI (by omega) (by omega)).mp q; omega), if_neg (nI_in (by omega) (by omega)), nI_clamp (by omega), T.2.1 i (by omega), nI_1]
    exact e
theorem dig_texts {c : SC} {ent : EC} {ss text : Nat → Int32} {len : Int32} (S : Sok c ss) (N : En ent text len) (th many : Int32) (tt u : Int64) (d0 : Nat → Int32) (dm : Int32) (ot : Nat → Int32) (om : Int32) (column : Nat → Int32) (cm car chm : Int32) (y : Int64) : ∃ z w, f_X10_mixTexts c ent y = some z ∧ (if ss 1 = (-1) then f_X11_digest_b140 th ss many text len tt u d0 dm ot om column cm car chm 0 (31 * y) else f_X11_digest_b140 th ss many text len tt u d0 dm ot om column cm car chm 1 (31 * y)) = some (z, w) := by
  obtain ⟨n, cs, hn, k1, k2, T1, T2, -⟩ := en_tx N
  obtain ⟨s1, s2, s3⟩ := S
  have f0 : (0 : Int32).toInt64 = 0 := rfl
  have f1 : (1 : Int32).toInt64 = 1 := rfl
  have hm : ∀ x, f_X10_mixTexts_b50 c ent x = some (h1 (fun j => (nI (cs j)).toInt64) (31 * x + (nI n).toInt64) n) := by
    intro x
    unfold f_X10_mixTexts_b50 f_X10_mix
    rw [Option.bind_some, k1]
    exact c_codes T1 k1 _ n xfuel 0 (by omega) (by unfold xfuel; omega)
  have hM : ∀ x, f_X11_digest_b182 th ss many text len tt u d0 dm ot om column cm car chm x = some (h1 (fun j => (nI (cs j)).toInt64) (31 * x + (nI n).toInt64) n, th, tt, u, d0, dm, ot, om, column, cm, car, chm) := by
    intro x
    unfold f_X11_digest_b182
    rw [k2]
    exact m_codes T2 th many tt u d0 dm ot om column cm car chm _ n xfuel 0 (by omega) (by unfold xfuel; omega)
  unfold f_X10_mixTexts f_X10_mixTexts_b13 f_X11_digest_b140 f_X10_hasStopped
  rw [show (1 : Int32).toNatClampNeg = 1 from rfl, show (2 : Int32).toNatClampNeg = 2 from rfl]
  by_cases z : c.2.2.1 = 0
  · rw [if_pos (s2 z), if_pos (s2 z), if_pos z, Option.bind_some, if_pos rfl]
    unfold f_X10_mix
    rw [Option.bind_some, Option.bind_some, if_pos rfl, hm, hM, f0]
    exact ⟨_, _, rfl, rfl⟩
  · obtain ⟨a1, a2⟩ := s3 z
    rw [if_neg a2, if_neg a2, if_neg z, Option.bind_some, if_neg n1]
    unfold f_X10_mix
    rw [Option.bind_some, Option.bind_some, if_neg n1, Option.bind_some, Option.bind_some, hm, hM, f1, s1, a1]
    exact ⟨_, _, rfl, rfl⟩
theorem op_digest {now : SC} {hist : HC} {ent : EC} {ss states text : Nat → Int32} {many length : Int32} (S : Sh now ss) (H : Hs hist states many) (N : En ent text length) (res : RC) (col : CC) (th : Int32) (tt u : Int64) (d0 : Nat → Int32) (dm : Int32) (ot : Nat → Int32) (om : Int32) (column : Nat → Int32) (cm car chm : Int32) : ∃ P Q, f_X10_digest now hist ent res col = some P ∧ f_X11_digest th ss many text length tt u d0 dm ot om column cm car chm = some Q ∧ P.1 = Q.1 := by
  obtain ⟨B, nu, de, R, C, M, So⟩ := S
  obtain ⟨k, nx, hk, hnx, k1, k2, -, -⟩ := H
  unfold f_X10_digest f_X11_digest
  rw [v_richest R C, m_greatest R M, Option.bind_some]
  unfold f_X10_mix
  rw [Option.bind_some, Option.bind_some, Option.bind_some, Option.bind_some, C.1, k1, k2, z0, M.1]
  obtain ⟨y, D, m, e1, e2⟩ := dig_accounts R C M hist ent res col 0 (nI k) text length tt u ot om column cm car chm 6 xfuel xfuel 0 (31 * (31 * (31 * 4513 + (nI B).toInt64) + (nI (rch nu de 5)).toInt64) + (nI k).toInt64) d0 dm (by omega) (by unfold xfuel; omega) (by unfold xfuel; omega)
  obtain ⟨y2, res2, col2, tt2, u2, d02, dm2, ot2, om2, column2, cm2, car2, chm2, e3, e4⟩ := dig_pairs R C M hist ent 0 (nI k) text length 6 xfuel xfuel 0 y res col tt u D m ot om column cm car chm (by omega) (by unfold xfuel; omega) (by unfold xfuel; omega)
  obtain ⟨y3, e5, e6⟩ := dig_shares R C M hist ent 0 (nI k) text length res2 col2 tt2 u2 d02 dm2 ot2 om2 column2 cm2 car2 chm2 6 xfuel xfuel 0 y2 (by omega) (by unfold xfuel; omega) (by unfold xfuel; omega)
  obtain ⟨z, w, e7, e8⟩ := dig_texts So N 0 (nI k) tt2 u2 d02 dm2 ot2 om2 column2 cm2 car2 chm2 y3
  rw [e7, Option.bind_some] at e5
  rw [e8] at e6
  exact ⟨_, _, Eq.trans e1 (Eq.trans e3 e5), Eq.trans e2 (Eq.trans e4 e6), rfl⟩
