/-! enter and the first error, on both sides. -/
theorem skip_parts {now : SC} {ent : EC} {res : RC} {num : NC} {cs : Nat → Nat} {n p t : Nat} {i : Int32} {s : Int32} (T : Tx ent.2.1 cs n) (hl : ent.1 = nI n) (ht : t ≤ n) (h59 : ∀ j, p ≤ j → j < t → cs j ≠ 59) : ∀ (z N x : Nat), x + z = t → p ≤ x → z < N → f_X10_doParts_b6 N now ent res num i s (nI x) = f_X10_doParts_b6 (N - z) now ent res num i s (nI t) := by
  have hn := T.1
  intro z
  induction z with
  | zero => intro N x hx _ _; rw [← hx]; rfl
  | succ z ih =>
    intro N x hx hp hN
    obtain ⟨N, rfl⟩ : ∃ q, N = q + 1 := ⟨N - 1, by omega⟩
    have hc := T.2.2.1 x
    conv => lhs; unfold f_X10_doParts_b6
    rw [hl, if_neg (fun q => by have := (c_lt (by omega) (by omega)).mp q; omega), if_neg (fun q => by have := (nI_eq (by omega) (by omega)).mp q; omega), q_codeAt T (by omega), Option.bind_some, if_neg (show ¬ nI (cs x) = 59 from fun q => h59 x hp (by omega) ((nI_eq (b := 59) (by omega) (by decide)).mp q))]
    unfold f_X10_doParts_b73
    rw [nI_1, ih N (x + 1) (by omega) (by omega) (by omega), show N + 1 - (z + 1) = N - z by omega]
theorem parts_loop {ent : EC} {rd text states : Nat → Int32} {cs : Nat → Nat} {n M : Nat} {th many len at_ w : Int32} (T : Tx ent.2.1 cs n) (hl : ent.1 = nI n) (hM : M ≤ 20) : ∀ (k p i N N' : Nat) (now : SC) (res : RC) (num : NC) (ss : Nat → Int32) (tt u : Int64), i + k = M → Ch cs n rd k p i → 100 < N + p → k + 1 < N' → now.2.1 = 0 → now.2.2.1 = 0 → Shp now ss → ∃ done why now' res' num' ss' t' u', f_X10_doParts_b6 N now ent res num (nI i) (nI p) (nI p) = some (nI done, now', res', num') ∧ f_X11_enter_b31 N' th ss states many text len at_ w rd (nI M) tt u (nI i) (nI 0) = f_X11_enter_b67 th ss' states many text len at_ w rd (nI M) t' u' (nI done) (nI why) ∧ why ≤ 3 ∧ done ≤ 20 ∧ Shp now' ss' ∧ now'.2.1 = (if why = 0 then 0 else nI done) ∧ now'.2.2.1 = nI why := by
  have hn := T.1
  intro k
  induction k with
  | zero => intro p i N N' now res num ss tt u _ h; exact h.elim
  | succ k ih =>
    intro p i N N' now res num ss tt u hik hch hN hN' s1 s2 S
    obtain ⟨t, K, hch⟩ := hch
    have hge := pt_ge K
    have htn : t ≤ n := by rcases hch with h | h <;> omega
    obtain ⟨kk, now', res', num', ss', t', u', e1, e2, hkk, s3, s4, S'⟩ := part_ok (num := num) (res := res) (tt := tt) (u := u) T htn (by omega) K S
    obtain ⟨N', rfl⟩ : ∃ q, N' = q + 1 := ⟨N' - 1, by omega⟩
    obtain ⟨Q, hQ⟩ : ∃ q, N - (t - p) = q + 1 := ⟨N - (t - p) - 1, by omega⟩
    have e3 : f_X10_doParts_b6 N now ent res num (nI i) (nI p) (nI p) = f_X10_doParts_b41 (f_X10_doParts_b6 Q) now ent res num (nI i) (nI p) (nI t) := by
      rw [skip_parts T hl htn (pt_59 K) (t - p) N p (by omega) (Nat.le_refl _) (by omega), hQ]
      conv => lhs; unfold f_X10_doParts_b6
      rw [hl, if_neg (fun q => by have := (c_lt (by omega) (by omega)).mp q; omega)]
      rcases hch with ⟨h, _⟩ | ⟨h, c, _⟩
      · rw [if_pos (show nI t = nI n by rw [h])]
      · rw [if_neg (fun q => by have := (nI_eq (by omega) (by omega)).mp q; omega), q_codeAt T h, Option.bind_some, if_pos (show nI (cs t) = 59 by rw [c]; rfl)]
    have e24 : (24 : Int32) * nI i = nI (24 * i) := pk_mul 24 i
    have e5 : f_X10_doParts_b6 N now ent res num (nI i) (nI p) (nI p) = (if nI kk = 0 then f_X10_doParts_b6 Q now' ent res' num' (nI i + 1) (nI t + 1) (nI t + 1) else some (nI i, (now'.1, nI i, nI kk, now'.2.2.2.1, now'.2.2.2.2), res', num')) := by
      rw [e3]
      unfold f_X10_doParts_b41
      rw [e1, Option.bind_some]
      rfl
    have e6 : f_X11_enter_b31 (N' + 1) th ss states many text len at_ w rd (nI M) tt u (nI i) (nI 0) = (if nI kk = 0 then f_X11_enter_b31 N' th ss' states many text len at_ w rd (nI M) t' u' (nI i + 1) (nI kk) else f_X11_enter_b31 N' th ss' states many text len at_ w rd (nI M) t' u' (nI i + 0) (nI kk)) := by
      conv => lhs; unfold f_X11_enter_b31
      rw [if_neg (show ¬ nI M ≤ nI i from fun q => by have := (nI_leI (by omega) (by omega)).mp q; omega), if_pos (show nI 0 = 0 from rfl), e24, e2, Option.bind_some]
      rfl
    rw [e5, e6]
    by_cases z : kk = 0
    · subst z
      rw [if_pos (show nI 0 = 0 from rfl), if_pos (show nI 0 = 0 from rfl), nI_1, nI_1]
      rcases hch with ⟨h, rfl⟩ | ⟨h, c, hch⟩
      · obtain ⟨N', rfl⟩ : ∃ q, N' = q + 1 := ⟨N' - 1, by omega⟩
        obtain ⟨Q, rfl⟩ : ∃ q, Q = q + 1 := ⟨Q - 1, by omega⟩
        refine ⟨i + 1, 0, now', res', num', ss', t', u', ?_, ?_, by omega, by omega, S', ?_, ?_⟩
        · unfold f_X10_doParts_b6
          rw [hl, if_pos ((c_lt (by omega) (by omega)).mpr (by omega))]
        · unfold f_X11_enter_b31
          rw [if_pos ((nI_leI (by omega) (by omega)).mpr (by omega))]
        · rw [if_pos rfl, s3, s1]
        · rw [s4, s2]; rfl
      · exact ih (t + 1) (i + 1) Q N' now' res' num' ss' t' u' (by omega) hch (by omega) (by omega) (by rw [s3, s1]) (by rw [s4, s2]) S'
    · rw [if_neg (c_ne0 (by omega) (by omega)), if_neg (c_ne0 (by omega) (by omega))]
      obtain ⟨N', rfl⟩ : ∃ q, N' = q + 1 := ⟨N' - 1, by omega⟩
      refine ⟨i, kk, (now'.1, nI i, nI kk, now'.2.2.2.1, now'.2.2.2.2), res', num', ss', t', u', rfl, ?_, hkk, by omega, ?_, ?_, rfl⟩
      · rw [show nI i + 0 = nI i from nI_add i 0]
        unfold f_X11_enter_b31
        rw [if_neg (show ¬ nI M ≤ nI i from fun q => by have := (nI_leI (by omega) (by omega)).mp q; omega), if_neg (c_ne0 (by omega) (by omega))]
      · obtain ⟨B, nu, de, R, C, M'⟩ := S'
        exact ⟨B, nu, de, R, C, M'⟩
      · rw [if_neg z]
theorem en_tx {ent : EC} {text : Nat → Int32} {length : Int32} (N : En ent text length) : ∃ n cs, n ≤ 60 ∧ ent.1 = nI n ∧ length = nI n ∧ Tx ent.2.1 cs n ∧ Tx text cs n ∧ (∀ i, i < n → cs i ≤ 126 ∧ 33 ≤ cs i) := by
  obtain ⟨n, cs, hn, h1, h2, h3⟩ := N
  have hi : ∀ i, i < n → (if i < n then cs i else 0) = cs i := fun i hi => if_pos hi
  have hz : ∀ i, n ≤ i → (if i < n then cs i else 0) = 0 := fun i hi => if_neg (by omega)
  have hle : ∀ i, (if i < n then cs i else 0) ≤ 126 := fun i => by
    by_cases q : i < n
    · rw [if_pos q]; exact (h3 i q).2.2.2
    · rw [if_neg q]; omega
  refine ⟨n, fun i => if i < n then cs i else 0, hn, h1, h2, ⟨hn, fun i q => ?_, hle, hz, fun i q => ?_⟩, ⟨hn, fun i q => ?_, hle, hz, fun i q => ?_⟩, fun i q => ⟨hle i, ?_⟩⟩
  · show _ = nI (if i < n then cs i else 0)
    rw [hi i q]; exact (h3 i q).1
  · show 33 ≤ (if i < n then cs i else 0)
    rw [hi i q]; exact (h3 i q).2.2.1
  · show _ = nI (if i < n then cs i else 0)
    rw [hi i q]; exact (h3 i q).2.1
  · show 33 ≤ (if i < n then cs i else 0)
    rw [hi i q]; exact (h3 i q).2.2.1
  · show 33 ≤ (if i < n then cs i else 0)
    rw [hi i q]; exact (h3 i q).2.2.1
theorem en_of {e : EC} {ent : EC} {text : Nat → Int32} {length : Int32} (N : En ent text length) (h1 : e.1 = ent.1) (h2 : e.2.1 = ent.2.1) : En e text length := by
  obtain ⟨n, cs, hn, g1, g2, g3⟩ := N
  exact ⟨n, cs, hn, h1.trans g1, g2, fun i hi => by rw [h2]; exact g3 i hi⟩
theorem pe_stk {cs : Nat → Nat} {n : Nat} (h : PE cs n n) : Stk cs n n := by
  refine ⟨Nat.le_refl _, fun w => ?_, fun w => absurd w (Nat.lt_irrefl _)⟩
  have := h.2.1
  rw [w] at this
  exact absurd this (by decide)
theorem op_firstError {ent : EC} {text : Nat → Int32} {length : Int32} (N : En ent text length) (th a w : Int32) (rd : Nat → Int32) (m : Int32) : ∃ P Q, f_X10_firstError ent = some P ∧ f_X11_firstError th text length a w rd m = some Q ∧ P.1 = Q.1 ∧ En P.2 text length := by
  obtain ⟨n, cs, hn, h1, h2, T1, T2, -⟩ := en_tx N
  have hN : ∀ y, En (nI n, ent.2.1, y) text (nI n) := fun y => by
    have h := en_of (e := (nI n, ent.2.1, y)) N h1.symm rfl
    rw [h2] at h
    exact h
  obtain ⟨t, w', rd', M, e1, e2⟩ := m_ents T2 a w rd m
  unfold f_X11_firstError
  rw [h2, e1, Option.bind_some]
  unfold f_X10_firstError
  rcases e2 with ⟨rfl, hb⟩ | ⟨rfl, rfl, hp, -, -⟩
  · obtain ⟨y, f1, -⟩ := q_err T1 h1 hb.1
    rw [f1, Option.bind_some]
    exact ⟨_, _, rfl, if_pos rfl, rfl, hN _⟩
  · obtain ⟨y, f1, -⟩ := q_err T1 h1 (pe_stk hp)
    rw [f1, Option.bind_some]
    exact ⟨_, _, rfl, if_neg n1, rfl, hN _⟩
theorem op_enter {now : SC} {hist : HC} {ent : EC} {ss states text : Nat → Int32} {many length : Int32} (S : Sh now ss) (H : Hs hist states many) (N : En ent text length) (res : RC) (num : NC) (arr : Nat → Int64) (th a w : Int32) (rd : Nat → Int32) (m : Int32) (tt u : Int64) : ∃ P Q, f_L_enter now hist ent res num arr = some P ∧ f_X11_enter th ss states many text length a w rd m tt u = some Q ∧ Op P.1 Q.1 Q.2.1 (P.2.2.2.2.2.2 0) ∧ Sh P.2.1 Q.2.2.1 ∧ Hs P.2.2.1 Q.2.2.2.1 Q.2.2.2.2.1 ∧ En P.2.2.2.1 text Q.2.2.2.2.2.1 := by
  obtain ⟨n, cs, hn, h1, h2, T1, T2, -⟩ := en_tx N
  have hN : ∀ y, En (nI n, ent.2.1, y) text (nI n) := fun y => by
    have h := en_of (e := (nI n, ent.2.1, y)) N h1.symm rfl
    rw [h2] at h
    exact h
  obtain ⟨t, w', rd', M, e1, e2⟩ := m_ents T2 a w rd m
  unfold f_X11_enter f_L_enter f_X10_enter
  rw [h2, e1, Option.bind_some]
  rcases e2 with ⟨rfl, hb⟩ | ⟨rfl, rfl, hp, hM, hch⟩
  · obtain ⟨y, f1⟩ := q_complete T1 h1 hb.1
    rw [if_neg hb.2] at f1
    rw [f1, Option.bind_some, if_pos (show (0 : Int32) = 0 from rfl), if_pos (show (0 : Int32) = 0 from rfl)]
    exact ⟨_, _, rfl, rfl, ⟨rfl, fun q => absurd q n1⟩, S, H, hN _⟩
  · obtain ⟨y, f1⟩ := q_complete T1 h1 (pe_stk hp)
    rw [if_pos ⟨rfl, hp.2.1⟩] at f1
    obtain ⟨hist', states', many', p1, p2, H'⟩ := push_ok H S
    obtain ⟨B, nu, de, R, C, Mo, So⟩ := S
    obtain ⟨done, why, now', res', num', ss', t', u', g1, g2, g3, g4, g5, g6, g7⟩ := parts_loop (ent := (nI t, ent.2.1, y)) (states := states') (th := 0) (many := many') (len := 0) (at_ := nI t) (w := 1) (text := text) T1 rfl hM M 0 0 xfuel xfuel (now.1, 0, 0, now.2.2.2.1, now.2.2.2.2) res num ss tt u (by omega) hch (by unfold xfuel; omega) (by unfold xfuel; omega) rfl rfl ⟨B, nu, de, R, C, Mo⟩
    have g1' : f_X10_doParts (now.1, 0, 0, now.2.2.2.1, now.2.2.2.2) (nI t, ent.2.1, y) res num = some (nI done, now', res', num') := g1
    have k1 : f_X7_stopAt now 0 0 = some (now.1, 0, 0, now.2.2.2.1, now.2.2.2.2) := rfl
    rw [f1, Option.bind_some, if_neg (show ¬ (1 : Int32) = 0 by decide), if_neg (show ¬ (1 : Int32) = 0 by decide), p1, p2, Option.bind_some, Option.bind_some, k1, Option.bind_some, g1', Option.bind_some, Option.bind_some]
    have g2' : f_X11_enter_b31 xfuel 0 ss states' many' text 0 (nI t) 1 rd' (nI M) tt u 0 0 = some (nI done, 0, upd (upd ss' 1 (if why = 0 then -1 else nI done)) 2 (nI why), states', many', 0, nI t, 1, rd', nI M, t', u') := by
      refine Eq.trans g2 ?_
      unfold f_X11_enter_b67 f_X11_enter_b81
      by_cases z : why = 0
      · subst z
        rw [if_pos (show nI 0 = 0 from rfl), if_pos rfl]; rfl
      · rw [if_neg (c_ne0 (by omega) (by omega)), if_neg z]; rfl
    refine ⟨_, _, rfl, g2', ⟨rfl, fun _ => ?_⟩, ?_, H', ?_⟩
    · show vp_updL arr 0 (nI done).toInt64 0 = (nI done).toInt64
      exact pk_uLs
    · obtain ⟨B', nu', de', R', C', M'⟩ := g5
      refine ⟨B', nu', de', R', C', ⟨?_, fun a ha => ?_⟩, ?_, ?_, ?_⟩
      · show upd (upd ss' 1 (if why = 0 then -1 else nI done)) 2 (nI why) 0 = _
        rw [pk_un (by omega), pk_un (by omega)]; exact M'.1
      · show upd (upd ss' 1 (if why = 0 then -1 else nI done)) 2 (nI why) (3 + a) = _ ∧ upd (upd ss' 1 (if why = 0 then -1 else nI done)) 2 (nI why) (9 + a) = _
        rw [pk_un (by omega), pk_un (by omega), pk_un (by omega), pk_un (by omega)]; exact M'.2 a ha
      · show upd (upd ss' 1 (if why = 0 then -1 else nI done)) 2 (nI why) 2 = now'.2.2.1
        rw [pk_us, g7]
      · intro q
        have q : now'.2.2.1 = 0 := q
        show upd (upd ss' 1 (if why = 0 then -1 else nI done)) 2 (nI why) 1 = -1
        have hz : why = 0 := by
          rw [g7] at q
          exact (nI_eq (b := 0) (by omega) (by decide)).mp q
        rw [pk_un (by omega), pk_us, if_pos hz]
      · intro q
        have q : now'.2.2.1 ≠ 0 := q
        have hz : ¬ why = 0 := fun w => q (by rw [g7, w]; rfl)
        rw [if_neg hz] at g6
        show upd (upd ss' 1 (if why = 0 then -1 else nI done)) 2 (nI why) 1 = now'.2.1 ∧ upd (upd ss' 1 (if why = 0 then -1 else nI done)) 2 (nI why) 1 ≠ -1
        rw [pk_un (by omega), pk_us, if_neg hz, g6]
        refine ⟨rfl, fun w => ?_⟩
        have h2 := congrArg Int32.toInt w
        rw [nI_toInt (by omega)] at h2
        have : (-1 : Int32).toInt = -1 := rfl
        omega
    · exact ⟨0, cs, by omega, rfl, rfl, fun i hi => absurd hi (by omega)⟩
