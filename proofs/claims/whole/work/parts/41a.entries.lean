/-! Parts and entries as the other side reads them; the first error. -/
def PT (cs : Nat → Nat) (p t : Nat) (g : Nat → Int32) : Prop := (cs p = 98 ∧ g 1 = nI 98 ∧ ∃ b, 2 ≤ b ∧ b ≤ 16 ∧ g 2 = nI b ∧ ((t = p + 2 ∧ cs (p + 1) = 48 + b ∧ b ≤ 9) ∨ (t = p + 3 ∧ cs (p + 1) = 49 ∧ cs (p + 2) = 38 + b ∧ 10 ≤ b))) ∨ (48 ≤ cs p ∧ cs p < 54 ∧ g 0 = nI (cs p - 48) ∧ (((cs (p + 1) = 43 ∨ cs (p + 1) = 45) ∧ g 1 = nI (cs (p + 1)) ∧ 48 ≤ cs (p + 2) ∧ cs (p + 2) < 54 ∧ g 2 = nI (cs (p + 2) - 48) ∧ t = p + 3) ∨ (cs (p + 1) = 61 ∧ g 1 = nI 61 ∧ ∃ a b c, NT cs (p + 2) t g a b c)))
theorem nt_ge {cs : Nat → Nat} {p t : Nat} {g : Nat → Int32} {a b c : Nat} (h : NT cs p t g a b c) : p + 1 ≤ t := by
  obtain ⟨w1, w2, w3, w4, _, _, _, _, h | ⟨_, _, h | h⟩⟩ := h
  · omega
  · omega
  · omega
theorem isD_59 {c : Nat} (h : isD c = true) : c ≠ 59 ∧ c ≠ 46 ∧ c ≠ 40 ∧ c ≠ 41 := by
  have := isD_iff.mp h
  omega
theorem nt_59 {cs : Nat → Nat} {p t : Nat} {g : Nat → Int32} {a b c : Nat} (h : NT cs p t g a b c) : ∀ j, p ≤ j → j < t → cs j ≠ 59 := by
  intro j h1 h2
  obtain ⟨w1, w2, w3, w4, _, _, _, wd, h | ⟨d46, hd, h⟩⟩ := h
  · have := (isD_59 (wd (j - p) (by omega)).1).1
    rw [show p + (j - p) = j by omega] at this
    exact this
  · rcases Nat.lt_or_ge j (p + a) with q | q
    · have := (isD_59 (wd (j - p) (by omega)).1).1
      rw [show p + (j - p) = j by omega] at this
      exact this
    · rcases Nat.lt_or_ge (p + a) j with q2 | q2
      · rcases Nat.lt_or_ge j (p + a + 1 + b) with q3 | q3
        · have := (isD_59 (hd (j - (p + a + 1)) (by omega)).1).1
          rw [show p + a + 1 + (j - (p + a + 1)) = j by omega] at this
          exact this
        · rcases h with h | ⟨c0, d40, hq, d41, ht⟩
          · omega
          · rcases Nat.lt_or_ge (p + a + 1 + b) j with q4 | q4
            · rcases Nat.lt_or_ge j (p + a + 2 + b + c) with q5 | q5
              · have := (isD_59 (hq (j - (p + a + 2 + b)) (by omega)).1).1
                rw [show p + a + 2 + b + (j - (p + a + 2 + b)) = j by omega] at this
                exact this
              · rw [show j = p + a + 2 + b + c by omega, d41]; decide
            · rw [show j = p + a + 1 + b by omega, d40]; decide
      · rw [show j = p + a by omega, d46]; decide
theorem pt_ge {cs : Nat → Nat} {p t : Nat} {g : Nat → Int32} (h : PT cs p t g) : p + 2 ≤ t := by
  rcases h with ⟨_, _, b, _, _, _, h | h⟩ | ⟨_, _, _, h | ⟨_, _, a, b, c, h⟩⟩
  · omega
  · omega
  · omega
  · have := nt_ge h; omega
theorem pt_59 {cs : Nat → Nat} {p t : Nat} {g : Nat → Int32} (h : PT cs p t g) : ∀ j, p ≤ j → j < t → cs j ≠ 59 := by
  intro j h1 h2
  rcases h with ⟨c0, _, b, _, _, _, h | h⟩ | ⟨c1, c2, _, ⟨c3, _, c4, c5, _, h⟩ | ⟨c3, _, a, b, c, h⟩⟩
  · rcases (show j = p ∨ j = p + 1 by omega) with rfl | rfl <;> omega
  · rcases (show j = p ∨ j = p + 1 ∨ j = p + 2 by omega) with rfl | rfl | rfl <;> omega
  · rcases (show j = p ∨ j = p + 1 ∨ j = p + 2 by omega) with rfl | rfl | rfl <;> omega
  · rcases (show j = p ∨ j = p + 1 ∨ p + 2 ≤ j by omega) with rfl | rfl | q
    · omega
    · omega
    · exact nt_59 h j q h2
theorem nt_congr {cs : Nat → Nat} {p t : Nat} {g g' : Nat → Int32} {a b c : Nat} (h : NT cs p t g a b c) (e : ∀ j, j < 24 → g' j = g j) : NT cs p t g' a b c := by
  obtain ⟨w1, w2, w3, w4, w5, w6, w7, wd, h⟩ := h
  refine ⟨w1, w2, w3, w4, (e 3 (by omega)).trans w5, (e 4 (by omega)).trans w6, (e 5 (by omega)).trans w7, fun j hj => ⟨(wd j hj).1, (e _ (by omega)).trans (wd j hj).2⟩, ?_⟩
  rcases h with h | ⟨d, hd, h⟩
  · exact Or.inl h
  · refine Or.inr ⟨d, fun j hj => ⟨(hd j hj).1, (e _ (by omega)).trans (hd j hj).2⟩, ?_⟩
    rcases h with h | ⟨c0, d40, hq, d41, ht⟩
    · exact Or.inl h
    · exact Or.inr ⟨c0, d40, fun j hj => ⟨(hq j hj).1, (e _ (by omega)).trans (hq j hj).2⟩, d41, ht⟩
theorem pt_congr {cs : Nat → Nat} {p t : Nat} {g g' : Nat → Int32} (h : PT cs p t g) (e : ∀ j, j < 24 → g' j = g j) : PT cs p t g' := by
  rcases h with ⟨c0, g1, b, b1, b2, b3, h⟩ | ⟨c1, c2, g0, ⟨c3, g1, c4, c5, g2, h⟩ | ⟨c3, g1, a, b, c, h⟩⟩
  · exact Or.inl ⟨c0, (e 1 (by omega)).trans g1, b, b1, b2, (e 2 (by omega)).trans b3, h⟩
  · exact Or.inr ⟨c1, c2, (e 0 (by omega)).trans g0, Or.inl ⟨c3, (e 1 (by omega)).trans g1, c4, c5, (e 2 (by omega)).trans g2, h⟩⟩
  · exact Or.inr ⟨c1, c2, (e 0 (by omega)).trans g0, Or.inr ⟨c3, (e 1 (by omega)).trans g1, a, b, c, nt_congr h e⟩⟩
/-- a part's row, cleared up to a place -/
def zf (k e : Nat) (rd : Nat → Int32) : Nat → Int32 := fun j => if k ≤ j ∧ j < k + e then 0 else rd j
theorem zf_up {k e : Nat} {rd : Nat → Int32} : upd (zf k e rd) (k + e) 0 = zf k (e + 1) rd := by
  funext j
  by_cases h : j = k + e
  · subst h
    rw [pk_us]
    exact (if_pos (by omega)).symm
  · rw [pk_un h]
    unfold zf
    by_cases h2 : k ≤ j ∧ j < k + e
    · rw [if_pos h2, if_pos (by omega)]
    · rw [if_neg h2, if_neg (by omega)]
theorem zf_0 {k : Nat} {rd : Nat → Int32} : zf k 0 rd = rd := by funext j; exact if_neg (by omega)
theorem zf_in {k j : Nat} {rd : Nat → Int32} (h : k ≤ j ∧ j < k + 24) : zf k 24 rd j = nI 0 := if_pos h
theorem zf_out {k j : Nat} {rd : Nat → Int32} (h : j < k ∨ k + 24 ≤ j) : zf k 24 rd j = rd j := if_neg (by omega)
theorem m_clear {text : Nat → Int32} {l a w m : Int32} {rd : Nat → Int32} {k : Nat} (hk : k + 24 ≤ 512) : ∀ (t N i : Nat), i + t = 24 → t < N → f_X11_readsPart_b15 N text l a w (zf k i rd) m (nI k) (nI i) = f_X11_readsPart_b15 1 text l a w (zf k 24 rd) m (nI k) (nI 24) := by
  intro t
  induction t with
  | zero =>
    intro N i h hN
    obtain ⟨N, rfl⟩ : ∃ q, N = q + 1 := ⟨N - 1, by omega⟩
    have hi : i = 24 := by omega
    subst hi
    unfold f_X11_readsPart_b15
    have h24 : (24 : Int32) ≤ nI 24 := by decide
    rw [if_pos h24, if_pos h24]
  | succ t ih =>
    intro N i h hN
    obtain ⟨N, rfl⟩ : ∃ q, N = q + 1 := ⟨N - 1, by omega⟩
    have e : f_X11_readsPart_b15 (N + 1) text l a w (zf k i rd) m (nI k) (nI i) = f_X11_readsPart_b15 N text l a w (zf k (i + 1) rd) m (nI k) (nI (i + 1)) := by
      rw [f_X11_readsPart_b15]
      rw [if_neg (show ¬ (24 : Int32) ≤ nI i from fun q => by have := (nI_leI (a := 24) (by decide) (by omega)).mp q; omega), nI_add, if_neg (nI_in (by omega) (by omega)), nI_clamp (by omega), zf_up, nI_1]
    rw [e]
    exact ih N (i + 1) (by omega) (by omega)
theorem m_b197 {text : Nat → Int32} {l a : Int32} {rd : Nat → Int32} {m : Nat} (w : Int32) : f_X11_readsPart_b197 text l a w rd (nI m) = some (a, w, rd, nI (if w = 0 then m else m + 1)) := by
  unfold f_X11_readsPart_b197 f_X11_readsPart_b214
  by_cases h : w = 0
  · rw [if_pos h, if_pos h, show nI m + 0 = nI m from nI_add m 0]
  · rw [if_neg h, if_neg h, nI_1]
theorem m_readsPart {text : Nat → Int32} {cs : Nat → Nat} {n : Nat} (T : Tx text cs n) {rd : Nat → Int32} {p m r : Nat} {iw : Int32} (hm : m ≤ 20) (hp : p < 90) (ha : arun cs p = (1, r)) : ∃ t w rd' M, f_X11_readsPart text (nI n) (nI p) iw rd (nI m) = some (nI t, w, rd', nI M) ∧ (∀ j, j < 24 * m → rd' j = rd j) ∧ ((w = 0 ∧ Bad cs n t) ∨ (w = 1 ∧ M = m + 1 ∧ PE cs n t ∧ PT cs p t (fun j => rd' (24 * m + j)))) := by
  have hc126 := T.2.2.1 p
  have hc2 := T.2.2.1 (p + 1)
  have hc3 := T.2.2.1 (p + 1 + 1)
  have hk : 24 * m + 24 ≤ 512 := by omega
  have e24 : (24 : Int32) * nI m = nI (24 * m) := pk_mul 24 m
  unfold f_X11_readsPart
  rw [e24]
  have hcl := m_clear (text := text) (l := nI n) (a := nI p) (w := 1) (m := nI m) (rd := rd) hk 24 xfuel 0 (by omega) (by unfold xfuel; omega)
  rw [zf_0] at hcl
  refine Exists.elim (show ∃ x, x = f_X11_readsPart_b15 xfuel text (nI n) (nI p) 1 rd (nI m) (nI (24 * m)) (nI 0) from ⟨_, rfl⟩) fun x hx => ?_
  have hx2 : f_X11_readsPart_b15 xfuel text (nI n) (nI p) 1 rd (nI m) (nI (24 * m)) 0 = x := hx.symm
  rw [hx2]
  rw [hcl] at hx
  clear hx2 hcl
  have hz4 : ∀ j, j < 24 → zf (24 * m) 24 rd (24 * m + j) = nI 0 := fun j hj => zf_in (by omega)
  have hzo : ∀ j, j < 24 * m → zf (24 * m) 24 rd j = rd j := fun j hj => zf_out (by omega)
  generalize zf (24 * m) 24 rd = rd0 at *
  unfold f_X11_readsPart_b15 at hx
  rw [if_pos (show (24 : Int32) ≤ nI 24 by decide), m_signAt T (by omega), Option.bind_some] at hx
  have k1 : nI (24 * m) + 1 = nI (24 * m + 1) := nI_add _ 1
  have k2 : nI (24 * m) + 2 = nI (24 * m + 2) := nI_add _ 2
  have p0 : nI p + 0 = nI p := nI_add p 0
  have p1 : nI p + 1 = nI (p + 1) := nI_add p 1
  have i1 : ¬ (nI (24 * m + 1) < 0 ∨ 512 ≤ (nI (24 * m + 1)).toNatClampNeg) := nI_in (by omega) (by omega)
  have i0 : ¬ (nI (24 * m) < 0 ∨ 512 ≤ (nI (24 * m)).toNatClampNeg) := nI_in (by omega) (by omega)
  have i2 : ¬ (nI (24 * m + 2) < 0 ∨ 512 ≤ (nI (24 * m + 2)).toNatClampNeg) := nI_in (by omega) (by omega)
  have l0 : (nI (24 * m)).toNatClampNeg = 24 * m := nI_clamp (by omega)
  have l1 : (nI (24 * m + 1)).toNatClampNeg = 24 * m + 1 := nI_clamp (by omega)
  have l2 : (nI (24 * m + 2)).toNatClampNeg = 24 * m + 2 := nI_clamp (by omega)
  have b181 : ∀ (a w : Int32) (rd : Nat → Int32), f_X11_readsPart_b181 text (nI n) a w rd (nI m) (nI (24 * m)) = (f_X11_takes text (nI n) a w 48 53).bind fun v => some (v.2.1, v.2.2, upd rd (24 * m + 2) v.1, nI (if v.2.2 = 0 then m else m + 1)) := by
    intro a w rd
    unfold f_X11_readsPart_b181
    cases f_X11_takes text (nI n) a w 48 53 with
    | none => rfl
    | some v => rw [Option.bind_some, Option.bind_some, k2, if_neg i2, l2, m_b197]
  by_cases c98 : cs p = 98
  · rw [if_pos (show nI (cs p) = 98 by rw [c98]; rfl), k1, if_neg i1, l1, p1] at hx
    have h4 := arun_s ha (m := 4) (by rw [nx1, if_pos c98])
    rw [if_neg (by decide)] at h4
    obtain ⟨t, w, rd', g1, g2, g3⟩ := m_readsBase T (rd := upd rd0 (24 * m + 1) 98) hk (by omega) h4
    rw [g1, Option.bind_some] at hx
    dsimp only at hx
    rw [m_b197] at hx
    refine ⟨t, w, rd', _, hx, fun j hj => by rw [g2 j (by omega), pk_un (by omega), hzo j hj], ?_⟩
    rcases g3 with g3 | ⟨rfl, g4, b, b1, b2, b3, b4⟩
    · exact Or.inl g3
    · refine Or.inr ⟨rfl, if_neg n1, g4, Or.inl ⟨c98, ?_, b, b1, b2, b3, ?_⟩⟩
      · show rd' (24 * m + 1) = nI 98
        rw [g2 _ (by omega)]; exact pk_us
      · rcases b4 with ⟨q1, q2, q3⟩ | ⟨q1, q2, q3, q4⟩
        · exact Or.inl ⟨by omega, q2, q3⟩
        · exact Or.inr ⟨by omega, q2, q3, q4⟩
  · rw [if_neg (show ¬ nI (cs p) = 98 from fun x => c98 ((nI_eq (b := 98) (by omega) (by decide)).mp x))] at hx
    have e1 : f_X11_takes text (nI n) (nI p) 1 48 53 = _ := m_takes1 T (p := p) (lo := 48) (hi := 53) (by omega) (by omega) (by omega)
    rw [e1, Option.bind_some, if_neg i0, l0] at hx
    by_cases c : 48 ≤ cs p ∧ cs p ≤ 53
    · rw [if_pos c, if_pos c] at hx
      dsimp only at hx
      have hsub : nI (cs p) - 48 = nI (cs p - 48) := pk_sub (b := 48) (by omega)
      rw [if_neg n1, hsub, m_signAt T (by omega), Option.bind_some] at hx
      have h2 := arun_s ha (m := 2) (by rw [nx1, if_neg c98, if_pos (by omega)])
      rw [if_neg (by decide)] at h2
      have p2 : nI (p + 1) + 1 = nI (p + 1 + 1) := nI_add _ 1
      have p10 : nI (p + 1) + 0 = nI (p + 1) := nI_add _ 0
      have hg0 : upd rd0 (24 * m) (nI (cs p - 48)) (24 * m) = nI (cs p - 48) := pk_us
      have hgz : ∀ j, j ≠ 24 * m → upd rd0 (24 * m) (nI (cs p - 48)) j = rd0 j := fun j hj => pk_un hj
      generalize upd rd0 (24 * m) (nI (cs p - 48)) = rd1 at *
      have b147 : ∀ x2 : Int32, f_X11_readsPart_b147 text (nI n) (nI (p + 1)) 1 rd1 (nI m) (nI (24 * m)) x2 1 (nI (p + 1)) = (if x2 = 61 then ((f_X11_readsNumber text (nI n) (nI (p + 1 + 1)) 1 (upd rd1 (24 * m + 1) x2) (nI (24 * m))).bind fun v175 => f_X11_readsPart_b197 text (nI n) v175.1 v175.2.1 v175.2.2 (nI m)) else f_X11_readsPart_b181 text (nI n) (nI (p + 1 + 1)) 1 (upd rd1 (24 * m + 1) x2) (nI m) (nI (24 * m))) := by
        intro x2
        unfold f_X11_readsPart_b147
        rw [k1, if_neg i1, l1, if_neg n1, p2]
      have b122 : ∀ x2 : Int32, f_X11_readsPart_b122 text (nI n) (nI (p + 1)) 1 rd1 (nI m) (nI (24 * m)) x2 = (if x2 = 61 then ((f_X11_readsNumber text (nI n) (nI (p + 1 + 1)) 1 (upd rd1 (24 * m + 1) x2) (nI (24 * m))).bind fun v175 => f_X11_readsPart_b197 text (nI n) v175.1 v175.2.1 v175.2.2 (nI m)) else f_X11_readsPart_b181 text (nI n) (nI (p + 1 + 1)) 1 (upd rd1 (24 * m + 1) x2) (nI m) (nI (24 * m))) := by
        intro x2
        unfold f_X11_readsPart_b122 f_X11_readsPart_b127
        rw [if_neg (by decide), if_neg n1, b147]
      unfold f_X11_readsPart_b102 at hx
      by_cases c61 : cs (p + 1) = 61
      · have e61 : nI (cs (p + 1)) = 61 := by rw [c61]; rfl
        rw [if_pos e61, b122, if_pos e61] at hx
        have h6 := arun_s h2 (m := 6) (by rw [nx2, if_pos c61])
        rw [if_neg (by decide)] at h6
        obtain ⟨t, w, rd', g1, g2, g3⟩ := m_readsNumber T (rd := upd rd1 (24 * m + 1) (nI (cs (p + 1)))) hk (by omega) h6 (by rw [pk_un (by omega), hgz _ (by omega), hz4 4 (by omega)]) (by rw [pk_un (by omega), hgz _ (by omega), hz4 5 (by omega)])
        rw [g1, Option.bind_some] at hx
        dsimp only at hx
        rw [m_b197] at hx
        refine ⟨t, w, rd', _, hx, fun j hj => by rw [g2 j (by omega), pk_un (by omega), hgz _ (by omega), hzo j hj], ?_⟩
        rcases g3 with g3 | ⟨rfl, g4, a, b, c', g5⟩
        · exact Or.inl g3
        · refine Or.inr ⟨rfl, if_neg n1, g4, Or.inr ⟨c.1, by omega, ?_, Or.inr ⟨c61, ?_, a, b, c', g5⟩⟩⟩
          · show rd' (24 * m + 0) = _
            rw [g2 _ (by omega), pk_un (by omega)]; exact hg0
          · show rd' (24 * m + 1) = _
            rw [g2 _ (by omega), pk_us, c61]
      · have e61 : ¬ nI (cs (p + 1)) = 61 := fun x => c61 ((nI_eq (b := 61) (by omega) (by decide)).mp x)
        rw [if_neg e61] at hx
        by_cases cs2 : cs (p + 1) = 43 ∨ cs (p + 1) = 45
        · have hx2 : x = f_X11_readsPart_b122 text (nI n) (nI (p + 1)) 1 rd1 (nI m) (nI (24 * m)) (nI (cs (p + 1))) := by
            by_cases c43 : cs (p + 1) = 43
            · rw [if_pos (show nI (cs (p + 1)) = 43 by rw [c43]; rfl)] at hx; exact hx
            · have c45 : cs (p + 1) = 45 := cs2.elim (fun q => absurd q c43) id
              rw [if_neg (show ¬ nI (cs (p + 1)) = 43 from fun x => c43 ((nI_eq (b := 43) (by omega) (by decide)).mp x)), if_pos (show nI (cs (p + 1)) = 45 by rw [c45]; rfl)] at hx
              exact hx
          rw [b122, if_neg e61, b181] at hx2
          have h3 := arun_s h2 (m := 3) (by rw [nx2, if_neg c61, if_pos cs2])
          rw [if_neg (by decide)] at h3
          have e3 : f_X11_takes text (nI n) (nI (p + 1 + 1)) 1 48 53 = _ := m_takes1 T (p := p + 1 + 1) (lo := 48) (hi := 53) (by omega) (by omega) (by omega)
          rw [e3, Option.bind_some] at hx2
          by_cases d : 48 ≤ cs (p + 1 + 1) ∧ cs (p + 1 + 1) ≤ 53
          · rw [if_pos d, if_pos d, show nI (cs (p + 1 + 1)) - 48 = nI (cs (p + 1 + 1) - 48) from pk_sub (b := 48) (by omega)] at hx2
            dsimp only at hx2
            rw [if_neg n1] at hx2
            have h13 := arun_s h3 (m := 13) (by rw [nx3, if_pos (by omega)])
            rw [if_neg (by decide)] at h13
            refine ⟨p + 1 + 1 + 1, 1, _, _, hx2, fun j hj => by rw [pk_un (by omega), pk_un (by omega), hgz _ (by omega), hzo j hj], Or.inr ⟨rfl, rfl, pe_of T h13 (Or.inr (Or.inr (Or.inr rfl))) (fun h => by rw [nx13, if_neg h]), Or.inr ⟨c.1, by omega, ?_, Or.inl ⟨cs2, ?_, d.1, Nat.lt_succ_of_le d.2, ?_, rfl⟩⟩⟩⟩
            · show upd _ _ _ (24 * m + 0) = _
              rw [pk_un (by omega), pk_un (by omega)]; exact hg0
            · show upd _ _ _ (24 * m + 1) = _
              rw [pk_un (by omega), pk_us]
            · exact pk_us
          · rw [if_neg d, if_neg d] at hx2
            dsimp only at hx2
            rw [if_pos rfl] at hx2
            refine ⟨p + 1 + 1, 0, _, _, hx2, fun j hj => by rw [pk_un (by omega), pk_un (by omega), hgz _ (by omega), hzo j hj], Or.inl ⟨rfl, bad_of T h3 (by decide) (by decide) ?_⟩⟩
            rw [nx3, if_neg (by omega)]
        · rw [if_neg (show ¬ nI (cs (p + 1)) = 43 from fun x => cs2 (Or.inl ((nI_eq (b := 43) (by omega) (by decide)).mp x))), if_neg (show ¬ nI (cs (p + 1)) = 45 from fun x => cs2 (Or.inr ((nI_eq (b := 45) (by omega) (by decide)).mp x)))] at hx
          unfold f_X11_readsPart_b127 f_X11_readsPart_b147 at hx
          rw [if_neg (by decide), if_pos rfl, k1, if_neg i1, l1, if_pos rfl, p10, b181, m_takes0 T (by omega), Option.bind_some] at hx
          dsimp only at hx
          rw [if_pos rfl] at hx
          refine ⟨p + 1, 0, _, _, hx, fun j hj => by rw [pk_un (by omega), pk_un (by omega), hgz _ (by omega), hzo j hj], Or.inl ⟨rfl, bad_of T h2 (by decide) (by decide) ?_⟩⟩
          rw [nx2, if_neg c61, if_neg cs2]
    · rw [if_neg c, if_neg c] at hx
      dsimp only at hx
      rw [if_pos rfl] at hx
      unfold f_X11_readsPart_b102 f_X11_readsPart_b127 f_X11_readsPart_b147 at hx
      rw [if_neg (by decide), if_neg (by decide), if_neg (by decide), if_neg (by decide), if_pos rfl, k1, if_neg i1, l1, if_pos rfl, p0, b181, m_takes0 T (by omega), Option.bind_some] at hx
      dsimp only at hx
      rw [if_pos rfl] at hx
      refine ⟨p, 0, _, _, hx, fun j hj => by rw [pk_un (by omega), pk_un (by omega), pk_un (by omega), hzo j hj], Or.inl ⟨rfl, bad_of T ha (by decide) (by decide) ?_⟩⟩
      rw [nx1, if_neg c98, if_neg (by omega)]
/-- the parts that were read, from one on -/
def Ch (cs : Nat → Nat) (n : Nat) (g : Nat → Int32) : Nat → Nat → Nat → Prop
  | 0, _, _ => False
  | k + 1, p, i => ∃ t, PT cs p t (fun j => g (24 * i + j)) ∧ ((t = n ∧ k = 0) ∨ (t < n ∧ cs t = 59 ∧ Ch cs n g k (t + 1) (i + 1)))
theorem m_ents_loop {text : Nat → Int32} {cs : Nat → Nat} {n : Nat} (T : Tx text cs n) : ∀ (z N t m : Nat) (rd : Nat → Int32), z = n - t → z < N → 3 * m ≤ t + 1 → PE cs n t → ∃ t' w rd' M, f_X11_readsEntries_b14 N text (nI n) (nI t) 1 rd (nI m) = some (w, nI t', w, rd', nI M) ∧ (∀ j, j < 24 * m → rd' j = rd j) ∧ ((w = 0 ∧ Bad cs n t') ∨ (w = 1 ∧ t' = n ∧ PE cs n n ∧ M ≤ 20 ∧ m ≤ M ∧ ((t = n ∧ M = m) ∨ (t < n ∧ cs t = 59 ∧ Ch cs n rd' (M - m) (t + 1) m)))) := by
  have hn := T.1
  intro z
  induction z using Nat.strongRecOn with
  | _ z ih =>
    intro N t m rd hz hN hm hpe
    obtain ⟨N, rfl⟩ : ∃ q, N = q + 1 := ⟨N - 1, by omega⟩
    have hpe2 := hpe
    obtain ⟨ht, hmay, hnx⟩ := hpe
    unfold f_X11_readsEntries_b14
    rw [if_neg n1]
    by_cases q : n ≤ t
    · have htn : t = n := by omega
      subst htn
      rw [if_pos ((nI_leI (by omega) (by omega)).mpr (Nat.le_refl _)), if_neg (by decide)]
      exact ⟨t, 1, rd, m, rfl, fun _ _ => rfl, Or.inr ⟨rfl, rfl, hpe2, by omega, by omega, Or.inl ⟨rfl, rfl⟩⟩⟩
    · have hlt : t < n := by omega
      have e1 : f_X11_takes text (nI n) (nI t) 1 59 59 = _ := m_takes1 T (p := t) (lo := 59) (hi := 59) (by omega) (by omega) (by omega)
      rw [if_neg (fun w => by have := (nI_leI (by omega) (by omega)).mp w; omega)]
      obtain ⟨a1, a2, a3⟩ := arun_ok t (fun w => by rw [w] at hmay; exact absurd hmay (by decide))
      by_cases c : cs t = 59
      · have hc : 59 ≤ cs t ∧ cs t ≤ 59 := by omega
        rw [if_pos hc, if_pos hc] at e1
        rw [e1, Option.bind_some]
        dsimp only
        rw [if_neg n1]
        have hx : nx (arun cs t).1 (arun cs t).2 (cs t) = 1 := by
          rw [c]
          rcases may_iff.mp hmay with h | h | h | h <;> rw [h]
          · rfl
          · rfl
          · rfl
          · rfl
        have h1 : arun cs (t + 1) = (1, 1) := by
          have h := arun_s (cs := cs) (p := t) (e := (arun cs t).1) (r := (arun cs t).2) rfl hx
          rw [if_neg (fun w => by rw [← w] at hmay; exact absurd hmay (by decide))] at h
          exact h
        obtain ⟨t2, w, rd2, M2, g1, g2, g3⟩ := m_readsPart T (rd := rd) (p := t + 1) (m := m) (iw := 1) (by omega) (by omega) h1
        rw [g1, Option.bind_some]
        dsimp only
        rcases g3 with ⟨rfl, gb⟩ | ⟨rfl, rfl, ge, gp⟩
        · obtain ⟨N, rfl⟩ : ∃ q, N = q + 1 := ⟨N - 1, by omega⟩
          unfold f_X11_readsEntries_b14
          rw [if_pos rfl, if_neg (by decide)]
          exact ⟨t2, 0, rd2, M2, rfl, g2, Or.inl ⟨rfl, gb⟩⟩
        · have hge := pt_ge gp
          have hle := ge.1
          obtain ⟨t', w', rd', M, f1, f2, f3⟩ := ih (n - t2) (by omega) N t2 (m + 1) rd2 rfl (by omega) (by omega) ge
          refine ⟨t', w', rd', M, f1, fun j hj => (f2 j (by omega)).trans (g2 j hj), ?_⟩
          rcases f3 with f3 | ⟨f3, f4, f5, f6, f7, f8⟩
          · exact Or.inl f3
          · refine Or.inr ⟨f3, f4, f5, f6, by omega, Or.inr ⟨hlt, c, ?_⟩⟩
            obtain ⟨k, hk⟩ : ∃ k, M - m = k + 1 := ⟨M - m - 1, by omega⟩
            rw [hk]
            refine ⟨t2, ?_, ?_⟩
            · refine pt_congr gp (fun j hj => ?_)
              exact f2 _ (by omega)
            · rcases f8 with ⟨f8, f9⟩ | ⟨f8, f9, f10⟩
              · exact Or.inl ⟨f8, by omega⟩
              · refine Or.inr ⟨f8, f9, ?_⟩
                rw [show M - (m + 1) = k by omega] at f10
                exact f10
      · have hc : ¬ (59 ≤ cs t ∧ cs t ≤ 59) := by omega
        rw [if_neg hc, if_neg hc] at e1
        rw [e1, Option.bind_some]
        dsimp only
        rw [if_pos rfl]
        obtain ⟨N, rfl⟩ : ∃ q, N = q + 1 := ⟨N - 1, by omega⟩
        unfold f_X11_readsEntries_b14
        rw [if_pos rfl, if_neg (by decide)]
        refine ⟨t, 0, rd, m, rfl, fun _ _ => rfl, Or.inl ⟨rfl, ⟨ht, ?_, fun _ => hnx c⟩, fun w => by omega⟩⟩
        intro w; rw [w] at hmay; exact absurd hmay (by decide)
theorem m_ents {text : Nat → Int32} {cs : Nat → Nat} {n : Nat} (T : Tx text cs n) (a w : Int32) (rd : Nat → Int32) (m : Int32) : ∃ t w' rd' M, f_X11_readsEntries text (nI n) a w rd m = some (w', nI t, w', rd', nI M) ∧ ((w' = 0 ∧ Bad cs n t) ∨ (w' = 1 ∧ t = n ∧ PE cs n n ∧ M ≤ 20 ∧ Ch cs n rd' M 0 0)) := by
  have hn := T.1
  obtain ⟨t2, v, rd2, M2, g1, g2, g3⟩ := m_readsPart T (rd := rd) (p := 0) (m := 0) (r := 0) (iw := w) (by omega) (by omega) rfl
  unfold f_X11_readsEntries
  have e : f_X11_readsPart text (nI n) 0 w rd 0 = some (nI t2, v, rd2, nI M2) := g1
  rw [e, Option.bind_some]
  dsimp only
  rcases g3 with ⟨rfl, gb⟩ | ⟨rfl, rfl, ge, gp⟩
  · refine ⟨t2, 0, rd2, M2, ?_, Or.inl ⟨rfl, gb⟩⟩
    rw [show xfuel = 3999999 + 1 from rfl]
    unfold f_X11_readsEntries_b14
    rw [if_pos rfl, if_neg (by decide)]
  · have hge := pt_ge gp
    have hle := ge.1
    obtain ⟨t', w', rd', M, f1, f2, f3⟩ := m_ents_loop T (n - t2) xfuel t2 1 rd2 rfl (by unfold xfuel; omega) (by omega) ge
    refine ⟨t', w', rd', M, f1, ?_⟩
    rcases f3 with f3 | ⟨f3, f4, f5, f6, f7, f8⟩
    · exact Or.inl f3
    · refine Or.inr ⟨f3, f4, f5, f6, ?_⟩
      obtain ⟨k, rfl⟩ : ∃ k, M = k + 1 := ⟨M - 1, by omega⟩
      refine ⟨t2, pt_congr gp (fun j hj => f2 _ (by omega)), ?_⟩
      rcases f8 with ⟨f8, f9⟩ | ⟨f8, f9, f10⟩
      · exact Or.inl ⟨f8, by omega⟩
      · exact Or.inr ⟨f8, f9, f10⟩
