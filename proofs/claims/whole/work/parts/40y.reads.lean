/-! Numbers and bases as the other side reads them. -/
theorem isD_no {c : Nat} (h : ¬ isD c = true) : ¬ ((48 ≤ c ∧ c ≤ 57) ∨ (97 ≤ c ∧ c ≤ 102)) := fun q => h (isD_iff.mpr q)
theorem m_b93 {text : Nat → Int32} {cs : Nat → Nat} {n : Nat} (T : Tx text cs n) {rd : Nat → Int32} {s k e r : Nat} (hk : k + 24 ≤ 512) (hs : s < 200) (ha : arun cs s = (e, r)) (he : (e = 9 ∧ cs s = 40) ∨ (e = 10 ∧ (r < 4 → ¬ isD (cs s) = true))) : ∃ t w rd' q, f_X11_readsNumber_b93 text (nI n) (nI s) 1 rd (nI k) = some (nI t, w, rd') ∧ (∀ j, (j ≠ k + 5 ∧ (j < k + 18 ∨ k + 22 ≤ j)) → rd' j = rd j) ∧ ((w = 0 ∧ Bad cs n t) ∨ (w = 1 ∧ PE cs n t ∧ q ≤ 4 ∧ ((q = 0 ∧ e = 10 ∧ t = s ∧ rd' = rd) ∨ (0 < q ∧ rd' (k + 5) = nI q ∧ cs s = 40 ∧ (∀ j, j < q → isD (cs (s + 1 + j)) = true ∧ rd' (k + 18 + j) = nI (dgv (cs (s + 1 + j)))) ∧ cs (s + 1 + q) = 41 ∧ t = s + 2 + q)))) := by
  have hc126 := T.2.2.1 s
  unfold f_X11_readsNumber_b93
  rw [if_neg n1, m_signAt T (by omega), Option.bind_some]
  by_cases c40 : cs s = 40
  · have hx : nx e r (cs s) = 11 := by
      rcases he with ⟨rfl, _⟩ | ⟨rfl, _⟩
      · rw [nx9, if_pos c40]
      · rw [nx10, c40, if_neg (by decide), if_pos rfl]
    have hne : ¬ 11 = e := by
      rcases he with ⟨rfl, _⟩ | ⟨rfl, _⟩ <;> decide
    have h11 := arun_s ha hx
    rw [if_neg hne] at h11
    have hc : nI (cs s) = 40 := by rw [c40]; rfl
    have e1 : f_X11_takesDigits text (nI n) (nI s + 1) 1 rd (nI k + 18) 4 = some (nI (dl cs 4 (s + 1)), nI (s + 1 + dl cs 4 (s + 1)), if dl cs 4 (s + 1) = 0 then 0 else 1, rdf cs rd (k + 18) (s + 1) (dl cs 4 (s + 1))) := by
      rw [nI_1, show nI k + 18 = nI (k + 18) from nI_add k 18]
      exact m_takesDigits T (most := 4) (by omega) (by omega) (by omega)
    rw [if_pos hc, e1, Option.bind_some, show nI k + 5 = nI (k + 5) from nI_add k 5, if_neg (nI_in (by omega) (by omega)), nI_clamp (by omega)]
    have hq4 := dl_le (cs := cs) 4 (s + 1)
    have hqa := dl_all (cs := cs) 4 (s + 1)
    have hqs := dl_stop (cs := cs) 4 (s + 1)
    clear e1
    generalize dl cs 4 (s + 1) = q at *
    dsimp only
    by_cases q0 : q = 0
    · subst q0
      rw [if_pos rfl, m_takes0 T (by omega), Option.bind_some]
      refine ⟨s + 1, 0, _, 0, rfl, fun j hj => ?_, Or.inl ⟨rfl, ?_⟩⟩
      · rw [pk_un hj.1, rdf_0]
      · refine bad_of T h11 (by decide) (by decide) ?_
        have h := hqs (by decide)
        rw [Nat.add_zero] at h
        rw [nx11, if_neg (isD_no h)]
    · have q1 : 0 < q := by omega
      have d0 := isD_iff.mp (hqa 0 q1)
      rw [Nat.add_zero] at d0
      have h12 : arun cs (s + 1 + q) = (12, q) := dig_from (e := 12) (cap := 4) (Or.inr (Or.inr ⟨rfl, rfl⟩)) (by decide) h11 (by rw [nx11, if_pos d0]) hqa q1 hq4
      have hmT := m_takes1 T (p := s + 1 + q) (lo := 41) (hi := 41) (by omega) (by omega) (by omega)
      rw [if_neg q0]
      by_cases c41 : cs (s + 1 + q) = 41
      · have hc41 : 41 ≤ cs (s + 1 + q) ∧ cs (s + 1 + q) ≤ 41 := by omega
        rw [if_pos hc41, if_pos hc41] at hmT
        have e6 : f_X11_takes text (nI n) (nI (s + 1 + q)) 1 41 41 = some (nI (cs (s + 1 + q)) - 48, nI (s + 1 + q + 1), 1) := hmT
        rw [e6, Option.bind_some]
        have h13 := arun_s h12 (m := 13) (by rw [nx12, c41, if_neg (by decide), if_pos rfl])
        rw [if_neg (by decide)] at h13
        refine ⟨s + 1 + q + 1, 1, _, q, rfl, fun j hj => ?_, Or.inr ⟨rfl, pe_of T h13 (Or.inr (Or.inr (Or.inr rfl))) (fun h => by rw [nx13, if_neg h]), hq4, Or.inr ⟨q1, ?_, c40, fun j hj => ⟨hqa j hj, ?_⟩, c41, by omega⟩⟩⟩
        · rw [pk_un hj.1]; exact rdf_out (by omega)
        · exact pk_us
        · rw [pk_un (by omega), rdf_at hj]
      · have hc41 : ¬ (41 ≤ cs (s + 1 + q) ∧ cs (s + 1 + q) ≤ 41) := by omega
        rw [if_neg hc41, if_neg hc41] at hmT
        have e6 : f_X11_takes text (nI n) (nI (s + 1 + q)) 1 41 41 = some (nI (cs (s + 1 + q)) - 48, nI (s + 1 + q), 0) := hmT
        rw [e6, Option.bind_some]
        refine ⟨s + 1 + q, 0, _, 0, rfl, fun j hj => ?_, Or.inl ⟨rfl, ?_⟩⟩
        · rw [pk_un hj.1]; exact rdf_out (by omega)
        · refine bad_of T h12 (by decide) (by decide) ?_
          rw [nx12]
          by_cases d : (48 ≤ cs (s + 1 + q) ∧ cs (s + 1 + q) ≤ 57) ∨ (97 ≤ cs (s + 1 + q) ∧ cs (s + 1 + q) ≤ 102)
          · rw [if_pos d, if_neg (fun w => hqs w (isD_iff.mpr d))]
          · rw [if_neg d, if_neg c41]
  · rcases he with ⟨_, c⟩ | ⟨rfl, hr⟩
    · exact absurd c c40
    · rw [if_neg (show ¬ nI (cs s) = 40 from fun w => c40 ((nI_eq (b := 40) (by omega) (by decide)).mp w))]
      refine ⟨s, 1, rd, 0, rfl, fun _ _ => rfl, Or.inr ⟨rfl, pe_of T ha (Or.inr (Or.inr (Or.inl rfl))) (fun h => ?_), by omega, Or.inl ⟨rfl, rfl, rfl, rfl⟩⟩⟩
      rw [nx10]
      by_cases d : (48 ≤ cs s ∧ cs s ≤ 57) ∨ (97 ≤ cs s ∧ cs s ≤ 102)
      · rw [if_pos d, if_neg (fun w => hr w (isD_iff.mpr d))]
      · rw [if_neg d, if_neg c40, if_neg h]
theorem m_readsNumber {text : Nat → Int32} {cs : Nat → Nat} {n : Nat} (T : Tx text cs n) {rd : Nat → Int32} {p k r : Nat} (hk : k + 24 ≤ 512) (hp : p < 100) (ha : arun cs p = (6, r)) (z4 : rd (k + 4) = nI 0) (z5 : rd (k + 5) = nI 0) : ∃ t w rd', f_X11_readsNumber text (nI n) (nI p) 1 rd (nI k) = some (nI t, w, rd') ∧ (∀ j, (j < k + 3 ∨ k + 24 ≤ j) → rd' j = rd j) ∧ ((w = 0 ∧ Bad cs n t) ∨ (w = 1 ∧ PE cs n t ∧ ∃ a b c, NT cs p t (fun j => rd' (k + j)) a b c)) := by
  have hc126 := T.2.2.1 p
  obtain ⟨most, hm, e0⟩ : ∃ most, ((cs p = 48 ∧ most = 1) ∨ (cs p ≠ 48 ∧ most = 8)) ∧ f_X11_readsNumber text (nI n) (nI p) 1 rd (nI k) = f_X11_readsNumber_b37 text (nI n) (nI p) 1 rd (nI k) (nI most) (nI (k + 6)) (nI (k + 3)) := by
    unfold f_X11_readsNumber f_X11_readsNumber_b14
    rw [m_signAt T (by omega), Option.bind_some, show nI k + 6 = nI (k + 6) from nI_add k 6, show nI k + 3 = nI (k + 3) from nI_add k 3]
    by_cases c : cs p = 48
    · exact ⟨1, Or.inl ⟨c, rfl⟩, by rw [if_pos (show nI (cs p) = 48 by rw [c]; rfl), if_neg n1]; rfl⟩
    · exact ⟨8, Or.inr ⟨c, rfl⟩, by rw [if_neg (show ¬ nI (cs p) = 48 from fun w => c ((nI_eq (b := 48) (by omega) (by decide)).mp w)), if_pos rfl]; rfl⟩
  have hm8 : 1 ≤ most ∧ most ≤ 8 := by omega
  rw [e0]
  unfold f_X11_readsNumber_b37
  rw [m_takesDigits T (by omega) (by omega) (by omega), Option.bind_some, if_neg (nI_in (by omega) (by omega)), nI_clamp (by omega)]
  have hw4 := dl_le (cs := cs) most p
  have hwa := dl_all (cs := cs) most p
  have hws := dl_stop (cs := cs) most p
  clear e0
  generalize dl cs most p = w at *
  dsimp only
  by_cases w0 : w = 0
  · subst w0
    rw [if_pos rfl, if_pos rfl]
    refine ⟨p, 0, _, rfl, fun j hj => ?_, Or.inl ⟨rfl, ?_⟩⟩
    · rw [pk_un (by omega), rdf_0]
    · refine bad_of T ha (by decide) (by decide) ?_
      have h := hws (by omega)
      rw [Nat.add_zero] at h
      have h2 := isD_no h
      rw [nx6, if_neg (by omega), if_neg h2]
  · have w1 : 0 < w := by omega
    have d0 := isD_iff.mp (hwa 0 w1)
    rw [Nat.add_zero] at d0
    obtain ⟨e, rr, hst, he, h46, hz⟩ : ∃ e rr, arun cs (p + w) = (e, rr) ∧ (e = 7 ∨ e = 8) ∧ nx e rr 46 = 9 ∧ (cs (p + w) ≠ 46 → cs (p + w) ≠ 59 → nx e rr (cs (p + w)) = 0) := by
      rcases hm with ⟨c, m1⟩ | ⟨c, m8⟩
      · have hw1 : w = 1 := by omega
        subst hw1
        have h := arun_s ha (m := 7) (by rw [nx6, if_pos c])
        rw [if_neg (by decide)] at h
        exact ⟨7, 1, h, Or.inl rfl, by rw [nx7, if_pos rfl], fun a b => by rw [nx7, if_neg a, if_neg b]⟩
      · have h : arun cs (p + w) = (8, w) := dig_from (e := 8) (cap := 8) (Or.inl ⟨rfl, rfl⟩) (by decide) ha (by rw [nx6, if_neg c, if_pos d0]) hwa w1 (by omega)
        refine ⟨8, w, h, Or.inr rfl, by rw [nx8, if_neg (by decide), if_pos rfl], fun a b => ?_⟩
        rw [nx8]
        by_cases d : (48 ≤ cs (p + w) ∧ cs (p + w) ≤ 57) ∨ (97 ≤ cs (p + w) ∧ cs (p + w) ≤ 102)
        · rw [if_pos d, if_neg (fun x => hws (by omega) (isD_iff.mpr d))]
        · rw [if_neg d, if_neg a, if_neg b]
    have hr3 : upd (rdf cs rd (k + 6) p w) (k + 3) (nI w) (k + 3) = nI w := pk_us
    have hr4 : upd (rdf cs rd (k + 6) p w) (k + 3) (nI w) (k + 4) = nI 0 := by rw [pk_un (by omega), rdf_out (by omega), z4]
    have hr5 : upd (rdf cs rd (k + 6) p w) (k + 3) (nI w) (k + 5) = nI 0 := by rw [pk_un (by omega), rdf_out (by omega), z5]
    have hr6 : ∀ j, j < w → upd (rdf cs rd (k + 6) p w) (k + 3) (nI w) (k + (6 + j)) = nI (dgv (cs (p + j))) := fun j hj => by rw [show k + (6 + j) = k + 6 + j by omega, pk_un (by omega), rdf_at hj]
    have hrz : ∀ j, (j < k + 3 ∨ k + 14 ≤ j) → upd (rdf cs rd (k + 6) p w) (k + 3) (nI w) j = rd j := fun j hj => by rw [pk_un (by omega), rdf_out (by omega)]
    generalize upd (rdf cs rd (k + 6) p w) (k + 3) (nI w) = rd1 at *
    have hc2 := T.2.2.1 (p + w)
    rw [if_neg w0, if_neg n1, m_signAt T (by omega), Option.bind_some]
    by_cases c46 : cs (p + w) = 46
    · have h9 := arun_s hst (m := 9) (by rw [c46]; exact h46)
      rw [if_neg (by omega)] at h9
      have hc3 := T.2.2.1 (p + w + 1)
      rw [if_pos (show nI (cs (p + w)) = 46 by rw [c46]; rfl), nI_1, m_signAt T (by omega), Option.bind_some]
      by_cases c40 : cs (p + w + 1) = 40
      · rw [if_pos (show nI (cs (p + w + 1)) = 40 by rw [c40]; rfl)]
        obtain ⟨t, v, rd', q, g1, g2, g3⟩ := m_b93 T (rd := rd1) hk (by omega) h9 (Or.inl ⟨rfl, c40⟩)
        refine ⟨t, v, rd', g1, fun j hj => by rw [g2 j (by omega), hrz j (by omega)], ?_⟩
        rcases g3 with g3 | ⟨g3, g4, g5, g6⟩
        · exact Or.inl g3
        · rcases g6 with ⟨_, q9, _⟩ | ⟨q1, q2, q3, q4, q5, q6⟩
          · exact absurd q9 (by decide)
          · refine Or.inr ⟨g3, g4, w, 0, q, w1, by omega, by omega, g5, ?_, ?_, q2, fun j hj => ⟨hwa j hj, ?_⟩, Or.inr ⟨c46, fun j hj => absurd hj (by omega), Or.inr ⟨q1, c40, fun j hj => ?_, ?_, by omega⟩⟩⟩
            · exact (g2 (k + 3) (by omega)).trans hr3
            · exact (g2 (k + 4) (by omega)).trans hr4
            · exact (g2 (k + (6 + j)) (by omega)).trans (hr6 j hj)
            · have h := q4 j hj
              rw [show p + w + 2 + 0 + j = p + w + 1 + 1 + j by omega]
              refine ⟨h.1, ?_⟩
              show rd' (k + (18 + j)) = _
              rw [show k + (18 + j) = k + 18 + j by omega]
              exact h.2
            · rw [show p + w + 2 + 0 + q = p + w + 1 + 1 + q by omega]; exact q5
      · rw [if_neg (show ¬ nI (cs (p + w + 1)) = 40 from fun x => c40 ((nI_eq (b := 40) (by omega) (by decide)).mp x))]
        have e1 : f_X11_takesDigits text (nI n) (nI (p + w + 1)) 1 rd1 (nI k + 14) 4 = some (nI (dl cs 4 (p + w + 1)), nI (p + w + 1 + dl cs 4 (p + w + 1)), if dl cs 4 (p + w + 1) = 0 then 0 else 1, rdf cs rd1 (k + 14) (p + w + 1) (dl cs 4 (p + w + 1))) := by
          rw [show nI k + 14 = nI (k + 14) from nI_add k 14]
          exact m_takesDigits T (most := 4) (by omega) (by omega) (by omega)
        rw [e1, Option.bind_some, show nI k + 4 = nI (k + 4) from nI_add k 4, if_neg (nI_in (by omega) (by omega)), nI_clamp (by omega)]
        have hh4 := dl_le (cs := cs) 4 (p + w + 1)
        have hha := dl_all (cs := cs) 4 (p + w + 1)
        have hhs := dl_stop (cs := cs) 4 (p + w + 1)
        clear e1
        generalize dl cs 4 (p + w + 1) = h at *
        dsimp only
        by_cases h0 : h = 0
        · subst h0
          rw [if_pos rfl]
          unfold f_X11_readsNumber_b93
          rw [if_pos rfl]
          refine ⟨p + w + 1, 0, _, rfl, fun j hj => ?_, Or.inl ⟨rfl, ?_⟩⟩
          · rw [pk_un (by omega), rdf_0, hrz j (by omega)]
          · refine bad_of T h9 (by decide) (by decide) ?_
            have hd := hhs (by decide)
            rw [Nat.add_zero] at hd
            rw [nx9, if_neg c40, if_neg (isD_no hd)]
        · have h1 : 0 < h := by omega
          have d1 := isD_iff.mp (hha 0 h1)
          rw [Nat.add_zero] at d1
          have h10 : arun cs (p + w + 1 + h) = (10, h) := dig_from (e := 10) (cap := 4) (Or.inr (Or.inl ⟨rfl, rfl⟩)) (by decide) h9 (by rw [nx9, if_neg c40, if_pos d1]) hha h1 hh4
          rw [if_neg h0]
          have hs3 : upd (rdf cs rd1 (k + 14) (p + w + 1) h) (k + 4) (nI h) (k + 3) = nI w := by rw [pk_un (by omega), rdf_out (by omega), hr3]
          have hs4 : upd (rdf cs rd1 (k + 14) (p + w + 1) h) (k + 4) (nI h) (k + 4) = nI h := pk_us
          have hs5 : upd (rdf cs rd1 (k + 14) (p + w + 1) h) (k + 4) (nI h) (k + 5) = nI 0 := by rw [pk_un (by omega), rdf_out (by omega), hr5]
          have hs6 : ∀ j, j < w → upd (rdf cs rd1 (k + 14) (p + w + 1) h) (k + 4) (nI h) (k + (6 + j)) = nI (dgv (cs (p + j))) := fun j hj => by rw [pk_un (by omega), rdf_out (by omega), hr6 j hj]
          have hs14 : ∀ j, j < h → upd (rdf cs rd1 (k + 14) (p + w + 1) h) (k + 4) (nI h) (k + (14 + j)) = nI (dgv (cs (p + w + 1 + j))) := fun j hj => by rw [show k + (14 + j) = k + 14 + j by omega, pk_un (by omega), rdf_at hj]
          have hsz : ∀ j, (j < k + 3 ∨ k + 18 ≤ j) → upd (rdf cs rd1 (k + 14) (p + w + 1) h) (k + 4) (nI h) j = rd j := fun j hj => by rw [pk_un (by omega), rdf_out (by omega), hrz j (by omega)]
          generalize upd (rdf cs rd1 (k + 14) (p + w + 1) h) (k + 4) (nI h) = rd2 at *
          obtain ⟨t, v, rd', q, g1, g2, g3⟩ := m_b93 T (rd := rd2) hk (by omega) h10 (Or.inr ⟨rfl, fun x => hhs x⟩)
          refine ⟨t, v, rd', g1, fun j hj => by rw [g2 j (by omega), hsz j (by omega)], ?_⟩
          rcases g3 with g3 | ⟨g3, g4, g5, g6⟩
          · exact Or.inl g3
          · refine Or.inr ⟨g3, g4, w, h, q, w1, by omega, hh4, g5, (g2 (k + 3) (by omega)).trans hs3, (g2 (k + 4) (by omega)).trans hs4, ?_, fun j hj => ⟨hwa j hj, (g2 (k + (6 + j)) (by omega)).trans (hs6 j hj)⟩, Or.inr ⟨c46, fun j hj => ⟨hha j hj, (g2 (k + (14 + j)) (by omega)).trans (hs14 j hj)⟩, ?_⟩⟩
            · rcases g6 with ⟨q1, _, _, q4⟩ | ⟨_, q2, _⟩
              · rw [q1, q4]; exact hs5
              · exact q2
            · rcases g6 with ⟨q1, _, q3, _⟩ | ⟨q1, q2, q3, q4, q5, q6⟩
              · exact Or.inl ⟨q1, h1, q3⟩
              · refine Or.inr ⟨q1, q3, fun j hj => ?_, ?_, by omega⟩
                · have hh := q4 j hj
                  rw [show p + w + 2 + h + j = p + w + 1 + h + 1 + j by omega]
                  refine ⟨hh.1, ?_⟩
                  show rd' (k + (18 + j)) = _
                  rw [show k + (18 + j) = k + 18 + j by omega]
                  exact hh.2
                · rw [show p + w + 2 + h + q = p + w + 1 + h + 1 + q by omega]; exact q5
    · rw [if_neg (show ¬ nI (cs (p + w)) = 46 from fun x => c46 ((nI_eq (b := 46) (by omega) (by decide)).mp x))]
      refine ⟨p + w, 1, rd1, rfl, fun j hj => hrz j (by omega), Or.inr ⟨rfl, pe_of T hst (by omega) (fun h59 => hz c46 h59), w, 0, 0, w1, by omega, by omega, by omega, hr3, hr4, hr5, fun j hj => ⟨hwa j hj, hr6 j hj⟩, Or.inl ⟨rfl, rfl, rfl⟩⟩⟩
theorem m_b33 {text : Nat → Int32} {rd : Nat → Int32} {k : Nat} (hk : k + 24 ≤ 512) (l a w x : Int32) : f_X11_readsBase_b33 text l a w rd (nI k) x = some (a, w, upd rd (k + 2) x) := by
  unfold f_X11_readsBase_b33
  rw [show nI k + 2 = nI (k + 2) from nI_add k 2, if_neg (nI_in (by omega) (by omega)), nI_clamp (by omega)]
theorem m_readsBase {text : Nat → Int32} {cs : Nat → Nat} {n : Nat} (T : Tx text cs n) {rd : Nat → Int32} {p k r : Nat} (hk : k + 24 ≤ 512) (hp : p < 100) (ha : arun cs p = (4, r)) : ∃ t w rd', f_X11_readsBase text (nI n) (nI p) 1 rd (nI k) = some (nI t, w, rd') ∧ (∀ j, j ≠ k + 2 → rd' j = rd j) ∧ ((w = 0 ∧ Bad cs n t) ∨ (w = 1 ∧ PE cs n t ∧ ∃ b, 2 ≤ b ∧ b ≤ 16 ∧ rd' (k + 2) = nI b ∧ ((t = p + 1 ∧ cs p = 48 + b ∧ b ≤ 9) ∨ (t = p + 2 ∧ cs p = 49 ∧ cs (p + 1) = 38 + b ∧ 10 ≤ b)))) := by
  have hc126 := T.2.2.1 p
  have hc2 := T.2.2.1 (p + 1)
  have e1 : f_X11_takes text (nI n) (nI p) 1 49 57 = _ := m_takes1 T (p := p) (lo := 49) (hi := 57) (by omega) (by omega) (by omega)
  unfold f_X11_readsBase
  rw [e1, Option.bind_some]
  by_cases c : 49 ≤ cs p ∧ cs p ≤ 57
  · rw [if_pos c, if_pos c]
    dsimp only
    rw [if_neg n1]
    have hsub : nI (cs p) - 48 = nI (cs p - 48) := pk_sub (b := 48) (by omega)
    rw [hsub]
    by_cases c1 : cs p = 49
    · rw [if_pos (show nI (cs p - 48) = 1 by rw [c1]; rfl)]
      have h5 := arun_s ha (m := 5) (by rw [nx4, if_pos c1])
      rw [if_neg (by decide)] at h5
      have e2 : f_X11_takes text (nI n) (nI (p + 1)) 1 48 54 = _ := m_takes1 T (p := p + 1) (lo := 48) (hi := 54) (by omega) (by omega) (by omega)
      rw [e2, Option.bind_some]
      by_cases d : 48 ≤ cs (p + 1) ∧ cs (p + 1) ≤ 54
      · rw [if_pos d, if_pos d]
        dsimp only
        have hsub2 : (10 : Int32) + (nI (cs (p + 1)) - 48) = nI (cs (p + 1) - 38) := by
          rw [show nI (cs (p + 1)) - 48 = nI (cs (p + 1) - 48) from pk_sub (b := 48) (by omega), show (10 : Int32) = nI 10 from rfl, nI_add]
          congr 1
          omega
        rw [hsub2, m_b33 hk]
        have h13 := arun_s h5 (m := 13) (by rw [nx5, if_pos d])
        rw [if_neg (by decide)] at h13
        refine ⟨p + 1 + 1, 1, _, rfl, fun j hj => pk_un hj, Or.inr ⟨rfl, pe_of T h13 (Or.inr (Or.inr (Or.inr rfl))) (fun h => by rw [nx13, if_neg h]), cs (p + 1) - 38, by omega, by omega, pk_us, Or.inr ⟨by omega, c1, by omega, by omega⟩⟩⟩
      · rw [if_neg d, if_neg d]
        dsimp only
        rw [m_b33 hk]
        refine ⟨p + 1, 0, _, rfl, fun j hj => pk_un hj, Or.inl ⟨rfl, bad_of T h5 (by decide) (by decide) ?_⟩⟩
        rw [nx5, if_neg d]
    · rw [if_neg (show ¬ nI (cs p - 48) = 1 from fun x => by have := (nI_eq (b := 1) (by omega) (by decide)).mp x; omega), m_b33 hk]
      have h13 := arun_s ha (m := 13) (by rw [nx4, if_neg c1, if_pos (by omega)])
      rw [if_neg (by decide)] at h13
      exact ⟨p + 1, 1, _, rfl, fun j hj => pk_un hj, Or.inr ⟨rfl, pe_of T h13 (Or.inr (Or.inr (Or.inr rfl))) (fun h => by rw [nx13, if_neg h]), cs p - 48, by omega, by omega, pk_us, Or.inl ⟨rfl, by omega, by omega⟩⟩⟩
  · rw [if_neg c, if_neg c]
    dsimp only
    rw [if_pos rfl, m_b33 hk]
    refine ⟨p, 0, _, rfl, fun j hj => pk_un hj, Or.inl ⟨rfl, bad_of T ha (by decide) (by decide) ?_⟩⟩
    rw [nx4, if_neg (by omega), if_neg (by omega)]
