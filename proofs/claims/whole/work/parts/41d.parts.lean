/-! A part, done on both sides. -/
def Shp (c : SC) (ss : Nat → Int32) : Prop := ∃ B nu de, Rok B nu de ∧ Cok c B nu de ∧ Mok ss B nu de
theorem sum_both {now : SC} {ss : Nat → Int32} {B : Nat} {nu de : Nat → Nat} (R : Rok B nu de) (C : Cok now B nu de) (M : Mok ss B nu de) {a b : Nat} (ha : a < 6) (hb : b < 6) (res : RC) (t u : Int64) : ∃ k c r' t' u', f_X10_formSum now res (nI a) (nI b) = some r' ∧ f_X6_reasonAgainst r' = some (nI k) ∧ f_X11_makesSum ss t u (nI a) (nI b) 1 = some (nI c, t', u') ∧ c ≤ 2 ∧ k = (if c = 0 then 0 else 2) ∧ Fr k r' t' u' := by
  obtain ⟨s1, s2, s3, s4⟩ := q_formSum res R C ha hb
  have s5 := m_makesSum t u R M ha hb
  generalize nu a * de b + nu b * de a = n at *
  generalize de a * de b = d at *
  have hr := q_reason (n := n) (d := d) (by omega) s3 (by omega)
  refine ⟨if cod n d = 0 then 0 else 2, cod n d, _, _, _, s1, ?_, s5, cod_le n d, rfl, fr_of s3 (fun _ => rfl) (fun _ => ⟨rfl, rfl⟩)⟩
  rw [hr]
  by_cases z : cod n d = 0
  · rw [if_pos z, if_pos z]; rfl
  · rw [if_neg z, if_neg z]; rfl
theorem diff_both {now : SC} {ss : Nat → Int32} {B : Nat} {nu de : Nat → Nat} (R : Rok B nu de) (C : Cok now B nu de) (M : Mok ss B nu de) {a b : Nat} (ha : a < 6) (hb : b < 6) (res : RC) (t u : Int64) : ∃ k c r' t' u', f_X10_formDifference now res (nI a) (nI b) = some r' ∧ f_X6_reasonAgainst r' = some (nI k) ∧ f_X11_makesSum ss t u (nI a) (nI b) (-1) = some (nI c, t', u') ∧ c ≤ 2 ∧ ((t' < 0 ∧ k = 3) ∨ (¬ t' < 0 ∧ k = (if c = 0 then 0 else 2))) ∧ Fr k r' t' u' := by
  have s1 := q_formDiff res R C ha hb
  have s5 := m_makesDiff t u R M ha hb
  obtain ⟨_, s2, s3, s4⟩ := q_formSum res R C ha hb
  have b1 : nu a * de b < 2 ^ 62 := by omega
  have b2 : nu b * de a < 2 ^ 62 := by omega
  generalize nu a * de b = p at *
  generalize nu b * de a = q at *
  generalize de a * de b = d at *
  by_cases hpq : q ≤ p
  · rw [lN_sub hpq, q_put res (by omega) s3 (by omega)] at s1
    rw [lN_sub hpq, m_makes t u (by omega) s3 (by omega)] at s5
    have hnlt : p - q < 2 ^ 62 := by omega
    generalize p - q = n at *
    have hn2 : rdn n d ≤ n := Nat.div_le_self _ _
    have hr := q_reason (n := n) (d := d) (by omega) s3 (by omega)
    have hnn : ¬ lN (rdn n d) < 0 := fun w => by have := (pk_lLT (b := 0) (by omega) (by decide)).mp w; omega
    refine ⟨if cod n d = 0 then 0 else 2, cod n d, _, _, _, s1, ?_, s5, cod_le n d, Or.inr ⟨hnn, rfl⟩, fr_of s3 (fun _ => rfl) (fun _ => ⟨rfl, rfl⟩)⟩
    rw [hr]
    by_cases z : cod n d = 0
    · rw [if_pos z, if_pos z]; rfl
    · rw [if_neg z, if_neg z]; rfl
  · obtain ⟨g1, g2⟩ := sub_neg (a := p) (b := q) (by omega) b2
    obtain ⟨r', e1, hr'⟩ := neg_put res g1 g2 s3 (by omega)
    obtain ⟨k, tt, bb, e2, ht, hk⟩ := neg_makes t u g1 g2 s3 (by omega)
    rw [e1] at s1
    rw [e2] at s5
    exact ⟨3, k, r', tt, bb, s1, reason_neg hr', s5, hk, Or.inl ⟨ht, rfl⟩, by omega, fun x => absurd x (by decide)⟩
theorem fr_store {now : SC} {ss : Nat → Int32} {B : Nat} {nu de : Nat → Nat} {a : Nat} (R : Rok B nu de) (C : Cok now B nu de) (M : Mok ss B nu de) (ha : a < 6) {r : RC} {t u : Int64} (F : Fr 0 r t u) : ∃ now' ss', f_X7_store now r (nI a) = some now' ∧ f_X11_puts ss t u (nI a) = some ss' ∧ now'.2.1 = now.2.1 ∧ now'.2.2.1 = now.2.2.1 ∧ Shp now' ss' := by
  obtain ⟨n, d, rfl, rfl, rfl, hn, hd0, hd, hg⟩ := F.2 rfl
  refine ⟨_, _, q_store now _ ha, m_puts ss _ _ ha, rfl, rfl, B, stv nu a n, stv de a d, ⟨R.1, R.2.1, fun j hj => ?_⟩, ⟨C.1, fun j hj => ?_⟩, ⟨?_, fun j hj => ?_⟩⟩
  · by_cases e : j = a
    · subst e; rw [stv_at, stv_at]; exact ⟨hn, hd0, hd, hg⟩
    · rw [stv_ne e, stv_ne e]; exact R.2.2 j hj
  · show upd now.2.2.2.1 a (lN n).toInt32 j = _ ∧ upd now.2.2.2.2 a (lN d).toInt32 j = _
    rw [lN_i, lN_i]
    by_cases e : j = a
    · subst e; rw [stv_at, stv_at, pk_us, pk_us]; exact ⟨rfl, rfl⟩
    · rw [stv_ne e, stv_ne e, pk_un e, pk_un e]; exact C.2 j hj
  · rw [pk_un (by omega), pk_un (by omega)]; exact M.1
  · rw [lN_i, lN_i]
    by_cases e : j = a
    · subst e; rw [stv_at, stv_at, pk_un (by omega), pk_us, pk_us]; exact ⟨rfl, rfl⟩
    · rw [stv_ne e, stv_ne e, pk_un (by omega), pk_un (by omega), pk_un (by omega), pk_un (by omega)]; exact M.2 j hj
theorem dec_step {ent : EC} {cs : Nat → Nat} {n t x N : Nat} {v : Int32} (T : Tx ent.2.1 cs n) (h : x < t) (ht : t ≤ n) : f_X2_decimal_b5 (N + 1) ent (nI t) v (nI x) = f_X2_decimal_b5 N ent (nI t) (((10 * v) + nI (cs x)) - 48) (nI (x + 1)) := by
  have hn := T.1
  conv => lhs; unfold f_X2_decimal_b5
  rw [if_neg (fun q => by have := (nI_leI (by omega) (by omega)).mp q; omega), q_codeAt T (by omega), Option.bind_some, nI_1]
theorem dec_end {ent : EC} {t N : Nat} {v : Int32} (h : t < 2 ^ 31) : f_X2_decimal_b5 (N + 1) ent (nI t) v (nI t) = some v := by
  unfold f_X2_decimal_b5
  rw [if_pos ((nI_leI h h).mpr (Nat.le_refl _))]
theorem does_acc {ss rd : Nat → Int32} {k : Nat} {t u : Int64} (hk : k + 24 ≤ 512) : f_X11_does ss rd t u (nI k) = (if rd (k + 1) = 43 then ((f_X11_makesSum ss t u (rd k) (rd (k + 2)) 1).bind fun v83 => (if v83.1 ≤ 0 then f_X11_does_b94 ss rd v83.2.1 v83.2.2 (rd k) 0 else f_X11_does_b94 ss rd v83.2.1 v83.2.2 (rd k) 2)) else (if rd (k + 1) = 61 then ((f_X11_makesNumber ss rd t u (nI k)).bind fun v71 => f_X11_does_b133 ss rd v71.2.1 v71.2.2 (rd k) v71.1) else (if rd (k + 1) = 98 then (some (0, (upd ss 0 (rd (k + 2))), t, u)) else ((f_X11_makesSum ss t u (rd k) (rd (k + 2)) (-1)).bind fun v103 => (if v103.1 ≤ 0 then f_X11_does_b114 ss rd v103.2.1 v103.2.2 (rd k) 0 else f_X11_does_b114 ss rd v103.2.1 v103.2.2 (rd k) 2))))) := by
  unfold f_X11_does
  rw [show nI k + 2 = nI (k + 2) from nI_add k 2, show nI k + 1 = nI (k + 1) from nI_add k 1, if_neg (nI_in (by omega) (by omega)), if_neg (nI_in (by omega) (by omega)), if_neg (nI_in (by omega) (by omega)), nI_clamp (by omega), nI_clamp (by omega), nI_clamp (by omega), z0]
theorem part_ok {now : SC} {ent : EC} {res : RC} {num : NC} {ss rd : Nat → Int32} {cs : Nat → Nat} {n p t k : Nat} {tt u : Int64} (T : Tx ent.2.1 cs n) (ht : t ≤ n) (hk : k + 24 ≤ 512) (K : PT cs p t (fun j => rd (k + j))) (S : Shp now ss) : ∃ kk now' res' num' ss' t' u', f_X10_doPart now ent res num (nI p) (nI t) = some (nI kk, now', res', num') ∧ f_X11_does ss rd tt u (nI k) = some (nI kk, ss', t', u') ∧ kk ≤ 3 ∧ now'.2.1 = now.2.1 ∧ now'.2.2.1 = now.2.2.1 ∧ Shp now' ss' := by
  have hn := T.1
  have hge := pt_ge K
  obtain ⟨B, nu, de, R, C, M⟩ := S
  have hB1 := R.1
  have hB := R.2.1
  have hc0 := T.2.2.1 p
  have hc1 := T.2.2.1 (p + 1)
  rw [does_acc hk]
  unfold f_X10_doPart
  rw [q_codeAt T (by omega), Option.bind_some]
  rcases K with ⟨c98, g1, b, b1, b2, g2, h⟩ | ⟨c1, c2, g0, h⟩
  · have g1 : rd (k + 1) = nI 98 := g1
    have g2 : rd (k + 2) = nI b := g2
    have hd : f_X2_decimal ent (nI p + 1) (nI t) = some (nI b) := by
      unfold f_X2_decimal
      rw [nI_1, show xfuel = 3999997 + 1 + 1 + 1 from rfl]
      rcases h with ⟨rfl, d1, d2⟩ | ⟨rfl, d1, d2, d3⟩
      · rw [dec_step T (by omega) ht, dec_end (by omega), d1, show (10 : Int32) * 0 + nI (48 + b) = nI (48 + b) by rw [show (10 : Int32) * 0 = nI 0 from rfl, nI_add, Nat.zero_add], show nI (48 + b) - 48 = nI (48 + b - 48) from pk_sub (b := 48) (by omega), Nat.add_sub_cancel_left]
      · rw [dec_step T (by omega) ht, dec_step T (by omega) ht, dec_end (by omega), d1, show p + 1 + 1 = p + 2 by omega, d2, show (10 : Int32) * (10 * 0 + nI 49 - 48) = nI 10 from rfl, nI_add, show nI (10 + (38 + b)) - 48 = nI (10 + (38 + b) - 48) from pk_sub (b := 48) (by omega), show 10 + (38 + b) - 48 = b by omega]
    rw [if_pos (show nI (cs p) = 98 by rw [c98]; rfl), hd, Option.bind_some, g1, g2, if_neg (by decide), if_neg (by decide), if_pos (by decide)]
    refine ⟨0, _, _, _, _, _, _, rfl, rfl, by omega, rfl, rfl, b, nu, de, ⟨by omega, by omega, R.2.2⟩, ⟨rfl, C.2⟩, ⟨pk_us, fun a ha => ?_⟩⟩
    rw [pk_un (by omega), pk_un (by omega)]; exact M.2 a ha
  · have g0 : rd k = nI (cs p - 48) := g0
    have ha : cs p - 48 < 6 := by omega
    have hs48 : nI (cs p) - 48 = nI (cs p - 48) := pk_sub (b := 48) (by omega)
    rw [if_neg (show ¬ nI (cs p) = 98 from fun x => by have := (nI_eq (b := 98) (by omega) (by decide)).mp x; omega), Option.bind_some, hs48, g0]
    unfold f_X10_formEntry
    rw [nI_1, q_codeAt T (by omega), Option.bind_some]
    generalize cs p - 48 = a at *
    rcases h with ⟨c3, g1, c4, c5, g2, h⟩ | ⟨c3, g1, w, hh, q, h⟩
    · have g1 : rd (k + 1) = nI (cs (p + 1)) := g1
      have g2 : rd (k + 2) = nI (cs (p + 2) - 48) := g2
      have hb : cs (p + 2) - 48 < 6 := by omega
      have hs482 : nI (cs (p + 2)) - 48 = nI (cs (p + 2) - 48) := pk_sub (b := 48) (by omega)
      rw [nI_1, q_codeAt T (show p + 1 + 1 < n by omega), g1, g2, show p + 1 + 1 = p + 2 by omega]
      simp only [Option.bind_some, hs482]
      generalize cs (p + 2) - 48 = b at *
      rcases c3 with c3 | c3
      · rw [c3, if_neg (by decide), if_pos (show nI 43 = 43 from rfl), if_pos (show nI 43 = 43 from rfl)]
        obtain ⟨kk, c, r', t', u', e1, e2, e3, hc, hkk, F⟩ := sum_both R C M ha hb res tt u
        rw [e1, Option.bind_some, e3, Option.bind_some]
        unfold f_X10_formEntry_b136
        rw [e2, Option.bind_some, Option.bind_some]
        dsimp only
        unfold f_X11_does_b94 f_X11_does_b133
        by_cases z : c = 0
        · rw [if_pos z] at hkk
          subst hkk
          obtain ⟨now', ss', s1, s2, s3, s4, s5⟩ := fr_store R C M ha F
          rw [if_pos (show nI 0 = 0 from rfl), s1, Option.bind_some, if_pos ((c_le0 (by omega)).mpr z), if_pos rfl, s2, Option.bind_some]
          exact ⟨0, now', r', num, ss', t', u', rfl, rfl, by omega, s3, s4, s5⟩
        · rw [if_neg z] at hkk
          subst hkk
          rw [if_neg (show ¬ nI 2 = 0 by decide), if_neg (fun x => z ((c_le0 (by omega)).mp x)), if_neg n2]
          exact ⟨2, now, r', num, ss, t', u', rfl, rfl, by omega, rfl, rfl, B, nu, de, R, C, M⟩
      · rw [c3, if_neg (by decide), if_neg (by decide), if_neg (by decide), if_neg (by decide), if_neg (by decide)]
        obtain ⟨kk, c, r', t', u', e1, e2, e3, hc, hkk, F⟩ := diff_both R C M ha hb res tt u
        rw [e1, Option.bind_some, e3, Option.bind_some]
        unfold f_X10_formEntry_b136
        rw [e2, Option.bind_some, Option.bind_some]
        dsimp only
        unfold f_X11_does_b114 f_X11_does_b131 f_X11_does_b133
        rcases hkk with ⟨hneg, rfl⟩ | ⟨hneg, hkk⟩
        · rw [if_pos hneg, if_pos hneg, if_neg (show ¬ nI 3 = 0 by decide), if_neg n3, ite_self]
          exact ⟨3, now, r', num, ss, t', u', rfl, rfl, by omega, rfl, rfl, B, nu, de, R, C, M⟩
        · rw [if_neg hneg, if_neg hneg]
          by_cases z : c = 0
          · rw [if_pos z] at hkk
            subst hkk
            obtain ⟨now', ss', s1, s2, s3, s4, s5⟩ := fr_store R C M ha F
            rw [if_pos (show nI 0 = 0 from rfl), s1, Option.bind_some, if_pos ((c_le0 (by omega)).mpr z), if_pos rfl, s2, Option.bind_some]
            exact ⟨0, now', r', num, ss', t', u', rfl, rfl, by omega, s3, s4, s5⟩
          · rw [if_neg z] at hkk
            subst hkk
            rw [if_neg (show ¬ nI 2 = 0 by decide), if_neg (fun x => z ((c_le0 (by omega)).mp x)), if_neg n2]
            exact ⟨2, now, r', num, ss, t', u', rfl, rfl, by omega, rfl, rfl, B, nu, de, R, C, M⟩
    · have g1 : rd (k + 1) = nI 61 := g1
      have hbg : f_X4_begin num now.1 = some (bgn B) := by unfold f_X4_begin bgn; rw [C.1]
      obtain ⟨kk, r', num', t', u', e1, e2, F⟩ := num_both (now := now) (res := res) T hB1 hB ht M.1 hk h tt u
      rw [g1, c3, if_pos (show nI 61 = 61 from rfl), hbg, Option.bind_some, nI_1, show p + 1 + 1 = p + 2 by omega, e1, Option.bind_some, if_neg (show ¬ nI 61 = 43 by decide), if_pos (show nI 61 = 61 from rfl), e2, Option.bind_some]
      dsimp only
      unfold f_X11_does_b133
      have hkk := F.1
      by_cases z : kk = 0
      · subst z
        obtain ⟨now', ss', s1, s2, s3, s4, s5⟩ := fr_store R C M ha F
        rw [if_pos (show nI 0 = 0 from rfl), if_pos (show nI 0 = 0 from rfl), s1, s2, Option.bind_some, Option.bind_some]
        exact ⟨0, now', r', num', ss', t', u', rfl, rfl, by omega, s3, s4, s5⟩
      · rw [if_neg (c_ne0 (by omega) (by omega)), if_neg (c_ne0 (by omega) (by omega))]
        exact ⟨kk, now, r', num', ss, t', u', rfl, rfl, hkk, rfl, rfl, B, nu, de, R, C, M⟩
