/-! The number of a part, on both sides. -/
theorem gcd_shift (W bn be : Nat) : Nat.gcd (W * be + bn) be = Nat.gcd bn be := by
  rw [Nat.gcd_comm (W * be + bn) be, Nat.gcd_comm bn be, Nat.gcd_rec be (W * be + bn), Nat.gcd_rec be bn, Nat.add_comm (W * be) bn, Nat.add_mul_mod_self_right]
theorem rd_shift {W bn be : Nat} (hbe : 0 < be) : rdd (W * be + bn) be = rdd bn be ∧ rdn (W * be + bn) be = W * rdd bn be + rdn bn be := by
  have hg : 0 < Nat.gcd bn be := Nat.gcd_pos_of_pos_right bn hbe
  unfold rdd rdn
  rw [gcd_shift]
  refine ⟨rfl, ?_⟩
  obtain ⟨b', hb'⟩ := Nat.gcd_dvd_right bn be
  obtain ⟨n', hn'⟩ := Nat.gcd_dvd_left bn be
  generalize Nat.gcd bn be = g at *
  rw [hb', hn', Nat.mul_div_cancel_left _ hg, Nat.mul_div_cancel_left _ hg, show W * (g * b') + g * n' = g * (W * b' + n') by rw [Nat.mul_add, Nat.mul_left_comm], Nat.mul_div_cancel_left _ hg]
theorem rd_one {n d : Nat} (h : Nat.gcd n d = 1) : rdn n d = n ∧ rdd n d = d := by
  unfold rdn rdd
  rw [h, Nat.div_one, Nat.div_one]
  exact ⟨rfl, rfl⟩
theorem q_putnum {num : NC} {W bn be : Nat} (hnum : num.2.2.2.2.1 = lN W) (h0 : 0 < be) (h1 : be < 2 ^ 33) (h2 : bn < 2 ^ 33) (h3 : W < 2 ^ 33) : ∃ r', f_X4_putInto_b50 num (lN (rdn bn be), lN (rdd bn be)) = some r' ∧ f_X6_reasonAgainst r' = some (nI (if cod (W * be + bn) be = 0 then 0 else 2)) ∧ (cod (W * be + bn) be = 0 → r' = (lN (rdn (W * be + bn) be), lN (rdd (W * be + bn) be))) := by
  obtain ⟨g1, g2, g3, g4⟩ := red_ok (n := bn) h0
  obtain ⟨s1, s2⟩ := rd_shift (W := W) (bn := bn) h0
  unfold f_X4_putInto_b50
  by_cases hd : 999 < rdd bn be
  · have hc : ¬ cod (W * be + bn) be = 0 := by
      unfold cod
      rw [s1]
      split
      · decide
      · decide
    rw [if_pos (show (999 : Int64) < lN (rdd bn be) from (pk_lLT (a := 999) (by omega) (by omega)).mpr hd)]
    refine ⟨_, rfl, ?_, fun h => absurd h hc⟩
    rw [if_neg hc]
    unfold f_X6_reasonAgainst f_X6_reasonAgainst_b33
    rw [if_neg (show ¬ lN (rdn bn be) < 0 from fun q => by have := (pk_lLT (b := 0) (by omega) (by decide)).mp q; omega)]
    split
    · rfl
    · rw [if_pos (show (999 : Int64) < lN (rdd bn be) from (pk_lLT (a := 999) (by omega) (by omega)).mpr hd)]; rfl
  · rw [if_neg (show ¬ (999 : Int64) < lN (rdd bn be) from fun q => hd ((pk_lLT (a := 999) (by omega) (by omega)).mp q)), hnum]
    have b1 : W * rdd bn be ≤ 2 ^ 33 * 999 := Nat.mul_le_mul (by omega) (by omega)
    have hgc : Nat.gcd (W * rdd bn be + rdn bn be) (rdd bn be) = 1 := by rw [gcd_shift]; exact g4
    obtain ⟨o1, o2⟩ := rd_one hgc
    have hcod : cod (W * rdd bn be + rdn bn be) (rdd bn be) = cod (W * be + bn) be := by
      unfold cod
      rw [o1, o2, s1, s2]
    have hp := q_put (n := W * rdd bn be + rdn bn be) (d := rdd bn be) (lN (rdn bn be), lN (rdd bn be)) (by omega) g1 (by omega)
    have hr := q_reason (n := W * rdd bn be + rdn bn be) (d := rdd bn be) (by omega) g1 (by omega)
    have hp2 : f_X6_put (lN (rdn bn be), lN (rdd bn be)) (lN W * lN (rdd bn be) + lN (rdn bn be)) (lN (rdd bn be)) = some (lN (rdn (W * rdd bn be + rdn bn be) (rdd bn be)), lN (rdd (W * rdd bn be + rdn bn be) (rdd bn be))) := by
      rw [lN_mul, lN_add]; exact hp
    refine ⟨(lN (rdn (W * rdd bn be + rdn bn be) (rdd bn be)), lN (rdd (W * rdd bn be + rdn bn be) (rdd bn be))), ?_, ?_, fun _ => ?_⟩
    · show ((f_X6_put (lN (rdn bn be), lN (rdd bn be)) (lN W * lN (rdd bn be) + lN (rdn bn be)) (lN (rdd bn be))).bind fun v80 => some v80) = _
      rw [hp2, Option.bind_some]
    · rw [hr, hcod]
      by_cases z : cod (W * be + bn) be = 0
      · rw [if_pos z, if_pos z]; rfl
      · rw [if_neg z, if_neg z]; rfl
    · rw [o1, o2, s1, s2]
theorem pw4 {B e : Nat} (h1 : 1 < B) (h2 : B < 17) (he : e ≤ 4) : 0 < B ^ e ∧ B ^ e ≤ 65536 ∧ (0 < e → 2 ≤ B ^ e) := by
  refine ⟨Nat.pow_pos (by omega), Nat.le_trans (Nat.pow_le_pow_left (show B ≤ 16 by omega) e) (Nat.le_trans (Nat.pow_le_pow_right (by omega) he) (by decide)), fun h => ?_⟩
  have := Nat.pow_le_pow_right (n := B) (by omega) (show 1 ≤ e by omega)
  rw [Nat.pow_one] at this
  omega
theorem pw8 {B e : Nat} (h2 : B < 17) (he : e ≤ 8) : B ^ e ≤ 4294967296 := by
  exact Nat.le_trans (Nat.pow_le_pow_left (show B ≤ 16 by omega) e) (Nat.le_trans (Nat.pow_le_pow_right (by omega) he) (by decide))
def byq (B q : Nat) : Nat := if q = 0 then 1 else B ^ q - 1
theorem byq_ok {B q : Nat} (h1 : 1 < B) (h2 : B < 17) (hq : q ≤ 4) : 0 < byq B q ∧ byq B q ≤ 65535 := by
  obtain ⟨p1, p2, p3⟩ := pw4 h1 h2 hq
  unfold byq
  split
  · omega
  · have := p3 (by omega); omega
theorem m_makesNumber {B k w h q : Nat} {ss rd : Nat → Int32} {v1 v2 v3 : Nat → Nat} (hB1 : 1 < B) (hB : B < 17) (hb : ss 0 = nI B) (hk : k + 24 ≤ 512) (w8 : w ≤ 8) (h4 : h ≤ 4) (q4 : q ≤ 4) (g3 : rd (k + 3) = nI w) (g4 : rd (k + 4) = nI h) (g5 : rd (k + 5) = nI q) (r1 : ∀ j, j < w → rd (k + 6 + j) = nI (v1 j)) (b1 : ∀ j, j < w → v1 j ≤ 15) (r2 : ∀ j, j < h → rd (k + 14 + j) = nI (v2 j)) (b2 : ∀ j, j < h → v2 j ≤ 15) (r3 : ∀ j, j < q → rd (k + 18 + j) = nI (v3 j)) (b3 : ∀ j, j < q → v3 j ≤ 15) (t u : Int64) : (¬ (alb B v1 w && alb B v2 h && alb B v3 q) = true → f_X11_makesNumber ss rd t u (nI k) = some (1, t, u)) ∧ ((alb B v1 w && alb B v2 h && alb B v3 q) = true → ∃ t' u', f_X11_makesNumber ss rd t u (nI k) = some (nI (if cod (dsv B v1 w * (B ^ h * byq B q) + (dsv B v2 h * byq B q + dsv B v3 q)) (B ^ h * byq B q) = 0 then 0 else 2), t', u') ∧ (cod (dsv B v1 w * (B ^ h * byq B q) + (dsv B v2 h * byq B q + dsv B v3 q)) (B ^ h * byq B q) = 0 → t' = lN (rdn (dsv B v1 w * (B ^ h * byq B q) + (dsv B v2 h * byq B q + dsv B v3 q)) (B ^ h * byq B q)) ∧ u' = lN (rdd (dsv B v1 w * (B ^ h * byq B q) + (dsv B v2 h * byq B q + dsv B v3 q)) (B ^ h * byq B q)))) := by
  have e : ∀ x : Nat, x ≤ 18 → nI k + nI x = nI (k + x) ∧ ¬ (nI (k + x) < 0 ∨ 512 ≤ (nI (k + x)).toNatClampNeg) ∧ (nI (k + x)).toNatClampNeg = k + x := fun x hx => ⟨nI_add k x, nI_in (by omega) (by omega), nI_clamp (by omega)⟩
  obtain ⟨k3, i3, l3⟩ := e 3 (by omega)
  obtain ⟨k4, i4, l4⟩ := e 4 (by omega)
  obtain ⟨k5, i5, l5⟩ := e 5 (by omega)
  obtain ⟨k6, i6, l6⟩ := e 6 (by omega)
  obtain ⟨k14, i14, l14⟩ := e 14 (by omega)
  obtain ⟨k18, i18, l18⟩ := e 18 (by omega)
  have k3 : nI k + 3 = nI (k + 3) := k3
  have k4 : nI k + 4 = nI (k + 4) := k4
  have k5 : nI k + 5 = nI (k + 5) := k5
  have k6 : nI k + 6 = nI (k + 6) := k6
  have k14 : nI k + 14 = nI (k + 14) := k14
  have k18 : nI k + 18 = nI (k + 18) := k18
  have a1 := m_alb (k := k + 6) hB hb (by omega) r1 b1
  have a2 := m_alb (k := k + 14) hB hb (by omega) r2 b2
  have a3 := m_alb (k := k + 18) hB hb (by omega) r3 b3
  have d1 := m_dsv (k := k + 6) hB hb (by omega) r1 b1
  have d2 := m_dsv (k := k + 14) hB hb (by omega) r2 b2
  have d3 := m_dsv (k := k + 18) hB hb (by omega) r3 b3
  have l1 := dsv_lt (B := B) (v := v1) w
  have l2 := dsv_lt (B := B) (v := v2) h
  have l3' := dsv_lt (B := B) (v := v3) q
  have p8 := pw8 hB w8
  obtain ⟨ph1, ph2, ph3⟩ := pw4 hB1 hB h4
  obtain ⟨pq1, pq2, pq3⟩ := pw4 hB1 hB q4
  obtain ⟨y1, y2⟩ := byq_ok hB1 hB q4
  unfold f_X11_makesNumber
  rw [k3, k4, k5, k6, k14, k18, if_neg i3, if_neg i4, if_neg i5, l3, l4, l5, g3, g4, g5, a1, Option.bind_some]
  generalize alb B v1 w = A1 at *
  generalize alb B v2 h = A2 at *
  generalize alb B v3 q = A3 at *
  cases A1 with
  | false => exact ⟨fun _ => by rw [if_neg (show ¬ (false = true) by decide), if_pos rfl], fun x => absurd x (by simp)⟩
  | true =>
    rw [if_pos (show true = true from rfl), if_neg n1, a2, Option.bind_some]
    cases A2 with
    | false => exact ⟨fun _ => by rw [if_neg (show ¬ (false = true) by decide), if_pos rfl], fun x => absurd x (by simp)⟩
    | true =>
      rw [if_pos (show true = true from rfl), if_neg n1, a3, Option.bind_some]
      cases A3 with
      | false => exact ⟨fun _ => by rw [if_neg (show ¬ (false = true) by decide), if_pos rfl], fun x => absurd x (by simp)⟩
      | true =>
        refine ⟨fun x => absurd rfl x, fun _ => ?_⟩
        rw [if_pos (show true = true from rfl), if_neg n1, d1, Option.bind_some]
        have q1 := l1 rfl
        have q2 := l2 rfl
        have q3 := l3' rfl
        generalize dsv B v1 w = W at *
        generalize dsv B v2 h = H at *
        generalize dsv B v3 q = P at *
        have m1 : H * byq B q ≤ 65536 * 65535 := Nat.mul_le_mul (by omega) y2
        have m2 : B ^ h * byq B q ≤ 65536 * 65535 := Nat.mul_le_mul ph2 y2
        have m3 : 0 < B ^ h * byq B q := Nat.mul_pos ph1 y1
        have m4 : H * byq B q + P < 2 ^ 33 := by omega
        obtain ⟨s1, s2⟩ := rd_shift (W := W) (bn := H * byq B q + P) m3
        obtain ⟨o1, o2, o3, o4⟩ := red_ok (n := H * byq B q + P) m3
        by_cases hW : 999999999 < W
        · have hc : ¬ cod (W * (B ^ h * byq B q) + (H * byq B q + P)) (B ^ h * byq B q) = 0 := by
            unfold cod
            have : W * 1 ≤ W * rdd (H * byq B q + P) (B ^ h * byq B q) := Nat.mul_le_mul_left W o1
            rw [s2, if_pos (by omega)]
            decide
          rw [if_pos (show (999999999 : Int64) < lN W from (pk_lLT (a := 999999999) (by omega) (by omega)).mpr hW), if_neg hc]
          exact ⟨t, u, rfl, fun x => absurd x hc⟩
        · rw [if_neg (show ¬ (999999999 : Int64) < lN W from fun x => hW ((pk_lLT (a := 999999999) (by omega) (by omega)).mp x))]
          have m5 : W * (B ^ h * byq B q) ≤ 999999999 * (65536 * 65535) := Nat.mul_le_mul (by omega) m2
          have e107 : f_X11_makesNumber_b107 ss rd t u (nI k) (nI h) (nI q) (lN W) (lN (byq B q)) = some (nI (if cod (W * (B ^ h * byq B q) + (H * byq B q + P)) (B ^ h * byq B q) = 0 then 0 else 2), lN (rdn (W * (B ^ h * byq B q) + (H * byq B q + P)) (B ^ h * byq B q)), lN (rdd (W * (B ^ h * byq B q) + (H * byq B q + P)) (B ^ h * byq B q))) := by
            unfold f_X11_makesNumber_b107
            rw [k14, k18, d2, Option.bind_some, d3, Option.bind_some, m_power hb (by omega), Option.bind_some, nI_l (by omega), lN_mul, lN_mul, lN_mul, lN_add, lN_add, m_makes t u (by omega) m3 (by omega), Option.bind_some]
            have hc := cod_le (W * (B ^ h * byq B q) + (H * byq B q + P)) (B ^ h * byq B q)
            by_cases z : cod (W * (B ^ h * byq B q) + (H * byq B q + P)) (B ^ h * byq B q) = 0
            · rw [if_pos ((c_le0 (by omega)).mpr z), if_pos z]; rfl
            · rw [if_neg (fun x => z ((c_le0 (by omega)).mp x)), if_neg z]; rfl
          by_cases q0 : q = 0
          · subst q0
            rw [if_pos (show nI 0 = 0 from rfl)]
            exact ⟨_, _, e107, fun _ => ⟨rfl, rfl⟩⟩
          · have hy : byq B q = B ^ q - 1 := if_neg q0
            have hl : (nI (B ^ q)).toInt64 - 1 = lN (byq B q) := by
              rw [nI_l (by omega), show (1 : Int64) = lN 1 from rfl, lN_sub (by omega), hy]
            rw [if_neg (c_ne0 (by omega) (by omega)), m_power hb (by omega), Option.bind_some, hl]
            exact ⟨_, _, e107, fun _ => ⟨rfl, rfl⟩⟩
/-- what a part's fraction leaves on both sides, where it can be -/
def Fr (kk : Nat) (r : RC) (t u : Int64) : Prop := kk ≤ 3 ∧ (kk = 0 → ∃ a d, r = (lN a, lN d) ∧ t = lN a ∧ u = lN d ∧ a ≤ 999999999 ∧ 0 < d ∧ d ≤ 999 ∧ Nat.gcd a d = 1)
theorem fr_of {n d : Nat} {r : RC} {t u : Int64} (hd : 0 < d) (hr : cod n d = 0 → r = (lN (rdn n d), lN (rdd n d))) (ht : cod n d = 0 → t = lN (rdn n d) ∧ u = lN (rdd n d)) : Fr (if cod n d = 0 then 0 else 2) r t u := by
  by_cases z : cod n d = 0
  · rw [if_pos z]
    obtain ⟨k1, k2⟩ := cod_0 z
    obtain ⟨g1, g2, g3, g4⟩ := red_ok (n := n) hd
    exact ⟨by omega, fun _ => ⟨_, _, hr z, (ht z).1, (ht z).2, k1, g1, k2, g4⟩⟩
  · rw [if_neg z]
    exact ⟨by omega, fun x => absurd x (by decide)⟩
theorem num_both {now : SC} {ent : EC} {res : RC} {cs : Nat → Nat} {n p t B w h q k : Nat} {ss rd : Nat → Int32} (T : Tx ent.2.1 cs n) (hB1 : 1 < B) (hB : B < 17) (ht : t ≤ n) (hb : ss 0 = nI B) (hk : k + 24 ≤ 512) (K : NT cs p t (fun j => rd (k + j)) w h q) (tt u : Int64) : ∃ kk r' num' t' u', f_X10_formEntry_b36 xfuel now ent res (bgn B) (nI t) (nI p) = some (nI kk, r', num') ∧ f_X11_makesNumber ss rd tt u (nI k) = some (nI kk, t', u') ∧ Fr kk r' t' u' := by
  have hn := T.1
  obtain ⟨N, x, e⟩ := q_numtext (now := now) (res := res) T hB ht K
  obtain ⟨w1, w8, h4, q4, g3, g4, g5, wd, K⟩ := K
  rw [e]
  clear e
  unfold f_X10_formEntry_b36
  rw [if_pos ((nI_leI (by omega) (by omega)).mpr (Nat.le_refl _))]
  dsimp only
  have hh : ∀ j, j < h → isD (cs (p + w + 1 + j)) = true ∧ rd (k + 14 + j) = nI (dgv (cs (p + w + 1 + j))) := by
    intro j hj
    rcases K with ⟨rfl, _⟩ | ⟨_, hd, _⟩
    · exact absurd hj (Nat.not_lt_zero _)
    · have := hd j hj
      rw [show k + 14 + j = k + (14 + j) by omega]
      exact this
  have hq : ∀ j, j < q → isD (cs (p + w + 2 + h + j)) = true ∧ rd (k + 18 + j) = nI (dgv (cs (p + w + 2 + h + j))) := by
    intro j hj
    rcases K with ⟨_, rfl, _⟩ | ⟨_, _, ⟨rfl, _⟩ | ⟨_, _, hq, _⟩⟩
    · exact absurd hj (Nat.not_lt_zero _)
    · exact absurd hj (Nat.not_lt_zero _)
    · have := hq j hj
      rw [show k + 18 + j = k + (18 + j) by omega]
      exact this
  obtain ⟨f1, f2⟩ := m_makesNumber (v1 := fun j => dgv (cs (p + j))) (v2 := fun j => dgv (cs (p + w + 1 + j))) (v3 := fun j => dgv (cs (p + w + 2 + h + j))) hB1 hB hb hk w8 h4 q4 g3 g4 g5 (fun j hj => by rw [show k + 6 + j = k + (6 + j) by omega]; exact (wd j hj).2) (fun j hj => dgv_le (wd j hj).1) (fun j hj => (hh j hj).2) (fun j hj => dgv_le (hh j hj).1) (fun j hj => (hq j hj).2) (fun j hj => dgv_le (hq j hj).1) tt u
  by_cases a : (alb B (fun j => dgv (cs (p + j))) w && alb B (fun j => dgv (cs (p + w + 1 + j))) h && alb B (fun j => dgv (cs (p + w + 2 + h + j))) q) = true
  · obtain ⟨t', u', f3, f4⟩ := f2 a
    have a0 := Bool.and_eq_true_iff.mp a
    have a1 := Bool.and_eq_true_iff.mp a0.1
    have l1 := dsv_lt w a1.1
    have l2 := dsv_lt h a1.2
    have l3 := dsv_lt q a0.2
    rw [a]
    clear f1 f2 a a0 a1
    have hP : q = 0 → dsv B (fun j => dgv (cs (p + w + 2 + h + j))) q = 0 := fun z => by subst z; rfl
    generalize dsv B (fun j => dgv (cs (p + j))) w = W at *
    generalize dsv B (fun j => dgv (cs (p + w + 1 + j))) h = H at *
    generalize dsv B (fun j => dgv (cs (p + w + 2 + h + j))) q = P at *
    have p8 := pw8 hB w8
    obtain ⟨ph1, ph2, ph3⟩ := pw4 hB1 hB h4
    obtain ⟨pq1, pq2, pq3⟩ := pw4 hB1 hB q4
    obtain ⟨y1, y2⟩ := byq_ok hB1 hB q4
    have m1 : H * byq B q ≤ 65536 * 65535 := Nat.mul_le_mul (by omega) y2
    have m2 : B ^ h * byq B q ≤ 65536 * 65535 := Nat.mul_le_mul ph2 y2
    have m3 : 0 < B ^ h * byq B q := Nat.mul_pos ph1 y1
    obtain ⟨r', e1, e2, e3⟩ := q_putnum (num := (fl true, nI B, x, (if q = 0 then 0 else 1), lN W, lN H, lN (B ^ h), lN P, lN (B ^ q))) (W := W) (bn := H * byq B q + P) (be := B ^ h * byq B q) rfl m3 (by omega) (by omega) (by omega)
    have e4 : f_X4_putInto (fl true, nI B, x, (if q = 0 then 0 else 1), lN W, lN H, lN (B ^ h), lN P, lN (B ^ q)) res = some r' := by
      unfold f_X4_putInto
      dsimp only
      by_cases q0 : q = 0
      · have hy : byq B q = 1 := if_pos q0
        rw [hP q0, hy, Nat.mul_one, Nat.mul_one, Nat.add_zero] at e1
        rw [if_pos (show (if q = 0 then (0 : Int32) else 1) = 0 from if_pos q0), q_put res (by omega) ph1 (by omega), Option.bind_some]
        rw [hP q0]
        exact e1
      · have hy : byq B q = B ^ q - 1 := if_neg q0
        have hl : lN (B ^ q) - 1 = lN (byq B q) := by
          rw [show (1 : Int64) = lN 1 from rfl, lN_sub (by omega), hy]
        rw [if_neg (show ¬ (if q = 0 then (0 : Int32) else 1) = 0 by rw [if_neg q0]; decide), hl, lN_mul, lN_mul, lN_add, q_put res (by omega) m3 (by omega), Option.bind_some]
        exact e1
    rw [if_pos (show fl true = 0 by decide), e4, Option.bind_some]
    unfold f_X10_formEntry_b136
    rw [e2, Option.bind_some]
    exact ⟨_, r', _, t', u', rfl, f3, fr_of m3 e3 f4⟩
  · have a2 := Bool.eq_false_iff.mpr a
    rw [a2, if_neg (show ¬ fl false = 0 by decide)]
    exact ⟨1, res, _, tt, u, rfl, f1 a, by omega, fun z => absurd z (by decide)⟩
