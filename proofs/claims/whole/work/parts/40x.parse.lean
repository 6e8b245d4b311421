/-! The other side's reader, held against the characters that may come next. -/
theorem ite_eq0 {p : Prop} [Decidable p] {a b n : Nat} (h1 : a = n) (h2 : b = n) : (if p then a else b) = n := by
  split
  · exact h1
  · exact h2
theorem nx_zero (e r : Nat) : nx e r 0 = 0 := by
  unfold nx
  repeat' (first | rfl | apply ite_eq0)
theorem arun_s {cs : Nat → Nat} {p e r m : Nat} (h : arun cs p = (e, r)) (hm : nx e r (cs p) = m) : arun cs (p + 1) = (m, if m = e then r + 1 else 1) := by
  show (nx (arun cs p).1 (arun cs p).2 (cs p), if nx (arun cs p).1 (arun cs p).2 (cs p) = (arun cs p).1 then (arun cs p).2 + 1 else 1) = _
  rw [h]
  show (nx e r (cs p), if nx e r (cs p) = e then r + 1 else 1) = _
  rw [hm]
theorem live_le {text : Nat → Int32} {cs : Nat → Nat} {n : Nat} (T : Tx text cs n) {p : Nat} (h : (arun cs p).1 ≠ 0) : p ≤ n := by
  refine Nat.le_of_not_lt fun hlt => ?_
  have h1 := (arun_ok p h).2.2 (n + 1) (by omega)
  exact h1 (by show nx (arun cs n).1 (arun cs n).2 (cs n) = 0; rw [T.2.2.2.1 n (Nat.le_refl _), nx_zero])
def Bad (cs : Nat → Nat) (n p : Nat) : Prop := Stk cs n p ∧ ¬ (p = n ∧ may (arun cs p).1 = true)
theorem bad_of {text : Nat → Int32} {cs : Nat → Nat} {n : Nat} (T : Tx text cs n) {p e r : Nat} (h : arun cs p = (e, r)) (he : e ≠ 0) (hm : ¬ (e = 7 ∨ e = 8 ∨ e = 10 ∨ e = 13)) (hn : nx e r (cs p) = 0) : Bad cs n p := by
  have hl : (arun cs p).1 ≠ 0 := by rw [h]; exact he
  refine ⟨⟨live_le T hl, hl, fun _ => by rw [h]; exact hn⟩, fun q => hm ?_⟩
  have := may_iff.mp q.2
  rw [h] at this
  exact this
def PE (cs : Nat → Nat) (n t : Nat) : Prop := t ≤ n ∧ may (arun cs t).1 = true ∧ (cs t ≠ 59 → nx (arun cs t).1 (arun cs t).2 (cs t) = 0)
theorem pe_of {text : Nat → Int32} {cs : Nat → Nat} {n : Nat} (T : Tx text cs n) {p e r : Nat} (h : arun cs p = (e, r)) (hm : e = 7 ∨ e = 8 ∨ e = 10 ∨ e = 13) (hn : cs p ≠ 59 → nx e r (cs p) = 0) : PE cs n p := by
  have hl : (arun cs p).1 ≠ 0 := by rw [h]; show e ≠ 0; omega
  exact ⟨live_le T hl, by rw [h]; exact may_iff.mpr hm, by rw [h]; exact hn⟩
theorem m_signAt {text : Nat → Int32} {cs : Nat → Nat} {n : Nat} (T : Tx text cs n) {p : Nat} (hp : p < 1000) : f_X11_signAt text (nI n) (nI p) = some (nI (cs p)) := by
  have hn := T.1
  unfold f_X11_signAt
  by_cases h : n ≤ p
  · rw [if_pos ((nI_leI (by omega) (by omega)).mpr h), T.2.2.2.1 p h]; rfl
  · rw [if_neg (fun q => h ((nI_leI (by omega) (by omega)).mp q)), if_neg (nI_in (by omega) (by omega)), nI_clamp (by omega), T.2.1 p (by omega)]
theorem m_inN {c lo hi : Nat} (hc : c < 1000) (hl : lo < 1000) (hh : hi < 1000) : f_X11_in (nI c) (nI lo) (nI hi) = some (if lo ≤ c ∧ c ≤ hi then 1 else 0) := by
  unfold f_X11_in
  by_cases a : c < lo
  · rw [if_pos ((c_lt (by omega) (by omega)).mpr a), if_neg (by omega)]
  · rw [if_neg (fun q => a ((c_lt (by omega) (by omega)).mp q))]
    by_cases b : hi < c
    · rw [if_pos ((c_lt (by omega) (by omega)).mpr b), if_neg (by omega)]
    · rw [if_neg (fun q => b ((c_lt (by omega) (by omega)).mp q)), if_pos (by omega)]
theorem m_takes0 {text : Nat → Int32} {cs : Nat → Nat} {n : Nat} (T : Tx text cs n) {p : Nat} (hp : p < 1000) (a b : Int32) : f_X11_takes text (nI n) (nI p) 0 a b = some (nI (cs p) - 48, nI p, 0) := by
  unfold f_X11_takes f_X11_takes_b24 f_X11_takes_b25 f_X11_takes_b53
  rw [if_pos rfl, if_neg (by decide), m_signAt T hp, Option.bind_some, if_pos rfl, show nI p + 0 = nI p from nI_add p 0]
theorem m_takes1 {text : Nat → Int32} {cs : Nat → Nat} {n : Nat} (T : Tx text cs n) {p lo hi : Nat} (hp : p < 1000) (hl : lo < 1000) (hh : hi < 1000) : f_X11_takes text (nI n) (nI p) 1 (nI lo) (nI hi) = some (nI (cs p) - 48, if lo ≤ cs p ∧ cs p ≤ hi then nI (p + 1) else nI p, if lo ≤ cs p ∧ cs p ≤ hi then 1 else 0) := by
  have hc := T.2.2.1 p
  unfold f_X11_takes
  rw [if_neg n1, m_signAt T hp, Option.bind_some, m_inN (by omega) hl hh, Option.bind_some]
  unfold f_X11_takes_b24 f_X11_takes_b25 f_X11_takes_b53
  by_cases a : lo ≤ cs p ∧ cs p ≤ hi
  · rw [if_pos a, if_pos a, if_neg n1, if_neg (by decide), m_signAt T hp, Option.bind_some, if_neg n1, nI_1]
  · rw [if_neg a, if_neg a, if_pos rfl, if_neg (by decide), m_signAt T hp, Option.bind_some, if_pos rfl, show nI p + 0 = nI p from nI_add p 0]
def dgv (c : Nat) : Nat := if c ≤ 57 then c - 48 else c - 87
theorem v16_all : ∀ c : Fin 127, ((f_X11_in (nI c.val) 48 57).bind fun v10 => (if v10 = 0 then ((f_X11_in (nI c.val) 97 102).bind fun v28 => (if v28 = 0 then (some (-1)) else (some ((nI c.val - 97) + 10)))) else (some (nI c.val - 48)))) = some (if isD c.val = true then nI (dgv c.val) else -1) := by decide +kernel
theorem m_value16 {text : Nat → Int32} {cs : Nat → Nat} {n : Nat} (T : Tx text cs n) {p : Nat} (hp : p < 1000) : f_X11_value16 text (nI n) (nI p) = some (if isD (cs p) = true then nI (dgv (cs p)) else -1) := by
  have hc := T.2.2.1 p
  unfold f_X11_value16
  rw [m_signAt T hp, Option.bind_some]
  exact v16_all ⟨cs p, by omega⟩
theorem dgv_le {c : Nat} (h : isD c = true) : dgv c ≤ 15 := by
  have := isD_iff.mp h
  unfold dgv; split <;> omega
theorem dgv_ne {c : Nat} (h : isD c = true) : ¬ nI (dgv c) = -1 := by
  have := dgv_le h
  intro q
  have h2 := congrArg Int32.toInt q
  rw [nI_toInt (by omega)] at h2
  have : (-1 : Int32).toInt = -1 := rfl
  omega
/-- how many digits stand there, up to a number -/
def dl (cs : Nat → Nat) : Nat → Nat → Nat
  | 0, _ => 0
  | k + 1, p => if isD (cs p) = true then dl cs k (p + 1) + 1 else 0
theorem dl_le {cs : Nat → Nat} : ∀ k p, dl cs k p ≤ k := by
  intro k; induction k with
  | zero => intro p; exact Nat.le_refl _
  | succ k ih => intro p; have := ih (p + 1); show (if isD (cs p) = true then dl cs k (p + 1) + 1 else 0) ≤ k + 1; split <;> omega
theorem dl_all {cs : Nat → Nat} : ∀ k p j, j < dl cs k p → isD (cs (p + j)) = true := by
  intro k; induction k with
  | zero => intro p j h; exact absurd h (Nat.not_lt_zero _)
  | succ k ih =>
    intro p j h
    have e : dl cs (k + 1) p = (if isD (cs p) = true then dl cs k (p + 1) + 1 else 0) := rfl
    by_cases d : isD (cs p) = true
    · rw [if_pos d] at e
      cases j with
      | zero => exact d
      | succ j => rw [show p + (j + 1) = p + 1 + j by omega]; exact ih (p + 1) j (by omega)
    · rw [if_neg d] at e; omega
theorem dl_stop {cs : Nat → Nat} : ∀ k p, dl cs k p < k → ¬ isD (cs (p + dl cs k p)) = true := by
  intro k; induction k with
  | zero => intro p h; exact absurd h (Nat.not_lt_zero _)
  | succ k ih =>
    intro p h
    have e : dl cs (k + 1) p = (if isD (cs p) = true then dl cs k (p + 1) + 1 else 0) := rfl
    by_cases d : isD (cs p) = true
    · rw [if_pos d] at e
      rw [e, show p + (dl cs k (p + 1) + 1) = p + 1 + dl cs k (p + 1) by omega]
      exact ih (p + 1) (by omega)
    · rw [if_neg d] at e
      rw [e, Nat.add_zero]; exact d
/-- digits laid into the row of what was read -/
def rdf (cs : Nat → Nat) (rd : Nat → Int32) (to p m : Nat) : Nat → Int32 := fun j => if to ≤ j ∧ j < to + m then nI (dgv (cs (p + (j - to)))) else rd j
theorem rdf_up {cs : Nat → Nat} {rd : Nat → Int32} {to p m : Nat} : upd (rdf cs rd to p m) (to + m) (nI (dgv (cs (p + m)))) = rdf cs rd to p (m + 1) := by
  funext j
  by_cases h : j = to + m
  · subst h
    rw [pk_us]
    unfold rdf
    rw [if_pos (by omega), show to + m - to = m by omega]
  · rw [pk_un h]
    unfold rdf
    by_cases h2 : to ≤ j ∧ j < to + m
    · rw [if_pos h2, if_pos (by omega)]
    · rw [if_neg h2, if_neg (by omega)]
theorem rdf_0 {cs : Nat → Nat} {rd : Nat → Int32} {to p : Nat} : rdf cs rd to p 0 = rd := by funext j; exact if_neg (by omega)
theorem rdf_at {cs : Nat → Nat} {rd : Nat → Int32} {to p m j : Nat} (h : j < m) : rdf cs rd to p m (to + j) = nI (dgv (cs (p + j))) := by
  unfold rdf
  rw [if_pos (by omega), show to + j - to = j by omega]
theorem rdf_out {cs : Nat → Nat} {rd : Nat → Int32} {to p m j : Nat} (h : j < to ∨ to + m ≤ j) : rdf cs rd to p m j = rd j := if_neg (by omega)
theorem m_dig_end {text : Nat → Int32} {n p i : Nat} {rd : Nat → Int32} (hi : i < 1000) : f_X11_takesDigits_b50 text (nI n) (nI p) 1 rd (nI i) = some (nI i, nI p, if i = 0 then 0 else 1, rd) := by
  unfold f_X11_takesDigits_b50 f_X11_takesDigits_b66 f_X11_takesDigits_b67
  rw [if_neg n1]
  by_cases h : i = 0
  · rw [if_pos ((c_le0 (by omega)).mpr h), if_neg (by decide), if_pos h]
  · rw [if_neg (fun q => h ((c_le0 (by omega)).mp q)), if_neg (by decide), if_neg h]
theorem m_dig_loop {text : Nat → Int32} {cs : Nat → Nat} {n : Nat} (T : Tx text cs n) {rd : Nat → Int32} {to p most : Nat} (hto : to + most ≤ 512) (hm : most ≤ 8) (hp : p < 900) : ∀ (t m i : Nat), i + t = most → t < m → f_X11_takesDigits_b2 m text (nI n) (nI (p + i)) 1 (rdf cs rd to p i) (nI to) (nI most) (nI i) = some (nI (i + dl cs t (p + i)), nI (p + (i + dl cs t (p + i))), if i + dl cs t (p + i) = 0 then 0 else 1, rdf cs rd to p (i + dl cs t (p + i))) := by
  intro t
  induction t with
  | zero =>
    intro m i h hm
    obtain ⟨m, rfl⟩ : ∃ q, m = q + 1 := ⟨m - 1, by omega⟩
    have hi : i = most := by omega
    subst hi
    show (if (1 : Int32) = 0 then _ else (if nI i ≤ nI i then f_X11_takesDigits_b50 text (nI n) (nI (p + i)) 1 (rdf cs rd to p i) (nI i) else _)) = _
    rw [if_neg n1, if_pos ((nI_leI (by omega) (by omega)).mpr (Nat.le_refl _)), m_dig_end (by omega)]
    rfl
  | succ t ih =>
    intro m i h hm
    obtain ⟨m, rfl⟩ : ∃ q, m = q + 1 := ⟨m - 1, by omega⟩
    have hv := m_value16 T (p := p + i) (by omega)
    show (if (1 : Int32) = 0 then _ else (if nI most ≤ nI i then _ else ((f_X11_value16 text (nI n) (nI (p + i))).bind fun v15 => (if v15 = (-1) then f_X11_takesDigits_b50 text (nI n) (nI (p + i)) 1 (rdf cs rd to p i) (nI i) else ((f_X11_value16 text (nI n) (nI (p + i))).bind fun v30 => (if (nI to + nI i) < 0 ∨ 512 ≤ (nI to + nI i).toNatClampNeg then none else f_X11_takesDigits_b2 m text (nI n) (nI (p + i) + 1) 1 (upd (rdf cs rd to p i) (nI to + nI i).toNatClampNeg v30) (nI to) (nI most) (nI i + 1))))))) = _
    rw [if_neg n1, if_neg (fun q => by have := (nI_leI (by omega) (by omega)).mp q; omega), hv, Option.bind_some]
    have e : dl cs (t + 1) (p + i) = (if isD (cs (p + i)) = true then dl cs t (p + i + 1) + 1 else 0) := rfl
    by_cases d : isD (cs (p + i)) = true
    · rw [if_pos d] at e
      rw [if_pos d, if_neg (dgv_ne d), Option.bind_some, nI_add, if_neg (nI_in (by omega) (by omega)), nI_clamp (by omega), rdf_up, nI_1, nI_1, e]
      have h2 := ih m (i + 1) (by omega) (by omega)
      rw [show p + (i + 1) = p + i + 1 by omega] at h2
      rw [h2, show i + 1 + dl cs t (p + i + 1) = i + (dl cs t (p + i + 1) + 1) by omega]
    · rw [if_neg d] at e
      rw [if_neg d, if_pos rfl, e, m_dig_end (by omega)]
      rfl
theorem m_takesDigits {text : Nat → Int32} {cs : Nat → Nat} {n : Nat} (T : Tx text cs n) {rd : Nat → Int32} {to p most : Nat} (hto : to + most ≤ 512) (hm : most ≤ 8) (hp : p < 900) : f_X11_takesDigits text (nI n) (nI p) 1 rd (nI to) (nI most) = some (nI (dl cs most p), nI (p + dl cs most p), if dl cs most p = 0 then 0 else 1, rdf cs rd to p (dl cs most p)) := by
  have h := m_dig_loop T (rd := rd) (to := to) (p := p) (most := most) hto hm hp most xfuel 0 (by omega) (by unfold xfuel; omega)
  rw [rdf_0, Nat.add_zero, Nat.zero_add] at h
  unfold f_X11_takesDigits
  exact h
/-- a run of digits, on the class's side -/
theorem dig_run {cs : Nat → Nat} {e cap : Nat} (he : (e = 8 ∧ cap = 8) ∨ (e = 10 ∧ cap = 4) ∨ (e = 12 ∧ cap = 4)) : ∀ (m p r : Nat), arun cs p = (e, r) → (∀ j, j < m → isD (cs (p + j)) = true) → r + m ≤ cap → arun cs (p + m) = (e, r + m) := by
  intro m
  induction m with
  | zero => intro p r h _ _; exact h
  | succ m ih =>
    intro p r h hd hr
    have d := isD_iff.mp (hd 0 (by omega))
    rw [Nat.add_zero] at d
    have hx : nx e r (cs p) = e := by
      rcases he with ⟨rfl, rfl⟩ | ⟨rfl, rfl⟩ | ⟨rfl, rfl⟩
      · rw [nx8, if_pos d, if_pos (by omega)]
      · rw [nx10, if_pos d, if_pos (by omega)]
      · rw [nx12, if_pos d, if_pos (by omega)]
    have h1 := arun_s h hx
    rw [if_pos rfl] at h1
    have h2 := ih (p + 1) (r + 1) h1 (fun j hj => by rw [show p + 1 + j = p + (j + 1) by omega]; exact hd (j + 1) (by omega)) (by omega)
    rw [show p + (m + 1) = p + 1 + m by omega, show r + (m + 1) = r + 1 + m by omega]
    exact h2
/-- the first of a run of digits and the rest of it -/
theorem dig_from {cs : Nat → Nat} {e0 e cap m p r : Nat} (he : (e = 8 ∧ cap = 8) ∨ (e = 10 ∧ cap = 4) ∨ (e = 12 ∧ cap = 4)) (hne : e ≠ e0) (h : arun cs p = (e0, r)) (hx : nx e0 r (cs p) = e) (hd : ∀ j, j < m → isD (cs (p + j)) = true) (hm : 0 < m) (hc : m ≤ cap) : arun cs (p + m) = (e, m) := by
  have h1 := arun_s h hx
  rw [if_neg hne] at h1
  have h2 := dig_run he (m - 1) (p + 1) 1 h1 (fun j hj => by rw [show p + 1 + j = p + (j + 1) by omega]; exact hd (j + 1) (by omega)) (by omega)
  rw [show p + 1 + (m - 1) = p + m by omega, show 1 + (m - 1) = m by omega] at h2
  exact h2
def NT (cs : Nat → Nat) (p t : Nat) (g : Nat → Int32) (w h q : Nat) : Prop := 1 ≤ w ∧ w ≤ 8 ∧ h ≤ 4 ∧ q ≤ 4 ∧ g 3 = nI w ∧ g 4 = nI h ∧ g 5 = nI q ∧ (∀ j, j < w → isD (cs (p + j)) = true ∧ g (6 + j) = nI (dgv (cs (p + j)))) ∧ ((h = 0 ∧ q = 0 ∧ t = p + w) ∨ (cs (p + w) = 46 ∧ (∀ j, j < h → isD (cs (p + w + 1 + j)) = true ∧ g (14 + j) = nI (dgv (cs (p + w + 1 + j)))) ∧ ((q = 0 ∧ 0 < h ∧ t = p + w + 1 + h) ∨ (0 < q ∧ cs (p + w + 1 + h) = 40 ∧ (∀ j, j < q → isD (cs (p + w + 2 + h + j)) = true ∧ g (18 + j) = nI (dgv (cs (p + w + 2 + h + j)))) ∧ cs (p + w + 2 + h + q) = 41 ∧ t = p + w + 3 + h + q))))
