/-! Digits of a text: their value and whether they are below the base; the numbers of both sides. -/
def dsv (B : Nat) (v : Nat → Nat) : Nat → Nat
  | 0 => 0
  | m + 1 => dsv B v m * B + v m
def alb (B : Nat) (v : Nat → Nat) : Nat → Bool
  | 0 => true
  | m + 1 => alb B v m && decide (v m < B)
theorem dsv_lt {B : Nat} {v : Nat → Nat} : ∀ m, alb B v m = true → dsv B v m < B ^ m := by
  intro m
  induction m with
  | zero => intro _; exact Nat.one_pos
  | succ m ih =>
    intro h
    have h1 : alb B v m = true ∧ decide (v m < B) = true := Bool.and_eq_true_iff.mp h
    have h2 : (dsv B v m + 1) * B ≤ B ^ m * B := Nat.mul_le_mul_right B (ih h1.1)
    rw [Nat.add_mul, Nat.one_mul] at h2
    have h3 := of_decide_eq_true h1.2
    show dsv B v m * B + v m < B ^ (m + 1)
    rw [Nat.pow_succ]
    omega
theorem m_dsv_loop {B k m : Nat} {ss rd : Nat → Int32} {v : Nat → Nat} (hB : B < 17) (hb : ss 0 = nI B) (hk : k + m ≤ 512) (hr : ∀ j, j < m → rd (k + j) = nI (v j)) (hv : ∀ j, j < m → v j ≤ 15) : ∀ (t n i : Nat), i + t = m → t < n → f_X11_digitsOf_b5 n ss rd (nI k) (nI m) (lN (dsv B v i)) (nI i) = some (lN (dsv B v m)) := by
  intro t
  induction t with
  | zero =>
    intro n i h hn
    obtain ⟨n, rfl⟩ : ∃ q, n = q + 1 := ⟨n - 1, by omega⟩
    have hi : i = m := by omega
    subst hi
    unfold f_X11_digitsOf_b5
    rw [if_pos ((nI_leI (by omega) (by omega)).mpr (Nat.le_refl _))]
  | succ t ih =>
    intro n i h hn
    obtain ⟨n, rfl⟩ : ∃ q, n = q + 1 := ⟨n - 1, by omega⟩
    have hvi := hv i (by omega)
    unfold f_X11_digitsOf_b5
    rw [if_neg (fun q => by have := (nI_leI (by omega) (by omega)).mp q; omega), nI_add, if_neg (nI_in (by omega) (by omega)), nI_clamp (by omega), z0, hb, hr i (by omega), nI_l (by omega), nI_l (by omega), lN_mul, lN_add, nI_1]
    exact ih n (i + 1) (by omega) (by omega)
theorem m_dsv {B k m : Nat} {ss rd : Nat → Int32} {v : Nat → Nat} (hB : B < 17) (hb : ss 0 = nI B) (hk : k + m ≤ 512) (hr : ∀ j, j < m → rd (k + j) = nI (v j)) (hv : ∀ j, j < m → v j ≤ 15) : f_X11_digitsOf ss rd (nI k) (nI m) = some (lN (dsv B v m)) := by
  unfold f_X11_digitsOf
  exact m_dsv_loop hB hb hk hr hv m xfuel 0 (by omega) (by unfold xfuel; omega)
theorem m_alb_loop {B k m : Nat} {ss rd : Nat → Int32} {v : Nat → Nat} (hB : B < 17) (hb : ss 0 = nI B) (hk : k + m ≤ 512) (hr : ∀ j, j < m → rd (k + j) = nI (v j)) (hv : ∀ j, j < m → v j ≤ 15) : ∀ (t n i : Nat), i + t = m → t < n → f_X11_areBelow_b5 n ss rd (nI k) (nI m) (if alb B v i = true then 1 else 0) (nI i) = some (if alb B v m = true then 1 else 0) := by
  intro t
  induction t with
  | zero =>
    intro n i h hn
    obtain ⟨n, rfl⟩ : ∃ q, n = q + 1 := ⟨n - 1, by omega⟩
    have hi : i = m := by omega
    subst hi
    unfold f_X11_areBelow_b5
    rw [if_pos ((nI_leI (by omega) (by omega)).mpr (Nat.le_refl _))]
    by_cases a : alb B v i = true
    · rw [if_pos a, if_neg (by decide)]
    · rw [if_neg a, if_neg (by decide)]
  | succ t ih =>
    intro n i h hn
    obtain ⟨n, rfl⟩ : ∃ q, n = q + 1 := ⟨n - 1, by omega⟩
    have hvi := hv i (by omega)
    have e := ih n (i + 1) (by omega) (by omega)
    have ea : alb B v (i + 1) = (alb B v i && decide (v i < B)) := rfl
    unfold f_X11_areBelow_b5 f_X11_areBelow_b37 f_X11_areBelow_b38
    rw [if_neg (fun q => by have := (nI_leI (by omega) (by omega)).mp q; omega), nI_1]
    by_cases a : alb B v i = true
    · rw [if_pos a, if_neg n1, nI_add, if_neg (nI_in (by omega) (by omega)), nI_clamp (by omega), z0, hb, hr i (by omega)]
      by_cases c : v i < B
      · rw [if_neg (fun q => by have := (nI_leI (by omega) (by omega)).mp q; omega)]
        rw [ea, a, decide_eq_true c] at e
        exact e
      · rw [if_pos ((nI_leI (by omega) (by omega)).mpr (by omega))]
        rw [ea, a, decide_eq_false c] at e
        exact e
    · rw [if_neg a, if_pos rfl]
      have a2 : alb B v i = false := Bool.eq_false_iff.mpr a
      rw [ea, a2, Bool.false_and] at e
      exact e
theorem m_alb {B k m : Nat} {ss rd : Nat → Int32} {v : Nat → Nat} (hB : B < 17) (hb : ss 0 = nI B) (hk : k + m ≤ 512) (hr : ∀ j, j < m → rd (k + j) = nI (v j)) (hv : ∀ j, j < m → v j ≤ 15) : f_X11_areBelow ss rd (nI k) (nI m) = some (if alb B v m = true then 1 else 0) := by
  unfold f_X11_areBelow
  exact m_alb_loop hB hb hk hr hv m xfuel 0 (by omega) (by unfold xfuel; omega)
-- the class's number
def fl (b : Bool) : Int32 := if b = true then 0 else 1
theorem dof_all : ∀ c : Fin 127, f_X8_digitOf (nI c.val) = some (if isD c.val = true then nI (dgv c.val) else -1) := by decide +kernel
theorem q_dof {c : Nat} (h : isD c = true) : f_X8_digitOf (nI c) = some (nI (dgv c)) := by
  have h1 := isD_iff.mp h
  have h2 := dof_all ⟨c, by omega⟩
  rw [show f_X8_digitOf (nI c) = _ from h2]
  exact congrArg some (if_pos h)
theorem q_take0 {num : NC} {c : Nat} (h : isD c = true) : f_X4_take num (nI c) = f_X4_takeDigit num (nI (dgv c)) := by
  have h1 := isD_iff.mp h
  obtain ⟨_, a1, a2, a3⟩ := isD_59 h
  unfold f_X4_take
  rw [if_neg (show ¬ nI c = 46 from fun x => a1 ((nI_eq (b := 46) (by omega) (by decide)).mp x)), if_neg (show ¬ nI c = 40 from fun x => a2 ((nI_eq (b := 40) (by omega) (by decide)).mp x)), if_neg (show ¬ nI c = 41 from fun x => a3 ((nI_eq (b := 41) (by omega) (by decide)).mp x)), q_dof h, Option.bind_some]
  cases f_X4_takeDigit num (nI (dgv c)) <;> rfl
theorem q_tdig {b : Bool} {B d : Nat} {x y : Int32} {W H HS P PS : Int64} (hB : B < 17) (hd : d ≤ 15) : f_X4_takeDigit (fl b, nI B, x, y, W, H, HS, P, PS) (nI d) = f_X4_takeDigit_b21 (fl b, nI B, x, y, W, H, HS, P, PS) (nI d) (fl (b && decide (d < B))) := by
  unfold f_X4_takeDigit f_X4_takeDigit_b16
  cases b with
  | false => rw [if_neg (show ¬ fl false = 0 by decide)]; rfl
  | true =>
    rw [if_pos (show fl true = 0 by decide)]
    by_cases c : d < B
    · rw [if_pos (show nI d < nI B from (c_lt (by omega) (by omega)).mpr c), decide_eq_true c]; rfl
    · rw [if_neg (show ¬ nI d < nI B from fun q => c ((c_lt (by omega) (by omega)).mp q)), decide_eq_false c]; rfl
theorem fl_01 (b : Bool) : ¬ ¬ (fl b = 0 ∨ fl b = 1) := by cases b <;> decide
theorem take_w {b : Bool} {B c W : Nat} {H HS P PS : Int64} (hB : B < 17) (h : isD c = true) : f_X4_take (fl b, nI B, 0, 0, lN W, H, HS, P, PS) (nI c) = some (fl (b && decide (dgv c < B)), nI B, 0, 0, lN (W * B + dgv c), H, HS, P, PS) := by
  have hd := dgv_le h
  rw [q_take0 h, q_tdig hB hd]
  unfold f_X4_takeDigit_b21
  rw [if_neg (fl_01 _), if_pos rfl, if_pos rfl]
  show some (_, nI B, 0, 0, lN W * (nI B).toInt64 + (nI (dgv c)).toInt64, _) = _
  rw [nI_l (by omega), nI_l (by omega), lN_mul, lN_add]
theorem take_h {b : Bool} {B c H HS : Nat} {W P PS : Int64} (hB : B < 17) (h : isD c = true) : f_X4_take (fl b, nI B, 1, 0, W, lN H, lN HS, P, PS) (nI c) = some (fl (b && decide (dgv c < B)), nI B, 1, 0, W, lN (H * B + dgv c), lN (HS * B), P, PS) := by
  have hd := dgv_le h
  rw [q_take0 h, q_tdig hB hd]
  unfold f_X4_takeDigit_b21
  rw [if_neg (fl_01 _), if_pos rfl, if_neg (show ¬ (1 : Int32) = 0 by decide)]
  show some (_, nI B, 1, 0, W, lN H * (nI B).toInt64 + (nI (dgv c)).toInt64, lN HS * (nI B).toInt64, P, PS) = _
  rw [nI_l (by omega), nI_l (by omega), lN_mul, lN_add, lN_mul]
theorem take_p {b : Bool} {B c P PS : Nat} {x : Int32} {W H HS : Int64} (hB : B < 17) (h : isD c = true) : f_X4_take (fl b, nI B, x, 1, W, H, HS, lN P, lN PS) (nI c) = some (fl (b && decide (dgv c < B)), nI B, x, 1, W, H, HS, lN (P * B + dgv c), lN (PS * B)) := by
  have hd := dgv_le h
  rw [q_take0 h, q_tdig hB hd]
  unfold f_X4_takeDigit_b21
  rw [if_neg (fl_01 _), if_neg (show ¬ (1 : Int32) = 0 by decide)]
  show some (_, nI B, x, 1, W, H, HS, lN P * (nI B).toInt64 + (nI (dgv c)).toInt64, lN PS * (nI B).toInt64) = _
  rw [nI_l (by omega), nI_l (by omega), lN_mul, lN_add, lN_mul]
theorem q_phase {now : SC} {ent : EC} {res : RC} {cs : Nat → Nat} {n e : Nat} (T : Tx ent.2.1 cs n) (he : e ≤ n) (S : Nat → NC) : ∀ (m N s : Nat), m ≤ N → s + m ≤ e → (∀ j, j < m → f_X4_take (S j) (nI (cs (s + j))) = some (S (j + 1))) → f_X10_formEntry_b36 N now ent res (S 0) (nI e) (nI s) = f_X10_formEntry_b36 (N - m) now ent res (S m) (nI e) (nI (s + m)) := by
  have hn := T.1
  intro m
  induction m with
  | zero => intro N s _ _ _; rfl
  | succ m ih =>
    intro N s hN hs hS
    rw [ih N s (by omega) (by omega) (fun j hj => hS j (by omega))]
    obtain ⟨M, hM⟩ : ∃ q, N - m = q + 1 := ⟨N - m - 1, by omega⟩
    rw [hM, show N - (m + 1) = M by omega]
    conv => lhs; unfold f_X10_formEntry_b36
    rw [if_neg (fun q => by have := (nI_leI (by omega) (by omega)).mp q; omega), q_codeAt T (by omega), Option.bind_some, hS m (by omega), Option.bind_some, nI_1]
    rfl
def bgn (B : Nat) : NC := (0, nI B, 0, 0, 0, 0, 1, 0, 1)
theorem q_numtext {now : SC} {ent : EC} {res : RC} {cs : Nat → Nat} {n p t B w h q : Nat} {g : Nat → Int32} (T : Tx ent.2.1 cs n) (hB : B < 17) (ht : t ≤ n) (K : NT cs p t g w h q) : ∃ N x, f_X10_formEntry_b36 xfuel now ent res (bgn B) (nI t) (nI p) = f_X10_formEntry_b36 (N + 1) now ent res (fl (alb B (fun j => dgv (cs (p + j))) w && alb B (fun j => dgv (cs (p + w + 1 + j))) h && alb B (fun j => dgv (cs (p + w + 2 + h + j))) q), nI B, x, (if q = 0 then 0 else 1), lN (dsv B (fun j => dgv (cs (p + j))) w), lN (dsv B (fun j => dgv (cs (p + w + 1 + j))) h), lN (B ^ h), lN (dsv B (fun j => dgv (cs (p + w + 2 + h + j))) q), lN (B ^ q)) (nI t) (nI t) := by
  obtain ⟨w1, w8, h4, q4, _, _, _, wd, K⟩ := K
  have hn := T.1
  have hpw : p + w ≤ t := by
    rcases K with K | ⟨_, _, K | K⟩ <;> omega
  have e1 := q_phase (now := now) (res := res) T ht (fun j => (fl (alb B (fun j => dgv (cs (p + j))) j), nI B, 0, 0, lN (dsv B (fun j => dgv (cs (p + j))) j), lN 0, lN 1, lN 0, lN 1)) w xfuel p (by unfold xfuel; omega) hpw (fun j hj => take_w hB (wd j hj).1)
  have e0 : bgn B = (fl (alb B (fun j => dgv (cs (p + j))) 0), nI B, 0, 0, lN (dsv B (fun j => dgv (cs (p + j))) 0), lN 0, lN 1, lN 0, lN 1) := rfl
  rw [e0, e1]
  clear e0 e1
  rcases K with ⟨rfl, rfl, rfl⟩ | ⟨d46, hd, K⟩
  · refine ⟨xfuel - w - 1, 0, ?_⟩
    rw [show xfuel - w - 1 + 1 = xfuel - w by unfold xfuel; omega, if_pos rfl]
    show _ = f_X10_formEntry_b36 _ now ent res (fl (alb B (fun j => dgv (cs (p + j))) w && true && true), _) _ _
    rw [Bool.and_true, Bool.and_true]
    rfl
  · have e2 := q_phase (now := now) (res := res) (e := t) T ht (fun j => if j = 0 then (fl (alb B (fun j => dgv (cs (p + j))) w), nI B, 0, 0, lN (dsv B (fun j => dgv (cs (p + j))) w), lN 0, lN 1, lN 0, lN 1) else (fl (alb B (fun j => dgv (cs (p + j))) w), nI B, 1, 0, lN (dsv B (fun j => dgv (cs (p + j))) w), lN 0, lN 1, lN 0, lN 1)) 1 (xfuel - w) (p + w) (by unfold xfuel; omega) (by omega) (fun j hj => by
      have : j = 0 := by omega
      subst this
      rw [Nat.add_zero, d46]
      rfl)
    have e3 := q_phase (now := now) (res := res) (e := t) T ht (fun j => (fl (alb B (fun j => dgv (cs (p + j))) w && alb B (fun j => dgv (cs (p + w + 1 + j))) j), nI B, 1, 0, lN (dsv B (fun j => dgv (cs (p + j))) w), lN (dsv B (fun j => dgv (cs (p + w + 1 + j))) j), lN (B ^ j), lN 0, lN 1)) h (xfuel - w - 1) (p + w + 1) (by unfold xfuel; omega) (by rcases K with K | K <;> omega) (fun j hj => by
      have h := take_h (b := alb B (fun j => dgv (cs (p + j))) w && alb B (fun j => dgv (cs (p + w + 1 + j))) j) (B := B) (H := dsv B (fun j => dgv (cs (p + w + 1 + j))) j) (HS := B ^ j) (W := lN (dsv B (fun j => dgv (cs (p + j))) w)) (P := lN 0) (PS := lN 1) hB (hd j hj).1
      rw [Bool.and_assoc, ← Nat.pow_succ] at h
      exact h)
    have e4 : (fl (alb B (fun j => dgv (cs (p + j))) w && alb B (fun j => dgv (cs (p + w + 1 + j))) 0), nI B, (1 : Int32), (0 : Int32), lN (dsv B (fun j => dgv (cs (p + j))) w), lN (dsv B (fun j => dgv (cs (p + w + 1 + j))) 0), lN (B ^ 0), lN 0, lN 1) = (fl (alb B (fun j => dgv (cs (p + j))) w), nI B, (1 : Int32), (0 : Int32), lN (dsv B (fun j => dgv (cs (p + j))) w), lN 0, lN 1, lN 0, lN 1) := by
      show (fl (alb B (fun j => dgv (cs (p + j))) w && true), _) = _
      rw [Bool.and_true]
      rfl
    simp only [e4] at e3
    refine Exists.elim (show ∃ Z, Z = f_X10_formEntry_b36 (xfuel - w) now ent res (fl (alb B (fun j => dgv (cs (p + j))) w), nI B, 0, 0, lN (dsv B (fun j => dgv (cs (p + j))) w), lN 0, lN 1, lN 0, lN 1) (nI t) (nI (p + w)) from ⟨_, rfl⟩) fun Z hZ => ?_
    show ∃ N x, f_X10_formEntry_b36 (xfuel - w) now ent res (fl (alb B (fun j => dgv (cs (p + j))) w), nI B, 0, 0, lN (dsv B (fun j => dgv (cs (p + j))) w), lN 0, lN 1, lN 0, lN 1) (nI t) (nI (p + w)) = _
    rw [← hZ]
    have e5 : Z = f_X10_formEntry_b36 (xfuel - w - 1 - h) now ent res (fl (alb B (fun j => dgv (cs (p + j))) w && alb B (fun j => dgv (cs (p + w + 1 + j))) h), nI B, 1, 0, lN (dsv B (fun j => dgv (cs (p + j))) w), lN (dsv B (fun j => dgv (cs (p + w + 1 + j))) h), lN (B ^ h), lN 0, lN 1) (nI t) (nI (p + w + 1 + h)) := hZ.trans (Eq.trans e2 e3)
    clear e2 e3 e4 hZ
    rcases K with ⟨rfl, h1, rfl⟩ | ⟨q1, d40, hq, d41, rfl⟩
    · refine ⟨xfuel - w - 1 - h - 1, 1, ?_⟩
      rw [e5, show xfuel - w - 1 - h - 1 + 1 = xfuel - w - 1 - h by unfold xfuel; omega, if_pos rfl]
      show _ = f_X10_formEntry_b36 _ now ent res (fl (alb B (fun j => dgv (cs (p + j))) w && alb B (fun j => dgv (cs (p + w + 1 + j))) h && true), _) _ _
      rw [Bool.and_true]
      rfl
    · have e6 := q_phase (now := now) (res := res) (e := p + w + 3 + h + q) T ht (fun j => if j = 0 then (fl (alb B (fun j => dgv (cs (p + j))) w && alb B (fun j => dgv (cs (p + w + 1 + j))) h), nI B, 1, 0, lN (dsv B (fun j => dgv (cs (p + j))) w), lN (dsv B (fun j => dgv (cs (p + w + 1 + j))) h), lN (B ^ h), lN 0, lN 1) else (fl (alb B (fun j => dgv (cs (p + j))) w && alb B (fun j => dgv (cs (p + w + 1 + j))) h), nI B, 1, 1, lN (dsv B (fun j => dgv (cs (p + j))) w), lN (dsv B (fun j => dgv (cs (p + w + 1 + j))) h), lN (B ^ h), lN 0, lN 1)) 1 (xfuel - w - 1 - h) (p + w + 1 + h) (by unfold xfuel; omega) (by omega) (fun j hj => by
        have : j = 0 := by omega
        subst this
        rw [show p + w + 1 + h + 0 = p + w + 1 + h from rfl, d40]
        rfl)
      have e7 := q_phase (now := now) (res := res) (e := p + w + 3 + h + q) T ht (fun j => (fl (alb B (fun j => dgv (cs (p + j))) w && alb B (fun j => dgv (cs (p + w + 1 + j))) h && alb B (fun j => dgv (cs (p + w + 2 + h + j))) j), nI B, 1, 1, lN (dsv B (fun j => dgv (cs (p + j))) w), lN (dsv B (fun j => dgv (cs (p + w + 1 + j))) h), lN (B ^ h), lN (dsv B (fun j => dgv (cs (p + w + 2 + h + j))) j), lN (B ^ j))) q (xfuel - w - 1 - h - 1) (p + w + 2 + h) (by unfold xfuel; omega) (by omega) (fun j hj => by
        have hh := take_p (b := alb B (fun j => dgv (cs (p + j))) w && alb B (fun j => dgv (cs (p + w + 1 + j))) h && alb B (fun j => dgv (cs (p + w + 2 + h + j))) j) (B := B) (x := 1) (P := dsv B (fun j => dgv (cs (p + w + 2 + h + j))) j) (PS := B ^ j) (W := lN (dsv B (fun j => dgv (cs (p + j))) w)) (H := lN (dsv B (fun j => dgv (cs (p + w + 1 + j))) h)) (HS := lN (B ^ h)) hB (hq j hj).1
        rw [Bool.and_assoc (alb B (fun j => dgv (cs (p + j))) w && alb B (fun j => dgv (cs (p + w + 1 + j))) h), ← Nat.pow_succ] at hh
        exact hh)
      have e8 : (fl (alb B (fun j => dgv (cs (p + j))) w && alb B (fun j => dgv (cs (p + w + 1 + j))) h && alb B (fun j => dgv (cs (p + w + 2 + h + j))) 0), nI B, (1 : Int32), (1 : Int32), lN (dsv B (fun j => dgv (cs (p + j))) w), lN (dsv B (fun j => dgv (cs (p + w + 1 + j))) h), lN (B ^ h), lN (dsv B (fun j => dgv (cs (p + w + 2 + h + j))) 0), lN (B ^ 0)) = (fl (alb B (fun j => dgv (cs (p + j))) w && alb B (fun j => dgv (cs (p + w + 1 + j))) h), nI B, (1 : Int32), (1 : Int32), lN (dsv B (fun j => dgv (cs (p + j))) w), lN (dsv B (fun j => dgv (cs (p + w + 1 + j))) h), lN (B ^ h), lN 0, lN 1) := by
        show (fl (alb B (fun j => dgv (cs (p + j))) w && alb B (fun j => dgv (cs (p + w + 1 + j))) h && true), _) = _
        rw [Bool.and_true]
        rfl
      simp only [e8] at e7
      have e9 := q_phase (now := now) (res := res) (e := p + w + 3 + h + q) T ht (fun _ => (fl (alb B (fun j => dgv (cs (p + j))) w && alb B (fun j => dgv (cs (p + w + 1 + j))) h && alb B (fun j => dgv (cs (p + w + 2 + h + j))) q), nI B, 1, 1, lN (dsv B (fun j => dgv (cs (p + j))) w), lN (dsv B (fun j => dgv (cs (p + w + 1 + j))) h), lN (B ^ h), lN (dsv B (fun j => dgv (cs (p + w + 2 + h + j))) q), lN (B ^ q))) 1 (xfuel - w - 1 - h - 1 - q) (p + w + 2 + h + q) (by unfold xfuel; omega) (by omega) (fun j hj => by
        have : j = 0 := by omega
        subst this
        rw [show p + w + 2 + h + q + 0 = p + w + 2 + h + q from rfl, d41]
        rfl)
      refine ⟨xfuel - w - 1 - h - 1 - q - 1 - 1, 1, ?_⟩
      rw [e5, show xfuel - w - 1 - h - 1 - q - 1 - 1 + 1 = xfuel - w - 1 - h - 1 - q - 1 by unfold xfuel; omega, if_neg (by omega)]
      have e6' : f_X10_formEntry_b36 (xfuel - w - 1 - h) now ent res (fl (alb B (fun j => dgv (cs (p + j))) w && alb B (fun j => dgv (cs (p + w + 1 + j))) h), nI B, 1, 0, lN (dsv B (fun j => dgv (cs (p + j))) w), lN (dsv B (fun j => dgv (cs (p + w + 1 + j))) h), lN (B ^ h), lN 0, lN 1) (nI (p + w + 3 + h + q)) (nI (p + w + 1 + h)) = f_X10_formEntry_b36 (xfuel - w - 1 - h - 1) now ent res (fl (alb B (fun j => dgv (cs (p + j))) w && alb B (fun j => dgv (cs (p + w + 1 + j))) h), nI B, 1, 1, lN (dsv B (fun j => dgv (cs (p + j))) w), lN (dsv B (fun j => dgv (cs (p + w + 1 + j))) h), lN (B ^ h), lN 0, lN 1) (nI (p + w + 3 + h + q)) (nI (p + w + 2 + h)) := by
        rw [show p + w + 2 + h = p + w + 1 + h + 1 by omega]
        exact e6
      rw [e6', e7]
      rw [show p + w + 2 + h + q + 1 = p + w + 3 + h + q by omega] at e9
      exact e9
