/-! The characters that may come next; the class's first error. -/
def isD (c : Nat) : Bool := decide ((48 ≤ c ∧ c ≤ 57) ∨ (97 ≤ c ∧ c ≤ 102))
theorem isD_iff {c : Nat} : isD c = true ↔ (48 ≤ c ∧ c ≤ 57) ∨ (97 ≤ c ∧ c ≤ 102) := decide_eq_true_iff
def nx (e r c : Nat) : Nat :=
  if e = 1 then (if c = 98 then 4 else if 48 ≤ c ∧ c < 54 then 2 else 0)
  else if e = 2 then (if c = 61 then 6 else if c = 43 ∨ c = 45 then 3 else 0)
  else if e = 3 then (if 48 ≤ c ∧ c < 54 then 13 else 0)
  else if e = 4 then (if c = 49 then 5 else if 50 ≤ c ∧ c ≤ 57 then 13 else 0)
  else if e = 5 then (if 48 ≤ c ∧ c ≤ 54 then 13 else 0)
  else if e = 13 then (if c = 59 then 1 else 0)
  else if e = 6 then (if c = 48 then 7 else if (48 ≤ c ∧ c ≤ 57) ∨ (97 ≤ c ∧ c ≤ 102) then 8 else 0)
  else if e = 7 then (if c = 46 then 9 else if c = 59 then 1 else 0)
  else if e = 8 then (if (48 ≤ c ∧ c ≤ 57) ∨ (97 ≤ c ∧ c ≤ 102) then (if r < 8 then 8 else 0) else if c = 46 then 9 else if c = 59 then 1 else 0)
  else if e = 9 then (if c = 40 then 11 else if (48 ≤ c ∧ c ≤ 57) ∨ (97 ≤ c ∧ c ≤ 102) then 10 else 0)
  else if e = 10 then (if (48 ≤ c ∧ c ≤ 57) ∨ (97 ≤ c ∧ c ≤ 102) then (if r < 4 then 10 else 0) else if c = 40 then 11 else if c = 59 then 1 else 0)
  else if e = 11 then (if (48 ≤ c ∧ c ≤ 57) ∨ (97 ≤ c ∧ c ≤ 102) then 12 else 0)
  else if e = 12 then (if (48 ≤ c ∧ c ≤ 57) ∨ (97 ≤ c ∧ c ≤ 102) then (if r < 4 then 12 else 0) else if c = 41 then 13 else 0)
  else 0
theorem q_nx_all : ∀ e : Fin 14, ∀ r : Fin 9, ∀ c : Fin 127, f_X8_expectedAfter (nI e.val, nI r.val) (nI c.val) = some (nI (nx e.val r.val c.val)) := by decide +kernel
theorem q_nx {e r c : Nat} (he : e ≤ 13) (hr : r ≤ 8) (hc : c ≤ 126) : f_X8_expectedAfter (nI e, nI r) (nI c) = some (nI (nx e r c)) :=
  q_nx_all ⟨e, by omega⟩ ⟨r, by omega⟩ ⟨c, by omega⟩
theorem nx1 (r c : Nat) : nx 1 r c = (if c = 98 then 4 else if 48 ≤ c ∧ c < 54 then 2 else 0) := rfl
theorem nx2 (r c : Nat) : nx 2 r c = (if c = 61 then 6 else if c = 43 ∨ c = 45 then 3 else 0) := rfl
theorem nx3 (r c : Nat) : nx 3 r c = (if 48 ≤ c ∧ c < 54 then 13 else 0) := rfl
theorem nx4 (r c : Nat) : nx 4 r c = (if c = 49 then 5 else if 50 ≤ c ∧ c ≤ 57 then 13 else 0) := rfl
theorem nx5 (r c : Nat) : nx 5 r c = (if 48 ≤ c ∧ c ≤ 54 then 13 else 0) := rfl
theorem nx6 (r c : Nat) : nx 6 r c = (if c = 48 then 7 else if (48 ≤ c ∧ c ≤ 57) ∨ (97 ≤ c ∧ c ≤ 102) then 8 else 0) := rfl
theorem nx7 (r c : Nat) : nx 7 r c = (if c = 46 then 9 else if c = 59 then 1 else 0) := rfl
theorem nx8 (r c : Nat) : nx 8 r c = (if (48 ≤ c ∧ c ≤ 57) ∨ (97 ≤ c ∧ c ≤ 102) then (if r < 8 then 8 else 0) else if c = 46 then 9 else if c = 59 then 1 else 0) := rfl
theorem nx9 (r c : Nat) : nx 9 r c = (if c = 40 then 11 else if (48 ≤ c ∧ c ≤ 57) ∨ (97 ≤ c ∧ c ≤ 102) then 10 else 0) := rfl
theorem nx10 (r c : Nat) : nx 10 r c = (if (48 ≤ c ∧ c ≤ 57) ∨ (97 ≤ c ∧ c ≤ 102) then (if r < 4 then 10 else 0) else if c = 40 then 11 else if c = 59 then 1 else 0) := rfl
theorem nx11 (r c : Nat) : nx 11 r c = (if (48 ≤ c ∧ c ≤ 57) ∨ (97 ≤ c ∧ c ≤ 102) then 12 else 0) := rfl
theorem nx12 (r c : Nat) : nx 12 r c = (if (48 ≤ c ∧ c ≤ 57) ∨ (97 ≤ c ∧ c ≤ 102) then (if r < 4 then 12 else 0) else if c = 41 then 13 else 0) := rfl
theorem nx13 (r c : Nat) : nx 13 r c = (if c = 59 then 1 else 0) := rfl
theorem ite_le {p : Prop} [Decidable p] {a b n : Nat} (h1 : a ≤ n) (h2 : b ≤ n) : (if p then a else b) ≤ n := by
  split
  · exact h1
  · exact h2
theorem ite_ne {p : Prop} [Decidable p] {a b n : Nat} (h1 : a ≠ n) (h2 : b ≠ n) : (if p then a else b) ≠ n := by
  split
  · exact h1
  · exact h2
theorem nx_le (e r c : Nat) : nx e r c ≤ 13 := by
  unfold nx
  repeat' (first | decide | apply ite_le)
/-- how often the same is expected, at most -/
def rcap (e : Nat) : Nat := if e = 8 then 8 else if e = 10 ∨ e = 12 then 4 else 1
theorem nx_self {e r c : Nat} (he : e ≠ 0) (h : nx e r c = e) : (e = 8 ∧ r < 8) ∨ (e = 10 ∧ r < 4) ∨ (e = 12 ∧ r < 4) := by
  have h13 : e ≤ 13 := Nat.le_trans (Nat.le_of_eq h.symm) (nx_le e r c)
  rcases (show e = 1 ∨ e = 2 ∨ e = 3 ∨ e = 4 ∨ e = 5 ∨ e = 6 ∨ e = 7 ∨ e = 8 ∨ e = 9 ∨ e = 10 ∨ e = 11 ∨ e = 12 ∨ e = 13 by omega) with rfl | rfl | rfl | rfl | rfl | rfl | rfl | rfl | rfl | rfl | rfl | rfl | rfl
  · rw [nx1] at h; exact absurd h (by repeat' (first | decide | apply ite_ne))
  · rw [nx2] at h; exact absurd h (by repeat' (first | decide | apply ite_ne))
  · rw [nx3] at h; exact absurd h (by repeat' (first | decide | apply ite_ne))
  · rw [nx4] at h; exact absurd h (by repeat' (first | decide | apply ite_ne))
  · rw [nx5] at h; exact absurd h (by repeat' (first | decide | apply ite_ne))
  · rw [nx6] at h; exact absurd h (by repeat' (first | decide | apply ite_ne))
  · rw [nx7] at h; exact absurd h (by repeat' (first | decide | apply ite_ne))
  · rw [nx8] at h
    by_cases d : (48 ≤ c ∧ c ≤ 57) ∨ (97 ≤ c ∧ c ≤ 102)
    · rw [if_pos d] at h
      by_cases q : r < 8
      · exact Or.inl ⟨rfl, q⟩
      · rw [if_neg q] at h; exact absurd h (by decide)
    · rw [if_neg d] at h
      exact absurd h (by repeat' (first | decide | apply ite_ne))
  · rw [nx9] at h; exact absurd h (by repeat' (first | decide | apply ite_ne))
  · rw [nx10] at h
    by_cases d : (48 ≤ c ∧ c ≤ 57) ∨ (97 ≤ c ∧ c ≤ 102)
    · rw [if_pos d] at h
      by_cases q : r < 4
      · exact Or.inr (Or.inl ⟨rfl, q⟩)
      · rw [if_neg q] at h; exact absurd h (by decide)
    · rw [if_neg d] at h
      exact absurd h (by repeat' (first | decide | apply ite_ne))
  · rw [nx11] at h; exact absurd h (by repeat' (first | decide | apply ite_ne))
  · rw [nx12] at h
    by_cases d : (48 ≤ c ∧ c ≤ 57) ∨ (97 ≤ c ∧ c ≤ 102)
    · rw [if_pos d] at h
      by_cases q : r < 4
      · exact Or.inr (Or.inr ⟨rfl, q⟩)
      · rw [if_neg q] at h; exact absurd h (by decide)
    · rw [if_neg d] at h
      exact absurd h (by repeat' (first | decide | apply ite_ne))
  · rw [nx13] at h; exact absurd h (by repeat' (first | decide | apply ite_ne))
theorem nx_run {e r c : Nat} (he : e ≠ 0) (h : nx e r c = e) : r + 1 ≤ rcap e := by
  rcases nx_self he h with ⟨rfl, q⟩ | ⟨rfl, q⟩ | ⟨rfl, q⟩
  · show r + 1 ≤ 8; omega
  · show r + 1 ≤ 4; omega
  · show r + 1 ≤ 4; omega
def arun (cs : Nat → Nat) : Nat → Nat × Nat
  | 0 => (1, 0)
  | i + 1 => (nx (arun cs i).1 (arun cs i).2 (cs i), if nx (arun cs i).1 (arun cs i).2 (cs i) = (arun cs i).1 then (arun cs i).2 + 1 else 1)
theorem nx_0 (r c : Nat) : nx 0 r c = 0 := rfl
theorem arun_ok {cs : Nat → Nat} : ∀ i, (arun cs i).1 ≠ 0 → (arun cs i).1 ≤ 13 ∧ (arun cs i).2 ≤ rcap (arun cs i).1 ∧ ∀ j, j ≤ i → (arun cs j).1 ≠ 0 := by
  intro i
  induction i with
  | zero => intro _; exact ⟨show (1 : Nat) ≤ 13 by decide, show 0 ≤ rcap 1 by decide, fun j hj => by rw [show j = 0 by omega]; show (1 : Nat) ≠ 0; decide⟩
  | succ i ih =>
    intro h
    have h0 : (arun cs i).1 ≠ 0 := fun q => h (by show nx (arun cs i).1 _ _ = 0; rw [q]; rfl)
    obtain ⟨h1, h2, h3⟩ := ih h0
    refine ⟨nx_le _ _ _, ?_, fun j hj => ?_⟩
    · show (if nx (arun cs i).1 (arun cs i).2 (cs i) = (arun cs i).1 then (arun cs i).2 + 1 else 1) ≤ rcap (nx (arun cs i).1 (arun cs i).2 (cs i))
      by_cases q : nx (arun cs i).1 (arun cs i).2 (cs i) = (arun cs i).1
      · rw [if_pos q, q]; exact nx_run h0 q
      · rw [if_neg q]; unfold rcap; split <;> (try split) <;> omega
    · by_cases q : j = i + 1
      · rw [q]; exact h
      · exact h3 j (by omega)
theorem rcap_le (e : Nat) : rcap e ≤ 8 := by unfold rcap; split <;> (try split) <;> omega
def may (e : Nat) : Bool := decide (e = 7 ∨ e = 8 ∨ e = 10 ∨ e = 13)
theorem may_iff {e : Nat} : may e = true ↔ e = 7 ∨ e = 8 ∨ e = 10 ∨ e = 13 := decide_eq_true_iff
theorem q_may {e r : Nat} (he : e ≤ 13) : f_X8_mayEnd (nI e, nI r) = some (if e = 7 ∨ e = 8 ∨ e = 10 ∨ e = 13 then 1 else 0) := by
  have k : ∀ e : Fin 14, (if nI e.val = 7 then (some 1 : Option Int32) else if nI e.val = 8 then some 1 else if nI e.val = 10 then some 1 else if nI e.val = 13 then some 1 else some 0) = some (if e.val = 7 ∨ e.val = 8 ∨ e.val = 10 ∨ e.val = 13 then 1 else 0) := by decide +kernel
  exact k ⟨e, by omega⟩
/-- the text of both sides: the codes, and 0 behind them -/
def Tx (text : Nat → Int32) (cs : Nat → Nat) (n : Nat) : Prop := n ≤ 60 ∧ (∀ i, i < n → text i = nI (cs i)) ∧ (∀ i, cs i ≤ 126) ∧ (∀ i, n ≤ i → cs i = 0) ∧ ∀ i, i < n → 33 ≤ cs i
theorem q_codeAt {ent : EC} {cs : Nat → Nat} {n i : Nat} (T : Tx ent.2.1 cs n) (h : i < n) : f_X2_codeAt ent (nI i) = some (nI (cs i)) := by
  have := T.1
  unfold f_X2_codeAt
  rw [if_neg (nI_pos (by omega)), if_neg (fun q => by have := (nI_leI (a := 60) (by decide) (by omega)).mp q; omega), if_neg (nI_in (by omega) (by omega)), nI_clamp (by omega), T.2.1 i h]
theorem q_takeC {e r c : Nat} (he : e ≠ 0) (he2 : e ≤ 13) (hr : r ≤ rcap e) (hc : c ≤ 126) : f_X8_take (nI e, nI r) (nI c) = some (if nx e r c = 0 then 0 else 1, (nI (nx e r c), nI (if nx e r c = e then r + 1 else 1))) := by
  have h8 := rcap_le e
  have hn := nx_le e r c
  unfold f_X8_take
  rw [q_nx he2 (by omega) hc, Option.bind_some]
  unfold f_X8_take_b25
  show (if nI (nx e r c) = nI e then (if nI (nx e r c) = 0 then some (0, (nI (nx e r c), nI r + 1)) else some (1, (nI (nx e r c), nI r + 1))) else (if nI (nx e r c) = 0 then some (0, (nI (nx e r c), 1)) else some (1, (nI (nx e r c), 1)))) = _
  by_cases q : nx e r c = e
  · rw [if_pos (show nI (nx e r c) = nI e by rw [q]), if_pos q, nI_1]
    by_cases z : nx e r c = 0
    · omega
    · rw [if_neg (c_ne0 (by omega) (by omega)), if_neg z]
  · rw [if_neg (fun w => q ((nI_eq (by omega) (by omega)).mp w)), if_neg q]
    by_cases z : nx e r c = 0
    · rw [if_pos (show nI (nx e r c) = 0 by rw [z]; rfl), if_pos z]; rfl
    · rw [if_neg (c_ne0 (by omega) (by omega)), if_neg z]; rfl
/-- where no character goes further -/
def Stk (cs : Nat → Nat) (n p : Nat) : Prop := p ≤ n ∧ (arun cs p).1 ≠ 0 ∧ (p < n → nx (arun cs p).1 (arun cs p).2 (cs p) = 0)
theorem q_err_loop {cs : Nat → Nat} {n p : Nat} {codes : Nat → Int32} (T : Tx codes cs n) (K : Stk cs n p) : ∀ (t m i : Nat), i + t = p → t < m → ∃ y, f_X2_errorIndex_b9 m (nI n, codes, nI (arun cs i).1, nI (arun cs i).2) (nI i) = some (nI p, (nI n, codes, y)) ∧ (p = n → y = (nI (arun cs n).1, nI (arun cs n).2)) := by
  have hn60 := T.1
  intro t
  induction t with
  | zero =>
    intro m i h hm
    obtain ⟨m, rfl⟩ : ∃ q, m = q + 1 := ⟨m - 1, by omega⟩
    have hi : i = p := by omega
    subst hi
    obtain ⟨k1, k2, k3⟩ := K
    obtain ⟨a1, a2, a3⟩ := arun_ok i k2
    by_cases q : i = n
    · refine ⟨(nI (arun cs i).1, nI (arun cs i).2), ?_, fun _ => by rw [q]⟩
      show (if nI n ≤ nI i then some (nI n, (nI n, codes, nI (arun cs i).1, nI (arun cs i).2)) else _) = _
      rw [q, if_pos ((nI_leI (by omega) (by omega)).mpr (Nat.le_refl _))]
    · have hlt : i < n := by omega
      refine ⟨(nI 0, nI (if 0 = (arun cs i).1 then (arun cs i).2 + 1 else 1)), ?_, fun w => absurd w q⟩
      show (if nI n ≤ nI i then _ else ((f_X2_codeAt (nI n, codes, nI (arun cs i).1, nI (arun cs i).2) (nI i)).bind fun v23 => ((f_X8_take (nI (arun cs i).1, nI (arun cs i).2) v23).bind fun v26 => (if v26.1 = 0 then (some (nI i, (nI n, codes, v26.2.1, v26.2.2))) else f_X2_errorIndex_b9 m (nI n, codes, v26.2.1, v26.2.2) (nI i + 1))))) = _
      rw [if_neg (fun w => by have := (nI_leI (by omega) (by omega)).mp w; omega), q_codeAt T hlt, Option.bind_some, q_takeC k2 a1 a2 (T.2.2.1 i), Option.bind_some, k3 hlt]
      rfl
  | succ t ih =>
    intro m i h hm
    obtain ⟨m, rfl⟩ : ∃ q, m = q + 1 := ⟨m - 1, by omega⟩
    obtain ⟨k1, k2, k3⟩ := K
    obtain ⟨_, _, a3⟩ := arun_ok p k2
    have hi0 := a3 i (by omega)
    have hi1 := a3 (i + 1) (by omega)
    obtain ⟨a1, a2, _⟩ := arun_ok i hi0
    obtain ⟨y, e1, e2⟩ := ih m (i + 1) (by omega) (by omega)
    refine ⟨y, ?_, e2⟩
    have hnx : ¬ nx (arun cs i).1 (arun cs i).2 (cs i) = 0 := hi1
    show (if nI n ≤ nI i then _ else ((f_X2_codeAt (nI n, codes, nI (arun cs i).1, nI (arun cs i).2) (nI i)).bind fun v23 => ((f_X8_take (nI (arun cs i).1, nI (arun cs i).2) v23).bind fun v26 => (if v26.1 = 0 then (some (nI i, (nI n, codes, v26.2.1, v26.2.2))) else f_X2_errorIndex_b9 m (nI n, codes, v26.2.1, v26.2.2) (nI i + 1))))) = _
    rw [if_neg (fun w => by have := (nI_leI (by omega) (by omega)).mp w; omega), q_codeAt T (by omega), Option.bind_some, q_takeC hi0 a1 a2 (T.2.2.1 i), Option.bind_some, if_neg hnx]
    show (if (1 : Int32) = 0 then _ else f_X2_errorIndex_b9 m (nI n, codes, nI (arun cs (i + 1)).1, nI (arun cs (i + 1)).2) (nI i + 1)) = _
    rw [if_neg n1, nI_1]
    exact e1
theorem q_err {ent : EC} {cs : Nat → Nat} {n p : Nat} (T : Tx ent.2.1 cs n) (hl : ent.1 = nI n) (K : Stk cs n p) : ∃ y, f_X2_errorIndex ent = some (nI p, (nI n, ent.2.1, y)) ∧ (p = n → y = (nI (arun cs n).1, nI (arun cs n).2)) := by
  have hn60 := T.1
  have hp := K.1
  obtain ⟨y, e1, e2⟩ := q_err_loop T K p xfuel 0 (by omega) (by unfold xfuel; omega)
  refine ⟨y, ?_, e2⟩
  unfold f_X2_errorIndex
  rw [show f_X8_begin ent.2.2 = some (nI 1, nI 0) from rfl, Option.bind_some, hl]
  exact e1
theorem q_complete {ent : EC} {cs : Nat → Nat} {n p : Nat} (T : Tx ent.2.1 cs n) (hl : ent.1 = nI n) (K : Stk cs n p) : ∃ y, f_X2_areComplete ent = some (if p = n ∧ may (arun cs p).1 = true then 1 else 0, (nI n, ent.2.1, y)) := by
  have hn60 := T.1
  have hp := K.1
  obtain ⟨a1, a2, a3⟩ := arun_ok p K.2.1
  obtain ⟨y, e1, e2⟩ := q_err T hl K
  refine ⟨y, ?_⟩
  unfold f_X2_areComplete
  rw [e1, Option.bind_some]
  by_cases q : p = n
  · rw [if_pos (show nI p = nI n by rw [q])]
    show ((f_X8_mayEnd y).bind _) = _
    rw [e2 q, ← q, q_may a1, Option.bind_some]
    by_cases m : may (arun cs p).1 = true
    · rw [if_pos (may_iff.mp m), if_neg n1, if_pos ⟨rfl, m⟩]
    · rw [if_neg (fun w => m (may_iff.mpr w)), if_pos rfl, if_neg (fun w => m w.2)]
  · rw [if_neg (show ¬ nI p = nI n from fun w => q ((nI_eq (by omega) (by omega)).mp w)), if_neg (fun w => q w.1)]
