/-! The law: from the fresh object on every turn keeps the state, and the law comes to 1. -/
theorem i_mul (a b : Nat) : nI a * nI b = nI (a * b) := (Int32.ofNat_mul a b).symm
theorem cell_ok (xs : Nat → Int32) {L k : Nat} (hL : L ≤ 260) (hk : k < 100) : ∃ v, f_L_cell xs L (nI k) = some v := by
  unfold f_L_cell
  by_cases h : Int32.ofNat L ≤ nI k
  · exact ⟨_, if_pos h⟩
  · have hlt : k < L := by
      rcases Nat.lt_or_ge k L with q | q
      · exact q
      · exact absurd ((nI_leI (a := L) (b := k) (by omega) (by omega)).mpr q) h
    refine ⟨xs (nI k).toNatClampNeg, ?_⟩
    rw [if_neg h, if_neg (nI_in hlt (by omega))]
section
variable {xs : Nat → Int32} {L : Nat} {k82 : (Nat → Int32) → Nat → SC → HC → RC → CC → Int32 → Option Int32} {i : Nat}
theorem h_263 (hk : ∀ (now : SC) (hist : HC) (res : RC) (col : CC) (B : Nat) (nu de : Nat → Nat), Nk now B nu de → Hw hist → k82 xs L now hist res col (nI i + 1) = some 1) (now : SC) (hist : HC) (res : RC) (col : CC) {B : Nat} {nu de : Nat → Nat} (K : Nk now B nu de) (H : Hw hist) (v x : Int32) : f_L_law_b263 k82 xs L now hist res col (nI i) v x = some 1 := by
  obtain ⟨a, ha, ea⟩ := low_ok (v >>> ((4 : Int32) &&& 31)) (N := 6) (by decide) (by decide)
  obtain ⟨b, hb, eb⟩ := low_ok (x >>> ((3 : Int32) &&& 31)) (N := 6) (by decide) (by decide)
  obtain ⟨p, hp, ep⟩ := low_ok x (N := 30) (by decide) (by decide)
  have ea' : f_L_low (v >>> ((4 : Int32) &&& 31)) 6 = some (nI a) := ea
  have eb' : f_L_low (x >>> ((3 : Int32) &&& 31)) 6 = some (nI b) := eb
  have ep' : f_L_low x 30 = some (nI p) := ep
  obtain ⟨col', e⟩ := holds_ok K.1 K.2.1 ha hb col hp
  unfold f_L_law_b263
  rw [ea', Option.bind_some, eb', Option.bind_some, ep', Option.bind_some, e, Option.bind_some]
  show (if (1 : Int32) = 0 then some 0 else k82 xs L now hist res col' (nI i + 1)) = some 1
  rw [if_neg n1]
  exact hk now hist res col' B nu de K H
theorem h_111 (hL : L ≤ 260) (hi : i < 40) (hk : ∀ (now : SC) (hist : HC) (res : RC) (col : CC) (B : Nat) (nu de : Nat → Nat), Nk now B nu de → Hw hist → k82 xs L now hist res col (nI i + 1) = some 1) (now : SC) (hist : HC) (res : RC) (col : CC) {B : Nat} {nu de : Nat → Nat} (K : Nk now B nu de) (H : Hw hist) (v : Int32) : f_L_law_b111 k82 xs L now hist res col (nI i) v = some 1 := by
  obtain ⟨x, ex⟩ := cell_ok xs (k := 2 * i + 1) hL (by omega)
  obtain ⟨did, B', nu', de', hact⟩ := act_ok K.1 v x
  obtain ⟨now1, hist1, res1, e1, h1⟩ := hact now hist res K H
  have e1' : f_L_act now hist res v x = some (did, now1, hist1, res1) := e1
  have ec : (2 : Int32) * nI i + 1 = nI (2 * i + 1) := by
    rw [show (2 : Int32) = nI 2 from rfl, i_mul, show (1 : Int32) = nI 1 from rfl, nI_add]
  unfold f_L_law_b111
  rw [ec, ex, Option.bind_some, told_ok K, Option.bind_some]
  show (Option.bind (some hist.1) _) = _
  rw [Option.bind_some, e1', Option.bind_some]
  rcases h1 with ⟨rfl, rfl, rfl⟩ | ⟨rfl, K1, hp⟩
  · show ((f_L_told now1).bind fun v145 => _) = _
    rw [told_ok K, Option.bind_some]
    show (if (0 : Int32) = 0 then (if tld B nu de = tld B nu de then ((some hist1.1).bind fun v164 => (if v164 = hist1.1 then f_L_law_b200 k82 xs L now1 hist1 res1 col (nI i) v x (tld B nu de) 0 (tld B nu de) else (some 0))) else (some 0)) else _) = _
    rw [if_pos rfl, if_pos rfl, Option.bind_some, if_pos rfl]
    unfold f_L_law_b200
    rw [if_pos rfl]
    exact h_263 hk now1 hist1 res1 col K H v x
  · obtain ⟨hist', ep, H1, g6, gl, und⟩ := hw_push H now
    obtain rfl : hist' = hist1 := Option.some.inj (ep.symm.trans hp)
    have main : f_L_law_b200 k82 xs L now1 hist' res1 col (nI i) v x (tld B nu de) 1 (tld B' nu' de') = some 1 := by
      unfold f_L_law_b200
      rw [if_neg n1]
      by_cases c : ((v >>> ((20 : Int32) &&& 31)) &&& 1) = 0
      · rw [if_pos c]
        obtain ⟨c2, hist2, eu, al, H2⟩ := und now1
        have K2 : Nk c2 B nu de := K.alk al
        obtain ⟨now3, hist3, res3, e3, h3⟩ := hact c2 hist2 res1 K2 H2
        have e3' : f_L_act c2 hist2 res1 v x = some (1, now3, hist3, res3) := e3
        show (Option.bind (some hist'.1) _) = _
        rw [Option.bind_some, eu, Option.bind_some, Sum.elim_inr]
        show (if hist'.1 - 1 = hist'.1 - 1 then ((f_L_told c2).bind fun v232 => (if v232 = tld B nu de then ((f_L_act c2 hist2 res1 v x).bind fun v245 => (if v245.1 = 0 then (some 0) else ((f_L_told v245.2.1).bind fun v252 => (if v252 = tld B' nu' de' then f_L_law_b263 k82 xs L v245.2.1 v245.2.2.1 v245.2.2.2 col (nI i) v x else (some 0))))) else (some 0))) else (some 0)) = _
        rw [if_pos rfl, told_ok K2, Option.bind_some, if_pos rfl, e3', Option.bind_some]
        show (if (1 : Int32) = 0 then (some 0) else ((f_L_told now3).bind fun v252 => (if v252 = tld B' nu' de' then f_L_law_b263 k82 xs L now3 hist3 res3 col (nI i) v x else (some 0)))) = _
        rw [if_neg n1]
        rcases h3 with ⟨q, -, -⟩ | ⟨-, K3, hp3⟩
        · exact absurd q n1
        · obtain ⟨hist4, ep4, H4, -⟩ := hw_push H2 c2
          obtain rfl : hist4 = hist3 := Option.some.inj (ep4.symm.trans hp3)
          rw [told_ok K3, Option.bind_some, if_pos rfl]
          exact h_263 hk now3 hist4 res3 col K3 H4 v x
      · rw [if_neg c]
        exact h_263 hk now1 hist' res1 col K1 H1 v x
    show ((f_L_told now1).bind fun v145 => _) = _
    rw [told_ok K1, Option.bind_some]
    show (if (1 : Int32) = 0 then _ else ((some hist'.1).bind fun v176 => (if 6 ≤ hist.1 then f_L_law_b195 k82 xs L now1 hist' res1 col (nI i) v x (tld B nu de) 1 (tld B' nu' de') 6 v176 else f_L_law_b195 k82 xs L now1 hist' res1 col (nI i) v x (tld B nu de) 1 (tld B' nu' de') (hist.1 + 1) v176))) = _
    rw [if_neg n1, Option.bind_some]
    by_cases c6 : 6 ≤ hist.1
    · rw [if_pos c6]
      unfold f_L_law_b195
      rw [if_pos (g6 c6)]
      exact main
    · rw [if_neg c6]
      unfold f_L_law_b195
      rw [if_pos (gl c6)]
      exact main
end
theorem law_turns (xs : Nat → Int32) {L : Nat} (hL : L ≤ 260) : ∀ (t n i : Nat) (now : SC) (hist : HC) (res : RC) (col : CC) (B : Nat) (nu de : Nat → Nat), i + t = 40 → t < n → Nk now B nu de → Hw hist → f_L_law_b82 n xs L now hist res col (nI i) = some 1 := by
  intro t
  induction t with
  | zero =>
    intro n i now hist res col B nu de hi hn K H
    obtain ⟨n, rfl⟩ : ∃ q, n = q + 1 := ⟨n - 1, by omega⟩
    obtain rfl : i = 40 := by omega
    unfold f_L_law_b82
    rw [if_pos (show (40 : Int32) ≤ nI 40 by decide)]
  | succ t ih =>
    intro n i now hist res col B nu de hi hn K H
    obtain ⟨n, rfl⟩ : ∃ q, n = q + 1 := ⟨n - 1, by omega⟩
    have hl : ¬ (40 : Int32) ≤ nI i := fun q => by have := (nI_leI (a := 40) (by omega) (by omega)).mp q; omega
    obtain ⟨v, ev⟩ := cell_ok xs (k := 2 * i) hL (by omega)
    have hk : ∀ (now : SC) (hist : HC) (res : RC) (col : CC) (B : Nat) (nu de : Nat → Nat), Nk now B nu de → Hw hist → f_L_law_b82 n xs L now hist res col (nI i + 1) = some 1 := by
      intro now hist res col B nu de K H
      rw [show nI i + 1 = nI (i + 1) from nI_add i 1]
      exact ih n (i + 1) now hist res col B nu de (by omega) (by omega) K H
    unfold f_L_law_b82
    rw [if_neg hl, show (2 : Int32) * nI i = nI (2 * i) from i_mul 2 i, ev, Option.bind_some]
    by_cases c : 3 ≤ nI i
    · rw [if_pos c]
      exact h_111 hL (by omega) hk now hist res col K H v
    · rw [if_neg c]
      exact h_111 hL (by omega) hk now hist res col K H _
theorem shs0 : (shs (fun _ => 0) (fun _ => 1) 6).toNat = 0 := by decide +kernel
theorem law_pure (xs : Nat → Int32) (L : Nat) (hL : L ≤ 260) : law_run xs L = some 1 := by
  have hR : Rok 6 (fun _ => 0) (fun _ => 1) := ⟨by decide, by decide, fun a _ => ⟨Nat.zero_le _, Nat.one_pos, by show 1 ≤ 999; decide, Nat.gcd_one_right _⟩⟩
  have hden : ∀ a, a < 6 → iDen a = 1 := by
    intro a ha
    rcases lt6 ha with rfl | rfl | rfl | rfl | rfl | rfl <;> rfl
  have hC : Cok (6, 0, 0, (fun _ => 0), iDen) 6 (fun _ => 0) (fun _ => 1) := ⟨rfl, fun a ha => ⟨rfl, hden a ha⟩⟩
  have hK : Nk (6, 0, 0, (fun _ => 0), iDen) 6 (fun _ => 0) (fun _ => 1) := ⟨hR, hC, rfl⟩
  have hH : ∀ f : Nat → SC, Hw (0, 0, f) := fun f => ⟨0, 0, by omega, by omega, rfl, rfl⟩
  have e1 : f_X10_numerator (6, 0, 0, (fun _ => 0), iDen) 5 = some (Sum.inr 0) := v_num hC (a := 5) (by decide)
  have e2 : f_X10_denominator (6, 0, 0, (fun _ => 0), iDen) 0 = some (Sum.inr 1) := v_den hC (a := 0) (by decide)
  have hw : whl (fun _ => 0) (fun _ => 1) 2 = 0 := rfl
  have e3 : f_X10_wholeDigits (6, 0, 0, (fun _ => 0), iDen) 2 = some (Sum.inr 1) := by
    have h := v_wholeDigits hR hC (a := 2) (by decide)
    rw [hw, dcn_small (by decide)] at h
    exact h
  have e4 : f_X10_writtenAt (6, 0, 0, (fun _ => 0), iDen) 2 0 = some (Sum.inr 48) := by
    have h := v_writtenAt hR hC (a := 2) (p := 0) (by decide) (by
      have := (wln_le (B := 6) (w := whl (fun _ => 0) (fun _ => 1) 2) (d := 1) (by decide) (by decide) (by decide) (by decide)).2
      have := dcn_pos 6 (whl (fun _ => 0) (fun _ => 1) 2)
      exact Nat.lt_of_lt_of_le this (wln_le (B := 6) (w := whl (fun _ => 0) (fun _ => 1) 2) (d := 1) (by decide) (by decide) (by decide) (by decide)).2)
    rw [hw] at h
    unfold wch at h
    rw [dcn_small (by decide)] at h
    exact h
  have e5 : f_X10_shareOf (6, 0, 0, (fun _ => 0), iDen) 1 = some (Sum.inr FP.dconst0) := by
    have h := v_shareOf hR hC (a := 1) (by decide)
    unfold shr at h
    rw [if_pos shs0] at h
    exact h
  unfold law_run f_L_law_b8
  show (Option.bind (some (0 : Int32)) _) = _
  rw [Option.bind_some, if_pos rfl]
  show (Option.bind (some (6 : Int32)) _) = _
  rw [Option.bind_some, if_pos rfl, e1, Option.bind_some, Sum.elim_inr, if_pos rfl, e2, Option.bind_some, Sum.elim_inr, if_pos rfl, e3, Option.bind_some, Sum.elim_inr, if_pos rfl, e4, Option.bind_some, Sum.elim_inr, if_pos rfl]
  show (Option.bind (some (0 : Int32)) _) = _
  rw [Option.bind_some, if_pos rfl, e5, Option.bind_some, Sum.elim_inr, if_pos (show Op.cmpValue (FP.dcmp FP.dconst0 FP.dconst0) CmpOp.l = 0 by decide +kernel)]
  show f_L_law_b82 xfuel xs L _ _ _ _ (nI 0) = _
  exact law_turns xs hL 40 xfuel 0 _ _ _ _ 6 _ _ rfl (by decide) hK (hH _)
