/-! The law's act, case by case (written by mkact.py). -/
theorem Stq.congr {B : Nat} {nu de : Nat → Nat} {f g : SC → HC → RC → Option (Int32 × SC × HC × RC)} (h : ∀ now hist res, f now hist res = g now hist res) (s : Stq B nu de g) : Stq B nu de f := by
  obtain rfl : f = g := funext fun now => funext fun hist => funext fun res => h now hist res
  exact s
theorem stq_set {B : Nat} {nu de : Nat → Nat} (x : Int32) {a : Nat} (ha : a < 6) : Stq B nu de (fun now hist res => (if ((x >>> ((20 : Int32) &&& 31)) &&& 1) = 0 then f_L_act_b123 now hist res x 300 x (nI a) else f_L_act_b123 now hist res x 1000000000 x (nI a))) := by
  by_cases c : ((x >>> ((20 : Int32) &&& 31)) &&& 1) = 0
  · exact Stq.congr (fun now hist res => if_pos c) (stq_fracs x (N := 300) ha (by decide) (by decide))
  · exact Stq.congr (fun now hist res => if_neg c) (stq_fracs x (N := 1000000000) ha (by decide) (by decide))
theorem act_ok {B : Nat} {nu de : Nat → Nat} (R : Rok B nu de) (v x : Int32) : Stq B nu de (fun now hist res => f_L_act now hist res v x) := by
  obtain ⟨a, ha, ea⟩ := low_ok (v >>> ((4 : Int32) &&& 31)) (N := 6) (by decide) (by decide)
  obtain ⟨b, hb, eb⟩ := low_ok (v >>> ((7 : Int32) &&& 31)) (N := 6) (by decide) (by decide)
  have ea' : f_L_low (v >>> ((4 : Int32) &&& 31)) 6 = some (nI a) := ea
  have eb' : f_L_low (v >>> ((7 : Int32) &&& 31)) 6 = some (nI b) := eb
  by_cases c : (v &&& 15).toInt < 0 ∨ 11 < (v &&& 15).toInt
  · obtain ⟨r, hr, er⟩ := low_ok x (N := 50) (by decide) (by decide)
    have er' : f_L_low x 50 = some (nI r) := er
    refine Stq.congr (fun now hist res => ?_) (stq_pay R ha hb hr)
    show f_L_act now hist res v x = _
    unfold f_L_act
    rw [ea', Option.bind_some, eb', Option.bind_some, if_pos c, er', Option.bind_some]
  · rcases to12 c with hw | hw | hw | hw | hw | hw | hw | hw | hw | hw | hw | hw
    · refine Stq.congr (fun now hist res => ?_) (stq_base x)
      show f_L_act now hist res v x = _
      unfold f_L_act
      rw [ea', Option.bind_some, eb', Option.bind_some, if_neg c, hw, if_pos (show (0 : Int32) = 0 from rfl)]
    · refine Stq.congr (fun now hist res => ?_) (stq_base x)
      show f_L_act now hist res v x = _
      unfold f_L_act
      rw [ea', Option.bind_some, eb', Option.bind_some, if_neg c, hw, if_neg (show ¬ (1 : Int32) = 0 by decide), if_pos (show (1 : Int32) = 1 from rfl)]
    · refine Stq.congr (fun now hist res => ?_) (stq_set x ha)
      show f_L_act now hist res v x = _
      unfold f_L_act
      rw [ea', Option.bind_some, eb', Option.bind_some, if_neg c, hw, if_neg (show ¬ (2 : Int32) = 0 by decide), if_neg (show ¬ (2 : Int32) = 1 by decide), if_pos (show (2 : Int32) = 2 from rfl)]
    · refine Stq.congr (fun now hist res => ?_) (stq_set x ha)
      show f_L_act now hist res v x = _
      unfold f_L_act
      rw [ea', Option.bind_some, eb', Option.bind_some, if_neg c, hw, if_neg (show ¬ (3 : Int32) = 0 by decide), if_neg (show ¬ (3 : Int32) = 1 by decide), if_neg (show ¬ (3 : Int32) = 2 by decide), if_pos (show (3 : Int32) = 3 from rfl)]
    · refine Stq.congr (fun now hist res => ?_) (stq_set x ha)
      show f_L_act now hist res v x = _
      unfold f_L_act
      rw [ea', Option.bind_some, eb', Option.bind_some, if_neg c, hw, if_neg (show ¬ (4 : Int32) = 0 by decide), if_neg (show ¬ (4 : Int32) = 1 by decide), if_neg (show ¬ (4 : Int32) = 2 by decide), if_neg (show ¬ (4 : Int32) = 3 by decide), if_pos (show (4 : Int32) = 4 from rfl)]
    · refine Stq.congr (fun now hist res => ?_) (stq_set x ha)
      show f_L_act now hist res v x = _
      unfold f_L_act
      rw [ea', Option.bind_some, eb', Option.bind_some, if_neg c, hw, if_neg (show ¬ (5 : Int32) = 0 by decide), if_neg (show ¬ (5 : Int32) = 1 by decide), if_neg (show ¬ (5 : Int32) = 2 by decide), if_neg (show ¬ (5 : Int32) = 3 by decide), if_neg (show ¬ (5 : Int32) = 4 by decide), if_pos (show (5 : Int32) = 5 from rfl)]
    · refine Stq.congr (fun now hist res => ?_) (stq_add R ha hb)
      show f_L_act now hist res v x = _
      unfold f_L_act
      rw [ea', Option.bind_some, eb', Option.bind_some, if_neg c, hw, if_neg (show ¬ (6 : Int32) = 0 by decide), if_neg (show ¬ (6 : Int32) = 1 by decide), if_neg (show ¬ (6 : Int32) = 2 by decide), if_neg (show ¬ (6 : Int32) = 3 by decide), if_neg (show ¬ (6 : Int32) = 4 by decide), if_neg (show ¬ (6 : Int32) = 5 by decide), if_pos (show (6 : Int32) = 6 from rfl)]
    · refine Stq.congr (fun now hist res => ?_) (stq_add R ha hb)
      show f_L_act now hist res v x = _
      unfold f_L_act
      rw [ea', Option.bind_some, eb', Option.bind_some, if_neg c, hw, if_neg (show ¬ (7 : Int32) = 0 by decide), if_neg (show ¬ (7 : Int32) = 1 by decide), if_neg (show ¬ (7 : Int32) = 2 by decide), if_neg (show ¬ (7 : Int32) = 3 by decide), if_neg (show ¬ (7 : Int32) = 4 by decide), if_neg (show ¬ (7 : Int32) = 5 by decide), if_neg (show ¬ (7 : Int32) = 6 by decide), if_pos (show (7 : Int32) = 7 from rfl)]
    · refine Stq.congr (fun now hist res => ?_) (stq_add R ha hb)
      show f_L_act now hist res v x = _
      unfold f_L_act
      rw [ea', Option.bind_some, eb', Option.bind_some, if_neg c, hw, if_neg (show ¬ (8 : Int32) = 0 by decide), if_neg (show ¬ (8 : Int32) = 1 by decide), if_neg (show ¬ (8 : Int32) = 2 by decide), if_neg (show ¬ (8 : Int32) = 3 by decide), if_neg (show ¬ (8 : Int32) = 4 by decide), if_neg (show ¬ (8 : Int32) = 5 by decide), if_neg (show ¬ (8 : Int32) = 6 by decide), if_neg (show ¬ (8 : Int32) = 7 by decide), if_pos (show (8 : Int32) = 8 from rfl)]
    · refine Stq.congr (fun now hist res => ?_) (stq_sub ha)
      show f_L_act now hist res v x = _
      unfold f_L_act
      rw [ea', Option.bind_some, eb', Option.bind_some, if_neg c, hw, if_neg (show ¬ (9 : Int32) = 0 by decide), if_neg (show ¬ (9 : Int32) = 1 by decide), if_neg (show ¬ (9 : Int32) = 2 by decide), if_neg (show ¬ (9 : Int32) = 3 by decide), if_neg (show ¬ (9 : Int32) = 4 by decide), if_neg (show ¬ (9 : Int32) = 5 by decide), if_neg (show ¬ (9 : Int32) = 6 by decide), if_neg (show ¬ (9 : Int32) = 7 by decide), if_neg (show ¬ (9 : Int32) = 8 by decide), if_pos (show (9 : Int32) = 9 from rfl)]
    · refine Stq.congr (fun now hist res => ?_) (stq_shift R x ha)
      show f_L_act now hist res v x = _
      unfold f_L_act
      rw [ea', Option.bind_some, eb', Option.bind_some, if_neg c, hw, if_neg (show ¬ (10 : Int32) = 0 by decide), if_neg (show ¬ (10 : Int32) = 1 by decide), if_neg (show ¬ (10 : Int32) = 2 by decide), if_neg (show ¬ (10 : Int32) = 3 by decide), if_neg (show ¬ (10 : Int32) = 4 by decide), if_neg (show ¬ (10 : Int32) = 5 by decide), if_neg (show ¬ (10 : Int32) = 6 by decide), if_neg (show ¬ (10 : Int32) = 7 by decide), if_neg (show ¬ (10 : Int32) = 8 by decide), if_neg (show ¬ (10 : Int32) = 9 by decide), if_pos (show (10 : Int32) = 10 from rfl)]
    · refine Stq.congr (fun now hist res => ?_) (stq_shift R x ha)
      show f_L_act now hist res v x = _
      unfold f_L_act
      rw [ea', Option.bind_some, eb', Option.bind_some, if_neg c, hw, if_neg (show ¬ (11 : Int32) = 0 by decide), if_neg (show ¬ (11 : Int32) = 1 by decide), if_neg (show ¬ (11 : Int32) = 2 by decide), if_neg (show ¬ (11 : Int32) = 3 by decide), if_neg (show ¬ (11 : Int32) = 4 by decide), if_neg (show ¬ (11 : Int32) = 5 by decide), if_neg (show ¬ (11 : Int32) = 6 by decide), if_neg (show ¬ (11 : Int32) = 7 by decide), if_neg (show ¬ (11 : Int32) = 8 by decide), if_neg (show ¬ (11 : Int32) = 9 by decide), if_neg (show ¬ (11 : Int32) = 10 by decide), if_pos (show (11 : Int32) = 11 from rfl)]
