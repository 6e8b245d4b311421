def xfuel : Nat := 4000000
abbrev SC : Type := Int32 × Int32 × Int32 × (Nat → Int32) × (Nat → Int32)
abbrev RC : Type := Int64 × Int64
abbrev YC : Type := Int32 × Int32
abbrev EC : Type := Int32 × (Nat → Int32) × YC
abbrev NC : Type := Int32 × Int32 × Int32 × Int32 × Int64 × Int64 × Int64 × Int64 × Int64
abbrev CC : Type := Int32 × Int32 × Int32 × (Nat → Int32)
abbrev HC : Type := Int32 × Int32 × (Nat → SC)
def rup (r : Nat → SC) (k : Nat) (x : SC) : Nat → SC := fun j => if j = k then x else r j
def f_X5_quotient (a0 : Int64) (a1 : Int64) : Option Int64 :=
  (if a1 < 1 then (some 0) else (if a1 = 0 then none else (some (a0 / a1))))
def f_X5_greatestCommon_b9 : Nat → Int64 → Int64 → Int32 → Option Int64
  | 0, _, _, _ => none
  | n + 1, x4, x6, x8 =>
    (if x6 = 0 then (some x4) else (if 200 ≤ x8 then (some x4) else (if x6 = 0 then none else (f_X5_greatestCommon_b9 n) x6 (x4 - x4 / x6 * x6) (x8 + 1))))
def f_X5_greatestCommon (a0 : Int64) (a1 : Int64) : Option Int64 :=
  f_X5_greatestCommon_b9 xfuel a0 a1 0
def f_X5_left (a0 : Int64) (a1 : Int64) : Option Int64 :=
  (if a1 < 1 then (some 0) else (if a1 = 0 then none else (some (a0 - a0 / a1 * a1))))
def f_X5_power_b5 : Nat → Int64 → Int32 → Int64 → Int32 → Option Int64
  | 0, _, _, _, _ => none
  | n + 1, x0, x2, x3, x5 =>
    (if x2 ≤ x5 then (some x3) else (if 100 ≤ x5 then (some x3) else (f_X5_power_b5 n) x0 x2 (x3 * x0) (x5 + 1)))
def f_X5_power (a0 : Int64) (a1 : Int32) : Option Int64 :=
  f_X5_power_b5 xfuel a0 a1 1 0
def f_X0_restAfter_b14 : Nat → Int64 → Int32 → Int32 → Int64 → Int32 → Option Int64
  | 0, _, _, _, _, _ => none
  | n + 1, x2, x4, x5, x6, x8 =>
    (if x5 ≤ x8 then (some x6) else (if 2000 < x8 then (some x6) else (if x2 = 0 then none else (f_X0_restAfter_b14 n) x2 x4 x5 ((x6 * x4.toInt64) - (x6 * x4.toInt64) / x2 * x2) (x8 + 1))))
def f_X0_restAfter (a0 : Int64) (a1 : Int64) (a2 : Int32) (a3 : Int32) : Option Int64 :=
  (if a1 < 1 then (some 0) else f_X0_restAfter_b14 xfuel a1 a2 a3 a0 0)
def f_X0_digit (a0 : Int64) (a1 : Int64) (a2 : Int32) (a3 : Int32) : Option Int32 :=
  ((f_X0_restAfter a0 a1 a2 a3).bind fun v6 => ((f_X5_quotient (v6 * a2.toInt64) a1).bind fun v18 => (some v18.toInt32)))
def f_X0_digitOn (a0 : Int64) (a1 : Int32) : Option Int64 :=
  ((f_X5_greatestCommon a0 a1.toInt64).bind fun v4 => ((f_X5_quotient a0 v4).bind fun v7 => (some v7)))
def f_X0_head_b13 : Nat → Int32 → Int32 → Int64 → Int64 → Option Int32
  | 0, _, _, _, _ => none
  | n + 1, x2, x3, x4, x6 =>
    (if x6 = x4 then (some x3) else (if 32 ≤ x3 then (some x3) else ((f_X0_digitOn x6 x2).bind fun v34 => (f_X0_head_b13 n) x2 (x3 + 1) x6 v34)))
def f_X0_head (a0 : Int64) (a1 : Int32) : Option Int32 :=
  ((f_X0_digitOn a0 a1).bind fun v8 => f_X0_head_b13 xfuel a1 0 a0 v8)
def f_X0_coprimePart_b9 : Nat → Int32 → Int64 → Int32 → Option Int64
  | 0, _, _, _ => none
  | n + 1, x2, x3, x5 =>
    (if x5 ≤ 0 then (some x3) else ((f_X0_digitOn x3 x2).bind fun v16 => (f_X0_coprimePart_b9 n) x2 v16 (x5 + (-1))))
def f_X0_coprimePart (a0 : Int64) (a1 : Int32) : Option Int64 :=
  ((f_X0_head a0 a1).bind fun v4 => f_X0_coprimePart_b9 xfuel a1 a0 v4)
def f_X0_periodByDividing_b34 : Nat → Int64 → Int32 → Int64 → Int32 → Int64 → Option Int32
  | 0, _, _, _, _, _ => none
  | n + 1, x2, x4, x6, x8, x9 =>
    (if x9 = x6 then (some x8) else (if x8.toInt64 < x2 then ((f_X0_restAfter x9 x2 x4 1).bind fun v56 => (f_X0_periodByDividing_b34 n) x2 x4 x6 (x8 + 1) v56) else (some x8)))
def f_X0_periodByDividing (a0 : Int64) (a1 : Int64) (a2 : Int32) (a3 : Int32) : Option Int32 :=
  ((f_X0_restAfter a0 a1 a2 a3).bind fun v6 => (if v6 = 0 then (some 0) else ((f_X0_restAfter v6 a1 a2 1).bind fun v29 => f_X0_periodByDividing_b34 xfuel a1 a2 v6 1 v29)))
def f_X0_timesToOne_b17 : Nat → Int32 → Int64 → Int32 → Int64 → Int32 → Option Int32
  | 0, _, _, _, _, _ => none
  | n + 1, x0, x1, x3, x4, x6 =>
    (if x4 = 1 then (some x6) else (if x3 ≤ x6 then (some x6) else (if x1 = 0 then none else (f_X0_timesToOne_b17 n) x0 x1 x3 ((x4 * x0.toInt64) - (x4 * x0.toInt64) / x1 * x1) (x6 + 1))))
def f_X0_timesToOne (a0 : Int32) (a1 : Int64) (a2 : Int32) : Option Int32 :=
  (if 1 < a1 then (if a1 = 0 then none else f_X0_timesToOne_b17 xfuel a0 a1 a2 (a0.toInt64 - a0.toInt64 / a1 * a1) 1) else (some 0))
def f_X0_periodByFactors_b126 (k18 : Int32 → Int64 → Int64 → Int64 → Option Int32) (x2 : Int32) (x3 : Int64) (x5 : Int64) (x7 : Int64) : Option Int32 :=
  k18 x2 x3 x5 (x7 + 1)
def f_X0_periodByFactors_b93 (k18 : Int32 → Int64 → Int64 → Int64 → Option Int32) (x2 : Int32) (x3 : Int64) (x5 : Int64) (x7 : Int64) (x11 : Int64) : Option Int32 :=
  (if 1 < x11 then ((f_X0_timesToOne x2 x11 999).bind fun v106 => ((f_X5_greatestCommon x3 v106.toInt64).bind fun v116 => ((f_X5_quotient x3 v116).bind fun v119 => f_X0_periodByFactors_b126 k18 x2 (v119 * v106.toInt64) x5 x7))) else f_X0_periodByFactors_b126 k18 x2 x3 x5 x7)
def f_X0_periodByFactors_b49 (k18 : Int32 → Int64 → Int64 → Int64 → Option Int32) : Nat → Int32 → Int64 → Int64 → Int64 → Int64 → Int64 → Int32 → Option Int32
  | 0, _, _, _, _, _, _, _ => none
  | n + 1, x2, x3, x5, x7, x9, x11, x13 =>
    (if (x9 * x7) = x5 then (if 32 ≤ x13 then f_X0_periodByFactors_b93 k18 x2 x3 x5 x7 x11 else ((f_X5_quotient x9 x7).bind fun v82 => (f_X0_periodByFactors_b49 k18 n) x2 x3 x9 x7 v82 (x11 * x7) (x13 + 1))) else f_X0_periodByFactors_b93 k18 x2 x3 x5 x7 x11)
def f_X0_periodByFactors_b18 : Nat → Int32 → Int64 → Int64 → Int64 → Option Int32
  | 0, _, _, _, _ => none
  | n + 1, x2, x3, x5, x7 =>
    (if 999 < x7 then (some x3.toInt32) else (if 1 < x5 then ((f_X5_quotient x5 x7).bind fun v38 => f_X0_periodByFactors_b49 (f_X0_periodByFactors_b18 n) xfuel x2 x3 x5 x7 v38 1 0) else (some x3.toInt32)))
def f_X0_periodByFactors (a0 : Int64) (a1 : Int32) : Option Int32 :=
  (if 1 < a0 then f_X0_periodByFactors_b18 xfuel a1 1 a0 2 else (some 0))
def f_X9_count_b10 : Nat → Int32 → Int32 → Int64 → Option Int32
  | 0, _, _, _ => none
  | n + 1, x1, x2, x3 =>
    (if 0 < x3 then (if 30 ≤ x2 then (some x2) else ((f_X5_quotient x3 x1.toInt64).bind fun v25 => (f_X9_count_b10 n) x1 (x2 + 1) v25)) else (some x2))
def f_X9_count (a0 : Int32) (a1 : Int32) : Option Int32 :=
  ((f_X5_quotient a0.toInt64 a1.toInt64).bind fun v6 => f_X9_count_b10 xfuel a1 1 v6)
def f_X9_byDividing_b32 (x1 : Int32) (x3 : Int64) : Option Int32 :=
  ((f_X5_left x3 x1.toInt64).bind fun v35 => (some v35.toInt32))
def f_X9_byDividing_b6 : Nat → Int32 → Int32 → Int64 → Int32 → Option Int32
  | 0, _, _, _, _ => none
  | n + 1, x1, x2, x3, x5 =>
    (if x2 ≤ x5 then f_X9_byDividing_b32 x1 x3 else (if 30 ≤ x5 then f_X9_byDividing_b32 x1 x3 else ((f_X5_quotient x3 x1.toInt64).bind fun v22 => (f_X9_byDividing_b6 n) x1 x2 v22 (x5 + 1))))
def f_X9_byDividing (a0 : Int32) (a1 : Int32) (a2 : Int32) : Option Int32 :=
  f_X9_byDividing_b6 xfuel a1 a2 a0.toInt64 0
def f_X9_byPowers_b67 (k26 : Int32 → Int32 → Int64 → Int64 → Int32 → Int32 → Option Int32) (x1 : Int32) (x2 : Int32) (x4 : Int64) (x6 : Int64) (x8 : Int32) (x9 : Int32) : Option Int32 :=
  ((f_X5_quotient x4 x1.toInt64).bind fun v71 => k26 x1 x2 v71 x6 x8 (x9 + (-1)))
def f_X9_byPowers_b40 (k26 : Int32 → Int32 → Int64 → Int64 → Int32 → Int32 → Option Int32) : Nat → Int32 → Int32 → Int64 → Int64 → Int32 → Int32 → Option Int32
  | 0, _, _, _, _, _, _ => none
  | n + 1, x1, x2, x4, x6, x8, x9 =>
    (if x1 ≤ x8 then f_X9_byPowers_b67 k26 x1 x2 x4 x6 x8 x9 else (if x6 < x4 then f_X9_byPowers_b67 k26 x1 x2 x4 x6 x8 x9 else (f_X9_byPowers_b40 k26 n) x1 x2 x4 (x6 - x4) (x8 + 1) x9))
def f_X9_byPowers_b26 : Nat → Int32 → Int32 → Int64 → Int64 → Int32 → Int32 → Option Int32
  | 0, _, _, _, _, _, _ => none
  | n + 1, x1, x2, x4, x6, x8, x9 =>
    (if x9 < x2 then (some x8) else (if x9 < 0 then (some x8) else f_X9_byPowers_b40 (f_X9_byPowers_b26 n) xfuel x1 x2 x4 x6 0 x9))
def f_X9_byPowers (a0 : Int32) (a1 : Int32) (a2 : Int32) : Option Int32 :=
  ((f_X9_count a0 a1).bind fun v2 => ((f_X5_power a1.toInt64 (v2 - 1)).bind fun v11 => f_X9_byPowers_b26 xfuel a1 a2 v11 a0.toInt64 0 (v2 - 1)))
def f_X9_sum_b9 : Nat → Int32 → Int64 → Int64 → Int32 → Option Int32
  | 0, _, _, _, _ => none
  | n + 1, x1, x2, x4, x6 =>
    (if 0 < x2 then (if 30 ≤ x6 then (some x4.toInt32) else ((f_X5_left x2 x1.toInt64).bind fun v27 => ((f_X5_quotient x2 x1.toInt64).bind fun v36 => (f_X9_sum_b9 n) x1 v36 (x4 + v27) (x6 + 1)))) else (some x4.toInt32))
def f_X9_sum (a0 : Int32) (a1 : Int32) : Option Int32 :=
  f_X9_sum_b9 xfuel a1 a0.toInt64 0 0
def f_X8_begin (y : YC) : Option YC :=
  (some (1, 0))
def f_X8_isAccountCode (a0 : Int32) : Option Int32 :=
  (if a0 < 48 then (some 0) else (if 54 ≤ a0 then (some 0) else (some 1)))
def f_X8_onlyIf (a0 : Int32) (a1 : Int32) : Option Int32 :=
  (if a0 = 0 then (some 0) else (some a1))
def f_X8_digitOf_b17 (x0 : Int32) : Option Int32 :=
  (if x0 < 97 then (some (-1)) else (if 102 < x0 then (some (-1)) else (some ((x0 - 97) + 10))))
def f_X8_digitOf (a0 : Int32) : Option Int32 :=
  (if a0 < 48 then f_X8_digitOf_b17 a0 else (if 57 < a0 then f_X8_digitOf_b17 a0 else (some (a0 - 48))))
def f_X8_expectedInNumber_b100 (y : YC) (t0 : Int32) : Option Int32 :=
  ((f_X8_onlyIf t0 1).bind fun v101 => (some v101))
def f_X8_expectedInNumber_b151 (y : YC) (t0 : Int32) : Option Int32 :=
  ((f_X8_onlyIf t0 1).bind fun v152 => (some v152))
def f_X8_expectedInNumber_b123 (y : YC) (t0 : Int32) : Option Int32 :=
  ((f_X8_onlyIf t0 8).bind fun v125 => (some v125))
def f_X8_expectedInNumber_b219 (y : YC) (t0 : Int32) : Option Int32 :=
  ((f_X8_onlyIf t0 1).bind fun v220 => (some v220))
def f_X8_expectedInNumber_b191 (y : YC) (t0 : Int32) : Option Int32 :=
  ((f_X8_onlyIf t0 10).bind fun v193 => (some v193))
def f_X8_expectedInNumber_b267 (y : YC) (t0 : Int32) : Option Int32 :=
  ((f_X8_onlyIf t0 13).bind fun v269 => (some v269))
def f_X8_expectedInNumber_b248 (y : YC) (t0 : Int32) : Option Int32 :=
  ((f_X8_onlyIf t0 12).bind fun v250 => (some v250))
def f_X8_expectedInNumber_b12 (y : YC) (x1 : Int32) (t0 : Int32) : Option Int32 :=
  (if y.1.toInt < 6 ∨ 12 < y.1.toInt then (some 0) else (if y.1 = 6 then (if x1 = 48 then (some 7) else ((f_X8_onlyIf t0 8).bind fun v74 => (some v74))) else (if y.1 = 7 then (if x1 = 46 then (some 9) else (if x1 = 59 then f_X8_expectedInNumber_b100 y 1 else f_X8_expectedInNumber_b100 y 0)) else (if y.1 = 8 then (if t0 = 0 then (if x1 = 46 then (some 9) else (if x1 = 59 then f_X8_expectedInNumber_b151 y 1 else f_X8_expectedInNumber_b151 y 0)) else (if 8 ≤ y.2 then f_X8_expectedInNumber_b123 y 0 else f_X8_expectedInNumber_b123 y 1)) else (if y.1 = 9 then (if x1 = 40 then (some 11) else ((f_X8_onlyIf t0 10).bind fun v170 => (some v170))) else (if y.1 = 10 then (if t0 = 0 then (if x1 = 40 then (some 11) else (if x1 = 59 then f_X8_expectedInNumber_b219 y 1 else f_X8_expectedInNumber_b219 y 0)) else (if 4 ≤ y.2 then f_X8_expectedInNumber_b191 y 0 else f_X8_expectedInNumber_b191 y 1)) else (if y.1 = 11 then ((f_X8_onlyIf t0 12).bind fun v227 => (some v227)) else (if y.1 = 12 then (if t0 = 0 then (if x1 = 41 then f_X8_expectedInNumber_b267 y 1 else f_X8_expectedInNumber_b267 y 0) else (if 4 ≤ y.2 then f_X8_expectedInNumber_b248 y 0 else f_X8_expectedInNumber_b248 y 1)) else none))))))))
def f_X8_expectedInNumber (y : YC) (a1 : Int32) : Option Int32 :=
  ((f_X8_digitOf a1).bind fun v1 => (if v1 < 0 then f_X8_expectedInNumber_b12 y a1 0 else f_X8_expectedInNumber_b12 y a1 1))
def f_X8_expectedAfter_b119 (y : YC) (t0 : Int32) : Option Int32 :=
  ((f_X8_onlyIf t0 3).bind fun v120 => (some v120))
def f_X8_expectedAfter_b114 (y : YC) : Option Int32 :=
  f_X8_expectedAfter_b119 y 1
def f_X8_expectedAfter_b161 (y : YC) (t0 : Int32) : Option Int32 :=
  ((f_X8_onlyIf t0 13).bind fun v163 => (some v163))
def f_X8_expectedAfter_b160 (y : YC) : Option Int32 :=
  f_X8_expectedAfter_b161 y 0
def f_X8_expectedAfter_b184 (y : YC) (t0 : Int32) : Option Int32 :=
  ((f_X8_onlyIf t0 13).bind fun v186 => (some v186))
def f_X8_expectedAfter_b183 (y : YC) : Option Int32 :=
  f_X8_expectedAfter_b184 y 0
def f_X8_expectedAfter_b201 (y : YC) (t0 : Int32) : Option Int32 :=
  ((f_X8_onlyIf t0 1).bind fun v202 => (some v202))
def f_X8_expectedAfter (y : YC) (a1 : Int32) : Option Int32 :=
  (if y.1.toInt < 1 ∨ 13 < y.1.toInt then ((f_X8_expectedInNumber y a1).bind fun v208 => (some v208)) else (if y.1 = 1 then (if a1 = 98 then (some 4) else ((f_X8_isAccountCode a1).bind fun v83 => ((f_X8_onlyIf v83 2).bind fun v87 => (some v87)))) else (if y.1 = 2 then (if a1 = 61 then (some 6) else (if a1 = 43 then f_X8_expectedAfter_b114 y else (if a1 = 45 then f_X8_expectedAfter_b114 y else f_X8_expectedAfter_b119 y 0))) else (if y.1 = 3 then ((f_X8_isAccountCode a1).bind fun v125 => ((f_X8_onlyIf v125 13).bind fun v130 => (some v130))) else (if y.1 = 4 then (if a1 = 49 then (some 5) else (if a1 < 50 then f_X8_expectedAfter_b160 y else (if 57 < a1 then f_X8_expectedAfter_b160 y else f_X8_expectedAfter_b161 y 1))) else (if y.1 = 5 then (if a1 < 48 then f_X8_expectedAfter_b183 y else (if 54 < a1 then f_X8_expectedAfter_b183 y else f_X8_expectedAfter_b184 y 1)) else (if y.1 = 6 then ((f_X8_expectedInNumber y a1).bind fun v208 => (some v208)) else (if y.1 = 7 then ((f_X8_expectedInNumber y a1).bind fun v208 => (some v208)) else (if y.1 = 8 then ((f_X8_expectedInNumber y a1).bind fun v208 => (some v208)) else (if y.1 = 9 then ((f_X8_expectedInNumber y a1).bind fun v208 => (some v208)) else (if y.1 = 10 then ((f_X8_expectedInNumber y a1).bind fun v208 => (some v208)) else (if y.1 = 11 then ((f_X8_expectedInNumber y a1).bind fun v208 => (some v208)) else (if y.1 = 12 then ((f_X8_expectedInNumber y a1).bind fun v208 => (some v208)) else (if y.1 = 13 then (if a1 = 59 then f_X8_expectedAfter_b201 y 1 else f_X8_expectedAfter_b201 y 0) else none))))))))))))))
def f_X8_take_b25 (y : YC) (x2 : Int32) (t0 : Int32) : Option (Int32 × YC) :=
  (if x2 = 0 then (some (0, (x2, t0))) else (some (1, (x2, t0))))
def f_X8_take (y : YC) (a1 : Int32) : Option (Int32 × YC) :=
  ((f_X8_expectedAfter y a1).bind fun v2 => (if v2 = y.1 then f_X8_take_b25 y v2 (y.2 + 1) else f_X8_take_b25 y v2 1))
def f_X8_mayEnd_b36 (y : YC) : Option Int32 :=
  (some 1)
def f_X8_mayEnd (y : YC) : Option Int32 :=
  (if y.1 = 7 then f_X8_mayEnd_b36 y else (if y.1 = 8 then f_X8_mayEnd_b36 y else (if y.1 = 10 then f_X8_mayEnd_b36 y else (if y.1 = 13 then f_X8_mayEnd_b36 y else (some 0)))))
def f_X7_takeFrom_b26 : Nat → SC → SC → Int32 → Option SC
  | 0, _, _, _ => none
  | n + 1, x, xo, x2 =>
    (if 6 ≤ x2 then (some x) else (if x2 < 0 ∨ 6 ≤ x2.toNatClampNeg then none else (if x2 < 0 ∨ 6 ≤ x2.toNatClampNeg then none else (if x2 < 0 ∨ 6 ≤ x2.toNatClampNeg then none else (if x2 < 0 ∨ 6 ≤ x2.toNatClampNeg then none else (f_X7_takeFrom_b26 n) (x.1, x.2.1, x.2.2.1, (upd x.2.2.2.1 x2.toNatClampNeg (xo.2.2.2.1 x2.toNatClampNeg)), (upd x.2.2.2.2 x2.toNatClampNeg (xo.2.2.2.2 x2.toNatClampNeg))) xo (x2 + 1))))))
def f_X7_takeFrom (x : SC) (xo : SC) : Option SC :=
  f_X7_takeFrom_b26 xfuel (xo.1, xo.2.1, xo.2.2.1, x.2.2.2.1, x.2.2.2.2) xo 0
def f_X6_put (r : RC) (a1 : Int64) (a2 : Int64) : Option RC :=
  ((f_X5_greatestCommon (if 0 < a1 then a1 else -a1) a2).bind fun v5 => ((f_X5_quotient a1 v5).bind fun v14 => ((f_X5_quotient a2 v5).bind fun v24 => (some (v14, v24)))))
def f_X6_reasonAgainst_b33 (r : RC) : Option Int32 :=
  (some 2)
def f_X6_reasonAgainst (r : RC) : Option Int32 :=
  (if r.1 < 0 then (some 3) else (if 999999999 < r.1 then f_X6_reasonAgainst_b33 r else (if 999 < r.2 then f_X6_reasonAgainst_b33 r else (some 0))))
def f_X7_isAccount (a0 : Int32) : Option Int32 :=
  (if a0 < 0 then (some 0) else (if 6 ≤ a0 then (some 0) else (some 1)))
def f_X7_store (x : SC) (r : RC) (a1 : Int32) : Option SC :=
  ((f_X7_isAccount a1).bind fun v1 => (if v1 = 0 then (some x) else (if a1 < 0 ∨ 6 ≤ a1.toNatClampNeg then none else (if a1 < 0 ∨ 6 ≤ a1.toNatClampNeg then none else (some (x.1, x.2.1, x.2.2.1, (upd x.2.2.2.1 a1.toNatClampNeg r.1.toInt32), (upd x.2.2.2.2 a1.toNatClampNeg r.2.toInt32)))))))
def f_X7_stopAt (x : SC) (a1 : Int32) (a2 : Int32) : Option SC :=
  (some (x.1, a1, a2, x.2.2.2.1, x.2.2.2.2))
def f_X7_numeratorOf (x : SC) (a1 : Int32) : Option Int32 :=
  ((f_X7_isAccount a1).bind fun v1 => (if v1 = 0 then (some 0) else (if a1 < 0 ∨ 6 ≤ a1.toNatClampNeg then none else (some (x.2.2.2.1 a1.toNatClampNeg)))))
def f_X7_denominatorOf (x : SC) (a1 : Int32) : Option Int32 :=
  ((f_X7_isAccount a1).bind fun v1 => (if v1 = 0 then (some 1) else (if a1 < 0 ∨ 6 ≤ a1.toNatClampNeg then none else (some (x.2.2.2.2 a1.toNatClampNeg)))))
def f_X7_wholeOf (x : SC) (a1 : Int32) : Option Int32 :=
  ((f_X7_isAccount a1).bind fun v1 => (if v1 = 0 then (some 0) else (if a1 < 0 ∨ 6 ≤ a1.toNatClampNeg then none else (if (x.2.2.2.2 a1.toNatClampNeg) ≤ 0 then (some 0) else (if a1 < 0 ∨ 6 ≤ a1.toNatClampNeg then none else (if a1 < 0 ∨ 6 ≤ a1.toNatClampNeg then none else (if x.2.2.2.2 a1.toNatClampNeg = 0 then none else (some ((x.2.2.2.1 a1.toNatClampNeg) / (x.2.2.2.2 a1.toNatClampNeg))))))))))
def f_X7_restOf (x : SC) (a1 : Int32) : Option Int64 :=
  ((f_X7_isAccount a1).bind fun v1 => (if v1 = 0 then (some 0) else (if a1 < 0 ∨ 6 ≤ a1.toNatClampNeg then none else (if (x.2.2.2.2 a1.toNatClampNeg) ≤ 0 then (some 0) else (if a1 < 0 ∨ 6 ≤ a1.toNatClampNeg then none else (if a1 < 0 ∨ 6 ≤ a1.toNatClampNeg then none else (if x.2.2.2.2 a1.toNatClampNeg = 0 then none else (some (((x.2.2.2.1 a1.toNatClampNeg) - (x.2.2.2.1 a1.toNatClampNeg) / (x.2.2.2.2 a1.toNatClampNeg) * (x.2.2.2.2 a1.toNatClampNeg)).toInt64)))))))))
def f_X7_asDouble (x : SC) (a1 : Int32) : Option UInt64 :=
  ((f_X7_isAccount a1).bind fun v1 => (if v1 = 0 then (some FP.dconst0) else (if a1 < 0 ∨ 6 ≤ a1.toNatClampNeg then none else (if (x.2.2.2.2 a1.toNatClampNeg) ≤ 0 then (some FP.dconst0) else (if a1 < 0 ∨ 6 ≤ a1.toNatClampNeg then none else (if a1 < 0 ∨ 6 ≤ a1.toNatClampNeg then none else (if ¬ ((FP.ddiv (FP.i2d (x.2.2.2.1 a1.toNatClampNeg)) (FP.i2d (x.2.2.2.2 a1.toNatClampNeg))) &&& 0x7fffffffffffffff ≤ 0x7ff0000000000000) then none else (some (FP.ddiv (FP.i2d (x.2.2.2.1 a1.toNatClampNeg)) (FP.i2d (x.2.2.2.2 a1.toNatClampNeg)))))))))))
def f_X1_form_b179 (col : CC) (x4 : Int32) (x9 : Int64) : Option CC :=
  (if x9 = 1 then (if 31 ≤ x4 then (some (x4, col.2.1, col.2.2.1, col.2.2.2)) else (if x4 < 0 ∨ 31 ≤ x4.toNatClampNeg then none else (some (x4 + 1, col.2.1, col.2.2.1, (upd col.2.2.2 x4.toNatClampNeg 1))))) else (some (x4, col.2.1, col.2.2.1, col.2.2.2)))
def f_X1_form_b123 (k42 : CC → Int32 → Int32 → Int64 → Int64 → Int64 → Int32 → Int32 → Option CC) (col : CC) (x3 : Int32) (x4 : Int32) (x5 : Int64) (x7 : Int64) (x9 : Int64) (x11 : Int32) (x12 : Int32) (x13 : Int64) (t0 : Int32) (t1 : Int32) : Option CC :=
  ((f_X5_left x13 x3.toInt64).bind fun v150 => (if x12 < 0 ∨ 31 ≤ x12.toNatClampNeg then none else ((f_X5_quotient x5 x3.toInt64).bind fun v159 => ((f_X5_quotient x7 x3.toInt64).bind fun v168 => k42 (col.1, t1 + t0, if col.2.2.1 < x11 then x11 else col.2.2.1, (upd col.2.2.2 x12.toNatClampNeg v150.toInt32)) x3 x4 v159 v168 x9 x11 (x12 + 1)))))
def f_X1_form_b106 (k42 : CC → Int32 → Int32 → Int64 → Int64 → Int64 → Int32 → Int32 → Option CC) (col : CC) (x3 : Int32) (x4 : Int32) (x5 : Int64) (x7 : Int64) (x9 : Int64) (x12 : Int32) (x13 : Int64) (t0 : Int32) : Option CC :=
  (if t0 ≤ 0 then f_X1_form_b123 k42 col x3 x4 x5 x7 x9 t0 x12 x13 0 col.2.1 else f_X1_form_b123 k42 col x3 x4 x5 x7 x9 t0 x12 x13 1 col.2.1)
def f_X1_form_b89 (k42 : CC → Int32 → Int32 → Int64 → Int64 → Int64 → Int32 → Int32 → Option CC) (col : CC) (x3 : Int32) (x4 : Int32) (x5 : Int64) (x7 : Int64) (x11 : Int32) (x12 : Int32) (x13 : Int64) (t0 : Int64) : Option CC :=
  (if t0 = 1 then f_X1_form_b106 k42 col x3 x4 x5 x7 t0 x12 x13 (x11 + 1) else f_X1_form_b106 k42 col x3 x4 x5 x7 t0 x12 x13 0)
def f_X1_form_b42 : Nat → CC → Int32 → Int32 → Int64 → Int64 → Int64 → Int32 → Int32 → Option CC
  | 0, _, _, _, _, _, _, _, _ => none
  | n + 1, col, x3, x4, x5, x7, x9, x11, x12 =>
    (if x4 ≤ x12 then f_X1_form_b179 col x4 x9 else (if 30 ≤ x12 then f_X1_form_b179 col x4 x9 else ((f_X5_left x5 x3.toInt64).bind fun v60 => ((f_X5_left x7 x3.toInt64).bind fun v67 => (if ((v60 + v67) + x9) < x3.toInt64 then f_X1_form_b89 (f_X1_form_b42 n) col x3 x4 x5 x7 x11 x12 ((v60 + v67) + x9) 0 else f_X1_form_b89 (f_X1_form_b42 n) col x3 x4 x5 x7 x11 x12 ((v60 + v67) + x9) 1)))))
def f_X1_form (col : CC) (a1 : Int32) (a2 : Int32) (a3 : Int32) : Option CC :=
  ((f_X9_count a1 a3).bind fun v2 => ((f_X9_count a2 a3).bind fun v7 => f_X1_form_b42 xfuel (col.1, 0, 0, col.2.2.2) a3 (if v2 < v7 then v7 else v2) a1.toInt64 a2.toInt64 0 0 0))
def f_X1_digitAt (col : CC) (a1 : Int32) : Option Int32 :=
  (if a1 < 0 then (some 0) else (if 31 ≤ a1 then (some 0) else (if a1 < 0 ∨ 31 ≤ a1.toNatClampNeg then none else (some (col.2.2.2 a1.toNatClampNeg)))))
def f_X1_total_b10 : Nat → CC → Int32 → Int64 → Int32 → Option Int64
  | 0, _, _, _, _ => none
  | n + 1, col, x1, x2, x4 =>
    (if x4 < 0 then (some x2) else ((f_X1_digitAt col x4).bind fun v22 => (f_X1_total_b10 n) col x1 ((x2 * x1.toInt64) + v22.toInt64) (x4 + (-1))))
def f_X1_total (col : CC) (a1 : Int32) : Option Int64 :=
  f_X1_total_b10 xfuel col a1 0 (col.1 - 1)
def f_X2_put (ent : EC) (a1 : Int32) : Option EC :=
  (if ent.1 < 0 then (some ent) else (if 60 ≤ ent.1 then (some ent) else (if ent.1 < 0 ∨ 60 ≤ ent.1.toNatClampNeg then none else (some (ent.1 + 1, (upd ent.2.1 ent.1.toNatClampNeg a1), ent.2.2.1, ent.2.2.2)))))
def f_X2_codeAt (ent : EC) (a1 : Int32) : Option Int32 :=
  (if a1 < 0 then (some 0) else (if 60 ≤ a1 then (some 0) else (if a1 < 0 ∨ 60 ≤ a1.toNatClampNeg then none else (some (ent.2.1 a1.toNatClampNeg)))))
def f_X2_errorIndex_b9 : Nat → EC → Int32 → Option (Int32 × EC)
  | 0, _, _ => none
  | n + 1, ent, x1 =>
    (if ent.1 ≤ x1 then (some (ent.1, ent)) else ((f_X2_codeAt ent x1).bind fun v23 => ((f_X8_take ent.2.2 v23).bind fun v26 => (if v26.1 = 0 then (some (x1, (ent.1, ent.2.1, v26.2.1, v26.2.2))) else (f_X2_errorIndex_b9 n) (ent.1, ent.2.1, v26.2.1, v26.2.2) (x1 + 1)))))
def f_X2_errorIndex (ent : EC) : Option (Int32 × EC) :=
  ((f_X8_begin ent.2.2).bind fun v4 => f_X2_errorIndex_b9 xfuel (ent.1, ent.2.1, v4.1, v4.2) 0)
def f_X2_areComplete (ent : EC) : Option (Int32 × EC) :=
  ((f_X2_errorIndex ent).bind fun v1 => (if v1.1 = v1.2.1 then ((f_X8_mayEnd v1.2.2.2).bind fun v15 => (if v15 = 0 then (some (0, v1.2)) else (some (1, v1.2)))) else (some (0, v1.2))))
def f_X2_decimal_b5 : Nat → EC → Int32 → Int32 → Int32 → Option Int32
  | 0, _, _, _, _ => none
  | n + 1, ent, x2, x3, x4 =>
    (if x2 ≤ x4 then (some x3) else ((f_X2_codeAt ent x4).bind fun v18 => (f_X2_decimal_b5 n) ent x2 (((10 * x3) + v18) - 48) (x4 + 1)))
def f_X2_decimal (ent : EC) (a1 : Int32) (a2 : Int32) : Option Int32 :=
  f_X2_decimal_b5 xfuel ent a2 0 a1
def f_X3_push_b63 (hist : HC) (x : SC) (t0 : Int32) : Option HC :=
  (some (if 6 < (hist.1 + 1) then 6 else (hist.1 + 1), t0, hist.2.2))
def f_X3_push_b41 (hist : HC) (x : SC) : Option HC :=
  (if 6 ≤ (hist.2.1 + 1) then f_X3_push_b63 hist x 0 else f_X3_push_b63 hist x (hist.2.1 + 1))
def f_X3_push (hist : HC) (x : SC) : Option HC :=
  (if hist.2.1 < 0 then f_X3_push_b41 hist x else (if 6 ≤ hist.2.1 then f_X3_push_b41 hist x else (if hist.2.1 = 0 then ((f_X7_takeFrom (hist.2.2 0) x).bind fun v38 => f_X3_push_b41 (hist.1, hist.2.1, (rup hist.2.2 0 v38)) x) else (if hist.2.1 = 1 then ((f_X7_takeFrom (hist.2.2 1) x).bind fun v38 => f_X3_push_b41 (hist.1, hist.2.1, (rup hist.2.2 1 v38)) x) else (if hist.2.1 = 2 then ((f_X7_takeFrom (hist.2.2 2) x).bind fun v38 => f_X3_push_b41 (hist.1, hist.2.1, (rup hist.2.2 2 v38)) x) else (if hist.2.1 = 3 then ((f_X7_takeFrom (hist.2.2 3) x).bind fun v38 => f_X3_push_b41 (hist.1, hist.2.1, (rup hist.2.2 3 v38)) x) else (if hist.2.1 = 4 then ((f_X7_takeFrom (hist.2.2 4) x).bind fun v38 => f_X3_push_b41 (hist.1, hist.2.1, (rup hist.2.2 4 v38)) x) else (if hist.2.1 = 5 then ((f_X7_takeFrom (hist.2.2 5) x).bind fun v38 => f_X3_push_b41 (hist.1, hist.2.1, (rup hist.2.2 5 v38)) x) else none))))))))
def f_X3_pop_b18 (hist : HC) (x : SC) (t0 : Int32) : Option (HC × SC) :=
  (if 6 ≤ t0 then (some ((if (hist.1 - 1) < 0 then 0 else (hist.1 - 1), t0, hist.2.2), x)) else (if t0 = 0 then ((f_X7_takeFrom x (hist.2.2 0)).bind fun v66 => (some ((if (hist.1 - 1) < 0 then 0 else (hist.1 - 1), t0, hist.2.2), v66))) else (if t0 = 1 then ((f_X7_takeFrom x (hist.2.2 1)).bind fun v66 => (some ((if (hist.1 - 1) < 0 then 0 else (hist.1 - 1), t0, hist.2.2), v66))) else (if t0 = 2 then ((f_X7_takeFrom x (hist.2.2 2)).bind fun v66 => (some ((if (hist.1 - 1) < 0 then 0 else (hist.1 - 1), t0, hist.2.2), v66))) else (if t0 = 3 then ((f_X7_takeFrom x (hist.2.2 3)).bind fun v66 => (some ((if (hist.1 - 1) < 0 then 0 else (hist.1 - 1), t0, hist.2.2), v66))) else (if t0 = 4 then ((f_X7_takeFrom x (hist.2.2 4)).bind fun v66 => (some ((if (hist.1 - 1) < 0 then 0 else (hist.1 - 1), t0, hist.2.2), v66))) else (if t0 = 5 then ((f_X7_takeFrom x (hist.2.2 5)).bind fun v66 => (some ((if (hist.1 - 1) < 0 then 0 else (hist.1 - 1), t0, hist.2.2), v66))) else none)))))))
def f_X3_pop (hist : HC) (x : SC) : Option (HC × SC) :=
  (if hist.2.1 ≤ 0 then f_X3_pop_b18 hist x 5 else f_X3_pop_b18 hist x (hist.2.1 - 1))
def f_X4_begin (num : NC) (a1 : Int32) : Option NC :=
  (some (0, a1, 0, 0, 0, 0, 1, 0, 1))
def f_X4_takeDigit_b21 (num : NC) (x1 : Int32) (t0 : Int32) : Option NC :=
  (if ¬ (t0 = 0 ∨ t0 = 1) then none else (if num.2.2.2.1 = 0 then (if num.2.2.1 = 0 then (some (t0, num.2.1, num.2.2.1, num.2.2.2.1, (num.2.2.2.2.1 * num.2.1.toInt64) + x1.toInt64, num.2.2.2.2.2.1, num.2.2.2.2.2.2.1, num.2.2.2.2.2.2.2.1, num.2.2.2.2.2.2.2.2)) else (some (t0, num.2.1, num.2.2.1, num.2.2.2.1, num.2.2.2.2.1, (num.2.2.2.2.2.1 * num.2.1.toInt64) + x1.toInt64, num.2.2.2.2.2.2.1 * num.2.1.toInt64, num.2.2.2.2.2.2.2.1, num.2.2.2.2.2.2.2.2))) else (some (t0, num.2.1, num.2.2.1, num.2.2.2.1, num.2.2.2.2.1, num.2.2.2.2.2.1, num.2.2.2.2.2.2.1, (num.2.2.2.2.2.2.2.1 * num.2.1.toInt64) + x1.toInt64, num.2.2.2.2.2.2.2.2 * num.2.1.toInt64))))
def f_X4_takeDigit_b16 (num : NC) (x1 : Int32) : Option NC :=
  f_X4_takeDigit_b21 num x1 1
def f_X4_takeDigit (num : NC) (a1 : Int32) : Option NC :=
  (if num.1 = 0 then (if a1 < num.2.1 then f_X4_takeDigit_b21 num a1 0 else f_X4_takeDigit_b16 num a1) else f_X4_takeDigit_b16 num a1)
def f_X4_take (num : NC) (a1 : Int32) : Option NC :=
  (if a1 = 46 then (some (num.1, num.2.1, 1, num.2.2.2.1, num.2.2.2.2.1, num.2.2.2.2.2.1, num.2.2.2.2.2.2.1, num.2.2.2.2.2.2.2.1, num.2.2.2.2.2.2.2.2)) else (if a1 = 40 then (some (num.1, num.2.1, num.2.2.1, 1, num.2.2.2.2.1, num.2.2.2.2.2.1, num.2.2.2.2.2.2.1, num.2.2.2.2.2.2.2.1, num.2.2.2.2.2.2.2.2)) else (if a1 = 41 then (some num) else ((f_X8_digitOf a1).bind fun v36 => ((f_X4_takeDigit num v36).bind fun v39 => (some v39))))))
def f_X4_putInto_b50 (num : NC) (r : RC) : Option RC :=
  (if 999 < r.2 then (some r) else ((f_X6_put r ((num.2.2.2.2.1 * r.2) + r.1) r.2).bind fun v80 => (some v80)))
def f_X4_putInto (num : NC) (r : RC) : Option RC :=
  (if num.2.2.2.1 = 0 then ((f_X6_put r num.2.2.2.2.2.1 num.2.2.2.2.2.2.1).bind fun v47 => f_X4_putInto_b50 num v47) else ((f_X6_put r ((num.2.2.2.2.2.1 * (num.2.2.2.2.2.2.2.2 - 1)) + num.2.2.2.2.2.2.2.1) (num.2.2.2.2.2.2.1 * (num.2.2.2.2.2.2.2.2 - 1))).bind fun v32 => f_X4_putInto_b50 num v32))
def f_X11_thrown (thrown : Int32) : Option Int32 :=
  (some thrown)
def f_X11_fails (thrown : Int32) (a1 : Int32) : Option (Int32 × Int32) :=
  (some (0, a1))
def f_X11_in (a0 : Int32) (a1 : Int32) (a2 : Int32) : Option Int32 :=
  (if a0 < a1 then (some 0) else (if a2 < a0 then (some 0) else (some 1)))
def f_X11_isAccount (a0 : Int32) : Option Int32 :=
  ((f_X11_in a0 0 5).bind fun v3 => (if ¬ (v3 = 0 ∨ v3 = 1) then none else some v3))
def f_X11_areAccounts (a0 : Int32) (a1 : Int32) : Option Int32 :=
  ((f_X11_isAccount a0).bind fun v1 => (if v1 = 0 then (some 0) else ((f_X11_isAccount a1).bind fun v8 => (if v8 = 0 then (some 0) else (some 1)))))
def f_X11_isBase (a0 : Int32) : Option Int32 :=
  ((f_X11_in a0 2 16).bind fun v4 => (if ¬ (v4 = 0 ∨ v4 = 1) then none else some v4))
def f_X11_up (ss : (Nat → Int32)) (a1 : Int32) : Option Int32 :=
  (if (3 + a1) < 0 ∨ 15 ≤ (3 + a1).toNatClampNeg then none else (some (ss (3 + a1).toNatClampNeg)))
def f_X11_down (ss : (Nat → Int32)) (a1 : Int32) : Option Int32 :=
  (if (9 + a1) < 0 ∨ 15 ≤ (9 + a1).toNatClampNeg then none else (some (ss (9 + a1).toNatClampNeg)))
def f_X11_wholeOf (ss : (Nat → Int32)) (a1 : Int32) : Option Int32 :=
  ((f_X11_up ss a1).bind fun v2 => ((f_X11_down ss a1).bind fun v7 => (if v7 = 0 then none else (some (v2 / v7)))))
def f_X11_records_b50 : Nat → (Nat → Int32) → (Nat → Int32) → Int32 → Int32 → Option ((Nat → Int32) × Int32)
  | 0, _, _, _, _ => none
  | n + 1, ss, states, stateMany, x1 =>
    (if 15 ≤ x1 then (some (states, (stateMany + 1))) else (if x1 < 0 ∨ 15 ≤ x1.toNatClampNeg then none else (if ((15 * stateMany) + x1) < 0 ∨ 90 ≤ ((15 * stateMany) + x1).toNatClampNeg then none else (f_X11_records_b50 n) ss (upd states ((15 * stateMany) + x1).toNatClampNeg (ss x1.toNatClampNeg)) stateMany (x1 + 1))))
def f_X11_records_b48 (ss : (Nat → Int32)) (states : (Nat → Int32)) (stateMany : Int32) : Option ((Nat → Int32) × Int32) :=
  f_X11_records_b50 xfuel ss states stateMany 0
def f_X11_records_b11 : Nat → (Nat → Int32) → (Nat → Int32) → Int32 → Int32 → Option ((Nat → Int32) × Int32)
  | 0, _, _, _, _ => none
  | n + 1, ss, states, stateMany, x1 =>
    (if 75 ≤ x1 then f_X11_records_b48 ss states (stateMany - 1) else (if (x1 + 15) < 0 ∨ 90 ≤ (x1 + 15).toNatClampNeg then none else (if x1 < 0 ∨ 90 ≤ x1.toNatClampNeg then none else (f_X11_records_b11 n) ss (upd states x1.toNatClampNeg (states (x1 + 15).toNatClampNeg)) stateMany (x1 + 1))))
def f_X11_records (ss : (Nat → Int32)) (states : (Nat → Int32)) (stateMany : Int32) : Option ((Nat → Int32) × Int32) :=
  (if stateMany = 6 then f_X11_records_b11 xfuel ss states stateMany 0 else f_X11_records_b48 ss states stateMany)
def f_X11_factor_b6 : Nat → Int64 → Int64 → Option Int64
  | 0, _, _ => none
  | n + 1, x4, x6 =>
    (if x6 = 0 then (if x4 < 0 then (some (-x4)) else (some x4)) else (if x6 = 0 then none else (f_X11_factor_b6 n) x6 (x4 - x4 / x6 * x6)))
def f_X11_factor (a0 : Int64) (a1 : Int64) : Option Int64 :=
  f_X11_factor_b6 xfuel a0 a1
def f_X11_makes (top : Int64) (bottom : Int64) (a1 : Int64) (a2 : Int64) : Option (Int32 × Int64 × Int64) :=
  ((f_X11_factor a1 a2).bind fun v2 => (if v2 = 0 then none else (if v2 = 0 then none else (if 999999999 < (a1 / v2) then (some (1, (a1 / v2), (a2 / v2))) else (if 999 < (a2 / v2) then (some (2, (a1 / v2), (a2 / v2))) else (some (0, (a1 / v2), (a2 / v2))))))))
def f_X11_makesSum (ss : (Nat → Int32)) (top : Int64) (bottom : Int64) (a1 : Int32) (a2 : Int32) (a3 : Int32) : Option (Int32 × Int64 × Int64) :=
  ((f_X11_up ss a1).bind fun v3 => ((f_X11_down ss a2).bind fun v9 => ((f_X11_up ss a2).bind fun v18 => ((f_X11_down ss a1).bind fun v25 => ((f_X11_down ss a1).bind fun v33 => ((f_X11_down ss a2).bind fun v39 => ((f_X11_makes top bottom ((v3.toInt64 * v9.toInt64) + ((a3.toInt64 * v18.toInt64) * v25.toInt64)) (v33.toInt64 * v39.toInt64)).bind fun v44 => (some (v44.1, v44.2.1, v44.2.2)))))))))
def f_X11_makesMore (ss : (Nat → Int32)) (top : Int64) (bottom : Int64) (a1 : Int32) (a2 : Int32) : Option (Int32 × Int64 × Int64) :=
  ((f_X11_up ss a1).bind fun v3 => ((f_X11_down ss a1).bind fun v11 => ((f_X11_down ss a1).bind fun v19 => ((f_X11_makes top bottom (v3.toInt64 + (a2.toInt64 * v11.toInt64)) v19.toInt64).bind fun v23 => (some (v23.1, v23.2.1, v23.2.2))))))
def f_X11_power_b4 : Nat → (Nat → Int32) → Int32 → Int32 → Int32 → Option Int32
  | 0, _, _, _, _ => none
  | n + 1, ss, x1, x2, x3 =>
    (if x1 ≤ x3 then (some x2) else (f_X11_power_b4 n) ss x1 (x2 * (ss (0 : Int32).toNatClampNeg)) (x3 + 1))
def f_X11_power (ss : (Nat → Int32)) (a1 : Int32) : Option Int32 :=
  f_X11_power_b4 xfuel ss a1 1 0
def f_X11_makesShift (ss : (Nat → Int32)) (top : Int64) (bottom : Int64) (a1 : Int32) (a2 : Int32) : Option (Int32 × Int64 × Int64) :=
  (if 0 ≤ a2 then ((f_X11_up ss a1).bind fun v34 => ((f_X11_power ss a2).bind fun v40 => ((f_X11_down ss a1).bind fun v47 => ((f_X11_makes top bottom (v34.toInt64 * v40.toInt64) v47.toInt64).bind fun v51 => (some (v51.1, v51.2.1, v51.2.2)))))) else ((f_X11_up ss a1).bind fun v7 => ((f_X11_down ss a1).bind fun v13 => ((f_X11_power ss (-a2)).bind fun v20 => ((f_X11_makes top bottom v7.toInt64 (v13.toInt64 * v20.toInt64)).bind fun v25 => (some (v25.1, v25.2.1, v25.2.2)))))))
def f_X11_puts (ss : (Nat → Int32)) (top : Int64) (bottom : Int64) (a1 : Int32) : Option (Nat → Int32) :=
  (if (3 + a1) < 0 ∨ 15 ≤ (3 + a1).toNatClampNeg then none else (if (9 + a1) < 0 ∨ 15 ≤ (9 + a1).toNatClampNeg then none else (some (upd (upd ss (3 + a1).toNatClampNeg top.toInt32) (9 + a1).toNatClampNeg bottom.toInt32))))
def f_X11_holds (ss : (Nat → Int32)) (a1 : Int32) (a2 : Int32) : Option Int32 :=
  ((f_X11_up ss a1).bind fun v2 => ((f_X11_down ss a2).bind fun v8 => ((f_X11_up ss a2).bind fun v15 => ((f_X11_down ss a1).bind fun v21 => (if ((v2.toInt64 * v8.toInt64) - (v15.toInt64 * v21.toInt64)) < 0 then (some (-1)) else (if 0 < ((v2.toInt64 * v8.toInt64) - (v15.toInt64 * v21.toInt64)) then (some 1) else (some 0)))))))
def f_X11_greatest_b24 (k4 : (Nat → Int32) → Int32 → Int32 → Option Int32) (ss : (Nat → Int32)) (x2 : Int32) (t0 : Int32) : Option Int32 :=
  k4 ss t0 (x2 + 1)
def f_X11_greatest_b4 : Nat → (Nat → Int32) → Int32 → Int32 → Option Int32
  | 0, _, _, _ => none
  | n + 1, ss, x1, x2 =>
    (if 6 ≤ x2 then (some x1) else ((f_X11_holds ss x2 x1).bind fun v13 => (if v13 ≤ 0 then f_X11_greatest_b24 (f_X11_greatest_b4 n) ss x2 x1 else f_X11_greatest_b24 (f_X11_greatest_b4 n) ss x2 x2)))
def f_X11_greatest (ss : (Nat → Int32)) : Option Int32 :=
  f_X11_greatest_b4 xfuel ss 0 1
def f_X11_tellsDigits_b22 (k11 : (Nat → Int32) → (Nat → Int32) → Int32 → Int32 → Option ((Nat → Int32) × Int32)) (ss : (Nat → Int32)) (digit : (Nat → Int32)) (digitMany : Int32) (x2 : Int32) : Option ((Nat → Int32) × Int32) :=
  (if ss (0 : Int32).toNatClampNeg = 0 then none else (if digitMany < 0 ∨ 40 ≤ digitMany.toNatClampNeg then none else (if ss (0 : Int32).toNatClampNeg = 0 then none else k11 ss (upd digit digitMany.toNatClampNeg (x2 - x2 / (ss (0 : Int32).toNatClampNeg) * (ss (0 : Int32).toNatClampNeg))) (digitMany + 1) (x2 / (ss (0 : Int32).toNatClampNeg)))))
def f_X11_tellsDigits_b11 : Nat → (Nat → Int32) → (Nat → Int32) → Int32 → Int32 → Option ((Nat → Int32) × Int32)
  | 0, _, _, _, _ => none
  | n + 1, ss, digit, digitMany, x2 =>
    (if 0 < x2 then f_X11_tellsDigits_b22 (f_X11_tellsDigits_b11 n) ss digit digitMany x2 else (if digitMany = 0 then f_X11_tellsDigits_b22 (f_X11_tellsDigits_b11 n) ss digit digitMany x2 else (some (digit, digitMany))))
def f_X11_tellsDigits (ss : (Nat → Int32)) (digit : (Nat → Int32)) (digitMany : Int32) (a1 : Int32) : Option ((Nat → Int32) × Int32) :=
  ((f_X11_wholeOf ss a1).bind fun v2 => f_X11_tellsDigits_b11 xfuel ss digit 0 v2)
def f_X11_sumOf_b9 : Nat → (Nat → Int32) → (Nat → Int32) → Int32 → Int32 → Int32 → Option (Int32 × (Nat → Int32) × Int32)
  | 0, _, _, _, _, _ => none
  | n + 1, ss, digit, digitMany, x2, x3 =>
    (if digitMany ≤ x3 then (some (x2, digit, digitMany)) else (if x3 < 0 ∨ 40 ≤ x3.toNatClampNeg then none else (f_X11_sumOf_b9 n) ss digit digitMany (x2 + (digit x3.toNatClampNeg)) (x3 + 1)))
def f_X11_sumOf (ss : (Nat → Int32)) (digit : (Nat → Int32)) (digitMany : Int32) (a1 : Int32) : Option (Int32 × (Nat → Int32) × Int32) :=
  ((f_X11_tellsDigits ss digit digitMany a1).bind fun v4 => f_X11_sumOf_b9 xfuel ss v4.1 v4.2 0 0)
def f_X11_headOf_b14 : Nat → Int32 → Int32 → Int32 → Int32 → Option Int32
  | 0, _, _, _, _ => none
  | n + 1, x1, x2, x3, x4 =>
    (if x4 ≤ 1 then (some x2) else (if x4 = 0 then none else ((f_X11_factor ((x3 / x4).toInt64) x1.toInt64).bind fun v32 => (f_X11_headOf_b14 n) x1 (x2 + 1) (x3 / x4) v32.toInt32)))
def f_X11_headOf (a0 : Int32) (a1 : Int32) : Option Int32 :=
  ((f_X11_factor a0.toInt64 a1.toInt64).bind fun v8 => f_X11_headOf_b14 xfuel a1 0 a0 v8.toInt32)
def f_X11_periodOf_b58 : Nat → Int32 → Int32 → Int32 → Int32 → Option Int32
  | 0, _, _, _, _ => none
  | n + 1, x1, x2, x4, x5 =>
    (if x2 ≤ 1 then (some x4) else (if x5 = 1 then (some x4) else (if x2 = 0 then none else (f_X11_periodOf_b58 n) x1 x2 (x4 + 1) ((x5 * x1) - (x5 * x1) / x2 * x2))))
def f_X11_periodOf_b56 (x1 : Int32) (x2 : Int32) (x4 : Int32) (t0 : Int32) : Option Int32 :=
  f_X11_periodOf_b58 xfuel x1 x2 x4 t0
def f_X11_periodOf_b42 (x1 : Int32) (x2 : Int32) (t0 : Int32) : Option Int32 :=
  (if x2 = 1 then f_X11_periodOf_b56 x1 x2 t0 1 else (if x2 = 0 then none else f_X11_periodOf_b56 x1 x2 t0 (x1 - x1 / x2 * x2)))
def f_X11_periodOf_b11 : Nat → Int32 → Int32 → Int32 → Option Int32
  | 0, _, _, _ => none
  | n + 1, x1, x2, x3 =>
    (if x3 ≤ 1 then (if x2 = 1 then f_X11_periodOf_b42 x1 x2 0 else f_X11_periodOf_b42 x1 x2 1) else (if x3 = 0 then none else ((f_X11_factor ((x2 / x3).toInt64) x1.toInt64).bind fun v24 => (f_X11_periodOf_b11 n) x1 (x2 / x3) v24.toInt32)))
def f_X11_periodOf (a0 : Int32) (a1 : Int32) : Option Int32 :=
  ((f_X11_factor a0.toInt64 a1.toInt64).bind fun v6 => f_X11_periodOf_b11 xfuel a1 a0 v6.toInt32)
def f_X11_digitAfter_b18 : Nat → (Nat → Int32) → Int32 → Int32 → Int32 → Int32 → Int32 → Option Int32
  | 0, _, _, _, _, _, _ => none
  | n + 1, ss, x1, x2, x3, x4, x5 =>
    (if x2 < x5 then (some x4) else ((f_X11_down ss x1).bind fun v34 => (if v34 = 0 then none else ((f_X11_down ss x1).bind fun v50 => (if v50 = 0 then none else (f_X11_digitAfter_b18 n) ss x1 x2 ((x3 * (ss (0 : Int32).toNatClampNeg)) - (x3 * (ss (0 : Int32).toNatClampNeg)) / v50 * v50) ((x3 * (ss (0 : Int32).toNatClampNeg)) / v34) (x5 + 1))))))
def f_X11_digitAfter (ss : (Nat → Int32)) (a1 : Int32) (a2 : Int32) : Option Int32 :=
  ((f_X11_up ss a1).bind fun v2 => ((f_X11_down ss a1).bind fun v7 => (if v7 = 0 then none else f_X11_digitAfter_b18 xfuel ss a1 a2 (v2 - v2 / v7 * v7) 0 0)))
def f_X11_bestBase_b80 (k25 : (Nat → Int32) → Int32 → Int32 → Int32 → Int32 → Option Int32) (ss : (Nat → Int32)) (x1 : Int32) (x2 : Int32) (x4 : Int32) (t0 : Int32) : Option Int32 :=
  k25 ss x1 x2 t0 (x4 + 1)
def f_X11_bestBase_b67 (k25 : (Nat → Int32) → Int32 → Int32 → Int32 → Int32 → Option Int32) (ss : (Nat → Int32)) (x1 : Int32) (x3 : Int32) (x4 : Int32) (x5 : Int32) (t0 : Int32) : Option Int32 :=
  (if x3 ≤ x5 then f_X11_bestBase_b80 k25 ss x1 t0 x4 x3 else f_X11_bestBase_b80 k25 ss x1 t0 x4 x5)
def f_X11_bestBase_b25 : Nat → (Nat → Int32) → Int32 → Int32 → Int32 → Int32 → Option Int32
  | 0, _, _, _, _, _ => none
  | n + 1, ss, x1, x2, x3, x4 =>
    (if 17 ≤ x4 then (some x2) else ((f_X11_down ss x1).bind fun v34 => ((f_X11_headOf v34 x4).bind fun v39 => ((f_X11_down ss x1).bind fun v44 => ((f_X11_periodOf v44 x4).bind fun v49 => (if x3 ≤ (v39 + v49) then f_X11_bestBase_b67 (f_X11_bestBase_b25 n) ss x1 x3 x4 (v39 + v49) x2 else f_X11_bestBase_b67 (f_X11_bestBase_b25 n) ss x1 x3 x4 (v39 + v49) x4))))))
def f_X11_bestBase (ss : (Nat → Int32)) (a1 : Int32) : Option Int32 :=
  ((f_X11_down ss a1).bind fun v4 => ((f_X11_headOf v4 2).bind fun v8 => ((f_X11_down ss a1).bind fun v13 => ((f_X11_periodOf v13 2).bind fun v17 => f_X11_bestBase_b25 xfuel ss a1 2 (v8 + v17) 3))))
def f_X11_writtenMany (ss : (Nat → Int32)) (digit : (Nat → Int32)) (digitMany : Int32) (a1 : Int32) : Option (Int32 × (Nat → Int32) × Int32) :=
  ((f_X11_tellsDigits ss digit digitMany a1).bind fun v2 => ((f_X11_down ss a1).bind fun v7 => ((f_X11_headOf v7 (ss (0 : Int32).toNatClampNeg)).bind fun v16 => ((f_X11_down ss a1).bind fun v22 => ((f_X11_periodOf v22 (ss (0 : Int32).toNatClampNeg)).bind fun v31 => ((f_X11_down ss a1).bind fun v41 => (if v41 = 1 then (some (v2.2 + 0, v2.1, v2.2)) else (if v31 ≤ 0 then (some (v2.2 + (((1 + v16) + v31) + 0), v2.1, v2.2)) else (some (v2.2 + (((1 + v16) + v31) + 2), v2.1, v2.2))))))))))
def f_X11_sign (a0 : Int32) : Option Int32 :=
  (if 10 ≤ a0 then (some ((97 + a0) - 10)) else (some (48 + a0)))
def f_X11_writes (ss : (Nat → Int32)) (digit : (Nat → Int32)) (digitMany : Int32) (a1 : Int32) (a2 : Int32) : Option (Int32 × (Nat → Int32) × Int32) :=
  ((f_X11_tellsDigits ss digit digitMany a1).bind fun v2 => (if v2.2 ≤ a2 then ((f_X11_down ss a1).bind fun v41 => ((f_X11_headOf v41 (ss (0 : Int32).toNatClampNeg)).bind fun v50 => ((f_X11_down ss a1).bind fun v57 => ((f_X11_periodOf v57 (ss (0 : Int32).toNatClampNeg)).bind fun v66 => (if 0 ≤ ((a2 - v2.2) - 1) then (if v50 ≤ ((a2 - v2.2) - 1) then (if ((a2 - v2.2) - 1) = v50 then (some (40, v2.1, v2.2)) else (if ((a2 - v2.2) - 1) = ((v50 + v66) + 1) then (some (41, v2.1, v2.2)) else ((f_X11_digitAfter ss a1 (((a2 - v2.2) - 1) - 1)).bind fun v126 => ((f_X11_sign v126).bind fun v129 => (some (v129, v2.1, v2.2)))))) else ((f_X11_digitAfter ss a1 ((a2 - v2.2) - 1)).bind fun v87 => ((f_X11_sign v87).bind fun v90 => (some (v90, v2.1, v2.2))))) else (some (46, v2.1, v2.2))))))) else (if ((v2.2 - 1) - a2) < 0 ∨ 40 ≤ ((v2.2 - 1) - a2).toNatClampNeg then none else ((f_X11_sign (v2.1 ((v2.2 - 1) - a2).toNatClampNeg)).bind fun v26 => (some (v26, v2.1, v2.2))))))
def f_X11_tellsColumns_b214 (k90 : (Nat → Int32) → (Nat → Int32) → Int32 → (Nat → Int32) → Int32 → (Nat → Int32) → Int32 → Int32 → Int32 → Int32 → Int32 → Int32 → Option ((Nat → Int32) × Int32 × (Nat → Int32) × Int32 × (Nat → Int32) × Int32 × Int32 × Int32)) (ss : (Nat → Int32)) (digit : (Nat → Int32)) (digitMany : Int32) (other : (Nat → Int32)) (otherMany : Int32) (column : (Nat → Int32)) (columnMany : Int32) (carryMany : Int32) (chainMost : Int32) (x3 : Int32) (x4 : Int32) (x5 : Int32) (t0 : Int32) : Option ((Nat → Int32) × Int32 × (Nat → Int32) × Int32 × (Nat → Int32) × Int32 × Int32 × Int32) :=
  k90 ss digit digitMany other otherMany column columnMany carryMany t0 x3 x4 (x5 + 1)
def f_X11_tellsColumns_b193 (k90 : (Nat → Int32) → (Nat → Int32) → Int32 → (Nat → Int32) → Int32 → (Nat → Int32) → Int32 → Int32 → Int32 → Int32 → Int32 → Int32 → Option ((Nat → Int32) × Int32 × (Nat → Int32) × Int32 × (Nat → Int32) × Int32 × Int32 × Int32)) (ss : (Nat → Int32)) (digit : (Nat → Int32)) (digitMany : Int32) (other : (Nat → Int32)) (otherMany : Int32) (column : (Nat → Int32)) (columnMany : Int32) (carryMany : Int32) (chainMost : Int32) (x3 : Int32) (x5 : Int32) (t0 : Int32) : Option ((Nat → Int32) × Int32 × (Nat → Int32) × Int32 × (Nat → Int32) × Int32 × Int32 × Int32) :=
  (if t0 ≤ chainMost then f_X11_tellsColumns_b214 k90 ss digit digitMany other otherMany column columnMany carryMany chainMost x3 t0 x5 chainMost else f_X11_tellsColumns_b214 k90 ss digit digitMany other otherMany column columnMany carryMany chainMost x3 t0 x5 t0)
def f_X11_tellsColumns_b139 (k90 : (Nat → Int32) → (Nat → Int32) → Int32 → (Nat → Int32) → Int32 → (Nat → Int32) → Int32 → Int32 → Int32 → Int32 → Int32 → Int32 → Option ((Nat → Int32) × Int32 × (Nat → Int32) × Int32 × (Nat → Int32) × Int32 × Int32 × Int32)) (ss : (Nat → Int32)) (digit : (Nat → Int32)) (digitMany : Int32) (other : (Nat → Int32)) (otherMany : Int32) (column : (Nat → Int32)) (columnMany : Int32) (carryMany : Int32) (chainMost : Int32) (x3 : Int32) (x4 : Int32) (x5 : Int32) (t0 : Int32) (t1 : Int32) : Option ((Nat → Int32) × Int32 × (Nat → Int32) × Int32 × (Nat → Int32) × Int32 × Int32 × Int32) :=
  (if ss (0 : Int32).toNatClampNeg = 0 then none else (if ss (0 : Int32).toNatClampNeg = 0 then none else (if x5 < 0 ∨ 41 ≤ x5.toNatClampNeg then none else (if (((t1 + t0) + x3) / (ss (0 : Int32).toNatClampNeg)) = 1 then f_X11_tellsColumns_b193 k90 ss digit digitMany other otherMany (upd column x5.toNatClampNeg (((t1 + t0) + x3) - ((t1 + t0) + x3) / (ss (0 : Int32).toNatClampNeg) * (ss (0 : Int32).toNatClampNeg))) columnMany (carryMany + (((t1 + t0) + x3) / (ss (0 : Int32).toNatClampNeg))) chainMost (((t1 + t0) + x3) / (ss (0 : Int32).toNatClampNeg)) x5 (x4 + 1) else f_X11_tellsColumns_b193 k90 ss digit digitMany other otherMany (upd column x5.toNatClampNeg (((t1 + t0) + x3) - ((t1 + t0) + x3) / (ss (0 : Int32).toNatClampNeg) * (ss (0 : Int32).toNatClampNeg))) columnMany (carryMany + (((t1 + t0) + x3) / (ss (0 : Int32).toNatClampNeg))) chainMost (((t1 + t0) + x3) / (ss (0 : Int32).toNatClampNeg)) x5 0))))
def f_X11_tellsColumns_b119 (k90 : (Nat → Int32) → (Nat → Int32) → Int32 → (Nat → Int32) → Int32 → (Nat → Int32) → Int32 → Int32 → Int32 → Int32 → Int32 → Int32 → Option ((Nat → Int32) × Int32 × (Nat → Int32) × Int32 × (Nat → Int32) × Int32 × Int32 × Int32)) (ss : (Nat → Int32)) (digit : (Nat → Int32)) (digitMany : Int32) (other : (Nat → Int32)) (otherMany : Int32) (column : (Nat → Int32)) (columnMany : Int32) (carryMany : Int32) (chainMost : Int32) (x3 : Int32) (x4 : Int32) (x5 : Int32) (t0 : Int32) : Option ((Nat → Int32) × Int32 × (Nat → Int32) × Int32 × (Nat → Int32) × Int32 × Int32 × Int32) :=
  (if otherMany ≤ x5 then f_X11_tellsColumns_b139 k90 ss digit digitMany other otherMany column columnMany carryMany chainMost x3 x4 x5 0 t0 else (if x5 < 0 ∨ 40 ≤ x5.toNatClampNeg then none else f_X11_tellsColumns_b139 k90 ss digit digitMany other otherMany column columnMany carryMany chainMost x3 x4 x5 (other x5.toNatClampNeg) t0))
def f_X11_tellsColumns_b90 : Nat → (Nat → Int32) → (Nat → Int32) → Int32 → (Nat → Int32) → Int32 → (Nat → Int32) → Int32 → Int32 → Int32 → Int32 → Int32 → Int32 → Option ((Nat → Int32) × Int32 × (Nat → Int32) × Int32 × (Nat → Int32) × Int32 × Int32 × Int32)
  | 0, _, _, _, _, _, _, _, _, _, _, _, _ => none
  | n + 1, ss, digit, digitMany, other, otherMany, column, columnMany, carryMany, chainMost, x3, x4, x5 =>
    (if columnMany ≤ x5 then (if x3 = 1 then (if columnMany < 0 ∨ 41 ≤ columnMany.toNatClampNeg then none else (some (digit, digitMany, other, otherMany, (upd column columnMany.toNatClampNeg 1), (columnMany + 1), carryMany, chainMost))) else (some (digit, digitMany, other, otherMany, column, columnMany, carryMany, chainMost))) else (if digitMany ≤ x5 then f_X11_tellsColumns_b119 (f_X11_tellsColumns_b90 n) ss digit digitMany other otherMany column columnMany carryMany chainMost x3 x4 x5 0 else (if x5 < 0 ∨ 40 ≤ x5.toNatClampNeg then none else f_X11_tellsColumns_b119 (f_X11_tellsColumns_b90 n) ss digit digitMany other otherMany column columnMany carryMany chainMost x3 x4 x5 (digit x5.toNatClampNeg))))
def f_X11_tellsColumns_b69 (ss : (Nat → Int32)) (digit : (Nat → Int32)) (digitMany : Int32) (other : (Nat → Int32)) (otherMany : Int32) (column : (Nat → Int32)) (columnMany : Int32) (carryMany : Int32) (chainMost : Int32) (t0 : Int32) : Option ((Nat → Int32) × Int32 × (Nat → Int32) × Int32 × (Nat → Int32) × Int32 × Int32 × Int32) :=
  f_X11_tellsColumns_b90 xfuel ss digit digitMany other otherMany column t0 0 0 0 0 0
def f_X11_tellsColumns_b15 : Nat → (Nat → Int32) → (Nat → Int32) → Int32 → (Nat → Int32) → Int32 → (Nat → Int32) → Int32 → Int32 → Int32 → Int32 → Int32 → Option ((Nat → Int32) × Int32 × (Nat → Int32) × Int32 × (Nat → Int32) × Int32 × Int32 × Int32)
  | 0, _, _, _, _, _, _, _, _, _, _, _ => none
  | n + 1, ss, digit, digitMany, other, otherMany, column, columnMany, carryMany, chainMost, x1, x3 =>
    (if digitMany ≤ x3 then ((f_X11_tellsDigits ss digit digitMany x1).bind fun v43 => (if v43.2 ≤ otherMany then f_X11_tellsColumns_b69 ss v43.1 v43.2 other otherMany column columnMany carryMany chainMost otherMany else f_X11_tellsColumns_b69 ss v43.1 v43.2 other otherMany column columnMany carryMany chainMost v43.2)) else (if x3 < 0 ∨ 40 ≤ x3.toNatClampNeg then none else (if x3 < 0 ∨ 40 ≤ x3.toNatClampNeg then none else (f_X11_tellsColumns_b15 n) ss digit digitMany (upd other x3.toNatClampNeg (digit x3.toNatClampNeg)) otherMany column columnMany carryMany chainMost x1 (x3 + 1))))
def f_X11_tellsColumns (ss : (Nat → Int32)) (digit : (Nat → Int32)) (digitMany : Int32) (other : (Nat → Int32)) (otherMany : Int32) (column : (Nat → Int32)) (columnMany : Int32) (carryMany : Int32) (chainMost : Int32) (a1 : Int32) (a2 : Int32) : Option ((Nat → Int32) × Int32 × (Nat → Int32) × Int32 × (Nat → Int32) × Int32 × Int32 × Int32) :=
  ((f_X11_tellsDigits ss digit digitMany a2).bind fun v2 => f_X11_tellsColumns_b15 xfuel ss v2.1 v2.2 other v2.2 column columnMany carryMany chainMost a1 0)
def f_X11_reads16_b74 (ss : (Nat → Int32)) (digit : (Nat → Int32)) (digitMany : Int32) (x3 : Int64) (x5 : Int32) : Option (Int64 × (Nat → Int32) × Int32) :=
  (if x5 = 0 then (some ((-1), digit, digitMany)) else (some (x3, digit, digitMany)))
def f_X11_reads16_b66 (k18 : (Nat → Int32) → (Nat → Int32) → Int32 → Int32 → Int64 → Int32 → Int32 → Option (Int64 × (Nat → Int32) × Int32)) (ss : (Nat → Int32)) (digit : (Nat → Int32)) (digitMany : Int32) (x2 : Int32) (x3 : Int64) (x6 : Int32) (t0 : Int32) : Option (Int64 × (Nat → Int32) × Int32) :=
  k18 ss digit digitMany x2 x3 t0 (x6 + (-1))
def f_X11_reads16_b65 (k18 : (Nat → Int32) → (Nat → Int32) → Int32 → Int32 → Int64 → Int32 → Int32 → Option (Int64 × (Nat → Int32) × Int32)) (ss : (Nat → Int32)) (digit : (Nat → Int32)) (digitMany : Int32) (x2 : Int32) (x3 : Int64) (x6 : Int32) : Option (Int64 × (Nat → Int32) × Int32) :=
  f_X11_reads16_b66 k18 ss digit digitMany x2 x3 x6 0
def f_X11_reads16_b18 : Nat → (Nat → Int32) → (Nat → Int32) → Int32 → Int32 → Int64 → Int32 → Int32 → Option (Int64 × (Nat → Int32) × Int32)
  | 0, _, _, _, _, _, _, _ => none
  | n + 1, ss, digit, digitMany, x2, x3, x5, x6 =>
    (if x6 < 0 then f_X11_reads16_b74 ss digit digitMany x3 x5 else (if x5 = 0 then f_X11_reads16_b74 ss digit digitMany x3 x5 else (if x6 < 0 ∨ 40 ≤ x6.toNatClampNeg then none else (if x6 < 0 ∨ 40 ≤ x6.toNatClampNeg then none else (if x2 ≤ (digit x6.toNatClampNeg) then f_X11_reads16_b65 (f_X11_reads16_b18 n) ss digit digitMany x2 ((x3 * x2.toInt64) + ((digit x6.toNatClampNeg).toInt64)) x6 else (if 999999999999999 < ((x3 * x2.toInt64) + ((digit x6.toNatClampNeg).toInt64)) then f_X11_reads16_b65 (f_X11_reads16_b18 n) ss digit digitMany x2 ((x3 * x2.toInt64) + ((digit x6.toNatClampNeg).toInt64)) x6 else f_X11_reads16_b66 (f_X11_reads16_b18 n) ss digit digitMany x2 ((x3 * x2.toInt64) + ((digit x6.toNatClampNeg).toInt64)) x6 1))))))
def f_X11_reads16 (ss : (Nat → Int32)) (digit : (Nat → Int32)) (digitMany : Int32) (a1 : Int32) (a2 : Int32) : Option (Int64 × (Nat → Int32) × Int32) :=
  ((f_X11_tellsDigits ss digit digitMany a1).bind fun v7 => f_X11_reads16_b18 xfuel ss v7.1 v7.2 a2 0 1 (v7.2 - 1))
def f_X11_sumPeriod (ss : (Nat → Int32)) (top : Int64) (bottom : Int64) (a1 : Int32) (a2 : Int32) : Option (Int32 × Int64 × Int64) :=
  ((f_X11_makesSum ss top bottom a1 a2 1).bind fun v4 => ((f_X11_periodOf v4.2.2.toInt32 (ss (0 : Int32).toNatClampNeg)).bind fun v19 => (some (v19, v4.2.1, v4.2.2))))
def f_X11_setBase (thrown : Int32) (ss : (Nat → Int32)) (states : (Nat → Int32)) (stateMany : Int32) (a1 : Int32) : Option (Int32 × Int32 × (Nat → Int32) × (Nat → Int32) × Int32) :=
  ((f_X11_isBase a1).bind fun v6 => (if v6 = 0 then ((f_X11_fails 0 1).bind fun v14 => (some (v14.1, v14.2, ss, states, stateMany))) else ((f_X11_records ss states stateMany).bind fun v19 => (some (ss (0 : Int32).toNatClampNeg, 0, (upd ss (0 : Int32).toNatClampNeg a1), v19.1, v19.2)))))
def f_X11_setFraction_b39 (thrown : Int32) (ss : (Nat → Int32)) (states : (Nat → Int32)) (stateMany : Int32) (top : Int64) (bottom : Int64) : Option (Int32 × Int32 × (Nat → Int32) × (Nat → Int32) × Int32 × Int64 × Int64) :=
  ((f_X11_fails thrown 2).bind fun v41 => (some (v41.1, v41.2, ss, states, stateMany, top, bottom)))
def f_X11_setFraction (thrown : Int32) (ss : (Nat → Int32)) (states : (Nat → Int32)) (stateMany : Int32) (top : Int64) (bottom : Int64) (a1 : Int32) (a2 : Int32) (a3 : Int32) : Option (Int32 × Int32 × (Nat → Int32) × (Nat → Int32) × Int32 × Int64 × Int64) :=
  ((f_X11_isAccount a1).bind fun v6 => (if v6 = 0 then ((f_X11_fails 0 1).bind fun v14 => (some (v14.1, v14.2, ss, states, stateMany, top, bottom))) else ((f_X11_in a2 0 999999999).bind fun v22 => (if v22 = 0 then f_X11_setFraction_b39 0 ss states stateMany top bottom else ((f_X11_in a3 1 999).bind fun v33 => (if v33 = 0 then f_X11_setFraction_b39 0 ss states stateMany top bottom else ((f_X11_records ss states stateMany).bind fun v46 => ((f_X11_makes top bottom a2.toInt64 a3.toInt64).bind fun v54 => ((f_X11_puts ss v54.2.1 v54.2.2 a1).bind fun v60 => ((f_X11_down v60 a1).bind fun v65 => (some (v65, 0, v60, v46.1, v46.2, v54.2.1, v54.2.2))))))))))))
def f_X11_add (thrown : Int32) (ss : (Nat → Int32)) (states : (Nat → Int32)) (stateMany : Int32) (top : Int64) (bottom : Int64) (a1 : Int32) (a2 : Int32) : Option (Int32 × Int32 × (Nat → Int32) × (Nat → Int32) × Int32 × Int64 × Int64) :=
  ((f_X11_areAccounts a1 a2).bind fun v7 => (if v7 = 0 then ((f_X11_fails 0 1).bind fun v15 => (some (v15.1, v15.2, ss, states, stateMany, top, bottom))) else ((f_X11_makesSum ss top bottom a1 a2 1).bind fun v23 => (if v23.1 ≤ 0 then ((f_X11_records ss states stateMany).bind fun v36 => ((f_X11_puts ss v23.2.1 v23.2.2 a1).bind fun v41 => ((f_X11_up v41 a1).bind fun v46 => (some (v46, 0, v41, v36.1, v36.2, v23.2.1, v23.2.2))))) else ((f_X11_fails 0 2).bind fun v31 => (some (v31.1, v31.2, ss, states, stateMany, v23.2.1, v23.2.2)))))))
def f_X11_subtract_b38 (thrown : Int32) (ss : (Nat → Int32)) (states : (Nat → Int32)) (stateMany : Int32) (top : Int64) (bottom : Int64) : Option (Int32 × Int32 × (Nat → Int32) × (Nat → Int32) × Int32 × Int64 × Int64) :=
  ((f_X11_fails thrown 2).bind fun v40 => (some (v40.1, v40.2, ss, states, stateMany, top, bottom)))
def f_X11_subtract (thrown : Int32) (ss : (Nat → Int32)) (states : (Nat → Int32)) (stateMany : Int32) (top : Int64) (bottom : Int64) (a1 : Int32) (a2 : Int32) : Option (Int32 × Int32 × (Nat → Int32) × (Nat → Int32) × Int32 × Int64 × Int64) :=
  ((f_X11_areAccounts a1 a2).bind fun v7 => (if v7 = 0 then ((f_X11_fails 0 1).bind fun v15 => (some (v15.1, v15.2, ss, states, stateMany, top, bottom))) else ((f_X11_makesSum ss top bottom a1 a2 (-1)).bind fun v23 => (if 0 < v23.1 then f_X11_subtract_b38 0 ss states stateMany v23.2.1 v23.2.2 else (if v23.2.1 < 0 then f_X11_subtract_b38 0 ss states stateMany v23.2.1 v23.2.2 else ((f_X11_records ss states stateMany).bind fun v45 => ((f_X11_puts ss v23.2.1 v23.2.2 a1).bind fun v50 => ((f_X11_up v50 a1).bind fun v55 => (some (v55, 0, v50, v45.1, v45.2, v23.2.1, v23.2.2))))))))))
def f_X11_shift (thrown : Int32) (ss : (Nat → Int32)) (states : (Nat → Int32)) (stateMany : Int32) (top : Int64) (bottom : Int64) (a1 : Int32) (a2 : Int32) : Option (Int32 × Int32 × (Nat → Int32) × (Nat → Int32) × Int32 × Int64 × Int64) :=
  ((f_X11_isAccount a1).bind fun v6 => (if v6 = 0 then ((f_X11_fails 0 1).bind fun v14 => (some (v14.1, v14.2, ss, states, stateMany, top, bottom))) else ((f_X11_in a2 (-3) 3).bind fun v22 => (if v22 = 0 then ((f_X11_fails 0 2).bind fun v30 => (some (v30.1, v30.2, ss, states, stateMany, top, bottom))) else ((f_X11_makesShift ss top bottom a1 a2).bind fun v37 => (if v37.1 ≤ 0 then ((f_X11_records ss states stateMany).bind fun v50 => ((f_X11_puts ss v37.2.1 v37.2.2 a1).bind fun v55 => ((f_X11_down v55 a1).bind fun v60 => (some (v60, 0, v55, v50.1, v50.2, v37.2.1, v37.2.2))))) else ((f_X11_fails 0 3).bind fun v45 => (some (v45.1, v45.2, ss, states, stateMany, v37.2.1, v37.2.2)))))))))
def f_X11_pay_b34 (thrown : Int32) (ss : (Nat → Int32)) (states : (Nat → Int32)) (stateMany : Int32) (top : Int64) (bottom : Int64) : Option (Int32 × Int32 × (Nat → Int32) × (Nat → Int32) × Int32 × Int64 × Int64) :=
  ((f_X11_fails thrown 2).bind fun v36 => (some (v36.1, v36.2, ss, states, stateMany, top, bottom)))
def f_X11_pay_b58 (thrown : Int32) (ss : (Nat → Int32)) (states : (Nat → Int32)) (stateMany : Int32) (top : Int64) (bottom : Int64) : Option (Int32 × Int32 × (Nat → Int32) × (Nat → Int32) × Int32 × Int64 × Int64) :=
  ((f_X11_fails thrown 3).bind fun v60 => (some (v60.1, v60.2, ss, states, stateMany, top, bottom)))
def f_X11_pay (thrown : Int32) (ss : (Nat → Int32)) (states : (Nat → Int32)) (stateMany : Int32) (top : Int64) (bottom : Int64) (a1 : Int32) (a2 : Int32) (a3 : Int32) : Option (Int32 × Int32 × (Nat → Int32) × (Nat → Int32) × Int32 × Int64 × Int64) :=
  ((f_X11_areAccounts a1 a2).bind fun v7 => (if v7 = 0 then ((f_X11_fails 0 1).bind fun v15 => (some (v15.1, v15.2, ss, states, stateMany, top, bottom))) else (if a1 = a2 then f_X11_pay_b34 0 ss states stateMany top bottom else ((f_X11_in a3 1 999999).bind fun v28 => (if v28 = 0 then f_X11_pay_b34 0 ss states stateMany top bottom else ((f_X11_wholeOf ss a1).bind fun v42 => (if v42 < a3 then f_X11_pay_b58 0 ss states stateMany top bottom else ((f_X11_makesMore ss top bottom a2 a3).bind fun v52 => (if v52.1 ≤ 0 then ((f_X11_records ss states stateMany).bind fun v65 => ((f_X11_puts ss v52.2.1 v52.2.2 a2).bind fun v70 => ((f_X11_makesMore v70 v52.2.1 v52.2.2 a1 (-a3)).bind fun v77 => ((f_X11_puts v70 v77.2.1 v77.2.2 a1).bind fun v83 => ((f_X11_up v83 a1).bind fun v88 => (some (v88, 0, v83, v65.1, v65.2, v77.2.1, v77.2.2))))))) else f_X11_pay_b58 0 ss states stateMany v52.2.1 v52.2.2)))))))))
def f_X11_append (thrown : Int32) (text : (Nat → Int32)) (length : Int32) (a1 : Int32) : Option (Int32 × Int32 × (Nat → Int32) × Int32) :=
  ((f_X11_in a1 33 126).bind fun v10 => (if v10 = 0 then ((f_X11_fails 0 1).bind fun v18 => (some (v18.1, v18.2, text, length))) else (if length = 60 then ((f_X11_fails 0 2).bind fun v33 => (some (v33.1, v33.2, text, length))) else (if length < 0 ∨ 60 ≤ length.toNatClampNeg then none else (some ((length + 1), 0, (upd text length.toNatClampNeg a1), (length + 1)))))))
def f_X11_clearBuffer (thrown : Int32) (length : Int32) : Option (Int32 × Int32 × Int32) :=
  (some (length, 0, 0))
def f_X11_signAt (text : (Nat → Int32)) (length : Int32) (at_ : Int32) : Option Int32 :=
  (if length ≤ at_ then (some 0) else (if at_ < 0 ∨ 60 ≤ at_.toNatClampNeg then none else (some (text at_.toNatClampNeg))))
def f_X11_takes_b53 (text : (Nat → Int32)) (length : Int32) (at_ : Int32) (isWell : Int32) (x3 : Int32) (t0 : Int32) (t1 : Int32) : Option (Int32 × Int32 × Int32) :=
  (some (x3, (t1 + t0), isWell))
def f_X11_takes_b25 (text : (Nat → Int32)) (length : Int32) (at_ : Int32) (isWell : Int32) (t0 : Int32) : Option (Int32 × Int32 × Int32) :=
  (if ¬ (t0 = 0 ∨ t0 = 1) then none else ((f_X11_signAt text length at_).bind fun v29 => (if t0 = 0 then f_X11_takes_b53 text length at_ t0 (v29 - 48) 0 at_ else f_X11_takes_b53 text length at_ t0 (v29 - 48) 1 at_)))
def f_X11_takes_b24 (text : (Nat → Int32)) (length : Int32) (at_ : Int32) (isWell : Int32) : Option (Int32 × Int32 × Int32) :=
  f_X11_takes_b25 text length at_ isWell 0
def f_X11_takes (text : (Nat → Int32)) (length : Int32) (at_ : Int32) (isWell : Int32) (a1 : Int32) (a2 : Int32) : Option (Int32 × Int32 × Int32) :=
  (if isWell = 0 then f_X11_takes_b24 text length at_ isWell else ((f_X11_signAt text length at_).bind fun v9 => ((f_X11_in v9 a1 a2).bind fun v14 => (if v14 = 0 then f_X11_takes_b24 text length at_ isWell else f_X11_takes_b25 text length at_ isWell 1))))
def f_X11_value16 (text : (Nat → Int32)) (length : Int32) (at_ : Int32) : Option Int32 :=
  ((f_X11_signAt text length at_).bind fun v1 => ((f_X11_in v1 48 57).bind fun v10 => (if v10 = 0 then ((f_X11_in v1 97 102).bind fun v28 => (if v28 = 0 then (some (-1)) else (some ((v1 - 97) + 10)))) else (some (v1 - 48)))))
def f_X11_takesDigits_b67 (text : (Nat → Int32)) (length : Int32) (at_ : Int32) (isWell : Int32) (rd : (Nat → Int32)) (x3 : Int32) (t0 : Int32) : Option (Int32 × Int32 × Int32 × (Nat → Int32)) :=
  (if ¬ (t0 = 0 ∨ t0 = 1) then none else (some (x3, at_, t0, rd)))
def f_X11_takesDigits_b66 (text : (Nat → Int32)) (length : Int32) (at_ : Int32) (isWell : Int32) (rd : (Nat → Int32)) (x3 : Int32) : Option (Int32 × Int32 × Int32 × (Nat → Int32)) :=
  f_X11_takesDigits_b67 text length at_ isWell rd x3 0
def f_X11_takesDigits_b50 (text : (Nat → Int32)) (length : Int32) (at_ : Int32) (isWell : Int32) (rd : (Nat → Int32)) (x3 : Int32) : Option (Int32 × Int32 × Int32 × (Nat → Int32)) :=
  (if isWell = 0 then f_X11_takesDigits_b66 text length at_ isWell rd x3 else (if x3 ≤ 0 then f_X11_takesDigits_b66 text length at_ isWell rd x3 else f_X11_takesDigits_b67 text length at_ isWell rd x3 1))
def f_X11_takesDigits_b2 : Nat → (Nat → Int32) → Int32 → Int32 → Int32 → (Nat → Int32) → Int32 → Int32 → Int32 → Option (Int32 × Int32 × Int32 × (Nat → Int32))
  | 0, _, _, _, _, _, _, _, _ => none
  | n + 1, text, length, at_, isWell, rd, x1, x2, x3 =>
    (if isWell = 0 then f_X11_takesDigits_b50 text length at_ isWell rd x3 else (if x2 ≤ x3 then f_X11_takesDigits_b50 text length at_ isWell rd x3 else ((f_X11_value16 text length at_).bind fun v15 => (if v15 = (-1) then f_X11_takesDigits_b50 text length at_ isWell rd x3 else ((f_X11_value16 text length at_).bind fun v30 => (if (x1 + x3) < 0 ∨ 512 ≤ (x1 + x3).toNatClampNeg then none else (f_X11_takesDigits_b2 n) text length (at_ + 1) isWell (upd rd (x1 + x3).toNatClampNeg v30) x1 x2 (x3 + 1)))))))
def f_X11_takesDigits (text : (Nat → Int32)) (length : Int32) (at_ : Int32) (isWell : Int32) (rd : (Nat → Int32)) (a1 : Int32) (a2 : Int32) : Option (Int32 × Int32 × Int32 × (Nat → Int32)) :=
  f_X11_takesDigits_b2 xfuel text length at_ isWell rd a1 a2 0
def f_X11_readsNumber_b93 (text : (Nat → Int32)) (length : Int32) (at_ : Int32) (isWell : Int32) (rd : (Nat → Int32)) (x1 : Int32) : Option (Int32 × Int32 × (Nat → Int32)) :=
  (if isWell = 0 then (some (at_, isWell, rd)) else ((f_X11_signAt text length at_).bind fun v101 => (if v101 = 40 then ((f_X11_takesDigits text length (at_ + 1) isWell rd (x1 + 18) 4).bind fun v132 => (if (x1 + 5) < 0 ∨ 512 ≤ (x1 + 5).toNatClampNeg then none else ((f_X11_takes text length v132.2.1 v132.2.2.1 41 41).bind fun v141 => (some (v141.2.1, v141.2.2, (upd v132.2.2.2 (x1 + 5).toNatClampNeg v132.1)))))) else (some (at_, isWell, rd)))))
def f_X11_readsNumber_b37 (text : (Nat → Int32)) (length : Int32) (at_ : Int32) (isWell : Int32) (rd : (Nat → Int32)) (x1 : Int32) (t0 : Int32) (t1 : Int32) (t3 : Int32) : Option (Int32 × Int32 × (Nat → Int32)) :=
  ((f_X11_takesDigits text length at_ isWell rd t1 t0).bind fun v37 => (if t3 < 0 ∨ 512 ≤ t3.toNatClampNeg then none else (if v37.2.2.1 = 0 then (some (v37.2.1, v37.2.2.1, (upd v37.2.2.2 t3.toNatClampNeg v37.1))) else ((f_X11_signAt text length v37.2.1).bind fun v49 => (if v49 = 46 then ((f_X11_signAt text length (v37.2.1 + 1)).bind fun v68 => (if v68 = 40 then f_X11_readsNumber_b93 text length (v37.2.1 + 1) v37.2.2.1 (upd v37.2.2.2 t3.toNatClampNeg v37.1) x1 else ((f_X11_takesDigits text length (v37.2.1 + 1) v37.2.2.1 (upd v37.2.2.2 t3.toNatClampNeg v37.1) (x1 + 14) 4).bind fun v89 => (if (x1 + 4) < 0 ∨ 512 ≤ (x1 + 4).toNatClampNeg then none else f_X11_readsNumber_b93 text length v89.2.1 v89.2.2.1 (upd v89.2.2.2 (x1 + 4).toNatClampNeg v89.1) x1)))) else (some (v37.2.1, v37.2.2.1, (upd v37.2.2.2 t3.toNatClampNeg v37.1))))))))
def f_X11_readsNumber_b14 (text : (Nat → Int32)) (length : Int32) (at_ : Int32) (isWell : Int32) (rd : (Nat → Int32)) (x1 : Int32) (t0 : Int32) : Option (Int32 × Int32 × (Nat → Int32)) :=
  (if t0 = 0 then f_X11_readsNumber_b37 text length at_ isWell rd x1 8 (x1 + 6) (x1 + 3) else f_X11_readsNumber_b37 text length at_ isWell rd x1 1 (x1 + 6) (x1 + 3))
def f_X11_readsNumber (text : (Nat → Int32)) (length : Int32) (at_ : Int32) (isWell : Int32) (rd : (Nat → Int32)) (a1 : Int32) : Option (Int32 × Int32 × (Nat → Int32)) :=
  ((f_X11_signAt text length at_).bind fun v1 => (if v1 = 48 then f_X11_readsNumber_b14 text length at_ isWell rd a1 1 else f_X11_readsNumber_b14 text length at_ isWell rd a1 0))
def f_X11_readsBase_b33 (text : (Nat → Int32)) (length : Int32) (at_ : Int32) (isWell : Int32) (rd : (Nat → Int32)) (x1 : Int32) (x2 : Int32) : Option (Int32 × Int32 × (Nat → Int32)) :=
  (if (x1 + 2) < 0 ∨ 512 ≤ (x1 + 2).toNatClampNeg then none else (some (at_, isWell, (upd rd (x1 + 2).toNatClampNeg x2))))
def f_X11_readsBase (text : (Nat → Int32)) (length : Int32) (at_ : Int32) (isWell : Int32) (rd : (Nat → Int32)) (a1 : Int32) : Option (Int32 × Int32 × (Nat → Int32)) :=
  ((f_X11_takes text length at_ isWell 49 57).bind fun v5 => (if v5.2.2 = 0 then f_X11_readsBase_b33 text length v5.2.1 v5.2.2 rd a1 v5.1 else (if v5.1 = 1 then ((f_X11_takes text length v5.2.1 v5.2.2 48 54).bind fun v28 => f_X11_readsBase_b33 text length v28.2.1 v28.2.2 rd a1 (10 + v28.1)) else f_X11_readsBase_b33 text length v5.2.1 v5.2.2 rd a1 v5.1)))
def f_X11_readsPart_b214 (text : (Nat → Int32)) (length : Int32) (at_ : Int32) (isWell : Int32) (rd : (Nat → Int32)) (readMany : Int32) (t0 : Int32) (t1 : Int32) : Option (Int32 × Int32 × (Nat → Int32) × Int32) :=
  (some (at_, isWell, rd, (t1 + t0)))
def f_X11_readsPart_b197 (text : (Nat → Int32)) (length : Int32) (at_ : Int32) (isWell : Int32) (rd : (Nat → Int32)) (readMany : Int32) : Option (Int32 × Int32 × (Nat → Int32) × Int32) :=
  (if isWell = 0 then f_X11_readsPart_b214 text length at_ isWell rd readMany 0 readMany else f_X11_readsPart_b214 text length at_ isWell rd readMany 1 readMany)
def f_X11_readsPart_b181 (text : (Nat → Int32)) (length : Int32) (at_ : Int32) (isWell : Int32) (rd : (Nat → Int32)) (readMany : Int32) (x1 : Int32) : Option (Int32 × Int32 × (Nat → Int32) × Int32) :=
  ((f_X11_takes text length at_ isWell 48 53).bind fun v193 => (if (x1 + 2) < 0 ∨ 512 ≤ (x1 + 2).toNatClampNeg then none else f_X11_readsPart_b197 text length v193.2.1 v193.2.2 (upd rd (x1 + 2).toNatClampNeg v193.1) readMany))
def f_X11_readsPart_b147 (text : (Nat → Int32)) (length : Int32) (at_ : Int32) (isWell : Int32) (rd : (Nat → Int32)) (readMany : Int32) (x1 : Int32) (x2 : Int32) (t0 : Int32) (t1 : Int32) : Option (Int32 × Int32 × (Nat → Int32) × Int32) :=
  (if (x1 + 1) < 0 ∨ 512 ≤ (x1 + 1).toNatClampNeg then none else (if isWell = 0 then f_X11_readsPart_b181 text length (t1 + t0) isWell (upd rd (x1 + 1).toNatClampNeg x2) readMany x1 else (if x2 = 61 then ((f_X11_readsNumber text length (t1 + t0) isWell (upd rd (x1 + 1).toNatClampNeg x2) x1).bind fun v175 => f_X11_readsPart_b197 text length v175.1 v175.2.1 v175.2.2 readMany) else f_X11_readsPart_b181 text length (t1 + t0) isWell (upd rd (x1 + 1).toNatClampNeg x2) readMany x1)))
def f_X11_readsPart_b127 (text : (Nat → Int32)) (length : Int32) (at_ : Int32) (isWell : Int32) (rd : (Nat → Int32)) (readMany : Int32) (x1 : Int32) (x2 : Int32) (t0 : Int32) : Option (Int32 × Int32 × (Nat → Int32) × Int32) :=
  (if ¬ (t0 = 0 ∨ t0 = 1) then none else (if t0 = 0 then f_X11_readsPart_b147 text length at_ t0 rd readMany x1 x2 0 at_ else f_X11_readsPart_b147 text length at_ t0 rd readMany x1 x2 1 at_))
def f_X11_readsPart_b122 (text : (Nat → Int32)) (length : Int32) (at_ : Int32) (isWell : Int32) (rd : (Nat → Int32)) (readMany : Int32) (x1 : Int32) (x2 : Int32) : Option (Int32 × Int32 × (Nat → Int32) × Int32) :=
  f_X11_readsPart_b127 text length at_ isWell rd readMany x1 x2 1
def f_X11_readsPart_b102 (text : (Nat → Int32)) (length : Int32) (at_ : Int32) (isWell : Int32) (rd : (Nat → Int32)) (readMany : Int32) (x1 : Int32) (t0 : Int32) : Option (Int32 × Int32 × (Nat → Int32) × Int32) :=
  (if t0 = 61 then f_X11_readsPart_b122 text length at_ isWell rd readMany x1 t0 else (if t0 = 43 then f_X11_readsPart_b122 text length at_ isWell rd readMany x1 t0 else (if t0 = 45 then f_X11_readsPart_b122 text length at_ isWell rd readMany x1 t0 else f_X11_readsPart_b127 text length at_ isWell rd readMany x1 t0 0)))
def f_X11_readsPart_b15 : Nat → (Nat → Int32) → Int32 → Int32 → Int32 → (Nat → Int32) → Int32 → Int32 → Int32 → Option (Int32 × Int32 × (Nat → Int32) × Int32)
  | 0, _, _, _, _, _, _, _, _ => none
  | n + 1, text, length, at_, isWell, rd, readMany, x1, x2 =>
    (if 24 ≤ x2 then ((f_X11_signAt text length at_).bind fun v37 => (if v37 = 98 then (if (x1 + 1) < 0 ∨ 512 ≤ (x1 + 1).toNatClampNeg then none else ((f_X11_readsBase text length (at_ + 1) isWell (upd rd (x1 + 1).toNatClampNeg 98) x1).bind fun v67 => f_X11_readsPart_b197 text length v67.1 v67.2.1 v67.2.2 readMany)) else ((f_X11_takes text length at_ isWell 48 53).bind fun v83 => (if x1 < 0 ∨ 512 ≤ x1.toNatClampNeg then none else (if v83.2.2 = 0 then f_X11_readsPart_b102 text length v83.2.1 v83.2.2 (upd rd x1.toNatClampNeg v83.1) readMany x1 0 else ((f_X11_signAt text length v83.2.1).bind fun v95 => f_X11_readsPart_b102 text length v83.2.1 v83.2.2 (upd rd x1.toNatClampNeg v83.1) readMany x1 v95)))))) else (if (x1 + x2) < 0 ∨ 512 ≤ (x1 + x2).toNatClampNeg then none else (f_X11_readsPart_b15 n) text length at_ isWell (upd rd (x1 + x2).toNatClampNeg 0) readMany x1 (x2 + 1)))
def f_X11_readsPart (text : (Nat → Int32)) (length : Int32) (at_ : Int32) (isWell : Int32) (rd : (Nat → Int32)) (readMany : Int32) : Option (Int32 × Int32 × (Nat → Int32) × Int32) :=
  f_X11_readsPart_b15 xfuel text length at_ 1 rd readMany (24 * readMany) 0
def f_X11_readsEntries_b14 : Nat → (Nat → Int32) → Int32 → Int32 → Int32 → (Nat → Int32) → Int32 → Option (Int32 × Int32 × Int32 × (Nat → Int32) × Int32)
  | 0, _, _, _, _, _, _ => none
  | n + 1, text, length, at_, isWell, rd, readMany =>
    (if isWell = 0 then (if ¬ (isWell = 0 ∨ isWell = 1) then none else some (isWell, at_, isWell, rd, readMany)) else (if length ≤ at_ then (if ¬ (isWell = 0 ∨ isWell = 1) then none else some (isWell, at_, isWell, rd, readMany)) else ((f_X11_takes text length at_ isWell 59 59).bind fun v37 => (if v37.2.2 = 0 then (f_X11_readsEntries_b14 n) text length v37.2.1 v37.2.2 rd readMany else ((f_X11_readsPart text length v37.2.1 v37.2.2 rd readMany).bind fun v49 => (f_X11_readsEntries_b14 n) text length v49.1 v49.2.1 v49.2.2.1 v49.2.2.2)))))
def f_X11_readsEntries (text : (Nat → Int32)) (length : Int32) (at_ : Int32) (isWell : Int32) (rd : (Nat → Int32)) (readMany : Int32) : Option (Int32 × Int32 × Int32 × (Nat → Int32) × Int32) :=
  ((f_X11_readsPart text length 0 isWell rd 0).bind fun v11 => f_X11_readsEntries_b14 xfuel text length v11.1 v11.2.1 v11.2.2.1 v11.2.2.2)
def f_X11_firstError (thrown : Int32) (text : (Nat → Int32)) (length : Int32) (at_ : Int32) (isWell : Int32) (rd : (Nat → Int32)) (readMany : Int32) : Option (Int32 × Int32 × Int32 × Int32 × (Nat → Int32) × Int32) :=
  ((f_X11_readsEntries text length at_ isWell rd readMany).bind fun v6 => (if v6.1 = 0 then (some (v6.2.1, 0, v6.2.1, v6.2.2.1, v6.2.2.2.1, v6.2.2.2.2)) else (some (length, 0, v6.2.1, v6.2.2.1, v6.2.2.2.1, v6.2.2.2.2))))
def f_X11_digitsOf_b5 : Nat → (Nat → Int32) → (Nat → Int32) → Int32 → Int32 → Int64 → Int32 → Option Int64
  | 0, _, _, _, _, _, _ => none
  | n + 1, ss, rd, x1, x2, x3, x5 =>
    (if x2 ≤ x5 then (some x3) else (if (x1 + x5) < 0 ∨ 512 ≤ (x1 + x5).toNatClampNeg then none else (f_X11_digitsOf_b5 n) ss rd x1 x2 ((x3 * ((ss (0 : Int32).toNatClampNeg).toInt64)) + ((rd (x1 + x5).toNatClampNeg).toInt64)) (x5 + 1)))
def f_X11_digitsOf (ss : (Nat → Int32)) (rd : (Nat → Int32)) (a1 : Int32) (a2 : Int32) : Option Int64 :=
  f_X11_digitsOf_b5 xfuel ss rd a1 a2 0 0
def f_X11_areBelow_b38 (k5 : (Nat → Int32) → (Nat → Int32) → Int32 → Int32 → Int32 → Int32 → Option Int32) (ss : (Nat → Int32)) (rd : (Nat → Int32)) (x1 : Int32) (x2 : Int32) (x4 : Int32) (t0 : Int32) : Option Int32 :=
  k5 ss rd x1 x2 t0 (x4 + 1)
def f_X11_areBelow_b37 (k5 : (Nat → Int32) → (Nat → Int32) → Int32 → Int32 → Int32 → Int32 → Option Int32) (ss : (Nat → Int32)) (rd : (Nat → Int32)) (x1 : Int32) (x2 : Int32) (x4 : Int32) : Option Int32 :=
  f_X11_areBelow_b38 k5 ss rd x1 x2 x4 0
def f_X11_areBelow_b5 : Nat → (Nat → Int32) → (Nat → Int32) → Int32 → Int32 → Int32 → Int32 → Option Int32
  | 0, _, _, _, _, _, _ => none
  | n + 1, ss, rd, x1, x2, x3, x4 =>
    (if x2 ≤ x4 then (if ¬ (x3 = 0 ∨ x3 = 1) then none else some x3) else (if x3 = 0 then f_X11_areBelow_b37 (f_X11_areBelow_b5 n) ss rd x1 x2 x4 else (if (x1 + x4) < 0 ∨ 512 ≤ (x1 + x4).toNatClampNeg then none else (if (ss (0 : Int32).toNatClampNeg) ≤ (rd (x1 + x4).toNatClampNeg) then f_X11_areBelow_b37 (f_X11_areBelow_b5 n) ss rd x1 x2 x4 else f_X11_areBelow_b38 (f_X11_areBelow_b5 n) ss rd x1 x2 x4 1))))
def f_X11_areBelow (ss : (Nat → Int32)) (rd : (Nat → Int32)) (a1 : Int32) (a2 : Int32) : Option Int32 :=
  f_X11_areBelow_b5 xfuel ss rd a1 a2 1 0
def f_X11_makesNumber_b107 (ss : (Nat → Int32)) (rd : (Nat → Int32)) (top : Int64) (bottom : Int64) (x1 : Int32) (x3 : Int32) (x4 : Int32) (x5 : Int64) (t0 : Int64) : Option (Int32 × Int64 × Int64) :=
  ((f_X11_digitsOf ss rd (x1 + 14) x3).bind fun v115 => ((f_X11_digitsOf ss rd (x1 + 18) x4).bind fun v128 => ((f_X11_power ss x3).bind fun v136 => ((f_X11_makes top bottom ((x5 * (v136.toInt64 * t0)) + ((v115 * t0) + v128)) (v136.toInt64 * t0)).bind fun v156 => (if v156.1 ≤ 0 then (some (0, v156.2.1, v156.2.2)) else (some (2, v156.2.1, v156.2.2)))))))
def f_X11_makesNumber (ss : (Nat → Int32)) (rd : (Nat → Int32)) (top : Int64) (bottom : Int64) (a1 : Int32) : Option (Int32 × Int64 × Int64) :=
  (if (a1 + 3) < 0 ∨ 512 ≤ (a1 + 3).toNatClampNeg then none else (if (a1 + 4) < 0 ∨ 512 ≤ (a1 + 4).toNatClampNeg then none else (if (a1 + 5) < 0 ∨ 512 ≤ (a1 + 5).toNatClampNeg then none else ((f_X11_areBelow ss rd (a1 + 6) (rd (a1 + 3).toNatClampNeg)).bind fun v34 => (if v34 = 0 then (some (1, top, bottom)) else ((f_X11_areBelow ss rd (a1 + 14) (rd (a1 + 4).toNatClampNeg)).bind fun v46 => (if v46 = 0 then (some (1, top, bottom)) else ((f_X11_areBelow ss rd (a1 + 18) (rd (a1 + 5).toNatClampNeg)).bind fun v59 => (if v59 = 0 then (some (1, top, bottom)) else ((f_X11_digitsOf ss rd (a1 + 6) (rd (a1 + 3).toNatClampNeg)).bind fun v73 => (if 999999999 < v73 then (some (2, top, bottom)) else (if (rd (a1 + 5).toNatClampNeg) = 0 then f_X11_makesNumber_b107 ss rd top bottom a1 (rd (a1 + 4).toNatClampNeg) (rd (a1 + 5).toNatClampNeg) v73 1 else ((f_X11_power ss (rd (a1 + 5).toNatClampNeg)).bind fun v101 => f_X11_makesNumber_b107 ss rd top bottom a1 (rd (a1 + 4).toNatClampNeg) (rd (a1 + 5).toNatClampNeg) v73 (v101.toInt64 - 1))))))))))))))
def f_X11_does_b133 (ss : (Nat → Int32)) (rd : (Nat → Int32)) (top : Int64) (bottom : Int64) (x2 : Int32) (x4 : Int32) : Option (Int32 × (Nat → Int32) × Int64 × Int64) :=
  (if x4 = 0 then ((f_X11_puts ss top bottom x2).bind fun v140 => (some (x4, v140, top, bottom))) else (some (x4, ss, top, bottom)))
def f_X11_does_b94 (ss : (Nat → Int32)) (rd : (Nat → Int32)) (top : Int64) (bottom : Int64) (x2 : Int32) (t0 : Int32) : Option (Int32 × (Nat → Int32) × Int64 × Int64) :=
  f_X11_does_b133 ss rd top bottom x2 t0
def f_X11_does_b131 (ss : (Nat → Int32)) (rd : (Nat → Int32)) (top : Int64) (bottom : Int64) (x2 : Int32) (t0 : Int32) : Option (Int32 × (Nat → Int32) × Int64 × Int64) :=
  f_X11_does_b133 ss rd top bottom x2 t0
def f_X11_does_b114 (ss : (Nat → Int32)) (rd : (Nat → Int32)) (top : Int64) (bottom : Int64) (x2 : Int32) (t0 : Int32) : Option (Int32 × (Nat → Int32) × Int64 × Int64) :=
  (if top < 0 then f_X11_does_b131 ss rd top bottom x2 3 else f_X11_does_b131 ss rd top bottom x2 t0)
def f_X11_does (ss : (Nat → Int32)) (rd : (Nat → Int32)) (top : Int64) (bottom : Int64) (a1 : Int32) : Option (Int32 × (Nat → Int32) × Int64 × Int64) :=
  (if a1 < 0 ∨ 512 ≤ a1.toNatClampNeg then none else (if (a1 + 2) < 0 ∨ 512 ≤ (a1 + 2).toNatClampNeg then none else (if (a1 + 1) < 0 ∨ 512 ≤ (a1 + 1).toNatClampNeg then none else (if (rd (a1 + 1).toNatClampNeg) = 43 then ((f_X11_makesSum ss top bottom (rd a1.toNatClampNeg) (rd (a1 + 2).toNatClampNeg) 1).bind fun v83 => (if v83.1 ≤ 0 then f_X11_does_b94 ss rd v83.2.1 v83.2.2 (rd a1.toNatClampNeg) 0 else f_X11_does_b94 ss rd v83.2.1 v83.2.2 (rd a1.toNatClampNeg) 2)) else (if (rd (a1 + 1).toNatClampNeg) = 61 then ((f_X11_makesNumber ss rd top bottom a1).bind fun v71 => f_X11_does_b133 ss rd v71.2.1 v71.2.2 (rd a1.toNatClampNeg) v71.1) else (if (rd (a1 + 1).toNatClampNeg) = 98 then (some (0, (upd ss (0 : Int32).toNatClampNeg (rd (a1 + 2).toNatClampNeg)), top, bottom)) else ((f_X11_makesSum ss top bottom (rd a1.toNatClampNeg) (rd (a1 + 2).toNatClampNeg) (-1)).bind fun v103 => (if v103.1 ≤ 0 then f_X11_does_b114 ss rd v103.2.1 v103.2.2 (rd a1.toNatClampNeg) 0 else f_X11_does_b114 ss rd v103.2.1 v103.2.2 (rd a1.toNatClampNeg) 2))))))))
def f_X11_enter_b81 (thrown : Int32) (ss : (Nat → Int32)) (states : (Nat → Int32)) (stateMany : Int32) (text : (Nat → Int32)) (length : Int32) (at_ : Int32) (isWell : Int32) (rd : (Nat → Int32)) (readMany : Int32) (top : Int64) (bottom : Int64) (x1 : Int32) (x2 : Int32) (t0 : Int32) (t1 : Int32) : Option (Int32 × Int32 × (Nat → Int32) × (Nat → Int32) × Int32 × Int32 × Int32 × Int32 × (Nat → Int32) × Int32 × Int64 × Int64) :=
  (if t1 < 0 ∨ 15 ≤ t1.toNatClampNeg then none else (some (x1, thrown, (upd (upd ss t1.toNatClampNeg t0) (2 : Int32).toNatClampNeg x2), states, stateMany, length, at_, isWell, rd, readMany, top, bottom)))
def f_X11_enter_b67 (thrown : Int32) (ss : (Nat → Int32)) (states : (Nat → Int32)) (stateMany : Int32) (text : (Nat → Int32)) (length : Int32) (at_ : Int32) (isWell : Int32) (rd : (Nat → Int32)) (readMany : Int32) (top : Int64) (bottom : Int64) (x1 : Int32) (x2 : Int32) : Option (Int32 × Int32 × (Nat → Int32) × (Nat → Int32) × Int32 × Int32 × Int32 × Int32 × (Nat → Int32) × Int32 × Int64 × Int64) :=
  (if x2 = 0 then f_X11_enter_b81 thrown ss states stateMany text length at_ isWell rd readMany top bottom x1 x2 (-1) 1 else f_X11_enter_b81 thrown ss states stateMany text length at_ isWell rd readMany top bottom x1 x2 x1 1)
def f_X11_enter_b62 (k31 : Int32 → (Nat → Int32) → (Nat → Int32) → Int32 → (Nat → Int32) → Int32 → Int32 → Int32 → (Nat → Int32) → Int32 → Int64 → Int64 → Int32 → Int32 → Option (Int32 × Int32 × (Nat → Int32) × (Nat → Int32) × Int32 × Int32 × Int32 × Int32 × (Nat → Int32) × Int32 × Int64 × Int64)) (thrown : Int32) (ss : (Nat → Int32)) (states : (Nat → Int32)) (stateMany : Int32) (text : (Nat → Int32)) (length : Int32) (at_ : Int32) (isWell : Int32) (rd : (Nat → Int32)) (readMany : Int32) (top : Int64) (bottom : Int64) (x2 : Int32) (t0 : Int32) (t1 : Int32) : Option (Int32 × Int32 × (Nat → Int32) × (Nat → Int32) × Int32 × Int32 × Int32 × Int32 × (Nat → Int32) × Int32 × Int64 × Int64) :=
  k31 thrown ss states stateMany text length at_ isWell rd readMany top bottom (t1 + t0) x2
def f_X11_enter_b31 : Nat → Int32 → (Nat → Int32) → (Nat → Int32) → Int32 → (Nat → Int32) → Int32 → Int32 → Int32 → (Nat → Int32) → Int32 → Int64 → Int64 → Int32 → Int32 → Option (Int32 × Int32 × (Nat → Int32) × (Nat → Int32) × Int32 × Int32 × Int32 × Int32 × (Nat → Int32) × Int32 × Int64 × Int64)
  | 0, _, _, _, _, _, _, _, _, _, _, _, _, _, _ => none
  | n + 1, thrown, ss, states, stateMany, text, length, at_, isWell, rd, readMany, top, bottom, x1, x2 =>
    (if readMany ≤ x1 then f_X11_enter_b67 thrown ss states stateMany text length at_ isWell rd readMany top bottom x1 x2 else (if x2 = 0 then ((f_X11_does ss rd top bottom (24 * x1)).bind fun v48 => (if v48.1 = 0 then f_X11_enter_b62 (f_X11_enter_b31 n) thrown v48.2.1 states stateMany text length at_ isWell rd readMany v48.2.2.1 v48.2.2.2 v48.1 1 x1 else f_X11_enter_b62 (f_X11_enter_b31 n) thrown v48.2.1 states stateMany text length at_ isWell rd readMany v48.2.2.1 v48.2.2.2 v48.1 0 x1)) else f_X11_enter_b67 thrown ss states stateMany text length at_ isWell rd readMany top bottom x1 x2))
def f_X11_enter (thrown : Int32) (ss : (Nat → Int32)) (states : (Nat → Int32)) (stateMany : Int32) (text : (Nat → Int32)) (length : Int32) (at_ : Int32) (isWell : Int32) (rd : (Nat → Int32)) (readMany : Int32) (top : Int64) (bottom : Int64) : Option (Int32 × Int32 × (Nat → Int32) × (Nat → Int32) × Int32 × Int32 × Int32 × Int32 × (Nat → Int32) × Int32 × Int64 × Int64) :=
  ((f_X11_readsEntries text length at_ isWell rd readMany).bind fun v6 => (if v6.1 = 0 then ((f_X11_fails 0 1).bind fun v14 => (some (v14.1, v14.2, ss, states, stateMany, length, v6.2.1, v6.2.2.1, v6.2.2.2.1, v6.2.2.2.2, top, bottom))) else ((f_X11_records ss states stateMany).bind fun v19 => f_X11_enter_b31 xfuel 0 ss v19.1 v19.2 text 0 v6.2.1 v6.2.2.1 v6.2.2.2.1 v6.2.2.2.2 top bottom 0 0)))
def f_X11_hasStopped (thrown : Int32) (ss : (Nat → Int32)) : Option (Int32 × Int32) :=
  (if (ss (1 : Int32).toNatClampNeg) = (-1) then (some (0, 0)) else (some (1, 0)))
def f_X11_stoppedPart (thrown : Int32) (ss : (Nat → Int32)) : Option (Int32 × Int32) :=
  (if (ss (1 : Int32).toNatClampNeg) = (-1) then ((f_X11_fails 0 1).bind fun v17 => (some (v17.1, v17.2))) else (some (ss (1 : Int32).toNatClampNeg, 0)))
def f_X11_whyStopped (thrown : Int32) (ss : (Nat → Int32)) : Option (Int32 × Int32) :=
  (if (ss (1 : Int32).toNatClampNeg) = (-1) then ((f_X11_fails 0 1).bind fun v17 => (some (v17.1, v17.2))) else (some (ss (2 : Int32).toNatClampNeg, 0)))
def f_X11_undo_b30 : Nat → Int32 → (Nat → Int32) → (Nat → Int32) → Int32 → Int32 → Option (Int32 × Int32 × (Nat → Int32) × Int32)
  | 0, _, _, _, _, _ => none
  | n + 1, thrown, ss, states, stateMany, x1 =>
    (if 15 ≤ x1 then (some (stateMany, thrown, ss, stateMany)) else (if ((15 * stateMany) + x1) < 0 ∨ 90 ≤ ((15 * stateMany) + x1).toNatClampNeg then none else (if x1 < 0 ∨ 15 ≤ x1.toNatClampNeg then none else (f_X11_undo_b30 n) thrown (upd ss x1.toNatClampNeg (states ((15 * stateMany) + x1).toNatClampNeg)) states stateMany (x1 + 1))))
def f_X11_undo (thrown : Int32) (ss : (Nat → Int32)) (states : (Nat → Int32)) (stateMany : Int32) : Option (Int32 × Int32 × (Nat → Int32) × Int32) :=
  (if stateMany = 0 then ((f_X11_fails 0 1).bind fun v14 => (some (v14.1, v14.2, ss, stateMany))) else f_X11_undo_b30 xfuel 0 ss states (stateMany - 1) 0)
def f_X11_keep_b7 : Nat → Int32 → (Nat → Int32) → (Nat → Int32) → Int32 → Int32 → Option (Int32 × Int32 × (Nat → Int32) × Int32)
  | 0, _, _, _, _, _ => none
  | n + 1, thrown, ss, snapshot, hasSnapshot, x1 =>
    (if 15 ≤ x1 then (some (ss (0 : Int32).toNatClampNeg, thrown, snapshot, 1)) else (if x1 < 0 ∨ 15 ≤ x1.toNatClampNeg then none else (if x1 < 0 ∨ 15 ≤ x1.toNatClampNeg then none else (f_X11_keep_b7 n) thrown ss (upd snapshot x1.toNatClampNeg (ss x1.toNatClampNeg)) hasSnapshot (x1 + 1))))
def f_X11_keep (thrown : Int32) (ss : (Nat → Int32)) (snapshot : (Nat → Int32)) (hasSnapshot : Int32) : Option (Int32 × Int32 × (Nat → Int32) × Int32) :=
  f_X11_keep_b7 xfuel 0 ss snapshot hasSnapshot 0
def f_X11_restore_b24 : Nat → Int32 → (Nat → Int32) → (Nat → Int32) → Int32 → (Nat → Int32) → Int32 → Int32 → Option (Int32 × Int32 × (Nat → Int32) × (Nat → Int32) × Int32)
  | 0, _, _, _, _, _, _, _ => none
  | n + 1, thrown, ss, states, stateMany, snapshot, hasSnapshot, x1 =>
    (if 15 ≤ x1 then (some (ss (0 : Int32).toNatClampNeg, thrown, ss, states, stateMany)) else (if x1 < 0 ∨ 15 ≤ x1.toNatClampNeg then none else (if x1 < 0 ∨ 15 ≤ x1.toNatClampNeg then none else (f_X11_restore_b24 n) thrown (upd ss x1.toNatClampNeg (snapshot x1.toNatClampNeg)) states stateMany snapshot hasSnapshot (x1 + 1))))
def f_X11_restore (thrown : Int32) (ss : (Nat → Int32)) (states : (Nat → Int32)) (stateMany : Int32) (snapshot : (Nat → Int32)) (hasSnapshot : Int32) : Option (Int32 × Int32 × (Nat → Int32) × (Nat → Int32) × Int32) :=
  (if hasSnapshot = 0 then ((f_X11_fails 0 1).bind fun v14 => (some (v14.1, v14.2, ss, states, stateMany))) else ((f_X11_records ss states stateMany).bind fun v19 => f_X11_restore_b24 xfuel 0 ss v19.1 v19.2 snapshot hasSnapshot 0))
def f_X11_savedStates (thrown : Int32) (stateMany : Int32) : Option (Int32 × Int32) :=
  (some (stateMany, 0))
def f_X11_base (thrown : Int32) (ss : (Nat → Int32)) : Option (Int32 × Int32) :=
  (some (ss (0 : Int32).toNatClampNeg, 0))
def f_X11_numerator (thrown : Int32) (ss : (Nat → Int32)) (a1 : Int32) : Option (Int32 × Int32) :=
  ((f_X11_isAccount a1).bind fun v6 => (if v6 = 0 then ((f_X11_fails 0 1).bind fun v22 => (some (v22.1, v22.2))) else ((f_X11_up ss a1).bind fun v14 => (some (v14, 0)))))
def f_X11_denominator (thrown : Int32) (ss : (Nat → Int32)) (a1 : Int32) : Option (Int32 × Int32) :=
  ((f_X11_isAccount a1).bind fun v6 => (if v6 = 0 then ((f_X11_fails 0 1).bind fun v22 => (some (v22.1, v22.2))) else ((f_X11_down ss a1).bind fun v14 => (some (v14, 0)))))
def f_X11_whole (thrown : Int32) (ss : (Nat → Int32)) (a1 : Int32) : Option (Int32 × Int32) :=
  ((f_X11_isAccount a1).bind fun v6 => (if v6 = 0 then ((f_X11_fails 0 1).bind fun v22 => (some (v22.1, v22.2))) else ((f_X11_wholeOf ss a1).bind fun v14 => (some (v14, 0)))))
def f_X11_compare (thrown : Int32) (ss : (Nat → Int32)) (a1 : Int32) (a2 : Int32) : Option (Int32 × Int32) :=
  ((f_X11_areAccounts a1 a2).bind fun v7 => (if v7 = 0 then ((f_X11_fails 0 1).bind fun v24 => (some (v24.1, v24.2))) else ((f_X11_holds ss a1 a2).bind fun v16 => (some (v16, 0)))))
def f_X11_richest (thrown : Int32) (ss : (Nat → Int32)) : Option (Int32 × Int32) :=
  ((f_X11_greatest ss).bind fun v6 => (some (v6, 0)))
def f_X11_hasDigits_b28 (thrown : Int32) (ss : (Nat → Int32)) (digit : (Nat → Int32)) (digitMany : Int32) : Option (Int32 × Int32 × (Nat → Int32) × Int32) :=
  (if thrown = 0 then (some (1, thrown, digit, digitMany)) else (some (0, thrown, digit, digitMany)))
def f_X11_hasDigits_b13 (thrown : Int32) (ss : (Nat → Int32)) (digit : (Nat → Int32)) (digitMany : Int32) (x1 : Int32) (t0 : Int32) : Option (Int32 × Int32 × (Nat → Int32) × Int32) :=
  (if t0 = 0 then ((f_X11_tellsDigits ss digit digitMany x1).bind fun v25 => f_X11_hasDigits_b28 t0 ss v25.1 v25.2) else f_X11_hasDigits_b28 t0 ss digit digitMany)
def f_X11_hasDigits (thrown : Int32) (ss : (Nat → Int32)) (digit : (Nat → Int32)) (digitMany : Int32) (a1 : Int32) : Option (Int32 × Int32 × (Nat → Int32) × Int32) :=
  ((f_X11_isAccount a1).bind fun v2 => (if v2 = 0 then f_X11_hasDigits_b13 thrown ss digit digitMany a1 1 else f_X11_hasDigits_b13 thrown ss digit digitMany a1 0))
def f_X11_wholeDigits (thrown : Int32) (ss : (Nat → Int32)) (digit : (Nat → Int32)) (digitMany : Int32) (a1 : Int32) : Option (Int32 × Int32 × (Nat → Int32) × Int32) :=
  ((f_X11_hasDigits thrown ss digit digitMany a1).bind fun v2 => (if v2.1 = 0 then (some (0, v2.2.1, v2.2.2.1, v2.2.2.2)) else (some (v2.2.2.2, v2.2.1, v2.2.2.1, v2.2.2.2))))
def f_X11_tellsDigit (thrown : Int32) (ss : (Nat → Int32)) (digit : (Nat → Int32)) (digitMany : Int32) (a1 : Int32) (a2 : Int32) : Option (Int32 × Int32 × (Nat → Int32) × Int32) :=
  ((f_X11_hasDigits thrown ss digit digitMany a1).bind fun v2 => (if v2.1 = 0 then (some (0, v2.2.1, v2.2.2.1, v2.2.2.2)) else ((f_X11_in a2 0 (v2.2.2.2 - 1)).bind fun v18 => (if v18 = 0 then ((f_X11_fails v2.2.1 1).bind fun v35 => (some (v35.1, v35.2, v2.2.2.1, v2.2.2.2))) else (if a2 < 0 ∨ 40 ≤ a2.toNatClampNeg then none else (some (v2.2.2.1 a2.toNatClampNeg, v2.2.1, v2.2.2.1, v2.2.2.2)))))))
def f_X11_wholeDigit (thrown : Int32) (ss : (Nat → Int32)) (digit : (Nat → Int32)) (digitMany : Int32) (a1 : Int32) (a2 : Int32) : Option (Int32 × Int32 × (Nat → Int32) × Int32) :=
  ((f_X11_tellsDigit thrown ss digit digitMany a1 a2).bind fun v3 => (some (v3.1, v3.2.1, v3.2.2.1, v3.2.2.2)))
def f_X11_wholeDigitByPowers (thrown : Int32) (ss : (Nat → Int32)) (digit : (Nat → Int32)) (digitMany : Int32) (a1 : Int32) (a2 : Int32) : Option (Int32 × Int32 × (Nat → Int32) × Int32) :=
  ((f_X11_tellsDigit thrown ss digit digitMany a1 a2).bind fun v3 => (some (v3.1, v3.2.1, v3.2.2.1, v3.2.2.2)))
def f_X11_digitSum (thrown : Int32) (ss : (Nat → Int32)) (digit : (Nat → Int32)) (digitMany : Int32) (a1 : Int32) : Option (Int32 × Int32 × (Nat → Int32) × Int32) :=
  ((f_X11_isAccount a1).bind fun v6 => (if v6 = 0 then ((f_X11_fails 0 1).bind fun v22 => (some (v22.1, v22.2, digit, digitMany))) else ((f_X11_sumOf ss digit digitMany a1).bind fun v14 => (some (v14.1, 0, v14.2.1, v14.2.2)))))
def f_X11_left (thrown : Int32) (ss : (Nat → Int32)) (a1 : Int32) : Option (Int32 × Int32) :=
  ((f_X11_isAccount a1).bind fun v6 => (if v6 = 0 then ((f_X11_fails 0 1).bind fun v31 => (some (v31.1, v31.2))) else ((f_X11_wholeOf ss a1).bind fun v14 => (if (ss (0 : Int32).toNatClampNeg) - 1 = 0 then none else (some (v14 - v14 / ((ss (0 : Int32).toNatClampNeg) - 1) * ((ss (0 : Int32).toNatClampNeg) - 1), 0))))))
def f_X11_leftByDigits (thrown : Int32) (ss : (Nat → Int32)) (a1 : Int32) : Option (Int32 × Int32) :=
  ((f_X11_left thrown ss a1).bind fun v2 => (some (v2.1, v2.2)))
def f_X11_leftByDividing (thrown : Int32) (ss : (Nat → Int32)) (a1 : Int32) : Option (Int32 × Int32) :=
  ((f_X11_left thrown ss a1).bind fun v2 => (some (v2.1, v2.2)))
def f_X11_headLength (thrown : Int32) (ss : (Nat → Int32)) (a1 : Int32) : Option (Int32 × Int32) :=
  ((f_X11_isAccount a1).bind fun v6 => (if v6 = 0 then ((f_X11_fails 0 1).bind fun v31 => (some (v31.1, v31.2))) else ((f_X11_down ss a1).bind fun v14 => ((f_X11_headOf v14 (ss (0 : Int32).toNatClampNeg)).bind fun v23 => (some (v23, 0))))))
def f_X11_tellsPeriod (thrown : Int32) (ss : (Nat → Int32)) (a1 : Int32) : Option (Int32 × Int32) :=
  ((f_X11_isAccount a1).bind fun v6 => (if v6 = 0 then ((f_X11_fails 0 1).bind fun v31 => (some (v31.1, v31.2))) else ((f_X11_down ss a1).bind fun v14 => ((f_X11_periodOf v14 (ss (0 : Int32).toNatClampNeg)).bind fun v23 => (some (v23, 0))))))
def f_X11_periodLength (thrown : Int32) (ss : (Nat → Int32)) (a1 : Int32) : Option (Int32 × Int32) :=
  ((f_X11_tellsPeriod thrown ss a1).bind fun v2 => (some (v2.1, v2.2)))
def f_X11_periodByOrder (thrown : Int32) (ss : (Nat → Int32)) (a1 : Int32) : Option (Int32 × Int32) :=
  ((f_X11_tellsPeriod thrown ss a1).bind fun v2 => (some (v2.1, v2.2)))
def f_X11_digitBehind (thrown : Int32) (ss : (Nat → Int32)) (a1 : Int32) (a2 : Int32) : Option (Int32 × Int32) :=
  ((f_X11_isAccount a1).bind fun v6 => (if v6 = 0 then ((f_X11_fails 0 1).bind fun v14 => (some (v14.1, v14.2))) else ((f_X11_in a2 0 2000).bind fun v23 => (if v23 = 0 then ((f_X11_fails 0 2).bind fun v40 => (some (v40.1, v40.2))) else ((f_X11_digitAfter ss a1 a2).bind fun v32 => (some (v32, 0)))))))
def f_X11_shortestBase (thrown : Int32) (ss : (Nat → Int32)) (a1 : Int32) : Option (Int32 × Int32) :=
  ((f_X11_isAccount a1).bind fun v6 => (if v6 = 0 then ((f_X11_fails 0 1).bind fun v22 => (some (v22.1, v22.2))) else ((f_X11_bestBase ss a1).bind fun v14 => (some (v14, 0)))))
def f_X11_writtenLength (thrown : Int32) (ss : (Nat → Int32)) (digit : (Nat → Int32)) (digitMany : Int32) (a1 : Int32) : Option (Int32 × Int32 × (Nat → Int32) × Int32) :=
  ((f_X11_isAccount a1).bind fun v6 => (if v6 = 0 then ((f_X11_fails 0 1).bind fun v22 => (some (v22.1, v22.2, digit, digitMany))) else ((f_X11_writtenMany ss digit digitMany a1).bind fun v14 => (some (v14.1, 0, v14.2.1, v14.2.2)))))
def f_X11_writtenAt_b36 (thrown : Int32) (ss : (Nat → Int32)) (digit : (Nat → Int32)) (digitMany : Int32) : Option (Int32 × Int32 × (Nat → Int32) × Int32) :=
  ((f_X11_fails thrown 1).bind fun v38 => (some (v38.1, v38.2, digit, digitMany)))
def f_X11_writtenAt (thrown : Int32) (ss : (Nat → Int32)) (digit : (Nat → Int32)) (digitMany : Int32) (a1 : Int32) (a2 : Int32) : Option (Int32 × Int32 × (Nat → Int32) × Int32) :=
  ((f_X11_isAccount a1).bind fun v6 => (if v6 = 0 then f_X11_writtenAt_b36 0 ss digit digitMany else ((f_X11_writtenMany ss digit digitMany a1).bind fun v16 => ((f_X11_in a2 0 (v16.1 - 1)).bind fun v21 => (if v21 = 0 then f_X11_writtenAt_b36 0 ss v16.2.1 v16.2.2 else ((f_X11_writes ss v16.2.1 v16.2.2 a1 a2).bind fun v30 => (some (v30.1, 0, v30.2.1, v30.2.2))))))))
def f_X11_hasColumns_b30 (thrown : Int32) (ss : (Nat → Int32)) (digit : (Nat → Int32)) (digitMany : Int32) (other : (Nat → Int32)) (otherMany : Int32) (column : (Nat → Int32)) (columnMany : Int32) (carryMany : Int32) (chainMost : Int32) : Option (Int32 × Int32 × (Nat → Int32) × Int32 × (Nat → Int32) × Int32 × (Nat → Int32) × Int32 × Int32 × Int32) :=
  (if thrown = 0 then (some (1, thrown, digit, digitMany, other, otherMany, column, columnMany, carryMany, chainMost)) else (some (0, thrown, digit, digitMany, other, otherMany, column, columnMany, carryMany, chainMost)))
def f_X11_hasColumns_b14 (thrown : Int32) (ss : (Nat → Int32)) (digit : (Nat → Int32)) (digitMany : Int32) (other : (Nat → Int32)) (otherMany : Int32) (column : (Nat → Int32)) (columnMany : Int32) (carryMany : Int32) (chainMost : Int32) (x1 : Int32) (x2 : Int32) (t0 : Int32) : Option (Int32 × Int32 × (Nat → Int32) × Int32 × (Nat → Int32) × Int32 × (Nat → Int32) × Int32 × Int32 × Int32) :=
  (if t0 = 0 then ((f_X11_tellsColumns ss digit digitMany other otherMany column columnMany carryMany chainMost x1 x2).bind fun v27 => f_X11_hasColumns_b30 t0 ss v27.1 v27.2.1 v27.2.2.1 v27.2.2.2.1 v27.2.2.2.2.1 v27.2.2.2.2.2.1 v27.2.2.2.2.2.2.1 v27.2.2.2.2.2.2.2) else f_X11_hasColumns_b30 t0 ss digit digitMany other otherMany column columnMany carryMany chainMost)
def f_X11_hasColumns (thrown : Int32) (ss : (Nat → Int32)) (digit : (Nat → Int32)) (digitMany : Int32) (other : (Nat → Int32)) (otherMany : Int32) (column : (Nat → Int32)) (columnMany : Int32) (carryMany : Int32) (chainMost : Int32) (a1 : Int32) (a2 : Int32) : Option (Int32 × Int32 × (Nat → Int32) × Int32 × (Nat → Int32) × Int32 × (Nat → Int32) × Int32 × Int32 × Int32) :=
  ((f_X11_areAccounts a1 a2).bind fun v3 => (if v3 = 0 then f_X11_hasColumns_b14 thrown ss digit digitMany other otherMany column columnMany carryMany chainMost a1 a2 1 else f_X11_hasColumns_b14 thrown ss digit digitMany other otherMany column columnMany carryMany chainMost a1 a2 0))
def f_X11_carries (thrown : Int32) (ss : (Nat → Int32)) (digit : (Nat → Int32)) (digitMany : Int32) (other : (Nat → Int32)) (otherMany : Int32) (column : (Nat → Int32)) (columnMany : Int32) (carryMany : Int32) (chainMost : Int32) (a1 : Int32) (a2 : Int32) : Option (Int32 × Int32 × (Nat → Int32) × Int32 × (Nat → Int32) × Int32 × (Nat → Int32) × Int32 × Int32 × Int32) :=
  ((f_X11_hasColumns thrown ss digit digitMany other otherMany column columnMany carryMany chainMost a1 a2).bind fun v3 => (if v3.1 = 0 then (some (0, v3.2.1, v3.2.2.1, v3.2.2.2.1, v3.2.2.2.2.1, v3.2.2.2.2.2.1, v3.2.2.2.2.2.2.1, v3.2.2.2.2.2.2.2.1, v3.2.2.2.2.2.2.2.2.1, v3.2.2.2.2.2.2.2.2.2)) else (some (v3.2.2.2.2.2.2.2.2.1, v3.2.1, v3.2.2.1, v3.2.2.2.1, v3.2.2.2.2.1, v3.2.2.2.2.2.1, v3.2.2.2.2.2.2.1, v3.2.2.2.2.2.2.2.1, v3.2.2.2.2.2.2.2.2.1, v3.2.2.2.2.2.2.2.2.2))))
def f_X11_longestChain (thrown : Int32) (ss : (Nat → Int32)) (digit : (Nat → Int32)) (digitMany : Int32) (other : (Nat → Int32)) (otherMany : Int32) (column : (Nat → Int32)) (columnMany : Int32) (carryMany : Int32) (chainMost : Int32) (a1 : Int32) (a2 : Int32) : Option (Int32 × Int32 × (Nat → Int32) × Int32 × (Nat → Int32) × Int32 × (Nat → Int32) × Int32 × Int32 × Int32) :=
  ((f_X11_hasColumns thrown ss digit digitMany other otherMany column columnMany carryMany chainMost a1 a2).bind fun v3 => (if v3.1 = 0 then (some (0, v3.2.1, v3.2.2.1, v3.2.2.2.1, v3.2.2.2.2.1, v3.2.2.2.2.2.1, v3.2.2.2.2.2.2.1, v3.2.2.2.2.2.2.2.1, v3.2.2.2.2.2.2.2.2.1, v3.2.2.2.2.2.2.2.2.2)) else (some (v3.2.2.2.2.2.2.2.2.2, v3.2.1, v3.2.2.1, v3.2.2.2.1, v3.2.2.2.2.1, v3.2.2.2.2.2.1, v3.2.2.2.2.2.2.1, v3.2.2.2.2.2.2.2.1, v3.2.2.2.2.2.2.2.2.1, v3.2.2.2.2.2.2.2.2.2))))
def f_X11_sumDigit (thrown : Int32) (ss : (Nat → Int32)) (digit : (Nat → Int32)) (digitMany : Int32) (other : (Nat → Int32)) (otherMany : Int32) (column : (Nat → Int32)) (columnMany : Int32) (carryMany : Int32) (chainMost : Int32) (a1 : Int32) (a2 : Int32) (a3 : Int32) : Option (Int32 × Int32 × (Nat → Int32) × Int32 × (Nat → Int32) × Int32 × (Nat → Int32) × Int32 × Int32 × Int32) :=
  ((f_X11_hasColumns thrown ss digit digitMany other otherMany column columnMany carryMany chainMost a1 a2).bind fun v3 => (if v3.1 = 0 then (some (0, v3.2.1, v3.2.2.1, v3.2.2.2.1, v3.2.2.2.2.1, v3.2.2.2.2.2.1, v3.2.2.2.2.2.2.1, v3.2.2.2.2.2.2.2.1, v3.2.2.2.2.2.2.2.2.1, v3.2.2.2.2.2.2.2.2.2)) else ((f_X11_in a3 0 (v3.2.2.2.2.2.2.2.1 - 1)).bind fun v19 => (if v19 = 0 then ((f_X11_fails v3.2.1 1).bind fun v36 => (some (v36.1, v36.2, v3.2.2.1, v3.2.2.2.1, v3.2.2.2.2.1, v3.2.2.2.2.2.1, v3.2.2.2.2.2.2.1, v3.2.2.2.2.2.2.2.1, v3.2.2.2.2.2.2.2.2.1, v3.2.2.2.2.2.2.2.2.2))) else (if a3 < 0 ∨ 41 ≤ a3.toNatClampNeg then none else (some (v3.2.2.2.2.2.2.1 a3.toNatClampNeg, v3.2.1, v3.2.2.1, v3.2.2.2.1, v3.2.2.2.2.1, v3.2.2.2.2.2.1, v3.2.2.2.2.2.2.1, v3.2.2.2.2.2.2.2.1, v3.2.2.2.2.2.2.2.2.1, v3.2.2.2.2.2.2.2.2.2)))))))
def f_X11_sumByColumns (thrown : Int32) (ss : (Nat → Int32)) (a1 : Int32) (a2 : Int32) : Option (Int64 × Int32) :=
  ((f_X11_areAccounts a1 a2).bind fun v7 => (if v7 = 0 then ((f_X11_fails 0 1).bind fun v31 => (some (v31.1.toInt64, v31.2))) else ((f_X11_wholeOf ss a1).bind fun v15 => ((f_X11_wholeOf ss a2).bind fun v21 => (some (v15.toInt64 + v21.toInt64, 0))))))
def f_X11_readIn (thrown : Int32) (ss : (Nat → Int32)) (digit : (Nat → Int32)) (digitMany : Int32) (a1 : Int32) (a2 : Int32) : Option (Int64 × Int32 × (Nat → Int32) × Int32) :=
  ((f_X11_isAccount a1).bind fun v6 => (if v6 = 0 then ((f_X11_fails 0 1).bind fun v14 => (some (v14.1.toInt64, v14.2, digit, digitMany))) else ((f_X11_isBase a2).bind fun v20 => (if v20 = 0 then ((f_X11_fails 0 2).bind fun v37 => (some (v37.1.toInt64, v37.2, digit, digitMany))) else ((f_X11_reads16 ss digit digitMany a1 a2).bind fun v29 => (some (v29.1, 0, v29.2.1, v29.2.2)))))))
def f_X11_whyNoSum (thrown : Int32) (ss : (Nat → Int32)) (top : Int64) (bottom : Int64) (a1 : Int32) (a2 : Int32) : Option (Int32 × Int32 × Int64 × Int64) :=
  ((f_X11_areAccounts a1 a2).bind fun v7 => (if v7 = 0 then ((f_X11_fails 0 1).bind fun v25 => (some (v25.1, v25.2, top, bottom))) else ((f_X11_makesSum ss top bottom a1 a2 1).bind fun v17 => (some (v17.1, 0, v17.2.1, v17.2.2)))))
def f_X11_periodOfSum (thrown : Int32) (ss : (Nat → Int32)) (top : Int64) (bottom : Int64) (a1 : Int32) (a2 : Int32) : Option (Int32 × Int32 × Int64 × Int64) :=
  ((f_X11_areAccounts a1 a2).bind fun v7 => (if v7 = 0 then ((f_X11_fails 0 1).bind fun v24 => (some (v24.1, v24.2, top, bottom))) else ((f_X11_sumPeriod ss top bottom a1 a2).bind fun v16 => (some (v16.1, 0, v16.2.1, v16.2.2)))))
def f_X11_value (ss : (Nat → Int32)) (a1 : Int32) : Option UInt64 :=
  ((f_X11_up ss a1).bind fun v2 => ((f_X11_down ss a1).bind fun v8 => (if ¬ ((FP.ddiv (FP.i2d v2) (FP.i2d v8)) &&& 0x7fffffffffffffff ≤ 0x7ff0000000000000) then none else (some (FP.ddiv (FP.i2d v2) (FP.i2d v8))))))
def f_X11_share_b5 : Nat → (Nat → Int32) → Int32 → UInt64 → Int32 → Option UInt64
  | 0, _, _, _, _ => none
  | n + 1, ss, x1, x2, x4 =>
    (if 6 ≤ x4 then (if (Op.cmpValue (FP.dcmp x2 FP.dconst0) CmpOp.l) = 0 then (some FP.dconst0) else ((f_X11_value ss x1).bind fun v39 => (if ¬ ((FP.ddiv v39 x2) &&& 0x7fffffffffffffff ≤ 0x7ff0000000000000) then none else (some (FP.ddiv v39 x2))))) else ((f_X11_value ss x4).bind fun v16 => (if ¬ ((FP.dadd x2 v16) &&& 0x7fffffffffffffff ≤ 0x7ff0000000000000) then none else (f_X11_share_b5 n) ss x1 (FP.dadd x2 v16) (x4 + 1))))
def f_X11_share (ss : (Nat → Int32)) (a1 : Int32) : Option UInt64 :=
  f_X11_share_b5 xfuel ss a1 FP.dconst0 0
def f_X11_shareOf (thrown : Int32) (ss : (Nat → Int32)) (a1 : Int32) : Option (UInt64 × Int32) :=
  ((f_X11_isAccount a1).bind fun v6 => (if v6 = 0 then ((f_X11_fails 0 1).bind fun v22 => (some (FP.i2d v22.1, v22.2))) else ((f_X11_share ss a1).bind fun v14 => (some (v14, 0)))))
def f_X11_digestAccount_b209 : Nat → (Nat → Int32) → (Nat → Int32) → Int32 → Int32 → Int64 → Int32 → Option (Int64 × (Nat → Int32) × Int32)
  | 0, _, _, _, _, _, _ => none
  | n + 1, ss, digit, digitMany, x3, x4, x8 =>
    (if 10 ≤ x8 then ((f_X11_bestBase ss x3).bind fun v250 => ((f_X11_reads16 ss digit digitMany x3 16).bind fun v260 => ((f_X11_writtenMany ss v260.2.1 v260.2.2 x3).bind fun v277 => ((f_X11_writtenMany ss v277.2.1 v277.2.2 x3).bind fun v287 => ((f_X11_writes ss v287.2.1 v287.2.2 x3 (v287.1 - 1)).bind fun v292 => (some ((31 * ((31 * ((31 * ((31 * x4) + v250.toInt64)) + v260.1)) + v277.1.toInt64)) + v292.1.toInt64, v292.2.1, v292.2.2))))))) else ((f_X11_digitAfter ss x3 x8).bind fun v226 => (f_X11_digestAccount_b209 n) ss digit digitMany x3 ((31 * x4) + v226.toInt64) (x8 + 1)))
def f_X11_digestAccount_b58 : Nat → (Nat → Int32) → (Nat → Int32) → Int32 → Int32 → Int64 → Int32 → Option (Int64 × (Nat → Int32) × Int32)
  | 0, _, _, _, _, _, _ => none
  | n + 1, ss, digit, digitMany, x3, x4, x6 =>
    (if digitMany ≤ x6 then ((f_X11_wholeOf ss x3).bind fun v105 => (if (ss (0 : Int32).toNatClampNeg) - 1 = 0 then none else ((f_X11_down ss x3).bind fun v121 => ((f_X11_periodOf v121 (ss (0 : Int32).toNatClampNeg)).bind fun v130 => ((f_X11_sumOf ss digit digitMany x3).bind fun v149 => ((f_X11_down ss x3).bind fun v180 => ((f_X11_headOf v180 (ss (0 : Int32).toNatClampNeg)).bind fun v189 => f_X11_digestAccount_b209 xfuel ss v149.2.1 v149.2.2 x3 ((31 * ((31 * ((31 * ((31 * ((31 * ((31 * x4) + v149.1.toInt64)) + ((v105 - v105 / ((ss (0 : Int32).toNatClampNeg) - 1) * ((ss (0 : Int32).toNatClampNeg) - 1)).toInt64))) + ((v105 - v105 / ((ss (0 : Int32).toNatClampNeg) - 1) * ((ss (0 : Int32).toNatClampNeg) - 1)).toInt64))) + v189.toInt64)) + v130.toInt64)) + v130.toInt64) 0))))))) else (if x6 < 0 ∨ 40 ≤ x6.toNatClampNeg then none else (if x6 < 0 ∨ 40 ≤ x6.toNatClampNeg then none else (f_X11_digestAccount_b58 n) ss digit digitMany x3 ((31 * ((31 * x4) + ((digit x6.toNatClampNeg).toInt64))) + ((digit x6.toNatClampNeg).toInt64)) (x6 + 1))))
def f_X11_digestAccount (ss : (Nat → Int32)) (digit : (Nat → Int32)) (digitMany : Int32) (a1 : Int64) (a2 : Int32) : Option (Int64 × (Nat → Int32) × Int32) :=
  ((f_X11_tellsDigits ss digit digitMany a2).bind fun v2 => ((f_X11_up ss a2).bind fun v18 => ((f_X11_down ss a2).bind fun v26 => ((f_X11_wholeOf ss a2).bind fun v34 => f_X11_digestAccount_b58 xfuel ss v2.1 v2.2 a2 ((31 * ((31 * ((31 * ((31 * a1) + v18.toInt64)) + v26.toInt64)) + v34.toInt64)) + v2.2.toInt64) 0))))
def f_X11_digestPair_b33 : Nat → (Nat → Int32) → Int64 → Int64 → (Nat → Int32) → Int32 → (Nat → Int32) → Int32 → (Nat → Int32) → Int32 → Int32 → Int32 → Int32 → Int32 → Int64 → Int32 → Option (Int64 × Int64 × Int64 × (Nat → Int32) × Int32 × (Nat → Int32) × Int32 × (Nat → Int32) × Int32 × Int32 × Int32)
  | 0, _, _, _, _, _, _, _, _, _, _, _, _, _, _, _ => none
  | n + 1, ss, top, bottom, digit, digitMany, other, otherMany, column, columnMany, carryMany, chainMost, x3, x4, x5, x7 =>
    (if columnMany ≤ x7 then ((f_X11_wholeOf ss x3).bind fun v76 => ((f_X11_wholeOf ss x4).bind fun v83 => ((f_X11_makesSum ss top bottom x3 x4 1).bind fun v95 => ((f_X11_sumPeriod ss v95.2.1 v95.2.2 x3 x4).bind fun v115 => ((f_X11_holds ss x3 x4).bind fun v125 => (some ((31 * ((31 * ((31 * ((31 * x5) + (v76.toInt64 + v83.toInt64))) + v95.1.toInt64)) + v115.1.toInt64)) + v125.toInt64, v115.2.1, v115.2.2, digit, digitMany, other, otherMany, column, columnMany, carryMany, chainMost))))))) else (if x7 < 0 ∨ 41 ≤ x7.toNatClampNeg then none else (f_X11_digestPair_b33 n) ss top bottom digit digitMany other otherMany column columnMany carryMany chainMost x3 x4 ((31 * x5) + ((column x7.toNatClampNeg).toInt64)) (x7 + 1)))
def f_X11_digestPair (ss : (Nat → Int32)) (top : Int64) (bottom : Int64) (digit : (Nat → Int32)) (digitMany : Int32) (other : (Nat → Int32)) (otherMany : Int32) (column : (Nat → Int32)) (columnMany : Int32) (carryMany : Int32) (chainMost : Int32) (a1 : Int64) (a2 : Int32) (a3 : Int32) : Option (Int64 × Int64 × Int64 × (Nat → Int32) × Int32 × (Nat → Int32) × Int32 × (Nat → Int32) × Int32 × Int32 × Int32) :=
  ((f_X11_tellsColumns ss digit digitMany other otherMany column columnMany carryMany chainMost a2 a3).bind fun v4 => f_X11_digestPair_b33 xfuel ss top bottom v4.1 v4.2.1 v4.2.2.1 v4.2.2.2.1 v4.2.2.2.2.1 v4.2.2.2.2.2.1 v4.2.2.2.2.2.2.1 v4.2.2.2.2.2.2.2 a2 a3 ((31 * ((31 * a1) + v4.2.2.2.2.2.2.1.toInt64)) + v4.2.2.2.2.2.2.2.toInt64) 0)
def f_X10_saveAndStore (now : SC) (hist : HC) (res : RC) (a1 : Int32) : Option (SC × HC) :=
  ((f_X3_push hist now).bind fun v8 => ((f_X7_store now res a1).bind fun v20 => (some (v20, v8))))
def f_X10_formSum (now : SC) (res : RC) (a1 : Int32) (a2 : Int32) : Option RC :=
  ((f_X7_denominatorOf now a1).bind fun v5 => ((f_X7_denominatorOf now a2).bind fun v15 => ((f_X7_numeratorOf now a1).bind fun v30 => ((f_X7_numeratorOf now a2).bind fun v42 => ((f_X6_put res ((v30.toInt64 * v15.toInt64) + (v42.toInt64 * v5.toInt64)) (v5.toInt64 * v15.toInt64)).bind fun v53 => (some v53))))))
def f_X10_formDifference (now : SC) (res : RC) (a1 : Int32) (a2 : Int32) : Option RC :=
  ((f_X7_denominatorOf now a1).bind fun v5 => ((f_X7_denominatorOf now a2).bind fun v15 => ((f_X7_numeratorOf now a1).bind fun v30 => ((f_X7_numeratorOf now a2).bind fun v42 => ((f_X6_put res ((v30.toInt64 * v15.toInt64) - (v42.toInt64 * v5.toInt64)) (v5.toInt64 * v15.toInt64)).bind fun v53 => (some v53))))))
def f_X10_formShift (now : SC) (res : RC) (a1 : Int32) (a2 : Int32) : Option RC :=
  ((f_X5_power now.1.toInt64 (if 0 ≤ a2 then a2 else 0 - a2)).bind fun v12 => (if 0 ≤ a2 then ((f_X7_numeratorOf now a1).bind fun v59 => ((f_X7_denominatorOf now a1).bind fun v70 => ((f_X6_put res (v59.toInt64 * v12) v70.toInt64).bind fun v74 => (some v74)))) else ((f_X7_numeratorOf now a1).bind fun v29 => ((f_X7_denominatorOf now a1).bind fun v38 => ((f_X6_put res v29.toInt64 (v38.toInt64 * v12)).bind fun v44 => (some v44))))))
def f_X10_formWithCoins (now : SC) (res : RC) (a1 : Int32) (a2 : Int64) : Option RC :=
  ((f_X7_denominatorOf now a1).bind fun v5 => ((f_X7_numeratorOf now a1).bind fun v20 => ((f_X6_put res (v20.toInt64 + (a2 * v5.toInt64)) v5.toInt64).bind fun v31 => (some v31))))
def f_X10_clearBuffer (ent : EC) : Option (Int32 × EC) :=
  (some (ent.1, (0, ent.2.1, ent.2.2.1, ent.2.2.2)))
def f_X10_firstError (ent : EC) : Option (Int32 × EC) :=
  ((f_X2_errorIndex ent).bind fun v4 => (some (v4.1, v4.2)))
def f_X10_formEntry_b136 (now : SC) (ent : EC) (res : RC) (num : NC) : Option (Int32 × RC × NC) :=
  ((f_X6_reasonAgainst res).bind fun v140 => (some (v140, res, num)))
def f_X10_formEntry_b36 : Nat → SC → EC → RC → NC → Int32 → Int32 → Option (Int32 × RC × NC)
  | 0, _, _, _, _, _, _ => none
  | n + 1, now, ent, res, num, x3, x5 =>
    (if x3 ≤ x5 then (if num.1 = 0 then ((f_X4_putInto num res).bind fun v84 => f_X10_formEntry_b136 now ent v84 num) else (some (1, res, num))) else ((f_X2_codeAt ent x5).bind fun v52 => ((f_X4_take num v52).bind fun v55 => (f_X10_formEntry_b36 n) now ent res v55 x3 (x5 + 1))))
def f_X10_formEntry (now : SC) (ent : EC) (res : RC) (num : NC) (a1 : Int32) (a2 : Int32) (a3 : Int32) : Option (Int32 × RC × NC) :=
  ((f_X2_codeAt ent a2).bind fun v5 => (if v5 = 61 then ((f_X4_begin num now.1).bind fun v28 => f_X10_formEntry_b36 xfuel now ent res v28 a3 (a2 + 1)) else (if v5 = 43 then ((f_X2_codeAt ent (a2 + 1)).bind fun v106 => ((f_X10_formSum now res a1 (v106 - 48)).bind fun v112 => f_X10_formEntry_b136 now ent v112 num)) else ((f_X2_codeAt ent (a2 + 1)).bind fun v127 => ((f_X10_formDifference now res a1 (v127 - 48)).bind fun v133 => f_X10_formEntry_b136 now ent v133 num)))))
def f_X10_doPart (now : SC) (ent : EC) (res : RC) (num : NC) (a1 : Int32) (a2 : Int32) : Option (Int32 × SC × RC × NC) :=
  ((f_X2_codeAt ent a1).bind fun v5 => (if v5 = 98 then ((f_X2_decimal ent (a1 + 1) a2).bind fun v25 => (some (0, (v25, now.2.1, now.2.2.1, now.2.2.2.1, now.2.2.2.2), res, num))) else ((f_X2_codeAt ent a1).bind fun v38 => ((f_X10_formEntry now ent res num (v38 - 48) (a1 + 1) a2).bind fun v51 => (if v51.1 = 0 then ((f_X7_store now v51.2.1 (v38 - 48)).bind fun v70 => (some (v51.1, v70, v51.2.1, v51.2.2))) else (some (v51.1, now, v51.2.1, v51.2.2)))))))
def f_X10_doParts_b73 (k6 : SC → EC → RC → NC → Int32 → Int32 → Int32 → Option (Int32 × SC × RC × NC)) (now : SC) (ent : EC) (res : RC) (num : NC) (x1 : Int32) (x2 : Int32) (x3 : Int32) : Option (Int32 × SC × RC × NC) :=
  k6 now ent res num x1 x2 (x3 + 1)
def f_X10_doParts_b41 (k6 : SC → EC → RC → NC → Int32 → Int32 → Int32 → Option (Int32 × SC × RC × NC)) (now : SC) (ent : EC) (res : RC) (num : NC) (x1 : Int32) (x2 : Int32) (x3 : Int32) : Option (Int32 × SC × RC × NC) :=
  ((f_X10_doPart now ent res num x2 x3).bind fun v44 => (if v44.1 = 0 then f_X10_doParts_b73 k6 v44.2.1 ent v44.2.2.1 v44.2.2.2 (x1 + 1) (x3 + 1) x3 else ((f_X7_stopAt v44.2.1 x1 v44.1).bind fun v61 => (some (x1, v61, v44.2.2.1, v44.2.2.2)))))
def f_X10_doParts_b6 : Nat → SC → EC → RC → NC → Int32 → Int32 → Int32 → Option (Int32 × SC × RC × NC)
  | 0, _, _, _, _, _, _, _ => none
  | n + 1, now, ent, res, num, x1, x2, x3 =>
    (if ent.1 < x3 then (some (x1, now, res, num)) else (if x3 = ent.1 then f_X10_doParts_b41 (f_X10_doParts_b6 n) now ent res num x1 x2 x3 else ((f_X2_codeAt ent x3).bind fun v33 => (if v33 = 59 then f_X10_doParts_b41 (f_X10_doParts_b6 n) now ent res num x1 x2 x3 else f_X10_doParts_b73 (f_X10_doParts_b6 n) now ent res num x1 x2 x3))))
def f_X10_doParts (now : SC) (ent : EC) (res : RC) (num : NC) : Option (Int32 × SC × RC × NC) :=
  f_X10_doParts_b6 xfuel now ent res num 0 0 0
def f_X10_hasStopped (now : SC) : Option Int32 :=
  (if now.2.2.1 = 0 then (some 0) else (some 1))
def f_X10_keep (now : SC) (snap : SC) (has : Int32) : Option (Int32 × SC × Int32) :=
  ((f_X7_takeFrom snap now).bind fun v8 => (some (now.1, v8, 1)))
def f_X10_savedStates (hist : HC) : Option Int32 :=
  (some hist.1)
def f_X10_base (now : SC) : Option Int32 :=
  (some now.1)
def f_X10_order (now : SC) (a1 : Int32) (a2 : Int32) : Option Int32 :=
  ((f_X7_numeratorOf now a1).bind fun v5 => ((f_X7_denominatorOf now a2).bind fun v14 => ((f_X7_numeratorOf now a2).bind fun v25 => ((f_X7_denominatorOf now a1).bind fun v34 => (if (v5.toInt64 * v14.toInt64) = (v25.toInt64 * v34.toInt64) then (some 0) else (if (v25.toInt64 * v34.toInt64) < (v5.toInt64 * v14.toInt64) then (some 1) else (some (-1))))))))
def f_X10_richest_b21 (k4 : SC → Int32 → Int32 → Option Int32) (now : SC) (x1 : Int32) (x2 : Int32) : Option Int32 :=
  k4 now x1 (x2 + 1)
def f_X10_richest_b4 : Nat → SC → Int32 → Int32 → Option Int32
  | 0, _, _, _ => none
  | n + 1, now, x1, x2 =>
    (if 6 ≤ x2 then (some x1) else ((f_X10_order now x2 x1).bind fun v13 => (if v13 ≤ 0 then f_X10_richest_b21 (f_X10_richest_b4 n) now x1 x2 else f_X10_richest_b21 (f_X10_richest_b4 n) now x2 x2)))
def f_X10_richest (now : SC) : Option Int32 :=
  f_X10_richest_b4 xfuel now 0 1
def f_X10_codeOfDigit (a0 : Int32) : Option Int32 :=
  (if 10 ≤ a0 then (some ((97 + a0) - 10)) else (some (48 + a0)))
def f_X10_codeBehind (now : SC) (a1 : Int32) (a2 : Int32) : Option Int32 :=
  ((f_X7_denominatorOf now a1).bind fun v5 => ((f_X7_restOf now a1).bind fun v14 => ((f_X0_head v5.toInt64 now.1).bind fun v28 => (if a2 = 0 then (some 46) else (if v28 < a2 then (if a2 = (v28 + 1) then (some 40) else ((f_X0_periodByDividing v14 v5.toInt64 now.1 v28).bind fun v100 => (if (v28 + v100) ≤ (a2 - 2) then (some 41) else ((f_X0_digit v14 v5.toInt64 now.1 (a2 - 2)).bind fun v120 => ((f_X10_codeOfDigit v120).bind fun v123 => (some v123)))))) else ((f_X0_digit v14 v5.toInt64 now.1 (a2 - 1)).bind fun v60 => ((f_X10_codeOfDigit v60).bind fun v63 => (some v63))))))))
def f_X10_formColumns (now : SC) (col : CC) (a1 : Int32) (a2 : Int32) : Option CC :=
  ((f_X7_wholeOf now a1).bind fun v9 => ((f_X7_wholeOf now a2).bind fun v17 => ((f_X1_form col v9 v17 now.1).bind fun v27 => (some v27))))
def f_X10_mix (a0 : Int64) (a1 : Int64) : Option Int64 :=
  (some ((31 * a0) + a1))
def f_X10_bitsOf_b50 (x2 : UInt64) (x4 : Int64) : Option Int64 :=
  (if ¬ ((FP.dsub x2 FP.dconst1) &&& 0x7fffffffffffffff ≤ 0x7ff0000000000000) then none else (if ¬ ((FP.dmul (FP.dsub x2 FP.dconst1) 4841369599423283200) &&& 0x7fffffffffffffff ≤ 0x7ff0000000000000) then none else (some ((x4 <<< ((52 : Int32).toInt64 &&& 63)) + (FP.d2l (FP.dmul (FP.dsub x2 FP.dconst1) 4841369599423283200))))))
def f_X10_bitsOf_b18 : Nat → UInt64 → Int64 → Int32 → Option Int64
  | 0, _, _, _ => none
  | n + 1, x2, x4, x6 =>
    (if 0 ≤ (Op.cmpValue (FP.dcmp x2 FP.dconst1) CmpOp.g) then f_X10_bitsOf_b50 x2 x4 else (if 1022 ≤ x6 then f_X10_bitsOf_b50 x2 x4 else (if ¬ ((FP.dmul x2 4611686018427387904) &&& 0x7fffffffffffffff ≤ 0x7ff0000000000000) then none else (f_X10_bitsOf_b18 n) (FP.dmul x2 4611686018427387904) (x4 - 1) (x6 + 1))))
def f_X10_bitsOf (a0 : UInt64) : Option Int64 :=
  (if 0 < (Op.cmpValue (FP.dcmp a0 FP.dconst0) CmpOp.g) then f_X10_bitsOf_b18 xfuel a0 1023 0 else (some 0))
def f_X10_mixTexts_b66 : Nat → SC → EC → Int64 → Int32 → Option Int64
  | 0, _, _, _, _ => none
  | n + 1, now, ent, x3, x5 =>
    (if ent.1 ≤ x5 then (some x3) else ((f_X2_codeAt ent x5).bind fun v85 => ((f_X10_mix x3 v85.toInt64).bind fun v89 => (f_X10_mixTexts_b66 n) now ent v89 (x5 + 1))))
def f_X10_mixTexts_b50 (now : SC) (ent : EC) (x3 : Int64) : Option Int64 :=
  ((f_X10_mix x3 ent.1.toInt64).bind fun v59 => f_X10_mixTexts_b66 xfuel now ent v59 0)
def f_X10_mixTexts_b13 (now : SC) (ent : EC) (t0 : Int64) (t1 : Int64) : Option Int64 :=
  ((f_X10_mix t1 t0).bind fun v13 => ((f_X10_hasStopped now).bind fun v18 => (if v18 = 0 then f_X10_mixTexts_b50 now ent v13 else ((f_X10_mix v13 now.2.1.toInt64).bind fun v33 => ((f_X10_mix v33 now.2.2.1.toInt64).bind fun v46 => f_X10_mixTexts_b50 now ent v46)))))
def f_X10_mixTexts (now : SC) (ent : EC) (a1 : Int64) : Option Int64 :=
  ((f_X10_hasStopped now).bind fun v2 => (if v2 = 0 then f_X10_mixTexts_b13 now ent 0 a1 else f_X10_mixTexts_b13 now ent 1 a1))
def f_X10_requireBase_b11 : Option (Nat ⊕ Unit) :=
  (some (Sum.inl 2))
def f_X10_requireBase (a0 : Int32) : Option (Nat ⊕ Unit) :=
  (if a0 < 2 then f_X10_requireBase_b11  else (if a0 ≤ 16 then (some (Sum.inr ())) else f_X10_requireBase_b11 ))
def f_X10_setBase (now : SC) (hist : HC) (a1 : Int32) : Option ((Nat × SC × HC) ⊕ (Int32 × SC × HC)) :=
  ((f_X10_requireBase a1).bind fun v1 => Sum.elim (fun t1 => some (Sum.inl (t1, now, hist))) (fun u1 => ((f_X3_push hist now).bind fun v12 => (some (Sum.inr (now.1, (a1, now.2.1, now.2.2.1, now.2.2.2.1, now.2.2.2.2), v12))))) v1)
def f_X10_requireAccount_b10 : Option (Nat ⊕ Unit) :=
  (some (Sum.inl 1))
def f_X10_requireAccount (a0 : Int32) : Option (Nat ⊕ Unit) :=
  (if a0 < 0 then f_X10_requireAccount_b10  else (if a0 < 6 then (some (Sum.inr ())) else f_X10_requireAccount_b10 ))
def f_X10_setFraction_b14 (now : SC) (hist : HC) (res : RC) : Option ((Nat × SC × HC × RC) ⊕ (Int32 × SC × HC × RC)) :=
  (some (Sum.inl (2, now, hist, res)))
def f_X10_setFraction_b36 (now : SC) (hist : HC) (res : RC) : Option ((Nat × SC × HC × RC) ⊕ (Int32 × SC × HC × RC)) :=
  (some (Sum.inl (2, now, hist, res)))
def f_X10_setFraction (now : SC) (hist : HC) (res : RC) (a1 : Int32) (a2 : Int32) (a3 : Int32) : Option ((Nat × SC × HC × RC) ⊕ (Int32 × SC × HC × RC)) :=
  ((f_X10_requireAccount a1).bind fun v1 => Sum.elim (fun t1 => some (Sum.inl (t1, now, hist, res))) (fun u1 => (if a2 < 0 then f_X10_setFraction_b14 now hist res else (if a2 ≤ 999999999 then (if a3 < 1 then f_X10_setFraction_b36 now hist res else (if a3 ≤ 999 then ((f_X6_put res a2.toInt64 a3.toInt64).bind fun v54 => ((f_X10_saveAndStore now hist v54 a1).bind fun v59 => ((f_X7_denominatorOf v59.1 a1).bind fun v67 => (some (Sum.inr (v67, v59.1, v59.2, v54)))))) else f_X10_setFraction_b36 now hist res)) else f_X10_setFraction_b14 now hist res))) v1)
def f_X10_requireAccounts (a0 : Int32) (a1 : Int32) : Option (Nat ⊕ Unit) :=
  ((f_X10_requireAccount a0).bind fun v1 => Sum.elim (fun t1 => some (Sum.inl t1)) (fun u1 => ((f_X10_requireAccount a1).bind fun v5 => Sum.elim (fun t5 => some (Sum.inl t5)) (fun u5 => (some (Sum.inr ()))) v5)) v1)
def f_X10_requirePossible (res : RC) : Option (Nat ⊕ Unit) :=
  ((f_X6_reasonAgainst res).bind fun v4 => (if v4 = 0 then (some (Sum.inr ())) else (some (Sum.inl 3))))
def f_X10_add (now : SC) (hist : HC) (res : RC) (a1 : Int32) (a2 : Int32) : Option ((Nat × SC × HC × RC) ⊕ (Int32 × SC × HC × RC)) :=
  ((f_X10_requireAccounts a1 a2).bind fun v2 => Sum.elim (fun t2 => some (Sum.inl (t2, now, hist, res))) (fun u2 => ((f_X10_formSum now res a1 a2).bind fun v8 => ((f_X10_requirePossible v8).bind fun v12 => Sum.elim (fun t12 => some (Sum.inl (t12, now, hist, v8))) (fun u12 => ((f_X10_saveAndStore now hist v8 a1).bind fun v17 => ((f_X7_numeratorOf v17.1 a1).bind fun v25 => (some (Sum.inr (v25, v17.1, v17.2, v8)))))) v12))) v2)
def f_X10_subtract (now : SC) (hist : HC) (res : RC) (a1 : Int32) (a2 : Int32) : Option ((Nat × SC × HC × RC) ⊕ (Int32 × SC × HC × RC)) :=
  ((f_X10_requireAccounts a1 a2).bind fun v2 => Sum.elim (fun t2 => some (Sum.inl (t2, now, hist, res))) (fun u2 => ((f_X10_formDifference now res a1 a2).bind fun v8 => ((f_X10_requirePossible v8).bind fun v12 => Sum.elim (fun t12 => some (Sum.inl (t12, now, hist, v8))) (fun u12 => ((f_X10_saveAndStore now hist v8 a1).bind fun v17 => ((f_X7_numeratorOf v17.1 a1).bind fun v25 => (some (Sum.inr (v25, v17.1, v17.2, v8)))))) v12))) v2)
def f_X10_shift_b15 (now : SC) (hist : HC) (res : RC) : Option ((Nat × SC × HC × RC) ⊕ (Int32 × SC × HC × RC)) :=
  (some (Sum.inl (2, now, hist, res)))
def f_X10_shift (now : SC) (hist : HC) (res : RC) (a1 : Int32) (a2 : Int32) : Option ((Nat × SC × HC × RC) ⊕ (Int32 × SC × HC × RC)) :=
  ((f_X10_requireAccount a1).bind fun v1 => Sum.elim (fun t1 => some (Sum.inl (t1, now, hist, res))) (fun u1 => (if a2 < (-3) then f_X10_shift_b15 now hist res else (if a2 ≤ 3 then ((f_X10_formShift now res a1 a2).bind fun v28 => ((f_X10_requirePossible v28).bind fun v32 => Sum.elim (fun t32 => some (Sum.inl (t32, now, hist, v28))) (fun u32 => ((f_X10_saveAndStore now hist v28 a1).bind fun v37 => ((f_X7_denominatorOf v37.1 a1).bind fun v45 => (some (Sum.inr (v45, v37.1, v37.2, v28)))))) v32)) else f_X10_shift_b15 now hist res))) v1)
def f_X10_pay_b31 (now : SC) (hist : HC) (res : RC) : Option ((Nat × SC × HC × RC) ⊕ (Int32 × SC × HC × RC)) :=
  (some (Sum.inl (2, now, hist, res)))
def f_X10_pay (now : SC) (hist : HC) (res : RC) (a1 : Int32) (a2 : Int32) (a3 : Int32) : Option ((Nat × SC × HC × RC) ⊕ (Int32 × SC × HC × RC)) :=
  ((f_X10_requireAccounts a1 a2).bind fun v2 => Sum.elim (fun t2 => some (Sum.inl (t2, now, hist, res))) (fun u2 => (if a1 = a2 then (some (Sum.inl (2, now, hist, res))) else (if a3 < 1 then f_X10_pay_b31 now hist res else (if a3 ≤ 999999 then ((f_X10_formWithCoins now res a1 ((-a3).toInt64)).bind fun v46 => ((f_X10_requirePossible v46).bind fun v50 => Sum.elim (fun t50 => some (Sum.inl (t50, now, hist, v46))) (fun u50 => ((f_X10_formWithCoins now v46 a2 a3.toInt64).bind fun v57 => ((f_X10_requirePossible v57).bind fun v61 => Sum.elim (fun t61 => some (Sum.inl (t61, now, hist, v57))) (fun u61 => ((f_X10_saveAndStore now hist v57 a2).bind fun v66 => ((f_X10_formWithCoins v66.1 v57 a1 ((-a3).toInt64)).bind fun v74 => ((f_X7_store v66.1 v74 a1).bind fun v86 => ((f_X7_numeratorOf v86 a1).bind fun v94 => (some (Sum.inr (v94, v86, v66.2, v74)))))))) v61))) v50)) else f_X10_pay_b31 now hist res)))) v2)
def f_X10_append_b12 (ent : EC) : Option ((Nat × EC) ⊕ (Int32 × EC)) :=
  (some (Sum.inl (2, ent)))
def f_X10_append (ent : EC) (a1 : Int32) : Option ((Nat × EC) ⊕ (Int32 × EC)) :=
  (if a1 < 33 then f_X10_append_b12 ent else (if a1 ≤ 126 then (if ent.1 < 60 then ((f_X2_put ent a1).bind fun v49 => (some (Sum.inr (v49.1, v49)))) else (some (Sum.inl (3, ent)))) else f_X10_append_b12 ent))
def f_X10_enter (now : SC) (hist : HC) (ent : EC) (res : RC) (num : NC) : Option ((Nat × SC × HC × EC × RC × NC) ⊕ (Int32 × SC × HC × EC × RC × NC)) :=
  ((f_X2_areComplete ent).bind fun v4 => (if v4.1 = 0 then (some (Sum.inl (2, now, hist, v4.2, res, num))) else ((f_X3_push hist now).bind fun v28 => ((f_X7_stopAt now 0 0).bind fun v37 => ((f_X10_doParts v37 v4.2 res num).bind fun v41 => (some (Sum.inr (v41.1, v41.2.1, v28, (0, v4.2.2.1, v4.2.2.2.1, v4.2.2.2.2), v41.2.2.1, v41.2.2.2))))))))
def f_X10_requireStop (now : SC) : Option (Nat ⊕ Unit) :=
  (if now.2.2.1 = 0 then (some (Sum.inl 3)) else (some (Sum.inr ())))
def f_X10_stoppedPart (now : SC) : Option (Nat ⊕ Int32) :=
  ((f_X10_requireStop now).bind fun v1 => Sum.elim (fun t1 => some (Sum.inl t1)) (fun u1 => (some (Sum.inr now.2.1))) v1)
def f_X10_whyStopped (now : SC) : Option (Nat ⊕ Int32) :=
  ((f_X10_requireStop now).bind fun v1 => Sum.elim (fun t1 => some (Sum.inl t1)) (fun u1 => (some (Sum.inr now.2.2.1))) v1)
def f_X10_undo (now : SC) (hist : HC) : Option ((Nat × SC × HC) ⊕ (Int32 × SC × HC)) :=
  (if hist.1 = 0 then (some (Sum.inl (3, now, hist))) else ((f_X3_pop hist now).bind fun v28 => (some (Sum.inr (v28.1.1, v28.2, v28.1)))))
def f_X10_restore (now : SC) (snap : SC) (has : Int32) (hist : HC) : Option ((Nat × SC × HC) ⊕ (Int32 × SC × HC)) :=
  (if has = 0 then (some (Sum.inl (3, now, hist))) else ((f_X3_push hist now).bind fun v25 => ((f_X7_takeFrom now snap).bind fun v36 => (some (Sum.inr (v36.1, v36, v25))))))
def f_X10_numerator (now : SC) (a1 : Int32) : Option (Nat ⊕ Int32) :=
  ((f_X10_requireAccount a1).bind fun v1 => Sum.elim (fun t1 => some (Sum.inl t1)) (fun u1 => ((f_X7_numeratorOf now a1).bind fun v9 => (some (Sum.inr v9)))) v1)
def f_X10_denominator (now : SC) (a1 : Int32) : Option (Nat ⊕ Int32) :=
  ((f_X10_requireAccount a1).bind fun v1 => Sum.elim (fun t1 => some (Sum.inl t1)) (fun u1 => ((f_X7_denominatorOf now a1).bind fun v9 => (some (Sum.inr v9)))) v1)
def f_X10_whole (now : SC) (a1 : Int32) : Option (Nat ⊕ Int32) :=
  ((f_X10_requireAccount a1).bind fun v1 => Sum.elim (fun t1 => some (Sum.inl t1)) (fun u1 => ((f_X7_wholeOf now a1).bind fun v9 => (some (Sum.inr v9)))) v1)
def f_X10_compare (now : SC) (a1 : Int32) (a2 : Int32) : Option (Nat ⊕ Int32) :=
  ((f_X10_requireAccounts a1 a2).bind fun v2 => Sum.elim (fun t2 => some (Sum.inl t2)) (fun u2 => ((f_X10_order now a1 a2).bind fun v8 => (some (Sum.inr v8)))) v2)
def f_X10_wholeDigits (now : SC) (a1 : Int32) : Option (Nat ⊕ Int32) :=
  ((f_X10_requireAccount a1).bind fun v1 => Sum.elim (fun t1 => some (Sum.inl t1)) (fun u1 => ((f_X7_wholeOf now a1).bind fun v9 => ((f_X9_count v9 now.1).bind fun v19 => (some (Sum.inr v19))))) v1)
def f_X10_requireColumn_b13 (now : SC) : Option (Nat ⊕ Unit) :=
  (some (Sum.inl 1))
def f_X10_requireColumn (now : SC) (a1 : Int32) (a2 : Int32) : Option (Nat ⊕ Unit) :=
  (if a2 < 0 then f_X10_requireColumn_b13 now else ((f_X10_wholeDigits now a1).bind fun v7 => Sum.elim (fun t7 => some (Sum.inl t7)) (fun u7 => (if a2 < u7 then (some (Sum.inr ())) else f_X10_requireColumn_b13 now)) v7))
def f_X10_wholeDigit (now : SC) (a1 : Int32) (a2 : Int32) : Option (Nat ⊕ Int32) :=
  ((f_X10_requireColumn now a1 a2).bind fun v3 => Sum.elim (fun t3 => some (Sum.inl t3)) (fun u3 => ((f_X7_wholeOf now a1).bind fun v11 => ((f_X9_byDividing v11 now.1 a2).bind fun v22 => (some (Sum.inr v22))))) v3)
def f_X10_wholeDigitByPowers (now : SC) (a1 : Int32) (a2 : Int32) : Option (Nat ⊕ Int32) :=
  ((f_X10_requireColumn now a1 a2).bind fun v3 => Sum.elim (fun t3 => some (Sum.inl t3)) (fun u3 => ((f_X7_wholeOf now a1).bind fun v11 => ((f_X9_byPowers v11 now.1 a2).bind fun v22 => (some (Sum.inr v22))))) v3)
def f_X10_digitSum (now : SC) (a1 : Int32) : Option (Nat ⊕ Int32) :=
  ((f_X10_requireAccount a1).bind fun v1 => Sum.elim (fun t1 => some (Sum.inl t1)) (fun u1 => ((f_X7_wholeOf now a1).bind fun v9 => ((f_X9_sum v9 now.1).bind fun v19 => (some (Sum.inr v19))))) v1)
def f_X10_leftByDigits (now : SC) (a1 : Int32) : Option (Nat ⊕ Int32) :=
  ((f_X10_requireAccount a1).bind fun v1 => Sum.elim (fun t1 => some (Sum.inl t1)) (fun u1 => ((f_X7_wholeOf now a1).bind fun v9 => ((f_X9_sum v9 now.1).bind fun v19 => ((f_X5_left v19.toInt64 ((now.1 - 1).toInt64)).bind fun v33 => (some (Sum.inr v33.toInt32)))))) v1)
def f_X10_leftByDividing (now : SC) (a1 : Int32) : Option (Nat ⊕ Int32) :=
  ((f_X10_requireAccount a1).bind fun v1 => Sum.elim (fun t1 => some (Sum.inl t1)) (fun u1 => ((f_X7_wholeOf now a1).bind fun v9 => ((f_X5_left v9.toInt64 ((now.1 - 1).toInt64)).bind fun v23 => (some (Sum.inr v23.toInt32))))) v1)
def f_X10_headLength (now : SC) (a1 : Int32) : Option (Nat ⊕ Int32) :=
  ((f_X10_requireAccount a1).bind fun v1 => Sum.elim (fun t1 => some (Sum.inl t1)) (fun u1 => ((f_X7_denominatorOf now a1).bind fun v9 => ((f_X0_head v9.toInt64 now.1).bind fun v20 => (some (Sum.inr v20))))) v1)
def f_X10_periodLength (now : SC) (a1 : Int32) : Option (Nat ⊕ Int32) :=
  ((f_X10_requireAccount a1).bind fun v1 => Sum.elim (fun t1 => some (Sum.inl t1)) (fun u1 => ((f_X7_denominatorOf now a1).bind fun v9 => ((f_X0_head v9.toInt64 now.1).bind fun v22 => ((f_X7_restOf now a1).bind fun v31 => ((f_X0_periodByDividing v31 v9.toInt64 now.1 v22).bind fun v44 => (some (Sum.inr v44))))))) v1)
def f_X10_periodByOrder (now : SC) (a1 : Int32) : Option (Nat ⊕ Int32) :=
  ((f_X10_requireAccount a1).bind fun v1 => Sum.elim (fun t1 => some (Sum.inl t1)) (fun u1 => ((f_X7_denominatorOf now a1).bind fun v9 => ((f_X0_coprimePart v9.toInt64 now.1).bind fun v20 => ((f_X0_timesToOne now.1 v20 999).bind fun v35 => (some (Sum.inr v35)))))) v1)
def f_X10_digitBehind_b15 (now : SC) : Option (Nat ⊕ Int32) :=
  (some (Sum.inl 2))
def f_X10_digitBehind (now : SC) (a1 : Int32) (a2 : Int32) : Option (Nat ⊕ Int32) :=
  ((f_X10_requireAccount a1).bind fun v1 => Sum.elim (fun t1 => some (Sum.inl t1)) (fun u1 => (if a2 < 0 then f_X10_digitBehind_b15 now else (if a2 ≤ 2000 then ((f_X7_restOf now a1).bind fun v30 => ((f_X7_denominatorOf now a1).bind fun v38 => ((f_X0_digit v30 v38.toInt64 now.1 a2).bind fun v50 => (some (Sum.inr v50))))) else f_X10_digitBehind_b15 now))) v1)
def f_X10_shortestBase_b72 (k23 : SC → Int32 → Int32 → Int32 → Int32 → Option (Nat ⊕ Int32)) (now : SC) (x2 : Int32) (x3 : Int32) (x4 : Int32) (x5 : Int32) : Option (Nat ⊕ Int32) :=
  k23 now x2 x3 x4 (x5 + 1)
def f_X10_shortestBase_b23 : Nat → SC → Int32 → Int32 → Int32 → Int32 → Option (Nat ⊕ Int32)
  | 0, _, _, _, _, _ => none
  | n + 1, now, x2, x3, x4, x5 =>
    (if 16 < x5 then (some (Sum.inr x3)) else ((f_X0_coprimePart x2.toInt64 x5).bind fun v36 => ((f_X0_timesToOne x5 v36 x4).bind fun v41 => ((f_X0_head x2.toInt64 x5).bind fun v50 => (if x4 ≤ (v50 + v41) then f_X10_shortestBase_b72 (f_X10_shortestBase_b23 n) now x2 x3 x4 x5 else f_X10_shortestBase_b72 (f_X10_shortestBase_b23 n) now x2 x5 (v50 + v41) x5)))))
def f_X10_shortestBase (now : SC) (a1 : Int32) : Option (Nat ⊕ Int32) :=
  ((f_X10_requireAccount a1).bind fun v1 => Sum.elim (fun t1 => some (Sum.inl t1)) (fun u1 => ((f_X7_denominatorOf now a1).bind fun v9 => f_X10_shortestBase_b23 xfuel now v9 2 1998 2)) v1)
def f_X10_writtenLength_b85 (now : SC) (x2 : Int32) (x5 : Int32) : Option (Nat ⊕ Int32) :=
  (if x5 ≤ 0 then (some (Sum.inr x2)) else (some (Sum.inr (x2 + (2 + x5)))))
def f_X10_writtenLength (now : SC) (a1 : Int32) : Option (Nat ⊕ Int32) :=
  ((f_X10_requireAccount a1).bind fun v1 => Sum.elim (fun t1 => some (Sum.inl t1)) (fun u1 => ((f_X7_wholeOf now a1).bind fun v9 => ((f_X9_count v9 now.1).bind fun v19 => ((f_X7_denominatorOf now a1).bind fun v28 => ((f_X0_head v28.toInt64 now.1).bind fun v41 => ((f_X7_restOf now a1).bind fun v51 => ((f_X0_periodByDividing v51 v28.toInt64 now.1 v41).bind fun v65 => (if (v41 + v65) ≤ 0 then f_X10_writtenLength_b85 now v19 v65 else f_X10_writtenLength_b85 now (v19 + (1 + v41)) v65)))))))) v1)
def f_X10_writtenAt_b17 (now : SC) : Option (Nat ⊕ Int32) :=
  (some (Sum.inl 1))
def f_X10_writtenAt (now : SC) (a1 : Int32) (a2 : Int32) : Option (Nat ⊕ Int32) :=
  ((f_X10_requireAccount a1).bind fun v1 => Sum.elim (fun t1 => some (Sum.inl t1)) (fun u1 => (if a2 < 0 then f_X10_writtenAt_b17 now else ((f_X10_writtenLength now a1).bind fun v11 => Sum.elim (fun t11 => some (Sum.inl t11)) (fun u11 => (if a2 < u11 then ((f_X7_wholeOf now a1).bind fun v32 => ((f_X9_count v32 now.1).bind fun v44 => (if v44 ≤ a2 then ((f_X10_codeBehind now a1 (a2 - v44)).bind fun v82 => (some (Sum.inr v82))) else ((f_X9_byDividing v32 now.1 ((v44 - 1) - a2)).bind fun v69 => ((f_X10_codeOfDigit v69).bind fun v72 => (some (Sum.inr v72))))))) else f_X10_writtenAt_b17 now)) v11))) v1)
def f_X10_carries (now : SC) (col : CC) (a1 : Int32) (a2 : Int32) : Option ((Nat × CC) ⊕ (Int32 × CC)) :=
  ((f_X10_requireAccounts a1 a2).bind fun v2 => Sum.elim (fun t2 => some (Sum.inl (t2, col))) (fun u2 => ((f_X10_formColumns now col a1 a2).bind fun v8 => (some (Sum.inr (v8.2.1, v8))))) v2)
def f_X10_longestChain (now : SC) (col : CC) (a1 : Int32) (a2 : Int32) : Option ((Nat × CC) ⊕ (Int32 × CC)) :=
  ((f_X10_requireAccounts a1 a2).bind fun v2 => Sum.elim (fun t2 => some (Sum.inl (t2, col))) (fun u2 => ((f_X10_formColumns now col a1 a2).bind fun v8 => (some (Sum.inr (v8.2.2.1, v8))))) v2)
def f_X10_sumDigit_b26 (now : SC) (col : CC) : Option ((Nat × CC) ⊕ (Int32 × CC)) :=
  (some (Sum.inl (1, col)))
def f_X10_sumDigit (now : SC) (col : CC) (a1 : Int32) (a2 : Int32) (a3 : Int32) : Option ((Nat × CC) ⊕ (Int32 × CC)) :=
  ((f_X10_requireAccounts a1 a2).bind fun v2 => Sum.elim (fun t2 => some (Sum.inl (t2, col))) (fun u2 => ((f_X10_formColumns now col a1 a2).bind fun v8 => (if a3 < 0 then f_X10_sumDigit_b26 now v8 else (if a3 < v8.1 then ((f_X1_digitAt v8 a3).bind fun v42 => (some (Sum.inr (v42, v8)))) else f_X10_sumDigit_b26 now v8)))) v2)
def f_X10_sumByColumns (now : SC) (col : CC) (a1 : Int32) (a2 : Int32) : Option ((Nat × CC) ⊕ (Int64 × CC)) :=
  ((f_X10_requireAccounts a1 a2).bind fun v2 => Sum.elim (fun t2 => some (Sum.inl (t2, col))) (fun u2 => ((f_X10_formColumns now col a1 a2).bind fun v8 => ((f_X1_total v8 now.1).bind fun v22 => (some (Sum.inr (v22, v8)))))) v2)
def f_X10_readIn_b35 : Nat → SC → Int32 → Int32 → Int64 → Int32 → Option (Nat ⊕ Int64)
  | 0, _, _, _, _, _ => none
  | n + 1, now, x2, x3, x4, x6 =>
    (if x6 < 0 then (some (Sum.inr x4)) else ((f_X9_byDividing x3 now.1 x6).bind fun v50 => (if x2 ≤ v50 then (some (Sum.inr (-1))) else (if 999999999999999 < ((x4 * x2.toInt64) + v50.toInt64) then (some (Sum.inr (-1))) else (f_X10_readIn_b35 n) now x2 x3 ((x4 * x2.toInt64) + v50.toInt64) (x6 + (-1))))))
def f_X10_readIn (now : SC) (a1 : Int32) (a2 : Int32) : Option (Nat ⊕ Int64) :=
  ((f_X10_requireAccount a1).bind fun v1 => Sum.elim (fun t1 => some (Sum.inl t1)) (fun u1 => ((f_X10_requireBase a2).bind fun v5 => Sum.elim (fun t5 => some (Sum.inl t5)) (fun u5 => ((f_X7_wholeOf now a1).bind fun v13 => ((f_X9_count v13 now.1).bind fun v28 => f_X10_readIn_b35 xfuel now a2 v13 0 (v28 - 1)))) v5)) v1)
def f_X10_whyNoSum (now : SC) (res : RC) (a1 : Int32) (a2 : Int32) : Option ((Nat × RC) ⊕ (Int32 × RC)) :=
  ((f_X10_requireAccounts a1 a2).bind fun v2 => Sum.elim (fun t2 => some (Sum.inl (t2, res))) (fun u2 => ((f_X10_formSum now res a1 a2).bind fun v8 => (if 999999999 < v8.1 then (some (Sum.inr (1, v8))) else (if 999 < v8.2 then (some (Sum.inr (2, v8))) else (some (Sum.inr (0, v8))))))) v2)
def f_X10_periodOfSum (now : SC) (res : RC) (a1 : Int32) (a2 : Int32) : Option ((Nat × RC) ⊕ (Int32 × RC)) :=
  ((f_X10_requireAccounts a1 a2).bind fun v2 => Sum.elim (fun t2 => some (Sum.inl (t2, res))) (fun u2 => ((f_X10_formSum now res a1 a2).bind fun v8 => ((f_X0_coprimePart v8.2 now.1).bind fun v25 => ((f_X0_periodByFactors v25 now.1).bind fun v35 => (some (Sum.inr (v35, v8))))))) v2)
def f_X10_shareOf_b9 : Nat → SC → Int32 → UInt64 → Int32 → Option (Nat ⊕ UInt64)
  | 0, _, _, _, _ => none
  | n + 1, now, x1, x2, x4 =>
    (if 6 ≤ x4 then (if (Op.cmpValue (FP.dcmp x2 FP.dconst0) CmpOp.l) ≤ 0 then (some (Sum.inr FP.dconst0)) else ((f_X7_asDouble now x1).bind fun v45 => (if ¬ ((FP.ddiv v45 x2) &&& 0x7fffffffffffffff ≤ 0x7ff0000000000000) then none else (some (Sum.inr (FP.ddiv v45 x2)))))) else ((f_X7_asDouble now x4).bind fun v23 => (if ¬ ((FP.dadd x2 v23) &&& 0x7fffffffffffffff ≤ 0x7ff0000000000000) then none else (f_X10_shareOf_b9 n) now x1 (FP.dadd x2 v23) (x4 + 1))))
def f_X10_shareOf (now : SC) (a1 : Int32) : Option (Nat ⊕ UInt64) :=
  ((f_X10_requireAccount a1).bind fun v1 => Sum.elim (fun t1 => some (Sum.inl t1)) (fun u1 => f_X10_shareOf_b9 xfuel now a1 FP.dconst0 0) v1)
def f_X10_mixWhole_b58 : Nat → SC → Int32 → Int32 → Int64 → Int32 → Option Int64
  | 0, _, _, _, _, _ => none
  | n + 1, now, x3, x4, x5, x7 =>
    (if x4 ≤ x7 then ((f_X10_digitSum now x3).bind fun v105 => Sum.elim (fun t105 => none) (fun u105 => ((f_X10_mix x5 u105.toInt64).bind fun v109 => ((f_X10_leftByDigits now x3).bind fun v118 => Sum.elim (fun t118 => none) (fun u118 => ((f_X10_mix v109 u118.toInt64).bind fun v122 => ((f_X10_leftByDividing now x3).bind fun v131 => Sum.elim (fun t131 => none) (fun u131 => ((f_X10_mix v122 u131.toInt64).bind fun v135 => (some v135))) v131))) v118))) v105) else ((f_X10_wholeDigit now x3 x7).bind fun v71 => Sum.elim (fun t71 => none) (fun u71 => ((f_X10_mix x5 u71.toInt64).bind fun v75 => ((f_X10_wholeDigitByPowers now x3 x7).bind fun v86 => Sum.elim (fun t86 => none) (fun u86 => ((f_X10_mix v75 u86.toInt64).bind fun v90 => (f_X10_mixWhole_b58 n) now x3 x4 v90 (x7 + 1))) v86))) v71))
def f_X10_mixWhole (now : SC) (a1 : Int64) (a2 : Int32) : Option Int64 :=
  ((f_X10_wholeDigits now a2).bind fun v2 => Sum.elim (fun t2 => none) (fun u2 => ((f_X10_numerator now a2).bind fun v10 => Sum.elim (fun t10 => none) (fun u10 => ((f_X10_mix a1 u10.toInt64).bind fun v14 => ((f_X10_denominator now a2).bind fun v23 => Sum.elim (fun t23 => none) (fun u23 => ((f_X10_mix v14 u23.toInt64).bind fun v27 => ((f_X10_whole now a2).bind fun v36 => Sum.elim (fun t36 => none) (fun u36 => ((f_X10_mix v27 u36.toInt64).bind fun v40 => ((f_X10_mix v40 u2.toInt64).bind fun v50 => f_X10_mixWhole_b58 xfuel now a2 u2 v50 0))) v36))) v23))) v10)) v2)
def f_X10_mixBehind_b41 : Nat → SC → Int32 → Int64 → Int32 → Option Int64
  | 0, _, _, _, _ => none
  | n + 1, now, x3, x4, x6 =>
    (if 10 ≤ x6 then ((f_X10_shortestBase now x3).bind fun v73 => Sum.elim (fun t73 => none) (fun u73 => ((f_X10_mix x4 u73.toInt64).bind fun v77 => ((f_X10_readIn now x3 16).bind fun v88 => Sum.elim (fun t88 => none) (fun u88 => ((f_X10_mix v77 u88).bind fun v91 => ((f_X10_writtenLength now x3).bind fun v98 => Sum.elim (fun t98 => none) (fun u98 => ((f_X10_mix v91 u98.toInt64).bind fun v108 => ((f_X10_writtenAt now x3 (u98 - 1)).bind fun v121 => Sum.elim (fun t121 => none) (fun u121 => ((f_X10_mix v108 u121.toInt64).bind fun v125 => (some v125))) v121))) v98))) v88))) v73) else ((f_X10_digitBehind now x3 x6).bind fun v54 => Sum.elim (fun t54 => none) (fun u54 => ((f_X10_mix x4 u54.toInt64).bind fun v58 => (f_X10_mixBehind_b41 n) now x3 v58 (x6 + 1))) v54))
def f_X10_mixBehind (now : SC) (a1 : Int64) (a2 : Int32) : Option Int64 :=
  ((f_X10_headLength now a2).bind fun v3 => Sum.elim (fun t3 => none) (fun u3 => ((f_X10_mix a1 u3.toInt64).bind fun v7 => ((f_X10_periodLength now a2).bind fun v16 => Sum.elim (fun t16 => none) (fun u16 => ((f_X10_mix v7 u16.toInt64).bind fun v20 => ((f_X10_periodByOrder now a2).bind fun v29 => Sum.elim (fun t29 => none) (fun u29 => ((f_X10_mix v20 u29.toInt64).bind fun v33 => f_X10_mixBehind_b41 xfuel now a2 v33 0)) v29))) v16))) v3)
def f_X10_mixPair_b39 : Nat → SC → RC → CC → Int32 → Int32 → Int64 → Int32 → Option (Int64 × RC × CC)
  | 0, _, _, _, _, _, _, _ => none
  | n + 1, now, res, col, x3, x4, x5, x7 =>
    (if col.1 ≤ x7 then ((f_X1_total col now.1).bind fun v87 => ((f_X10_mix x5 v87).bind fun v90 => ((f_X10_whyNoSum now res x3 x4).bind fun v101 => Sum.elim (fun t101 => none) (fun u101 => ((f_X10_mix v90 u101.1.toInt64).bind fun v105 => ((f_X10_periodOfSum now u101.2 x3 x4).bind fun v116 => Sum.elim (fun t116 => none) (fun u116 => ((f_X10_mix v105 u116.1.toInt64).bind fun v120 => ((f_X10_order now x3 x4).bind fun v131 => ((f_X10_mix v120 v131.toInt64).bind fun v135 => (some (v135, u116.2, col)))))) v116))) v101))) else ((f_X1_digitAt col x7).bind fun v59 => ((f_X10_mix x5 v59.toInt64).bind fun v63 => (f_X10_mixPair_b39 n) now res col x3 x4 v63 (x7 + 1))))
def f_X10_mixPair (now : SC) (res : RC) (col : CC) (a1 : Int64) (a2 : Int32) (a3 : Int32) : Option (Int64 × RC × CC) :=
  ((f_X10_formColumns now col a2 a3).bind fun v4 => ((f_X10_mix a1 v4.2.1.toInt64).bind fun v16 => ((f_X10_mix v16 v4.2.2.1.toInt64).bind fun v31 => f_X10_mixPair_b39 xfuel now res v4 a2 a3 v31 0)))
def f_X10_digest_b97 : Nat → SC → HC → EC → RC → CC → Int64 → Int32 → Option (Int64 × RC × CC)
  | 0, _, _, _, _, _, _, _ => none
  | n + 1, now, hist, ent, res, col, x1, x3 =>
    (if 6 ≤ x3 then ((f_X10_mixTexts now ent x1).bind fun v124 => (some (v124, res, col))) else ((f_X10_shareOf now x3).bind fun v106 => Sum.elim (fun t106 => none) (fun u106 => ((f_X10_bitsOf u106).bind fun v109 => ((f_X10_mix x1 v109).bind fun v112 => (f_X10_digest_b97 n) now hist ent res col v112 (x3 + 1)))) v106))
def f_X10_digest_b70 : Nat → SC → HC → EC → RC → CC → Int64 → Int32 → Option (Int64 × RC × CC)
  | 0, _, _, _, _, _, _, _ => none
  | n + 1, now, hist, ent, res, col, x1, x3 =>
    (if 6 ≤ x3 then f_X10_digest_b97 xfuel now hist ent res col x1 0 else ((f_X10_mixPair now res col x1 x3 ((x3 + 1) - (x3 + 1) / 6 * 6)).bind fun v85 => (f_X10_digest_b70 n) now hist ent v85.2.1 v85.2.2 v85.1 (x3 + 1)))
def f_X10_digest_b42 : Nat → SC → HC → EC → RC → CC → Int64 → Int32 → Option (Int64 × RC × CC)
  | 0, _, _, _, _, _, _, _ => none
  | n + 1, now, hist, ent, res, col, x1, x3 =>
    (if 6 ≤ x3 then f_X10_digest_b70 xfuel now hist ent res col x1 0 else ((f_X10_mixWhole now x1 x3).bind fun v51 => ((f_X10_mixBehind now v51 x3).bind fun v58 => (f_X10_digest_b42 n) now hist ent res col v58 (x3 + 1))))
def f_X10_digest (now : SC) (hist : HC) (ent : EC) (res : RC) (col : CC) : Option (Int64 × RC × CC) :=
  ((f_X10_mix 4513 now.1.toInt64).bind fun v13 => ((f_X10_richest now).bind fun v19 => ((f_X10_mix v13 v19.toInt64).bind fun v23 => ((f_X10_mix v23 hist.1.toInt64).bind fun v36 => f_X10_digest_b42 xfuel now hist ent res col v36 0))))
def f_Jxe99ae_isNaN_b9ae7 (a0 : UInt64) : Option Int32 :=
  (if (Op.cmpValue (FP.dcmp a0 a0) CmpOp.l) = 0 then (some 0) else (some 1))
def f_Jxe99ae_doubleToLongBits_ccdee (a0 : UInt64) : Option Int64 :=
  ((f_Jxe99ae_isNaN_b9ae7 a0).bind fun v1 => (if v1 = 0 then (some a0.toInt64) else (some 9221120237041090560)))
def f_X11_digest_b197 : Nat → Int32 → (Nat → Int32) → Int32 → (Nat → Int32) → Int32 → Int64 → Int64 → (Nat → Int32) → Int32 → (Nat → Int32) → Int32 → (Nat → Int32) → Int32 → Int32 → Int32 → Int64 → Int32 → Option (Int64 × Int32 × Int64 × Int64 × (Nat → Int32) × Int32 × (Nat → Int32) × Int32 × (Nat → Int32) × Int32 × Int32 × Int32)
  | 0, _, _, _, _, _, _, _, _, _, _, _, _, _, _, _, _, _ => none
  | n + 1, thrown, ss, stateMany, text, length, top, bottom, digit, digitMany, other, otherMany, column, columnMany, carryMany, chainMost, x1, x3 =>
    (if length ≤ x3 then (some (x1, thrown, top, bottom, digit, digitMany, other, otherMany, column, columnMany, carryMany, chainMost)) else (if x3 < 0 ∨ 60 ≤ x3.toNatClampNeg then none else (f_X11_digest_b197 n) thrown ss stateMany text length top bottom digit digitMany other otherMany column columnMany carryMany chainMost ((31 * x1) + ((text x3.toNatClampNeg).toInt64)) (x3 + 1)))
def f_X11_digest_b182 (thrown : Int32) (ss : (Nat → Int32)) (stateMany : Int32) (text : (Nat → Int32)) (length : Int32) (top : Int64) (bottom : Int64) (digit : (Nat → Int32)) (digitMany : Int32) (other : (Nat → Int32)) (otherMany : Int32) (column : (Nat → Int32)) (columnMany : Int32) (carryMany : Int32) (chainMost : Int32) (t0 : Int64) : Option (Int64 × Int32 × Int64 × Int64 × (Nat → Int32) × Int32 × (Nat → Int32) × Int32 × (Nat → Int32) × Int32 × Int32 × Int32) :=
  f_X11_digest_b197 xfuel thrown ss stateMany text length top bottom digit digitMany other otherMany column columnMany carryMany chainMost ((31 * t0) + length.toInt64) 0
def f_X11_digest_b140 (thrown : Int32) (ss : (Nat → Int32)) (stateMany : Int32) (text : (Nat → Int32)) (length : Int32) (top : Int64) (bottom : Int64) (digit : (Nat → Int32)) (digitMany : Int32) (other : (Nat → Int32)) (otherMany : Int32) (column : (Nat → Int32)) (columnMany : Int32) (carryMany : Int32) (chainMost : Int32) (t0 : Int32) (t1 : Int64) : Option (Int64 × Int32 × Int64 × Int64 × (Nat → Int32) × Int32 × (Nat → Int32) × Int32 × (Nat → Int32) × Int32 × Int32 × Int32) :=
  (if (ss (1 : Int32).toNatClampNeg) = (-1) then f_X11_digest_b182 thrown ss stateMany text length top bottom digit digitMany other otherMany column columnMany carryMany chainMost (t1 + t0.toInt64) else f_X11_digest_b182 thrown ss stateMany text length top bottom digit digitMany other otherMany column columnMany carryMany chainMost ((31 * ((31 * (t1 + t0.toInt64)) + ((ss (1 : Int32).toNatClampNeg).toInt64))) + ((ss (2 : Int32).toNatClampNeg).toInt64)))
def f_X11_digest_b93 : Nat → Int32 → (Nat → Int32) → Int32 → (Nat → Int32) → Int32 → Int64 → Int64 → (Nat → Int32) → Int32 → (Nat → Int32) → Int32 → (Nat → Int32) → Int32 → Int32 → Int32 → Int64 → Int32 → Option (Int64 × Int32 × Int64 × Int64 × (Nat → Int32) × Int32 × (Nat → Int32) × Int32 × (Nat → Int32) × Int32 × Int32 × Int32)
  | 0, _, _, _, _, _, _, _, _, _, _, _, _, _, _, _, _, _ => none
  | n + 1, thrown, ss, stateMany, text, length, top, bottom, digit, digitMany, other, otherMany, column, columnMany, carryMany, chainMost, x1, x3 =>
    (if 6 ≤ x3 then (if (ss (1 : Int32).toNatClampNeg) = (-1) then f_X11_digest_b140 thrown ss stateMany text length top bottom digit digitMany other otherMany column columnMany carryMany chainMost 0 (31 * x1) else f_X11_digest_b140 thrown ss stateMany text length top bottom digit digitMany other otherMany column columnMany carryMany chainMost 1 (31 * x1)) else ((f_X11_share ss x3).bind fun v106 => ((f_Jxe99ae_doubleToLongBits_ccdee v106).bind fun v109 => (f_X11_digest_b93 n) thrown ss stateMany text length top bottom digit digitMany other otherMany column columnMany carryMany chainMost ((31 * x1) + v109) (x3 + 1))))
def f_X11_digest_b66 : Nat → Int32 → (Nat → Int32) → Int32 → (Nat → Int32) → Int32 → Int64 → Int64 → (Nat → Int32) → Int32 → (Nat → Int32) → Int32 → (Nat → Int32) → Int32 → Int32 → Int32 → Int64 → Int32 → Option (Int64 × Int32 × Int64 × Int64 × (Nat → Int32) × Int32 × (Nat → Int32) × Int32 × (Nat → Int32) × Int32 × Int32 × Int32)
  | 0, _, _, _, _, _, _, _, _, _, _, _, _, _, _, _, _, _ => none
  | n + 1, thrown, ss, stateMany, text, length, top, bottom, digit, digitMany, other, otherMany, column, columnMany, carryMany, chainMost, x1, x3 =>
    (if 6 ≤ x3 then f_X11_digest_b93 xfuel thrown ss stateMany text length top bottom digit digitMany other otherMany column columnMany carryMany chainMost x1 0 else ((f_X11_digestPair ss top bottom digit digitMany other otherMany column columnMany carryMany chainMost x1 x3 ((x3 + 1) - (x3 + 1) / 6 * 6)).bind fun v81 => (f_X11_digest_b66 n) thrown ss stateMany text length v81.2.1 v81.2.2.1 v81.2.2.2.1 v81.2.2.2.2.1 v81.2.2.2.2.2.1 v81.2.2.2.2.2.2.1 v81.2.2.2.2.2.2.2.1 v81.2.2.2.2.2.2.2.2.1 v81.2.2.2.2.2.2.2.2.2.1 v81.2.2.2.2.2.2.2.2.2.2 v81.1 (x3 + 1)))
def f_X11_digest_b45 : Nat → Int32 → (Nat → Int32) → Int32 → (Nat → Int32) → Int32 → Int64 → Int64 → (Nat → Int32) → Int32 → (Nat → Int32) → Int32 → (Nat → Int32) → Int32 → Int32 → Int32 → Int64 → Int32 → Option (Int64 × Int32 × Int64 × Int64 × (Nat → Int32) × Int32 × (Nat → Int32) × Int32 × (Nat → Int32) × Int32 × Int32 × Int32)
  | 0, _, _, _, _, _, _, _, _, _, _, _, _, _, _, _, _, _ => none
  | n + 1, thrown, ss, stateMany, text, length, top, bottom, digit, digitMany, other, otherMany, column, columnMany, carryMany, chainMost, x1, x3 =>
    (if 6 ≤ x3 then f_X11_digest_b66 xfuel thrown ss stateMany text length top bottom digit digitMany other otherMany column columnMany carryMany chainMost x1 0 else ((f_X11_digestAccount ss digit digitMany x1 x3).bind fun v54 => (f_X11_digest_b45 n) thrown ss stateMany text length top bottom v54.2.1 v54.2.2 other otherMany column columnMany carryMany chainMost v54.1 (x3 + 1)))
def f_X11_digest (thrown : Int32) (ss : (Nat → Int32)) (stateMany : Int32) (text : (Nat → Int32)) (length : Int32) (top : Int64) (bottom : Int64) (digit : (Nat → Int32)) (digitMany : Int32) (other : (Nat → Int32)) (otherMany : Int32) (column : (Nat → Int32)) (columnMany : Int32) (carryMany : Int32) (chainMost : Int32) : Option (Int64 × Int32 × Int64 × Int64 × (Nat → Int32) × Int32 × (Nat → Int32) × Int32 × (Nat → Int32) × Int32 × Int32 × Int32) :=
  ((f_X11_greatest ss).bind fun v30 => f_X11_digest_b45 xfuel 0 ss stateMany text length top bottom digit digitMany other otherMany column columnMany carryMany chainMost ((31 * ((31 * ((31 * 4513) + ((ss (0 : Int32).toNatClampNeg).toInt64))) + v30.toInt64)) + stateMany.toInt64) 0)
def iDen : Nat → Int32 := (upd (upd (upd (upd (upd (upd (fun _ => 0) (0 : Int32).toNatClampNeg 1) (1 : Int32).toNatClampNeg 1) (2 : Int32).toNatClampNeg 1) (3 : Int32).toNatClampNeg 1) (4 : Int32).toNatClampNeg 1) (5 : Int32).toNatClampNeg 1)
def iMs : Nat → Int32 := (upd (upd (upd (upd (upd (upd (upd (upd (fun _ => 0) (0 : Int32).toNatClampNeg 6) (1 : Int32).toNatClampNeg (-1)) (9 : Int32).toNatClampNeg 1) (10 : Int32).toNatClampNeg 1) (11 : Int32).toNatClampNeg 1) (12 : Int32).toNatClampNeg 1) (13 : Int32).toNatClampNeg 1) (14 : Int32).toNatClampNeg 1)
def f_L_setBase (now : SC) (hist : HC) (arr : (Nat → Int64)) (a1 : Int32) : Option (Int32 × SC × HC × (Nat → Int64)) :=
  ((f_X10_setBase now hist a1).bind fun v4 => Sum.elim (fun t4 => (if t4.1 = 2 then (some (1, t4.2.1, t4.2.2, arr)) else none)) (fun u4 => (some (0, u4.2.1, u4.2.2, (vp_updL arr (0 : Int32).toNatClampNeg u4.1.toInt64)))) v4)
def f_L_setFraction (now : SC) (hist : HC) (res : RC) (arr : (Nat → Int64)) (a1 : Int32) (a2 : Int32) (a3 : Int32) : Option (Int32 × SC × HC × RC × (Nat → Int64)) :=
  ((f_X10_setFraction now hist res a1 a2 a3).bind fun v7 => Sum.elim (fun t7 => (if t7.1 = 1 then (some (1, t7.2.1, t7.2.2.1, t7.2.2.2, arr)) else (if t7.1 = 2 then (some (2, t7.2.1, t7.2.2.1, t7.2.2.2, arr)) else none))) (fun u7 => (some (0, u7.2.1, u7.2.2.1, u7.2.2.2, (vp_updL arr (0 : Int32).toNatClampNeg u7.1.toInt64)))) v7)
def f_L_add (now : SC) (hist : HC) (res : RC) (arr : (Nat → Int64)) (a1 : Int32) (a2 : Int32) : Option (Int32 × SC × HC × RC × (Nat → Int64)) :=
  ((f_X10_add now hist res a1 a2).bind fun v5 => Sum.elim (fun t5 => (if t5.1 = 1 then (some (1, t5.2.1, t5.2.2.1, t5.2.2.2, arr)) else (if t5.1 = 3 then (some (2, t5.2.1, t5.2.2.1, t5.2.2.2, arr)) else none))) (fun u5 => (some (0, u5.2.1, u5.2.2.1, u5.2.2.2, (vp_updL arr (0 : Int32).toNatClampNeg u5.1.toInt64)))) v5)
def f_L_subtract (now : SC) (hist : HC) (res : RC) (arr : (Nat → Int64)) (a1 : Int32) (a2 : Int32) : Option (Int32 × SC × HC × RC × (Nat → Int64)) :=
  ((f_X10_subtract now hist res a1 a2).bind fun v5 => Sum.elim (fun t5 => (if t5.1 = 1 then (some (1, t5.2.1, t5.2.2.1, t5.2.2.2, arr)) else (if t5.1 = 3 then (some (2, t5.2.1, t5.2.2.1, t5.2.2.2, arr)) else none))) (fun u5 => (some (0, u5.2.1, u5.2.2.1, u5.2.2.2, (vp_updL arr (0 : Int32).toNatClampNeg u5.1.toInt64)))) v5)
def f_L_shift (now : SC) (hist : HC) (res : RC) (arr : (Nat → Int64)) (a1 : Int32) (a2 : Int32) : Option (Int32 × SC × HC × RC × (Nat → Int64)) :=
  ((f_X10_shift now hist res a1 a2).bind fun v5 => Sum.elim (fun t5 => (if t5.1 = 1 then (some (1, t5.2.1, t5.2.2.1, t5.2.2.2, arr)) else (if t5.1 = 2 then (some (2, t5.2.1, t5.2.2.1, t5.2.2.2, arr)) else (if t5.1 = 3 then (some (3, t5.2.1, t5.2.2.1, t5.2.2.2, arr)) else none)))) (fun u5 => (some (0, u5.2.1, u5.2.2.1, u5.2.2.2, (vp_updL arr (0 : Int32).toNatClampNeg u5.1.toInt64)))) v5)
def f_L_pay (now : SC) (hist : HC) (res : RC) (arr : (Nat → Int64)) (a1 : Int32) (a2 : Int32) (a3 : Int32) : Option (Int32 × SC × HC × RC × (Nat → Int64)) :=
  ((f_X10_pay now hist res a1 a2 a3).bind fun v7 => Sum.elim (fun t7 => (if t7.1 = 1 then (some (1, t7.2.1, t7.2.2.1, t7.2.2.2, arr)) else (if t7.1 = 2 then (some (2, t7.2.1, t7.2.2.1, t7.2.2.2, arr)) else (if t7.1 = 3 then (some (3, t7.2.1, t7.2.2.1, t7.2.2.2, arr)) else none)))) (fun u7 => (some (0, u7.2.1, u7.2.2.1, u7.2.2.2, (vp_updL arr (0 : Int32).toNatClampNeg u7.1.toInt64)))) v7)
def f_L_append (ent : EC) (arr : (Nat → Int64)) (a1 : Int32) : Option (Int32 × EC × (Nat → Int64)) :=
  ((f_X10_append ent a1).bind fun v4 => Sum.elim (fun t4 => (if t4.1 = 2 then (some (1, t4.2, arr)) else (if t4.1 = 3 then (some (2, t4.2, arr)) else none))) (fun u4 => (some (0, u4.2, (vp_updL arr (0 : Int32).toNatClampNeg u4.1.toInt64)))) v4)
def f_L_enter (now : SC) (hist : HC) (ent : EC) (res : RC) (num : NC) (arr : (Nat → Int64)) : Option (Int32 × SC × HC × EC × RC × NC × (Nat → Int64)) :=
  ((f_X10_enter now hist ent res num).bind fun v3 => Sum.elim (fun t3 => (if t3.1 = 2 then (some (1, t3.2.1, t3.2.2.1, t3.2.2.2.1, t3.2.2.2.2.1, t3.2.2.2.2.2, arr)) else none)) (fun u3 => (some (0, u3.2.1, u3.2.2.1, u3.2.2.2.1, u3.2.2.2.2.1, u3.2.2.2.2.2, (vp_updL arr (0 : Int32).toNatClampNeg u3.1.toInt64)))) v3)
def f_L_stoppedPart (now : SC) (arr : (Nat → Int64)) : Option (Int32 × (Nat → Int64)) :=
  ((f_X10_stoppedPart now).bind fun v3 => Sum.elim (fun t3 => (if t3 = 3 then (some (1, arr)) else none)) (fun u3 => (some (0, (vp_updL arr (0 : Int32).toNatClampNeg u3.toInt64)))) v3)
def f_L_whyStopped (now : SC) (arr : (Nat → Int64)) : Option (Int32 × (Nat → Int64)) :=
  ((f_X10_whyStopped now).bind fun v3 => Sum.elim (fun t3 => (if t3 = 3 then (some (1, arr)) else none)) (fun u3 => (some (0, (vp_updL arr (0 : Int32).toNatClampNeg u3.toInt64)))) v3)
def f_L_undo (now : SC) (hist : HC) (arr : (Nat → Int64)) : Option (Int32 × SC × HC × (Nat → Int64)) :=
  ((f_X10_undo now hist).bind fun v3 => Sum.elim (fun t3 => (if t3.1 = 3 then (some (1, t3.2.1, t3.2.2, arr)) else none)) (fun u3 => (some (0, u3.2.1, u3.2.2, (vp_updL arr (0 : Int32).toNatClampNeg u3.1.toInt64)))) v3)
def f_L_restore (now : SC) (snap : SC) (has : Int32) (hist : HC) (arr : (Nat → Int64)) : Option (Int32 × SC × HC × (Nat → Int64)) :=
  ((f_X10_restore now snap has hist).bind fun v3 => Sum.elim (fun t3 => (if t3.1 = 3 then (some (1, t3.2.1, t3.2.2, arr)) else none)) (fun u3 => (some (0, u3.2.1, u3.2.2, (vp_updL arr (0 : Int32).toNatClampNeg u3.1.toInt64)))) v3)
def f_L_numerator (now : SC) (arr : (Nat → Int64)) (a1 : Int32) : Option (Int32 × (Nat → Int64)) :=
  ((f_X10_numerator now a1).bind fun v4 => Sum.elim (fun t4 => (if t4 = 1 then (some (1, arr)) else none)) (fun u4 => (some (0, (vp_updL arr (0 : Int32).toNatClampNeg u4.toInt64)))) v4)
def f_L_denominator (now : SC) (arr : (Nat → Int64)) (a1 : Int32) : Option (Int32 × (Nat → Int64)) :=
  ((f_X10_denominator now a1).bind fun v4 => Sum.elim (fun t4 => (if t4 = 1 then (some (1, arr)) else none)) (fun u4 => (some (0, (vp_updL arr (0 : Int32).toNatClampNeg u4.toInt64)))) v4)
def f_L_whole (now : SC) (arr : (Nat → Int64)) (a1 : Int32) : Option (Int32 × (Nat → Int64)) :=
  ((f_X10_whole now a1).bind fun v4 => Sum.elim (fun t4 => (if t4 = 1 then (some (1, arr)) else none)) (fun u4 => (some (0, (vp_updL arr (0 : Int32).toNatClampNeg u4.toInt64)))) v4)
def f_L_compare (now : SC) (arr : (Nat → Int64)) (a1 : Int32) (a2 : Int32) : Option (Int32 × (Nat → Int64)) :=
  ((f_X10_compare now a1 a2).bind fun v5 => Sum.elim (fun t5 => (if t5 = 1 then (some (1, arr)) else none)) (fun u5 => (some (0, (vp_updL arr (0 : Int32).toNatClampNeg u5.toInt64)))) v5)
def f_L_wholeDigits (now : SC) (arr : (Nat → Int64)) (a1 : Int32) : Option (Int32 × (Nat → Int64)) :=
  ((f_X10_wholeDigits now a1).bind fun v4 => Sum.elim (fun t4 => (if t4 = 1 then (some (1, arr)) else none)) (fun u4 => (some (0, (vp_updL arr (0 : Int32).toNatClampNeg u4.toInt64)))) v4)
def f_L_wholeDigit (now : SC) (arr : (Nat → Int64)) (a1 : Int32) (a2 : Int32) : Option (Int32 × (Nat → Int64)) :=
  ((f_X10_wholeDigit now a1 a2).bind fun v5 => Sum.elim (fun t5 => (if t5 = 1 then (some (1, arr)) else none)) (fun u5 => (some (0, (vp_updL arr (0 : Int32).toNatClampNeg u5.toInt64)))) v5)
def f_L_wholeDigitByPowers (now : SC) (arr : (Nat → Int64)) (a1 : Int32) (a2 : Int32) : Option (Int32 × (Nat → Int64)) :=
  ((f_X10_wholeDigitByPowers now a1 a2).bind fun v5 => Sum.elim (fun t5 => (if t5 = 1 then (some (1, arr)) else none)) (fun u5 => (some (0, (vp_updL arr (0 : Int32).toNatClampNeg u5.toInt64)))) v5)
def f_L_digitSum (now : SC) (arr : (Nat → Int64)) (a1 : Int32) : Option (Int32 × (Nat → Int64)) :=
  ((f_X10_digitSum now a1).bind fun v4 => Sum.elim (fun t4 => (if t4 = 1 then (some (1, arr)) else none)) (fun u4 => (some (0, (vp_updL arr (0 : Int32).toNatClampNeg u4.toInt64)))) v4)
def f_L_leftByDigits (now : SC) (arr : (Nat → Int64)) (a1 : Int32) : Option (Int32 × (Nat → Int64)) :=
  ((f_X10_leftByDigits now a1).bind fun v4 => Sum.elim (fun t4 => (if t4 = 1 then (some (1, arr)) else none)) (fun u4 => (some (0, (vp_updL arr (0 : Int32).toNatClampNeg u4.toInt64)))) v4)
def f_L_leftByDividing (now : SC) (arr : (Nat → Int64)) (a1 : Int32) : Option (Int32 × (Nat → Int64)) :=
  ((f_X10_leftByDividing now a1).bind fun v4 => Sum.elim (fun t4 => (if t4 = 1 then (some (1, arr)) else none)) (fun u4 => (some (0, (vp_updL arr (0 : Int32).toNatClampNeg u4.toInt64)))) v4)
def f_L_headLength (now : SC) (arr : (Nat → Int64)) (a1 : Int32) : Option (Int32 × (Nat → Int64)) :=
  ((f_X10_headLength now a1).bind fun v4 => Sum.elim (fun t4 => (if t4 = 1 then (some (1, arr)) else none)) (fun u4 => (some (0, (vp_updL arr (0 : Int32).toNatClampNeg u4.toInt64)))) v4)
def f_L_periodLength (now : SC) (arr : (Nat → Int64)) (a1 : Int32) : Option (Int32 × (Nat → Int64)) :=
  ((f_X10_periodLength now a1).bind fun v4 => Sum.elim (fun t4 => (if t4 = 1 then (some (1, arr)) else none)) (fun u4 => (some (0, (vp_updL arr (0 : Int32).toNatClampNeg u4.toInt64)))) v4)
def f_L_periodByOrder (now : SC) (arr : (Nat → Int64)) (a1 : Int32) : Option (Int32 × (Nat → Int64)) :=
  ((f_X10_periodByOrder now a1).bind fun v4 => Sum.elim (fun t4 => (if t4 = 1 then (some (1, arr)) else none)) (fun u4 => (some (0, (vp_updL arr (0 : Int32).toNatClampNeg u4.toInt64)))) v4)
def f_L_digitBehind (now : SC) (arr : (Nat → Int64)) (a1 : Int32) (a2 : Int32) : Option (Int32 × (Nat → Int64)) :=
  ((f_X10_digitBehind now a1 a2).bind fun v5 => Sum.elim (fun t5 => (if t5 = 1 then (some (1, arr)) else (if t5 = 2 then (some (2, arr)) else none))) (fun u5 => (some (0, (vp_updL arr (0 : Int32).toNatClampNeg u5.toInt64)))) v5)
def f_L_shortestBase (now : SC) (arr : (Nat → Int64)) (a1 : Int32) : Option (Int32 × (Nat → Int64)) :=
  ((f_X10_shortestBase now a1).bind fun v4 => Sum.elim (fun t4 => (if t4 = 1 then (some (1, arr)) else none)) (fun u4 => (some (0, (vp_updL arr (0 : Int32).toNatClampNeg u4.toInt64)))) v4)
def f_L_writtenLength (now : SC) (arr : (Nat → Int64)) (a1 : Int32) : Option (Int32 × (Nat → Int64)) :=
  ((f_X10_writtenLength now a1).bind fun v4 => Sum.elim (fun t4 => (if t4 = 1 then (some (1, arr)) else none)) (fun u4 => (some (0, (vp_updL arr (0 : Int32).toNatClampNeg u4.toInt64)))) v4)
def f_L_writtenAt (now : SC) (arr : (Nat → Int64)) (a1 : Int32) (a2 : Int32) : Option (Int32 × (Nat → Int64)) :=
  ((f_X10_writtenAt now a1 a2).bind fun v5 => Sum.elim (fun t5 => (if t5 = 1 then (some (1, arr)) else none)) (fun u5 => (some (0, (vp_updL arr (0 : Int32).toNatClampNeg u5.toInt64)))) v5)
def f_L_carries (now : SC) (col : CC) (arr : (Nat → Int64)) (a1 : Int32) (a2 : Int32) : Option (Int32 × CC × (Nat → Int64)) :=
  ((f_X10_carries now col a1 a2).bind fun v5 => Sum.elim (fun t5 => (if t5.1 = 1 then (some (1, t5.2, arr)) else none)) (fun u5 => (some (0, u5.2, (vp_updL arr (0 : Int32).toNatClampNeg u5.1.toInt64)))) v5)
def f_L_longestChain (now : SC) (col : CC) (arr : (Nat → Int64)) (a1 : Int32) (a2 : Int32) : Option (Int32 × CC × (Nat → Int64)) :=
  ((f_X10_longestChain now col a1 a2).bind fun v5 => Sum.elim (fun t5 => (if t5.1 = 1 then (some (1, t5.2, arr)) else none)) (fun u5 => (some (0, u5.2, (vp_updL arr (0 : Int32).toNatClampNeg u5.1.toInt64)))) v5)
def f_L_sumDigit (now : SC) (col : CC) (arr : (Nat → Int64)) (a1 : Int32) (a2 : Int32) (a3 : Int32) : Option (Int32 × CC × (Nat → Int64)) :=
  ((f_X10_sumDigit now col a1 a2 a3).bind fun v7 => Sum.elim (fun t7 => (if t7.1 = 1 then (some (1, t7.2, arr)) else none)) (fun u7 => (some (0, u7.2, (vp_updL arr (0 : Int32).toNatClampNeg u7.1.toInt64)))) v7)
def f_L_sumByColumns (now : SC) (col : CC) (arr : (Nat → Int64)) (a1 : Int32) (a2 : Int32) : Option (Int32 × CC × (Nat → Int64)) :=
  ((f_X10_sumByColumns now col a1 a2).bind fun v5 => Sum.elim (fun t5 => (if t5.1 = 1 then (some (1, t5.2, arr)) else none)) (fun u5 => (some (0, u5.2, (vp_updL arr (0 : Int32).toNatClampNeg u5.1)))) v5)
def f_L_readIn (now : SC) (arr : (Nat → Int64)) (a1 : Int32) (a2 : Int32) : Option (Int32 × (Nat → Int64)) :=
  ((f_X10_readIn now a1 a2).bind fun v5 => Sum.elim (fun t5 => (if t5 = 1 then (some (1, arr)) else (if t5 = 2 then (some (2, arr)) else none))) (fun u5 => (some (0, (vp_updL arr (0 : Int32).toNatClampNeg u5)))) v5)
def f_L_whyNoSum (now : SC) (res : RC) (arr : (Nat → Int64)) (a1 : Int32) (a2 : Int32) : Option (Int32 × RC × (Nat → Int64)) :=
  ((f_X10_whyNoSum now res a1 a2).bind fun v5 => Sum.elim (fun t5 => (if t5.1 = 1 then (some (1, t5.2, arr)) else none)) (fun u5 => (some (0, u5.2, (vp_updL arr (0 : Int32).toNatClampNeg u5.1.toInt64)))) v5)
def f_L_periodOfSum (now : SC) (res : RC) (arr : (Nat → Int64)) (a1 : Int32) (a2 : Int32) : Option (Int32 × RC × (Nat → Int64)) :=
  ((f_X10_periodOfSum now res a1 a2).bind fun v5 => Sum.elim (fun t5 => (if t5.1 = 1 then (some (1, t5.2, arr)) else none)) (fun u5 => (some (0, u5.2, (vp_updL arr (0 : Int32).toNatClampNeg u5.1.toInt64)))) v5)
def f_L_shareOf (now : SC) (arr : (Nat → UInt64)) (a1 : Int32) : Option (Int32 × (Nat → UInt64)) :=
  ((f_X10_shareOf now a1).bind fun v4 => Sum.elim (fun t4 => (if t4 = 1 then (some (1, arr)) else none)) (fun u4 => (some (0, (vf_upd arr (0 : Int32).toNatClampNeg u4)))) v4)
def f_L_low (a0 : Int32) (a1 : Int32) : Option Int32 :=
  (if a1 = 0 then none else (some ((a0 &&& 2147483647) - (a0 &&& 2147483647) / a1 * a1)))
def f_L_told_b18 : Nat → SC → Int64 → Int32 → Option Int64
  | 0, _, _, _ => none
  | n + 1, now, x1, x3 =>
    (if 6 ≤ x3 then ((f_X10_hasStopped now).bind fun v60 => (if v60 = 0 then (some ((31 * x1) + ((0 : Int32).toInt64))) else ((f_X10_stoppedPart now).bind fun v70 => Sum.elim (fun t70 => none) (fun u70 => ((f_X10_whyStopped now).bind fun v76 => Sum.elim (fun t76 => none) (fun u76 => (some ((31 * x1) + (((10 * (1 + u70)) + u76).toInt64)))) v76)) v70))) else ((f_X10_numerator now x3).bind fun v34 => Sum.elim (fun t34 => none) (fun u34 => ((f_X10_denominator now x3).bind fun v42 => Sum.elim (fun t42 => none) (fun u42 => (f_L_told_b18 n) now ((31 * ((31 * x1) + u34.toInt64)) + u42.toInt64) (x3 + 1)) v42)) v34))
def f_L_told (now : SC) : Option Int64 :=
  ((f_X10_base now).bind fun v10 => f_L_told_b18 xfuel now ((31 * 3) + v10.toInt64) 0)
def f_L_act_b148 (now : SC) (hist : HC) (res : RC) (t0 : Int32) (t1 : Int32) (t2 : Int32) (t3 : Int32) (t4 : Int32) : Option (Int32 × SC × HC × RC) :=
  ((f_L_low t1 t0).bind fun v148 => ((f_X10_setFraction now hist res t4 t3 (t2 + v148)).bind fun v152 => Sum.elim (fun t152 => none) (fun u152 => (some (1, u152.2.1, u152.2.2.1, u152.2.2.2))) v152))
def f_L_act_b123 (now : SC) (hist : HC) (res : RC) (x2 : Int32) (t0 : Int32) (t1 : Int32) (t2 : Int32) : Option (Int32 × SC × HC × RC) :=
  ((f_L_low t1 t0).bind fun v123 => (if ((x2 >>> ((19 : Int32) &&& 31)) &&& 1) = 0 then f_L_act_b148 now hist res 36 (x2 >>> ((7 : Int32) &&& 31)) 1 v123 t2 else f_L_act_b148 now hist res 999 (x2 >>> ((7 : Int32) &&& 31)) 1 v123 t2))
def f_L_act_b224 (now : SC) (hist : HC) (res : RC) (t0 : Int32) (t1 : Int32) : Option (Int32 × SC × HC × RC) :=
  ((f_X10_shift now hist res t1 t0).bind fun v224 => Sum.elim (fun t224 => none) (fun u224 => (some (1, u224.2.1, u224.2.2.1, u224.2.2.2))) v224)
def f_L_act (now : SC) (hist : HC) (res : RC) (a1 : Int32) (a2 : Int32) : Option (Int32 × SC × HC × RC) :=
  ((f_L_low (a1 >>> ((4 : Int32) &&& 31)) 6).bind fun v5 => ((f_L_low (a1 >>> ((7 : Int32) &&& 31)) 6).bind fun v15 => (if (a1 &&& 15).toInt < 0 ∨ 11 < (a1 &&& 15).toInt then ((f_L_low a2 50).bind fun v234 => (if v5 = v15 then (some (0, now, hist, res)) else ((f_X10_whole now v5).bind fun v248 => Sum.elim (fun t248 => none) (fun u248 => (if u248 < (1 + v234) then (some (0, now, hist, res)) else ((f_X10_numerator now v15).bind fun v259 => Sum.elim (fun t259 => none) (fun u259 => (if u259 ≤ 900000000 then ((f_X10_pay now hist res v5 v15 (1 + v234)).bind fun v275 => Sum.elim (fun t275 => none) (fun u275 => (some (1, u275.2.1, u275.2.2.1, u275.2.2.2))) v275) else (some (0, now, hist, res)))) v259))) v248))) else (if (a1 &&& 15) = 0 then ((f_L_low a2 15).bind fun v93 => ((f_X10_setBase now hist (2 + v93)).bind fun v97 => Sum.elim (fun t97 => none) (fun u97 => (some (1, u97.2.1, u97.2.2, res))) v97)) else (if (a1 &&& 15) = 1 then ((f_L_low a2 15).bind fun v93 => ((f_X10_setBase now hist (2 + v93)).bind fun v97 => Sum.elim (fun t97 => none) (fun u97 => (some (1, u97.2.1, u97.2.2, res))) v97)) else (if (a1 &&& 15) = 2 then (if ((a2 >>> ((20 : Int32) &&& 31)) &&& 1) = 0 then f_L_act_b123 now hist res a2 300 a2 v5 else f_L_act_b123 now hist res a2 1000000000 a2 v5) else (if (a1 &&& 15) = 3 then (if ((a2 >>> ((20 : Int32) &&& 31)) &&& 1) = 0 then f_L_act_b123 now hist res a2 300 a2 v5 else f_L_act_b123 now hist res a2 1000000000 a2 v5) else (if (a1 &&& 15) = 4 then (if ((a2 >>> ((20 : Int32) &&& 31)) &&& 1) = 0 then f_L_act_b123 now hist res a2 300 a2 v5 else f_L_act_b123 now hist res a2 1000000000 a2 v5) else (if (a1 &&& 15) = 5 then (if ((a2 >>> ((20 : Int32) &&& 31)) &&& 1) = 0 then f_L_act_b123 now hist res a2 300 a2 v5 else f_L_act_b123 now hist res a2 1000000000 a2 v5) else (if (a1 &&& 15) = 6 then ((f_X10_whyNoSum now res v5 v15).bind fun v162 => Sum.elim (fun t162 => none) (fun u162 => (if u162.1 ≤ 0 then ((f_X10_add now hist u162.2 v5 v15).bind fun v174 => Sum.elim (fun t174 => none) (fun u174 => (some (1, u174.2.1, u174.2.2.1, u174.2.2.2))) v174) else (some (0, now, hist, u162.2)))) v162) else (if (a1 &&& 15) = 7 then ((f_X10_whyNoSum now res v5 v15).bind fun v162 => Sum.elim (fun t162 => none) (fun u162 => (if u162.1 ≤ 0 then ((f_X10_add now hist u162.2 v5 v15).bind fun v174 => Sum.elim (fun t174 => none) (fun u174 => (some (1, u174.2.1, u174.2.2.1, u174.2.2.2))) v174) else (some (0, now, hist, u162.2)))) v162) else (if (a1 &&& 15) = 8 then ((f_X10_whyNoSum now res v5 v15).bind fun v162 => Sum.elim (fun t162 => none) (fun u162 => (if u162.1 ≤ 0 then ((f_X10_add now hist u162.2 v5 v15).bind fun v174 => Sum.elim (fun t174 => none) (fun u174 => (some (1, u174.2.1, u174.2.2.1, u174.2.2.2))) v174) else (some (0, now, hist, u162.2)))) v162) else (if (a1 &&& 15) = 9 then ((f_X10_subtract now hist res v5 v5).bind fun v183 => Sum.elim (fun t183 => none) (fun u183 => (some (1, u183.2.1, u183.2.2.1, u183.2.2.2))) v183) else (if (a1 &&& 15) = 10 then ((f_X10_denominator now v5).bind fun v191 => Sum.elim (fun t191 => none) (fun u191 => (if 60 < u191 then (some (0, now, hist, res)) else ((f_X10_numerator now v5).bind fun v201 => Sum.elim (fun t201 => none) (fun u201 => (if u201 ≤ 60000000 then (if (a2 &&& 1) = 0 then f_L_act_b224 now hist res 1 v5 else f_L_act_b224 now hist res (-1) v5) else (some (0, now, hist, res)))) v201))) v191) else (if (a1 &&& 15) = 11 then ((f_X10_denominator now v5).bind fun v191 => Sum.elim (fun t191 => none) (fun u191 => (if 60 < u191 then (some (0, now, hist, res)) else ((f_X10_numerator now v5).bind fun v201 => Sum.elim (fun t201 => none) (fun u201 => (if u201 ≤ 60000000 then (if (a2 &&& 1) = 0 then f_L_act_b224 now hist res 1 v5 else f_L_act_b224 now hist res (-1) v5) else (some (0, now, hist, res)))) v201))) v191) else none)))))))))))))))
def f_L_holds_b414 (now : SC) (col : CC) (x1 : Int32) (t0 : Int32) : Option (Int32 × CC) :=
  (if t0 = 0 then (some (0, col)) else ((f_X10_shareOf now x1).bind fun v423 => Sum.elim (fun t423 => none) (fun u423 => (if (Op.cmpValue (FP.dcmp u423 FP.dconst0) CmpOp.l) < 0 then (some (0, col)) else ((f_X10_shareOf now x1).bind fun v433 => Sum.elim (fun t433 => none) (fun u433 => (if 0 < (Op.cmpValue (FP.dcmp u433 FP.dconst1) CmpOp.g) then (some (0, col)) else ((f_X10_numerator now x1).bind fun v443 => Sum.elim (fun t443 => none) (fun u443 => (if u443 < 0 then (some (0, col)) else ((f_X10_numerator now x1).bind fun v451 => Sum.elim (fun t451 => none) (fun u451 => (if 999999999 < u451 then (some (0, col)) else ((f_X10_denominator now x1).bind fun v461 => Sum.elim (fun t461 => none) (fun u461 => (if u461 < 1 then (some (0, col)) else ((f_X10_denominator now x1).bind fun v470 => Sum.elim (fun t470 => none) (fun u470 => (if 999 < u470 then (some (0, col)) else (some (1, col)))) v470))) v461))) v451))) v443))) v433))) v423))
def f_L_holds_b413 (now : SC) (col : CC) (x1 : Int32) : Option (Int32 × CC) :=
  f_L_holds_b414 now col x1 0
def f_L_holds_b378 (now : SC) (col : CC) (x1 : Int32) (x2 : Int32) (t0 : Int32) (t1 : Int32) : Option (Int32 × CC) :=
  (if t1 = t0 then ((f_X10_compare now x1 x2).bind fun v384 => Sum.elim (fun t384 => none) (fun u384 => ((f_X10_compare now x2 x1).bind fun v390 => Sum.elim (fun t390 => none) (fun u390 => (if u384 = (-u390) then ((f_X10_richest now).bind fun v399 => ((f_X10_compare now v399 x1).bind fun v403 => Sum.elim (fun t403 => none) (fun u403 => (if u403 < 0 then f_L_holds_b413 now col x1 else f_L_holds_b414 now col x1 1)) v403)) else f_L_holds_b413 now col x1)) v390)) v384) else f_L_holds_b413 now col x1)
def f_L_holds_b368 (now : SC) (col : CC) (x1 : Int32) (x2 : Int32) (x12 : Int32) (t0 : Int32) : Option (Int32 × CC) :=
  (if x12 = 0 then f_L_holds_b378 now col x1 x2 1 t0 else f_L_holds_b378 now col x1 x2 0 t0)
def f_L_holds_b305 (now : SC) (col : CC) (x1 : Int32) (x2 : Int32) (t0 : Int32) : Option (Int32 × CC) :=
  ((f_X10_carries now col x1 x2).bind fun v310 => Sum.elim (fun t310 => none) (fun u310 => (if t0 = 0 then f_L_holds_b413 now u310.2 x1 else ((f_X10_sumByColumns now u310.2 x1 x2).bind fun v323 => Sum.elim (fun t323 => none) (fun u323 => ((f_X10_whole now x1).bind fun v328 => Sum.elim (fun t328 => none) (fun u328 => ((f_X10_whole now x2).bind fun v334 => Sum.elim (fun t334 => none) (fun u334 => (if u323.1 = (u328.toInt64 + u334.toInt64) then ((f_X10_longestChain now u323.2 x1 x2).bind fun v346 => Sum.elim (fun t346 => none) (fun u346 => (if u310.1 < u346.1 then f_L_holds_b413 now u346.2 x1 else ((f_X10_longestChain now u346.2 x1 x2).bind fun v357 => Sum.elim (fun t357 => none) (fun u357 => (if u357.1 = 0 then f_L_holds_b368 now u357.2 x1 x2 u310.1 1 else f_L_holds_b368 now u357.2 x1 x2 u310.1 0)) v357))) v346) else f_L_holds_b413 now u323.2 x1)) v334)) v328)) v323))) v310)
def f_L_holds_b304 (now : SC) (col : CC) (x1 : Int32) (x2 : Int32) : Option (Int32 × CC) :=
  f_L_holds_b305 now col x1 x2 0
def f_L_holds_b254 (now : SC) (col : CC) (x1 : Int32) (x2 : Int32) (x3 : Int32) (x9 : Int32) (x10 : Int32) (t0 : Int32) (t1 : Int32) : Option (Int32 × CC) :=
  (if t1 = t0 then ((f_X10_digitBehind now x1 (x9 + x3)).bind fun v263 => Sum.elim (fun t263 => none) (fun u263 => ((f_X10_digitBehind now x1 ((x9 + x3) + x10)).bind fun v275 => Sum.elim (fun t275 => none) (fun u275 => (if u263 = u275 then ((f_X10_shortestBase now x1).bind fun v283 => Sum.elim (fun t283 => none) (fun u283 => (if u283 < 2 then f_L_holds_b304 now col x1 x2 else ((f_X10_shortestBase now x1).bind fun v292 => Sum.elim (fun t292 => none) (fun u292 => (if 16 < u292 then f_L_holds_b304 now col x1 x2 else f_L_holds_b305 now col x1 x2 1)) v292))) v283) else f_L_holds_b304 now col x1 x2)) v275)) v263) else f_L_holds_b304 now col x1 x2)
def f_L_holds_b253 (now : SC) (col : CC) (x1 : Int32) (x2 : Int32) (x3 : Int32) (x9 : Int32) (x10 : Int32) (t0 : Int32) (t1 : Int32) (t2 : Int32) : Option (Int32 × CC) :=
  f_L_holds_b254 now col x1 x2 x3 x9 x10 (t1 + t0) t2
def f_L_holds_b207 (now : SC) (col : CC) (x1 : Int32) (x2 : Int32) (x3 : Int32) (x5 : Int32) (x9 : Int32) (x10 : Int32) (t0 : Int32) : Option (Int32 × CC) :=
  (if t0 = 0 then f_L_holds_b304 now col x1 x2 else ((f_X10_writtenLength now x1).bind fun v216 => Sum.elim (fun t216 => none) (fun u216 => ((f_X10_denominator now x1).bind fun v221 => Sum.elim (fun t221 => none) (fun u221 => (if u221 = 1 then f_L_holds_b254 now col x1 x2 x3 x9 x10 x5 u216 else (if x10 ≤ 0 then f_L_holds_b253 now col x1 x2 x3 x9 x10 0 (((x5 + 1) + x9) + x10) u216 else f_L_holds_b253 now col x1 x2 x3 x9 x10 2 (((x5 + 1) + x9) + x10) u216))) v221)) v216))
def f_L_holds_b206 (now : SC) (col : CC) (x1 : Int32) (x2 : Int32) (x3 : Int32) (x5 : Int32) (x9 : Int32) (x10 : Int32) : Option (Int32 × CC) :=
  f_L_holds_b207 now col x1 x2 x3 x5 x9 x10 0
def f_L_holds_b199 (now : SC) (col : CC) (x1 : Int32) (x2 : Int32) (x3 : Int32) (x5 : Int32) (x9 : Int32) (x10 : Int32) (t0 : Int32) (t1 : Int32) : Option (Int32 × CC) :=
  (if t1 = t0 then f_L_holds_b207 now col x1 x2 x3 x5 x9 x10 1 else f_L_holds_b206 now col x1 x2 x3 x5 x9 x10)
def f_L_holds_b185 (now : SC) (col : CC) (x1 : Int32) (x2 : Int32) (x3 : Int32) (x5 : Int32) (x9 : Int32) (x10 : Int32) (t0 : Int32) : Option (Int32 × CC) :=
  ((f_X10_denominator now x1).bind fun v187 => Sum.elim (fun t187 => none) (fun u187 => (if u187 = 1 then f_L_holds_b199 now col x1 x2 x3 x5 x9 x10 1 t0 else f_L_holds_b199 now col x1 x2 x3 x5 x9 x10 0 t0)) v187)
def f_L_holds_b25 : Nat → SC → CC → Int32 → Int32 → Int32 → Int32 → Int32 → Int64 → Int32 → Int32 → Option (Int32 × CC)
  | 0, _, _, _, _, _, _, _, _, _, _ => none
  | n + 1, now, col, x1, x2, x3, x4, x5, x6, x8, x9 =>
    (if x9 < 0 then ((f_X10_headLength now x1).bind fun v92 => Sum.elim (fun t92 => none) (fun u92 => ((f_X10_periodLength now x1).bind fun v99 => Sum.elim (fun t99 => none) (fun u99 => ((f_X10_whole now x1).bind fun v108 => Sum.elim (fun t108 => none) (fun u108 => (if x6 = u108.toInt64 then ((f_X10_readIn now x1 x4).bind fun v120 => Sum.elim (fun t120 => none) (fun u120 => (if u120 = x6 then ((f_X10_digitSum now x1).bind fun v133 => Sum.elim (fun t133 => none) (fun u133 => (if x8 = u133 then ((f_X10_leftByDigits now x1).bind fun v141 => Sum.elim (fun t141 => none) (fun u141 => ((f_X10_leftByDividing now x1).bind fun v146 => Sum.elim (fun t146 => none) (fun u146 => (if u141 = u146 then ((f_X10_periodByOrder now x1).bind fun v156 => Sum.elim (fun t156 => none) (fun u156 => (if u99 = u156 then ((f_X10_denominator now x1).bind fun v166 => Sum.elim (fun t166 => none) (fun u166 => (if u166 ≤ u99 then f_L_holds_b206 now col x1 x2 x3 x5 u92 u99 else (if (u92 + u99) = 0 then f_L_holds_b185 now col x1 x2 x3 x5 u92 u99 1 else f_L_holds_b185 now col x1 x2 x3 x5 u92 u99 0))) v166) else f_L_holds_b206 now col x1 x2 x3 x5 u92 u99)) v156) else f_L_holds_b206 now col x1 x2 x3 x5 u92 u99)) v146)) v141) else f_L_holds_b206 now col x1 x2 x3 x5 u92 u99)) v133) else f_L_holds_b206 now col x1 x2 x3 x5 u92 u99)) v120) else f_L_holds_b206 now col x1 x2 x3 x5 u92 u99)) v108)) v99)) v92) else ((f_X10_wholeDigit now x1 x9).bind fun v34 => Sum.elim (fun t34 => none) (fun u34 => (if u34 < 0 then (some (0, col)) else (if x4 ≤ u34 then (some (0, col)) else ((f_X10_wholeDigitByPowers now x1 x9).bind fun v76 => Sum.elim (fun t76 => none) (fun u76 => (if u34 = u76 then (f_L_holds_b25 n) now col x1 x2 x3 x4 x5 ((x6 * x4.toInt64) + u34.toInt64) (x8 + u34) (x9 + (-1)) else (some (0, col)))) v76)))) v34))
def f_L_holds (now : SC) (col : CC) (a1 : Int32) (a2 : Int32) (a3 : Int32) : Option (Int32 × CC) :=
  ((f_X10_base now).bind fun v1 => ((f_X10_wholeDigits now a1).bind fun v8 => Sum.elim (fun t8 => none) (fun u8 => f_L_holds_b25 xfuel now col a1 a2 a3 v1 u8 0 0 (u8 - 1)) v8))
def f_L_cell (xs : Nat → Int32) (L : Nat) (a1 : Int32) : Option Int32 :=
  (if (Int32.ofNat L) ≤ a1 then (some ((7919 * (a1 + 3)) * (a1 + 11))) else (if a1 < 0 ∨ L ≤ a1.toNatClampNeg then none else (some (xs a1.toNatClampNeg))))
def f_L_law_b263 (k82 : (Nat → Int32) → Nat → SC → HC → RC → CC → Int32 → Option Int32) (xs : (Nat → Int32)) (L : Nat) (now : SC) (hist : HC) (res : RC) (col : CC) (x2 : Int32) (x3 : Int32) (x4 : Int32) : Option Int32 :=
  ((f_L_low (x3 >>> ((4 : Int32) &&& 31)) 6).bind fun v269 => ((f_L_low (x4 >>> ((3 : Int32) &&& 31)) 6).bind fun v278 => ((f_L_low x4 30).bind fun v285 => ((f_L_holds now col v269 v278 v285).bind fun v288 => (if v288.1 = 0 then (some 0) else k82 xs L now hist res v288.2 (x2 + 1))))))
def f_L_law_b200 (k82 : (Nat → Int32) → Nat → SC → HC → RC → CC → Int32 → Option Int32) (xs : (Nat → Int32)) (L : Nat) (now : SC) (hist : HC) (res : RC) (col : CC) (x2 : Int32) (x3 : Int32) (x4 : Int32) (x5 : Int64) (x8 : Int32) (x9 : Int64) : Option Int32 :=
  (if x8 = 0 then f_L_law_b263 k82 xs L now hist res col x2 x3 x4 else (if ((x3 >>> ((20 : Int32) &&& 31)) &&& 1) = 0 then ((f_X10_savedStates hist).bind fun v215 => ((f_X10_undo now hist).bind fun v223 => Sum.elim (fun t223 => none) (fun u223 => (if u223.1 = (v215 - 1) then ((f_L_told u223.2.1).bind fun v232 => (if v232 = x5 then ((f_L_act u223.2.1 u223.2.2 res x3 x4).bind fun v245 => (if v245.1 = 0 then (some 0) else ((f_L_told v245.2.1).bind fun v252 => (if v252 = x9 then f_L_law_b263 k82 xs L v245.2.1 v245.2.2.1 v245.2.2.2 col x2 x3 x4 else (some 0))))) else (some 0))) else (some 0))) v223)) else f_L_law_b263 k82 xs L now hist res col x2 x3 x4))
def f_L_law_b195 (k82 : (Nat → Int32) → Nat → SC → HC → RC → CC → Int32 → Option Int32) (xs : (Nat → Int32)) (L : Nat) (now : SC) (hist : HC) (res : RC) (col : CC) (x2 : Int32) (x3 : Int32) (x4 : Int32) (x5 : Int64) (x8 : Int32) (x9 : Int64) (t0 : Int32) (t1 : Int32) : Option Int32 :=
  (if t1 = t0 then f_L_law_b200 k82 xs L now hist res col x2 x3 x4 x5 x8 x9 else (some 0))
def f_L_law_b111 (k82 : (Nat → Int32) → Nat → SC → HC → RC → CC → Int32 → Option Int32) (xs : (Nat → Int32)) (L : Nat) (now : SC) (hist : HC) (res : RC) (col : CC) (x2 : Int32) (t0 : Int32) : Option Int32 :=
  ((f_L_cell xs L ((2 * x2) + 1)).bind fun v118 => ((f_L_told now).bind fun v124 => ((f_X10_savedStates hist).bind fun v130 => ((f_L_act now hist res t0 v118).bind fun v139 => ((f_L_told v139.2.1).bind fun v145 => (if v139.1 = 0 then (if v145 = v124 then ((f_X10_savedStates v139.2.2.1).bind fun v164 => (if v164 = v130 then f_L_law_b200 k82 xs L v139.2.1 v139.2.2.1 v139.2.2.2 col x2 t0 v118 v124 v139.1 v145 else (some 0))) else (some 0)) else ((f_X10_savedStates v139.2.2.1).bind fun v176 => (if 6 ≤ v130 then f_L_law_b195 k82 xs L v139.2.1 v139.2.2.1 v139.2.2.2 col x2 t0 v118 v124 v139.1 v145 6 v176 else f_L_law_b195 k82 xs L v139.2.1 v139.2.2.1 v139.2.2.2 col x2 t0 v118 v124 v139.1 v145 (v130 + 1) v176))))))))
def f_L_law_b82 : Nat → (Nat → Int32) → Nat → SC → HC → RC → CC → Int32 → Option Int32
  | 0, _, _, _, _, _, _, _ => none
  | n + 1, xs, L, now, hist, res, col, x2 =>
    (if 40 ≤ x2 then (some 1) else ((f_L_cell xs L (2 * x2)).bind fun v92 => (if 3 ≤ x2 then f_L_law_b111 (f_L_law_b82 n) xs L now hist res col x2 v92 else f_L_law_b111 (f_L_law_b82 n) xs L now hist res col x2 ((v92 &&& (-16)) ||| 2))))
def f_L_law_b8 (xs : (Nat → Int32)) (L : Nat) (now : SC) (hist : HC) (res : RC) (col : CC) : Option Int32 :=
  ((f_X10_savedStates hist).bind fun v9 => (if v9 = 0 then ((f_X10_base now).bind fun v16 => (if v16 = 6 then ((f_X10_numerator now 5).bind fun v26 => Sum.elim (fun t26 => none) (fun u26 => (if u26 = 0 then ((f_X10_denominator now 0).bind fun v34 => Sum.elim (fun t34 => none) (fun u34 => (if u34 = 1 then ((f_X10_wholeDigits now 2).bind fun v43 => Sum.elim (fun t43 => none) (fun u43 => (if u43 = 1 then ((f_X10_writtenAt now 2 0).bind fun v53 => Sum.elim (fun t53 => none) (fun u53 => (if u53 = 48 then ((f_X10_hasStopped now).bind fun v62 => (if v62 = 0 then ((f_X10_shareOf now 1).bind fun v70 => Sum.elim (fun t70 => none) (fun u70 => (if (Op.cmpValue (FP.dcmp u70 FP.dconst0) CmpOp.l) = 0 then f_L_law_b82 xfuel xs L now hist res col 0 else (some 0))) v70) else (some 0))) else (some 0))) v53) else (some 0))) v43) else (some 0))) v34) else (some 0))) v26) else (some 0))) else (some 0)))
def law_run (xs : Nat → Int32) (L : Nat) : Option Int32 := f_L_law_b8 xs L (6, 0, 0, (fun _ => 0), iDen) (0, 0, fun _ => (6, 0, 0, (fun _ => 0), iDen)) (0, 1) (0, 0, 0, (fun _ => 0))
