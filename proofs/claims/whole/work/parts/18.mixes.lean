theorem se_l {α β γ : Type} {f : α → γ} {g : β → γ} {a : α} {o : γ} (h : Sum.elim f g (Sum.inl a) = o) : f a = o := h
theorem se_r {α β γ : Type} {f : α → γ} {g : β → γ} {a : β} {o : γ} (h : Sum.elim f g (Sum.inr a) = o) : g a = o := h
theorem k_X10_mixWhole : xKV yX10_mixWhole cX10_mixWhole 8 (some .long) 2 := ⟨qw363, qw3, qw66, qw364, by decide +kernel, by decide +kernel, by decide +kernel⟩
set_option maxHeartbeats 4000000 in
set_option maxRecDepth 100000 in
theorem met_X10_mixWhole (l : Launch) (g : xG) (h : Nat → Nat) (now : SC) (snap : SC) (has : Int32) (hist : HC) (ent : EC) (res : RC) (num : NC) (col : CC) (a1 : Int64) (a2 : Int32) (out : Int64) (hf : f_X10_mixWhole now a1 a2 = some out) : xM l yX10_mixWhole (xC yX10_mixWhole cX10_mixWhole 8 (some .long)) { frames := 5, cells := 0, slots := 0, locals := 116 } g (wC g h now snap has hist ent res num col) [.ref (h 0), .long a1, .int a2] (some (.long out)) (wC g h now snap has hist ent res num col) := by
  refine xof (by decide) (Nat.le_of_ble_eq_true rfl) ⟨rfl, rfl⟩ ?_
  intro p e s m below meth c A ls E hr hlocks hw hl hpost hAe
  have hx := E.1.1
  have hb := E.1.2.1
  have hown := E.1.2.2.2.1
  have hts := E.1.2.2.2.2
  generalize hZ : (MQ below (xPost g (wC g h now snap has hist ent res num col) (wC g h now snap has hist ent res num col) s.heap.size (some (.long out))) [.ref (h 0), .long a1, .int a2].toArray s 0 0 A) = ZZ
  have hret : ∀ (pc : Nat) (H : Heap) (locs : List Loc) (ls : Array Slot) (v : Int64), v = out → decode cX10_mixWhole pc = .ok (.lreturn, 1) → xW g A s.heap (wC g h now snap has hist ent res num col) H locs → W p l e { frames := 5, cells := 0, slots := 0, locals := 116 } s m [.ref (h 0), .long a1, .int a2].toArray below meth c H locs 0 0 ZZ (F0 m pc ls [.long v]) := by
    intro pc H locs ls v he hd hw
    subst he
    rw [← hZ]
    exact W.lret hx hb hr (hpost H locs hw).1 (hpost H locs hw).2 hd hlocks
  clear hpost
  have b58 : ∀ n58 : Nat, ∀ (H : Heap) (locs : List Loc) (ls : Array Slot) (x3 : Int32) (x4 : Int32) (x5 : Int64) (x7 : Int32), xW g A s.heap (wC g h now snap has hist ent res num col) H locs → lv_has ls 8 [(0, .ref (h 0)), (3, .int x3), (4, .int x4), (5, .long x5), (7, .int x7)] → f_X10_mixWhole_b58 n58 now x3 x4 x5 x7 = some out → W p l e { frames := 5, cells := 0, slots := 0, locals := 116 } s m [.ref (h 0), .long a1, .int a2].toArray below meth c H locs 0 0 ZZ (F0 m 58 ls []) := by
    intro n58
    induction n58 with
    | zero =>
      intro H locs ls x3 x4 x5 x7 hw hl hf
      exact nn hf
    | succ n58 ih58 =>
      intro H locs ls x3 x4 x5 x7 hw hl hf
      refine lv_iload hx hb dX10_mixWhole_58 (lv_at hl 4 rfl) ?_
      refine lv_iload hx hb dX10_mixWhole_60 (lv_at hl 2 rfl) ?_
      refine lv_icmp_ge (tgt := 101) hx hb dX10_mixWhole_62 (by decide) (fun c62 => ?_) (fun c62 => ?_)
      · replace hf := ip c62 hf
        refine lv_lload hx hb dX10_mixWhole_101 (lv_at hl 3 rfl) ?_
        refine lv_aload_n hx hb dX10_mixWhole_103 rfl (lv_at hl 0 rfl) ?_
        refine lv_iload_n hx hb dX10_mixWhole_104 rfl (lv_at hl 1 rfl) ?_
        obtain ⟨v105, hv105, hf⟩ := ob_e hf
        rcases v105 with t105 | u105
        · replace hf := se_l hf
          exact nn hf
        · replace hf := se_r hf
          refine xcallV (ws' := (wC g h now snap has hist ent res num col)) (st1 := [.int u105, .long x5]) (n := 34) E hw [.int x3] [0, 1, 2, 3, 4, 5, 6, 7, 8, 9, 10, 11, 12, 13, 14, 15, 16, 17, 18, 19, 20, 21, 22, 23, 24, 25, 26, 27, 28, 29, 30, 31, 32, 33] (met_X10_digitSum l g h now snap has hist ent res num col x3 u105 hv105) rfl (by decide) rfl rfl [34, 35, 36, 37, 38, 39, 40, 41, 42, 43, 44, 45, 46, 47, 48, 49, 50, 51, 52, 53, 54, 55, 56, 57, 58, 59, 60, 61, 62, 63, 64, 65, 66, 67] rfl (by decide +kernel) rfl rfl rfl rfl qw488 k_X10_digitSum ⟨rfl, rfl, Nat.le_of_ble_eq_true rfl, Nat.le_of_ble_eq_true rfl⟩ ⟨Nat.zero_le _, Nat.zero_le _⟩ hl.1 (Nat.le_of_ble_eq_true rfl) dX10_mixWhole_105 rfl (fun H locs hw => ?_)
          refine lv_i2l hx hb dX10_mixWhole_108 rfl ?_
          obtain ⟨v109, hv109, hf⟩ := ob_e hf
          refine xcallS (ws' := (wC g h now snap has hist ent res num col)) (st1 := [.long v109]) (n := 34) E hw [.long x5, .long u105.toInt64] [] (met_X10_mix l g x5 u105.toInt64 v109 hv109) rfl (by decide) rfl rfl [0, 1, 2, 3, 4, 5, 6, 7, 8, 9, 10, 11, 12, 13, 14, 15, 16, 17, 18, 19, 20, 21, 22, 23, 24, 25, 26, 27, 28, 29, 30, 31, 32, 33] rfl (by decide +kernel) rfl qw356 k_X10_mix ⟨rfl, rfl, Nat.le_of_ble_eq_true rfl, Nat.le_of_ble_eq_true rfl⟩ ⟨Nat.zero_le _, Nat.zero_le _⟩ hl.1 (Nat.le_of_ble_eq_true rfl) dX10_mixWhole_109 rfl (fun H locs hw => ?_)
          refine lv_lstore (lv' := [(5, .long v109), (0, .ref (h 0)), (3, .int x3), (4, .int x4), (7, .int x7)]) hx hb dX10_mixWhole_112 hl (by decide) rfl (fun ls hl => ?_)
          refine lv_lload hx hb dX10_mixWhole_114 (lv_at hl 0 rfl) ?_
          refine lv_aload_n hx hb dX10_mixWhole_116 rfl (lv_at hl 1 rfl) ?_
          refine lv_iload_n hx hb dX10_mixWhole_117 rfl (lv_at hl 2 rfl) ?_
          obtain ⟨v118, hv118, hf⟩ := ob_e hf
          rcases v118 with t118 | u118
          · replace hf := se_l hf
            exact nn hf
          · replace hf := se_r hf
            refine xcallV (ws' := (wC g h now snap has hist ent res num col)) (st1 := [.int u118, .long v109]) (n := 34) E hw [.int x3] [0, 1, 2, 3, 4, 5, 6, 7, 8, 9, 10, 11, 12, 13, 14, 15, 16, 17, 18, 19, 20, 21, 22, 23, 24, 25, 26, 27, 28, 29, 30, 31, 32, 33] (met_X10_leftByDigits l g h now snap has hist ent res num col x3 u118 hv118) rfl (by decide) rfl rfl [34, 35, 36, 37, 38, 39, 40, 41, 42, 43, 44, 45, 46, 47, 48, 49, 50, 51, 52, 53, 54, 55, 56, 57, 58, 59, 60, 61, 62, 63, 64, 65, 66, 67] rfl (by decide +kernel) rfl rfl rfl rfl qw495 k_X10_leftByDigits ⟨rfl, rfl, Nat.le_of_ble_eq_true rfl, Nat.le_of_ble_eq_true rfl⟩ ⟨Nat.zero_le _, Nat.zero_le _⟩ hl.1 (Nat.le_of_ble_eq_true rfl) dX10_mixWhole_118 rfl (fun H locs hw => ?_)
            refine lv_i2l hx hb dX10_mixWhole_121 rfl ?_
            obtain ⟨v122, hv122, hf⟩ := ob_e hf
            refine xcallS (ws' := (wC g h now snap has hist ent res num col)) (st1 := [.long v122]) (n := 34) E hw [.long v109, .long u118.toInt64] [] (met_X10_mix l g v109 u118.toInt64 v122 hv122) rfl (by decide) rfl rfl [0, 1, 2, 3, 4, 5, 6, 7, 8, 9, 10, 11, 12, 13, 14, 15, 16, 17, 18, 19, 20, 21, 22, 23, 24, 25, 26, 27, 28, 29, 30, 31, 32, 33] rfl (by decide +kernel) rfl qw356 k_X10_mix ⟨rfl, rfl, Nat.le_of_ble_eq_true rfl, Nat.le_of_ble_eq_true rfl⟩ ⟨Nat.zero_le _, Nat.zero_le _⟩ hl.1 (Nat.le_of_ble_eq_true rfl) dX10_mixWhole_122 rfl (fun H locs hw => ?_)
            refine lv_lstore (lv' := [(5, .long v122), (0, .ref (h 0)), (3, .int x3), (4, .int x4), (7, .int x7)]) hx hb dX10_mixWhole_125 hl (by decide) rfl (fun ls hl => ?_)
            refine lv_lload hx hb dX10_mixWhole_127 (lv_at hl 0 rfl) ?_
            refine lv_aload_n hx hb dX10_mixWhole_129 rfl (lv_at hl 1 rfl) ?_
            refine lv_iload_n hx hb dX10_mixWhole_130 rfl (lv_at hl 2 rfl) ?_
            obtain ⟨v131, hv131, hf⟩ := ob_e hf
            rcases v131 with t131 | u131
            · replace hf := se_l hf
              exact nn hf
            · replace hf := se_r hf
              refine xcallV (ws' := (wC g h now snap has hist ent res num col)) (st1 := [.int u131, .long v122]) (n := 34) E hw [.int x3] [0, 1, 2, 3, 4, 5, 6, 7, 8, 9, 10, 11, 12, 13, 14, 15, 16, 17, 18, 19, 20, 21, 22, 23, 24, 25, 26, 27, 28, 29, 30, 31, 32, 33] (met_X10_leftByDividing l g h now snap has hist ent res num col x3 u131 hv131) rfl (by decide) rfl rfl [34, 35, 36, 37, 38, 39, 40, 41, 42, 43, 44, 45, 46, 47, 48, 49, 50, 51, 52, 53, 54, 55, 56, 57, 58, 59, 60, 61, 62, 63, 64, 65, 66, 67] rfl (by decide +kernel) rfl rfl rfl rfl qw500 k_X10_leftByDividing ⟨rfl, rfl, Nat.le_of_ble_eq_true rfl, Nat.le_of_ble_eq_true rfl⟩ ⟨Nat.zero_le _, Nat.zero_le _⟩ hl.1 (Nat.le_of_ble_eq_true rfl) dX10_mixWhole_131 rfl (fun H locs hw => ?_)
              refine lv_i2l hx hb dX10_mixWhole_134 rfl ?_
              obtain ⟨v135, hv135, hf⟩ := ob_e hf
              refine xcallS (ws' := (wC g h now snap has hist ent res num col)) (st1 := [.long v135]) (n := 34) E hw [.long v122, .long u131.toInt64] [] (met_X10_mix l g v122 u131.toInt64 v135 hv135) rfl (by decide) rfl rfl [0, 1, 2, 3, 4, 5, 6, 7, 8, 9, 10, 11, 12, 13, 14, 15, 16, 17, 18, 19, 20, 21, 22, 23, 24, 25, 26, 27, 28, 29, 30, 31, 32, 33] rfl (by decide +kernel) rfl qw356 k_X10_mix ⟨rfl, rfl, Nat.le_of_ble_eq_true rfl, Nat.le_of_ble_eq_true rfl⟩ ⟨Nat.zero_le _, Nat.zero_le _⟩ hl.1 (Nat.le_of_ble_eq_true rfl) dX10_mixWhole_135 rfl (fun H locs hw => ?_)
              exact hret _ _ _ _ _ (Option.some.inj hf) dX10_mixWhole_138 hw
      · replace hf := iq c62 hf
        refine lv_lload hx hb dX10_mixWhole_65 (lv_at hl 3 rfl) ?_
        refine lv_aload_n hx hb dX10_mixWhole_67 rfl (lv_at hl 0 rfl) ?_
        refine lv_iload_n hx hb dX10_mixWhole_68 rfl (lv_at hl 1 rfl) ?_
        refine lv_iload hx hb dX10_mixWhole_69 (lv_at hl 4 rfl) ?_
        obtain ⟨v71, hv71, hf⟩ := ob_e hf
        rcases v71 with t71 | u71
        · replace hf := se_l hf
          exact nn hf
        · replace hf := se_r hf
          refine xcallV (ws' := (wC g h now snap has hist ent res num col)) (st1 := [.int u71, .long x5]) (n := 34) E hw [.int x3, .int x7] [0, 1, 2, 3, 4, 5, 6, 7, 8, 9, 10, 11, 12, 13, 14, 15, 16, 17, 18, 19, 20, 21, 22, 23, 24, 25, 26, 27, 28, 29, 30, 31, 32, 33] (met_X10_wholeDigit l g h now snap has hist ent res num col x3 x7 u71 hv71) rfl (by decide) rfl rfl [34, 35, 36, 37, 38, 39, 40, 41, 42, 43, 44, 45, 46, 47, 48, 49, 50, 51, 52, 53, 54, 55, 56, 57, 58, 59, 60, 61, 62, 63, 64, 65, 66, 67] rfl (by decide +kernel) rfl rfl rfl rfl qw462 k_X10_wholeDigit ⟨rfl, rfl, Nat.le_of_ble_eq_true rfl, Nat.le_of_ble_eq_true rfl⟩ ⟨Nat.zero_le _, Nat.zero_le _⟩ hl.1 (Nat.le_of_ble_eq_true rfl) dX10_mixWhole_71 rfl (fun H locs hw => ?_)
          refine lv_i2l hx hb dX10_mixWhole_74 rfl ?_
          obtain ⟨v75, hv75, hf⟩ := ob_e hf
          refine xcallS (ws' := (wC g h now snap has hist ent res num col)) (st1 := [.long v75]) (n := 34) E hw [.long x5, .long u71.toInt64] [] (met_X10_mix l g x5 u71.toInt64 v75 hv75) rfl (by decide) rfl rfl [0, 1, 2, 3, 4, 5, 6, 7, 8, 9, 10, 11, 12, 13, 14, 15, 16, 17, 18, 19, 20, 21, 22, 23, 24, 25, 26, 27, 28, 29, 30, 31, 32, 33] rfl (by decide +kernel) rfl qw356 k_X10_mix ⟨rfl, rfl, Nat.le_of_ble_eq_true rfl, Nat.le_of_ble_eq_true rfl⟩ ⟨Nat.zero_le _, Nat.zero_le _⟩ hl.1 (Nat.le_of_ble_eq_true rfl) dX10_mixWhole_75 rfl (fun H locs hw => ?_)
          refine lv_lstore (lv' := [(5, .long v75), (0, .ref (h 0)), (3, .int x3), (4, .int x4), (7, .int x7)]) hx hb dX10_mixWhole_78 hl (by decide) rfl (fun ls hl => ?_)
          refine lv_lload hx hb dX10_mixWhole_80 (lv_at hl 0 rfl) ?_
          refine lv_aload_n hx hb dX10_mixWhole_82 rfl (lv_at hl 1 rfl) ?_
          refine lv_iload_n hx hb dX10_mixWhole_83 rfl (lv_at hl 2 rfl) ?_
          refine lv_iload hx hb dX10_mixWhole_84 (lv_at hl 4 rfl) ?_
          obtain ⟨v86, hv86, hf⟩ := ob_e hf
          rcases v86 with t86 | u86
          · replace hf := se_l hf
            exact nn hf
          · replace hf := se_r hf
            refine xcallV (ws' := (wC g h now snap has hist ent res num col)) (st1 := [.int u86, .long v75]) (n := 34) E hw [.int x3, .int x7] [0, 1, 2, 3, 4, 5, 6, 7, 8, 9, 10, 11, 12, 13, 14, 15, 16, 17, 18, 19, 20, 21, 22, 23, 24, 25, 26, 27, 28, 29, 30, 31, 32, 33] (met_X10_wholeDigitByPowers l g h now snap has hist ent res num col x3 x7 u86 hv86) rfl (by decide) rfl rfl [34, 35, 36, 37, 38, 39, 40, 41, 42, 43, 44, 45, 46, 47, 48, 49, 50, 51, 52, 53, 54, 55, 56, 57, 58, 59, 60, 61, 62, 63, 64, 65, 66, 67] rfl (by decide +kernel) rfl rfl rfl rfl qw477 k_X10_wholeDigitByPowers ⟨rfl, rfl, Nat.le_of_ble_eq_true rfl, Nat.le_of_ble_eq_true rfl⟩ ⟨Nat.zero_le _, Nat.zero_le _⟩ hl.1 (Nat.le_of_ble_eq_true rfl) dX10_mixWhole_86 rfl (fun H locs hw => ?_)
            refine lv_i2l hx hb dX10_mixWhole_89 rfl ?_
            obtain ⟨v90, hv90, hf⟩ := ob_e hf
            refine xcallS (ws' := (wC g h now snap has hist ent res num col)) (st1 := [.long v90]) (n := 34) E hw [.long v75, .long u86.toInt64] [] (met_X10_mix l g v75 u86.toInt64 v90 hv90) rfl (by decide) rfl rfl [0, 1, 2, 3, 4, 5, 6, 7, 8, 9, 10, 11, 12, 13, 14, 15, 16, 17, 18, 19, 20, 21, 22, 23, 24, 25, 26, 27, 28, 29, 30, 31, 32, 33] rfl (by decide +kernel) rfl qw356 k_X10_mix ⟨rfl, rfl, Nat.le_of_ble_eq_true rfl, Nat.le_of_ble_eq_true rfl⟩ ⟨Nat.zero_le _, Nat.zero_le _⟩ hl.1 (Nat.le_of_ble_eq_true rfl) dX10_mixWhole_90 rfl (fun H locs hw => ?_)
            refine lv_lstore (lv' := [(5, .long v90), (0, .ref (h 0)), (3, .int x3), (4, .int x4), (7, .int x7)]) hx hb dX10_mixWhole_93 hl (by decide) rfl (fun ls hl => ?_)
            refine lv_iinc (v := x7 + 1) (lv' := [(7, .int (x7 + 1)), (5, .long v90), (0, .ref (h 0)), (3, .int x3), (4, .int x4)]) hx hb dX10_mixWhole_95 hl (k := 4) rfl rfl (by decide) rfl (fun ls hl => ?_)
            refine lv_goto (tgt := 58) hx hb dX10_mixWhole_98 (by decide) ?_
            exact ih58 _ _ _ x3 x4 v90 (x7 + 1) hw (lv_sub hl [2, 3, 4, 1, 0] rfl) hf
  refine lv_aload_n hx hb dX10_mixWhole_0 rfl (lv_at hl 0 rfl) ?_
  refine lv_iload_n hx hb dX10_mixWhole_1 rfl (lv_at hl 2 rfl) ?_
  obtain ⟨v2, hv2, hf⟩ := ob_e hf
  rcases v2 with t2 | u2
  · replace hf := se_l hf
    exact nn hf
  · replace hf := se_r hf
    refine xcallV (ws' := (wC g h now snap has hist ent res num col)) (st1 := [.int u2]) (n := 34) E hw [.int a2] [0, 1, 2, 3, 4, 5, 6, 7, 8, 9, 10, 11, 12, 13, 14, 15, 16, 17, 18, 19, 20, 21, 22, 23, 24, 25, 26, 27, 28, 29, 30, 31, 32, 33] (met_X10_wholeDigits l g h now snap has hist ent res num col a2 u2 hv2) rfl (by decide) rfl rfl [34, 35, 36, 37, 38, 39, 40, 41, 42, 43, 44, 45, 46, 47, 48, 49, 50, 51, 52, 53, 54, 55, 56, 57, 58, 59, 60, 61, 62, 63, 64, 65, 66, 67] rfl (by decide +kernel) rfl rfl rfl rfl qw365 k_X10_wholeDigits ⟨rfl, rfl, Nat.le_of_ble_eq_true rfl, Nat.le_of_ble_eq_true rfl⟩ ⟨Nat.zero_le _, Nat.zero_le _⟩ hl.1 (Nat.le_of_ble_eq_true rfl) dX10_mixWhole_2 rfl (fun H locs hw => ?_)
    refine lv_istore (lv' := [(4, .int u2), (0, .ref (h 0)), (1, .long a1), (3, .int a2)]) hx hb dX10_mixWhole_5 hl (by decide) rfl (fun ls hl => ?_)
    refine lv_lload_n hx hb dX10_mixWhole_7 rfl (lv_at hl 2 rfl) ?_
    refine lv_aload_n hx hb dX10_mixWhole_8 rfl (lv_at hl 1 rfl) ?_
    refine lv_iload_n hx hb dX10_mixWhole_9 rfl (lv_at hl 3 rfl) ?_
    obtain ⟨v10, hv10, hf⟩ := ob_e hf
    rcases v10 with t10 | u10
    · replace hf := se_l hf
      exact nn hf
    · replace hf := se_r hf
      refine xcallV (ws' := (wC g h now snap has hist ent res num col)) (st1 := [.int u10, .long a1]) (n := 34) E hw [.int a2] [0, 1, 2, 3, 4, 5, 6, 7, 8, 9, 10, 11, 12, 13, 14, 15, 16, 17, 18, 19, 20, 21, 22, 23, 24, 25, 26, 27, 28, 29, 30, 31, 32, 33] (met_X10_numerator l g h now snap has hist ent res num col a2 u10 hv10) rfl (by decide) rfl rfl [34, 35, 36, 37, 38, 39, 40, 41, 42, 43, 44, 45, 46, 47, 48, 49, 50, 51, 52, 53, 54, 55, 56, 57, 58, 59, 60, 61, 62, 63, 64, 65, 66, 67] rfl (by decide +kernel) rfl rfl rfl rfl qw450 k_X10_numerator ⟨rfl, rfl, Nat.le_of_ble_eq_true rfl, Nat.le_of_ble_eq_true rfl⟩ ⟨Nat.zero_le _, Nat.zero_le _⟩ hl.1 (Nat.le_of_ble_eq_true rfl) dX10_mixWhole_10 rfl (fun H locs hw => ?_)
      refine lv_i2l hx hb dX10_mixWhole_13 rfl ?_
      obtain ⟨v14, hv14, hf⟩ := ob_e hf
      refine xcallS (ws' := (wC g h now snap has hist ent res num col)) (st1 := [.long v14]) (n := 34) E hw [.long a1, .long u10.toInt64] [] (met_X10_mix l g a1 u10.toInt64 v14 hv14) rfl (by decide) rfl rfl [0, 1, 2, 3, 4, 5, 6, 7, 8, 9, 10, 11, 12, 13, 14, 15, 16, 17, 18, 19, 20, 21, 22, 23, 24, 25, 26, 27, 28, 29, 30, 31, 32, 33] rfl (by decide +kernel) rfl qw356 k_X10_mix ⟨rfl, rfl, Nat.le_of_ble_eq_true rfl, Nat.le_of_ble_eq_true rfl⟩ ⟨Nat.zero_le _, Nat.zero_le _⟩ hl.1 (Nat.le_of_ble_eq_true rfl) dX10_mixWhole_14 rfl (fun H locs hw => ?_)
      refine lv_lstore (lv' := [(5, .long v14), (4, .int u2), (0, .ref (h 0)), (1, .long a1), (3, .int a2)]) hx hb dX10_mixWhole_17 hl (by decide) rfl (fun ls hl => ?_)
      refine lv_lload hx hb dX10_mixWhole_19 (lv_at hl 0 rfl) ?_
      refine lv_aload_n hx hb dX10_mixWhole_21 rfl (lv_at hl 2 rfl) ?_
      refine lv_iload_n hx hb dX10_mixWhole_22 rfl (lv_at hl 4 rfl) ?_
      obtain ⟨v23, hv23, hf⟩ := ob_e hf
      rcases v23 with t23 | u23
      · replace hf := se_l hf
        exact nn hf
      · replace hf := se_r hf
        refine xcallV (ws' := (wC g h now snap has hist ent res num col)) (st1 := [.int u23, .long v14]) (n := 34) E hw [.int a2] [0, 1, 2, 3, 4, 5, 6, 7, 8, 9, 10, 11, 12, 13, 14, 15, 16, 17, 18, 19, 20, 21, 22, 23, 24, 25, 26, 27, 28, 29, 30, 31, 32, 33] (met_X10_denominator l g h now snap has hist ent res num col a2 u23 hv23) rfl (by decide) rfl rfl [34, 35, 36, 37, 38, 39, 40, 41, 42, 43, 44, 45, 46, 47, 48, 49, 50, 51, 52, 53, 54, 55, 56, 57, 58, 59, 60, 61, 62, 63, 64, 65, 66, 67] rfl (by decide +kernel) rfl rfl rfl rfl qw454 k_X10_denominator ⟨rfl, rfl, Nat.le_of_ble_eq_true rfl, Nat.le_of_ble_eq_true rfl⟩ ⟨Nat.zero_le _, Nat.zero_le _⟩ hl.1 (Nat.le_of_ble_eq_true rfl) dX10_mixWhole_23 rfl (fun H locs hw => ?_)
        refine lv_i2l hx hb dX10_mixWhole_26 rfl ?_
        obtain ⟨v27, hv27, hf⟩ := ob_e hf
        refine xcallS (ws' := (wC g h now snap has hist ent res num col)) (st1 := [.long v27]) (n := 34) E hw [.long v14, .long u23.toInt64] [] (met_X10_mix l g v14 u23.toInt64 v27 hv27) rfl (by decide) rfl rfl [0, 1, 2, 3, 4, 5, 6, 7, 8, 9, 10, 11, 12, 13, 14, 15, 16, 17, 18, 19, 20, 21, 22, 23, 24, 25, 26, 27, 28, 29, 30, 31, 32, 33] rfl (by decide +kernel) rfl qw356 k_X10_mix ⟨rfl, rfl, Nat.le_of_ble_eq_true rfl, Nat.le_of_ble_eq_true rfl⟩ ⟨Nat.zero_le _, Nat.zero_le _⟩ hl.1 (Nat.le_of_ble_eq_true rfl) dX10_mixWhole_27 rfl (fun H locs hw => ?_)
        refine lv_lstore (lv' := [(5, .long v27), (4, .int u2), (0, .ref (h 0)), (1, .long a1), (3, .int a2)]) hx hb dX10_mixWhole_30 hl (by decide) rfl (fun ls hl => ?_)
        refine lv_lload hx hb dX10_mixWhole_32 (lv_at hl 0 rfl) ?_
        refine lv_aload_n hx hb dX10_mixWhole_34 rfl (lv_at hl 2 rfl) ?_
        refine lv_iload_n hx hb dX10_mixWhole_35 rfl (lv_at hl 4 rfl) ?_
        obtain ⟨v36, hv36, hf⟩ := ob_e hf
        rcases v36 with t36 | u36
        · replace hf := se_l hf
          exact nn hf
        · replace hf := se_r hf
          refine xcallV (ws' := (wC g h now snap has hist ent res num col)) (st1 := [.int u36, .long v27]) (n := 34) E hw [.int a2] [0, 1, 2, 3, 4, 5, 6, 7, 8, 9, 10, 11, 12, 13, 14, 15, 16, 17, 18, 19, 20, 21, 22, 23, 24, 25, 26, 27, 28, 29, 30, 31, 32, 33] (met_X10_whole l g h now snap has hist ent res num col a2 u36 hv36) rfl (by decide) rfl rfl [34, 35, 36, 37, 38, 39, 40, 41, 42, 43, 44, 45, 46, 47, 48, 49, 50, 51, 52, 53, 54, 55, 56, 57, 58, 59, 60, 61, 62, 63, 64, 65, 66, 67] rfl (by decide +kernel) rfl rfl rfl rfl qw458 k_X10_whole ⟨rfl, rfl, Nat.le_of_ble_eq_true rfl, Nat.le_of_ble_eq_true rfl⟩ ⟨Nat.zero_le _, Nat.zero_le _⟩ hl.1 (Nat.le_of_ble_eq_true rfl) dX10_mixWhole_36 rfl (fun H locs hw => ?_)
          refine lv_i2l hx hb dX10_mixWhole_39 rfl ?_
          obtain ⟨v40, hv40, hf⟩ := ob_e hf
          refine xcallS (ws' := (wC g h now snap has hist ent res num col)) (st1 := [.long v40]) (n := 34) E hw [.long v27, .long u36.toInt64] [] (met_X10_mix l g v27 u36.toInt64 v40 hv40) rfl (by decide) rfl rfl [0, 1, 2, 3, 4, 5, 6, 7, 8, 9, 10, 11, 12, 13, 14, 15, 16, 17, 18, 19, 20, 21, 22, 23, 24, 25, 26, 27, 28, 29, 30, 31, 32, 33] rfl (by decide +kernel) rfl qw356 k_X10_mix ⟨rfl, rfl, Nat.le_of_ble_eq_true rfl, Nat.le_of_ble_eq_true rfl⟩ ⟨Nat.zero_le _, Nat.zero_le _⟩ hl.1 (Nat.le_of_ble_eq_true rfl) dX10_mixWhole_40 rfl (fun H locs hw => ?_)
          refine lv_lstore (lv' := [(5, .long v40), (4, .int u2), (0, .ref (h 0)), (1, .long a1), (3, .int a2)]) hx hb dX10_mixWhole_43 hl (by decide) rfl (fun ls hl => ?_)
          refine lv_lload hx hb dX10_mixWhole_45 (lv_at hl 0 rfl) ?_
          refine lv_iload hx hb dX10_mixWhole_47 (lv_at hl 1 rfl) ?_
          refine lv_i2l hx hb dX10_mixWhole_49 rfl ?_
          obtain ⟨v50, hv50, hf⟩ := ob_e hf
          refine xcallS (ws' := (wC g h now snap has hist ent res num col)) (st1 := [.long v50]) (n := 34) E hw [.long v40, .long u2.toInt64] [] (met_X10_mix l g v40 u2.toInt64 v50 hv50) rfl (by decide) rfl rfl [0, 1, 2, 3, 4, 5, 6, 7, 8, 9, 10, 11, 12, 13, 14, 15, 16, 17, 18, 19, 20, 21, 22, 23, 24, 25, 26, 27, 28, 29, 30, 31, 32, 33] rfl (by decide +kernel) rfl qw356 k_X10_mix ⟨rfl, rfl, Nat.le_of_ble_eq_true rfl, Nat.le_of_ble_eq_true rfl⟩ ⟨Nat.zero_le _, Nat.zero_le _⟩ hl.1 (Nat.le_of_ble_eq_true rfl) dX10_mixWhole_50 rfl (fun H locs hw => ?_)
          refine lv_lstore (lv' := [(5, .long v50), (4, .int u2), (0, .ref (h 0)), (1, .long a1), (3, .int a2)]) hx hb dX10_mixWhole_53 hl (by decide) rfl (fun ls hl => ?_)
          refine lv_iconst (v := 0) hx hb dX10_mixWhole_55 (by decide) ?_
          refine lv_istore (lv' := [(7, .int 0), (5, .long v50), (4, .int u2), (0, .ref (h 0)), (1, .long a1), (3, .int a2)]) hx hb dX10_mixWhole_56 hl (by decide) rfl (fun ls hl => ?_)
          exact b58 xfuel _ _ _ a2 u2 v50 0 hw (lv_sub hl [3, 5, 2, 1, 0] rfl) hf
theorem k_X10_mixBehind : xKV yX10_mixBehind cX10_mixBehind 7 (some .long) 2 := ⟨qw506, qw6, qw66, qw507, by decide +kernel, by decide +kernel, by decide +kernel⟩
set_option maxHeartbeats 4000000 in
set_option maxRecDepth 100000 in
theorem met_X10_mixBehind (l : Launch) (g : xG) (h : Nat → Nat) (now : SC) (snap : SC) (has : Int32) (hist : HC) (ent : EC) (res : RC) (num : NC) (col : CC) (a1 : Int64) (a2 : Int32) (out : Int64) (hf : f_X10_mixBehind now a1 a2 = some out) : xM l yX10_mixBehind (xC yX10_mixBehind cX10_mixBehind 7 (some .long)) { frames := 5, cells := 0, slots := 0, locals := 131 } g (wC g h now snap has hist ent res num col) [.ref (h 0), .long a1, .int a2] (some (.long out)) (wC g h now snap has hist ent res num col) := by
  refine xof (by decide) (Nat.le_of_ble_eq_true rfl) ⟨rfl, rfl⟩ ?_
  intro p e s m below meth c A ls E hr hlocks hw hl hpost hAe
  have hx := E.1.1
  have hb := E.1.2.1
  have hown := E.1.2.2.2.1
  have hts := E.1.2.2.2.2
  generalize hZ : (MQ below (xPost g (wC g h now snap has hist ent res num col) (wC g h now snap has hist ent res num col) s.heap.size (some (.long out))) [.ref (h 0), .long a1, .int a2].toArray s 0 0 A) = ZZ
  have hret : ∀ (pc : Nat) (H : Heap) (locs : List Loc) (ls : Array Slot) (v : Int64), v = out → decode cX10_mixBehind pc = .ok (.lreturn, 1) → xW g A s.heap (wC g h now snap has hist ent res num col) H locs → W p l e { frames := 5, cells := 0, slots := 0, locals := 131 } s m [.ref (h 0), .long a1, .int a2].toArray below meth c H locs 0 0 ZZ (F0 m pc ls [.long v]) := by
    intro pc H locs ls v he hd hw
    subst he
    rw [← hZ]
    exact W.lret hx hb hr (hpost H locs hw).1 (hpost H locs hw).2 hd hlocks
  clear hpost
  have b41 : ∀ n41 : Nat, ∀ (H : Heap) (locs : List Loc) (ls : Array Slot) (x3 : Int32) (x4 : Int64) (x6 : Int32), xW g A s.heap (wC g h now snap has hist ent res num col) H locs → lv_has ls 7 [(0, .ref (h 0)), (3, .int x3), (4, .long x4), (6, .int x6)] → f_X10_mixBehind_b41 n41 now x3 x4 x6 = some out → W p l e { frames := 5, cells := 0, slots := 0, locals := 131 } s m [.ref (h 0), .long a1, .int a2].toArray below meth c H locs 0 0 ZZ (F0 m 41 ls []) := by
    intro n41
    induction n41 with
    | zero =>
      intro H locs ls x3 x4 x6 hw hl hf
      exact nn hf
    | succ n41 ih41 =>
      intro H locs ls x3 x4 x6 hw hl hf
      refine lv_iload hx hb dX10_mixBehind_41 (lv_at hl 3 rfl) ?_
      refine lv_bipush (v := 10) hx hb dX10_mixBehind_43 (by decide) ?_
      refine lv_icmp_ge (tgt := 69) hx hb dX10_mixBehind_45 (by decide) (fun c45 => ?_) (fun c45 => ?_)
      · replace hf := ip c45 hf
        refine lv_lload hx hb dX10_mixBehind_69 (lv_at hl 2 rfl) ?_
        refine lv_aload_n hx hb dX10_mixBehind_71 rfl (lv_at hl 0 rfl) ?_
        refine lv_iload_n hx hb dX10_mixBehind_72 rfl (lv_at hl 1 rfl) ?_
        obtain ⟨v73, hv73, hf⟩ := ob_e hf
        rcases v73 with t73 | u73
        · replace hf := se_l hf
          exact nn hf
        · replace hf := se_r hf
          refine xcallV (ws' := (wC g h now snap has hist ent res num col)) (st1 := [.int u73, .long x4]) (n := 34) E hw [.int x3] [0, 1, 2, 3, 4, 5, 6, 7, 8, 9, 10, 11, 12, 13, 14, 15, 16, 17, 18, 19, 20, 21, 22, 23, 24, 25, 26, 27, 28, 29, 30, 31, 32, 33] (met_X10_shortestBase l g h now snap has hist ent res num col x3 u73 hv73) rfl (by decide) rfl rfl [34, 35, 36, 37, 38, 39, 40, 41, 42, 43, 44, 45, 46, 47, 48, 49, 50, 51, 52, 53, 54, 55, 56, 57, 58, 59, 60, 61, 62, 63, 64, 65, 66, 67] rfl (by decide +kernel) rfl rfl rfl rfl qw570 k_X10_shortestBase ⟨rfl, rfl, Nat.le_of_ble_eq_true rfl, Nat.le_of_ble_eq_true rfl⟩ ⟨Nat.zero_le _, Nat.zero_le _⟩ hl.1 (Nat.le_of_ble_eq_true rfl) dX10_mixBehind_73 rfl (fun H locs hw => ?_)
          refine lv_i2l hx hb dX10_mixBehind_76 rfl ?_
          obtain ⟨v77, hv77, hf⟩ := ob_e hf
          refine xcallS (ws' := (wC g h now snap has hist ent res num col)) (st1 := [.long v77]) (n := 34) E hw [.long x4, .long u73.toInt64] [] (met_X10_mix l g x4 u73.toInt64 v77 hv77) rfl (by decide) rfl rfl [0, 1, 2, 3, 4, 5, 6, 7, 8, 9, 10, 11, 12, 13, 14, 15, 16, 17, 18, 19, 20, 21, 22, 23, 24, 25, 26, 27, 28, 29, 30, 31, 32, 33] rfl (by decide +kernel) rfl qw356 k_X10_mix ⟨rfl, rfl, Nat.le_of_ble_eq_true rfl, Nat.le_of_ble_eq_true rfl⟩ ⟨Nat.zero_le _, Nat.zero_le _⟩ hl.1 (Nat.le_of_ble_eq_true rfl) dX10_mixBehind_77 rfl (fun H locs hw => ?_)
          refine lv_lstore (lv' := [(4, .long v77), (0, .ref (h 0)), (3, .int x3), (6, .int x6)]) hx hb dX10_mixBehind_80 hl (by decide) rfl (fun ls hl => ?_)
          refine lv_lload hx hb dX10_mixBehind_82 (lv_at hl 0 rfl) ?_
          refine lv_aload_n hx hb dX10_mixBehind_84 rfl (lv_at hl 1 rfl) ?_
          refine lv_iload_n hx hb dX10_mixBehind_85 rfl (lv_at hl 2 rfl) ?_
          refine lv_bipush (v := 16) hx hb dX10_mixBehind_86 (by decide) ?_
          obtain ⟨v88, hv88, hf⟩ := ob_e hf
          rcases v88 with t88 | u88
          · replace hf := se_l hf
            exact nn hf
          · replace hf := se_r hf
            refine xcallV (ws' := (wC g h now snap has hist ent res num col)) (st1 := [.long u88, .long v77]) (n := 34) E hw [.int x3, .int 16] [0, 1, 2, 3, 4, 5, 6, 7, 8, 9, 10, 11, 12, 13, 14, 15, 16, 17, 18, 19, 20, 21, 22, 23, 24, 25, 26, 27, 28, 29, 30, 31, 32, 33] (met_X10_readIn l g h now snap has hist ent res num col x3 16 u88 hv88) rfl (by decide) rfl rfl [34, 35, 36, 37, 38, 39, 40, 41, 42, 43, 44, 45, 46, 47, 48, 49, 50, 51, 52, 53, 54, 55, 56, 57, 58, 59, 60, 61, 62, 63, 64, 65, 66, 67] rfl (by decide +kernel) rfl rfl rfl rfl qw574 k_X10_readIn ⟨rfl, rfl, Nat.le_of_ble_eq_true rfl, Nat.le_of_ble_eq_true rfl⟩ ⟨Nat.zero_le _, Nat.zero_le _⟩ hl.1 (Nat.le_of_ble_eq_true rfl) dX10_mixBehind_88 rfl (fun H locs hw => ?_)
            obtain ⟨v91, hv91, hf⟩ := ob_e hf
            refine xcallS (ws' := (wC g h now snap has hist ent res num col)) (st1 := [.long v91]) (n := 34) E hw [.long v77, .long u88] [] (met_X10_mix l g v77 u88 v91 hv91) rfl (by decide) rfl rfl [0, 1, 2, 3, 4, 5, 6, 7, 8, 9, 10, 11, 12, 13, 14, 15, 16, 17, 18, 19, 20, 21, 22, 23, 24, 25, 26, 27, 28, 29, 30, 31, 32, 33] rfl (by decide +kernel) rfl qw356 k_X10_mix ⟨rfl, rfl, Nat.le_of_ble_eq_true rfl, Nat.le_of_ble_eq_true rfl⟩ ⟨Nat.zero_le _, Nat.zero_le _⟩ hl.1 (Nat.le_of_ble_eq_true rfl) dX10_mixBehind_91 rfl (fun H locs hw => ?_)
            refine lv_lstore (lv' := [(4, .long v91), (0, .ref (h 0)), (3, .int x3), (6, .int x6)]) hx hb dX10_mixBehind_94 hl (by decide) rfl (fun ls hl => ?_)
            refine lv_aload_n hx hb dX10_mixBehind_96 rfl (lv_at hl 1 rfl) ?_
            refine lv_iload_n hx hb dX10_mixBehind_97 rfl (lv_at hl 2 rfl) ?_
            obtain ⟨v98, hv98, hf⟩ := ob_e hf
            rcases v98 with t98 | u98
            · replace hf := se_l hf
              exact nn hf
            · replace hf := se_r hf
              refine xcallV (ws' := (wC g h now snap has hist ent res num col)) (st1 := [.int u98]) (n := 34) E hw [.int x3] [0, 1, 2, 3, 4, 5, 6, 7, 8, 9, 10, 11, 12, 13, 14, 15, 16, 17, 18, 19, 20, 21, 22, 23, 24, 25, 26, 27, 28, 29, 30, 31, 32, 33] (met_X10_writtenLength l g h now snap has hist ent res num col x3 u98 hv98) rfl (by decide) rfl rfl [34, 35, 36, 37, 38, 39, 40, 41, 42, 43, 44, 45, 46, 47, 48, 49, 50, 51, 52, 53, 54, 55, 56, 57, 58, 59, 60, 61, 62, 63, 64, 65, 66, 67] rfl (by decide +kernel) rfl rfl rfl rfl qw584 k_X10_writtenLength ⟨rfl, rfl, Nat.le_of_ble_eq_true rfl, Nat.le_of_ble_eq_true rfl⟩ ⟨Nat.zero_le _, Nat.zero_le _⟩ hl.1 (Nat.le_of_ble_eq_true rfl) dX10_mixBehind_98 rfl (fun H locs hw => ?_)
              refine lv_istore (lv' := [(6, .int u98), (4, .long v91), (0, .ref (h 0)), (3, .int x3)]) hx hb dX10_mixBehind_101 hl (by decide) rfl (fun ls hl => ?_)
              refine lv_lload hx hb dX10_mixBehind_103 (lv_at hl 1 rfl) ?_
              refine lv_iload hx hb dX10_mixBehind_105 (lv_at hl 0 rfl) ?_
              refine lv_i2l hx hb dX10_mixBehind_107 rfl ?_
              obtain ⟨v108, hv108, hf⟩ := ob_e hf
              refine xcallS (ws' := (wC g h now snap has hist ent res num col)) (st1 := [.long v108]) (n := 34) E hw [.long v91, .long u98.toInt64] [] (met_X10_mix l g v91 u98.toInt64 v108 hv108) rfl (by decide) rfl rfl [0, 1, 2, 3, 4, 5, 6, 7, 8, 9, 10, 11, 12, 13, 14, 15, 16, 17, 18, 19, 20, 21, 22, 23, 24, 25, 26, 27, 28, 29, 30, 31, 32, 33] rfl (by decide +kernel) rfl qw356 k_X10_mix ⟨rfl, rfl, Nat.le_of_ble_eq_true rfl, Nat.le_of_ble_eq_true rfl⟩ ⟨Nat.zero_le _, Nat.zero_le _⟩ hl.1 (Nat.le_of_ble_eq_true rfl) dX10_mixBehind_108 rfl (fun H locs hw => ?_)
              refine lv_lstore (lv' := [(4, .long v108), (6, .int u98), (0, .ref (h 0)), (3, .int x3)]) hx hb dX10_mixBehind_111 hl (by decide) rfl (fun ls hl => ?_)
              refine lv_lload hx hb dX10_mixBehind_113 (lv_at hl 0 rfl) ?_
              refine lv_aload_n hx hb dX10_mixBehind_115 rfl (lv_at hl 2 rfl) ?_
              refine lv_iload_n hx hb dX10_mixBehind_116 rfl (lv_at hl 3 rfl) ?_
              refine lv_iload hx hb dX10_mixBehind_117 (lv_at hl 1 rfl) ?_
              refine lv_iconst (v := 1) hx hb dX10_mixBehind_119 (by decide) ?_
              refine lv_isub hx hb dX10_mixBehind_120 ?_
              obtain ⟨v121, hv121, hf⟩ := ob_e hf
              rcases v121 with t121 | u121
              · replace hf := se_l hf
                exact nn hf
              · replace hf := se_r hf
                refine xcallV (ws' := (wC g h now snap has hist ent res num col)) (st1 := [.int u121, .long v108]) (n := 34) E hw [.int x3, .int (u98 - 1)] [0, 1, 2, 3, 4, 5, 6, 7, 8, 9, 10, 11, 12, 13, 14, 15, 16, 17, 18, 19, 20, 21, 22, 23, 24, 25, 26, 27, 28, 29, 30, 31, 32, 33] (met_X10_writtenAt l g h now snap has hist ent res num col x3 (u98 - 1) u121 hv121) rfl (by decide) rfl rfl [34, 35, 36, 37, 38, 39, 40, 41, 42, 43, 44, 45, 46, 47, 48, 49, 50, 51, 52, 53, 54, 55, 56, 57, 58, 59, 60, 61, 62, 63, 64, 65, 66, 67] rfl (by decide +kernel) rfl rfl rfl rfl qw588 k_X10_writtenAt ⟨rfl, rfl, Nat.le_of_ble_eq_true rfl, Nat.le_of_ble_eq_true rfl⟩ ⟨Nat.zero_le _, Nat.zero_le _⟩ hl.1 (Nat.le_of_ble_eq_true rfl) dX10_mixBehind_121 rfl (fun H locs hw => ?_)
                refine lv_i2l hx hb dX10_mixBehind_124 rfl ?_
                obtain ⟨v125, hv125, hf⟩ := ob_e hf
                refine xcallS (ws' := (wC g h now snap has hist ent res num col)) (st1 := [.long v125]) (n := 34) E hw [.long v108, .long u121.toInt64] [] (met_X10_mix l g v108 u121.toInt64 v125 hv125) rfl (by decide) rfl rfl [0, 1, 2, 3, 4, 5, 6, 7, 8, 9, 10, 11, 12, 13, 14, 15, 16, 17, 18, 19, 20, 21, 22, 23, 24, 25, 26, 27, 28, 29, 30, 31, 32, 33] rfl (by decide +kernel) rfl qw356 k_X10_mix ⟨rfl, rfl, Nat.le_of_ble_eq_true rfl, Nat.le_of_ble_eq_true rfl⟩ ⟨Nat.zero_le _, Nat.zero_le _⟩ hl.1 (Nat.le_of_ble_eq_true rfl) dX10_mixBehind_125 rfl (fun H locs hw => ?_)
                exact hret _ _ _ _ _ (Option.some.inj hf) dX10_mixBehind_128 hw
      · replace hf := iq c45 hf
        refine lv_lload hx hb dX10_mixBehind_48 (lv_at hl 2 rfl) ?_
        refine lv_aload_n hx hb dX10_mixBehind_50 rfl (lv_at hl 0 rfl) ?_
        refine lv_iload_n hx hb dX10_mixBehind_51 rfl (lv_at hl 1 rfl) ?_
        refine lv_iload hx hb dX10_mixBehind_52 (lv_at hl 3 rfl) ?_
        obtain ⟨v54, hv54, hf⟩ := ob_e hf
        rcases v54 with t54 | u54
        · replace hf := se_l hf
          exact nn hf
        · replace hf := se_r hf
          refine xcallV (ws' := (wC g h now snap has hist ent res num col)) (st1 := [.int u54, .long x4]) (n := 34) E hw [.int x3, .int x6] [0, 1, 2, 3, 4, 5, 6, 7, 8, 9, 10, 11, 12, 13, 14, 15, 16, 17, 18, 19, 20, 21, 22, 23, 24, 25, 26, 27, 28, 29, 30, 31, 32, 33] (met_X10_digitBehind l g h now snap has hist ent res num col x3 x6 u54 hv54) rfl (by decide) rfl rfl [34, 35, 36, 37, 38, 39, 40, 41, 42, 43, 44, 45, 46, 47, 48, 49, 50, 51, 52, 53, 54, 55, 56, 57, 58, 59, 60, 61, 62, 63, 64, 65, 66, 67] rfl (by decide +kernel) rfl rfl rfl rfl qw547 k_X10_digitBehind ⟨rfl, rfl, Nat.le_of_ble_eq_true rfl, Nat.le_of_ble_eq_true rfl⟩ ⟨Nat.zero_le _, Nat.zero_le _⟩ hl.1 (Nat.le_of_ble_eq_true rfl) dX10_mixBehind_54 rfl (fun H locs hw => ?_)
          refine lv_i2l hx hb dX10_mixBehind_57 rfl ?_
          obtain ⟨v58, hv58, hf⟩ := ob_e hf
          refine xcallS (ws' := (wC g h now snap has hist ent res num col)) (st1 := [.long v58]) (n := 34) E hw [.long x4, .long u54.toInt64] [] (met_X10_mix l g x4 u54.toInt64 v58 hv58) rfl (by decide) rfl rfl [0, 1, 2, 3, 4, 5, 6, 7, 8, 9, 10, 11, 12, 13, 14, 15, 16, 17, 18, 19, 20, 21, 22, 23, 24, 25, 26, 27, 28, 29, 30, 31, 32, 33] rfl (by decide +kernel) rfl qw356 k_X10_mix ⟨rfl, rfl, Nat.le_of_ble_eq_true rfl, Nat.le_of_ble_eq_true rfl⟩ ⟨Nat.zero_le _, Nat.zero_le _⟩ hl.1 (Nat.le_of_ble_eq_true rfl) dX10_mixBehind_58 rfl (fun H locs hw => ?_)
          refine lv_lstore (lv' := [(4, .long v58), (0, .ref (h 0)), (3, .int x3), (6, .int x6)]) hx hb dX10_mixBehind_61 hl (by decide) rfl (fun ls hl => ?_)
          refine lv_iinc (v := x6 + 1) (lv' := [(6, .int (x6 + 1)), (4, .long v58), (0, .ref (h 0)), (3, .int x3)]) hx hb dX10_mixBehind_63 hl (k := 3) rfl rfl (by decide) rfl (fun ls hl => ?_)
          refine lv_goto (tgt := 41) hx hb dX10_mixBehind_66 (by decide) ?_
          exact ih41 _ _ _ x3 v58 (x6 + 1) hw (lv_sub hl [2, 3, 1, 0] rfl) hf
  refine lv_lload_n hx hb dX10_mixBehind_0 rfl (lv_at hl 1 rfl) ?_
  refine lv_aload_n hx hb dX10_mixBehind_1 rfl (lv_at hl 0 rfl) ?_
  refine lv_iload_n hx hb dX10_mixBehind_2 rfl (lv_at hl 2 rfl) ?_
  obtain ⟨v3, hv3, hf⟩ := ob_e hf
  rcases v3 with t3 | u3
  · replace hf := se_l hf
    exact nn hf
  · replace hf := se_r hf
    refine xcallV (ws' := (wC g h now snap has hist ent res num col)) (st1 := [.int u3, .long a1]) (n := 34) E hw [.int a2] [0, 1, 2, 3, 4, 5, 6, 7, 8, 9, 10, 11, 12, 13, 14, 15, 16, 17, 18, 19, 20, 21, 22, 23, 24, 25, 26, 27, 28, 29, 30, 31, 32, 33] (met_X10_headLength l g h now snap has hist ent res num col a2 u3 hv3) rfl (by decide) rfl rfl [34, 35, 36, 37, 38, 39, 40, 41, 42, 43, 44, 45, 46, 47, 48, 49, 50, 51, 52, 53, 54, 55, 56, 57, 58, 59, 60, 61, 62, 63, 64, 65, 66, 67] rfl (by decide +kernel) rfl rfl rfl rfl qw508 k_X10_headLength ⟨rfl, rfl, Nat.le_of_ble_eq_true rfl, Nat.le_of_ble_eq_true rfl⟩ ⟨Nat.zero_le _, Nat.zero_le _⟩ hl.1 (Nat.le_of_ble_eq_true rfl) dX10_mixBehind_3 rfl (fun H locs hw => ?_)
    refine lv_i2l hx hb dX10_mixBehind_6 rfl ?_
    obtain ⟨v7, hv7, hf⟩ := ob_e hf
    refine xcallS (ws' := (wC g h now snap has hist ent res num col)) (st1 := [.long v7]) (n := 34) E hw [.long a1, .long u3.toInt64] [] (met_X10_mix l g a1 u3.toInt64 v7 hv7) rfl (by decide) rfl rfl [0, 1, 2, 3, 4, 5, 6, 7, 8, 9, 10, 11, 12, 13, 14, 15, 16, 17, 18, 19, 20, 21, 22, 23, 24, 25, 26, 27, 28, 29, 30, 31, 32, 33] rfl (by decide +kernel) rfl qw356 k_X10_mix ⟨rfl, rfl, Nat.le_of_ble_eq_true rfl, Nat.le_of_ble_eq_true rfl⟩ ⟨Nat.zero_le _, Nat.zero_le _⟩ hl.1 (Nat.le_of_ble_eq_true rfl) dX10_mixBehind_7 rfl (fun H locs hw => ?_)
    refine lv_lstore (lv' := [(4, .long v7), (0, .ref (h 0)), (1, .long a1), (3, .int a2)]) hx hb dX10_mixBehind_10 hl (by decide) rfl (fun ls hl => ?_)
    refine lv_lload hx hb dX10_mixBehind_12 (lv_at hl 0 rfl) ?_
    refine lv_aload_n hx hb dX10_mixBehind_14 rfl (lv_at hl 1 rfl) ?_
    refine lv_iload_n hx hb dX10_mixBehind_15 rfl (lv_at hl 3 rfl) ?_
    obtain ⟨v16, hv16, hf⟩ := ob_e hf
    rcases v16 with t16 | u16
    · replace hf := se_l hf
      exact nn hf
    · replace hf := se_r hf
      refine xcallV (ws' := (wC g h now snap has hist ent res num col)) (st1 := [.int u16, .long v7]) (n := 34) E hw [.int a2] [0, 1, 2, 3, 4, 5, 6, 7, 8, 9, 10, 11, 12, 13, 14, 15, 16, 17, 18, 19, 20, 21, 22, 23, 24, 25, 26, 27, 28, 29, 30, 31, 32, 33] (met_X10_periodLength l g h now snap has hist ent res num col a2 u16 hv16) rfl (by decide) rfl rfl [34, 35, 36, 37, 38, 39, 40, 41, 42, 43, 44, 45, 46, 47, 48, 49, 50, 51, 52, 53, 54, 55, 56, 57, 58, 59, 60, 61, 62, 63, 64, 65, 66, 67] rfl (by decide +kernel) rfl rfl rfl rfl qw522 k_X10_periodLength ⟨rfl, rfl, Nat.le_of_ble_eq_true rfl, Nat.le_of_ble_eq_true rfl⟩ ⟨Nat.zero_le _, Nat.zero_le _⟩ hl.1 (Nat.le_of_ble_eq_true rfl) dX10_mixBehind_16 rfl (fun H locs hw => ?_)
      refine lv_i2l hx hb dX10_mixBehind_19 rfl ?_
      obtain ⟨v20, hv20, hf⟩ := ob_e hf
      refine xcallS (ws' := (wC g h now snap has hist ent res num col)) (st1 := [.long v20]) (n := 34) E hw [.long v7, .long u16.toInt64] [] (met_X10_mix l g v7 u16.toInt64 v20 hv20) rfl (by decide) rfl rfl [0, 1, 2, 3, 4, 5, 6, 7, 8, 9, 10, 11, 12, 13, 14, 15, 16, 17, 18, 19, 20, 21, 22, 23, 24, 25, 26, 27, 28, 29, 30, 31, 32, 33] rfl (by decide +kernel) rfl qw356 k_X10_mix ⟨rfl, rfl, Nat.le_of_ble_eq_true rfl, Nat.le_of_ble_eq_true rfl⟩ ⟨Nat.zero_le _, Nat.zero_le _⟩ hl.1 (Nat.le_of_ble_eq_true rfl) dX10_mixBehind_20 rfl (fun H locs hw => ?_)
      refine lv_lstore (lv' := [(4, .long v20), (0, .ref (h 0)), (1, .long a1), (3, .int a2)]) hx hb dX10_mixBehind_23 hl (by decide) rfl (fun ls hl => ?_)
      refine lv_lload hx hb dX10_mixBehind_25 (lv_at hl 0 rfl) ?_
      refine lv_aload_n hx hb dX10_mixBehind_27 rfl (lv_at hl 1 rfl) ?_
      refine lv_iload_n hx hb dX10_mixBehind_28 rfl (lv_at hl 3 rfl) ?_
      obtain ⟨v29, hv29, hf⟩ := ob_e hf
      rcases v29 with t29 | u29
      · replace hf := se_l hf
        exact nn hf
      · replace hf := se_r hf
        refine xcallV (ws' := (wC g h now snap has hist ent res num col)) (st1 := [.int u29, .long v20]) (n := 34) E hw [.int a2] [0, 1, 2, 3, 4, 5, 6, 7, 8, 9, 10, 11, 12, 13, 14, 15, 16, 17, 18, 19, 20, 21, 22, 23, 24, 25, 26, 27, 28, 29, 30, 31, 32, 33] (met_X10_periodByOrder l g h now snap has hist ent res num col a2 u29 hv29) rfl (by decide) rfl rfl [34, 35, 36, 37, 38, 39, 40, 41, 42, 43, 44, 45, 46, 47, 48, 49, 50, 51, 52, 53, 54, 55, 56, 57, 58, 59, 60, 61, 62, 63, 64, 65, 66, 67] rfl (by decide +kernel) rfl rfl rfl rfl qw536 k_X10_periodByOrder ⟨rfl, rfl, Nat.le_of_ble_eq_true rfl, Nat.le_of_ble_eq_true rfl⟩ ⟨Nat.zero_le _, Nat.zero_le _⟩ hl.1 (Nat.le_of_ble_eq_true rfl) dX10_mixBehind_29 rfl (fun H locs hw => ?_)
        refine lv_i2l hx hb dX10_mixBehind_32 rfl ?_
        obtain ⟨v33, hv33, hf⟩ := ob_e hf
        refine xcallS (ws' := (wC g h now snap has hist ent res num col)) (st1 := [.long v33]) (n := 34) E hw [.long v20, .long u29.toInt64] [] (met_X10_mix l g v20 u29.toInt64 v33 hv33) rfl (by decide) rfl rfl [0, 1, 2, 3, 4, 5, 6, 7, 8, 9, 10, 11, 12, 13, 14, 15, 16, 17, 18, 19, 20, 21, 22, 23, 24, 25, 26, 27, 28, 29, 30, 31, 32, 33] rfl (by decide +kernel) rfl qw356 k_X10_mix ⟨rfl, rfl, Nat.le_of_ble_eq_true rfl, Nat.le_of_ble_eq_true rfl⟩ ⟨Nat.zero_le _, Nat.zero_le _⟩ hl.1 (Nat.le_of_ble_eq_true rfl) dX10_mixBehind_33 rfl (fun H locs hw => ?_)
        refine lv_lstore (lv' := [(4, .long v33), (0, .ref (h 0)), (1, .long a1), (3, .int a2)]) hx hb dX10_mixBehind_36 hl (by decide) rfl (fun ls hl => ?_)
        refine lv_iconst (v := 0) hx hb dX10_mixBehind_38 (by decide) ?_
        refine lv_istore (lv' := [(6, .int 0), (4, .long v33), (0, .ref (h 0)), (1, .long a1), (3, .int a2)]) hx hb dX10_mixBehind_39 hl (by decide) rfl (fun ls hl => ?_)
        exact b41 xfuel _ _ _ a2 v33 0 hw (lv_sub hl [2, 4, 1, 0] rfl) hf
theorem k_X10_mixPair : xKV yX10_mixPair cX10_mixPair 8 (some .long) 3 := ⟨qw602, qw8, qw66, qw603, by decide +kernel, by decide +kernel, by decide +kernel⟩
set_option maxHeartbeats 4000000 in
set_option maxRecDepth 100000 in
theorem met_X10_mixPair (l : Launch) (g : xG) (h : Nat → Nat) (now : SC) (snap : SC) (has : Int32) (hist : HC) (ent : EC) (res : RC) (num : NC) (col : CC) (a1 : Int64) (a2 : Int32) (a3 : Int32) (out : Int64 × RC × CC) (hf : f_X10_mixPair now res col a1 a2 a3 = some out) : xM l yX10_mixPair (xC yX10_mixPair cX10_mixPair 8 (some .long)) { frames := 5, cells := 0, slots := 0, locals := 126 } g (wC g h now snap has hist ent res num col) [.ref (h 0), .long a1, .int a2, .int a3] (some (.long out.1)) (wC g h now snap has hist ent out.2.1 num out.2.2) := by
  refine xof (by decide) (Nat.le_of_ble_eq_true rfl) ⟨rfl, rfl⟩ ?_
  intro p e s m below meth c A ls E hr hlocks hw hl hpost hAe
  have hx := E.1.1
  have hb := E.1.2.1
  have hown := E.1.2.2.2.1
  have hts := E.1.2.2.2.2
  generalize hZ : (MQ below (xPost g (wC g h now snap has hist ent res num col) (wC g h now snap has hist ent out.2.1 num out.2.2) s.heap.size (some (.long out.1))) [.ref (h 0), .long a1, .int a2, .int a3].toArray s 0 0 A) = ZZ
  have hret : ∀ (pc : Nat) (H : Heap) (locs : List Loc) (ls : Array Slot) (v : Int64) (cres : RC) (ccol : CC), (v, cres, ccol) = out → decode cX10_mixPair pc = .ok (.lreturn, 1) → xW g A s.heap (wC g h now snap has hist ent cres num ccol) H locs → W p l e { frames := 5, cells := 0, slots := 0, locals := 126 } s m [.ref (h 0), .long a1, .int a2, .int a3].toArray below meth c H locs 0 0 ZZ (F0 m pc ls [.long v]) := by
    intro pc H locs ls v cres ccol he hd hw
    subst he
    rw [← hZ]
    exact W.lret hx hb hr (hpost H locs hw).1 (hpost H locs hw).2 hd hlocks
  clear hpost
  have b39 : ∀ n39 : Nat, ∀ (H : Heap) (locs : List Loc) (ls : Array Slot) (res : RC) (col : CC) (x3 : Int32) (x4 : Int32) (x5 : Int64) (x7 : Int32), xW g A s.heap (wC g h now snap has hist ent res num col) H locs → lv_has ls 8 [(0, .ref (h 0)), (3, .int x3), (4, .int x4), (5, .long x5), (7, .int x7)] → f_X10_mixPair_b39 n39 now res col x3 x4 x5 x7 = some out → W p l e { frames := 5, cells := 0, slots := 0, locals := 126 } s m [.ref (h 0), .long a1, .int a2, .int a3].toArray below meth c H locs 0 0 ZZ (F0 m 39 ls []) := by
    intro n39
    induction n39 with
    | zero =>
      intro H locs ls res col x3 x4 x5 x7 hw hl hf
      exact nn hf
    | succ n39 ih39 =>
      intro H locs ls res col x3 x4 x5 x7 hw hl hf
      refine lv_iload hx hb dX10_mixPair_39 (lv_at hl 4 rfl) ?_
      refine lv_aload_n hx hb dX10_mixPair_41 rfl (lv_at hl 0 rfl) ?_
      refine xget (v := .ref (h 32)) E hw 0 rfl rfl 7 (by decide) inw10 qw253 rfl rfl dX10_mixPair_42 ?_
      refine xget (v := .int col.1) E hw 32 rfl rfl 0 (by decide) inw1 qw231 rfl rfl dX10_mixPair_45 ?_
      refine lv_icmp_ge (tgt := 74) hx hb dX10_mixPair_48 (by decide) (fun c48 => ?_) (fun c48 => ?_)
      · replace hf := ip c48 hf
        refine lv_lload hx hb dX10_mixPair_74 (lv_at hl 3 rfl) ?_
        refine lv_aload_n hx hb dX10_mixPair_76 rfl (lv_at hl 0 rfl) ?_
        refine xget (v := .ref (h 32)) E hw 0 rfl rfl 7 (by decide) inw10 qw253 rfl rfl dX10_mixPair_77 ?_
        refine lv_aload_n hx hb dX10_mixPair_80 rfl (lv_at hl 0 rfl) ?_
        refine xget (v := .ref (h 1)) E hw 0 rfl rfl 0 (by decide) inw10 qw246 rfl rfl dX10_mixPair_81 ?_
        refine xget (v := .int now.1) E hw 1 rfl rfl 0 (by decide) inw7 qw101 rfl rfl dX10_mixPair_84 ?_
        obtain ⟨v87, hv87, hf⟩ := ob_e hf
        refine xcallV (ws' := (wC g h now snap has hist ent res num col)) (st1 := [.long v87, .long x5]) (n := 34) E hw [.int now.1] [32, 33] (met_X1_total l g h 32 col now.1 v87 hv87) rfl (by decide) rfl rfl [0, 1, 2, 3, 4, 5, 6, 7, 8, 9, 10, 11, 12, 13, 14, 15, 16, 17, 18, 19, 20, 21, 22, 23, 24, 25, 26, 27, 28, 29, 30, 31, 34, 35] rfl (by decide +kernel) rfl rfl rfl rfl qw622 k_X1_total ⟨rfl, rfl, Nat.le_of_ble_eq_true rfl, Nat.le_of_ble_eq_true rfl⟩ ⟨Nat.zero_le _, Nat.zero_le _⟩ hl.1 (Nat.le_of_ble_eq_true rfl) dX10_mixPair_87 rfl (fun H locs hw => ?_)
        obtain ⟨v90, hv90, hf⟩ := ob_e hf
        refine xcallS (ws' := (wC g h now snap has hist ent res num col)) (st1 := [.long v90]) (n := 34) E hw [.long x5, .long v87] [] (met_X10_mix l g x5 v87 v90 hv90) rfl (by decide) rfl rfl [0, 1, 2, 3, 4, 5, 6, 7, 8, 9, 10, 11, 12, 13, 14, 15, 16, 17, 18, 19, 20, 21, 22, 23, 24, 25, 26, 27, 28, 29, 30, 31, 32, 33] rfl (by decide +kernel) rfl qw356 k_X10_mix ⟨rfl, rfl, Nat.le_of_ble_eq_true rfl, Nat.le_of_ble_eq_true rfl⟩ ⟨Nat.zero_le _, Nat.zero_le _⟩ hl.1 (Nat.le_of_ble_eq_true rfl) dX10_mixPair_90 rfl (fun H locs hw => ?_)
        refine lv_lstore (lv' := [(5, .long v90), (0, .ref (h 0)), (3, .int x3), (4, .int x4), (7, .int x7)]) hx hb dX10_mixPair_93 hl (by decide) rfl (fun ls hl => ?_)
        refine lv_lload hx hb dX10_mixPair_95 (lv_at hl 0 rfl) ?_
        refine lv_aload_n hx hb dX10_mixPair_97 rfl (lv_at hl 1 rfl) ?_
        refine lv_iload_n hx hb dX10_mixPair_98 rfl (lv_at hl 2 rfl) ?_
        refine lv_iload hx hb dX10_mixPair_99 (lv_at hl 3 rfl) ?_
        obtain ⟨v101, hv101, hf⟩ := ob_e hf
        rcases v101 with t101 | u101
        · replace hf := se_l hf
          exact nn hf
        · replace hf := se_r hf
          refine xcallV (ws' := (wC g h now snap has hist ent u101.2 num col)) (st1 := [.int u101.1, .long v90]) (n := 34) E hw [.int x3, .int x4] [0, 1, 2, 3, 4, 5, 6, 7, 8, 9, 10, 11, 12, 13, 14, 15, 16, 17, 18, 19, 20, 21, 22, 23, 24, 25, 26, 27, 28, 29, 30, 31, 32, 33] (met_X10_whyNoSum l g h now snap has hist ent res num col x3 x4 u101 hv101) rfl (by decide) rfl rfl [34, 35, 36, 37, 38, 39, 40, 41, 42, 43, 44, 45, 46, 47, 48, 49, 50, 51, 52, 53, 54, 55, 56, 57, 58, 59, 60, 61, 62, 63, 64, 65, 66, 67] rfl (by decide +kernel) rfl rfl rfl rfl qw627 k_X10_whyNoSum ⟨rfl, rfl, Nat.le_of_ble_eq_true rfl, Nat.le_of_ble_eq_true rfl⟩ ⟨Nat.zero_le _, Nat.zero_le _⟩ hl.1 (Nat.le_of_ble_eq_true rfl) dX10_mixPair_101 rfl (fun H locs hw => ?_)
          refine lv_i2l hx hb dX10_mixPair_104 rfl ?_
          obtain ⟨v105, hv105, hf⟩ := ob_e hf
          refine xcallS (ws' := (wC g h now snap has hist ent u101.2 num col)) (st1 := [.long v105]) (n := 34) E hw [.long v90, .long u101.1.toInt64] [] (met_X10_mix l g v90 u101.1.toInt64 v105 hv105) rfl (by decide) rfl rfl [0, 1, 2, 3, 4, 5, 6, 7, 8, 9, 10, 11, 12, 13, 14, 15, 16, 17, 18, 19, 20, 21, 22, 23, 24, 25, 26, 27, 28, 29, 30, 31, 32, 33] rfl (by decide +kernel) rfl qw356 k_X10_mix ⟨rfl, rfl, Nat.le_of_ble_eq_true rfl, Nat.le_of_ble_eq_true rfl⟩ ⟨Nat.zero_le _, Nat.zero_le _⟩ hl.1 (Nat.le_of_ble_eq_true rfl) dX10_mixPair_105 rfl (fun H locs hw => ?_)
          refine lv_lstore (lv' := [(5, .long v105), (0, .ref (h 0)), (3, .int x3), (4, .int x4), (7, .int x7)]) hx hb dX10_mixPair_108 hl (by decide) rfl (fun ls hl => ?_)
          refine lv_lload hx hb dX10_mixPair_110 (lv_at hl 0 rfl) ?_
          refine lv_aload_n hx hb dX10_mixPair_112 rfl (lv_at hl 1 rfl) ?_
          refine lv_iload_n hx hb dX10_mixPair_113 rfl (lv_at hl 2 rfl) ?_
          refine lv_iload hx hb dX10_mixPair_114 (lv_at hl 3 rfl) ?_
          obtain ⟨v116, hv116, hf⟩ := ob_e hf
          rcases v116 with t116 | u116
          · replace hf := se_l hf
            exact nn hf
          · replace hf := se_r hf
            refine xcallV (ws' := (wC g h now snap has hist ent u116.2 num col)) (st1 := [.int u116.1, .long v105]) (n := 34) E hw [.int x3, .int x4] [0, 1, 2, 3, 4, 5, 6, 7, 8, 9, 10, 11, 12, 13, 14, 15, 16, 17, 18, 19, 20, 21, 22, 23, 24, 25, 26, 27, 28, 29, 30, 31, 32, 33] (met_X10_periodOfSum l g h now snap has hist ent u101.2 num col x3 x4 u116 hv116) rfl (by decide) rfl rfl [34, 35, 36, 37, 38, 39, 40, 41, 42, 43, 44, 45, 46, 47, 48, 49, 50, 51, 52, 53, 54, 55, 56, 57, 58, 59, 60, 61, 62, 63, 64, 65, 66, 67] rfl (by decide +kernel) rfl rfl rfl rfl qw649 k_X10_periodOfSum ⟨rfl, rfl, Nat.le_of_ble_eq_true rfl, Nat.le_of_ble_eq_true rfl⟩ ⟨Nat.zero_le _, Nat.zero_le _⟩ hl.1 (Nat.le_of_ble_eq_true rfl) dX10_mixPair_116 rfl (fun H locs hw => ?_)
            refine lv_i2l hx hb dX10_mixPair_119 rfl ?_
            obtain ⟨v120, hv120, hf⟩ := ob_e hf
            refine xcallS (ws' := (wC g h now snap has hist ent u116.2 num col)) (st1 := [.long v120]) (n := 34) E hw [.long v105, .long u116.1.toInt64] [] (met_X10_mix l g v105 u116.1.toInt64 v120 hv120) rfl (by decide) rfl rfl [0, 1, 2, 3, 4, 5, 6, 7, 8, 9, 10, 11, 12, 13, 14, 15, 16, 17, 18, 19, 20, 21, 22, 23, 24, 25, 26, 27, 28, 29, 30, 31, 32, 33] rfl (by decide +kernel) rfl qw356 k_X10_mix ⟨rfl, rfl, Nat.le_of_ble_eq_true rfl, Nat.le_of_ble_eq_true rfl⟩ ⟨Nat.zero_le _, Nat.zero_le _⟩ hl.1 (Nat.le_of_ble_eq_true rfl) dX10_mixPair_120 rfl (fun H locs hw => ?_)
            refine lv_lstore (lv' := [(5, .long v120), (0, .ref (h 0)), (3, .int x3), (4, .int x4), (7, .int x7)]) hx hb dX10_mixPair_123 hl (by decide) rfl (fun ls hl => ?_)
            refine lv_lload hx hb dX10_mixPair_125 (lv_at hl 0 rfl) ?_
            refine lv_aload_n hx hb dX10_mixPair_127 rfl (lv_at hl 1 rfl) ?_
            refine lv_iload_n hx hb dX10_mixPair_128 rfl (lv_at hl 2 rfl) ?_
            refine lv_iload hx hb dX10_mixPair_129 (lv_at hl 3 rfl) ?_
            obtain ⟨v131, hv131, hf⟩ := ob_e hf
            refine xcallV (ws' := (wC g h now snap has hist ent u116.2 num col)) (st1 := [.int v131, .long v120]) (n := 34) E hw [.int x3, .int x4] [0, 1, 2, 3, 4, 5, 6, 7, 8, 9, 10, 11, 12, 13, 14, 15, 16, 17, 18, 19, 20, 21, 22, 23, 24, 25, 26, 27, 28, 29, 30, 31, 32, 33] (met_X10_order l g h now snap has hist ent u116.2 num col x3 x4 v131 hv131) rfl (by decide) rfl rfl [34, 35, 36, 37, 38, 39, 40, 41, 42, 43, 44, 45, 46, 47, 48, 49, 50, 51, 52, 53, 54, 55, 56, 57, 58, 59, 60, 61, 62, 63, 64, 65, 66, 67] rfl (by decide +kernel) rfl rfl rfl rfl qw336 k_X10_order ⟨rfl, rfl, Nat.le_of_ble_eq_true rfl, Nat.le_of_ble_eq_true rfl⟩ ⟨Nat.zero_le _, Nat.zero_le _⟩ hl.1 (Nat.le_of_ble_eq_true rfl) dX10_mixPair_131 rfl (fun H locs hw => ?_)
            refine lv_i2l hx hb dX10_mixPair_134 rfl ?_
            obtain ⟨v135, hv135, hf⟩ := ob_e hf
            refine xcallS (ws' := (wC g h now snap has hist ent u116.2 num col)) (st1 := [.long v135]) (n := 34) E hw [.long v120, .long v131.toInt64] [] (met_X10_mix l g v120 v131.toInt64 v135 hv135) rfl (by decide) rfl rfl [0, 1, 2, 3, 4, 5, 6, 7, 8, 9, 10, 11, 12, 13, 14, 15, 16, 17, 18, 19, 20, 21, 22, 23, 24, 25, 26, 27, 28, 29, 30, 31, 32, 33] rfl (by decide +kernel) rfl qw356 k_X10_mix ⟨rfl, rfl, Nat.le_of_ble_eq_true rfl, Nat.le_of_ble_eq_true rfl⟩ ⟨Nat.zero_le _, Nat.zero_le _⟩ hl.1 (Nat.le_of_ble_eq_true rfl) dX10_mixPair_135 rfl (fun H locs hw => ?_)
            exact hret _ _ _ _ _ _ _ (Option.some.inj hf) dX10_mixPair_138 hw
      · replace hf := iq c48 hf
        refine lv_lload hx hb dX10_mixPair_51 (lv_at hl 3 rfl) ?_
        refine lv_aload_n hx hb dX10_mixPair_53 rfl (lv_at hl 0 rfl) ?_
        refine xget (v := .ref (h 32)) E hw 0 rfl rfl 7 (by decide) inw10 qw253 rfl rfl dX10_mixPair_54 ?_
        refine lv_iload hx hb dX10_mixPair_57 (lv_at hl 4 rfl) ?_
        obtain ⟨v59, hv59, hf⟩ := ob_e hf
        refine xcallV (ws' := (wC g h now snap has hist ent res num col)) (st1 := [.int v59, .long x5]) (n := 34) E hw [.int x7] [32, 33] (met_X1_digitAt l g h 32 col x7 v59 hv59) rfl (by decide) rfl rfl [0, 1, 2, 3, 4, 5, 6, 7, 8, 9, 10, 11, 12, 13, 14, 15, 16, 17, 18, 19, 20, 21, 22, 23, 24, 25, 26, 27, 28, 29, 30, 31, 34, 35] rfl (by decide +kernel) rfl rfl rfl rfl qw618 k_X1_digitAt ⟨rfl, rfl, Nat.le_of_ble_eq_true rfl, Nat.le_of_ble_eq_true rfl⟩ ⟨Nat.zero_le _, Nat.zero_le _⟩ hl.1 (Nat.le_of_ble_eq_true rfl) dX10_mixPair_59 rfl (fun H locs hw => ?_)
        refine lv_i2l hx hb dX10_mixPair_62 rfl ?_
        obtain ⟨v63, hv63, hf⟩ := ob_e hf
        refine xcallS (ws' := (wC g h now snap has hist ent res num col)) (st1 := [.long v63]) (n := 34) E hw [.long x5, .long v59.toInt64] [] (met_X10_mix l g x5 v59.toInt64 v63 hv63) rfl (by decide) rfl rfl [0, 1, 2, 3, 4, 5, 6, 7, 8, 9, 10, 11, 12, 13, 14, 15, 16, 17, 18, 19, 20, 21, 22, 23, 24, 25, 26, 27, 28, 29, 30, 31, 32, 33] rfl (by decide +kernel) rfl qw356 k_X10_mix ⟨rfl, rfl, Nat.le_of_ble_eq_true rfl, Nat.le_of_ble_eq_true rfl⟩ ⟨Nat.zero_le _, Nat.zero_le _⟩ hl.1 (Nat.le_of_ble_eq_true rfl) dX10_mixPair_63 rfl (fun H locs hw => ?_)
        refine lv_lstore (lv' := [(5, .long v63), (0, .ref (h 0)), (3, .int x3), (4, .int x4), (7, .int x7)]) hx hb dX10_mixPair_66 hl (by decide) rfl (fun ls hl => ?_)
        refine lv_iinc (v := x7 + 1) (lv' := [(7, .int (x7 + 1)), (5, .long v63), (0, .ref (h 0)), (3, .int x3), (4, .int x4)]) hx hb dX10_mixPair_68 hl (k := 4) rfl rfl (by decide) rfl (fun ls hl => ?_)
        refine lv_goto (tgt := 39) hx hb dX10_mixPair_71 (by decide) ?_
        exact ih39 _ _ _ res col x3 x4 v63 (x7 + 1) hw (lv_sub hl [2, 3, 4, 1, 0] rfl) hf
  refine lv_aload_n hx hb dX10_mixPair_0 rfl (lv_at hl 0 rfl) ?_
  refine lv_iload_n hx hb dX10_mixPair_1 rfl (lv_at hl 2 rfl) ?_
  refine lv_iload hx hb dX10_mixPair_2 (lv_at hl 3 rfl) ?_
  obtain ⟨v4, hv4, hf⟩ := ob_e hf
  refine xcallV (ws' := (wC g h now snap has hist ent res num v4)) (st1 := []) (n := 34) E hw [.int a2, .int a3] [0, 1, 2, 3, 4, 5, 6, 7, 8, 9, 10, 11, 12, 13, 14, 15, 16, 17, 18, 19, 20, 21, 22, 23, 24, 25, 26, 27, 28, 29, 30, 31, 32, 33] (met_X10_formColumns l g h now snap has hist ent res num col a2 a3 v4 hv4) rfl (by decide) rfl rfl [34, 35, 36, 37, 38, 39, 40, 41, 42, 43, 44, 45, 46, 47, 48, 49, 50, 51, 52, 53, 54, 55, 56, 57, 58, 59, 60, 61, 62, 63, 64, 65, 66, 67] rfl (by decide +kernel) rfl rfl rfl rfl qw604 k_X10_formColumns ⟨rfl, rfl, Nat.le_of_ble_eq_true rfl, Nat.le_of_ble_eq_true rfl⟩ ⟨Nat.zero_le _, Nat.zero_le _⟩ hl.1 (Nat.le_of_ble_eq_true rfl) dX10_mixPair_4 rfl (fun H locs hw => ?_)
  refine lv_lload_n hx hb dX10_mixPair_7 rfl (lv_at hl 1 rfl) ?_
  refine lv_aload_n hx hb dX10_mixPair_8 rfl (lv_at hl 0 rfl) ?_
  refine xget (v := .ref (h 32)) E hw 0 rfl rfl 7 (by decide) inw10 qw253 rfl rfl dX10_mixPair_9 ?_
  refine xget (v := .int v4.2.1) E hw 32 rfl rfl 1 (by decide) inw1 qw233 rfl rfl dX10_mixPair_12 ?_
  refine lv_i2l hx hb dX10_mixPair_15 rfl ?_
  obtain ⟨v16, hv16, hf⟩ := ob_e hf
  refine xcallS (ws' := (wC g h now snap has hist ent res num v4)) (st1 := [.long v16]) (n := 34) E hw [.long a1, .long v4.2.1.toInt64] [] (met_X10_mix l g a1 v4.2.1.toInt64 v16 hv16) rfl (by decide) rfl rfl [0, 1, 2, 3, 4, 5, 6, 7, 8, 9, 10, 11, 12, 13, 14, 15, 16, 17, 18, 19, 20, 21, 22, 23, 24, 25, 26, 27, 28, 29, 30, 31, 32, 33] rfl (by decide +kernel) rfl qw356 k_X10_mix ⟨rfl, rfl, Nat.le_of_ble_eq_true rfl, Nat.le_of_ble_eq_true rfl⟩ ⟨Nat.zero_le _, Nat.zero_le _⟩ hl.1 (Nat.le_of_ble_eq_true rfl) dX10_mixPair_16 rfl (fun H locs hw => ?_)
  refine lv_lstore (lv' := [(5, .long v16), (0, .ref (h 0)), (1, .long a1), (3, .int a2), (4, .int a3)]) hx hb dX10_mixPair_19 hl (by decide) rfl (fun ls hl => ?_)
  refine lv_lload hx hb dX10_mixPair_21 (lv_at hl 0 rfl) ?_
  refine lv_aload_n hx hb dX10_mixPair_23 rfl (lv_at hl 1 rfl) ?_
  refine xget (v := .ref (h 32)) E hw 0 rfl rfl 7 (by decide) inw10 qw253 rfl rfl dX10_mixPair_24 ?_
  refine xget (v := .int v4.2.2.1) E hw 32 rfl rfl 2 (by decide) inw1 qw235 rfl rfl dX10_mixPair_27 ?_
  refine lv_i2l hx hb dX10_mixPair_30 rfl ?_
  obtain ⟨v31, hv31, hf⟩ := ob_e hf
  refine xcallS (ws' := (wC g h now snap has hist ent res num v4)) (st1 := [.long v31]) (n := 34) E hw [.long v16, .long v4.2.2.1.toInt64] [] (met_X10_mix l g v16 v4.2.2.1.toInt64 v31 hv31) rfl (by decide) rfl rfl [0, 1, 2, 3, 4, 5, 6, 7, 8, 9, 10, 11, 12, 13, 14, 15, 16, 17, 18, 19, 20, 21, 22, 23, 24, 25, 26, 27, 28, 29, 30, 31, 32, 33] rfl (by decide +kernel) rfl qw356 k_X10_mix ⟨rfl, rfl, Nat.le_of_ble_eq_true rfl, Nat.le_of_ble_eq_true rfl⟩ ⟨Nat.zero_le _, Nat.zero_le _⟩ hl.1 (Nat.le_of_ble_eq_true rfl) dX10_mixPair_31 rfl (fun H locs hw => ?_)
  refine lv_lstore (lv' := [(5, .long v31), (0, .ref (h 0)), (1, .long a1), (3, .int a2), (4, .int a3)]) hx hb dX10_mixPair_34 hl (by decide) rfl (fun ls hl => ?_)
  refine lv_iconst (v := 0) hx hb dX10_mixPair_36 (by decide) ?_
  refine lv_istore (lv' := [(7, .int 0), (5, .long v31), (0, .ref (h 0)), (1, .long a1), (3, .int a2), (4, .int a3)]) hx hb dX10_mixPair_37 hl (by decide) rfl (fun ls hl => ?_)
  exact b39 xfuel _ _ _ res v4 a2 a3 v31 0 hw (lv_sub hl [2, 4, 5, 1, 0] rfl) hf
theorem k_X10_digest : xKV yX10_digest cX10_digest 4 (some .long) 0 := ⟨qw352, qw353, qw66, qw354, by decide +kernel, by decide +kernel, by decide +kernel⟩
set_option maxHeartbeats 4000000 in
set_option maxRecDepth 100000 in
theorem met_X10_digest (l : Launch) (g : xG) (h : Nat → Nat) (now : SC) (snap : SC) (has : Int32) (hist : HC) (ent : EC) (res : RC) (num : NC) (col : CC) (out : Int64 × RC × CC) (hf : f_X10_digest now hist ent res col = some out) : xM l yX10_digest (xC yX10_digest cX10_digest 4 (some .long)) { frames := 6, cells := 0, slots := 0, locals := 157 } g (wC g h now snap has hist ent res num col) [.ref (h 0)] (some (.long out.1)) (wC g h now snap has hist ent out.2.1 num out.2.2) := by
  refine xof (by decide) (Nat.le_of_ble_eq_true rfl) ⟨rfl, rfl⟩ ?_
  intro p e s m below meth c A ls E hr hlocks hw hl hpost hAe
  have hx := E.1.1
  have hb := E.1.2.1
  have hown := E.1.2.2.2.1
  have hts := E.1.2.2.2.2
  generalize hZ : (MQ below (xPost g (wC g h now snap has hist ent res num col) (wC g h now snap has hist ent out.2.1 num out.2.2) s.heap.size (some (.long out.1))) [.ref (h 0)].toArray s 0 0 A) = ZZ
  have hret : ∀ (pc : Nat) (H : Heap) (locs : List Loc) (ls : Array Slot) (v : Int64) (cres : RC) (ccol : CC), (v, cres, ccol) = out → decode cX10_digest pc = .ok (.lreturn, 1) → xW g A s.heap (wC g h now snap has hist ent cres num ccol) H locs → W p l e { frames := 6, cells := 0, slots := 0, locals := 157 } s m [.ref (h 0)].toArray below meth c H locs 0 0 ZZ (F0 m pc ls [.long v]) := by
    intro pc H locs ls v cres ccol he hd hw
    subst he
    rw [← hZ]
    exact W.lret hx hb hr (hpost H locs hw).1 (hpost H locs hw).2 hd hlocks
  clear hpost
  have b97 : ∀ n97 : Nat, ∀ (H : Heap) (locs : List Loc) (ls : Array Slot) (res : RC) (col : CC) (x1 : Int64) (x3 : Int32), xW g A s.heap (wC g h now snap has hist ent res num col) H locs → lv_has ls 4 [(0, .ref (h 0)), (1, .long x1), (3, .int x3)] → f_X10_digest_b97 n97 now hist ent res col x1 x3 = some out → W p l e { frames := 6, cells := 0, slots := 0, locals := 157 } s m [.ref (h 0)].toArray below meth c H locs 0 0 ZZ (F0 m 97 ls []) := by
    intro n97
    induction n97 with
    | zero =>
      intro H locs ls res col x1 x3 hw hl hf
      exact nn hf
    | succ n97 ih97 =>
      intro H locs ls res col x1 x3 hw hl hf
      refine lv_iload_n hx hb dX10_digest_97 rfl (lv_at hl 2 rfl) ?_
      refine lv_bipush (v := 6) hx hb dX10_digest_98 (by decide) ?_
      refine lv_icmp_ge (tgt := 122) hx hb dX10_digest_100 (by decide) (fun c100 => ?_) (fun c100 => ?_)
      · replace hf := ip c100 hf
        refine lv_aload_n hx hb dX10_digest_122 rfl (lv_at hl 0 rfl) ?_
        refine lv_lload_n hx hb dX10_digest_123 rfl (lv_at hl 1 rfl) ?_
        obtain ⟨v124, hv124, hf⟩ := ob_e hf
        refine xcallV (ws' := (wC g h now snap has hist ent res num col)) (st1 := [.long v124]) (n := 34) E hw [.long x1] [0, 1, 2, 3, 4, 5, 6, 7, 8, 9, 10, 11, 12, 13, 14, 15, 16, 17, 18, 19, 20, 21, 22, 23, 24, 25, 26, 27, 28, 29, 30, 31, 32, 33] (met_X10_mixTexts l g h now snap has hist ent res num col x1 v124 hv124) rfl (by decide) rfl rfl [34, 35, 36, 37, 38, 39, 40, 41, 42, 43, 44, 45, 46, 47, 48, 49, 50, 51, 52, 53, 54, 55, 56, 57, 58, 59, 60, 61, 62, 63, 64, 65, 66, 67] rfl (by decide +kernel) rfl rfl rfl rfl qw673 k_X10_mixTexts ⟨rfl, rfl, Nat.le_of_ble_eq_true rfl, Nat.le_of_ble_eq_true rfl⟩ ⟨Nat.zero_le _, Nat.zero_le _⟩ hl.1 (Nat.le_of_ble_eq_true rfl) dX10_digest_124 rfl (fun H locs hw => ?_)
        exact hret _ _ _ _ _ _ _ (Option.some.inj hf) dX10_digest_127 hw
      · replace hf := iq c100 hf
        refine lv_lload_n hx hb dX10_digest_103 rfl (lv_at hl 1 rfl) ?_
        refine lv_aload_n hx hb dX10_digest_104 rfl (lv_at hl 0 rfl) ?_
        refine lv_iload_n hx hb dX10_digest_105 rfl (lv_at hl 2 rfl) ?_
        obtain ⟨v106, hv106, hf⟩ := ob_e hf
        rcases v106 with t106 | u106
        · replace hf := se_l hf
          exact nn hf
        · replace hf := se_r hf
          refine xcallV (ws' := (wC g h now snap has hist ent res num col)) (st1 := [.double u106, .long x1]) (n := 34) E hw [.int x3] [0, 1, 2, 3, 4, 5, 6, 7, 8, 9, 10, 11, 12, 13, 14, 15, 16, 17, 18, 19, 20, 21, 22, 23, 24, 25, 26, 27, 28, 29, 30, 31, 32, 33] (met_X10_shareOf l g h now snap has hist ent res num col x3 u106 hv106) rfl (by decide) rfl rfl [34, 35, 36, 37, 38, 39, 40, 41, 42, 43, 44, 45, 46, 47, 48, 49, 50, 51, 52, 53, 54, 55, 56, 57, 58, 59, 60, 61, 62, 63, 64, 65, 66, 67] rfl (by decide +kernel) rfl rfl rfl rfl qw659 k_X10_shareOf ⟨rfl, rfl, Nat.le_of_ble_eq_true rfl, Nat.le_of_ble_eq_true rfl⟩ ⟨Nat.zero_le _, Nat.zero_le _⟩ hl.1 (Nat.le_of_ble_eq_true rfl) dX10_digest_106 rfl (fun H locs hw => ?_)
          obtain ⟨v109, hv109, hf⟩ := ob_e hf
          refine xcallS (ws' := (wC g h now snap has hist ent res num col)) (st1 := [.long v109, .long x1]) (n := 34) E hw [.double u106] [] (met_X10_bitsOf l g u106 v109 hv109) rfl (by decide) rfl rfl [0, 1, 2, 3, 4, 5, 6, 7, 8, 9, 10, 11, 12, 13, 14, 15, 16, 17, 18, 19, 20, 21, 22, 23, 24, 25, 26, 27, 28, 29, 30, 31, 32, 33] rfl (by decide +kernel) rfl qw667 k_X10_bitsOf ⟨rfl, rfl, Nat.le_of_ble_eq_true rfl, Nat.le_of_ble_eq_true rfl⟩ ⟨Nat.zero_le _, Nat.zero_le _⟩ hl.1 (Nat.le_of_ble_eq_true rfl) dX10_digest_109 rfl (fun H locs hw => ?_)
          obtain ⟨v112, hv112, hf⟩ := ob_e hf
          refine xcallS (ws' := (wC g h now snap has hist ent res num col)) (st1 := [.long v112]) (n := 34) E hw [.long x1, .long v109] [] (met_X10_mix l g x1 v109 v112 hv112) rfl (by decide) rfl rfl [0, 1, 2, 3, 4, 5, 6, 7, 8, 9, 10, 11, 12, 13, 14, 15, 16, 17, 18, 19, 20, 21, 22, 23, 24, 25, 26, 27, 28, 29, 30, 31, 32, 33] rfl (by decide +kernel) rfl qw356 k_X10_mix ⟨rfl, rfl, Nat.le_of_ble_eq_true rfl, Nat.le_of_ble_eq_true rfl⟩ ⟨Nat.zero_le _, Nat.zero_le _⟩ hl.1 (Nat.le_of_ble_eq_true rfl) dX10_digest_112 rfl (fun H locs hw => ?_)
          refine lv_lstore_n (lv' := [(1, .long v112), (0, .ref (h 0)), (3, .int x3)]) hx hb dX10_digest_115 rfl hl (by decide) rfl (fun ls hl => ?_)
          refine lv_iinc (v := x3 + 1) (lv' := [(3, .int (x3 + 1)), (1, .long v112), (0, .ref (h 0))]) hx hb dX10_digest_116 hl (k := 2) rfl rfl (by decide) rfl (fun ls hl => ?_)
          refine lv_goto (tgt := 97) hx hb dX10_digest_119 (by decide) ?_
          exact ih97 _ _ _ res col v112 (x3 + 1) hw (lv_sub hl [2, 1, 0] rfl) hf
  have b70 : ∀ n70 : Nat, ∀ (H : Heap) (locs : List Loc) (ls : Array Slot) (res : RC) (col : CC) (x1 : Int64) (x3 : Int32), xW g A s.heap (wC g h now snap has hist ent res num col) H locs → lv_has ls 4 [(0, .ref (h 0)), (1, .long x1), (3, .int x3)] → f_X10_digest_b70 n70 now hist ent res col x1 x3 = some out → W p l e { frames := 6, cells := 0, slots := 0, locals := 157 } s m [.ref (h 0)].toArray below meth c H locs 0 0 ZZ (F0 m 70 ls []) := by
    intro n70
    induction n70 with
    | zero =>
      intro H locs ls res col x1 x3 hw hl hf
      exact nn hf
    | succ n70 ih70 =>
      intro H locs ls res col x1 x3 hw hl hf
      refine lv_iload_n hx hb dX10_digest_70 rfl (lv_at hl 2 rfl) ?_
      refine lv_bipush (v := 6) hx hb dX10_digest_71 (by decide) ?_
      refine lv_icmp_ge (tgt := 95) hx hb dX10_digest_73 (by decide) (fun c73 => ?_) (fun c73 => ?_)
      · replace hf := ip c73 hf
        refine lv_iconst (v := 0) hx hb dX10_digest_95 (by decide) ?_
        refine lv_istore_n (lv' := [(3, .int 0), (0, .ref (h 0)), (1, .long x1)]) hx hb dX10_digest_96 rfl hl (by decide) rfl (fun ls hl => ?_)
        exact b97 xfuel _ _ _ res col x1 0 hw (lv_sub hl [1, 2, 0] rfl) hf
      · replace hf := iq c73 hf
        refine lv_aload_n hx hb dX10_digest_76 rfl (lv_at hl 0 rfl) ?_
        refine lv_lload_n hx hb dX10_digest_77 rfl (lv_at hl 1 rfl) ?_
        refine lv_iload_n hx hb dX10_digest_78 rfl (lv_at hl 2 rfl) ?_
        refine lv_iload_n hx hb dX10_digest_79 rfl (lv_at hl 2 rfl) ?_
        refine lv_iconst (v := 1) hx hb dX10_digest_80 (by decide) ?_
        refine lv_iadd hx hb dX10_digest_81 ?_
        refine lv_bipush (v := 6) hx hb dX10_digest_82 (by decide) ?_
        refine lv_irem hx hb dX10_digest_84 (by decide) ?_
        obtain ⟨v85, hv85, hf⟩ := ob_e hf
        refine xcallV (ws' := (wC g h now snap has hist ent v85.2.1 num v85.2.2)) (st1 := [.long v85.1]) (n := 34) E hw [.long x1, .int x3, .int ((x3 + 1) - (x3 + 1) / 6 * 6)] [0, 1, 2, 3, 4, 5, 6, 7, 8, 9, 10, 11, 12, 13, 14, 15, 16, 17, 18, 19, 20, 21, 22, 23, 24, 25, 26, 27, 28, 29, 30, 31, 32, 33] (met_X10_mixPair l g h now snap has hist ent res num col x1 x3 ((x3 + 1) - (x3 + 1) / 6 * 6) v85 hv85) rfl (by decide) rfl rfl [34, 35, 36, 37, 38, 39, 40, 41, 42, 43, 44, 45, 46, 47, 48, 49, 50, 51, 52, 53, 54, 55, 56, 57, 58, 59, 60, 61, 62, 63, 64, 65, 66, 67] rfl (by decide +kernel) rfl rfl rfl rfl qw600 k_X10_mixPair ⟨rfl, rfl, Nat.le_of_ble_eq_true rfl, Nat.le_of_ble_eq_true rfl⟩ ⟨Nat.zero_le _, Nat.zero_le _⟩ hl.1 (Nat.le_of_ble_eq_true rfl) dX10_digest_85 rfl (fun H locs hw => ?_)
        refine lv_lstore_n (lv' := [(1, .long v85.1), (0, .ref (h 0)), (3, .int x3)]) hx hb dX10_digest_88 rfl hl (by decide) rfl (fun ls hl => ?_)
        refine lv_iinc (v := x3 + 1) (lv' := [(3, .int (x3 + 1)), (1, .long v85.1), (0, .ref (h 0))]) hx hb dX10_digest_89 hl (k := 2) rfl rfl (by decide) rfl (fun ls hl => ?_)
        refine lv_goto (tgt := 70) hx hb dX10_digest_92 (by decide) ?_
        exact ih70 _ _ _ v85.2.1 v85.2.2 v85.1 (x3 + 1) hw (lv_sub hl [2, 1, 0] rfl) hf
  have b42 : ∀ n42 : Nat, ∀ (H : Heap) (locs : List Loc) (ls : Array Slot) (res : RC) (col : CC) (x1 : Int64) (x3 : Int32), xW g A s.heap (wC g h now snap has hist ent res num col) H locs → lv_has ls 4 [(0, .ref (h 0)), (1, .long x1), (3, .int x3)] → f_X10_digest_b42 n42 now hist ent res col x1 x3 = some out → W p l e { frames := 6, cells := 0, slots := 0, locals := 157 } s m [.ref (h 0)].toArray below meth c H locs 0 0 ZZ (F0 m 42 ls []) := by
    intro n42
    induction n42 with
    | zero =>
      intro H locs ls res col x1 x3 hw hl hf
      exact nn hf
    | succ n42 ih42 =>
      intro H locs ls res col x1 x3 hw hl hf
      refine lv_iload_n hx hb dX10_digest_42 rfl (lv_at hl 2 rfl) ?_
      refine lv_bipush (v := 6) hx hb dX10_digest_43 (by decide) ?_
      refine lv_icmp_ge (tgt := 68) hx hb dX10_digest_45 (by decide) (fun c45 => ?_) (fun c45 => ?_)
      · replace hf := ip c45 hf
        refine lv_iconst (v := 0) hx hb dX10_digest_68 (by decide) ?_
        refine lv_istore_n (lv' := [(3, .int 0), (0, .ref (h 0)), (1, .long x1)]) hx hb dX10_digest_69 rfl hl (by decide) rfl (fun ls hl => ?_)
        exact b70 xfuel _ _ _ res col x1 0 hw (lv_sub hl [1, 2, 0] rfl) hf
      · replace hf := iq c45 hf
        refine lv_aload_n hx hb dX10_digest_48 rfl (lv_at hl 0 rfl) ?_
        refine lv_lload_n hx hb dX10_digest_49 rfl (lv_at hl 1 rfl) ?_
        refine lv_iload_n hx hb dX10_digest_50 rfl (lv_at hl 2 rfl) ?_
        obtain ⟨v51, hv51, hf⟩ := ob_e hf
        refine xcallV (ws' := (wC g h now snap has hist ent res num col)) (st1 := [.long v51]) (n := 34) E hw [.long x1, .int x3] [0, 1, 2, 3, 4, 5, 6, 7, 8, 9, 10, 11, 12, 13, 14, 15, 16, 17, 18, 19, 20, 21, 22, 23, 24, 25, 26, 27, 28, 29, 30, 31, 32, 33] (met_X10_mixWhole l g h now snap has hist ent res num col x1 x3 v51 hv51) rfl (by decide) rfl rfl [34, 35, 36, 37, 38, 39, 40, 41, 42, 43, 44, 45, 46, 47, 48, 49, 50, 51, 52, 53, 54, 55, 56, 57, 58, 59, 60, 61, 62, 63, 64, 65, 66, 67] rfl (by decide +kernel) rfl rfl rfl rfl qw361 k_X10_mixWhole ⟨rfl, rfl, Nat.le_of_ble_eq_true rfl, Nat.le_of_ble_eq_true rfl⟩ ⟨Nat.zero_le _, Nat.zero_le _⟩ hl.1 (Nat.le_of_ble_eq_true rfl) dX10_digest_51 rfl (fun H locs hw => ?_)
        refine lv_lstore_n (lv' := [(1, .long v51), (0, .ref (h 0)), (3, .int x3)]) hx hb dX10_digest_54 rfl hl (by decide) rfl (fun ls hl => ?_)
        refine lv_aload_n hx hb dX10_digest_55 rfl (lv_at hl 1 rfl) ?_
        refine lv_lload_n hx hb dX10_digest_56 rfl (lv_at hl 0 rfl) ?_
        refine lv_iload_n hx hb dX10_digest_57 rfl (lv_at hl 2 rfl) ?_
        obtain ⟨v58, hv58, hf⟩ := ob_e hf
        refine xcallV (ws' := (wC g h now snap has hist ent res num col)) (st1 := [.long v58]) (n := 34) E hw [.long v51, .int x3] [0, 1, 2, 3, 4, 5, 6, 7, 8, 9, 10, 11, 12, 13, 14, 15, 16, 17, 18, 19, 20, 21, 22, 23, 24, 25, 26, 27, 28, 29, 30, 31, 32, 33] (met_X10_mixBehind l g h now snap has hist ent res num col v51 x3 v58 hv58) rfl (by decide) rfl rfl [34, 35, 36, 37, 38, 39, 40, 41, 42, 43, 44, 45, 46, 47, 48, 49, 50, 51, 52, 53, 54, 55, 56, 57, 58, 59, 60, 61, 62, 63, 64, 65, 66, 67] rfl (by decide +kernel) rfl rfl rfl rfl qw504 k_X10_mixBehind ⟨rfl, rfl, Nat.le_of_ble_eq_true rfl, Nat.le_of_ble_eq_true rfl⟩ ⟨Nat.zero_le _, Nat.zero_le _⟩ hl.1 (Nat.le_of_ble_eq_true rfl) dX10_digest_58 rfl (fun H locs hw => ?_)
        refine lv_lstore_n (lv' := [(1, .long v58), (0, .ref (h 0)), (3, .int x3)]) hx hb dX10_digest_61 rfl hl (by decide) rfl (fun ls hl => ?_)
        refine lv_iinc (v := x3 + 1) (lv' := [(3, .int (x3 + 1)), (1, .long v58), (0, .ref (h 0))]) hx hb dX10_digest_62 hl (k := 2) rfl rfl (by decide) rfl (fun ls hl => ?_)
        refine lv_goto (tgt := 42) hx hb dX10_digest_65 (by decide) ?_
        exact ih42 _ _ _ res col v58 (x3 + 1) hw (lv_sub hl [2, 1, 0] rfl) hf
  refine lv_ldc2 hx hb hown (hts _ qw355) dX10_digest_0 ?_
  refine lv_lstore_n (lv' := [(1, .long 4513), (0, .ref (h 0))]) hx hb dX10_digest_3 rfl hl (by decide) rfl (fun ls hl => ?_)
  refine lv_lload_n hx hb dX10_digest_4 rfl (lv_at hl 0 rfl) ?_
  refine lv_aload_n hx hb dX10_digest_5 rfl (lv_at hl 1 rfl) ?_
  refine xget (v := .ref (h 1)) E hw 0 rfl rfl 0 (by decide) inw10 qw246 rfl rfl dX10_digest_6 ?_
  refine xget (v := .int now.1) E hw 1 rfl rfl 0 (by decide) inw7 qw101 rfl rfl dX10_digest_9 ?_
  refine lv_i2l hx hb dX10_digest_12 rfl ?_
  obtain ⟨v13, hv13, hf⟩ := ob_e hf
  refine xcallS (ws' := (wC g h now snap has hist ent res num col)) (st1 := [.long v13]) (n := 34) E hw [.long 4513, .long now.1.toInt64] [] (met_X10_mix l g 4513 now.1.toInt64 v13 hv13) rfl (by decide) rfl rfl [0, 1, 2, 3, 4, 5, 6, 7, 8, 9, 10, 11, 12, 13, 14, 15, 16, 17, 18, 19, 20, 21, 22, 23, 24, 25, 26, 27, 28, 29, 30, 31, 32, 33] rfl (by decide +kernel) rfl qw356 k_X10_mix ⟨rfl, rfl, Nat.le_of_ble_eq_true rfl, Nat.le_of_ble_eq_true rfl⟩ ⟨Nat.zero_le _, Nat.zero_le _⟩ hl.1 (Nat.le_of_ble_eq_true rfl) dX10_digest_13 rfl (fun H locs hw => ?_)
  refine lv_lstore_n (lv' := [(1, .long v13), (0, .ref (h 0))]) hx hb dX10_digest_16 rfl hl (by decide) rfl (fun ls hl => ?_)
  refine lv_lload_n hx hb dX10_digest_17 rfl (lv_at hl 0 rfl) ?_
  refine lv_aload_n hx hb dX10_digest_18 rfl (lv_at hl 1 rfl) ?_
  obtain ⟨v19, hv19, hf⟩ := ob_e hf
  refine xcallV (ws' := (wC g h now snap has hist ent res num col)) (st1 := [.int v19, .long v13]) (n := 34) E hw [] [0, 1, 2, 3, 4, 5, 6, 7, 8, 9, 10, 11, 12, 13, 14, 15, 16, 17, 18, 19, 20, 21, 22, 23, 24, 25, 26, 27, 28, 29, 30, 31, 32, 33] (met_X10_richest l g h now snap has hist ent res num col v19 hv19) rfl (by decide) rfl rfl [34, 35, 36, 37, 38, 39, 40, 41, 42, 43, 44, 45, 46, 47, 48, 49, 50, 51, 52, 53, 54, 55, 56, 57, 58, 59, 60, 61, 62, 63, 64, 65, 66, 67] rfl (by decide +kernel) rfl rfl rfl rfl qw360 k_X10_richest ⟨rfl, rfl, Nat.le_of_ble_eq_true rfl, Nat.le_of_ble_eq_true rfl⟩ ⟨Nat.zero_le _, Nat.zero_le _⟩ hl.1 (Nat.le_of_ble_eq_true rfl) dX10_digest_19 rfl (fun H locs hw => ?_)
  refine lv_i2l hx hb dX10_digest_22 rfl ?_
  obtain ⟨v23, hv23, hf⟩ := ob_e hf
  refine xcallS (ws' := (wC g h now snap has hist ent res num col)) (st1 := [.long v23]) (n := 34) E hw [.long v13, .long v19.toInt64] [] (met_X10_mix l g v13 v19.toInt64 v23 hv23) rfl (by decide) rfl rfl [0, 1, 2, 3, 4, 5, 6, 7, 8, 9, 10, 11, 12, 13, 14, 15, 16, 17, 18, 19, 20, 21, 22, 23, 24, 25, 26, 27, 28, 29, 30, 31, 32, 33] rfl (by decide +kernel) rfl qw356 k_X10_mix ⟨rfl, rfl, Nat.le_of_ble_eq_true rfl, Nat.le_of_ble_eq_true rfl⟩ ⟨Nat.zero_le _, Nat.zero_le _⟩ hl.1 (Nat.le_of_ble_eq_true rfl) dX10_digest_23 rfl (fun H locs hw => ?_)
  refine lv_lstore_n (lv' := [(1, .long v23), (0, .ref (h 0))]) hx hb dX10_digest_26 rfl hl (by decide) rfl (fun ls hl => ?_)
  refine lv_lload_n hx hb dX10_digest_27 rfl (lv_at hl 0 rfl) ?_
  refine lv_aload_n hx hb dX10_digest_28 rfl (lv_at hl 1 rfl) ?_
  refine xget (v := .ref (h 7)) E hw 0 rfl rfl 3 (by decide) inw10 qw249 rfl rfl dX10_digest_29 ?_
  refine xget (v := .int hist.1) E hw 7 rfl rfl 0 (by decide) inw3 qw130 rfl rfl dX10_digest_32 ?_
  refine lv_i2l hx hb dX10_digest_35 rfl ?_
  obtain ⟨v36, hv36, hf⟩ := ob_e hf
  refine xcallS (ws' := (wC g h now snap has hist ent res num col)) (st1 := [.long v36]) (n := 34) E hw [.long v23, .long hist.1.toInt64] [] (met_X10_mix l g v23 hist.1.toInt64 v36 hv36) rfl (by decide) rfl rfl [0, 1, 2, 3, 4, 5, 6, 7, 8, 9, 10, 11, 12, 13, 14, 15, 16, 17, 18, 19, 20, 21, 22, 23, 24, 25, 26, 27, 28, 29, 30, 31, 32, 33] rfl (by decide +kernel) rfl qw356 k_X10_mix ⟨rfl, rfl, Nat.le_of_ble_eq_true rfl, Nat.le_of_ble_eq_true rfl⟩ ⟨Nat.zero_le _, Nat.zero_le _⟩ hl.1 (Nat.le_of_ble_eq_true rfl) dX10_digest_36 rfl (fun H locs hw => ?_)
  refine lv_lstore_n (lv' := [(1, .long v36), (0, .ref (h 0))]) hx hb dX10_digest_39 rfl hl (by decide) rfl (fun ls hl => ?_)
  refine lv_iconst (v := 0) hx hb dX10_digest_40 (by decide) ?_
  refine lv_istore_n (lv' := [(3, .int 0), (1, .long v36), (0, .ref (h 0))]) hx hb dX10_digest_41 rfl hl (by decide) rfl (fun ls hl => ?_)
  exact b42 xfuel _ _ _ res col v36 0 hw (lv_sub hl [2, 1, 0] rfl) hf
