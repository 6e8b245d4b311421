theorem k_L_low : xKS yL_low cL_low 2 (some .int) 2 := ⟨qw415, qw12, qw416, by decide +kernel, by decide +kernel, by decide +kernel⟩
set_option maxHeartbeats 4000000 in
set_option maxRecDepth 100000 in
theorem met_L_low (l : Launch) (g : xG) (a0 : Int32) (a1 : Int32) (out : Int32) (hf : f_L_low a0 a1 = some out) : xM l yL_low (xC yL_low cL_low 2 (some .int)) { frames := 0, cells := 0, slots := 0, locals := 0 } g ([] : va_W) [.int a0, .int a1] (some (.int out)) ([] : va_W) := by
  refine xof (by decide) (Nat.le_of_ble_eq_true rfl) ⟨rfl, rfl⟩ ?_
  intro p e s m below meth c A ls E hr hlocks hw hl hpost hAe
  have hx := E.1.1
  have hb := E.1.2.1
  have hown := E.1.2.2.2.1
  have hts := E.1.2.2.2.2
  generalize hZ : (MQ below (xPost g ([] : va_W) ([] : va_W) s.heap.size (some (.int out))) [.int a0, .int a1].toArray s 0 0 A) = ZZ
  have hret : ∀ (pc : Nat) (H : Heap) (locs : List Loc) (ls : Array Slot) (v : Int32), v = out → decode cL_low pc = .ok (.ireturn, 1) → xW g A s.heap ([] : va_W) H locs → W p l e { frames := 0, cells := 0, slots := 0, locals := 0 } s m [.int a0, .int a1].toArray below meth c H locs 0 0 ZZ (F0 m pc ls [.int v]) := by
    intro pc H locs ls v he hd hw
    subst he
    rw [← hZ]
    exact W.iret hx hb hr (hpost H locs hw).1 (hpost H locs hw).2 hd hlocks
  clear hpost
  refine lv_iload_n hx hb dL_low_0 rfl (lv_at hl 0 rfl) ?_
  refine lv_ldc hx hb hown (hts _ qw417) dL_low_1 ?_
  refine lv_iand hx hb dL_low_3 ?_
  refine lv_iload_n hx hb dL_low_4 rfl (lv_at hl 1 rfl) ?_
  obtain ⟨hz, hf⟩ := nz hf
  refine lv_irem hx hb dL_low_5 hz ?_
  exact hret _ _ _ _ _ (Option.some.inj hf) dL_low_6 hw
theorem k_L_told : xKS yL_told cL_told 4 (some .long) 1 := ⟨qw419, qw12, qw420, by decide +kernel, by decide +kernel, by decide +kernel⟩
set_option maxHeartbeats 4000000 in
set_option maxRecDepth 100000 in
theorem met_L_told (l : Launch) (g : xG) (h : Nat → Nat) (now : SC) (snap : SC) (has : Int32) (hist : HC) (ent : EC) (res : RC) (num : NC) (col : CC) (out : Int64) (hf : f_L_told now = some out) : xM l yL_told (xC yL_told cL_told 4 (some .long)) { frames := 3, cells := 0, slots := 0, locals := 72 } g (wC g h now snap has hist ent res num col) [.ref (h 0)] (some (.long out)) (wC g h now snap has hist ent res num col) := by
  refine xof (by decide) (Nat.le_of_ble_eq_true rfl) ⟨rfl, rfl⟩ ?_
  intro p e s m below meth c A ls E hr hlocks hw hl hpost hAe
  have hx := E.1.1
  have hb := E.1.2.1
  have hown := E.1.2.2.2.1
  have hts := E.1.2.2.2.2
  generalize hZ : (MQ below (xPost g (wC g h now snap has hist ent res num col) (wC g h now snap has hist ent res num col) s.heap.size (some (.long out))) [.ref (h 0)].toArray s 0 0 A) = ZZ
  have hret : ∀ (pc : Nat) (H : Heap) (locs : List Loc) (ls : Array Slot) (v : Int64), v = out → decode cL_told pc = .ok (.lreturn, 1) → xW g A s.heap (wC g h now snap has hist ent res num col) H locs → W p l e { frames := 3, cells := 0, slots := 0, locals := 72 } s m [.ref (h 0)].toArray below meth c H locs 0 0 ZZ (F0 m pc ls [.long v]) := by
    intro pc H locs ls v he hd hw
    subst he
    rw [← hZ]
    exact W.lret hx hb hr (hpost H locs hw).1 (hpost H locs hw).2 hd hlocks
  clear hpost
  have b18 : ∀ n18 : Nat, ∀ (H : Heap) (locs : List Loc) (ls : Array Slot) (x1 : Int64) (x3 : Int32), xW g A s.heap (wC g h now snap has hist ent res num col) H locs → lv_has ls 4 [(0, .ref (h 0)), (1, .long x1), (3, .int x3)] → f_L_told_b18 n18 now x1 x3 = some out → W p l e { frames := 3, cells := 0, slots := 0, locals := 72 } s m [.ref (h 0)].toArray below meth c H locs 0 0 ZZ (F0 m 18 ls []) := by
    intro n18
    induction n18 with
    | zero =>
      intro H locs ls x1 x3 hw hl hf
      exact nn hf
    | succ n18 ih18 =>
      intro H locs ls x1 x3 hw hl hf
      refine lv_iload_n hx hb dL_told_18 rfl (lv_at hl 2 rfl) ?_
      refine lv_bipush (v := 6) hx hb dL_told_19 (by decide) ?_
      refine lv_icmp_ge (tgt := 54) hx hb dL_told_21 (by decide) (fun c21 => ?_) (fun c21 => ?_)
      · replace hf := ip c21 hf
        refine lv_ldc2 hx hb hown (hts _ qw422) dL_told_54 ?_
        refine lv_lload_n hx hb dL_told_57 rfl (lv_at hl 1 rfl) ?_
        refine lv_lmul hx hb dL_told_58 ?_
        refine lv_aload_n hx hb dL_told_59 rfl (lv_at hl 0 rfl) ?_
        obtain ⟨v60, hv60, hf⟩ := ob_e hf
        refine xcallV (ws' := (wC g h now snap has hist ent res num col)) (st1 := [.int v60, .long (31 * x1)]) (n := 34) E hw [] [0, 1, 2, 3, 4, 5, 6, 7, 8, 9, 10, 11, 12, 13, 14, 15, 16, 17, 18, 19, 20, 21, 22, 23, 24, 25, 26, 27, 28, 29, 30, 31, 32, 33] (met_X10_hasStopped l g h now snap has hist ent res num col v60 hv60) rfl (by decide) rfl rfl [34, 35, 36, 37, 38, 39, 40, 41, 42, 43, 44, 45, 46, 47, 48, 49, 50, 51, 52, 53, 54, 55, 56, 57, 58, 59, 60, 61, 62, 63, 64, 65, 66, 67] rfl (by decide +kernel) rfl rfl rfl rfl qw211 k_X10_hasStopped ⟨rfl, rfl, Nat.le_of_ble_eq_true rfl, Nat.le_of_ble_eq_true rfl⟩ ⟨Nat.zero_le _, Nat.zero_le _⟩ hl.1 (Nat.le_of_ble_eq_true rfl) dL_told_60 rfl (fun H locs hw => ?_)
        refine lv_if_eq (tgt := 83) hx hb dL_told_63 (by decide) (fun c63 => ?_) (fun c63 => ?_)
        · replace hf := ip c63 hf
          refine lv_iconst (v := 0) hx hb dL_told_83 (by decide) ?_
          refine lv_i2l hx hb dL_told_84 rfl ?_
          refine lv_ladd hx hb dL_told_85 ?_
          exact hret _ _ _ _ _ (Option.some.inj hf) dL_told_86 hw
        · replace hf := iq c63 hf
          refine lv_bipush (v := 10) hx hb dL_told_66 (by decide) ?_
          refine lv_iconst (v := 1) hx hb dL_told_68 (by decide) ?_
          refine lv_aload_n hx hb dL_told_69 rfl (lv_at hl 0 rfl) ?_
          obtain ⟨v70, hv70, hf⟩ := ob_e hf
          rcases v70 with t70 | u70
          · replace hf := se_l hf
            exact nn hf
          · replace hf := se_r hf
            refine xcallV (ws' := (wC g h now snap has hist ent res num col)) (st1 := [.int u70, .int 1, .int 10, .long (31 * x1)]) (n := 34) E hw [] [0, 1, 2, 3, 4, 5, 6, 7, 8, 9, 10, 11, 12, 13, 14, 15, 16, 17, 18, 19, 20, 21, 22, 23, 24, 25, 26, 27, 28, 29, 30, 31, 32, 33] (met_X10_stoppedPart l g h now snap has hist ent res num col u70 hv70) rfl (by decide) rfl rfl [34, 35, 36, 37, 38, 39, 40, 41, 42, 43, 44, 45, 46, 47, 48, 49, 50, 51, 52, 53, 54, 55, 56, 57, 58, 59, 60, 61, 62, 63, 64, 65, 66, 67] rfl (by decide +kernel) rfl rfl rfl rfl qw423 k_X10_stoppedPart ⟨rfl, rfl, Nat.le_of_ble_eq_true rfl, Nat.le_of_ble_eq_true rfl⟩ ⟨Nat.zero_le _, Nat.zero_le _⟩ hl.1 (Nat.le_of_ble_eq_true rfl) dL_told_70 rfl (fun H locs hw => ?_)
            refine lv_iadd hx hb dL_told_73 ?_
            refine lv_imul hx hb dL_told_74 ?_
            refine lv_aload_n hx hb dL_told_75 rfl (lv_at hl 0 rfl) ?_
            obtain ⟨v76, hv76, hf⟩ := ob_e hf
            rcases v76 with t76 | u76
            · replace hf := se_l hf
              exact nn hf
            · replace hf := se_r hf
              refine xcallV (ws' := (wC g h now snap has hist ent res num col)) (st1 := [.int u76, .int (10 * (1 + u70)), .long (31 * x1)]) (n := 34) E hw [] [0, 1, 2, 3, 4, 5, 6, 7, 8, 9, 10, 11, 12, 13, 14, 15, 16, 17, 18, 19, 20, 21, 22, 23, 24, 25, 26, 27, 28, 29, 30, 31, 32, 33] (met_X10_whyStopped l g h now snap has hist ent res num col u76 hv76) rfl (by decide) rfl rfl [34, 35, 36, 37, 38, 39, 40, 41, 42, 43, 44, 45, 46, 47, 48, 49, 50, 51, 52, 53, 54, 55, 56, 57, 58, 59, 60, 61, 62, 63, 64, 65, 66, 67] rfl (by decide +kernel) rfl rfl rfl rfl qw432 k_X10_whyStopped ⟨rfl, rfl, Nat.le_of_ble_eq_true rfl, Nat.le_of_ble_eq_true rfl⟩ ⟨Nat.zero_le _, Nat.zero_le _⟩ hl.1 (Nat.le_of_ble_eq_true rfl) dL_told_76 rfl (fun H locs hw => ?_)
              refine lv_iadd hx hb dL_told_79 ?_
              refine lv_goto (tgt := 84) hx hb dL_told_80 (by decide) ?_
              refine lv_i2l hx hb dL_told_84 rfl ?_
              refine lv_ladd hx hb dL_told_85 ?_
              exact hret _ _ _ _ _ (Option.some.inj hf) dL_told_86 hw
      · replace hf := iq c21 hf
        refine lv_ldc2 hx hb hown (hts _ qw422) dL_told_24 ?_
        refine lv_ldc2 hx hb hown (hts _ qw422) dL_told_27 ?_
        refine lv_lload_n hx hb dL_told_30 rfl (lv_at hl 1 rfl) ?_
        refine lv_lmul hx hb dL_told_31 ?_
        refine lv_aload_n hx hb dL_told_32 rfl (lv_at hl 0 rfl) ?_
        refine lv_iload_n hx hb dL_told_33 rfl (lv_at hl 2 rfl) ?_
        obtain ⟨v34, hv34, hf⟩ := ob_e hf
        rcases v34 with t34 | u34
        · replace hf := se_l hf
          exact nn hf
        · replace hf := se_r hf
          refine xcallV (ws' := (wC g h now snap has hist ent res num col)) (st1 := [.int u34, .long (31 * x1), .long 31]) (n := 34) E hw [.int x3] [0, 1, 2, 3, 4, 5, 6, 7, 8, 9, 10, 11, 12, 13, 14, 15, 16, 17, 18, 19, 20, 21, 22, 23, 24, 25, 26, 27, 28, 29, 30, 31, 32, 33] (met_X10_numerator l g h now snap has hist ent res num col x3 u34 hv34) rfl (by decide) rfl rfl [34, 35, 36, 37, 38, 39, 40, 41, 42, 43, 44, 45, 46, 47, 48, 49, 50, 51, 52, 53, 54, 55, 56, 57, 58, 59, 60, 61, 62, 63, 64, 65, 66, 67] rfl (by decide +kernel) rfl rfl rfl rfl qw306 k_X10_numerator ⟨rfl, rfl, Nat.le_of_ble_eq_true rfl, Nat.le_of_ble_eq_true rfl⟩ ⟨Nat.zero_le _, Nat.zero_le _⟩ hl.1 (Nat.le_of_ble_eq_true rfl) dL_told_34 rfl (fun H locs hw => ?_)
          refine lv_i2l hx hb dL_told_37 rfl ?_
          refine lv_ladd hx hb dL_told_38 ?_
          refine lv_lmul hx hb dL_told_39 ?_
          refine lv_aload_n hx hb dL_told_40 rfl (lv_at hl 0 rfl) ?_
          refine lv_iload_n hx hb dL_told_41 rfl (lv_at hl 2 rfl) ?_
          obtain ⟨v42, hv42, hf⟩ := ob_e hf
          rcases v42 with t42 | u42
          · replace hf := se_l hf
            exact nn hf
          · replace hf := se_r hf
            refine xcallV (ws' := (wC g h now snap has hist ent res num col)) (st1 := [.int u42, .long (31 * ((31 * x1) + u34.toInt64))]) (n := 34) E hw [.int x3] [0, 1, 2, 3, 4, 5, 6, 7, 8, 9, 10, 11, 12, 13, 14, 15, 16, 17, 18, 19, 20, 21, 22, 23, 24, 25, 26, 27, 28, 29, 30, 31, 32, 33] (met_X10_denominator l g h now snap has hist ent res num col x3 u42 hv42) rfl (by decide) rfl rfl [34, 35, 36, 37, 38, 39, 40, 41, 42, 43, 44, 45, 46, 47, 48, 49, 50, 51, 52, 53, 54, 55, 56, 57, 58, 59, 60, 61, 62, 63, 64, 65, 66, 67] rfl (by decide +kernel) rfl rfl rfl rfl qw336 k_X10_denominator ⟨rfl, rfl, Nat.le_of_ble_eq_true rfl, Nat.le_of_ble_eq_true rfl⟩ ⟨Nat.zero_le _, Nat.zero_le _⟩ hl.1 (Nat.le_of_ble_eq_true rfl) dL_told_42 rfl (fun H locs hw => ?_)
            refine lv_i2l hx hb dL_told_45 rfl ?_
            refine lv_ladd hx hb dL_told_46 ?_
            refine lv_lstore_n (lv' := [(1, .long ((31 * ((31 * x1) + u34.toInt64)) + u42.toInt64)), (0, .ref (h 0)), (3, .int x3)]) hx hb dL_told_47 rfl hl (by decide) rfl (fun ls hl => ?_)
            refine lv_iinc (v := x3 + 1) (lv' := [(3, .int (x3 + 1)), (1, .long ((31 * ((31 * x1) + u34.toInt64)) + u42.toInt64)), (0, .ref (h 0))]) hx hb dL_told_48 hl (k := 2) rfl rfl (by decide) rfl (fun ls hl => ?_)
            refine lv_goto (tgt := 18) hx hb dL_told_51 (by decide) ?_
            exact ih18 _ _ _ ((31 * ((31 * x1) + u34.toInt64)) + u42.toInt64) (x3 + 1) hw (lv_sub hl [2, 1, 0] rfl) hf
  refine lv_ldc2 hx hb hown (hts _ qw421) dL_told_0 ?_
  refine lv_lstore_n (lv' := [(1, .long 3), (0, .ref (h 0))]) hx hb dL_told_3 rfl hl (by decide) rfl (fun ls hl => ?_)
  refine lv_ldc2 hx hb hown (hts _ qw422) dL_told_4 ?_
  refine lv_lload_n hx hb dL_told_7 rfl (lv_at hl 0 rfl) ?_
  refine lv_lmul hx hb dL_told_8 ?_
  refine lv_aload_n hx hb dL_told_9 rfl (lv_at hl 1 rfl) ?_
  obtain ⟨v10, hv10, hf⟩ := ob_e hf
  refine xcallV (ws' := (wC g h now snap has hist ent res num col)) (st1 := [.int v10, .long (31 * 3)]) (n := 34) E hw [] [0, 1, 2, 3, 4, 5, 6, 7, 8, 9, 10, 11, 12, 13, 14, 15, 16, 17, 18, 19, 20, 21, 22, 23, 24, 25, 26, 27, 28, 29, 30, 31, 32, 33] (met_X10_base l g h now snap has hist ent res num col v10 hv10) rfl (by decide) rfl rfl [34, 35, 36, 37, 38, 39, 40, 41, 42, 43, 44, 45, 46, 47, 48, 49, 50, 51, 52, 53, 54, 55, 56, 57, 58, 59, 60, 61, 62, 63, 64, 65, 66, 67] rfl (by decide +kernel) rfl rfl rfl rfl qw302 k_X10_base ⟨rfl, rfl, Nat.le_of_ble_eq_true rfl, Nat.le_of_ble_eq_true rfl⟩ ⟨Nat.zero_le _, Nat.zero_le _⟩ hl.1 (Nat.le_of_ble_eq_true rfl) dL_told_10 rfl (fun H locs hw => ?_)
  refine lv_i2l hx hb dL_told_13 rfl ?_
  refine lv_ladd hx hb dL_told_14 ?_
  refine lv_lstore_n (lv' := [(1, .long ((31 * 3) + v10.toInt64)), (0, .ref (h 0))]) hx hb dL_told_15 rfl hl (by decide) rfl (fun ls hl => ?_)
  refine lv_iconst (v := 0) hx hb dL_told_16 (by decide) ?_
  refine lv_istore_n (lv' := [(3, .int 0), (1, .long ((31 * 3) + v10.toInt64)), (0, .ref (h 0))]) hx hb dL_told_17 rfl hl (by decide) rfl (fun ls hl => ?_)
  exact b18 xfuel _ _ _ ((31 * 3) + v10.toInt64) 0 hw (lv_sub hl [2, 1, 0] rfl) hf
theorem k_L_act : xKS yL_act cL_act 6 (some .boolean) 3 := ⟨qw437, qw12, qw438, by decide +kernel, by decide +kernel, by decide +kernel⟩
set_option maxHeartbeats 4000000 in
set_option maxRecDepth 100000 in
theorem met_L_act (l : Launch) (g : xG) (h : Nat → Nat) (now : SC) (snap : SC) (has : Int32) (hist : HC) (ent : EC) (res : RC) (num : NC) (col : CC) (a1 : Int32) (a2 : Int32) (out : Int32 × SC × HC × RC) (hf : f_L_act now hist res a1 a2 = some out) : xM l yL_act (xC yL_act cL_act 6 (some .boolean)) { frames := 4, cells := 0, slots := 0, locals := 104 } g (wC g h now snap has hist ent res num col) [.ref (h 0), .int a1, .int a2] (some (.int out.1)) (wC g h out.2.1 snap has out.2.2.1 ent out.2.2.2 num col) := by
  refine xof (by decide) (Nat.le_of_ble_eq_true rfl) ⟨rfl, rfl⟩ ?_
  intro p e s m below meth c A ls E hr hlocks hw hl hpost hAe
  have hx := E.1.1
  have hb := E.1.2.1
  have hown := E.1.2.2.2.1
  have hts := E.1.2.2.2.2
  generalize hZ : (MQ below (xPost g (wC g h now snap has hist ent res num col) (wC g h out.2.1 snap has out.2.2.1 ent out.2.2.2 num col) s.heap.size (some (.int out.1))) [.ref (h 0), .int a1, .int a2].toArray s 0 0 A) = ZZ
  have hret : ∀ (pc : Nat) (H : Heap) (locs : List Loc) (ls : Array Slot) (v : Int32) (cnow : SC) (chist : HC) (cres : RC), narrow .boolean (.int v) = .int v → (v, cnow, chist, cres) = out → decode cL_act pc = .ok (.ireturn, 1) → xW g A s.heap (wC g h cnow snap has chist ent cres num col) H locs → W p l e { frames := 4, cells := 0, slots := 0, locals := 104 } s m [.ref (h 0), .int a1, .int a2].toArray below meth c H locs 0 0 ZZ (F0 m pc ls [.int v]) := by
    intro pc H locs ls v cnow chist cres hn he hd hw
    subst he
    rw [← hZ]
    exact W.zret hx hb hr hn (hpost H locs hw).1 (hpost H locs hw).2 hd hlocks
  clear hpost
  have b148 : ∀ (H : Heap) (locs : List Loc) (ls : Array Slot) (now : SC) (hist : HC) (res : RC) (t0 : Int32) (t1 : Int32) (t2 : Int32) (t3 : Int32) (t4 : Int32), xW g A s.heap (wC g h now snap has hist ent res num col) H locs → lv_has ls 6 [] → f_L_act_b148 now hist res t0 t1 t2 t3 t4 = some out → W p l e { frames := 4, cells := 0, slots := 0, locals := 104 } s m [.ref (h 0), .int a1, .int a2].toArray below meth c H locs 0 0 ZZ (F0 m 148 ls [.int t0, .int t1, .int t2, .int t3, .int t4, .ref (h 0)]) := by
    intro H locs ls now hist res t0 t1 t2 t3 t4 hw hl hf
    obtain ⟨v148, hv148, hf⟩ := ob_e hf
    refine xcallS (ws' := (wC g h now snap has hist ent res num col)) (st1 := [.int v148, .int t2, .int t3, .int t4, .ref (h 0)]) (n := 34) E hw [.int t1, .int t0] [] (met_L_low l g t1 t0 v148 hv148) rfl (by decide) rfl rfl [0, 1, 2, 3, 4, 5, 6, 7, 8, 9, 10, 11, 12, 13, 14, 15, 16, 17, 18, 19, 20, 21, 22, 23, 24, 25, 26, 27, 28, 29, 30, 31, 32, 33] rfl (by decide +kernel) rfl qw414 k_L_low ⟨rfl, rfl, Nat.le_of_ble_eq_true rfl, Nat.le_of_ble_eq_true rfl⟩ ⟨Nat.zero_le _, Nat.zero_le _⟩ hl.1 (Nat.le_of_ble_eq_true rfl) dL_act_148 rfl (fun H locs hw => ?_)
    refine lv_iadd hx hb dL_act_151 ?_
    obtain ⟨v152, hv152, hf⟩ := ob_e hf
    rcases v152 with t152 | u152
    · replace hf := se_l hf
      exact nn hf
    · replace hf := se_r hf
      refine xcallV (ws' := (wC g h u152.2.1 snap has u152.2.2.1 ent u152.2.2.2 num col)) (st1 := [.int u152.1]) (n := 34) E hw [.int t4, .int t3, .int (t2 + v148)] [0, 1, 2, 3, 4, 5, 6, 7, 8, 9, 10, 11, 12, 13, 14, 15, 16, 17, 18, 19, 20, 21, 22, 23, 24, 25, 26, 27, 28, 29, 30, 31, 32, 33] (met_X10_setFraction l g h now snap has hist ent res num col t4 t3 (t2 + v148) u152 hv152) rfl (by decide) rfl rfl [34, 35, 36, 37, 38, 39, 40, 41, 42, 43, 44, 45, 46, 47, 48, 49, 50, 51, 52, 53, 54, 55, 56, 57, 58, 59, 60, 61, 62, 63, 64, 65, 66, 67] rfl (by decide +kernel) rfl rfl rfl rfl qw470 k_X10_setFraction ⟨rfl, rfl, Nat.le_of_ble_eq_true rfl, Nat.le_of_ble_eq_true rfl⟩ ⟨Nat.zero_le _, Nat.zero_le _⟩ hl.1 (Nat.le_of_ble_eq_true rfl) dL_act_152 rfl (fun H locs hw => ?_)
      refine lv_pop hx hb dL_act_155 rfl ?_
      refine lv_iconst (v := 1) hx hb dL_act_156 (by decide) ?_
      exact hret _ _ _ _ _ _ _ _ (by decide) (Option.some.inj hf) dL_act_157 hw
  have b123 : ∀ (H : Heap) (locs : List Loc) (ls : Array Slot) (now : SC) (hist : HC) (res : RC) (x2 : Int32) (t0 : Int32) (t1 : Int32) (t2 : Int32), xW g A s.heap (wC g h now snap has hist ent res num col) H locs → lv_has ls 6 [(2, .int x2)] → f_L_act_b123 now hist res x2 t0 t1 t2 = some out → W p l e { frames := 4, cells := 0, slots := 0, locals := 104 } s m [.ref (h 0), .int a1, .int a2].toArray below meth c H locs 0 0 ZZ (F0 m 123 ls [.int t0, .int t1, .int t2, .ref (h 0)]) := by
    intro H locs ls now hist res x2 t0 t1 t2 hw hl hf
    obtain ⟨v123, hv123, hf⟩ := ob_e hf
    refine xcallS (ws' := (wC g h now snap has hist ent res num col)) (st1 := [.int v123, .int t2, .ref (h 0)]) (n := 34) E hw [.int t1, .int t0] [] (met_L_low l g t1 t0 v123 hv123) rfl (by decide) rfl rfl [0, 1, 2, 3, 4, 5, 6, 7, 8, 9, 10, 11, 12, 13, 14, 15, 16, 17, 18, 19, 20, 21, 22, 23, 24, 25, 26, 27, 28, 29, 30, 31, 32, 33] rfl (by decide +kernel) rfl qw414 k_L_low ⟨rfl, rfl, Nat.le_of_ble_eq_true rfl, Nat.le_of_ble_eq_true rfl⟩ ⟨Nat.zero_le _, Nat.zero_le _⟩ hl.1 (Nat.le_of_ble_eq_true rfl) dL_act_123 rfl (fun H locs hw => ?_)
    refine lv_iconst (v := 1) hx hb dL_act_126 (by decide) ?_
    refine lv_iload_n hx hb dL_act_127 rfl (lv_at hl 0 rfl) ?_
    refine lv_bipush (v := 7) hx hb dL_act_128 (by decide) ?_
    refine lv_ishr hx hb dL_act_130 ?_
    refine lv_iload_n hx hb dL_act_131 rfl (lv_at hl 0 rfl) ?_
    refine lv_bipush (v := 19) hx hb dL_act_132 (by decide) ?_
    refine lv_ishr hx hb dL_act_134 ?_
    refine lv_iconst (v := 1) hx hb dL_act_135 (by decide) ?_
    refine lv_iand hx hb dL_act_136 ?_
    refine lv_if_ne (tgt := 145) hx hb dL_act_137 (by decide) (fun c137 => ?_) (fun c137 => ?_)
    · replace hf := iq c137 hf
      refine lv_sipush (v := 999) hx hb dL_act_145 (by decide) ?_
      exact b148 _ _ _ now hist res 999 (x2 >>> ((7 : Int32) &&& 31)) 1 v123 t2 hw (lv_sub hl [] rfl) hf
    · replace hf := ip c137 hf
      refine lv_bipush (v := 36) hx hb dL_act_140 (by decide) ?_
      refine lv_goto (tgt := 148) hx hb dL_act_142 (by decide) ?_
      exact b148 _ _ _ now hist res 36 (x2 >>> ((7 : Int32) &&& 31)) 1 v123 t2 hw (lv_sub hl [] rfl) hf
  have b224 : ∀ (H : Heap) (locs : List Loc) (ls : Array Slot) (now : SC) (hist : HC) (res : RC) (t0 : Int32) (t1 : Int32), xW g A s.heap (wC g h now snap has hist ent res num col) H locs → lv_has ls 6 [] → f_L_act_b224 now hist res t0 t1 = some out → W p l e { frames := 4, cells := 0, slots := 0, locals := 104 } s m [.ref (h 0), .int a1, .int a2].toArray below meth c H locs 0 0 ZZ (F0 m 224 ls [.int t0, .int t1, .ref (h 0)]) := by
    intro H locs ls now hist res t0 t1 hw hl hf
    obtain ⟨v224, hv224, hf⟩ := ob_e hf
    rcases v224 with t224 | u224
    · replace hf := se_l hf
      exact nn hf
    · replace hf := se_r hf
      refine xcallV (ws' := (wC g h u224.2.1 snap has u224.2.2.1 ent u224.2.2.2 num col)) (st1 := [.int u224.1]) (n := 34) E hw [.int t1, .int t0] [0, 1, 2, 3, 4, 5, 6, 7, 8, 9, 10, 11, 12, 13, 14, 15, 16, 17, 18, 19, 20, 21, 22, 23, 24, 25, 26, 27, 28, 29, 30, 31, 32, 33] (met_X10_shift l g h now snap has hist ent res num col t1 t0 u224 hv224) rfl (by decide) rfl rfl [34, 35, 36, 37, 38, 39, 40, 41, 42, 43, 44, 45, 46, 47, 48, 49, 50, 51, 52, 53, 54, 55, 56, 57, 58, 59, 60, 61, 62, 63, 64, 65, 66, 67] rfl (by decide +kernel) rfl rfl rfl rfl qw531 k_X10_shift ⟨rfl, rfl, Nat.le_of_ble_eq_true rfl, Nat.le_of_ble_eq_true rfl⟩ ⟨Nat.zero_le _, Nat.zero_le _⟩ hl.1 (Nat.le_of_ble_eq_true rfl) dL_act_224 rfl (fun H locs hw => ?_)
      refine lv_pop hx hb dL_act_227 rfl ?_
      refine lv_iconst (v := 1) hx hb dL_act_228 (by decide) ?_
      exact hret _ _ _ _ _ _ _ _ (by decide) (Option.some.inj hf) dL_act_229 hw
  refine lv_iload_n hx hb dL_act_0 rfl (lv_at hl 1 rfl) ?_
  refine lv_iconst (v := 4) hx hb dL_act_1 (by decide) ?_
  refine lv_ishr hx hb dL_act_2 ?_
  refine lv_bipush (v := 6) hx hb dL_act_3 (by decide) ?_
  obtain ⟨v5, hv5, hf⟩ := ob_e hf
  refine xcallS (ws' := (wC g h now snap has hist ent res num col)) (st1 := [.int v5]) (n := 34) E hw [.int (a1 >>> ((4 : Int32) &&& 31)), .int 6] [] (met_L_low l g (a1 >>> ((4 : Int32) &&& 31)) 6 v5 hv5) rfl (by decide) rfl rfl [0, 1, 2, 3, 4, 5, 6, 7, 8, 9, 10, 11, 12, 13, 14, 15, 16, 17, 18, 19, 20, 21, 22, 23, 24, 25, 26, 27, 28, 29, 30, 31, 32, 33] rfl (by decide +kernel) rfl qw414 k_L_low ⟨rfl, rfl, Nat.le_of_ble_eq_true rfl, Nat.le_of_ble_eq_true rfl⟩ ⟨Nat.zero_le _, Nat.zero_le _⟩ hl.1 (Nat.le_of_ble_eq_true rfl) dL_act_5 rfl (fun H locs hw => ?_)
  refine lv_istore_n (lv' := [(3, .int v5), (0, .ref (h 0)), (1, .int a1), (2, .int a2)]) hx hb dL_act_8 rfl hl (by decide) rfl (fun ls hl => ?_)
  refine lv_iload_n hx hb dL_act_9 rfl (lv_at hl 2 rfl) ?_
  refine lv_bipush (v := 7) hx hb dL_act_10 (by decide) ?_
  refine lv_ishr hx hb dL_act_12 ?_
  refine lv_bipush (v := 6) hx hb dL_act_13 (by decide) ?_
  obtain ⟨v15, hv15, hf⟩ := ob_e hf
  refine xcallS (ws' := (wC g h now snap has hist ent res num col)) (st1 := [.int v15]) (n := 34) E hw [.int (a1 >>> ((7 : Int32) &&& 31)), .int 6] [] (met_L_low l g (a1 >>> ((7 : Int32) &&& 31)) 6 v15 hv15) rfl (by decide) rfl rfl [0, 1, 2, 3, 4, 5, 6, 7, 8, 9, 10, 11, 12, 13, 14, 15, 16, 17, 18, 19, 20, 21, 22, 23, 24, 25, 26, 27, 28, 29, 30, 31, 32, 33] rfl (by decide +kernel) rfl qw414 k_L_low ⟨rfl, rfl, Nat.le_of_ble_eq_true rfl, Nat.le_of_ble_eq_true rfl⟩ ⟨Nat.zero_le _, Nat.zero_le _⟩ hl.1 (Nat.le_of_ble_eq_true rfl) dL_act_15 rfl (fun H locs hw => ?_)
  refine lv_istore (lv' := [(4, .int v15), (3, .int v5), (0, .ref (h 0)), (1, .int a1), (2, .int a2)]) hx hb dL_act_18 hl (by decide) rfl (fun ls hl => ?_)
  refine lv_iload_n hx hb dL_act_20 rfl (lv_at hl 3 rfl) ?_
  refine lv_bipush (v := 15) hx hb dL_act_21 (by decide) ?_
  refine lv_iand hx hb dL_act_23 ?_
  by_cases hd24 : (a1 &&& 15).toInt < 0 ∨ 11 < (a1 &&& 15).toInt
  · replace hf := ip hd24 hf
    refine lv_tableOut (tgt := 230) hx hb dL_act_24 hd24 (by decide) ?_
    refine lv_iconst (v := 1) hx hb dL_act_230 (by decide) ?_
    refine lv_iload_n hx hb dL_act_231 rfl (lv_at hl 4 rfl) ?_
    refine lv_bipush (v := 50) hx hb dL_act_232 (by decide) ?_
    obtain ⟨v234, hv234, hf⟩ := ob_e hf
    refine xcallS (ws' := (wC g h now snap has hist ent res num col)) (st1 := [.int v234, .int 1]) (n := 34) E hw [.int a2, .int 50] [] (met_L_low l g a2 50 v234 hv234) rfl (by decide) rfl rfl [0, 1, 2, 3, 4, 5, 6, 7, 8, 9, 10, 11, 12, 13, 14, 15, 16, 17, 18, 19, 20, 21, 22, 23, 24, 25, 26, 27, 28, 29, 30, 31, 32, 33] rfl (by decide +kernel) rfl qw414 k_L_low ⟨rfl, rfl, Nat.le_of_ble_eq_true rfl, Nat.le_of_ble_eq_true rfl⟩ ⟨Nat.zero_le _, Nat.zero_le _⟩ hl.1 (Nat.le_of_ble_eq_true rfl) dL_act_234 rfl (fun H locs hw => ?_)
    refine lv_iadd hx hb dL_act_237 ?_
    refine lv_istore (lv' := [(5, .int (1 + v234)), (4, .int v15), (3, .int v5), (0, .ref (h 0)), (1, .int a1), (2, .int a2)]) hx hb dL_act_238 hl (by decide) rfl (fun ls hl => ?_)
    refine lv_iload_n hx hb dL_act_240 rfl (lv_at hl 2 rfl) ?_
    refine lv_iload hx hb dL_act_241 (lv_at hl 1 rfl) ?_
    refine lv_icmp_eq (tgt := 267) hx hb dL_act_243 (by decide) (fun c243 => ?_) (fun c243 => ?_)
    · replace hf := ip c243 hf
      refine lv_iconst (v := 0) hx hb dL_act_267 (by decide) ?_
      exact hret _ _ _ _ _ _ _ _ (by decide) (Option.some.inj hf) dL_act_268 hw
    · replace hf := iq c243 hf
      refine lv_aload_n hx hb dL_act_246 rfl (lv_at hl 3 rfl) ?_
      refine lv_iload_n hx hb dL_act_247 rfl (lv_at hl 2 rfl) ?_
      obtain ⟨v248, hv248, hf⟩ := ob_e hf
      rcases v248 with t248 | u248
      · replace hf := se_l hf
        exact nn hf
      · replace hf := se_r hf
        refine xcallV (ws' := (wC g h now snap has hist ent res num col)) (st1 := [.int u248]) (n := 34) E hw [.int v5] [0, 1, 2, 3, 4, 5, 6, 7, 8, 9, 10, 11, 12, 13, 14, 15, 16, 17, 18, 19, 20, 21, 22, 23, 24, 25, 26, 27, 28, 29, 30, 31, 32, 33] (met_X10_whole l g h now snap has hist ent res num col v5 u248 hv248) rfl (by decide) rfl rfl [34, 35, 36, 37, 38, 39, 40, 41, 42, 43, 44, 45, 46, 47, 48, 49, 50, 51, 52, 53, 54, 55, 56, 57, 58, 59, 60, 61, 62, 63, 64, 65, 66, 67] rfl (by decide +kernel) rfl rfl rfl rfl qw546 k_X10_whole ⟨rfl, rfl, Nat.le_of_ble_eq_true rfl, Nat.le_of_ble_eq_true rfl⟩ ⟨Nat.zero_le _, Nat.zero_le _⟩ hl.1 (Nat.le_of_ble_eq_true rfl) dL_act_248 rfl (fun H locs hw => ?_)
        refine lv_iload hx hb dL_act_251 (lv_at hl 0 rfl) ?_
        refine lv_icmp_lt (tgt := 267) hx hb dL_act_253 (by decide) (fun c253 => ?_) (fun c253 => ?_)
        · replace hf := ip c253 hf
          refine lv_iconst (v := 0) hx hb dL_act_267 (by decide) ?_
          exact hret _ _ _ _ _ _ _ _ (by decide) (Option.some.inj hf) dL_act_268 hw
        · replace hf := iq c253 hf
          refine lv_aload_n hx hb dL_act_256 rfl (lv_at hl 3 rfl) ?_
          refine lv_iload hx hb dL_act_257 (lv_at hl 1 rfl) ?_
          obtain ⟨v259, hv259, hf⟩ := ob_e hf
          rcases v259 with t259 | u259
          · replace hf := se_l hf
            exact nn hf
          · replace hf := se_r hf
            refine xcallV (ws' := (wC g h now snap has hist ent res num col)) (st1 := [.int u259]) (n := 34) E hw [.int v15] [0, 1, 2, 3, 4, 5, 6, 7, 8, 9, 10, 11, 12, 13, 14, 15, 16, 17, 18, 19, 20, 21, 22, 23, 24, 25, 26, 27, 28, 29, 30, 31, 32, 33] (met_X10_numerator l g h now snap has hist ent res num col v15 u259 hv259) rfl (by decide) rfl rfl [34, 35, 36, 37, 38, 39, 40, 41, 42, 43, 44, 45, 46, 47, 48, 49, 50, 51, 52, 53, 54, 55, 56, 57, 58, 59, 60, 61, 62, 63, 64, 65, 66, 67] rfl (by decide +kernel) rfl rfl rfl rfl qw306 k_X10_numerator ⟨rfl, rfl, Nat.le_of_ble_eq_true rfl, Nat.le_of_ble_eq_true rfl⟩ ⟨Nat.zero_le _, Nat.zero_le _⟩ hl.1 (Nat.le_of_ble_eq_true rfl) dL_act_259 rfl (fun H locs hw => ?_)
            refine lv_ldc hx hb hown (hts _ qw550) dL_act_262 ?_
            refine lv_icmp_le (tgt := 269) hx hb dL_act_264 (by decide) (fun c264 => ?_) (fun c264 => ?_)
            · replace hf := ip c264 hf
              refine lv_aload_n hx hb dL_act_269 rfl (lv_at hl 3 rfl) ?_
              refine lv_iload_n hx hb dL_act_270 rfl (lv_at hl 2 rfl) ?_
              refine lv_iload hx hb dL_act_271 (lv_at hl 1 rfl) ?_
              refine lv_iload hx hb dL_act_273 (lv_at hl 0 rfl) ?_
              obtain ⟨v275, hv275, hf⟩ := ob_e hf
              rcases v275 with t275 | u275
              · replace hf := se_l hf
                exact nn hf
              · replace hf := se_r hf
                refine xcallV (ws' := (wC g h u275.2.1 snap has u275.2.2.1 ent u275.2.2.2 num col)) (st1 := [.int u275.1]) (n := 34) E hw [.int v5, .int v15, .int (1 + v234)] [0, 1, 2, 3, 4, 5, 6, 7, 8, 9, 10, 11, 12, 13, 14, 15, 16, 17, 18, 19, 20, 21, 22, 23, 24, 25, 26, 27, 28, 29, 30, 31, 32, 33] (met_X10_pay l g h now snap has hist ent res num col v5 v15 (1 + v234) u275 hv275) rfl (by decide) rfl rfl [34, 35, 36, 37, 38, 39, 40, 41, 42, 43, 44, 45, 46, 47, 48, 49, 50, 51, 52, 53, 54, 55, 56, 57, 58, 59, 60, 61, 62, 63, 64, 65, 66, 67] rfl (by decide +kernel) rfl rfl rfl rfl qw551 k_X10_pay ⟨rfl, rfl, Nat.le_of_ble_eq_true rfl, Nat.le_of_ble_eq_true rfl⟩ ⟨Nat.zero_le _, Nat.zero_le _⟩ hl.1 (Nat.le_of_ble_eq_true rfl) dL_act_275 rfl (fun H locs hw => ?_)
                refine lv_pop hx hb dL_act_278 rfl ?_
                refine lv_iconst (v := 1) hx hb dL_act_279 (by decide) ?_
                exact hret _ _ _ _ _ _ _ _ (by decide) (Option.some.inj hf) dL_act_280 hw
            · replace hf := iq c264 hf
              refine lv_iconst (v := 0) hx hb dL_act_267 (by decide) ?_
              exact hret _ _ _ _ _ _ _ _ (by decide) (Option.some.inj hf) dL_act_268 hw
  replace hf := iq hd24 hf
  by_cases hk : (a1 &&& 15) = 0
  · replace hf := ip hk hf
    refine lv_tableIn (tgt := 88) (off := 64) hx hb dL_act_24 (by rw [hk]; decide) (by rw [hk]; decide) (by rw [hk]; rfl) (by decide) ?_
    refine lv_aload_n hx hb dL_act_88 rfl (lv_at hl 2 rfl) ?_
    refine lv_iconst (v := 2) hx hb dL_act_89 (by decide) ?_
    refine lv_iload_n hx hb dL_act_90 rfl (lv_at hl 4 rfl) ?_
    refine lv_bipush (v := 15) hx hb dL_act_91 (by decide) ?_
    obtain ⟨v93, hv93, hf⟩ := ob_e hf
    refine xcallS (ws' := (wC g h now snap has hist ent res num col)) (st1 := [.int v93, .int 2, .ref (h 0)]) (n := 34) E hw [.int a2, .int 15] [] (met_L_low l g a2 15 v93 hv93) rfl (by decide) rfl rfl [0, 1, 2, 3, 4, 5, 6, 7, 8, 9, 10, 11, 12, 13, 14, 15, 16, 17, 18, 19, 20, 21, 22, 23, 24, 25, 26, 27, 28, 29, 30, 31, 32, 33] rfl (by decide +kernel) rfl qw414 k_L_low ⟨rfl, rfl, Nat.le_of_ble_eq_true rfl, Nat.le_of_ble_eq_true rfl⟩ ⟨Nat.zero_le _, Nat.zero_le _⟩ hl.1 (Nat.le_of_ble_eq_true rfl) dL_act_93 rfl (fun H locs hw => ?_)
    refine lv_iadd hx hb dL_act_96 ?_
    obtain ⟨v97, hv97, hf⟩ := ob_e hf
    rcases v97 with t97 | u97
    · replace hf := se_l hf
      exact nn hf
    · replace hf := se_r hf
      refine xcallV (ws' := (wC g h u97.2.1 snap has u97.2.2 ent res num col)) (st1 := [.int u97.1]) (n := 34) E hw [.int (2 + v93)] [0, 1, 2, 3, 4, 5, 6, 7, 8, 9, 10, 11, 12, 13, 14, 15, 16, 17, 18, 19, 20, 21, 22, 23, 24, 25, 26, 27, 28, 29, 30, 31, 32, 33] (met_X10_setBase l g h now snap has hist ent res num col (2 + v93) u97 hv97) rfl (by decide) rfl rfl [34, 35, 36, 37, 38, 39, 40, 41, 42, 43, 44, 45, 46, 47, 48, 49, 50, 51, 52, 53, 54, 55, 56, 57, 58, 59, 60, 61, 62, 63, 64, 65, 66, 67] rfl (by decide +kernel) rfl rfl rfl rfl qw439 k_X10_setBase ⟨rfl, rfl, Nat.le_of_ble_eq_true rfl, Nat.le_of_ble_eq_true rfl⟩ ⟨Nat.zero_le _, Nat.zero_le _⟩ hl.1 (Nat.le_of_ble_eq_true rfl) dL_act_97 rfl (fun H locs hw => ?_)
      refine lv_pop hx hb dL_act_100 rfl ?_
      refine lv_iconst (v := 1) hx hb dL_act_101 (by decide) ?_
      exact hret _ _ _ _ _ _ _ _ (by decide) (Option.some.inj hf) dL_act_102 hw
  replace hf := iq hk hf
  by_cases hk : (a1 &&& 15) = 1
  · replace hf := ip hk hf
    refine lv_tableIn (tgt := 88) (off := 64) hx hb dL_act_24 (by rw [hk]; decide) (by rw [hk]; decide) (by rw [hk]; rfl) (by decide) ?_
    refine lv_aload_n hx hb dL_act_88 rfl (lv_at hl 2 rfl) ?_
    refine lv_iconst (v := 2) hx hb dL_act_89 (by decide) ?_
    refine lv_iload_n hx hb dL_act_90 rfl (lv_at hl 4 rfl) ?_
    refine lv_bipush (v := 15) hx hb dL_act_91 (by decide) ?_
    obtain ⟨v93, hv93, hf⟩ := ob_e hf
    refine xcallS (ws' := (wC g h now snap has hist ent res num col)) (st1 := [.int v93, .int 2, .ref (h 0)]) (n := 34) E hw [.int a2, .int 15] [] (met_L_low l g a2 15 v93 hv93) rfl (by decide) rfl rfl [0, 1, 2, 3, 4, 5, 6, 7, 8, 9, 10, 11, 12, 13, 14, 15, 16, 17, 18, 19, 20, 21, 22, 23, 24, 25, 26, 27, 28, 29, 30, 31, 32, 33] rfl (by decide +kernel) rfl qw414 k_L_low ⟨rfl, rfl, Nat.le_of_ble_eq_true rfl, Nat.le_of_ble_eq_true rfl⟩ ⟨Nat.zero_le _, Nat.zero_le _⟩ hl.1 (Nat.le_of_ble_eq_true rfl) dL_act_93 rfl (fun H locs hw => ?_)
    refine lv_iadd hx hb dL_act_96 ?_
    obtain ⟨v97, hv97, hf⟩ := ob_e hf
    rcases v97 with t97 | u97
    · replace hf := se_l hf
      exact nn hf
    · replace hf := se_r hf
      refine xcallV (ws' := (wC g h u97.2.1 snap has u97.2.2 ent res num col)) (st1 := [.int u97.1]) (n := 34) E hw [.int (2 + v93)] [0, 1, 2, 3, 4, 5, 6, 7, 8, 9, 10, 11, 12, 13, 14, 15, 16, 17, 18, 19, 20, 21, 22, 23, 24, 25, 26, 27, 28, 29, 30, 31, 32, 33] (met_X10_setBase l g h now snap has hist ent res num col (2 + v93) u97 hv97) rfl (by decide) rfl rfl [34, 35, 36, 37, 38, 39, 40, 41, 42, 43, 44, 45, 46, 47, 48, 49, 50, 51, 52, 53, 54, 55, 56, 57, 58, 59, 60, 61, 62, 63, 64, 65, 66, 67] rfl (by decide +kernel) rfl rfl rfl rfl qw439 k_X10_setBase ⟨rfl, rfl, Nat.le_of_ble_eq_true rfl, Nat.le_of_ble_eq_true rfl⟩ ⟨Nat.zero_le _, Nat.zero_le _⟩ hl.1 (Nat.le_of_ble_eq_true rfl) dL_act_97 rfl (fun H locs hw => ?_)
      refine lv_pop hx hb dL_act_100 rfl ?_
      refine lv_iconst (v := 1) hx hb dL_act_101 (by decide) ?_
      exact hret _ _ _ _ _ _ _ _ (by decide) (Option.some.inj hf) dL_act_102 hw
  replace hf := iq hk hf
  by_cases hk : (a1 &&& 15) = 2
  · replace hf := ip hk hf
    refine lv_tableIn (tgt := 103) (off := 79) hx hb dL_act_24 (by rw [hk]; decide) (by rw [hk]; decide) (by rw [hk]; rfl) (by decide) ?_
    refine lv_aload_n hx hb dL_act_103 rfl (lv_at hl 2 rfl) ?_
    refine lv_iload_n hx hb dL_act_104 rfl (lv_at hl 1 rfl) ?_
    refine lv_iload_n hx hb dL_act_105 rfl (lv_at hl 4 rfl) ?_
    refine lv_iload_n hx hb dL_act_106 rfl (lv_at hl 4 rfl) ?_
    refine lv_bipush (v := 20) hx hb dL_act_107 (by decide) ?_
    refine lv_ishr hx hb dL_act_109 ?_
    refine lv_iconst (v := 1) hx hb dL_act_110 (by decide) ?_
    refine lv_iand hx hb dL_act_111 ?_
    refine lv_if_ne (tgt := 121) hx hb dL_act_112 (by decide) (fun c112 => ?_) (fun c112 => ?_)
    · replace hf := iq c112 hf
      refine lv_ldc hx hb hown (hts _ qw469) dL_act_121 ?_
      exact b123 _ _ _ now hist res a2 1000000000 a2 v5 hw (lv_sub hl [4] rfl) hf
    · replace hf := ip c112 hf
      refine lv_sipush (v := 300) hx hb dL_act_115 (by decide) ?_
      refine lv_goto (tgt := 123) hx hb dL_act_118 (by decide) ?_
      exact b123 _ _ _ now hist res a2 300 a2 v5 hw (lv_sub hl [4] rfl) hf
  replace hf := iq hk hf
  by_cases hk : (a1 &&& 15) = 3
  · replace hf := ip hk hf
    refine lv_tableIn (tgt := 103) (off := 79) hx hb dL_act_24 (by rw [hk]; decide) (by rw [hk]; decide) (by rw [hk]; rfl) (by decide) ?_
    refine lv_aload_n hx hb dL_act_103 rfl (lv_at hl 2 rfl) ?_
    refine lv_iload_n hx hb dL_act_104 rfl (lv_at hl 1 rfl) ?_
    refine lv_iload_n hx hb dL_act_105 rfl (lv_at hl 4 rfl) ?_
    refine lv_iload_n hx hb dL_act_106 rfl (lv_at hl 4 rfl) ?_
    refine lv_bipush (v := 20) hx hb dL_act_107 (by decide) ?_
    refine lv_ishr hx hb dL_act_109 ?_
    refine lv_iconst (v := 1) hx hb dL_act_110 (by decide) ?_
    refine lv_iand hx hb dL_act_111 ?_
    refine lv_if_ne (tgt := 121) hx hb dL_act_112 (by decide) (fun c112 => ?_) (fun c112 => ?_)
    · replace hf := iq c112 hf
      refine lv_ldc hx hb hown (hts _ qw469) dL_act_121 ?_
      exact b123 _ _ _ now hist res a2 1000000000 a2 v5 hw (lv_sub hl [4] rfl) hf
    · replace hf := ip c112 hf
      refine lv_sipush (v := 300) hx hb dL_act_115 (by decide) ?_
      refine lv_goto (tgt := 123) hx hb dL_act_118 (by decide) ?_
      exact b123 _ _ _ now hist res a2 300 a2 v5 hw (lv_sub hl [4] rfl) hf
  replace hf := iq hk hf
  by_cases hk : (a1 &&& 15) = 4
  · replace hf := ip hk hf
    refine lv_tableIn (tgt := 103) (off := 79) hx hb dL_act_24 (by rw [hk]; decide) (by rw [hk]; decide) (by rw [hk]; rfl) (by decide) ?_
    refine lv_aload_n hx hb dL_act_103 rfl (lv_at hl 2 rfl) ?_
    refine lv_iload_n hx hb dL_act_104 rfl (lv_at hl 1 rfl) ?_
    refine lv_iload_n hx hb dL_act_105 rfl (lv_at hl 4 rfl) ?_
    refine lv_iload_n hx hb dL_act_106 rfl (lv_at hl 4 rfl) ?_
    refine lv_bipush (v := 20) hx hb dL_act_107 (by decide) ?_
    refine lv_ishr hx hb dL_act_109 ?_
    refine lv_iconst (v := 1) hx hb dL_act_110 (by decide) ?_
    refine lv_iand hx hb dL_act_111 ?_
    refine lv_if_ne (tgt := 121) hx hb dL_act_112 (by decide) (fun c112 => ?_) (fun c112 => ?_)
    · replace hf := iq c112 hf
      refine lv_ldc hx hb hown (hts _ qw469) dL_act_121 ?_
      exact b123 _ _ _ now hist res a2 1000000000 a2 v5 hw (lv_sub hl [4] rfl) hf
    · replace hf := ip c112 hf
      refine lv_sipush (v := 300) hx hb dL_act_115 (by decide) ?_
      refine lv_goto (tgt := 123) hx hb dL_act_118 (by decide) ?_
      exact b123 _ _ _ now hist res a2 300 a2 v5 hw (lv_sub hl [4] rfl) hf
  replace hf := iq hk hf
  by_cases hk : (a1 &&& 15) = 5
  · replace hf := ip hk hf
    refine lv_tableIn (tgt := 103) (off := 79) hx hb dL_act_24 (by rw [hk]; decide) (by rw [hk]; decide) (by rw [hk]; rfl) (by decide) ?_
    refine lv_aload_n hx hb dL_act_103 rfl (lv_at hl 2 rfl) ?_
    refine lv_iload_n hx hb dL_act_104 rfl (lv_at hl 1 rfl) ?_
    refine lv_iload_n hx hb dL_act_105 rfl (lv_at hl 4 rfl) ?_
    refine lv_iload_n hx hb dL_act_106 rfl (lv_at hl 4 rfl) ?_
    refine lv_bipush (v := 20) hx hb dL_act_107 (by decide) ?_
    refine lv_ishr hx hb dL_act_109 ?_
    refine lv_iconst (v := 1) hx hb dL_act_110 (by decide) ?_
    refine lv_iand hx hb dL_act_111 ?_
    refine lv_if_ne (tgt := 121) hx hb dL_act_112 (by decide) (fun c112 => ?_) (fun c112 => ?_)
    · replace hf := iq c112 hf
      refine lv_ldc hx hb hown (hts _ qw469) dL_act_121 ?_
      exact b123 _ _ _ now hist res a2 1000000000 a2 v5 hw (lv_sub hl [4] rfl) hf
    · replace hf := ip c112 hf
      refine lv_sipush (v := 300) hx hb dL_act_115 (by decide) ?_
      refine lv_goto (tgt := 123) hx hb dL_act_118 (by decide) ?_
      exact b123 _ _ _ now hist res a2 300 a2 v5 hw (lv_sub hl [4] rfl) hf
  replace hf := iq hk hf
  by_cases hk : (a1 &&& 15) = 6
  · replace hf := ip hk hf
    refine lv_tableIn (tgt := 158) (off := 134) hx hb dL_act_24 (by rw [hk]; decide) (by rw [hk]; decide) (by rw [hk]; rfl) (by decide) ?_
    refine lv_aload_n hx hb dL_act_158 rfl (lv_at hl 2 rfl) ?_
    refine lv_iload_n hx hb dL_act_159 rfl (lv_at hl 1 rfl) ?_
    refine lv_iload hx hb dL_act_160 (lv_at hl 0 rfl) ?_
    obtain ⟨v162, hv162, hf⟩ := ob_e hf
    rcases v162 with t162 | u162
    · replace hf := se_l hf
      exact nn hf
    · replace hf := se_r hf
      refine xcallV (ws' := (wC g h now snap has hist ent u162.2 num col)) (st1 := [.int u162.1]) (n := 34) E hw [.int v5, .int v15] [0, 1, 2, 3, 4, 5, 6, 7, 8, 9, 10, 11, 12, 13, 14, 15, 16, 17, 18, 19, 20, 21, 22, 23, 24, 25, 26, 27, 28, 29, 30, 31, 32, 33] (met_X10_whyNoSum l g h now snap has hist ent res num col v5 v15 u162 hv162) rfl (by decide) rfl rfl [34, 35, 36, 37, 38, 39, 40, 41, 42, 43, 44, 45, 46, 47, 48, 49, 50, 51, 52, 53, 54, 55, 56, 57, 58, 59, 60, 61, 62, 63, 64, 65, 66, 67] rfl (by decide +kernel) rfl rfl rfl rfl qw494 k_X10_whyNoSum ⟨rfl, rfl, Nat.le_of_ble_eq_true rfl, Nat.le_of_ble_eq_true rfl⟩ ⟨Nat.zero_le _, Nat.zero_le _⟩ hl.1 (Nat.le_of_ble_eq_true rfl) dL_act_162 rfl (fun H locs hw => ?_)
      refine lv_if_le (tgt := 170) hx hb dL_act_165 (by decide) (fun c165 => ?_) (fun c165 => ?_)
      · replace hf := ip c165 hf
        refine lv_aload_n hx hb dL_act_170 rfl (lv_at hl 2 rfl) ?_
        refine lv_iload_n hx hb dL_act_171 rfl (lv_at hl 1 rfl) ?_
        refine lv_iload hx hb dL_act_172 (lv_at hl 0 rfl) ?_
        obtain ⟨v174, hv174, hf⟩ := ob_e hf
        rcases v174 with t174 | u174
        · replace hf := se_l hf
          exact nn hf
        · replace hf := se_r hf
          refine xcallV (ws' := (wC g h u174.2.1 snap has u174.2.2.1 ent u174.2.2.2 num col)) (st1 := [.int u174.1]) (n := 34) E hw [.int v5, .int v15] [0, 1, 2, 3, 4, 5, 6, 7, 8, 9, 10, 11, 12, 13, 14, 15, 16, 17, 18, 19, 20, 21, 22, 23, 24, 25, 26, 27, 28, 29, 30, 31, 32, 33] (met_X10_add l g h now snap has hist ent u162.2 num col v5 v15 u174 hv174) rfl (by decide) rfl rfl [34, 35, 36, 37, 38, 39, 40, 41, 42, 43, 44, 45, 46, 47, 48, 49, 50, 51, 52, 53, 54, 55, 56, 57, 58, 59, 60, 61, 62, 63, 64, 65, 66, 67] rfl (by decide +kernel) rfl rfl rfl rfl qw507 k_X10_add ⟨rfl, rfl, Nat.le_of_ble_eq_true rfl, Nat.le_of_ble_eq_true rfl⟩ ⟨Nat.zero_le _, Nat.zero_le _⟩ hl.1 (Nat.le_of_ble_eq_true rfl) dL_act_174 rfl (fun H locs hw => ?_)
          refine lv_pop hx hb dL_act_177 rfl ?_
          refine lv_iconst (v := 1) hx hb dL_act_178 (by decide) ?_
          exact hret _ _ _ _ _ _ _ _ (by decide) (Option.some.inj hf) dL_act_179 hw
      · replace hf := iq c165 hf
        refine lv_iconst (v := 0) hx hb dL_act_168 (by decide) ?_
        exact hret _ _ _ _ _ _ _ _ (by decide) (Option.some.inj hf) dL_act_169 hw
  replace hf := iq hk hf
  by_cases hk : (a1 &&& 15) = 7
  · replace hf := ip hk hf
    refine lv_tableIn (tgt := 158) (off := 134) hx hb dL_act_24 (by rw [hk]; decide) (by rw [hk]; decide) (by rw [hk]; rfl) (by decide) ?_
    refine lv_aload_n hx hb dL_act_158 rfl (lv_at hl 2 rfl) ?_
    refine lv_iload_n hx hb dL_act_159 rfl (lv_at hl 1 rfl) ?_
    refine lv_iload hx hb dL_act_160 (lv_at hl 0 rfl) ?_
    obtain ⟨v162, hv162, hf⟩ := ob_e hf
    rcases v162 with t162 | u162
    · replace hf := se_l hf
      exact nn hf
    · replace hf := se_r hf
      refine xcallV (ws' := (wC g h now snap has hist ent u162.2 num col)) (st1 := [.int u162.1]) (n := 34) E hw [.int v5, .int v15] [0, 1, 2, 3, 4, 5, 6, 7, 8, 9, 10, 11, 12, 13, 14, 15, 16, 17, 18, 19, 20, 21, 22, 23, 24, 25, 26, 27, 28, 29, 30, 31, 32, 33] (met_X10_whyNoSum l g h now snap has hist ent res num col v5 v15 u162 hv162) rfl (by decide) rfl rfl [34, 35, 36, 37, 38, 39, 40, 41, 42, 43, 44, 45, 46, 47, 48, 49, 50, 51, 52, 53, 54, 55, 56, 57, 58, 59, 60, 61, 62, 63, 64, 65, 66, 67] rfl (by decide +kernel) rfl rfl rfl rfl qw494 k_X10_whyNoSum ⟨rfl, rfl, Nat.le_of_ble_eq_true rfl, Nat.le_of_ble_eq_true rfl⟩ ⟨Nat.zero_le _, Nat.zero_le _⟩ hl.1 (Nat.le_of_ble_eq_true rfl) dL_act_162 rfl (fun H locs hw => ?_)
      refine lv_if_le (tgt := 170) hx hb dL_act_165 (by decide) (fun c165 => ?_) (fun c165 => ?_)
      · replace hf := ip c165 hf
        refine lv_aload_n hx hb dL_act_170 rfl (lv_at hl 2 rfl) ?_
        refine lv_iload_n hx hb dL_act_171 rfl (lv_at hl 1 rfl) ?_
        refine lv_iload hx hb dL_act_172 (lv_at hl 0 rfl) ?_
        obtain ⟨v174, hv174, hf⟩ := ob_e hf
        rcases v174 with t174 | u174
        · replace hf := se_l hf
          exact nn hf
        · replace hf := se_r hf
          refine xcallV (ws' := (wC g h u174.2.1 snap has u174.2.2.1 ent u174.2.2.2 num col)) (st1 := [.int u174.1]) (n := 34) E hw [.int v5, .int v15] [0, 1, 2, 3, 4, 5, 6, 7, 8, 9, 10, 11, 12, 13, 14, 15, 16, 17, 18, 19, 20, 21, 22, 23, 24, 25, 26, 27, 28, 29, 30, 31, 32, 33] (met_X10_add l g h now snap has hist ent u162.2 num col v5 v15 u174 hv174) rfl (by decide) rfl rfl [34, 35, 36, 37, 38, 39, 40, 41, 42, 43, 44, 45, 46, 47, 48, 49, 50, 51, 52, 53, 54, 55, 56, 57, 58, 59, 60, 61, 62, 63, 64, 65, 66, 67] rfl (by decide +kernel) rfl rfl rfl rfl qw507 k_X10_add ⟨rfl, rfl, Nat.le_of_ble_eq_true rfl, Nat.le_of_ble_eq_true rfl⟩ ⟨Nat.zero_le _, Nat.zero_le _⟩ hl.1 (Nat.le_of_ble_eq_true rfl) dL_act_174 rfl (fun H locs hw => ?_)
          refine lv_pop hx hb dL_act_177 rfl ?_
          refine lv_iconst (v := 1) hx hb dL_act_178 (by decide) ?_
          exact hret _ _ _ _ _ _ _ _ (by decide) (Option.some.inj hf) dL_act_179 hw
      · replace hf := iq c165 hf
        refine lv_iconst (v := 0) hx hb dL_act_168 (by decide) ?_
        exact hret _ _ _ _ _ _ _ _ (by decide) (Option.some.inj hf) dL_act_169 hw
  replace hf := iq hk hf
  by_cases hk : (a1 &&& 15) = 8
  · replace hf := ip hk hf
    refine lv_tableIn (tgt := 158) (off := 134) hx hb dL_act_24 (by rw [hk]; decide) (by rw [hk]; decide) (by rw [hk]; rfl) (by decide) ?_
    refine lv_aload_n hx hb dL_act_158 rfl (lv_at hl 2 rfl) ?_
    refine lv_iload_n hx hb dL_act_159 rfl (lv_at hl 1 rfl) ?_
    refine lv_iload hx hb dL_act_160 (lv_at hl 0 rfl) ?_
    obtain ⟨v162, hv162, hf⟩ := ob_e hf
    rcases v162 with t162 | u162
    · replace hf := se_l hf
      exact nn hf
    · replace hf := se_r hf
      refine xcallV (ws' := (wC g h now snap has hist ent u162.2 num col)) (st1 := [.int u162.1]) (n := 34) E hw [.int v5, .int v15] [0, 1, 2, 3, 4, 5, 6, 7, 8, 9, 10, 11, 12, 13, 14, 15, 16, 17, 18, 19, 20, 21, 22, 23, 24, 25, 26, 27, 28, 29, 30, 31, 32, 33] (met_X10_whyNoSum l g h now snap has hist ent res num col v5 v15 u162 hv162) rfl (by decide) rfl rfl [34, 35, 36, 37, 38, 39, 40, 41, 42, 43, 44, 45, 46, 47, 48, 49, 50, 51, 52, 53, 54, 55, 56, 57, 58, 59, 60, 61, 62, 63, 64, 65, 66, 67] rfl (by decide +kernel) rfl rfl rfl rfl qw494 k_X10_whyNoSum ⟨rfl, rfl, Nat.le_of_ble_eq_true rfl, Nat.le_of_ble_eq_true rfl⟩ ⟨Nat.zero_le _, Nat.zero_le _⟩ hl.1 (Nat.le_of_ble_eq_true rfl) dL_act_162 rfl (fun H locs hw => ?_)
      refine lv_if_le (tgt := 170) hx hb dL_act_165 (by decide) (fun c165 => ?_) (fun c165 => ?_)
      · replace hf := ip c165 hf
        refine lv_aload_n hx hb dL_act_170 rfl (lv_at hl 2 rfl) ?_
        refine lv_iload_n hx hb dL_act_171 rfl (lv_at hl 1 rfl) ?_
        refine lv_iload hx hb dL_act_172 (lv_at hl 0 rfl) ?_
        obtain ⟨v174, hv174, hf⟩ := ob_e hf
        rcases v174 with t174 | u174
        · replace hf := se_l hf
          exact nn hf
        · replace hf := se_r hf
          refine xcallV (ws' := (wC g h u174.2.1 snap has u174.2.2.1 ent u174.2.2.2 num col)) (st1 := [.int u174.1]) (n := 34) E hw [.int v5, .int v15] [0, 1, 2, 3, 4, 5, 6, 7, 8, 9, 10, 11, 12, 13, 14, 15, 16, 17, 18, 19, 20, 21, 22, 23, 24, 25, 26, 27, 28, 29, 30, 31, 32, 33] (met_X10_add l g h now snap has hist ent u162.2 num col v5 v15 u174 hv174) rfl (by decide) rfl rfl [34, 35, 36, 37, 38, 39, 40, 41, 42, 43, 44, 45, 46, 47, 48, 49, 50, 51, 52, 53, 54, 55, 56, 57, 58, 59, 60, 61, 62, 63, 64, 65, 66, 67] rfl (by decide +kernel) rfl rfl rfl rfl qw507 k_X10_add ⟨rfl, rfl, Nat.le_of_ble_eq_true rfl, Nat.le_of_ble_eq_true rfl⟩ ⟨Nat.zero_le _, Nat.zero_le _⟩ hl.1 (Nat.le_of_ble_eq_true rfl) dL_act_174 rfl (fun H locs hw => ?_)
          refine lv_pop hx hb dL_act_177 rfl ?_
          refine lv_iconst (v := 1) hx hb dL_act_178 (by decide) ?_
          exact hret _ _ _ _ _ _ _ _ (by decide) (Option.some.inj hf) dL_act_179 hw
      · replace hf := iq c165 hf
        refine lv_iconst (v := 0) hx hb dL_act_168 (by decide) ?_
        exact hret _ _ _ _ _ _ _ _ (by decide) (Option.some.inj hf) dL_act_169 hw
  replace hf := iq hk hf
  by_cases hk : (a1 &&& 15) = 9
  · replace hf := ip hk hf
    refine lv_tableIn (tgt := 180) (off := 156) hx hb dL_act_24 (by rw [hk]; decide) (by rw [hk]; decide) (by rw [hk]; rfl) (by decide) ?_
    refine lv_aload_n hx hb dL_act_180 rfl (lv_at hl 2 rfl) ?_
    refine lv_iload_n hx hb dL_act_181 rfl (lv_at hl 1 rfl) ?_
    refine lv_iload_n hx hb dL_act_182 rfl (lv_at hl 1 rfl) ?_
    obtain ⟨v183, hv183, hf⟩ := ob_e hf
    rcases v183 with t183 | u183
    · replace hf := se_l hf
      exact nn hf
    · replace hf := se_r hf
      refine xcallV (ws' := (wC g h u183.2.1 snap has u183.2.2.1 ent u183.2.2.2 num col)) (st1 := [.int u183.1]) (n := 34) E hw [.int v5, .int v5] [0, 1, 2, 3, 4, 5, 6, 7, 8, 9, 10, 11, 12, 13, 14, 15, 16, 17, 18, 19, 20, 21, 22, 23, 24, 25, 26, 27, 28, 29, 30, 31, 32, 33] (met_X10_subtract l g h now snap has hist ent res num col v5 v5 u183 hv183) rfl (by decide) rfl rfl [34, 35, 36, 37, 38, 39, 40, 41, 42, 43, 44, 45, 46, 47, 48, 49, 50, 51, 52, 53, 54, 55, 56, 57, 58, 59, 60, 61, 62, 63, 64, 65, 66, 67] rfl (by decide +kernel) rfl rfl rfl rfl qw522 k_X10_subtract ⟨rfl, rfl, Nat.le_of_ble_eq_true rfl, Nat.le_of_ble_eq_true rfl⟩ ⟨Nat.zero_le _, Nat.zero_le _⟩ hl.1 (Nat.le_of_ble_eq_true rfl) dL_act_183 rfl (fun H locs hw => ?_)
      refine lv_pop hx hb dL_act_186 rfl ?_
      refine lv_iconst (v := 1) hx hb dL_act_187 (by decide) ?_
      exact hret _ _ _ _ _ _ _ _ (by decide) (Option.some.inj hf) dL_act_188 hw
  replace hf := iq hk hf
  by_cases hk : (a1 &&& 15) = 10
  · replace hf := ip hk hf
    refine lv_tableIn (tgt := 189) (off := 165) hx hb dL_act_24 (by rw [hk]; decide) (by rw [hk]; decide) (by rw [hk]; rfl) (by decide) ?_
    refine lv_aload_n hx hb dL_act_189 rfl (lv_at hl 2 rfl) ?_
    refine lv_iload_n hx hb dL_act_190 rfl (lv_at hl 1 rfl) ?_
    obtain ⟨v191, hv191, hf⟩ := ob_e hf
    rcases v191 with t191 | u191
    · replace hf := se_l hf
      exact nn hf
    · replace hf := se_r hf
      refine xcallV (ws' := (wC g h now snap has hist ent res num col)) (st1 := [.int u191]) (n := 34) E hw [.int v5] [0, 1, 2, 3, 4, 5, 6, 7, 8, 9, 10, 11, 12, 13, 14, 15, 16, 17, 18, 19, 20, 21, 22, 23, 24, 25, 26, 27, 28, 29, 30, 31, 32, 33] (met_X10_denominator l g h now snap has hist ent res num col v5 u191 hv191) rfl (by decide) rfl rfl [34, 35, 36, 37, 38, 39, 40, 41, 42, 43, 44, 45, 46, 47, 48, 49, 50, 51, 52, 53, 54, 55, 56, 57, 58, 59, 60, 61, 62, 63, 64, 65, 66, 67] rfl (by decide +kernel) rfl rfl rfl rfl qw336 k_X10_denominator ⟨rfl, rfl, Nat.le_of_ble_eq_true rfl, Nat.le_of_ble_eq_true rfl⟩ ⟨Nat.zero_le _, Nat.zero_le _⟩ hl.1 (Nat.le_of_ble_eq_true rfl) dL_act_191 rfl (fun H locs hw => ?_)
      refine lv_bipush (v := 60) hx hb dL_act_194 (by decide) ?_
      refine lv_icmp_gt (tgt := 209) hx hb dL_act_196 (by decide) (fun c196 => ?_) (fun c196 => ?_)
      · replace hf := ip c196 hf
        refine lv_iconst (v := 0) hx hb dL_act_209 (by decide) ?_
        exact hret _ _ _ _ _ _ _ _ (by decide) (Option.some.inj hf) dL_act_210 hw
      · replace hf := iq c196 hf
        refine lv_aload_n hx hb dL_act_199 rfl (lv_at hl 2 rfl) ?_
        refine lv_iload_n hx hb dL_act_200 rfl (lv_at hl 1 rfl) ?_
        obtain ⟨v201, hv201, hf⟩ := ob_e hf
        rcases v201 with t201 | u201
        · replace hf := se_l hf
          exact nn hf
        · replace hf := se_r hf
          refine xcallV (ws' := (wC g h now snap has hist ent res num col)) (st1 := [.int u201]) (n := 34) E hw [.int v5] [0, 1, 2, 3, 4, 5, 6, 7, 8, 9, 10, 11, 12, 13, 14, 15, 16, 17, 18, 19, 20, 21, 22, 23, 24, 25, 26, 27, 28, 29, 30, 31, 32, 33] (met_X10_numerator l g h now snap has hist ent res num col v5 u201 hv201) rfl (by decide) rfl rfl [34, 35, 36, 37, 38, 39, 40, 41, 42, 43, 44, 45, 46, 47, 48, 49, 50, 51, 52, 53, 54, 55, 56, 57, 58, 59, 60, 61, 62, 63, 64, 65, 66, 67] rfl (by decide +kernel) rfl rfl rfl rfl qw306 k_X10_numerator ⟨rfl, rfl, Nat.le_of_ble_eq_true rfl, Nat.le_of_ble_eq_true rfl⟩ ⟨Nat.zero_le _, Nat.zero_le _⟩ hl.1 (Nat.le_of_ble_eq_true rfl) dL_act_201 rfl (fun H locs hw => ?_)
          refine lv_ldc hx hb hown (hts _ qw530) dL_act_204 ?_
          refine lv_icmp_le (tgt := 211) hx hb dL_act_206 (by decide) (fun c206 => ?_) (fun c206 => ?_)
          · replace hf := ip c206 hf
            refine lv_aload_n hx hb dL_act_211 rfl (lv_at hl 2 rfl) ?_
            refine lv_iload_n hx hb dL_act_212 rfl (lv_at hl 1 rfl) ?_
            refine lv_iload_n hx hb dL_act_213 rfl (lv_at hl 4 rfl) ?_
            refine lv_iconst (v := 1) hx hb dL_act_214 (by decide) ?_
            refine lv_iand hx hb dL_act_215 ?_
            refine lv_if_ne (tgt := 223) hx hb dL_act_216 (by decide) (fun c216 => ?_) (fun c216 => ?_)
            · replace hf := iq c216 hf
              refine lv_iconst (v := (-1)) hx hb dL_act_223 (by decide) ?_
              exact b224 _ _ _ now hist res (-1) v5 hw (lv_sub hl [] rfl) hf
            · replace hf := ip c216 hf
              refine lv_iconst (v := 1) hx hb dL_act_219 (by decide) ?_
              refine lv_goto (tgt := 224) hx hb dL_act_220 (by decide) ?_
              exact b224 _ _ _ now hist res 1 v5 hw (lv_sub hl [] rfl) hf
          · replace hf := iq c206 hf
            refine lv_iconst (v := 0) hx hb dL_act_209 (by decide) ?_
            exact hret _ _ _ _ _ _ _ _ (by decide) (Option.some.inj hf) dL_act_210 hw
  replace hf := iq hk hf
  by_cases hk : (a1 &&& 15) = 11
  · replace hf := ip hk hf
    refine lv_tableIn (tgt := 189) (off := 165) hx hb dL_act_24 (by rw [hk]; decide) (by rw [hk]; decide) (by rw [hk]; rfl) (by decide) ?_
    refine lv_aload_n hx hb dL_act_189 rfl (lv_at hl 2 rfl) ?_
    refine lv_iload_n hx hb dL_act_190 rfl (lv_at hl 1 rfl) ?_
    obtain ⟨v191, hv191, hf⟩ := ob_e hf
    rcases v191 with t191 | u191
    · replace hf := se_l hf
      exact nn hf
    · replace hf := se_r hf
      refine xcallV (ws' := (wC g h now snap has hist ent res num col)) (st1 := [.int u191]) (n := 34) E hw [.int v5] [0, 1, 2, 3, 4, 5, 6, 7, 8, 9, 10, 11, 12, 13, 14, 15, 16, 17, 18, 19, 20, 21, 22, 23, 24, 25, 26, 27, 28, 29, 30, 31, 32, 33] (met_X10_denominator l g h now snap has hist ent res num col v5 u191 hv191) rfl (by decide) rfl rfl [34, 35, 36, 37, 38, 39, 40, 41, 42, 43, 44, 45, 46, 47, 48, 49, 50, 51, 52, 53, 54, 55, 56, 57, 58, 59, 60, 61, 62, 63, 64, 65, 66, 67] rfl (by decide +kernel) rfl rfl rfl rfl qw336 k_X10_denominator ⟨rfl, rfl, Nat.le_of_ble_eq_true rfl, Nat.le_of_ble_eq_true rfl⟩ ⟨Nat.zero_le _, Nat.zero_le _⟩ hl.1 (Nat.le_of_ble_eq_true rfl) dL_act_191 rfl (fun H locs hw => ?_)
      refine lv_bipush (v := 60) hx hb dL_act_194 (by decide) ?_
      refine lv_icmp_gt (tgt := 209) hx hb dL_act_196 (by decide) (fun c196 => ?_) (fun c196 => ?_)
      · replace hf := ip c196 hf
        refine lv_iconst (v := 0) hx hb dL_act_209 (by decide) ?_
        exact hret _ _ _ _ _ _ _ _ (by decide) (Option.some.inj hf) dL_act_210 hw
      · replace hf := iq c196 hf
        refine lv_aload_n hx hb dL_act_199 rfl (lv_at hl 2 rfl) ?_
        refine lv_iload_n hx hb dL_act_200 rfl (lv_at hl 1 rfl) ?_
        obtain ⟨v201, hv201, hf⟩ := ob_e hf
        rcases v201 with t201 | u201
        · replace hf := se_l hf
          exact nn hf
        · replace hf := se_r hf
          refine xcallV (ws' := (wC g h now snap has hist ent res num col)) (st1 := [.int u201]) (n := 34) E hw [.int v5] [0, 1, 2, 3, 4, 5, 6, 7, 8, 9, 10, 11, 12, 13, 14, 15, 16, 17, 18, 19, 20, 21, 22, 23, 24, 25, 26, 27, 28, 29, 30, 31, 32, 33] (met_X10_numerator l g h now snap has hist ent res num col v5 u201 hv201) rfl (by decide) rfl rfl [34, 35, 36, 37, 38, 39, 40, 41, 42, 43, 44, 45, 46, 47, 48, 49, 50, 51, 52, 53, 54, 55, 56, 57, 58, 59, 60, 61, 62, 63, 64, 65, 66, 67] rfl (by decide +kernel) rfl rfl rfl rfl qw306 k_X10_numerator ⟨rfl, rfl, Nat.le_of_ble_eq_true rfl, Nat.le_of_ble_eq_true rfl⟩ ⟨Nat.zero_le _, Nat.zero_le _⟩ hl.1 (Nat.le_of_ble_eq_true rfl) dL_act_201 rfl (fun H locs hw => ?_)
          refine lv_ldc hx hb hown (hts _ qw530) dL_act_204 ?_
          refine lv_icmp_le (tgt := 211) hx hb dL_act_206 (by decide) (fun c206 => ?_) (fun c206 => ?_)
          · replace hf := ip c206 hf
            refine lv_aload_n hx hb dL_act_211 rfl (lv_at hl 2 rfl) ?_
            refine lv_iload_n hx hb dL_act_212 rfl (lv_at hl 1 rfl) ?_
            refine lv_iload_n hx hb dL_act_213 rfl (lv_at hl 4 rfl) ?_
            refine lv_iconst (v := 1) hx hb dL_act_214 (by decide) ?_
            refine lv_iand hx hb dL_act_215 ?_
            refine lv_if_ne (tgt := 223) hx hb dL_act_216 (by decide) (fun c216 => ?_) (fun c216 => ?_)
            · replace hf := iq c216 hf
              refine lv_iconst (v := (-1)) hx hb dL_act_223 (by decide) ?_
              exact b224 _ _ _ now hist res (-1) v5 hw (lv_sub hl [] rfl) hf
            · replace hf := ip c216 hf
              refine lv_iconst (v := 1) hx hb dL_act_219 (by decide) ?_
              refine lv_goto (tgt := 224) hx hb dL_act_220 (by decide) ?_
              exact b224 _ _ _ now hist res 1 v5 hw (lv_sub hl [] rfl) hf
          · replace hf := iq c206 hf
            refine lv_iconst (v := 0) hx hb dL_act_209 (by decide) ?_
            exact hret _ _ _ _ _ _ _ _ (by decide) (Option.some.inj hf) dL_act_210 hw
  replace hf := iq hk hf
  exact nn hf
theorem k_L_holds : xKS yL_holds cL_holds 13 (some .boolean) 4 := ⟨qw563, qw12, qw564, by decide +kernel, by decide +kernel, by decide +kernel⟩
set_option maxHeartbeats 4000000 in
set_option maxRecDepth 100000 in
theorem met_L_holds (l : Launch) (g : xG) (h : Nat → Nat) (now : SC) (snap : SC) (has : Int32) (hist : HC) (ent : EC) (res : RC) (num : NC) (col : CC) (a1 : Int32) (a2 : Int32) (a3 : Int32) (out : Int32 × CC) (hf : f_L_holds now col a1 a2 a3 = some out) : xM l yL_holds (xC yL_holds cL_holds 13 (some .boolean)) { frames := 5, cells := 0, slots := 0, locals := 131 } g (wC g h now snap has hist ent res num col) [.ref (h 0), .int a1, .int a2, .int a3] (some (.int out.1)) (wC g h now snap has hist ent res num out.2) := by
  refine xof (by decide) (Nat.le_of_ble_eq_true rfl) ⟨rfl, rfl⟩ ?_
  intro p e s m below meth c A ls E hr hlocks hw hl hpost hAe
  have hx := E.1.1
  have hb := E.1.2.1
  have hown := E.1.2.2.2.1
  have hts := E.1.2.2.2.2
  generalize hZ : (MQ below (xPost g (wC g h now snap has hist ent res num col) (wC g h now snap has hist ent res num out.2) s.heap.size (some (.int out.1))) [.ref (h 0), .int a1, .int a2, .int a3].toArray s 0 0 A) = ZZ
  have hret : ∀ (pc : Nat) (H : Heap) (locs : List Loc) (ls : Array Slot) (v : Int32) (ccol : CC), narrow .boolean (.int v) = .int v → (v, ccol) = out → decode cL_holds pc = .ok (.ireturn, 1) → xW g A s.heap (wC g h now snap has hist ent res num ccol) H locs → W p l e { frames := 5, cells := 0, slots := 0, locals := 131 } s m [.ref (h 0), .int a1, .int a2, .int a3].toArray below meth c H locs 0 0 ZZ (F0 m pc ls [.int v]) := by
    intro pc H locs ls v ccol hn he hd hw
    subst he
    rw [← hZ]
    exact W.zret hx hb hr hn (hpost H locs hw).1 (hpost H locs hw).2 hd hlocks
  clear hpost
  have b414 : ∀ (H : Heap) (locs : List Loc) (ls : Array Slot) (col : CC) (x1 : Int32) (t0 : Int32), xW g A s.heap (wC g h now snap has hist ent res num col) H locs → lv_has ls 13 [(0, .ref (h 0)), (1, .int x1)] → f_L_holds_b414 now col x1 t0 = some out → W p l e { frames := 5, cells := 0, slots := 0, locals := 131 } s m [.ref (h 0), .int a1, .int a2, .int a3].toArray below meth c H locs 0 0 ZZ (F0 m 414 ls [.int t0]) := by
    intro H locs ls col x1 t0 hw hl hf
    refine lv_istore (lv' := [(11, .int t0), (0, .ref (h 0)), (1, .int x1)]) hx hb dL_holds_414 hl (by decide) rfl (fun ls hl => ?_)
    refine lv_iload hx hb dL_holds_416 (lv_at hl 0 rfl) ?_
    refine lv_if_eq (tgt := 483) hx hb dL_holds_418 (by decide) (fun c418 => ?_) (fun c418 => ?_)
    · replace hf := ip c418 hf
      refine lv_iconst (v := 0) hx hb dL_holds_483 (by decide) ?_
      exact hret _ _ _ _ _ _ (by decide) (Option.some.inj hf) dL_holds_484 hw
    · replace hf := iq c418 hf
      refine lv_aload_n hx hb dL_holds_421 rfl (lv_at hl 1 rfl) ?_
      refine lv_iload_n hx hb dL_holds_422 rfl (lv_at hl 2 rfl) ?_
      obtain ⟨v423, hv423, hf⟩ := ob_e hf
      rcases v423 with t423 | u423
      · replace hf := se_l hf
        exact nn hf
      · replace hf := se_r hf
        refine xcallV (ws' := (wC g h now snap has hist ent res num col)) (st1 := [.double u423]) (n := 34) E hw [.int x1] [0, 1, 2, 3, 4, 5, 6, 7, 8, 9, 10, 11, 12, 13, 14, 15, 16, 17, 18, 19, 20, 21, 22, 23, 24, 25, 26, 27, 28, 29, 30, 31, 32, 33] (met_X10_shareOf l g h now snap has hist ent res num col x1 u423 hv423) rfl (by decide) rfl rfl [34, 35, 36, 37, 38, 39, 40, 41, 42, 43, 44, 45, 46, 47, 48, 49, 50, 51, 52, 53, 54, 55, 56, 57, 58, 59, 60, 61, 62, 63, 64, 65, 66, 67] rfl (by decide +kernel) rfl rfl rfl rfl qw403 k_X10_shareOf ⟨rfl, rfl, Nat.le_of_ble_eq_true rfl, Nat.le_of_ble_eq_true rfl⟩ ⟨Nat.zero_le _, Nat.zero_le _⟩ hl.1 (Nat.le_of_ble_eq_true rfl) dL_holds_423 rfl (fun H locs hw => ?_)
        refine lv_dconst0 hx hb dL_holds_426 ?_
        refine lv_dcmp hx hb dL_holds_427 ?_
        refine lv_if_lt (tgt := 483) hx hb dL_holds_428 (by decide) (fun c428 => ?_) (fun c428 => ?_)
        · replace hf := ip c428 hf
          refine lv_iconst (v := 0) hx hb dL_holds_483 (by decide) ?_
          exact hret _ _ _ _ _ _ (by decide) (Option.some.inj hf) dL_holds_484 hw
        · replace hf := iq c428 hf
          refine lv_aload_n hx hb dL_holds_431 rfl (lv_at hl 1 rfl) ?_
          refine lv_iload_n hx hb dL_holds_432 rfl (lv_at hl 2 rfl) ?_
          obtain ⟨v433, hv433, hf⟩ := ob_e hf
          rcases v433 with t433 | u433
          · replace hf := se_l hf
            exact nn hf
          · replace hf := se_r hf
            refine xcallV (ws' := (wC g h now snap has hist ent res num col)) (st1 := [.double u433]) (n := 34) E hw [.int x1] [0, 1, 2, 3, 4, 5, 6, 7, 8, 9, 10, 11, 12, 13, 14, 15, 16, 17, 18, 19, 20, 21, 22, 23, 24, 25, 26, 27, 28, 29, 30, 31, 32, 33] (met_X10_shareOf l g h now snap has hist ent res num col x1 u433 hv433) rfl (by decide) rfl rfl [34, 35, 36, 37, 38, 39, 40, 41, 42, 43, 44, 45, 46, 47, 48, 49, 50, 51, 52, 53, 54, 55, 56, 57, 58, 59, 60, 61, 62, 63, 64, 65, 66, 67] rfl (by decide +kernel) rfl rfl rfl rfl qw403 k_X10_shareOf ⟨rfl, rfl, Nat.le_of_ble_eq_true rfl, Nat.le_of_ble_eq_true rfl⟩ ⟨Nat.zero_le _, Nat.zero_le _⟩ hl.1 (Nat.le_of_ble_eq_true rfl) dL_holds_433 rfl (fun H locs hw => ?_)
            refine lv_dconst1 hx hb dL_holds_436 ?_
            refine lv_dcmp hx hb dL_holds_437 ?_
            refine lv_if_gt (tgt := 483) hx hb dL_holds_438 (by decide) (fun c438 => ?_) (fun c438 => ?_)
            · replace hf := ip c438 hf
              refine lv_iconst (v := 0) hx hb dL_holds_483 (by decide) ?_
              exact hret _ _ _ _ _ _ (by decide) (Option.some.inj hf) dL_holds_484 hw
            · replace hf := iq c438 hf
              refine lv_aload_n hx hb dL_holds_441 rfl (lv_at hl 1 rfl) ?_
              refine lv_iload_n hx hb dL_holds_442 rfl (lv_at hl 2 rfl) ?_
              obtain ⟨v443, hv443, hf⟩ := ob_e hf
              rcases v443 with t443 | u443
              · replace hf := se_l hf
                exact nn hf
              · replace hf := se_r hf
                refine xcallV (ws' := (wC g h now snap has hist ent res num col)) (st1 := [.int u443]) (n := 34) E hw [.int x1] [0, 1, 2, 3, 4, 5, 6, 7, 8, 9, 10, 11, 12, 13, 14, 15, 16, 17, 18, 19, 20, 21, 22, 23, 24, 25, 26, 27, 28, 29, 30, 31, 32, 33] (met_X10_numerator l g h now snap has hist ent res num col x1 u443 hv443) rfl (by decide) rfl rfl [34, 35, 36, 37, 38, 39, 40, 41, 42, 43, 44, 45, 46, 47, 48, 49, 50, 51, 52, 53, 54, 55, 56, 57, 58, 59, 60, 61, 62, 63, 64, 65, 66, 67] rfl (by decide +kernel) rfl rfl rfl rfl qw306 k_X10_numerator ⟨rfl, rfl, Nat.le_of_ble_eq_true rfl, Nat.le_of_ble_eq_true rfl⟩ ⟨Nat.zero_le _, Nat.zero_le _⟩ hl.1 (Nat.le_of_ble_eq_true rfl) dL_holds_443 rfl (fun H locs hw => ?_)
                refine lv_if_lt (tgt := 483) hx hb dL_holds_446 (by decide) (fun c446 => ?_) (fun c446 => ?_)
                · replace hf := ip c446 hf
                  refine lv_iconst (v := 0) hx hb dL_holds_483 (by decide) ?_
                  exact hret _ _ _ _ _ _ (by decide) (Option.some.inj hf) dL_holds_484 hw
                · replace hf := iq c446 hf
                  refine lv_aload_n hx hb dL_holds_449 rfl (lv_at hl 1 rfl) ?_
                  refine lv_iload_n hx hb dL_holds_450 rfl (lv_at hl 2 rfl) ?_
                  obtain ⟨v451, hv451, hf⟩ := ob_e hf
                  rcases v451 with t451 | u451
                  · replace hf := se_l hf
                    exact nn hf
                  · replace hf := se_r hf
                    refine xcallV (ws' := (wC g h now snap has hist ent res num col)) (st1 := [.int u451]) (n := 34) E hw [.int x1] [0, 1, 2, 3, 4, 5, 6, 7, 8, 9, 10, 11, 12, 13, 14, 15, 16, 17, 18, 19, 20, 21, 22, 23, 24, 25, 26, 27, 28, 29, 30, 31, 32, 33] (met_X10_numerator l g h now snap has hist ent res num col x1 u451 hv451) rfl (by decide) rfl rfl [34, 35, 36, 37, 38, 39, 40, 41, 42, 43, 44, 45, 46, 47, 48, 49, 50, 51, 52, 53, 54, 55, 56, 57, 58, 59, 60, 61, 62, 63, 64, 65, 66, 67] rfl (by decide +kernel) rfl rfl rfl rfl qw306 k_X10_numerator ⟨rfl, rfl, Nat.le_of_ble_eq_true rfl, Nat.le_of_ble_eq_true rfl⟩ ⟨Nat.zero_le _, Nat.zero_le _⟩ hl.1 (Nat.le_of_ble_eq_true rfl) dL_holds_451 rfl (fun H locs hw => ?_)
                    refine lv_ldc hx hb hown (hts _ qw679) dL_holds_454 ?_
                    refine lv_icmp_gt (tgt := 483) hx hb dL_holds_456 (by decide) (fun c456 => ?_) (fun c456 => ?_)
                    · replace hf := ip c456 hf
                      refine lv_iconst (v := 0) hx hb dL_holds_483 (by decide) ?_
                      exact hret _ _ _ _ _ _ (by decide) (Option.some.inj hf) dL_holds_484 hw
                    · replace hf := iq c456 hf
                      refine lv_aload_n hx hb dL_holds_459 rfl (lv_at hl 1 rfl) ?_
                      refine lv_iload_n hx hb dL_holds_460 rfl (lv_at hl 2 rfl) ?_
                      obtain ⟨v461, hv461, hf⟩ := ob_e hf
                      rcases v461 with t461 | u461
                      · replace hf := se_l hf
                        exact nn hf
                      · replace hf := se_r hf
                        refine xcallV (ws' := (wC g h now snap has hist ent res num col)) (st1 := [.int u461]) (n := 34) E hw [.int x1] [0, 1, 2, 3, 4, 5, 6, 7, 8, 9, 10, 11, 12, 13, 14, 15, 16, 17, 18, 19, 20, 21, 22, 23, 24, 25, 26, 27, 28, 29, 30, 31, 32, 33] (met_X10_denominator l g h now snap has hist ent res num col x1 u461 hv461) rfl (by decide) rfl rfl [34, 35, 36, 37, 38, 39, 40, 41, 42, 43, 44, 45, 46, 47, 48, 49, 50, 51, 52, 53, 54, 55, 56, 57, 58, 59, 60, 61, 62, 63, 64, 65, 66, 67] rfl (by decide +kernel) rfl rfl rfl rfl qw336 k_X10_denominator ⟨rfl, rfl, Nat.le_of_ble_eq_true rfl, Nat.le_of_ble_eq_true rfl⟩ ⟨Nat.zero_le _, Nat.zero_le _⟩ hl.1 (Nat.le_of_ble_eq_true rfl) dL_holds_461 rfl (fun H locs hw => ?_)
                        refine lv_iconst (v := 1) hx hb dL_holds_464 (by decide) ?_
                        refine lv_icmp_lt (tgt := 483) hx hb dL_holds_465 (by decide) (fun c465 => ?_) (fun c465 => ?_)
                        · replace hf := ip c465 hf
                          refine lv_iconst (v := 0) hx hb dL_holds_483 (by decide) ?_
                          exact hret _ _ _ _ _ _ (by decide) (Option.some.inj hf) dL_holds_484 hw
                        · replace hf := iq c465 hf
                          refine lv_aload_n hx hb dL_holds_468 rfl (lv_at hl 1 rfl) ?_
                          refine lv_iload_n hx hb dL_holds_469 rfl (lv_at hl 2 rfl) ?_
                          obtain ⟨v470, hv470, hf⟩ := ob_e hf
                          rcases v470 with t470 | u470
                          · replace hf := se_l hf
                            exact nn hf
                          · replace hf := se_r hf
                            refine xcallV (ws' := (wC g h now snap has hist ent res num col)) (st1 := [.int u470]) (n := 34) E hw [.int x1] [0, 1, 2, 3, 4, 5, 6, 7, 8, 9, 10, 11, 12, 13, 14, 15, 16, 17, 18, 19, 20, 21, 22, 23, 24, 25, 26, 27, 28, 29, 30, 31, 32, 33] (met_X10_denominator l g h now snap has hist ent res num col x1 u470 hv470) rfl (by decide) rfl rfl [34, 35, 36, 37, 38, 39, 40, 41, 42, 43, 44, 45, 46, 47, 48, 49, 50, 51, 52, 53, 54, 55, 56, 57, 58, 59, 60, 61, 62, 63, 64, 65, 66, 67] rfl (by decide +kernel) rfl rfl rfl rfl qw336 k_X10_denominator ⟨rfl, rfl, Nat.le_of_ble_eq_true rfl, Nat.le_of_ble_eq_true rfl⟩ ⟨Nat.zero_le _, Nat.zero_le _⟩ hl.1 (Nat.le_of_ble_eq_true rfl) dL_holds_470 rfl (fun H locs hw => ?_)
                            refine lv_sipush (v := 999) hx hb dL_holds_473 (by decide) ?_
                            refine lv_icmp_gt (tgt := 483) hx hb dL_holds_476 (by decide) (fun c476 => ?_) (fun c476 => ?_)
                            · replace hf := ip c476 hf
                              refine lv_iconst (v := 0) hx hb dL_holds_483 (by decide) ?_
                              exact hret _ _ _ _ _ _ (by decide) (Option.some.inj hf) dL_holds_484 hw
                            · replace hf := iq c476 hf
                              refine lv_iconst (v := 1) hx hb dL_holds_479 (by decide) ?_
                              refine lv_goto (tgt := 484) hx hb dL_holds_480 (by decide) ?_
                              exact hret _ _ _ _ _ _ (by decide) (Option.some.inj hf) dL_holds_484 hw
  have b413 : ∀ (H : Heap) (locs : List Loc) (ls : Array Slot) (col : CC) (x1 : Int32), xW g A s.heap (wC g h now snap has hist ent res num col) H locs → lv_has ls 13 [(0, .ref (h 0)), (1, .int x1)] → f_L_holds_b413 now col x1 = some out → W p l e { frames := 5, cells := 0, slots := 0, locals := 131 } s m [.ref (h 0), .int a1, .int a2, .int a3].toArray below meth c H locs 0 0 ZZ (F0 m 413 ls []) := by
    intro H locs ls col x1 hw hl hf
    refine lv_iconst (v := 0) hx hb dL_holds_413 (by decide) ?_
    exact b414 _ _ _ col x1 0 hw (lv_sub hl [0, 1] rfl) hf
  have b378 : ∀ (H : Heap) (locs : List Loc) (ls : Array Slot) (col : CC) (x1 : Int32) (x2 : Int32) (t0 : Int32) (t1 : Int32), xW g A s.heap (wC g h now snap has hist ent res num col) H locs → lv_has ls 13 [(0, .ref (h 0)), (1, .int x1), (2, .int x2)] → f_L_holds_b378 now col x1 x2 t0 t1 = some out → W p l e { frames := 5, cells := 0, slots := 0, locals := 131 } s m [.ref (h 0), .int a1, .int a2, .int a3].toArray below meth c H locs 0 0 ZZ (F0 m 378 ls [.int t0, .int t1]) := by
    intro H locs ls col x1 x2 t0 t1 hw hl hf
    refine lv_icmp_ne (tgt := 413) hx hb dL_holds_378 (by decide) (fun c378 => ?_) (fun c378 => ?_)
    · replace hf := iq c378 hf
      exact b413 _ _ _ col x1 hw (lv_sub hl [0, 1] rfl) hf
    · replace hf := ip c378 hf
      refine lv_aload_n hx hb dL_holds_381 rfl (lv_at hl 0 rfl) ?_
      refine lv_iload_n hx hb dL_holds_382 rfl (lv_at hl 1 rfl) ?_
      refine lv_iload_n hx hb dL_holds_383 rfl (lv_at hl 2 rfl) ?_
      obtain ⟨v384, hv384, hf⟩ := ob_e hf
      rcases v384 with t384 | u384
      · replace hf := se_l hf
        exact nn hf
      · replace hf := se_r hf
        refine xcallV (ws' := (wC g h now snap has hist ent res num col)) (st1 := [.int u384]) (n := 34) E hw [.int x1, .int x2] [0, 1, 2, 3, 4, 5, 6, 7, 8, 9, 10, 11, 12, 13, 14, 15, 16, 17, 18, 19, 20, 21, 22, 23, 24, 25, 26, 27, 28, 29, 30, 31, 32, 33] (met_X10_compare l g h now snap has hist ent res num col x1 x2 u384 hv384) rfl (by decide) rfl rfl [34, 35, 36, 37, 38, 39, 40, 41, 42, 43, 44, 45, 46, 47, 48, 49, 50, 51, 52, 53, 54, 55, 56, 57, 58, 59, 60, 61, 62, 63, 64, 65, 66, 67] rfl (by decide +kernel) rfl rfl rfl rfl qw667 k_X10_compare ⟨rfl, rfl, Nat.le_of_ble_eq_true rfl, Nat.le_of_ble_eq_true rfl⟩ ⟨Nat.zero_le _, Nat.zero_le _⟩ hl.1 (Nat.le_of_ble_eq_true rfl) dL_holds_384 rfl (fun H locs hw => ?_)
        refine lv_aload_n hx hb dL_holds_387 rfl (lv_at hl 0 rfl) ?_
        refine lv_iload_n hx hb dL_holds_388 rfl (lv_at hl 2 rfl) ?_
        refine lv_iload_n hx hb dL_holds_389 rfl (lv_at hl 1 rfl) ?_
        obtain ⟨v390, hv390, hf⟩ := ob_e hf
        rcases v390 with t390 | u390
        · replace hf := se_l hf
          exact nn hf
        · replace hf := se_r hf
          refine xcallV (ws' := (wC g h now snap has hist ent res num col)) (st1 := [.int u390, .int u384]) (n := 34) E hw [.int x2, .int x1] [0, 1, 2, 3, 4, 5, 6, 7, 8, 9, 10, 11, 12, 13, 14, 15, 16, 17, 18, 19, 20, 21, 22, 23, 24, 25, 26, 27, 28, 29, 30, 31, 32, 33] (met_X10_compare l g h now snap has hist ent res num col x2 x1 u390 hv390) rfl (by decide) rfl rfl [34, 35, 36, 37, 38, 39, 40, 41, 42, 43, 44, 45, 46, 47, 48, 49, 50, 51, 52, 53, 54, 55, 56, 57, 58, 59, 60, 61, 62, 63, 64, 65, 66, 67] rfl (by decide +kernel) rfl rfl rfl rfl qw667 k_X10_compare ⟨rfl, rfl, Nat.le_of_ble_eq_true rfl, Nat.le_of_ble_eq_true rfl⟩ ⟨Nat.zero_le _, Nat.zero_le _⟩ hl.1 (Nat.le_of_ble_eq_true rfl) dL_holds_390 rfl (fun H locs hw => ?_)
          refine lv_ineg hx hb dL_holds_393 ?_
          refine lv_icmp_ne (tgt := 413) hx hb dL_holds_394 (by decide) (fun c394 => ?_) (fun c394 => ?_)
          · replace hf := iq c394 hf
            exact b413 _ _ _ col x1 hw (lv_sub hl [0, 1] rfl) hf
          · replace hf := ip c394 hf
            refine lv_aload_n hx hb dL_holds_397 rfl (lv_at hl 0 rfl) ?_
            refine lv_aload_n hx hb dL_holds_398 rfl (lv_at hl 0 rfl) ?_
            obtain ⟨v399, hv399, hf⟩ := ob_e hf
            refine xcallV (ws' := (wC g h now snap has hist ent res num col)) (st1 := [.int v399, .ref (h 0)]) (n := 34) E hw [] [0, 1, 2, 3, 4, 5, 6, 7, 8, 9, 10, 11, 12, 13, 14, 15, 16, 17, 18, 19, 20, 21, 22, 23, 24, 25, 26, 27, 28, 29, 30, 31, 32, 33] (met_X10_richest l g h now snap has hist ent res num col v399 hv399) rfl (by decide) rfl rfl [34, 35, 36, 37, 38, 39, 40, 41, 42, 43, 44, 45, 46, 47, 48, 49, 50, 51, 52, 53, 54, 55, 56, 57, 58, 59, 60, 61, 62, 63, 64, 65, 66, 67] rfl (by decide +kernel) rfl rfl rfl rfl qw675 k_X10_richest ⟨rfl, rfl, Nat.le_of_ble_eq_true rfl, Nat.le_of_ble_eq_true rfl⟩ ⟨Nat.zero_le _, Nat.zero_le _⟩ hl.1 (Nat.le_of_ble_eq_true rfl) dL_holds_399 rfl (fun H locs hw => ?_)
            refine lv_iload_n hx hb dL_holds_402 rfl (lv_at hl 1 rfl) ?_
            obtain ⟨v403, hv403, hf⟩ := ob_e hf
            rcases v403 with t403 | u403
            · replace hf := se_l hf
              exact nn hf
            · replace hf := se_r hf
              refine xcallV (ws' := (wC g h now snap has hist ent res num col)) (st1 := [.int u403]) (n := 34) E hw [.int v399, .int x1] [0, 1, 2, 3, 4, 5, 6, 7, 8, 9, 10, 11, 12, 13, 14, 15, 16, 17, 18, 19, 20, 21, 22, 23, 24, 25, 26, 27, 28, 29, 30, 31, 32, 33] (met_X10_compare l g h now snap has hist ent res num col v399 x1 u403 hv403) rfl (by decide) rfl rfl [34, 35, 36, 37, 38, 39, 40, 41, 42, 43, 44, 45, 46, 47, 48, 49, 50, 51, 52, 53, 54, 55, 56, 57, 58, 59, 60, 61, 62, 63, 64, 65, 66, 67] rfl (by decide +kernel) rfl rfl rfl rfl qw667 k_X10_compare ⟨rfl, rfl, Nat.le_of_ble_eq_true rfl, Nat.le_of_ble_eq_true rfl⟩ ⟨Nat.zero_le _, Nat.zero_le _⟩ hl.1 (Nat.le_of_ble_eq_true rfl) dL_holds_403 rfl (fun H locs hw => ?_)
              refine lv_if_lt (tgt := 413) hx hb dL_holds_406 (by decide) (fun c406 => ?_) (fun c406 => ?_)
              · replace hf := ip c406 hf
                exact b413 _ _ _ col x1 hw (lv_sub hl [0, 1] rfl) hf
              · replace hf := iq c406 hf
                refine lv_iconst (v := 1) hx hb dL_holds_409 (by decide) ?_
                refine lv_goto (tgt := 414) hx hb dL_holds_410 (by decide) ?_
                exact b414 _ _ _ col x1 1 hw (lv_sub hl [0, 1] rfl) hf
  have b368 : ∀ (H : Heap) (locs : List Loc) (ls : Array Slot) (col : CC) (x1 : Int32) (x2 : Int32) (x12 : Int32) (t0 : Int32), xW g A s.heap (wC g h now snap has hist ent res num col) H locs → lv_has ls 13 [(0, .ref (h 0)), (1, .int x1), (2, .int x2), (12, .int x12)] → f_L_holds_b368 now col x1 x2 x12 t0 = some out → W p l e { frames := 5, cells := 0, slots := 0, locals := 131 } s m [.ref (h 0), .int a1, .int a2, .int a3].toArray below meth c H locs 0 0 ZZ (F0 m 368 ls [.int t0]) := by
    intro H locs ls col x1 x2 x12 t0 hw hl hf
    refine lv_iload hx hb dL_holds_368 (lv_at hl 3 rfl) ?_
    refine lv_if_ne (tgt := 377) hx hb dL_holds_370 (by decide) (fun c370 => ?_) (fun c370 => ?_)
    · replace hf := iq c370 hf
      refine lv_iconst (v := 0) hx hb dL_holds_377 (by decide) ?_
      exact b378 _ _ _ col x1 x2 0 t0 hw (lv_sub hl [0, 1, 2] rfl) hf
    · replace hf := ip c370 hf
      refine lv_iconst (v := 1) hx hb dL_holds_373 (by decide) ?_
      refine lv_goto (tgt := 378) hx hb dL_holds_374 (by decide) ?_
      exact b378 _ _ _ col x1 x2 1 t0 hw (lv_sub hl [0, 1, 2] rfl) hf
  have b305 : ∀ (H : Heap) (locs : List Loc) (ls : Array Slot) (col : CC) (x1 : Int32) (x2 : Int32) (t0 : Int32), xW g A s.heap (wC g h now snap has hist ent res num col) H locs → lv_has ls 13 [(0, .ref (h 0)), (1, .int x1), (2, .int x2)] → f_L_holds_b305 now col x1 x2 t0 = some out → W p l e { frames := 5, cells := 0, slots := 0, locals := 131 } s m [.ref (h 0), .int a1, .int a2, .int a3].toArray below meth c H locs 0 0 ZZ (F0 m 305 ls [.int t0]) := by
    intro H locs ls col x1 x2 t0 hw hl hf
    refine lv_istore (lv' := [(11, .int t0), (0, .ref (h 0)), (1, .int x1), (2, .int x2)]) hx hb dL_holds_305 hl (by decide) rfl (fun ls hl => ?_)
    refine lv_aload_n hx hb dL_holds_307 rfl (lv_at hl 1 rfl) ?_
    refine lv_iload_n hx hb dL_holds_308 rfl (lv_at hl 2 rfl) ?_
    refine lv_iload_n hx hb dL_holds_309 rfl (lv_at hl 3 rfl) ?_
    obtain ⟨v310, hv310, hf⟩ := ob_e hf
    rcases v310 with t310 | u310
    · replace hf := se_l hf
      exact nn hf
    · replace hf := se_r hf
      refine xcallV (ws' := (wC g h now snap has hist ent res num u310.2)) (st1 := [.int u310.1]) (n := 34) E hw [.int x1, .int x2] [0, 1, 2, 3, 4, 5, 6, 7, 8, 9, 10, 11, 12, 13, 14, 15, 16, 17, 18, 19, 20, 21, 22, 23, 24, 25, 26, 27, 28, 29, 30, 31, 32, 33] (met_X10_carries l g h now snap has hist ent res num col x1 x2 u310 hv310) rfl (by decide) rfl rfl [34, 35, 36, 37, 38, 39, 40, 41, 42, 43, 44, 45, 46, 47, 48, 49, 50, 51, 52, 53, 54, 55, 56, 57, 58, 59, 60, 61, 62, 63, 64, 65, 66, 67] rfl (by decide +kernel) rfl rfl rfl rfl qw635 k_X10_carries ⟨rfl, rfl, Nat.le_of_ble_eq_true rfl, Nat.le_of_ble_eq_true rfl⟩ ⟨Nat.zero_le _, Nat.zero_le _⟩ hl.1 (Nat.le_of_ble_eq_true rfl) dL_holds_310 rfl (fun H locs hw => ?_)
      refine lv_istore (lv' := [(12, .int u310.1), (11, .int t0), (0, .ref (h 0)), (1, .int x1), (2, .int x2)]) hx hb dL_holds_313 hl (by decide) rfl (fun ls hl => ?_)
      refine lv_iload hx hb dL_holds_315 (lv_at hl 1 rfl) ?_
      refine lv_if_eq (tgt := 413) hx hb dL_holds_317 (by decide) (fun c317 => ?_) (fun c317 => ?_)
      · replace hf := ip c317 hf
        exact b413 _ _ _ u310.2 x1 hw (lv_sub hl [2, 3] rfl) hf
      · replace hf := iq c317 hf
        refine lv_aload_n hx hb dL_holds_320 rfl (lv_at hl 2 rfl) ?_
        refine lv_iload_n hx hb dL_holds_321 rfl (lv_at hl 3 rfl) ?_
        refine lv_iload_n hx hb dL_holds_322 rfl (lv_at hl 4 rfl) ?_
        obtain ⟨v323, hv323, hf⟩ := ob_e hf
        rcases v323 with t323 | u323
        · replace hf := se_l hf
          exact nn hf
        · replace hf := se_r hf
          refine xcallV (ws' := (wC g h now snap has hist ent res num u323.2)) (st1 := [.long u323.1]) (n := 34) E hw [.int x1, .int x2] [0, 1, 2, 3, 4, 5, 6, 7, 8, 9, 10, 11, 12, 13, 14, 15, 16, 17, 18, 19, 20, 21, 22, 23, 24, 25, 26, 27, 28, 29, 30, 31, 32, 33] (met_X10_sumByColumns l g h now snap has hist ent res num u310.2 x1 x2 u323 hv323) rfl (by decide) rfl rfl [34, 35, 36, 37, 38, 39, 40, 41, 42, 43, 44, 45, 46, 47, 48, 49, 50, 51, 52, 53, 54, 55, 56, 57, 58, 59, 60, 61, 62, 63, 64, 65, 66, 67] rfl (by decide +kernel) rfl rfl rfl rfl qw651 k_X10_sumByColumns ⟨rfl, rfl, Nat.le_of_ble_eq_true rfl, Nat.le_of_ble_eq_true rfl⟩ ⟨Nat.zero_le _, Nat.zero_le _⟩ hl.1 (Nat.le_of_ble_eq_true rfl) dL_holds_323 rfl (fun H locs hw => ?_)
          refine lv_aload_n hx hb dL_holds_326 rfl (lv_at hl 2 rfl) ?_
          refine lv_iload_n hx hb dL_holds_327 rfl (lv_at hl 3 rfl) ?_
          obtain ⟨v328, hv328, hf⟩ := ob_e hf
          rcases v328 with t328 | u328
          · replace hf := se_l hf
            exact nn hf
          · replace hf := se_r hf
            refine xcallV (ws' := (wC g h now snap has hist ent res num u323.2)) (st1 := [.int u328, .long u323.1]) (n := 34) E hw [.int x1] [0, 1, 2, 3, 4, 5, 6, 7, 8, 9, 10, 11, 12, 13, 14, 15, 16, 17, 18, 19, 20, 21, 22, 23, 24, 25, 26, 27, 28, 29, 30, 31, 32, 33] (met_X10_whole l g h now snap has hist ent res num u323.2 x1 u328 hv328) rfl (by decide) rfl rfl [34, 35, 36, 37, 38, 39, 40, 41, 42, 43, 44, 45, 46, 47, 48, 49, 50, 51, 52, 53, 54, 55, 56, 57, 58, 59, 60, 61, 62, 63, 64, 65, 66, 67] rfl (by decide +kernel) rfl rfl rfl rfl qw546 k_X10_whole ⟨rfl, rfl, Nat.le_of_ble_eq_true rfl, Nat.le_of_ble_eq_true rfl⟩ ⟨Nat.zero_le _, Nat.zero_le _⟩ hl.1 (Nat.le_of_ble_eq_true rfl) dL_holds_328 rfl (fun H locs hw => ?_)
            refine lv_i2l hx hb dL_holds_331 rfl ?_
            refine lv_aload_n hx hb dL_holds_332 rfl (lv_at hl 2 rfl) ?_
            refine lv_iload_n hx hb dL_holds_333 rfl (lv_at hl 4 rfl) ?_
            obtain ⟨v334, hv334, hf⟩ := ob_e hf
            rcases v334 with t334 | u334
            · replace hf := se_l hf
              exact nn hf
            · replace hf := se_r hf
              refine xcallV (ws' := (wC g h now snap has hist ent res num u323.2)) (st1 := [.int u334, .long u328.toInt64, .long u323.1]) (n := 34) E hw [.int x2] [0, 1, 2, 3, 4, 5, 6, 7, 8, 9, 10, 11, 12, 13, 14, 15, 16, 17, 18, 19, 20, 21, 22, 23, 24, 25, 26, 27, 28, 29, 30, 31, 32, 33] (met_X10_whole l g h now snap has hist ent res num u323.2 x2 u334 hv334) rfl (by decide) rfl rfl [34, 35, 36, 37, 38, 39, 40, 41, 42, 43, 44, 45, 46, 47, 48, 49, 50, 51, 52, 53, 54, 55, 56, 57, 58, 59, 60, 61, 62, 63, 64, 65, 66, 67] rfl (by decide +kernel) rfl rfl rfl rfl qw546 k_X10_whole ⟨rfl, rfl, Nat.le_of_ble_eq_true rfl, Nat.le_of_ble_eq_true rfl⟩ ⟨Nat.zero_le _, Nat.zero_le _⟩ hl.1 (Nat.le_of_ble_eq_true rfl) dL_holds_334 rfl (fun H locs hw => ?_)
              refine lv_i2l hx hb dL_holds_337 rfl ?_
              refine lv_ladd hx hb dL_holds_338 ?_
              refine xlc_ne (tgt := 413) hx hb dL_holds_339 dL_holds_340 (by decide) (fun c339 => ?_) (fun c339 => ?_)
              · replace hf := iq c339 hf
                exact b413 _ _ _ u323.2 x1 hw (lv_sub hl [2, 3] rfl) hf
              · replace hf := ip c339 hf
                refine lv_aload_n hx hb dL_holds_343 rfl (lv_at hl 2 rfl) ?_
                refine lv_iload_n hx hb dL_holds_344 rfl (lv_at hl 3 rfl) ?_
                refine lv_iload_n hx hb dL_holds_345 rfl (lv_at hl 4 rfl) ?_
                obtain ⟨v346, hv346, hf⟩ := ob_e hf
                rcases v346 with t346 | u346
                · replace hf := se_l hf
                  exact nn hf
                · replace hf := se_r hf
                  refine xcallV (ws' := (wC g h now snap has hist ent res num u346.2)) (st1 := [.int u346.1]) (n := 34) E hw [.int x1, .int x2] [0, 1, 2, 3, 4, 5, 6, 7, 8, 9, 10, 11, 12, 13, 14, 15, 16, 17, 18, 19, 20, 21, 22, 23, 24, 25, 26, 27, 28, 29, 30, 31, 32, 33] (met_X10_longestChain l g h now snap has hist ent res num u323.2 x1 x2 u346 hv346) rfl (by decide) rfl rfl [34, 35, 36, 37, 38, 39, 40, 41, 42, 43, 44, 45, 46, 47, 48, 49, 50, 51, 52, 53, 54, 55, 56, 57, 58, 59, 60, 61, 62, 63, 64, 65, 66, 67] rfl (by decide +kernel) rfl rfl rfl rfl qw663 k_X10_longestChain ⟨rfl, rfl, Nat.le_of_ble_eq_true rfl, Nat.le_of_ble_eq_true rfl⟩ ⟨Nat.zero_le _, Nat.zero_le _⟩ hl.1 (Nat.le_of_ble_eq_true rfl) dL_holds_346 rfl (fun H locs hw => ?_)
                  refine lv_iload hx hb dL_holds_349 (lv_at hl 0 rfl) ?_
                  refine lv_icmp_gt (tgt := 413) hx hb dL_holds_351 (by decide) (fun c351 => ?_) (fun c351 => ?_)
                  · replace hf := ip c351 hf
                    exact b413 _ _ _ u346.2 x1 hw (lv_sub hl [2, 3] rfl) hf
                  · replace hf := iq c351 hf
                    refine lv_aload_n hx hb dL_holds_354 rfl (lv_at hl 2 rfl) ?_
                    refine lv_iload_n hx hb dL_holds_355 rfl (lv_at hl 3 rfl) ?_
                    refine lv_iload_n hx hb dL_holds_356 rfl (lv_at hl 4 rfl) ?_
                    obtain ⟨v357, hv357, hf⟩ := ob_e hf
                    rcases v357 with t357 | u357
                    · replace hf := se_l hf
                      exact nn hf
                    · replace hf := se_r hf
                      refine xcallV (ws' := (wC g h now snap has hist ent res num u357.2)) (st1 := [.int u357.1]) (n := 34) E hw [.int x1, .int x2] [0, 1, 2, 3, 4, 5, 6, 7, 8, 9, 10, 11, 12, 13, 14, 15, 16, 17, 18, 19, 20, 21, 22, 23, 24, 25, 26, 27, 28, 29, 30, 31, 32, 33] (met_X10_longestChain l g h now snap has hist ent res num u346.2 x1 x2 u357 hv357) rfl (by decide) rfl rfl [34, 35, 36, 37, 38, 39, 40, 41, 42, 43, 44, 45, 46, 47, 48, 49, 50, 51, 52, 53, 54, 55, 56, 57, 58, 59, 60, 61, 62, 63, 64, 65, 66, 67] rfl (by decide +kernel) rfl rfl rfl rfl qw663 k_X10_longestChain ⟨rfl, rfl, Nat.le_of_ble_eq_true rfl, Nat.le_of_ble_eq_true rfl⟩ ⟨Nat.zero_le _, Nat.zero_le _⟩ hl.1 (Nat.le_of_ble_eq_true rfl) dL_holds_357 rfl (fun H locs hw => ?_)
                      refine lv_if_ne (tgt := 367) hx hb dL_holds_360 (by decide) (fun c360 => ?_) (fun c360 => ?_)
                      · replace hf := iq c360 hf
                        refine lv_iconst (v := 0) hx hb dL_holds_367 (by decide) ?_
                        exact b368 _ _ _ u357.2 x1 x2 u310.1 0 hw (lv_sub hl [2, 3, 4, 0] rfl) hf
                      · replace hf := ip c360 hf
                        refine lv_iconst (v := 1) hx hb dL_holds_363 (by decide) ?_
                        refine lv_goto (tgt := 368) hx hb dL_holds_364 (by decide) ?_
                        exact b368 _ _ _ u357.2 x1 x2 u310.1 1 hw (lv_sub hl [2, 3, 4, 0] rfl) hf
  have b304 : ∀ (H : Heap) (locs : List Loc) (ls : Array Slot) (col : CC) (x1 : Int32) (x2 : Int32), xW g A s.heap (wC g h now snap has hist ent res num col) H locs → lv_has ls 13 [(0, .ref (h 0)), (1, .int x1), (2, .int x2)] → f_L_holds_b304 now col x1 x2 = some out → W p l e { frames := 5, cells := 0, slots := 0, locals := 131 } s m [.ref (h 0), .int a1, .int a2, .int a3].toArray below meth c H locs 0 0 ZZ (F0 m 304 ls []) := by
    intro H locs ls col x1 x2 hw hl hf
    refine lv_iconst (v := 0) hx hb dL_holds_304 (by decide) ?_
    exact b305 _ _ _ col x1 x2 0 hw (lv_sub hl [0, 1, 2] rfl) hf
  have b254 : ∀ (H : Heap) (locs : List Loc) (ls : Array Slot) (col : CC) (x1 : Int32) (x2 : Int32) (x3 : Int32) (x9 : Int32) (x10 : Int32) (t0 : Int32) (t1 : Int32), xW g A s.heap (wC g h now snap has hist ent res num col) H locs → lv_has ls 13 [(0, .ref (h 0)), (1, .int x1), (2, .int x2), (3, .int x3), (9, .int x9), (10, .int x10)] → f_L_holds_b254 now col x1 x2 x3 x9 x10 t0 t1 = some out → W p l e { frames := 5, cells := 0, slots := 0, locals := 131 } s m [.ref (h 0), .int a1, .int a2, .int a3].toArray below meth c H locs 0 0 ZZ (F0 m 254 ls [.int t0, .int t1]) := by
    intro H locs ls col x1 x2 x3 x9 x10 t0 t1 hw hl hf
    refine lv_icmp_ne (tgt := 304) hx hb dL_holds_254 (by decide) (fun c254 => ?_) (fun c254 => ?_)
    · replace hf := iq c254 hf
      exact b304 _ _ _ col x1 x2 hw (lv_sub hl [0, 1, 2] rfl) hf
    · replace hf := ip c254 hf
      refine lv_aload_n hx hb dL_holds_257 rfl (lv_at hl 0 rfl) ?_
      refine lv_iload_n hx hb dL_holds_258 rfl (lv_at hl 1 rfl) ?_
      refine lv_iload hx hb dL_holds_259 (lv_at hl 4 rfl) ?_
      refine lv_iload_n hx hb dL_holds_261 rfl (lv_at hl 3 rfl) ?_
      refine lv_iadd hx hb dL_holds_262 ?_
      obtain ⟨v263, hv263, hf⟩ := ob_e hf
      rcases v263 with t263 | u263
      · replace hf := se_l hf
        exact nn hf
      · replace hf := se_r hf
        refine xcallV (ws' := (wC g h now snap has hist ent res num col)) (st1 := [.int u263]) (n := 34) E hw [.int x1, .int (x9 + x3)] [0, 1, 2, 3, 4, 5, 6, 7, 8, 9, 10, 11, 12, 13, 14, 15, 16, 17, 18, 19, 20, 21, 22, 23, 24, 25, 26, 27, 28, 29, 30, 31, 32, 33] (met_X10_digitBehind l g h now snap has hist ent res num col x1 (x9 + x3) u263 hv263) rfl (by decide) rfl rfl [34, 35, 36, 37, 38, 39, 40, 41, 42, 43, 44, 45, 46, 47, 48, 49, 50, 51, 52, 53, 54, 55, 56, 57, 58, 59, 60, 61, 62, 63, 64, 65, 66, 67] rfl (by decide +kernel) rfl rfl rfl rfl qw626 k_X10_digitBehind ⟨rfl, rfl, Nat.le_of_ble_eq_true rfl, Nat.le_of_ble_eq_true rfl⟩ ⟨Nat.zero_le _, Nat.zero_le _⟩ hl.1 (Nat.le_of_ble_eq_true rfl) dL_holds_263 rfl (fun H locs hw => ?_)
        refine lv_aload_n hx hb dL_holds_266 rfl (lv_at hl 0 rfl) ?_
        refine lv_iload_n hx hb dL_holds_267 rfl (lv_at hl 1 rfl) ?_
        refine lv_iload hx hb dL_holds_268 (lv_at hl 4 rfl) ?_
        refine lv_iload_n hx hb dL_holds_270 rfl (lv_at hl 3 rfl) ?_
        refine lv_iadd hx hb dL_holds_271 ?_
        refine lv_iload hx hb dL_holds_272 (lv_at hl 5 rfl) ?_
        refine lv_iadd hx hb dL_holds_274 ?_
        obtain ⟨v275, hv275, hf⟩ := ob_e hf
        rcases v275 with t275 | u275
        · replace hf := se_l hf
          exact nn hf
        · replace hf := se_r hf
          refine xcallV (ws' := (wC g h now snap has hist ent res num col)) (st1 := [.int u275, .int u263]) (n := 34) E hw [.int x1, .int ((x9 + x3) + x10)] [0, 1, 2, 3, 4, 5, 6, 7, 8, 9, 10, 11, 12, 13, 14, 15, 16, 17, 18, 19, 20, 21, 22, 23, 24, 25, 26, 27, 28, 29, 30, 31, 32, 33] (met_X10_digitBehind l g h now snap has hist ent res num col x1 ((x9 + x3) + x10) u275 hv275) rfl (by decide) rfl rfl [34, 35, 36, 37, 38, 39, 40, 41, 42, 43, 44, 45, 46, 47, 48, 49, 50, 51, 52, 53, 54, 55, 56, 57, 58, 59, 60, 61, 62, 63, 64, 65, 66, 67] rfl (by decide +kernel) rfl rfl rfl rfl qw626 k_X10_digitBehind ⟨rfl, rfl, Nat.le_of_ble_eq_true rfl, Nat.le_of_ble_eq_true rfl⟩ ⟨Nat.zero_le _, Nat.zero_le _⟩ hl.1 (Nat.le_of_ble_eq_true rfl) dL_holds_275 rfl (fun H locs hw => ?_)
          refine lv_icmp_ne (tgt := 304) hx hb dL_holds_278 (by decide) (fun c278 => ?_) (fun c278 => ?_)
          · replace hf := iq c278 hf
            exact b304 _ _ _ col x1 x2 hw (lv_sub hl [0, 1, 2] rfl) hf
          · replace hf := ip c278 hf
            refine lv_aload_n hx hb dL_holds_281 rfl (lv_at hl 0 rfl) ?_
            refine lv_iload_n hx hb dL_holds_282 rfl (lv_at hl 1 rfl) ?_
            obtain ⟨v283, hv283, hf⟩ := ob_e hf
            rcases v283 with t283 | u283
            · replace hf := se_l hf
              exact nn hf
            · replace hf := se_r hf
              refine xcallV (ws' := (wC g h now snap has hist ent res num col)) (st1 := [.int u283]) (n := 34) E hw [.int x1] [0, 1, 2, 3, 4, 5, 6, 7, 8, 9, 10, 11, 12, 13, 14, 15, 16, 17, 18, 19, 20, 21, 22, 23, 24, 25, 26, 27, 28, 29, 30, 31, 32, 33] (met_X10_shortestBase l g h now snap has hist ent res num col x1 u283 hv283) rfl (by decide) rfl rfl [34, 35, 36, 37, 38, 39, 40, 41, 42, 43, 44, 45, 46, 47, 48, 49, 50, 51, 52, 53, 54, 55, 56, 57, 58, 59, 60, 61, 62, 63, 64, 65, 66, 67] rfl (by decide +kernel) rfl rfl rfl rfl qw631 k_X10_shortestBase ⟨rfl, rfl, Nat.le_of_ble_eq_true rfl, Nat.le_of_ble_eq_true rfl⟩ ⟨Nat.zero_le _, Nat.zero_le _⟩ hl.1 (Nat.le_of_ble_eq_true rfl) dL_holds_283 rfl (fun H locs hw => ?_)
              refine lv_iconst (v := 2) hx hb dL_holds_286 (by decide) ?_
              refine lv_icmp_lt (tgt := 304) hx hb dL_holds_287 (by decide) (fun c287 => ?_) (fun c287 => ?_)
              · replace hf := ip c287 hf
                exact b304 _ _ _ col x1 x2 hw (lv_sub hl [0, 1, 2] rfl) hf
              · replace hf := iq c287 hf
                refine lv_aload_n hx hb dL_holds_290 rfl (lv_at hl 0 rfl) ?_
                refine lv_iload_n hx hb dL_holds_291 rfl (lv_at hl 1 rfl) ?_
                obtain ⟨v292, hv292, hf⟩ := ob_e hf
                rcases v292 with t292 | u292
                · replace hf := se_l hf
                  exact nn hf
                · replace hf := se_r hf
                  refine xcallV (ws' := (wC g h now snap has hist ent res num col)) (st1 := [.int u292]) (n := 34) E hw [.int x1] [0, 1, 2, 3, 4, 5, 6, 7, 8, 9, 10, 11, 12, 13, 14, 15, 16, 17, 18, 19, 20, 21, 22, 23, 24, 25, 26, 27, 28, 29, 30, 31, 32, 33] (met_X10_shortestBase l g h now snap has hist ent res num col x1 u292 hv292) rfl (by decide) rfl rfl [34, 35, 36, 37, 38, 39, 40, 41, 42, 43, 44, 45, 46, 47, 48, 49, 50, 51, 52, 53, 54, 55, 56, 57, 58, 59, 60, 61, 62, 63, 64, 65, 66, 67] rfl (by decide +kernel) rfl rfl rfl rfl qw631 k_X10_shortestBase ⟨rfl, rfl, Nat.le_of_ble_eq_true rfl, Nat.le_of_ble_eq_true rfl⟩ ⟨Nat.zero_le _, Nat.zero_le _⟩ hl.1 (Nat.le_of_ble_eq_true rfl) dL_holds_292 rfl (fun H locs hw => ?_)
                  refine lv_bipush (v := 16) hx hb dL_holds_295 (by decide) ?_
                  refine lv_icmp_gt (tgt := 304) hx hb dL_holds_297 (by decide) (fun c297 => ?_) (fun c297 => ?_)
                  · replace hf := ip c297 hf
                    exact b304 _ _ _ col x1 x2 hw (lv_sub hl [0, 1, 2] rfl) hf
                  · replace hf := iq c297 hf
                    refine lv_iconst (v := 1) hx hb dL_holds_300 (by decide) ?_
                    refine lv_goto (tgt := 305) hx hb dL_holds_301 (by decide) ?_
                    exact b305 _ _ _ col x1 x2 1 hw (lv_sub hl [0, 1, 2] rfl) hf
  have b253 : ∀ (H : Heap) (locs : List Loc) (ls : Array Slot) (col : CC) (x1 : Int32) (x2 : Int32) (x3 : Int32) (x9 : Int32) (x10 : Int32) (t0 : Int32) (t1 : Int32) (t2 : Int32), xW g A s.heap (wC g h now snap has hist ent res num col) H locs → lv_has ls 13 [(0, .ref (h 0)), (1, .int x1), (2, .int x2), (3, .int x3), (9, .int x9), (10, .int x10)] → f_L_holds_b253 now col x1 x2 x3 x9 x10 t0 t1 t2 = some out → W p l e { frames := 5, cells := 0, slots := 0, locals := 131 } s m [.ref (h 0), .int a1, .int a2, .int a3].toArray below meth c H locs 0 0 ZZ (F0 m 253 ls [.int t0, .int t1, .int t2]) := by
    intro H locs ls col x1 x2 x3 x9 x10 t0 t1 t2 hw hl hf
    refine lv_iadd hx hb dL_holds_253 ?_
    exact b254 _ _ _ col x1 x2 x3 x9 x10 (t1 + t0) t2 hw (lv_sub hl [0, 1, 2, 3, 4, 5] rfl) hf
  have b207 : ∀ (H : Heap) (locs : List Loc) (ls : Array Slot) (col : CC) (x1 : Int32) (x2 : Int32) (x3 : Int32) (x5 : Int32) (x9 : Int32) (x10 : Int32) (t0 : Int32), xW g A s.heap (wC g h now snap has hist ent res num col) H locs → lv_has ls 13 [(0, .ref (h 0)), (1, .int x1), (2, .int x2), (3, .int x3), (5, .int x5), (9, .int x9), (10, .int x10)] → f_L_holds_b207 now col x1 x2 x3 x5 x9 x10 t0 = some out → W p l e { frames := 5, cells := 0, slots := 0, locals := 131 } s m [.ref (h 0), .int a1, .int a2, .int a3].toArray below meth c H locs 0 0 ZZ (F0 m 207 ls [.int t0]) := by
    intro H locs ls col x1 x2 x3 x5 x9 x10 t0 hw hl hf
    refine lv_istore (lv' := [(11, .int t0), (0, .ref (h 0)), (1, .int x1), (2, .int x2), (3, .int x3), (5, .int x5), (9, .int x9), (10, .int x10)]) hx hb dL_holds_207 hl (by decide) rfl (fun ls hl => ?_)
    refine lv_iload hx hb dL_holds_209 (lv_at hl 0 rfl) ?_
    refine lv_if_eq (tgt := 304) hx hb dL_holds_211 (by decide) (fun c211 => ?_) (fun c211 => ?_)
    · replace hf := ip c211 hf
      exact b304 _ _ _ col x1 x2 hw (lv_sub hl [1, 2, 3] rfl) hf
    · replace hf := iq c211 hf
      refine lv_aload_n hx hb dL_holds_214 rfl (lv_at hl 1 rfl) ?_
      refine lv_iload_n hx hb dL_holds_215 rfl (lv_at hl 2 rfl) ?_
      obtain ⟨v216, hv216, hf⟩ := ob_e hf
      rcases v216 with t216 | u216
      · replace hf := se_l hf
        exact nn hf
      · replace hf := se_r hf
        refine xcallV (ws' := (wC g h now snap has hist ent res num col)) (st1 := [.int u216]) (n := 34) E hw [.int x1] [0, 1, 2, 3, 4, 5, 6, 7, 8, 9, 10, 11, 12, 13, 14, 15, 16, 17, 18, 19, 20, 21, 22, 23, 24, 25, 26, 27, 28, 29, 30, 31, 32, 33] (met_X10_writtenLength l g h now snap has hist ent res num col x1 u216 hv216) rfl (by decide) rfl rfl [34, 35, 36, 37, 38, 39, 40, 41, 42, 43, 44, 45, 46, 47, 48, 49, 50, 51, 52, 53, 54, 55, 56, 57, 58, 59, 60, 61, 62, 63, 64, 65, 66, 67] rfl (by decide +kernel) rfl rfl rfl rfl qw625 k_X10_writtenLength ⟨rfl, rfl, Nat.le_of_ble_eq_true rfl, Nat.le_of_ble_eq_true rfl⟩ ⟨Nat.zero_le _, Nat.zero_le _⟩ hl.1 (Nat.le_of_ble_eq_true rfl) dL_holds_216 rfl (fun H locs hw => ?_)
        refine lv_aload_n hx hb dL_holds_219 rfl (lv_at hl 1 rfl) ?_
        refine lv_iload_n hx hb dL_holds_220 rfl (lv_at hl 2 rfl) ?_
        obtain ⟨v221, hv221, hf⟩ := ob_e hf
        rcases v221 with t221 | u221
        · replace hf := se_l hf
          exact nn hf
        · replace hf := se_r hf
          refine xcallV (ws' := (wC g h now snap has hist ent res num col)) (st1 := [.int u221, .int u216]) (n := 34) E hw [.int x1] [0, 1, 2, 3, 4, 5, 6, 7, 8, 9, 10, 11, 12, 13, 14, 15, 16, 17, 18, 19, 20, 21, 22, 23, 24, 25, 26, 27, 28, 29, 30, 31, 32, 33] (met_X10_denominator l g h now snap has hist ent res num col x1 u221 hv221) rfl (by decide) rfl rfl [34, 35, 36, 37, 38, 39, 40, 41, 42, 43, 44, 45, 46, 47, 48, 49, 50, 51, 52, 53, 54, 55, 56, 57, 58, 59, 60, 61, 62, 63, 64, 65, 66, 67] rfl (by decide +kernel) rfl rfl rfl rfl qw336 k_X10_denominator ⟨rfl, rfl, Nat.le_of_ble_eq_true rfl, Nat.le_of_ble_eq_true rfl⟩ ⟨Nat.zero_le _, Nat.zero_le _⟩ hl.1 (Nat.le_of_ble_eq_true rfl) dL_holds_221 rfl (fun H locs hw => ?_)
          refine lv_iconst (v := 1) hx hb dL_holds_224 (by decide) ?_
          refine lv_icmp_ne (tgt := 233) hx hb dL_holds_225 (by decide) (fun c225 => ?_) (fun c225 => ?_)
          · replace hf := iq c225 hf
            refine lv_iload hx hb dL_holds_233 (lv_at hl 5 rfl) ?_
            refine lv_iconst (v := 1) hx hb dL_holds_235 (by decide) ?_
            refine lv_iadd hx hb dL_holds_236 ?_
            refine lv_iload hx hb dL_holds_237 (lv_at hl 6 rfl) ?_
            refine lv_iadd hx hb dL_holds_239 ?_
            refine lv_iload hx hb dL_holds_240 (lv_at hl 7 rfl) ?_
            refine lv_iadd hx hb dL_holds_242 ?_
            refine lv_iload hx hb dL_holds_243 (lv_at hl 7 rfl) ?_
            refine lv_if_le (tgt := 252) hx hb dL_holds_245 (by decide) (fun c245 => ?_) (fun c245 => ?_)
            · replace hf := ip c245 hf
              refine lv_iconst (v := 0) hx hb dL_holds_252 (by decide) ?_
              exact b253 _ _ _ col x1 x2 x3 x9 x10 0 (((x5 + 1) + x9) + x10) u216 hw (lv_sub hl [1, 2, 3, 4, 6, 7] rfl) hf
            · replace hf := iq c245 hf
              refine lv_iconst (v := 2) hx hb dL_holds_248 (by decide) ?_
              refine lv_goto (tgt := 253) hx hb dL_holds_249 (by decide) ?_
              exact b253 _ _ _ col x1 x2 x3 x9 x10 2 (((x5 + 1) + x9) + x10) u216 hw (lv_sub hl [1, 2, 3, 4, 6, 7] rfl) hf
          · replace hf := ip c225 hf
            refine lv_iload hx hb dL_holds_228 (lv_at hl 5 rfl) ?_
            refine lv_goto (tgt := 254) hx hb dL_holds_230 (by decide) ?_
            exact b254 _ _ _ col x1 x2 x3 x9 x10 x5 u216 hw (lv_sub hl [1, 2, 3, 4, 6, 7] rfl) hf
  have b206 : ∀ (H : Heap) (locs : List Loc) (ls : Array Slot) (col : CC) (x1 : Int32) (x2 : Int32) (x3 : Int32) (x5 : Int32) (x9 : Int32) (x10 : Int32), xW g A s.heap (wC g h now snap has hist ent res num col) H locs → lv_has ls 13 [(0, .ref (h 0)), (1, .int x1), (2, .int x2), (3, .int x3), (5, .int x5), (9, .int x9), (10, .int x10)] → f_L_holds_b206 now col x1 x2 x3 x5 x9 x10 = some out → W p l e { frames := 5, cells := 0, slots := 0, locals := 131 } s m [.ref (h 0), .int a1, .int a2, .int a3].toArray below meth c H locs 0 0 ZZ (F0 m 206 ls []) := by
    intro H locs ls col x1 x2 x3 x5 x9 x10 hw hl hf
    refine lv_iconst (v := 0) hx hb dL_holds_206 (by decide) ?_
    exact b207 _ _ _ col x1 x2 x3 x5 x9 x10 0 hw (lv_sub hl [0, 1, 2, 3, 4, 5, 6] rfl) hf
  have b199 : ∀ (H : Heap) (locs : List Loc) (ls : Array Slot) (col : CC) (x1 : Int32) (x2 : Int32) (x3 : Int32) (x5 : Int32) (x9 : Int32) (x10 : Int32) (t0 : Int32) (t1 : Int32), xW g A s.heap (wC g h now snap has hist ent res num col) H locs → lv_has ls 13 [(0, .ref (h 0)), (1, .int x1), (2, .int x2), (3, .int x3), (5, .int x5), (9, .int x9), (10, .int x10)] → f_L_holds_b199 now col x1 x2 x3 x5 x9 x10 t0 t1 = some out → W p l e { frames := 5, cells := 0, slots := 0, locals := 131 } s m [.ref (h 0), .int a1, .int a2, .int a3].toArray below meth c H locs 0 0 ZZ (F0 m 199 ls [.int t0, .int t1]) := by
    intro H locs ls col x1 x2 x3 x5 x9 x10 t0 t1 hw hl hf
    refine lv_icmp_ne (tgt := 206) hx hb dL_holds_199 (by decide) (fun c199 => ?_) (fun c199 => ?_)
    · replace hf := iq c199 hf
      exact b206 _ _ _ col x1 x2 x3 x5 x9 x10 hw (lv_sub hl [0, 1, 2, 3, 4, 5, 6] rfl) hf
    · replace hf := ip c199 hf
      refine lv_iconst (v := 1) hx hb dL_holds_202 (by decide) ?_
      refine lv_goto (tgt := 207) hx hb dL_holds_203 (by decide) ?_
      exact b207 _ _ _ col x1 x2 x3 x5 x9 x10 1 hw (lv_sub hl [0, 1, 2, 3, 4, 5, 6] rfl) hf
  have b185 : ∀ (H : Heap) (locs : List Loc) (ls : Array Slot) (col : CC) (x1 : Int32) (x2 : Int32) (x3 : Int32) (x5 : Int32) (x9 : Int32) (x10 : Int32) (t0 : Int32), xW g A s.heap (wC g h now snap has hist ent res num col) H locs → lv_has ls 13 [(0, .ref (h 0)), (1, .int x1), (2, .int x2), (3, .int x3), (5, .int x5), (9, .int x9), (10, .int x10)] → f_L_holds_b185 now col x1 x2 x3 x5 x9 x10 t0 = some out → W p l e { frames := 5, cells := 0, slots := 0, locals := 131 } s m [.ref (h 0), .int a1, .int a2, .int a3].toArray below meth c H locs 0 0 ZZ (F0 m 185 ls [.int t0]) := by
    intro H locs ls col x1 x2 x3 x5 x9 x10 t0 hw hl hf
    refine lv_aload_n hx hb dL_holds_185 rfl (lv_at hl 0 rfl) ?_
    refine lv_iload_n hx hb dL_holds_186 rfl (lv_at hl 1 rfl) ?_
    obtain ⟨v187, hv187, hf⟩ := ob_e hf
    rcases v187 with t187 | u187
    · replace hf := se_l hf
      exact nn hf
    · replace hf := se_r hf
      refine xcallV (ws' := (wC g h now snap has hist ent res num col)) (st1 := [.int u187, .int t0]) (n := 34) E hw [.int x1] [0, 1, 2, 3, 4, 5, 6, 7, 8, 9, 10, 11, 12, 13, 14, 15, 16, 17, 18, 19, 20, 21, 22, 23, 24, 25, 26, 27, 28, 29, 30, 31, 32, 33] (met_X10_denominator l g h now snap has hist ent res num col x1 u187 hv187) rfl (by decide) rfl rfl [34, 35, 36, 37, 38, 39, 40, 41, 42, 43, 44, 45, 46, 47, 48, 49, 50, 51, 52, 53, 54, 55, 56, 57, 58, 59, 60, 61, 62, 63, 64, 65, 66, 67] rfl (by decide +kernel) rfl rfl rfl rfl qw336 k_X10_denominator ⟨rfl, rfl, Nat.le_of_ble_eq_true rfl, Nat.le_of_ble_eq_true rfl⟩ ⟨Nat.zero_le _, Nat.zero_le _⟩ hl.1 (Nat.le_of_ble_eq_true rfl) dL_holds_187 rfl (fun H locs hw => ?_)
      refine lv_iconst (v := 1) hx hb dL_holds_190 (by decide) ?_
      refine lv_icmp_ne (tgt := 198) hx hb dL_holds_191 (by decide) (fun c191 => ?_) (fun c191 => ?_)
      · replace hf := iq c191 hf
        refine lv_iconst (v := 0) hx hb dL_holds_198 (by decide) ?_
        exact b199 _ _ _ col x1 x2 x3 x5 x9 x10 0 t0 hw (lv_sub hl [0, 1, 2, 3, 4, 5, 6] rfl) hf
      · replace hf := ip c191 hf
        refine lv_iconst (v := 1) hx hb dL_holds_194 (by decide) ?_
        refine lv_goto (tgt := 199) hx hb dL_holds_195 (by decide) ?_
        exact b199 _ _ _ col x1 x2 x3 x5 x9 x10 1 t0 hw (lv_sub hl [0, 1, 2, 3, 4, 5, 6] rfl) hf
  have b25 : ∀ n25 : Nat, ∀ (H : Heap) (locs : List Loc) (ls : Array Slot) (col : CC) (x1 : Int32) (x2 : Int32) (x3 : Int32) (x4 : Int32) (x5 : Int32) (x6 : Int64) (x8 : Int32) (x9 : Int32), xW g A s.heap (wC g h now snap has hist ent res num col) H locs → lv_has ls 13 [(0, .ref (h 0)), (1, .int x1), (2, .int x2), (3, .int x3), (4, .int x4), (5, .int x5), (6, .long x6), (8, .int x8), (9, .int x9)] → f_L_holds_b25 n25 now col x1 x2 x3 x4 x5 x6 x8 x9 = some out → W p l e { frames := 5, cells := 0, slots := 0, locals := 131 } s m [.ref (h 0), .int a1, .int a2, .int a3].toArray below meth c H locs 0 0 ZZ (F0 m 25 ls []) := by
    intro n25
    induction n25 with
    | zero =>
      intro H locs ls col x1 x2 x3 x4 x5 x6 x8 x9 hw hl hf
      exact nn hf
    | succ n25 ih25 =>
      intro H locs ls col x1 x2 x3 x4 x5 x6 x8 x9 hw hl hf
      refine lv_iload hx hb dL_holds_25 (lv_at hl 8 rfl) ?_
      refine lv_if_lt (tgt := 90) hx hb dL_holds_27 (by decide) (fun c27 => ?_) (fun c27 => ?_)
      · replace hf := ip c27 hf
        refine lv_aload_n hx hb dL_holds_90 rfl (lv_at hl 0 rfl) ?_
        refine lv_iload_n hx hb dL_holds_91 rfl (lv_at hl 1 rfl) ?_
        obtain ⟨v92, hv92, hf⟩ := ob_e hf
        rcases v92 with t92 | u92
        · replace hf := se_l hf
          exact nn hf
        · replace hf := se_r hf
          refine xcallV (ws' := (wC g h now snap has hist ent res num col)) (st1 := [.int u92]) (n := 34) E hw [.int x1] [0, 1, 2, 3, 4, 5, 6, 7, 8, 9, 10, 11, 12, 13, 14, 15, 16, 17, 18, 19, 20, 21, 22, 23, 24, 25, 26, 27, 28, 29, 30, 31, 32, 33] (met_X10_headLength l g h now snap has hist ent res num col x1 u92 hv92) rfl (by decide) rfl rfl [34, 35, 36, 37, 38, 39, 40, 41, 42, 43, 44, 45, 46, 47, 48, 49, 50, 51, 52, 53, 54, 55, 56, 57, 58, 59, 60, 61, 62, 63, 64, 65, 66, 67] rfl (by decide +kernel) rfl rfl rfl rfl qw584 k_X10_headLength ⟨rfl, rfl, Nat.le_of_ble_eq_true rfl, Nat.le_of_ble_eq_true rfl⟩ ⟨Nat.zero_le _, Nat.zero_le _⟩ hl.1 (Nat.le_of_ble_eq_true rfl) dL_holds_92 rfl (fun H locs hw => ?_)
          refine lv_istore (lv' := [(9, .int u92), (0, .ref (h 0)), (1, .int x1), (2, .int x2), (3, .int x3), (4, .int x4), (5, .int x5), (6, .long x6), (8, .int x8)]) hx hb dL_holds_95 hl (by decide) rfl (fun ls hl => ?_)
          refine lv_aload_n hx hb dL_holds_97 rfl (lv_at hl 1 rfl) ?_
          refine lv_iload_n hx hb dL_holds_98 rfl (lv_at hl 2 rfl) ?_
          obtain ⟨v99, hv99, hf⟩ := ob_e hf
          rcases v99 with t99 | u99
          · replace hf := se_l hf
            exact nn hf
          · replace hf := se_r hf
            refine xcallV (ws' := (wC g h now snap has hist ent res num col)) (st1 := [.int u99]) (n := 34) E hw [.int x1] [0, 1, 2, 3, 4, 5, 6, 7, 8, 9, 10, 11, 12, 13, 14, 15, 16, 17, 18, 19, 20, 21, 22, 23, 24, 25, 26, 27, 28, 29, 30, 31, 32, 33] (met_X10_periodLength l g h now snap has hist ent res num col x1 u99 hv99) rfl (by decide) rfl rfl [34, 35, 36, 37, 38, 39, 40, 41, 42, 43, 44, 45, 46, 47, 48, 49, 50, 51, 52, 53, 54, 55, 56, 57, 58, 59, 60, 61, 62, 63, 64, 65, 66, 67] rfl (by decide +kernel) rfl rfl rfl rfl qw588 k_X10_periodLength ⟨rfl, rfl, Nat.le_of_ble_eq_true rfl, Nat.le_of_ble_eq_true rfl⟩ ⟨Nat.zero_le _, Nat.zero_le _⟩ hl.1 (Nat.le_of_ble_eq_true rfl) dL_holds_99 rfl (fun H locs hw => ?_)
            refine lv_istore (lv' := [(10, .int u99), (9, .int u92), (0, .ref (h 0)), (1, .int x1), (2, .int x2), (3, .int x3), (4, .int x4), (5, .int x5), (6, .long x6), (8, .int x8)]) hx hb dL_holds_102 hl (by decide) rfl (fun ls hl => ?_)
            refine lv_lload hx hb dL_holds_104 (lv_at hl 8 rfl) ?_
            refine lv_aload_n hx hb dL_holds_106 rfl (lv_at hl 2 rfl) ?_
            refine lv_iload_n hx hb dL_holds_107 rfl (lv_at hl 3 rfl) ?_
            obtain ⟨v108, hv108, hf⟩ := ob_e hf
            rcases v108 with t108 | u108
            · replace hf := se_l hf
              exact nn hf
            · replace hf := se_r hf
              refine xcallV (ws' := (wC g h now snap has hist ent res num col)) (st1 := [.int u108, .long x6]) (n := 34) E hw [.int x1] [0, 1, 2, 3, 4, 5, 6, 7, 8, 9, 10, 11, 12, 13, 14, 15, 16, 17, 18, 19, 20, 21, 22, 23, 24, 25, 26, 27, 28, 29, 30, 31, 32, 33] (met_X10_whole l g h now snap has hist ent res num col x1 u108 hv108) rfl (by decide) rfl rfl [34, 35, 36, 37, 38, 39, 40, 41, 42, 43, 44, 45, 46, 47, 48, 49, 50, 51, 52, 53, 54, 55, 56, 57, 58, 59, 60, 61, 62, 63, 64, 65, 66, 67] rfl (by decide +kernel) rfl rfl rfl rfl qw546 k_X10_whole ⟨rfl, rfl, Nat.le_of_ble_eq_true rfl, Nat.le_of_ble_eq_true rfl⟩ ⟨Nat.zero_le _, Nat.zero_le _⟩ hl.1 (Nat.le_of_ble_eq_true rfl) dL_holds_108 rfl (fun H locs hw => ?_)
              refine lv_i2l hx hb dL_holds_111 rfl ?_
              refine xlc_ne (tgt := 206) hx hb dL_holds_112 dL_holds_113 (by decide) (fun c112 => ?_) (fun c112 => ?_)
              · replace hf := iq c112 hf
                exact b206 _ _ _ col x1 x2 x3 x5 u92 u99 hw (lv_sub hl [2, 3, 4, 5, 7, 1, 0] rfl) hf
              · replace hf := ip c112 hf
                refine lv_aload_n hx hb dL_holds_116 rfl (lv_at hl 2 rfl) ?_
                refine lv_iload_n hx hb dL_holds_117 rfl (lv_at hl 3 rfl) ?_
                refine lv_iload hx hb dL_holds_118 (lv_at hl 6 rfl) ?_
                obtain ⟨v120, hv120, hf⟩ := ob_e hf
                rcases v120 with t120 | u120
                · replace hf := se_l hf
                  exact nn hf
                · replace hf := se_r hf
                  refine xcallV (ws' := (wC g h now snap has hist ent res num col)) (st1 := [.long u120]) (n := 34) E hw [.int x1, .int x4] [0, 1, 2, 3, 4, 5, 6, 7, 8, 9, 10, 11, 12, 13, 14, 15, 16, 17, 18, 19, 20, 21, 22, 23, 24, 25, 26, 27, 28, 29, 30, 31, 32, 33] (met_X10_readIn l g h now snap has hist ent res num col x1 x4 u120 hv120) rfl (by decide) rfl rfl [34, 35, 36, 37, 38, 39, 40, 41, 42, 43, 44, 45, 46, 47, 48, 49, 50, 51, 52, 53, 54, 55, 56, 57, 58, 59, 60, 61, 62, 63, 64, 65, 66, 67] rfl (by decide +kernel) rfl rfl rfl rfl qw592 k_X10_readIn ⟨rfl, rfl, Nat.le_of_ble_eq_true rfl, Nat.le_of_ble_eq_true rfl⟩ ⟨Nat.zero_le _, Nat.zero_le _⟩ hl.1 (Nat.le_of_ble_eq_true rfl) dL_holds_120 rfl (fun H locs hw => ?_)
                  refine lv_lload hx hb dL_holds_123 (lv_at hl 8 rfl) ?_
                  refine xlc_ne (tgt := 206) hx hb dL_holds_125 dL_holds_126 (by decide) (fun c125 => ?_) (fun c125 => ?_)
                  · replace hf := iq c125 hf
                    exact b206 _ _ _ col x1 x2 x3 x5 u92 u99 hw (lv_sub hl [2, 3, 4, 5, 7, 1, 0] rfl) hf
                  · replace hf := ip c125 hf
                    refine lv_iload hx hb dL_holds_129 (lv_at hl 9 rfl) ?_
                    refine lv_aload_n hx hb dL_holds_131 rfl (lv_at hl 2 rfl) ?_
                    refine lv_iload_n hx hb dL_holds_132 rfl (lv_at hl 3 rfl) ?_
                    obtain ⟨v133, hv133, hf⟩ := ob_e hf
                    rcases v133 with t133 | u133
                    · replace hf := se_l hf
                      exact nn hf
                    · replace hf := se_r hf
                      refine xcallV (ws' := (wC g h now snap has hist ent res num col)) (st1 := [.int u133, .int x8]) (n := 34) E hw [.int x1] [0, 1, 2, 3, 4, 5, 6, 7, 8, 9, 10, 11, 12, 13, 14, 15, 16, 17, 18, 19, 20, 21, 22, 23, 24, 25, 26, 27, 28, 29, 30, 31, 32, 33] (met_X10_digitSum l g h now snap has hist ent res num col x1 u133 hv133) rfl (by decide) rfl rfl [34, 35, 36, 37, 38, 39, 40, 41, 42, 43, 44, 45, 46, 47, 48, 49, 50, 51, 52, 53, 54, 55, 56, 57, 58, 59, 60, 61, 62, 63, 64, 65, 66, 67] rfl (by decide +kernel) rfl rfl rfl rfl qw598 k_X10_digitSum ⟨rfl, rfl, Nat.le_of_ble_eq_true rfl, Nat.le_of_ble_eq_true rfl⟩ ⟨Nat.zero_le _, Nat.zero_le _⟩ hl.1 (Nat.le_of_ble_eq_true rfl) dL_holds_133 rfl (fun H locs hw => ?_)
                      refine lv_icmp_ne (tgt := 206) hx hb dL_holds_136 (by decide) (fun c136 => ?_) (fun c136 => ?_)
                      · replace hf := iq c136 hf
                        exact b206 _ _ _ col x1 x2 x3 x5 u92 u99 hw (lv_sub hl [2, 3, 4, 5, 7, 1, 0] rfl) hf
                      · replace hf := ip c136 hf
                        refine lv_aload_n hx hb dL_holds_139 rfl (lv_at hl 2 rfl) ?_
                        refine lv_iload_n hx hb dL_holds_140 rfl (lv_at hl 3 rfl) ?_
                        obtain ⟨v141, hv141, hf⟩ := ob_e hf
                        rcases v141 with t141 | u141
                        · replace hf := se_l hf
                          exact nn hf
                        · replace hf := se_r hf
                          refine xcallV (ws' := (wC g h now snap has hist ent res num col)) (st1 := [.int u141]) (n := 34) E hw [.int x1] [0, 1, 2, 3, 4, 5, 6, 7, 8, 9, 10, 11, 12, 13, 14, 15, 16, 17, 18, 19, 20, 21, 22, 23, 24, 25, 26, 27, 28, 29, 30, 31, 32, 33] (met_X10_leftByDigits l g h now snap has hist ent res num col x1 u141 hv141) rfl (by decide) rfl rfl [34, 35, 36, 37, 38, 39, 40, 41, 42, 43, 44, 45, 46, 47, 48, 49, 50, 51, 52, 53, 54, 55, 56, 57, 58, 59, 60, 61, 62, 63, 64, 65, 66, 67] rfl (by decide +kernel) rfl rfl rfl rfl qw605 k_X10_leftByDigits ⟨rfl, rfl, Nat.le_of_ble_eq_true rfl, Nat.le_of_ble_eq_true rfl⟩ ⟨Nat.zero_le _, Nat.zero_le _⟩ hl.1 (Nat.le_of_ble_eq_true rfl) dL_holds_141 rfl (fun H locs hw => ?_)
                          refine lv_aload_n hx hb dL_holds_144 rfl (lv_at hl 2 rfl) ?_
                          refine lv_iload_n hx hb dL_holds_145 rfl (lv_at hl 3 rfl) ?_
                          obtain ⟨v146, hv146, hf⟩ := ob_e hf
                          rcases v146 with t146 | u146
                          · replace hf := se_l hf
                            exact nn hf
                          · replace hf := se_r hf
                            refine xcallV (ws' := (wC g h now snap has hist ent res num col)) (st1 := [.int u146, .int u141]) (n := 34) E hw [.int x1] [0, 1, 2, 3, 4, 5, 6, 7, 8, 9, 10, 11, 12, 13, 14, 15, 16, 17, 18, 19, 20, 21, 22, 23, 24, 25, 26, 27, 28, 29, 30, 31, 32, 33] (met_X10_leftByDividing l g h now snap has hist ent res num col x1 u146 hv146) rfl (by decide) rfl rfl [34, 35, 36, 37, 38, 39, 40, 41, 42, 43, 44, 45, 46, 47, 48, 49, 50, 51, 52, 53, 54, 55, 56, 57, 58, 59, 60, 61, 62, 63, 64, 65, 66, 67] rfl (by decide +kernel) rfl rfl rfl rfl qw610 k_X10_leftByDividing ⟨rfl, rfl, Nat.le_of_ble_eq_true rfl, Nat.le_of_ble_eq_true rfl⟩ ⟨Nat.zero_le _, Nat.zero_le _⟩ hl.1 (Nat.le_of_ble_eq_true rfl) dL_holds_146 rfl (fun H locs hw => ?_)
                            refine lv_icmp_ne (tgt := 206) hx hb dL_holds_149 (by decide) (fun c149 => ?_) (fun c149 => ?_)
                            · replace hf := iq c149 hf
                              exact b206 _ _ _ col x1 x2 x3 x5 u92 u99 hw (lv_sub hl [2, 3, 4, 5, 7, 1, 0] rfl) hf
                            · replace hf := ip c149 hf
                              refine lv_iload hx hb dL_holds_152 (lv_at hl 0 rfl) ?_
                              refine lv_aload_n hx hb dL_holds_154 rfl (lv_at hl 2 rfl) ?_
                              refine lv_iload_n hx hb dL_holds_155 rfl (lv_at hl 3 rfl) ?_
                              obtain ⟨v156, hv156, hf⟩ := ob_e hf
                              rcases v156 with t156 | u156
                              · replace hf := se_l hf
                                exact nn hf
                              · replace hf := se_r hf
                                refine xcallV (ws' := (wC g h now snap has hist ent res num col)) (st1 := [.int u156, .int u99]) (n := 34) E hw [.int x1] [0, 1, 2, 3, 4, 5, 6, 7, 8, 9, 10, 11, 12, 13, 14, 15, 16, 17, 18, 19, 20, 21, 22, 23, 24, 25, 26, 27, 28, 29, 30, 31, 32, 33] (met_X10_periodByOrder l g h now snap has hist ent res num col x1 u156 hv156) rfl (by decide) rfl rfl [34, 35, 36, 37, 38, 39, 40, 41, 42, 43, 44, 45, 46, 47, 48, 49, 50, 51, 52, 53, 54, 55, 56, 57, 58, 59, 60, 61, 62, 63, 64, 65, 66, 67] rfl (by decide +kernel) rfl rfl rfl rfl qw614 k_X10_periodByOrder ⟨rfl, rfl, Nat.le_of_ble_eq_true rfl, Nat.le_of_ble_eq_true rfl⟩ ⟨Nat.zero_le _, Nat.zero_le _⟩ hl.1 (Nat.le_of_ble_eq_true rfl) dL_holds_156 rfl (fun H locs hw => ?_)
                                refine lv_icmp_ne (tgt := 206) hx hb dL_holds_159 (by decide) (fun c159 => ?_) (fun c159 => ?_)
                                · replace hf := iq c159 hf
                                  exact b206 _ _ _ col x1 x2 x3 x5 u92 u99 hw (lv_sub hl [2, 3, 4, 5, 7, 1, 0] rfl) hf
                                · replace hf := ip c159 hf
                                  refine lv_iload hx hb dL_holds_162 (lv_at hl 0 rfl) ?_
                                  refine lv_aload_n hx hb dL_holds_164 rfl (lv_at hl 2 rfl) ?_
                                  refine lv_iload_n hx hb dL_holds_165 rfl (lv_at hl 3 rfl) ?_
                                  obtain ⟨v166, hv166, hf⟩ := ob_e hf
                                  rcases v166 with t166 | u166
                                  · replace hf := se_l hf
                                    exact nn hf
                                  · replace hf := se_r hf
                                    refine xcallV (ws' := (wC g h now snap has hist ent res num col)) (st1 := [.int u166, .int u99]) (n := 34) E hw [.int x1] [0, 1, 2, 3, 4, 5, 6, 7, 8, 9, 10, 11, 12, 13, 14, 15, 16, 17, 18, 19, 20, 21, 22, 23, 24, 25, 26, 27, 28, 29, 30, 31, 32, 33] (met_X10_denominator l g h now snap has hist ent res num col x1 u166 hv166) rfl (by decide) rfl rfl [34, 35, 36, 37, 38, 39, 40, 41, 42, 43, 44, 45, 46, 47, 48, 49, 50, 51, 52, 53, 54, 55, 56, 57, 58, 59, 60, 61, 62, 63, 64, 65, 66, 67] rfl (by decide +kernel) rfl rfl rfl rfl qw336 k_X10_denominator ⟨rfl, rfl, Nat.le_of_ble_eq_true rfl, Nat.le_of_ble_eq_true rfl⟩ ⟨Nat.zero_le _, Nat.zero_le _⟩ hl.1 (Nat.le_of_ble_eq_true rfl) dL_holds_166 rfl (fun H locs hw => ?_)
                                    refine lv_icmp_ge (tgt := 206) hx hb dL_holds_169 (by decide) (fun c169 => ?_) (fun c169 => ?_)
                                    · replace hf := ip c169 hf
                                      exact b206 _ _ _ col x1 x2 x3 x5 u92 u99 hw (lv_sub hl [2, 3, 4, 5, 7, 1, 0] rfl) hf
                                    · replace hf := iq c169 hf
                                      refine lv_iload hx hb dL_holds_172 (lv_at hl 1 rfl) ?_
                                      refine lv_iload hx hb dL_holds_174 (lv_at hl 0 rfl) ?_
                                      refine lv_iadd hx hb dL_holds_176 ?_
                                      refine lv_if_ne (tgt := 184) hx hb dL_holds_177 (by decide) (fun c177 => ?_) (fun c177 => ?_)
                                      · replace hf := iq c177 hf
                                        refine lv_iconst (v := 0) hx hb dL_holds_184 (by decide) ?_
                                        exact b185 _ _ _ col x1 x2 x3 x5 u92 u99 0 hw (lv_sub hl [2, 3, 4, 5, 7, 1, 0] rfl) hf
                                      · replace hf := ip c177 hf
                                        refine lv_iconst (v := 1) hx hb dL_holds_180 (by decide) ?_
                                        refine lv_goto (tgt := 185) hx hb dL_holds_181 (by decide) ?_
                                        exact b185 _ _ _ col x1 x2 x3 x5 u92 u99 1 hw (lv_sub hl [2, 3, 4, 5, 7, 1, 0] rfl) hf
      · replace hf := iq c27 hf
        refine lv_aload_n hx hb dL_holds_30 rfl (lv_at hl 0 rfl) ?_
        refine lv_iload_n hx hb dL_holds_31 rfl (lv_at hl 1 rfl) ?_
        refine lv_iload hx hb dL_holds_32 (lv_at hl 8 rfl) ?_
        obtain ⟨v34, hv34, hf⟩ := ob_e hf
        rcases v34 with t34 | u34
        · replace hf := se_l hf
          exact nn hf
        · replace hf := se_r hf
          refine xcallV (ws' := (wC g h now snap has hist ent res num col)) (st1 := [.int u34]) (n := 34) E hw [.int x1, .int x9] [0, 1, 2, 3, 4, 5, 6, 7, 8, 9, 10, 11, 12, 13, 14, 15, 16, 17, 18, 19, 20, 21, 22, 23, 24, 25, 26, 27, 28, 29, 30, 31, 32, 33] (met_X10_wholeDigit l g h now snap has hist ent res num col x1 x9 u34 hv34) rfl (by decide) rfl rfl [34, 35, 36, 37, 38, 39, 40, 41, 42, 43, 44, 45, 46, 47, 48, 49, 50, 51, 52, 53, 54, 55, 56, 57, 58, 59, 60, 61, 62, 63, 64, 65, 66, 67] rfl (by decide +kernel) rfl rfl rfl rfl qw565 k_X10_wholeDigit ⟨rfl, rfl, Nat.le_of_ble_eq_true rfl, Nat.le_of_ble_eq_true rfl⟩ ⟨Nat.zero_le _, Nat.zero_le _⟩ hl.1 (Nat.le_of_ble_eq_true rfl) dL_holds_34 rfl (fun H locs hw => ?_)
          refine lv_istore (lv' := [(10, .int u34), (0, .ref (h 0)), (1, .int x1), (2, .int x2), (3, .int x3), (4, .int x4), (5, .int x5), (6, .long x6), (8, .int x8), (9, .int x9)]) hx hb dL_holds_37 hl (by decide) rfl (fun ls hl => ?_)
          refine lv_lload hx hb dL_holds_39 (lv_at hl 7 rfl) ?_
          refine lv_iload hx hb dL_holds_41 (lv_at hl 5 rfl) ?_
          refine lv_i2l hx hb dL_holds_43 rfl ?_
          refine lv_lmul hx hb dL_holds_44 ?_
          refine lv_iload hx hb dL_holds_45 (lv_at hl 0 rfl) ?_
          refine lv_i2l hx hb dL_holds_47 rfl ?_
          refine lv_ladd hx hb dL_holds_48 ?_
          refine lv_lstore (lv' := [(6, .long ((x6 * x4.toInt64) + u34.toInt64)), (10, .int u34), (0, .ref (h 0)), (1, .int x1), (2, .int x2), (3, .int x3), (4, .int x4), (5, .int x5), (8, .int x8), (9, .int x9)]) hx hb dL_holds_49 hl (by decide) rfl (fun ls hl => ?_)
          refine lv_iload hx hb dL_holds_51 (lv_at hl 8 rfl) ?_
          refine lv_iload hx hb dL_holds_53 (lv_at hl 1 rfl) ?_
          refine lv_iadd hx hb dL_holds_55 ?_
          refine lv_istore (lv' := [(8, .int (x8 + u34)), (6, .long ((x6 * x4.toInt64) + u34.toInt64)), (10, .int u34), (0, .ref (h 0)), (1, .int x1), (2, .int x2), (3, .int x3), (4, .int x4), (5, .int x5), (9, .int x9)]) hx hb dL_holds_56 hl (by decide) rfl (fun ls hl => ?_)
          refine lv_iload hx hb dL_holds_58 (lv_at hl 2 rfl) ?_
          refine lv_if_lt (tgt := 82) hx hb dL_holds_60 (by decide) (fun c60 => ?_) (fun c60 => ?_)
          · replace hf := ip c60 hf
            refine lv_iconst (v := 0) hx hb dL_holds_82 (by decide) ?_
            exact hret _ _ _ _ _ _ (by decide) (Option.some.inj hf) dL_holds_83 hw
          · replace hf := iq c60 hf
            refine lv_iload hx hb dL_holds_63 (lv_at hl 2 rfl) ?_
            refine lv_iload hx hb dL_holds_65 (lv_at hl 7 rfl) ?_
            refine lv_icmp_ge (tgt := 82) hx hb dL_holds_67 (by decide) (fun c67 => ?_) (fun c67 => ?_)
            · replace hf := ip c67 hf
              refine lv_iconst (v := 0) hx hb dL_holds_82 (by decide) ?_
              exact hret _ _ _ _ _ _ (by decide) (Option.some.inj hf) dL_holds_83 hw
            · replace hf := iq c67 hf
              refine lv_iload hx hb dL_holds_70 (lv_at hl 2 rfl) ?_
              refine lv_aload_n hx hb dL_holds_72 rfl (lv_at hl 3 rfl) ?_
              refine lv_iload_n hx hb dL_holds_73 rfl (lv_at hl 4 rfl) ?_
              refine lv_iload hx hb dL_holds_74 (lv_at hl 9 rfl) ?_
              obtain ⟨v76, hv76, hf⟩ := ob_e hf
              rcases v76 with t76 | u76
              · replace hf := se_l hf
                exact nn hf
              · replace hf := se_r hf
                refine xcallV (ws' := (wC g h now snap has hist ent res num col)) (st1 := [.int u76, .int u34]) (n := 34) E hw [.int x1, .int x9] [0, 1, 2, 3, 4, 5, 6, 7, 8, 9, 10, 11, 12, 13, 14, 15, 16, 17, 18, 19, 20, 21, 22, 23, 24, 25, 26, 27, 28, 29, 30, 31, 32, 33] (met_X10_wholeDigitByPowers l g h now snap has hist ent res num col x1 x9 u76 hv76) rfl (by decide) rfl rfl [34, 35, 36, 37, 38, 39, 40, 41, 42, 43, 44, 45, 46, 47, 48, 49, 50, 51, 52, 53, 54, 55, 56, 57, 58, 59, 60, 61, 62, 63, 64, 65, 66, 67] rfl (by decide +kernel) rfl rfl rfl rfl qw575 k_X10_wholeDigitByPowers ⟨rfl, rfl, Nat.le_of_ble_eq_true rfl, Nat.le_of_ble_eq_true rfl⟩ ⟨Nat.zero_le _, Nat.zero_le _⟩ hl.1 (Nat.le_of_ble_eq_true rfl) dL_holds_76 rfl (fun H locs hw => ?_)
                refine lv_icmp_eq (tgt := 84) hx hb dL_holds_79 (by decide) (fun c79 => ?_) (fun c79 => ?_)
                · replace hf := ip c79 hf
                  refine lv_iinc (v := x9 + (-1)) (lv' := [(9, .int (x9 + (-1))), (8, .int (x8 + u34)), (6, .long ((x6 * x4.toInt64) + u34.toInt64)), (10, .int u34), (0, .ref (h 0)), (1, .int x1), (2, .int x2), (3, .int x3), (4, .int x4), (5, .int x5)]) hx hb dL_holds_84 hl (k := 9) rfl rfl (by decide) rfl (fun ls hl => ?_)
                  refine lv_goto (tgt := 25) hx hb dL_holds_87 (by decide) ?_
                  exact ih25 _ _ _ col x1 x2 x3 x4 x5 ((x6 * x4.toInt64) + u34.toInt64) (x8 + u34) (x9 + (-1)) hw (lv_sub hl [4, 5, 6, 7, 8, 9, 2, 1, 0] rfl) hf
                · replace hf := iq c79 hf
                  refine lv_iconst (v := 0) hx hb dL_holds_82 (by decide) ?_
                  exact hret _ _ _ _ _ _ (by decide) (Option.some.inj hf) dL_holds_83 hw
  refine lv_aload_n hx hb dL_holds_0 rfl (lv_at hl 0 rfl) ?_
  obtain ⟨v1, hv1, hf⟩ := ob_e hf
  refine xcallV (ws' := (wC g h now snap has hist ent res num col)) (st1 := [.int v1]) (n := 34) E hw [] [0, 1, 2, 3, 4, 5, 6, 7, 8, 9, 10, 11, 12, 13, 14, 15, 16, 17, 18, 19, 20, 21, 22, 23, 24, 25, 26, 27, 28, 29, 30, 31, 32, 33] (met_X10_base l g h now snap has hist ent res num col v1 hv1) rfl (by decide) rfl rfl [34, 35, 36, 37, 38, 39, 40, 41, 42, 43, 44, 45, 46, 47, 48, 49, 50, 51, 52, 53, 54, 55, 56, 57, 58, 59, 60, 61, 62, 63, 64, 65, 66, 67] rfl (by decide +kernel) rfl rfl rfl rfl qw302 k_X10_base ⟨rfl, rfl, Nat.le_of_ble_eq_true rfl, Nat.le_of_ble_eq_true rfl⟩ ⟨Nat.zero_le _, Nat.zero_le _⟩ hl.1 (Nat.le_of_ble_eq_true rfl) dL_holds_1 rfl (fun H locs hw => ?_)
  refine lv_istore (lv' := [(4, .int v1), (0, .ref (h 0)), (1, .int a1), (2, .int a2), (3, .int a3)]) hx hb dL_holds_4 hl (by decide) rfl (fun ls hl => ?_)
  refine lv_aload_n hx hb dL_holds_6 rfl (lv_at hl 1 rfl) ?_
  refine lv_iload_n hx hb dL_holds_7 rfl (lv_at hl 2 rfl) ?_
  obtain ⟨v8, hv8, hf⟩ := ob_e hf
  rcases v8 with t8 | u8
  · replace hf := se_l hf
    exact nn hf
  · replace hf := se_r hf
    refine xcallV (ws' := (wC g h now snap has hist ent res num col)) (st1 := [.int u8]) (n := 34) E hw [.int a1] [0, 1, 2, 3, 4, 5, 6, 7, 8, 9, 10, 11, 12, 13, 14, 15, 16, 17, 18, 19, 20, 21, 22, 23, 24, 25, 26, 27, 28, 29, 30, 31, 32, 33] (met_X10_wholeDigits l g h now snap has hist ent res num col a1 u8 hv8) rfl (by decide) rfl rfl [34, 35, 36, 37, 38, 39, 40, 41, 42, 43, 44, 45, 46, 47, 48, 49, 50, 51, 52, 53, 54, 55, 56, 57, 58, 59, 60, 61, 62, 63, 64, 65, 66, 67] rfl (by decide +kernel) rfl rfl rfl rfl qw344 k_X10_wholeDigits ⟨rfl, rfl, Nat.le_of_ble_eq_true rfl, Nat.le_of_ble_eq_true rfl⟩ ⟨Nat.zero_le _, Nat.zero_le _⟩ hl.1 (Nat.le_of_ble_eq_true rfl) dL_holds_8 rfl (fun H locs hw => ?_)
    refine lv_istore (lv' := [(5, .int u8), (4, .int v1), (0, .ref (h 0)), (1, .int a1), (2, .int a2), (3, .int a3)]) hx hb dL_holds_11 hl (by decide) rfl (fun ls hl => ?_)
    refine lv_lconst (v := 0) hx hb dL_holds_13 (by decide) ?_
    refine lv_lstore (lv' := [(6, .long 0), (5, .int u8), (4, .int v1), (0, .ref (h 0)), (1, .int a1), (2, .int a2), (3, .int a3)]) hx hb dL_holds_14 hl (by decide) rfl (fun ls hl => ?_)
    refine lv_iconst (v := 0) hx hb dL_holds_16 (by decide) ?_
    refine lv_istore (lv' := [(8, .int 0), (6, .long 0), (5, .int u8), (4, .int v1), (0, .ref (h 0)), (1, .int a1), (2, .int a2), (3, .int a3)]) hx hb dL_holds_17 hl (by decide) rfl (fun ls hl => ?_)
    refine lv_iload hx hb dL_holds_19 (lv_at hl 2 rfl) ?_
    refine lv_iconst (v := 1) hx hb dL_holds_21 (by decide) ?_
    refine lv_isub hx hb dL_holds_22 ?_
    refine lv_istore (lv' := [(9, .int (u8 - 1)), (8, .int 0), (6, .long 0), (5, .int u8), (4, .int v1), (0, .ref (h 0)), (1, .int a1), (2, .int a2), (3, .int a3)]) hx hb dL_holds_23 hl (by decide) rfl (fun ls hl => ?_)
    exact b25 xfuel _ _ _ col a1 a2 a3 v1 u8 0 0 (u8 - 1) hw (lv_sub hl [5, 6, 7, 8, 4, 3, 2, 1, 0] rfl) hf
