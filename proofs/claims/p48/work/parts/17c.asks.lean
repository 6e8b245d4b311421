theorem k_X10_leftByDividing : xKV yX10_leftByDividing cX10_leftByDividing 2 (some .int) 1 := ⟨qw611, qw612, qw13, qw613, by decide +kernel, by decide +kernel, by decide +kernel⟩
set_option maxHeartbeats 4000000 in
set_option maxRecDepth 100000 in
theorem met_X10_leftByDividing (l : Launch) (g : xG) (h : Nat → Nat) (now : SC) (snap : SC) (has : Int32) (hist : HC) (ent : EC) (res : RC) (num : NC) (col : CC) (a1 : Int32) (out : Int32) (hf : f_X10_leftByDividing now a1 = some (Sum.inr out)) : xM l yX10_leftByDividing (xC yX10_leftByDividing cX10_leftByDividing 2 (some .int)) { frames := 2, cells := 0, slots := 0, locals := 51 } g (wC g h now snap has hist ent res num col) [.ref (h 0), .int a1] (some (.int out)) (wC g h now snap has hist ent res num col) := by
  refine xof (by decide) (Nat.le_of_ble_eq_true rfl) ⟨rfl, rfl⟩ ?_
  intro p e s m below meth c A ls E hr hlocks hw hl hpost hAe
  have hx := E.1.1
  have hb := E.1.2.1
  have hown := E.1.2.2.2.1
  have hts := E.1.2.2.2.2
  generalize hZ : (MQ below (xPost g (wC g h now snap has hist ent res num col) (wC g h now snap has hist ent res num col) s.heap.size (some (.int out))) [.ref (h 0), .int a1].toArray s 0 0 A) = ZZ
  have hret : ∀ (pc : Nat) (H : Heap) (locs : List Loc) (ls : Array Slot) (v : Int32), v = out → decode cX10_leftByDividing pc = .ok (.ireturn, 1) → xW g A s.heap (wC g h now snap has hist ent res num col) H locs → W p l e { frames := 2, cells := 0, slots := 0, locals := 51 } s m [.ref (h 0), .int a1].toArray below meth c H locs 0 0 ZZ (F0 m pc ls [.int v]) := by
    intro pc H locs ls v he hd hw
    subst he
    rw [← hZ]
    exact W.iret hx hb hr (hpost H locs hw).1 (hpost H locs hw).2 hd hlocks
  clear hpost
  refine lv_iload_n hx hb dX10_leftByDividing_0 rfl (lv_at hl 1 rfl) ?_
  obtain ⟨v1, hv1, hf⟩ := ob_e hf
  rcases v1 with t1 | u1
  · exact nlr hf
  · refine xcallS (ws' := (wC g h now snap has hist ent res num col)) (st1 := []) (n := 34) E hw [.int a1] [] (met_X10_requireAccount l g a1 u1 hv1) rfl (by decide) rfl rfl [0, 1, 2, 3, 4, 5, 6, 7, 8, 9, 10, 11, 12, 13, 14, 15, 16, 17, 18, 19, 20, 21, 22, 23, 24, 25, 26, 27, 28, 29, 30, 31, 32, 33] rfl (by decide +kernel) rfl qw310 k_X10_requireAccount ⟨rfl, rfl, Nat.le_of_ble_eq_true rfl, Nat.le_of_ble_eq_true rfl⟩ ⟨Nat.zero_le _, Nat.zero_le _⟩ hl.1 (Nat.le_of_ble_eq_true rfl) dX10_leftByDividing_1 rfl (fun H locs hw => ?_)
    refine lv_aload_n hx hb dX10_leftByDividing_4 rfl (lv_at hl 0 rfl) ?_
    refine xget (v := .ref (h 1)) E hw 0 rfl rfl 0 (by decide) inw10 qw186 rfl rfl dX10_leftByDividing_5 ?_
    refine lv_iload_n hx hb dX10_leftByDividing_8 rfl (lv_at hl 1 rfl) ?_
    obtain ⟨v9, hv9, hf⟩ := ob_e hf
    refine xcallV (ws' := (wC g h now snap has hist ent res num col)) (st1 := [.int v9]) (n := 34) E hw [.int a1] [1, 2, 3] (met_X7_wholeOf l g h 1 now a1 v9 hv9) rfl (by decide) rfl rfl [0, 34, 35, 36, 4, 5, 6, 7, 8, 9, 10, 11, 12, 13, 14, 15, 16, 17, 18, 19, 20, 21, 22, 23, 24, 25, 26, 27, 28, 29, 30, 31, 32, 33] rfl (by decide +kernel) rfl rfl rfl rfl qw348 k_X7_wholeOf ⟨rfl, rfl, Nat.le_of_ble_eq_true rfl, Nat.le_of_ble_eq_true rfl⟩ ⟨Nat.zero_le _, Nat.zero_le _⟩ hl.1 (Nat.le_of_ble_eq_true rfl) dX10_leftByDividing_9 rfl (fun H locs hw => ?_)
    refine lv_i2l hx hb dX10_leftByDividing_12 rfl ?_
    refine lv_aload_n hx hb dX10_leftByDividing_13 rfl (lv_at hl 0 rfl) ?_
    refine xget (v := .ref (h 1)) E hw 0 rfl rfl 0 (by decide) inw10 qw186 rfl rfl dX10_leftByDividing_14 ?_
    refine xget (v := .int now.1) E hw 1 rfl rfl 0 (by decide) inw7 qw46 rfl rfl dX10_leftByDividing_17 ?_
    refine lv_iconst (v := 1) hx hb dX10_leftByDividing_20 (by decide) ?_
    refine lv_isub hx hb dX10_leftByDividing_21 ?_
    refine lv_i2l hx hb dX10_leftByDividing_22 rfl ?_
    obtain ⟨v23, hv23, hf⟩ := ob_e hf
    refine xcallS (ws' := (wC g h now snap has hist ent res num col)) (st1 := [.long v23]) (n := 34) E hw [.long v9.toInt64, .long ((now.1 - 1).toInt64)] [] (met_X5_left l g v9.toInt64 ((now.1 - 1).toInt64) v23 hv23) rfl (by decide) rfl rfl [0, 1, 2, 3, 4, 5, 6, 7, 8, 9, 10, 11, 12, 13, 14, 15, 16, 17, 18, 19, 20, 21, 22, 23, 24, 25, 26, 27, 28, 29, 30, 31, 32, 33] rfl (by decide +kernel) rfl qw609 k_X5_left ⟨rfl, rfl, Nat.le_of_ble_eq_true rfl, Nat.le_of_ble_eq_true rfl⟩ ⟨Nat.zero_le _, Nat.zero_le _⟩ hl.1 (Nat.le_of_ble_eq_true rfl) dX10_leftByDividing_23 rfl (fun H locs hw => ?_)
    refine lv_l2i hx hb dX10_leftByDividing_26 rfl ?_
    exact hret _ _ _ _ _ (jr hf) dX10_leftByDividing_27 hw
theorem k_X10_headLength : xKV yX10_headLength cX10_headLength 2 (some .int) 1 := ⟨qw585, qw586, qw13, qw587, by decide +kernel, by decide +kernel, by decide +kernel⟩
set_option maxHeartbeats 4000000 in
set_option maxRecDepth 100000 in
theorem met_X10_headLength (l : Launch) (g : xG) (h : Nat → Nat) (now : SC) (snap : SC) (has : Int32) (hist : HC) (ent : EC) (res : RC) (num : NC) (col : CC) (a1 : Int32) (out : Int32) (hf : f_X10_headLength now a1 = some (Sum.inr out)) : xM l yX10_headLength (xC yX10_headLength cX10_headLength 2 (some .int)) { frames := 3, cells := 0, slots := 0, locals := 79 } g (wC g h now snap has hist ent res num col) [.ref (h 0), .int a1] (some (.int out)) (wC g h now snap has hist ent res num col) := by
  refine xof (by decide) (Nat.le_of_ble_eq_true rfl) ⟨rfl, rfl⟩ ?_
  intro p e s m below meth c A ls E hr hlocks hw hl hpost hAe
  have hx := E.1.1
  have hb := E.1.2.1
  have hown := E.1.2.2.2.1
  have hts := E.1.2.2.2.2
  generalize hZ : (MQ below (xPost g (wC g h now snap has hist ent res num col) (wC g h now snap has hist ent res num col) s.heap.size (some (.int out))) [.ref (h 0), .int a1].toArray s 0 0 A) = ZZ
  have hret : ∀ (pc : Nat) (H : Heap) (locs : List Loc) (ls : Array Slot) (v : Int32), v = out → decode cX10_headLength pc = .ok (.ireturn, 1) → xW g A s.heap (wC g h now snap has hist ent res num col) H locs → W p l e { frames := 3, cells := 0, slots := 0, locals := 79 } s m [.ref (h 0), .int a1].toArray below meth c H locs 0 0 ZZ (F0 m pc ls [.int v]) := by
    intro pc H locs ls v he hd hw
    subst he
    rw [← hZ]
    exact W.iret hx hb hr (hpost H locs hw).1 (hpost H locs hw).2 hd hlocks
  clear hpost
  refine lv_iload_n hx hb dX10_headLength_0 rfl (lv_at hl 1 rfl) ?_
  obtain ⟨v1, hv1, hf⟩ := ob_e hf
  rcases v1 with t1 | u1
  · exact nlr hf
  · refine xcallS (ws' := (wC g h now snap has hist ent res num col)) (st1 := []) (n := 34) E hw [.int a1] [] (met_X10_requireAccount l g a1 u1 hv1) rfl (by decide) rfl rfl [0, 1, 2, 3, 4, 5, 6, 7, 8, 9, 10, 11, 12, 13, 14, 15, 16, 17, 18, 19, 20, 21, 22, 23, 24, 25, 26, 27, 28, 29, 30, 31, 32, 33] rfl (by decide +kernel) rfl qw310 k_X10_requireAccount ⟨rfl, rfl, Nat.le_of_ble_eq_true rfl, Nat.le_of_ble_eq_true rfl⟩ ⟨Nat.zero_le _, Nat.zero_le _⟩ hl.1 (Nat.le_of_ble_eq_true rfl) dX10_headLength_1 rfl (fun H locs hw => ?_)
    refine lv_aload_n hx hb dX10_headLength_4 rfl (lv_at hl 0 rfl) ?_
    refine xget (v := .ref (h 1)) E hw 0 rfl rfl 0 (by decide) inw10 qw186 rfl rfl dX10_headLength_5 ?_
    refine lv_iload_n hx hb dX10_headLength_8 rfl (lv_at hl 1 rfl) ?_
    obtain ⟨v9, hv9, hf⟩ := ob_e hf
    refine xcallV (ws' := (wC g h now snap has hist ent res num col)) (st1 := [.int v9]) (n := 34) E hw [.int a1] [1, 2, 3] (met_X7_denominatorOf l g h 1 now a1 v9 hv9) rfl (by decide) rfl rfl [0, 34, 35, 36, 4, 5, 6, 7, 8, 9, 10, 11, 12, 13, 14, 15, 16, 17, 18, 19, 20, 21, 22, 23, 24, 25, 26, 27, 28, 29, 30, 31, 32, 33] rfl (by decide +kernel) rfl rfl rfl rfl qw340 k_X7_denominatorOf ⟨rfl, rfl, Nat.le_of_ble_eq_true rfl, Nat.le_of_ble_eq_true rfl⟩ ⟨Nat.zero_le _, Nat.zero_le _⟩ hl.1 (Nat.le_of_ble_eq_true rfl) dX10_headLength_9 rfl (fun H locs hw => ?_)
    refine lv_i2l hx hb dX10_headLength_12 rfl ?_
    refine lv_aload_n hx hb dX10_headLength_13 rfl (lv_at hl 0 rfl) ?_
    refine xget (v := .ref (h 1)) E hw 0 rfl rfl 0 (by decide) inw10 qw186 rfl rfl dX10_headLength_14 ?_
    refine xget (v := .int now.1) E hw 1 rfl rfl 0 (by decide) inw7 qw46 rfl rfl dX10_headLength_17 ?_
    obtain ⟨v20, hv20, hf⟩ := ob_e hf
    refine xcallS (ws' := (wC g h now snap has hist ent res num col)) (st1 := [.int v20]) (n := 34) E hw [.long v9.toInt64, .int now.1] [] (met_X0_head l g v9.toInt64 now.1 v20 hv20) rfl (by decide) rfl rfl [0, 1, 2, 3, 4, 5, 6, 7, 8, 9, 10, 11, 12, 13, 14, 15, 16, 17, 18, 19, 20, 21, 22, 23, 24, 25, 26, 27, 28, 29, 30, 31, 32, 33] rfl (by decide +kernel) rfl qw366 k_X0_head ⟨rfl, rfl, Nat.le_of_ble_eq_true rfl, Nat.le_of_ble_eq_true rfl⟩ ⟨Nat.zero_le _, Nat.zero_le _⟩ hl.1 (Nat.le_of_ble_eq_true rfl) dX10_headLength_20 rfl (fun H locs hw => ?_)
    exact hret _ _ _ _ _ (jr hf) dX10_headLength_23 hw
theorem k_X10_periodLength : xKV yX10_periodLength cX10_periodLength 4 (some .int) 1 := ⟨qw589, qw590, qw13, qw591, by decide +kernel, by decide +kernel, by decide +kernel⟩
set_option maxHeartbeats 4000000 in
set_option maxRecDepth 100000 in
theorem met_X10_periodLength (l : Launch) (g : xG) (h : Nat → Nat) (now : SC) (snap : SC) (has : Int32) (hist : HC) (ent : EC) (res : RC) (num : NC) (col : CC) (a1 : Int32) (out : Int32) (hf : f_X10_periodLength now a1 = some (Sum.inr out)) : xM l yX10_periodLength (xC yX10_periodLength cX10_periodLength 4 (some .int)) { frames := 3, cells := 0, slots := 0, locals := 79 } g (wC g h now snap has hist ent res num col) [.ref (h 0), .int a1] (some (.int out)) (wC g h now snap has hist ent res num col) := by
  refine xof (by decide) (Nat.le_of_ble_eq_true rfl) ⟨rfl, rfl⟩ ?_
  intro p e s m below meth c A ls E hr hlocks hw hl hpost hAe
  have hx := E.1.1
  have hb := E.1.2.1
  have hown := E.1.2.2.2.1
  have hts := E.1.2.2.2.2
  generalize hZ : (MQ below (xPost g (wC g h now snap has hist ent res num col) (wC g h now snap has hist ent res num col) s.heap.size (some (.int out))) [.ref (h 0), .int a1].toArray s 0 0 A) = ZZ
  have hret : ∀ (pc : Nat) (H : Heap) (locs : List Loc) (ls : Array Slot) (v : Int32), v = out → decode cX10_periodLength pc = .ok (.ireturn, 1) → xW g A s.heap (wC g h now snap has hist ent res num col) H locs → W p l e { frames := 3, cells := 0, slots := 0, locals := 79 } s m [.ref (h 0), .int a1].toArray below meth c H locs 0 0 ZZ (F0 m pc ls [.int v]) := by
    intro pc H locs ls v he hd hw
    subst he
    rw [← hZ]
    exact W.iret hx hb hr (hpost H locs hw).1 (hpost H locs hw).2 hd hlocks
  clear hpost
  refine lv_iload_n hx hb dX10_periodLength_0 rfl (lv_at hl 1 rfl) ?_
  obtain ⟨v1, hv1, hf⟩ := ob_e hf
  rcases v1 with t1 | u1
  · exact nlr hf
  · refine xcallS (ws' := (wC g h now snap has hist ent res num col)) (st1 := []) (n := 34) E hw [.int a1] [] (met_X10_requireAccount l g a1 u1 hv1) rfl (by decide) rfl rfl [0, 1, 2, 3, 4, 5, 6, 7, 8, 9, 10, 11, 12, 13, 14, 15, 16, 17, 18, 19, 20, 21, 22, 23, 24, 25, 26, 27, 28, 29, 30, 31, 32, 33] rfl (by decide +kernel) rfl qw310 k_X10_requireAccount ⟨rfl, rfl, Nat.le_of_ble_eq_true rfl, Nat.le_of_ble_eq_true rfl⟩ ⟨Nat.zero_le _, Nat.zero_le _⟩ hl.1 (Nat.le_of_ble_eq_true rfl) dX10_periodLength_1 rfl (fun H locs hw => ?_)
    refine lv_aload_n hx hb dX10_periodLength_4 rfl (lv_at hl 0 rfl) ?_
    refine xget (v := .ref (h 1)) E hw 0 rfl rfl 0 (by decide) inw10 qw186 rfl rfl dX10_periodLength_5 ?_
    refine lv_iload_n hx hb dX10_periodLength_8 rfl (lv_at hl 1 rfl) ?_
    obtain ⟨v9, hv9, hf⟩ := ob_e hf
    refine xcallV (ws' := (wC g h now snap has hist ent res num col)) (st1 := [.int v9]) (n := 34) E hw [.int a1] [1, 2, 3] (met_X7_denominatorOf l g h 1 now a1 v9 hv9) rfl (by decide) rfl rfl [0, 34, 35, 36, 4, 5, 6, 7, 8, 9, 10, 11, 12, 13, 14, 15, 16, 17, 18, 19, 20, 21, 22, 23, 24, 25, 26, 27, 28, 29, 30, 31, 32, 33] rfl (by decide +kernel) rfl rfl rfl rfl qw340 k_X7_denominatorOf ⟨rfl, rfl, Nat.le_of_ble_eq_true rfl, Nat.le_of_ble_eq_true rfl⟩ ⟨Nat.zero_le _, Nat.zero_le _⟩ hl.1 (Nat.le_of_ble_eq_true rfl) dX10_periodLength_9 rfl (fun H locs hw => ?_)
    refine lv_istore_n (lv' := [(2, .int v9), (0, .ref (h 0)), (1, .int a1)]) hx hb dX10_periodLength_12 rfl hl (by decide) rfl (fun ls hl => ?_)
    refine lv_iload_n hx hb dX10_periodLength_13 rfl (lv_at hl 0 rfl) ?_
    refine lv_i2l hx hb dX10_periodLength_14 rfl ?_
    refine lv_aload_n hx hb dX10_periodLength_15 rfl (lv_at hl 1 rfl) ?_
    refine xget (v := .ref (h 1)) E hw 0 rfl rfl 0 (by decide) inw10 qw186 rfl rfl dX10_periodLength_16 ?_
    refine xget (v := .int now.1) E hw 1 rfl rfl 0 (by decide) inw7 qw46 rfl rfl dX10_periodLength_19 ?_
    obtain ⟨v22, hv22, hf⟩ := ob_e hf
    refine xcallS (ws' := (wC g h now snap has hist ent res num col)) (st1 := [.int v22]) (n := 34) E hw [.long v9.toInt64, .int now.1] [] (met_X0_head l g v9.toInt64 now.1 v22 hv22) rfl (by decide) rfl rfl [0, 1, 2, 3, 4, 5, 6, 7, 8, 9, 10, 11, 12, 13, 14, 15, 16, 17, 18, 19, 20, 21, 22, 23, 24, 25, 26, 27, 28, 29, 30, 31, 32, 33] rfl (by decide +kernel) rfl qw366 k_X0_head ⟨rfl, rfl, Nat.le_of_ble_eq_true rfl, Nat.le_of_ble_eq_true rfl⟩ ⟨Nat.zero_le _, Nat.zero_le _⟩ hl.1 (Nat.le_of_ble_eq_true rfl) dX10_periodLength_22 rfl (fun H locs hw => ?_)
    refine lv_istore_n (lv' := [(3, .int v22), (2, .int v9), (0, .ref (h 0)), (1, .int a1)]) hx hb dX10_periodLength_25 rfl hl (by decide) rfl (fun ls hl => ?_)
    refine lv_aload_n hx hb dX10_periodLength_26 rfl (lv_at hl 2 rfl) ?_
    refine xget (v := .ref (h 1)) E hw 0 rfl rfl 0 (by decide) inw10 qw186 rfl rfl dX10_periodLength_27 ?_
    refine lv_iload_n hx hb dX10_periodLength_30 rfl (lv_at hl 3 rfl) ?_
    obtain ⟨v31, hv31, hf⟩ := ob_e hf
    refine xcallV (ws' := (wC g h now snap has hist ent res num col)) (st1 := [.long v31]) (n := 34) E hw [.int a1] [1, 2, 3] (met_X7_restOf l g h 1 now a1 v31 hv31) rfl (by decide) rfl rfl [0, 34, 35, 36, 4, 5, 6, 7, 8, 9, 10, 11, 12, 13, 14, 15, 16, 17, 18, 19, 20, 21, 22, 23, 24, 25, 26, 27, 28, 29, 30, 31, 32, 33] rfl (by decide +kernel) rfl rfl rfl rfl qw376 k_X7_restOf ⟨rfl, rfl, Nat.le_of_ble_eq_true rfl, Nat.le_of_ble_eq_true rfl⟩ ⟨Nat.zero_le _, Nat.zero_le _⟩ hl.1 (Nat.le_of_ble_eq_true rfl) dX10_periodLength_31 rfl (fun H locs hw => ?_)
    refine lv_iload_n hx hb dX10_periodLength_34 rfl (lv_at hl 1 rfl) ?_
    refine lv_i2l hx hb dX10_periodLength_35 rfl ?_
    refine lv_aload_n hx hb dX10_periodLength_36 rfl (lv_at hl 2 rfl) ?_
    refine xget (v := .ref (h 1)) E hw 0 rfl rfl 0 (by decide) inw10 qw186 rfl rfl dX10_periodLength_37 ?_
    refine xget (v := .int now.1) E hw 1 rfl rfl 0 (by decide) inw7 qw46 rfl rfl dX10_periodLength_40 ?_
    refine lv_iload_n hx hb dX10_periodLength_43 rfl (lv_at hl 0 rfl) ?_
    obtain ⟨v44, hv44, hf⟩ := ob_e hf
    refine xcallS (ws' := (wC g h now snap has hist ent res num col)) (st1 := [.int v44]) (n := 34) E hw [.long v31, .long v9.toInt64, .int now.1, .int v22] [] (met_X0_periodByDividing l g v31 v9.toInt64 now.1 v22 v44 hv44) rfl (by decide) rfl rfl [0, 1, 2, 3, 4, 5, 6, 7, 8, 9, 10, 11, 12, 13, 14, 15, 16, 17, 18, 19, 20, 21, 22, 23, 24, 25, 26, 27, 28, 29, 30, 31, 32, 33] rfl (by decide +kernel) rfl qw380 k_X0_periodByDividing ⟨rfl, rfl, Nat.le_of_ble_eq_true rfl, Nat.le_of_ble_eq_true rfl⟩ ⟨Nat.zero_le _, Nat.zero_le _⟩ hl.1 (Nat.le_of_ble_eq_true rfl) dX10_periodLength_44 rfl (fun H locs hw => ?_)
    exact hret _ _ _ _ _ (jr hf) dX10_periodLength_47 hw
theorem k_X10_periodByOrder : xKV yX10_periodByOrder cX10_periodByOrder 4 (some .int) 1 := ⟨qw615, qw616, qw13, qw617, by decide +kernel, by decide +kernel, by decide +kernel⟩
set_option maxHeartbeats 4000000 in
set_option maxRecDepth 100000 in
theorem met_X10_periodByOrder (l : Launch) (g : xG) (h : Nat → Nat) (now : SC) (snap : SC) (has : Int32) (hist : HC) (ent : EC) (res : RC) (num : NC) (col : CC) (a1 : Int32) (out : Int32) (hf : f_X10_periodByOrder now a1 = some (Sum.inr out)) : xM l yX10_periodByOrder (xC yX10_periodByOrder cX10_periodByOrder 4 (some .int)) { frames := 4, cells := 0, slots := 0, locals := 104 } g (wC g h now snap has hist ent res num col) [.ref (h 0), .int a1] (some (.int out)) (wC g h now snap has hist ent res num col) := by
  refine xof (by decide) (Nat.le_of_ble_eq_true rfl) ⟨rfl, rfl⟩ ?_
  intro p e s m below meth c A ls E hr hlocks hw hl hpost hAe
  have hx := E.1.1
  have hb := E.1.2.1
  have hown := E.1.2.2.2.1
  have hts := E.1.2.2.2.2
  generalize hZ : (MQ below (xPost g (wC g h now snap has hist ent res num col) (wC g h now snap has hist ent res num col) s.heap.size (some (.int out))) [.ref (h 0), .int a1].toArray s 0 0 A) = ZZ
  have hret : ∀ (pc : Nat) (H : Heap) (locs : List Loc) (ls : Array Slot) (v : Int32), v = out → decode cX10_periodByOrder pc = .ok (.ireturn, 1) → xW g A s.heap (wC g h now snap has hist ent res num col) H locs → W p l e { frames := 4, cells := 0, slots := 0, locals := 104 } s m [.ref (h 0), .int a1].toArray below meth c H locs 0 0 ZZ (F0 m pc ls [.int v]) := by
    intro pc H locs ls v he hd hw
    subst he
    rw [← hZ]
    exact W.iret hx hb hr (hpost H locs hw).1 (hpost H locs hw).2 hd hlocks
  clear hpost
  refine lv_iload_n hx hb dX10_periodByOrder_0 rfl (lv_at hl 1 rfl) ?_
  obtain ⟨v1, hv1, hf⟩ := ob_e hf
  rcases v1 with t1 | u1
  · exact nlr hf
  · refine xcallS (ws' := (wC g h now snap has hist ent res num col)) (st1 := []) (n := 34) E hw [.int a1] [] (met_X10_requireAccount l g a1 u1 hv1) rfl (by decide) rfl rfl [0, 1, 2, 3, 4, 5, 6, 7, 8, 9, 10, 11, 12, 13, 14, 15, 16, 17, 18, 19, 20, 21, 22, 23, 24, 25, 26, 27, 28, 29, 30, 31, 32, 33] rfl (by decide +kernel) rfl qw310 k_X10_requireAccount ⟨rfl, rfl, Nat.le_of_ble_eq_true rfl, Nat.le_of_ble_eq_true rfl⟩ ⟨Nat.zero_le _, Nat.zero_le _⟩ hl.1 (Nat.le_of_ble_eq_true rfl) dX10_periodByOrder_1 rfl (fun H locs hw => ?_)
    refine lv_aload_n hx hb dX10_periodByOrder_4 rfl (lv_at hl 0 rfl) ?_
    refine xget (v := .ref (h 1)) E hw 0 rfl rfl 0 (by decide) inw10 qw186 rfl rfl dX10_periodByOrder_5 ?_
    refine lv_iload_n hx hb dX10_periodByOrder_8 rfl (lv_at hl 1 rfl) ?_
    obtain ⟨v9, hv9, hf⟩ := ob_e hf
    refine xcallV (ws' := (wC g h now snap has hist ent res num col)) (st1 := [.int v9]) (n := 34) E hw [.int a1] [1, 2, 3] (met_X7_denominatorOf l g h 1 now a1 v9 hv9) rfl (by decide) rfl rfl [0, 34, 35, 36, 4, 5, 6, 7, 8, 9, 10, 11, 12, 13, 14, 15, 16, 17, 18, 19, 20, 21, 22, 23, 24, 25, 26, 27, 28, 29, 30, 31, 32, 33] rfl (by decide +kernel) rfl rfl rfl rfl qw340 k_X7_denominatorOf ⟨rfl, rfl, Nat.le_of_ble_eq_true rfl, Nat.le_of_ble_eq_true rfl⟩ ⟨Nat.zero_le _, Nat.zero_le _⟩ hl.1 (Nat.le_of_ble_eq_true rfl) dX10_periodByOrder_9 rfl (fun H locs hw => ?_)
    refine lv_i2l hx hb dX10_periodByOrder_12 rfl ?_
    refine lv_aload_n hx hb dX10_periodByOrder_13 rfl (lv_at hl 0 rfl) ?_
    refine xget (v := .ref (h 1)) E hw 0 rfl rfl 0 (by decide) inw10 qw186 rfl rfl dX10_periodByOrder_14 ?_
    refine xget (v := .int now.1) E hw 1 rfl rfl 0 (by decide) inw7 qw46 rfl rfl dX10_periodByOrder_17 ?_
    obtain ⟨v20, hv20, hf⟩ := ob_e hf
    refine xcallS (ws' := (wC g h now snap has hist ent res num col)) (st1 := [.long v20]) (n := 34) E hw [.long v9.toInt64, .int now.1] [] (met_X0_coprimePart l g v9.toInt64 now.1 v20 hv20) rfl (by decide) rfl rfl [0, 1, 2, 3, 4, 5, 6, 7, 8, 9, 10, 11, 12, 13, 14, 15, 16, 17, 18, 19, 20, 21, 22, 23, 24, 25, 26, 27, 28, 29, 30, 31, 32, 33] rfl (by decide +kernel) rfl qw618 k_X0_coprimePart ⟨rfl, rfl, Nat.le_of_ble_eq_true rfl, Nat.le_of_ble_eq_true rfl⟩ ⟨Nat.zero_le _, Nat.zero_le _⟩ hl.1 (Nat.le_of_ble_eq_true rfl) dX10_periodByOrder_20 rfl (fun H locs hw => ?_)
    refine lv_lstore_n (lv' := [(2, .long v20), (0, .ref (h 0)), (1, .int a1)]) hx hb dX10_periodByOrder_23 rfl hl (by decide) rfl (fun ls hl => ?_)
    refine lv_aload_n hx hb dX10_periodByOrder_24 rfl (lv_at hl 1 rfl) ?_
    refine xget (v := .ref (h 1)) E hw 0 rfl rfl 0 (by decide) inw10 qw186 rfl rfl dX10_periodByOrder_25 ?_
    refine xget (v := .int now.1) E hw 1 rfl rfl 0 (by decide) inw7 qw46 rfl rfl dX10_periodByOrder_28 ?_
    refine lv_lload_n hx hb dX10_periodByOrder_31 rfl (lv_at hl 0 rfl) ?_
    refine lv_sipush (v := 999) hx hb dX10_periodByOrder_32 (by decide) ?_
    obtain ⟨v35, hv35, hf⟩ := ob_e hf
    refine xcallS (ws' := (wC g h now snap has hist ent res num col)) (st1 := [.int v35]) (n := 34) E hw [.int now.1, .long v20, .int 999] [] (met_X0_timesToOne l g now.1 v20 999 v35 hv35) rfl (by decide) rfl rfl [0, 1, 2, 3, 4, 5, 6, 7, 8, 9, 10, 11, 12, 13, 14, 15, 16, 17, 18, 19, 20, 21, 22, 23, 24, 25, 26, 27, 28, 29, 30, 31, 32, 33] rfl (by decide +kernel) rfl qw622 k_X0_timesToOne ⟨rfl, rfl, Nat.le_of_ble_eq_true rfl, Nat.le_of_ble_eq_true rfl⟩ ⟨Nat.zero_le _, Nat.zero_le _⟩ hl.1 (Nat.le_of_ble_eq_true rfl) dX10_periodByOrder_35 rfl (fun H locs hw => ?_)
    exact hret _ _ _ _ _ (jr hf) dX10_periodByOrder_38 hw
theorem k_X10_digitBehind : xKV yX10_digitBehind cX10_digitBehind 3 (some .int) 2 := ⟨qw627, qw628, qw13, qw629, by decide +kernel, by decide +kernel, by decide +kernel⟩
set_option maxHeartbeats 4000000 in
set_option maxRecDepth 100000 in
theorem met_X10_digitBehind (l : Launch) (g : xG) (h : Nat → Nat) (now : SC) (snap : SC) (has : Int32) (hist : HC) (ent : EC) (res : RC) (num : NC) (col : CC) (a1 : Int32) (a2 : Int32) (out : Int32) (hf : f_X10_digitBehind now a1 a2 = some (Sum.inr out)) : xM l yX10_digitBehind (xC yX10_digitBehind cX10_digitBehind 3 (some .int)) { frames := 2, cells := 0, slots := 0, locals := 55 } g (wC g h now snap has hist ent res num col) [.ref (h 0), .int a1, .int a2] (some (.int out)) (wC g h now snap has hist ent res num col) := by
  refine xof (by decide) (Nat.le_of_ble_eq_true rfl) ⟨rfl, rfl⟩ ?_
  intro p e s m below meth c A ls E hr hlocks hw hl hpost hAe
  have hx := E.1.1
  have hb := E.1.2.1
  have hown := E.1.2.2.2.1
  have hts := E.1.2.2.2.2
  generalize hZ : (MQ below (xPost g (wC g h now snap has hist ent res num col) (wC g h now snap has hist ent res num col) s.heap.size (some (.int out))) [.ref (h 0), .int a1, .int a2].toArray s 0 0 A) = ZZ
  have hret : ∀ (pc : Nat) (H : Heap) (locs : List Loc) (ls : Array Slot) (v : Int32), v = out → decode cX10_digitBehind pc = .ok (.ireturn, 1) → xW g A s.heap (wC g h now snap has hist ent res num col) H locs → W p l e { frames := 2, cells := 0, slots := 0, locals := 55 } s m [.ref (h 0), .int a1, .int a2].toArray below meth c H locs 0 0 ZZ (F0 m pc ls [.int v]) := by
    intro pc H locs ls v he hd hw
    subst he
    rw [← hZ]
    exact W.iret hx hb hr (hpost H locs hw).1 (hpost H locs hw).2 hd hlocks
  clear hpost
  have b15 : ∀ (H : Heap) (locs : List Loc) (ls : Array Slot), xW g A s.heap (wC g h now snap has hist ent res num col) H locs → lv_has ls 3 [] → f_X10_digitBehind_b15 now = some (Sum.inr out) → W p l e { frames := 2, cells := 0, slots := 0, locals := 55 } s m [.ref (h 0), .int a1, .int a2].toArray below meth c H locs 0 0 ZZ (F0 m 15 ls []) := by
    intro H locs ls hw hl hf
    exact nlr hf
  refine lv_iload_n hx hb dX10_digitBehind_0 rfl (lv_at hl 1 rfl) ?_
  obtain ⟨v1, hv1, hf⟩ := ob_e hf
  rcases v1 with t1 | u1
  · exact nlr hf
  · refine xcallS (ws' := (wC g h now snap has hist ent res num col)) (st1 := []) (n := 34) E hw [.int a1] [] (met_X10_requireAccount l g a1 u1 hv1) rfl (by decide) rfl rfl [0, 1, 2, 3, 4, 5, 6, 7, 8, 9, 10, 11, 12, 13, 14, 15, 16, 17, 18, 19, 20, 21, 22, 23, 24, 25, 26, 27, 28, 29, 30, 31, 32, 33] rfl (by decide +kernel) rfl qw310 k_X10_requireAccount ⟨rfl, rfl, Nat.le_of_ble_eq_true rfl, Nat.le_of_ble_eq_true rfl⟩ ⟨Nat.zero_le _, Nat.zero_le _⟩ hl.1 (Nat.le_of_ble_eq_true rfl) dX10_digitBehind_1 rfl (fun H locs hw => ?_)
    refine lv_iload_n hx hb dX10_digitBehind_4 rfl (lv_at hl 2 rfl) ?_
    refine lv_if_lt (tgt := 15) hx hb dX10_digitBehind_5 (by decide) (fun c5 => ?_) (fun c5 => ?_)
    · replace hf := ip c5 hf
      exact b15 _ _ _  hw (lv_sub hl [] rfl) hf
    · replace hf := iq c5 hf
      refine lv_iload_n hx hb dX10_digitBehind_8 rfl (lv_at hl 2 rfl) ?_
      refine lv_sipush (v := 2000) hx hb dX10_digitBehind_9 (by decide) ?_
      refine lv_icmp_le (tgt := 25) hx hb dX10_digitBehind_12 (by decide) (fun c12 => ?_) (fun c12 => ?_)
      · replace hf := ip c12 hf
        refine lv_aload_n hx hb dX10_digitBehind_25 rfl (lv_at hl 0 rfl) ?_
        refine xget (v := .ref (h 1)) E hw 0 rfl rfl 0 (by decide) inw10 qw186 rfl rfl dX10_digitBehind_26 ?_
        refine lv_iload_n hx hb dX10_digitBehind_29 rfl (lv_at hl 1 rfl) ?_
        obtain ⟨v30, hv30, hf⟩ := ob_e hf
        refine xcallV (ws' := (wC g h now snap has hist ent res num col)) (st1 := [.long v30]) (n := 34) E hw [.int a1] [1, 2, 3] (met_X7_restOf l g h 1 now a1 v30 hv30) rfl (by decide) rfl rfl [0, 34, 35, 36, 4, 5, 6, 7, 8, 9, 10, 11, 12, 13, 14, 15, 16, 17, 18, 19, 20, 21, 22, 23, 24, 25, 26, 27, 28, 29, 30, 31, 32, 33] rfl (by decide +kernel) rfl rfl rfl rfl qw376 k_X7_restOf ⟨rfl, rfl, Nat.le_of_ble_eq_true rfl, Nat.le_of_ble_eq_true rfl⟩ ⟨Nat.zero_le _, Nat.zero_le _⟩ hl.1 (Nat.le_of_ble_eq_true rfl) dX10_digitBehind_30 rfl (fun H locs hw => ?_)
        refine lv_aload_n hx hb dX10_digitBehind_33 rfl (lv_at hl 0 rfl) ?_
        refine xget (v := .ref (h 1)) E hw 0 rfl rfl 0 (by decide) inw10 qw186 rfl rfl dX10_digitBehind_34 ?_
        refine lv_iload_n hx hb dX10_digitBehind_37 rfl (lv_at hl 1 rfl) ?_
        obtain ⟨v38, hv38, hf⟩ := ob_e hf
        refine xcallV (ws' := (wC g h now snap has hist ent res num col)) (st1 := [.int v38, .long v30]) (n := 34) E hw [.int a1] [1, 2, 3] (met_X7_denominatorOf l g h 1 now a1 v38 hv38) rfl (by decide) rfl rfl [0, 34, 35, 36, 4, 5, 6, 7, 8, 9, 10, 11, 12, 13, 14, 15, 16, 17, 18, 19, 20, 21, 22, 23, 24, 25, 26, 27, 28, 29, 30, 31, 32, 33] rfl (by decide +kernel) rfl rfl rfl rfl qw340 k_X7_denominatorOf ⟨rfl, rfl, Nat.le_of_ble_eq_true rfl, Nat.le_of_ble_eq_true rfl⟩ ⟨Nat.zero_le _, Nat.zero_le _⟩ hl.1 (Nat.le_of_ble_eq_true rfl) dX10_digitBehind_38 rfl (fun H locs hw => ?_)
        refine lv_i2l hx hb dX10_digitBehind_41 rfl ?_
        refine lv_aload_n hx hb dX10_digitBehind_42 rfl (lv_at hl 0 rfl) ?_
        refine xget (v := .ref (h 1)) E hw 0 rfl rfl 0 (by decide) inw10 qw186 rfl rfl dX10_digitBehind_43 ?_
        refine xget (v := .int now.1) E hw 1 rfl rfl 0 (by decide) inw7 qw46 rfl rfl dX10_digitBehind_46 ?_
        refine lv_iload_n hx hb dX10_digitBehind_49 rfl (lv_at hl 2 rfl) ?_
        obtain ⟨v50, hv50, hf⟩ := ob_e hf
        refine xcallS (ws' := (wC g h now snap has hist ent res num col)) (st1 := [.int v50]) (n := 34) E hw [.long v30, .long v38.toInt64, .int now.1, .int a2] [] (met_X0_digit l g v30 v38.toInt64 now.1 a2 v50 hv50) rfl (by decide) rfl rfl [0, 1, 2, 3, 4, 5, 6, 7, 8, 9, 10, 11, 12, 13, 14, 15, 16, 17, 18, 19, 20, 21, 22, 23, 24, 25, 26, 27, 28, 29, 30, 31, 32, 33] rfl (by decide +kernel) rfl qw400 k_X0_digit ⟨rfl, rfl, Nat.le_of_ble_eq_true rfl, Nat.le_of_ble_eq_true rfl⟩ ⟨Nat.zero_le _, Nat.zero_le _⟩ hl.1 (Nat.le_of_ble_eq_true rfl) dX10_digitBehind_50 rfl (fun H locs hw => ?_)
        exact hret _ _ _ _ _ (jr hf) dX10_digitBehind_53 hw
      · replace hf := iq c12 hf
        exact b15 _ _ _  hw (lv_sub hl [] rfl) hf
theorem k_X10_shortestBase : xKV yX10_shortestBase cX10_shortestBase 8 (some .int) 1 := ⟨qw632, qw633, qw13, qw634, by decide +kernel, by decide +kernel, by decide +kernel⟩
set_option maxHeartbeats 4000000 in
set_option maxRecDepth 100000 in
theorem met_X10_shortestBase (l : Launch) (g : xG) (h : Nat → Nat) (now : SC) (snap : SC) (has : Int32) (hist : HC) (ent : EC) (res : RC) (num : NC) (col : CC) (a1 : Int32) (out : Int32) (hf : f_X10_shortestBase now a1 = some (Sum.inr out)) : xM l yX10_shortestBase (xC yX10_shortestBase cX10_shortestBase 8 (some .int)) { frames := 4, cells := 0, slots := 0, locals := 104 } g (wC g h now snap has hist ent res num col) [.ref (h 0), .int a1] (some (.int out)) (wC g h now snap has hist ent res num col) := by
  refine xof (by decide) (Nat.le_of_ble_eq_true rfl) ⟨rfl, rfl⟩ ?_
  intro p e s m below meth c A ls E hr hlocks hw hl hpost hAe
  have hx := E.1.1
  have hb := E.1.2.1
  have hown := E.1.2.2.2.1
  have hts := E.1.2.2.2.2
  generalize hZ : (MQ below (xPost g (wC g h now snap has hist ent res num col) (wC g h now snap has hist ent res num col) s.heap.size (some (.int out))) [.ref (h 0), .int a1].toArray s 0 0 A) = ZZ
  have hret : ∀ (pc : Nat) (H : Heap) (locs : List Loc) (ls : Array Slot) (v : Int32), v = out → decode cX10_shortestBase pc = .ok (.ireturn, 1) → xW g A s.heap (wC g h now snap has hist ent res num col) H locs → W p l e { frames := 4, cells := 0, slots := 0, locals := 104 } s m [.ref (h 0), .int a1].toArray below meth c H locs 0 0 ZZ (F0 m pc ls [.int v]) := by
    intro pc H locs ls v he hd hw
    subst he
    rw [← hZ]
    exact W.iret hx hb hr (hpost H locs hw).1 (hpost H locs hw).2 hd hlocks
  clear hpost
  have b23 : ∀ n23 : Nat, ∀ (H : Heap) (locs : List Loc) (ls : Array Slot) (x2 : Int32) (x3 : Int32) (x4 : Int32) (x5 : Int32), xW g A s.heap (wC g h now snap has hist ent res num col) H locs → lv_has ls 8 [(2, .int x2), (3, .int x3), (4, .int x4), (5, .int x5)] → f_X10_shortestBase_b23 n23 now x2 x3 x4 x5 = some (Sum.inr out) → W p l e { frames := 4, cells := 0, slots := 0, locals := 104 } s m [.ref (h 0), .int a1].toArray below meth c H locs 0 0 ZZ (F0 m 23 ls []) := by
    intro n23
    induction n23 with
    | zero =>
      intro H locs ls x2 x3 x4 x5 hw hl hf
      exact nn hf
    | succ n23 ih23 =>
      have b72 : ∀ (H : Heap) (locs : List Loc) (ls : Array Slot) (x2 : Int32) (x3 : Int32) (x4 : Int32) (x5 : Int32), xW g A s.heap (wC g h now snap has hist ent res num col) H locs → lv_has ls 8 [(2, .int x2), (3, .int x3), (4, .int x4), (5, .int x5)] → f_X10_shortestBase_b72 (f_X10_shortestBase_b23 n23) now x2 x3 x4 x5 = some (Sum.inr out) → W p l e { frames := 4, cells := 0, slots := 0, locals := 104 } s m [.ref (h 0), .int a1].toArray below meth c H locs 0 0 ZZ (F0 m 72 ls []) := by
        intro H locs ls x2 x3 x4 x5 hw hl hf
        refine lv_iinc (v := x5 + 1) (lv' := [(5, .int (x5 + 1)), (2, .int x2), (3, .int x3), (4, .int x4)]) hx hb dX10_shortestBase_72 hl (k := 3) rfl rfl (by decide) rfl (fun ls hl => ?_)
        refine lv_goto (tgt := 23) hx hb dX10_shortestBase_75 (by decide) ?_
        exact ih23 _ _ _ x2 x3 x4 (x5 + 1) hw (lv_sub hl [1, 2, 3, 0] rfl) hf
      intro H locs ls x2 x3 x4 x5 hw hl hf
      refine lv_iload hx hb dX10_shortestBase_23 (lv_at hl 3 rfl) ?_
      refine lv_bipush (v := 16) hx hb dX10_shortestBase_25 (by decide) ?_
      refine lv_icmp_gt (tgt := 78) hx hb dX10_shortestBase_27 (by decide) (fun c27 => ?_) (fun c27 => ?_)
      · replace hf := ip c27 hf
        refine lv_iload_n hx hb dX10_shortestBase_78 rfl (lv_at hl 1 rfl) ?_
        exact hret _ _ _ _ _ (jr hf) dX10_shortestBase_79 hw
      · replace hf := iq c27 hf
        refine lv_iload hx hb dX10_shortestBase_30 (lv_at hl 3 rfl) ?_
        refine lv_iload_n hx hb dX10_shortestBase_32 rfl (lv_at hl 0 rfl) ?_
        refine lv_i2l hx hb dX10_shortestBase_33 rfl ?_
        refine lv_iload hx hb dX10_shortestBase_34 (lv_at hl 3 rfl) ?_
        obtain ⟨v36, hv36, hf⟩ := ob_e hf
        refine xcallS (ws' := (wC g h now snap has hist ent res num col)) (st1 := [.long v36, .int x5]) (n := 34) E hw [.long x2.toInt64, .int x5] [] (met_X0_coprimePart l g x2.toInt64 x5 v36 hv36) rfl (by decide) rfl rfl [0, 1, 2, 3, 4, 5, 6, 7, 8, 9, 10, 11, 12, 13, 14, 15, 16, 17, 18, 19, 20, 21, 22, 23, 24, 25, 26, 27, 28, 29, 30, 31, 32, 33] rfl (by decide +kernel) rfl qw618 k_X0_coprimePart ⟨rfl, rfl, Nat.le_of_ble_eq_true rfl, Nat.le_of_ble_eq_true rfl⟩ ⟨Nat.zero_le _, Nat.zero_le _⟩ hl.1 (Nat.le_of_ble_eq_true rfl) dX10_shortestBase_36 rfl (fun H locs hw => ?_)
        refine lv_iload hx hb dX10_shortestBase_39 (lv_at hl 2 rfl) ?_
        obtain ⟨v41, hv41, hf⟩ := ob_e hf
        refine xcallS (ws' := (wC g h now snap has hist ent res num col)) (st1 := [.int v41]) (n := 34) E hw [.int x5, .long v36, .int x4] [] (met_X0_timesToOne l g x5 v36 x4 v41 hv41) rfl (by decide) rfl rfl [0, 1, 2, 3, 4, 5, 6, 7, 8, 9, 10, 11, 12, 13, 14, 15, 16, 17, 18, 19, 20, 21, 22, 23, 24, 25, 26, 27, 28, 29, 30, 31, 32, 33] rfl (by decide +kernel) rfl qw622 k_X0_timesToOne ⟨rfl, rfl, Nat.le_of_ble_eq_true rfl, Nat.le_of_ble_eq_true rfl⟩ ⟨Nat.zero_le _, Nat.zero_le _⟩ hl.1 (Nat.le_of_ble_eq_true rfl) dX10_shortestBase_41 rfl (fun H locs hw => ?_)
        refine lv_istore (lv' := [(6, .int v41), (2, .int x2), (3, .int x3), (4, .int x4), (5, .int x5)]) hx hb dX10_shortestBase_44 hl (by decide) rfl (fun ls hl => ?_)
        refine lv_iload_n hx hb dX10_shortestBase_46 rfl (lv_at hl 1 rfl) ?_
        refine lv_i2l hx hb dX10_shortestBase_47 rfl ?_
        refine lv_iload hx hb dX10_shortestBase_48 (lv_at hl 4 rfl) ?_
        obtain ⟨v50, hv50, hf⟩ := ob_e hf
        refine xcallS (ws' := (wC g h now snap has hist ent res num col)) (st1 := [.int v50]) (n := 34) E hw [.long x2.toInt64, .int x5] [] (met_X0_head l g x2.toInt64 x5 v50 hv50) rfl (by decide) rfl rfl [0, 1, 2, 3, 4, 5, 6, 7, 8, 9, 10, 11, 12, 13, 14, 15, 16, 17, 18, 19, 20, 21, 22, 23, 24, 25, 26, 27, 28, 29, 30, 31, 32, 33] rfl (by decide +kernel) rfl qw366 k_X0_head ⟨rfl, rfl, Nat.le_of_ble_eq_true rfl, Nat.le_of_ble_eq_true rfl⟩ ⟨Nat.zero_le _, Nat.zero_le _⟩ hl.1 (Nat.le_of_ble_eq_true rfl) dX10_shortestBase_50 rfl (fun H locs hw => ?_)
        refine lv_iload hx hb dX10_shortestBase_53 (lv_at hl 0 rfl) ?_
        refine lv_iadd hx hb dX10_shortestBase_55 ?_
        refine lv_istore (lv' := [(7, .int (v50 + v41)), (6, .int v41), (2, .int x2), (3, .int x3), (4, .int x4), (5, .int x5)]) hx hb dX10_shortestBase_56 hl (by decide) rfl (fun ls hl => ?_)
        refine lv_iload hx hb dX10_shortestBase_58 (lv_at hl 0 rfl) ?_
        refine lv_iload hx hb dX10_shortestBase_60 (lv_at hl 4 rfl) ?_
        refine lv_icmp_ge (tgt := 72) hx hb dX10_shortestBase_62 (by decide) (fun c62 => ?_) (fun c62 => ?_)
        · replace hf := ip c62 hf
          exact b72 _ _ _ x2 x3 x4 x5 hw (lv_sub hl [2, 3, 4, 5] rfl) hf
        · replace hf := iq c62 hf
          refine lv_iload hx hb dX10_shortestBase_65 (lv_at hl 0 rfl) ?_
          refine lv_istore (lv' := [(4, .int (v50 + v41)), (7, .int (v50 + v41)), (6, .int v41), (2, .int x2), (3, .int x3), (5, .int x5)]) hx hb dX10_shortestBase_67 hl (by decide) rfl (fun ls hl => ?_)
          refine lv_iload hx hb dX10_shortestBase_69 (lv_at hl 5 rfl) ?_
          refine lv_istore_n (lv' := [(3, .int x5), (4, .int (v50 + v41)), (7, .int (v50 + v41)), (6, .int v41), (2, .int x2), (5, .int x5)]) hx hb dX10_shortestBase_71 rfl hl (by decide) rfl (fun ls hl => ?_)
          exact b72 _ _ _ x2 x5 (v50 + v41) x5 hw (lv_sub hl [4, 0, 1, 5] rfl) hf
  refine lv_iload_n hx hb dX10_shortestBase_0 rfl (lv_at hl 1 rfl) ?_
  obtain ⟨v1, hv1, hf⟩ := ob_e hf
  rcases v1 with t1 | u1
  · exact nlr hf
  · refine xcallS (ws' := (wC g h now snap has hist ent res num col)) (st1 := []) (n := 34) E hw [.int a1] [] (met_X10_requireAccount l g a1 u1 hv1) rfl (by decide) rfl rfl [0, 1, 2, 3, 4, 5, 6, 7, 8, 9, 10, 11, 12, 13, 14, 15, 16, 17, 18, 19, 20, 21, 22, 23, 24, 25, 26, 27, 28, 29, 30, 31, 32, 33] rfl (by decide +kernel) rfl qw310 k_X10_requireAccount ⟨rfl, rfl, Nat.le_of_ble_eq_true rfl, Nat.le_of_ble_eq_true rfl⟩ ⟨Nat.zero_le _, Nat.zero_le _⟩ hl.1 (Nat.le_of_ble_eq_true rfl) dX10_shortestBase_1 rfl (fun H locs hw => ?_)
    refine lv_aload_n hx hb dX10_shortestBase_4 rfl (lv_at hl 0 rfl) ?_
    refine xget (v := .ref (h 1)) E hw 0 rfl rfl 0 (by decide) inw10 qw186 rfl rfl dX10_shortestBase_5 ?_
    refine lv_iload_n hx hb dX10_shortestBase_8 rfl (lv_at hl 1 rfl) ?_
    obtain ⟨v9, hv9, hf⟩ := ob_e hf
    refine xcallV (ws' := (wC g h now snap has hist ent res num col)) (st1 := [.int v9]) (n := 34) E hw [.int a1] [1, 2, 3] (met_X7_denominatorOf l g h 1 now a1 v9 hv9) rfl (by decide) rfl rfl [0, 34, 35, 36, 4, 5, 6, 7, 8, 9, 10, 11, 12, 13, 14, 15, 16, 17, 18, 19, 20, 21, 22, 23, 24, 25, 26, 27, 28, 29, 30, 31, 32, 33] rfl (by decide +kernel) rfl rfl rfl rfl qw340 k_X7_denominatorOf ⟨rfl, rfl, Nat.le_of_ble_eq_true rfl, Nat.le_of_ble_eq_true rfl⟩ ⟨Nat.zero_le _, Nat.zero_le _⟩ hl.1 (Nat.le_of_ble_eq_true rfl) dX10_shortestBase_9 rfl (fun H locs hw => ?_)
    refine lv_istore_n (lv' := [(2, .int v9), (0, .ref (h 0)), (1, .int a1)]) hx hb dX10_shortestBase_12 rfl hl (by decide) rfl (fun ls hl => ?_)
    refine lv_iconst (v := 2) hx hb dX10_shortestBase_13 (by decide) ?_
    refine lv_istore_n (lv' := [(3, .int 2), (2, .int v9), (0, .ref (h 0)), (1, .int a1)]) hx hb dX10_shortestBase_14 rfl hl (by decide) rfl (fun ls hl => ?_)
    refine lv_sipush (v := 1998) hx hb dX10_shortestBase_15 (by decide) ?_
    refine lv_istore (lv' := [(4, .int 1998), (3, .int 2), (2, .int v9), (0, .ref (h 0)), (1, .int a1)]) hx hb dX10_shortestBase_18 hl (by decide) rfl (fun ls hl => ?_)
    refine lv_iconst (v := 2) hx hb dX10_shortestBase_20 (by decide) ?_
    refine lv_istore (lv' := [(5, .int 2), (4, .int 1998), (3, .int 2), (2, .int v9), (0, .ref (h 0)), (1, .int a1)]) hx hb dX10_shortestBase_21 hl (by decide) rfl (fun ls hl => ?_)
    exact b23 xfuel _ _ _ v9 2 1998 2 hw (lv_sub hl [3, 2, 1, 0] rfl) hf
theorem k_X10_writtenLength : xKV yX10_writtenLength cX10_writtenLength 6 (some .int) 1 := ⟨qw363, qw364, qw13, qw365, by decide +kernel, by decide +kernel, by decide +kernel⟩
set_option maxHeartbeats 4000000 in
set_option maxRecDepth 100000 in
theorem met_X10_writtenLength (l : Launch) (g : xG) (h : Nat → Nat) (now : SC) (snap : SC) (has : Int32) (hist : HC) (ent : EC) (res : RC) (num : NC) (col : CC) (a1 : Int32) (out : Int32) (hf : f_X10_writtenLength now a1 = some (Sum.inr out)) : xM l yX10_writtenLength (xC yX10_writtenLength cX10_writtenLength 6 (some .int)) { frames := 3, cells := 0, slots := 0, locals := 79 } g (wC g h now snap has hist ent res num col) [.ref (h 0), .int a1] (some (.int out)) (wC g h now snap has hist ent res num col) := by
  refine xof (by decide) (Nat.le_of_ble_eq_true rfl) ⟨rfl, rfl⟩ ?_
  intro p e s m below meth c A ls E hr hlocks hw hl hpost hAe
  have hx := E.1.1
  have hb := E.1.2.1
  have hown := E.1.2.2.2.1
  have hts := E.1.2.2.2.2
  generalize hZ : (MQ below (xPost g (wC g h now snap has hist ent res num col) (wC g h now snap has hist ent res num col) s.heap.size (some (.int out))) [.ref (h 0), .int a1].toArray s 0 0 A) = ZZ
  have hret : ∀ (pc : Nat) (H : Heap) (locs : List Loc) (ls : Array Slot) (v : Int32), v = out → decode cX10_writtenLength pc = .ok (.ireturn, 1) → xW g A s.heap (wC g h now snap has hist ent res num col) H locs → W p l e { frames := 3, cells := 0, slots := 0, locals := 79 } s m [.ref (h 0), .int a1].toArray below meth c H locs 0 0 ZZ (F0 m pc ls [.int v]) := by
    intro pc H locs ls v he hd hw
    subst he
    rw [← hZ]
    exact W.iret hx hb hr (hpost H locs hw).1 (hpost H locs hw).2 hd hlocks
  clear hpost
  have b85 : ∀ (H : Heap) (locs : List Loc) (ls : Array Slot) (x2 : Int32) (x5 : Int32), xW g A s.heap (wC g h now snap has hist ent res num col) H locs → lv_has ls 6 [(2, .int x2), (5, .int x5)] → f_X10_writtenLength_b85 now x2 x5 = some (Sum.inr out) → W p l e { frames := 3, cells := 0, slots := 0, locals := 79 } s m [.ref (h 0), .int a1].toArray below meth c H locs 0 0 ZZ (F0 m 85 ls []) := by
    intro H locs ls x2 x5 hw hl hf
    refine lv_iload hx hb dX10_writtenLength_85 (lv_at hl 1 rfl) ?_
    refine lv_if_le (tgt := 97) hx hb dX10_writtenLength_87 (by decide) (fun c87 => ?_) (fun c87 => ?_)
    · replace hf := ip c87 hf
      refine lv_iload_n hx hb dX10_writtenLength_97 rfl (lv_at hl 0 rfl) ?_
      exact hret _ _ _ _ _ (jr hf) dX10_writtenLength_98 hw
    · replace hf := iq c87 hf
      refine lv_iload_n hx hb dX10_writtenLength_90 rfl (lv_at hl 0 rfl) ?_
      refine lv_iconst (v := 2) hx hb dX10_writtenLength_91 (by decide) ?_
      refine lv_iload hx hb dX10_writtenLength_92 (lv_at hl 1 rfl) ?_
      refine lv_iadd hx hb dX10_writtenLength_94 ?_
      refine lv_iadd hx hb dX10_writtenLength_95 ?_
      refine lv_istore_n (lv' := [(2, .int (x2 + (2 + x5))), (5, .int x5)]) hx hb dX10_writtenLength_96 rfl hl (by decide) rfl (fun ls hl => ?_)
      refine lv_iload_n hx hb dX10_writtenLength_97 rfl (lv_at hl 0 rfl) ?_
      exact hret _ _ _ _ _ (jr hf) dX10_writtenLength_98 hw
  refine lv_iload_n hx hb dX10_writtenLength_0 rfl (lv_at hl 1 rfl) ?_
  obtain ⟨v1, hv1, hf⟩ := ob_e hf
  rcases v1 with t1 | u1
  · exact nlr hf
  · refine xcallS (ws' := (wC g h now snap has hist ent res num col)) (st1 := []) (n := 34) E hw [.int a1] [] (met_X10_requireAccount l g a1 u1 hv1) rfl (by decide) rfl rfl [0, 1, 2, 3, 4, 5, 6, 7, 8, 9, 10, 11, 12, 13, 14, 15, 16, 17, 18, 19, 20, 21, 22, 23, 24, 25, 26, 27, 28, 29, 30, 31, 32, 33] rfl (by decide +kernel) rfl qw310 k_X10_requireAccount ⟨rfl, rfl, Nat.le_of_ble_eq_true rfl, Nat.le_of_ble_eq_true rfl⟩ ⟨Nat.zero_le _, Nat.zero_le _⟩ hl.1 (Nat.le_of_ble_eq_true rfl) dX10_writtenLength_1 rfl (fun H locs hw => ?_)
    refine lv_aload_n hx hb dX10_writtenLength_4 rfl (lv_at hl 0 rfl) ?_
    refine xget (v := .ref (h 1)) E hw 0 rfl rfl 0 (by decide) inw10 qw186 rfl rfl dX10_writtenLength_5 ?_
    refine lv_iload_n hx hb dX10_writtenLength_8 rfl (lv_at hl 1 rfl) ?_
    obtain ⟨v9, hv9, hf⟩ := ob_e hf
    refine xcallV (ws' := (wC g h now snap has hist ent res num col)) (st1 := [.int v9]) (n := 34) E hw [.int a1] [1, 2, 3] (met_X7_wholeOf l g h 1 now a1 v9 hv9) rfl (by decide) rfl rfl [0, 34, 35, 36, 4, 5, 6, 7, 8, 9, 10, 11, 12, 13, 14, 15, 16, 17, 18, 19, 20, 21, 22, 23, 24, 25, 26, 27, 28, 29, 30, 31, 32, 33] rfl (by decide +kernel) rfl rfl rfl rfl qw348 k_X7_wholeOf ⟨rfl, rfl, Nat.le_of_ble_eq_true rfl, Nat.le_of_ble_eq_true rfl⟩ ⟨Nat.zero_le _, Nat.zero_le _⟩ hl.1 (Nat.le_of_ble_eq_true rfl) dX10_writtenLength_9 rfl (fun H locs hw => ?_)
    refine lv_aload_n hx hb dX10_writtenLength_12 rfl (lv_at hl 0 rfl) ?_
    refine xget (v := .ref (h 1)) E hw 0 rfl rfl 0 (by decide) inw10 qw186 rfl rfl dX10_writtenLength_13 ?_
    refine xget (v := .int now.1) E hw 1 rfl rfl 0 (by decide) inw7 qw46 rfl rfl dX10_writtenLength_16 ?_
    obtain ⟨v19, hv19, hf⟩ := ob_e hf
    refine xcallS (ws' := (wC g h now snap has hist ent res num col)) (st1 := [.int v19]) (n := 34) E hw [.int v9, .int now.1] [] (met_X9_count l g v9 now.1 v19 hv19) rfl (by decide) rfl rfl [0, 1, 2, 3, 4, 5, 6, 7, 8, 9, 10, 11, 12, 13, 14, 15, 16, 17, 18, 19, 20, 21, 22, 23, 24, 25, 26, 27, 28, 29, 30, 31, 32, 33] rfl (by decide +kernel) rfl qw352 k_X9_count ⟨rfl, rfl, Nat.le_of_ble_eq_true rfl, Nat.le_of_ble_eq_true rfl⟩ ⟨Nat.zero_le _, Nat.zero_le _⟩ hl.1 (Nat.le_of_ble_eq_true rfl) dX10_writtenLength_19 rfl (fun H locs hw => ?_)
    refine lv_istore_n (lv' := [(2, .int v19), (0, .ref (h 0)), (1, .int a1)]) hx hb dX10_writtenLength_22 rfl hl (by decide) rfl (fun ls hl => ?_)
    refine lv_aload_n hx hb dX10_writtenLength_23 rfl (lv_at hl 1 rfl) ?_
    refine xget (v := .ref (h 1)) E hw 0 rfl rfl 0 (by decide) inw10 qw186 rfl rfl dX10_writtenLength_24 ?_
    refine lv_iload_n hx hb dX10_writtenLength_27 rfl (lv_at hl 2 rfl) ?_
    obtain ⟨v28, hv28, hf⟩ := ob_e hf
    refine xcallV (ws' := (wC g h now snap has hist ent res num col)) (st1 := [.int v28]) (n := 34) E hw [.int a1] [1, 2, 3] (met_X7_denominatorOf l g h 1 now a1 v28 hv28) rfl (by decide) rfl rfl [0, 34, 35, 36, 4, 5, 6, 7, 8, 9, 10, 11, 12, 13, 14, 15, 16, 17, 18, 19, 20, 21, 22, 23, 24, 25, 26, 27, 28, 29, 30, 31, 32, 33] rfl (by decide +kernel) rfl rfl rfl rfl qw340 k_X7_denominatorOf ⟨rfl, rfl, Nat.le_of_ble_eq_true rfl, Nat.le_of_ble_eq_true rfl⟩ ⟨Nat.zero_le _, Nat.zero_le _⟩ hl.1 (Nat.le_of_ble_eq_true rfl) dX10_writtenLength_28 rfl (fun H locs hw => ?_)
    refine lv_istore_n (lv' := [(3, .int v28), (2, .int v19), (0, .ref (h 0)), (1, .int a1)]) hx hb dX10_writtenLength_31 rfl hl (by decide) rfl (fun ls hl => ?_)
    refine lv_iload_n hx hb dX10_writtenLength_32 rfl (lv_at hl 0 rfl) ?_
    refine lv_i2l hx hb dX10_writtenLength_33 rfl ?_
    refine lv_aload_n hx hb dX10_writtenLength_34 rfl (lv_at hl 2 rfl) ?_
    refine xget (v := .ref (h 1)) E hw 0 rfl rfl 0 (by decide) inw10 qw186 rfl rfl dX10_writtenLength_35 ?_
    refine xget (v := .int now.1) E hw 1 rfl rfl 0 (by decide) inw7 qw46 rfl rfl dX10_writtenLength_38 ?_
    obtain ⟨v41, hv41, hf⟩ := ob_e hf
    refine xcallS (ws' := (wC g h now snap has hist ent res num col)) (st1 := [.int v41]) (n := 34) E hw [.long v28.toInt64, .int now.1] [] (met_X0_head l g v28.toInt64 now.1 v41 hv41) rfl (by decide) rfl rfl [0, 1, 2, 3, 4, 5, 6, 7, 8, 9, 10, 11, 12, 13, 14, 15, 16, 17, 18, 19, 20, 21, 22, 23, 24, 25, 26, 27, 28, 29, 30, 31, 32, 33] rfl (by decide +kernel) rfl qw366 k_X0_head ⟨rfl, rfl, Nat.le_of_ble_eq_true rfl, Nat.le_of_ble_eq_true rfl⟩ ⟨Nat.zero_le _, Nat.zero_le _⟩ hl.1 (Nat.le_of_ble_eq_true rfl) dX10_writtenLength_41 rfl (fun H locs hw => ?_)
    refine lv_istore (lv' := [(4, .int v41), (3, .int v28), (2, .int v19), (0, .ref (h 0)), (1, .int a1)]) hx hb dX10_writtenLength_44 hl (by decide) rfl (fun ls hl => ?_)
    refine lv_aload_n hx hb dX10_writtenLength_46 rfl (lv_at hl 3 rfl) ?_
    refine xget (v := .ref (h 1)) E hw 0 rfl rfl 0 (by decide) inw10 qw186 rfl rfl dX10_writtenLength_47 ?_
    refine lv_iload_n hx hb dX10_writtenLength_50 rfl (lv_at hl 4 rfl) ?_
    obtain ⟨v51, hv51, hf⟩ := ob_e hf
    refine xcallV (ws' := (wC g h now snap has hist ent res num col)) (st1 := [.long v51]) (n := 34) E hw [.int a1] [1, 2, 3] (met_X7_restOf l g h 1 now a1 v51 hv51) rfl (by decide) rfl rfl [0, 34, 35, 36, 4, 5, 6, 7, 8, 9, 10, 11, 12, 13, 14, 15, 16, 17, 18, 19, 20, 21, 22, 23, 24, 25, 26, 27, 28, 29, 30, 31, 32, 33] rfl (by decide +kernel) rfl rfl rfl rfl qw376 k_X7_restOf ⟨rfl, rfl, Nat.le_of_ble_eq_true rfl, Nat.le_of_ble_eq_true rfl⟩ ⟨Nat.zero_le _, Nat.zero_le _⟩ hl.1 (Nat.le_of_ble_eq_true rfl) dX10_writtenLength_51 rfl (fun H locs hw => ?_)
    refine lv_iload_n hx hb dX10_writtenLength_54 rfl (lv_at hl 1 rfl) ?_
    refine lv_i2l hx hb dX10_writtenLength_55 rfl ?_
    refine lv_aload_n hx hb dX10_writtenLength_56 rfl (lv_at hl 3 rfl) ?_
    refine xget (v := .ref (h 1)) E hw 0 rfl rfl 0 (by decide) inw10 qw186 rfl rfl dX10_writtenLength_57 ?_
    refine xget (v := .int now.1) E hw 1 rfl rfl 0 (by decide) inw7 qw46 rfl rfl dX10_writtenLength_60 ?_
    refine lv_iload hx hb dX10_writtenLength_63 (lv_at hl 0 rfl) ?_
    obtain ⟨v65, hv65, hf⟩ := ob_e hf
    refine xcallS (ws' := (wC g h now snap has hist ent res num col)) (st1 := [.int v65]) (n := 34) E hw [.long v51, .long v28.toInt64, .int now.1, .int v41] [] (met_X0_periodByDividing l g v51 v28.toInt64 now.1 v41 v65 hv65) rfl (by decide) rfl rfl [0, 1, 2, 3, 4, 5, 6, 7, 8, 9, 10, 11, 12, 13, 14, 15, 16, 17, 18, 19, 20, 21, 22, 23, 24, 25, 26, 27, 28, 29, 30, 31, 32, 33] rfl (by decide +kernel) rfl qw380 k_X0_periodByDividing ⟨rfl, rfl, Nat.le_of_ble_eq_true rfl, Nat.le_of_ble_eq_true rfl⟩ ⟨Nat.zero_le _, Nat.zero_le _⟩ hl.1 (Nat.le_of_ble_eq_true rfl) dX10_writtenLength_65 rfl (fun H locs hw => ?_)
    refine lv_istore (lv' := [(5, .int v65), (4, .int v41), (3, .int v28), (2, .int v19), (0, .ref (h 0)), (1, .int a1)]) hx hb dX10_writtenLength_68 hl (by decide) rfl (fun ls hl => ?_)
    refine lv_iload hx hb dX10_writtenLength_70 (lv_at hl 1 rfl) ?_
    refine lv_iload hx hb dX10_writtenLength_72 (lv_at hl 0 rfl) ?_
    refine lv_iadd hx hb dX10_writtenLength_74 ?_
    refine lv_if_le (tgt := 85) hx hb dX10_writtenLength_75 (by decide) (fun c75 => ?_) (fun c75 => ?_)
    · replace hf := ip c75 hf
      exact b85 _ _ _ v19 v65 hw (lv_sub hl [3, 0] rfl) hf
    · replace hf := iq c75 hf
      refine lv_iload_n hx hb dX10_writtenLength_78 rfl (lv_at hl 3 rfl) ?_
      refine lv_iconst (v := 1) hx hb dX10_writtenLength_79 (by decide) ?_
      refine lv_iload hx hb dX10_writtenLength_80 (lv_at hl 1 rfl) ?_
      refine lv_iadd hx hb dX10_writtenLength_82 ?_
      refine lv_iadd hx hb dX10_writtenLength_83 ?_
      refine lv_istore_n (lv' := [(2, .int (v19 + (1 + v41))), (5, .int v65), (4, .int v41), (3, .int v28), (0, .ref (h 0)), (1, .int a1)]) hx hb dX10_writtenLength_84 rfl hl (by decide) rfl (fun ls hl => ?_)
      exact b85 _ _ _ (v19 + (1 + v41)) v65 hw (lv_sub hl [0, 1] rfl) hf
theorem k_X10_writtenAt : xKV yX10_writtenAt cX10_writtenAt 5 (some .int) 2 := ⟨qw359, qw360, qw13, qw361, by decide +kernel, by decide +kernel, by decide +kernel⟩
set_option maxHeartbeats 4000000 in
set_option maxRecDepth 100000 in
theorem met_X10_writtenAt (l : Launch) (g : xG) (h : Nat → Nat) (now : SC) (snap : SC) (has : Int32) (hist : HC) (ent : EC) (res : RC) (num : NC) (col : CC) (a1 : Int32) (a2 : Int32) (out : Int32) (hf : f_X10_writtenAt now a1 a2 = some (Sum.inr out)) : xM l yX10_writtenAt (xC yX10_writtenAt cX10_writtenAt 5 (some .int)) { frames := 4, cells := 0, slots := 0, locals := 106 } g (wC g h now snap has hist ent res num col) [.ref (h 0), .int a1, .int a2] (some (.int out)) (wC g h now snap has hist ent res num col) := by
  refine xof (by decide) (Nat.le_of_ble_eq_true rfl) ⟨rfl, rfl⟩ ?_
  intro p e s m below meth c A ls E hr hlocks hw hl hpost hAe
  have hx := E.1.1
  have hb := E.1.2.1
  have hown := E.1.2.2.2.1
  have hts := E.1.2.2.2.2
  generalize hZ : (MQ below (xPost g (wC g h now snap has hist ent res num col) (wC g h now snap has hist ent res num col) s.heap.size (some (.int out))) [.ref (h 0), .int a1, .int a2].toArray s 0 0 A) = ZZ
  have hret : ∀ (pc : Nat) (H : Heap) (locs : List Loc) (ls : Array Slot) (v : Int32), v = out → decode cX10_writtenAt pc = .ok (.ireturn, 1) → xW g A s.heap (wC g h now snap has hist ent res num col) H locs → W p l e { frames := 4, cells := 0, slots := 0, locals := 106 } s m [.ref (h 0), .int a1, .int a2].toArray below meth c H locs 0 0 ZZ (F0 m pc ls [.int v]) := by
    intro pc H locs ls v he hd hw
    subst he
    rw [← hZ]
    exact W.iret hx hb hr (hpost H locs hw).1 (hpost H locs hw).2 hd hlocks
  clear hpost
  have b17 : ∀ (H : Heap) (locs : List Loc) (ls : Array Slot), xW g A s.heap (wC g h now snap has hist ent res num col) H locs → lv_has ls 5 [] → f_X10_writtenAt_b17 now = some (Sum.inr out) → W p l e { frames := 4, cells := 0, slots := 0, locals := 106 } s m [.ref (h 0), .int a1, .int a2].toArray below meth c H locs 0 0 ZZ (F0 m 17 ls []) := by
    intro H locs ls hw hl hf
    exact nlr hf
  refine lv_iload_n hx hb dX10_writtenAt_0 rfl (lv_at hl 1 rfl) ?_
  obtain ⟨v1, hv1, hf⟩ := ob_e hf
  rcases v1 with t1 | u1
  · exact nlr hf
  · refine xcallS (ws' := (wC g h now snap has hist ent res num col)) (st1 := []) (n := 34) E hw [.int a1] [] (met_X10_requireAccount l g a1 u1 hv1) rfl (by decide) rfl rfl [0, 1, 2, 3, 4, 5, 6, 7, 8, 9, 10, 11, 12, 13, 14, 15, 16, 17, 18, 19, 20, 21, 22, 23, 24, 25, 26, 27, 28, 29, 30, 31, 32, 33] rfl (by decide +kernel) rfl qw310 k_X10_requireAccount ⟨rfl, rfl, Nat.le_of_ble_eq_true rfl, Nat.le_of_ble_eq_true rfl⟩ ⟨Nat.zero_le _, Nat.zero_le _⟩ hl.1 (Nat.le_of_ble_eq_true rfl) dX10_writtenAt_1 rfl (fun H locs hw => ?_)
    refine lv_iload_n hx hb dX10_writtenAt_4 rfl (lv_at hl 2 rfl) ?_
    refine lv_if_lt (tgt := 17) hx hb dX10_writtenAt_5 (by decide) (fun c5 => ?_) (fun c5 => ?_)
    · replace hf := ip c5 hf
      exact b17 _ _ _  hw (lv_sub hl [] rfl) hf
    · replace hf := iq c5 hf
      refine lv_iload_n hx hb dX10_writtenAt_8 rfl (lv_at hl 2 rfl) ?_
      refine lv_aload_n hx hb dX10_writtenAt_9 rfl (lv_at hl 0 rfl) ?_
      refine lv_iload_n hx hb dX10_writtenAt_10 rfl (lv_at hl 1 rfl) ?_
      obtain ⟨v11, hv11, hf⟩ := ob_e hf
      rcases v11 with t11 | u11
      · exact nlr hf
      · refine xcallV (ws' := (wC g h now snap has hist ent res num col)) (st1 := [.int u11, .int a2]) (n := 34) E hw [.int a1] [0, 1, 2, 3, 4, 5, 6, 7, 8, 9, 10, 11, 12, 13, 14, 15, 16, 17, 18, 19, 20, 21, 22, 23, 24, 25, 26, 27, 28, 29, 30, 31, 32, 33] (met_X10_writtenLength l g h now snap has hist ent res num col a1 u11 hv11) rfl (by decide) rfl rfl [34, 35, 36, 37, 38, 39, 40, 41, 42, 43, 44, 45, 46, 47, 48, 49, 50, 51, 52, 53, 54, 55, 56, 57, 58, 59, 60, 61, 62, 63, 64, 65, 66, 67] rfl (by decide +kernel) rfl rfl rfl rfl qw362 k_X10_writtenLength ⟨rfl, rfl, Nat.le_of_ble_eq_true rfl, Nat.le_of_ble_eq_true rfl⟩ ⟨Nat.zero_le _, Nat.zero_le _⟩ hl.1 (Nat.le_of_ble_eq_true rfl) dX10_writtenAt_11 rfl (fun H locs hw => ?_)
        refine lv_icmp_lt (tgt := 27) hx hb dX10_writtenAt_14 (by decide) (fun c14 => ?_) (fun c14 => ?_)
        · replace hf := ip c14 hf
          refine lv_aload_n hx hb dX10_writtenAt_27 rfl (lv_at hl 0 rfl) ?_
          refine xget (v := .ref (h 1)) E hw 0 rfl rfl 0 (by decide) inw10 qw186 rfl rfl dX10_writtenAt_28 ?_
          refine lv_iload_n hx hb dX10_writtenAt_31 rfl (lv_at hl 1 rfl) ?_
          obtain ⟨v32, hv32, hf⟩ := ob_e hf
          refine xcallV (ws' := (wC g h now snap has hist ent res num col)) (st1 := [.int v32]) (n := 34) E hw [.int a1] [1, 2, 3] (met_X7_wholeOf l g h 1 now a1 v32 hv32) rfl (by decide) rfl rfl [0, 34, 35, 36, 4, 5, 6, 7, 8, 9, 10, 11, 12, 13, 14, 15, 16, 17, 18, 19, 20, 21, 22, 23, 24, 25, 26, 27, 28, 29, 30, 31, 32, 33] rfl (by decide +kernel) rfl rfl rfl rfl qw348 k_X7_wholeOf ⟨rfl, rfl, Nat.le_of_ble_eq_true rfl, Nat.le_of_ble_eq_true rfl⟩ ⟨Nat.zero_le _, Nat.zero_le _⟩ hl.1 (Nat.le_of_ble_eq_true rfl) dX10_writtenAt_32 rfl (fun H locs hw => ?_)
          refine lv_istore_n (lv' := [(3, .int v32), (0, .ref (h 0)), (1, .int a1), (2, .int a2)]) hx hb dX10_writtenAt_35 rfl hl (by decide) rfl (fun ls hl => ?_)
          refine lv_iload_n hx hb dX10_writtenAt_36 rfl (lv_at hl 0 rfl) ?_
          refine lv_aload_n hx hb dX10_writtenAt_37 rfl (lv_at hl 1 rfl) ?_
          refine xget (v := .ref (h 1)) E hw 0 rfl rfl 0 (by decide) inw10 qw186 rfl rfl dX10_writtenAt_38 ?_
          refine xget (v := .int now.1) E hw 1 rfl rfl 0 (by decide) inw7 qw46 rfl rfl dX10_writtenAt_41 ?_
          obtain ⟨v44, hv44, hf⟩ := ob_e hf
          refine xcallS (ws' := (wC g h now snap has hist ent res num col)) (st1 := [.int v44]) (n := 34) E hw [.int v32, .int now.1] [] (met_X9_count l g v32 now.1 v44 hv44) rfl (by decide) rfl rfl [0, 1, 2, 3, 4, 5, 6, 7, 8, 9, 10, 11, 12, 13, 14, 15, 16, 17, 18, 19, 20, 21, 22, 23, 24, 25, 26, 27, 28, 29, 30, 31, 32, 33] rfl (by decide +kernel) rfl qw352 k_X9_count ⟨rfl, rfl, Nat.le_of_ble_eq_true rfl, Nat.le_of_ble_eq_true rfl⟩ ⟨Nat.zero_le _, Nat.zero_le _⟩ hl.1 (Nat.le_of_ble_eq_true rfl) dX10_writtenAt_44 rfl (fun H locs hw => ?_)
          refine lv_istore (lv' := [(4, .int v44), (3, .int v32), (0, .ref (h 0)), (1, .int a1), (2, .int a2)]) hx hb dX10_writtenAt_47 hl (by decide) rfl (fun ls hl => ?_)
          refine lv_iload_n hx hb dX10_writtenAt_49 rfl (lv_at hl 4 rfl) ?_
          refine lv_iload hx hb dX10_writtenAt_50 (lv_at hl 0 rfl) ?_
          refine lv_icmp_ge (tgt := 76) hx hb dX10_writtenAt_52 (by decide) (fun c52 => ?_) (fun c52 => ?_)
          · replace hf := ip c52 hf
            refine lv_aload_n hx hb dX10_writtenAt_76 rfl (lv_at hl 2 rfl) ?_
            refine lv_iload_n hx hb dX10_writtenAt_77 rfl (lv_at hl 3 rfl) ?_
            refine lv_iload_n hx hb dX10_writtenAt_78 rfl (lv_at hl 4 rfl) ?_
            refine lv_iload hx hb dX10_writtenAt_79 (lv_at hl 0 rfl) ?_
            refine lv_isub hx hb dX10_writtenAt_81 ?_
            obtain ⟨v82, hv82, hf⟩ := ob_e hf
            refine xcallV (ws' := (wC g h now snap has hist ent res num col)) (st1 := [.int v82]) (n := 34) E hw [.int a1, .int (a2 - v44)] [0, 1, 2, 3, 4, 5, 6, 7, 8, 9, 10, 11, 12, 13, 14, 15, 16, 17, 18, 19, 20, 21, 22, 23, 24, 25, 26, 27, 28, 29, 30, 31, 32, 33] (met_X10_codeBehind l g h now snap has hist ent res num col a1 (a2 - v44) v82 hv82) rfl (by decide) rfl rfl [34, 35, 36, 37, 38, 39, 40, 41, 42, 43, 44, 45, 46, 47, 48, 49, 50, 51, 52, 53, 54, 55, 56, 57, 58, 59, 60, 61, 62, 63, 64, 65, 66, 67] rfl (by decide +kernel) rfl rfl rfl rfl qw396 k_X10_codeBehind ⟨rfl, rfl, Nat.le_of_ble_eq_true rfl, Nat.le_of_ble_eq_true rfl⟩ ⟨Nat.zero_le _, Nat.zero_le _⟩ hl.1 (Nat.le_of_ble_eq_true rfl) dX10_writtenAt_82 rfl (fun H locs hw => ?_)
            exact hret _ _ _ _ _ (jr hf) dX10_writtenAt_85 hw
          · replace hf := iq c52 hf
            refine lv_iload_n hx hb dX10_writtenAt_55 rfl (lv_at hl 1 rfl) ?_
            refine lv_aload_n hx hb dX10_writtenAt_56 rfl (lv_at hl 2 rfl) ?_
            refine xget (v := .ref (h 1)) E hw 0 rfl rfl 0 (by decide) inw10 qw186 rfl rfl dX10_writtenAt_57 ?_
            refine xget (v := .int now.1) E hw 1 rfl rfl 0 (by decide) inw7 qw46 rfl rfl dX10_writtenAt_60 ?_
            refine lv_iload hx hb dX10_writtenAt_63 (lv_at hl 0 rfl) ?_
            refine lv_iconst (v := 1) hx hb dX10_writtenAt_65 (by decide) ?_
            refine lv_isub hx hb dX10_writtenAt_66 ?_
            refine lv_iload_n hx hb dX10_writtenAt_67 rfl (lv_at hl 4 rfl) ?_
            refine lv_isub hx hb dX10_writtenAt_68 ?_
            obtain ⟨v69, hv69, hf⟩ := ob_e hf
            refine xcallS (ws' := (wC g h now snap has hist ent res num col)) (st1 := [.int v69]) (n := 34) E hw [.int v32, .int now.1, .int ((v44 - 1) - a2)] [] (met_X9_byDividing l g v32 now.1 ((v44 - 1) - a2) v69 hv69) rfl (by decide) rfl rfl [0, 1, 2, 3, 4, 5, 6, 7, 8, 9, 10, 11, 12, 13, 14, 15, 16, 17, 18, 19, 20, 21, 22, 23, 24, 25, 26, 27, 28, 29, 30, 31, 32, 33] rfl (by decide +kernel) rfl qw387 k_X9_byDividing ⟨rfl, rfl, Nat.le_of_ble_eq_true rfl, Nat.le_of_ble_eq_true rfl⟩ ⟨Nat.zero_le _, Nat.zero_le _⟩ hl.1 (Nat.le_of_ble_eq_true rfl) dX10_writtenAt_69 rfl (fun H locs hw => ?_)
            obtain ⟨v72, hv72, hf⟩ := ob_e hf
            refine xcallS (ws' := (wC g h now snap has hist ent res num col)) (st1 := [.int v72]) (n := 34) E hw [.int v69] [] (met_X10_codeOfDigit l g v69 v72 hv72) rfl (by decide) rfl rfl [0, 1, 2, 3, 4, 5, 6, 7, 8, 9, 10, 11, 12, 13, 14, 15, 16, 17, 18, 19, 20, 21, 22, 23, 24, 25, 26, 27, 28, 29, 30, 31, 32, 33] rfl (by decide +kernel) rfl qw393 k_X10_codeOfDigit ⟨rfl, rfl, Nat.le_of_ble_eq_true rfl, Nat.le_of_ble_eq_true rfl⟩ ⟨Nat.zero_le _, Nat.zero_le _⟩ hl.1 (Nat.le_of_ble_eq_true rfl) dX10_writtenAt_72 rfl (fun H locs hw => ?_)
            exact hret _ _ _ _ _ (jr hf) dX10_writtenAt_75 hw
        · replace hf := iq c14 hf
          exact b17 _ _ _  hw (lv_sub hl [] rfl) hf
theorem k_X10_carries : xKV yX10_carries cX10_carries 3 (some .int) 2 := ⟨qw636, qw637, qw13, qw638, by decide +kernel, by decide +kernel, by decide +kernel⟩
set_option maxHeartbeats 4000000 in
set_option maxRecDepth 100000 in
theorem met_X10_carries (l : Launch) (g : xG) (h : Nat → Nat) (now : SC) (snap : SC) (has : Int32) (hist : HC) (ent : EC) (res : RC) (num : NC) (col : CC) (a1 : Int32) (a2 : Int32) (out : Int32 × CC) (hf : f_X10_carries now col a1 a2 = some (Sum.inr out)) : xM l yX10_carries (xC yX10_carries cX10_carries 3 (some .int)) { frames := 4, cells := 0, slots := 0, locals := 103 } g (wC g h now snap has hist ent res num col) [.ref (h 0), .int a1, .int a2] (some (.int out.1)) (wC g h now snap has hist ent res num out.2) := by
  refine xof (by decide) (Nat.le_of_ble_eq_true rfl) ⟨rfl, rfl⟩ ?_
  intro p e s m below meth c A ls E hr hlocks hw hl hpost hAe
  have hx := E.1.1
  have hb := E.1.2.1
  have hown := E.1.2.2.2.1
  have hts := E.1.2.2.2.2
  generalize hZ : (MQ below (xPost g (wC g h now snap has hist ent res num col) (wC g h now snap has hist ent res num out.2) s.heap.size (some (.int out.1))) [.ref (h 0), .int a1, .int a2].toArray s 0 0 A) = ZZ
  have hret : ∀ (pc : Nat) (H : Heap) (locs : List Loc) (ls : Array Slot) (v : Int32) (ccol : CC), (v, ccol) = out → decode cX10_carries pc = .ok (.ireturn, 1) → xW g A s.heap (wC g h now snap has hist ent res num ccol) H locs → W p l e { frames := 4, cells := 0, slots := 0, locals := 103 } s m [.ref (h 0), .int a1, .int a2].toArray below meth c H locs 0 0 ZZ (F0 m pc ls [.int v]) := by
    intro pc H locs ls v ccol he hd hw
    subst he
    rw [← hZ]
    exact W.iret hx hb hr (hpost H locs hw).1 (hpost H locs hw).2 hd hlocks
  clear hpost
  refine lv_iload_n hx hb dX10_carries_0 rfl (lv_at hl 1 rfl) ?_
  refine lv_iload_n hx hb dX10_carries_1 rfl (lv_at hl 2 rfl) ?_
  obtain ⟨v2, hv2, hf⟩ := ob_e hf
  rcases v2 with t2 | u2
  · exact nlr hf
  · refine xcallS (ws' := (wC g h now snap has hist ent res num col)) (st1 := []) (n := 34) E hw [.int a1, .int a2] [] (met_X10_requireAccounts l g a1 a2 u2 hv2) rfl (by decide) rfl rfl [0, 1, 2, 3, 4, 5, 6, 7, 8, 9, 10, 11, 12, 13, 14, 15, 16, 17, 18, 19, 20, 21, 22, 23, 24, 25, 26, 27, 28, 29, 30, 31, 32, 33] rfl (by decide +kernel) rfl qw498 k_X10_requireAccounts ⟨rfl, rfl, Nat.le_of_ble_eq_true rfl, Nat.le_of_ble_eq_true rfl⟩ ⟨Nat.zero_le _, Nat.zero_le _⟩ hl.1 (Nat.le_of_ble_eq_true rfl) dX10_carries_2 rfl (fun H locs hw => ?_)
    refine lv_aload_n hx hb dX10_carries_5 rfl (lv_at hl 0 rfl) ?_
    refine lv_iload_n hx hb dX10_carries_6 rfl (lv_at hl 1 rfl) ?_
    refine lv_iload_n hx hb dX10_carries_7 rfl (lv_at hl 2 rfl) ?_
    obtain ⟨v8, hv8, hf⟩ := ob_e hf
    refine xcallV (ws' := (wC g h now snap has hist ent res num v8)) (st1 := []) (n := 34) E hw [.int a1, .int a2] [0, 1, 2, 3, 4, 5, 6, 7, 8, 9, 10, 11, 12, 13, 14, 15, 16, 17, 18, 19, 20, 21, 22, 23, 24, 25, 26, 27, 28, 29, 30, 31, 32, 33] (met_X10_formColumns l g h now snap has hist ent res num col a1 a2 v8 hv8) rfl (by decide) rfl rfl [34, 35, 36, 37, 38, 39, 40, 41, 42, 43, 44, 45, 46, 47, 48, 49, 50, 51, 52, 53, 54, 55, 56, 57, 58, 59, 60, 61, 62, 63, 64, 65, 66, 67] rfl (by decide +kernel) rfl rfl rfl rfl qw639 k_X10_formColumns ⟨rfl, rfl, Nat.le_of_ble_eq_true rfl, Nat.le_of_ble_eq_true rfl⟩ ⟨Nat.zero_le _, Nat.zero_le _⟩ hl.1 (Nat.le_of_ble_eq_true rfl) dX10_carries_8 rfl (fun H locs hw => ?_)
    refine lv_aload_n hx hb dX10_carries_11 rfl (lv_at hl 0 rfl) ?_
    refine xget (v := .ref (h 32)) E hw 0 rfl rfl 7 (by decide) inw10 qw193 rfl rfl dX10_carries_12 ?_
    refine xget (v := .int v8.2.1) E hw 32 rfl rfl 1 (by decide) inw1 qw173 rfl rfl dX10_carries_15 ?_
    exact hret _ _ _ _ _ _ (jr hf) dX10_carries_18 hw
theorem k_X10_longestChain : xKV yX10_longestChain cX10_longestChain 3 (some .int) 2 := ⟨qw664, qw665, qw13, qw666, by decide +kernel, by decide +kernel, by decide +kernel⟩
set_option maxHeartbeats 4000000 in
set_option maxRecDepth 100000 in
theorem met_X10_longestChain (l : Launch) (g : xG) (h : Nat → Nat) (now : SC) (snap : SC) (has : Int32) (hist : HC) (ent : EC) (res : RC) (num : NC) (col : CC) (a1 : Int32) (a2 : Int32) (out : Int32 × CC) (hf : f_X10_longestChain now col a1 a2 = some (Sum.inr out)) : xM l yX10_longestChain (xC yX10_longestChain cX10_longestChain 3 (some .int)) { frames := 4, cells := 0, slots := 0, locals := 103 } g (wC g h now snap has hist ent res num col) [.ref (h 0), .int a1, .int a2] (some (.int out.1)) (wC g h now snap has hist ent res num out.2) := by
  refine xof (by decide) (Nat.le_of_ble_eq_true rfl) ⟨rfl, rfl⟩ ?_
  intro p e s m below meth c A ls E hr hlocks hw hl hpost hAe
  have hx := E.1.1
  have hb := E.1.2.1
  have hown := E.1.2.2.2.1
  have hts := E.1.2.2.2.2
  generalize hZ : (MQ below (xPost g (wC g h now snap has hist ent res num col) (wC g h now snap has hist ent res num out.2) s.heap.size (some (.int out.1))) [.ref (h 0), .int a1, .int a2].toArray s 0 0 A) = ZZ
  have hret : ∀ (pc : Nat) (H : Heap) (locs : List Loc) (ls : Array Slot) (v : Int32) (ccol : CC), (v, ccol) = out → decode cX10_longestChain pc = .ok (.ireturn, 1) → xW g A s.heap (wC g h now snap has hist ent res num ccol) H locs → W p l e { frames := 4, cells := 0, slots := 0, locals := 103 } s m [.ref (h 0), .int a1, .int a2].toArray below meth c H locs 0 0 ZZ (F0 m pc ls [.int v]) := by
    intro pc H locs ls v ccol he hd hw
    subst he
    rw [← hZ]
    exact W.iret hx hb hr (hpost H locs hw).1 (hpost H locs hw).2 hd hlocks
  clear hpost
  refine lv_iload_n hx hb dX10_longestChain_0 rfl (lv_at hl 1 rfl) ?_
  refine lv_iload_n hx hb dX10_longestChain_1 rfl (lv_at hl 2 rfl) ?_
  obtain ⟨v2, hv2, hf⟩ := ob_e hf
  rcases v2 with t2 | u2
  · exact nlr hf
  · refine xcallS (ws' := (wC g h now snap has hist ent res num col)) (st1 := []) (n := 34) E hw [.int a1, .int a2] [] (met_X10_requireAccounts l g a1 a2 u2 hv2) rfl (by decide) rfl rfl [0, 1, 2, 3, 4, 5, 6, 7, 8, 9, 10, 11, 12, 13, 14, 15, 16, 17, 18, 19, 20, 21, 22, 23, 24, 25, 26, 27, 28, 29, 30, 31, 32, 33] rfl (by decide +kernel) rfl qw498 k_X10_requireAccounts ⟨rfl, rfl, Nat.le_of_ble_eq_true rfl, Nat.le_of_ble_eq_true rfl⟩ ⟨Nat.zero_le _, Nat.zero_le _⟩ hl.1 (Nat.le_of_ble_eq_true rfl) dX10_longestChain_2 rfl (fun H locs hw => ?_)
    refine lv_aload_n hx hb dX10_longestChain_5 rfl (lv_at hl 0 rfl) ?_
    refine lv_iload_n hx hb dX10_longestChain_6 rfl (lv_at hl 1 rfl) ?_
    refine lv_iload_n hx hb dX10_longestChain_7 rfl (lv_at hl 2 rfl) ?_
    obtain ⟨v8, hv8, hf⟩ := ob_e hf
    refine xcallV (ws' := (wC g h now snap has hist ent res num v8)) (st1 := []) (n := 34) E hw [.int a1, .int a2] [0, 1, 2, 3, 4, 5, 6, 7, 8, 9, 10, 11, 12, 13, 14, 15, 16, 17, 18, 19, 20, 21, 22, 23, 24, 25, 26, 27, 28, 29, 30, 31, 32, 33] (met_X10_formColumns l g h now snap has hist ent res num col a1 a2 v8 hv8) rfl (by decide) rfl rfl [34, 35, 36, 37, 38, 39, 40, 41, 42, 43, 44, 45, 46, 47, 48, 49, 50, 51, 52, 53, 54, 55, 56, 57, 58, 59, 60, 61, 62, 63, 64, 65, 66, 67] rfl (by decide +kernel) rfl rfl rfl rfl qw639 k_X10_formColumns ⟨rfl, rfl, Nat.le_of_ble_eq_true rfl, Nat.le_of_ble_eq_true rfl⟩ ⟨Nat.zero_le _, Nat.zero_le _⟩ hl.1 (Nat.le_of_ble_eq_true rfl) dX10_longestChain_8 rfl (fun H locs hw => ?_)
    refine lv_aload_n hx hb dX10_longestChain_11 rfl (lv_at hl 0 rfl) ?_
    refine xget (v := .ref (h 32)) E hw 0 rfl rfl 7 (by decide) inw10 qw193 rfl rfl dX10_longestChain_12 ?_
    refine xget (v := .int v8.2.2.1) E hw 32 rfl rfl 2 (by decide) inw1 qw175 rfl rfl dX10_longestChain_15 ?_
    exact hret _ _ _ _ _ _ (jr hf) dX10_longestChain_18 hw
theorem k_X10_sumByColumns : xKV yX10_sumByColumns cX10_sumByColumns 3 (some .long) 2 := ⟨qw652, qw653, qw13, qw654, by decide +kernel, by decide +kernel, by decide +kernel⟩
set_option maxHeartbeats 4000000 in
set_option maxRecDepth 100000 in
theorem met_X10_sumByColumns (l : Launch) (g : xG) (h : Nat → Nat) (now : SC) (snap : SC) (has : Int32) (hist : HC) (ent : EC) (res : RC) (num : NC) (col : CC) (a1 : Int32) (a2 : Int32) (out : Int64 × CC) (hf : f_X10_sumByColumns now col a1 a2 = some (Sum.inr out)) : xM l yX10_sumByColumns (xC yX10_sumByColumns cX10_sumByColumns 3 (some .long)) { frames := 4, cells := 0, slots := 0, locals := 103 } g (wC g h now snap has hist ent res num col) [.ref (h 0), .int a1, .int a2] (some (.long out.1)) (wC g h now snap has hist ent res num out.2) := by
  refine xof (by decide) (Nat.le_of_ble_eq_true rfl) ⟨rfl, rfl⟩ ?_
  intro p e s m below meth c A ls E hr hlocks hw hl hpost hAe
  have hx := E.1.1
  have hb := E.1.2.1
  have hown := E.1.2.2.2.1
  have hts := E.1.2.2.2.2
  generalize hZ : (MQ below (xPost g (wC g h now snap has hist ent res num col) (wC g h now snap has hist ent res num out.2) s.heap.size (some (.long out.1))) [.ref (h 0), .int a1, .int a2].toArray s 0 0 A) = ZZ
  have hret : ∀ (pc : Nat) (H : Heap) (locs : List Loc) (ls : Array Slot) (v : Int64) (ccol : CC), (v, ccol) = out → decode cX10_sumByColumns pc = .ok (.lreturn, 1) → xW g A s.heap (wC g h now snap has hist ent res num ccol) H locs → W p l e { frames := 4, cells := 0, slots := 0, locals := 103 } s m [.ref (h 0), .int a1, .int a2].toArray below meth c H locs 0 0 ZZ (F0 m pc ls [.long v]) := by
    intro pc H locs ls v ccol he hd hw
    subst he
    rw [← hZ]
    exact W.lret hx hb hr (hpost H locs hw).1 (hpost H locs hw).2 hd hlocks
  clear hpost
  refine lv_iload_n hx hb dX10_sumByColumns_0 rfl (lv_at hl 1 rfl) ?_
  refine lv_iload_n hx hb dX10_sumByColumns_1 rfl (lv_at hl 2 rfl) ?_
  obtain ⟨v2, hv2, hf⟩ := ob_e hf
  rcases v2 with t2 | u2
  · exact nlr hf
  · refine xcallS (ws' := (wC g h now snap has hist ent res num col)) (st1 := []) (n := 34) E hw [.int a1, .int a2] [] (met_X10_requireAccounts l g a1 a2 u2 hv2) rfl (by decide) rfl rfl [0, 1, 2, 3, 4, 5, 6, 7, 8, 9, 10, 11, 12, 13, 14, 15, 16, 17, 18, 19, 20, 21, 22, 23, 24, 25, 26, 27, 28, 29, 30, 31, 32, 33] rfl (by decide +kernel) rfl qw498 k_X10_requireAccounts ⟨rfl, rfl, Nat.le_of_ble_eq_true rfl, Nat.le_of_ble_eq_true rfl⟩ ⟨Nat.zero_le _, Nat.zero_le _⟩ hl.1 (Nat.le_of_ble_eq_true rfl) dX10_sumByColumns_2 rfl (fun H locs hw => ?_)
    refine lv_aload_n hx hb dX10_sumByColumns_5 rfl (lv_at hl 0 rfl) ?_
    refine lv_iload_n hx hb dX10_sumByColumns_6 rfl (lv_at hl 1 rfl) ?_
    refine lv_iload_n hx hb dX10_sumByColumns_7 rfl (lv_at hl 2 rfl) ?_
    obtain ⟨v8, hv8, hf⟩ := ob_e hf
    refine xcallV (ws' := (wC g h now snap has hist ent res num v8)) (st1 := []) (n := 34) E hw [.int a1, .int a2] [0, 1, 2, 3, 4, 5, 6, 7, 8, 9, 10, 11, 12, 13, 14, 15, 16, 17, 18, 19, 20, 21, 22, 23, 24, 25, 26, 27, 28, 29, 30, 31, 32, 33] (met_X10_formColumns l g h now snap has hist ent res num col a1 a2 v8 hv8) rfl (by decide) rfl rfl [34, 35, 36, 37, 38, 39, 40, 41, 42, 43, 44, 45, 46, 47, 48, 49, 50, 51, 52, 53, 54, 55, 56, 57, 58, 59, 60, 61, 62, 63, 64, 65, 66, 67] rfl (by decide +kernel) rfl rfl rfl rfl qw639 k_X10_formColumns ⟨rfl, rfl, Nat.le_of_ble_eq_true rfl, Nat.le_of_ble_eq_true rfl⟩ ⟨Nat.zero_le _, Nat.zero_le _⟩ hl.1 (Nat.le_of_ble_eq_true rfl) dX10_sumByColumns_8 rfl (fun H locs hw => ?_)
    refine lv_aload_n hx hb dX10_sumByColumns_11 rfl (lv_at hl 0 rfl) ?_
    refine xget (v := .ref (h 32)) E hw 0 rfl rfl 7 (by decide) inw10 qw193 rfl rfl dX10_sumByColumns_12 ?_
    refine lv_aload_n hx hb dX10_sumByColumns_15 rfl (lv_at hl 0 rfl) ?_
    refine xget (v := .ref (h 1)) E hw 0 rfl rfl 0 (by decide) inw10 qw186 rfl rfl dX10_sumByColumns_16 ?_
    refine xget (v := .int now.1) E hw 1 rfl rfl 0 (by decide) inw7 qw46 rfl rfl dX10_sumByColumns_19 ?_
    obtain ⟨v22, hv22, hf⟩ := ob_e hf
    refine xcallV (ws' := (wC g h now snap has hist ent res num v8)) (st1 := [.long v22]) (n := 34) E hw [.int now.1] [32, 33] (met_X1_total l g h 32 v8 now.1 v22 hv22) rfl (by decide) rfl rfl [0, 1, 2, 3, 4, 5, 6, 7, 8, 9, 10, 11, 12, 13, 14, 15, 16, 17, 18, 19, 20, 21, 22, 23, 24, 25, 26, 27, 28, 29, 30, 31, 34, 35] rfl (by decide +kernel) rfl rfl rfl rfl qw655 k_X1_total ⟨rfl, rfl, Nat.le_of_ble_eq_true rfl, Nat.le_of_ble_eq_true rfl⟩ ⟨Nat.zero_le _, Nat.zero_le _⟩ hl.1 (Nat.le_of_ble_eq_true rfl) dX10_sumByColumns_22 rfl (fun H locs hw => ?_)
    exact hret _ _ _ _ _ _ (jr hf) dX10_sumByColumns_25 hw
theorem k_X10_readIn : xKV yX10_readIn cX10_readIn 8 (some .long) 2 := ⟨qw593, qw594, qw13, qw595, by decide +kernel, by decide +kernel, by decide +kernel⟩
set_option maxHeartbeats 4000000 in
set_option maxRecDepth 100000 in
theorem met_X10_readIn (l : Launch) (g : xG) (h : Nat → Nat) (now : SC) (snap : SC) (has : Int32) (hist : HC) (ent : EC) (res : RC) (num : NC) (col : CC) (a1 : Int32) (a2 : Int32) (out : Int64) (hf : f_X10_readIn now a1 a2 = some (Sum.inr out)) : xM l yX10_readIn (xC yX10_readIn cX10_readIn 8 (some .long)) { frames := 2, cells := 0, slots := 0, locals := 51 } g (wC g h now snap has hist ent res num col) [.ref (h 0), .int a1, .int a2] (some (.long out)) (wC g h now snap has hist ent res num col) := by
  refine xof (by decide) (Nat.le_of_ble_eq_true rfl) ⟨rfl, rfl⟩ ?_
  intro p e s m below meth c A ls E hr hlocks hw hl hpost hAe
  have hx := E.1.1
  have hb := E.1.2.1
  have hown := E.1.2.2.2.1
  have hts := E.1.2.2.2.2
  generalize hZ : (MQ below (xPost g (wC g h now snap has hist ent res num col) (wC g h now snap has hist ent res num col) s.heap.size (some (.long out))) [.ref (h 0), .int a1, .int a2].toArray s 0 0 A) = ZZ
  have hret : ∀ (pc : Nat) (H : Heap) (locs : List Loc) (ls : Array Slot) (v : Int64), v = out → decode cX10_readIn pc = .ok (.lreturn, 1) → xW g A s.heap (wC g h now snap has hist ent res num col) H locs → W p l e { frames := 2, cells := 0, slots := 0, locals := 51 } s m [.ref (h 0), .int a1, .int a2].toArray below meth c H locs 0 0 ZZ (F0 m pc ls [.long v]) := by
    intro pc H locs ls v he hd hw
    subst he
    rw [← hZ]
    exact W.lret hx hb hr (hpost H locs hw).1 (hpost H locs hw).2 hd hlocks
  clear hpost
  have b35 : ∀ n35 : Nat, ∀ (H : Heap) (locs : List Loc) (ls : Array Slot) (x2 : Int32) (x3 : Int32) (x4 : Int64) (x6 : Int32), xW g A s.heap (wC g h now snap has hist ent res num col) H locs → lv_has ls 8 [(0, .ref (h 0)), (2, .int x2), (3, .int x3), (4, .long x4), (6, .int x6)] → f_X10_readIn_b35 n35 now x2 x3 x4 x6 = some (Sum.inr out) → W p l e { frames := 2, cells := 0, slots := 0, locals := 51 } s m [.ref (h 0), .int a1, .int a2].toArray below meth c H locs 0 0 ZZ (F0 m 35 ls []) := by
    intro n35
    induction n35 with
    | zero =>
      intro H locs ls x2 x3 x4 x6 hw hl hf
      exact nn hf
    | succ n35 ih35 =>
      intro H locs ls x2 x3 x4 x6 hw hl hf
      refine lv_iload hx hb dX10_readIn_35 (lv_at hl 4 rfl) ?_
      refine lv_if_lt (tgt := 91) hx hb dX10_readIn_37 (by decide) (fun c37 => ?_) (fun c37 => ?_)
      · replace hf := ip c37 hf
        refine lv_lload hx hb dX10_readIn_91 (lv_at hl 3 rfl) ?_
        exact hret _ _ _ _ _ (jr hf) dX10_readIn_93 hw
      · replace hf := iq c37 hf
        refine lv_iload_n hx hb dX10_readIn_40 rfl (lv_at hl 2 rfl) ?_
        refine lv_aload_n hx hb dX10_readIn_41 rfl (lv_at hl 0 rfl) ?_
        refine xget (v := .ref (h 1)) E hw 0 rfl rfl 0 (by decide) inw10 qw186 rfl rfl dX10_readIn_42 ?_
        refine xget (v := .int now.1) E hw 1 rfl rfl 0 (by decide) inw7 qw46 rfl rfl dX10_readIn_45 ?_
        refine lv_iload hx hb dX10_readIn_48 (lv_at hl 4 rfl) ?_
        obtain ⟨v50, hv50, hf⟩ := ob_e hf
        refine xcallS (ws' := (wC g h now snap has hist ent res num col)) (st1 := [.int v50]) (n := 34) E hw [.int x3, .int now.1, .int x6] [] (met_X9_byDividing l g x3 now.1 x6 v50 hv50) rfl (by decide) rfl rfl [0, 1, 2, 3, 4, 5, 6, 7, 8, 9, 10, 11, 12, 13, 14, 15, 16, 17, 18, 19, 20, 21, 22, 23, 24, 25, 26, 27, 28, 29, 30, 31, 32, 33] rfl (by decide +kernel) rfl qw387 k_X9_byDividing ⟨rfl, rfl, Nat.le_of_ble_eq_true rfl, Nat.le_of_ble_eq_true rfl⟩ ⟨Nat.zero_le _, Nat.zero_le _⟩ hl.1 (Nat.le_of_ble_eq_true rfl) dX10_readIn_50 rfl (fun H locs hw => ?_)
        refine lv_istore (lv' := [(7, .int v50), (0, .ref (h 0)), (2, .int x2), (3, .int x3), (4, .long x4), (6, .int x6)]) hx hb dX10_readIn_53 hl (by decide) rfl (fun ls hl => ?_)
        refine lv_lload hx hb dX10_readIn_55 (lv_at hl 4 rfl) ?_
        refine lv_iload_n hx hb dX10_readIn_57 rfl (lv_at hl 2 rfl) ?_
        refine lv_i2l hx hb dX10_readIn_58 rfl ?_
        refine lv_lmul hx hb dX10_readIn_59 ?_
        refine lv_iload hx hb dX10_readIn_60 (lv_at hl 0 rfl) ?_
        refine lv_i2l hx hb dX10_readIn_62 rfl ?_
        refine lv_ladd hx hb dX10_readIn_63 ?_
        refine lv_lstore (lv' := [(4, .long ((x4 * x2.toInt64) + v50.toInt64)), (7, .int v50), (0, .ref (h 0)), (2, .int x2), (3, .int x3), (6, .int x6)]) hx hb dX10_readIn_64 hl (by decide) rfl (fun ls hl => ?_)
        refine lv_iload hx hb dX10_readIn_66 (lv_at hl 1 rfl) ?_
        refine lv_iload_n hx hb dX10_readIn_68 rfl (lv_at hl 3 rfl) ?_
        refine lv_icmp_ge (tgt := 81) hx hb dX10_readIn_69 (by decide) (fun c69 => ?_) (fun c69 => ?_)
        · replace hf := ip c69 hf
          refine lv_ldc2 hx hb hown (hts _ qw597) dX10_readIn_81 ?_
          exact hret _ _ _ _ _ (jr hf) dX10_readIn_84 hw
        · replace hf := iq c69 hf
          refine lv_lload hx hb dX10_readIn_72 (lv_at hl 0 rfl) ?_
          refine lv_ldc2 hx hb hown (hts _ qw596) dX10_readIn_74 ?_
          refine xlc_le (tgt := 85) hx hb dX10_readIn_77 dX10_readIn_78 (by decide) (fun c77 => ?_) (fun c77 => ?_)
          · replace hf := iq c77 hf
            refine lv_iinc (v := x6 + (-1)) (lv' := [(6, .int (x6 + (-1))), (4, .long ((x4 * x2.toInt64) + v50.toInt64)), (7, .int v50), (0, .ref (h 0)), (2, .int x2), (3, .int x3)]) hx hb dX10_readIn_85 hl (k := 5) rfl rfl (by decide) rfl (fun ls hl => ?_)
            refine lv_goto (tgt := 35) hx hb dX10_readIn_88 (by decide) ?_
            exact ih35 _ _ _ x2 x3 ((x4 * x2.toInt64) + v50.toInt64) (x6 + (-1)) hw (lv_sub hl [3, 4, 5, 1, 0] rfl) hf
          · replace hf := ip c77 hf
            refine lv_ldc2 hx hb hown (hts _ qw597) dX10_readIn_81 ?_
            exact hret _ _ _ _ _ (jr hf) dX10_readIn_84 hw
  refine lv_iload_n hx hb dX10_readIn_0 rfl (lv_at hl 1 rfl) ?_
  obtain ⟨v1, hv1, hf⟩ := ob_e hf
  rcases v1 with t1 | u1
  · exact nlr hf
  · refine xcallS (ws' := (wC g h now snap has hist ent res num col)) (st1 := []) (n := 34) E hw [.int a1] [] (met_X10_requireAccount l g a1 u1 hv1) rfl (by decide) rfl rfl [0, 1, 2, 3, 4, 5, 6, 7, 8, 9, 10, 11, 12, 13, 14, 15, 16, 17, 18, 19, 20, 21, 22, 23, 24, 25, 26, 27, 28, 29, 30, 31, 32, 33] rfl (by decide +kernel) rfl qw310 k_X10_requireAccount ⟨rfl, rfl, Nat.le_of_ble_eq_true rfl, Nat.le_of_ble_eq_true rfl⟩ ⟨Nat.zero_le _, Nat.zero_le _⟩ hl.1 (Nat.le_of_ble_eq_true rfl) dX10_readIn_1 rfl (fun H locs hw => ?_)
    refine lv_iload_n hx hb dX10_readIn_4 rfl (lv_at hl 2 rfl) ?_
    obtain ⟨v5, hv5, hf⟩ := ob_e hf
    rcases v5 with t5 | u5
    · exact nlr hf
    · refine xcallS (ws' := (wC g h now snap has hist ent res num col)) (st1 := []) (n := 34) E hw [.int a2] [] (met_X10_requireBase l g a2 u5 hv5) rfl (by decide) rfl rfl [0, 1, 2, 3, 4, 5, 6, 7, 8, 9, 10, 11, 12, 13, 14, 15, 16, 17, 18, 19, 20, 21, 22, 23, 24, 25, 26, 27, 28, 29, 30, 31, 32, 33] rfl (by decide +kernel) rfl qw443 k_X10_requireBase ⟨rfl, rfl, Nat.le_of_ble_eq_true rfl, Nat.le_of_ble_eq_true rfl⟩ ⟨Nat.zero_le _, Nat.zero_le _⟩ hl.1 (Nat.le_of_ble_eq_true rfl) dX10_readIn_5 rfl (fun H locs hw => ?_)
      refine lv_aload_n hx hb dX10_readIn_8 rfl (lv_at hl 0 rfl) ?_
      refine xget (v := .ref (h 1)) E hw 0 rfl rfl 0 (by decide) inw10 qw186 rfl rfl dX10_readIn_9 ?_
      refine lv_iload_n hx hb dX10_readIn_12 rfl (lv_at hl 1 rfl) ?_
      obtain ⟨v13, hv13, hf⟩ := ob_e hf
      refine xcallV (ws' := (wC g h now snap has hist ent res num col)) (st1 := [.int v13]) (n := 34) E hw [.int a1] [1, 2, 3] (met_X7_wholeOf l g h 1 now a1 v13 hv13) rfl (by decide) rfl rfl [0, 34, 35, 36, 4, 5, 6, 7, 8, 9, 10, 11, 12, 13, 14, 15, 16, 17, 18, 19, 20, 21, 22, 23, 24, 25, 26, 27, 28, 29, 30, 31, 32, 33] rfl (by decide +kernel) rfl rfl rfl rfl qw348 k_X7_wholeOf ⟨rfl, rfl, Nat.le_of_ble_eq_true rfl, Nat.le_of_ble_eq_true rfl⟩ ⟨Nat.zero_le _, Nat.zero_le _⟩ hl.1 (Nat.le_of_ble_eq_true rfl) dX10_readIn_13 rfl (fun H locs hw => ?_)
      refine lv_istore_n (lv' := [(3, .int v13), (0, .ref (h 0)), (1, .int a1), (2, .int a2)]) hx hb dX10_readIn_16 rfl hl (by decide) rfl (fun ls hl => ?_)
      refine lv_lconst (v := 0) hx hb dX10_readIn_17 (by decide) ?_
      refine lv_lstore (lv' := [(4, .long 0), (3, .int v13), (0, .ref (h 0)), (1, .int a1), (2, .int a2)]) hx hb dX10_readIn_18 hl (by decide) rfl (fun ls hl => ?_)
      refine lv_iload_n hx hb dX10_readIn_20 rfl (lv_at hl 1 rfl) ?_
      refine lv_aload_n hx hb dX10_readIn_21 rfl (lv_at hl 2 rfl) ?_
      refine xget (v := .ref (h 1)) E hw 0 rfl rfl 0 (by decide) inw10 qw186 rfl rfl dX10_readIn_22 ?_
      refine xget (v := .int now.1) E hw 1 rfl rfl 0 (by decide) inw7 qw46 rfl rfl dX10_readIn_25 ?_
      obtain ⟨v28, hv28, hf⟩ := ob_e hf
      refine xcallS (ws' := (wC g h now snap has hist ent res num col)) (st1 := [.int v28]) (n := 34) E hw [.int v13, .int now.1] [] (met_X9_count l g v13 now.1 v28 hv28) rfl (by decide) rfl rfl [0, 1, 2, 3, 4, 5, 6, 7, 8, 9, 10, 11, 12, 13, 14, 15, 16, 17, 18, 19, 20, 21, 22, 23, 24, 25, 26, 27, 28, 29, 30, 31, 32, 33] rfl (by decide +kernel) rfl qw352 k_X9_count ⟨rfl, rfl, Nat.le_of_ble_eq_true rfl, Nat.le_of_ble_eq_true rfl⟩ ⟨Nat.zero_le _, Nat.zero_le _⟩ hl.1 (Nat.le_of_ble_eq_true rfl) dX10_readIn_28 rfl (fun H locs hw => ?_)
      refine lv_iconst (v := 1) hx hb dX10_readIn_31 (by decide) ?_
      refine lv_isub hx hb dX10_readIn_32 ?_
      refine lv_istore (lv' := [(6, .int (v28 - 1)), (4, .long 0), (3, .int v13), (0, .ref (h 0)), (1, .int a1), (2, .int a2)]) hx hb dX10_readIn_33 hl (by decide) rfl (fun ls hl => ?_)
      exact b35 xfuel _ _ _ a2 v13 0 (v28 - 1) hw (lv_sub hl [3, 5, 2, 1, 0] rfl) hf
