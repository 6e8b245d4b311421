theorem k_X10_saveAndStore : xKV yX10_saveAndStore cX10_saveAndStore 2 none 1 := ⟨qw708, qw12, qw66, qw709, by decide +kernel, by decide +kernel, by decide +kernel⟩
set_option maxHeartbeats 4000000 in
set_option maxRecDepth 100000 in
theorem met_X10_saveAndStore (l : Launch) (g : xG) (h : Nat → Nat) (now : SC) (snap : SC) (has : Int32) (hist : HC) (ent : EC) (res : RC) (num : NC) (col : CC) (a1 : Int32) (out : SC × HC) (hf : f_X10_saveAndStore now hist res a1 = some out) : xM l yX10_saveAndStore (xC yX10_saveAndStore cX10_saveAndStore 2 none) { frames := 2, cells := 0, slots := 0, locals := 50 } g (wC g h now snap has hist ent res num col) [.ref (h 0), .int a1] none (wC g h out.1 snap has out.2 ent res num col) := by
  refine xof (by decide) (Nat.le_of_ble_eq_true rfl) ⟨rfl, rfl⟩ ?_
  intro p e s m below meth c A ls E hr hlocks hw hl hpost hAe
  have hx := E.1.1
  have hb := E.1.2.1
  have hown := E.1.2.2.2.1
  have hts := E.1.2.2.2.2
  generalize hZ : (MQ below (xPost g (wC g h now snap has hist ent res num col) (wC g h out.1 snap has out.2 ent res num col) s.heap.size none) [.ref (h 0), .int a1].toArray s 0 0 A) = ZZ
  have hret : ∀ (pc : Nat) (H : Heap) (locs : List Loc) (ls : Array Slot) (cnow : SC) (chist : HC), (cnow, chist) = out → decode cX10_saveAndStore pc = .ok (.return_, 1) → xW g A s.heap (wC g h cnow snap has chist ent res num col) H locs → W p l e { frames := 2, cells := 0, slots := 0, locals := 50 } s m [.ref (h 0), .int a1].toArray below meth c H locs 0 0 ZZ (F0 m pc ls []) := by
    intro pc H locs ls cnow chist he hd hw
    subst he
    rw [← hZ]
    exact W.vret hx hb hr (hpost H locs hw).1 (hpost H locs hw).2 hd hlocks
  clear hpost
  refine lv_aload_n hx hb dX10_saveAndStore_0 rfl (lv_at hl 0 rfl) ?_
  refine xget (v := .ref (h 7)) E hw 0 rfl rfl 3 (by decide) inw10 qw249 rfl rfl dX10_saveAndStore_1 ?_
  refine lv_aload_n hx hb dX10_saveAndStore_4 rfl (lv_at hl 0 rfl) ?_
  refine xget (v := .ref (h 1)) E hw 0 rfl rfl 0 (by decide) inw10 qw246 rfl rfl dX10_saveAndStore_5 ?_
  obtain ⟨v8, hv8, hf⟩ := ob_e hf
  refine xcallV (ws' := (wC g h now snap has v8 ent res num col)) (st1 := []) (n := 34) E hw [.ref (h 1)] [7, 8, 9, 10, 11, 12, 13, 14, 15, 16, 17, 18, 19, 20, 21, 22, 23, 24, 25, 26, 1, 2, 3] (met_X3_push l g h 7 1 hist now v8 hv8) rfl (by decide) rfl rfl [0, 54, 55, 56, 4, 5, 6, 34, 35, 36, 37, 38, 39, 40, 41, 42, 43, 44, 45, 46, 47, 48, 49, 50, 51, 52, 53, 27, 28, 29, 30, 31, 32, 33] rfl (by decide +kernel) rfl rfl rfl rfl qw687 k_X3_push ⟨rfl, rfl, Nat.le_of_ble_eq_true rfl, Nat.le_of_ble_eq_true rfl⟩ ⟨Nat.zero_le _, Nat.zero_le _⟩ hl.1 (Nat.le_of_ble_eq_true rfl) dX10_saveAndStore_8 rfl (fun H locs hw => ?_)
  refine lv_aload_n hx hb dX10_saveAndStore_11 rfl (lv_at hl 0 rfl) ?_
  refine xget (v := .ref (h 1)) E hw 0 rfl rfl 0 (by decide) inw10 qw246 rfl rfl dX10_saveAndStore_12 ?_
  refine lv_iload_n hx hb dX10_saveAndStore_15 rfl (lv_at hl 1 rfl) ?_
  refine lv_aload_n hx hb dX10_saveAndStore_16 rfl (lv_at hl 0 rfl) ?_
  refine xget (v := .ref (h 30)) E hw 0 rfl rfl 5 (by decide) inw10 qw251 rfl rfl dX10_saveAndStore_17 ?_
  obtain ⟨v20, hv20, hf⟩ := ob_e hf
  refine xcallV (ws' := (wC g h v20 snap has v8 ent res num col)) (st1 := []) (n := 34) E hw [.int a1, .ref (h 30)] [1, 2, 3, 30] (met_X7_store l g h 1 30 now res a1 v20 hv20) rfl (by decide) rfl rfl [0, 34, 35, 36, 4, 5, 6, 7, 8, 9, 10, 11, 12, 13, 14, 15, 16, 17, 18, 19, 20, 21, 22, 23, 24, 25, 26, 27, 28, 29, 37, 31, 32, 33] rfl (by decide +kernel) rfl rfl rfl rfl qw710 k_X7_store ⟨rfl, rfl, Nat.le_of_ble_eq_true rfl, Nat.le_of_ble_eq_true rfl⟩ ⟨Nat.zero_le _, Nat.zero_le _⟩ hl.1 (Nat.le_of_ble_eq_true rfl) dX10_saveAndStore_20 rfl (fun H locs hw => ?_)
  exact hret _ _ _ _ _ _ (Option.some.inj hf) dX10_saveAndStore_23 hw
theorem k_X10_formSum : xKV yX10_formSum cX10_formSum 7 none 2 := ⟨qw636, qw10, qw66, qw637, by decide +kernel, by decide +kernel, by decide +kernel⟩
set_option maxHeartbeats 4000000 in
set_option maxRecDepth 100000 in
theorem met_X10_formSum (l : Launch) (g : xG) (h : Nat → Nat) (now : SC) (snap : SC) (has : Int32) (hist : HC) (ent : EC) (res : RC) (num : NC) (col : CC) (a1 : Int32) (a2 : Int32) (out : RC) (hf : f_X10_formSum now res a1 a2 = some out) : xM l yX10_formSum (xC yX10_formSum cX10_formSum 7 none) { frames := 2, cells := 0, slots := 0, locals := 56 } g (wC g h now snap has hist ent res num col) [.ref (h 0), .int a1, .int a2] none (wC g h now snap has hist ent out num col) := by
  refine xof (by decide) (Nat.le_of_ble_eq_true rfl) ⟨rfl, rfl⟩ ?_
  intro p e s m below meth c A ls E hr hlocks hw hl hpost hAe
  have hx := E.1.1
  have hb := E.1.2.1
  have hown := E.1.2.2.2.1
  have hts := E.1.2.2.2.2
  generalize hZ : (MQ below (xPost g (wC g h now snap has hist ent res num col) (wC g h now snap has hist ent out num col) s.heap.size none) [.ref (h 0), .int a1, .int a2].toArray s 0 0 A) = ZZ
  have hret : ∀ (pc : Nat) (H : Heap) (locs : List Loc) (ls : Array Slot) (cres : RC), cres = out → decode cX10_formSum pc = .ok (.return_, 1) → xW g A s.heap (wC g h now snap has hist ent cres num col) H locs → W p l e { frames := 2, cells := 0, slots := 0, locals := 56 } s m [.ref (h 0), .int a1, .int a2].toArray below meth c H locs 0 0 ZZ (F0 m pc ls []) := by
    intro pc H locs ls cres he hd hw
    subst he
    rw [← hZ]
    exact W.vret hx hb hr (hpost H locs hw).1 (hpost H locs hw).2 hd hlocks
  clear hpost
  refine lv_aload_n hx hb dX10_formSum_0 rfl (lv_at hl 0 rfl) ?_
  refine xget (v := .ref (h 1)) E hw 0 rfl rfl 0 (by decide) inw10 qw246 rfl rfl dX10_formSum_1 ?_
  refine lv_iload_n hx hb dX10_formSum_4 rfl (lv_at hl 1 rfl) ?_
  obtain ⟨v5, hv5, hf⟩ := ob_e hf
  refine xcallV (ws' := (wC g h now snap has hist ent res num col)) (st1 := [.int v5]) (n := 34) E hw [.int a1] [1, 2, 3] (met_X7_denominatorOf l g h 1 now a1 v5 hv5) rfl (by decide) rfl rfl [0, 34, 35, 36, 4, 5, 6, 7, 8, 9, 10, 11, 12, 13, 14, 15, 16, 17, 18, 19, 20, 21, 22, 23, 24, 25, 26, 27, 28, 29, 30, 31, 32, 33] rfl (by decide +kernel) rfl rfl rfl rfl qw347 k_X7_denominatorOf ⟨rfl, rfl, Nat.le_of_ble_eq_true rfl, Nat.le_of_ble_eq_true rfl⟩ ⟨Nat.zero_le _, Nat.zero_le _⟩ hl.1 (Nat.le_of_ble_eq_true rfl) dX10_formSum_5 rfl (fun H locs hw => ?_)
  refine lv_i2l hx hb dX10_formSum_8 rfl ?_
  refine lv_lstore_n (lv' := [(3, .long v5.toInt64), (0, .ref (h 0)), (1, .int a1), (2, .int a2)]) hx hb dX10_formSum_9 rfl hl (by decide) rfl (fun ls hl => ?_)
  refine lv_aload_n hx hb dX10_formSum_10 rfl (lv_at hl 1 rfl) ?_
  refine xget (v := .ref (h 1)) E hw 0 rfl rfl 0 (by decide) inw10 qw246 rfl rfl dX10_formSum_11 ?_
  refine lv_iload_n hx hb dX10_formSum_14 rfl (lv_at hl 3 rfl) ?_
  obtain ⟨v15, hv15, hf⟩ := ob_e hf
  refine xcallV (ws' := (wC g h now snap has hist ent res num col)) (st1 := [.int v15]) (n := 34) E hw [.int a2] [1, 2, 3] (met_X7_denominatorOf l g h 1 now a2 v15 hv15) rfl (by decide) rfl rfl [0, 34, 35, 36, 4, 5, 6, 7, 8, 9, 10, 11, 12, 13, 14, 15, 16, 17, 18, 19, 20, 21, 22, 23, 24, 25, 26, 27, 28, 29, 30, 31, 32, 33] rfl (by decide +kernel) rfl rfl rfl rfl qw347 k_X7_denominatorOf ⟨rfl, rfl, Nat.le_of_ble_eq_true rfl, Nat.le_of_ble_eq_true rfl⟩ ⟨Nat.zero_le _, Nat.zero_le _⟩ hl.1 (Nat.le_of_ble_eq_true rfl) dX10_formSum_15 rfl (fun H locs hw => ?_)
  refine lv_i2l hx hb dX10_formSum_18 rfl ?_
  refine lv_lstore (lv' := [(5, .long v15.toInt64), (3, .long v5.toInt64), (0, .ref (h 0)), (1, .int a1), (2, .int a2)]) hx hb dX10_formSum_19 hl (by decide) rfl (fun ls hl => ?_)
  refine lv_aload_n hx hb dX10_formSum_21 rfl (lv_at hl 2 rfl) ?_
  refine xget (v := .ref (h 30)) E hw 0 rfl rfl 5 (by decide) inw10 qw251 rfl rfl dX10_formSum_22 ?_
  refine lv_aload_n hx hb dX10_formSum_25 rfl (lv_at hl 2 rfl) ?_
  refine xget (v := .ref (h 1)) E hw 0 rfl rfl 0 (by decide) inw10 qw246 rfl rfl dX10_formSum_26 ?_
  refine lv_iload_n hx hb dX10_formSum_29 rfl (lv_at hl 3 rfl) ?_
  obtain ⟨v30, hv30, hf⟩ := ob_e hf
  refine xcallV (ws' := (wC g h now snap has hist ent res num col)) (st1 := [.int v30, .ref (h 30)]) (n := 34) E hw [.int a1] [1, 2, 3] (met_X7_numeratorOf l g h 1 now a1 v30 hv30) rfl (by decide) rfl rfl [0, 34, 35, 36, 4, 5, 6, 7, 8, 9, 10, 11, 12, 13, 14, 15, 16, 17, 18, 19, 20, 21, 22, 23, 24, 25, 26, 27, 28, 29, 30, 31, 32, 33] rfl (by decide +kernel) rfl rfl rfl rfl qw340 k_X7_numeratorOf ⟨rfl, rfl, Nat.le_of_ble_eq_true rfl, Nat.le_of_ble_eq_true rfl⟩ ⟨Nat.zero_le _, Nat.zero_le _⟩ hl.1 (Nat.le_of_ble_eq_true rfl) dX10_formSum_30 rfl (fun H locs hw => ?_)
  refine lv_i2l hx hb dX10_formSum_33 rfl ?_
  refine lv_lload hx hb dX10_formSum_34 (lv_at hl 0 rfl) ?_
  refine lv_lmul hx hb dX10_formSum_36 ?_
  refine lv_aload_n hx hb dX10_formSum_37 rfl (lv_at hl 2 rfl) ?_
  refine xget (v := .ref (h 1)) E hw 0 rfl rfl 0 (by decide) inw10 qw246 rfl rfl dX10_formSum_38 ?_
  refine lv_iload_n hx hb dX10_formSum_41 rfl (lv_at hl 4 rfl) ?_
  obtain ⟨v42, hv42, hf⟩ := ob_e hf
  refine xcallV (ws' := (wC g h now snap has hist ent res num col)) (st1 := [.int v42, .long (v30.toInt64 * v15.toInt64), .ref (h 30)]) (n := 34) E hw [.int a2] [1, 2, 3] (met_X7_numeratorOf l g h 1 now a2 v42 hv42) rfl (by decide) rfl rfl [0, 34, 35, 36, 4, 5, 6, 7, 8, 9, 10, 11, 12, 13, 14, 15, 16, 17, 18, 19, 20, 21, 22, 23, 24, 25, 26, 27, 28, 29, 30, 31, 32, 33] rfl (by decide +kernel) rfl rfl rfl rfl qw340 k_X7_numeratorOf ⟨rfl, rfl, Nat.le_of_ble_eq_true rfl, Nat.le_of_ble_eq_true rfl⟩ ⟨Nat.zero_le _, Nat.zero_le _⟩ hl.1 (Nat.le_of_ble_eq_true rfl) dX10_formSum_42 rfl (fun H locs hw => ?_)
  refine lv_i2l hx hb dX10_formSum_45 rfl ?_
  refine lv_lload_n hx hb dX10_formSum_46 rfl (lv_at hl 1 rfl) ?_
  refine lv_lmul hx hb dX10_formSum_47 ?_
  refine lv_ladd hx hb dX10_formSum_48 ?_
  refine lv_lload_n hx hb dX10_formSum_49 rfl (lv_at hl 1 rfl) ?_
  refine lv_lload hx hb dX10_formSum_50 (lv_at hl 0 rfl) ?_
  refine lv_lmul hx hb dX10_formSum_52 ?_
  obtain ⟨v53, hv53, hf⟩ := ob_e hf
  refine xcallV (ws' := (wC g h now snap has hist ent v53 num col)) (st1 := []) (n := 34) E hw [.long ((v30.toInt64 * v15.toInt64) + (v42.toInt64 * v5.toInt64)), .long (v5.toInt64 * v15.toInt64)] [30] (met_X6_put l g h 30 res ((v30.toInt64 * v15.toInt64) + (v42.toInt64 * v5.toInt64)) (v5.toInt64 * v15.toInt64) v53 hv53) rfl (by decide) rfl rfl [0, 1, 2, 3, 4, 5, 6, 7, 8, 9, 10, 11, 12, 13, 14, 15, 16, 17, 18, 19, 20, 21, 22, 23, 24, 25, 26, 27, 28, 29, 34, 31, 32, 33] rfl (by decide +kernel) rfl rfl rfl rfl qw638 k_X6_put ⟨rfl, rfl, Nat.le_of_ble_eq_true rfl, Nat.le_of_ble_eq_true rfl⟩ ⟨Nat.zero_le _, Nat.zero_le _⟩ hl.1 (Nat.le_of_ble_eq_true rfl) dX10_formSum_53 rfl (fun H locs hw => ?_)
  exact hret _ _ _ _ _ (Option.some.inj hf) dX10_formSum_56 hw
theorem k_X10_formDifference : xKV yX10_formDifference cX10_formDifference 7 none 2 := ⟨qw757, qw14, qw66, qw758, by decide +kernel, by decide +kernel, by decide +kernel⟩
set_option maxHeartbeats 4000000 in
set_option maxRecDepth 100000 in
theorem met_X10_formDifference (l : Launch) (g : xG) (h : Nat → Nat) (now : SC) (snap : SC) (has : Int32) (hist : HC) (ent : EC) (res : RC) (num : NC) (col : CC) (a1 : Int32) (a2 : Int32) (out : RC) (hf : f_X10_formDifference now res a1 a2 = some out) : xM l yX10_formDifference (xC yX10_formDifference cX10_formDifference 7 none) { frames := 2, cells := 0, slots := 0, locals := 56 } g (wC g h now snap has hist ent res num col) [.ref (h 0), .int a1, .int a2] none (wC g h now snap has hist ent out num col) := by
  refine xof (by decide) (Nat.le_of_ble_eq_true rfl) ⟨rfl, rfl⟩ ?_
  intro p e s m below meth c A ls E hr hlocks hw hl hpost hAe
  have hx := E.1.1
  have hb := E.1.2.1
  have hown := E.1.2.2.2.1
  have hts := E.1.2.2.2.2
  generalize hZ : (MQ below (xPost g (wC g h now snap has hist ent res num col) (wC g h now snap has hist ent out num col) s.heap.size none) [.ref (h 0), .int a1, .int a2].toArray s 0 0 A) = ZZ
  have hret : ∀ (pc : Nat) (H : Heap) (locs : List Loc) (ls : Array Slot) (cres : RC), cres = out → decode cX10_formDifference pc = .ok (.return_, 1) → xW g A s.heap (wC g h now snap has hist ent cres num col) H locs → W p l e { frames := 2, cells := 0, slots := 0, locals := 56 } s m [.ref (h 0), .int a1, .int a2].toArray below meth c H locs 0 0 ZZ (F0 m pc ls []) := by
    intro pc H locs ls cres he hd hw
    subst he
    rw [← hZ]
    exact W.vret hx hb hr (hpost H locs hw).1 (hpost H locs hw).2 hd hlocks
  clear hpost
  refine lv_aload_n hx hb dX10_formDifference_0 rfl (lv_at hl 0 rfl) ?_
  refine xget (v := .ref (h 1)) E hw 0 rfl rfl 0 (by decide) inw10 qw246 rfl rfl dX10_formDifference_1 ?_
  refine lv_iload_n hx hb dX10_formDifference_4 rfl (lv_at hl 1 rfl) ?_
  obtain ⟨v5, hv5, hf⟩ := ob_e hf
  refine xcallV (ws' := (wC g h now snap has hist ent res num col)) (st1 := [.int v5]) (n := 34) E hw [.int a1] [1, 2, 3] (met_X7_denominatorOf l g h 1 now a1 v5 hv5) rfl (by decide) rfl rfl [0, 34, 35, 36, 4, 5, 6, 7, 8, 9, 10, 11, 12, 13, 14, 15, 16, 17, 18, 19, 20, 21, 22, 23, 24, 25, 26, 27, 28, 29, 30, 31, 32, 33] rfl (by decide +kernel) rfl rfl rfl rfl qw347 k_X7_denominatorOf ⟨rfl, rfl, Nat.le_of_ble_eq_true rfl, Nat.le_of_ble_eq_true rfl⟩ ⟨Nat.zero_le _, Nat.zero_le _⟩ hl.1 (Nat.le_of_ble_eq_true rfl) dX10_formDifference_5 rfl (fun H locs hw => ?_)
  refine lv_i2l hx hb dX10_formDifference_8 rfl ?_
  refine lv_lstore_n (lv' := [(3, .long v5.toInt64), (0, .ref (h 0)), (1, .int a1), (2, .int a2)]) hx hb dX10_formDifference_9 rfl hl (by decide) rfl (fun ls hl => ?_)
  refine lv_aload_n hx hb dX10_formDifference_10 rfl (lv_at hl 1 rfl) ?_
  refine xget (v := .ref (h 1)) E hw 0 rfl rfl 0 (by decide) inw10 qw246 rfl rfl dX10_formDifference_11 ?_
  refine lv_iload_n hx hb dX10_formDifference_14 rfl (lv_at hl 3 rfl) ?_
  obtain ⟨v15, hv15, hf⟩ := ob_e hf
  refine xcallV (ws' := (wC g h now snap has hist ent res num col)) (st1 := [.int v15]) (n := 34) E hw [.int a2] [1, 2, 3] (met_X7_denominatorOf l g h 1 now a2 v15 hv15) rfl (by decide) rfl rfl [0, 34, 35, 36, 4, 5, 6, 7, 8, 9, 10, 11, 12, 13, 14, 15, 16, 17, 18, 19, 20, 21, 22, 23, 24, 25, 26, 27, 28, 29, 30, 31, 32, 33] rfl (by decide +kernel) rfl rfl rfl rfl qw347 k_X7_denominatorOf ⟨rfl, rfl, Nat.le_of_ble_eq_true rfl, Nat.le_of_ble_eq_true rfl⟩ ⟨Nat.zero_le _, Nat.zero_le _⟩ hl.1 (Nat.le_of_ble_eq_true rfl) dX10_formDifference_15 rfl (fun H locs hw => ?_)
  refine lv_i2l hx hb dX10_formDifference_18 rfl ?_
  refine lv_lstore (lv' := [(5, .long v15.toInt64), (3, .long v5.toInt64), (0, .ref (h 0)), (1, .int a1), (2, .int a2)]) hx hb dX10_formDifference_19 hl (by decide) rfl (fun ls hl => ?_)
  refine lv_aload_n hx hb dX10_formDifference_21 rfl (lv_at hl 2 rfl) ?_
  refine xget (v := .ref (h 30)) E hw 0 rfl rfl 5 (by decide) inw10 qw251 rfl rfl dX10_formDifference_22 ?_
  refine lv_aload_n hx hb dX10_formDifference_25 rfl (lv_at hl 2 rfl) ?_
  refine xget (v := .ref (h 1)) E hw 0 rfl rfl 0 (by decide) inw10 qw246 rfl rfl dX10_formDifference_26 ?_
  refine lv_iload_n hx hb dX10_formDifference_29 rfl (lv_at hl 3 rfl) ?_
  obtain ⟨v30, hv30, hf⟩ := ob_e hf
  refine xcallV (ws' := (wC g h now snap has hist ent res num col)) (st1 := [.int v30, .ref (h 30)]) (n := 34) E hw [.int a1] [1, 2, 3] (met_X7_numeratorOf l g h 1 now a1 v30 hv30) rfl (by decide) rfl rfl [0, 34, 35, 36, 4, 5, 6, 7, 8, 9, 10, 11, 12, 13, 14, 15, 16, 17, 18, 19, 20, 21, 22, 23, 24, 25, 26, 27, 28, 29, 30, 31, 32, 33] rfl (by decide +kernel) rfl rfl rfl rfl qw340 k_X7_numeratorOf ⟨rfl, rfl, Nat.le_of_ble_eq_true rfl, Nat.le_of_ble_eq_true rfl⟩ ⟨Nat.zero_le _, Nat.zero_le _⟩ hl.1 (Nat.le_of_ble_eq_true rfl) dX10_formDifference_30 rfl (fun H locs hw => ?_)
  refine lv_i2l hx hb dX10_formDifference_33 rfl ?_
  refine lv_lload hx hb dX10_formDifference_34 (lv_at hl 0 rfl) ?_
  refine lv_lmul hx hb dX10_formDifference_36 ?_
  refine lv_aload_n hx hb dX10_formDifference_37 rfl (lv_at hl 2 rfl) ?_
  refine xget (v := .ref (h 1)) E hw 0 rfl rfl 0 (by decide) inw10 qw246 rfl rfl dX10_formDifference_38 ?_
  refine lv_iload_n hx hb dX10_formDifference_41 rfl (lv_at hl 4 rfl) ?_
  obtain ⟨v42, hv42, hf⟩ := ob_e hf
  refine xcallV (ws' := (wC g h now snap has hist ent res num col)) (st1 := [.int v42, .long (v30.toInt64 * v15.toInt64), .ref (h 30)]) (n := 34) E hw [.int a2] [1, 2, 3] (met_X7_numeratorOf l g h 1 now a2 v42 hv42) rfl (by decide) rfl rfl [0, 34, 35, 36, 4, 5, 6, 7, 8, 9, 10, 11, 12, 13, 14, 15, 16, 17, 18, 19, 20, 21, 22, 23, 24, 25, 26, 27, 28, 29, 30, 31, 32, 33] rfl (by decide +kernel) rfl rfl rfl rfl qw340 k_X7_numeratorOf ⟨rfl, rfl, Nat.le_of_ble_eq_true rfl, Nat.le_of_ble_eq_true rfl⟩ ⟨Nat.zero_le _, Nat.zero_le _⟩ hl.1 (Nat.le_of_ble_eq_true rfl) dX10_formDifference_42 rfl (fun H locs hw => ?_)
  refine lv_i2l hx hb dX10_formDifference_45 rfl ?_
  refine lv_lload_n hx hb dX10_formDifference_46 rfl (lv_at hl 1 rfl) ?_
  refine lv_lmul hx hb dX10_formDifference_47 ?_
  refine lv_lsub hx hb dX10_formDifference_48 ?_
  refine lv_lload_n hx hb dX10_formDifference_49 rfl (lv_at hl 1 rfl) ?_
  refine lv_lload hx hb dX10_formDifference_50 (lv_at hl 0 rfl) ?_
  refine lv_lmul hx hb dX10_formDifference_52 ?_
  obtain ⟨v53, hv53, hf⟩ := ob_e hf
  refine xcallV (ws' := (wC g h now snap has hist ent v53 num col)) (st1 := []) (n := 34) E hw [.long ((v30.toInt64 * v15.toInt64) - (v42.toInt64 * v5.toInt64)), .long (v5.toInt64 * v15.toInt64)] [30] (met_X6_put l g h 30 res ((v30.toInt64 * v15.toInt64) - (v42.toInt64 * v5.toInt64)) (v5.toInt64 * v15.toInt64) v53 hv53) rfl (by decide) rfl rfl [0, 1, 2, 3, 4, 5, 6, 7, 8, 9, 10, 11, 12, 13, 14, 15, 16, 17, 18, 19, 20, 21, 22, 23, 24, 25, 26, 27, 28, 29, 34, 31, 32, 33] rfl (by decide +kernel) rfl rfl rfl rfl qw638 k_X6_put ⟨rfl, rfl, Nat.le_of_ble_eq_true rfl, Nat.le_of_ble_eq_true rfl⟩ ⟨Nat.zero_le _, Nat.zero_le _⟩ hl.1 (Nat.le_of_ble_eq_true rfl) dX10_formDifference_53 rfl (fun H locs hw => ?_)
  exact hret _ _ _ _ _ (Option.some.inj hf) dX10_formDifference_56 hw
theorem k_X10_formShift : xKV yX10_formShift cX10_formShift 5 none 2 := ⟨qw769, qw15, qw66, qw770, by decide +kernel, by decide +kernel, by decide +kernel⟩
set_option maxHeartbeats 4000000 in
set_option maxRecDepth 100000 in
theorem met_X10_formShift (l : Launch) (g : xG) (h : Nat → Nat) (now : SC) (snap : SC) (has : Int32) (hist : HC) (ent : EC) (res : RC) (num : NC) (col : CC) (a1 : Int32) (a2 : Int32) (out : RC) (hf : f_X10_formShift now res a1 a2 = some out) : xM l yX10_formShift (xC yX10_formShift cX10_formShift 5 none) { frames := 2, cells := 0, slots := 0, locals := 56 } g (wC g h now snap has hist ent res num col) [.ref (h 0), .int a1, .int a2] none (wC g h now snap has hist ent out num col) := by
  refine xof (by decide) (Nat.le_of_ble_eq_true rfl) ⟨rfl, rfl⟩ ?_
  intro p e s m below meth c A ls E hr hlocks hw hl hpost hAe
  have hx := E.1.1
  have hb := E.1.2.1
  have hown := E.1.2.2.2.1
  have hts := E.1.2.2.2.2
  generalize hZ : (MQ below (xPost g (wC g h now snap has hist ent res num col) (wC g h now snap has hist ent out num col) s.heap.size none) [.ref (h 0), .int a1, .int a2].toArray s 0 0 A) = ZZ
  have hret : ∀ (pc : Nat) (H : Heap) (locs : List Loc) (ls : Array Slot) (cres : RC), cres = out → decode cX10_formShift pc = .ok (.return_, 1) → xW g A s.heap (wC g h now snap has hist ent cres num col) H locs → W p l e { frames := 2, cells := 0, slots := 0, locals := 56 } s m [.ref (h 0), .int a1, .int a2].toArray below meth c H locs 0 0 ZZ (F0 m pc ls []) := by
    intro pc H locs ls cres he hd hw
    subst he
    rw [← hZ]
    exact W.vret hx hb hr (hpost H locs hw).1 (hpost H locs hw).2 hd hlocks
  clear hpost
  refine lv_aload_n hx hb dX10_formShift_0 rfl (lv_at hl 0 rfl) ?_
  refine xget (v := .ref (h 1)) E hw 0 rfl rfl 0 (by decide) inw10 qw246 rfl rfl dX10_formShift_1 ?_
  refine xget (v := .int now.1) E hw 1 rfl rfl 0 (by decide) inw7 qw101 rfl rfl dX10_formShift_4 ?_
  refine lv_i2l hx hb dX10_formShift_7 rfl ?_
  refine lv_iload_n hx hb dX10_formShift_8 rfl (lv_at hl 2 rfl) ?_
  refine xabs E hl.1 qw771 qw772 qw79 qw773 ⟨Nat.le_of_ble_eq_true rfl, Nat.le_of_ble_eq_true rfl⟩ ⟨Nat.zero_le _, Nat.zero_le _⟩ dX10_formShift_9 ?_
  obtain ⟨v12, hv12, hf⟩ := ob_e hf
  refine xcallS (ws' := (wC g h now snap has hist ent res num col)) (st1 := [.long v12]) (n := 34) E hw [.long now.1.toInt64, .int (if 0 ≤ a2 then a2 else 0 - a2)] [] (met_X5_power l g now.1.toInt64 (if 0 ≤ a2 then a2 else 0 - a2) v12 hv12) rfl (by decide) rfl rfl [0, 1, 2, 3, 4, 5, 6, 7, 8, 9, 10, 11, 12, 13, 14, 15, 16, 17, 18, 19, 20, 21, 22, 23, 24, 25, 26, 27, 28, 29, 30, 31, 32, 33] rfl (by decide +kernel) rfl qw774 k_X5_power ⟨rfl, rfl, Nat.le_of_ble_eq_true rfl, Nat.le_of_ble_eq_true rfl⟩ ⟨Nat.zero_le _, Nat.zero_le _⟩ hl.1 (Nat.le_of_ble_eq_true rfl) dX10_formShift_12 rfl (fun H locs hw => ?_)
  refine lv_lstore_n (lv' := [(3, .long v12), (0, .ref (h 0)), (1, .int a1), (2, .int a2)]) hx hb dX10_formShift_15 rfl hl (by decide) rfl (fun ls hl => ?_)
  refine lv_iload_n hx hb dX10_formShift_16 rfl (lv_at hl 3 rfl) ?_
  refine lv_if_ge (tgt := 50) hx hb dX10_formShift_17 (by decide) (fun c17 => ?_) (fun c17 => ?_)
  · replace hf := ip c17 hf
    refine lv_aload_n hx hb dX10_formShift_50 rfl (lv_at hl 1 rfl) ?_
    refine xget (v := .ref (h 30)) E hw 0 rfl rfl 5 (by decide) inw10 qw251 rfl rfl dX10_formShift_51 ?_
    refine lv_aload_n hx hb dX10_formShift_54 rfl (lv_at hl 1 rfl) ?_
    refine xget (v := .ref (h 1)) E hw 0 rfl rfl 0 (by decide) inw10 qw246 rfl rfl dX10_formShift_55 ?_
    refine lv_iload_n hx hb dX10_formShift_58 rfl (lv_at hl 2 rfl) ?_
    obtain ⟨v59, hv59, hf⟩ := ob_e hf
    refine xcallV (ws' := (wC g h now snap has hist ent res num col)) (st1 := [.int v59, .ref (h 30)]) (n := 34) E hw [.int a1] [1, 2, 3] (met_X7_numeratorOf l g h 1 now a1 v59 hv59) rfl (by decide) rfl rfl [0, 34, 35, 36, 4, 5, 6, 7, 8, 9, 10, 11, 12, 13, 14, 15, 16, 17, 18, 19, 20, 21, 22, 23, 24, 25, 26, 27, 28, 29, 30, 31, 32, 33] rfl (by decide +kernel) rfl rfl rfl rfl qw340 k_X7_numeratorOf ⟨rfl, rfl, Nat.le_of_ble_eq_true rfl, Nat.le_of_ble_eq_true rfl⟩ ⟨Nat.zero_le _, Nat.zero_le _⟩ hl.1 (Nat.le_of_ble_eq_true rfl) dX10_formShift_59 rfl (fun H locs hw => ?_)
    refine lv_i2l hx hb dX10_formShift_62 rfl ?_
    refine lv_lload_n hx hb dX10_formShift_63 rfl (lv_at hl 0 rfl) ?_
    refine lv_lmul hx hb dX10_formShift_64 ?_
    refine lv_aload_n hx hb dX10_formShift_65 rfl (lv_at hl 1 rfl) ?_
    refine xget (v := .ref (h 1)) E hw 0 rfl rfl 0 (by decide) inw10 qw246 rfl rfl dX10_formShift_66 ?_
    refine lv_iload_n hx hb dX10_formShift_69 rfl (lv_at hl 2 rfl) ?_
    obtain ⟨v70, hv70, hf⟩ := ob_e hf
    refine xcallV (ws' := (wC g h now snap has hist ent res num col)) (st1 := [.int v70, .long (v59.toInt64 * v12), .ref (h 30)]) (n := 34) E hw [.int a1] [1, 2, 3] (met_X7_denominatorOf l g h 1 now a1 v70 hv70) rfl (by decide) rfl rfl [0, 34, 35, 36, 4, 5, 6, 7, 8, 9, 10, 11, 12, 13, 14, 15, 16, 17, 18, 19, 20, 21, 22, 23, 24, 25, 26, 27, 28, 29, 30, 31, 32, 33] rfl (by decide +kernel) rfl rfl rfl rfl qw347 k_X7_denominatorOf ⟨rfl, rfl, Nat.le_of_ble_eq_true rfl, Nat.le_of_ble_eq_true rfl⟩ ⟨Nat.zero_le _, Nat.zero_le _⟩ hl.1 (Nat.le_of_ble_eq_true rfl) dX10_formShift_70 rfl (fun H locs hw => ?_)
    refine lv_i2l hx hb dX10_formShift_73 rfl ?_
    obtain ⟨v74, hv74, hf⟩ := ob_e hf
    refine xcallV (ws' := (wC g h now snap has hist ent v74 num col)) (st1 := []) (n := 34) E hw [.long (v59.toInt64 * v12), .long v70.toInt64] [30] (met_X6_put l g h 30 res (v59.toInt64 * v12) v70.toInt64 v74 hv74) rfl (by decide) rfl rfl [0, 1, 2, 3, 4, 5, 6, 7, 8, 9, 10, 11, 12, 13, 14, 15, 16, 17, 18, 19, 20, 21, 22, 23, 24, 25, 26, 27, 28, 29, 34, 31, 32, 33] rfl (by decide +kernel) rfl rfl rfl rfl qw638 k_X6_put ⟨rfl, rfl, Nat.le_of_ble_eq_true rfl, Nat.le_of_ble_eq_true rfl⟩ ⟨Nat.zero_le _, Nat.zero_le _⟩ hl.1 (Nat.le_of_ble_eq_true rfl) dX10_formShift_74 rfl (fun H locs hw => ?_)
    exact hret _ _ _ _ _ (Option.some.inj hf) dX10_formShift_77 hw
  · replace hf := iq c17 hf
    refine lv_aload_n hx hb dX10_formShift_20 rfl (lv_at hl 1 rfl) ?_
    refine xget (v := .ref (h 30)) E hw 0 rfl rfl 5 (by decide) inw10 qw251 rfl rfl dX10_formShift_21 ?_
    refine lv_aload_n hx hb dX10_formShift_24 rfl (lv_at hl 1 rfl) ?_
    refine xget (v := .ref (h 1)) E hw 0 rfl rfl 0 (by decide) inw10 qw246 rfl rfl dX10_formShift_25 ?_
    refine lv_iload_n hx hb dX10_formShift_28 rfl (lv_at hl 2 rfl) ?_
    obtain ⟨v29, hv29, hf⟩ := ob_e hf
    refine xcallV (ws' := (wC g h now snap has hist ent res num col)) (st1 := [.int v29, .ref (h 30)]) (n := 34) E hw [.int a1] [1, 2, 3] (met_X7_numeratorOf l g h 1 now a1 v29 hv29) rfl (by decide) rfl rfl [0, 34, 35, 36, 4, 5, 6, 7, 8, 9, 10, 11, 12, 13, 14, 15, 16, 17, 18, 19, 20, 21, 22, 23, 24, 25, 26, 27, 28, 29, 30, 31, 32, 33] rfl (by decide +kernel) rfl rfl rfl rfl qw340 k_X7_numeratorOf ⟨rfl, rfl, Nat.le_of_ble_eq_true rfl, Nat.le_of_ble_eq_true rfl⟩ ⟨Nat.zero_le _, Nat.zero_le _⟩ hl.1 (Nat.le_of_ble_eq_true rfl) dX10_formShift_29 rfl (fun H locs hw => ?_)
    refine lv_i2l hx hb dX10_formShift_32 rfl ?_
    refine lv_aload_n hx hb dX10_formShift_33 rfl (lv_at hl 1 rfl) ?_
    refine xget (v := .ref (h 1)) E hw 0 rfl rfl 0 (by decide) inw10 qw246 rfl rfl dX10_formShift_34 ?_
    refine lv_iload_n hx hb dX10_formShift_37 rfl (lv_at hl 2 rfl) ?_
    obtain ⟨v38, hv38, hf⟩ := ob_e hf
    refine xcallV (ws' := (wC g h now snap has hist ent res num col)) (st1 := [.int v38, .long v29.toInt64, .ref (h 30)]) (n := 34) E hw [.int a1] [1, 2, 3] (met_X7_denominatorOf l g h 1 now a1 v38 hv38) rfl (by decide) rfl rfl [0, 34, 35, 36, 4, 5, 6, 7, 8, 9, 10, 11, 12, 13, 14, 15, 16, 17, 18, 19, 20, 21, 22, 23, 24, 25, 26, 27, 28, 29, 30, 31, 32, 33] rfl (by decide +kernel) rfl rfl rfl rfl qw347 k_X7_denominatorOf ⟨rfl, rfl, Nat.le_of_ble_eq_true rfl, Nat.le_of_ble_eq_true rfl⟩ ⟨Nat.zero_le _, Nat.zero_le _⟩ hl.1 (Nat.le_of_ble_eq_true rfl) dX10_formShift_38 rfl (fun H locs hw => ?_)
    refine lv_i2l hx hb dX10_formShift_41 rfl ?_
    refine lv_lload_n hx hb dX10_formShift_42 rfl (lv_at hl 0 rfl) ?_
    refine lv_lmul hx hb dX10_formShift_43 ?_
    obtain ⟨v44, hv44, hf⟩ := ob_e hf
    refine xcallV (ws' := (wC g h now snap has hist ent v44 num col)) (st1 := []) (n := 34) E hw [.long v29.toInt64, .long (v38.toInt64 * v12)] [30] (met_X6_put l g h 30 res v29.toInt64 (v38.toInt64 * v12) v44 hv44) rfl (by decide) rfl rfl [0, 1, 2, 3, 4, 5, 6, 7, 8, 9, 10, 11, 12, 13, 14, 15, 16, 17, 18, 19, 20, 21, 22, 23, 24, 25, 26, 27, 28, 29, 34, 31, 32, 33] rfl (by decide +kernel) rfl rfl rfl rfl qw638 k_X6_put ⟨rfl, rfl, Nat.le_of_ble_eq_true rfl, Nat.le_of_ble_eq_true rfl⟩ ⟨Nat.zero_le _, Nat.zero_le _⟩ hl.1 (Nat.le_of_ble_eq_true rfl) dX10_formShift_44 rfl (fun H locs hw => ?_)
    refine lv_goto (tgt := 77) hx hb dX10_formShift_47 (by decide) ?_
    exact hret _ _ _ _ _ (Option.some.inj hf) dX10_formShift_77 hw
theorem k_X10_formWithCoins : xKV yX10_formWithCoins cX10_formWithCoins 6 none 2 := ⟨qw787, qw16, qw66, qw788, by decide +kernel, by decide +kernel, by decide +kernel⟩
set_option maxHeartbeats 4000000 in
set_option maxRecDepth 100000 in
theorem met_X10_formWithCoins (l : Launch) (g : xG) (h : Nat → Nat) (now : SC) (snap : SC) (has : Int32) (hist : HC) (ent : EC) (res : RC) (num : NC) (col : CC) (a1 : Int32) (a2 : Int64) (out : RC) (hf : f_X10_formWithCoins now res a1 a2 = some out) : xM l yX10_formWithCoins (xC yX10_formWithCoins cX10_formWithCoins 6 none) { frames := 2, cells := 0, slots := 0, locals := 56 } g (wC g h now snap has hist ent res num col) [.ref (h 0), .int a1, .long a2] none (wC g h now snap has hist ent out num col) := by
  refine xof (by decide) (Nat.le_of_ble_eq_true rfl) ⟨rfl, rfl⟩ ?_
  intro p e s m below meth c A ls E hr hlocks hw hl hpost hAe
  have hx := E.1.1
  have hb := E.1.2.1
  have hown := E.1.2.2.2.1
  have hts := E.1.2.2.2.2
  generalize hZ : (MQ below (xPost g (wC g h now snap has hist ent res num col) (wC g h now snap has hist ent out num col) s.heap.size none) [.ref (h 0), .int a1, .long a2].toArray s 0 0 A) = ZZ
  have hret : ∀ (pc : Nat) (H : Heap) (locs : List Loc) (ls : Array Slot) (cres : RC), cres = out → decode cX10_formWithCoins pc = .ok (.return_, 1) → xW g A s.heap (wC g h now snap has hist ent cres num col) H locs → W p l e { frames := 2, cells := 0, slots := 0, locals := 56 } s m [.ref (h 0), .int a1, .long a2].toArray below meth c H locs 0 0 ZZ (F0 m pc ls []) := by
    intro pc H locs ls cres he hd hw
    subst he
    rw [← hZ]
    exact W.vret hx hb hr (hpost H locs hw).1 (hpost H locs hw).2 hd hlocks
  clear hpost
  refine lv_aload_n hx hb dX10_formWithCoins_0 rfl (lv_at hl 0 rfl) ?_
  refine xget (v := .ref (h 1)) E hw 0 rfl rfl 0 (by decide) inw10 qw246 rfl rfl dX10_formWithCoins_1 ?_
  refine lv_iload_n hx hb dX10_formWithCoins_4 rfl (lv_at hl 1 rfl) ?_
  obtain ⟨v5, hv5, hf⟩ := ob_e hf
  refine xcallV (ws' := (wC g h now snap has hist ent res num col)) (st1 := [.int v5]) (n := 34) E hw [.int a1] [1, 2, 3] (met_X7_denominatorOf l g h 1 now a1 v5 hv5) rfl (by decide) rfl rfl [0, 34, 35, 36, 4, 5, 6, 7, 8, 9, 10, 11, 12, 13, 14, 15, 16, 17, 18, 19, 20, 21, 22, 23, 24, 25, 26, 27, 28, 29, 30, 31, 32, 33] rfl (by decide +kernel) rfl rfl rfl rfl qw347 k_X7_denominatorOf ⟨rfl, rfl, Nat.le_of_ble_eq_true rfl, Nat.le_of_ble_eq_true rfl⟩ ⟨Nat.zero_le _, Nat.zero_le _⟩ hl.1 (Nat.le_of_ble_eq_true rfl) dX10_formWithCoins_5 rfl (fun H locs hw => ?_)
  refine lv_i2l hx hb dX10_formWithCoins_8 rfl ?_
  refine lv_lstore (lv' := [(4, .long v5.toInt64), (0, .ref (h 0)), (1, .int a1), (2, .long a2)]) hx hb dX10_formWithCoins_9 hl (by decide) rfl (fun ls hl => ?_)
  refine lv_aload_n hx hb dX10_formWithCoins_11 rfl (lv_at hl 1 rfl) ?_
  refine xget (v := .ref (h 30)) E hw 0 rfl rfl 5 (by decide) inw10 qw251 rfl rfl dX10_formWithCoins_12 ?_
  refine lv_aload_n hx hb dX10_formWithCoins_15 rfl (lv_at hl 1 rfl) ?_
  refine xget (v := .ref (h 1)) E hw 0 rfl rfl 0 (by decide) inw10 qw246 rfl rfl dX10_formWithCoins_16 ?_
  refine lv_iload_n hx hb dX10_formWithCoins_19 rfl (lv_at hl 2 rfl) ?_
  obtain ⟨v20, hv20, hf⟩ := ob_e hf
  refine xcallV (ws' := (wC g h now snap has hist ent res num col)) (st1 := [.int v20, .ref (h 30)]) (n := 34) E hw [.int a1] [1, 2, 3] (met_X7_numeratorOf l g h 1 now a1 v20 hv20) rfl (by decide) rfl rfl [0, 34, 35, 36, 4, 5, 6, 7, 8, 9, 10, 11, 12, 13, 14, 15, 16, 17, 18, 19, 20, 21, 22, 23, 24, 25, 26, 27, 28, 29, 30, 31, 32, 33] rfl (by decide +kernel) rfl rfl rfl rfl qw340 k_X7_numeratorOf ⟨rfl, rfl, Nat.le_of_ble_eq_true rfl, Nat.le_of_ble_eq_true rfl⟩ ⟨Nat.zero_le _, Nat.zero_le _⟩ hl.1 (Nat.le_of_ble_eq_true rfl) dX10_formWithCoins_20 rfl (fun H locs hw => ?_)
  refine lv_i2l hx hb dX10_formWithCoins_23 rfl ?_
  refine lv_lload_n hx hb dX10_formWithCoins_24 rfl (lv_at hl 3 rfl) ?_
  refine lv_lload hx hb dX10_formWithCoins_25 (lv_at hl 0 rfl) ?_
  refine lv_lmul hx hb dX10_formWithCoins_27 ?_
  refine lv_ladd hx hb dX10_formWithCoins_28 ?_
  refine lv_lload hx hb dX10_formWithCoins_29 (lv_at hl 0 rfl) ?_
  obtain ⟨v31, hv31, hf⟩ := ob_e hf
  refine xcallV (ws' := (wC g h now snap has hist ent v31 num col)) (st1 := []) (n := 34) E hw [.long (v20.toInt64 + (a2 * v5.toInt64)), .long v5.toInt64] [30] (met_X6_put l g h 30 res (v20.toInt64 + (a2 * v5.toInt64)) v5.toInt64 v31 hv31) rfl (by decide) rfl rfl [0, 1, 2, 3, 4, 5, 6, 7, 8, 9, 10, 11, 12, 13, 14, 15, 16, 17, 18, 19, 20, 21, 22, 23, 24, 25, 26, 27, 28, 29, 34, 31, 32, 33] rfl (by decide +kernel) rfl rfl rfl rfl qw638 k_X6_put ⟨rfl, rfl, Nat.le_of_ble_eq_true rfl, Nat.le_of_ble_eq_true rfl⟩ ⟨Nat.zero_le _, Nat.zero_le _⟩ hl.1 (Nat.le_of_ble_eq_true rfl) dX10_formWithCoins_31 rfl (fun H locs hw => ?_)
  exact hret _ _ _ _ _ (Option.some.inj hf) dX10_formWithCoins_34 hw
theorem k_X10_clearBuffer : xKV yX10_clearBuffer cX10_clearBuffer 2 (some .int) 0 := ⟨qw272, qw273, qw66, qw274, by decide +kernel, by decide +kernel, by decide +kernel⟩
set_option maxHeartbeats 4000000 in
set_option maxRecDepth 100000 in
theorem met_X10_clearBuffer (l : Launch) (g : xG) (h : Nat → Nat) (now : SC) (snap : SC) (has : Int32) (hist : HC) (ent : EC) (res : RC) (num : NC) (col : CC) (out : Int32 × EC) (hf : f_X10_clearBuffer ent = some out) : xM l yX10_clearBuffer (xC yX10_clearBuffer cX10_clearBuffer 2 (some .int)) { frames := 0, cells := 0, slots := 0, locals := 0 } g (wC g h now snap has hist ent res num col) [.ref (h 0)] (some (.int out.1)) (wC g h now snap has hist out.2 res num col) := by
  refine xof (by decide) (Nat.le_of_ble_eq_true rfl) ⟨rfl, rfl⟩ ?_
  intro p e s m below meth c A ls E hr hlocks hw hl hpost hAe
  have hx := E.1.1
  have hb := E.1.2.1
  have hown := E.1.2.2.2.1
  have hts := E.1.2.2.2.2
  generalize hZ : (MQ below (xPost g (wC g h now snap has hist ent res num col) (wC g h now snap has hist out.2 res num col) s.heap.size (some (.int out.1))) [.ref (h 0)].toArray s 0 0 A) = ZZ
  have hret : ∀ (pc : Nat) (H : Heap) (locs : List Loc) (ls : Array Slot) (v : Int32) (cent : EC), (v, cent) = out → decode cX10_clearBuffer pc = .ok (.ireturn, 1) → xW g A s.heap (wC g h now snap has hist cent res num col) H locs → W p l e { frames := 0, cells := 0, slots := 0, locals := 0 } s m [.ref (h 0)].toArray below meth c H locs 0 0 ZZ (F0 m pc ls [.int v]) := by
    intro pc H locs ls v cent he hd hw
    subst he
    rw [← hZ]
    exact W.iret hx hb hr (hpost H locs hw).1 (hpost H locs hw).2 hd hlocks
  clear hpost
  refine lv_aload_n hx hb dX10_clearBuffer_0 rfl (lv_at hl 0 rfl) ?_
  refine xget (v := .ref (h 27)) E hw 0 rfl rfl 4 (by decide) inw10 qw250 rfl rfl dX10_clearBuffer_1 ?_
  refine xget (v := .int ent.1) E hw 27 rfl rfl 0 (by decide) inw2 qw160 rfl rfl dX10_clearBuffer_4 ?_
  refine lv_istore_n (lv' := [(1, .int ent.1), (0, .ref (h 0))]) hx hb dX10_clearBuffer_7 rfl hl (by decide) rfl (fun ls hl => ?_)
  refine lv_aload_n hx hb dX10_clearBuffer_8 rfl (lv_at hl 1 rfl) ?_
  refine xget (v := .ref (h 27)) E hw 0 rfl rfl 4 (by decide) inw10 qw250 rfl rfl dX10_clearBuffer_9 ?_
  refine lv_iconst (v := 0) hx hb dX10_clearBuffer_12 (by decide) ?_
  refine xput (ws' := (wC g h now snap has hist (0, ent.2.1, ent.2.2.1, ent.2.2.2) res num col)) E hw 27 rfl rfl 0 (by decide) inw2 tyX2_ok nmX2 qw160 rfl rfl rfl rfl (Nat.le_of_ble_eq_true rfl) dX10_clearBuffer_13 rfl (fun H locs hw => ?_)
  refine lv_iload_n hx hb dX10_clearBuffer_16 rfl (lv_at hl 0 rfl) ?_
  exact hret _ _ _ _ _ _ (Option.some.inj hf) dX10_clearBuffer_17 hw
theorem k_X10_firstError : xKV yX10_firstError cX10_firstError 1 (some .int) 0 := ⟨qw276, qw277, qw66, qw278, by decide +kernel, by decide +kernel, by decide +kernel⟩
set_option maxHeartbeats 4000000 in
set_option maxRecDepth 100000 in
theorem met_X10_firstError (l : Launch) (g : xG) (h : Nat → Nat) (now : SC) (snap : SC) (has : Int32) (hist : HC) (ent : EC) (res : RC) (num : NC) (col : CC) (out : Int32 × EC) (hf : f_X10_firstError ent = some out) : xM l yX10_firstError (xC yX10_firstError cX10_firstError 1 (some .int)) { frames := 5, cells := 0, slots := 0, locals := 107 } g (wC g h now snap has hist ent res num col) [.ref (h 0)] (some (.int out.1)) (wC g h now snap has hist out.2 res num col) := by
  refine xof (by decide) (Nat.le_of_ble_eq_true rfl) ⟨rfl, rfl⟩ ?_
  intro p e s m below meth c A ls E hr hlocks hw hl hpost hAe
  have hx := E.1.1
  have hb := E.1.2.1
  have hown := E.1.2.2.2.1
  have hts := E.1.2.2.2.2
  generalize hZ : (MQ below (xPost g (wC g h now snap has hist ent res num col) (wC g h now snap has hist out.2 res num col) s.heap.size (some (.int out.1))) [.ref (h 0)].toArray s 0 0 A) = ZZ
  have hret : ∀ (pc : Nat) (H : Heap) (locs : List Loc) (ls : Array Slot) (v : Int32) (cent : EC), (v, cent) = out → decode cX10_firstError pc = .ok (.ireturn, 1) → xW g A s.heap (wC g h now snap has hist cent res num col) H locs → W p l e { frames := 5, cells := 0, slots := 0, locals := 107 } s m [.ref (h 0)].toArray below meth c H locs 0 0 ZZ (F0 m pc ls [.int v]) := by
    intro pc H locs ls v cent he hd hw
    subst he
    rw [← hZ]
    exact W.iret hx hb hr (hpost H locs hw).1 (hpost H locs hw).2 hd hlocks
  clear hpost
  refine lv_aload_n hx hb dX10_firstError_0 rfl (lv_at hl 0 rfl) ?_
  refine xget (v := .ref (h 27)) E hw 0 rfl rfl 4 (by decide) inw10 qw250 rfl rfl dX10_firstError_1 ?_
  obtain ⟨v4, hv4, hf⟩ := ob_e hf
  refine xcallV (ws' := (wC g h now snap has hist v4.2 res num col)) (st1 := [.int v4.1]) (n := 34) E hw [] [27, 28, 29] (met_X2_errorIndex l g h 27 ent v4 hv4) rfl (by decide) rfl rfl [0, 1, 2, 3, 4, 5, 6, 7, 8, 9, 10, 11, 12, 13, 14, 15, 16, 17, 18, 19, 20, 21, 22, 23, 24, 25, 26, 34, 35, 36, 30, 31, 32, 33] rfl (by decide +kernel) rfl rfl rfl rfl qw279 k_X2_errorIndex ⟨rfl, rfl, Nat.le_of_ble_eq_true rfl, Nat.le_of_ble_eq_true rfl⟩ ⟨Nat.zero_le _, Nat.zero_le _⟩ hl.1 (Nat.le_of_ble_eq_true rfl) dX10_firstError_4 rfl (fun H locs hw => ?_)
  exact hret _ _ _ _ _ _ (Option.some.inj hf) dX10_firstError_7 hw
theorem k_X10_formEntry : xKV yX10_formEntry cX10_formEntry 6 (some .int) 3 := ⟨qw837, qw19, qw66, qw838, by decide +kernel, by decide +kernel, by decide +kernel⟩
set_option maxHeartbeats 4000000 in
set_option maxRecDepth 100000 in
theorem met_X10_formEntry (l : Launch) (g : xG) (h : Nat → Nat) (now : SC) (snap : SC) (has : Int32) (hist : HC) (ent : EC) (res : RC) (num : NC) (col : CC) (a1 : Int32) (a2 : Int32) (a3 : Int32) (out : Int32 × RC × NC) (hf : f_X10_formEntry now ent res num a1 a2 a3 = some out) : xM l yX10_formEntry (xC yX10_formEntry cX10_formEntry 6 (some .int)) { frames := 3, cells := 0, slots := 0, locals := 82 } g (wC g h now snap has hist ent res num col) [.ref (h 0), .int a1, .int a2, .int a3] (some (.int out.1)) (wC g h now snap has hist ent out.2.1 out.2.2 col) := by
  refine xof (by decide) (Nat.le_of_ble_eq_true rfl) ⟨rfl, rfl⟩ ?_
  intro p e s m below meth c A ls E hr hlocks hw hl hpost hAe
  have hx := E.1.1
  have hb := E.1.2.1
  have hown := E.1.2.2.2.1
  have hts := E.1.2.2.2.2
  generalize hZ : (MQ below (xPost g (wC g h now snap has hist ent res num col) (wC g h now snap has hist ent out.2.1 out.2.2 col) s.heap.size (some (.int out.1))) [.ref (h 0), .int a1, .int a2, .int a3].toArray s 0 0 A) = ZZ
  have hret : ∀ (pc : Nat) (H : Heap) (locs : List Loc) (ls : Array Slot) (v : Int32) (cres : RC) (cnum : NC), (v, cres, cnum) = out → decode cX10_formEntry pc = .ok (.ireturn, 1) → xW g A s.heap (wC g h now snap has hist ent cres cnum col) H locs → W p l e { frames := 3, cells := 0, slots := 0, locals := 82 } s m [.ref (h 0), .int a1, .int a2, .int a3].toArray below meth c H locs 0 0 ZZ (F0 m pc ls [.int v]) := by
    intro pc H locs ls v cres cnum he hd hw
    subst he
    rw [← hZ]
    exact W.iret hx hb hr (hpost H locs hw).1 (hpost H locs hw).2 hd hlocks
  clear hpost
  have b136 : ∀ (H : Heap) (locs : List Loc) (ls : Array Slot) (res : RC) (num : NC), xW g A s.heap (wC g h now snap has hist ent res num col) H locs → lv_has ls 6 [(0, .ref (h 0))] → f_X10_formEntry_b136 now ent res num = some out → W p l e { frames := 3, cells := 0, slots := 0, locals := 82 } s m [.ref (h 0), .int a1, .int a2, .int a3].toArray below meth c H locs 0 0 ZZ (F0 m 136 ls []) := by
    intro H locs ls res num hw hl hf
    refine lv_aload_n hx hb dX10_formEntry_136 rfl (lv_at hl 0 rfl) ?_
    refine xget (v := .ref (h 30)) E hw 0 rfl rfl 5 (by decide) inw10 qw251 rfl rfl dX10_formEntry_137 ?_
    obtain ⟨v140, hv140, hf⟩ := ob_e hf
    refine xcallV (ws' := (wC g h now snap has hist ent res num col)) (st1 := [.int v140]) (n := 34) E hw [] [30] (met_X6_reasonAgainst l g h 30 res v140 hv140) rfl (by decide) rfl rfl [0, 1, 2, 3, 4, 5, 6, 7, 8, 9, 10, 11, 12, 13, 14, 15, 16, 17, 18, 19, 20, 21, 22, 23, 24, 25, 26, 27, 28, 29, 34, 31, 32, 33] rfl (by decide +kernel) rfl rfl rfl rfl qw726 k_X6_reasonAgainst ⟨rfl, rfl, Nat.le_of_ble_eq_true rfl, Nat.le_of_ble_eq_true rfl⟩ ⟨Nat.zero_le _, Nat.zero_le _⟩ hl.1 (Nat.le_of_ble_eq_true rfl) dX10_formEntry_140 rfl (fun H locs hw => ?_)
    exact hret _ _ _ _ _ _ _ (Option.some.inj hf) dX10_formEntry_143 hw
  have b36 : ∀ n36 : Nat, ∀ (H : Heap) (locs : List Loc) (ls : Array Slot) (res : RC) (num : NC) (x3 : Int32) (x5 : Int32), xW g A s.heap (wC g h now snap has hist ent res num col) H locs → lv_has ls 6 [(0, .ref (h 0)), (3, .int x3), (5, .int x5)] → f_X10_formEntry_b36 n36 now ent res num x3 x5 = some out → W p l e { frames := 3, cells := 0, slots := 0, locals := 82 } s m [.ref (h 0), .int a1, .int a2, .int a3].toArray below meth c H locs 0 0 ZZ (F0 m 36 ls []) := by
    intro n36
    induction n36 with
    | zero =>
      intro H locs ls res num x3 x5 hw hl hf
      exact nn hf
    | succ n36 ih36 =>
      intro H locs ls res num x3 x5 hw hl hf
      refine lv_iload hx hb dX10_formEntry_36 (lv_at hl 2 rfl) ?_
      refine lv_iload_n hx hb dX10_formEntry_38 rfl (lv_at hl 1 rfl) ?_
      refine lv_icmp_ge (tgt := 64) hx hb dX10_formEntry_39 (by decide) (fun c39 => ?_) (fun c39 => ?_)
      · replace hf := ip c39 hf
        refine lv_aload_n hx hb dX10_formEntry_64 rfl (lv_at hl 0 rfl) ?_
        refine xget (v := .ref (h 31)) E hw 0 rfl rfl 6 (by decide) inw10 qw252 rfl rfl dX10_formEntry_65 ?_
        refine xget (v := .int num.1) E hw 31 rfl rfl 0 (by decide) inw4 qw196 rfl rfl dX10_formEntry_68 ?_
        refine lv_if_eq (tgt := 76) hx hb dX10_formEntry_71 (by decide) (fun c71 => ?_) (fun c71 => ?_)
        · replace hf := ip c71 hf
          refine lv_aload_n hx hb dX10_formEntry_76 rfl (lv_at hl 0 rfl) ?_
          refine xget (v := .ref (h 31)) E hw 0 rfl rfl 6 (by decide) inw10 qw252 rfl rfl dX10_formEntry_77 ?_
          refine lv_aload_n hx hb dX10_formEntry_80 rfl (lv_at hl 0 rfl) ?_
          refine xget (v := .ref (h 30)) E hw 0 rfl rfl 5 (by decide) inw10 qw251 rfl rfl dX10_formEntry_81 ?_
          obtain ⟨v84, hv84, hf⟩ := ob_e hf
          refine xcallV (ws' := (wC g h now snap has hist ent v84 num col)) (st1 := []) (n := 34) E hw [.ref (h 30)] [31, 30] (met_X4_putInto l g h 31 30 num res v84 hv84) rfl (by decide) rfl rfl [0, 1, 2, 3, 4, 5, 6, 7, 8, 9, 10, 11, 12, 13, 14, 15, 16, 17, 18, 19, 20, 21, 22, 23, 24, 25, 26, 27, 28, 29, 35, 34, 32, 33] rfl (by decide +kernel) rfl rfl rfl rfl qw852 k_X4_putInto ⟨rfl, rfl, Nat.le_of_ble_eq_true rfl, Nat.le_of_ble_eq_true rfl⟩ ⟨Nat.zero_le _, Nat.zero_le _⟩ hl.1 (Nat.le_of_ble_eq_true rfl) dX10_formEntry_84 rfl (fun H locs hw => ?_)
          refine lv_goto (tgt := 136) hx hb dX10_formEntry_87 (by decide) ?_
          exact b136 _ _ _ v84 num hw (lv_sub hl [0] rfl) hf
        · replace hf := iq c71 hf
          refine lv_iconst (v := 1) hx hb dX10_formEntry_74 (by decide) ?_
          exact hret _ _ _ _ _ _ _ (Option.some.inj hf) dX10_formEntry_75 hw
      · replace hf := iq c39 hf
        refine lv_aload_n hx hb dX10_formEntry_42 rfl (lv_at hl 0 rfl) ?_
        refine xget (v := .ref (h 31)) E hw 0 rfl rfl 6 (by decide) inw10 qw252 rfl rfl dX10_formEntry_43 ?_
        refine lv_aload_n hx hb dX10_formEntry_46 rfl (lv_at hl 0 rfl) ?_
        refine xget (v := .ref (h 27)) E hw 0 rfl rfl 4 (by decide) inw10 qw250 rfl rfl dX10_formEntry_47 ?_
        refine lv_iload hx hb dX10_formEntry_50 (lv_at hl 2 rfl) ?_
        obtain ⟨v52, hv52, hf⟩ := ob_e hf
        refine xcallV (ws' := (wC g h now snap has hist ent res num col)) (st1 := [.int v52, .ref (h 31)]) (n := 34) E hw [.int x5] [27, 28, 29] (met_X2_codeAt l g h 27 ent x5 v52 hv52) rfl (by decide) rfl rfl [0, 1, 2, 3, 4, 5, 6, 7, 8, 9, 10, 11, 12, 13, 14, 15, 16, 17, 18, 19, 20, 21, 22, 23, 24, 25, 26, 34, 35, 36, 30, 31, 32, 33] rfl (by decide +kernel) rfl rfl rfl rfl qw678 k_X2_codeAt ⟨rfl, rfl, Nat.le_of_ble_eq_true rfl, Nat.le_of_ble_eq_true rfl⟩ ⟨Nat.zero_le _, Nat.zero_le _⟩ hl.1 (Nat.le_of_ble_eq_true rfl) dX10_formEntry_52 rfl (fun H locs hw => ?_)
        obtain ⟨v55, hv55, hf⟩ := ob_e hf
        refine xcallV (ws' := (wC g h now snap has hist ent res v55 col)) (st1 := []) (n := 34) E hw [.int v52] [31] (met_X4_take l g h 31 num v52 v55 hv55) rfl (by decide) rfl rfl [0, 1, 2, 3, 4, 5, 6, 7, 8, 9, 10, 11, 12, 13, 14, 15, 16, 17, 18, 19, 20, 21, 22, 23, 24, 25, 26, 27, 28, 29, 30, 34, 32, 33] rfl (by decide +kernel) rfl rfl rfl rfl qw843 k_X4_take ⟨rfl, rfl, Nat.le_of_ble_eq_true rfl, Nat.le_of_ble_eq_true rfl⟩ ⟨Nat.zero_le _, Nat.zero_le _⟩ hl.1 (Nat.le_of_ble_eq_true rfl) dX10_formEntry_55 rfl (fun H locs hw => ?_)
        refine lv_iinc (v := x5 + 1) (lv' := [(5, .int (x5 + 1)), (0, .ref (h 0)), (3, .int x3)]) hx hb dX10_formEntry_58 hl (k := 2) rfl rfl (by decide) rfl (fun ls hl => ?_)
        refine lv_goto (tgt := 36) hx hb dX10_formEntry_61 (by decide) ?_
        exact ih36 _ _ _ res v55 x3 (x5 + 1) hw (lv_sub hl [1, 2, 0] rfl) hf
  refine lv_aload_n hx hb dX10_formEntry_0 rfl (lv_at hl 0 rfl) ?_
  refine xget (v := .ref (h 27)) E hw 0 rfl rfl 4 (by decide) inw10 qw250 rfl rfl dX10_formEntry_1 ?_
  refine lv_iload_n hx hb dX10_formEntry_4 rfl (lv_at hl 2 rfl) ?_
  obtain ⟨v5, hv5, hf⟩ := ob_e hf
  refine xcallV (ws' := (wC g h now snap has hist ent res num col)) (st1 := [.int v5]) (n := 34) E hw [.int a2] [27, 28, 29] (met_X2_codeAt l g h 27 ent a2 v5 hv5) rfl (by decide) rfl rfl [0, 1, 2, 3, 4, 5, 6, 7, 8, 9, 10, 11, 12, 13, 14, 15, 16, 17, 18, 19, 20, 21, 22, 23, 24, 25, 26, 34, 35, 36, 30, 31, 32, 33] rfl (by decide +kernel) rfl rfl rfl rfl qw678 k_X2_codeAt ⟨rfl, rfl, Nat.le_of_ble_eq_true rfl, Nat.le_of_ble_eq_true rfl⟩ ⟨Nat.zero_le _, Nat.zero_le _⟩ hl.1 (Nat.le_of_ble_eq_true rfl) dX10_formEntry_5 rfl (fun H locs hw => ?_)
  refine lv_istore (lv' := [(4, .int v5), (0, .ref (h 0)), (1, .int a1), (2, .int a2), (3, .int a3)]) hx hb dX10_formEntry_8 hl (by decide) rfl (fun ls hl => ?_)
  refine lv_iload hx hb dX10_formEntry_10 (lv_at hl 0 rfl) ?_
  refine lv_bipush (v := 61) hx hb dX10_formEntry_12 (by decide) ?_
  refine lv_icmp_ne (tgt := 90) hx hb dX10_formEntry_14 (by decide) (fun c14 => ?_) (fun c14 => ?_)
  · replace hf := iq c14 hf
    refine lv_iload hx hb dX10_formEntry_90 (lv_at hl 0 rfl) ?_
    refine lv_bipush (v := 43) hx hb dX10_formEntry_92 (by decide) ?_
    refine lv_icmp_ne (tgt := 118) hx hb dX10_formEntry_94 (by decide) (fun c94 => ?_) (fun c94 => ?_)
    · replace hf := iq c94 hf
      refine lv_aload_n hx hb dX10_formEntry_118 rfl (lv_at hl 1 rfl) ?_
      refine lv_iload_n hx hb dX10_formEntry_119 rfl (lv_at hl 2 rfl) ?_
      refine lv_aload_n hx hb dX10_formEntry_120 rfl (lv_at hl 1 rfl) ?_
      refine xget (v := .ref (h 27)) E hw 0 rfl rfl 4 (by decide) inw10 qw250 rfl rfl dX10_formEntry_121 ?_
      refine lv_iload_n hx hb dX10_formEntry_124 rfl (lv_at hl 3 rfl) ?_
      refine lv_iconst (v := 1) hx hb dX10_formEntry_125 (by decide) ?_
      refine lv_iadd hx hb dX10_formEntry_126 ?_
      obtain ⟨v127, hv127, hf⟩ := ob_e hf
      refine xcallV (ws' := (wC g h now snap has hist ent res num col)) (st1 := [.int v127, .int a1, .ref (h 0)]) (n := 34) E hw [.int (a2 + 1)] [27, 28, 29] (met_X2_codeAt l g h 27 ent (a2 + 1) v127 hv127) rfl (by decide) rfl rfl [0, 1, 2, 3, 4, 5, 6, 7, 8, 9, 10, 11, 12, 13, 14, 15, 16, 17, 18, 19, 20, 21, 22, 23, 24, 25, 26, 34, 35, 36, 30, 31, 32, 33] rfl (by decide +kernel) rfl rfl rfl rfl qw678 k_X2_codeAt ⟨rfl, rfl, Nat.le_of_ble_eq_true rfl, Nat.le_of_ble_eq_true rfl⟩ ⟨Nat.zero_le _, Nat.zero_le _⟩ hl.1 (Nat.le_of_ble_eq_true rfl) dX10_formEntry_127 rfl (fun H locs hw => ?_)
      refine lv_bipush (v := 48) hx hb dX10_formEntry_130 (by decide) ?_
      refine lv_isub hx hb dX10_formEntry_132 ?_
      obtain ⟨v133, hv133, hf⟩ := ob_e hf
      refine xcallV (ws' := (wC g h now snap has hist ent v133 num col)) (st1 := []) (n := 34) E hw [.int a1, .int (v127 - 48)] [0, 1, 2, 3, 4, 5, 6, 7, 8, 9, 10, 11, 12, 13, 14, 15, 16, 17, 18, 19, 20, 21, 22, 23, 24, 25, 26, 27, 28, 29, 30, 31, 32, 33] (met_X10_formDifference l g h now snap has hist ent res num col a1 (v127 - 48) v133 hv133) rfl (by decide) rfl rfl [34, 35, 36, 37, 38, 39, 40, 41, 42, 43, 44, 45, 46, 47, 48, 49, 50, 51, 52, 53, 54, 55, 56, 57, 58, 59, 60, 61, 62, 63, 64, 65, 66, 67] rfl (by decide +kernel) rfl rfl rfl rfl qw755 k_X10_formDifference ⟨rfl, rfl, Nat.le_of_ble_eq_true rfl, Nat.le_of_ble_eq_true rfl⟩ ⟨Nat.zero_le _, Nat.zero_le _⟩ hl.1 (Nat.le_of_ble_eq_true rfl) dX10_formEntry_133 rfl (fun H locs hw => ?_)
      exact b136 _ _ _ v133 num hw (lv_sub hl [1] rfl) hf
    · replace hf := ip c94 hf
      refine lv_aload_n hx hb dX10_formEntry_97 rfl (lv_at hl 1 rfl) ?_
      refine lv_iload_n hx hb dX10_formEntry_98 rfl (lv_at hl 2 rfl) ?_
      refine lv_aload_n hx hb dX10_formEntry_99 rfl (lv_at hl 1 rfl) ?_
      refine xget (v := .ref (h 27)) E hw 0 rfl rfl 4 (by decide) inw10 qw250 rfl rfl dX10_formEntry_100 ?_
      refine lv_iload_n hx hb dX10_formEntry_103 rfl (lv_at hl 3 rfl) ?_
      refine lv_iconst (v := 1) hx hb dX10_formEntry_104 (by decide) ?_
      refine lv_iadd hx hb dX10_formEntry_105 ?_
      obtain ⟨v106, hv106, hf⟩ := ob_e hf
      refine xcallV (ws' := (wC g h now snap has hist ent res num col)) (st1 := [.int v106, .int a1, .ref (h 0)]) (n := 34) E hw [.int (a2 + 1)] [27, 28, 29] (met_X2_codeAt l g h 27 ent (a2 + 1) v106 hv106) rfl (by decide) rfl rfl [0, 1, 2, 3, 4, 5, 6, 7, 8, 9, 10, 11, 12, 13, 14, 15, 16, 17, 18, 19, 20, 21, 22, 23, 24, 25, 26, 34, 35, 36, 30, 31, 32, 33] rfl (by decide +kernel) rfl rfl rfl rfl qw678 k_X2_codeAt ⟨rfl, rfl, Nat.le_of_ble_eq_true rfl, Nat.le_of_ble_eq_true rfl⟩ ⟨Nat.zero_le _, Nat.zero_le _⟩ hl.1 (Nat.le_of_ble_eq_true rfl) dX10_formEntry_106 rfl (fun H locs hw => ?_)
      refine lv_bipush (v := 48) hx hb dX10_formEntry_109 (by decide) ?_
      refine lv_isub hx hb dX10_formEntry_111 ?_
      obtain ⟨v112, hv112, hf⟩ := ob_e hf
      refine xcallV (ws' := (wC g h now snap has hist ent v112 num col)) (st1 := []) (n := 34) E hw [.int a1, .int (v106 - 48)] [0, 1, 2, 3, 4, 5, 6, 7, 8, 9, 10, 11, 12, 13, 14, 15, 16, 17, 18, 19, 20, 21, 22, 23, 24, 25, 26, 27, 28, 29, 30, 31, 32, 33] (met_X10_formSum l g h now snap has hist ent res num col a1 (v106 - 48) v112 hv112) rfl (by decide) rfl rfl [34, 35, 36, 37, 38, 39, 40, 41, 42, 43, 44, 45, 46, 47, 48, 49, 50, 51, 52, 53, 54, 55, 56, 57, 58, 59, 60, 61, 62, 63, 64, 65, 66, 67] rfl (by decide +kernel) rfl rfl rfl rfl qw634 k_X10_formSum ⟨rfl, rfl, Nat.le_of_ble_eq_true rfl, Nat.le_of_ble_eq_true rfl⟩ ⟨Nat.zero_le _, Nat.zero_le _⟩ hl.1 (Nat.le_of_ble_eq_true rfl) dX10_formEntry_112 rfl (fun H locs hw => ?_)
      refine lv_goto (tgt := 136) hx hb dX10_formEntry_115 (by decide) ?_
      exact b136 _ _ _ v112 num hw (lv_sub hl [1] rfl) hf
  · replace hf := ip c14 hf
    refine lv_aload_n hx hb dX10_formEntry_17 rfl (lv_at hl 1 rfl) ?_
    refine xget (v := .ref (h 31)) E hw 0 rfl rfl 6 (by decide) inw10 qw252 rfl rfl dX10_formEntry_18 ?_
    refine lv_aload_n hx hb dX10_formEntry_21 rfl (lv_at hl 1 rfl) ?_
    refine xget (v := .ref (h 1)) E hw 0 rfl rfl 0 (by decide) inw10 qw246 rfl rfl dX10_formEntry_22 ?_
    refine xget (v := .int now.1) E hw 1 rfl rfl 0 (by decide) inw7 qw101 rfl rfl dX10_formEntry_25 ?_
    obtain ⟨v28, hv28, hf⟩ := ob_e hf
    refine xcallV (ws' := (wC g h now snap has hist ent res v28 col)) (st1 := []) (n := 34) E hw [.int now.1] [31] (met_X4_begin l g h 31 num now.1 v28 hv28) rfl (by decide) rfl rfl [0, 1, 2, 3, 4, 5, 6, 7, 8, 9, 10, 11, 12, 13, 14, 15, 16, 17, 18, 19, 20, 21, 22, 23, 24, 25, 26, 27, 28, 29, 30, 34, 32, 33] rfl (by decide +kernel) rfl rfl rfl rfl qw839 k_X4_begin ⟨rfl, rfl, Nat.le_of_ble_eq_true rfl, Nat.le_of_ble_eq_true rfl⟩ ⟨Nat.zero_le _, Nat.zero_le _⟩ hl.1 (Nat.le_of_ble_eq_true rfl) dX10_formEntry_28 rfl (fun H locs hw => ?_)
    refine lv_iload_n hx hb dX10_formEntry_31 rfl (lv_at hl 3 rfl) ?_
    refine lv_iconst (v := 1) hx hb dX10_formEntry_32 (by decide) ?_
    refine lv_iadd hx hb dX10_formEntry_33 ?_
    refine lv_istore (lv' := [(5, .int (a2 + 1)), (4, .int v5), (0, .ref (h 0)), (1, .int a1), (2, .int a2), (3, .int a3)]) hx hb dX10_formEntry_34 hl (by decide) rfl (fun ls hl => ?_)
    exact b36 xfuel _ _ _ res v28 a3 (a2 + 1) hw (lv_sub hl [2, 5, 0] rfl) hf
theorem k_X10_doPart : xKV yX10_doPart cX10_doPart 5 (some .int) 2 := ⟨qw829, qw18, qw66, qw830, by decide +kernel, by decide +kernel, by decide +kernel⟩
set_option maxHeartbeats 4000000 in
set_option maxRecDepth 100000 in
theorem met_X10_doPart (l : Launch) (g : xG) (h : Nat → Nat) (now : SC) (snap : SC) (has : Int32) (hist : HC) (ent : EC) (res : RC) (num : NC) (col : CC) (a1 : Int32) (a2 : Int32) (out : Int32 × SC × RC × NC) (hf : f_X10_doPart now ent res num a1 a2 = some out) : xM l yX10_doPart (xC yX10_doPart cX10_doPart 5 (some .int)) { frames := 4, cells := 0, slots := 0, locals := 107 } g (wC g h now snap has hist ent res num col) [.ref (h 0), .int a1, .int a2] (some (.int out.1)) (wC g h out.2.1 snap has hist ent out.2.2.1 out.2.2.2 col) := by
  refine xof (by decide) (Nat.le_of_ble_eq_true rfl) ⟨rfl, rfl⟩ ?_
  intro p e s m below meth c A ls E hr hlocks hw hl hpost hAe
  have hx := E.1.1
  have hb := E.1.2.1
  have hown := E.1.2.2.2.1
  have hts := E.1.2.2.2.2
  generalize hZ : (MQ below (xPost g (wC g h now snap has hist ent res num col) (wC g h out.2.1 snap has hist ent out.2.2.1 out.2.2.2 col) s.heap.size (some (.int out.1))) [.ref (h 0), .int a1, .int a2].toArray s 0 0 A) = ZZ
  have hret : ∀ (pc : Nat) (H : Heap) (locs : List Loc) (ls : Array Slot) (v : Int32) (cnow : SC) (cres : RC) (cnum : NC), (v, cnow, cres, cnum) = out → decode cX10_doPart pc = .ok (.ireturn, 1) → xW g A s.heap (wC g h cnow snap has hist ent cres cnum col) H locs → W p l e { frames := 4, cells := 0, slots := 0, locals := 107 } s m [.ref (h 0), .int a1, .int a2].toArray below meth c H locs 0 0 ZZ (F0 m pc ls [.int v]) := by
    intro pc H locs ls v cnow cres cnum he hd hw
    subst he
    rw [← hZ]
    exact W.iret hx hb hr (hpost H locs hw).1 (hpost H locs hw).2 hd hlocks
  clear hpost
  refine lv_aload_n hx hb dX10_doPart_0 rfl (lv_at hl 0 rfl) ?_
  refine xget (v := .ref (h 27)) E hw 0 rfl rfl 4 (by decide) inw10 qw250 rfl rfl dX10_doPart_1 ?_
  refine lv_iload_n hx hb dX10_doPart_4 rfl (lv_at hl 1 rfl) ?_
  obtain ⟨v5, hv5, hf⟩ := ob_e hf
  refine xcallV (ws' := (wC g h now snap has hist ent res num col)) (st1 := [.int v5]) (n := 34) E hw [.int a1] [27, 28, 29] (met_X2_codeAt l g h 27 ent a1 v5 hv5) rfl (by decide) rfl rfl [0, 1, 2, 3, 4, 5, 6, 7, 8, 9, 10, 11, 12, 13, 14, 15, 16, 17, 18, 19, 20, 21, 22, 23, 24, 25, 26, 34, 35, 36, 30, 31, 32, 33] rfl (by decide +kernel) rfl rfl rfl rfl qw678 k_X2_codeAt ⟨rfl, rfl, Nat.le_of_ble_eq_true rfl, Nat.le_of_ble_eq_true rfl⟩ ⟨Nat.zero_le _, Nat.zero_le _⟩ hl.1 (Nat.le_of_ble_eq_true rfl) dX10_doPart_5 rfl (fun H locs hw => ?_)
  refine lv_bipush (v := 98) hx hb dX10_doPart_8 (by decide) ?_
  refine lv_icmp_ne (tgt := 33) hx hb dX10_doPart_10 (by decide) (fun c10 => ?_) (fun c10 => ?_)
  · replace hf := iq c10 hf
    refine lv_aload_n hx hb dX10_doPart_33 rfl (lv_at hl 0 rfl) ?_
    refine xget (v := .ref (h 27)) E hw 0 rfl rfl 4 (by decide) inw10 qw250 rfl rfl dX10_doPart_34 ?_
    refine lv_iload_n hx hb dX10_doPart_37 rfl (lv_at hl 1 rfl) ?_
    obtain ⟨v38, hv38, hf⟩ := ob_e hf
    refine xcallV (ws' := (wC g h now snap has hist ent res num col)) (st1 := [.int v38]) (n := 34) E hw [.int a1] [27, 28, 29] (met_X2_codeAt l g h 27 ent a1 v38 hv38) rfl (by decide) rfl rfl [0, 1, 2, 3, 4, 5, 6, 7, 8, 9, 10, 11, 12, 13, 14, 15, 16, 17, 18, 19, 20, 21, 22, 23, 24, 25, 26, 34, 35, 36, 30, 31, 32, 33] rfl (by decide +kernel) rfl rfl rfl rfl qw678 k_X2_codeAt ⟨rfl, rfl, Nat.le_of_ble_eq_true rfl, Nat.le_of_ble_eq_true rfl⟩ ⟨Nat.zero_le _, Nat.zero_le _⟩ hl.1 (Nat.le_of_ble_eq_true rfl) dX10_doPart_38 rfl (fun H locs hw => ?_)
    refine lv_bipush (v := 48) hx hb dX10_doPart_41 (by decide) ?_
    refine lv_isub hx hb dX10_doPart_43 ?_
    refine lv_istore_n (lv' := [(3, .int (v38 - 48)), (0, .ref (h 0)), (1, .int a1), (2, .int a2)]) hx hb dX10_doPart_44 rfl hl (by decide) rfl (fun ls hl => ?_)
    refine lv_aload_n hx hb dX10_doPart_45 rfl (lv_at hl 1 rfl) ?_
    refine lv_iload_n hx hb dX10_doPart_46 rfl (lv_at hl 0 rfl) ?_
    refine lv_iload_n hx hb dX10_doPart_47 rfl (lv_at hl 2 rfl) ?_
    refine lv_iconst (v := 1) hx hb dX10_doPart_48 (by decide) ?_
    refine lv_iadd hx hb dX10_doPart_49 ?_
    refine lv_iload_n hx hb dX10_doPart_50 rfl (lv_at hl 3 rfl) ?_
    obtain ⟨v51, hv51, hf⟩ := ob_e hf
    refine xcallV (ws' := (wC g h now snap has hist ent v51.2.1 v51.2.2 col)) (st1 := [.int v51.1]) (n := 34) E hw [.int (v38 - 48), .int (a1 + 1), .int a2] [0, 1, 2, 3, 4, 5, 6, 7, 8, 9, 10, 11, 12, 13, 14, 15, 16, 17, 18, 19, 20, 21, 22, 23, 24, 25, 26, 27, 28, 29, 30, 31, 32, 33] (met_X10_formEntry l g h now snap has hist ent res num col (v38 - 48) (a1 + 1) a2 v51 hv51) rfl (by decide) rfl rfl [34, 35, 36, 37, 38, 39, 40, 41, 42, 43, 44, 45, 46, 47, 48, 49, 50, 51, 52, 53, 54, 55, 56, 57, 58, 59, 60, 61, 62, 63, 64, 65, 66, 67] rfl (by decide +kernel) rfl rfl rfl rfl qw835 k_X10_formEntry ⟨rfl, rfl, Nat.le_of_ble_eq_true rfl, Nat.le_of_ble_eq_true rfl⟩ ⟨Nat.zero_le _, Nat.zero_le _⟩ hl.1 (Nat.le_of_ble_eq_true rfl) dX10_doPart_51 rfl (fun H locs hw => ?_)
    refine lv_istore (lv' := [(4, .int v51.1), (3, .int (v38 - 48)), (0, .ref (h 0)), (1, .int a1), (2, .int a2)]) hx hb dX10_doPart_54 hl (by decide) rfl (fun ls hl => ?_)
    refine lv_iload hx hb dX10_doPart_56 (lv_at hl 0 rfl) ?_
    refine lv_if_ne (tgt := 73) hx hb dX10_doPart_58 (by decide) (fun c58 => ?_) (fun c58 => ?_)
    · replace hf := iq c58 hf
      refine lv_iload hx hb dX10_doPart_73 (lv_at hl 0 rfl) ?_
      exact hret _ _ _ _ _ _ _ _ (Option.some.inj hf) dX10_doPart_75 hw
    · replace hf := ip c58 hf
      refine lv_aload_n hx hb dX10_doPart_61 rfl (lv_at hl 2 rfl) ?_
      refine xget (v := .ref (h 1)) E hw 0 rfl rfl 0 (by decide) inw10 qw246 rfl rfl dX10_doPart_62 ?_
      refine lv_iload_n hx hb dX10_doPart_65 rfl (lv_at hl 1 rfl) ?_
      refine lv_aload_n hx hb dX10_doPart_66 rfl (lv_at hl 2 rfl) ?_
      refine xget (v := .ref (h 30)) E hw 0 rfl rfl 5 (by decide) inw10 qw251 rfl rfl dX10_doPart_67 ?_
      obtain ⟨v70, hv70, hf⟩ := ob_e hf
      refine xcallV (ws' := (wC g h v70 snap has hist ent v51.2.1 v51.2.2 col)) (st1 := []) (n := 34) E hw [.int (v38 - 48), .ref (h 30)] [1, 2, 3, 30] (met_X7_store l g h 1 30 now v51.2.1 (v38 - 48) v70 hv70) rfl (by decide) rfl rfl [0, 34, 35, 36, 4, 5, 6, 7, 8, 9, 10, 11, 12, 13, 14, 15, 16, 17, 18, 19, 20, 21, 22, 23, 24, 25, 26, 27, 28, 29, 37, 31, 32, 33] rfl (by decide +kernel) rfl rfl rfl rfl qw710 k_X7_store ⟨rfl, rfl, Nat.le_of_ble_eq_true rfl, Nat.le_of_ble_eq_true rfl⟩ ⟨Nat.zero_le _, Nat.zero_le _⟩ hl.1 (Nat.le_of_ble_eq_true rfl) dX10_doPart_70 rfl (fun H locs hw => ?_)
      refine lv_iload hx hb dX10_doPart_73 (lv_at hl 0 rfl) ?_
      exact hret _ _ _ _ _ _ _ _ (Option.some.inj hf) dX10_doPart_75 hw
  · replace hf := ip c10 hf
    refine lv_aload_n hx hb dX10_doPart_13 rfl (lv_at hl 0 rfl) ?_
    refine xget (v := .ref (h 1)) E hw 0 rfl rfl 0 (by decide) inw10 qw246 rfl rfl dX10_doPart_14 ?_
    refine lv_aload_n hx hb dX10_doPart_17 rfl (lv_at hl 0 rfl) ?_
    refine xget (v := .ref (h 27)) E hw 0 rfl rfl 4 (by decide) inw10 qw250 rfl rfl dX10_doPart_18 ?_
    refine lv_iload_n hx hb dX10_doPart_21 rfl (lv_at hl 1 rfl) ?_
    refine lv_iconst (v := 1) hx hb dX10_doPart_22 (by decide) ?_
    refine lv_iadd hx hb dX10_doPart_23 ?_
    refine lv_iload_n hx hb dX10_doPart_24 rfl (lv_at hl 2 rfl) ?_
    obtain ⟨v25, hv25, hf⟩ := ob_e hf
    refine xcallV (ws' := (wC g h now snap has hist ent res num col)) (st1 := [.int v25, .ref (h 1)]) (n := 34) E hw [.int (a1 + 1), .int a2] [27, 28, 29] (met_X2_decimal l g h 27 ent (a1 + 1) a2 v25 hv25) rfl (by decide) rfl rfl [0, 1, 2, 3, 4, 5, 6, 7, 8, 9, 10, 11, 12, 13, 14, 15, 16, 17, 18, 19, 20, 21, 22, 23, 24, 25, 26, 34, 35, 36, 30, 31, 32, 33] rfl (by decide +kernel) rfl rfl rfl rfl qw831 k_X2_decimal ⟨rfl, rfl, Nat.le_of_ble_eq_true rfl, Nat.le_of_ble_eq_true rfl⟩ ⟨Nat.zero_le _, Nat.zero_le _⟩ hl.1 (Nat.le_of_ble_eq_true rfl) dX10_doPart_25 rfl (fun H locs hw => ?_)
    refine xput (ws' := (wC g h (v25, now.2.1, now.2.2.1, now.2.2.2.1, now.2.2.2.2) snap has hist ent res num col)) E hw 1 rfl rfl 0 (by decide) inw7 tyX7_ok nmX7 qw101 rfl rfl rfl rfl (Nat.le_of_ble_eq_true rfl) dX10_doPart_28 rfl (fun H locs hw => ?_)
    refine lv_iconst (v := 0) hx hb dX10_doPart_31 (by decide) ?_
    exact hret _ _ _ _ _ _ _ _ (Option.some.inj hf) dX10_doPart_32 hw
theorem k_X10_doParts : xKV yX10_doParts cX10_doParts 5 (some .int) 0 := ⟨qw825, qw17, qw66, qw826, by decide +kernel, by decide +kernel, by decide +kernel⟩
set_option maxHeartbeats 4000000 in
set_option maxRecDepth 100000 in
theorem met_X10_doParts (l : Launch) (g : xG) (h : Nat → Nat) (now : SC) (snap : SC) (has : Int32) (hist : HC) (ent : EC) (res : RC) (num : NC) (col : CC) (out : Int32 × SC × RC × NC) (hf : f_X10_doParts now ent res num = some out) : xM l yX10_doParts (xC yX10_doParts cX10_doParts 5 (some .int)) { frames := 5, cells := 0, slots := 0, locals := 131 } g (wC g h now snap has hist ent res num col) [.ref (h 0)] (some (.int out.1)) (wC g h out.2.1 snap has hist ent out.2.2.1 out.2.2.2 col) := by
  refine xof (by decide) (Nat.le_of_ble_eq_true rfl) ⟨rfl, rfl⟩ ?_
  intro p e s m below meth c A ls E hr hlocks hw hl hpost hAe
  have hx := E.1.1
  have hb := E.1.2.1
  have hown := E.1.2.2.2.1
  have hts := E.1.2.2.2.2
  generalize hZ : (MQ below (xPost g (wC g h now snap has hist ent res num col) (wC g h out.2.1 snap has hist ent out.2.2.1 out.2.2.2 col) s.heap.size (some (.int out.1))) [.ref (h 0)].toArray s 0 0 A) = ZZ
  have hret : ∀ (pc : Nat) (H : Heap) (locs : List Loc) (ls : Array Slot) (v : Int32) (cnow : SC) (cres : RC) (cnum : NC), (v, cnow, cres, cnum) = out → decode cX10_doParts pc = .ok (.ireturn, 1) → xW g A s.heap (wC g h cnow snap has hist ent cres cnum col) H locs → W p l e { frames := 5, cells := 0, slots := 0, locals := 131 } s m [.ref (h 0)].toArray below meth c H locs 0 0 ZZ (F0 m pc ls [.int v]) := by
    intro pc H locs ls v cnow cres cnum he hd hw
    subst he
    rw [← hZ]
    exact W.iret hx hb hr (hpost H locs hw).1 (hpost H locs hw).2 hd hlocks
  clear hpost
  have b6 : ∀ n6 : Nat, ∀ (H : Heap) (locs : List Loc) (ls : Array Slot) (now : SC) (res : RC) (num : NC) (x1 : Int32) (x2 : Int32) (x3 : Int32), xW g A s.heap (wC g h now snap has hist ent res num col) H locs → lv_has ls 5 [(0, .ref (h 0)), (1, .int x1), (2, .int x2), (3, .int x3)] → f_X10_doParts_b6 n6 now ent res num x1 x2 x3 = some out → W p l e { frames := 5, cells := 0, slots := 0, locals := 131 } s m [.ref (h 0)].toArray below meth c H locs 0 0 ZZ (F0 m 6 ls []) := by
    intro n6
    induction n6 with
    | zero =>
      intro H locs ls now res num x1 x2 x3 hw hl hf
      exact nn hf
    | succ n6 ih6 =>
      have b73 : ∀ (H : Heap) (locs : List Loc) (ls : Array Slot) (now : SC) (res : RC) (num : NC) (x1 : Int32) (x2 : Int32) (x3 : Int32), xW g A s.heap (wC g h now snap has hist ent res num col) H locs → lv_has ls 5 [(0, .ref (h 0)), (1, .int x1), (2, .int x2), (3, .int x3)] → f_X10_doParts_b73 (f_X10_doParts_b6 n6) now ent res num x1 x2 x3 = some out → W p l e { frames := 5, cells := 0, slots := 0, locals := 131 } s m [.ref (h 0)].toArray below meth c H locs 0 0 ZZ (F0 m 73 ls []) := by
        intro H locs ls now res num x1 x2 x3 hw hl hf
        refine lv_iinc (v := x3 + 1) (lv' := [(3, .int (x3 + 1)), (0, .ref (h 0)), (1, .int x1), (2, .int x2)]) hx hb dX10_doParts_73 hl (k := 3) rfl rfl (by decide) rfl (fun ls hl => ?_)
        refine lv_goto (tgt := 6) hx hb dX10_doParts_76 (by decide) ?_
        exact ih6 _ _ _ now res num x1 x2 (x3 + 1) hw (lv_sub hl [1, 2, 3, 0] rfl) hf
      have b41 : ∀ (H : Heap) (locs : List Loc) (ls : Array Slot) (now : SC) (res : RC) (num : NC) (x1 : Int32) (x2 : Int32) (x3 : Int32), xW g A s.heap (wC g h now snap has hist ent res num col) H locs → lv_has ls 5 [(0, .ref (h 0)), (1, .int x1), (2, .int x2), (3, .int x3)] → f_X10_doParts_b41 (f_X10_doParts_b6 n6) now ent res num x1 x2 x3 = some out → W p l e { frames := 5, cells := 0, slots := 0, locals := 131 } s m [.ref (h 0)].toArray below meth c H locs 0 0 ZZ (F0 m 41 ls []) := by
        intro H locs ls now res num x1 x2 x3 hw hl hf
        refine lv_aload_n hx hb dX10_doParts_41 rfl (lv_at hl 0 rfl) ?_
        refine lv_iload_n hx hb dX10_doParts_42 rfl (lv_at hl 2 rfl) ?_
        refine lv_iload_n hx hb dX10_doParts_43 rfl (lv_at hl 3 rfl) ?_
        obtain ⟨v44, hv44, hf⟩ := ob_e hf
        refine xcallV (ws' := (wC g h v44.2.1 snap has hist ent v44.2.2.1 v44.2.2.2 col)) (st1 := [.int v44.1]) (n := 34) E hw [.int x2, .int x3] [0, 1, 2, 3, 4, 5, 6, 7, 8, 9, 10, 11, 12, 13, 14, 15, 16, 17, 18, 19, 20, 21, 22, 23, 24, 25, 26, 27, 28, 29, 30, 31, 32, 33] (met_X10_doPart l g h now snap has hist ent res num col x2 x3 v44 hv44) rfl (by decide) rfl rfl [34, 35, 36, 37, 38, 39, 40, 41, 42, 43, 44, 45, 46, 47, 48, 49, 50, 51, 52, 53, 54, 55, 56, 57, 58, 59, 60, 61, 62, 63, 64, 65, 66, 67] rfl (by decide +kernel) rfl rfl rfl rfl qw827 k_X10_doPart ⟨rfl, rfl, Nat.le_of_ble_eq_true rfl, Nat.le_of_ble_eq_true rfl⟩ ⟨Nat.zero_le _, Nat.zero_le _⟩ hl.1 (Nat.le_of_ble_eq_true rfl) dX10_doParts_44 rfl (fun H locs hw => ?_)
        refine lv_istore (lv' := [(4, .int v44.1), (0, .ref (h 0)), (1, .int x1), (2, .int x2), (3, .int x3)]) hx hb dX10_doParts_47 hl (by decide) rfl (fun ls hl => ?_)
        refine lv_iload hx hb dX10_doParts_49 (lv_at hl 0 rfl) ?_
        refine lv_if_eq (tgt := 66) hx hb dX10_doParts_51 (by decide) (fun c51 => ?_) (fun c51 => ?_)
        · replace hf := ip c51 hf
          refine lv_iinc (v := x1 + 1) (lv' := [(1, .int (x1 + 1)), (4, .int v44.1), (0, .ref (h 0)), (2, .int x2), (3, .int x3)]) hx hb dX10_doParts_66 hl (k := 2) rfl rfl (by decide) rfl (fun ls hl => ?_)
          refine lv_iload_n hx hb dX10_doParts_69 rfl (lv_at hl 4 rfl) ?_
          refine lv_iconst (v := 1) hx hb dX10_doParts_70 (by decide) ?_
          refine lv_iadd hx hb dX10_doParts_71 ?_
          refine lv_istore_n (lv' := [(2, .int (x3 + 1)), (1, .int (x1 + 1)), (4, .int v44.1), (0, .ref (h 0)), (3, .int x3)]) hx hb dX10_doParts_72 rfl hl (by decide) rfl (fun ls hl => ?_)
          exact b73 _ _ _ v44.2.1 v44.2.2.1 v44.2.2.2 (x1 + 1) (x3 + 1) x3 hw (lv_sub hl [3, 1, 0, 4] rfl) hf
        · replace hf := iq c51 hf
          refine lv_aload_n hx hb dX10_doParts_54 rfl (lv_at hl 1 rfl) ?_
          refine xget (v := .ref (h 1)) E hw 0 rfl rfl 0 (by decide) inw10 qw246 rfl rfl dX10_doParts_55 ?_
          refine lv_iload_n hx hb dX10_doParts_58 rfl (lv_at hl 2 rfl) ?_
          refine lv_iload hx hb dX10_doParts_59 (lv_at hl 0 rfl) ?_
          obtain ⟨v61, hv61, hf⟩ := ob_e hf
          refine xcallV (ws' := (wC g h v61 snap has hist ent v44.2.2.1 v44.2.2.2 col)) (st1 := []) (n := 34) E hw [.int x1, .int v44.1] [1, 2, 3] (met_X7_stopAt l g h 1 v44.2.1 x1 v44.1 v61 hv61) rfl (by decide) rfl rfl [0, 34, 35, 36, 4, 5, 6, 7, 8, 9, 10, 11, 12, 13, 14, 15, 16, 17, 18, 19, 20, 21, 22, 23, 24, 25, 26, 27, 28, 29, 30, 31, 32, 33] rfl (by decide +kernel) rfl rfl rfl rfl qw819 k_X7_stopAt ⟨rfl, rfl, Nat.le_of_ble_eq_true rfl, Nat.le_of_ble_eq_true rfl⟩ ⟨Nat.zero_le _, Nat.zero_le _⟩ hl.1 (Nat.le_of_ble_eq_true rfl) dX10_doParts_61 rfl (fun H locs hw => ?_)
          refine lv_iload_n hx hb dX10_doParts_64 rfl (lv_at hl 2 rfl) ?_
          exact hret _ _ _ _ _ _ _ _ (Option.some.inj hf) dX10_doParts_65 hw
      intro H locs ls now res num x1 x2 x3 hw hl hf
      refine lv_iload_n hx hb dX10_doParts_6 rfl (lv_at hl 3 rfl) ?_
      refine lv_aload_n hx hb dX10_doParts_7 rfl (lv_at hl 0 rfl) ?_
      refine xget (v := .ref (h 27)) E hw 0 rfl rfl 4 (by decide) inw10 qw250 rfl rfl dX10_doParts_8 ?_
      refine xget (v := .int ent.1) E hw 27 rfl rfl 0 (by decide) inw2 qw160 rfl rfl dX10_doParts_11 ?_
      refine lv_icmp_gt (tgt := 79) hx hb dX10_doParts_14 (by decide) (fun c14 => ?_) (fun c14 => ?_)
      · replace hf := ip c14 hf
        refine lv_iload_n hx hb dX10_doParts_79 rfl (lv_at hl 1 rfl) ?_
        exact hret _ _ _ _ _ _ _ _ (Option.some.inj hf) dX10_doParts_80 hw
      · replace hf := iq c14 hf
        refine lv_iload_n hx hb dX10_doParts_17 rfl (lv_at hl 3 rfl) ?_
        refine lv_aload_n hx hb dX10_doParts_18 rfl (lv_at hl 0 rfl) ?_
        refine xget (v := .ref (h 27)) E hw 0 rfl rfl 4 (by decide) inw10 qw250 rfl rfl dX10_doParts_19 ?_
        refine xget (v := .int ent.1) E hw 27 rfl rfl 0 (by decide) inw2 qw160 rfl rfl dX10_doParts_22 ?_
        refine lv_icmp_eq (tgt := 41) hx hb dX10_doParts_25 (by decide) (fun c25 => ?_) (fun c25 => ?_)
        · replace hf := ip c25 hf
          exact b41 _ _ _ now res num x1 x2 x3 hw (lv_sub hl [0, 1, 2, 3] rfl) hf
        · replace hf := iq c25 hf
          refine lv_aload_n hx hb dX10_doParts_28 rfl (lv_at hl 0 rfl) ?_
          refine xget (v := .ref (h 27)) E hw 0 rfl rfl 4 (by decide) inw10 qw250 rfl rfl dX10_doParts_29 ?_
          refine lv_iload_n hx hb dX10_doParts_32 rfl (lv_at hl 3 rfl) ?_
          obtain ⟨v33, hv33, hf⟩ := ob_e hf
          refine xcallV (ws' := (wC g h now snap has hist ent res num col)) (st1 := [.int v33]) (n := 34) E hw [.int x3] [27, 28, 29] (met_X2_codeAt l g h 27 ent x3 v33 hv33) rfl (by decide) rfl rfl [0, 1, 2, 3, 4, 5, 6, 7, 8, 9, 10, 11, 12, 13, 14, 15, 16, 17, 18, 19, 20, 21, 22, 23, 24, 25, 26, 34, 35, 36, 30, 31, 32, 33] rfl (by decide +kernel) rfl rfl rfl rfl qw678 k_X2_codeAt ⟨rfl, rfl, Nat.le_of_ble_eq_true rfl, Nat.le_of_ble_eq_true rfl⟩ ⟨Nat.zero_le _, Nat.zero_le _⟩ hl.1 (Nat.le_of_ble_eq_true rfl) dX10_doParts_33 rfl (fun H locs hw => ?_)
          refine lv_bipush (v := 59) hx hb dX10_doParts_36 (by decide) ?_
          refine lv_icmp_ne (tgt := 73) hx hb dX10_doParts_38 (by decide) (fun c38 => ?_) (fun c38 => ?_)
          · replace hf := iq c38 hf
            exact b73 _ _ _ now res num x1 x2 x3 hw (lv_sub hl [0, 1, 2, 3] rfl) hf
          · replace hf := ip c38 hf
            exact b41 _ _ _ now res num x1 x2 x3 hw (lv_sub hl [0, 1, 2, 3] rfl) hf
  refine lv_iconst (v := 0) hx hb dX10_doParts_0 (by decide) ?_
  refine lv_istore_n (lv' := [(1, .int 0), (0, .ref (h 0))]) hx hb dX10_doParts_1 rfl hl (by decide) rfl (fun ls hl => ?_)
  refine lv_iconst (v := 0) hx hb dX10_doParts_2 (by decide) ?_
  refine lv_istore_n (lv' := [(2, .int 0), (1, .int 0), (0, .ref (h 0))]) hx hb dX10_doParts_3 rfl hl (by decide) rfl (fun ls hl => ?_)
  refine lv_iconst (v := 0) hx hb dX10_doParts_4 (by decide) ?_
  refine lv_istore_n (lv' := [(3, .int 0), (2, .int 0), (1, .int 0), (0, .ref (h 0))]) hx hb dX10_doParts_5 rfl hl (by decide) rfl (fun ls hl => ?_)
  exact b6 xfuel _ _ _ now res num 0 0 0 hw (lv_sub hl [3, 2, 1, 0] rfl) hf
theorem k_X10_hasStopped : xKV yX10_hasStopped cX10_hasStopped 1 (some .boolean) 0 := ⟨qw313, qw314, qw66, qw315, by decide +kernel, by decide +kernel, by decide +kernel⟩
set_option maxHeartbeats 4000000 in
set_option maxRecDepth 100000 in
theorem met_X10_hasStopped (l : Launch) (g : xG) (h : Nat → Nat) (now : SC) (snap : SC) (has : Int32) (hist : HC) (ent : EC) (res : RC) (num : NC) (col : CC) (out : Int32) (hf : f_X10_hasStopped now = some out) : xM l yX10_hasStopped (xC yX10_hasStopped cX10_hasStopped 1 (some .boolean)) { frames := 0, cells := 0, slots := 0, locals := 0 } g (wC g h now snap has hist ent res num col) [.ref (h 0)] (some (.int out)) (wC g h now snap has hist ent res num col) := by
  refine xof (by decide) (Nat.le_of_ble_eq_true rfl) ⟨rfl, rfl⟩ ?_
  intro p e s m below meth c A ls E hr hlocks hw hl hpost hAe
  have hx := E.1.1
  have hb := E.1.2.1
  have hown := E.1.2.2.2.1
  have hts := E.1.2.2.2.2
  generalize hZ : (MQ below (xPost g (wC g h now snap has hist ent res num col) (wC g h now snap has hist ent res num col) s.heap.size (some (.int out))) [.ref (h 0)].toArray s 0 0 A) = ZZ
  have hret : ∀ (pc : Nat) (H : Heap) (locs : List Loc) (ls : Array Slot) (v : Int32), narrow .boolean (.int v) = .int v → v = out → decode cX10_hasStopped pc = .ok (.ireturn, 1) → xW g A s.heap (wC g h now snap has hist ent res num col) H locs → W p l e { frames := 0, cells := 0, slots := 0, locals := 0 } s m [.ref (h 0)].toArray below meth c H locs 0 0 ZZ (F0 m pc ls [.int v]) := by
    intro pc H locs ls v hn he hd hw
    subst he
    rw [← hZ]
    exact W.zret hx hb hr hn (hpost H locs hw).1 (hpost H locs hw).2 hd hlocks
  clear hpost
  refine lv_aload_n hx hb dX10_hasStopped_0 rfl (lv_at hl 0 rfl) ?_
  refine xget (v := .ref (h 1)) E hw 0 rfl rfl 0 (by decide) inw10 qw246 rfl rfl dX10_hasStopped_1 ?_
  refine xget (v := .int now.2.2.1) E hw 1 rfl rfl 2 (by decide) inw7 qw105 rfl rfl dX10_hasStopped_4 ?_
  refine lv_if_eq (tgt := 14) hx hb dX10_hasStopped_7 (by decide) (fun c7 => ?_) (fun c7 => ?_)
  · replace hf := ip c7 hf
    refine lv_iconst (v := 0) hx hb dX10_hasStopped_14 (by decide) ?_
    exact hret _ _ _ _ _ (by decide) (Option.some.inj hf) dX10_hasStopped_15 hw
  · replace hf := iq c7 hf
    refine lv_iconst (v := 1) hx hb dX10_hasStopped_10 (by decide) ?_
    refine lv_goto (tgt := 15) hx hb dX10_hasStopped_11 (by decide) ?_
    exact hret _ _ _ _ _ (by decide) (Option.some.inj hf) dX10_hasStopped_15 hw
theorem k_X10_keep : xKV yX10_keep cX10_keep 1 (some .int) 0 := ⟨qw317, qw318, qw66, qw319, by decide +kernel, by decide +kernel, by decide +kernel⟩
set_option maxHeartbeats 4000000 in
set_option maxRecDepth 100000 in
theorem met_X10_keep (l : Launch) (g : xG) (h : Nat → Nat) (now : SC) (snap : SC) (has : Int32) (hist : HC) (ent : EC) (res : RC) (num : NC) (col : CC) (out : Int32 × SC × Int32) (hf : f_X10_keep now snap has = some out) : xM l yX10_keep (xC yX10_keep cX10_keep 1 (some .int)) { frames := 1, cells := 0, slots := 0, locals := 22 } g (wC g h now snap has hist ent res num col) [.ref (h 0)] (some (.int out.1)) (wC g h now out.2.1 out.2.2 hist ent res num col) := by
  refine xof (by decide) (Nat.le_of_ble_eq_true rfl) ⟨rfl, rfl⟩ ?_
  intro p e s m below meth c A ls E hr hlocks hw hl hpost hAe
  have hx := E.1.1
  have hb := E.1.2.1
  have hown := E.1.2.2.2.1
  have hts := E.1.2.2.2.2
  generalize hZ : (MQ below (xPost g (wC g h now snap has hist ent res num col) (wC g h now out.2.1 out.2.2 hist ent res num col) s.heap.size (some (.int out.1))) [.ref (h 0)].toArray s 0 0 A) = ZZ
  have hret : ∀ (pc : Nat) (H : Heap) (locs : List Loc) (ls : Array Slot) (v : Int32) (csnap : SC) (chas : Int32), (v, csnap, chas) = out → decode cX10_keep pc = .ok (.ireturn, 1) → xW g A s.heap (wC g h now csnap chas hist ent res num col) H locs → W p l e { frames := 1, cells := 0, slots := 0, locals := 22 } s m [.ref (h 0)].toArray below meth c H locs 0 0 ZZ (F0 m pc ls [.int v]) := by
    intro pc H locs ls v csnap chas he hd hw
    subst he
    rw [← hZ]
    exact W.iret hx hb hr (hpost H locs hw).1 (hpost H locs hw).2 hd hlocks
  clear hpost
  refine lv_aload_n hx hb dX10_keep_0 rfl (lv_at hl 0 rfl) ?_
  refine xget (v := .ref (h 4)) E hw 0 rfl rfl 1 (by decide) inw10 qw247 rfl rfl dX10_keep_1 ?_
  refine lv_aload_n hx hb dX10_keep_4 rfl (lv_at hl 0 rfl) ?_
  refine xget (v := .ref (h 1)) E hw 0 rfl rfl 0 (by decide) inw10 qw246 rfl rfl dX10_keep_5 ?_
  obtain ⟨v8, hv8, hf⟩ := ob_e hf
  refine xcallV (ws' := (wC g h now v8 has hist ent res num col)) (st1 := []) (n := 34) E hw [.ref (h 1)] [4, 5, 6, 1, 2, 3] (met_X7_takeFrom l g h 4 1 snap now v8 hv8) rfl (by decide) rfl rfl [0, 37, 38, 39, 34, 35, 36, 7, 8, 9, 10, 11, 12, 13, 14, 15, 16, 17, 18, 19, 20, 21, 22, 23, 24, 25, 26, 27, 28, 29, 30, 31, 32, 33] rfl (by decide +kernel) rfl rfl rfl rfl qw320 k_X7_takeFrom ⟨rfl, rfl, Nat.le_of_ble_eq_true rfl, Nat.le_of_ble_eq_true rfl⟩ ⟨Nat.zero_le _, Nat.zero_le _⟩ hl.1 (Nat.le_of_ble_eq_true rfl) dX10_keep_8 rfl (fun H locs hw => ?_)
  refine lv_aload_n hx hb dX10_keep_11 rfl (lv_at hl 0 rfl) ?_
  refine lv_iconst (v := 1) hx hb dX10_keep_12 (by decide) ?_
  refine xput (ws' := (wC g h now v8 1 hist ent res num col)) E hw 0 rfl rfl 2 (by decide) inw10 tyX10_ok nmX10 qw248 rfl rfl (by decide) (by decide) (Nat.le_of_ble_eq_true rfl) dX10_keep_13 rfl (fun H locs hw => ?_)
  refine lv_aload_n hx hb dX10_keep_16 rfl (lv_at hl 0 rfl) ?_
  refine xget (v := .ref (h 1)) E hw 0 rfl rfl 0 (by decide) inw10 qw246 rfl rfl dX10_keep_17 ?_
  refine xget (v := .int now.1) E hw 1 rfl rfl 0 (by decide) inw7 qw101 rfl rfl dX10_keep_20 ?_
  exact hret _ _ _ _ _ _ _ (Option.some.inj hf) dX10_keep_23 hw
theorem k_X10_savedStates : xKV yX10_savedStates cX10_savedStates 1 (some .int) 0 := ⟨qw325, qw326, qw66, qw327, by decide +kernel, by decide +kernel, by decide +kernel⟩
set_option maxHeartbeats 4000000 in
set_option maxRecDepth 100000 in
theorem met_X10_savedStates (l : Launch) (g : xG) (h : Nat → Nat) (now : SC) (snap : SC) (has : Int32) (hist : HC) (ent : EC) (res : RC) (num : NC) (col : CC) (out : Int32) (hf : f_X10_savedStates hist = some out) : xM l yX10_savedStates (xC yX10_savedStates cX10_savedStates 1 (some .int)) { frames := 0, cells := 0, slots := 0, locals := 0 } g (wC g h now snap has hist ent res num col) [.ref (h 0)] (some (.int out)) (wC g h now snap has hist ent res num col) := by
  refine xof (by decide) (Nat.le_of_ble_eq_true rfl) ⟨rfl, rfl⟩ ?_
  intro p e s m below meth c A ls E hr hlocks hw hl hpost hAe
  have hx := E.1.1
  have hb := E.1.2.1
  have hown := E.1.2.2.2.1
  have hts := E.1.2.2.2.2
  generalize hZ : (MQ below (xPost g (wC g h now snap has hist ent res num col) (wC g h now snap has hist ent res num col) s.heap.size (some (.int out))) [.ref (h 0)].toArray s 0 0 A) = ZZ
  have hret : ∀ (pc : Nat) (H : Heap) (locs : List Loc) (ls : Array Slot) (v : Int32), v = out → decode cX10_savedStates pc = .ok (.ireturn, 1) → xW g A s.heap (wC g h now snap has hist ent res num col) H locs → W p l e { frames := 0, cells := 0, slots := 0, locals := 0 } s m [.ref (h 0)].toArray below meth c H locs 0 0 ZZ (F0 m pc ls [.int v]) := by
    intro pc H locs ls v he hd hw
    subst he
    rw [← hZ]
    exact W.iret hx hb hr (hpost H locs hw).1 (hpost H locs hw).2 hd hlocks
  clear hpost
  refine lv_aload_n hx hb dX10_savedStates_0 rfl (lv_at hl 0 rfl) ?_
  refine xget (v := .ref (h 7)) E hw 0 rfl rfl 3 (by decide) inw10 qw249 rfl rfl dX10_savedStates_1 ?_
  refine xget (v := .int hist.1) E hw 7 rfl rfl 0 (by decide) inw3 qw130 rfl rfl dX10_savedStates_4 ?_
  exact hret _ _ _ _ _ (Option.some.inj hf) dX10_savedStates_7 hw
theorem k_X10_base : xKV yX10_base cX10_base 1 (some .int) 0 := ⟨qw329, qw330, qw66, qw331, by decide +kernel, by decide +kernel, by decide +kernel⟩
set_option maxHeartbeats 4000000 in
set_option maxRecDepth 100000 in
theorem met_X10_base (l : Launch) (g : xG) (h : Nat → Nat) (now : SC) (snap : SC) (has : Int32) (hist : HC) (ent : EC) (res : RC) (num : NC) (col : CC) (out : Int32) (hf : f_X10_base now = some out) : xM l yX10_base (xC yX10_base cX10_base 1 (some .int)) { frames := 0, cells := 0, slots := 0, locals := 0 } g (wC g h now snap has hist ent res num col) [.ref (h 0)] (some (.int out)) (wC g h now snap has hist ent res num col) := by
  refine xof (by decide) (Nat.le_of_ble_eq_true rfl) ⟨rfl, rfl⟩ ?_
  intro p e s m below meth c A ls E hr hlocks hw hl hpost hAe
  have hx := E.1.1
  have hb := E.1.2.1
  have hown := E.1.2.2.2.1
  have hts := E.1.2.2.2.2
  generalize hZ : (MQ below (xPost g (wC g h now snap has hist ent res num col) (wC g h now snap has hist ent res num col) s.heap.size (some (.int out))) [.ref (h 0)].toArray s 0 0 A) = ZZ
  have hret : ∀ (pc : Nat) (H : Heap) (locs : List Loc) (ls : Array Slot) (v : Int32), v = out → decode cX10_base pc = .ok (.ireturn, 1) → xW g A s.heap (wC g h now snap has hist ent res num col) H locs → W p l e { frames := 0, cells := 0, slots := 0, locals := 0 } s m [.ref (h 0)].toArray below meth c H locs 0 0 ZZ (F0 m pc ls [.int v]) := by
    intro pc H locs ls v he hd hw
    subst he
    rw [← hZ]
    exact W.iret hx hb hr (hpost H locs hw).1 (hpost H locs hw).2 hd hlocks
  clear hpost
  refine lv_aload_n hx hb dX10_base_0 rfl (lv_at hl 0 rfl) ?_
  refine xget (v := .ref (h 1)) E hw 0 rfl rfl 0 (by decide) inw10 qw246 rfl rfl dX10_base_1 ?_
  refine xget (v := .int now.1) E hw 1 rfl rfl 0 (by decide) inw7 qw101 rfl rfl dX10_base_4 ?_
  exact hret _ _ _ _ _ (Option.some.inj hf) dX10_base_7 hw
theorem k_X10_order : xKV yX10_order cX10_order 7 (some .int) 2 := ⟨qw338, qw2, qw66, qw339, by decide +kernel, by decide +kernel, by decide +kernel⟩
set_option maxHeartbeats 4000000 in
set_option maxRecDepth 100000 in
theorem met_X10_order (l : Launch) (g : xG) (h : Nat → Nat) (now : SC) (snap : SC) (has : Int32) (hist : HC) (ent : EC) (res : RC) (num : NC) (col : CC) (a1 : Int32) (a2 : Int32) (out : Int32) (hf : f_X10_order now a1 a2 = some out) : xM l yX10_order (xC yX10_order cX10_order 7 (some .int)) { frames := 2, cells := 0, slots := 0, locals := 41 } g (wC g h now snap has hist ent res num col) [.ref (h 0), .int a1, .int a2] (some (.int out)) (wC g h now snap has hist ent res num col) := by
  refine xof (by decide) (Nat.le_of_ble_eq_true rfl) ⟨rfl, rfl⟩ ?_
  intro p e s m below meth c A ls E hr hlocks hw hl hpost hAe
  have hx := E.1.1
  have hb := E.1.2.1
  have hown := E.1.2.2.2.1
  have hts := E.1.2.2.2.2
  generalize hZ : (MQ below (xPost g (wC g h now snap has hist ent res num col) (wC g h now snap has hist ent res num col) s.heap.size (some (.int out))) [.ref (h 0), .int a1, .int a2].toArray s 0 0 A) = ZZ
  have hret : ∀ (pc : Nat) (H : Heap) (locs : List Loc) (ls : Array Slot) (v : Int32), v = out → decode cX10_order pc = .ok (.ireturn, 1) → xW g A s.heap (wC g h now snap has hist ent res num col) H locs → W p l e { frames := 2, cells := 0, slots := 0, locals := 41 } s m [.ref (h 0), .int a1, .int a2].toArray below meth c H locs 0 0 ZZ (F0 m pc ls [.int v]) := by
    intro pc H locs ls v he hd hw
    subst he
    rw [← hZ]
    exact W.iret hx hb hr (hpost H locs hw).1 (hpost H locs hw).2 hd hlocks
  clear hpost
  refine lv_aload_n hx hb dX10_order_0 rfl (lv_at hl 0 rfl) ?_
  refine xget (v := .ref (h 1)) E hw 0 rfl rfl 0 (by decide) inw10 qw246 rfl rfl dX10_order_1 ?_
  refine lv_iload_n hx hb dX10_order_4 rfl (lv_at hl 1 rfl) ?_
  obtain ⟨v5, hv5, hf⟩ := ob_e hf
  refine xcallV (ws' := (wC g h now snap has hist ent res num col)) (st1 := [.int v5]) (n := 34) E hw [.int a1] [1, 2, 3] (met_X7_numeratorOf l g h 1 now a1 v5 hv5) rfl (by decide) rfl rfl [0, 34, 35, 36, 4, 5, 6, 7, 8, 9, 10, 11, 12, 13, 14, 15, 16, 17, 18, 19, 20, 21, 22, 23, 24, 25, 26, 27, 28, 29, 30, 31, 32, 33] rfl (by decide +kernel) rfl rfl rfl rfl qw340 k_X7_numeratorOf ⟨rfl, rfl, Nat.le_of_ble_eq_true rfl, Nat.le_of_ble_eq_true rfl⟩ ⟨Nat.zero_le _, Nat.zero_le _⟩ hl.1 (Nat.le_of_ble_eq_true rfl) dX10_order_5 rfl (fun H locs hw => ?_)
  refine lv_i2l hx hb dX10_order_8 rfl ?_
  refine lv_aload_n hx hb dX10_order_9 rfl (lv_at hl 0 rfl) ?_
  refine xget (v := .ref (h 1)) E hw 0 rfl rfl 0 (by decide) inw10 qw246 rfl rfl dX10_order_10 ?_
  refine lv_iload_n hx hb dX10_order_13 rfl (lv_at hl 2 rfl) ?_
  obtain ⟨v14, hv14, hf⟩ := ob_e hf
  refine xcallV (ws' := (wC g h now snap has hist ent res num col)) (st1 := [.int v14, .long v5.toInt64]) (n := 34) E hw [.int a2] [1, 2, 3] (met_X7_denominatorOf l g h 1 now a2 v14 hv14) rfl (by decide) rfl rfl [0, 34, 35, 36, 4, 5, 6, 7, 8, 9, 10, 11, 12, 13, 14, 15, 16, 17, 18, 19, 20, 21, 22, 23, 24, 25, 26, 27, 28, 29, 30, 31, 32, 33] rfl (by decide +kernel) rfl rfl rfl rfl qw347 k_X7_denominatorOf ⟨rfl, rfl, Nat.le_of_ble_eq_true rfl, Nat.le_of_ble_eq_true rfl⟩ ⟨Nat.zero_le _, Nat.zero_le _⟩ hl.1 (Nat.le_of_ble_eq_true rfl) dX10_order_14 rfl (fun H locs hw => ?_)
  refine lv_i2l hx hb dX10_order_17 rfl ?_
  refine lv_lmul hx hb dX10_order_18 ?_
  refine lv_lstore_n (lv' := [(3, .long (v5.toInt64 * v14.toInt64)), (0, .ref (h 0)), (1, .int a1), (2, .int a2)]) hx hb dX10_order_19 rfl hl (by decide) rfl (fun ls hl => ?_)
  refine lv_aload_n hx hb dX10_order_20 rfl (lv_at hl 1 rfl) ?_
  refine xget (v := .ref (h 1)) E hw 0 rfl rfl 0 (by decide) inw10 qw246 rfl rfl dX10_order_21 ?_
  refine lv_iload_n hx hb dX10_order_24 rfl (lv_at hl 3 rfl) ?_
  obtain ⟨v25, hv25, hf⟩ := ob_e hf
  refine xcallV (ws' := (wC g h now snap has hist ent res num col)) (st1 := [.int v25]) (n := 34) E hw [.int a2] [1, 2, 3] (met_X7_numeratorOf l g h 1 now a2 v25 hv25) rfl (by decide) rfl rfl [0, 34, 35, 36, 4, 5, 6, 7, 8, 9, 10, 11, 12, 13, 14, 15, 16, 17, 18, 19, 20, 21, 22, 23, 24, 25, 26, 27, 28, 29, 30, 31, 32, 33] rfl (by decide +kernel) rfl rfl rfl rfl qw340 k_X7_numeratorOf ⟨rfl, rfl, Nat.le_of_ble_eq_true rfl, Nat.le_of_ble_eq_true rfl⟩ ⟨Nat.zero_le _, Nat.zero_le _⟩ hl.1 (Nat.le_of_ble_eq_true rfl) dX10_order_25 rfl (fun H locs hw => ?_)
  refine lv_i2l hx hb dX10_order_28 rfl ?_
  refine lv_aload_n hx hb dX10_order_29 rfl (lv_at hl 1 rfl) ?_
  refine xget (v := .ref (h 1)) E hw 0 rfl rfl 0 (by decide) inw10 qw246 rfl rfl dX10_order_30 ?_
  refine lv_iload_n hx hb dX10_order_33 rfl (lv_at hl 2 rfl) ?_
  obtain ⟨v34, hv34, hf⟩ := ob_e hf
  refine xcallV (ws' := (wC g h now snap has hist ent res num col)) (st1 := [.int v34, .long v25.toInt64]) (n := 34) E hw [.int a1] [1, 2, 3] (met_X7_denominatorOf l g h 1 now a1 v34 hv34) rfl (by decide) rfl rfl [0, 34, 35, 36, 4, 5, 6, 7, 8, 9, 10, 11, 12, 13, 14, 15, 16, 17, 18, 19, 20, 21, 22, 23, 24, 25, 26, 27, 28, 29, 30, 31, 32, 33] rfl (by decide +kernel) rfl rfl rfl rfl qw347 k_X7_denominatorOf ⟨rfl, rfl, Nat.le_of_ble_eq_true rfl, Nat.le_of_ble_eq_true rfl⟩ ⟨Nat.zero_le _, Nat.zero_le _⟩ hl.1 (Nat.le_of_ble_eq_true rfl) dX10_order_34 rfl (fun H locs hw => ?_)
  refine lv_i2l hx hb dX10_order_37 rfl ?_
  refine lv_lmul hx hb dX10_order_38 ?_
  refine lv_lstore (lv' := [(5, .long (v25.toInt64 * v34.toInt64)), (3, .long (v5.toInt64 * v14.toInt64)), (0, .ref (h 0)), (1, .int a1), (2, .int a2)]) hx hb dX10_order_39 hl (by decide) rfl (fun ls hl => ?_)
  refine lv_lload_n hx hb dX10_order_41 rfl (lv_at hl 1 rfl) ?_
  refine lv_lload hx hb dX10_order_42 (lv_at hl 0 rfl) ?_
  refine xlc_ne (tgt := 50) hx hb dX10_order_44 dX10_order_45 (by decide) (fun c44 => ?_) (fun c44 => ?_)
  · replace hf := iq c44 hf
    refine lv_lload_n hx hb dX10_order_50 rfl (lv_at hl 1 rfl) ?_
    refine lv_lload hx hb dX10_order_51 (lv_at hl 0 rfl) ?_
    refine xlc_le (tgt := 61) hx hb dX10_order_53 dX10_order_54 (by decide) (fun c53 => ?_) (fun c53 => ?_)
    · replace hf := iq c53 hf
      refine lv_iconst (v := (-1)) hx hb dX10_order_61 (by decide) ?_
      exact hret _ _ _ _ _ (Option.some.inj hf) dX10_order_62 hw
    · replace hf := ip c53 hf
      refine lv_iconst (v := 1) hx hb dX10_order_57 (by decide) ?_
      refine lv_goto (tgt := 62) hx hb dX10_order_58 (by decide) ?_
      exact hret _ _ _ _ _ (Option.some.inj hf) dX10_order_62 hw
  · replace hf := ip c44 hf
    refine lv_iconst (v := 0) hx hb dX10_order_48 (by decide) ?_
    exact hret _ _ _ _ _ (Option.some.inj hf) dX10_order_49 hw
theorem k_X10_richest : xKV yX10_richest cX10_richest 3 (some .int) 0 := ⟨qw333, qw334, qw66, qw335, by decide +kernel, by decide +kernel, by decide +kernel⟩
set_option maxHeartbeats 4000000 in
set_option maxRecDepth 100000 in
theorem met_X10_richest (l : Launch) (g : xG) (h : Nat → Nat) (now : SC) (snap : SC) (has : Int32) (hist : HC) (ent : EC) (res : RC) (num : NC) (col : CC) (out : Int32) (hf : f_X10_richest now = some out) : xM l yX10_richest (xC yX10_richest cX10_richest 3 (some .int)) { frames := 3, cells := 0, slots := 0, locals := 67 } g (wC g h now snap has hist ent res num col) [.ref (h 0)] (some (.int out)) (wC g h now snap has hist ent res num col) := by
  refine xof (by decide) (Nat.le_of_ble_eq_true rfl) ⟨rfl, rfl⟩ ?_
  intro p e s m below meth c A ls E hr hlocks hw hl hpost hAe
  have hx := E.1.1
  have hb := E.1.2.1
  have hown := E.1.2.2.2.1
  have hts := E.1.2.2.2.2
  generalize hZ : (MQ below (xPost g (wC g h now snap has hist ent res num col) (wC g h now snap has hist ent res num col) s.heap.size (some (.int out))) [.ref (h 0)].toArray s 0 0 A) = ZZ
  have hret : ∀ (pc : Nat) (H : Heap) (locs : List Loc) (ls : Array Slot) (v : Int32), v = out → decode cX10_richest pc = .ok (.ireturn, 1) → xW g A s.heap (wC g h now snap has hist ent res num col) H locs → W p l e { frames := 3, cells := 0, slots := 0, locals := 67 } s m [.ref (h 0)].toArray below meth c H locs 0 0 ZZ (F0 m pc ls [.int v]) := by
    intro pc H locs ls v he hd hw
    subst he
    rw [← hZ]
    exact W.iret hx hb hr (hpost H locs hw).1 (hpost H locs hw).2 hd hlocks
  clear hpost
  have b4 : ∀ n4 : Nat, ∀ (H : Heap) (locs : List Loc) (ls : Array Slot) (x1 : Int32) (x2 : Int32), xW g A s.heap (wC g h now snap has hist ent res num col) H locs → lv_has ls 3 [(0, .ref (h 0)), (1, .int x1), (2, .int x2)] → f_X10_richest_b4 n4 now x1 x2 = some out → W p l e { frames := 3, cells := 0, slots := 0, locals := 67 } s m [.ref (h 0)].toArray below meth c H locs 0 0 ZZ (F0 m 4 ls []) := by
    intro n4
    induction n4 with
    | zero =>
      intro H locs ls x1 x2 hw hl hf
      exact nn hf
    | succ n4 ih4 =>
      have b21 : ∀ (H : Heap) (locs : List Loc) (ls : Array Slot) (x1 : Int32) (x2 : Int32), xW g A s.heap (wC g h now snap has hist ent res num col) H locs → lv_has ls 3 [(0, .ref (h 0)), (1, .int x1), (2, .int x2)] → f_X10_richest_b21 (f_X10_richest_b4 n4) now x1 x2 = some out → W p l e { frames := 3, cells := 0, slots := 0, locals := 67 } s m [.ref (h 0)].toArray below meth c H locs 0 0 ZZ (F0 m 21 ls []) := by
        intro H locs ls x1 x2 hw hl hf
        refine lv_iinc (v := x2 + 1) (lv' := [(2, .int (x2 + 1)), (0, .ref (h 0)), (1, .int x1)]) hx hb dX10_richest_21 hl (k := 2) rfl rfl (by decide) rfl (fun ls hl => ?_)
        refine lv_goto (tgt := 4) hx hb dX10_richest_24 (by decide) ?_
        exact ih4 _ _ _ x1 (x2 + 1) hw (lv_sub hl [1, 2, 0] rfl) hf
      intro H locs ls x1 x2 hw hl hf
      refine lv_iload_n hx hb dX10_richest_4 rfl (lv_at hl 2 rfl) ?_
      refine lv_bipush (v := 6) hx hb dX10_richest_5 (by decide) ?_
      refine lv_icmp_ge (tgt := 27) hx hb dX10_richest_7 (by decide) (fun c7 => ?_) (fun c7 => ?_)
      · replace hf := ip c7 hf
        refine lv_iload_n hx hb dX10_richest_27 rfl (lv_at hl 1 rfl) ?_
        exact hret _ _ _ _ _ (Option.some.inj hf) dX10_richest_28 hw
      · replace hf := iq c7 hf
        refine lv_aload_n hx hb dX10_richest_10 rfl (lv_at hl 0 rfl) ?_
        refine lv_iload_n hx hb dX10_richest_11 rfl (lv_at hl 2 rfl) ?_
        refine lv_iload_n hx hb dX10_richest_12 rfl (lv_at hl 1 rfl) ?_
        obtain ⟨v13, hv13, hf⟩ := ob_e hf
        refine xcallV (ws' := (wC g h now snap has hist ent res num col)) (st1 := [.int v13]) (n := 34) E hw [.int x2, .int x1] [0, 1, 2, 3, 4, 5, 6, 7, 8, 9, 10, 11, 12, 13, 14, 15, 16, 17, 18, 19, 20, 21, 22, 23, 24, 25, 26, 27, 28, 29, 30, 31, 32, 33] (met_X10_order l g h now snap has hist ent res num col x2 x1 v13 hv13) rfl (by decide) rfl rfl [34, 35, 36, 37, 38, 39, 40, 41, 42, 43, 44, 45, 46, 47, 48, 49, 50, 51, 52, 53, 54, 55, 56, 57, 58, 59, 60, 61, 62, 63, 64, 65, 66, 67] rfl (by decide +kernel) rfl rfl rfl rfl qw336 k_X10_order ⟨rfl, rfl, Nat.le_of_ble_eq_true rfl, Nat.le_of_ble_eq_true rfl⟩ ⟨Nat.zero_le _, Nat.zero_le _⟩ hl.1 (Nat.le_of_ble_eq_true rfl) dX10_richest_13 rfl (fun H locs hw => ?_)
        refine lv_if_le (tgt := 21) hx hb dX10_richest_16 (by decide) (fun c16 => ?_) (fun c16 => ?_)
        · replace hf := ip c16 hf
          exact b21 _ _ _ x1 x2 hw (lv_sub hl [0, 1, 2] rfl) hf
        · replace hf := iq c16 hf
          refine lv_iload_n hx hb dX10_richest_19 rfl (lv_at hl 2 rfl) ?_
          refine lv_istore_n (lv' := [(1, .int x2), (0, .ref (h 0)), (2, .int x2)]) hx hb dX10_richest_20 rfl hl (by decide) rfl (fun ls hl => ?_)
          exact b21 _ _ _ x2 x2 hw (lv_sub hl [1, 0, 2] rfl) hf
  refine lv_iconst (v := 0) hx hb dX10_richest_0 (by decide) ?_
  refine lv_istore_n (lv' := [(1, .int 0), (0, .ref (h 0))]) hx hb dX10_richest_1 rfl hl (by decide) rfl (fun ls hl => ?_)
  refine lv_iconst (v := 1) hx hb dX10_richest_2 (by decide) ?_
  refine lv_istore_n (lv' := [(2, .int 1), (1, .int 0), (0, .ref (h 0))]) hx hb dX10_richest_3 rfl hl (by decide) rfl (fun ls hl => ?_)
  exact b4 xfuel _ _ _ 0 1 hw (lv_sub hl [2, 1, 0] rfl) hf
theorem k_X10_codeOfDigit : xKS yX10_codeOfDigit cX10_codeOfDigit 1 (some .int) 1 := ⟨qw594, qw66, qw595, by decide +kernel, by decide +kernel, by decide +kernel⟩
set_option maxHeartbeats 4000000 in
set_option maxRecDepth 100000 in
theorem met_X10_codeOfDigit (l : Launch) (g : xG) (a0 : Int32) (out : Int32) (hf : f_X10_codeOfDigit a0 = some out) : xM l yX10_codeOfDigit (xC yX10_codeOfDigit cX10_codeOfDigit 1 (some .int)) { frames := 0, cells := 0, slots := 0, locals := 0 } g ([] : va_W) [.int a0] (some (.int out)) ([] : va_W) := by
  refine xof (by decide) (Nat.le_of_ble_eq_true rfl) ⟨rfl, rfl⟩ ?_
  intro p e s m below meth c A ls E hr hlocks hw hl hpost hAe
  have hx := E.1.1
  have hb := E.1.2.1
  have hown := E.1.2.2.2.1
  have hts := E.1.2.2.2.2
  generalize hZ : (MQ below (xPost g ([] : va_W) ([] : va_W) s.heap.size (some (.int out))) [.int a0].toArray s 0 0 A) = ZZ
  have hret : ∀ (pc : Nat) (H : Heap) (locs : List Loc) (ls : Array Slot) (v : Int32), v = out → decode cX10_codeOfDigit pc = .ok (.ireturn, 1) → xW g A s.heap ([] : va_W) H locs → W p l e { frames := 0, cells := 0, slots := 0, locals := 0 } s m [.int a0].toArray below meth c H locs 0 0 ZZ (F0 m pc ls [.int v]) := by
    intro pc H locs ls v he hd hw
    subst he
    rw [← hZ]
    exact W.iret hx hb hr (hpost H locs hw).1 (hpost H locs hw).2 hd hlocks
  clear hpost
  refine lv_iload_n hx hb dX10_codeOfDigit_0 rfl (lv_at hl 0 rfl) ?_
  refine lv_bipush (v := 10) hx hb dX10_codeOfDigit_1 (by decide) ?_
  refine lv_icmp_ge (tgt := 13) hx hb dX10_codeOfDigit_3 (by decide) (fun c3 => ?_) (fun c3 => ?_)
  · replace hf := ip c3 hf
    refine lv_bipush (v := 97) hx hb dX10_codeOfDigit_13 (by decide) ?_
    refine lv_iload_n hx hb dX10_codeOfDigit_15 rfl (lv_at hl 0 rfl) ?_
    refine lv_iadd hx hb dX10_codeOfDigit_16 ?_
    refine lv_bipush (v := 10) hx hb dX10_codeOfDigit_17 (by decide) ?_
    refine lv_isub hx hb dX10_codeOfDigit_19 ?_
    exact hret _ _ _ _ _ (Option.some.inj hf) dX10_codeOfDigit_20 hw
  · replace hf := iq c3 hf
    refine lv_bipush (v := 48) hx hb dX10_codeOfDigit_6 (by decide) ?_
    refine lv_iload_n hx hb dX10_codeOfDigit_8 rfl (lv_at hl 0 rfl) ?_
    refine lv_iadd hx hb dX10_codeOfDigit_9 ?_
    refine lv_goto (tgt := 20) hx hb dX10_codeOfDigit_10 (by decide) ?_
    exact hret _ _ _ _ _ (Option.some.inj hf) dX10_codeOfDigit_20 hw
theorem k_X10_codeBehind : xKV yX10_codeBehind cX10_codeBehind 8 (some .int) 2 := ⟨qw598, qw7, qw66, qw599, by decide +kernel, by decide +kernel, by decide +kernel⟩
set_option maxHeartbeats 4000000 in
set_option maxRecDepth 100000 in
theorem met_X10_codeBehind (l : Launch) (g : xG) (h : Nat → Nat) (now : SC) (snap : SC) (has : Int32) (hist : HC) (ent : EC) (res : RC) (num : NC) (col : CC) (a1 : Int32) (a2 : Int32) (out : Int32) (hf : f_X10_codeBehind now a1 a2 = some out) : xM l yX10_codeBehind (xC yX10_codeBehind cX10_codeBehind 8 (some .int)) { frames := 3, cells := 0, slots := 0, locals := 79 } g (wC g h now snap has hist ent res num col) [.ref (h 0), .int a1, .int a2] (some (.int out)) (wC g h now snap has hist ent res num col) := by
  refine xof (by decide) (Nat.le_of_ble_eq_true rfl) ⟨rfl, rfl⟩ ?_
  intro p e s m below meth c A ls E hr hlocks hw hl hpost hAe
  have hx := E.1.1
  have hb := E.1.2.1
  have hown := E.1.2.2.2.1
  have hts := E.1.2.2.2.2
  generalize hZ : (MQ below (xPost g (wC g h now snap has hist ent res num col) (wC g h now snap has hist ent res num col) s.heap.size (some (.int out))) [.ref (h 0), .int a1, .int a2].toArray s 0 0 A) = ZZ
  have hret : ∀ (pc : Nat) (H : Heap) (locs : List Loc) (ls : Array Slot) (v : Int32), v = out → decode cX10_codeBehind pc = .ok (.ireturn, 1) → xW g A s.heap (wC g h now snap has hist ent res num col) H locs → W p l e { frames := 3, cells := 0, slots := 0, locals := 79 } s m [.ref (h 0), .int a1, .int a2].toArray below meth c H locs 0 0 ZZ (F0 m pc ls [.int v]) := by
    intro pc H locs ls v he hd hw
    subst he
    rw [← hZ]
    exact W.iret hx hb hr (hpost H locs hw).1 (hpost H locs hw).2 hd hlocks
  clear hpost
  refine lv_aload_n hx hb dX10_codeBehind_0 rfl (lv_at hl 0 rfl) ?_
  refine xget (v := .ref (h 1)) E hw 0 rfl rfl 0 (by decide) inw10 qw246 rfl rfl dX10_codeBehind_1 ?_
  refine lv_iload_n hx hb dX10_codeBehind_4 rfl (lv_at hl 1 rfl) ?_
  obtain ⟨v5, hv5, hf⟩ := ob_e hf
  refine xcallV (ws' := (wC g h now snap has hist ent res num col)) (st1 := [.int v5]) (n := 34) E hw [.int a1] [1, 2, 3] (met_X7_denominatorOf l g h 1 now a1 v5 hv5) rfl (by decide) rfl rfl [0, 34, 35, 36, 4, 5, 6, 7, 8, 9, 10, 11, 12, 13, 14, 15, 16, 17, 18, 19, 20, 21, 22, 23, 24, 25, 26, 27, 28, 29, 30, 31, 32, 33] rfl (by decide +kernel) rfl rfl rfl rfl qw347 k_X7_denominatorOf ⟨rfl, rfl, Nat.le_of_ble_eq_true rfl, Nat.le_of_ble_eq_true rfl⟩ ⟨Nat.zero_le _, Nat.zero_le _⟩ hl.1 (Nat.le_of_ble_eq_true rfl) dX10_codeBehind_5 rfl (fun H locs hw => ?_)
  refine lv_istore_n (lv' := [(3, .int v5), (0, .ref (h 0)), (1, .int a1), (2, .int a2)]) hx hb dX10_codeBehind_8 rfl hl (by decide) rfl (fun ls hl => ?_)
  refine lv_aload_n hx hb dX10_codeBehind_9 rfl (lv_at hl 1 rfl) ?_
  refine xget (v := .ref (h 1)) E hw 0 rfl rfl 0 (by decide) inw10 qw246 rfl rfl dX10_codeBehind_10 ?_
  refine lv_iload_n hx hb dX10_codeBehind_13 rfl (lv_at hl 2 rfl) ?_
  obtain ⟨v14, hv14, hf⟩ := ob_e hf
  refine xcallV (ws' := (wC g h now snap has hist ent res num col)) (st1 := [.long v14]) (n := 34) E hw [.int a1] [1, 2, 3] (met_X7_restOf l g h 1 now a1 v14 hv14) rfl (by decide) rfl rfl [0, 34, 35, 36, 4, 5, 6, 7, 8, 9, 10, 11, 12, 13, 14, 15, 16, 17, 18, 19, 20, 21, 22, 23, 24, 25, 26, 27, 28, 29, 30, 31, 32, 33] rfl (by decide +kernel) rfl rfl rfl rfl qw526 k_X7_restOf ⟨rfl, rfl, Nat.le_of_ble_eq_true rfl, Nat.le_of_ble_eq_true rfl⟩ ⟨Nat.zero_le _, Nat.zero_le _⟩ hl.1 (Nat.le_of_ble_eq_true rfl) dX10_codeBehind_14 rfl (fun H locs hw => ?_)
  refine lv_lstore (lv' := [(4, .long v14), (3, .int v5), (0, .ref (h 0)), (1, .int a1), (2, .int a2)]) hx hb dX10_codeBehind_17 hl (by decide) rfl (fun ls hl => ?_)
  refine lv_iload_n hx hb dX10_codeBehind_19 rfl (lv_at hl 1 rfl) ?_
  refine lv_i2l hx hb dX10_codeBehind_20 rfl ?_
  refine lv_aload_n hx hb dX10_codeBehind_21 rfl (lv_at hl 2 rfl) ?_
  refine xget (v := .ref (h 1)) E hw 0 rfl rfl 0 (by decide) inw10 qw246 rfl rfl dX10_codeBehind_22 ?_
  refine xget (v := .int now.1) E hw 1 rfl rfl 0 (by decide) inw7 qw101 rfl rfl dX10_codeBehind_25 ?_
  obtain ⟨v28, hv28, hf⟩ := ob_e hf
  refine xcallS (ws' := (wC g h now snap has hist ent res num col)) (st1 := [.int v28]) (n := 34) E hw [.long v5.toInt64, .int now.1] [] (met_X0_head l g v5.toInt64 now.1 v28 hv28) rfl (by decide) rfl rfl [0, 1, 2, 3, 4, 5, 6, 7, 8, 9, 10, 11, 12, 13, 14, 15, 16, 17, 18, 19, 20, 21, 22, 23, 24, 25, 26, 27, 28, 29, 30, 31, 32, 33] rfl (by decide +kernel) rfl qw512 k_X0_head ⟨rfl, rfl, Nat.le_of_ble_eq_true rfl, Nat.le_of_ble_eq_true rfl⟩ ⟨Nat.zero_le _, Nat.zero_le _⟩ hl.1 (Nat.le_of_ble_eq_true rfl) dX10_codeBehind_28 rfl (fun H locs hw => ?_)
  refine lv_istore (lv' := [(6, .int v28), (4, .long v14), (3, .int v5), (0, .ref (h 0)), (1, .int a1), (2, .int a2)]) hx hb dX10_codeBehind_31 hl (by decide) rfl (fun ls hl => ?_)
  refine lv_iload_n hx hb dX10_codeBehind_33 rfl (lv_at hl 5 rfl) ?_
  refine lv_if_ne (tgt := 40) hx hb dX10_codeBehind_34 (by decide) (fun c34 => ?_) (fun c34 => ?_)
  · replace hf := iq c34 hf
    refine lv_iload_n hx hb dX10_codeBehind_40 rfl (lv_at hl 5 rfl) ?_
    refine lv_iload hx hb dX10_codeBehind_41 (lv_at hl 0 rfl) ?_
    refine lv_icmp_gt (tgt := 67) hx hb dX10_codeBehind_43 (by decide) (fun c43 => ?_) (fun c43 => ?_)
    · replace hf := ip c43 hf
      refine lv_iload_n hx hb dX10_codeBehind_67 rfl (lv_at hl 5 rfl) ?_
      refine lv_iload hx hb dX10_codeBehind_68 (lv_at hl 0 rfl) ?_
      refine lv_iconst (v := 1) hx hb dX10_codeBehind_70 (by decide) ?_
      refine lv_iadd hx hb dX10_codeBehind_71 ?_
      refine lv_icmp_ne (tgt := 78) hx hb dX10_codeBehind_72 (by decide) (fun c72 => ?_) (fun c72 => ?_)
      · replace hf := iq c72 hf
        refine lv_iload_n hx hb dX10_codeBehind_78 rfl (lv_at hl 5 rfl) ?_
        refine lv_iconst (v := 2) hx hb dX10_codeBehind_79 (by decide) ?_
        refine lv_isub hx hb dX10_codeBehind_80 ?_
        refine lv_istore (lv' := [(7, .int (a2 - 2)), (6, .int v28), (4, .long v14), (3, .int v5), (0, .ref (h 0)), (1, .int a1), (2, .int a2)]) hx hb dX10_codeBehind_81 hl (by decide) rfl (fun ls hl => ?_)
        refine lv_iload hx hb dX10_codeBehind_83 (lv_at hl 0 rfl) ?_
        refine lv_iload hx hb dX10_codeBehind_85 (lv_at hl 1 rfl) ?_
        refine lv_lload hx hb dX10_codeBehind_87 (lv_at hl 2 rfl) ?_
        refine lv_iload_n hx hb dX10_codeBehind_89 rfl (lv_at hl 3 rfl) ?_
        refine lv_i2l hx hb dX10_codeBehind_90 rfl ?_
        refine lv_aload_n hx hb dX10_codeBehind_91 rfl (lv_at hl 4 rfl) ?_
        refine xget (v := .ref (h 1)) E hw 0 rfl rfl 0 (by decide) inw10 qw246 rfl rfl dX10_codeBehind_92 ?_
        refine xget (v := .int now.1) E hw 1 rfl rfl 0 (by decide) inw7 qw101 rfl rfl dX10_codeBehind_95 ?_
        refine lv_iload hx hb dX10_codeBehind_98 (lv_at hl 1 rfl) ?_
        obtain ⟨v100, hv100, hf⟩ := ob_e hf
        refine xcallS (ws' := (wC g h now snap has hist ent res num col)) (st1 := [.int v100, .int v28, .int (a2 - 2)]) (n := 34) E hw [.long v14, .long v5.toInt64, .int now.1, .int v28] [] (met_X0_periodByDividing l g v14 v5.toInt64 now.1 v28 v100 hv100) rfl (by decide) rfl rfl [0, 1, 2, 3, 4, 5, 6, 7, 8, 9, 10, 11, 12, 13, 14, 15, 16, 17, 18, 19, 20, 21, 22, 23, 24, 25, 26, 27, 28, 29, 30, 31, 32, 33] rfl (by decide +kernel) rfl qw530 k_X0_periodByDividing ⟨rfl, rfl, Nat.le_of_ble_eq_true rfl, Nat.le_of_ble_eq_true rfl⟩ ⟨Nat.zero_le _, Nat.zero_le _⟩ hl.1 (Nat.le_of_ble_eq_true rfl) dX10_codeBehind_100 rfl (fun H locs hw => ?_)
        refine lv_iadd hx hb dX10_codeBehind_103 ?_
        refine lv_icmp_ge (tgt := 127) hx hb dX10_codeBehind_104 (by decide) (fun c104 => ?_) (fun c104 => ?_)
        · replace hf := ip c104 hf
          refine lv_bipush (v := 41) hx hb dX10_codeBehind_127 (by decide) ?_
          exact hret _ _ _ _ _ (Option.some.inj hf) dX10_codeBehind_129 hw
        · replace hf := iq c104 hf
          refine lv_lload hx hb dX10_codeBehind_107 (lv_at hl 2 rfl) ?_
          refine lv_iload_n hx hb dX10_codeBehind_109 rfl (lv_at hl 3 rfl) ?_
          refine lv_i2l hx hb dX10_codeBehind_110 rfl ?_
          refine lv_aload_n hx hb dX10_codeBehind_111 rfl (lv_at hl 4 rfl) ?_
          refine xget (v := .ref (h 1)) E hw 0 rfl rfl 0 (by decide) inw10 qw246 rfl rfl dX10_codeBehind_112 ?_
          refine xget (v := .int now.1) E hw 1 rfl rfl 0 (by decide) inw7 qw101 rfl rfl dX10_codeBehind_115 ?_
          refine lv_iload hx hb dX10_codeBehind_118 (lv_at hl 0 rfl) ?_
          obtain ⟨v120, hv120, hf⟩ := ob_e hf
          refine xcallS (ws' := (wC g h now snap has hist ent res num col)) (st1 := [.int v120]) (n := 34) E hw [.long v14, .long v5.toInt64, .int now.1, .int (a2 - 2)] [] (met_X0_digit l g v14 v5.toInt64 now.1 (a2 - 2) v120 hv120) rfl (by decide) rfl rfl [0, 1, 2, 3, 4, 5, 6, 7, 8, 9, 10, 11, 12, 13, 14, 15, 16, 17, 18, 19, 20, 21, 22, 23, 24, 25, 26, 27, 28, 29, 30, 31, 32, 33] rfl (by decide +kernel) rfl qw567 k_X0_digit ⟨rfl, rfl, Nat.le_of_ble_eq_true rfl, Nat.le_of_ble_eq_true rfl⟩ ⟨Nat.zero_le _, Nat.zero_le _⟩ hl.1 (Nat.le_of_ble_eq_true rfl) dX10_codeBehind_120 rfl (fun H locs hw => ?_)
          obtain ⟨v123, hv123, hf⟩ := ob_e hf
          refine xcallS (ws' := (wC g h now snap has hist ent res num col)) (st1 := [.int v123]) (n := 34) E hw [.int v120] [] (met_X10_codeOfDigit l g v120 v123 hv123) rfl (by decide) rfl rfl [0, 1, 2, 3, 4, 5, 6, 7, 8, 9, 10, 11, 12, 13, 14, 15, 16, 17, 18, 19, 20, 21, 22, 23, 24, 25, 26, 27, 28, 29, 30, 31, 32, 33] rfl (by decide +kernel) rfl qw593 k_X10_codeOfDigit ⟨rfl, rfl, Nat.le_of_ble_eq_true rfl, Nat.le_of_ble_eq_true rfl⟩ ⟨Nat.zero_le _, Nat.zero_le _⟩ hl.1 (Nat.le_of_ble_eq_true rfl) dX10_codeBehind_123 rfl (fun H locs hw => ?_)
          exact hret _ _ _ _ _ (Option.some.inj hf) dX10_codeBehind_126 hw
      · replace hf := ip c72 hf
        refine lv_bipush (v := 40) hx hb dX10_codeBehind_75 (by decide) ?_
        exact hret _ _ _ _ _ (Option.some.inj hf) dX10_codeBehind_77 hw
    · replace hf := iq c43 hf
      refine lv_lload hx hb dX10_codeBehind_46 (lv_at hl 1 rfl) ?_
      refine lv_iload_n hx hb dX10_codeBehind_48 rfl (lv_at hl 2 rfl) ?_
      refine lv_i2l hx hb dX10_codeBehind_49 rfl ?_
      refine lv_aload_n hx hb dX10_codeBehind_50 rfl (lv_at hl 3 rfl) ?_
      refine xget (v := .ref (h 1)) E hw 0 rfl rfl 0 (by decide) inw10 qw246 rfl rfl dX10_codeBehind_51 ?_
      refine xget (v := .int now.1) E hw 1 rfl rfl 0 (by decide) inw7 qw101 rfl rfl dX10_codeBehind_54 ?_
      refine lv_iload_n hx hb dX10_codeBehind_57 rfl (lv_at hl 5 rfl) ?_
      refine lv_iconst (v := 1) hx hb dX10_codeBehind_58 (by decide) ?_
      refine lv_isub hx hb dX10_codeBehind_59 ?_
      obtain ⟨v60, hv60, hf⟩ := ob_e hf
      refine xcallS (ws' := (wC g h now snap has hist ent res num col)) (st1 := [.int v60]) (n := 34) E hw [.long v14, .long v5.toInt64, .int now.1, .int (a2 - 1)] [] (met_X0_digit l g v14 v5.toInt64 now.1 (a2 - 1) v60 hv60) rfl (by decide) rfl rfl [0, 1, 2, 3, 4, 5, 6, 7, 8, 9, 10, 11, 12, 13, 14, 15, 16, 17, 18, 19, 20, 21, 22, 23, 24, 25, 26, 27, 28, 29, 30, 31, 32, 33] rfl (by decide +kernel) rfl qw567 k_X0_digit ⟨rfl, rfl, Nat.le_of_ble_eq_true rfl, Nat.le_of_ble_eq_true rfl⟩ ⟨Nat.zero_le _, Nat.zero_le _⟩ hl.1 (Nat.le_of_ble_eq_true rfl) dX10_codeBehind_60 rfl (fun H locs hw => ?_)
      obtain ⟨v63, hv63, hf⟩ := ob_e hf
      refine xcallS (ws' := (wC g h now snap has hist ent res num col)) (st1 := [.int v63]) (n := 34) E hw [.int v60] [] (met_X10_codeOfDigit l g v60 v63 hv63) rfl (by decide) rfl rfl [0, 1, 2, 3, 4, 5, 6, 7, 8, 9, 10, 11, 12, 13, 14, 15, 16, 17, 18, 19, 20, 21, 22, 23, 24, 25, 26, 27, 28, 29, 30, 31, 32, 33] rfl (by decide +kernel) rfl qw593 k_X10_codeOfDigit ⟨rfl, rfl, Nat.le_of_ble_eq_true rfl, Nat.le_of_ble_eq_true rfl⟩ ⟨Nat.zero_le _, Nat.zero_le _⟩ hl.1 (Nat.le_of_ble_eq_true rfl) dX10_codeBehind_63 rfl (fun H locs hw => ?_)
      exact hret _ _ _ _ _ (Option.some.inj hf) dX10_codeBehind_66 hw
  · replace hf := ip c34 hf
    refine lv_bipush (v := 46) hx hb dX10_codeBehind_37 (by decide) ?_
    exact hret _ _ _ _ _ (Option.some.inj hf) dX10_codeBehind_39 hw
theorem k_X10_formColumns : xKV yX10_formColumns cX10_formColumns 3 none 2 := ⟨qw606, qw9, qw66, qw607, by decide +kernel, by decide +kernel, by decide +kernel⟩
set_option maxHeartbeats 4000000 in
set_option maxRecDepth 100000 in
theorem met_X10_formColumns (l : Launch) (g : xG) (h : Nat → Nat) (now : SC) (snap : SC) (has : Int32) (hist : HC) (ent : EC) (res : RC) (num : NC) (col : CC) (a1 : Int32) (a2 : Int32) (out : CC) (hf : f_X10_formColumns now col a1 a2 = some out) : xM l yX10_formColumns (xC yX10_formColumns cX10_formColumns 3 none) { frames := 3, cells := 0, slots := 0, locals := 81 } g (wC g h now snap has hist ent res num col) [.ref (h 0), .int a1, .int a2] none (wC g h now snap has hist ent res num out) := by
  refine xof (by decide) (Nat.le_of_ble_eq_true rfl) ⟨rfl, rfl⟩ ?_
  intro p e s m below meth c A ls E hr hlocks hw hl hpost hAe
  have hx := E.1.1
  have hb := E.1.2.1
  have hown := E.1.2.2.2.1
  have hts := E.1.2.2.2.2
  generalize hZ : (MQ below (xPost g (wC g h now snap has hist ent res num col) (wC g h now snap has hist ent res num out) s.heap.size none) [.ref (h 0), .int a1, .int a2].toArray s 0 0 A) = ZZ
  have hret : ∀ (pc : Nat) (H : Heap) (locs : List Loc) (ls : Array Slot) (ccol : CC), ccol = out → decode cX10_formColumns pc = .ok (.return_, 1) → xW g A s.heap (wC g h now snap has hist ent res num ccol) H locs → W p l e { frames := 3, cells := 0, slots := 0, locals := 81 } s m [.ref (h 0), .int a1, .int a2].toArray below meth c H locs 0 0 ZZ (F0 m pc ls []) := by
    intro pc H locs ls ccol he hd hw
    subst he
    rw [← hZ]
    exact W.vret hx hb hr (hpost H locs hw).1 (hpost H locs hw).2 hd hlocks
  clear hpost
  refine lv_aload_n hx hb dX10_formColumns_0 rfl (lv_at hl 0 rfl) ?_
  refine xget (v := .ref (h 32)) E hw 0 rfl rfl 7 (by decide) inw10 qw253 rfl rfl dX10_formColumns_1 ?_
  refine lv_aload_n hx hb dX10_formColumns_4 rfl (lv_at hl 0 rfl) ?_
  refine xget (v := .ref (h 1)) E hw 0 rfl rfl 0 (by decide) inw10 qw246 rfl rfl dX10_formColumns_5 ?_
  refine lv_iload_n hx hb dX10_formColumns_8 rfl (lv_at hl 1 rfl) ?_
  obtain ⟨v9, hv9, hf⟩ := ob_e hf
  refine xcallV (ws' := (wC g h now snap has hist ent res num col)) (st1 := [.int v9, .ref (h 32)]) (n := 34) E hw [.int a1] [1, 2, 3] (met_X7_wholeOf l g h 1 now a1 v9 hv9) rfl (by decide) rfl rfl [0, 34, 35, 36, 4, 5, 6, 7, 8, 9, 10, 11, 12, 13, 14, 15, 16, 17, 18, 19, 20, 21, 22, 23, 24, 25, 26, 27, 28, 29, 30, 31, 32, 33] rfl (by decide +kernel) rfl rfl rfl rfl qw440 k_X7_wholeOf ⟨rfl, rfl, Nat.le_of_ble_eq_true rfl, Nat.le_of_ble_eq_true rfl⟩ ⟨Nat.zero_le _, Nat.zero_le _⟩ hl.1 (Nat.le_of_ble_eq_true rfl) dX10_formColumns_9 rfl (fun H locs hw => ?_)
  refine lv_aload_n hx hb dX10_formColumns_12 rfl (lv_at hl 0 rfl) ?_
  refine xget (v := .ref (h 1)) E hw 0 rfl rfl 0 (by decide) inw10 qw246 rfl rfl dX10_formColumns_13 ?_
  refine lv_iload_n hx hb dX10_formColumns_16 rfl (lv_at hl 2 rfl) ?_
  obtain ⟨v17, hv17, hf⟩ := ob_e hf
  refine xcallV (ws' := (wC g h now snap has hist ent res num col)) (st1 := [.int v17, .int v9, .ref (h 32)]) (n := 34) E hw [.int a2] [1, 2, 3] (met_X7_wholeOf l g h 1 now a2 v17 hv17) rfl (by decide) rfl rfl [0, 34, 35, 36, 4, 5, 6, 7, 8, 9, 10, 11, 12, 13, 14, 15, 16, 17, 18, 19, 20, 21, 22, 23, 24, 25, 26, 27, 28, 29, 30, 31, 32, 33] rfl (by decide +kernel) rfl rfl rfl rfl qw440 k_X7_wholeOf ⟨rfl, rfl, Nat.le_of_ble_eq_true rfl, Nat.le_of_ble_eq_true rfl⟩ ⟨Nat.zero_le _, Nat.zero_le _⟩ hl.1 (Nat.le_of_ble_eq_true rfl) dX10_formColumns_17 rfl (fun H locs hw => ?_)
  refine lv_aload_n hx hb dX10_formColumns_20 rfl (lv_at hl 0 rfl) ?_
  refine xget (v := .ref (h 1)) E hw 0 rfl rfl 0 (by decide) inw10 qw246 rfl rfl dX10_formColumns_21 ?_
  refine xget (v := .int now.1) E hw 1 rfl rfl 0 (by decide) inw7 qw101 rfl rfl dX10_formColumns_24 ?_
  obtain ⟨v27, hv27, hf⟩ := ob_e hf
  refine xcallV (ws' := (wC g h now snap has hist ent res num v27)) (st1 := []) (n := 34) E hw [.int v9, .int v17, .int now.1] [32, 33] (met_X1_form l g h 32 col v9 v17 now.1 v27 hv27) rfl (by decide) rfl rfl [0, 1, 2, 3, 4, 5, 6, 7, 8, 9, 10, 11, 12, 13, 14, 15, 16, 17, 18, 19, 20, 21, 22, 23, 24, 25, 26, 27, 28, 29, 30, 31, 34, 35] rfl (by decide +kernel) rfl rfl rfl rfl qw608 k_X1_form ⟨rfl, rfl, Nat.le_of_ble_eq_true rfl, Nat.le_of_ble_eq_true rfl⟩ ⟨Nat.zero_le _, Nat.zero_le _⟩ hl.1 (Nat.le_of_ble_eq_true rfl) dX10_formColumns_27 rfl (fun H locs hw => ?_)
  exact hret _ _ _ _ _ (Option.some.inj hf) dX10_formColumns_30 hw
theorem k_X10_mix : xKS yX10_mix cX10_mix 4 (some .long) 2 := ⟨qw357, qw66, qw358, by decide +kernel, by decide +kernel, by decide +kernel⟩
set_option maxHeartbeats 4000000 in
set_option maxRecDepth 100000 in
theorem met_X10_mix (l : Launch) (g : xG) (a0 : Int64) (a1 : Int64) (out : Int64) (hf : f_X10_mix a0 a1 = some out) : xM l yX10_mix (xC yX10_mix cX10_mix 4 (some .long)) { frames := 0, cells := 0, slots := 0, locals := 0 } g ([] : va_W) [.long a0, .long a1] (some (.long out)) ([] : va_W) := by
  refine xof (by decide) (Nat.le_of_ble_eq_true rfl) ⟨rfl, rfl⟩ ?_
  intro p e s m below meth c A ls E hr hlocks hw hl hpost hAe
  have hx := E.1.1
  have hb := E.1.2.1
  have hown := E.1.2.2.2.1
  have hts := E.1.2.2.2.2
  generalize hZ : (MQ below (xPost g ([] : va_W) ([] : va_W) s.heap.size (some (.long out))) [.long a0, .long a1].toArray s 0 0 A) = ZZ
  have hret : ∀ (pc : Nat) (H : Heap) (locs : List Loc) (ls : Array Slot) (v : Int64), v = out → decode cX10_mix pc = .ok (.lreturn, 1) → xW g A s.heap ([] : va_W) H locs → W p l e { frames := 0, cells := 0, slots := 0, locals := 0 } s m [.long a0, .long a1].toArray below meth c H locs 0 0 ZZ (F0 m pc ls [.long v]) := by
    intro pc H locs ls v he hd hw
    subst he
    rw [← hZ]
    exact W.lret hx hb hr (hpost H locs hw).1 (hpost H locs hw).2 hd hlocks
  clear hpost
  refine lv_ldc2 hx hb hown (hts _ qw359) dX10_mix_0 ?_
  refine lv_lload_n hx hb dX10_mix_3 rfl (lv_at hl 0 rfl) ?_
  refine lv_lmul hx hb dX10_mix_4 ?_
  refine lv_lload_n hx hb dX10_mix_5 rfl (lv_at hl 1 rfl) ?_
  refine lv_ladd hx hb dX10_mix_6 ?_
  exact hret _ _ _ _ _ (Option.some.inj hf) dX10_mix_7 hw
theorem k_X10_bitsOf : xKS yX10_bitsOf cX10_bitsOf 8 (some .long) 1 := ⟨qw668, qw66, qw669, by decide +kernel, by decide +kernel, by decide +kernel⟩
set_option maxHeartbeats 4000000 in
set_option maxRecDepth 100000 in
theorem met_X10_bitsOf (l : Launch) (g : xG) (a0 : UInt64) (out : Int64) (hf : f_X10_bitsOf a0 = some out) : xM l yX10_bitsOf (xC yX10_bitsOf cX10_bitsOf 8 (some .long)) { frames := 0, cells := 0, slots := 0, locals := 0 } g ([] : va_W) [.double a0] (some (.long out)) ([] : va_W) := by
  refine xof (by decide) (Nat.le_of_ble_eq_true rfl) ⟨rfl, rfl⟩ ?_
  intro p e s m below meth c A ls E hr hlocks hw hl hpost hAe
  have hx := E.1.1
  have hb := E.1.2.1
  have hown := E.1.2.2.2.1
  have hts := E.1.2.2.2.2
  generalize hZ : (MQ below (xPost g ([] : va_W) ([] : va_W) s.heap.size (some (.long out))) [.double a0].toArray s 0 0 A) = ZZ
  have hret : ∀ (pc : Nat) (H : Heap) (locs : List Loc) (ls : Array Slot) (v : Int64), v = out → decode cX10_bitsOf pc = .ok (.lreturn, 1) → xW g A s.heap ([] : va_W) H locs → W p l e { frames := 0, cells := 0, slots := 0, locals := 0 } s m [.double a0].toArray below meth c H locs 0 0 ZZ (F0 m pc ls [.long v]) := by
    intro pc H locs ls v he hd hw
    subst he
    rw [← hZ]
    exact W.lret hx hb hr (hpost H locs hw).1 (hpost H locs hw).2 hd hlocks
  clear hpost
  have b50 : ∀ (H : Heap) (locs : List Loc) (ls : Array Slot) (x2 : UInt64) (x4 : Int64), xW g A s.heap ([] : va_W) H locs → lv_has ls 8 [(2, .double x2), (4, .long x4)] → f_X10_bitsOf_b50 x2 x4 = some out → W p l e { frames := 0, cells := 0, slots := 0, locals := 0 } s m [.double a0].toArray below meth c H locs 0 0 ZZ (F0 m 50 ls []) := by
    intro H locs ls x2 x4 hw hl hf
    refine lv_dload_n hx hb dX10_bitsOf_50 rfl (lv_at hl 0 rfl) ?_
    refine lv_dconst1 hx hb dX10_bitsOf_51 ?_
    obtain ⟨hz, hf⟩ := nz hf
    refine lv_dsub hx hb dX10_bitsOf_52 (xn64 hz) ?_
    refine lv_ldc2d hx hb hown (hts _ qw672) dX10_bitsOf_53 ?_
    obtain ⟨hz, hf⟩ := nz hf
    refine lv_dmul hx hb dX10_bitsOf_56 (xn64 hz) ?_
    refine lv_d2l hx hb dX10_bitsOf_57 ?_
    refine lv_lstore (lv' := [(6, .long (FP.d2l (FP.dmul (FP.dsub x2 FP.dconst1) 4841369599423283200))), (2, .double x2), (4, .long x4)]) hx hb dX10_bitsOf_58 hl (by decide) rfl (fun ls hl => ?_)
    refine lv_lload hx hb dX10_bitsOf_60 (lv_at hl 2 rfl) ?_
    refine lv_bipush (v := 52) hx hb dX10_bitsOf_62 (by decide) ?_
    refine lv_lshl hx hb dX10_bitsOf_64 rfl ?_
    refine lv_lload hx hb dX10_bitsOf_65 (lv_at hl 0 rfl) ?_
    refine lv_ladd hx hb dX10_bitsOf_67 ?_
    exact hret _ _ _ _ _ (Option.some.inj hf) dX10_bitsOf_68 hw
  have b18 : ∀ n18 : Nat, ∀ (H : Heap) (locs : List Loc) (ls : Array Slot) (x2 : UInt64) (x4 : Int64) (x6 : Int32), xW g A s.heap ([] : va_W) H locs → lv_has ls 8 [(2, .double x2), (4, .long x4), (6, .int x6)] → f_X10_bitsOf_b18 n18 x2 x4 x6 = some out → W p l e { frames := 0, cells := 0, slots := 0, locals := 0 } s m [.double a0].toArray below meth c H locs 0 0 ZZ (F0 m 18 ls []) := by
    intro n18
    induction n18 with
    | zero =>
      intro H locs ls x2 x4 x6 hw hl hf
      exact nn hf
    | succ n18 ih18 =>
      intro H locs ls x2 x4 x6 hw hl hf
      refine lv_dload_n hx hb dX10_bitsOf_18 rfl (lv_at hl 0 rfl) ?_
      refine lv_dconst1 hx hb dX10_bitsOf_19 ?_
      refine lv_dcmp hx hb dX10_bitsOf_20 ?_
      refine lv_if_ge (tgt := 50) hx hb dX10_bitsOf_21 (by decide) (fun c21 => ?_) (fun c21 => ?_)
      · replace hf := ip c21 hf
        exact b50 _ _ _ x2 x4 hw (lv_sub hl [0, 1] rfl) hf
      · replace hf := iq c21 hf
        refine lv_iload hx hb dX10_bitsOf_24 (lv_at hl 2 rfl) ?_
        refine lv_sipush (v := 1022) hx hb dX10_bitsOf_26 (by decide) ?_
        refine lv_icmp_ge (tgt := 50) hx hb dX10_bitsOf_29 (by decide) (fun c29 => ?_) (fun c29 => ?_)
        · replace hf := ip c29 hf
          exact b50 _ _ _ x2 x4 hw (lv_sub hl [0, 1] rfl) hf
        · replace hf := iq c29 hf
          refine lv_dload_n hx hb dX10_bitsOf_32 rfl (lv_at hl 0 rfl) ?_
          refine lv_ldc2d hx hb hown (hts _ qw671) dX10_bitsOf_33 ?_
          obtain ⟨hz, hf⟩ := nz hf
          refine lv_dmul hx hb dX10_bitsOf_36 (xn64 hz) ?_
          refine lv_dstore_n (lv' := [(2, .double (FP.dmul x2 4611686018427387904)), (4, .long x4), (6, .int x6)]) hx hb dX10_bitsOf_37 rfl hl (by decide) rfl (fun ls hl => ?_)
          refine lv_lload hx hb dX10_bitsOf_38 (lv_at hl 1 rfl) ?_
          refine lv_lconst (v := 1) hx hb dX10_bitsOf_40 (by decide) ?_
          refine lv_lsub hx hb dX10_bitsOf_41 ?_
          refine lv_lstore (lv' := [(4, .long (x4 - 1)), (2, .double (FP.dmul x2 4611686018427387904)), (6, .int x6)]) hx hb dX10_bitsOf_42 hl (by decide) rfl (fun ls hl => ?_)
          refine lv_iinc (v := x6 + 1) (lv' := [(6, .int (x6 + 1)), (4, .long (x4 - 1)), (2, .double (FP.dmul x2 4611686018427387904))]) hx hb dX10_bitsOf_44 hl (k := 2) rfl rfl (by decide) rfl (fun ls hl => ?_)
          refine lv_goto (tgt := 18) hx hb dX10_bitsOf_47 (by decide) ?_
          exact ih18 _ _ _ (FP.dmul x2 4611686018427387904) (x4 - 1) (x6 + 1) hw (lv_sub hl [2, 1, 0] rfl) hf
  refine lv_dload_n hx hb dX10_bitsOf_0 rfl (lv_at hl 0 rfl) ?_
  refine lv_dconst0 hx hb dX10_bitsOf_1 ?_
  refine lv_dcmp hx hb dX10_bitsOf_2 ?_
  refine lv_if_gt (tgt := 8) hx hb dX10_bitsOf_3 (by decide) (fun c3 => ?_) (fun c3 => ?_)
  · replace hf := ip c3 hf
    refine lv_dload_n hx hb dX10_bitsOf_8 rfl (lv_at hl 0 rfl) ?_
    refine lv_dstore_n (lv' := [(2, .double a0), (0, .double a0)]) hx hb dX10_bitsOf_9 rfl hl (by decide) rfl (fun ls hl => ?_)
    refine lv_ldc2 hx hb hown (hts _ qw670) dX10_bitsOf_10 ?_
    refine lv_lstore (lv' := [(4, .long 1023), (2, .double a0), (0, .double a0)]) hx hb dX10_bitsOf_13 hl (by decide) rfl (fun ls hl => ?_)
    refine lv_iconst (v := 0) hx hb dX10_bitsOf_15 (by decide) ?_
    refine lv_istore (lv' := [(6, .int 0), (4, .long 1023), (2, .double a0), (0, .double a0)]) hx hb dX10_bitsOf_16 hl (by decide) rfl (fun ls hl => ?_)
    exact b18 xfuel _ _ _ a0 1023 0 hw (lv_sub hl [2, 1, 0] rfl) hf
  · replace hf := iq c3 hf
    refine lv_lconst (v := 0) hx hb dX10_bitsOf_6 (by decide) ?_
    exact hret _ _ _ _ _ (Option.some.inj hf) dX10_bitsOf_7 hw
theorem k_X10_mixTexts : xKV yX10_mixTexts cX10_mixTexts 6 (some .long) 1 := ⟨qw675, qw11, qw66, qw676, by decide +kernel, by decide +kernel, by decide +kernel⟩
set_option maxHeartbeats 4000000 in
set_option maxRecDepth 100000 in
theorem met_X10_mixTexts (l : Launch) (g : xG) (h : Nat → Nat) (now : SC) (snap : SC) (has : Int32) (hist : HC) (ent : EC) (res : RC) (num : NC) (col : CC) (a1 : Int64) (out : Int64) (hf : f_X10_mixTexts now ent a1 = some out) : xM l yX10_mixTexts (xC yX10_mixTexts cX10_mixTexts 6 (some .long)) { frames := 1, cells := 0, slots := 0, locals := 23 } g (wC g h now snap has hist ent res num col) [.ref (h 0), .long a1] (some (.long out)) (wC g h now snap has hist ent res num col) := by
  refine xof (by decide) (Nat.le_of_ble_eq_true rfl) ⟨rfl, rfl⟩ ?_
  intro p e s m below meth c A ls E hr hlocks hw hl hpost hAe
  have hx := E.1.1
  have hb := E.1.2.1
  have hown := E.1.2.2.2.1
  have hts := E.1.2.2.2.2
  generalize hZ : (MQ below (xPost g (wC g h now snap has hist ent res num col) (wC g h now snap has hist ent res num col) s.heap.size (some (.long out))) [.ref (h 0), .long a1].toArray s 0 0 A) = ZZ
  have hret : ∀ (pc : Nat) (H : Heap) (locs : List Loc) (ls : Array Slot) (v : Int64), v = out → decode cX10_mixTexts pc = .ok (.lreturn, 1) → xW g A s.heap (wC g h now snap has hist ent res num col) H locs → W p l e { frames := 1, cells := 0, slots := 0, locals := 23 } s m [.ref (h 0), .long a1].toArray below meth c H locs 0 0 ZZ (F0 m pc ls [.long v]) := by
    intro pc H locs ls v he hd hw
    subst he
    rw [← hZ]
    exact W.lret hx hb hr (hpost H locs hw).1 (hpost H locs hw).2 hd hlocks
  clear hpost
  have b66 : ∀ n66 : Nat, ∀ (H : Heap) (locs : List Loc) (ls : Array Slot) (x3 : Int64) (x5 : Int32), xW g A s.heap (wC g h now snap has hist ent res num col) H locs → lv_has ls 6 [(0, .ref (h 0)), (3, .long x3), (5, .int x5)] → f_X10_mixTexts_b66 n66 now ent x3 x5 = some out → W p l e { frames := 1, cells := 0, slots := 0, locals := 23 } s m [.ref (h 0), .long a1].toArray below meth c H locs 0 0 ZZ (F0 m 66 ls []) := by
    intro n66
    induction n66 with
    | zero =>
      intro H locs ls x3 x5 hw hl hf
      exact nn hf
    | succ n66 ih66 =>
      intro H locs ls x3 x5 hw hl hf
      refine lv_iload hx hb dX10_mixTexts_66 (lv_at hl 2 rfl) ?_
      refine lv_aload_n hx hb dX10_mixTexts_68 rfl (lv_at hl 0 rfl) ?_
      refine xget (v := .ref (h 27)) E hw 0 rfl rfl 4 (by decide) inw10 qw250 rfl rfl dX10_mixTexts_69 ?_
      refine xget (v := .int ent.1) E hw 27 rfl rfl 0 (by decide) inw2 qw160 rfl rfl dX10_mixTexts_72 ?_
      refine lv_icmp_ge (tgt := 99) hx hb dX10_mixTexts_75 (by decide) (fun c75 => ?_) (fun c75 => ?_)
      · replace hf := ip c75 hf
        refine lv_lload_n hx hb dX10_mixTexts_99 rfl (lv_at hl 1 rfl) ?_
        exact hret _ _ _ _ _ (Option.some.inj hf) dX10_mixTexts_100 hw
      · replace hf := iq c75 hf
        refine lv_lload_n hx hb dX10_mixTexts_78 rfl (lv_at hl 1 rfl) ?_
        refine lv_aload_n hx hb dX10_mixTexts_79 rfl (lv_at hl 0 rfl) ?_
        refine xget (v := .ref (h 27)) E hw 0 rfl rfl 4 (by decide) inw10 qw250 rfl rfl dX10_mixTexts_80 ?_
        refine lv_iload hx hb dX10_mixTexts_83 (lv_at hl 2 rfl) ?_
        obtain ⟨v85, hv85, hf⟩ := ob_e hf
        refine xcallV (ws' := (wC g h now snap has hist ent res num col)) (st1 := [.int v85, .long x3]) (n := 34) E hw [.int x5] [27, 28, 29] (met_X2_codeAt l g h 27 ent x5 v85 hv85) rfl (by decide) rfl rfl [0, 1, 2, 3, 4, 5, 6, 7, 8, 9, 10, 11, 12, 13, 14, 15, 16, 17, 18, 19, 20, 21, 22, 23, 24, 25, 26, 34, 35, 36, 30, 31, 32, 33] rfl (by decide +kernel) rfl rfl rfl rfl qw678 k_X2_codeAt ⟨rfl, rfl, Nat.le_of_ble_eq_true rfl, Nat.le_of_ble_eq_true rfl⟩ ⟨Nat.zero_le _, Nat.zero_le _⟩ hl.1 (Nat.le_of_ble_eq_true rfl) dX10_mixTexts_85 rfl (fun H locs hw => ?_)
        refine lv_i2l hx hb dX10_mixTexts_88 rfl ?_
        obtain ⟨v89, hv89, hf⟩ := ob_e hf
        refine xcallS (ws' := (wC g h now snap has hist ent res num col)) (st1 := [.long v89]) (n := 34) E hw [.long x3, .long v85.toInt64] [] (met_X10_mix l g x3 v85.toInt64 v89 hv89) rfl (by decide) rfl rfl [0, 1, 2, 3, 4, 5, 6, 7, 8, 9, 10, 11, 12, 13, 14, 15, 16, 17, 18, 19, 20, 21, 22, 23, 24, 25, 26, 27, 28, 29, 30, 31, 32, 33] rfl (by decide +kernel) rfl qw356 k_X10_mix ⟨rfl, rfl, Nat.le_of_ble_eq_true rfl, Nat.le_of_ble_eq_true rfl⟩ ⟨Nat.zero_le _, Nat.zero_le _⟩ hl.1 (Nat.le_of_ble_eq_true rfl) dX10_mixTexts_89 rfl (fun H locs hw => ?_)
        refine lv_lstore_n (lv' := [(3, .long v89), (0, .ref (h 0)), (5, .int x5)]) hx hb dX10_mixTexts_92 rfl hl (by decide) rfl (fun ls hl => ?_)
        refine lv_iinc (v := x5 + 1) (lv' := [(5, .int (x5 + 1)), (3, .long v89), (0, .ref (h 0))]) hx hb dX10_mixTexts_93 hl (k := 2) rfl rfl (by decide) rfl (fun ls hl => ?_)
        refine lv_goto (tgt := 66) hx hb dX10_mixTexts_96 (by decide) ?_
        exact ih66 _ _ _ v89 (x5 + 1) hw (lv_sub hl [2, 1, 0] rfl) hf
  have b50 : ∀ (H : Heap) (locs : List Loc) (ls : Array Slot) (x3 : Int64), xW g A s.heap (wC g h now snap has hist ent res num col) H locs → lv_has ls 6 [(0, .ref (h 0)), (3, .long x3)] → f_X10_mixTexts_b50 now ent x3 = some out → W p l e { frames := 1, cells := 0, slots := 0, locals := 23 } s m [.ref (h 0), .long a1].toArray below meth c H locs 0 0 ZZ (F0 m 50 ls []) := by
    intro H locs ls x3 hw hl hf
    refine lv_lload_n hx hb dX10_mixTexts_50 rfl (lv_at hl 1 rfl) ?_
    refine lv_aload_n hx hb dX10_mixTexts_51 rfl (lv_at hl 0 rfl) ?_
    refine xget (v := .ref (h 27)) E hw 0 rfl rfl 4 (by decide) inw10 qw250 rfl rfl dX10_mixTexts_52 ?_
    refine xget (v := .int ent.1) E hw 27 rfl rfl 0 (by decide) inw2 qw160 rfl rfl dX10_mixTexts_55 ?_
    refine lv_i2l hx hb dX10_mixTexts_58 rfl ?_
    obtain ⟨v59, hv59, hf⟩ := ob_e hf
    refine xcallS (ws' := (wC g h now snap has hist ent res num col)) (st1 := [.long v59]) (n := 34) E hw [.long x3, .long ent.1.toInt64] [] (met_X10_mix l g x3 ent.1.toInt64 v59 hv59) rfl (by decide) rfl rfl [0, 1, 2, 3, 4, 5, 6, 7, 8, 9, 10, 11, 12, 13, 14, 15, 16, 17, 18, 19, 20, 21, 22, 23, 24, 25, 26, 27, 28, 29, 30, 31, 32, 33] rfl (by decide +kernel) rfl qw356 k_X10_mix ⟨rfl, rfl, Nat.le_of_ble_eq_true rfl, Nat.le_of_ble_eq_true rfl⟩ ⟨Nat.zero_le _, Nat.zero_le _⟩ hl.1 (Nat.le_of_ble_eq_true rfl) dX10_mixTexts_59 rfl (fun H locs hw => ?_)
    refine lv_lstore_n (lv' := [(3, .long v59), (0, .ref (h 0))]) hx hb dX10_mixTexts_62 rfl hl (by decide) rfl (fun ls hl => ?_)
    refine lv_iconst (v := 0) hx hb dX10_mixTexts_63 (by decide) ?_
    refine lv_istore (lv' := [(5, .int 0), (3, .long v59), (0, .ref (h 0))]) hx hb dX10_mixTexts_64 hl (by decide) rfl (fun ls hl => ?_)
    exact b66 xfuel _ _ _ v59 0 hw (lv_sub hl [2, 1, 0] rfl) hf
  have b13 : ∀ (H : Heap) (locs : List Loc) (ls : Array Slot) (t0 : Int64) (t1 : Int64), xW g A s.heap (wC g h now snap has hist ent res num col) H locs → lv_has ls 6 [(0, .ref (h 0))] → f_X10_mixTexts_b13 now ent t0 t1 = some out → W p l e { frames := 1, cells := 0, slots := 0, locals := 23 } s m [.ref (h 0), .long a1].toArray below meth c H locs 0 0 ZZ (F0 m 13 ls [.long t0, .long t1]) := by
    intro H locs ls t0 t1 hw hl hf
    obtain ⟨v13, hv13, hf⟩ := ob_e hf
    refine xcallS (ws' := (wC g h now snap has hist ent res num col)) (st1 := [.long v13]) (n := 34) E hw [.long t1, .long t0] [] (met_X10_mix l g t1 t0 v13 hv13) rfl (by decide) rfl rfl [0, 1, 2, 3, 4, 5, 6, 7, 8, 9, 10, 11, 12, 13, 14, 15, 16, 17, 18, 19, 20, 21, 22, 23, 24, 25, 26, 27, 28, 29, 30, 31, 32, 33] rfl (by decide +kernel) rfl qw356 k_X10_mix ⟨rfl, rfl, Nat.le_of_ble_eq_true rfl, Nat.le_of_ble_eq_true rfl⟩ ⟨Nat.zero_le _, Nat.zero_le _⟩ hl.1 (Nat.le_of_ble_eq_true rfl) dX10_mixTexts_13 rfl (fun H locs hw => ?_)
    refine lv_lstore_n (lv' := [(3, .long v13), (0, .ref (h 0))]) hx hb dX10_mixTexts_16 rfl hl (by decide) rfl (fun ls hl => ?_)
    refine lv_aload_n hx hb dX10_mixTexts_17 rfl (lv_at hl 1 rfl) ?_
    obtain ⟨v18, hv18, hf⟩ := ob_e hf
    refine xcallV (ws' := (wC g h now snap has hist ent res num col)) (st1 := [.int v18]) (n := 34) E hw [] [0, 1, 2, 3, 4, 5, 6, 7, 8, 9, 10, 11, 12, 13, 14, 15, 16, 17, 18, 19, 20, 21, 22, 23, 24, 25, 26, 27, 28, 29, 30, 31, 32, 33] (met_X10_hasStopped l g h now snap has hist ent res num col v18 hv18) rfl (by decide) rfl rfl [34, 35, 36, 37, 38, 39, 40, 41, 42, 43, 44, 45, 46, 47, 48, 49, 50, 51, 52, 53, 54, 55, 56, 57, 58, 59, 60, 61, 62, 63, 64, 65, 66, 67] rfl (by decide +kernel) rfl rfl rfl rfl qw677 k_X10_hasStopped ⟨rfl, rfl, Nat.le_of_ble_eq_true rfl, Nat.le_of_ble_eq_true rfl⟩ ⟨Nat.zero_le _, Nat.zero_le _⟩ hl.1 (Nat.le_of_ble_eq_true rfl) dX10_mixTexts_18 rfl (fun H locs hw => ?_)
    refine lv_if_eq (tgt := 50) hx hb dX10_mixTexts_21 (by decide) (fun c21 => ?_) (fun c21 => ?_)
    · replace hf := ip c21 hf
      exact b50 _ _ _ v13 hw (lv_sub hl [1, 0] rfl) hf
    · replace hf := iq c21 hf
      refine lv_lload_n hx hb dX10_mixTexts_24 rfl (lv_at hl 0 rfl) ?_
      refine lv_aload_n hx hb dX10_mixTexts_25 rfl (lv_at hl 1 rfl) ?_
      refine xget (v := .ref (h 1)) E hw 0 rfl rfl 0 (by decide) inw10 qw246 rfl rfl dX10_mixTexts_26 ?_
      refine xget (v := .int now.2.1) E hw 1 rfl rfl 1 (by decide) inw7 qw103 rfl rfl dX10_mixTexts_29 ?_
      refine lv_i2l hx hb dX10_mixTexts_32 rfl ?_
      obtain ⟨v33, hv33, hf⟩ := ob_e hf
      refine xcallS (ws' := (wC g h now snap has hist ent res num col)) (st1 := [.long v33]) (n := 34) E hw [.long v13, .long now.2.1.toInt64] [] (met_X10_mix l g v13 now.2.1.toInt64 v33 hv33) rfl (by decide) rfl rfl [0, 1, 2, 3, 4, 5, 6, 7, 8, 9, 10, 11, 12, 13, 14, 15, 16, 17, 18, 19, 20, 21, 22, 23, 24, 25, 26, 27, 28, 29, 30, 31, 32, 33] rfl (by decide +kernel) rfl qw356 k_X10_mix ⟨rfl, rfl, Nat.le_of_ble_eq_true rfl, Nat.le_of_ble_eq_true rfl⟩ ⟨Nat.zero_le _, Nat.zero_le _⟩ hl.1 (Nat.le_of_ble_eq_true rfl) dX10_mixTexts_33 rfl (fun H locs hw => ?_)
      refine lv_lstore_n (lv' := [(3, .long v33), (0, .ref (h 0))]) hx hb dX10_mixTexts_36 rfl hl (by decide) rfl (fun ls hl => ?_)
      refine lv_lload_n hx hb dX10_mixTexts_37 rfl (lv_at hl 0 rfl) ?_
      refine lv_aload_n hx hb dX10_mixTexts_38 rfl (lv_at hl 1 rfl) ?_
      refine xget (v := .ref (h 1)) E hw 0 rfl rfl 0 (by decide) inw10 qw246 rfl rfl dX10_mixTexts_39 ?_
      refine xget (v := .int now.2.2.1) E hw 1 rfl rfl 2 (by decide) inw7 qw105 rfl rfl dX10_mixTexts_42 ?_
      refine lv_i2l hx hb dX10_mixTexts_45 rfl ?_
      obtain ⟨v46, hv46, hf⟩ := ob_e hf
      refine xcallS (ws' := (wC g h now snap has hist ent res num col)) (st1 := [.long v46]) (n := 34) E hw [.long v33, .long now.2.2.1.toInt64] [] (met_X10_mix l g v33 now.2.2.1.toInt64 v46 hv46) rfl (by decide) rfl rfl [0, 1, 2, 3, 4, 5, 6, 7, 8, 9, 10, 11, 12, 13, 14, 15, 16, 17, 18, 19, 20, 21, 22, 23, 24, 25, 26, 27, 28, 29, 30, 31, 32, 33] rfl (by decide +kernel) rfl qw356 k_X10_mix ⟨rfl, rfl, Nat.le_of_ble_eq_true rfl, Nat.le_of_ble_eq_true rfl⟩ ⟨Nat.zero_le _, Nat.zero_le _⟩ hl.1 (Nat.le_of_ble_eq_true rfl) dX10_mixTexts_46 rfl (fun H locs hw => ?_)
      refine lv_lstore_n (lv' := [(3, .long v46), (0, .ref (h 0))]) hx hb dX10_mixTexts_49 rfl hl (by decide) rfl (fun ls hl => ?_)
      exact b50 _ _ _ v46 hw (lv_sub hl [1, 0] rfl) hf
  refine lv_lload_n hx hb dX10_mixTexts_0 rfl (lv_at hl 1 rfl) ?_
  refine lv_aload_n hx hb dX10_mixTexts_1 rfl (lv_at hl 0 rfl) ?_
  obtain ⟨v2, hv2, hf⟩ := ob_e hf
  refine xcallV (ws' := (wC g h now snap has hist ent res num col)) (st1 := [.int v2, .long a1]) (n := 34) E hw [] [0, 1, 2, 3, 4, 5, 6, 7, 8, 9, 10, 11, 12, 13, 14, 15, 16, 17, 18, 19, 20, 21, 22, 23, 24, 25, 26, 27, 28, 29, 30, 31, 32, 33] (met_X10_hasStopped l g h now snap has hist ent res num col v2 hv2) rfl (by decide) rfl rfl [34, 35, 36, 37, 38, 39, 40, 41, 42, 43, 44, 45, 46, 47, 48, 49, 50, 51, 52, 53, 54, 55, 56, 57, 58, 59, 60, 61, 62, 63, 64, 65, 66, 67] rfl (by decide +kernel) rfl rfl rfl rfl qw677 k_X10_hasStopped ⟨rfl, rfl, Nat.le_of_ble_eq_true rfl, Nat.le_of_ble_eq_true rfl⟩ ⟨Nat.zero_le _, Nat.zero_le _⟩ hl.1 (Nat.le_of_ble_eq_true rfl) dX10_mixTexts_2 rfl (fun H locs hw => ?_)
  refine lv_if_eq (tgt := 12) hx hb dX10_mixTexts_5 (by decide) (fun c5 => ?_) (fun c5 => ?_)
  · replace hf := ip c5 hf
    refine lv_lconst (v := 0) hx hb dX10_mixTexts_12 (by decide) ?_
    exact b13 _ _ _ 0 a1 hw (lv_sub hl [0] rfl) hf
  · replace hf := iq c5 hf
    refine lv_lconst (v := 1) hx hb dX10_mixTexts_8 (by decide) ?_
    refine lv_goto (tgt := 13) hx hb dX10_mixTexts_9 (by decide) ?_
    exact b13 _ _ _ 1 a1 hw (lv_sub hl [0] rfl) hf
