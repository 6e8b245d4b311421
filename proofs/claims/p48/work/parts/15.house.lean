theorem k_X10_saveAndStore : xKV yX10_saveAndStore cX10_saveAndStore 2 none 1 := ⟨qw488, qw3, qw13, qw489, by decide +kernel, by decide +kernel, by decide +kernel⟩
set_option maxHeartbeats 4000000 in
set_option maxRecDepth 100000 in
theorem met_X10_saveAndStore (l : Launch) (g : xG) (h : Nat → Nat) (now : SC) (snap : SC) (has : Int32) (hist : HC) (ent : EC) (res : RC) (num : NC) (col : CC) (a1 : Int32) (out : SC × HC) (hf : f_X10_saveAndStore now hist res a1 = some out) : xM l yX10_saveAndStore (xC yX10_saveAndStore cX10_saveAndStore 2 none) { frames := 2, cells := 0, slots := 0, locals := 50 } g (wC g h now snap has hist ent res num col) [.ref (h 0), .int a1] none (wC g h out.1 snap has out.2 ent res num col) := by
  refine xof (by decide) (Nat.le_of_ble_eq_true rfl) ⟨rfl, rfl⟩ ?_
  intro p e s m below meth c A ls E hr hlocks hw hl hpost hAe
  have hx := E.1.1
  have hb := E.1.2.1
  have hown := E.1.2.2.2.1
  have hts := E.1.2.2.2.2
  generalize hZ : (MQ below (xPost g (wC g h now snap has hist ent res num col) (wC g h out.1 snap has out.2 ent res num col) s.heap.size none) [.ref (h 0), .int a1].toArray s 0 0 A) = ZZ
  have hret : ∀ (pc : Nat) (H : Heap) (locs : List Loc) (ls : Array Slot) (cnow : SC) (chist : HC), (cnow, chist) = out → decode cX10_saveAndStore pc = .ok (.return_, 1) → xW g A s.heap (wC g h cnow snap has chist ent res num col) H locs → W p l e { frames := 2, cells := 0, slots := 0, locals := 50 } s m [.ref (h 0), .int a1].toArray below meth c H locs 0 0 ZZ (F0 m pc ls []) := by
    intro pc H locs ls cnow chist he hd hw
    subst he
    rw [← hZ]
    exact W.vret hx hb hr (hpost H locs hw).1 (hpost H locs hw).2 hd hlocks
  clear hpost
  refine lv_aload_n hx hb dX10_saveAndStore_0 rfl (lv_at hl 0 rfl) ?_
  refine xget (v := .ref (h 7)) E hw 0 rfl rfl 3 (by decide) inw10 qw189 rfl rfl dX10_saveAndStore_1 ?_
  refine lv_aload_n hx hb dX10_saveAndStore_4 rfl (lv_at hl 0 rfl) ?_
  refine xget (v := .ref (h 1)) E hw 0 rfl rfl 0 (by decide) inw10 qw186 rfl rfl dX10_saveAndStore_5 ?_
  obtain ⟨v8, hv8, hf⟩ := ob_e hf
  refine xcallV (ws' := (wC g h now snap has v8 ent res num col)) (st1 := []) (n := 34) E hw [.ref (h 1)] [7, 8, 9, 10, 11, 12, 13, 14, 15, 16, 17, 18, 19, 20, 21, 22, 23, 24, 25, 26, 1, 2, 3] (met_X3_push l g h 7 1 hist now v8 hv8) rfl (by decide) rfl rfl [0, 54, 55, 56, 4, 5, 6, 34, 35, 36, 37, 38, 39, 40, 41, 42, 43, 44, 45, 46, 47, 48, 49, 50, 51, 52, 53, 27, 28, 29, 30, 31, 32, 33] rfl (by decide +kernel) rfl rfl rfl rfl qw462 k_X3_push ⟨rfl, rfl, Nat.le_of_ble_eq_true rfl, Nat.le_of_ble_eq_true rfl⟩ ⟨Nat.zero_le _, Nat.zero_le _⟩ hl.1 (Nat.le_of_ble_eq_true rfl) dX10_saveAndStore_8 rfl (fun H locs hw => ?_)
  refine lv_aload_n hx hb dX10_saveAndStore_11 rfl (lv_at hl 0 rfl) ?_
  refine xget (v := .ref (h 1)) E hw 0 rfl rfl 0 (by decide) inw10 qw186 rfl rfl dX10_saveAndStore_12 ?_
  refine lv_iload_n hx hb dX10_saveAndStore_15 rfl (lv_at hl 1 rfl) ?_
  refine lv_aload_n hx hb dX10_saveAndStore_16 rfl (lv_at hl 0 rfl) ?_
  refine xget (v := .ref (h 30)) E hw 0 rfl rfl 5 (by decide) inw10 qw191 rfl rfl dX10_saveAndStore_17 ?_
  obtain ⟨v20, hv20, hf⟩ := ob_e hf
  refine xcallV (ws' := (wC g h v20 snap has v8 ent res num col)) (st1 := []) (n := 34) E hw [.int a1, .ref (h 30)] [1, 2, 3, 30] (met_X7_store l g h 1 30 now res a1 v20 hv20) rfl (by decide) rfl rfl [0, 34, 35, 36, 4, 5, 6, 7, 8, 9, 10, 11, 12, 13, 14, 15, 16, 17, 18, 19, 20, 21, 22, 23, 24, 25, 26, 27, 28, 29, 37, 31, 32, 33] rfl (by decide +kernel) rfl rfl rfl rfl qw490 k_X7_store ⟨rfl, rfl, Nat.le_of_ble_eq_true rfl, Nat.le_of_ble_eq_true rfl⟩ ⟨Nat.zero_le _, Nat.zero_le _⟩ hl.1 (Nat.le_of_ble_eq_true rfl) dX10_saveAndStore_20 rfl (fun H locs hw => ?_)
  exact hret _ _ _ _ _ _ (Option.some.inj hf) dX10_saveAndStore_23 hw
theorem k_X10_formSum : xKV yX10_formSum cX10_formSum 7 none 2 := ⟨qw503, qw4, qw13, qw504, by decide +kernel, by decide +kernel, by decide +kernel⟩
set_option maxHeartbeats 4000000 in
set_option maxRecDepth 100000 in
theorem met_X10_formSum (l : Launch) (g : xG) (h : Nat → Nat) (now : SC) (snap : SC) (has : Int32) (hist : HC) (ent : EC) (res : RC) (num : NC) (col : CC) (a1 : Int32) (a2 : Int32) (out : RC) (hf : f_X10_formSum now res a1 a2 = some out) : xM l yX10_formSum (xC yX10_formSum cX10_formSum 7 none) { frames := 2, cells := 0, slots := 0, locals := 56 } g (wC g h now snap has hist ent res num col) [.ref (h 0), .int a1, .int a2] none (wC g h now snap has hist ent out num col) := by
  refine xof (by decide) (Nat.le_of_ble_eq_true rfl) ⟨rfl, rfl⟩ ?_
  intro p e s m below meth c A ls E hr hlocks hw hl hpost hAe
  have hx := E.1.1
  have hb := E.1.2.1
  have hown := E.1.2.2.2.1
  have hts := E.1.2.2.2.2
  generalize hZ : (MQ below (xPost g (wC g h now snap has hist ent res num col) (wC g h now snap has hist ent out num col) s.heap.size none) [.ref (h 0), .int a1, .int a2].toArray s 0 0 A) = ZZ
  have hret : ∀ (pc : Nat) (H : Heap) (locs : List Loc) (ls : Array Slot) (cres : RC), cres = out → decode cX10_formSum pc = .ok (.return_, 1) → xW g A s.heap (wC g h now snap has hist ent cres num col) H locs → W p l e { frames := 2, cells := 0, slots := 0, locals := 56 } s m [.ref (h 0), .int a1, .int a2].toArray below meth c H locs 0 0 ZZ (F0 m pc ls []) := by
    intro pc H locs ls cres he hd hw
    subst he
    rw [← hZ]
    exact W.vret hx hb hr (hpost H locs hw).1 (hpost H locs hw).2 hd hlocks
  clear hpost
  refine lv_aload_n hx hb dX10_formSum_0 rfl (lv_at hl 0 rfl) ?_
  refine xget (v := .ref (h 1)) E hw 0 rfl rfl 0 (by decide) inw10 qw186 rfl rfl dX10_formSum_1 ?_
  refine lv_iload_n hx hb dX10_formSum_4 rfl (lv_at hl 1 rfl) ?_
  obtain ⟨v5, hv5, hf⟩ := ob_e hf
  refine xcallV (ws' := (wC g h now snap has hist ent res num col)) (st1 := [.int v5]) (n := 34) E hw [.int a1] [1, 2, 3] (met_X7_denominatorOf l g h 1 now a1 v5 hv5) rfl (by decide) rfl rfl [0, 34, 35, 36, 4, 5, 6, 7, 8, 9, 10, 11, 12, 13, 14, 15, 16, 17, 18, 19, 20, 21, 22, 23, 24, 25, 26, 27, 28, 29, 30, 31, 32, 33] rfl (by decide +kernel) rfl rfl rfl rfl qw340 k_X7_denominatorOf ⟨rfl, rfl, Nat.le_of_ble_eq_true rfl, Nat.le_of_ble_eq_true rfl⟩ ⟨Nat.zero_le _, Nat.zero_le _⟩ hl.1 (Nat.le_of_ble_eq_true rfl) dX10_formSum_5 rfl (fun H locs hw => ?_)
  refine lv_i2l hx hb dX10_formSum_8 rfl ?_
  refine lv_lstore_n (lv' := [(3, .long v5.toInt64), (0, .ref (h 0)), (1, .int a1), (2, .int a2)]) hx hb dX10_formSum_9 rfl hl (by decide) rfl (fun ls hl => ?_)
  refine lv_aload_n hx hb dX10_formSum_10 rfl (lv_at hl 1 rfl) ?_
  refine xget (v := .ref (h 1)) E hw 0 rfl rfl 0 (by decide) inw10 qw186 rfl rfl dX10_formSum_11 ?_
  refine lv_iload_n hx hb dX10_formSum_14 rfl (lv_at hl 3 rfl) ?_
  obtain ⟨v15, hv15, hf⟩ := ob_e hf
  refine xcallV (ws' := (wC g h now snap has hist ent res num col)) (st1 := [.int v15]) (n := 34) E hw [.int a2] [1, 2, 3] (met_X7_denominatorOf l g h 1 now a2 v15 hv15) rfl (by decide) rfl rfl [0, 34, 35, 36, 4, 5, 6, 7, 8, 9, 10, 11, 12, 13, 14, 15, 16, 17, 18, 19, 20, 21, 22, 23, 24, 25, 26, 27, 28, 29, 30, 31, 32, 33] rfl (by decide +kernel) rfl rfl rfl rfl qw340 k_X7_denominatorOf ⟨rfl, rfl, Nat.le_of_ble_eq_true rfl, Nat.le_of_ble_eq_true rfl⟩ ⟨Nat.zero_le _, Nat.zero_le _⟩ hl.1 (Nat.le_of_ble_eq_true rfl) dX10_formSum_15 rfl (fun H locs hw => ?_)
  refine lv_i2l hx hb dX10_formSum_18 rfl ?_
  refine lv_lstore (lv' := [(5, .long v15.toInt64), (3, .long v5.toInt64), (0, .ref (h 0)), (1, .int a1), (2, .int a2)]) hx hb dX10_formSum_19 hl (by decide) rfl (fun ls hl => ?_)
  refine lv_aload_n hx hb dX10_formSum_21 rfl (lv_at hl 2 rfl) ?_
  refine xget (v := .ref (h 30)) E hw 0 rfl rfl 5 (by decide) inw10 qw191 rfl rfl dX10_formSum_22 ?_
  refine lv_aload_n hx hb dX10_formSum_25 rfl (lv_at hl 2 rfl) ?_
  refine xget (v := .ref (h 1)) E hw 0 rfl rfl 0 (by decide) inw10 qw186 rfl rfl dX10_formSum_26 ?_
  refine lv_iload_n hx hb dX10_formSum_29 rfl (lv_at hl 3 rfl) ?_
  obtain ⟨v30, hv30, hf⟩ := ob_e hf
  refine xcallV (ws' := (wC g h now snap has hist ent res num col)) (st1 := [.int v30, .ref (h 30)]) (n := 34) E hw [.int a1] [1, 2, 3] (met_X7_numeratorOf l g h 1 now a1 v30 hv30) rfl (by decide) rfl rfl [0, 34, 35, 36, 4, 5, 6, 7, 8, 9, 10, 11, 12, 13, 14, 15, 16, 17, 18, 19, 20, 21, 22, 23, 24, 25, 26, 27, 28, 29, 30, 31, 32, 33] rfl (by decide +kernel) rfl rfl rfl rfl qw329 k_X7_numeratorOf ⟨rfl, rfl, Nat.le_of_ble_eq_true rfl, Nat.le_of_ble_eq_true rfl⟩ ⟨Nat.zero_le _, Nat.zero_le _⟩ hl.1 (Nat.le_of_ble_eq_true rfl) dX10_formSum_30 rfl (fun H locs hw => ?_)
  refine lv_i2l hx hb dX10_formSum_33 rfl ?_
  refine lv_lload hx hb dX10_formSum_34 (lv_at hl 0 rfl) ?_
  refine lv_lmul hx hb dX10_formSum_36 ?_
  refine lv_aload_n hx hb dX10_formSum_37 rfl (lv_at hl 2 rfl) ?_
  refine xget (v := .ref (h 1)) E hw 0 rfl rfl 0 (by decide) inw10 qw186 rfl rfl dX10_formSum_38 ?_
  refine lv_iload_n hx hb dX10_formSum_41 rfl (lv_at hl 4 rfl) ?_
  obtain ⟨v42, hv42, hf⟩ := ob_e hf
  refine xcallV (ws' := (wC g h now snap has hist ent res num col)) (st1 := [.int v42, .long (v30.toInt64 * v15.toInt64), .ref (h 30)]) (n := 34) E hw [.int a2] [1, 2, 3] (met_X7_numeratorOf l g h 1 now a2 v42 hv42) rfl (by decide) rfl rfl [0, 34, 35, 36, 4, 5, 6, 7, 8, 9, 10, 11, 12, 13, 14, 15, 16, 17, 18, 19, 20, 21, 22, 23, 24, 25, 26, 27, 28, 29, 30, 31, 32, 33] rfl (by decide +kernel) rfl rfl rfl rfl qw329 k_X7_numeratorOf ⟨rfl, rfl, Nat.le_of_ble_eq_true rfl, Nat.le_of_ble_eq_true rfl⟩ ⟨Nat.zero_le _, Nat.zero_le _⟩ hl.1 (Nat.le_of_ble_eq_true rfl) dX10_formSum_42 rfl (fun H locs hw => ?_)
  refine lv_i2l hx hb dX10_formSum_45 rfl ?_
  refine lv_lload_n hx hb dX10_formSum_46 rfl (lv_at hl 1 rfl) ?_
  refine lv_lmul hx hb dX10_formSum_47 ?_
  refine lv_ladd hx hb dX10_formSum_48 ?_
  refine lv_lload_n hx hb dX10_formSum_49 rfl (lv_at hl 1 rfl) ?_
  refine lv_lload hx hb dX10_formSum_50 (lv_at hl 0 rfl) ?_
  refine lv_lmul hx hb dX10_formSum_52 ?_
  obtain ⟨v53, hv53, hf⟩ := ob_e hf
  refine xcallV (ws' := (wC g h now snap has hist ent v53 num col)) (st1 := []) (n := 34) E hw [.long ((v30.toInt64 * v15.toInt64) + (v42.toInt64 * v5.toInt64)), .long (v5.toInt64 * v15.toInt64)] [30] (met_X6_put l g h 30 res ((v30.toInt64 * v15.toInt64) + (v42.toInt64 * v5.toInt64)) (v5.toInt64 * v15.toInt64) v53 hv53) rfl (by decide) rfl rfl [0, 1, 2, 3, 4, 5, 6, 7, 8, 9, 10, 11, 12, 13, 14, 15, 16, 17, 18, 19, 20, 21, 22, 23, 24, 25, 26, 27, 28, 29, 34, 31, 32, 33] rfl (by decide +kernel) rfl rfl rfl rfl qw477 k_X6_put ⟨rfl, rfl, Nat.le_of_ble_eq_true rfl, Nat.le_of_ble_eq_true rfl⟩ ⟨Nat.zero_le _, Nat.zero_le _⟩ hl.1 (Nat.le_of_ble_eq_true rfl) dX10_formSum_53 rfl (fun H locs hw => ?_)
  exact hret _ _ _ _ _ (Option.some.inj hf) dX10_formSum_56 hw
theorem k_X10_formDifference : xKV yX10_formDifference cX10_formDifference 7 none 2 := ⟨qw528, qw6, qw13, qw529, by decide +kernel, by decide +kernel, by decide +kernel⟩
set_option maxHeartbeats 4000000 in
set_option maxRecDepth 100000 in
theorem met_X10_formDifference (l : Launch) (g : xG) (h : Nat → Nat) (now : SC) (snap : SC) (has : Int32) (hist : HC) (ent : EC) (res : RC) (num : NC) (col : CC) (a1 : Int32) (a2 : Int32) (out : RC) (hf : f_X10_formDifference now res a1 a2 = some out) : xM l yX10_formDifference (xC yX10_formDifference cX10_formDifference 7 none) { frames := 2, cells := 0, slots := 0, locals := 56 } g (wC g h now snap has hist ent res num col) [.ref (h 0), .int a1, .int a2] none (wC g h now snap has hist ent out num col) := by
  refine xof (by decide) (Nat.le_of_ble_eq_true rfl) ⟨rfl, rfl⟩ ?_
  intro p e s m below meth c A ls E hr hlocks hw hl hpost hAe
  have hx := E.1.1
  have hb := E.1.2.1
  have hown := E.1.2.2.2.1
  have hts := E.1.2.2.2.2
  generalize hZ : (MQ below (xPost g (wC g h now snap has hist ent res num col) (wC g h now snap has hist ent out num col) s.heap.size none) [.ref (h 0), .int a1, .int a2].toArray s 0 0 A) = ZZ
  have hret : ∀ (pc : Nat) (H : Heap) (locs : List Loc) (ls : Array Slot) (cres : RC), cres = out → decode cX10_formDifference pc = .ok (.return_, 1) → xW g A s.heap (wC g h now snap has hist ent cres num col) H locs → W p l e { frames := 2, cells := 0, slots := 0, locals := 56 } s m [.ref (h 0), .int a1, .int a2].toArray below meth c H locs 0 0 ZZ (F0 m pc ls []) := by
    intro pc H locs ls cres he hd hw
    subst he
    rw [← hZ]
    exact W.vret hx hb hr (hpost H locs hw).1 (hpost H locs hw).2 hd hlocks
  clear hpost
  refine lv_aload_n hx hb dX10_formDifference_0 rfl (lv_at hl 0 rfl) ?_
  refine xget (v := .ref (h 1)) E hw 0 rfl rfl 0 (by decide) inw10 qw186 rfl rfl dX10_formDifference_1 ?_
  refine lv_iload_n hx hb dX10_formDifference_4 rfl (lv_at hl 1 rfl) ?_
  obtain ⟨v5, hv5, hf⟩ := ob_e hf
  refine xcallV (ws' := (wC g h now snap has hist ent res num col)) (st1 := [.int v5]) (n := 34) E hw [.int a1] [1, 2, 3] (met_X7_denominatorOf l g h 1 now a1 v5 hv5) rfl (by decide) rfl rfl [0, 34, 35, 36, 4, 5, 6, 7, 8, 9, 10, 11, 12, 13, 14, 15, 16, 17, 18, 19, 20, 21, 22, 23, 24, 25, 26, 27, 28, 29, 30, 31, 32, 33] rfl (by decide +kernel) rfl rfl rfl rfl qw340 k_X7_denominatorOf ⟨rfl, rfl, Nat.le_of_ble_eq_true rfl, Nat.le_of_ble_eq_true rfl⟩ ⟨Nat.zero_le _, Nat.zero_le _⟩ hl.1 (Nat.le_of_ble_eq_true rfl) dX10_formDifference_5 rfl (fun H locs hw => ?_)
  refine lv_i2l hx hb dX10_formDifference_8 rfl ?_
  refine lv_lstore_n (lv' := [(3, .long v5.toInt64), (0, .ref (h 0)), (1, .int a1), (2, .int a2)]) hx hb dX10_formDifference_9 rfl hl (by decide) rfl (fun ls hl => ?_)
  refine lv_aload_n hx hb dX10_formDifference_10 rfl (lv_at hl 1 rfl) ?_
  refine xget (v := .ref (h 1)) E hw 0 rfl rfl 0 (by decide) inw10 qw186 rfl rfl dX10_formDifference_11 ?_
  refine lv_iload_n hx hb dX10_formDifference_14 rfl (lv_at hl 3 rfl) ?_
  obtain ⟨v15, hv15, hf⟩ := ob_e hf
  refine xcallV (ws' := (wC g h now snap has hist ent res num col)) (st1 := [.int v15]) (n := 34) E hw [.int a2] [1, 2, 3] (met_X7_denominatorOf l g h 1 now a2 v15 hv15) rfl (by decide) rfl rfl [0, 34, 35, 36, 4, 5, 6, 7, 8, 9, 10, 11, 12, 13, 14, 15, 16, 17, 18, 19, 20, 21, 22, 23, 24, 25, 26, 27, 28, 29, 30, 31, 32, 33] rfl (by decide +kernel) rfl rfl rfl rfl qw340 k_X7_denominatorOf ⟨rfl, rfl, Nat.le_of_ble_eq_true rfl, Nat.le_of_ble_eq_true rfl⟩ ⟨Nat.zero_le _, Nat.zero_le _⟩ hl.1 (Nat.le_of_ble_eq_true rfl) dX10_formDifference_15 rfl (fun H locs hw => ?_)
  refine lv_i2l hx hb dX10_formDifference_18 rfl ?_
  refine lv_lstore (lv' := [(5, .long v15.toInt64), (3, .long v5.toInt64), (0, .ref (h 0)), (1, .int a1), (2, .int a2)]) hx hb dX10_formDifference_19 hl (by decide) rfl (fun ls hl => ?_)
  refine lv_aload_n hx hb dX10_formDifference_21 rfl (lv_at hl 2 rfl) ?_
  refine xget (v := .ref (h 30)) E hw 0 rfl rfl 5 (by decide) inw10 qw191 rfl rfl dX10_formDifference_22 ?_
  refine lv_aload_n hx hb dX10_formDifference_25 rfl (lv_at hl 2 rfl) ?_
  refine xget (v := .ref (h 1)) E hw 0 rfl rfl 0 (by decide) inw10 qw186 rfl rfl dX10_formDifference_26 ?_
  refine lv_iload_n hx hb dX10_formDifference_29 rfl (lv_at hl 3 rfl) ?_
  obtain ⟨v30, hv30, hf⟩ := ob_e hf
  refine xcallV (ws' := (wC g h now snap has hist ent res num col)) (st1 := [.int v30, .ref (h 30)]) (n := 34) E hw [.int a1] [1, 2, 3] (met_X7_numeratorOf l g h 1 now a1 v30 hv30) rfl (by decide) rfl rfl [0, 34, 35, 36, 4, 5, 6, 7, 8, 9, 10, 11, 12, 13, 14, 15, 16, 17, 18, 19, 20, 21, 22, 23, 24, 25, 26, 27, 28, 29, 30, 31, 32, 33] rfl (by decide +kernel) rfl rfl rfl rfl qw329 k_X7_numeratorOf ⟨rfl, rfl, Nat.le_of_ble_eq_true rfl, Nat.le_of_ble_eq_true rfl⟩ ⟨Nat.zero_le _, Nat.zero_le _⟩ hl.1 (Nat.le_of_ble_eq_true rfl) dX10_formDifference_30 rfl (fun H locs hw => ?_)
  refine lv_i2l hx hb dX10_formDifference_33 rfl ?_
  refine lv_lload hx hb dX10_formDifference_34 (lv_at hl 0 rfl) ?_
  refine lv_lmul hx hb dX10_formDifference_36 ?_
  refine lv_aload_n hx hb dX10_formDifference_37 rfl (lv_at hl 2 rfl) ?_
  refine xget (v := .ref (h 1)) E hw 0 rfl rfl 0 (by decide) inw10 qw186 rfl rfl dX10_formDifference_38 ?_
  refine lv_iload_n hx hb dX10_formDifference_41 rfl (lv_at hl 4 rfl) ?_
  obtain ⟨v42, hv42, hf⟩ := ob_e hf
  refine xcallV (ws' := (wC g h now snap has hist ent res num col)) (st1 := [.int v42, .long (v30.toInt64 * v15.toInt64), .ref (h 30)]) (n := 34) E hw [.int a2] [1, 2, 3] (met_X7_numeratorOf l g h 1 now a2 v42 hv42) rfl (by decide) rfl rfl [0, 34, 35, 36, 4, 5, 6, 7, 8, 9, 10, 11, 12, 13, 14, 15, 16, 17, 18, 19, 20, 21, 22, 23, 24, 25, 26, 27, 28, 29, 30, 31, 32, 33] rfl (by decide +kernel) rfl rfl rfl rfl qw329 k_X7_numeratorOf ⟨rfl, rfl, Nat.le_of_ble_eq_true rfl, Nat.le_of_ble_eq_true rfl⟩ ⟨Nat.zero_le _, Nat.zero_le _⟩ hl.1 (Nat.le_of_ble_eq_true rfl) dX10_formDifference_42 rfl (fun H locs hw => ?_)
  refine lv_i2l hx hb dX10_formDifference_45 rfl ?_
  refine lv_lload_n hx hb dX10_formDifference_46 rfl (lv_at hl 1 rfl) ?_
  refine lv_lmul hx hb dX10_formDifference_47 ?_
  refine lv_lsub hx hb dX10_formDifference_48 ?_
  refine lv_lload_n hx hb dX10_formDifference_49 rfl (lv_at hl 1 rfl) ?_
  refine lv_lload hx hb dX10_formDifference_50 (lv_at hl 0 rfl) ?_
  refine lv_lmul hx hb dX10_formDifference_52 ?_
  obtain ⟨v53, hv53, hf⟩ := ob_e hf
  refine xcallV (ws' := (wC g h now snap has hist ent v53 num col)) (st1 := []) (n := 34) E hw [.long ((v30.toInt64 * v15.toInt64) - (v42.toInt64 * v5.toInt64)), .long (v5.toInt64 * v15.toInt64)] [30] (met_X6_put l g h 30 res ((v30.toInt64 * v15.toInt64) - (v42.toInt64 * v5.toInt64)) (v5.toInt64 * v15.toInt64) v53 hv53) rfl (by decide) rfl rfl [0, 1, 2, 3, 4, 5, 6, 7, 8, 9, 10, 11, 12, 13, 14, 15, 16, 17, 18, 19, 20, 21, 22, 23, 24, 25, 26, 27, 28, 29, 34, 31, 32, 33] rfl (by decide +kernel) rfl rfl rfl rfl qw477 k_X6_put ⟨rfl, rfl, Nat.le_of_ble_eq_true rfl, Nat.le_of_ble_eq_true rfl⟩ ⟨Nat.zero_le _, Nat.zero_le _⟩ hl.1 (Nat.le_of_ble_eq_true rfl) dX10_formDifference_53 rfl (fun H locs hw => ?_)
  exact hret _ _ _ _ _ (Option.some.inj hf) dX10_formDifference_56 hw
theorem k_X10_formShift : xKV yX10_formShift cX10_formShift 5 none 2 := ⟨qw538, qw7, qw13, qw539, by decide +kernel, by decide +kernel, by decide +kernel⟩
set_option maxHeartbeats 4000000 in
set_option maxRecDepth 100000 in
theorem met_X10_formShift (l : Launch) (g : xG) (h : Nat → Nat) (now : SC) (snap : SC) (has : Int32) (hist : HC) (ent : EC) (res : RC) (num : NC) (col : CC) (a1 : Int32) (a2 : Int32) (out : RC) (hf : f_X10_formShift now res a1 a2 = some out) : xM l yX10_formShift (xC yX10_formShift cX10_formShift 5 none) { frames := 2, cells := 0, slots := 0, locals := 56 } g (wC g h now snap has hist ent res num col) [.ref (h 0), .int a1, .int a2] none (wC g h now snap has hist ent out num col) := by
  refine xof (by decide) (Nat.le_of_ble_eq_true rfl) ⟨rfl, rfl⟩ ?_
  intro p e s m below meth c A ls E hr hlocks hw hl hpost hAe
  have hx := E.1.1
  have hb := E.1.2.1
  have hown := E.1.2.2.2.1
  have hts := E.1.2.2.2.2
  generalize hZ : (MQ below (xPost g (wC g h now snap has hist ent res num col) (wC g h now snap has hist ent out num col) s.heap.size none) [.ref (h 0), .int a1, .int a2].toArray s 0 0 A) = ZZ
  have hret : ∀ (pc : Nat) (H : Heap) (locs : List Loc) (ls : Array Slot) (cres : RC), cres = out → decode cX10_formShift pc = .ok (.return_, 1) → xW g A s.heap (wC g h now snap has hist ent cres num col) H locs → W p l e { frames := 2, cells := 0, slots := 0, locals := 56 } s m [.ref (h 0), .int a1, .int a2].toArray below meth c H locs 0 0 ZZ (F0 m pc ls []) := by
    intro pc H locs ls cres he hd hw
    subst he
    rw [← hZ]
    exact W.vret hx hb hr (hpost H locs hw).1 (hpost H locs hw).2 hd hlocks
  clear hpost
  refine lv_aload_n hx hb dX10_formShift_0 rfl (lv_at hl 0 rfl) ?_
  refine xget (v := .ref (h 1)) E hw 0 rfl rfl 0 (by decide) inw10 qw186 rfl rfl dX10_formShift_1 ?_
  refine xget (v := .int now.1) E hw 1 rfl rfl 0 (by decide) inw7 qw46 rfl rfl dX10_formShift_4 ?_
  refine lv_i2l hx hb dX10_formShift_7 rfl ?_
  refine lv_iload_n hx hb dX10_formShift_8 rfl (lv_at hl 2 rfl) ?_
  refine xabs E hl.1 qw540 qw541 qw30 qw542 ⟨Nat.le_of_ble_eq_true rfl, Nat.le_of_ble_eq_true rfl⟩ ⟨Nat.zero_le _, Nat.zero_le _⟩ dX10_formShift_9 ?_
  obtain ⟨v12, hv12, hf⟩ := ob_e hf
  refine xcallS (ws' := (wC g h now snap has hist ent res num col)) (st1 := [.long v12]) (n := 34) E hw [.long now.1.toInt64, .int (if 0 ≤ a2 then a2 else 0 - a2)] [] (met_X5_power l g now.1.toInt64 (if 0 ≤ a2 then a2 else 0 - a2) v12 hv12) rfl (by decide) rfl rfl [0, 1, 2, 3, 4, 5, 6, 7, 8, 9, 10, 11, 12, 13, 14, 15, 16, 17, 18, 19, 20, 21, 22, 23, 24, 25, 26, 27, 28, 29, 30, 31, 32, 33] rfl (by decide +kernel) rfl qw543 k_X5_power ⟨rfl, rfl, Nat.le_of_ble_eq_true rfl, Nat.le_of_ble_eq_true rfl⟩ ⟨Nat.zero_le _, Nat.zero_le _⟩ hl.1 (Nat.le_of_ble_eq_true rfl) dX10_formShift_12 rfl (fun H locs hw => ?_)
  refine lv_lstore_n (lv' := [(3, .long v12), (0, .ref (h 0)), (1, .int a1), (2, .int a2)]) hx hb dX10_formShift_15 rfl hl (by decide) rfl (fun ls hl => ?_)
  refine lv_iload_n hx hb dX10_formShift_16 rfl (lv_at hl 3 rfl) ?_
  refine lv_if_ge (tgt := 50) hx hb dX10_formShift_17 (by decide) (fun c17 => ?_) (fun c17 => ?_)
  · replace hf := ip c17 hf
    refine lv_aload_n hx hb dX10_formShift_50 rfl (lv_at hl 1 rfl) ?_
    refine xget (v := .ref (h 30)) E hw 0 rfl rfl 5 (by decide) inw10 qw191 rfl rfl dX10_formShift_51 ?_
    refine lv_aload_n hx hb dX10_formShift_54 rfl (lv_at hl 1 rfl) ?_
    refine xget (v := .ref (h 1)) E hw 0 rfl rfl 0 (by decide) inw10 qw186 rfl rfl dX10_formShift_55 ?_
    refine lv_iload_n hx hb dX10_formShift_58 rfl (lv_at hl 2 rfl) ?_
    obtain ⟨v59, hv59, hf⟩ := ob_e hf
    refine xcallV (ws' := (wC g h now snap has hist ent res num col)) (st1 := [.int v59, .ref (h 30)]) (n := 34) E hw [.int a1] [1, 2, 3] (met_X7_numeratorOf l g h 1 now a1 v59 hv59) rfl (by decide) rfl rfl [0, 34, 35, 36, 4, 5, 6, 7, 8, 9, 10, 11, 12, 13, 14, 15, 16, 17, 18, 19, 20, 21, 22, 23, 24, 25, 26, 27, 28, 29, 30, 31, 32, 33] rfl (by decide +kernel) rfl rfl rfl rfl qw329 k_X7_numeratorOf ⟨rfl, rfl, Nat.le_of_ble_eq_true rfl, Nat.le_of_ble_eq_true rfl⟩ ⟨Nat.zero_le _, Nat.zero_le _⟩ hl.1 (Nat.le_of_ble_eq_true rfl) dX10_formShift_59 rfl (fun H locs hw => ?_)
    refine lv_i2l hx hb dX10_formShift_62 rfl ?_
    refine lv_lload_n hx hb dX10_formShift_63 rfl (lv_at hl 0 rfl) ?_
    refine lv_lmul hx hb dX10_formShift_64 ?_
    refine lv_aload_n hx hb dX10_formShift_65 rfl (lv_at hl 1 rfl) ?_
    refine xget (v := .ref (h 1)) E hw 0 rfl rfl 0 (by decide) inw10 qw186 rfl rfl dX10_formShift_66 ?_
    refine lv_iload_n hx hb dX10_formShift_69 rfl (lv_at hl 2 rfl) ?_
    obtain ⟨v70, hv70, hf⟩ := ob_e hf
    refine xcallV (ws' := (wC g h now snap has hist ent res num col)) (st1 := [.int v70, .long (v59.toInt64 * v12), .ref (h 30)]) (n := 34) E hw [.int a1] [1, 2, 3] (met_X7_denominatorOf l g h 1 now a1 v70 hv70) rfl (by decide) rfl rfl [0, 34, 35, 36, 4, 5, 6, 7, 8, 9, 10, 11, 12, 13, 14, 15, 16, 17, 18, 19, 20, 21, 22, 23, 24, 25, 26, 27, 28, 29, 30, 31, 32, 33] rfl (by decide +kernel) rfl rfl rfl rfl qw340 k_X7_denominatorOf ⟨rfl, rfl, Nat.le_of_ble_eq_true rfl, Nat.le_of_ble_eq_true rfl⟩ ⟨Nat.zero_le _, Nat.zero_le _⟩ hl.1 (Nat.le_of_ble_eq_true rfl) dX10_formShift_70 rfl (fun H locs hw => ?_)
    refine lv_i2l hx hb dX10_formShift_73 rfl ?_
    obtain ⟨v74, hv74, hf⟩ := ob_e hf
    refine xcallV (ws' := (wC g h now snap has hist ent v74 num col)) (st1 := []) (n := 34) E hw [.long (v59.toInt64 * v12), .long v70.toInt64] [30] (met_X6_put l g h 30 res (v59.toInt64 * v12) v70.toInt64 v74 hv74) rfl (by decide) rfl rfl [0, 1, 2, 3, 4, 5, 6, 7, 8, 9, 10, 11, 12, 13, 14, 15, 16, 17, 18, 19, 20, 21, 22, 23, 24, 25, 26, 27, 28, 29, 34, 31, 32, 33] rfl (by decide +kernel) rfl rfl rfl rfl qw477 k_X6_put ⟨rfl, rfl, Nat.le_of_ble_eq_true rfl, Nat.le_of_ble_eq_true rfl⟩ ⟨Nat.zero_le _, Nat.zero_le _⟩ hl.1 (Nat.le_of_ble_eq_true rfl) dX10_formShift_74 rfl (fun H locs hw => ?_)
    exact hret _ _ _ _ _ (Option.some.inj hf) dX10_formShift_77 hw
  · replace hf := iq c17 hf
    refine lv_aload_n hx hb dX10_formShift_20 rfl (lv_at hl 1 rfl) ?_
    refine xget (v := .ref (h 30)) E hw 0 rfl rfl 5 (by decide) inw10 qw191 rfl rfl dX10_formShift_21 ?_
    refine lv_aload_n hx hb dX10_formShift_24 rfl (lv_at hl 1 rfl) ?_
    refine xget (v := .ref (h 1)) E hw 0 rfl rfl 0 (by decide) inw10 qw186 rfl rfl dX10_formShift_25 ?_
    refine lv_iload_n hx hb dX10_formShift_28 rfl (lv_at hl 2 rfl) ?_
    obtain ⟨v29, hv29, hf⟩ := ob_e hf
    refine xcallV (ws' := (wC g h now snap has hist ent res num col)) (st1 := [.int v29, .ref (h 30)]) (n := 34) E hw [.int a1] [1, 2, 3] (met_X7_numeratorOf l g h 1 now a1 v29 hv29) rfl (by decide) rfl rfl [0, 34, 35, 36, 4, 5, 6, 7, 8, 9, 10, 11, 12, 13, 14, 15, 16, 17, 18, 19, 20, 21, 22, 23, 24, 25, 26, 27, 28, 29, 30, 31, 32, 33] rfl (by decide +kernel) rfl rfl rfl rfl qw329 k_X7_numeratorOf ⟨rfl, rfl, Nat.le_of_ble_eq_true rfl, Nat.le_of_ble_eq_true rfl⟩ ⟨Nat.zero_le _, Nat.zero_le _⟩ hl.1 (Nat.le_of_ble_eq_true rfl) dX10_formShift_29 rfl (fun H locs hw => ?_)
    refine lv_i2l hx hb dX10_formShift_32 rfl ?_
    refine lv_aload_n hx hb dX10_formShift_33 rfl (lv_at hl 1 rfl) ?_
    refine xget (v := .ref (h 1)) E hw 0 rfl rfl 0 (by decide) inw10 qw186 rfl rfl dX10_formShift_34 ?_
    refine lv_iload_n hx hb dX10_formShift_37 rfl (lv_at hl 2 rfl) ?_
    obtain ⟨v38, hv38, hf⟩ := ob_e hf
    refine xcallV (ws' := (wC g h now snap has hist ent res num col)) (st1 := [.int v38, .long v29.toInt64, .ref (h 30)]) (n := 34) E hw [.int a1] [1, 2, 3] (met_X7_denominatorOf l g h 1 now a1 v38 hv38) rfl (by decide) rfl rfl [0, 34, 35, 36, 4, 5, 6, 7, 8, 9, 10, 11, 12, 13, 14, 15, 16, 17, 18, 19, 20, 21, 22, 23, 24, 25, 26, 27, 28, 29, 30, 31, 32, 33] rfl (by decide +kernel) rfl rfl rfl rfl qw340 k_X7_denominatorOf ⟨rfl, rfl, Nat.le_of_ble_eq_true rfl, Nat.le_of_ble_eq_true rfl⟩ ⟨Nat.zero_le _, Nat.zero_le _⟩ hl.1 (Nat.le_of_ble_eq_true rfl) dX10_formShift_38 rfl (fun H locs hw => ?_)
    refine lv_i2l hx hb dX10_formShift_41 rfl ?_
    refine lv_lload_n hx hb dX10_formShift_42 rfl (lv_at hl 0 rfl) ?_
    refine lv_lmul hx hb dX10_formShift_43 ?_
    obtain ⟨v44, hv44, hf⟩ := ob_e hf
    refine xcallV (ws' := (wC g h now snap has hist ent v44 num col)) (st1 := []) (n := 34) E hw [.long v29.toInt64, .long (v38.toInt64 * v12)] [30] (met_X6_put l g h 30 res v29.toInt64 (v38.toInt64 * v12) v44 hv44) rfl (by decide) rfl rfl [0, 1, 2, 3, 4, 5, 6, 7, 8, 9, 10, 11, 12, 13, 14, 15, 16, 17, 18, 19, 20, 21, 22, 23, 24, 25, 26, 27, 28, 29, 34, 31, 32, 33] rfl (by decide +kernel) rfl rfl rfl rfl qw477 k_X6_put ⟨rfl, rfl, Nat.le_of_ble_eq_true rfl, Nat.le_of_ble_eq_true rfl⟩ ⟨Nat.zero_le _, Nat.zero_le _⟩ hl.1 (Nat.le_of_ble_eq_true rfl) dX10_formShift_44 rfl (fun H locs hw => ?_)
    refine lv_goto (tgt := 77) hx hb dX10_formShift_47 (by decide) ?_
    exact hret _ _ _ _ _ (Option.some.inj hf) dX10_formShift_77 hw
theorem k_X10_formWithCoins : xKV yX10_formWithCoins cX10_formWithCoins 6 none 2 := ⟨qw560, qw8, qw13, qw561, by decide +kernel, by decide +kernel, by decide +kernel⟩
set_option maxHeartbeats 4000000 in
set_option maxRecDepth 100000 in
theorem met_X10_formWithCoins (l : Launch) (g : xG) (h : Nat → Nat) (now : SC) (snap : SC) (has : Int32) (hist : HC) (ent : EC) (res : RC) (num : NC) (col : CC) (a1 : Int32) (a2 : Int64) (out : RC) (hf : f_X10_formWithCoins now res a1 a2 = some out) : xM l yX10_formWithCoins (xC yX10_formWithCoins cX10_formWithCoins 6 none) { frames := 2, cells := 0, slots := 0, locals := 56 } g (wC g h now snap has hist ent res num col) [.ref (h 0), .int a1, .long a2] none (wC g h now snap has hist ent out num col) := by
  refine xof (by decide) (Nat.le_of_ble_eq_true rfl) ⟨rfl, rfl⟩ ?_
  intro p e s m below meth c A ls E hr hlocks hw hl hpost hAe
  have hx := E.1.1
  have hb := E.1.2.1
  have hown := E.1.2.2.2.1
  have hts := E.1.2.2.2.2
  generalize hZ : (MQ below (xPost g (wC g h now snap has hist ent res num col) (wC g h now snap has hist ent out num col) s.heap.size none) [.ref (h 0), .int a1, .long a2].toArray s 0 0 A) = ZZ
  have hret : ∀ (pc : Nat) (H : Heap) (locs : List Loc) (ls : Array Slot) (cres : RC), cres = out → decode cX10_formWithCoins pc = .ok (.return_, 1) → xW g A s.heap (wC g h now snap has hist ent cres num col) H locs → W p l e { frames := 2, cells := 0, slots := 0, locals := 56 } s m [.ref (h 0), .int a1, .long a2].toArray below meth c H locs 0 0 ZZ (F0 m pc ls []) := by
    intro pc H locs ls cres he hd hw
    subst he
    rw [← hZ]
    exact W.vret hx hb hr (hpost H locs hw).1 (hpost H locs hw).2 hd hlocks
  clear hpost
  refine lv_aload_n hx hb dX10_formWithCoins_0 rfl (lv_at hl 0 rfl) ?_
  refine xget (v := .ref (h 1)) E hw 0 rfl rfl 0 (by decide) inw10 qw186 rfl rfl dX10_formWithCoins_1 ?_
  refine lv_iload_n hx hb dX10_formWithCoins_4 rfl (lv_at hl 1 rfl) ?_
  obtain ⟨v5, hv5, hf⟩ := ob_e hf
  refine xcallV (ws' := (wC g h now snap has hist ent res num col)) (st1 := [.int v5]) (n := 34) E hw [.int a1] [1, 2, 3] (met_X7_denominatorOf l g h 1 now a1 v5 hv5) rfl (by decide) rfl rfl [0, 34, 35, 36, 4, 5, 6, 7, 8, 9, 10, 11, 12, 13, 14, 15, 16, 17, 18, 19, 20, 21, 22, 23, 24, 25, 26, 27, 28, 29, 30, 31, 32, 33] rfl (by decide +kernel) rfl rfl rfl rfl qw340 k_X7_denominatorOf ⟨rfl, rfl, Nat.le_of_ble_eq_true rfl, Nat.le_of_ble_eq_true rfl⟩ ⟨Nat.zero_le _, Nat.zero_le _⟩ hl.1 (Nat.le_of_ble_eq_true rfl) dX10_formWithCoins_5 rfl (fun H locs hw => ?_)
  refine lv_i2l hx hb dX10_formWithCoins_8 rfl ?_
  refine lv_lstore (lv' := [(4, .long v5.toInt64), (0, .ref (h 0)), (1, .int a1), (2, .long a2)]) hx hb dX10_formWithCoins_9 hl (by decide) rfl (fun ls hl => ?_)
  refine lv_aload_n hx hb dX10_formWithCoins_11 rfl (lv_at hl 1 rfl) ?_
  refine xget (v := .ref (h 30)) E hw 0 rfl rfl 5 (by decide) inw10 qw191 rfl rfl dX10_formWithCoins_12 ?_
  refine lv_aload_n hx hb dX10_formWithCoins_15 rfl (lv_at hl 1 rfl) ?_
  refine xget (v := .ref (h 1)) E hw 0 rfl rfl 0 (by decide) inw10 qw186 rfl rfl dX10_formWithCoins_16 ?_
  refine lv_iload_n hx hb dX10_formWithCoins_19 rfl (lv_at hl 2 rfl) ?_
  obtain ⟨v20, hv20, hf⟩ := ob_e hf
  refine xcallV (ws' := (wC g h now snap has hist ent res num col)) (st1 := [.int v20, .ref (h 30)]) (n := 34) E hw [.int a1] [1, 2, 3] (met_X7_numeratorOf l g h 1 now a1 v20 hv20) rfl (by decide) rfl rfl [0, 34, 35, 36, 4, 5, 6, 7, 8, 9, 10, 11, 12, 13, 14, 15, 16, 17, 18, 19, 20, 21, 22, 23, 24, 25, 26, 27, 28, 29, 30, 31, 32, 33] rfl (by decide +kernel) rfl rfl rfl rfl qw329 k_X7_numeratorOf ⟨rfl, rfl, Nat.le_of_ble_eq_true rfl, Nat.le_of_ble_eq_true rfl⟩ ⟨Nat.zero_le _, Nat.zero_le _⟩ hl.1 (Nat.le_of_ble_eq_true rfl) dX10_formWithCoins_20 rfl (fun H locs hw => ?_)
  refine lv_i2l hx hb dX10_formWithCoins_23 rfl ?_
  refine lv_lload_n hx hb dX10_formWithCoins_24 rfl (lv_at hl 3 rfl) ?_
  refine lv_lload hx hb dX10_formWithCoins_25 (lv_at hl 0 rfl) ?_
  refine lv_lmul hx hb dX10_formWithCoins_27 ?_
  refine lv_ladd hx hb dX10_formWithCoins_28 ?_
  refine lv_lload hx hb dX10_formWithCoins_29 (lv_at hl 0 rfl) ?_
  obtain ⟨v31, hv31, hf⟩ := ob_e hf
  refine xcallV (ws' := (wC g h now snap has hist ent v31 num col)) (st1 := []) (n := 34) E hw [.long (v20.toInt64 + (a2 * v5.toInt64)), .long v5.toInt64] [30] (met_X6_put l g h 30 res (v20.toInt64 + (a2 * v5.toInt64)) v5.toInt64 v31 hv31) rfl (by decide) rfl rfl [0, 1, 2, 3, 4, 5, 6, 7, 8, 9, 10, 11, 12, 13, 14, 15, 16, 17, 18, 19, 20, 21, 22, 23, 24, 25, 26, 27, 28, 29, 34, 31, 32, 33] rfl (by decide +kernel) rfl rfl rfl rfl qw477 k_X6_put ⟨rfl, rfl, Nat.le_of_ble_eq_true rfl, Nat.le_of_ble_eq_true rfl⟩ ⟨Nat.zero_le _, Nat.zero_le _⟩ hl.1 (Nat.le_of_ble_eq_true rfl) dX10_formWithCoins_31 rfl (fun H locs hw => ?_)
  exact hret _ _ _ _ _ (Option.some.inj hf) dX10_formWithCoins_34 hw
theorem k_X10_hasStopped : xKV yX10_hasStopped cX10_hasStopped 1 (some .boolean) 0 := ⟨qw212, qw213, qw13, qw214, by decide +kernel, by decide +kernel, by decide +kernel⟩
set_option maxHeartbeats 4000000 in
set_option maxRecDepth 100000 in
theorem met_X10_hasStopped (l : Launch) (g : xG) (h : Nat → Nat) (now : SC) (snap : SC) (has : Int32) (hist : HC) (ent : EC) (res : RC) (num : NC) (col : CC) (out : Int32) (hf : f_X10_hasStopped now = some out) : xM l yX10_hasStopped (xC yX10_hasStopped cX10_hasStopped 1 (some .boolean)) { frames := 0, cells := 0, slots := 0, locals := 0 } g (wC g h now snap has hist ent res num col) [.ref (h 0)] (some (.int out)) (wC g h now snap has hist ent res num col) := by
  refine xof (by decide) (Nat.le_of_ble_eq_true rfl) ⟨rfl, rfl⟩ ?_
  intro p e s m below meth c A ls E hr hlocks hw hl hpost hAe
  have hx := E.1.1
  have hb := E.1.2.1
  have hown := E.1.2.2.2.1
  have hts := E.1.2.2.2.2
  generalize hZ : (MQ below (xPost g (wC g h now snap has hist ent res num col) (wC g h now snap has hist ent res num col) s.heap.size (some (.int out))) [.ref (h 0)].toArray s 0 0 A) = ZZ
  have hret : ∀ (pc : Nat) (H : Heap) (locs : List Loc) (ls : Array Slot) (v : Int32), narrow .boolean (.int v) = .int v → v = out → decode cX10_hasStopped pc = .ok (.ireturn, 1) → xW g A s.heap (wC g h now snap has hist ent res num col) H locs → W p l e { frames := 0, cells := 0, slots := 0, locals := 0 } s m [.ref (h 0)].toArray below meth c H locs 0 0 ZZ (F0 m pc ls [.int v]) := by
    intro pc H locs ls v hn he hd hw
    subst he
    rw [← hZ]
    exact W.zret hx hb hr hn (hpost H locs hw).1 (hpost H locs hw).2 hd hlocks
  clear hpost
  refine lv_aload_n hx hb dX10_hasStopped_0 rfl (lv_at hl 0 rfl) ?_
  refine xget (v := .ref (h 1)) E hw 0 rfl rfl 0 (by decide) inw10 qw186 rfl rfl dX10_hasStopped_1 ?_
  refine xget (v := .int now.2.2.1) E hw 1 rfl rfl 2 (by decide) inw7 qw50 rfl rfl dX10_hasStopped_4 ?_
  refine lv_if_eq (tgt := 14) hx hb dX10_hasStopped_7 (by decide) (fun c7 => ?_) (fun c7 => ?_)
  · replace hf := ip c7 hf
    refine lv_iconst (v := 0) hx hb dX10_hasStopped_14 (by decide) ?_
    exact hret _ _ _ _ _ (by decide) (Option.some.inj hf) dX10_hasStopped_15 hw
  · replace hf := iq c7 hf
    refine lv_iconst (v := 1) hx hb dX10_hasStopped_10 (by decide) ?_
    refine lv_goto (tgt := 15) hx hb dX10_hasStopped_11 (by decide) ?_
    exact hret _ _ _ _ _ (by decide) (Option.some.inj hf) dX10_hasStopped_15 hw
theorem k_X10_savedStates : xKV yX10_savedStates cX10_savedStates 1 (some .int) 0 := ⟨qw299, qw300, qw13, qw301, by decide +kernel, by decide +kernel, by decide +kernel⟩
set_option maxHeartbeats 4000000 in
set_option maxRecDepth 100000 in
theorem met_X10_savedStates (l : Launch) (g : xG) (h : Nat → Nat) (now : SC) (snap : SC) (has : Int32) (hist : HC) (ent : EC) (res : RC) (num : NC) (col : CC) (out : Int32) (hf : f_X10_savedStates hist = some out) : xM l yX10_savedStates (xC yX10_savedStates cX10_savedStates 1 (some .int)) { frames := 0, cells := 0, slots := 0, locals := 0 } g (wC g h now snap has hist ent res num col) [.ref (h 0)] (some (.int out)) (wC g h now snap has hist ent res num col) := by
  refine xof (by decide) (Nat.le_of_ble_eq_true rfl) ⟨rfl, rfl⟩ ?_
  intro p e s m below meth c A ls E hr hlocks hw hl hpost hAe
  have hx := E.1.1
  have hb := E.1.2.1
  have hown := E.1.2.2.2.1
  have hts := E.1.2.2.2.2
  generalize hZ : (MQ below (xPost g (wC g h now snap has hist ent res num col) (wC g h now snap has hist ent res num col) s.heap.size (some (.int out))) [.ref (h 0)].toArray s 0 0 A) = ZZ
  have hret : ∀ (pc : Nat) (H : Heap) (locs : List Loc) (ls : Array Slot) (v : Int32), v = out → decode cX10_savedStates pc = .ok (.ireturn, 1) → xW g A s.heap (wC g h now snap has hist ent res num col) H locs → W p l e { frames := 0, cells := 0, slots := 0, locals := 0 } s m [.ref (h 0)].toArray below meth c H locs 0 0 ZZ (F0 m pc ls [.int v]) := by
    intro pc H locs ls v he hd hw
    subst he
    rw [← hZ]
    exact W.iret hx hb hr (hpost H locs hw).1 (hpost H locs hw).2 hd hlocks
  clear hpost
  refine lv_aload_n hx hb dX10_savedStates_0 rfl (lv_at hl 0 rfl) ?_
  refine xget (v := .ref (h 7)) E hw 0 rfl rfl 3 (by decide) inw10 qw189 rfl rfl dX10_savedStates_1 ?_
  refine xget (v := .int hist.1) E hw 7 rfl rfl 0 (by decide) inw3 qw75 rfl rfl dX10_savedStates_4 ?_
  exact hret _ _ _ _ _ (Option.some.inj hf) dX10_savedStates_7 hw
theorem k_X10_base : xKV yX10_base cX10_base 1 (some .int) 0 := ⟨qw303, qw304, qw13, qw305, by decide +kernel, by decide +kernel, by decide +kernel⟩
set_option maxHeartbeats 4000000 in
set_option maxRecDepth 100000 in
theorem met_X10_base (l : Launch) (g : xG) (h : Nat → Nat) (now : SC) (snap : SC) (has : Int32) (hist : HC) (ent : EC) (res : RC) (num : NC) (col : CC) (out : Int32) (hf : f_X10_base now = some out) : xM l yX10_base (xC yX10_base cX10_base 1 (some .int)) { frames := 0, cells := 0, slots := 0, locals := 0 } g (wC g h now snap has hist ent res num col) [.ref (h 0)] (some (.int out)) (wC g h now snap has hist ent res num col) := by
  refine xof (by decide) (Nat.le_of_ble_eq_true rfl) ⟨rfl, rfl⟩ ?_
  intro p e s m below meth c A ls E hr hlocks hw hl hpost hAe
  have hx := E.1.1
  have hb := E.1.2.1
  have hown := E.1.2.2.2.1
  have hts := E.1.2.2.2.2
  generalize hZ : (MQ below (xPost g (wC g h now snap has hist ent res num col) (wC g h now snap has hist ent res num col) s.heap.size (some (.int out))) [.ref (h 0)].toArray s 0 0 A) = ZZ
  have hret : ∀ (pc : Nat) (H : Heap) (locs : List Loc) (ls : Array Slot) (v : Int32), v = out → decode cX10_base pc = .ok (.ireturn, 1) → xW g A s.heap (wC g h now snap has hist ent res num col) H locs → W p l e { frames := 0, cells := 0, slots := 0, locals := 0 } s m [.ref (h 0)].toArray below meth c H locs 0 0 ZZ (F0 m pc ls [.int v]) := by
    intro pc H locs ls v he hd hw
    subst he
    rw [← hZ]
    exact W.iret hx hb hr (hpost H locs hw).1 (hpost H locs hw).2 hd hlocks
  clear hpost
  refine lv_aload_n hx hb dX10_base_0 rfl (lv_at hl 0 rfl) ?_
  refine xget (v := .ref (h 1)) E hw 0 rfl rfl 0 (by decide) inw10 qw186 rfl rfl dX10_base_1 ?_
  refine xget (v := .int now.1) E hw 1 rfl rfl 0 (by decide) inw7 qw46 rfl rfl dX10_base_4 ?_
  exact hret _ _ _ _ _ (Option.some.inj hf) dX10_base_7 hw
theorem k_X10_order : xKV yX10_order cX10_order 7 (some .int) 2 := ⟨qw673, qw11, qw13, qw674, by decide +kernel, by decide +kernel, by decide +kernel⟩
set_option maxHeartbeats 4000000 in
set_option maxRecDepth 100000 in
theorem met_X10_order (l : Launch) (g : xG) (h : Nat → Nat) (now : SC) (snap : SC) (has : Int32) (hist : HC) (ent : EC) (res : RC) (num : NC) (col : CC) (a1 : Int32) (a2 : Int32) (out : Int32) (hf : f_X10_order now a1 a2 = some out) : xM l yX10_order (xC yX10_order cX10_order 7 (some .int)) { frames := 2, cells := 0, slots := 0, locals := 41 } g (wC g h now snap has hist ent res num col) [.ref (h 0), .int a1, .int a2] (some (.int out)) (wC g h now snap has hist ent res num col) := by
  refine xof (by decide) (Nat.le_of_ble_eq_true rfl) ⟨rfl, rfl⟩ ?_
  intro p e s m below meth c A ls E hr hlocks hw hl hpost hAe
  have hx := E.1.1
  have hb := E.1.2.1
  have hown := E.1.2.2.2.1
  have hts := E.1.2.2.2.2
  generalize hZ : (MQ below (xPost g (wC g h now snap has hist ent res num col) (wC g h now snap has hist ent res num col) s.heap.size (some (.int out))) [.ref (h 0), .int a1, .int a2].toArray s 0 0 A) = ZZ
  have hret : ∀ (pc : Nat) (H : Heap) (locs : List Loc) (ls : Array Slot) (v : Int32), v = out → decode cX10_order pc = .ok (.ireturn, 1) → xW g A s.heap (wC g h now snap has hist ent res num col) H locs → W p l e { frames := 2, cells := 0, slots := 0, locals := 41 } s m [.ref (h 0), .int a1, .int a2].toArray below meth c H locs 0 0 ZZ (F0 m pc ls [.int v]) := by
    intro pc H locs ls v he hd hw
    subst he
    rw [← hZ]
    exact W.iret hx hb hr (hpost H locs hw).1 (hpost H locs hw).2 hd hlocks
  clear hpost
  refine lv_aload_n hx hb dX10_order_0 rfl (lv_at hl 0 rfl) ?_
  refine xget (v := .ref (h 1)) E hw 0 rfl rfl 0 (by decide) inw10 qw186 rfl rfl dX10_order_1 ?_
  refine lv_iload_n hx hb dX10_order_4 rfl (lv_at hl 1 rfl) ?_
  obtain ⟨v5, hv5, hf⟩ := ob_e hf
  refine xcallV (ws' := (wC g h now snap has hist ent res num col)) (st1 := [.int v5]) (n := 34) E hw [.int a1] [1, 2, 3] (met_X7_numeratorOf l g h 1 now a1 v5 hv5) rfl (by decide) rfl rfl [0, 34, 35, 36, 4, 5, 6, 7, 8, 9, 10, 11, 12, 13, 14, 15, 16, 17, 18, 19, 20, 21, 22, 23, 24, 25, 26, 27, 28, 29, 30, 31, 32, 33] rfl (by decide +kernel) rfl rfl rfl rfl qw329 k_X7_numeratorOf ⟨rfl, rfl, Nat.le_of_ble_eq_true rfl, Nat.le_of_ble_eq_true rfl⟩ ⟨Nat.zero_le _, Nat.zero_le _⟩ hl.1 (Nat.le_of_ble_eq_true rfl) dX10_order_5 rfl (fun H locs hw => ?_)
  refine lv_i2l hx hb dX10_order_8 rfl ?_
  refine lv_aload_n hx hb dX10_order_9 rfl (lv_at hl 0 rfl) ?_
  refine xget (v := .ref (h 1)) E hw 0 rfl rfl 0 (by decide) inw10 qw186 rfl rfl dX10_order_10 ?_
  refine lv_iload_n hx hb dX10_order_13 rfl (lv_at hl 2 rfl) ?_
  obtain ⟨v14, hv14, hf⟩ := ob_e hf
  refine xcallV (ws' := (wC g h now snap has hist ent res num col)) (st1 := [.int v14, .long v5.toInt64]) (n := 34) E hw [.int a2] [1, 2, 3] (met_X7_denominatorOf l g h 1 now a2 v14 hv14) rfl (by decide) rfl rfl [0, 34, 35, 36, 4, 5, 6, 7, 8, 9, 10, 11, 12, 13, 14, 15, 16, 17, 18, 19, 20, 21, 22, 23, 24, 25, 26, 27, 28, 29, 30, 31, 32, 33] rfl (by decide +kernel) rfl rfl rfl rfl qw340 k_X7_denominatorOf ⟨rfl, rfl, Nat.le_of_ble_eq_true rfl, Nat.le_of_ble_eq_true rfl⟩ ⟨Nat.zero_le _, Nat.zero_le _⟩ hl.1 (Nat.le_of_ble_eq_true rfl) dX10_order_14 rfl (fun H locs hw => ?_)
  refine lv_i2l hx hb dX10_order_17 rfl ?_
  refine lv_lmul hx hb dX10_order_18 ?_
  refine lv_lstore_n (lv' := [(3, .long (v5.toInt64 * v14.toInt64)), (0, .ref (h 0)), (1, .int a1), (2, .int a2)]) hx hb dX10_order_19 rfl hl (by decide) rfl (fun ls hl => ?_)
  refine lv_aload_n hx hb dX10_order_20 rfl (lv_at hl 1 rfl) ?_
  refine xget (v := .ref (h 1)) E hw 0 rfl rfl 0 (by decide) inw10 qw186 rfl rfl dX10_order_21 ?_
  refine lv_iload_n hx hb dX10_order_24 rfl (lv_at hl 3 rfl) ?_
  obtain ⟨v25, hv25, hf⟩ := ob_e hf
  refine xcallV (ws' := (wC g h now snap has hist ent res num col)) (st1 := [.int v25]) (n := 34) E hw [.int a2] [1, 2, 3] (met_X7_numeratorOf l g h 1 now a2 v25 hv25) rfl (by decide) rfl rfl [0, 34, 35, 36, 4, 5, 6, 7, 8, 9, 10, 11, 12, 13, 14, 15, 16, 17, 18, 19, 20, 21, 22, 23, 24, 25, 26, 27, 28, 29, 30, 31, 32, 33] rfl (by decide +kernel) rfl rfl rfl rfl qw329 k_X7_numeratorOf ⟨rfl, rfl, Nat.le_of_ble_eq_true rfl, Nat.le_of_ble_eq_true rfl⟩ ⟨Nat.zero_le _, Nat.zero_le _⟩ hl.1 (Nat.le_of_ble_eq_true rfl) dX10_order_25 rfl (fun H locs hw => ?_)
  refine lv_i2l hx hb dX10_order_28 rfl ?_
  refine lv_aload_n hx hb dX10_order_29 rfl (lv_at hl 1 rfl) ?_
  refine xget (v := .ref (h 1)) E hw 0 rfl rfl 0 (by decide) inw10 qw186 rfl rfl dX10_order_30 ?_
  refine lv_iload_n hx hb dX10_order_33 rfl (lv_at hl 2 rfl) ?_
  obtain ⟨v34, hv34, hf⟩ := ob_e hf
  refine xcallV (ws' := (wC g h now snap has hist ent res num col)) (st1 := [.int v34, .long v25.toInt64]) (n := 34) E hw [.int a1] [1, 2, 3] (met_X7_denominatorOf l g h 1 now a1 v34 hv34) rfl (by decide) rfl rfl [0, 34, 35, 36, 4, 5, 6, 7, 8, 9, 10, 11, 12, 13, 14, 15, 16, 17, 18, 19, 20, 21, 22, 23, 24, 25, 26, 27, 28, 29, 30, 31, 32, 33] rfl (by decide +kernel) rfl rfl rfl rfl qw340 k_X7_denominatorOf ⟨rfl, rfl, Nat.le_of_ble_eq_true rfl, Nat.le_of_ble_eq_true rfl⟩ ⟨Nat.zero_le _, Nat.zero_le _⟩ hl.1 (Nat.le_of_ble_eq_true rfl) dX10_order_34 rfl (fun H locs hw => ?_)
  refine lv_i2l hx hb dX10_order_37 rfl ?_
  refine lv_lmul hx hb dX10_order_38 ?_
  refine lv_lstore (lv' := [(5, .long (v25.toInt64 * v34.toInt64)), (3, .long (v5.toInt64 * v14.toInt64)), (0, .ref (h 0)), (1, .int a1), (2, .int a2)]) hx hb dX10_order_39 hl (by decide) rfl (fun ls hl => ?_)
  refine lv_lload_n hx hb dX10_order_41 rfl (lv_at hl 1 rfl) ?_
  refine lv_lload hx hb dX10_order_42 (lv_at hl 0 rfl) ?_
  refine xlc_ne (tgt := 50) hx hb dX10_order_44 dX10_order_45 (by decide) (fun c44 => ?_) (fun c44 => ?_)
  · replace hf := iq c44 hf
    refine lv_lload_n hx hb dX10_order_50 rfl (lv_at hl 1 rfl) ?_
    refine lv_lload hx hb dX10_order_51 (lv_at hl 0 rfl) ?_
    refine xlc_le (tgt := 61) hx hb dX10_order_53 dX10_order_54 (by decide) (fun c53 => ?_) (fun c53 => ?_)
    · replace hf := iq c53 hf
      refine lv_iconst (v := (-1)) hx hb dX10_order_61 (by decide) ?_
      exact hret _ _ _ _ _ (Option.some.inj hf) dX10_order_62 hw
    · replace hf := ip c53 hf
      refine lv_iconst (v := 1) hx hb dX10_order_57 (by decide) ?_
      refine lv_goto (tgt := 62) hx hb dX10_order_58 (by decide) ?_
      exact hret _ _ _ _ _ (Option.some.inj hf) dX10_order_62 hw
  · replace hf := ip c44 hf
    refine lv_iconst (v := 0) hx hb dX10_order_48 (by decide) ?_
    exact hret _ _ _ _ _ (Option.some.inj hf) dX10_order_49 hw
theorem k_X10_richest : xKV yX10_richest cX10_richest 3 (some .int) 0 := ⟨qw676, qw677, qw13, qw678, by decide +kernel, by decide +kernel, by decide +kernel⟩
set_option maxHeartbeats 4000000 in
set_option maxRecDepth 100000 in
theorem met_X10_richest (l : Launch) (g : xG) (h : Nat → Nat) (now : SC) (snap : SC) (has : Int32) (hist : HC) (ent : EC) (res : RC) (num : NC) (col : CC) (out : Int32) (hf : f_X10_richest now = some out) : xM l yX10_richest (xC yX10_richest cX10_richest 3 (some .int)) { frames := 3, cells := 0, slots := 0, locals := 67 } g (wC g h now snap has hist ent res num col) [.ref (h 0)] (some (.int out)) (wC g h now snap has hist ent res num col) := by
  refine xof (by decide) (Nat.le_of_ble_eq_true rfl) ⟨rfl, rfl⟩ ?_
  intro p e s m below meth c A ls E hr hlocks hw hl hpost hAe
  have hx := E.1.1
  have hb := E.1.2.1
  have hown := E.1.2.2.2.1
  have hts := E.1.2.2.2.2
  generalize hZ : (MQ below (xPost g (wC g h now snap has hist ent res num col) (wC g h now snap has hist ent res num col) s.heap.size (some (.int out))) [.ref (h 0)].toArray s 0 0 A) = ZZ
  have hret : ∀ (pc : Nat) (H : Heap) (locs : List Loc) (ls : Array Slot) (v : Int32), v = out → decode cX10_richest pc = .ok (.ireturn, 1) → xW g A s.heap (wC g h now snap has hist ent res num col) H locs → W p l e { frames := 3, cells := 0, slots := 0, locals := 67 } s m [.ref (h 0)].toArray below meth c H locs 0 0 ZZ (F0 m pc ls [.int v]) := by
    intro pc H locs ls v he hd hw
    subst he
    rw [← hZ]
    exact W.iret hx hb hr (hpost H locs hw).1 (hpost H locs hw).2 hd hlocks
  clear hpost
  have b4 : ∀ n4 : Nat, ∀ (H : Heap) (locs : List Loc) (ls : Array Slot) (x1 : Int32) (x2 : Int32), xW g A s.heap (wC g h now snap has hist ent res num col) H locs → lv_has ls 3 [(0, .ref (h 0)), (1, .int x1), (2, .int x2)] → f_X10_richest_b4 n4 now x1 x2 = some out → W p l e { frames := 3, cells := 0, slots := 0, locals := 67 } s m [.ref (h 0)].toArray below meth c H locs 0 0 ZZ (F0 m 4 ls []) := by
    intro n4
    induction n4 with
    | zero =>
      intro H locs ls x1 x2 hw hl hf
      exact nn hf
    | succ n4 ih4 =>
      have b21 : ∀ (H : Heap) (locs : List Loc) (ls : Array Slot) (x1 : Int32) (x2 : Int32), xW g A s.heap (wC g h now snap has hist ent res num col) H locs → lv_has ls 3 [(0, .ref (h 0)), (1, .int x1), (2, .int x2)] → f_X10_richest_b21 (f_X10_richest_b4 n4) now x1 x2 = some out → W p l e { frames := 3, cells := 0, slots := 0, locals := 67 } s m [.ref (h 0)].toArray below meth c H locs 0 0 ZZ (F0 m 21 ls []) := by
        intro H locs ls x1 x2 hw hl hf
        refine lv_iinc (v := x2 + 1) (lv' := [(2, .int (x2 + 1)), (0, .ref (h 0)), (1, .int x1)]) hx hb dX10_richest_21 hl (k := 2) rfl rfl (by decide) rfl (fun ls hl => ?_)
        refine lv_goto (tgt := 4) hx hb dX10_richest_24 (by decide) ?_
        exact ih4 _ _ _ x1 (x2 + 1) hw (lv_sub hl [1, 2, 0] rfl) hf
      intro H locs ls x1 x2 hw hl hf
      refine lv_iload_n hx hb dX10_richest_4 rfl (lv_at hl 2 rfl) ?_
      refine lv_bipush (v := 6) hx hb dX10_richest_5 (by decide) ?_
      refine lv_icmp_ge (tgt := 27) hx hb dX10_richest_7 (by decide) (fun c7 => ?_) (fun c7 => ?_)
      · replace hf := ip c7 hf
        refine lv_iload_n hx hb dX10_richest_27 rfl (lv_at hl 1 rfl) ?_
        exact hret _ _ _ _ _ (Option.some.inj hf) dX10_richest_28 hw
      · replace hf := iq c7 hf
        refine lv_aload_n hx hb dX10_richest_10 rfl (lv_at hl 0 rfl) ?_
        refine lv_iload_n hx hb dX10_richest_11 rfl (lv_at hl 2 rfl) ?_
        refine lv_iload_n hx hb dX10_richest_12 rfl (lv_at hl 1 rfl) ?_
        obtain ⟨v13, hv13, hf⟩ := ob_e hf
        refine xcallV (ws' := (wC g h now snap has hist ent res num col)) (st1 := [.int v13]) (n := 34) E hw [.int x2, .int x1] [0, 1, 2, 3, 4, 5, 6, 7, 8, 9, 10, 11, 12, 13, 14, 15, 16, 17, 18, 19, 20, 21, 22, 23, 24, 25, 26, 27, 28, 29, 30, 31, 32, 33] (met_X10_order l g h now snap has hist ent res num col x2 x1 v13 hv13) rfl (by decide) rfl rfl [34, 35, 36, 37, 38, 39, 40, 41, 42, 43, 44, 45, 46, 47, 48, 49, 50, 51, 52, 53, 54, 55, 56, 57, 58, 59, 60, 61, 62, 63, 64, 65, 66, 67] rfl (by decide +kernel) rfl rfl rfl rfl qw671 k_X10_order ⟨rfl, rfl, Nat.le_of_ble_eq_true rfl, Nat.le_of_ble_eq_true rfl⟩ ⟨Nat.zero_le _, Nat.zero_le _⟩ hl.1 (Nat.le_of_ble_eq_true rfl) dX10_richest_13 rfl (fun H locs hw => ?_)
        refine lv_if_le (tgt := 21) hx hb dX10_richest_16 (by decide) (fun c16 => ?_) (fun c16 => ?_)
        · replace hf := ip c16 hf
          exact b21 _ _ _ x1 x2 hw (lv_sub hl [0, 1, 2] rfl) hf
        · replace hf := iq c16 hf
          refine lv_iload_n hx hb dX10_richest_19 rfl (lv_at hl 2 rfl) ?_
          refine lv_istore_n (lv' := [(1, .int x2), (0, .ref (h 0)), (2, .int x2)]) hx hb dX10_richest_20 rfl hl (by decide) rfl (fun ls hl => ?_)
          exact b21 _ _ _ x2 x2 hw (lv_sub hl [1, 0, 2] rfl) hf
  refine lv_iconst (v := 0) hx hb dX10_richest_0 (by decide) ?_
  refine lv_istore_n (lv' := [(1, .int 0), (0, .ref (h 0))]) hx hb dX10_richest_1 rfl hl (by decide) rfl (fun ls hl => ?_)
  refine lv_iconst (v := 1) hx hb dX10_richest_2 (by decide) ?_
  refine lv_istore_n (lv' := [(2, .int 1), (1, .int 0), (0, .ref (h 0))]) hx hb dX10_richest_3 rfl hl (by decide) rfl (fun ls hl => ?_)
  exact b4 xfuel _ _ _ 0 1 hw (lv_sub hl [2, 1, 0] rfl) hf
theorem k_X10_codeOfDigit : xKS yX10_codeOfDigit cX10_codeOfDigit 1 (some .int) 1 := ⟨qw394, qw13, qw395, by decide +kernel, by decide +kernel, by decide +kernel⟩
set_option maxHeartbeats 4000000 in
set_option maxRecDepth 100000 in
theorem met_X10_codeOfDigit (l : Launch) (g : xG) (a0 : Int32) (out : Int32) (hf : f_X10_codeOfDigit a0 = some out) : xM l yX10_codeOfDigit (xC yX10_codeOfDigit cX10_codeOfDigit 1 (some .int)) { frames := 0, cells := 0, slots := 0, locals := 0 } g ([] : va_W) [.int a0] (some (.int out)) ([] : va_W) := by
  refine xof (by decide) (Nat.le_of_ble_eq_true rfl) ⟨rfl, rfl⟩ ?_
  intro p e s m below meth c A ls E hr hlocks hw hl hpost hAe
  have hx := E.1.1
  have hb := E.1.2.1
  have hown := E.1.2.2.2.1
  have hts := E.1.2.2.2.2
  generalize hZ : (MQ below (xPost g ([] : va_W) ([] : va_W) s.heap.size (some (.int out))) [.int a0].toArray s 0 0 A) = ZZ
  have hret : ∀ (pc : Nat) (H : Heap) (locs : List Loc) (ls : Array Slot) (v : Int32), v = out → decode cX10_codeOfDigit pc = .ok (.ireturn, 1) → xW g A s.heap ([] : va_W) H locs → W p l e { frames := 0, cells := 0, slots := 0, locals := 0 } s m [.int a0].toArray below meth c H locs 0 0 ZZ (F0 m pc ls [.int v]) := by
    intro pc H locs ls v he hd hw
    subst he
    rw [← hZ]
    exact W.iret hx hb hr (hpost H locs hw).1 (hpost H locs hw).2 hd hlocks
  clear hpost
  refine lv_iload_n hx hb dX10_codeOfDigit_0 rfl (lv_at hl 0 rfl) ?_
  refine lv_bipush (v := 10) hx hb dX10_codeOfDigit_1 (by decide) ?_
  refine lv_icmp_ge (tgt := 13) hx hb dX10_codeOfDigit_3 (by decide) (fun c3 => ?_) (fun c3 => ?_)
  · replace hf := ip c3 hf
    refine lv_bipush (v := 97) hx hb dX10_codeOfDigit_13 (by decide) ?_
    refine lv_iload_n hx hb dX10_codeOfDigit_15 rfl (lv_at hl 0 rfl) ?_
    refine lv_iadd hx hb dX10_codeOfDigit_16 ?_
    refine lv_bipush (v := 10) hx hb dX10_codeOfDigit_17 (by decide) ?_
    refine lv_isub hx hb dX10_codeOfDigit_19 ?_
    exact hret _ _ _ _ _ (Option.some.inj hf) dX10_codeOfDigit_20 hw
  · replace hf := iq c3 hf
    refine lv_bipush (v := 48) hx hb dX10_codeOfDigit_6 (by decide) ?_
    refine lv_iload_n hx hb dX10_codeOfDigit_8 rfl (lv_at hl 0 rfl) ?_
    refine lv_iadd hx hb dX10_codeOfDigit_9 ?_
    refine lv_goto (tgt := 20) hx hb dX10_codeOfDigit_10 (by decide) ?_
    exact hret _ _ _ _ _ (Option.some.inj hf) dX10_codeOfDigit_20 hw
theorem k_X10_codeBehind : xKV yX10_codeBehind cX10_codeBehind 8 (some .int) 2 := ⟨qw398, qw1, qw13, qw399, by decide +kernel, by decide +kernel, by decide +kernel⟩
set_option maxHeartbeats 4000000 in
set_option maxRecDepth 100000 in
theorem met_X10_codeBehind (l : Launch) (g : xG) (h : Nat → Nat) (now : SC) (snap : SC) (has : Int32) (hist : HC) (ent : EC) (res : RC) (num : NC) (col : CC) (a1 : Int32) (a2 : Int32) (out : Int32) (hf : f_X10_codeBehind now a1 a2 = some out) : xM l yX10_codeBehind (xC yX10_codeBehind cX10_codeBehind 8 (some .int)) { frames := 3, cells := 0, slots := 0, locals := 79 } g (wC g h now snap has hist ent res num col) [.ref (h 0), .int a1, .int a2] (some (.int out)) (wC g h now snap has hist ent res num col) := by
  refine xof (by decide) (Nat.le_of_ble_eq_true rfl) ⟨rfl, rfl⟩ ?_
  intro p e s m below meth c A ls E hr hlocks hw hl hpost hAe
  have hx := E.1.1
  have hb := E.1.2.1
  have hown := E.1.2.2.2.1
  have hts := E.1.2.2.2.2
  generalize hZ : (MQ below (xPost g (wC g h now snap has hist ent res num col) (wC g h now snap has hist ent res num col) s.heap.size (some (.int out))) [.ref (h 0), .int a1, .int a2].toArray s 0 0 A) = ZZ
  have hret : ∀ (pc : Nat) (H : Heap) (locs : List Loc) (ls : Array Slot) (v : Int32), v = out → decode cX10_codeBehind pc = .ok (.ireturn, 1) → xW g A s.heap (wC g h now snap has hist ent res num col) H locs → W p l e { frames := 3, cells := 0, slots := 0, locals := 79 } s m [.ref (h 0), .int a1, .int a2].toArray below meth c H locs 0 0 ZZ (F0 m pc ls [.int v]) := by
    intro pc H locs ls v he hd hw
    subst he
    rw [← hZ]
    exact W.iret hx hb hr (hpost H locs hw).1 (hpost H locs hw).2 hd hlocks
  clear hpost
  refine lv_aload_n hx hb dX10_codeBehind_0 rfl (lv_at hl 0 rfl) ?_
  refine xget (v := .ref (h 1)) E hw 0 rfl rfl 0 (by decide) inw10 qw186 rfl rfl dX10_codeBehind_1 ?_
  refine lv_iload_n hx hb dX10_codeBehind_4 rfl (lv_at hl 1 rfl) ?_
  obtain ⟨v5, hv5, hf⟩ := ob_e hf
  refine xcallV (ws' := (wC g h now snap has hist ent res num col)) (st1 := [.int v5]) (n := 34) E hw [.int a1] [1, 2, 3] (met_X7_denominatorOf l g h 1 now a1 v5 hv5) rfl (by decide) rfl rfl [0, 34, 35, 36, 4, 5, 6, 7, 8, 9, 10, 11, 12, 13, 14, 15, 16, 17, 18, 19, 20, 21, 22, 23, 24, 25, 26, 27, 28, 29, 30, 31, 32, 33] rfl (by decide +kernel) rfl rfl rfl rfl qw340 k_X7_denominatorOf ⟨rfl, rfl, Nat.le_of_ble_eq_true rfl, Nat.le_of_ble_eq_true rfl⟩ ⟨Nat.zero_le _, Nat.zero_le _⟩ hl.1 (Nat.le_of_ble_eq_true rfl) dX10_codeBehind_5 rfl (fun H locs hw => ?_)
  refine lv_istore_n (lv' := [(3, .int v5), (0, .ref (h 0)), (1, .int a1), (2, .int a2)]) hx hb dX10_codeBehind_8 rfl hl (by decide) rfl (fun ls hl => ?_)
  refine lv_aload_n hx hb dX10_codeBehind_9 rfl (lv_at hl 1 rfl) ?_
  refine xget (v := .ref (h 1)) E hw 0 rfl rfl 0 (by decide) inw10 qw186 rfl rfl dX10_codeBehind_10 ?_
  refine lv_iload_n hx hb dX10_codeBehind_13 rfl (lv_at hl 2 rfl) ?_
  obtain ⟨v14, hv14, hf⟩ := ob_e hf
  refine xcallV (ws' := (wC g h now snap has hist ent res num col)) (st1 := [.long v14]) (n := 34) E hw [.int a1] [1, 2, 3] (met_X7_restOf l g h 1 now a1 v14 hv14) rfl (by decide) rfl rfl [0, 34, 35, 36, 4, 5, 6, 7, 8, 9, 10, 11, 12, 13, 14, 15, 16, 17, 18, 19, 20, 21, 22, 23, 24, 25, 26, 27, 28, 29, 30, 31, 32, 33] rfl (by decide +kernel) rfl rfl rfl rfl qw376 k_X7_restOf ⟨rfl, rfl, Nat.le_of_ble_eq_true rfl, Nat.le_of_ble_eq_true rfl⟩ ⟨Nat.zero_le _, Nat.zero_le _⟩ hl.1 (Nat.le_of_ble_eq_true rfl) dX10_codeBehind_14 rfl (fun H locs hw => ?_)
  refine lv_lstore (lv' := [(4, .long v14), (3, .int v5), (0, .ref (h 0)), (1, .int a1), (2, .int a2)]) hx hb dX10_codeBehind_17 hl (by decide) rfl (fun ls hl => ?_)
  refine lv_iload_n hx hb dX10_codeBehind_19 rfl (lv_at hl 1 rfl) ?_
  refine lv_i2l hx hb dX10_codeBehind_20 rfl ?_
  refine lv_aload_n hx hb dX10_codeBehind_21 rfl (lv_at hl 2 rfl) ?_
  refine xget (v := .ref (h 1)) E hw 0 rfl rfl 0 (by decide) inw10 qw186 rfl rfl dX10_codeBehind_22 ?_
  refine xget (v := .int now.1) E hw 1 rfl rfl 0 (by decide) inw7 qw46 rfl rfl dX10_codeBehind_25 ?_
  obtain ⟨v28, hv28, hf⟩ := ob_e hf
  refine xcallS (ws' := (wC g h now snap has hist ent res num col)) (st1 := [.int v28]) (n := 34) E hw [.long v5.toInt64, .int now.1] [] (met_X0_head l g v5.toInt64 now.1 v28 hv28) rfl (by decide) rfl rfl [0, 1, 2, 3, 4, 5, 6, 7, 8, 9, 10, 11, 12, 13, 14, 15, 16, 17, 18, 19, 20, 21, 22, 23, 24, 25, 26, 27, 28, 29, 30, 31, 32, 33] rfl (by decide +kernel) rfl qw366 k_X0_head ⟨rfl, rfl, Nat.le_of_ble_eq_true rfl, Nat.le_of_ble_eq_true rfl⟩ ⟨Nat.zero_le _, Nat.zero_le _⟩ hl.1 (Nat.le_of_ble_eq_true rfl) dX10_codeBehind_28 rfl (fun H locs hw => ?_)
  refine lv_istore (lv' := [(6, .int v28), (4, .long v14), (3, .int v5), (0, .ref (h 0)), (1, .int a1), (2, .int a2)]) hx hb dX10_codeBehind_31 hl (by decide) rfl (fun ls hl => ?_)
  refine lv_iload_n hx hb dX10_codeBehind_33 rfl (lv_at hl 5 rfl) ?_
  refine lv_if_ne (tgt := 40) hx hb dX10_codeBehind_34 (by decide) (fun c34 => ?_) (fun c34 => ?_)
  · replace hf := iq c34 hf
    refine lv_iload_n hx hb dX10_codeBehind_40 rfl (lv_at hl 5 rfl) ?_
    refine lv_iload hx hb dX10_codeBehind_41 (lv_at hl 0 rfl) ?_
    refine lv_icmp_gt (tgt := 67) hx hb dX10_codeBehind_43 (by decide) (fun c43 => ?_) (fun c43 => ?_)
    · replace hf := ip c43 hf
      refine lv_iload_n hx hb dX10_codeBehind_67 rfl (lv_at hl 5 rfl) ?_
      refine lv_iload hx hb dX10_codeBehind_68 (lv_at hl 0 rfl) ?_
      refine lv_iconst (v := 1) hx hb dX10_codeBehind_70 (by decide) ?_
      refine lv_iadd hx hb dX10_codeBehind_71 ?_
      refine lv_icmp_ne (tgt := 78) hx hb dX10_codeBehind_72 (by decide) (fun c72 => ?_) (fun c72 => ?_)
      · replace hf := iq c72 hf
        refine lv_iload_n hx hb dX10_codeBehind_78 rfl (lv_at hl 5 rfl) ?_
        refine lv_iconst (v := 2) hx hb dX10_codeBehind_79 (by decide) ?_
        refine lv_isub hx hb dX10_codeBehind_80 ?_
        refine lv_istore (lv' := [(7, .int (a2 - 2)), (6, .int v28), (4, .long v14), (3, .int v5), (0, .ref (h 0)), (1, .int a1), (2, .int a2)]) hx hb dX10_codeBehind_81 hl (by decide) rfl (fun ls hl => ?_)
        refine lv_iload hx hb dX10_codeBehind_83 (lv_at hl 0 rfl) ?_
        refine lv_iload hx hb dX10_codeBehind_85 (lv_at hl 1 rfl) ?_
        refine lv_lload hx hb dX10_codeBehind_87 (lv_at hl 2 rfl) ?_
        refine lv_iload_n hx hb dX10_codeBehind_89 rfl (lv_at hl 3 rfl) ?_
        refine lv_i2l hx hb dX10_codeBehind_90 rfl ?_
        refine lv_aload_n hx hb dX10_codeBehind_91 rfl (lv_at hl 4 rfl) ?_
        refine xget (v := .ref (h 1)) E hw 0 rfl rfl 0 (by decide) inw10 qw186 rfl rfl dX10_codeBehind_92 ?_
        refine xget (v := .int now.1) E hw 1 rfl rfl 0 (by decide) inw7 qw46 rfl rfl dX10_codeBehind_95 ?_
        refine lv_iload hx hb dX10_codeBehind_98 (lv_at hl 1 rfl) ?_
        obtain ⟨v100, hv100, hf⟩ := ob_e hf
        refine xcallS (ws' := (wC g h now snap has hist ent res num col)) (st1 := [.int v100, .int v28, .int (a2 - 2)]) (n := 34) E hw [.long v14, .long v5.toInt64, .int now.1, .int v28] [] (met_X0_periodByDividing l g v14 v5.toInt64 now.1 v28 v100 hv100) rfl (by decide) rfl rfl [0, 1, 2, 3, 4, 5, 6, 7, 8, 9, 10, 11, 12, 13, 14, 15, 16, 17, 18, 19, 20, 21, 22, 23, 24, 25, 26, 27, 28, 29, 30, 31, 32, 33] rfl (by decide +kernel) rfl qw380 k_X0_periodByDividing ⟨rfl, rfl, Nat.le_of_ble_eq_true rfl, Nat.le_of_ble_eq_true rfl⟩ ⟨Nat.zero_le _, Nat.zero_le _⟩ hl.1 (Nat.le_of_ble_eq_true rfl) dX10_codeBehind_100 rfl (fun H locs hw => ?_)
        refine lv_iadd hx hb dX10_codeBehind_103 ?_
        refine lv_icmp_ge (tgt := 127) hx hb dX10_codeBehind_104 (by decide) (fun c104 => ?_) (fun c104 => ?_)
        · replace hf := ip c104 hf
          refine lv_bipush (v := 41) hx hb dX10_codeBehind_127 (by decide) ?_
          exact hret _ _ _ _ _ (Option.some.inj hf) dX10_codeBehind_129 hw
        · replace hf := iq c104 hf
          refine lv_lload hx hb dX10_codeBehind_107 (lv_at hl 2 rfl) ?_
          refine lv_iload_n hx hb dX10_codeBehind_109 rfl (lv_at hl 3 rfl) ?_
          refine lv_i2l hx hb dX10_codeBehind_110 rfl ?_
          refine lv_aload_n hx hb dX10_codeBehind_111 rfl (lv_at hl 4 rfl) ?_
          refine xget (v := .ref (h 1)) E hw 0 rfl rfl 0 (by decide) inw10 qw186 rfl rfl dX10_codeBehind_112 ?_
          refine xget (v := .int now.1) E hw 1 rfl rfl 0 (by decide) inw7 qw46 rfl rfl dX10_codeBehind_115 ?_
          refine lv_iload hx hb dX10_codeBehind_118 (lv_at hl 0 rfl) ?_
          obtain ⟨v120, hv120, hf⟩ := ob_e hf
          refine xcallS (ws' := (wC g h now snap has hist ent res num col)) (st1 := [.int v120]) (n := 34) E hw [.long v14, .long v5.toInt64, .int now.1, .int (a2 - 2)] [] (met_X0_digit l g v14 v5.toInt64 now.1 (a2 - 2) v120 hv120) rfl (by decide) rfl rfl [0, 1, 2, 3, 4, 5, 6, 7, 8, 9, 10, 11, 12, 13, 14, 15, 16, 17, 18, 19, 20, 21, 22, 23, 24, 25, 26, 27, 28, 29, 30, 31, 32, 33] rfl (by decide +kernel) rfl qw400 k_X0_digit ⟨rfl, rfl, Nat.le_of_ble_eq_true rfl, Nat.le_of_ble_eq_true rfl⟩ ⟨Nat.zero_le _, Nat.zero_le _⟩ hl.1 (Nat.le_of_ble_eq_true rfl) dX10_codeBehind_120 rfl (fun H locs hw => ?_)
          obtain ⟨v123, hv123, hf⟩ := ob_e hf
          refine xcallS (ws' := (wC g h now snap has hist ent res num col)) (st1 := [.int v123]) (n := 34) E hw [.int v120] [] (met_X10_codeOfDigit l g v120 v123 hv123) rfl (by decide) rfl rfl [0, 1, 2, 3, 4, 5, 6, 7, 8, 9, 10, 11, 12, 13, 14, 15, 16, 17, 18, 19, 20, 21, 22, 23, 24, 25, 26, 27, 28, 29, 30, 31, 32, 33] rfl (by decide +kernel) rfl qw393 k_X10_codeOfDigit ⟨rfl, rfl, Nat.le_of_ble_eq_true rfl, Nat.le_of_ble_eq_true rfl⟩ ⟨Nat.zero_le _, Nat.zero_le _⟩ hl.1 (Nat.le_of_ble_eq_true rfl) dX10_codeBehind_123 rfl (fun H locs hw => ?_)
          exact hret _ _ _ _ _ (Option.some.inj hf) dX10_codeBehind_126 hw
      · replace hf := ip c72 hf
        refine lv_bipush (v := 40) hx hb dX10_codeBehind_75 (by decide) ?_
        exact hret _ _ _ _ _ (Option.some.inj hf) dX10_codeBehind_77 hw
    · replace hf := iq c43 hf
      refine lv_lload hx hb dX10_codeBehind_46 (lv_at hl 1 rfl) ?_
      refine lv_iload_n hx hb dX10_codeBehind_48 rfl (lv_at hl 2 rfl) ?_
      refine lv_i2l hx hb dX10_codeBehind_49 rfl ?_
      refine lv_aload_n hx hb dX10_codeBehind_50 rfl (lv_at hl 3 rfl) ?_
      refine xget (v := .ref (h 1)) E hw 0 rfl rfl 0 (by decide) inw10 qw186 rfl rfl dX10_codeBehind_51 ?_
      refine xget (v := .int now.1) E hw 1 rfl rfl 0 (by decide) inw7 qw46 rfl rfl dX10_codeBehind_54 ?_
      refine lv_iload_n hx hb dX10_codeBehind_57 rfl (lv_at hl 5 rfl) ?_
      refine lv_iconst (v := 1) hx hb dX10_codeBehind_58 (by decide) ?_
      refine lv_isub hx hb dX10_codeBehind_59 ?_
      obtain ⟨v60, hv60, hf⟩ := ob_e hf
      refine xcallS (ws' := (wC g h now snap has hist ent res num col)) (st1 := [.int v60]) (n := 34) E hw [.long v14, .long v5.toInt64, .int now.1, .int (a2 - 1)] [] (met_X0_digit l g v14 v5.toInt64 now.1 (a2 - 1) v60 hv60) rfl (by decide) rfl rfl [0, 1, 2, 3, 4, 5, 6, 7, 8, 9, 10, 11, 12, 13, 14, 15, 16, 17, 18, 19, 20, 21, 22, 23, 24, 25, 26, 27, 28, 29, 30, 31, 32, 33] rfl (by decide +kernel) rfl qw400 k_X0_digit ⟨rfl, rfl, Nat.le_of_ble_eq_true rfl, Nat.le_of_ble_eq_true rfl⟩ ⟨Nat.zero_le _, Nat.zero_le _⟩ hl.1 (Nat.le_of_ble_eq_true rfl) dX10_codeBehind_60 rfl (fun H locs hw => ?_)
      obtain ⟨v63, hv63, hf⟩ := ob_e hf
      refine xcallS (ws' := (wC g h now snap has hist ent res num col)) (st1 := [.int v63]) (n := 34) E hw [.int v60] [] (met_X10_codeOfDigit l g v60 v63 hv63) rfl (by decide) rfl rfl [0, 1, 2, 3, 4, 5, 6, 7, 8, 9, 10, 11, 12, 13, 14, 15, 16, 17, 18, 19, 20, 21, 22, 23, 24, 25, 26, 27, 28, 29, 30, 31, 32, 33] rfl (by decide +kernel) rfl qw393 k_X10_codeOfDigit ⟨rfl, rfl, Nat.le_of_ble_eq_true rfl, Nat.le_of_ble_eq_true rfl⟩ ⟨Nat.zero_le _, Nat.zero_le _⟩ hl.1 (Nat.le_of_ble_eq_true rfl) dX10_codeBehind_63 rfl (fun H locs hw => ?_)
      exact hret _ _ _ _ _ (Option.some.inj hf) dX10_codeBehind_66 hw
  · replace hf := ip c34 hf
    refine lv_bipush (v := 46) hx hb dX10_codeBehind_37 (by decide) ?_
    exact hret _ _ _ _ _ (Option.some.inj hf) dX10_codeBehind_39 hw
theorem k_X10_formColumns : xKV yX10_formColumns cX10_formColumns 3 none 2 := ⟨qw641, qw10, qw13, qw642, by decide +kernel, by decide +kernel, by decide +kernel⟩
set_option maxHeartbeats 4000000 in
set_option maxRecDepth 100000 in
theorem met_X10_formColumns (l : Launch) (g : xG) (h : Nat → Nat) (now : SC) (snap : SC) (has : Int32) (hist : HC) (ent : EC) (res : RC) (num : NC) (col : CC) (a1 : Int32) (a2 : Int32) (out : CC) (hf : f_X10_formColumns now col a1 a2 = some out) : xM l yX10_formColumns (xC yX10_formColumns cX10_formColumns 3 none) { frames := 3, cells := 0, slots := 0, locals := 81 } g (wC g h now snap has hist ent res num col) [.ref (h 0), .int a1, .int a2] none (wC g h now snap has hist ent res num out) := by
  refine xof (by decide) (Nat.le_of_ble_eq_true rfl) ⟨rfl, rfl⟩ ?_
  intro p e s m below meth c A ls E hr hlocks hw hl hpost hAe
  have hx := E.1.1
  have hb := E.1.2.1
  have hown := E.1.2.2.2.1
  have hts := E.1.2.2.2.2
  generalize hZ : (MQ below (xPost g (wC g h now snap has hist ent res num col) (wC g h now snap has hist ent res num out) s.heap.size none) [.ref (h 0), .int a1, .int a2].toArray s 0 0 A) = ZZ
  have hret : ∀ (pc : Nat) (H : Heap) (locs : List Loc) (ls : Array Slot) (ccol : CC), ccol = out → decode cX10_formColumns pc = .ok (.return_, 1) → xW g A s.heap (wC g h now snap has hist ent res num ccol) H locs → W p l e { frames := 3, cells := 0, slots := 0, locals := 81 } s m [.ref (h 0), .int a1, .int a2].toArray below meth c H locs 0 0 ZZ (F0 m pc ls []) := by
    intro pc H locs ls ccol he hd hw
    subst he
    rw [← hZ]
    exact W.vret hx hb hr (hpost H locs hw).1 (hpost H locs hw).2 hd hlocks
  clear hpost
  refine lv_aload_n hx hb dX10_formColumns_0 rfl (lv_at hl 0 rfl) ?_
  refine xget (v := .ref (h 32)) E hw 0 rfl rfl 7 (by decide) inw10 qw193 rfl rfl dX10_formColumns_1 ?_
  refine lv_aload_n hx hb dX10_formColumns_4 rfl (lv_at hl 0 rfl) ?_
  refine xget (v := .ref (h 1)) E hw 0 rfl rfl 0 (by decide) inw10 qw186 rfl rfl dX10_formColumns_5 ?_
  refine lv_iload_n hx hb dX10_formColumns_8 rfl (lv_at hl 1 rfl) ?_
  obtain ⟨v9, hv9, hf⟩ := ob_e hf
  refine xcallV (ws' := (wC g h now snap has hist ent res num col)) (st1 := [.int v9, .ref (h 32)]) (n := 34) E hw [.int a1] [1, 2, 3] (met_X7_wholeOf l g h 1 now a1 v9 hv9) rfl (by decide) rfl rfl [0, 34, 35, 36, 4, 5, 6, 7, 8, 9, 10, 11, 12, 13, 14, 15, 16, 17, 18, 19, 20, 21, 22, 23, 24, 25, 26, 27, 28, 29, 30, 31, 32, 33] rfl (by decide +kernel) rfl rfl rfl rfl qw348 k_X7_wholeOf ⟨rfl, rfl, Nat.le_of_ble_eq_true rfl, Nat.le_of_ble_eq_true rfl⟩ ⟨Nat.zero_le _, Nat.zero_le _⟩ hl.1 (Nat.le_of_ble_eq_true rfl) dX10_formColumns_9 rfl (fun H locs hw => ?_)
  refine lv_aload_n hx hb dX10_formColumns_12 rfl (lv_at hl 0 rfl) ?_
  refine xget (v := .ref (h 1)) E hw 0 rfl rfl 0 (by decide) inw10 qw186 rfl rfl dX10_formColumns_13 ?_
  refine lv_iload_n hx hb dX10_formColumns_16 rfl (lv_at hl 2 rfl) ?_
  obtain ⟨v17, hv17, hf⟩ := ob_e hf
  refine xcallV (ws' := (wC g h now snap has hist ent res num col)) (st1 := [.int v17, .int v9, .ref (h 32)]) (n := 34) E hw [.int a2] [1, 2, 3] (met_X7_wholeOf l g h 1 now a2 v17 hv17) rfl (by decide) rfl rfl [0, 34, 35, 36, 4, 5, 6, 7, 8, 9, 10, 11, 12, 13, 14, 15, 16, 17, 18, 19, 20, 21, 22, 23, 24, 25, 26, 27, 28, 29, 30, 31, 32, 33] rfl (by decide +kernel) rfl rfl rfl rfl qw348 k_X7_wholeOf ⟨rfl, rfl, Nat.le_of_ble_eq_true rfl, Nat.le_of_ble_eq_true rfl⟩ ⟨Nat.zero_le _, Nat.zero_le _⟩ hl.1 (Nat.le_of_ble_eq_true rfl) dX10_formColumns_17 rfl (fun H locs hw => ?_)
  refine lv_aload_n hx hb dX10_formColumns_20 rfl (lv_at hl 0 rfl) ?_
  refine xget (v := .ref (h 1)) E hw 0 rfl rfl 0 (by decide) inw10 qw186 rfl rfl dX10_formColumns_21 ?_
  refine xget (v := .int now.1) E hw 1 rfl rfl 0 (by decide) inw7 qw46 rfl rfl dX10_formColumns_24 ?_
  obtain ⟨v27, hv27, hf⟩ := ob_e hf
  refine xcallV (ws' := (wC g h now snap has hist ent res num v27)) (st1 := []) (n := 34) E hw [.int v9, .int v17, .int now.1] [32, 33] (met_X1_form l g h 32 col v9 v17 now.1 v27 hv27) rfl (by decide) rfl rfl [0, 1, 2, 3, 4, 5, 6, 7, 8, 9, 10, 11, 12, 13, 14, 15, 16, 17, 18, 19, 20, 21, 22, 23, 24, 25, 26, 27, 28, 29, 30, 31, 34, 35] rfl (by decide +kernel) rfl rfl rfl rfl qw643 k_X1_form ⟨rfl, rfl, Nat.le_of_ble_eq_true rfl, Nat.le_of_ble_eq_true rfl⟩ ⟨Nat.zero_le _, Nat.zero_le _⟩ hl.1 (Nat.le_of_ble_eq_true rfl) dX10_formColumns_27 rfl (fun H locs hw => ?_)
  exact hret _ _ _ _ _ (Option.some.inj hf) dX10_formColumns_30 hw
