theorem k_X10_whyStopped : xKV yX10_whyStopped cX10_whyStopped 1 (some .int) 0 := ⟨qw433, qw434, qw13, qw435, by decide +kernel, by decide +kernel, by decide +kernel⟩
set_option maxHeartbeats 4000000 in
set_option maxRecDepth 100000 in
theorem met_X10_whyStopped (l : Launch) (g : xG) (h : Nat → Nat) (now : SC) (snap : SC) (has : Int32) (hist : HC) (ent : EC) (res : RC) (num : NC) (col : CC) (out : Int32) (hf : f_X10_whyStopped now = some (Sum.inr out)) : xM l yX10_whyStopped (xC yX10_whyStopped cX10_whyStopped 1 (some .int)) { frames := 2, cells := 0, slots := 0, locals := 51 } g (wC g h now snap has hist ent res num col) [.ref (h 0)] (some (.int out)) (wC g h now snap has hist ent res num col) := by
  refine xof (by decide) (Nat.le_of_ble_eq_true rfl) ⟨rfl, rfl⟩ ?_
  intro p e s m below meth c A ls E hr hlocks hw hl hpost hAe
  have hx := E.1.1
  have hb := E.1.2.1
  have hown := E.1.2.2.2.1
  have hts := E.1.2.2.2.2
  generalize hZ : (MQ below (xPost g (wC g h now snap has hist ent res num col) (wC g h now snap has hist ent res num col) s.heap.size (some (.int out))) [.ref (h 0)].toArray s 0 0 A) = ZZ
  have hret : ∀ (pc : Nat) (H : Heap) (locs : List Loc) (ls : Array Slot) (v : Int32), v = out → decode cX10_whyStopped pc = .ok (.ireturn, 1) → xW g A s.heap (wC g h now snap has hist ent res num col) H locs → W p l e { frames := 2, cells := 0, slots := 0, locals := 51 } s m [.ref (h 0)].toArray below meth c H locs 0 0 ZZ (F0 m pc ls [.int v]) := by
    intro pc H locs ls v he hd hw
    subst he
    rw [← hZ]
    exact W.iret hx hb hr (hpost H locs hw).1 (hpost H locs hw).2 hd hlocks
  clear hpost
  refine lv_aload_n hx hb dX10_whyStopped_0 rfl (lv_at hl 0 rfl) ?_
  obtain ⟨v1, hv1, hf⟩ := ob_e hf
  rcases v1 with t1 | u1
  · exact nlr hf
  · refine xcallV (ws' := (wC g h now snap has hist ent res num col)) (st1 := []) (n := 34) E hw [] [0, 1, 2, 3, 4, 5, 6, 7, 8, 9, 10, 11, 12, 13, 14, 15, 16, 17, 18, 19, 20, 21, 22, 23, 24, 25, 26, 27, 28, 29, 30, 31, 32, 33] (met_X10_requireStop l g h now snap has hist ent res num col u1 hv1) rfl (by decide) rfl rfl [34, 35, 36, 37, 38, 39, 40, 41, 42, 43, 44, 45, 46, 47, 48, 49, 50, 51, 52, 53, 54, 55, 56, 57, 58, 59, 60, 61, 62, 63, 64, 65, 66, 67] rfl (by decide +kernel) rfl rfl rfl rfl qw427 k_X10_requireStop ⟨rfl, rfl, Nat.le_of_ble_eq_true rfl, Nat.le_of_ble_eq_true rfl⟩ ⟨Nat.zero_le _, Nat.zero_le _⟩ hl.1 (Nat.le_of_ble_eq_true rfl) dX10_whyStopped_1 rfl (fun H locs hw => ?_)
    refine lv_aload_n hx hb dX10_whyStopped_4 rfl (lv_at hl 0 rfl) ?_
    refine xget (v := .ref (h 1)) E hw 0 rfl rfl 0 (by decide) inw10 qw186 rfl rfl dX10_whyStopped_5 ?_
    refine xget (v := .int now.2.2.1) E hw 1 rfl rfl 2 (by decide) inw7 qw50 rfl rfl dX10_whyStopped_8 ?_
    exact hret _ _ _ _ _ (jr hf) dX10_whyStopped_11 hw
theorem k_X10_undo : xKV yX10_undo cX10_undo 1 (some .int) 0 := ⟨qw216, qw217, qw13, qw218, by decide +kernel, by decide +kernel, by decide +kernel⟩
set_option maxHeartbeats 4000000 in
set_option maxRecDepth 100000 in
theorem met_X10_undo (l : Launch) (g : xG) (h : Nat → Nat) (now : SC) (snap : SC) (has : Int32) (hist : HC) (ent : EC) (res : RC) (num : NC) (col : CC) (out : Int32 × SC × HC) (hf : f_X10_undo now hist = some (Sum.inr out)) : xM l yX10_undo (xC yX10_undo cX10_undo 1 (some .int)) { frames := 2, cells := 0, slots := 0, locals := 50 } g (wC g h now snap has hist ent res num col) [.ref (h 0)] (some (.int out.1)) (wC g h out.2.1 snap has out.2.2 ent res num col) := by
  refine xof (by decide) (Nat.le_of_ble_eq_true rfl) ⟨rfl, rfl⟩ ?_
  intro p e s m below meth c A ls E hr hlocks hw hl hpost hAe
  have hx := E.1.1
  have hb := E.1.2.1
  have hown := E.1.2.2.2.1
  have hts := E.1.2.2.2.2
  generalize hZ : (MQ below (xPost g (wC g h now snap has hist ent res num col) (wC g h out.2.1 snap has out.2.2 ent res num col) s.heap.size (some (.int out.1))) [.ref (h 0)].toArray s 0 0 A) = ZZ
  have hret : ∀ (pc : Nat) (H : Heap) (locs : List Loc) (ls : Array Slot) (v : Int32) (cnow : SC) (chist : HC), (v, cnow, chist) = out → decode cX10_undo pc = .ok (.ireturn, 1) → xW g A s.heap (wC g h cnow snap has chist ent res num col) H locs → W p l e { frames := 2, cells := 0, slots := 0, locals := 50 } s m [.ref (h 0)].toArray below meth c H locs 0 0 ZZ (F0 m pc ls [.int v]) := by
    intro pc H locs ls v cnow chist he hd hw
    subst he
    rw [← hZ]
    exact W.iret hx hb hr (hpost H locs hw).1 (hpost H locs hw).2 hd hlocks
  clear hpost
  refine lv_aload_n hx hb dX10_undo_0 rfl (lv_at hl 0 rfl) ?_
  refine xget (v := .ref (h 7)) E hw 0 rfl rfl 3 (by decide) inw10 qw189 rfl rfl dX10_undo_1 ?_
  refine xget (v := .int hist.1) E hw 7 rfl rfl 0 (by decide) inw3 qw75 rfl rfl dX10_undo_4 ?_
  refine lv_if_ne (tgt := 20) hx hb dX10_undo_7 (by decide) (fun c7 => ?_) (fun c7 => ?_)
  · replace hf := iq c7 hf
    refine lv_aload_n hx hb dX10_undo_20 rfl (lv_at hl 0 rfl) ?_
    refine xget (v := .ref (h 7)) E hw 0 rfl rfl 3 (by decide) inw10 qw189 rfl rfl dX10_undo_21 ?_
    refine lv_aload_n hx hb dX10_undo_24 rfl (lv_at hl 0 rfl) ?_
    refine xget (v := .ref (h 1)) E hw 0 rfl rfl 0 (by decide) inw10 qw186 rfl rfl dX10_undo_25 ?_
    obtain ⟨v28, hv28, hf⟩ := ob_e hf
    refine xcallV (ws' := (wC g h v28.2 snap has v28.1 ent res num col)) (st1 := []) (n := 34) E hw [.ref (h 1)] [7, 8, 9, 10, 11, 12, 13, 14, 15, 16, 17, 18, 19, 20, 21, 22, 23, 24, 25, 26, 1, 2, 3] (met_X3_pop l g h 7 1 hist now v28 hv28) rfl (by decide) rfl rfl [0, 54, 55, 56, 4, 5, 6, 34, 35, 36, 37, 38, 39, 40, 41, 42, 43, 44, 45, 46, 47, 48, 49, 50, 51, 52, 53, 27, 28, 29, 30, 31, 32, 33] rfl (by decide +kernel) rfl rfl rfl rfl qw287 k_X3_pop ⟨rfl, rfl, Nat.le_of_ble_eq_true rfl, Nat.le_of_ble_eq_true rfl⟩ ⟨Nat.zero_le _, Nat.zero_le _⟩ hl.1 (Nat.le_of_ble_eq_true rfl) dX10_undo_28 rfl (fun H locs hw => ?_)
    refine lv_aload_n hx hb dX10_undo_31 rfl (lv_at hl 0 rfl) ?_
    refine xget (v := .ref (h 7)) E hw 0 rfl rfl 3 (by decide) inw10 qw189 rfl rfl dX10_undo_32 ?_
    refine xget (v := .int v28.1.1) E hw 7 rfl rfl 0 (by decide) inw3 qw75 rfl rfl dX10_undo_35 ?_
    exact hret _ _ _ _ _ _ _ (jr hf) dX10_undo_38 hw
  · replace hf := ip c7 hf
    exact nlr hf
theorem k_X10_numerator : xKV yX10_numerator cX10_numerator 2 (some .int) 1 := ⟨qw307, qw308, qw13, qw309, by decide +kernel, by decide +kernel, by decide +kernel⟩
set_option maxHeartbeats 4000000 in
set_option maxRecDepth 100000 in
theorem met_X10_numerator (l : Launch) (g : xG) (h : Nat → Nat) (now : SC) (snap : SC) (has : Int32) (hist : HC) (ent : EC) (res : RC) (num : NC) (col : CC) (a1 : Int32) (out : Int32) (hf : f_X10_numerator now a1 = some (Sum.inr out)) : xM l yX10_numerator (xC yX10_numerator cX10_numerator 2 (some .int)) { frames := 2, cells := 0, slots := 0, locals := 51 } g (wC g h now snap has hist ent res num col) [.ref (h 0), .int a1] (some (.int out)) (wC g h now snap has hist ent res num col) := by
  refine xof (by decide) (Nat.le_of_ble_eq_true rfl) ⟨rfl, rfl⟩ ?_
  intro p e s m below meth c A ls E hr hlocks hw hl hpost hAe
  have hx := E.1.1
  have hb := E.1.2.1
  have hown := E.1.2.2.2.1
  have hts := E.1.2.2.2.2
  generalize hZ : (MQ below (xPost g (wC g h now snap has hist ent res num col) (wC g h now snap has hist ent res num col) s.heap.size (some (.int out))) [.ref (h 0), .int a1].toArray s 0 0 A) = ZZ
  have hret : ∀ (pc : Nat) (H : Heap) (locs : List Loc) (ls : Array Slot) (v : Int32), v = out → decode cX10_numerator pc = .ok (.ireturn, 1) → xW g A s.heap (wC g h now snap has hist ent res num col) H locs → W p l e { frames := 2, cells := 0, slots := 0, locals := 51 } s m [.ref (h 0), .int a1].toArray below meth c H locs 0 0 ZZ (F0 m pc ls [.int v]) := by
    intro pc H locs ls v he hd hw
    subst he
    rw [← hZ]
    exact W.iret hx hb hr (hpost H locs hw).1 (hpost H locs hw).2 hd hlocks
  clear hpost
  refine lv_iload_n hx hb dX10_numerator_0 rfl (lv_at hl 1 rfl) ?_
  obtain ⟨v1, hv1, hf⟩ := ob_e hf
  rcases v1 with t1 | u1
  · exact nlr hf
  · refine xcallS (ws' := (wC g h now snap has hist ent res num col)) (st1 := []) (n := 34) E hw [.int a1] [] (met_X10_requireAccount l g a1 u1 hv1) rfl (by decide) rfl rfl [0, 1, 2, 3, 4, 5, 6, 7, 8, 9, 10, 11, 12, 13, 14, 15, 16, 17, 18, 19, 20, 21, 22, 23, 24, 25, 26, 27, 28, 29, 30, 31, 32, 33] rfl (by decide +kernel) rfl qw310 k_X10_requireAccount ⟨rfl, rfl, Nat.le_of_ble_eq_true rfl, Nat.le_of_ble_eq_true rfl⟩ ⟨Nat.zero_le _, Nat.zero_le _⟩ hl.1 (Nat.le_of_ble_eq_true rfl) dX10_numerator_1 rfl (fun H locs hw => ?_)
    refine lv_aload_n hx hb dX10_numerator_4 rfl (lv_at hl 0 rfl) ?_
    refine xget (v := .ref (h 1)) E hw 0 rfl rfl 0 (by decide) inw10 qw186 rfl rfl dX10_numerator_5 ?_
    refine lv_iload_n hx hb dX10_numerator_8 rfl (lv_at hl 1 rfl) ?_
    obtain ⟨v9, hv9, hf⟩ := ob_e hf
    refine xcallV (ws' := (wC g h now snap has hist ent res num col)) (st1 := [.int v9]) (n := 34) E hw [.int a1] [1, 2, 3] (met_X7_numeratorOf l g h 1 now a1 v9 hv9) rfl (by decide) rfl rfl [0, 34, 35, 36, 4, 5, 6, 7, 8, 9, 10, 11, 12, 13, 14, 15, 16, 17, 18, 19, 20, 21, 22, 23, 24, 25, 26, 27, 28, 29, 30, 31, 32, 33] rfl (by decide +kernel) rfl rfl rfl rfl qw329 k_X7_numeratorOf ⟨rfl, rfl, Nat.le_of_ble_eq_true rfl, Nat.le_of_ble_eq_true rfl⟩ ⟨Nat.zero_le _, Nat.zero_le _⟩ hl.1 (Nat.le_of_ble_eq_true rfl) dX10_numerator_9 rfl (fun H locs hw => ?_)
    exact hret _ _ _ _ _ (jr hf) dX10_numerator_12 hw
theorem k_X10_denominator : xKV yX10_denominator cX10_denominator 2 (some .int) 1 := ⟨qw337, qw338, qw13, qw339, by decide +kernel, by decide +kernel, by decide +kernel⟩
set_option maxHeartbeats 4000000 in
set_option maxRecDepth 100000 in
theorem met_X10_denominator (l : Launch) (g : xG) (h : Nat → Nat) (now : SC) (snap : SC) (has : Int32) (hist : HC) (ent : EC) (res : RC) (num : NC) (col : CC) (a1 : Int32) (out : Int32) (hf : f_X10_denominator now a1 = some (Sum.inr out)) : xM l yX10_denominator (xC yX10_denominator cX10_denominator 2 (some .int)) { frames := 2, cells := 0, slots := 0, locals := 51 } g (wC g h now snap has hist ent res num col) [.ref (h 0), .int a1] (some (.int out)) (wC g h now snap has hist ent res num col) := by
  refine xof (by decide) (Nat.le_of_ble_eq_true rfl) ⟨rfl, rfl⟩ ?_
  intro p e s m below meth c A ls E hr hlocks hw hl hpost hAe
  have hx := E.1.1
  have hb := E.1.2.1
  have hown := E.1.2.2.2.1
  have hts := E.1.2.2.2.2
  generalize hZ : (MQ below (xPost g (wC g h now snap has hist ent res num col) (wC g h now snap has hist ent res num col) s.heap.size (some (.int out))) [.ref (h 0), .int a1].toArray s 0 0 A) = ZZ
  have hret : ∀ (pc : Nat) (H : Heap) (locs : List Loc) (ls : Array Slot) (v : Int32), v = out → decode cX10_denominator pc = .ok (.ireturn, 1) → xW g A s.heap (wC g h now snap has hist ent res num col) H locs → W p l e { frames := 2, cells := 0, slots := 0, locals := 51 } s m [.ref (h 0), .int a1].toArray below meth c H locs 0 0 ZZ (F0 m pc ls [.int v]) := by
    intro pc H locs ls v he hd hw
    subst he
    rw [← hZ]
    exact W.iret hx hb hr (hpost H locs hw).1 (hpost H locs hw).2 hd hlocks
  clear hpost
  refine lv_iload_n hx hb dX10_denominator_0 rfl (lv_at hl 1 rfl) ?_
  obtain ⟨v1, hv1, hf⟩ := ob_e hf
  rcases v1 with t1 | u1
  · exact nlr hf
  · refine xcallS (ws' := (wC g h now snap has hist ent res num col)) (st1 := []) (n := 34) E hw [.int a1] [] (met_X10_requireAccount l g a1 u1 hv1) rfl (by decide) rfl rfl [0, 1, 2, 3, 4, 5, 6, 7, 8, 9, 10, 11, 12, 13, 14, 15, 16, 17, 18, 19, 20, 21, 22, 23, 24, 25, 26, 27, 28, 29, 30, 31, 32, 33] rfl (by decide +kernel) rfl qw310 k_X10_requireAccount ⟨rfl, rfl, Nat.le_of_ble_eq_true rfl, Nat.le_of_ble_eq_true rfl⟩ ⟨Nat.zero_le _, Nat.zero_le _⟩ hl.1 (Nat.le_of_ble_eq_true rfl) dX10_denominator_1 rfl (fun H locs hw => ?_)
    refine lv_aload_n hx hb dX10_denominator_4 rfl (lv_at hl 0 rfl) ?_
    refine xget (v := .ref (h 1)) E hw 0 rfl rfl 0 (by decide) inw10 qw186 rfl rfl dX10_denominator_5 ?_
    refine lv_iload_n hx hb dX10_denominator_8 rfl (lv_at hl 1 rfl) ?_
    obtain ⟨v9, hv9, hf⟩ := ob_e hf
    refine xcallV (ws' := (wC g h now snap has hist ent res num col)) (st1 := [.int v9]) (n := 34) E hw [.int a1] [1, 2, 3] (met_X7_denominatorOf l g h 1 now a1 v9 hv9) rfl (by decide) rfl rfl [0, 34, 35, 36, 4, 5, 6, 7, 8, 9, 10, 11, 12, 13, 14, 15, 16, 17, 18, 19, 20, 21, 22, 23, 24, 25, 26, 27, 28, 29, 30, 31, 32, 33] rfl (by decide +kernel) rfl rfl rfl rfl qw340 k_X7_denominatorOf ⟨rfl, rfl, Nat.le_of_ble_eq_true rfl, Nat.le_of_ble_eq_true rfl⟩ ⟨Nat.zero_le _, Nat.zero_le _⟩ hl.1 (Nat.le_of_ble_eq_true rfl) dX10_denominator_9 rfl (fun H locs hw => ?_)
    exact hret _ _ _ _ _ (jr hf) dX10_denominator_12 hw
theorem k_X10_whole : xKV yX10_whole cX10_whole 2 (some .int) 1 := ⟨qw547, qw548, qw13, qw549, by decide +kernel, by decide +kernel, by decide +kernel⟩
set_option maxHeartbeats 4000000 in
set_option maxRecDepth 100000 in
theorem met_X10_whole (l : Launch) (g : xG) (h : Nat → Nat) (now : SC) (snap : SC) (has : Int32) (hist : HC) (ent : EC) (res : RC) (num : NC) (col : CC) (a1 : Int32) (out : Int32) (hf : f_X10_whole now a1 = some (Sum.inr out)) : xM l yX10_whole (xC yX10_whole cX10_whole 2 (some .int)) { frames := 2, cells := 0, slots := 0, locals := 51 } g (wC g h now snap has hist ent res num col) [.ref (h 0), .int a1] (some (.int out)) (wC g h now snap has hist ent res num col) := by
  refine xof (by decide) (Nat.le_of_ble_eq_true rfl) ⟨rfl, rfl⟩ ?_
  intro p e s m below meth c A ls E hr hlocks hw hl hpost hAe
  have hx := E.1.1
  have hb := E.1.2.1
  have hown := E.1.2.2.2.1
  have hts := E.1.2.2.2.2
  generalize hZ : (MQ below (xPost g (wC g h now snap has hist ent res num col) (wC g h now snap has hist ent res num col) s.heap.size (some (.int out))) [.ref (h 0), .int a1].toArray s 0 0 A) = ZZ
  have hret : ∀ (pc : Nat) (H : Heap) (locs : List Loc) (ls : Array Slot) (v : Int32), v = out → decode cX10_whole pc = .ok (.ireturn, 1) → xW g A s.heap (wC g h now snap has hist ent res num col) H locs → W p l e { frames := 2, cells := 0, slots := 0, locals := 51 } s m [.ref (h 0), .int a1].toArray below meth c H locs 0 0 ZZ (F0 m pc ls [.int v]) := by
    intro pc H locs ls v he hd hw
    subst he
    rw [← hZ]
    exact W.iret hx hb hr (hpost H locs hw).1 (hpost H locs hw).2 hd hlocks
  clear hpost
  refine lv_iload_n hx hb dX10_whole_0 rfl (lv_at hl 1 rfl) ?_
  obtain ⟨v1, hv1, hf⟩ := ob_e hf
  rcases v1 with t1 | u1
  · exact nlr hf
  · refine xcallS (ws' := (wC g h now snap has hist ent res num col)) (st1 := []) (n := 34) E hw [.int a1] [] (met_X10_requireAccount l g a1 u1 hv1) rfl (by decide) rfl rfl [0, 1, 2, 3, 4, 5, 6, 7, 8, 9, 10, 11, 12, 13, 14, 15, 16, 17, 18, 19, 20, 21, 22, 23, 24, 25, 26, 27, 28, 29, 30, 31, 32, 33] rfl (by decide +kernel) rfl qw310 k_X10_requireAccount ⟨rfl, rfl, Nat.le_of_ble_eq_true rfl, Nat.le_of_ble_eq_true rfl⟩ ⟨Nat.zero_le _, Nat.zero_le _⟩ hl.1 (Nat.le_of_ble_eq_true rfl) dX10_whole_1 rfl (fun H locs hw => ?_)
    refine lv_aload_n hx hb dX10_whole_4 rfl (lv_at hl 0 rfl) ?_
    refine xget (v := .ref (h 1)) E hw 0 rfl rfl 0 (by decide) inw10 qw186 rfl rfl dX10_whole_5 ?_
    refine lv_iload_n hx hb dX10_whole_8 rfl (lv_at hl 1 rfl) ?_
    obtain ⟨v9, hv9, hf⟩ := ob_e hf
    refine xcallV (ws' := (wC g h now snap has hist ent res num col)) (st1 := [.int v9]) (n := 34) E hw [.int a1] [1, 2, 3] (met_X7_wholeOf l g h 1 now a1 v9 hv9) rfl (by decide) rfl rfl [0, 34, 35, 36, 4, 5, 6, 7, 8, 9, 10, 11, 12, 13, 14, 15, 16, 17, 18, 19, 20, 21, 22, 23, 24, 25, 26, 27, 28, 29, 30, 31, 32, 33] rfl (by decide +kernel) rfl rfl rfl rfl qw348 k_X7_wholeOf ⟨rfl, rfl, Nat.le_of_ble_eq_true rfl, Nat.le_of_ble_eq_true rfl⟩ ⟨Nat.zero_le _, Nat.zero_le _⟩ hl.1 (Nat.le_of_ble_eq_true rfl) dX10_whole_9 rfl (fun H locs hw => ?_)
    exact hret _ _ _ _ _ (jr hf) dX10_whole_12 hw
theorem k_X10_compare : xKV yX10_compare cX10_compare 3 (some .int) 2 := ⟨qw668, qw669, qw13, qw670, by decide +kernel, by decide +kernel, by decide +kernel⟩
set_option maxHeartbeats 4000000 in
set_option maxRecDepth 100000 in
theorem met_X10_compare (l : Launch) (g : xG) (h : Nat → Nat) (now : SC) (snap : SC) (has : Int32) (hist : HC) (ent : EC) (res : RC) (num : NC) (col : CC) (a1 : Int32) (a2 : Int32) (out : Int32) (hf : f_X10_compare now a1 a2 = some (Sum.inr out)) : xM l yX10_compare (xC yX10_compare cX10_compare 3 (some .int)) { frames := 3, cells := 0, slots := 0, locals := 72 } g (wC g h now snap has hist ent res num col) [.ref (h 0), .int a1, .int a2] (some (.int out)) (wC g h now snap has hist ent res num col) := by
  refine xof (by decide) (Nat.le_of_ble_eq_true rfl) ⟨rfl, rfl⟩ ?_
  intro p e s m below meth c A ls E hr hlocks hw hl hpost hAe
  have hx := E.1.1
  have hb := E.1.2.1
  have hown := E.1.2.2.2.1
  have hts := E.1.2.2.2.2
  generalize hZ : (MQ below (xPost g (wC g h now snap has hist ent res num col) (wC g h now snap has hist ent res num col) s.heap.size (some (.int out))) [.ref (h 0), .int a1, .int a2].toArray s 0 0 A) = ZZ
  have hret : ∀ (pc : Nat) (H : Heap) (locs : List Loc) (ls : Array Slot) (v : Int32), v = out → decode cX10_compare pc = .ok (.ireturn, 1) → xW g A s.heap (wC g h now snap has hist ent res num col) H locs → W p l e { frames := 3, cells := 0, slots := 0, locals := 72 } s m [.ref (h 0), .int a1, .int a2].toArray below meth c H locs 0 0 ZZ (F0 m pc ls [.int v]) := by
    intro pc H locs ls v he hd hw
    subst he
    rw [← hZ]
    exact W.iret hx hb hr (hpost H locs hw).1 (hpost H locs hw).2 hd hlocks
  clear hpost
  refine lv_iload_n hx hb dX10_compare_0 rfl (lv_at hl 1 rfl) ?_
  refine lv_iload_n hx hb dX10_compare_1 rfl (lv_at hl 2 rfl) ?_
  obtain ⟨v2, hv2, hf⟩ := ob_e hf
  rcases v2 with t2 | u2
  · exact nlr hf
  · refine xcallS (ws' := (wC g h now snap has hist ent res num col)) (st1 := []) (n := 34) E hw [.int a1, .int a2] [] (met_X10_requireAccounts l g a1 a2 u2 hv2) rfl (by decide) rfl rfl [0, 1, 2, 3, 4, 5, 6, 7, 8, 9, 10, 11, 12, 13, 14, 15, 16, 17, 18, 19, 20, 21, 22, 23, 24, 25, 26, 27, 28, 29, 30, 31, 32, 33] rfl (by decide +kernel) rfl qw498 k_X10_requireAccounts ⟨rfl, rfl, Nat.le_of_ble_eq_true rfl, Nat.le_of_ble_eq_true rfl⟩ ⟨Nat.zero_le _, Nat.zero_le _⟩ hl.1 (Nat.le_of_ble_eq_true rfl) dX10_compare_2 rfl (fun H locs hw => ?_)
    refine lv_aload_n hx hb dX10_compare_5 rfl (lv_at hl 0 rfl) ?_
    refine lv_iload_n hx hb dX10_compare_6 rfl (lv_at hl 1 rfl) ?_
    refine lv_iload_n hx hb dX10_compare_7 rfl (lv_at hl 2 rfl) ?_
    obtain ⟨v8, hv8, hf⟩ := ob_e hf
    refine xcallV (ws' := (wC g h now snap has hist ent res num col)) (st1 := [.int v8]) (n := 34) E hw [.int a1, .int a2] [0, 1, 2, 3, 4, 5, 6, 7, 8, 9, 10, 11, 12, 13, 14, 15, 16, 17, 18, 19, 20, 21, 22, 23, 24, 25, 26, 27, 28, 29, 30, 31, 32, 33] (met_X10_order l g h now snap has hist ent res num col a1 a2 v8 hv8) rfl (by decide) rfl rfl [34, 35, 36, 37, 38, 39, 40, 41, 42, 43, 44, 45, 46, 47, 48, 49, 50, 51, 52, 53, 54, 55, 56, 57, 58, 59, 60, 61, 62, 63, 64, 65, 66, 67] rfl (by decide +kernel) rfl rfl rfl rfl qw671 k_X10_order ⟨rfl, rfl, Nat.le_of_ble_eq_true rfl, Nat.le_of_ble_eq_true rfl⟩ ⟨Nat.zero_le _, Nat.zero_le _⟩ hl.1 (Nat.le_of_ble_eq_true rfl) dX10_compare_8 rfl (fun H locs hw => ?_)
    exact hret _ _ _ _ _ (jr hf) dX10_compare_11 hw
theorem k_X10_wholeDigits : xKV yX10_wholeDigits cX10_wholeDigits 2 (some .int) 1 := ⟨qw345, qw346, qw13, qw347, by decide +kernel, by decide +kernel, by decide +kernel⟩
set_option maxHeartbeats 4000000 in
set_option maxRecDepth 100000 in
theorem met_X10_wholeDigits (l : Launch) (g : xG) (h : Nat → Nat) (now : SC) (snap : SC) (has : Int32) (hist : HC) (ent : EC) (res : RC) (num : NC) (col : CC) (a1 : Int32) (out : Int32) (hf : f_X10_wholeDigits now a1 = some (Sum.inr out)) : xM l yX10_wholeDigits (xC yX10_wholeDigits cX10_wholeDigits 2 (some .int)) { frames := 2, cells := 0, slots := 0, locals := 51 } g (wC g h now snap has hist ent res num col) [.ref (h 0), .int a1] (some (.int out)) (wC g h now snap has hist ent res num col) := by
  refine xof (by decide) (Nat.le_of_ble_eq_true rfl) ⟨rfl, rfl⟩ ?_
  intro p e s m below meth c A ls E hr hlocks hw hl hpost hAe
  have hx := E.1.1
  have hb := E.1.2.1
  have hown := E.1.2.2.2.1
  have hts := E.1.2.2.2.2
  generalize hZ : (MQ below (xPost g (wC g h now snap has hist ent res num col) (wC g h now snap has hist ent res num col) s.heap.size (some (.int out))) [.ref (h 0), .int a1].toArray s 0 0 A) = ZZ
  have hret : ∀ (pc : Nat) (H : Heap) (locs : List Loc) (ls : Array Slot) (v : Int32), v = out → decode cX10_wholeDigits pc = .ok (.ireturn, 1) → xW g A s.heap (wC g h now snap has hist ent res num col) H locs → W p l e { frames := 2, cells := 0, slots := 0, locals := 51 } s m [.ref (h 0), .int a1].toArray below meth c H locs 0 0 ZZ (F0 m pc ls [.int v]) := by
    intro pc H locs ls v he hd hw
    subst he
    rw [← hZ]
    exact W.iret hx hb hr (hpost H locs hw).1 (hpost H locs hw).2 hd hlocks
  clear hpost
  refine lv_iload_n hx hb dX10_wholeDigits_0 rfl (lv_at hl 1 rfl) ?_
  obtain ⟨v1, hv1, hf⟩ := ob_e hf
  rcases v1 with t1 | u1
  · exact nlr hf
  · refine xcallS (ws' := (wC g h now snap has hist ent res num col)) (st1 := []) (n := 34) E hw [.int a1] [] (met_X10_requireAccount l g a1 u1 hv1) rfl (by decide) rfl rfl [0, 1, 2, 3, 4, 5, 6, 7, 8, 9, 10, 11, 12, 13, 14, 15, 16, 17, 18, 19, 20, 21, 22, 23, 24, 25, 26, 27, 28, 29, 30, 31, 32, 33] rfl (by decide +kernel) rfl qw310 k_X10_requireAccount ⟨rfl, rfl, Nat.le_of_ble_eq_true rfl, Nat.le_of_ble_eq_true rfl⟩ ⟨Nat.zero_le _, Nat.zero_le _⟩ hl.1 (Nat.le_of_ble_eq_true rfl) dX10_wholeDigits_1 rfl (fun H locs hw => ?_)
    refine lv_aload_n hx hb dX10_wholeDigits_4 rfl (lv_at hl 0 rfl) ?_
    refine xget (v := .ref (h 1)) E hw 0 rfl rfl 0 (by decide) inw10 qw186 rfl rfl dX10_wholeDigits_5 ?_
    refine lv_iload_n hx hb dX10_wholeDigits_8 rfl (lv_at hl 1 rfl) ?_
    obtain ⟨v9, hv9, hf⟩ := ob_e hf
    refine xcallV (ws' := (wC g h now snap has hist ent res num col)) (st1 := [.int v9]) (n := 34) E hw [.int a1] [1, 2, 3] (met_X7_wholeOf l g h 1 now a1 v9 hv9) rfl (by decide) rfl rfl [0, 34, 35, 36, 4, 5, 6, 7, 8, 9, 10, 11, 12, 13, 14, 15, 16, 17, 18, 19, 20, 21, 22, 23, 24, 25, 26, 27, 28, 29, 30, 31, 32, 33] rfl (by decide +kernel) rfl rfl rfl rfl qw348 k_X7_wholeOf ⟨rfl, rfl, Nat.le_of_ble_eq_true rfl, Nat.le_of_ble_eq_true rfl⟩ ⟨Nat.zero_le _, Nat.zero_le _⟩ hl.1 (Nat.le_of_ble_eq_true rfl) dX10_wholeDigits_9 rfl (fun H locs hw => ?_)
    refine lv_aload_n hx hb dX10_wholeDigits_12 rfl (lv_at hl 0 rfl) ?_
    refine xget (v := .ref (h 1)) E hw 0 rfl rfl 0 (by decide) inw10 qw186 rfl rfl dX10_wholeDigits_13 ?_
    refine xget (v := .int now.1) E hw 1 rfl rfl 0 (by decide) inw7 qw46 rfl rfl dX10_wholeDigits_16 ?_
    obtain ⟨v19, hv19, hf⟩ := ob_e hf
    refine xcallS (ws' := (wC g h now snap has hist ent res num col)) (st1 := [.int v19]) (n := 34) E hw [.int v9, .int now.1] [] (met_X9_count l g v9 now.1 v19 hv19) rfl (by decide) rfl rfl [0, 1, 2, 3, 4, 5, 6, 7, 8, 9, 10, 11, 12, 13, 14, 15, 16, 17, 18, 19, 20, 21, 22, 23, 24, 25, 26, 27, 28, 29, 30, 31, 32, 33] rfl (by decide +kernel) rfl qw352 k_X9_count ⟨rfl, rfl, Nat.le_of_ble_eq_true rfl, Nat.le_of_ble_eq_true rfl⟩ ⟨Nat.zero_le _, Nat.zero_le _⟩ hl.1 (Nat.le_of_ble_eq_true rfl) dX10_wholeDigits_19 rfl (fun H locs hw => ?_)
    exact hret _ _ _ _ _ (jr hf) dX10_wholeDigits_22 hw
theorem k_X10_requireColumn : xKV yX10_requireColumn cX10_requireColumn 3 none 2 := ⟨qw571, qw9, qw13, qw572, by decide +kernel, by decide +kernel, by decide +kernel⟩
set_option maxHeartbeats 4000000 in
set_option maxRecDepth 100000 in
theorem met_X10_requireColumn (l : Launch) (g : xG) (h : Nat → Nat) (now : SC) (snap : SC) (has : Int32) (hist : HC) (ent : EC) (res : RC) (num : NC) (col : CC) (a1 : Int32) (a2 : Int32) (out : Unit) (hf : f_X10_requireColumn now a1 a2 = some (Sum.inr out)) : xM l yX10_requireColumn (xC yX10_requireColumn cX10_requireColumn 3 none) { frames := 3, cells := 0, slots := 0, locals := 72 } g (wC g h now snap has hist ent res num col) [.ref (h 0), .int a1, .int a2] none (wC g h now snap has hist ent res num col) := by
  refine xof (by decide) (Nat.le_of_ble_eq_true rfl) ⟨rfl, rfl⟩ ?_
  intro p e s m below meth c A ls E hr hlocks hw hl hpost hAe
  have hx := E.1.1
  have hb := E.1.2.1
  have hown := E.1.2.2.2.1
  have hts := E.1.2.2.2.2
  generalize hZ : (MQ below (xPost g (wC g h now snap has hist ent res num col) (wC g h now snap has hist ent res num col) s.heap.size none) [.ref (h 0), .int a1, .int a2].toArray s 0 0 A) = ZZ
  have hret : ∀ (pc : Nat) (H : Heap) (locs : List Loc) (ls : Array Slot), () = out → decode cX10_requireColumn pc = .ok (.return_, 1) → xW g A s.heap (wC g h now snap has hist ent res num col) H locs → W p l e { frames := 3, cells := 0, slots := 0, locals := 72 } s m [.ref (h 0), .int a1, .int a2].toArray below meth c H locs 0 0 ZZ (F0 m pc ls []) := by
    intro pc H locs ls he hd hw
    subst he
    rw [← hZ]
    exact W.vret hx hb hr (hpost H locs hw).1 (hpost H locs hw).2 hd hlocks
  clear hpost
  have b13 : ∀ (H : Heap) (locs : List Loc) (ls : Array Slot), xW g A s.heap (wC g h now snap has hist ent res num col) H locs → lv_has ls 3 [] → f_X10_requireColumn_b13 now = some (Sum.inr out) → W p l e { frames := 3, cells := 0, slots := 0, locals := 72 } s m [.ref (h 0), .int a1, .int a2].toArray below meth c H locs 0 0 ZZ (F0 m 13 ls []) := by
    intro H locs ls hw hl hf
    exact nlr hf
  refine lv_iload_n hx hb dX10_requireColumn_0 rfl (lv_at hl 2 rfl) ?_
  refine lv_if_lt (tgt := 13) hx hb dX10_requireColumn_1 (by decide) (fun c1 => ?_) (fun c1 => ?_)
  · replace hf := ip c1 hf
    exact b13 _ _ _  hw (lv_sub hl [] rfl) hf
  · replace hf := iq c1 hf
    refine lv_iload_n hx hb dX10_requireColumn_4 rfl (lv_at hl 2 rfl) ?_
    refine lv_aload_n hx hb dX10_requireColumn_5 rfl (lv_at hl 0 rfl) ?_
    refine lv_iload_n hx hb dX10_requireColumn_6 rfl (lv_at hl 1 rfl) ?_
    obtain ⟨v7, hv7, hf⟩ := ob_e hf
    rcases v7 with t7 | u7
    · exact nlr hf
    · refine xcallV (ws' := (wC g h now snap has hist ent res num col)) (st1 := [.int u7, .int a2]) (n := 34) E hw [.int a1] [0, 1, 2, 3, 4, 5, 6, 7, 8, 9, 10, 11, 12, 13, 14, 15, 16, 17, 18, 19, 20, 21, 22, 23, 24, 25, 26, 27, 28, 29, 30, 31, 32, 33] (met_X10_wholeDigits l g h now snap has hist ent res num col a1 u7 hv7) rfl (by decide) rfl rfl [34, 35, 36, 37, 38, 39, 40, 41, 42, 43, 44, 45, 46, 47, 48, 49, 50, 51, 52, 53, 54, 55, 56, 57, 58, 59, 60, 61, 62, 63, 64, 65, 66, 67] rfl (by decide +kernel) rfl rfl rfl rfl qw573 k_X10_wholeDigits ⟨rfl, rfl, Nat.le_of_ble_eq_true rfl, Nat.le_of_ble_eq_true rfl⟩ ⟨Nat.zero_le _, Nat.zero_le _⟩ hl.1 (Nat.le_of_ble_eq_true rfl) dX10_requireColumn_7 rfl (fun H locs hw => ?_)
      refine lv_icmp_lt (tgt := 24) hx hb dX10_requireColumn_10 (by decide) (fun c10 => ?_) (fun c10 => ?_)
      · replace hf := ip c10 hf
        exact hret _ _ _ _ (jr hf) dX10_requireColumn_24 hw
      · replace hf := iq c10 hf
        exact b13 _ _ _  hw (lv_sub hl [] rfl) hf
theorem k_X10_wholeDigit : xKV yX10_wholeDigit cX10_wholeDigit 3 (some .int) 2 := ⟨qw566, qw567, qw13, qw568, by decide +kernel, by decide +kernel, by decide +kernel⟩
set_option maxHeartbeats 4000000 in
set_option maxRecDepth 100000 in
theorem met_X10_wholeDigit (l : Launch) (g : xG) (h : Nat → Nat) (now : SC) (snap : SC) (has : Int32) (hist : HC) (ent : EC) (res : RC) (num : NC) (col : CC) (a1 : Int32) (a2 : Int32) (out : Int32) (hf : f_X10_wholeDigit now a1 a2 = some (Sum.inr out)) : xM l yX10_wholeDigit (xC yX10_wholeDigit cX10_wholeDigit 3 (some .int)) { frames := 4, cells := 0, slots := 0, locals := 94 } g (wC g h now snap has hist ent res num col) [.ref (h 0), .int a1, .int a2] (some (.int out)) (wC g h now snap has hist ent res num col) := by
  refine xof (by decide) (Nat.le_of_ble_eq_true rfl) ⟨rfl, rfl⟩ ?_
  intro p e s m below meth c A ls E hr hlocks hw hl hpost hAe
  have hx := E.1.1
  have hb := E.1.2.1
  have hown := E.1.2.2.2.1
  have hts := E.1.2.2.2.2
  generalize hZ : (MQ below (xPost g (wC g h now snap has hist ent res num col) (wC g h now snap has hist ent res num col) s.heap.size (some (.int out))) [.ref (h 0), .int a1, .int a2].toArray s 0 0 A) = ZZ
  have hret : ∀ (pc : Nat) (H : Heap) (locs : List Loc) (ls : Array Slot) (v : Int32), v = out → decode cX10_wholeDigit pc = .ok (.ireturn, 1) → xW g A s.heap (wC g h now snap has hist ent res num col) H locs → W p l e { frames := 4, cells := 0, slots := 0, locals := 94 } s m [.ref (h 0), .int a1, .int a2].toArray below meth c H locs 0 0 ZZ (F0 m pc ls [.int v]) := by
    intro pc H locs ls v he hd hw
    subst he
    rw [← hZ]
    exact W.iret hx hb hr (hpost H locs hw).1 (hpost H locs hw).2 hd hlocks
  clear hpost
  refine lv_aload_n hx hb dX10_wholeDigit_0 rfl (lv_at hl 0 rfl) ?_
  refine lv_iload_n hx hb dX10_wholeDigit_1 rfl (lv_at hl 1 rfl) ?_
  refine lv_iload_n hx hb dX10_wholeDigit_2 rfl (lv_at hl 2 rfl) ?_
  obtain ⟨v3, hv3, hf⟩ := ob_e hf
  rcases v3 with t3 | u3
  · exact nlr hf
  · refine xcallV (ws' := (wC g h now snap has hist ent res num col)) (st1 := []) (n := 34) E hw [.int a1, .int a2] [0, 1, 2, 3, 4, 5, 6, 7, 8, 9, 10, 11, 12, 13, 14, 15, 16, 17, 18, 19, 20, 21, 22, 23, 24, 25, 26, 27, 28, 29, 30, 31, 32, 33] (met_X10_requireColumn l g h now snap has hist ent res num col a1 a2 u3 hv3) rfl (by decide) rfl rfl [34, 35, 36, 37, 38, 39, 40, 41, 42, 43, 44, 45, 46, 47, 48, 49, 50, 51, 52, 53, 54, 55, 56, 57, 58, 59, 60, 61, 62, 63, 64, 65, 66, 67] rfl (by decide +kernel) rfl rfl rfl rfl qw569 k_X10_requireColumn ⟨rfl, rfl, Nat.le_of_ble_eq_true rfl, Nat.le_of_ble_eq_true rfl⟩ ⟨Nat.zero_le _, Nat.zero_le _⟩ hl.1 (Nat.le_of_ble_eq_true rfl) dX10_wholeDigit_3 rfl (fun H locs hw => ?_)
    refine lv_aload_n hx hb dX10_wholeDigit_6 rfl (lv_at hl 0 rfl) ?_
    refine xget (v := .ref (h 1)) E hw 0 rfl rfl 0 (by decide) inw10 qw186 rfl rfl dX10_wholeDigit_7 ?_
    refine lv_iload_n hx hb dX10_wholeDigit_10 rfl (lv_at hl 1 rfl) ?_
    obtain ⟨v11, hv11, hf⟩ := ob_e hf
    refine xcallV (ws' := (wC g h now snap has hist ent res num col)) (st1 := [.int v11]) (n := 34) E hw [.int a1] [1, 2, 3] (met_X7_wholeOf l g h 1 now a1 v11 hv11) rfl (by decide) rfl rfl [0, 34, 35, 36, 4, 5, 6, 7, 8, 9, 10, 11, 12, 13, 14, 15, 16, 17, 18, 19, 20, 21, 22, 23, 24, 25, 26, 27, 28, 29, 30, 31, 32, 33] rfl (by decide +kernel) rfl rfl rfl rfl qw348 k_X7_wholeOf ⟨rfl, rfl, Nat.le_of_ble_eq_true rfl, Nat.le_of_ble_eq_true rfl⟩ ⟨Nat.zero_le _, Nat.zero_le _⟩ hl.1 (Nat.le_of_ble_eq_true rfl) dX10_wholeDigit_11 rfl (fun H locs hw => ?_)
    refine lv_aload_n hx hb dX10_wholeDigit_14 rfl (lv_at hl 0 rfl) ?_
    refine xget (v := .ref (h 1)) E hw 0 rfl rfl 0 (by decide) inw10 qw186 rfl rfl dX10_wholeDigit_15 ?_
    refine xget (v := .int now.1) E hw 1 rfl rfl 0 (by decide) inw7 qw46 rfl rfl dX10_wholeDigit_18 ?_
    refine lv_iload_n hx hb dX10_wholeDigit_21 rfl (lv_at hl 2 rfl) ?_
    obtain ⟨v22, hv22, hf⟩ := ob_e hf
    refine xcallS (ws' := (wC g h now snap has hist ent res num col)) (st1 := [.int v22]) (n := 34) E hw [.int v11, .int now.1, .int a2] [] (met_X9_byDividing l g v11 now.1 a2 v22 hv22) rfl (by decide) rfl rfl [0, 1, 2, 3, 4, 5, 6, 7, 8, 9, 10, 11, 12, 13, 14, 15, 16, 17, 18, 19, 20, 21, 22, 23, 24, 25, 26, 27, 28, 29, 30, 31, 32, 33] rfl (by decide +kernel) rfl qw387 k_X9_byDividing ⟨rfl, rfl, Nat.le_of_ble_eq_true rfl, Nat.le_of_ble_eq_true rfl⟩ ⟨Nat.zero_le _, Nat.zero_le _⟩ hl.1 (Nat.le_of_ble_eq_true rfl) dX10_wholeDigit_22 rfl (fun H locs hw => ?_)
    exact hret _ _ _ _ _ (jr hf) dX10_wholeDigit_25 hw
theorem k_X10_wholeDigitByPowers : xKV yX10_wholeDigitByPowers cX10_wholeDigitByPowers 3 (some .int) 2 := ⟨qw576, qw577, qw13, qw578, by decide +kernel, by decide +kernel, by decide +kernel⟩
set_option maxHeartbeats 4000000 in
set_option maxRecDepth 100000 in
theorem met_X10_wholeDigitByPowers (l : Launch) (g : xG) (h : Nat → Nat) (now : SC) (snap : SC) (has : Int32) (hist : HC) (ent : EC) (res : RC) (num : NC) (col : CC) (a1 : Int32) (a2 : Int32) (out : Int32) (hf : f_X10_wholeDigitByPowers now a1 a2 = some (Sum.inr out)) : xM l yX10_wholeDigitByPowers (xC yX10_wholeDigitByPowers cX10_wholeDigitByPowers 3 (some .int)) { frames := 4, cells := 0, slots := 0, locals := 94 } g (wC g h now snap has hist ent res num col) [.ref (h 0), .int a1, .int a2] (some (.int out)) (wC g h now snap has hist ent res num col) := by
  refine xof (by decide) (Nat.le_of_ble_eq_true rfl) ⟨rfl, rfl⟩ ?_
  intro p e s m below meth c A ls E hr hlocks hw hl hpost hAe
  have hx := E.1.1
  have hb := E.1.2.1
  have hown := E.1.2.2.2.1
  have hts := E.1.2.2.2.2
  generalize hZ : (MQ below (xPost g (wC g h now snap has hist ent res num col) (wC g h now snap has hist ent res num col) s.heap.size (some (.int out))) [.ref (h 0), .int a1, .int a2].toArray s 0 0 A) = ZZ
  have hret : ∀ (pc : Nat) (H : Heap) (locs : List Loc) (ls : Array Slot) (v : Int32), v = out → decode cX10_wholeDigitByPowers pc = .ok (.ireturn, 1) → xW g A s.heap (wC g h now snap has hist ent res num col) H locs → W p l e { frames := 4, cells := 0, slots := 0, locals := 94 } s m [.ref (h 0), .int a1, .int a2].toArray below meth c H locs 0 0 ZZ (F0 m pc ls [.int v]) := by
    intro pc H locs ls v he hd hw
    subst he
    rw [← hZ]
    exact W.iret hx hb hr (hpost H locs hw).1 (hpost H locs hw).2 hd hlocks
  clear hpost
  refine lv_aload_n hx hb dX10_wholeDigitByPowers_0 rfl (lv_at hl 0 rfl) ?_
  refine lv_iload_n hx hb dX10_wholeDigitByPowers_1 rfl (lv_at hl 1 rfl) ?_
  refine lv_iload_n hx hb dX10_wholeDigitByPowers_2 rfl (lv_at hl 2 rfl) ?_
  obtain ⟨v3, hv3, hf⟩ := ob_e hf
  rcases v3 with t3 | u3
  · exact nlr hf
  · refine xcallV (ws' := (wC g h now snap has hist ent res num col)) (st1 := []) (n := 34) E hw [.int a1, .int a2] [0, 1, 2, 3, 4, 5, 6, 7, 8, 9, 10, 11, 12, 13, 14, 15, 16, 17, 18, 19, 20, 21, 22, 23, 24, 25, 26, 27, 28, 29, 30, 31, 32, 33] (met_X10_requireColumn l g h now snap has hist ent res num col a1 a2 u3 hv3) rfl (by decide) rfl rfl [34, 35, 36, 37, 38, 39, 40, 41, 42, 43, 44, 45, 46, 47, 48, 49, 50, 51, 52, 53, 54, 55, 56, 57, 58, 59, 60, 61, 62, 63, 64, 65, 66, 67] rfl (by decide +kernel) rfl rfl rfl rfl qw569 k_X10_requireColumn ⟨rfl, rfl, Nat.le_of_ble_eq_true rfl, Nat.le_of_ble_eq_true rfl⟩ ⟨Nat.zero_le _, Nat.zero_le _⟩ hl.1 (Nat.le_of_ble_eq_true rfl) dX10_wholeDigitByPowers_3 rfl (fun H locs hw => ?_)
    refine lv_aload_n hx hb dX10_wholeDigitByPowers_6 rfl (lv_at hl 0 rfl) ?_
    refine xget (v := .ref (h 1)) E hw 0 rfl rfl 0 (by decide) inw10 qw186 rfl rfl dX10_wholeDigitByPowers_7 ?_
    refine lv_iload_n hx hb dX10_wholeDigitByPowers_10 rfl (lv_at hl 1 rfl) ?_
    obtain ⟨v11, hv11, hf⟩ := ob_e hf
    refine xcallV (ws' := (wC g h now snap has hist ent res num col)) (st1 := [.int v11]) (n := 34) E hw [.int a1] [1, 2, 3] (met_X7_wholeOf l g h 1 now a1 v11 hv11) rfl (by decide) rfl rfl [0, 34, 35, 36, 4, 5, 6, 7, 8, 9, 10, 11, 12, 13, 14, 15, 16, 17, 18, 19, 20, 21, 22, 23, 24, 25, 26, 27, 28, 29, 30, 31, 32, 33] rfl (by decide +kernel) rfl rfl rfl rfl qw348 k_X7_wholeOf ⟨rfl, rfl, Nat.le_of_ble_eq_true rfl, Nat.le_of_ble_eq_true rfl⟩ ⟨Nat.zero_le _, Nat.zero_le _⟩ hl.1 (Nat.le_of_ble_eq_true rfl) dX10_wholeDigitByPowers_11 rfl (fun H locs hw => ?_)
    refine lv_aload_n hx hb dX10_wholeDigitByPowers_14 rfl (lv_at hl 0 rfl) ?_
    refine xget (v := .ref (h 1)) E hw 0 rfl rfl 0 (by decide) inw10 qw186 rfl rfl dX10_wholeDigitByPowers_15 ?_
    refine xget (v := .int now.1) E hw 1 rfl rfl 0 (by decide) inw7 qw46 rfl rfl dX10_wholeDigitByPowers_18 ?_
    refine lv_iload_n hx hb dX10_wholeDigitByPowers_21 rfl (lv_at hl 2 rfl) ?_
    obtain ⟨v22, hv22, hf⟩ := ob_e hf
    refine xcallS (ws' := (wC g h now snap has hist ent res num col)) (st1 := [.int v22]) (n := 34) E hw [.int v11, .int now.1, .int a2] [] (met_X9_byPowers l g v11 now.1 a2 v22 hv22) rfl (by decide) rfl rfl [0, 1, 2, 3, 4, 5, 6, 7, 8, 9, 10, 11, 12, 13, 14, 15, 16, 17, 18, 19, 20, 21, 22, 23, 24, 25, 26, 27, 28, 29, 30, 31, 32, 33] rfl (by decide +kernel) rfl qw579 k_X9_byPowers ⟨rfl, rfl, Nat.le_of_ble_eq_true rfl, Nat.le_of_ble_eq_true rfl⟩ ⟨Nat.zero_le _, Nat.zero_le _⟩ hl.1 (Nat.le_of_ble_eq_true rfl) dX10_wholeDigitByPowers_22 rfl (fun H locs hw => ?_)
    exact hret _ _ _ _ _ (jr hf) dX10_wholeDigitByPowers_25 hw
theorem k_X10_digitSum : xKV yX10_digitSum cX10_digitSum 2 (some .int) 1 := ⟨qw599, qw600, qw13, qw601, by decide +kernel, by decide +kernel, by decide +kernel⟩
set_option maxHeartbeats 4000000 in
set_option maxRecDepth 100000 in
theorem met_X10_digitSum (l : Launch) (g : xG) (h : Nat → Nat) (now : SC) (snap : SC) (has : Int32) (hist : HC) (ent : EC) (res : RC) (num : NC) (col : CC) (a1 : Int32) (out : Int32) (hf : f_X10_digitSum now a1 = some (Sum.inr out)) : xM l yX10_digitSum (xC yX10_digitSum cX10_digitSum 2 (some .int)) { frames := 2, cells := 0, slots := 0, locals := 51 } g (wC g h now snap has hist ent res num col) [.ref (h 0), .int a1] (some (.int out)) (wC g h now snap has hist ent res num col) := by
  refine xof (by decide) (Nat.le_of_ble_eq_true rfl) ⟨rfl, rfl⟩ ?_
  intro p e s m below meth c A ls E hr hlocks hw hl hpost hAe
  have hx := E.1.1
  have hb := E.1.2.1
  have hown := E.1.2.2.2.1
  have hts := E.1.2.2.2.2
  generalize hZ : (MQ below (xPost g (wC g h now snap has hist ent res num col) (wC g h now snap has hist ent res num col) s.heap.size (some (.int out))) [.ref (h 0), .int a1].toArray s 0 0 A) = ZZ
  have hret : ∀ (pc : Nat) (H : Heap) (locs : List Loc) (ls : Array Slot) (v : Int32), v = out → decode cX10_digitSum pc = .ok (.ireturn, 1) → xW g A s.heap (wC g h now snap has hist ent res num col) H locs → W p l e { frames := 2, cells := 0, slots := 0, locals := 51 } s m [.ref (h 0), .int a1].toArray below meth c H locs 0 0 ZZ (F0 m pc ls [.int v]) := by
    intro pc H locs ls v he hd hw
    subst he
    rw [← hZ]
    exact W.iret hx hb hr (hpost H locs hw).1 (hpost H locs hw).2 hd hlocks
  clear hpost
  refine lv_iload_n hx hb dX10_digitSum_0 rfl (lv_at hl 1 rfl) ?_
  obtain ⟨v1, hv1, hf⟩ := ob_e hf
  rcases v1 with t1 | u1
  · exact nlr hf
  · refine xcallS (ws' := (wC g h now snap has hist ent res num col)) (st1 := []) (n := 34) E hw [.int a1] [] (met_X10_requireAccount l g a1 u1 hv1) rfl (by decide) rfl rfl [0, 1, 2, 3, 4, 5, 6, 7, 8, 9, 10, 11, 12, 13, 14, 15, 16, 17, 18, 19, 20, 21, 22, 23, 24, 25, 26, 27, 28, 29, 30, 31, 32, 33] rfl (by decide +kernel) rfl qw310 k_X10_requireAccount ⟨rfl, rfl, Nat.le_of_ble_eq_true rfl, Nat.le_of_ble_eq_true rfl⟩ ⟨Nat.zero_le _, Nat.zero_le _⟩ hl.1 (Nat.le_of_ble_eq_true rfl) dX10_digitSum_1 rfl (fun H locs hw => ?_)
    refine lv_aload_n hx hb dX10_digitSum_4 rfl (lv_at hl 0 rfl) ?_
    refine xget (v := .ref (h 1)) E hw 0 rfl rfl 0 (by decide) inw10 qw186 rfl rfl dX10_digitSum_5 ?_
    refine lv_iload_n hx hb dX10_digitSum_8 rfl (lv_at hl 1 rfl) ?_
    obtain ⟨v9, hv9, hf⟩ := ob_e hf
    refine xcallV (ws' := (wC g h now snap has hist ent res num col)) (st1 := [.int v9]) (n := 34) E hw [.int a1] [1, 2, 3] (met_X7_wholeOf l g h 1 now a1 v9 hv9) rfl (by decide) rfl rfl [0, 34, 35, 36, 4, 5, 6, 7, 8, 9, 10, 11, 12, 13, 14, 15, 16, 17, 18, 19, 20, 21, 22, 23, 24, 25, 26, 27, 28, 29, 30, 31, 32, 33] rfl (by decide +kernel) rfl rfl rfl rfl qw348 k_X7_wholeOf ⟨rfl, rfl, Nat.le_of_ble_eq_true rfl, Nat.le_of_ble_eq_true rfl⟩ ⟨Nat.zero_le _, Nat.zero_le _⟩ hl.1 (Nat.le_of_ble_eq_true rfl) dX10_digitSum_9 rfl (fun H locs hw => ?_)
    refine lv_aload_n hx hb dX10_digitSum_12 rfl (lv_at hl 0 rfl) ?_
    refine xget (v := .ref (h 1)) E hw 0 rfl rfl 0 (by decide) inw10 qw186 rfl rfl dX10_digitSum_13 ?_
    refine xget (v := .int now.1) E hw 1 rfl rfl 0 (by decide) inw7 qw46 rfl rfl dX10_digitSum_16 ?_
    obtain ⟨v19, hv19, hf⟩ := ob_e hf
    refine xcallS (ws' := (wC g h now snap has hist ent res num col)) (st1 := [.int v19]) (n := 34) E hw [.int v9, .int now.1] [] (met_X9_sum l g v9 now.1 v19 hv19) rfl (by decide) rfl rfl [0, 1, 2, 3, 4, 5, 6, 7, 8, 9, 10, 11, 12, 13, 14, 15, 16, 17, 18, 19, 20, 21, 22, 23, 24, 25, 26, 27, 28, 29, 30, 31, 32, 33] rfl (by decide +kernel) rfl qw602 k_X9_sum ⟨rfl, rfl, Nat.le_of_ble_eq_true rfl, Nat.le_of_ble_eq_true rfl⟩ ⟨Nat.zero_le _, Nat.zero_le _⟩ hl.1 (Nat.le_of_ble_eq_true rfl) dX10_digitSum_19 rfl (fun H locs hw => ?_)
    exact hret _ _ _ _ _ (jr hf) dX10_digitSum_22 hw
theorem k_X10_leftByDigits : xKV yX10_leftByDigits cX10_leftByDigits 2 (some .int) 1 := ⟨qw606, qw607, qw13, qw608, by decide +kernel, by decide +kernel, by decide +kernel⟩
set_option maxHeartbeats 4000000 in
set_option maxRecDepth 100000 in
theorem met_X10_leftByDigits (l : Launch) (g : xG) (h : Nat → Nat) (now : SC) (snap : SC) (has : Int32) (hist : HC) (ent : EC) (res : RC) (num : NC) (col : CC) (a1 : Int32) (out : Int32) (hf : f_X10_leftByDigits now a1 = some (Sum.inr out)) : xM l yX10_leftByDigits (xC yX10_leftByDigits cX10_leftByDigits 2 (some .int)) { frames := 2, cells := 0, slots := 0, locals := 51 } g (wC g h now snap has hist ent res num col) [.ref (h 0), .int a1] (some (.int out)) (wC g h now snap has hist ent res num col) := by
  refine xof (by decide) (Nat.le_of_ble_eq_true rfl) ⟨rfl, rfl⟩ ?_
  intro p e s m below meth c A ls E hr hlocks hw hl hpost hAe
  have hx := E.1.1
  have hb := E.1.2.1
  have hown := E.1.2.2.2.1
  have hts := E.1.2.2.2.2
  generalize hZ : (MQ below (xPost g (wC g h now snap has hist ent res num col) (wC g h now snap has hist ent res num col) s.heap.size (some (.int out))) [.ref (h 0), .int a1].toArray s 0 0 A) = ZZ
  have hret : ∀ (pc : Nat) (H : Heap) (locs : List Loc) (ls : Array Slot) (v : Int32), v = out → decode cX10_leftByDigits pc = .ok (.ireturn, 1) → xW g A s.heap (wC g h now snap has hist ent res num col) H locs → W p l e { frames := 2, cells := 0, slots := 0, locals := 51 } s m [.ref (h 0), .int a1].toArray below meth c H locs 0 0 ZZ (F0 m pc ls [.int v]) := by
    intro pc H locs ls v he hd hw
    subst he
    rw [← hZ]
    exact W.iret hx hb hr (hpost H locs hw).1 (hpost H locs hw).2 hd hlocks
  clear hpost
  refine lv_iload_n hx hb dX10_leftByDigits_0 rfl (lv_at hl 1 rfl) ?_
  obtain ⟨v1, hv1, hf⟩ := ob_e hf
  rcases v1 with t1 | u1
  · exact nlr hf
  · refine xcallS (ws' := (wC g h now snap has hist ent res num col)) (st1 := []) (n := 34) E hw [.int a1] [] (met_X10_requireAccount l g a1 u1 hv1) rfl (by decide) rfl rfl [0, 1, 2, 3, 4, 5, 6, 7, 8, 9, 10, 11, 12, 13, 14, 15, 16, 17, 18, 19, 20, 21, 22, 23, 24, 25, 26, 27, 28, 29, 30, 31, 32, 33] rfl (by decide +kernel) rfl qw310 k_X10_requireAccount ⟨rfl, rfl, Nat.le_of_ble_eq_true rfl, Nat.le_of_ble_eq_true rfl⟩ ⟨Nat.zero_le _, Nat.zero_le _⟩ hl.1 (Nat.le_of_ble_eq_true rfl) dX10_leftByDigits_1 rfl (fun H locs hw => ?_)
    refine lv_aload_n hx hb dX10_leftByDigits_4 rfl (lv_at hl 0 rfl) ?_
    refine xget (v := .ref (h 1)) E hw 0 rfl rfl 0 (by decide) inw10 qw186 rfl rfl dX10_leftByDigits_5 ?_
    refine lv_iload_n hx hb dX10_leftByDigits_8 rfl (lv_at hl 1 rfl) ?_
    obtain ⟨v9, hv9, hf⟩ := ob_e hf
    refine xcallV (ws' := (wC g h now snap has hist ent res num col)) (st1 := [.int v9]) (n := 34) E hw [.int a1] [1, 2, 3] (met_X7_wholeOf l g h 1 now a1 v9 hv9) rfl (by decide) rfl rfl [0, 34, 35, 36, 4, 5, 6, 7, 8, 9, 10, 11, 12, 13, 14, 15, 16, 17, 18, 19, 20, 21, 22, 23, 24, 25, 26, 27, 28, 29, 30, 31, 32, 33] rfl (by decide +kernel) rfl rfl rfl rfl qw348 k_X7_wholeOf ⟨rfl, rfl, Nat.le_of_ble_eq_true rfl, Nat.le_of_ble_eq_true rfl⟩ ⟨Nat.zero_le _, Nat.zero_le _⟩ hl.1 (Nat.le_of_ble_eq_true rfl) dX10_leftByDigits_9 rfl (fun H locs hw => ?_)
    refine lv_aload_n hx hb dX10_leftByDigits_12 rfl (lv_at hl 0 rfl) ?_
    refine xget (v := .ref (h 1)) E hw 0 rfl rfl 0 (by decide) inw10 qw186 rfl rfl dX10_leftByDigits_13 ?_
    refine xget (v := .int now.1) E hw 1 rfl rfl 0 (by decide) inw7 qw46 rfl rfl dX10_leftByDigits_16 ?_
    obtain ⟨v19, hv19, hf⟩ := ob_e hf
    refine xcallS (ws' := (wC g h now snap has hist ent res num col)) (st1 := [.int v19]) (n := 34) E hw [.int v9, .int now.1] [] (met_X9_sum l g v9 now.1 v19 hv19) rfl (by decide) rfl rfl [0, 1, 2, 3, 4, 5, 6, 7, 8, 9, 10, 11, 12, 13, 14, 15, 16, 17, 18, 19, 20, 21, 22, 23, 24, 25, 26, 27, 28, 29, 30, 31, 32, 33] rfl (by decide +kernel) rfl qw602 k_X9_sum ⟨rfl, rfl, Nat.le_of_ble_eq_true rfl, Nat.le_of_ble_eq_true rfl⟩ ⟨Nat.zero_le _, Nat.zero_le _⟩ hl.1 (Nat.le_of_ble_eq_true rfl) dX10_leftByDigits_19 rfl (fun H locs hw => ?_)
    refine lv_i2l hx hb dX10_leftByDigits_22 rfl ?_
    refine lv_aload_n hx hb dX10_leftByDigits_23 rfl (lv_at hl 0 rfl) ?_
    refine xget (v := .ref (h 1)) E hw 0 rfl rfl 0 (by decide) inw10 qw186 rfl rfl dX10_leftByDigits_24 ?_
    refine xget (v := .int now.1) E hw 1 rfl rfl 0 (by decide) inw7 qw46 rfl rfl dX10_leftByDigits_27 ?_
    refine lv_iconst (v := 1) hx hb dX10_leftByDigits_30 (by decide) ?_
    refine lv_isub hx hb dX10_leftByDigits_31 ?_
    refine lv_i2l hx hb dX10_leftByDigits_32 rfl ?_
    obtain ⟨v33, hv33, hf⟩ := ob_e hf
    refine xcallS (ws' := (wC g h now snap has hist ent res num col)) (st1 := [.long v33]) (n := 34) E hw [.long v19.toInt64, .long ((now.1 - 1).toInt64)] [] (met_X5_left l g v19.toInt64 ((now.1 - 1).toInt64) v33 hv33) rfl (by decide) rfl rfl [0, 1, 2, 3, 4, 5, 6, 7, 8, 9, 10, 11, 12, 13, 14, 15, 16, 17, 18, 19, 20, 21, 22, 23, 24, 25, 26, 27, 28, 29, 30, 31, 32, 33] rfl (by decide +kernel) rfl qw609 k_X5_left ⟨rfl, rfl, Nat.le_of_ble_eq_true rfl, Nat.le_of_ble_eq_true rfl⟩ ⟨Nat.zero_le _, Nat.zero_le _⟩ hl.1 (Nat.le_of_ble_eq_true rfl) dX10_leftByDigits_33 rfl (fun H locs hw => ?_)
    refine lv_l2i hx hb dX10_leftByDigits_36 rfl ?_
    exact hret _ _ _ _ _ (jr hf) dX10_leftByDigits_37 hw
