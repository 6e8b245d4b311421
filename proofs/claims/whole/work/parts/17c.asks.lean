theorem k_X10_wholeDigitByPowers : xKV yX10_wholeDigitByPowers cX10_wholeDigitByPowers 3 (some .int) 2 := ⟨qw478, qw479, qw66, qw480, by decide +kernel, by decide +kernel, by decide +kernel⟩
set_option maxHeartbeats 4000000 in
set_option maxRecDepth 100000 in
theorem met_X10_wholeDigitByPowers (l : Launch) (g : xG) (h : Nat → Nat) (now : SC) (snap : SC) (has : Int32) (hist : HC) (ent : EC) (res : RC) (num : NC) (col : CC) (a1 : Int32) (a2 : Int32) (out : Int32) (hf : f_X10_wholeDigitByPowers now a1 a2 = some (Sum.inr out)) : xM l yX10_wholeDigitByPowers (xC yX10_wholeDigitByPowers cX10_wholeDigitByPowers 3 (some .int)) { frames := 4, cells := 0, slots := 0, locals := 94 } g (wC g h now snap has hist ent res num col) [.ref (h 0), .int a1, .int a2] (some (.int out)) (wC g h now snap has hist ent res num col) := by
  refine xof (by decide) (Nat.le_of_ble_eq_true rfl) ⟨rfl, rfl⟩ ?_
  intro p e s m below meth c A ls E hr hlocks hw hl hpost hAe
  have hx := E.1.1
  have hb := E.1.2.1
  have hown := E.1.2.2.2.1
  have hts := E.1.2.2.2.2
  generalize hZ : (MQ below (xPost g (wC g h now snap has hist ent res num col) (wC g h now snap has hist ent res num col) s.heap.size (some (.int out))) [.ref (h 0), .int a1, .int a2].toArray s 0 0 A) = ZZ
  have hret : ∀ (pc : Nat) (H : Heap) (locs : List Loc) (ls : Array Slot) (v : Int32), v = out → decode cX10_wholeDigitByPowers pc = .ok (.ireturn, 1) → xW g A s.heap (wC g h now snap has hist ent res num col) H locs → W p l e { frames := 4, cells := 0, slots := 0, locals := 94 } s m [.ref (h 0), .int a1, .int a2].toArray below meth c H locs 0 0 ZZ (F0 m pc ls [.int v]) := by
    intro pc H locs ls v he hd hw
    subst he
    rw [← hZ]
    exact W.iret hx hb hr (hpost H locs hw).1 (hpost H locs hw).2 hd hlocks
  clear hpost
  refine lv_aload_n hx hb dX10_wholeDigitByPowers_0 rfl (lv_at hl 0 rfl) ?_
  refine lv_iload_n hx hb dX10_wholeDigitByPowers_1 rfl (lv_at hl 1 rfl) ?_
  refine lv_iload_n hx hb dX10_wholeDigitByPowers_2 rfl (lv_at hl 2 rfl) ?_
  obtain ⟨v3, hv3, hf⟩ := ob_e hf
  rcases v3 with t3 | u3
  · exact nlr hf
  · refine xcallV (ws' := (wC g h now snap has hist ent res num col)) (st1 := []) (n := 34) E hw [.int a1, .int a2] [0, 1, 2, 3, 4, 5, 6, 7, 8, 9, 10, 11, 12, 13, 14, 15, 16, 17, 18, 19, 20, 21, 22, 23, 24, 25, 26, 27, 28, 29, 30, 31, 32, 33] (met_X10_requireColumn l g h now snap has hist ent res num col a1 a2 u3 hv3) rfl (by decide) rfl rfl [34, 35, 36, 37, 38, 39, 40, 41, 42, 43, 44, 45, 46, 47, 48, 49, 50, 51, 52, 53, 54, 55, 56, 57, 58, 59, 60, 61, 62, 63, 64, 65, 66, 67] rfl (by decide +kernel) rfl rfl rfl rfl qw466 k_X10_requireColumn ⟨rfl, rfl, Nat.le_of_ble_eq_true rfl, Nat.le_of_ble_eq_true rfl⟩ ⟨Nat.zero_le _, Nat.zero_le _⟩ hl.1 (Nat.le_of_ble_eq_true rfl) dX10_wholeDigitByPowers_3 rfl (fun H locs hw => ?_)
    refine lv_aload_n hx hb dX10_wholeDigitByPowers_6 rfl (lv_at hl 0 rfl) ?_
    refine xget (v := .ref (h 1)) E hw 0 rfl rfl 0 (by decide) inw10 qw246 rfl rfl dX10_wholeDigitByPowers_7 ?_
    refine lv_iload_n hx hb dX10_wholeDigitByPowers_10 rfl (lv_at hl 1 rfl) ?_
    obtain ⟨v11, hv11, hf⟩ := ob_e hf
    refine xcallV (ws' := (wC g h now snap has hist ent res num col)) (st1 := [.int v11]) (n := 34) E hw [.int a1] [1, 2, 3] (met_X7_wholeOf l g h 1 now a1 v11 hv11) rfl (by decide) rfl rfl [0, 34, 35, 36, 4, 5, 6, 7, 8, 9, 10, 11, 12, 13, 14, 15, 16, 17, 18, 19, 20, 21, 22, 23, 24, 25, 26, 27, 28, 29, 30, 31, 32, 33] rfl (by decide +kernel) rfl rfl rfl rfl qw440 k_X7_wholeOf ⟨rfl, rfl, Nat.le_of_ble_eq_true rfl, Nat.le_of_ble_eq_true rfl⟩ ⟨Nat.zero_le _, Nat.zero_le _⟩ hl.1 (Nat.le_of_ble_eq_true rfl) dX10_wholeDigitByPowers_11 rfl (fun H locs hw => ?_)
    refine lv_aload_n hx hb dX10_wholeDigitByPowers_14 rfl (lv_at hl 0 rfl) ?_
    refine xget (v := .ref (h 1)) E hw 0 rfl rfl 0 (by decide) inw10 qw246 rfl rfl dX10_wholeDigitByPowers_15 ?_
    refine xget (v := .int now.1) E hw 1 rfl rfl 0 (by decide) inw7 qw101 rfl rfl dX10_wholeDigitByPowers_18 ?_
    refine lv_iload_n hx hb dX10_wholeDigitByPowers_21 rfl (lv_at hl 2 rfl) ?_
    obtain ⟨v22, hv22, hf⟩ := ob_e hf
    refine xcallS (ws' := (wC g h now snap has hist ent res num col)) (st1 := [.int v22]) (n := 34) E hw [.int v11, .int now.1, .int a2] [] (met_X9_byPowers l g v11 now.1 a2 v22 hv22) rfl (by decide) rfl rfl [0, 1, 2, 3, 4, 5, 6, 7, 8, 9, 10, 11, 12, 13, 14, 15, 16, 17, 18, 19, 20, 21, 22, 23, 24, 25, 26, 27, 28, 29, 30, 31, 32, 33] rfl (by decide +kernel) rfl qw481 k_X9_byPowers ⟨rfl, rfl, Nat.le_of_ble_eq_true rfl, Nat.le_of_ble_eq_true rfl⟩ ⟨Nat.zero_le _, Nat.zero_le _⟩ hl.1 (Nat.le_of_ble_eq_true rfl) dX10_wholeDigitByPowers_22 rfl (fun H locs hw => ?_)
    exact hret _ _ _ _ _ (jr hf) dX10_wholeDigitByPowers_25 hw
set_option maxHeartbeats 4000000 in
set_option maxRecDepth 100000 in
theorem metx_X10_wholeDigitByPowers (l : Launch) (hlT : l.stackTraces = false) (g : xG) (h : Nat → Nat) (now : SC) (snap : SC) (has : Int32) (hist : HC) (ent : EC) (res : RC) (num : NC) (col : CC) (a1 : Int32) (a2 : Int32) (out : Nat) (hf : f_X10_wholeDigitByPowers now a1 a2 = some (Sum.inl out)) : xMX l yX10_wholeDigitByPowers (xC yX10_wholeDigitByPowers cX10_wholeDigitByPowers 3 (some .int)) { frames := 9, cells := 1, slots := 6, locals := 163 } g (wC g h now snap has hist ent res num col) [.ref (h 0), .int a1, .int a2] (xEx out) (wC g h now snap has hist ent res num col) := by
  refine xofX (by decide) (Nat.le_of_ble_eq_true rfl) ⟨rfl, rfl⟩ ?_
  intro p e s m below meth c A ls E hlocks htab hX hw hl hpost
  have hx := E.1.1
  have hb := E.1.2.1
  have hown := E.1.2.2.2.1
  have hts := E.1.2.2.2.2
  have hx9 : ∀ (H : Heap) (locs : List Loc) (kx : Nat), kx = out → xW g A s.heap (wC g h now snap has hist ent res num col) H locs → ∀ t : State, s.vm.Alike t.vm → H.size ≤ t.heap.size → (∀ q : Nat, q < H.size → t.heap[q]? = H[q]?) → xPostX g (wC g h now snap has hist ent res num col) (wC g h now snap has hist ent res num col) s.heap.size (xEx out) (xEx kx) s t := by
    intro H locs kx he hw t h1 h2 h3
    subst he
    exact (hpost H locs hw).1 t h1 h2 h3
  have hx8 : ∀ (H : Heap) (locs : List Loc) (kx : Nat), kx = out → xW g A s.heap (wC g h now snap has hist ent res num col) H locs → ∀ z ∈ locs, A z.base := by
    intro H locs kx he hw
    subst he
    exact (hpost H locs hw).2
  clear hpost
  generalize hZ : (vx_MQ below (fun _ _ _ _ => False) (xPostX g (wC g h now snap has hist ent res num col) (wC g h now snap has hist ent res num col) s.heap.size (xEx out)) [.ref (h 0), .int a1, .int a2].toArray s 1 6 A) = ZZ
  have hprop : ∀ (pc : Nat) (H : Heap) (locs : List Loc) (ls : Array Slot) (rest : List Value) (q : Nat) (ce : Cell) (kx : Nat), kx = out → xW g A s.heap (wC g h now snap has hist ent res num col) H locs → H[q]? = some ce → ce.vm = .none → s.vm.findClass (xEx kx) = some ce.cls → vx_W p l e { frames := 9, cells := 1, slots := 6, locals := 163 } s m [.ref (h 0), .int a1, .int a2].toArray below meth c H locs (0 + 1) (0 + 6) ZZ (F0 m pc ls rest) q := by
    intro pc H locs ls rest q ce kx he hw hce hcv hcl
    rw [← hZ]
    exact vx_out (fun x hx => (htab x hx).elim) hlocks hce hcv hcl (fun t ht hW => hx9 H locs kx he hw t hW (by rw [ht]; exact Nat.le_refl _) (fun q _ => by rw [ht])) (hx8 H locs kx he hw) (Nat.le_refl _) (Nat.le_refl _)
  refine lv_aload_n hx hb dX10_wholeDigitByPowers_0 rfl (lv_at hl 0 rfl) ?_
  refine lv_iload_n hx hb dX10_wholeDigitByPowers_1 rfl (lv_at hl 1 rfl) ?_
  refine lv_iload_n hx hb dX10_wholeDigitByPowers_2 rfl (lv_at hl 2 rfl) ?_
  obtain ⟨v3, hv3, hf⟩ := ob_e hf
  rcases v3 with t3 | u3
  · refine xcallVX (ws' := (wC g h now snap has hist ent res num col)) (n := 34) E hX hw [.int a1, .int a2] [0, 1, 2, 3, 4, 5, 6, 7, 8, 9, 10, 11, 12, 13, 14, 15, 16, 17, 18, 19, 20, 21, 22, 23, 24, 25, 26, 27, 28, 29, 30, 31, 32, 33] (metx_X10_requireColumn l hlT g h now snap has hist ent res num col a1 a2 t3 hv3) rfl (by decide) rfl rfl [34, 35, 36, 37, 38, 39, 40, 41, 42, 43, 44, 45, 46, 47, 48, 49, 50, 51, 52, 53, 54, 55, 56, 57, 58, 59, 60, 61, 62, 63, 64, 65, 66, 67] rfl (by decide +kernel) rfl rfl rfl rfl qw466 k_X10_requireColumn ⟨rfl, rfl, Nat.le_of_ble_eq_true rfl, Nat.le_of_ble_eq_true rfl⟩ ⟨by decide, by decide⟩ hl.1 (Nat.le_of_ble_eq_true rfl) dX10_wholeDigitByPowers_3 (fun H locs q ce hw hce hcv hcl => ?_)
    exact hprop _ _ _ _ _ _ _ _ (jl hf) hw hce hcv hcl
  · refine xcallV (ws' := (wC g h now snap has hist ent res num col)) (st1 := []) (n := 34) E hw [.int a1, .int a2] [0, 1, 2, 3, 4, 5, 6, 7, 8, 9, 10, 11, 12, 13, 14, 15, 16, 17, 18, 19, 20, 21, 22, 23, 24, 25, 26, 27, 28, 29, 30, 31, 32, 33] (met_X10_requireColumn l g h now snap has hist ent res num col a1 a2 u3 hv3) rfl (by decide) rfl rfl [34, 35, 36, 37, 38, 39, 40, 41, 42, 43, 44, 45, 46, 47, 48, 49, 50, 51, 52, 53, 54, 55, 56, 57, 58, 59, 60, 61, 62, 63, 64, 65, 66, 67] rfl (by decide +kernel) rfl rfl rfl rfl qw466 k_X10_requireColumn ⟨rfl, rfl, Nat.le_of_ble_eq_true rfl, Nat.le_of_ble_eq_true rfl⟩ ⟨Nat.zero_le _, Nat.zero_le _⟩ hl.1 (Nat.le_of_ble_eq_true rfl) dX10_wholeDigitByPowers_3 rfl (fun H locs hw => ?_)
    refine lv_aload_n hx hb dX10_wholeDigitByPowers_6 rfl (lv_at hl 0 rfl) ?_
    refine xget (v := .ref (h 1)) E hw 0 rfl rfl 0 (by decide) inw10 qw246 rfl rfl dX10_wholeDigitByPowers_7 ?_
    refine lv_iload_n hx hb dX10_wholeDigitByPowers_10 rfl (lv_at hl 1 rfl) ?_
    obtain ⟨v11, hv11, hf⟩ := ob_e hf
    refine xcallV (ws' := (wC g h now snap has hist ent res num col)) (st1 := [.int v11]) (n := 34) E hw [.int a1] [1, 2, 3] (met_X7_wholeOf l g h 1 now a1 v11 hv11) rfl (by decide) rfl rfl [0, 34, 35, 36, 4, 5, 6, 7, 8, 9, 10, 11, 12, 13, 14, 15, 16, 17, 18, 19, 20, 21, 22, 23, 24, 25, 26, 27, 28, 29, 30, 31, 32, 33] rfl (by decide +kernel) rfl rfl rfl rfl qw440 k_X7_wholeOf ⟨rfl, rfl, Nat.le_of_ble_eq_true rfl, Nat.le_of_ble_eq_true rfl⟩ ⟨Nat.zero_le _, Nat.zero_le _⟩ hl.1 (Nat.le_of_ble_eq_true rfl) dX10_wholeDigitByPowers_11 rfl (fun H locs hw => ?_)
    refine lv_aload_n hx hb dX10_wholeDigitByPowers_14 rfl (lv_at hl 0 rfl) ?_
    refine xget (v := .ref (h 1)) E hw 0 rfl rfl 0 (by decide) inw10 qw246 rfl rfl dX10_wholeDigitByPowers_15 ?_
    refine xget (v := .int now.1) E hw 1 rfl rfl 0 (by decide) inw7 qw101 rfl rfl dX10_wholeDigitByPowers_18 ?_
    refine lv_iload_n hx hb dX10_wholeDigitByPowers_21 rfl (lv_at hl 2 rfl) ?_
    obtain ⟨v22, hv22, hf⟩ := ob_e hf
    refine xcallS (ws' := (wC g h now snap has hist ent res num col)) (st1 := [.int v22]) (n := 34) E hw [.int v11, .int now.1, .int a2] [] (met_X9_byPowers l g v11 now.1 a2 v22 hv22) rfl (by decide) rfl rfl [0, 1, 2, 3, 4, 5, 6, 7, 8, 9, 10, 11, 12, 13, 14, 15, 16, 17, 18, 19, 20, 21, 22, 23, 24, 25, 26, 27, 28, 29, 30, 31, 32, 33] rfl (by decide +kernel) rfl qw481 k_X9_byPowers ⟨rfl, rfl, Nat.le_of_ble_eq_true rfl, Nat.le_of_ble_eq_true rfl⟩ ⟨Nat.zero_le _, Nat.zero_le _⟩ hl.1 (Nat.le_of_ble_eq_true rfl) dX10_wholeDigitByPowers_22 rfl (fun H locs hw => ?_)
    exact nrl hf
theorem k_X10_digitSum : xKV yX10_digitSum cX10_digitSum 2 (some .int) 1 := ⟨qw489, qw490, qw66, qw491, by decide +kernel, by decide +kernel, by decide +kernel⟩
set_option maxHeartbeats 4000000 in
set_option maxRecDepth 100000 in
theorem met_X10_digitSum (l : Launch) (g : xG) (h : Nat → Nat) (now : SC) (snap : SC) (has : Int32) (hist : HC) (ent : EC) (res : RC) (num : NC) (col : CC) (a1 : Int32) (out : Int32) (hf : f_X10_digitSum now a1 = some (Sum.inr out)) : xM l yX10_digitSum (xC yX10_digitSum cX10_digitSum 2 (some .int)) { frames := 2, cells := 0, slots := 0, locals := 51 } g (wC g h now snap has hist ent res num col) [.ref (h 0), .int a1] (some (.int out)) (wC g h now snap has hist ent res num col) := by
  refine xof (by decide) (Nat.le_of_ble_eq_true rfl) ⟨rfl, rfl⟩ ?_
  intro p e s m below meth c A ls E hr hlocks hw hl hpost hAe
  have hx := E.1.1
  have hb := E.1.2.1
  have hown := E.1.2.2.2.1
  have hts := E.1.2.2.2.2
  generalize hZ : (MQ below (xPost g (wC g h now snap has hist ent res num col) (wC g h now snap has hist ent res num col) s.heap.size (some (.int out))) [.ref (h 0), .int a1].toArray s 0 0 A) = ZZ
  have hret : ∀ (pc : Nat) (H : Heap) (locs : List Loc) (ls : Array Slot) (v : Int32), v = out → decode cX10_digitSum pc = .ok (.ireturn, 1) → xW g A s.heap (wC g h now snap has hist ent res num col) H locs → W p l e { frames := 2, cells := 0, slots := 0, locals := 51 } s m [.ref (h 0), .int a1].toArray below meth c H locs 0 0 ZZ (F0 m pc ls [.int v]) := by
    intro pc H locs ls v he hd hw
    subst he
    rw [← hZ]
    exact W.iret hx hb hr (hpost H locs hw).1 (hpost H locs hw).2 hd hlocks
  clear hpost
  refine lv_iload_n hx hb dX10_digitSum_0 rfl (lv_at hl 1 rfl) ?_
  obtain ⟨v1, hv1, hf⟩ := ob_e hf
  rcases v1 with t1 | u1
  · exact nlr hf
  · refine xcallS (ws' := (wC g h now snap has hist ent res num col)) (st1 := []) (n := 34) E hw [.int a1] [] (met_X10_requireAccount l g a1 u1 hv1) rfl (by decide) rfl rfl [0, 1, 2, 3, 4, 5, 6, 7, 8, 9, 10, 11, 12, 13, 14, 15, 16, 17, 18, 19, 20, 21, 22, 23, 24, 25, 26, 27, 28, 29, 30, 31, 32, 33] rfl (by decide +kernel) rfl qw369 k_X10_requireAccount ⟨rfl, rfl, Nat.le_of_ble_eq_true rfl, Nat.le_of_ble_eq_true rfl⟩ ⟨Nat.zero_le _, Nat.zero_le _⟩ hl.1 (Nat.le_of_ble_eq_true rfl) dX10_digitSum_1 rfl (fun H locs hw => ?_)
    refine lv_aload_n hx hb dX10_digitSum_4 rfl (lv_at hl 0 rfl) ?_
    refine xget (v := .ref (h 1)) E hw 0 rfl rfl 0 (by decide) inw10 qw246 rfl rfl dX10_digitSum_5 ?_
    refine lv_iload_n hx hb dX10_digitSum_8 rfl (lv_at hl 1 rfl) ?_
    obtain ⟨v9, hv9, hf⟩ := ob_e hf
    refine xcallV (ws' := (wC g h now snap has hist ent res num col)) (st1 := [.int v9]) (n := 34) E hw [.int a1] [1, 2, 3] (met_X7_wholeOf l g h 1 now a1 v9 hv9) rfl (by decide) rfl rfl [0, 34, 35, 36, 4, 5, 6, 7, 8, 9, 10, 11, 12, 13, 14, 15, 16, 17, 18, 19, 20, 21, 22, 23, 24, 25, 26, 27, 28, 29, 30, 31, 32, 33] rfl (by decide +kernel) rfl rfl rfl rfl qw440 k_X7_wholeOf ⟨rfl, rfl, Nat.le_of_ble_eq_true rfl, Nat.le_of_ble_eq_true rfl⟩ ⟨Nat.zero_le _, Nat.zero_le _⟩ hl.1 (Nat.le_of_ble_eq_true rfl) dX10_digitSum_9 rfl (fun H locs hw => ?_)
    refine lv_aload_n hx hb dX10_digitSum_12 rfl (lv_at hl 0 rfl) ?_
    refine xget (v := .ref (h 1)) E hw 0 rfl rfl 0 (by decide) inw10 qw246 rfl rfl dX10_digitSum_13 ?_
    refine xget (v := .int now.1) E hw 1 rfl rfl 0 (by decide) inw7 qw101 rfl rfl dX10_digitSum_16 ?_
    obtain ⟨v19, hv19, hf⟩ := ob_e hf
    refine xcallS (ws' := (wC g h now snap has hist ent res num col)) (st1 := [.int v19]) (n := 34) E hw [.int v9, .int now.1] [] (met_X9_sum l g v9 now.1 v19 hv19) rfl (by decide) rfl rfl [0, 1, 2, 3, 4, 5, 6, 7, 8, 9, 10, 11, 12, 13, 14, 15, 16, 17, 18, 19, 20, 21, 22, 23, 24, 25, 26, 27, 28, 29, 30, 31, 32, 33] rfl (by decide +kernel) rfl qw492 k_X9_sum ⟨rfl, rfl, Nat.le_of_ble_eq_true rfl, Nat.le_of_ble_eq_true rfl⟩ ⟨Nat.zero_le _, Nat.zero_le _⟩ hl.1 (Nat.le_of_ble_eq_true rfl) dX10_digitSum_19 rfl (fun H locs hw => ?_)
    exact hret _ _ _ _ _ (jr hf) dX10_digitSum_22 hw
set_option maxHeartbeats 4000000 in
set_option maxRecDepth 100000 in
theorem metx_X10_digitSum (l : Launch) (hlT : l.stackTraces = false) (g : xG) (h : Nat → Nat) (now : SC) (snap : SC) (has : Int32) (hist : HC) (ent : EC) (res : RC) (num : NC) (col : CC) (a1 : Int32) (out : Nat) (hf : f_X10_digitSum now a1 = some (Sum.inl out)) : xMX l yX10_digitSum (xC yX10_digitSum cX10_digitSum 2 (some .int)) { frames := 7, cells := 1, slots := 6, locals := 120 } g (wC g h now snap has hist ent res num col) [.ref (h 0), .int a1] (xEx out) (wC g h now snap has hist ent res num col) := by
  refine xofX (by decide) (Nat.le_of_ble_eq_true rfl) ⟨rfl, rfl⟩ ?_
  intro p e s m below meth c A ls E hlocks htab hX hw hl hpost
  have hx := E.1.1
  have hb := E.1.2.1
  have hown := E.1.2.2.2.1
  have hts := E.1.2.2.2.2
  have hx9 : ∀ (H : Heap) (locs : List Loc) (kx : Nat), kx = out → xW g A s.heap (wC g h now snap has hist ent res num col) H locs → ∀ t : State, s.vm.Alike t.vm → H.size ≤ t.heap.size → (∀ q : Nat, q < H.size → t.heap[q]? = H[q]?) → xPostX g (wC g h now snap has hist ent res num col) (wC g h now snap has hist ent res num col) s.heap.size (xEx out) (xEx kx) s t := by
    intro H locs kx he hw t h1 h2 h3
    subst he
    exact (hpost H locs hw).1 t h1 h2 h3
  have hx8 : ∀ (H : Heap) (locs : List Loc) (kx : Nat), kx = out → xW g A s.heap (wC g h now snap has hist ent res num col) H locs → ∀ z ∈ locs, A z.base := by
    intro H locs kx he hw
    subst he
    exact (hpost H locs hw).2
  clear hpost
  generalize hZ : (vx_MQ below (fun _ _ _ _ => False) (xPostX g (wC g h now snap has hist ent res num col) (wC g h now snap has hist ent res num col) s.heap.size (xEx out)) [.ref (h 0), .int a1].toArray s 1 6 A) = ZZ
  have hprop : ∀ (pc : Nat) (H : Heap) (locs : List Loc) (ls : Array Slot) (rest : List Value) (q : Nat) (ce : Cell) (kx : Nat), kx = out → xW g A s.heap (wC g h now snap has hist ent res num col) H locs → H[q]? = some ce → ce.vm = .none → s.vm.findClass (xEx kx) = some ce.cls → vx_W p l e { frames := 7, cells := 1, slots := 6, locals := 120 } s m [.ref (h 0), .int a1].toArray below meth c H locs (0 + 1) (0 + 6) ZZ (F0 m pc ls rest) q := by
    intro pc H locs ls rest q ce kx he hw hce hcv hcl
    rw [← hZ]
    exact vx_out (fun x hx => (htab x hx).elim) hlocks hce hcv hcl (fun t ht hW => hx9 H locs kx he hw t hW (by rw [ht]; exact Nat.le_refl _) (fun q _ => by rw [ht])) (hx8 H locs kx he hw) (Nat.le_refl _) (Nat.le_refl _)
  refine lv_iload_n hx hb dX10_digitSum_0 rfl (lv_at hl 1 rfl) ?_
  obtain ⟨v1, hv1, hf⟩ := ob_e hf
  rcases v1 with t1 | u1
  · refine xcallSX (ws' := (wC g h now snap has hist ent res num col)) (n := 34) E hX hw [.int a1] [] (metx_X10_requireAccount l hlT g a1 t1 hv1) rfl (by decide) rfl rfl [0, 1, 2, 3, 4, 5, 6, 7, 8, 9, 10, 11, 12, 13, 14, 15, 16, 17, 18, 19, 20, 21, 22, 23, 24, 25, 26, 27, 28, 29, 30, 31, 32, 33] rfl (by decide +kernel) rfl qw369 k_X10_requireAccount ⟨rfl, rfl, Nat.le_of_ble_eq_true rfl, Nat.le_of_ble_eq_true rfl⟩ ⟨by decide, by decide⟩ hl.1 (Nat.le_of_ble_eq_true rfl) dX10_digitSum_1 (fun H locs q ce hw hce hcv hcl => ?_)
    exact hprop _ _ _ _ _ _ _ _ (jl hf) hw hce hcv hcl
  · refine xcallS (ws' := (wC g h now snap has hist ent res num col)) (st1 := []) (n := 34) E hw [.int a1] [] (met_X10_requireAccount l g a1 u1 hv1) rfl (by decide) rfl rfl [0, 1, 2, 3, 4, 5, 6, 7, 8, 9, 10, 11, 12, 13, 14, 15, 16, 17, 18, 19, 20, 21, 22, 23, 24, 25, 26, 27, 28, 29, 30, 31, 32, 33] rfl (by decide +kernel) rfl qw369 k_X10_requireAccount ⟨rfl, rfl, Nat.le_of_ble_eq_true rfl, Nat.le_of_ble_eq_true rfl⟩ ⟨Nat.zero_le _, Nat.zero_le _⟩ hl.1 (Nat.le_of_ble_eq_true rfl) dX10_digitSum_1 rfl (fun H locs hw => ?_)
    refine lv_aload_n hx hb dX10_digitSum_4 rfl (lv_at hl 0 rfl) ?_
    refine xget (v := .ref (h 1)) E hw 0 rfl rfl 0 (by decide) inw10 qw246 rfl rfl dX10_digitSum_5 ?_
    refine lv_iload_n hx hb dX10_digitSum_8 rfl (lv_at hl 1 rfl) ?_
    obtain ⟨v9, hv9, hf⟩ := ob_e hf
    refine xcallV (ws' := (wC g h now snap has hist ent res num col)) (st1 := [.int v9]) (n := 34) E hw [.int a1] [1, 2, 3] (met_X7_wholeOf l g h 1 now a1 v9 hv9) rfl (by decide) rfl rfl [0, 34, 35, 36, 4, 5, 6, 7, 8, 9, 10, 11, 12, 13, 14, 15, 16, 17, 18, 19, 20, 21, 22, 23, 24, 25, 26, 27, 28, 29, 30, 31, 32, 33] rfl (by decide +kernel) rfl rfl rfl rfl qw440 k_X7_wholeOf ⟨rfl, rfl, Nat.le_of_ble_eq_true rfl, Nat.le_of_ble_eq_true rfl⟩ ⟨Nat.zero_le _, Nat.zero_le _⟩ hl.1 (Nat.le_of_ble_eq_true rfl) dX10_digitSum_9 rfl (fun H locs hw => ?_)
    refine lv_aload_n hx hb dX10_digitSum_12 rfl (lv_at hl 0 rfl) ?_
    refine xget (v := .ref (h 1)) E hw 0 rfl rfl 0 (by decide) inw10 qw246 rfl rfl dX10_digitSum_13 ?_
    refine xget (v := .int now.1) E hw 1 rfl rfl 0 (by decide) inw7 qw101 rfl rfl dX10_digitSum_16 ?_
    obtain ⟨v19, hv19, hf⟩ := ob_e hf
    refine xcallS (ws' := (wC g h now snap has hist ent res num col)) (st1 := [.int v19]) (n := 34) E hw [.int v9, .int now.1] [] (met_X9_sum l g v9 now.1 v19 hv19) rfl (by decide) rfl rfl [0, 1, 2, 3, 4, 5, 6, 7, 8, 9, 10, 11, 12, 13, 14, 15, 16, 17, 18, 19, 20, 21, 22, 23, 24, 25, 26, 27, 28, 29, 30, 31, 32, 33] rfl (by decide +kernel) rfl qw492 k_X9_sum ⟨rfl, rfl, Nat.le_of_ble_eq_true rfl, Nat.le_of_ble_eq_true rfl⟩ ⟨Nat.zero_le _, Nat.zero_le _⟩ hl.1 (Nat.le_of_ble_eq_true rfl) dX10_digitSum_19 rfl (fun H locs hw => ?_)
    exact nrl hf
theorem k_X10_leftByDigits : xKV yX10_leftByDigits cX10_leftByDigits 2 (some .int) 1 := ⟨qw496, qw497, qw66, qw498, by decide +kernel, by decide +kernel, by decide +kernel⟩
set_option maxHeartbeats 4000000 in
set_option maxRecDepth 100000 in
theorem met_X10_leftByDigits (l : Launch) (g : xG) (h : Nat → Nat) (now : SC) (snap : SC) (has : Int32) (hist : HC) (ent : EC) (res : RC) (num : NC) (col : CC) (a1 : Int32) (out : Int32) (hf : f_X10_leftByDigits now a1 = some (Sum.inr out)) : xM l yX10_leftByDigits (xC yX10_leftByDigits cX10_leftByDigits 2 (some .int)) { frames := 2, cells := 0, slots := 0, locals := 51 } g (wC g h now snap has hist ent res num col) [.ref (h 0), .int a1] (some (.int out)) (wC g h now snap has hist ent res num col) := by
  refine xof (by decide) (Nat.le_of_ble_eq_true rfl) ⟨rfl, rfl⟩ ?_
  intro p e s m below meth c A ls E hr hlocks hw hl hpost hAe
  have hx := E.1.1
  have hb := E.1.2.1
  have hown := E.1.2.2.2.1
  have hts := E.1.2.2.2.2
  generalize hZ : (MQ below (xPost g (wC g h now snap has hist ent res num col) (wC g h now snap has hist ent res num col) s.heap.size (some (.int out))) [.ref (h 0), .int a1].toArray s 0 0 A) = ZZ
  have hret : ∀ (pc : Nat) (H : Heap) (locs : List Loc) (ls : Array Slot) (v : Int32), v = out → decode cX10_leftByDigits pc = .ok (.ireturn, 1) → xW g A s.heap (wC g h now snap has hist ent res num col) H locs → W p l e { frames := 2, cells := 0, slots := 0, locals := 51 } s m [.ref (h 0), .int a1].toArray below meth c H locs 0 0 ZZ (F0 m pc ls [.int v]) := by
    intro pc H locs ls v he hd hw
    subst he
    rw [← hZ]
    exact W.iret hx hb hr (hpost H locs hw).1 (hpost H locs hw).2 hd hlocks
  clear hpost
  refine lv_iload_n hx hb dX10_leftByDigits_0 rfl (lv_at hl 1 rfl) ?_
  obtain ⟨v1, hv1, hf⟩ := ob_e hf
  rcases v1 with t1 | u1
  · exact nlr hf
  · refine xcallS (ws' := (wC g h now snap has hist ent res num col)) (st1 := []) (n := 34) E hw [.int a1] [] (met_X10_requireAccount l g a1 u1 hv1) rfl (by decide) rfl rfl [0, 1, 2, 3, 4, 5, 6, 7, 8, 9, 10, 11, 12, 13, 14, 15, 16, 17, 18, 19, 20, 21, 22, 23, 24, 25, 26, 27, 28, 29, 30, 31, 32, 33] rfl (by decide +kernel) rfl qw369 k_X10_requireAccount ⟨rfl, rfl, Nat.le_of_ble_eq_true rfl, Nat.le_of_ble_eq_true rfl⟩ ⟨Nat.zero_le _, Nat.zero_le _⟩ hl.1 (Nat.le_of_ble_eq_true rfl) dX10_leftByDigits_1 rfl (fun H locs hw => ?_)
    refine lv_aload_n hx hb dX10_leftByDigits_4 rfl (lv_at hl 0 rfl) ?_
    refine xget (v := .ref (h 1)) E hw 0 rfl rfl 0 (by decide) inw10 qw246 rfl rfl dX10_leftByDigits_5 ?_
    refine lv_iload_n hx hb dX10_leftByDigits_8 rfl (lv_at hl 1 rfl) ?_
    obtain ⟨v9, hv9, hf⟩ := ob_e hf
    refine xcallV (ws' := (wC g h now snap has hist ent res num col)) (st1 := [.int v9]) (n := 34) E hw [.int a1] [1, 2, 3] (met_X7_wholeOf l g h 1 now a1 v9 hv9) rfl (by decide) rfl rfl [0, 34, 35, 36, 4, 5, 6, 7, 8, 9, 10, 11, 12, 13, 14, 15, 16, 17, 18, 19, 20, 21, 22, 23, 24, 25, 26, 27, 28, 29, 30, 31, 32, 33] rfl (by decide +kernel) rfl rfl rfl rfl qw440 k_X7_wholeOf ⟨rfl, rfl, Nat.le_of_ble_eq_true rfl, Nat.le_of_ble_eq_true rfl⟩ ⟨Nat.zero_le _, Nat.zero_le _⟩ hl.1 (Nat.le_of_ble_eq_true rfl) dX10_leftByDigits_9 rfl (fun H locs hw => ?_)
    refine lv_aload_n hx hb dX10_leftByDigits_12 rfl (lv_at hl 0 rfl) ?_
    refine xget (v := .ref (h 1)) E hw 0 rfl rfl 0 (by decide) inw10 qw246 rfl rfl dX10_leftByDigits_13 ?_
    refine xget (v := .int now.1) E hw 1 rfl rfl 0 (by decide) inw7 qw101 rfl rfl dX10_leftByDigits_16 ?_
    obtain ⟨v19, hv19, hf⟩ := ob_e hf
    refine xcallS (ws' := (wC g h now snap has hist ent res num col)) (st1 := [.int v19]) (n := 34) E hw [.int v9, .int now.1] [] (met_X9_sum l g v9 now.1 v19 hv19) rfl (by decide) rfl rfl [0, 1, 2, 3, 4, 5, 6, 7, 8, 9, 10, 11, 12, 13, 14, 15, 16, 17, 18, 19, 20, 21, 22, 23, 24, 25, 26, 27, 28, 29, 30, 31, 32, 33] rfl (by decide +kernel) rfl qw492 k_X9_sum ⟨rfl, rfl, Nat.le_of_ble_eq_true rfl, Nat.le_of_ble_eq_true rfl⟩ ⟨Nat.zero_le _, Nat.zero_le _⟩ hl.1 (Nat.le_of_ble_eq_true rfl) dX10_leftByDigits_19 rfl (fun H locs hw => ?_)
    refine lv_i2l hx hb dX10_leftByDigits_22 rfl ?_
    refine lv_aload_n hx hb dX10_leftByDigits_23 rfl (lv_at hl 0 rfl) ?_
    refine xget (v := .ref (h 1)) E hw 0 rfl rfl 0 (by decide) inw10 qw246 rfl rfl dX10_leftByDigits_24 ?_
    refine xget (v := .int now.1) E hw 1 rfl rfl 0 (by decide) inw7 qw101 rfl rfl dX10_leftByDigits_27 ?_
    refine lv_iconst (v := 1) hx hb dX10_leftByDigits_30 (by decide) ?_
    refine lv_isub hx hb dX10_leftByDigits_31 ?_
    refine lv_i2l hx hb dX10_leftByDigits_32 rfl ?_
    obtain ⟨v33, hv33, hf⟩ := ob_e hf
    refine xcallS (ws' := (wC g h now snap has hist ent res num col)) (st1 := [.long v33]) (n := 34) E hw [.long v19.toInt64, .long ((now.1 - 1).toInt64)] [] (met_X5_left l g v19.toInt64 ((now.1 - 1).toInt64) v33 hv33) rfl (by decide) rfl rfl [0, 1, 2, 3, 4, 5, 6, 7, 8, 9, 10, 11, 12, 13, 14, 15, 16, 17, 18, 19, 20, 21, 22, 23, 24, 25, 26, 27, 28, 29, 30, 31, 32, 33] rfl (by decide +kernel) rfl qw499 k_X5_left ⟨rfl, rfl, Nat.le_of_ble_eq_true rfl, Nat.le_of_ble_eq_true rfl⟩ ⟨Nat.zero_le _, Nat.zero_le _⟩ hl.1 (Nat.le_of_ble_eq_true rfl) dX10_leftByDigits_33 rfl (fun H locs hw => ?_)
    refine lv_l2i hx hb dX10_leftByDigits_36 rfl ?_
    exact hret _ _ _ _ _ (jr hf) dX10_leftByDigits_37 hw
set_option maxHeartbeats 4000000 in
set_option maxRecDepth 100000 in
theorem metx_X10_leftByDigits (l : Launch) (hlT : l.stackTraces = false) (g : xG) (h : Nat → Nat) (now : SC) (snap : SC) (has : Int32) (hist : HC) (ent : EC) (res : RC) (num : NC) (col : CC) (a1 : Int32) (out : Nat) (hf : f_X10_leftByDigits now a1 = some (Sum.inl out)) : xMX l yX10_leftByDigits (xC yX10_leftByDigits cX10_leftByDigits 2 (some .int)) { frames := 7, cells := 1, slots := 6, locals := 120 } g (wC g h now snap has hist ent res num col) [.ref (h 0), .int a1] (xEx out) (wC g h now snap has hist ent res num col) := by
  refine xofX (by decide) (Nat.le_of_ble_eq_true rfl) ⟨rfl, rfl⟩ ?_
  intro p e s m below meth c A ls E hlocks htab hX hw hl hpost
  have hx := E.1.1
  have hb := E.1.2.1
  have hown := E.1.2.2.2.1
  have hts := E.1.2.2.2.2
  have hx9 : ∀ (H : Heap) (locs : List Loc) (kx : Nat), kx = out → xW g A s.heap (wC g h now snap has hist ent res num col) H locs → ∀ t : State, s.vm.Alike t.vm → H.size ≤ t.heap.size → (∀ q : Nat, q < H.size → t.heap[q]? = H[q]?) → xPostX g (wC g h now snap has hist ent res num col) (wC g h now snap has hist ent res num col) s.heap.size (xEx out) (xEx kx) s t := by
    intro H locs kx he hw t h1 h2 h3
    subst he
    exact (hpost H locs hw).1 t h1 h2 h3
  have hx8 : ∀ (H : Heap) (locs : List Loc) (kx : Nat), kx = out → xW g A s.heap (wC g h now snap has hist ent res num col) H locs → ∀ z ∈ locs, A z.base := by
    intro H locs kx he hw
    subst he
    exact (hpost H locs hw).2
  clear hpost
  generalize hZ : (vx_MQ below (fun _ _ _ _ => False) (xPostX g (wC g h now snap has hist ent res num col) (wC g h now snap has hist ent res num col) s.heap.size (xEx out)) [.ref (h 0), .int a1].toArray s 1 6 A) = ZZ
  have hprop : ∀ (pc : Nat) (H : Heap) (locs : List Loc) (ls : Array Slot) (rest : List Value) (q : Nat) (ce : Cell) (kx : Nat), kx = out → xW g A s.heap (wC g h now snap has hist ent res num col) H locs → H[q]? = some ce → ce.vm = .none → s.vm.findClass (xEx kx) = some ce.cls → vx_W p l e { frames := 7, cells := 1, slots := 6, locals := 120 } s m [.ref (h 0), .int a1].toArray below meth c H locs (0 + 1) (0 + 6) ZZ (F0 m pc ls rest) q := by
    intro pc H locs ls rest q ce kx he hw hce hcv hcl
    rw [← hZ]
    exact vx_out (fun x hx => (htab x hx).elim) hlocks hce hcv hcl (fun t ht hW => hx9 H locs kx he hw t hW (by rw [ht]; exact Nat.le_refl _) (fun q _ => by rw [ht])) (hx8 H locs kx he hw) (Nat.le_refl _) (Nat.le_refl _)
  refine lv_iload_n hx hb dX10_leftByDigits_0 rfl (lv_at hl 1 rfl) ?_
  obtain ⟨v1, hv1, hf⟩ := ob_e hf
  rcases v1 with t1 | u1
  · refine xcallSX (ws' := (wC g h now snap has hist ent res num col)) (n := 34) E hX hw [.int a1] [] (metx_X10_requireAccount l hlT g a1 t1 hv1) rfl (by decide) rfl rfl [0, 1, 2, 3, 4, 5, 6, 7, 8, 9, 10, 11, 12, 13, 14, 15, 16, 17, 18, 19, 20, 21, 22, 23, 24, 25, 26, 27, 28, 29, 30, 31, 32, 33] rfl (by decide +kernel) rfl qw369 k_X10_requireAccount ⟨rfl, rfl, Nat.le_of_ble_eq_true rfl, Nat.le_of_ble_eq_true rfl⟩ ⟨by decide, by decide⟩ hl.1 (Nat.le_of_ble_eq_true rfl) dX10_leftByDigits_1 (fun H locs q ce hw hce hcv hcl => ?_)
    exact hprop _ _ _ _ _ _ _ _ (jl hf) hw hce hcv hcl
  · refine xcallS (ws' := (wC g h now snap has hist ent res num col)) (st1 := []) (n := 34) E hw [.int a1] [] (met_X10_requireAccount l g a1 u1 hv1) rfl (by decide) rfl rfl [0, 1, 2, 3, 4, 5, 6, 7, 8, 9, 10, 11, 12, 13, 14, 15, 16, 17, 18, 19, 20, 21, 22, 23, 24, 25, 26, 27, 28, 29, 30, 31, 32, 33] rfl (by decide +kernel) rfl qw369 k_X10_requireAccount ⟨rfl, rfl, Nat.le_of_ble_eq_true rfl, Nat.le_of_ble_eq_true rfl⟩ ⟨Nat.zero_le _, Nat.zero_le _⟩ hl.1 (Nat.le_of_ble_eq_true rfl) dX10_leftByDigits_1 rfl (fun H locs hw => ?_)
    refine lv_aload_n hx hb dX10_leftByDigits_4 rfl (lv_at hl 0 rfl) ?_
    refine xget (v := .ref (h 1)) E hw 0 rfl rfl 0 (by decide) inw10 qw246 rfl rfl dX10_leftByDigits_5 ?_
    refine lv_iload_n hx hb dX10_leftByDigits_8 rfl (lv_at hl 1 rfl) ?_
    obtain ⟨v9, hv9, hf⟩ := ob_e hf
    refine xcallV (ws' := (wC g h now snap has hist ent res num col)) (st1 := [.int v9]) (n := 34) E hw [.int a1] [1, 2, 3] (met_X7_wholeOf l g h 1 now a1 v9 hv9) rfl (by decide) rfl rfl [0, 34, 35, 36, 4, 5, 6, 7, 8, 9, 10, 11, 12, 13, 14, 15, 16, 17, 18, 19, 20, 21, 22, 23, 24, 25, 26, 27, 28, 29, 30, 31, 32, 33] rfl (by decide +kernel) rfl rfl rfl rfl qw440 k_X7_wholeOf ⟨rfl, rfl, Nat.le_of_ble_eq_true rfl, Nat.le_of_ble_eq_true rfl⟩ ⟨Nat.zero_le _, Nat.zero_le _⟩ hl.1 (Nat.le_of_ble_eq_true rfl) dX10_leftByDigits_9 rfl (fun H locs hw => ?_)
    refine lv_aload_n hx hb dX10_leftByDigits_12 rfl (lv_at hl 0 rfl) ?_
    refine xget (v := .ref (h 1)) E hw 0 rfl rfl 0 (by decide) inw10 qw246 rfl rfl dX10_leftByDigits_13 ?_
    refine xget (v := .int now.1) E hw 1 rfl rfl 0 (by decide) inw7 qw101 rfl rfl dX10_leftByDigits_16 ?_
    obtain ⟨v19, hv19, hf⟩ := ob_e hf
    refine xcallS (ws' := (wC g h now snap has hist ent res num col)) (st1 := [.int v19]) (n := 34) E hw [.int v9, .int now.1] [] (met_X9_sum l g v9 now.1 v19 hv19) rfl (by decide) rfl rfl [0, 1, 2, 3, 4, 5, 6, 7, 8, 9, 10, 11, 12, 13, 14, 15, 16, 17, 18, 19, 20, 21, 22, 23, 24, 25, 26, 27, 28, 29, 30, 31, 32, 33] rfl (by decide +kernel) rfl qw492 k_X9_sum ⟨rfl, rfl, Nat.le_of_ble_eq_true rfl, Nat.le_of_ble_eq_true rfl⟩ ⟨Nat.zero_le _, Nat.zero_le _⟩ hl.1 (Nat.le_of_ble_eq_true rfl) dX10_leftByDigits_19 rfl (fun H locs hw => ?_)
    refine lv_i2l hx hb dX10_leftByDigits_22 rfl ?_
    refine lv_aload_n hx hb dX10_leftByDigits_23 rfl (lv_at hl 0 rfl) ?_
    refine xget (v := .ref (h 1)) E hw 0 rfl rfl 0 (by decide) inw10 qw246 rfl rfl dX10_leftByDigits_24 ?_
    refine xget (v := .int now.1) E hw 1 rfl rfl 0 (by decide) inw7 qw101 rfl rfl dX10_leftByDigits_27 ?_
    refine lv_iconst (v := 1) hx hb dX10_leftByDigits_30 (by decide) ?_
    refine lv_isub hx hb dX10_leftByDigits_31 ?_
    refine lv_i2l hx hb dX10_leftByDigits_32 rfl ?_
    obtain ⟨v33, hv33, hf⟩ := ob_e hf
    refine xcallS (ws' := (wC g h now snap has hist ent res num col)) (st1 := [.long v33]) (n := 34) E hw [.long v19.toInt64, .long ((now.1 - 1).toInt64)] [] (met_X5_left l g v19.toInt64 ((now.1 - 1).toInt64) v33 hv33) rfl (by decide) rfl rfl [0, 1, 2, 3, 4, 5, 6, 7, 8, 9, 10, 11, 12, 13, 14, 15, 16, 17, 18, 19, 20, 21, 22, 23, 24, 25, 26, 27, 28, 29, 30, 31, 32, 33] rfl (by decide +kernel) rfl qw499 k_X5_left ⟨rfl, rfl, Nat.le_of_ble_eq_true rfl, Nat.le_of_ble_eq_true rfl⟩ ⟨Nat.zero_le _, Nat.zero_le _⟩ hl.1 (Nat.le_of_ble_eq_true rfl) dX10_leftByDigits_33 rfl (fun H locs hw => ?_)
    refine lv_l2i hx hb dX10_leftByDigits_36 rfl ?_
    exact nrl hf
theorem k_X10_leftByDividing : xKV yX10_leftByDividing cX10_leftByDividing 2 (some .int) 1 := ⟨qw501, qw502, qw66, qw503, by decide +kernel, by decide +kernel, by decide +kernel⟩
set_option maxHeartbeats 4000000 in
set_option maxRecDepth 100000 in
theorem met_X10_leftByDividing (l : Launch) (g : xG) (h : Nat → Nat) (now : SC) (snap : SC) (has : Int32) (hist : HC) (ent : EC) (res : RC) (num : NC) (col : CC) (a1 : Int32) (out : Int32) (hf : f_X10_leftByDividing now a1 = some (Sum.inr out)) : xM l yX10_leftByDividing (xC yX10_leftByDividing cX10_leftByDividing 2 (some .int)) { frames := 2, cells := 0, slots := 0, locals := 51 } g (wC g h now snap has hist ent res num col) [.ref (h 0), .int a1] (some (.int out)) (wC g h now snap has hist ent res num col) := by
  refine xof (by decide) (Nat.le_of_ble_eq_true rfl) ⟨rfl, rfl⟩ ?_
  intro p e s m below meth c A ls E hr hlocks hw hl hpost hAe
  have hx := E.1.1
  have hb := E.1.2.1
  have hown := E.1.2.2.2.1
  have hts := E.1.2.2.2.2
  generalize hZ : (MQ below (xPost g (wC g h now snap has hist ent res num col) (wC g h now snap has hist ent res num col) s.heap.size (some (.int out))) [.ref (h 0), .int a1].toArray s 0 0 A) = ZZ
  have hret : ∀ (pc : Nat) (H : Heap) (locs : List Loc) (ls : Array Slot) (v : Int32), v = out → decode cX10_leftByDividing pc = .ok (.ireturn, 1) → xW g A s.heap (wC g h now snap has hist ent res num col) H locs → W p l e { frames := 2, cells := 0, slots := 0, locals := 51 } s m [.ref (h 0), .int a1].toArray below meth c H locs 0 0 ZZ (F0 m pc ls [.int v]) := by
    intro pc H locs ls v he hd hw
    subst he
    rw [← hZ]
    exact W.iret hx hb hr (hpost H locs hw).1 (hpost H locs hw).2 hd hlocks
  clear hpost
  refine lv_iload_n hx hb dX10_leftByDividing_0 rfl (lv_at hl 1 rfl) ?_
  obtain ⟨v1, hv1, hf⟩ := ob_e hf
  rcases v1 with t1 | u1
  · exact nlr hf
  · refine xcallS (ws' := (wC g h now snap has hist ent res num col)) (st1 := []) (n := 34) E hw [.int a1] [] (met_X10_requireAccount l g a1 u1 hv1) rfl (by decide) rfl rfl [0, 1, 2, 3, 4, 5, 6, 7, 8, 9, 10, 11, 12, 13, 14, 15, 16, 17, 18, 19, 20, 21, 22, 23, 24, 25, 26, 27, 28, 29, 30, 31, 32, 33] rfl (by decide +kernel) rfl qw369 k_X10_requireAccount ⟨rfl, rfl, Nat.le_of_ble_eq_true rfl, Nat.le_of_ble_eq_true rfl⟩ ⟨Nat.zero_le _, Nat.zero_le _⟩ hl.1 (Nat.le_of_ble_eq_true rfl) dX10_leftByDividing_1 rfl (fun H locs hw => ?_)
    refine lv_aload_n hx hb dX10_leftByDividing_4 rfl (lv_at hl 0 rfl) ?_
    refine xget (v := .ref (h 1)) E hw 0 rfl rfl 0 (by decide) inw10 qw246 rfl rfl dX10_leftByDividing_5 ?_
    refine lv_iload_n hx hb dX10_leftByDividing_8 rfl (lv_at hl 1 rfl) ?_
    obtain ⟨v9, hv9, hf⟩ := ob_e hf
    refine xcallV (ws' := (wC g h now snap has hist ent res num col)) (st1 := [.int v9]) (n := 34) E hw [.int a1] [1, 2, 3] (met_X7_wholeOf l g h 1 now a1 v9 hv9) rfl (by decide) rfl rfl [0, 34, 35, 36, 4, 5, 6, 7, 8, 9, 10, 11, 12, 13, 14, 15, 16, 17, 18, 19, 20, 21, 22, 23, 24, 25, 26, 27, 28, 29, 30, 31, 32, 33] rfl (by decide +kernel) rfl rfl rfl rfl qw440 k_X7_wholeOf ⟨rfl, rfl, Nat.le_of_ble_eq_true rfl, Nat.le_of_ble_eq_true rfl⟩ ⟨Nat.zero_le _, Nat.zero_le _⟩ hl.1 (Nat.le_of_ble_eq_true rfl) dX10_leftByDividing_9 rfl (fun H locs hw => ?_)
    refine lv_i2l hx hb dX10_leftByDividing_12 rfl ?_
    refine lv_aload_n hx hb dX10_leftByDividing_13 rfl (lv_at hl 0 rfl) ?_
    refine xget (v := .ref (h 1)) E hw 0 rfl rfl 0 (by decide) inw10 qw246 rfl rfl dX10_leftByDividing_14 ?_
    refine xget (v := .int now.1) E hw 1 rfl rfl 0 (by decide) inw7 qw101 rfl rfl dX10_leftByDividing_17 ?_
    refine lv_iconst (v := 1) hx hb dX10_leftByDividing_20 (by decide) ?_
    refine lv_isub hx hb dX10_leftByDividing_21 ?_
    refine lv_i2l hx hb dX10_leftByDividing_22 rfl ?_
    obtain ⟨v23, hv23, hf⟩ := ob_e hf
    refine xcallS (ws' := (wC g h now snap has hist ent res num col)) (st1 := [.long v23]) (n := 34) E hw [.long v9.toInt64, .long ((now.1 - 1).toInt64)] [] (met_X5_left l g v9.toInt64 ((now.1 - 1).toInt64) v23 hv23) rfl (by decide) rfl rfl [0, 1, 2, 3, 4, 5, 6, 7, 8, 9, 10, 11, 12, 13, 14, 15, 16, 17, 18, 19, 20, 21, 22, 23, 24, 25, 26, 27, 28, 29, 30, 31, 32, 33] rfl (by decide +kernel) rfl qw499 k_X5_left ⟨rfl, rfl, Nat.le_of_ble_eq_true rfl, Nat.le_of_ble_eq_true rfl⟩ ⟨Nat.zero_le _, Nat.zero_le _⟩ hl.1 (Nat.le_of_ble_eq_true rfl) dX10_leftByDividing_23 rfl (fun H locs hw => ?_)
    refine lv_l2i hx hb dX10_leftByDividing_26 rfl ?_
    exact hret _ _ _ _ _ (jr hf) dX10_leftByDividing_27 hw
set_option maxHeartbeats 4000000 in
set_option maxRecDepth 100000 in
theorem metx_X10_leftByDividing (l : Launch) (hlT : l.stackTraces = false) (g : xG) (h : Nat → Nat) (now : SC) (snap : SC) (has : Int32) (hist : HC) (ent : EC) (res : RC) (num : NC) (col : CC) (a1 : Int32) (out : Nat) (hf : f_X10_leftByDividing now a1 = some (Sum.inl out)) : xMX l yX10_leftByDividing (xC yX10_leftByDividing cX10_leftByDividing 2 (some .int)) { frames := 7, cells := 1, slots := 6, locals := 120 } g (wC g h now snap has hist ent res num col) [.ref (h 0), .int a1] (xEx out) (wC g h now snap has hist ent res num col) := by
  refine xofX (by decide) (Nat.le_of_ble_eq_true rfl) ⟨rfl, rfl⟩ ?_
  intro p e s m below meth c A ls E hlocks htab hX hw hl hpost
  have hx := E.1.1
  have hb := E.1.2.1
  have hown := E.1.2.2.2.1
  have hts := E.1.2.2.2.2
  have hx9 : ∀ (H : Heap) (locs : List Loc) (kx : Nat), kx = out → xW g A s.heap (wC g h now snap has hist ent res num col) H locs → ∀ t : State, s.vm.Alike t.vm → H.size ≤ t.heap.size → (∀ q : Nat, q < H.size → t.heap[q]? = H[q]?) → xPostX g (wC g h now snap has hist ent res num col) (wC g h now snap has hist ent res num col) s.heap.size (xEx out) (xEx kx) s t := by
    intro H locs kx he hw t h1 h2 h3
    subst he
    exact (hpost H locs hw).1 t h1 h2 h3
  have hx8 : ∀ (H : Heap) (locs : List Loc) (kx : Nat), kx = out → xW g A s.heap (wC g h now snap has hist ent res num col) H locs → ∀ z ∈ locs, A z.base := by
    intro H locs kx he hw
    subst he
    exact (hpost H locs hw).2
  clear hpost
  generalize hZ : (vx_MQ below (fun _ _ _ _ => False) (xPostX g (wC g h now snap has hist ent res num col) (wC g h now snap has hist ent res num col) s.heap.size (xEx out)) [.ref (h 0), .int a1].toArray s 1 6 A) = ZZ
  have hprop : ∀ (pc : Nat) (H : Heap) (locs : List Loc) (ls : Array Slot) (rest : List Value) (q : Nat) (ce : Cell) (kx : Nat), kx = out → xW g A s.heap (wC g h now snap has hist ent res num col) H locs → H[q]? = some ce → ce.vm = .none → s.vm.findClass (xEx kx) = some ce.cls → vx_W p l e { frames := 7, cells := 1, slots := 6, locals := 120 } s m [.ref (h 0), .int a1].toArray below meth c H locs (0 + 1) (0 + 6) ZZ (F0 m pc ls rest) q := by
    intro pc H locs ls rest q ce kx he hw hce hcv hcl
    rw [← hZ]
    exact vx_out (fun x hx => (htab x hx).elim) hlocks hce hcv hcl (fun t ht hW => hx9 H locs kx he hw t hW (by rw [ht]; exact Nat.le_refl _) (fun q _ => by rw [ht])) (hx8 H locs kx he hw) (Nat.le_refl _) (Nat.le_refl _)
  refine lv_iload_n hx hb dX10_leftByDividing_0 rfl (lv_at hl 1 rfl) ?_
  obtain ⟨v1, hv1, hf⟩ := ob_e hf
  rcases v1 with t1 | u1
  · refine xcallSX (ws' := (wC g h now snap has hist ent res num col)) (n := 34) E hX hw [.int a1] [] (metx_X10_requireAccount l hlT g a1 t1 hv1) rfl (by decide) rfl rfl [0, 1, 2, 3, 4, 5, 6, 7, 8, 9, 10, 11, 12, 13, 14, 15, 16, 17, 18, 19, 20, 21, 22, 23, 24, 25, 26, 27, 28, 29, 30, 31, 32, 33] rfl (by decide +kernel) rfl qw369 k_X10_requireAccount ⟨rfl, rfl, Nat.le_of_ble_eq_true rfl, Nat.le_of_ble_eq_true rfl⟩ ⟨by decide, by decide⟩ hl.1 (Nat.le_of_ble_eq_true rfl) dX10_leftByDividing_1 (fun H locs q ce hw hce hcv hcl => ?_)
    exact hprop _ _ _ _ _ _ _ _ (jl hf) hw hce hcv hcl
  · refine xcallS (ws' := (wC g h now snap has hist ent res num col)) (st1 := []) (n := 34) E hw [.int a1] [] (met_X10_requireAccount l g a1 u1 hv1) rfl (by decide) rfl rfl [0, 1, 2, 3, 4, 5, 6, 7, 8, 9, 10, 11, 12, 13, 14, 15, 16, 17, 18, 19, 20, 21, 22, 23, 24, 25, 26, 27, 28, 29, 30, 31, 32, 33] rfl (by decide +kernel) rfl qw369 k_X10_requireAccount ⟨rfl, rfl, Nat.le_of_ble_eq_true rfl, Nat.le_of_ble_eq_true rfl⟩ ⟨Nat.zero_le _, Nat.zero_le _⟩ hl.1 (Nat.le_of_ble_eq_true rfl) dX10_leftByDividing_1 rfl (fun H locs hw => ?_)
    refine lv_aload_n hx hb dX10_leftByDividing_4 rfl (lv_at hl 0 rfl) ?_
    refine xget (v := .ref (h 1)) E hw 0 rfl rfl 0 (by decide) inw10 qw246 rfl rfl dX10_leftByDividing_5 ?_
    refine lv_iload_n hx hb dX10_leftByDividing_8 rfl (lv_at hl 1 rfl) ?_
    obtain ⟨v9, hv9, hf⟩ := ob_e hf
    refine xcallV (ws' := (wC g h now snap has hist ent res num col)) (st1 := [.int v9]) (n := 34) E hw [.int a1] [1, 2, 3] (met_X7_wholeOf l g h 1 now a1 v9 hv9) rfl (by decide) rfl rfl [0, 34, 35, 36, 4, 5, 6, 7, 8, 9, 10, 11, 12, 13, 14, 15, 16, 17, 18, 19, 20, 21, 22, 23, 24, 25, 26, 27, 28, 29, 30, 31, 32, 33] rfl (by decide +kernel) rfl rfl rfl rfl qw440 k_X7_wholeOf ⟨rfl, rfl, Nat.le_of_ble_eq_true rfl, Nat.le_of_ble_eq_true rfl⟩ ⟨Nat.zero_le _, Nat.zero_le _⟩ hl.1 (Nat.le_of_ble_eq_true rfl) dX10_leftByDividing_9 rfl (fun H locs hw => ?_)
    refine lv_i2l hx hb dX10_leftByDividing_12 rfl ?_
    refine lv_aload_n hx hb dX10_leftByDividing_13 rfl (lv_at hl 0 rfl) ?_
    refine xget (v := .ref (h 1)) E hw 0 rfl rfl 0 (by decide) inw10 qw246 rfl rfl dX10_leftByDividing_14 ?_
    refine xget (v := .int now.1) E hw 1 rfl rfl 0 (by decide) inw7 qw101 rfl rfl dX10_leftByDividing_17 ?_
    refine lv_iconst (v := 1) hx hb dX10_leftByDividing_20 (by decide) ?_
    refine lv_isub hx hb dX10_leftByDividing_21 ?_
    refine lv_i2l hx hb dX10_leftByDividing_22 rfl ?_
    obtain ⟨v23, hv23, hf⟩ := ob_e hf
    refine xcallS (ws' := (wC g h now snap has hist ent res num col)) (st1 := [.long v23]) (n := 34) E hw [.long v9.toInt64, .long ((now.1 - 1).toInt64)] [] (met_X5_left l g v9.toInt64 ((now.1 - 1).toInt64) v23 hv23) rfl (by decide) rfl rfl [0, 1, 2, 3, 4, 5, 6, 7, 8, 9, 10, 11, 12, 13, 14, 15, 16, 17, 18, 19, 20, 21, 22, 23, 24, 25, 26, 27, 28, 29, 30, 31, 32, 33] rfl (by decide +kernel) rfl qw499 k_X5_left ⟨rfl, rfl, Nat.le_of_ble_eq_true rfl, Nat.le_of_ble_eq_true rfl⟩ ⟨Nat.zero_le _, Nat.zero_le _⟩ hl.1 (Nat.le_of_ble_eq_true rfl) dX10_leftByDividing_23 rfl (fun H locs hw => ?_)
    refine lv_l2i hx hb dX10_leftByDividing_26 rfl ?_
    exact nrl hf
theorem k_X10_headLength : xKV yX10_headLength cX10_headLength 2 (some .int) 1 := ⟨qw509, qw510, qw66, qw511, by decide +kernel, by decide +kernel, by decide +kernel⟩
set_option maxHeartbeats 4000000 in
set_option maxRecDepth 100000 in
theorem met_X10_headLength (l : Launch) (g : xG) (h : Nat → Nat) (now : SC) (snap : SC) (has : Int32) (hist : HC) (ent : EC) (res : RC) (num : NC) (col : CC) (a1 : Int32) (out : Int32) (hf : f_X10_headLength now a1 = some (Sum.inr out)) : xM l yX10_headLength (xC yX10_headLength cX10_headLength 2 (some .int)) { frames := 3, cells := 0, slots := 0, locals := 79 } g (wC g h now snap has hist ent res num col) [.ref (h 0), .int a1] (some (.int out)) (wC g h now snap has hist ent res num col) := by
  refine xof (by decide) (Nat.le_of_ble_eq_true rfl) ⟨rfl, rfl⟩ ?_
  intro p e s m below meth c A ls E hr hlocks hw hl hpost hAe
  have hx := E.1.1
  have hb := E.1.2.1
  have hown := E.1.2.2.2.1
  have hts := E.1.2.2.2.2
  generalize hZ : (MQ below (xPost g (wC g h now snap has hist ent res num col) (wC g h now snap has hist ent res num col) s.heap.size (some (.int out))) [.ref (h 0), .int a1].toArray s 0 0 A) = ZZ
  have hret : ∀ (pc : Nat) (H : Heap) (locs : List Loc) (ls : Array Slot) (v : Int32), v = out → decode cX10_headLength pc = .ok (.ireturn, 1) → xW g A s.heap (wC g h now snap has hist ent res num col) H locs → W p l e { frames := 3, cells := 0, slots := 0, locals := 79 } s m [.ref (h 0), .int a1].toArray below meth c H locs 0 0 ZZ (F0 m pc ls [.int v]) := by
    intro pc H locs ls v he hd hw
    subst he
    rw [← hZ]
    exact W.iret hx hb hr (hpost H locs hw).1 (hpost H locs hw).2 hd hlocks
  clear hpost
  refine lv_iload_n hx hb dX10_headLength_0 rfl (lv_at hl 1 rfl) ?_
  obtain ⟨v1, hv1, hf⟩ := ob_e hf
  rcases v1 with t1 | u1
  · exact nlr hf
  · refine xcallS (ws' := (wC g h now snap has hist ent res num col)) (st1 := []) (n := 34) E hw [.int a1] [] (met_X10_requireAccount l g a1 u1 hv1) rfl (by decide) rfl rfl [0, 1, 2, 3, 4, 5, 6, 7, 8, 9, 10, 11, 12, 13, 14, 15, 16, 17, 18, 19, 20, 21, 22, 23, 24, 25, 26, 27, 28, 29, 30, 31, 32, 33] rfl (by decide +kernel) rfl qw369 k_X10_requireAccount ⟨rfl, rfl, Nat.le_of_ble_eq_true rfl, Nat.le_of_ble_eq_true rfl⟩ ⟨Nat.zero_le _, Nat.zero_le _⟩ hl.1 (Nat.le_of_ble_eq_true rfl) dX10_headLength_1 rfl (fun H locs hw => ?_)
    refine lv_aload_n hx hb dX10_headLength_4 rfl (lv_at hl 0 rfl) ?_
    refine xget (v := .ref (h 1)) E hw 0 rfl rfl 0 (by decide) inw10 qw246 rfl rfl dX10_headLength_5 ?_
    refine lv_iload_n hx hb dX10_headLength_8 rfl (lv_at hl 1 rfl) ?_
    obtain ⟨v9, hv9, hf⟩ := ob_e hf
    refine xcallV (ws' := (wC g h now snap has hist ent res num col)) (st1 := [.int v9]) (n := 34) E hw [.int a1] [1, 2, 3] (met_X7_denominatorOf l g h 1 now a1 v9 hv9) rfl (by decide) rfl rfl [0, 34, 35, 36, 4, 5, 6, 7, 8, 9, 10, 11, 12, 13, 14, 15, 16, 17, 18, 19, 20, 21, 22, 23, 24, 25, 26, 27, 28, 29, 30, 31, 32, 33] rfl (by decide +kernel) rfl rfl rfl rfl qw347 k_X7_denominatorOf ⟨rfl, rfl, Nat.le_of_ble_eq_true rfl, Nat.le_of_ble_eq_true rfl⟩ ⟨Nat.zero_le _, Nat.zero_le _⟩ hl.1 (Nat.le_of_ble_eq_true rfl) dX10_headLength_9 rfl (fun H locs hw => ?_)
    refine lv_i2l hx hb dX10_headLength_12 rfl ?_
    refine lv_aload_n hx hb dX10_headLength_13 rfl (lv_at hl 0 rfl) ?_
    refine xget (v := .ref (h 1)) E hw 0 rfl rfl 0 (by decide) inw10 qw246 rfl rfl dX10_headLength_14 ?_
    refine xget (v := .int now.1) E hw 1 rfl rfl 0 (by decide) inw7 qw101 rfl rfl dX10_headLength_17 ?_
    obtain ⟨v20, hv20, hf⟩ := ob_e hf
    refine xcallS (ws' := (wC g h now snap has hist ent res num col)) (st1 := [.int v20]) (n := 34) E hw [.long v9.toInt64, .int now.1] [] (met_X0_head l g v9.toInt64 now.1 v20 hv20) rfl (by decide) rfl rfl [0, 1, 2, 3, 4, 5, 6, 7, 8, 9, 10, 11, 12, 13, 14, 15, 16, 17, 18, 19, 20, 21, 22, 23, 24, 25, 26, 27, 28, 29, 30, 31, 32, 33] rfl (by decide +kernel) rfl qw512 k_X0_head ⟨rfl, rfl, Nat.le_of_ble_eq_true rfl, Nat.le_of_ble_eq_true rfl⟩ ⟨Nat.zero_le _, Nat.zero_le _⟩ hl.1 (Nat.le_of_ble_eq_true rfl) dX10_headLength_20 rfl (fun H locs hw => ?_)
    exact hret _ _ _ _ _ (jr hf) dX10_headLength_23 hw
set_option maxHeartbeats 4000000 in
set_option maxRecDepth 100000 in
theorem metx_X10_headLength (l : Launch) (hlT : l.stackTraces = false) (g : xG) (h : Nat → Nat) (now : SC) (snap : SC) (has : Int32) (hist : HC) (ent : EC) (res : RC) (num : NC) (col : CC) (a1 : Int32) (out : Nat) (hf : f_X10_headLength now a1 = some (Sum.inl out)) : xMX l yX10_headLength (xC yX10_headLength cX10_headLength 2 (some .int)) { frames := 7, cells := 1, slots := 6, locals := 120 } g (wC g h now snap has hist ent res num col) [.ref (h 0), .int a1] (xEx out) (wC g h now snap has hist ent res num col) := by
  refine xofX (by decide) (Nat.le_of_ble_eq_true rfl) ⟨rfl, rfl⟩ ?_
  intro p e s m below meth c A ls E hlocks htab hX hw hl hpost
  have hx := E.1.1
  have hb := E.1.2.1
  have hown := E.1.2.2.2.1
  have hts := E.1.2.2.2.2
  have hx9 : ∀ (H : Heap) (locs : List Loc) (kx : Nat), kx = out → xW g A s.heap (wC g h now snap has hist ent res num col) H locs → ∀ t : State, s.vm.Alike t.vm → H.size ≤ t.heap.size → (∀ q : Nat, q < H.size → t.heap[q]? = H[q]?) → xPostX g (wC g h now snap has hist ent res num col) (wC g h now snap has hist ent res num col) s.heap.size (xEx out) (xEx kx) s t := by
    intro H locs kx he hw t h1 h2 h3
    subst he
    exact (hpost H locs hw).1 t h1 h2 h3
  have hx8 : ∀ (H : Heap) (locs : List Loc) (kx : Nat), kx = out → xW g A s.heap (wC g h now snap has hist ent res num col) H locs → ∀ z ∈ locs, A z.base := by
    intro H locs kx he hw
    subst he
    exact (hpost H locs hw).2
  clear hpost
  generalize hZ : (vx_MQ below (fun _ _ _ _ => False) (xPostX g (wC g h now snap has hist ent res num col) (wC g h now snap has hist ent res num col) s.heap.size (xEx out)) [.ref (h 0), .int a1].toArray s 1 6 A) = ZZ
  have hprop : ∀ (pc : Nat) (H : Heap) (locs : List Loc) (ls : Array Slot) (rest : List Value) (q : Nat) (ce : Cell) (kx : Nat), kx = out → xW g A s.heap (wC g h now snap has hist ent res num col) H locs → H[q]? = some ce → ce.vm = .none → s.vm.findClass (xEx kx) = some ce.cls → vx_W p l e { frames := 7, cells := 1, slots := 6, locals := 120 } s m [.ref (h 0), .int a1].toArray below meth c H locs (0 + 1) (0 + 6) ZZ (F0 m pc ls rest) q := by
    intro pc H locs ls rest q ce kx he hw hce hcv hcl
    rw [← hZ]
    exact vx_out (fun x hx => (htab x hx).elim) hlocks hce hcv hcl (fun t ht hW => hx9 H locs kx he hw t hW (by rw [ht]; exact Nat.le_refl _) (fun q _ => by rw [ht])) (hx8 H locs kx he hw) (Nat.le_refl _) (Nat.le_refl _)
  refine lv_iload_n hx hb dX10_headLength_0 rfl (lv_at hl 1 rfl) ?_
  obtain ⟨v1, hv1, hf⟩ := ob_e hf
  rcases v1 with t1 | u1
  · refine xcallSX (ws' := (wC g h now snap has hist ent res num col)) (n := 34) E hX hw [.int a1] [] (metx_X10_requireAccount l hlT g a1 t1 hv1) rfl (by decide) rfl rfl [0, 1, 2, 3, 4, 5, 6, 7, 8, 9, 10, 11, 12, 13, 14, 15, 16, 17, 18, 19, 20, 21, 22, 23, 24, 25, 26, 27, 28, 29, 30, 31, 32, 33] rfl (by decide +kernel) rfl qw369 k_X10_requireAccount ⟨rfl, rfl, Nat.le_of_ble_eq_true rfl, Nat.le_of_ble_eq_true rfl⟩ ⟨by decide, by decide⟩ hl.1 (Nat.le_of_ble_eq_true rfl) dX10_headLength_1 (fun H locs q ce hw hce hcv hcl => ?_)
    exact hprop _ _ _ _ _ _ _ _ (jl hf) hw hce hcv hcl
  · refine xcallS (ws' := (wC g h now snap has hist ent res num col)) (st1 := []) (n := 34) E hw [.int a1] [] (met_X10_requireAccount l g a1 u1 hv1) rfl (by decide) rfl rfl [0, 1, 2, 3, 4, 5, 6, 7, 8, 9, 10, 11, 12, 13, 14, 15, 16, 17, 18, 19, 20, 21, 22, 23, 24, 25, 26, 27, 28, 29, 30, 31, 32, 33] rfl (by decide +kernel) rfl qw369 k_X10_requireAccount ⟨rfl, rfl, Nat.le_of_ble_eq_true rfl, Nat.le_of_ble_eq_true rfl⟩ ⟨Nat.zero_le _, Nat.zero_le _⟩ hl.1 (Nat.le_of_ble_eq_true rfl) dX10_headLength_1 rfl (fun H locs hw => ?_)
    refine lv_aload_n hx hb dX10_headLength_4 rfl (lv_at hl 0 rfl) ?_
    refine xget (v := .ref (h 1)) E hw 0 rfl rfl 0 (by decide) inw10 qw246 rfl rfl dX10_headLength_5 ?_
    refine lv_iload_n hx hb dX10_headLength_8 rfl (lv_at hl 1 rfl) ?_
    obtain ⟨v9, hv9, hf⟩ := ob_e hf
    refine xcallV (ws' := (wC g h now snap has hist ent res num col)) (st1 := [.int v9]) (n := 34) E hw [.int a1] [1, 2, 3] (met_X7_denominatorOf l g h 1 now a1 v9 hv9) rfl (by decide) rfl rfl [0, 34, 35, 36, 4, 5, 6, 7, 8, 9, 10, 11, 12, 13, 14, 15, 16, 17, 18, 19, 20, 21, 22, 23, 24, 25, 26, 27, 28, 29, 30, 31, 32, 33] rfl (by decide +kernel) rfl rfl rfl rfl qw347 k_X7_denominatorOf ⟨rfl, rfl, Nat.le_of_ble_eq_true rfl, Nat.le_of_ble_eq_true rfl⟩ ⟨Nat.zero_le _, Nat.zero_le _⟩ hl.1 (Nat.le_of_ble_eq_true rfl) dX10_headLength_9 rfl (fun H locs hw => ?_)
    refine lv_i2l hx hb dX10_headLength_12 rfl ?_
    refine lv_aload_n hx hb dX10_headLength_13 rfl (lv_at hl 0 rfl) ?_
    refine xget (v := .ref (h 1)) E hw 0 rfl rfl 0 (by decide) inw10 qw246 rfl rfl dX10_headLength_14 ?_
    refine xget (v := .int now.1) E hw 1 rfl rfl 0 (by decide) inw7 qw101 rfl rfl dX10_headLength_17 ?_
    obtain ⟨v20, hv20, hf⟩ := ob_e hf
    refine xcallS (ws' := (wC g h now snap has hist ent res num col)) (st1 := [.int v20]) (n := 34) E hw [.long v9.toInt64, .int now.1] [] (met_X0_head l g v9.toInt64 now.1 v20 hv20) rfl (by decide) rfl rfl [0, 1, 2, 3, 4, 5, 6, 7, 8, 9, 10, 11, 12, 13, 14, 15, 16, 17, 18, 19, 20, 21, 22, 23, 24, 25, 26, 27, 28, 29, 30, 31, 32, 33] rfl (by decide +kernel) rfl qw512 k_X0_head ⟨rfl, rfl, Nat.le_of_ble_eq_true rfl, Nat.le_of_ble_eq_true rfl⟩ ⟨Nat.zero_le _, Nat.zero_le _⟩ hl.1 (Nat.le_of_ble_eq_true rfl) dX10_headLength_20 rfl (fun H locs hw => ?_)
    exact nrl hf
theorem k_X10_periodLength : xKV yX10_periodLength cX10_periodLength 4 (some .int) 1 := ⟨qw523, qw524, qw66, qw525, by decide +kernel, by decide +kernel, by decide +kernel⟩
set_option maxHeartbeats 4000000 in
set_option maxRecDepth 100000 in
theorem met_X10_periodLength (l : Launch) (g : xG) (h : Nat → Nat) (now : SC) (snap : SC) (has : Int32) (hist : HC) (ent : EC) (res : RC) (num : NC) (col : CC) (a1 : Int32) (out : Int32) (hf : f_X10_periodLength now a1 = some (Sum.inr out)) : xM l yX10_periodLength (xC yX10_periodLength cX10_periodLength 4 (some .int)) { frames := 3, cells := 0, slots := 0, locals := 79 } g (wC g h now snap has hist ent res num col) [.ref (h 0), .int a1] (some (.int out)) (wC g h now snap has hist ent res num col) := by
  refine xof (by decide) (Nat.le_of_ble_eq_true rfl) ⟨rfl, rfl⟩ ?_
  intro p e s m below meth c A ls E hr hlocks hw hl hpost hAe
  have hx := E.1.1
  have hb := E.1.2.1
  have hown := E.1.2.2.2.1
  have hts := E.1.2.2.2.2
  generalize hZ : (MQ below (xPost g (wC g h now snap has hist ent res num col) (wC g h now snap has hist ent res num col) s.heap.size (some (.int out))) [.ref (h 0), .int a1].toArray s 0 0 A) = ZZ
  have hret : ∀ (pc : Nat) (H : Heap) (locs : List Loc) (ls : Array Slot) (v : Int32), v = out → decode cX10_periodLength pc = .ok (.ireturn, 1) → xW g A s.heap (wC g h now snap has hist ent res num col) H locs → W p l e { frames := 3, cells := 0, slots := 0, locals := 79 } s m [.ref (h 0), .int a1].toArray below meth c H locs 0 0 ZZ (F0 m pc ls [.int v]) := by
    intro pc H locs ls v he hd hw
    subst he
    rw [← hZ]
    exact W.iret hx hb hr (hpost H locs hw).1 (hpost H locs hw).2 hd hlocks
  clear hpost
  refine lv_iload_n hx hb dX10_periodLength_0 rfl (lv_at hl 1 rfl) ?_
  obtain ⟨v1, hv1, hf⟩ := ob_e hf
  rcases v1 with t1 | u1
  · exact nlr hf
  · refine xcallS (ws' := (wC g h now snap has hist ent res num col)) (st1 := []) (n := 34) E hw [.int a1] [] (met_X10_requireAccount l g a1 u1 hv1) rfl (by decide) rfl rfl [0, 1, 2, 3, 4, 5, 6, 7, 8, 9, 10, 11, 12, 13, 14, 15, 16, 17, 18, 19, 20, 21, 22, 23, 24, 25, 26, 27, 28, 29, 30, 31, 32, 33] rfl (by decide +kernel) rfl qw369 k_X10_requireAccount ⟨rfl, rfl, Nat.le_of_ble_eq_true rfl, Nat.le_of_ble_eq_true rfl⟩ ⟨Nat.zero_le _, Nat.zero_le _⟩ hl.1 (Nat.le_of_ble_eq_true rfl) dX10_periodLength_1 rfl (fun H locs hw => ?_)
    refine lv_aload_n hx hb dX10_periodLength_4 rfl (lv_at hl 0 rfl) ?_
    refine xget (v := .ref (h 1)) E hw 0 rfl rfl 0 (by decide) inw10 qw246 rfl rfl dX10_periodLength_5 ?_
    refine lv_iload_n hx hb dX10_periodLength_8 rfl (lv_at hl 1 rfl) ?_
    obtain ⟨v9, hv9, hf⟩ := ob_e hf
    refine xcallV (ws' := (wC g h now snap has hist ent res num col)) (st1 := [.int v9]) (n := 34) E hw [.int a1] [1, 2, 3] (met_X7_denominatorOf l g h 1 now a1 v9 hv9) rfl (by decide) rfl rfl [0, 34, 35, 36, 4, 5, 6, 7, 8, 9, 10, 11, 12, 13, 14, 15, 16, 17, 18, 19, 20, 21, 22, 23, 24, 25, 26, 27, 28, 29, 30, 31, 32, 33] rfl (by decide +kernel) rfl rfl rfl rfl qw347 k_X7_denominatorOf ⟨rfl, rfl, Nat.le_of_ble_eq_true rfl, Nat.le_of_ble_eq_true rfl⟩ ⟨Nat.zero_le _, Nat.zero_le _⟩ hl.1 (Nat.le_of_ble_eq_true rfl) dX10_periodLength_9 rfl (fun H locs hw => ?_)
    refine lv_istore_n (lv' := [(2, .int v9), (0, .ref (h 0)), (1, .int a1)]) hx hb dX10_periodLength_12 rfl hl (by decide) rfl (fun ls hl => ?_)
    refine lv_iload_n hx hb dX10_periodLength_13 rfl (lv_at hl 0 rfl) ?_
    refine lv_i2l hx hb dX10_periodLength_14 rfl ?_
    refine lv_aload_n hx hb dX10_periodLength_15 rfl (lv_at hl 1 rfl) ?_
    refine xget (v := .ref (h 1)) E hw 0 rfl rfl 0 (by decide) inw10 qw246 rfl rfl dX10_periodLength_16 ?_
    refine xget (v := .int now.1) E hw 1 rfl rfl 0 (by decide) inw7 qw101 rfl rfl dX10_periodLength_19 ?_
    obtain ⟨v22, hv22, hf⟩ := ob_e hf
    refine xcallS (ws' := (wC g h now snap has hist ent res num col)) (st1 := [.int v22]) (n := 34) E hw [.long v9.toInt64, .int now.1] [] (met_X0_head l g v9.toInt64 now.1 v22 hv22) rfl (by decide) rfl rfl [0, 1, 2, 3, 4, 5, 6, 7, 8, 9, 10, 11, 12, 13, 14, 15, 16, 17, 18, 19, 20, 21, 22, 23, 24, 25, 26, 27, 28, 29, 30, 31, 32, 33] rfl (by decide +kernel) rfl qw512 k_X0_head ⟨rfl, rfl, Nat.le_of_ble_eq_true rfl, Nat.le_of_ble_eq_true rfl⟩ ⟨Nat.zero_le _, Nat.zero_le _⟩ hl.1 (Nat.le_of_ble_eq_true rfl) dX10_periodLength_22 rfl (fun H locs hw => ?_)
    refine lv_istore_n (lv' := [(3, .int v22), (2, .int v9), (0, .ref (h 0)), (1, .int a1)]) hx hb dX10_periodLength_25 rfl hl (by decide) rfl (fun ls hl => ?_)
    refine lv_aload_n hx hb dX10_periodLength_26 rfl (lv_at hl 2 rfl) ?_
    refine xget (v := .ref (h 1)) E hw 0 rfl rfl 0 (by decide) inw10 qw246 rfl rfl dX10_periodLength_27 ?_
    refine lv_iload_n hx hb dX10_periodLength_30 rfl (lv_at hl 3 rfl) ?_
    obtain ⟨v31, hv31, hf⟩ := ob_e hf
    refine xcallV (ws' := (wC g h now snap has hist ent res num col)) (st1 := [.long v31]) (n := 34) E hw [.int a1] [1, 2, 3] (met_X7_restOf l g h 1 now a1 v31 hv31) rfl (by decide) rfl rfl [0, 34, 35, 36, 4, 5, 6, 7, 8, 9, 10, 11, 12, 13, 14, 15, 16, 17, 18, 19, 20, 21, 22, 23, 24, 25, 26, 27, 28, 29, 30, 31, 32, 33] rfl (by decide +kernel) rfl rfl rfl rfl qw526 k_X7_restOf ⟨rfl, rfl, Nat.le_of_ble_eq_true rfl, Nat.le_of_ble_eq_true rfl⟩ ⟨Nat.zero_le _, Nat.zero_le _⟩ hl.1 (Nat.le_of_ble_eq_true rfl) dX10_periodLength_31 rfl (fun H locs hw => ?_)
    refine lv_iload_n hx hb dX10_periodLength_34 rfl (lv_at hl 1 rfl) ?_
    refine lv_i2l hx hb dX10_periodLength_35 rfl ?_
    refine lv_aload_n hx hb dX10_periodLength_36 rfl (lv_at hl 2 rfl) ?_
    refine xget (v := .ref (h 1)) E hw 0 rfl rfl 0 (by decide) inw10 qw246 rfl rfl dX10_periodLength_37 ?_
    refine xget (v := .int now.1) E hw 1 rfl rfl 0 (by decide) inw7 qw101 rfl rfl dX10_periodLength_40 ?_
    refine lv_iload_n hx hb dX10_periodLength_43 rfl (lv_at hl 0 rfl) ?_
    obtain ⟨v44, hv44, hf⟩ := ob_e hf
    refine xcallS (ws' := (wC g h now snap has hist ent res num col)) (st1 := [.int v44]) (n := 34) E hw [.long v31, .long v9.toInt64, .int now.1, .int v22] [] (met_X0_periodByDividing l g v31 v9.toInt64 now.1 v22 v44 hv44) rfl (by decide) rfl rfl [0, 1, 2, 3, 4, 5, 6, 7, 8, 9, 10, 11, 12, 13, 14, 15, 16, 17, 18, 19, 20, 21, 22, 23, 24, 25, 26, 27, 28, 29, 30, 31, 32, 33] rfl (by decide +kernel) rfl qw530 k_X0_periodByDividing ⟨rfl, rfl, Nat.le_of_ble_eq_true rfl, Nat.le_of_ble_eq_true rfl⟩ ⟨Nat.zero_le _, Nat.zero_le _⟩ hl.1 (Nat.le_of_ble_eq_true rfl) dX10_periodLength_44 rfl (fun H locs hw => ?_)
    exact hret _ _ _ _ _ (jr hf) dX10_periodLength_47 hw
set_option maxHeartbeats 4000000 in
set_option maxRecDepth 100000 in
theorem metx_X10_periodLength (l : Launch) (hlT : l.stackTraces = false) (g : xG) (h : Nat → Nat) (now : SC) (snap : SC) (has : Int32) (hist : HC) (ent : EC) (res : RC) (num : NC) (col : CC) (a1 : Int32) (out : Nat) (hf : f_X10_periodLength now a1 = some (Sum.inl out)) : xMX l yX10_periodLength (xC yX10_periodLength cX10_periodLength 4 (some .int)) { frames := 7, cells := 1, slots := 6, locals := 120 } g (wC g h now snap has hist ent res num col) [.ref (h 0), .int a1] (xEx out) (wC g h now snap has hist ent res num col) := by
  refine xofX (by decide) (Nat.le_of_ble_eq_true rfl) ⟨rfl, rfl⟩ ?_
  intro p e s m below meth c A ls E hlocks htab hX hw hl hpost
  have hx := E.1.1
  have hb := E.1.2.1
  have hown := E.1.2.2.2.1
  have hts := E.1.2.2.2.2
  have hx9 : ∀ (H : Heap) (locs : List Loc) (kx : Nat), kx = out → xW g A s.heap (wC g h now snap has hist ent res num col) H locs → ∀ t : State, s.vm.Alike t.vm → H.size ≤ t.heap.size → (∀ q : Nat, q < H.size → t.heap[q]? = H[q]?) → xPostX g (wC g h now snap has hist ent res num col) (wC g h now snap has hist ent res num col) s.heap.size (xEx out) (xEx kx) s t := by
    intro H locs kx he hw t h1 h2 h3
    subst he
    exact (hpost H locs hw).1 t h1 h2 h3
  have hx8 : ∀ (H : Heap) (locs : List Loc) (kx : Nat), kx = out → xW g A s.heap (wC g h now snap has hist ent res num col) H locs → ∀ z ∈ locs, A z.base := by
    intro H locs kx he hw
    subst he
    exact (hpost H locs hw).2
  clear hpost
  generalize hZ : (vx_MQ below (fun _ _ _ _ => False) (xPostX g (wC g h now snap has hist ent res num col) (wC g h now snap has hist ent res num col) s.heap.size (xEx out)) [.ref (h 0), .int a1].toArray s 1 6 A) = ZZ
  have hprop : ∀ (pc : Nat) (H : Heap) (locs : List Loc) (ls : Array Slot) (rest : List Value) (q : Nat) (ce : Cell) (kx : Nat), kx = out → xW g A s.heap (wC g h now snap has hist ent res num col) H locs → H[q]? = some ce → ce.vm = .none → s.vm.findClass (xEx kx) = some ce.cls → vx_W p l e { frames := 7, cells := 1, slots := 6, locals := 120 } s m [.ref (h 0), .int a1].toArray below meth c H locs (0 + 1) (0 + 6) ZZ (F0 m pc ls rest) q := by
    intro pc H locs ls rest q ce kx he hw hce hcv hcl
    rw [← hZ]
    exact vx_out (fun x hx => (htab x hx).elim) hlocks hce hcv hcl (fun t ht hW => hx9 H locs kx he hw t hW (by rw [ht]; exact Nat.le_refl _) (fun q _ => by rw [ht])) (hx8 H locs kx he hw) (Nat.le_refl _) (Nat.le_refl _)
  refine lv_iload_n hx hb dX10_periodLength_0 rfl (lv_at hl 1 rfl) ?_
  obtain ⟨v1, hv1, hf⟩ := ob_e hf
  rcases v1 with t1 | u1
  · refine xcallSX (ws' := (wC g h now snap has hist ent res num col)) (n := 34) E hX hw [.int a1] [] (metx_X10_requireAccount l hlT g a1 t1 hv1) rfl (by decide) rfl rfl [0, 1, 2, 3, 4, 5, 6, 7, 8, 9, 10, 11, 12, 13, 14, 15, 16, 17, 18, 19, 20, 21, 22, 23, 24, 25, 26, 27, 28, 29, 30, 31, 32, 33] rfl (by decide +kernel) rfl qw369 k_X10_requireAccount ⟨rfl, rfl, Nat.le_of_ble_eq_true rfl, Nat.le_of_ble_eq_true rfl⟩ ⟨by decide, by decide⟩ hl.1 (Nat.le_of_ble_eq_true rfl) dX10_periodLength_1 (fun H locs q ce hw hce hcv hcl => ?_)
    exact hprop _ _ _ _ _ _ _ _ (jl hf) hw hce hcv hcl
  · refine xcallS (ws' := (wC g h now snap has hist ent res num col)) (st1 := []) (n := 34) E hw [.int a1] [] (met_X10_requireAccount l g a1 u1 hv1) rfl (by decide) rfl rfl [0, 1, 2, 3, 4, 5, 6, 7, 8, 9, 10, 11, 12, 13, 14, 15, 16, 17, 18, 19, 20, 21, 22, 23, 24, 25, 26, 27, 28, 29, 30, 31, 32, 33] rfl (by decide +kernel) rfl qw369 k_X10_requireAccount ⟨rfl, rfl, Nat.le_of_ble_eq_true rfl, Nat.le_of_ble_eq_true rfl⟩ ⟨Nat.zero_le _, Nat.zero_le _⟩ hl.1 (Nat.le_of_ble_eq_true rfl) dX10_periodLength_1 rfl (fun H locs hw => ?_)
    refine lv_aload_n hx hb dX10_periodLength_4 rfl (lv_at hl 0 rfl) ?_
    refine xget (v := .ref (h 1)) E hw 0 rfl rfl 0 (by decide) inw10 qw246 rfl rfl dX10_periodLength_5 ?_
    refine lv_iload_n hx hb dX10_periodLength_8 rfl (lv_at hl 1 rfl) ?_
    obtain ⟨v9, hv9, hf⟩ := ob_e hf
    refine xcallV (ws' := (wC g h now snap has hist ent res num col)) (st1 := [.int v9]) (n := 34) E hw [.int a1] [1, 2, 3] (met_X7_denominatorOf l g h 1 now a1 v9 hv9) rfl (by decide) rfl rfl [0, 34, 35, 36, 4, 5, 6, 7, 8, 9, 10, 11, 12, 13, 14, 15, 16, 17, 18, 19, 20, 21, 22, 23, 24, 25, 26, 27, 28, 29, 30, 31, 32, 33] rfl (by decide +kernel) rfl rfl rfl rfl qw347 k_X7_denominatorOf ⟨rfl, rfl, Nat.le_of_ble_eq_true rfl, Nat.le_of_ble_eq_true rfl⟩ ⟨Nat.zero_le _, Nat.zero_le _⟩ hl.1 (Nat.le_of_ble_eq_true rfl) dX10_periodLength_9 rfl (fun H locs hw => ?_)
    refine lv_istore_n (lv' := [(2, .int v9), (0, .ref (h 0)), (1, .int a1)]) hx hb dX10_periodLength_12 rfl hl (by decide) rfl (fun ls hl => ?_)
    refine lv_iload_n hx hb dX10_periodLength_13 rfl (lv_at hl 0 rfl) ?_
    refine lv_i2l hx hb dX10_periodLength_14 rfl ?_
    refine lv_aload_n hx hb dX10_periodLength_15 rfl (lv_at hl 1 rfl) ?_
    refine xget (v := .ref (h 1)) E hw 0 rfl rfl 0 (by decide) inw10 qw246 rfl rfl dX10_periodLength_16 ?_
    refine xget (v := .int now.1) E hw 1 rfl rfl 0 (by decide) inw7 qw101 rfl rfl dX10_periodLength_19 ?_
    obtain ⟨v22, hv22, hf⟩ := ob_e hf
    refine xcallS (ws' := (wC g h now snap has hist ent res num col)) (st1 := [.int v22]) (n := 34) E hw [.long v9.toInt64, .int now.1] [] (met_X0_head l g v9.toInt64 now.1 v22 hv22) rfl (by decide) rfl rfl [0, 1, 2, 3, 4, 5, 6, 7, 8, 9, 10, 11, 12, 13, 14, 15, 16, 17, 18, 19, 20, 21, 22, 23, 24, 25, 26, 27, 28, 29, 30, 31, 32, 33] rfl (by decide +kernel) rfl qw512 k_X0_head ⟨rfl, rfl, Nat.le_of_ble_eq_true rfl, Nat.le_of_ble_eq_true rfl⟩ ⟨Nat.zero_le _, Nat.zero_le _⟩ hl.1 (Nat.le_of_ble_eq_true rfl) dX10_periodLength_22 rfl (fun H locs hw => ?_)
    refine lv_istore_n (lv' := [(3, .int v22), (2, .int v9), (0, .ref (h 0)), (1, .int a1)]) hx hb dX10_periodLength_25 rfl hl (by decide) rfl (fun ls hl => ?_)
    refine lv_aload_n hx hb dX10_periodLength_26 rfl (lv_at hl 2 rfl) ?_
    refine xget (v := .ref (h 1)) E hw 0 rfl rfl 0 (by decide) inw10 qw246 rfl rfl dX10_periodLength_27 ?_
    refine lv_iload_n hx hb dX10_periodLength_30 rfl (lv_at hl 3 rfl) ?_
    obtain ⟨v31, hv31, hf⟩ := ob_e hf
    refine xcallV (ws' := (wC g h now snap has hist ent res num col)) (st1 := [.long v31]) (n := 34) E hw [.int a1] [1, 2, 3] (met_X7_restOf l g h 1 now a1 v31 hv31) rfl (by decide) rfl rfl [0, 34, 35, 36, 4, 5, 6, 7, 8, 9, 10, 11, 12, 13, 14, 15, 16, 17, 18, 19, 20, 21, 22, 23, 24, 25, 26, 27, 28, 29, 30, 31, 32, 33] rfl (by decide +kernel) rfl rfl rfl rfl qw526 k_X7_restOf ⟨rfl, rfl, Nat.le_of_ble_eq_true rfl, Nat.le_of_ble_eq_true rfl⟩ ⟨Nat.zero_le _, Nat.zero_le _⟩ hl.1 (Nat.le_of_ble_eq_true rfl) dX10_periodLength_31 rfl (fun H locs hw => ?_)
    refine lv_iload_n hx hb dX10_periodLength_34 rfl (lv_at hl 1 rfl) ?_
    refine lv_i2l hx hb dX10_periodLength_35 rfl ?_
    refine lv_aload_n hx hb dX10_periodLength_36 rfl (lv_at hl 2 rfl) ?_
    refine xget (v := .ref (h 1)) E hw 0 rfl rfl 0 (by decide) inw10 qw246 rfl rfl dX10_periodLength_37 ?_
    refine xget (v := .int now.1) E hw 1 rfl rfl 0 (by decide) inw7 qw101 rfl rfl dX10_periodLength_40 ?_
    refine lv_iload_n hx hb dX10_periodLength_43 rfl (lv_at hl 0 rfl) ?_
    obtain ⟨v44, hv44, hf⟩ := ob_e hf
    refine xcallS (ws' := (wC g h now snap has hist ent res num col)) (st1 := [.int v44]) (n := 34) E hw [.long v31, .long v9.toInt64, .int now.1, .int v22] [] (met_X0_periodByDividing l g v31 v9.toInt64 now.1 v22 v44 hv44) rfl (by decide) rfl rfl [0, 1, 2, 3, 4, 5, 6, 7, 8, 9, 10, 11, 12, 13, 14, 15, 16, 17, 18, 19, 20, 21, 22, 23, 24, 25, 26, 27, 28, 29, 30, 31, 32, 33] rfl (by decide +kernel) rfl qw530 k_X0_periodByDividing ⟨rfl, rfl, Nat.le_of_ble_eq_true rfl, Nat.le_of_ble_eq_true rfl⟩ ⟨Nat.zero_le _, Nat.zero_le _⟩ hl.1 (Nat.le_of_ble_eq_true rfl) dX10_periodLength_44 rfl (fun H locs hw => ?_)
    exact nrl hf
theorem k_X10_periodByOrder : xKV yX10_periodByOrder cX10_periodByOrder 4 (some .int) 1 := ⟨qw537, qw538, qw66, qw539, by decide +kernel, by decide +kernel, by decide +kernel⟩
set_option maxHeartbeats 4000000 in
set_option maxRecDepth 100000 in
theorem met_X10_periodByOrder (l : Launch) (g : xG) (h : Nat → Nat) (now : SC) (snap : SC) (has : Int32) (hist : HC) (ent : EC) (res : RC) (num : NC) (col : CC) (a1 : Int32) (out : Int32) (hf : f_X10_periodByOrder now a1 = some (Sum.inr out)) : xM l yX10_periodByOrder (xC yX10_periodByOrder cX10_periodByOrder 4 (some .int)) { frames := 4, cells := 0, slots := 0, locals := 104 } g (wC g h now snap has hist ent res num col) [.ref (h 0), .int a1] (some (.int out)) (wC g h now snap has hist ent res num col) := by
  refine xof (by decide) (Nat.le_of_ble_eq_true rfl) ⟨rfl, rfl⟩ ?_
  intro p e s m below meth c A ls E hr hlocks hw hl hpost hAe
  have hx := E.1.1
  have hb := E.1.2.1
  have hown := E.1.2.2.2.1
  have hts := E.1.2.2.2.2
  generalize hZ : (MQ below (xPost g (wC g h now snap has hist ent res num col) (wC g h now snap has hist ent res num col) s.heap.size (some (.int out))) [.ref (h 0), .int a1].toArray s 0 0 A) = ZZ
  have hret : ∀ (pc : Nat) (H : Heap) (locs : List Loc) (ls : Array Slot) (v : Int32), v = out → decode cX10_periodByOrder pc = .ok (.ireturn, 1) → xW g A s.heap (wC g h now snap has hist ent res num col) H locs → W p l e { frames := 4, cells := 0, slots := 0, locals := 104 } s m [.ref (h 0), .int a1].toArray below meth c H locs 0 0 ZZ (F0 m pc ls [.int v]) := by
    intro pc H locs ls v he hd hw
    subst he
    rw [← hZ]
    exact W.iret hx hb hr (hpost H locs hw).1 (hpost H locs hw).2 hd hlocks
  clear hpost
  refine lv_iload_n hx hb dX10_periodByOrder_0 rfl (lv_at hl 1 rfl) ?_
  obtain ⟨v1, hv1, hf⟩ := ob_e hf
  rcases v1 with t1 | u1
  · exact nlr hf
  · refine xcallS (ws' := (wC g h now snap has hist ent res num col)) (st1 := []) (n := 34) E hw [.int a1] [] (met_X10_requireAccount l g a1 u1 hv1) rfl (by decide) rfl rfl [0, 1, 2, 3, 4, 5, 6, 7, 8, 9, 10, 11, 12, 13, 14, 15, 16, 17, 18, 19, 20, 21, 22, 23, 24, 25, 26, 27, 28, 29, 30, 31, 32, 33] rfl (by decide +kernel) rfl qw369 k_X10_requireAccount ⟨rfl, rfl, Nat.le_of_ble_eq_true rfl, Nat.le_of_ble_eq_true rfl⟩ ⟨Nat.zero_le _, Nat.zero_le _⟩ hl.1 (Nat.le_of_ble_eq_true rfl) dX10_periodByOrder_1 rfl (fun H locs hw => ?_)
    refine lv_aload_n hx hb dX10_periodByOrder_4 rfl (lv_at hl 0 rfl) ?_
    refine xget (v := .ref (h 1)) E hw 0 rfl rfl 0 (by decide) inw10 qw246 rfl rfl dX10_periodByOrder_5 ?_
    refine lv_iload_n hx hb dX10_periodByOrder_8 rfl (lv_at hl 1 rfl) ?_
    obtain ⟨v9, hv9, hf⟩ := ob_e hf
    refine xcallV (ws' := (wC g h now snap has hist ent res num col)) (st1 := [.int v9]) (n := 34) E hw [.int a1] [1, 2, 3] (met_X7_denominatorOf l g h 1 now a1 v9 hv9) rfl (by decide) rfl rfl [0, 34, 35, 36, 4, 5, 6, 7, 8, 9, 10, 11, 12, 13, 14, 15, 16, 17, 18, 19, 20, 21, 22, 23, 24, 25, 26, 27, 28, 29, 30, 31, 32, 33] rfl (by decide +kernel) rfl rfl rfl rfl qw347 k_X7_denominatorOf ⟨rfl, rfl, Nat.le_of_ble_eq_true rfl, Nat.le_of_ble_eq_true rfl⟩ ⟨Nat.zero_le _, Nat.zero_le _⟩ hl.1 (Nat.le_of_ble_eq_true rfl) dX10_periodByOrder_9 rfl (fun H locs hw => ?_)
    refine lv_i2l hx hb dX10_periodByOrder_12 rfl ?_
    refine lv_aload_n hx hb dX10_periodByOrder_13 rfl (lv_at hl 0 rfl) ?_
    refine xget (v := .ref (h 1)) E hw 0 rfl rfl 0 (by decide) inw10 qw246 rfl rfl dX10_periodByOrder_14 ?_
    refine xget (v := .int now.1) E hw 1 rfl rfl 0 (by decide) inw7 qw101 rfl rfl dX10_periodByOrder_17 ?_
    obtain ⟨v20, hv20, hf⟩ := ob_e hf
    refine xcallS (ws' := (wC g h now snap has hist ent res num col)) (st1 := [.long v20]) (n := 34) E hw [.long v9.toInt64, .int now.1] [] (met_X0_coprimePart l g v9.toInt64 now.1 v20 hv20) rfl (by decide) rfl rfl [0, 1, 2, 3, 4, 5, 6, 7, 8, 9, 10, 11, 12, 13, 14, 15, 16, 17, 18, 19, 20, 21, 22, 23, 24, 25, 26, 27, 28, 29, 30, 31, 32, 33] rfl (by decide +kernel) rfl qw540 k_X0_coprimePart ⟨rfl, rfl, Nat.le_of_ble_eq_true rfl, Nat.le_of_ble_eq_true rfl⟩ ⟨Nat.zero_le _, Nat.zero_le _⟩ hl.1 (Nat.le_of_ble_eq_true rfl) dX10_periodByOrder_20 rfl (fun H locs hw => ?_)
    refine lv_lstore_n (lv' := [(2, .long v20), (0, .ref (h 0)), (1, .int a1)]) hx hb dX10_periodByOrder_23 rfl hl (by decide) rfl (fun ls hl => ?_)
    refine lv_aload_n hx hb dX10_periodByOrder_24 rfl (lv_at hl 1 rfl) ?_
    refine xget (v := .ref (h 1)) E hw 0 rfl rfl 0 (by decide) inw10 qw246 rfl rfl dX10_periodByOrder_25 ?_
    refine xget (v := .int now.1) E hw 1 rfl rfl 0 (by decide) inw7 qw101 rfl rfl dX10_periodByOrder_28 ?_
    refine lv_lload_n hx hb dX10_periodByOrder_31 rfl (lv_at hl 0 rfl) ?_
    refine lv_sipush (v := 999) hx hb dX10_periodByOrder_32 (by decide) ?_
    obtain ⟨v35, hv35, hf⟩ := ob_e hf
    refine xcallS (ws' := (wC g h now snap has hist ent res num col)) (st1 := [.int v35]) (n := 34) E hw [.int now.1, .long v20, .int 999] [] (met_X0_timesToOne l g now.1 v20 999 v35 hv35) rfl (by decide) rfl rfl [0, 1, 2, 3, 4, 5, 6, 7, 8, 9, 10, 11, 12, 13, 14, 15, 16, 17, 18, 19, 20, 21, 22, 23, 24, 25, 26, 27, 28, 29, 30, 31, 32, 33] rfl (by decide +kernel) rfl qw544 k_X0_timesToOne ⟨rfl, rfl, Nat.le_of_ble_eq_true rfl, Nat.le_of_ble_eq_true rfl⟩ ⟨Nat.zero_le _, Nat.zero_le _⟩ hl.1 (Nat.le_of_ble_eq_true rfl) dX10_periodByOrder_35 rfl (fun H locs hw => ?_)
    exact hret _ _ _ _ _ (jr hf) dX10_periodByOrder_38 hw
set_option maxHeartbeats 4000000 in
set_option maxRecDepth 100000 in
theorem metx_X10_periodByOrder (l : Launch) (hlT : l.stackTraces = false) (g : xG) (h : Nat → Nat) (now : SC) (snap : SC) (has : Int32) (hist : HC) (ent : EC) (res : RC) (num : NC) (col : CC) (a1 : Int32) (out : Nat) (hf : f_X10_periodByOrder now a1 = some (Sum.inl out)) : xMX l yX10_periodByOrder (xC yX10_periodByOrder cX10_periodByOrder 4 (some .int)) { frames := 7, cells := 1, slots := 6, locals := 120 } g (wC g h now snap has hist ent res num col) [.ref (h 0), .int a1] (xEx out) (wC g h now snap has hist ent res num col) := by
  refine xofX (by decide) (Nat.le_of_ble_eq_true rfl) ⟨rfl, rfl⟩ ?_
  intro p e s m below meth c A ls E hlocks htab hX hw hl hpost
  have hx := E.1.1
  have hb := E.1.2.1
  have hown := E.1.2.2.2.1
  have hts := E.1.2.2.2.2
  have hx9 : ∀ (H : Heap) (locs : List Loc) (kx : Nat), kx = out → xW g A s.heap (wC g h now snap has hist ent res num col) H locs → ∀ t : State, s.vm.Alike t.vm → H.size ≤ t.heap.size → (∀ q : Nat, q < H.size → t.heap[q]? = H[q]?) → xPostX g (wC g h now snap has hist ent res num col) (wC g h now snap has hist ent res num col) s.heap.size (xEx out) (xEx kx) s t := by
    intro H locs kx he hw t h1 h2 h3
    subst he
    exact (hpost H locs hw).1 t h1 h2 h3
  have hx8 : ∀ (H : Heap) (locs : List Loc) (kx : Nat), kx = out → xW g A s.heap (wC g h now snap has hist ent res num col) H locs → ∀ z ∈ locs, A z.base := by
    intro H locs kx he hw
    subst he
    exact (hpost H locs hw).2
  clear hpost
  generalize hZ : (vx_MQ below (fun _ _ _ _ => False) (xPostX g (wC g h now snap has hist ent res num col) (wC g h now snap has hist ent res num col) s.heap.size (xEx out)) [.ref (h 0), .int a1].toArray s 1 6 A) = ZZ
  have hprop : ∀ (pc : Nat) (H : Heap) (locs : List Loc) (ls : Array Slot) (rest : List Value) (q : Nat) (ce : Cell) (kx : Nat), kx = out → xW g A s.heap (wC g h now snap has hist ent res num col) H locs → H[q]? = some ce → ce.vm = .none → s.vm.findClass (xEx kx) = some ce.cls → vx_W p l e { frames := 7, cells := 1, slots := 6, locals := 120 } s m [.ref (h 0), .int a1].toArray below meth c H locs (0 + 1) (0 + 6) ZZ (F0 m pc ls rest) q := by
    intro pc H locs ls rest q ce kx he hw hce hcv hcl
    rw [← hZ]
    exact vx_out (fun x hx => (htab x hx).elim) hlocks hce hcv hcl (fun t ht hW => hx9 H locs kx he hw t hW (by rw [ht]; exact Nat.le_refl _) (fun q _ => by rw [ht])) (hx8 H locs kx he hw) (Nat.le_refl _) (Nat.le_refl _)
  refine lv_iload_n hx hb dX10_periodByOrder_0 rfl (lv_at hl 1 rfl) ?_
  obtain ⟨v1, hv1, hf⟩ := ob_e hf
  rcases v1 with t1 | u1
  · refine xcallSX (ws' := (wC g h now snap has hist ent res num col)) (n := 34) E hX hw [.int a1] [] (metx_X10_requireAccount l hlT g a1 t1 hv1) rfl (by decide) rfl rfl [0, 1, 2, 3, 4, 5, 6, 7, 8, 9, 10, 11, 12, 13, 14, 15, 16, 17, 18, 19, 20, 21, 22, 23, 24, 25, 26, 27, 28, 29, 30, 31, 32, 33] rfl (by decide +kernel) rfl qw369 k_X10_requireAccount ⟨rfl, rfl, Nat.le_of_ble_eq_true rfl, Nat.le_of_ble_eq_true rfl⟩ ⟨by decide, by decide⟩ hl.1 (Nat.le_of_ble_eq_true rfl) dX10_periodByOrder_1 (fun H locs q ce hw hce hcv hcl => ?_)
    exact hprop _ _ _ _ _ _ _ _ (jl hf) hw hce hcv hcl
  · refine xcallS (ws' := (wC g h now snap has hist ent res num col)) (st1 := []) (n := 34) E hw [.int a1] [] (met_X10_requireAccount l g a1 u1 hv1) rfl (by decide) rfl rfl [0, 1, 2, 3, 4, 5, 6, 7, 8, 9, 10, 11, 12, 13, 14, 15, 16, 17, 18, 19, 20, 21, 22, 23, 24, 25, 26, 27, 28, 29, 30, 31, 32, 33] rfl (by decide +kernel) rfl qw369 k_X10_requireAccount ⟨rfl, rfl, Nat.le_of_ble_eq_true rfl, Nat.le_of_ble_eq_true rfl⟩ ⟨Nat.zero_le _, Nat.zero_le _⟩ hl.1 (Nat.le_of_ble_eq_true rfl) dX10_periodByOrder_1 rfl (fun H locs hw => ?_)
    refine lv_aload_n hx hb dX10_periodByOrder_4 rfl (lv_at hl 0 rfl) ?_
    refine xget (v := .ref (h 1)) E hw 0 rfl rfl 0 (by decide) inw10 qw246 rfl rfl dX10_periodByOrder_5 ?_
    refine lv_iload_n hx hb dX10_periodByOrder_8 rfl (lv_at hl 1 rfl) ?_
    obtain ⟨v9, hv9, hf⟩ := ob_e hf
    refine xcallV (ws' := (wC g h now snap has hist ent res num col)) (st1 := [.int v9]) (n := 34) E hw [.int a1] [1, 2, 3] (met_X7_denominatorOf l g h 1 now a1 v9 hv9) rfl (by decide) rfl rfl [0, 34, 35, 36, 4, 5, 6, 7, 8, 9, 10, 11, 12, 13, 14, 15, 16, 17, 18, 19, 20, 21, 22, 23, 24, 25, 26, 27, 28, 29, 30, 31, 32, 33] rfl (by decide +kernel) rfl rfl rfl rfl qw347 k_X7_denominatorOf ⟨rfl, rfl, Nat.le_of_ble_eq_true rfl, Nat.le_of_ble_eq_true rfl⟩ ⟨Nat.zero_le _, Nat.zero_le _⟩ hl.1 (Nat.le_of_ble_eq_true rfl) dX10_periodByOrder_9 rfl (fun H locs hw => ?_)
    refine lv_i2l hx hb dX10_periodByOrder_12 rfl ?_
    refine lv_aload_n hx hb dX10_periodByOrder_13 rfl (lv_at hl 0 rfl) ?_
    refine xget (v := .ref (h 1)) E hw 0 rfl rfl 0 (by decide) inw10 qw246 rfl rfl dX10_periodByOrder_14 ?_
    refine xget (v := .int now.1) E hw 1 rfl rfl 0 (by decide) inw7 qw101 rfl rfl dX10_periodByOrder_17 ?_
    obtain ⟨v20, hv20, hf⟩ := ob_e hf
    refine xcallS (ws' := (wC g h now snap has hist ent res num col)) (st1 := [.long v20]) (n := 34) E hw [.long v9.toInt64, .int now.1] [] (met_X0_coprimePart l g v9.toInt64 now.1 v20 hv20) rfl (by decide) rfl rfl [0, 1, 2, 3, 4, 5, 6, 7, 8, 9, 10, 11, 12, 13, 14, 15, 16, 17, 18, 19, 20, 21, 22, 23, 24, 25, 26, 27, 28, 29, 30, 31, 32, 33] rfl (by decide +kernel) rfl qw540 k_X0_coprimePart ⟨rfl, rfl, Nat.le_of_ble_eq_true rfl, Nat.le_of_ble_eq_true rfl⟩ ⟨Nat.zero_le _, Nat.zero_le _⟩ hl.1 (Nat.le_of_ble_eq_true rfl) dX10_periodByOrder_20 rfl (fun H locs hw => ?_)
    refine lv_lstore_n (lv' := [(2, .long v20), (0, .ref (h 0)), (1, .int a1)]) hx hb dX10_periodByOrder_23 rfl hl (by decide) rfl (fun ls hl => ?_)
    refine lv_aload_n hx hb dX10_periodByOrder_24 rfl (lv_at hl 1 rfl) ?_
    refine xget (v := .ref (h 1)) E hw 0 rfl rfl 0 (by decide) inw10 qw246 rfl rfl dX10_periodByOrder_25 ?_
    refine xget (v := .int now.1) E hw 1 rfl rfl 0 (by decide) inw7 qw101 rfl rfl dX10_periodByOrder_28 ?_
    refine lv_lload_n hx hb dX10_periodByOrder_31 rfl (lv_at hl 0 rfl) ?_
    refine lv_sipush (v := 999) hx hb dX10_periodByOrder_32 (by decide) ?_
    obtain ⟨v35, hv35, hf⟩ := ob_e hf
    refine xcallS (ws' := (wC g h now snap has hist ent res num col)) (st1 := [.int v35]) (n := 34) E hw [.int now.1, .long v20, .int 999] [] (met_X0_timesToOne l g now.1 v20 999 v35 hv35) rfl (by decide) rfl rfl [0, 1, 2, 3, 4, 5, 6, 7, 8, 9, 10, 11, 12, 13, 14, 15, 16, 17, 18, 19, 20, 21, 22, 23, 24, 25, 26, 27, 28, 29, 30, 31, 32, 33] rfl (by decide +kernel) rfl qw544 k_X0_timesToOne ⟨rfl, rfl, Nat.le_of_ble_eq_true rfl, Nat.le_of_ble_eq_true rfl⟩ ⟨Nat.zero_le _, Nat.zero_le _⟩ hl.1 (Nat.le_of_ble_eq_true rfl) dX10_periodByOrder_35 rfl (fun H locs hw => ?_)
    exact nrl hf
theorem k_X10_digitBehind : xKV yX10_digitBehind cX10_digitBehind 3 (some .int) 2 := ⟨qw548, qw549, qw66, qw550, by decide +kernel, by decide +kernel, by decide +kernel⟩
set_option maxHeartbeats 4000000 in
set_option maxRecDepth 100000 in
theorem met_X10_digitBehind (l : Launch) (g : xG) (h : Nat → Nat) (now : SC) (snap : SC) (has : Int32) (hist : HC) (ent : EC) (res : RC) (num : NC) (col : CC) (a1 : Int32) (a2 : Int32) (out : Int32) (hf : f_X10_digitBehind now a1 a2 = some (Sum.inr out)) : xM l yX10_digitBehind (xC yX10_digitBehind cX10_digitBehind 3 (some .int)) { frames := 2, cells := 0, slots := 0, locals := 55 } g (wC g h now snap has hist ent res num col) [.ref (h 0), .int a1, .int a2] (some (.int out)) (wC g h now snap has hist ent res num col) := by
  refine xof (by decide) (Nat.le_of_ble_eq_true rfl) ⟨rfl, rfl⟩ ?_
  intro p e s m below meth c A ls E hr hlocks hw hl hpost hAe
  have hx := E.1.1
  have hb := E.1.2.1
  have hown := E.1.2.2.2.1
  have hts := E.1.2.2.2.2
  generalize hZ : (MQ below (xPost g (wC g h now snap has hist ent res num col) (wC g h now snap has hist ent res num col) s.heap.size (some (.int out))) [.ref (h 0), .int a1, .int a2].toArray s 0 0 A) = ZZ
  have hret : ∀ (pc : Nat) (H : Heap) (locs : List Loc) (ls : Array Slot) (v : Int32), v = out → decode cX10_digitBehind pc = .ok (.ireturn, 1) → xW g A s.heap (wC g h now snap has hist ent res num col) H locs → W p l e { frames := 2, cells := 0, slots := 0, locals := 55 } s m [.ref (h 0), .int a1, .int a2].toArray below meth c H locs 0 0 ZZ (F0 m pc ls [.int v]) := by
    intro pc H locs ls v he hd hw
    subst he
    rw [← hZ]
    exact W.iret hx hb hr (hpost H locs hw).1 (hpost H locs hw).2 hd hlocks
  clear hpost
  have b15 : ∀ (H : Heap) (locs : List Loc) (ls : Array Slot), xW g A s.heap (wC g h now snap has hist ent res num col) H locs → lv_has ls 3 [] → f_X10_digitBehind_b15 now = some (Sum.inr out) → W p l e { frames := 2, cells := 0, slots := 0, locals := 55 } s m [.ref (h 0), .int a1, .int a2].toArray below meth c H locs 0 0 ZZ (F0 m 15 ls []) := by
    intro H locs ls hw hl hf
    exact nlr hf
  refine lv_iload_n hx hb dX10_digitBehind_0 rfl (lv_at hl 1 rfl) ?_
  obtain ⟨v1, hv1, hf⟩ := ob_e hf
  rcases v1 with t1 | u1
  · exact nlr hf
  · refine xcallS (ws' := (wC g h now snap has hist ent res num col)) (st1 := []) (n := 34) E hw [.int a1] [] (met_X10_requireAccount l g a1 u1 hv1) rfl (by decide) rfl rfl [0, 1, 2, 3, 4, 5, 6, 7, 8, 9, 10, 11, 12, 13, 14, 15, 16, 17, 18, 19, 20, 21, 22, 23, 24, 25, 26, 27, 28, 29, 30, 31, 32, 33] rfl (by decide +kernel) rfl qw369 k_X10_requireAccount ⟨rfl, rfl, Nat.le_of_ble_eq_true rfl, Nat.le_of_ble_eq_true rfl⟩ ⟨Nat.zero_le _, Nat.zero_le _⟩ hl.1 (Nat.le_of_ble_eq_true rfl) dX10_digitBehind_1 rfl (fun H locs hw => ?_)
    refine lv_iload_n hx hb dX10_digitBehind_4 rfl (lv_at hl 2 rfl) ?_
    refine lv_if_lt (tgt := 15) hx hb dX10_digitBehind_5 (by decide) (fun c5 => ?_) (fun c5 => ?_)
    · replace hf := ip c5 hf
      exact b15 _ _ _  hw (lv_sub hl [] rfl) hf
    · replace hf := iq c5 hf
      refine lv_iload_n hx hb dX10_digitBehind_8 rfl (lv_at hl 2 rfl) ?_
      refine lv_sipush (v := 2000) hx hb dX10_digitBehind_9 (by decide) ?_
      refine lv_icmp_le (tgt := 25) hx hb dX10_digitBehind_12 (by decide) (fun c12 => ?_) (fun c12 => ?_)
      · replace hf := ip c12 hf
        refine lv_aload_n hx hb dX10_digitBehind_25 rfl (lv_at hl 0 rfl) ?_
        refine xget (v := .ref (h 1)) E hw 0 rfl rfl 0 (by decide) inw10 qw246 rfl rfl dX10_digitBehind_26 ?_
        refine lv_iload_n hx hb dX10_digitBehind_29 rfl (lv_at hl 1 rfl) ?_
        obtain ⟨v30, hv30, hf⟩ := ob_e hf
        refine xcallV (ws' := (wC g h now snap has hist ent res num col)) (st1 := [.long v30]) (n := 34) E hw [.int a1] [1, 2, 3] (met_X7_restOf l g h 1 now a1 v30 hv30) rfl (by decide) rfl rfl [0, 34, 35, 36, 4, 5, 6, 7, 8, 9, 10, 11, 12, 13, 14, 15, 16, 17, 18, 19, 20, 21, 22, 23, 24, 25, 26, 27, 28, 29, 30, 31, 32, 33] rfl (by decide +kernel) rfl rfl rfl rfl qw526 k_X7_restOf ⟨rfl, rfl, Nat.le_of_ble_eq_true rfl, Nat.le_of_ble_eq_true rfl⟩ ⟨Nat.zero_le _, Nat.zero_le _⟩ hl.1 (Nat.le_of_ble_eq_true rfl) dX10_digitBehind_30 rfl (fun H locs hw => ?_)
        refine lv_aload_n hx hb dX10_digitBehind_33 rfl (lv_at hl 0 rfl) ?_
        refine xget (v := .ref (h 1)) E hw 0 rfl rfl 0 (by decide) inw10 qw246 rfl rfl dX10_digitBehind_34 ?_
        refine lv_iload_n hx hb dX10_digitBehind_37 rfl (lv_at hl 1 rfl) ?_
        obtain ⟨v38, hv38, hf⟩ := ob_e hf
        refine xcallV (ws' := (wC g h now snap has hist ent res num col)) (st1 := [.int v38, .long v30]) (n := 34) E hw [.int a1] [1, 2, 3] (met_X7_denominatorOf l g h 1 now a1 v38 hv38) rfl (by decide) rfl rfl [0, 34, 35, 36, 4, 5, 6, 7, 8, 9, 10, 11, 12, 13, 14, 15, 16, 17, 18, 19, 20, 21, 22, 23, 24, 25, 26, 27, 28, 29, 30, 31, 32, 33] rfl (by decide +kernel) rfl rfl rfl rfl qw347 k_X7_denominatorOf ⟨rfl, rfl, Nat.le_of_ble_eq_true rfl, Nat.le_of_ble_eq_true rfl⟩ ⟨Nat.zero_le _, Nat.zero_le _⟩ hl.1 (Nat.le_of_ble_eq_true rfl) dX10_digitBehind_38 rfl (fun H locs hw => ?_)
        refine lv_i2l hx hb dX10_digitBehind_41 rfl ?_
        refine lv_aload_n hx hb dX10_digitBehind_42 rfl (lv_at hl 0 rfl) ?_
        refine xget (v := .ref (h 1)) E hw 0 rfl rfl 0 (by decide) inw10 qw246 rfl rfl dX10_digitBehind_43 ?_
        refine xget (v := .int now.1) E hw 1 rfl rfl 0 (by decide) inw7 qw101 rfl rfl dX10_digitBehind_46 ?_
        refine lv_iload_n hx hb dX10_digitBehind_49 rfl (lv_at hl 2 rfl) ?_
        obtain ⟨v50, hv50, hf⟩ := ob_e hf
        refine xcallS (ws' := (wC g h now snap has hist ent res num col)) (st1 := [.int v50]) (n := 34) E hw [.long v30, .long v38.toInt64, .int now.1, .int a2] [] (met_X0_digit l g v30 v38.toInt64 now.1 a2 v50 hv50) rfl (by decide) rfl rfl [0, 1, 2, 3, 4, 5, 6, 7, 8, 9, 10, 11, 12, 13, 14, 15, 16, 17, 18, 19, 20, 21, 22, 23, 24, 25, 26, 27, 28, 29, 30, 31, 32, 33] rfl (by decide +kernel) rfl qw567 k_X0_digit ⟨rfl, rfl, Nat.le_of_ble_eq_true rfl, Nat.le_of_ble_eq_true rfl⟩ ⟨Nat.zero_le _, Nat.zero_le _⟩ hl.1 (Nat.le_of_ble_eq_true rfl) dX10_digitBehind_50 rfl (fun H locs hw => ?_)
        exact hret _ _ _ _ _ (jr hf) dX10_digitBehind_53 hw
      · replace hf := iq c12 hf
        exact b15 _ _ _  hw (lv_sub hl [] rfl) hf
set_option maxHeartbeats 4000000 in
set_option maxRecDepth 100000 in
theorem metx_X10_digitBehind (l : Launch) (hlT : l.stackTraces = false) (g : xG) (h : Nat → Nat) (now : SC) (snap : SC) (has : Int32) (hist : HC) (ent : EC) (res : RC) (num : NC) (col : CC) (a1 : Int32) (a2 : Int32) (out : Nat) (hf : f_X10_digitBehind now a1 a2 = some (Sum.inl out)) : xMX l yX10_digitBehind (xC yX10_digitBehind cX10_digitBehind 3 (some .int)) { frames := 7, cells := 1, slots := 6, locals := 120 } g (wC g h now snap has hist ent res num col) [.ref (h 0), .int a1, .int a2] (xEx out) (wC g h now snap has hist ent res num col) := by
  refine xofX (by decide) (Nat.le_of_ble_eq_true rfl) ⟨rfl, rfl⟩ ?_
  intro p e s m below meth c A ls E hlocks htab hX hw hl hpost
  have hx := E.1.1
  have hb := E.1.2.1
  have hown := E.1.2.2.2.1
  have hts := E.1.2.2.2.2
  have hx9 : ∀ (H : Heap) (locs : List Loc) (kx : Nat), kx = out → xW g A s.heap (wC g h now snap has hist ent res num col) H locs → ∀ t : State, s.vm.Alike t.vm → H.size ≤ t.heap.size → (∀ q : Nat, q < H.size → t.heap[q]? = H[q]?) → xPostX g (wC g h now snap has hist ent res num col) (wC g h now snap has hist ent res num col) s.heap.size (xEx out) (xEx kx) s t := by
    intro H locs kx he hw t h1 h2 h3
    subst he
    exact (hpost H locs hw).1 t h1 h2 h3
  have hx8 : ∀ (H : Heap) (locs : List Loc) (kx : Nat), kx = out → xW g A s.heap (wC g h now snap has hist ent res num col) H locs → ∀ z ∈ locs, A z.base := by
    intro H locs kx he hw
    subst he
    exact (hpost H locs hw).2
  clear hpost
  generalize hZ : (vx_MQ below (fun _ _ _ _ => False) (xPostX g (wC g h now snap has hist ent res num col) (wC g h now snap has hist ent res num col) s.heap.size (xEx out)) [.ref (h 0), .int a1, .int a2].toArray s 1 6 A) = ZZ
  have hprop : ∀ (pc : Nat) (H : Heap) (locs : List Loc) (ls : Array Slot) (rest : List Value) (q : Nat) (ce : Cell) (kx : Nat), kx = out → xW g A s.heap (wC g h now snap has hist ent res num col) H locs → H[q]? = some ce → ce.vm = .none → s.vm.findClass (xEx kx) = some ce.cls → vx_W p l e { frames := 7, cells := 1, slots := 6, locals := 120 } s m [.ref (h 0), .int a1, .int a2].toArray below meth c H locs (0 + 1) (0 + 6) ZZ (F0 m pc ls rest) q := by
    intro pc H locs ls rest q ce kx he hw hce hcv hcl
    rw [← hZ]
    exact vx_out (fun x hx => (htab x hx).elim) hlocks hce hcv hcl (fun t ht hW => hx9 H locs kx he hw t hW (by rw [ht]; exact Nat.le_refl _) (fun q _ => by rw [ht])) (hx8 H locs kx he hw) (Nat.le_refl _) (Nat.le_refl _)
  have b15 : ∀ (H : Heap) (locs : List Loc) (ls : Array Slot), xW g A s.heap (wC g h now snap has hist ent res num col) H locs → lv_has ls 3 [] → f_X10_digitBehind_b15 now = some (Sum.inl out) → W p l e { frames := 7, cells := 1, slots := 6, locals := 120 } s m [.ref (h 0), .int a1, .int a2].toArray below meth c H locs 0 0 ZZ (F0 m 15 ls []) := by
    intro H locs ls hw hl hf
    rw [← hZ]
    exact xthrow (text := "place out of range") hlT E hX htab hlocks hw (by decide) qw551 qw78 xat2 xbt2 xct2 (by decide) hl.1 dX10_digitBehind_15 dX10_digitBehind_18 dX10_digitBehind_19 dX10_digitBehind_21 dX10_digitBehind_24 ⟨by decide, Nat.le_of_ble_eq_true rfl, by decide, by decide⟩ (hx9 _ _ _ (jl hf) hw)
  refine lv_iload_n hx hb dX10_digitBehind_0 rfl (lv_at hl 1 rfl) ?_
  obtain ⟨v1, hv1, hf⟩ := ob_e hf
  rcases v1 with t1 | u1
  · refine xcallSX (ws' := (wC g h now snap has hist ent res num col)) (n := 34) E hX hw [.int a1] [] (metx_X10_requireAccount l hlT g a1 t1 hv1) rfl (by decide) rfl rfl [0, 1, 2, 3, 4, 5, 6, 7, 8, 9, 10, 11, 12, 13, 14, 15, 16, 17, 18, 19, 20, 21, 22, 23, 24, 25, 26, 27, 28, 29, 30, 31, 32, 33] rfl (by decide +kernel) rfl qw369 k_X10_requireAccount ⟨rfl, rfl, Nat.le_of_ble_eq_true rfl, Nat.le_of_ble_eq_true rfl⟩ ⟨by decide, by decide⟩ hl.1 (Nat.le_of_ble_eq_true rfl) dX10_digitBehind_1 (fun H locs q ce hw hce hcv hcl => ?_)
    exact hprop _ _ _ _ _ _ _ _ (jl hf) hw hce hcv hcl
  · refine xcallS (ws' := (wC g h now snap has hist ent res num col)) (st1 := []) (n := 34) E hw [.int a1] [] (met_X10_requireAccount l g a1 u1 hv1) rfl (by decide) rfl rfl [0, 1, 2, 3, 4, 5, 6, 7, 8, 9, 10, 11, 12, 13, 14, 15, 16, 17, 18, 19, 20, 21, 22, 23, 24, 25, 26, 27, 28, 29, 30, 31, 32, 33] rfl (by decide +kernel) rfl qw369 k_X10_requireAccount ⟨rfl, rfl, Nat.le_of_ble_eq_true rfl, Nat.le_of_ble_eq_true rfl⟩ ⟨Nat.zero_le _, Nat.zero_le _⟩ hl.1 (Nat.le_of_ble_eq_true rfl) dX10_digitBehind_1 rfl (fun H locs hw => ?_)
    refine lv_iload_n hx hb dX10_digitBehind_4 rfl (lv_at hl 2 rfl) ?_
    refine lv_if_lt (tgt := 15) hx hb dX10_digitBehind_5 (by decide) (fun c5 => ?_) (fun c5 => ?_)
    · replace hf := ip c5 hf
      exact b15 _ _ _  hw (lv_sub hl [] rfl) hf
    · replace hf := iq c5 hf
      refine lv_iload_n hx hb dX10_digitBehind_8 rfl (lv_at hl 2 rfl) ?_
      refine lv_sipush (v := 2000) hx hb dX10_digitBehind_9 (by decide) ?_
      refine lv_icmp_le (tgt := 25) hx hb dX10_digitBehind_12 (by decide) (fun c12 => ?_) (fun c12 => ?_)
      · replace hf := ip c12 hf
        refine lv_aload_n hx hb dX10_digitBehind_25 rfl (lv_at hl 0 rfl) ?_
        refine xget (v := .ref (h 1)) E hw 0 rfl rfl 0 (by decide) inw10 qw246 rfl rfl dX10_digitBehind_26 ?_
        refine lv_iload_n hx hb dX10_digitBehind_29 rfl (lv_at hl 1 rfl) ?_
        obtain ⟨v30, hv30, hf⟩ := ob_e hf
        refine xcallV (ws' := (wC g h now snap has hist ent res num col)) (st1 := [.long v30]) (n := 34) E hw [.int a1] [1, 2, 3] (met_X7_restOf l g h 1 now a1 v30 hv30) rfl (by decide) rfl rfl [0, 34, 35, 36, 4, 5, 6, 7, 8, 9, 10, 11, 12, 13, 14, 15, 16, 17, 18, 19, 20, 21, 22, 23, 24, 25, 26, 27, 28, 29, 30, 31, 32, 33] rfl (by decide +kernel) rfl rfl rfl rfl qw526 k_X7_restOf ⟨rfl, rfl, Nat.le_of_ble_eq_true rfl, Nat.le_of_ble_eq_true rfl⟩ ⟨Nat.zero_le _, Nat.zero_le _⟩ hl.1 (Nat.le_of_ble_eq_true rfl) dX10_digitBehind_30 rfl (fun H locs hw => ?_)
        refine lv_aload_n hx hb dX10_digitBehind_33 rfl (lv_at hl 0 rfl) ?_
        refine xget (v := .ref (h 1)) E hw 0 rfl rfl 0 (by decide) inw10 qw246 rfl rfl dX10_digitBehind_34 ?_
        refine lv_iload_n hx hb dX10_digitBehind_37 rfl (lv_at hl 1 rfl) ?_
        obtain ⟨v38, hv38, hf⟩ := ob_e hf
        refine xcallV (ws' := (wC g h now snap has hist ent res num col)) (st1 := [.int v38, .long v30]) (n := 34) E hw [.int a1] [1, 2, 3] (met_X7_denominatorOf l g h 1 now a1 v38 hv38) rfl (by decide) rfl rfl [0, 34, 35, 36, 4, 5, 6, 7, 8, 9, 10, 11, 12, 13, 14, 15, 16, 17, 18, 19, 20, 21, 22, 23, 24, 25, 26, 27, 28, 29, 30, 31, 32, 33] rfl (by decide +kernel) rfl rfl rfl rfl qw347 k_X7_denominatorOf ⟨rfl, rfl, Nat.le_of_ble_eq_true rfl, Nat.le_of_ble_eq_true rfl⟩ ⟨Nat.zero_le _, Nat.zero_le _⟩ hl.1 (Nat.le_of_ble_eq_true rfl) dX10_digitBehind_38 rfl (fun H locs hw => ?_)
        refine lv_i2l hx hb dX10_digitBehind_41 rfl ?_
        refine lv_aload_n hx hb dX10_digitBehind_42 rfl (lv_at hl 0 rfl) ?_
        refine xget (v := .ref (h 1)) E hw 0 rfl rfl 0 (by decide) inw10 qw246 rfl rfl dX10_digitBehind_43 ?_
        refine xget (v := .int now.1) E hw 1 rfl rfl 0 (by decide) inw7 qw101 rfl rfl dX10_digitBehind_46 ?_
        refine lv_iload_n hx hb dX10_digitBehind_49 rfl (lv_at hl 2 rfl) ?_
        obtain ⟨v50, hv50, hf⟩ := ob_e hf
        refine xcallS (ws' := (wC g h now snap has hist ent res num col)) (st1 := [.int v50]) (n := 34) E hw [.long v30, .long v38.toInt64, .int now.1, .int a2] [] (met_X0_digit l g v30 v38.toInt64 now.1 a2 v50 hv50) rfl (by decide) rfl rfl [0, 1, 2, 3, 4, 5, 6, 7, 8, 9, 10, 11, 12, 13, 14, 15, 16, 17, 18, 19, 20, 21, 22, 23, 24, 25, 26, 27, 28, 29, 30, 31, 32, 33] rfl (by decide +kernel) rfl qw567 k_X0_digit ⟨rfl, rfl, Nat.le_of_ble_eq_true rfl, Nat.le_of_ble_eq_true rfl⟩ ⟨Nat.zero_le _, Nat.zero_le _⟩ hl.1 (Nat.le_of_ble_eq_true rfl) dX10_digitBehind_50 rfl (fun H locs hw => ?_)
        exact nrl hf
      · replace hf := iq c12 hf
        exact b15 _ _ _  hw (lv_sub hl [] rfl) hf
theorem k_X10_shortestBase : xKV yX10_shortestBase cX10_shortestBase 8 (some .int) 1 := ⟨qw571, qw572, qw66, qw573, by decide +kernel, by decide +kernel, by decide +kernel⟩
set_option maxHeartbeats 4000000 in
set_option maxRecDepth 100000 in
theorem met_X10_shortestBase (l : Launch) (g : xG) (h : Nat → Nat) (now : SC) (snap : SC) (has : Int32) (hist : HC) (ent : EC) (res : RC) (num : NC) (col : CC) (a1 : Int32) (out : Int32) (hf : f_X10_shortestBase now a1 = some (Sum.inr out)) : xM l yX10_shortestBase (xC yX10_shortestBase cX10_shortestBase 8 (some .int)) { frames := 4, cells := 0, slots := 0, locals := 104 } g (wC g h now snap has hist ent res num col) [.ref (h 0), .int a1] (some (.int out)) (wC g h now snap has hist ent res num col) := by
  refine xof (by decide) (Nat.le_of_ble_eq_true rfl) ⟨rfl, rfl⟩ ?_
  intro p e s m below meth c A ls E hr hlocks hw hl hpost hAe
  have hx := E.1.1
  have hb := E.1.2.1
  have hown := E.1.2.2.2.1
  have hts := E.1.2.2.2.2
  generalize hZ : (MQ below (xPost g (wC g h now snap has hist ent res num col) (wC g h now snap has hist ent res num col) s.heap.size (some (.int out))) [.ref (h 0), .int a1].toArray s 0 0 A) = ZZ
  have hret : ∀ (pc : Nat) (H : Heap) (locs : List Loc) (ls : Array Slot) (v : Int32), v = out → decode cX10_shortestBase pc = .ok (.ireturn, 1) → xW g A s.heap (wC g h now snap has hist ent res num col) H locs → W p l e { frames := 4, cells := 0, slots := 0, locals := 104 } s m [.ref (h 0), .int a1].toArray below meth c H locs 0 0 ZZ (F0 m pc ls [.int v]) := by
    intro pc H locs ls v he hd hw
    subst he
    rw [← hZ]
    exact W.iret hx hb hr (hpost H locs hw).1 (hpost H locs hw).2 hd hlocks
  clear hpost
  have b23 : ∀ n23 : Nat, ∀ (H : Heap) (locs : List Loc) (ls : Array Slot) (x2 : Int32) (x3 : Int32) (x4 : Int32) (x5 : Int32), xW g A s.heap (wC g h now snap has hist ent res num col) H locs → lv_has ls 8 [(2, .int x2), (3, .int x3), (4, .int x4), (5, .int x5)] → f_X10_shortestBase_b23 n23 now x2 x3 x4 x5 = some (Sum.inr out) → W p l e { frames := 4, cells := 0, slots := 0, locals := 104 } s m [.ref (h 0), .int a1].toArray below meth c H locs 0 0 ZZ (F0 m 23 ls []) := by
    intro n23
    induction n23 with
    | zero =>
      intro H locs ls x2 x3 x4 x5 hw hl hf
      exact nn hf
    | succ n23 ih23 =>
      have b72 : ∀ (H : Heap) (locs : List Loc) (ls : Array Slot) (x2 : Int32) (x3 : Int32) (x4 : Int32) (x5 : Int32), xW g A s.heap (wC g h now snap has hist ent res num col) H locs → lv_has ls 8 [(2, .int x2), (3, .int x3), (4, .int x4), (5, .int x5)] → f_X10_shortestBase_b72 (f_X10_shortestBase_b23 n23) now x2 x3 x4 x5 = some (Sum.inr out) → W p l e { frames := 4, cells := 0, slots := 0, locals := 104 } s m [.ref (h 0), .int a1].toArray below meth c H locs 0 0 ZZ (F0 m 72 ls []) := by
        intro H locs ls x2 x3 x4 x5 hw hl hf
        refine lv_iinc (v := x5 + 1) (lv' := [(5, .int (x5 + 1)), (2, .int x2), (3, .int x3), (4, .int x4)]) hx hb dX10_shortestBase_72 hl (k := 3) rfl rfl (by decide) rfl (fun ls hl => ?_)
        refine lv_goto (tgt := 23) hx hb dX10_shortestBase_75 (by decide) ?_
        exact ih23 _ _ _ x2 x3 x4 (x5 + 1) hw (lv_sub hl [1, 2, 3, 0] rfl) hf
      intro H locs ls x2 x3 x4 x5 hw hl hf
      refine lv_iload hx hb dX10_shortestBase_23 (lv_at hl 3 rfl) ?_
      refine lv_bipush (v := 16) hx hb dX10_shortestBase_25 (by decide) ?_
      refine lv_icmp_gt (tgt := 78) hx hb dX10_shortestBase_27 (by decide) (fun c27 => ?_) (fun c27 => ?_)
      · replace hf := ip c27 hf
        refine lv_iload_n hx hb dX10_shortestBase_78 rfl (lv_at hl 1 rfl) ?_
        exact hret _ _ _ _ _ (jr hf) dX10_shortestBase_79 hw
      · replace hf := iq c27 hf
        refine lv_iload hx hb dX10_shortestBase_30 (lv_at hl 3 rfl) ?_
        refine lv_iload_n hx hb dX10_shortestBase_32 rfl (lv_at hl 0 rfl) ?_
        refine lv_i2l hx hb dX10_shortestBase_33 rfl ?_
        refine lv_iload hx hb dX10_shortestBase_34 (lv_at hl 3 rfl) ?_
        obtain ⟨v36, hv36, hf⟩ := ob_e hf
        refine xcallS (ws' := (wC g h now snap has hist ent res num col)) (st1 := [.long v36, .int x5]) (n := 34) E hw [.long x2.toInt64, .int x5] [] (met_X0_coprimePart l g x2.toInt64 x5 v36 hv36) rfl (by decide) rfl rfl [0, 1, 2, 3, 4, 5, 6, 7, 8, 9, 10, 11, 12, 13, 14, 15, 16, 17, 18, 19, 20, 21, 22, 23, 24, 25, 26, 27, 28, 29, 30, 31, 32, 33] rfl (by decide +kernel) rfl qw540 k_X0_coprimePart ⟨rfl, rfl, Nat.le_of_ble_eq_true rfl, Nat.le_of_ble_eq_true rfl⟩ ⟨Nat.zero_le _, Nat.zero_le _⟩ hl.1 (Nat.le_of_ble_eq_true rfl) dX10_shortestBase_36 rfl (fun H locs hw => ?_)
        refine lv_iload hx hb dX10_shortestBase_39 (lv_at hl 2 rfl) ?_
        obtain ⟨v41, hv41, hf⟩ := ob_e hf
        refine xcallS (ws' := (wC g h now snap has hist ent res num col)) (st1 := [.int v41]) (n := 34) E hw [.int x5, .long v36, .int x4] [] (met_X0_timesToOne l g x5 v36 x4 v41 hv41) rfl (by decide) rfl rfl [0, 1, 2, 3, 4, 5, 6, 7, 8, 9, 10, 11, 12, 13, 14, 15, 16, 17, 18, 19, 20, 21, 22, 23, 24, 25, 26, 27, 28, 29, 30, 31, 32, 33] rfl (by decide +kernel) rfl qw544 k_X0_timesToOne ⟨rfl, rfl, Nat.le_of_ble_eq_true rfl, Nat.le_of_ble_eq_true rfl⟩ ⟨Nat.zero_le _, Nat.zero_le _⟩ hl.1 (Nat.le_of_ble_eq_true rfl) dX10_shortestBase_41 rfl (fun H locs hw => ?_)
        refine lv_istore (lv' := [(6, .int v41), (2, .int x2), (3, .int x3), (4, .int x4), (5, .int x5)]) hx hb dX10_shortestBase_44 hl (by decide) rfl (fun ls hl => ?_)
        refine lv_iload_n hx hb dX10_shortestBase_46 rfl (lv_at hl 1 rfl) ?_
        refine lv_i2l hx hb dX10_shortestBase_47 rfl ?_
        refine lv_iload hx hb dX10_shortestBase_48 (lv_at hl 4 rfl) ?_
        obtain ⟨v50, hv50, hf⟩ := ob_e hf
        refine xcallS (ws' := (wC g h now snap has hist ent res num col)) (st1 := [.int v50]) (n := 34) E hw [.long x2.toInt64, .int x5] [] (met_X0_head l g x2.toInt64 x5 v50 hv50) rfl (by decide) rfl rfl [0, 1, 2, 3, 4, 5, 6, 7, 8, 9, 10, 11, 12, 13, 14, 15, 16, 17, 18, 19, 20, 21, 22, 23, 24, 25, 26, 27, 28, 29, 30, 31, 32, 33] rfl (by decide +kernel) rfl qw512 k_X0_head ⟨rfl, rfl, Nat.le_of_ble_eq_true rfl, Nat.le_of_ble_eq_true rfl⟩ ⟨Nat.zero_le _, Nat.zero_le _⟩ hl.1 (Nat.le_of_ble_eq_true rfl) dX10_shortestBase_50 rfl (fun H locs hw => ?_)
        refine lv_iload hx hb dX10_shortestBase_53 (lv_at hl 0 rfl) ?_
        refine lv_iadd hx hb dX10_shortestBase_55 ?_
        refine lv_istore (lv' := [(7, .int (v50 + v41)), (6, .int v41), (2, .int x2), (3, .int x3), (4, .int x4), (5, .int x5)]) hx hb dX10_shortestBase_56 hl (by decide) rfl (fun ls hl => ?_)
        refine lv_iload hx hb dX10_shortestBase_58 (lv_at hl 0 rfl) ?_
        refine lv_iload hx hb dX10_shortestBase_60 (lv_at hl 4 rfl) ?_
        refine lv_icmp_ge (tgt := 72) hx hb dX10_shortestBase_62 (by decide) (fun c62 => ?_) (fun c62 => ?_)
        · replace hf := ip c62 hf
          exact b72 _ _ _ x2 x3 x4 x5 hw (lv_sub hl [2, 3, 4, 5] rfl) hf
        · replace hf := iq c62 hf
          refine lv_iload hx hb dX10_shortestBase_65 (lv_at hl 0 rfl) ?_
          refine lv_istore (lv' := [(4, .int (v50 + v41)), (7, .int (v50 + v41)), (6, .int v41), (2, .int x2), (3, .int x3), (5, .int x5)]) hx hb dX10_shortestBase_67 hl (by decide) rfl (fun ls hl => ?_)
          refine lv_iload hx hb dX10_shortestBase_69 (lv_at hl 5 rfl) ?_
          refine lv_istore_n (lv' := [(3, .int x5), (4, .int (v50 + v41)), (7, .int (v50 + v41)), (6, .int v41), (2, .int x2), (5, .int x5)]) hx hb dX10_shortestBase_71 rfl hl (by decide) rfl (fun ls hl => ?_)
          exact b72 _ _ _ x2 x5 (v50 + v41) x5 hw (lv_sub hl [4, 0, 1, 5] rfl) hf
  refine lv_iload_n hx hb dX10_shortestBase_0 rfl (lv_at hl 1 rfl) ?_
  obtain ⟨v1, hv1, hf⟩ := ob_e hf
  rcases v1 with t1 | u1
  · exact nlr hf
  · refine xcallS (ws' := (wC g h now snap has hist ent res num col)) (st1 := []) (n := 34) E hw [.int a1] [] (met_X10_requireAccount l g a1 u1 hv1) rfl (by decide) rfl rfl [0, 1, 2, 3, 4, 5, 6, 7, 8, 9, 10, 11, 12, 13, 14, 15, 16, 17, 18, 19, 20, 21, 22, 23, 24, 25, 26, 27, 28, 29, 30, 31, 32, 33] rfl (by decide +kernel) rfl qw369 k_X10_requireAccount ⟨rfl, rfl, Nat.le_of_ble_eq_true rfl, Nat.le_of_ble_eq_true rfl⟩ ⟨Nat.zero_le _, Nat.zero_le _⟩ hl.1 (Nat.le_of_ble_eq_true rfl) dX10_shortestBase_1 rfl (fun H locs hw => ?_)
    refine lv_aload_n hx hb dX10_shortestBase_4 rfl (lv_at hl 0 rfl) ?_
    refine xget (v := .ref (h 1)) E hw 0 rfl rfl 0 (by decide) inw10 qw246 rfl rfl dX10_shortestBase_5 ?_
    refine lv_iload_n hx hb dX10_shortestBase_8 rfl (lv_at hl 1 rfl) ?_
    obtain ⟨v9, hv9, hf⟩ := ob_e hf
    refine xcallV (ws' := (wC g h now snap has hist ent res num col)) (st1 := [.int v9]) (n := 34) E hw [.int a1] [1, 2, 3] (met_X7_denominatorOf l g h 1 now a1 v9 hv9) rfl (by decide) rfl rfl [0, 34, 35, 36, 4, 5, 6, 7, 8, 9, 10, 11, 12, 13, 14, 15, 16, 17, 18, 19, 20, 21, 22, 23, 24, 25, 26, 27, 28, 29, 30, 31, 32, 33] rfl (by decide +kernel) rfl rfl rfl rfl qw347 k_X7_denominatorOf ⟨rfl, rfl, Nat.le_of_ble_eq_true rfl, Nat.le_of_ble_eq_true rfl⟩ ⟨Nat.zero_le _, Nat.zero_le _⟩ hl.1 (Nat.le_of_ble_eq_true rfl) dX10_shortestBase_9 rfl (fun H locs hw => ?_)
    refine lv_istore_n (lv' := [(2, .int v9), (0, .ref (h 0)), (1, .int a1)]) hx hb dX10_shortestBase_12 rfl hl (by decide) rfl (fun ls hl => ?_)
    refine lv_iconst (v := 2) hx hb dX10_shortestBase_13 (by decide) ?_
    refine lv_istore_n (lv' := [(3, .int 2), (2, .int v9), (0, .ref (h 0)), (1, .int a1)]) hx hb dX10_shortestBase_14 rfl hl (by decide) rfl (fun ls hl => ?_)
    refine lv_sipush (v := 1998) hx hb dX10_shortestBase_15 (by decide) ?_
    refine lv_istore (lv' := [(4, .int 1998), (3, .int 2), (2, .int v9), (0, .ref (h 0)), (1, .int a1)]) hx hb dX10_shortestBase_18 hl (by decide) rfl (fun ls hl => ?_)
    refine lv_iconst (v := 2) hx hb dX10_shortestBase_20 (by decide) ?_
    refine lv_istore (lv' := [(5, .int 2), (4, .int 1998), (3, .int 2), (2, .int v9), (0, .ref (h 0)), (1, .int a1)]) hx hb dX10_shortestBase_21 hl (by decide) rfl (fun ls hl => ?_)
    exact b23 xfuel _ _ _ v9 2 1998 2 hw (lv_sub hl [3, 2, 1, 0] rfl) hf
set_option maxHeartbeats 4000000 in
set_option maxRecDepth 100000 in
theorem metx_X10_shortestBase (l : Launch) (hlT : l.stackTraces = false) (g : xG) (h : Nat → Nat) (now : SC) (snap : SC) (has : Int32) (hist : HC) (ent : EC) (res : RC) (num : NC) (col : CC) (a1 : Int32) (out : Nat) (hf : f_X10_shortestBase now a1 = some (Sum.inl out)) : xMX l yX10_shortestBase (xC yX10_shortestBase cX10_shortestBase 8 (some .int)) { frames := 7, cells := 1, slots := 6, locals := 120 } g (wC g h now snap has hist ent res num col) [.ref (h 0), .int a1] (xEx out) (wC g h now snap has hist ent res num col) := by
  refine xofX (by decide) (Nat.le_of_ble_eq_true rfl) ⟨rfl, rfl⟩ ?_
  intro p e s m below meth c A ls E hlocks htab hX hw hl hpost
  have hx := E.1.1
  have hb := E.1.2.1
  have hown := E.1.2.2.2.1
  have hts := E.1.2.2.2.2
  have hx9 : ∀ (H : Heap) (locs : List Loc) (kx : Nat), kx = out → xW g A s.heap (wC g h now snap has hist ent res num col) H locs → ∀ t : State, s.vm.Alike t.vm → H.size ≤ t.heap.size → (∀ q : Nat, q < H.size → t.heap[q]? = H[q]?) → xPostX g (wC g h now snap has hist ent res num col) (wC g h now snap has hist ent res num col) s.heap.size (xEx out) (xEx kx) s t := by
    intro H locs kx he hw t h1 h2 h3
    subst he
    exact (hpost H locs hw).1 t h1 h2 h3
  have hx8 : ∀ (H : Heap) (locs : List Loc) (kx : Nat), kx = out → xW g A s.heap (wC g h now snap has hist ent res num col) H locs → ∀ z ∈ locs, A z.base := by
    intro H locs kx he hw
    subst he
    exact (hpost H locs hw).2
  clear hpost
  generalize hZ : (vx_MQ below (fun _ _ _ _ => False) (xPostX g (wC g h now snap has hist ent res num col) (wC g h now snap has hist ent res num col) s.heap.size (xEx out)) [.ref (h 0), .int a1].toArray s 1 6 A) = ZZ
  have hprop : ∀ (pc : Nat) (H : Heap) (locs : List Loc) (ls : Array Slot) (rest : List Value) (q : Nat) (ce : Cell) (kx : Nat), kx = out → xW g A s.heap (wC g h now snap has hist ent res num col) H locs → H[q]? = some ce → ce.vm = .none → s.vm.findClass (xEx kx) = some ce.cls → vx_W p l e { frames := 7, cells := 1, slots := 6, locals := 120 } s m [.ref (h 0), .int a1].toArray below meth c H locs (0 + 1) (0 + 6) ZZ (F0 m pc ls rest) q := by
    intro pc H locs ls rest q ce kx he hw hce hcv hcl
    rw [← hZ]
    exact vx_out (fun x hx => (htab x hx).elim) hlocks hce hcv hcl (fun t ht hW => hx9 H locs kx he hw t hW (by rw [ht]; exact Nat.le_refl _) (fun q _ => by rw [ht])) (hx8 H locs kx he hw) (Nat.le_refl _) (Nat.le_refl _)
  have b23 : ∀ n23 : Nat, ∀ (H : Heap) (locs : List Loc) (ls : Array Slot) (x2 : Int32) (x3 : Int32) (x4 : Int32) (x5 : Int32), xW g A s.heap (wC g h now snap has hist ent res num col) H locs → lv_has ls 8 [(2, .int x2), (3, .int x3), (4, .int x4), (5, .int x5)] → f_X10_shortestBase_b23 n23 now x2 x3 x4 x5 = some (Sum.inl out) → W p l e { frames := 7, cells := 1, slots := 6, locals := 120 } s m [.ref (h 0), .int a1].toArray below meth c H locs 0 0 ZZ (F0 m 23 ls []) := by
    intro n23
    induction n23 with
    | zero =>
      intro H locs ls x2 x3 x4 x5 hw hl hf
      exact nn hf
    | succ n23 ih23 =>
      have b72 : ∀ (H : Heap) (locs : List Loc) (ls : Array Slot) (x2 : Int32) (x3 : Int32) (x4 : Int32) (x5 : Int32), xW g A s.heap (wC g h now snap has hist ent res num col) H locs → lv_has ls 8 [(2, .int x2), (3, .int x3), (4, .int x4), (5, .int x5)] → f_X10_shortestBase_b72 (f_X10_shortestBase_b23 n23) now x2 x3 x4 x5 = some (Sum.inl out) → W p l e { frames := 7, cells := 1, slots := 6, locals := 120 } s m [.ref (h 0), .int a1].toArray below meth c H locs 0 0 ZZ (F0 m 72 ls []) := by
        intro H locs ls x2 x3 x4 x5 hw hl hf
        refine lv_iinc (v := x5 + 1) (lv' := [(5, .int (x5 + 1)), (2, .int x2), (3, .int x3), (4, .int x4)]) hx hb dX10_shortestBase_72 hl (k := 3) rfl rfl (by decide) rfl (fun ls hl => ?_)
        refine lv_goto (tgt := 23) hx hb dX10_shortestBase_75 (by decide) ?_
        exact ih23 _ _ _ x2 x3 x4 (x5 + 1) hw (lv_sub hl [1, 2, 3, 0] rfl) hf
      intro H locs ls x2 x3 x4 x5 hw hl hf
      refine lv_iload hx hb dX10_shortestBase_23 (lv_at hl 3 rfl) ?_
      refine lv_bipush (v := 16) hx hb dX10_shortestBase_25 (by decide) ?_
      refine lv_icmp_gt (tgt := 78) hx hb dX10_shortestBase_27 (by decide) (fun c27 => ?_) (fun c27 => ?_)
      · replace hf := ip c27 hf
        refine lv_iload_n hx hb dX10_shortestBase_78 rfl (lv_at hl 1 rfl) ?_
        exact nrl hf
      · replace hf := iq c27 hf
        refine lv_iload hx hb dX10_shortestBase_30 (lv_at hl 3 rfl) ?_
        refine lv_iload_n hx hb dX10_shortestBase_32 rfl (lv_at hl 0 rfl) ?_
        refine lv_i2l hx hb dX10_shortestBase_33 rfl ?_
        refine lv_iload hx hb dX10_shortestBase_34 (lv_at hl 3 rfl) ?_
        obtain ⟨v36, hv36, hf⟩ := ob_e hf
        refine xcallS (ws' := (wC g h now snap has hist ent res num col)) (st1 := [.long v36, .int x5]) (n := 34) E hw [.long x2.toInt64, .int x5] [] (met_X0_coprimePart l g x2.toInt64 x5 v36 hv36) rfl (by decide) rfl rfl [0, 1, 2, 3, 4, 5, 6, 7, 8, 9, 10, 11, 12, 13, 14, 15, 16, 17, 18, 19, 20, 21, 22, 23, 24, 25, 26, 27, 28, 29, 30, 31, 32, 33] rfl (by decide +kernel) rfl qw540 k_X0_coprimePart ⟨rfl, rfl, Nat.le_of_ble_eq_true rfl, Nat.le_of_ble_eq_true rfl⟩ ⟨Nat.zero_le _, Nat.zero_le _⟩ hl.1 (Nat.le_of_ble_eq_true rfl) dX10_shortestBase_36 rfl (fun H locs hw => ?_)
        refine lv_iload hx hb dX10_shortestBase_39 (lv_at hl 2 rfl) ?_
        obtain ⟨v41, hv41, hf⟩ := ob_e hf
        refine xcallS (ws' := (wC g h now snap has hist ent res num col)) (st1 := [.int v41]) (n := 34) E hw [.int x5, .long v36, .int x4] [] (met_X0_timesToOne l g x5 v36 x4 v41 hv41) rfl (by decide) rfl rfl [0, 1, 2, 3, 4, 5, 6, 7, 8, 9, 10, 11, 12, 13, 14, 15, 16, 17, 18, 19, 20, 21, 22, 23, 24, 25, 26, 27, 28, 29, 30, 31, 32, 33] rfl (by decide +kernel) rfl qw544 k_X0_timesToOne ⟨rfl, rfl, Nat.le_of_ble_eq_true rfl, Nat.le_of_ble_eq_true rfl⟩ ⟨Nat.zero_le _, Nat.zero_le _⟩ hl.1 (Nat.le_of_ble_eq_true rfl) dX10_shortestBase_41 rfl (fun H locs hw => ?_)
        refine lv_istore (lv' := [(6, .int v41), (2, .int x2), (3, .int x3), (4, .int x4), (5, .int x5)]) hx hb dX10_shortestBase_44 hl (by decide) rfl (fun ls hl => ?_)
        refine lv_iload_n hx hb dX10_shortestBase_46 rfl (lv_at hl 1 rfl) ?_
        refine lv_i2l hx hb dX10_shortestBase_47 rfl ?_
        refine lv_iload hx hb dX10_shortestBase_48 (lv_at hl 4 rfl) ?_
        obtain ⟨v50, hv50, hf⟩ := ob_e hf
        refine xcallS (ws' := (wC g h now snap has hist ent res num col)) (st1 := [.int v50]) (n := 34) E hw [.long x2.toInt64, .int x5] [] (met_X0_head l g x2.toInt64 x5 v50 hv50) rfl (by decide) rfl rfl [0, 1, 2, 3, 4, 5, 6, 7, 8, 9, 10, 11, 12, 13, 14, 15, 16, 17, 18, 19, 20, 21, 22, 23, 24, 25, 26, 27, 28, 29, 30, 31, 32, 33] rfl (by decide +kernel) rfl qw512 k_X0_head ⟨rfl, rfl, Nat.le_of_ble_eq_true rfl, Nat.le_of_ble_eq_true rfl⟩ ⟨Nat.zero_le _, Nat.zero_le _⟩ hl.1 (Nat.le_of_ble_eq_true rfl) dX10_shortestBase_50 rfl (fun H locs hw => ?_)
        refine lv_iload hx hb dX10_shortestBase_53 (lv_at hl 0 rfl) ?_
        refine lv_iadd hx hb dX10_shortestBase_55 ?_
        refine lv_istore (lv' := [(7, .int (v50 + v41)), (6, .int v41), (2, .int x2), (3, .int x3), (4, .int x4), (5, .int x5)]) hx hb dX10_shortestBase_56 hl (by decide) rfl (fun ls hl => ?_)
        refine lv_iload hx hb dX10_shortestBase_58 (lv_at hl 0 rfl) ?_
        refine lv_iload hx hb dX10_shortestBase_60 (lv_at hl 4 rfl) ?_
        refine lv_icmp_ge (tgt := 72) hx hb dX10_shortestBase_62 (by decide) (fun c62 => ?_) (fun c62 => ?_)
        · replace hf := ip c62 hf
          exact b72 _ _ _ x2 x3 x4 x5 hw (lv_sub hl [2, 3, 4, 5] rfl) hf
        · replace hf := iq c62 hf
          refine lv_iload hx hb dX10_shortestBase_65 (lv_at hl 0 rfl) ?_
          refine lv_istore (lv' := [(4, .int (v50 + v41)), (7, .int (v50 + v41)), (6, .int v41), (2, .int x2), (3, .int x3), (5, .int x5)]) hx hb dX10_shortestBase_67 hl (by decide) rfl (fun ls hl => ?_)
          refine lv_iload hx hb dX10_shortestBase_69 (lv_at hl 5 rfl) ?_
          refine lv_istore_n (lv' := [(3, .int x5), (4, .int (v50 + v41)), (7, .int (v50 + v41)), (6, .int v41), (2, .int x2), (5, .int x5)]) hx hb dX10_shortestBase_71 rfl hl (by decide) rfl (fun ls hl => ?_)
          exact b72 _ _ _ x2 x5 (v50 + v41) x5 hw (lv_sub hl [4, 0, 1, 5] rfl) hf
  refine lv_iload_n hx hb dX10_shortestBase_0 rfl (lv_at hl 1 rfl) ?_
  obtain ⟨v1, hv1, hf⟩ := ob_e hf
  rcases v1 with t1 | u1
  · refine xcallSX (ws' := (wC g h now snap has hist ent res num col)) (n := 34) E hX hw [.int a1] [] (metx_X10_requireAccount l hlT g a1 t1 hv1) rfl (by decide) rfl rfl [0, 1, 2, 3, 4, 5, 6, 7, 8, 9, 10, 11, 12, 13, 14, 15, 16, 17, 18, 19, 20, 21, 22, 23, 24, 25, 26, 27, 28, 29, 30, 31, 32, 33] rfl (by decide +kernel) rfl qw369 k_X10_requireAccount ⟨rfl, rfl, Nat.le_of_ble_eq_true rfl, Nat.le_of_ble_eq_true rfl⟩ ⟨by decide, by decide⟩ hl.1 (Nat.le_of_ble_eq_true rfl) dX10_shortestBase_1 (fun H locs q ce hw hce hcv hcl => ?_)
    exact hprop _ _ _ _ _ _ _ _ (jl hf) hw hce hcv hcl
  · refine xcallS (ws' := (wC g h now snap has hist ent res num col)) (st1 := []) (n := 34) E hw [.int a1] [] (met_X10_requireAccount l g a1 u1 hv1) rfl (by decide) rfl rfl [0, 1, 2, 3, 4, 5, 6, 7, 8, 9, 10, 11, 12, 13, 14, 15, 16, 17, 18, 19, 20, 21, 22, 23, 24, 25, 26, 27, 28, 29, 30, 31, 32, 33] rfl (by decide +kernel) rfl qw369 k_X10_requireAccount ⟨rfl, rfl, Nat.le_of_ble_eq_true rfl, Nat.le_of_ble_eq_true rfl⟩ ⟨Nat.zero_le _, Nat.zero_le _⟩ hl.1 (Nat.le_of_ble_eq_true rfl) dX10_shortestBase_1 rfl (fun H locs hw => ?_)
    refine lv_aload_n hx hb dX10_shortestBase_4 rfl (lv_at hl 0 rfl) ?_
    refine xget (v := .ref (h 1)) E hw 0 rfl rfl 0 (by decide) inw10 qw246 rfl rfl dX10_shortestBase_5 ?_
    refine lv_iload_n hx hb dX10_shortestBase_8 rfl (lv_at hl 1 rfl) ?_
    obtain ⟨v9, hv9, hf⟩ := ob_e hf
    refine xcallV (ws' := (wC g h now snap has hist ent res num col)) (st1 := [.int v9]) (n := 34) E hw [.int a1] [1, 2, 3] (met_X7_denominatorOf l g h 1 now a1 v9 hv9) rfl (by decide) rfl rfl [0, 34, 35, 36, 4, 5, 6, 7, 8, 9, 10, 11, 12, 13, 14, 15, 16, 17, 18, 19, 20, 21, 22, 23, 24, 25, 26, 27, 28, 29, 30, 31, 32, 33] rfl (by decide +kernel) rfl rfl rfl rfl qw347 k_X7_denominatorOf ⟨rfl, rfl, Nat.le_of_ble_eq_true rfl, Nat.le_of_ble_eq_true rfl⟩ ⟨Nat.zero_le _, Nat.zero_le _⟩ hl.1 (Nat.le_of_ble_eq_true rfl) dX10_shortestBase_9 rfl (fun H locs hw => ?_)
    refine lv_istore_n (lv' := [(2, .int v9), (0, .ref (h 0)), (1, .int a1)]) hx hb dX10_shortestBase_12 rfl hl (by decide) rfl (fun ls hl => ?_)
    refine lv_iconst (v := 2) hx hb dX10_shortestBase_13 (by decide) ?_
    refine lv_istore_n (lv' := [(3, .int 2), (2, .int v9), (0, .ref (h 0)), (1, .int a1)]) hx hb dX10_shortestBase_14 rfl hl (by decide) rfl (fun ls hl => ?_)
    refine lv_sipush (v := 1998) hx hb dX10_shortestBase_15 (by decide) ?_
    refine lv_istore (lv' := [(4, .int 1998), (3, .int 2), (2, .int v9), (0, .ref (h 0)), (1, .int a1)]) hx hb dX10_shortestBase_18 hl (by decide) rfl (fun ls hl => ?_)
    refine lv_iconst (v := 2) hx hb dX10_shortestBase_20 (by decide) ?_
    refine lv_istore (lv' := [(5, .int 2), (4, .int 1998), (3, .int 2), (2, .int v9), (0, .ref (h 0)), (1, .int a1)]) hx hb dX10_shortestBase_21 hl (by decide) rfl (fun ls hl => ?_)
    exact b23 xfuel _ _ _ v9 2 1998 2 hw (lv_sub hl [3, 2, 1, 0] rfl) hf
theorem k_X10_writtenLength : xKV yX10_writtenLength cX10_writtenLength 6 (some .int) 1 := ⟨qw585, qw586, qw66, qw587, by decide +kernel, by decide +kernel, by decide +kernel⟩
set_option maxHeartbeats 4000000 in
set_option maxRecDepth 100000 in
theorem met_X10_writtenLength (l : Launch) (g : xG) (h : Nat → Nat) (now : SC) (snap : SC) (has : Int32) (hist : HC) (ent : EC) (res : RC) (num : NC) (col : CC) (a1 : Int32) (out : Int32) (hf : f_X10_writtenLength now a1 = some (Sum.inr out)) : xM l yX10_writtenLength (xC yX10_writtenLength cX10_writtenLength 6 (some .int)) { frames := 3, cells := 0, slots := 0, locals := 79 } g (wC g h now snap has hist ent res num col) [.ref (h 0), .int a1] (some (.int out)) (wC g h now snap has hist ent res num col) := by
  refine xof (by decide) (Nat.le_of_ble_eq_true rfl) ⟨rfl, rfl⟩ ?_
  intro p e s m below meth c A ls E hr hlocks hw hl hpost hAe
  have hx := E.1.1
  have hb := E.1.2.1
  have hown := E.1.2.2.2.1
  have hts := E.1.2.2.2.2
  generalize hZ : (MQ below (xPost g (wC g h now snap has hist ent res num col) (wC g h now snap has hist ent res num col) s.heap.size (some (.int out))) [.ref (h 0), .int a1].toArray s 0 0 A) = ZZ
  have hret : ∀ (pc : Nat) (H : Heap) (locs : List Loc) (ls : Array Slot) (v : Int32), v = out → decode cX10_writtenLength pc = .ok (.ireturn, 1) → xW g A s.heap (wC g h now snap has hist ent res num col) H locs → W p l e { frames := 3, cells := 0, slots := 0, locals := 79 } s m [.ref (h 0), .int a1].toArray below meth c H locs 0 0 ZZ (F0 m pc ls [.int v]) := by
    intro pc H locs ls v he hd hw
    subst he
    rw [← hZ]
    exact W.iret hx hb hr (hpost H locs hw).1 (hpost H locs hw).2 hd hlocks
  clear hpost
  have b85 : ∀ (H : Heap) (locs : List Loc) (ls : Array Slot) (x2 : Int32) (x5 : Int32), xW g A s.heap (wC g h now snap has hist ent res num col) H locs → lv_has ls 6 [(2, .int x2), (5, .int x5)] → f_X10_writtenLength_b85 now x2 x5 = some (Sum.inr out) → W p l e { frames := 3, cells := 0, slots := 0, locals := 79 } s m [.ref (h 0), .int a1].toArray below meth c H locs 0 0 ZZ (F0 m 85 ls []) := by
    intro H locs ls x2 x5 hw hl hf
    refine lv_iload hx hb dX10_writtenLength_85 (lv_at hl 1 rfl) ?_
    refine lv_if_le (tgt := 97) hx hb dX10_writtenLength_87 (by decide) (fun c87 => ?_) (fun c87 => ?_)
    · replace hf := ip c87 hf
      refine lv_iload_n hx hb dX10_writtenLength_97 rfl (lv_at hl 0 rfl) ?_
      exact hret _ _ _ _ _ (jr hf) dX10_writtenLength_98 hw
    · replace hf := iq c87 hf
      refine lv_iload_n hx hb dX10_writtenLength_90 rfl (lv_at hl 0 rfl) ?_
      refine lv_iconst (v := 2) hx hb dX10_writtenLength_91 (by decide) ?_
      refine lv_iload hx hb dX10_writtenLength_92 (lv_at hl 1 rfl) ?_
      refine lv_iadd hx hb dX10_writtenLength_94 ?_
      refine lv_iadd hx hb dX10_writtenLength_95 ?_
      refine lv_istore_n (lv' := [(2, .int (x2 + (2 + x5))), (5, .int x5)]) hx hb dX10_writtenLength_96 rfl hl (by decide) rfl (fun ls hl => ?_)
      refine lv_iload_n hx hb dX10_writtenLength_97 rfl (lv_at hl 0 rfl) ?_
      exact hret _ _ _ _ _ (jr hf) dX10_writtenLength_98 hw
  refine lv_iload_n hx hb dX10_writtenLength_0 rfl (lv_at hl 1 rfl) ?_
  obtain ⟨v1, hv1, hf⟩ := ob_e hf
  rcases v1 with t1 | u1
  · exact nlr hf
  · refine xcallS (ws' := (wC g h now snap has hist ent res num col)) (st1 := []) (n := 34) E hw [.int a1] [] (met_X10_requireAccount l g a1 u1 hv1) rfl (by decide) rfl rfl [0, 1, 2, 3, 4, 5, 6, 7, 8, 9, 10, 11, 12, 13, 14, 15, 16, 17, 18, 19, 20, 21, 22, 23, 24, 25, 26, 27, 28, 29, 30, 31, 32, 33] rfl (by decide +kernel) rfl qw369 k_X10_requireAccount ⟨rfl, rfl, Nat.le_of_ble_eq_true rfl, Nat.le_of_ble_eq_true rfl⟩ ⟨Nat.zero_le _, Nat.zero_le _⟩ hl.1 (Nat.le_of_ble_eq_true rfl) dX10_writtenLength_1 rfl (fun H locs hw => ?_)
    refine lv_aload_n hx hb dX10_writtenLength_4 rfl (lv_at hl 0 rfl) ?_
    refine xget (v := .ref (h 1)) E hw 0 rfl rfl 0 (by decide) inw10 qw246 rfl rfl dX10_writtenLength_5 ?_
    refine lv_iload_n hx hb dX10_writtenLength_8 rfl (lv_at hl 1 rfl) ?_
    obtain ⟨v9, hv9, hf⟩ := ob_e hf
    refine xcallV (ws' := (wC g h now snap has hist ent res num col)) (st1 := [.int v9]) (n := 34) E hw [.int a1] [1, 2, 3] (met_X7_wholeOf l g h 1 now a1 v9 hv9) rfl (by decide) rfl rfl [0, 34, 35, 36, 4, 5, 6, 7, 8, 9, 10, 11, 12, 13, 14, 15, 16, 17, 18, 19, 20, 21, 22, 23, 24, 25, 26, 27, 28, 29, 30, 31, 32, 33] rfl (by decide +kernel) rfl rfl rfl rfl qw440 k_X7_wholeOf ⟨rfl, rfl, Nat.le_of_ble_eq_true rfl, Nat.le_of_ble_eq_true rfl⟩ ⟨Nat.zero_le _, Nat.zero_le _⟩ hl.1 (Nat.le_of_ble_eq_true rfl) dX10_writtenLength_9 rfl (fun H locs hw => ?_)
    refine lv_aload_n hx hb dX10_writtenLength_12 rfl (lv_at hl 0 rfl) ?_
    refine xget (v := .ref (h 1)) E hw 0 rfl rfl 0 (by decide) inw10 qw246 rfl rfl dX10_writtenLength_13 ?_
    refine xget (v := .int now.1) E hw 1 rfl rfl 0 (by decide) inw7 qw101 rfl rfl dX10_writtenLength_16 ?_
    obtain ⟨v19, hv19, hf⟩ := ob_e hf
    refine xcallS (ws' := (wC g h now snap has hist ent res num col)) (st1 := [.int v19]) (n := 34) E hw [.int v9, .int now.1] [] (met_X9_count l g v9 now.1 v19 hv19) rfl (by decide) rfl rfl [0, 1, 2, 3, 4, 5, 6, 7, 8, 9, 10, 11, 12, 13, 14, 15, 16, 17, 18, 19, 20, 21, 22, 23, 24, 25, 26, 27, 28, 29, 30, 31, 32, 33] rfl (by decide +kernel) rfl qw444 k_X9_count ⟨rfl, rfl, Nat.le_of_ble_eq_true rfl, Nat.le_of_ble_eq_true rfl⟩ ⟨Nat.zero_le _, Nat.zero_le _⟩ hl.1 (Nat.le_of_ble_eq_true rfl) dX10_writtenLength_19 rfl (fun H locs hw => ?_)
    refine lv_istore_n (lv' := [(2, .int v19), (0, .ref (h 0)), (1, .int a1)]) hx hb dX10_writtenLength_22 rfl hl (by decide) rfl (fun ls hl => ?_)
    refine lv_aload_n hx hb dX10_writtenLength_23 rfl (lv_at hl 1 rfl) ?_
    refine xget (v := .ref (h 1)) E hw 0 rfl rfl 0 (by decide) inw10 qw246 rfl rfl dX10_writtenLength_24 ?_
    refine lv_iload_n hx hb dX10_writtenLength_27 rfl (lv_at hl 2 rfl) ?_
    obtain ⟨v28, hv28, hf⟩ := ob_e hf
    refine xcallV (ws' := (wC g h now snap has hist ent res num col)) (st1 := [.int v28]) (n := 34) E hw [.int a1] [1, 2, 3] (met_X7_denominatorOf l g h 1 now a1 v28 hv28) rfl (by decide) rfl rfl [0, 34, 35, 36, 4, 5, 6, 7, 8, 9, 10, 11, 12, 13, 14, 15, 16, 17, 18, 19, 20, 21, 22, 23, 24, 25, 26, 27, 28, 29, 30, 31, 32, 33] rfl (by decide +kernel) rfl rfl rfl rfl qw347 k_X7_denominatorOf ⟨rfl, rfl, Nat.le_of_ble_eq_true rfl, Nat.le_of_ble_eq_true rfl⟩ ⟨Nat.zero_le _, Nat.zero_le _⟩ hl.1 (Nat.le_of_ble_eq_true rfl) dX10_writtenLength_28 rfl (fun H locs hw => ?_)
    refine lv_istore_n (lv' := [(3, .int v28), (2, .int v19), (0, .ref (h 0)), (1, .int a1)]) hx hb dX10_writtenLength_31 rfl hl (by decide) rfl (fun ls hl => ?_)
    refine lv_iload_n hx hb dX10_writtenLength_32 rfl (lv_at hl 0 rfl) ?_
    refine lv_i2l hx hb dX10_writtenLength_33 rfl ?_
    refine lv_aload_n hx hb dX10_writtenLength_34 rfl (lv_at hl 2 rfl) ?_
    refine xget (v := .ref (h 1)) E hw 0 rfl rfl 0 (by decide) inw10 qw246 rfl rfl dX10_writtenLength_35 ?_
    refine xget (v := .int now.1) E hw 1 rfl rfl 0 (by decide) inw7 qw101 rfl rfl dX10_writtenLength_38 ?_
    obtain ⟨v41, hv41, hf⟩ := ob_e hf
    refine xcallS (ws' := (wC g h now snap has hist ent res num col)) (st1 := [.int v41]) (n := 34) E hw [.long v28.toInt64, .int now.1] [] (met_X0_head l g v28.toInt64 now.1 v41 hv41) rfl (by decide) rfl rfl [0, 1, 2, 3, 4, 5, 6, 7, 8, 9, 10, 11, 12, 13, 14, 15, 16, 17, 18, 19, 20, 21, 22, 23, 24, 25, 26, 27, 28, 29, 30, 31, 32, 33] rfl (by decide +kernel) rfl qw512 k_X0_head ⟨rfl, rfl, Nat.le_of_ble_eq_true rfl, Nat.le_of_ble_eq_true rfl⟩ ⟨Nat.zero_le _, Nat.zero_le _⟩ hl.1 (Nat.le_of_ble_eq_true rfl) dX10_writtenLength_41 rfl (fun H locs hw => ?_)
    refine lv_istore (lv' := [(4, .int v41), (3, .int v28), (2, .int v19), (0, .ref (h 0)), (1, .int a1)]) hx hb dX10_writtenLength_44 hl (by decide) rfl (fun ls hl => ?_)
    refine lv_aload_n hx hb dX10_writtenLength_46 rfl (lv_at hl 3 rfl) ?_
    refine xget (v := .ref (h 1)) E hw 0 rfl rfl 0 (by decide) inw10 qw246 rfl rfl dX10_writtenLength_47 ?_
    refine lv_iload_n hx hb dX10_writtenLength_50 rfl (lv_at hl 4 rfl) ?_
    obtain ⟨v51, hv51, hf⟩ := ob_e hf
    refine xcallV (ws' := (wC g h now snap has hist ent res num col)) (st1 := [.long v51]) (n := 34) E hw [.int a1] [1, 2, 3] (met_X7_restOf l g h 1 now a1 v51 hv51) rfl (by decide) rfl rfl [0, 34, 35, 36, 4, 5, 6, 7, 8, 9, 10, 11, 12, 13, 14, 15, 16, 17, 18, 19, 20, 21, 22, 23, 24, 25, 26, 27, 28, 29, 30, 31, 32, 33] rfl (by decide +kernel) rfl rfl rfl rfl qw526 k_X7_restOf ⟨rfl, rfl, Nat.le_of_ble_eq_true rfl, Nat.le_of_ble_eq_true rfl⟩ ⟨Nat.zero_le _, Nat.zero_le _⟩ hl.1 (Nat.le_of_ble_eq_true rfl) dX10_writtenLength_51 rfl (fun H locs hw => ?_)
    refine lv_iload_n hx hb dX10_writtenLength_54 rfl (lv_at hl 1 rfl) ?_
    refine lv_i2l hx hb dX10_writtenLength_55 rfl ?_
    refine lv_aload_n hx hb dX10_writtenLength_56 rfl (lv_at hl 3 rfl) ?_
    refine xget (v := .ref (h 1)) E hw 0 rfl rfl 0 (by decide) inw10 qw246 rfl rfl dX10_writtenLength_57 ?_
    refine xget (v := .int now.1) E hw 1 rfl rfl 0 (by decide) inw7 qw101 rfl rfl dX10_writtenLength_60 ?_
    refine lv_iload hx hb dX10_writtenLength_63 (lv_at hl 0 rfl) ?_
    obtain ⟨v65, hv65, hf⟩ := ob_e hf
    refine xcallS (ws' := (wC g h now snap has hist ent res num col)) (st1 := [.int v65]) (n := 34) E hw [.long v51, .long v28.toInt64, .int now.1, .int v41] [] (met_X0_periodByDividing l g v51 v28.toInt64 now.1 v41 v65 hv65) rfl (by decide) rfl rfl [0, 1, 2, 3, 4, 5, 6, 7, 8, 9, 10, 11, 12, 13, 14, 15, 16, 17, 18, 19, 20, 21, 22, 23, 24, 25, 26, 27, 28, 29, 30, 31, 32, 33] rfl (by decide +kernel) rfl qw530 k_X0_periodByDividing ⟨rfl, rfl, Nat.le_of_ble_eq_true rfl, Nat.le_of_ble_eq_true rfl⟩ ⟨Nat.zero_le _, Nat.zero_le _⟩ hl.1 (Nat.le_of_ble_eq_true rfl) dX10_writtenLength_65 rfl (fun H locs hw => ?_)
    refine lv_istore (lv' := [(5, .int v65), (4, .int v41), (3, .int v28), (2, .int v19), (0, .ref (h 0)), (1, .int a1)]) hx hb dX10_writtenLength_68 hl (by decide) rfl (fun ls hl => ?_)
    refine lv_iload hx hb dX10_writtenLength_70 (lv_at hl 1 rfl) ?_
    refine lv_iload hx hb dX10_writtenLength_72 (lv_at hl 0 rfl) ?_
    refine lv_iadd hx hb dX10_writtenLength_74 ?_
    refine lv_if_le (tgt := 85) hx hb dX10_writtenLength_75 (by decide) (fun c75 => ?_) (fun c75 => ?_)
    · replace hf := ip c75 hf
      exact b85 _ _ _ v19 v65 hw (lv_sub hl [3, 0] rfl) hf
    · replace hf := iq c75 hf
      refine lv_iload_n hx hb dX10_writtenLength_78 rfl (lv_at hl 3 rfl) ?_
      refine lv_iconst (v := 1) hx hb dX10_writtenLength_79 (by decide) ?_
      refine lv_iload hx hb dX10_writtenLength_80 (lv_at hl 1 rfl) ?_
      refine lv_iadd hx hb dX10_writtenLength_82 ?_
      refine lv_iadd hx hb dX10_writtenLength_83 ?_
      refine lv_istore_n (lv' := [(2, .int (v19 + (1 + v41))), (5, .int v65), (4, .int v41), (3, .int v28), (0, .ref (h 0)), (1, .int a1)]) hx hb dX10_writtenLength_84 rfl hl (by decide) rfl (fun ls hl => ?_)
      exact b85 _ _ _ (v19 + (1 + v41)) v65 hw (lv_sub hl [0, 1] rfl) hf
set_option maxHeartbeats 4000000 in
set_option maxRecDepth 100000 in
theorem metx_X10_writtenLength (l : Launch) (hlT : l.stackTraces = false) (g : xG) (h : Nat → Nat) (now : SC) (snap : SC) (has : Int32) (hist : HC) (ent : EC) (res : RC) (num : NC) (col : CC) (a1 : Int32) (out : Nat) (hf : f_X10_writtenLength now a1 = some (Sum.inl out)) : xMX l yX10_writtenLength (xC yX10_writtenLength cX10_writtenLength 6 (some .int)) { frames := 7, cells := 1, slots := 6, locals := 120 } g (wC g h now snap has hist ent res num col) [.ref (h 0), .int a1] (xEx out) (wC g h now snap has hist ent res num col) := by
  refine xofX (by decide) (Nat.le_of_ble_eq_true rfl) ⟨rfl, rfl⟩ ?_
  intro p e s m below meth c A ls E hlocks htab hX hw hl hpost
  have hx := E.1.1
  have hb := E.1.2.1
  have hown := E.1.2.2.2.1
  have hts := E.1.2.2.2.2
  have hx9 : ∀ (H : Heap) (locs : List Loc) (kx : Nat), kx = out → xW g A s.heap (wC g h now snap has hist ent res num col) H locs → ∀ t : State, s.vm.Alike t.vm → H.size ≤ t.heap.size → (∀ q : Nat, q < H.size → t.heap[q]? = H[q]?) → xPostX g (wC g h now snap has hist ent res num col) (wC g h now snap has hist ent res num col) s.heap.size (xEx out) (xEx kx) s t := by
    intro H locs kx he hw t h1 h2 h3
    subst he
    exact (hpost H locs hw).1 t h1 h2 h3
  have hx8 : ∀ (H : Heap) (locs : List Loc) (kx : Nat), kx = out → xW g A s.heap (wC g h now snap has hist ent res num col) H locs → ∀ z ∈ locs, A z.base := by
    intro H locs kx he hw
    subst he
    exact (hpost H locs hw).2
  clear hpost
  generalize hZ : (vx_MQ below (fun _ _ _ _ => False) (xPostX g (wC g h now snap has hist ent res num col) (wC g h now snap has hist ent res num col) s.heap.size (xEx out)) [.ref (h 0), .int a1].toArray s 1 6 A) = ZZ
  have hprop : ∀ (pc : Nat) (H : Heap) (locs : List Loc) (ls : Array Slot) (rest : List Value) (q : Nat) (ce : Cell) (kx : Nat), kx = out → xW g A s.heap (wC g h now snap has hist ent res num col) H locs → H[q]? = some ce → ce.vm = .none → s.vm.findClass (xEx kx) = some ce.cls → vx_W p l e { frames := 7, cells := 1, slots := 6, locals := 120 } s m [.ref (h 0), .int a1].toArray below meth c H locs (0 + 1) (0 + 6) ZZ (F0 m pc ls rest) q := by
    intro pc H locs ls rest q ce kx he hw hce hcv hcl
    rw [← hZ]
    exact vx_out (fun x hx => (htab x hx).elim) hlocks hce hcv hcl (fun t ht hW => hx9 H locs kx he hw t hW (by rw [ht]; exact Nat.le_refl _) (fun q _ => by rw [ht])) (hx8 H locs kx he hw) (Nat.le_refl _) (Nat.le_refl _)
  have b85 : ∀ (H : Heap) (locs : List Loc) (ls : Array Slot) (x2 : Int32) (x5 : Int32), xW g A s.heap (wC g h now snap has hist ent res num col) H locs → lv_has ls 6 [(2, .int x2), (5, .int x5)] → f_X10_writtenLength_b85 now x2 x5 = some (Sum.inl out) → W p l e { frames := 7, cells := 1, slots := 6, locals := 120 } s m [.ref (h 0), .int a1].toArray below meth c H locs 0 0 ZZ (F0 m 85 ls []) := by
    intro H locs ls x2 x5 hw hl hf
    refine lv_iload hx hb dX10_writtenLength_85 (lv_at hl 1 rfl) ?_
    refine lv_if_le (tgt := 97) hx hb dX10_writtenLength_87 (by decide) (fun c87 => ?_) (fun c87 => ?_)
    · replace hf := ip c87 hf
      refine lv_iload_n hx hb dX10_writtenLength_97 rfl (lv_at hl 0 rfl) ?_
      exact nrl hf
    · replace hf := iq c87 hf
      refine lv_iload_n hx hb dX10_writtenLength_90 rfl (lv_at hl 0 rfl) ?_
      refine lv_iconst (v := 2) hx hb dX10_writtenLength_91 (by decide) ?_
      refine lv_iload hx hb dX10_writtenLength_92 (lv_at hl 1 rfl) ?_
      refine lv_iadd hx hb dX10_writtenLength_94 ?_
      refine lv_iadd hx hb dX10_writtenLength_95 ?_
      refine lv_istore_n (lv' := [(2, .int (x2 + (2 + x5))), (5, .int x5)]) hx hb dX10_writtenLength_96 rfl hl (by decide) rfl (fun ls hl => ?_)
      refine lv_iload_n hx hb dX10_writtenLength_97 rfl (lv_at hl 0 rfl) ?_
      exact nrl hf
  refine lv_iload_n hx hb dX10_writtenLength_0 rfl (lv_at hl 1 rfl) ?_
  obtain ⟨v1, hv1, hf⟩ := ob_e hf
  rcases v1 with t1 | u1
  · refine xcallSX (ws' := (wC g h now snap has hist ent res num col)) (n := 34) E hX hw [.int a1] [] (metx_X10_requireAccount l hlT g a1 t1 hv1) rfl (by decide) rfl rfl [0, 1, 2, 3, 4, 5, 6, 7, 8, 9, 10, 11, 12, 13, 14, 15, 16, 17, 18, 19, 20, 21, 22, 23, 24, 25, 26, 27, 28, 29, 30, 31, 32, 33] rfl (by decide +kernel) rfl qw369 k_X10_requireAccount ⟨rfl, rfl, Nat.le_of_ble_eq_true rfl, Nat.le_of_ble_eq_true rfl⟩ ⟨by decide, by decide⟩ hl.1 (Nat.le_of_ble_eq_true rfl) dX10_writtenLength_1 (fun H locs q ce hw hce hcv hcl => ?_)
    exact hprop _ _ _ _ _ _ _ _ (jl hf) hw hce hcv hcl
  · refine xcallS (ws' := (wC g h now snap has hist ent res num col)) (st1 := []) (n := 34) E hw [.int a1] [] (met_X10_requireAccount l g a1 u1 hv1) rfl (by decide) rfl rfl [0, 1, 2, 3, 4, 5, 6, 7, 8, 9, 10, 11, 12, 13, 14, 15, 16, 17, 18, 19, 20, 21, 22, 23, 24, 25, 26, 27, 28, 29, 30, 31, 32, 33] rfl (by decide +kernel) rfl qw369 k_X10_requireAccount ⟨rfl, rfl, Nat.le_of_ble_eq_true rfl, Nat.le_of_ble_eq_true rfl⟩ ⟨Nat.zero_le _, Nat.zero_le _⟩ hl.1 (Nat.le_of_ble_eq_true rfl) dX10_writtenLength_1 rfl (fun H locs hw => ?_)
    refine lv_aload_n hx hb dX10_writtenLength_4 rfl (lv_at hl 0 rfl) ?_
    refine xget (v := .ref (h 1)) E hw 0 rfl rfl 0 (by decide) inw10 qw246 rfl rfl dX10_writtenLength_5 ?_
    refine lv_iload_n hx hb dX10_writtenLength_8 rfl (lv_at hl 1 rfl) ?_
    obtain ⟨v9, hv9, hf⟩ := ob_e hf
    refine xcallV (ws' := (wC g h now snap has hist ent res num col)) (st1 := [.int v9]) (n := 34) E hw [.int a1] [1, 2, 3] (met_X7_wholeOf l g h 1 now a1 v9 hv9) rfl (by decide) rfl rfl [0, 34, 35, 36, 4, 5, 6, 7, 8, 9, 10, 11, 12, 13, 14, 15, 16, 17, 18, 19, 20, 21, 22, 23, 24, 25, 26, 27, 28, 29, 30, 31, 32, 33] rfl (by decide +kernel) rfl rfl rfl rfl qw440 k_X7_wholeOf ⟨rfl, rfl, Nat.le_of_ble_eq_true rfl, Nat.le_of_ble_eq_true rfl⟩ ⟨Nat.zero_le _, Nat.zero_le _⟩ hl.1 (Nat.le_of_ble_eq_true rfl) dX10_writtenLength_9 rfl (fun H locs hw => ?_)
    refine lv_aload_n hx hb dX10_writtenLength_12 rfl (lv_at hl 0 rfl) ?_
    refine xget (v := .ref (h 1)) E hw 0 rfl rfl 0 (by decide) inw10 qw246 rfl rfl dX10_writtenLength_13 ?_
    refine xget (v := .int now.1) E hw 1 rfl rfl 0 (by decide) inw7 qw101 rfl rfl dX10_writtenLength_16 ?_
    obtain ⟨v19, hv19, hf⟩ := ob_e hf
    refine xcallS (ws' := (wC g h now snap has hist ent res num col)) (st1 := [.int v19]) (n := 34) E hw [.int v9, .int now.1] [] (met_X9_count l g v9 now.1 v19 hv19) rfl (by decide) rfl rfl [0, 1, 2, 3, 4, 5, 6, 7, 8, 9, 10, 11, 12, 13, 14, 15, 16, 17, 18, 19, 20, 21, 22, 23, 24, 25, 26, 27, 28, 29, 30, 31, 32, 33] rfl (by decide +kernel) rfl qw444 k_X9_count ⟨rfl, rfl, Nat.le_of_ble_eq_true rfl, Nat.le_of_ble_eq_true rfl⟩ ⟨Nat.zero_le _, Nat.zero_le _⟩ hl.1 (Nat.le_of_ble_eq_true rfl) dX10_writtenLength_19 rfl (fun H locs hw => ?_)
    refine lv_istore_n (lv' := [(2, .int v19), (0, .ref (h 0)), (1, .int a1)]) hx hb dX10_writtenLength_22 rfl hl (by decide) rfl (fun ls hl => ?_)
    refine lv_aload_n hx hb dX10_writtenLength_23 rfl (lv_at hl 1 rfl) ?_
    refine xget (v := .ref (h 1)) E hw 0 rfl rfl 0 (by decide) inw10 qw246 rfl rfl dX10_writtenLength_24 ?_
    refine lv_iload_n hx hb dX10_writtenLength_27 rfl (lv_at hl 2 rfl) ?_
    obtain ⟨v28, hv28, hf⟩ := ob_e hf
    refine xcallV (ws' := (wC g h now snap has hist ent res num col)) (st1 := [.int v28]) (n := 34) E hw [.int a1] [1, 2, 3] (met_X7_denominatorOf l g h 1 now a1 v28 hv28) rfl (by decide) rfl rfl [0, 34, 35, 36, 4, 5, 6, 7, 8, 9, 10, 11, 12, 13, 14, 15, 16, 17, 18, 19, 20, 21, 22, 23, 24, 25, 26, 27, 28, 29, 30, 31, 32, 33] rfl (by decide +kernel) rfl rfl rfl rfl qw347 k_X7_denominatorOf ⟨rfl, rfl, Nat.le_of_ble_eq_true rfl, Nat.le_of_ble_eq_true rfl⟩ ⟨Nat.zero_le _, Nat.zero_le _⟩ hl.1 (Nat.le_of_ble_eq_true rfl) dX10_writtenLength_28 rfl (fun H locs hw => ?_)
    refine lv_istore_n (lv' := [(3, .int v28), (2, .int v19), (0, .ref (h 0)), (1, .int a1)]) hx hb dX10_writtenLength_31 rfl hl (by decide) rfl (fun ls hl => ?_)
    refine lv_iload_n hx hb dX10_writtenLength_32 rfl (lv_at hl 0 rfl) ?_
    refine lv_i2l hx hb dX10_writtenLength_33 rfl ?_
    refine lv_aload_n hx hb dX10_writtenLength_34 rfl (lv_at hl 2 rfl) ?_
    refine xget (v := .ref (h 1)) E hw 0 rfl rfl 0 (by decide) inw10 qw246 rfl rfl dX10_writtenLength_35 ?_
    refine xget (v := .int now.1) E hw 1 rfl rfl 0 (by decide) inw7 qw101 rfl rfl dX10_writtenLength_38 ?_
    obtain ⟨v41, hv41, hf⟩ := ob_e hf
    refine xcallS (ws' := (wC g h now snap has hist ent res num col)) (st1 := [.int v41]) (n := 34) E hw [.long v28.toInt64, .int now.1] [] (met_X0_head l g v28.toInt64 now.1 v41 hv41) rfl (by decide) rfl rfl [0, 1, 2, 3, 4, 5, 6, 7, 8, 9, 10, 11, 12, 13, 14, 15, 16, 17, 18, 19, 20, 21, 22, 23, 24, 25, 26, 27, 28, 29, 30, 31, 32, 33] rfl (by decide +kernel) rfl qw512 k_X0_head ⟨rfl, rfl, Nat.le_of_ble_eq_true rfl, Nat.le_of_ble_eq_true rfl⟩ ⟨Nat.zero_le _, Nat.zero_le _⟩ hl.1 (Nat.le_of_ble_eq_true rfl) dX10_writtenLength_41 rfl (fun H locs hw => ?_)
    refine lv_istore (lv' := [(4, .int v41), (3, .int v28), (2, .int v19), (0, .ref (h 0)), (1, .int a1)]) hx hb dX10_writtenLength_44 hl (by decide) rfl (fun ls hl => ?_)
    refine lv_aload_n hx hb dX10_writtenLength_46 rfl (lv_at hl 3 rfl) ?_
    refine xget (v := .ref (h 1)) E hw 0 rfl rfl 0 (by decide) inw10 qw246 rfl rfl dX10_writtenLength_47 ?_
    refine lv_iload_n hx hb dX10_writtenLength_50 rfl (lv_at hl 4 rfl) ?_
    obtain ⟨v51, hv51, hf⟩ := ob_e hf
    refine xcallV (ws' := (wC g h now snap has hist ent res num col)) (st1 := [.long v51]) (n := 34) E hw [.int a1] [1, 2, 3] (met_X7_restOf l g h 1 now a1 v51 hv51) rfl (by decide) rfl rfl [0, 34, 35, 36, 4, 5, 6, 7, 8, 9, 10, 11, 12, 13, 14, 15, 16, 17, 18, 19, 20, 21, 22, 23, 24, 25, 26, 27, 28, 29, 30, 31, 32, 33] rfl (by decide +kernel) rfl rfl rfl rfl qw526 k_X7_restOf ⟨rfl, rfl, Nat.le_of_ble_eq_true rfl, Nat.le_of_ble_eq_true rfl⟩ ⟨Nat.zero_le _, Nat.zero_le _⟩ hl.1 (Nat.le_of_ble_eq_true rfl) dX10_writtenLength_51 rfl (fun H locs hw => ?_)
    refine lv_iload_n hx hb dX10_writtenLength_54 rfl (lv_at hl 1 rfl) ?_
    refine lv_i2l hx hb dX10_writtenLength_55 rfl ?_
    refine lv_aload_n hx hb dX10_writtenLength_56 rfl (lv_at hl 3 rfl) ?_
    refine xget (v := .ref (h 1)) E hw 0 rfl rfl 0 (by decide) inw10 qw246 rfl rfl dX10_writtenLength_57 ?_
    refine xget (v := .int now.1) E hw 1 rfl rfl 0 (by decide) inw7 qw101 rfl rfl dX10_writtenLength_60 ?_
    refine lv_iload hx hb dX10_writtenLength_63 (lv_at hl 0 rfl) ?_
    obtain ⟨v65, hv65, hf⟩ := ob_e hf
    refine xcallS (ws' := (wC g h now snap has hist ent res num col)) (st1 := [.int v65]) (n := 34) E hw [.long v51, .long v28.toInt64, .int now.1, .int v41] [] (met_X0_periodByDividing l g v51 v28.toInt64 now.1 v41 v65 hv65) rfl (by decide) rfl rfl [0, 1, 2, 3, 4, 5, 6, 7, 8, 9, 10, 11, 12, 13, 14, 15, 16, 17, 18, 19, 20, 21, 22, 23, 24, 25, 26, 27, 28, 29, 30, 31, 32, 33] rfl (by decide +kernel) rfl qw530 k_X0_periodByDividing ⟨rfl, rfl, Nat.le_of_ble_eq_true rfl, Nat.le_of_ble_eq_true rfl⟩ ⟨Nat.zero_le _, Nat.zero_le _⟩ hl.1 (Nat.le_of_ble_eq_true rfl) dX10_writtenLength_65 rfl (fun H locs hw => ?_)
    refine lv_istore (lv' := [(5, .int v65), (4, .int v41), (3, .int v28), (2, .int v19), (0, .ref (h 0)), (1, .int a1)]) hx hb dX10_writtenLength_68 hl (by decide) rfl (fun ls hl => ?_)
    refine lv_iload hx hb dX10_writtenLength_70 (lv_at hl 1 rfl) ?_
    refine lv_iload hx hb dX10_writtenLength_72 (lv_at hl 0 rfl) ?_
    refine lv_iadd hx hb dX10_writtenLength_74 ?_
    refine lv_if_le (tgt := 85) hx hb dX10_writtenLength_75 (by decide) (fun c75 => ?_) (fun c75 => ?_)
    · replace hf := ip c75 hf
      exact b85 _ _ _ v19 v65 hw (lv_sub hl [3, 0] rfl) hf
    · replace hf := iq c75 hf
      refine lv_iload_n hx hb dX10_writtenLength_78 rfl (lv_at hl 3 rfl) ?_
      refine lv_iconst (v := 1) hx hb dX10_writtenLength_79 (by decide) ?_
      refine lv_iload hx hb dX10_writtenLength_80 (lv_at hl 1 rfl) ?_
      refine lv_iadd hx hb dX10_writtenLength_82 ?_
      refine lv_iadd hx hb dX10_writtenLength_83 ?_
      refine lv_istore_n (lv' := [(2, .int (v19 + (1 + v41))), (5, .int v65), (4, .int v41), (3, .int v28), (0, .ref (h 0)), (1, .int a1)]) hx hb dX10_writtenLength_84 rfl hl (by decide) rfl (fun ls hl => ?_)
      exact b85 _ _ _ (v19 + (1 + v41)) v65 hw (lv_sub hl [0, 1] rfl) hf
theorem k_X10_writtenAt : xKV yX10_writtenAt cX10_writtenAt 5 (some .int) 2 := ⟨qw589, qw590, qw66, qw591, by decide +kernel, by decide +kernel, by decide +kernel⟩
set_option maxHeartbeats 4000000 in
set_option maxRecDepth 100000 in
theorem met_X10_writtenAt (l : Launch) (g : xG) (h : Nat → Nat) (now : SC) (snap : SC) (has : Int32) (hist : HC) (ent : EC) (res : RC) (num : NC) (col : CC) (a1 : Int32) (a2 : Int32) (out : Int32) (hf : f_X10_writtenAt now a1 a2 = some (Sum.inr out)) : xM l yX10_writtenAt (xC yX10_writtenAt cX10_writtenAt 5 (some .int)) { frames := 4, cells := 0, slots := 0, locals := 106 } g (wC g h now snap has hist ent res num col) [.ref (h 0), .int a1, .int a2] (some (.int out)) (wC g h now snap has hist ent res num col) := by
  refine xof (by decide) (Nat.le_of_ble_eq_true rfl) ⟨rfl, rfl⟩ ?_
  intro p e s m below meth c A ls E hr hlocks hw hl hpost hAe
  have hx := E.1.1
  have hb := E.1.2.1
  have hown := E.1.2.2.2.1
  have hts := E.1.2.2.2.2
  generalize hZ : (MQ below (xPost g (wC g h now snap has hist ent res num col) (wC g h now snap has hist ent res num col) s.heap.size (some (.int out))) [.ref (h 0), .int a1, .int a2].toArray s 0 0 A) = ZZ
  have hret : ∀ (pc : Nat) (H : Heap) (locs : List Loc) (ls : Array Slot) (v : Int32), v = out → decode cX10_writtenAt pc = .ok (.ireturn, 1) → xW g A s.heap (wC g h now snap has hist ent res num col) H locs → W p l e { frames := 4, cells := 0, slots := 0, locals := 106 } s m [.ref (h 0), .int a1, .int a2].toArray below meth c H locs 0 0 ZZ (F0 m pc ls [.int v]) := by
    intro pc H locs ls v he hd hw
    subst he
    rw [← hZ]
    exact W.iret hx hb hr (hpost H locs hw).1 (hpost H locs hw).2 hd hlocks
  clear hpost
  have b17 : ∀ (H : Heap) (locs : List Loc) (ls : Array Slot), xW g A s.heap (wC g h now snap has hist ent res num col) H locs → lv_has ls 5 [] → f_X10_writtenAt_b17 now = some (Sum.inr out) → W p l e { frames := 4, cells := 0, slots := 0, locals := 106 } s m [.ref (h 0), .int a1, .int a2].toArray below meth c H locs 0 0 ZZ (F0 m 17 ls []) := by
    intro H locs ls hw hl hf
    exact nlr hf
  refine lv_iload_n hx hb dX10_writtenAt_0 rfl (lv_at hl 1 rfl) ?_
  obtain ⟨v1, hv1, hf⟩ := ob_e hf
  rcases v1 with t1 | u1
  · exact nlr hf
  · refine xcallS (ws' := (wC g h now snap has hist ent res num col)) (st1 := []) (n := 34) E hw [.int a1] [] (met_X10_requireAccount l g a1 u1 hv1) rfl (by decide) rfl rfl [0, 1, 2, 3, 4, 5, 6, 7, 8, 9, 10, 11, 12, 13, 14, 15, 16, 17, 18, 19, 20, 21, 22, 23, 24, 25, 26, 27, 28, 29, 30, 31, 32, 33] rfl (by decide +kernel) rfl qw369 k_X10_requireAccount ⟨rfl, rfl, Nat.le_of_ble_eq_true rfl, Nat.le_of_ble_eq_true rfl⟩ ⟨Nat.zero_le _, Nat.zero_le _⟩ hl.1 (Nat.le_of_ble_eq_true rfl) dX10_writtenAt_1 rfl (fun H locs hw => ?_)
    refine lv_iload_n hx hb dX10_writtenAt_4 rfl (lv_at hl 2 rfl) ?_
    refine lv_if_lt (tgt := 17) hx hb dX10_writtenAt_5 (by decide) (fun c5 => ?_) (fun c5 => ?_)
    · replace hf := ip c5 hf
      exact b17 _ _ _  hw (lv_sub hl [] rfl) hf
    · replace hf := iq c5 hf
      refine lv_iload_n hx hb dX10_writtenAt_8 rfl (lv_at hl 2 rfl) ?_
      refine lv_aload_n hx hb dX10_writtenAt_9 rfl (lv_at hl 0 rfl) ?_
      refine lv_iload_n hx hb dX10_writtenAt_10 rfl (lv_at hl 1 rfl) ?_
      obtain ⟨v11, hv11, hf⟩ := ob_e hf
      rcases v11 with t11 | u11
      · exact nlr hf
      · refine xcallV (ws' := (wC g h now snap has hist ent res num col)) (st1 := [.int u11, .int a2]) (n := 34) E hw [.int a1] [0, 1, 2, 3, 4, 5, 6, 7, 8, 9, 10, 11, 12, 13, 14, 15, 16, 17, 18, 19, 20, 21, 22, 23, 24, 25, 26, 27, 28, 29, 30, 31, 32, 33] (met_X10_writtenLength l g h now snap has hist ent res num col a1 u11 hv11) rfl (by decide) rfl rfl [34, 35, 36, 37, 38, 39, 40, 41, 42, 43, 44, 45, 46, 47, 48, 49, 50, 51, 52, 53, 54, 55, 56, 57, 58, 59, 60, 61, 62, 63, 64, 65, 66, 67] rfl (by decide +kernel) rfl rfl rfl rfl qw584 k_X10_writtenLength ⟨rfl, rfl, Nat.le_of_ble_eq_true rfl, Nat.le_of_ble_eq_true rfl⟩ ⟨Nat.zero_le _, Nat.zero_le _⟩ hl.1 (Nat.le_of_ble_eq_true rfl) dX10_writtenAt_11 rfl (fun H locs hw => ?_)
        refine lv_icmp_lt (tgt := 27) hx hb dX10_writtenAt_14 (by decide) (fun c14 => ?_) (fun c14 => ?_)
        · replace hf := ip c14 hf
          refine lv_aload_n hx hb dX10_writtenAt_27 rfl (lv_at hl 0 rfl) ?_
          refine xget (v := .ref (h 1)) E hw 0 rfl rfl 0 (by decide) inw10 qw246 rfl rfl dX10_writtenAt_28 ?_
          refine lv_iload_n hx hb dX10_writtenAt_31 rfl (lv_at hl 1 rfl) ?_
          obtain ⟨v32, hv32, hf⟩ := ob_e hf
          refine xcallV (ws' := (wC g h now snap has hist ent res num col)) (st1 := [.int v32]) (n := 34) E hw [.int a1] [1, 2, 3] (met_X7_wholeOf l g h 1 now a1 v32 hv32) rfl (by decide) rfl rfl [0, 34, 35, 36, 4, 5, 6, 7, 8, 9, 10, 11, 12, 13, 14, 15, 16, 17, 18, 19, 20, 21, 22, 23, 24, 25, 26, 27, 28, 29, 30, 31, 32, 33] rfl (by decide +kernel) rfl rfl rfl rfl qw440 k_X7_wholeOf ⟨rfl, rfl, Nat.le_of_ble_eq_true rfl, Nat.le_of_ble_eq_true rfl⟩ ⟨Nat.zero_le _, Nat.zero_le _⟩ hl.1 (Nat.le_of_ble_eq_true rfl) dX10_writtenAt_32 rfl (fun H locs hw => ?_)
          refine lv_istore_n (lv' := [(3, .int v32), (0, .ref (h 0)), (1, .int a1), (2, .int a2)]) hx hb dX10_writtenAt_35 rfl hl (by decide) rfl (fun ls hl => ?_)
          refine lv_iload_n hx hb dX10_writtenAt_36 rfl (lv_at hl 0 rfl) ?_
          refine lv_aload_n hx hb dX10_writtenAt_37 rfl (lv_at hl 1 rfl) ?_
          refine xget (v := .ref (h 1)) E hw 0 rfl rfl 0 (by decide) inw10 qw246 rfl rfl dX10_writtenAt_38 ?_
          refine xget (v := .int now.1) E hw 1 rfl rfl 0 (by decide) inw7 qw101 rfl rfl dX10_writtenAt_41 ?_
          obtain ⟨v44, hv44, hf⟩ := ob_e hf
          refine xcallS (ws' := (wC g h now snap has hist ent res num col)) (st1 := [.int v44]) (n := 34) E hw [.int v32, .int now.1] [] (met_X9_count l g v32 now.1 v44 hv44) rfl (by decide) rfl rfl [0, 1, 2, 3, 4, 5, 6, 7, 8, 9, 10, 11, 12, 13, 14, 15, 16, 17, 18, 19, 20, 21, 22, 23, 24, 25, 26, 27, 28, 29, 30, 31, 32, 33] rfl (by decide +kernel) rfl qw444 k_X9_count ⟨rfl, rfl, Nat.le_of_ble_eq_true rfl, Nat.le_of_ble_eq_true rfl⟩ ⟨Nat.zero_le _, Nat.zero_le _⟩ hl.1 (Nat.le_of_ble_eq_true rfl) dX10_writtenAt_44 rfl (fun H locs hw => ?_)
          refine lv_istore (lv' := [(4, .int v44), (3, .int v32), (0, .ref (h 0)), (1, .int a1), (2, .int a2)]) hx hb dX10_writtenAt_47 hl (by decide) rfl (fun ls hl => ?_)
          refine lv_iload_n hx hb dX10_writtenAt_49 rfl (lv_at hl 4 rfl) ?_
          refine lv_iload hx hb dX10_writtenAt_50 (lv_at hl 0 rfl) ?_
          refine lv_icmp_ge (tgt := 76) hx hb dX10_writtenAt_52 (by decide) (fun c52 => ?_) (fun c52 => ?_)
          · replace hf := ip c52 hf
            refine lv_aload_n hx hb dX10_writtenAt_76 rfl (lv_at hl 2 rfl) ?_
            refine lv_iload_n hx hb dX10_writtenAt_77 rfl (lv_at hl 3 rfl) ?_
            refine lv_iload_n hx hb dX10_writtenAt_78 rfl (lv_at hl 4 rfl) ?_
            refine lv_iload hx hb dX10_writtenAt_79 (lv_at hl 0 rfl) ?_
            refine lv_isub hx hb dX10_writtenAt_81 ?_
            obtain ⟨v82, hv82, hf⟩ := ob_e hf
            refine xcallV (ws' := (wC g h now snap has hist ent res num col)) (st1 := [.int v82]) (n := 34) E hw [.int a1, .int (a2 - v44)] [0, 1, 2, 3, 4, 5, 6, 7, 8, 9, 10, 11, 12, 13, 14, 15, 16, 17, 18, 19, 20, 21, 22, 23, 24, 25, 26, 27, 28, 29, 30, 31, 32, 33] (met_X10_codeBehind l g h now snap has hist ent res num col a1 (a2 - v44) v82 hv82) rfl (by decide) rfl rfl [34, 35, 36, 37, 38, 39, 40, 41, 42, 43, 44, 45, 46, 47, 48, 49, 50, 51, 52, 53, 54, 55, 56, 57, 58, 59, 60, 61, 62, 63, 64, 65, 66, 67] rfl (by decide +kernel) rfl rfl rfl rfl qw596 k_X10_codeBehind ⟨rfl, rfl, Nat.le_of_ble_eq_true rfl, Nat.le_of_ble_eq_true rfl⟩ ⟨Nat.zero_le _, Nat.zero_le _⟩ hl.1 (Nat.le_of_ble_eq_true rfl) dX10_writtenAt_82 rfl (fun H locs hw => ?_)
            exact hret _ _ _ _ _ (jr hf) dX10_writtenAt_85 hw
          · replace hf := iq c52 hf
            refine lv_iload_n hx hb dX10_writtenAt_55 rfl (lv_at hl 1 rfl) ?_
            refine lv_aload_n hx hb dX10_writtenAt_56 rfl (lv_at hl 2 rfl) ?_
            refine xget (v := .ref (h 1)) E hw 0 rfl rfl 0 (by decide) inw10 qw246 rfl rfl dX10_writtenAt_57 ?_
            refine xget (v := .int now.1) E hw 1 rfl rfl 0 (by decide) inw7 qw101 rfl rfl dX10_writtenAt_60 ?_
            refine lv_iload hx hb dX10_writtenAt_63 (lv_at hl 0 rfl) ?_
            refine lv_iconst (v := 1) hx hb dX10_writtenAt_65 (by decide) ?_
            refine lv_isub hx hb dX10_writtenAt_66 ?_
            refine lv_iload_n hx hb dX10_writtenAt_67 rfl (lv_at hl 4 rfl) ?_
            refine lv_isub hx hb dX10_writtenAt_68 ?_
            obtain ⟨v69, hv69, hf⟩ := ob_e hf
            refine xcallS (ws' := (wC g h now snap has hist ent res num col)) (st1 := [.int v69]) (n := 34) E hw [.int v32, .int now.1, .int ((v44 - 1) - a2)] [] (met_X9_byDividing l g v32 now.1 ((v44 - 1) - a2) v69 hv69) rfl (by decide) rfl rfl [0, 1, 2, 3, 4, 5, 6, 7, 8, 9, 10, 11, 12, 13, 14, 15, 16, 17, 18, 19, 20, 21, 22, 23, 24, 25, 26, 27, 28, 29, 30, 31, 32, 33] rfl (by decide +kernel) rfl qw471 k_X9_byDividing ⟨rfl, rfl, Nat.le_of_ble_eq_true rfl, Nat.le_of_ble_eq_true rfl⟩ ⟨Nat.zero_le _, Nat.zero_le _⟩ hl.1 (Nat.le_of_ble_eq_true rfl) dX10_writtenAt_69 rfl (fun H locs hw => ?_)
            obtain ⟨v72, hv72, hf⟩ := ob_e hf
            refine xcallS (ws' := (wC g h now snap has hist ent res num col)) (st1 := [.int v72]) (n := 34) E hw [.int v69] [] (met_X10_codeOfDigit l g v69 v72 hv72) rfl (by decide) rfl rfl [0, 1, 2, 3, 4, 5, 6, 7, 8, 9, 10, 11, 12, 13, 14, 15, 16, 17, 18, 19, 20, 21, 22, 23, 24, 25, 26, 27, 28, 29, 30, 31, 32, 33] rfl (by decide +kernel) rfl qw593 k_X10_codeOfDigit ⟨rfl, rfl, Nat.le_of_ble_eq_true rfl, Nat.le_of_ble_eq_true rfl⟩ ⟨Nat.zero_le _, Nat.zero_le _⟩ hl.1 (Nat.le_of_ble_eq_true rfl) dX10_writtenAt_72 rfl (fun H locs hw => ?_)
            exact hret _ _ _ _ _ (jr hf) dX10_writtenAt_75 hw
        · replace hf := iq c14 hf
          exact b17 _ _ _  hw (lv_sub hl [] rfl) hf
set_option maxHeartbeats 4000000 in
set_option maxRecDepth 100000 in
theorem metx_X10_writtenAt (l : Launch) (hlT : l.stackTraces = false) (g : xG) (h : Nat → Nat) (now : SC) (snap : SC) (has : Int32) (hist : HC) (ent : EC) (res : RC) (num : NC) (col : CC) (a1 : Int32) (a2 : Int32) (out : Nat) (hf : f_X10_writtenAt now a1 a2 = some (Sum.inl out)) : xMX l yX10_writtenAt (xC yX10_writtenAt cX10_writtenAt 5 (some .int)) { frames := 8, cells := 1, slots := 6, locals := 145 } g (wC g h now snap has hist ent res num col) [.ref (h 0), .int a1, .int a2] (xEx out) (wC g h now snap has hist ent res num col) := by
  refine xofX (by decide) (Nat.le_of_ble_eq_true rfl) ⟨rfl, rfl⟩ ?_
  intro p e s m below meth c A ls E hlocks htab hX hw hl hpost
  have hx := E.1.1
  have hb := E.1.2.1
  have hown := E.1.2.2.2.1
  have hts := E.1.2.2.2.2
  have hx9 : ∀ (H : Heap) (locs : List Loc) (kx : Nat), kx = out → xW g A s.heap (wC g h now snap has hist ent res num col) H locs → ∀ t : State, s.vm.Alike t.vm → H.size ≤ t.heap.size → (∀ q : Nat, q < H.size → t.heap[q]? = H[q]?) → xPostX g (wC g h now snap has hist ent res num col) (wC g h now snap has hist ent res num col) s.heap.size (xEx out) (xEx kx) s t := by
    intro H locs kx he hw t h1 h2 h3
    subst he
    exact (hpost H locs hw).1 t h1 h2 h3
  have hx8 : ∀ (H : Heap) (locs : List Loc) (kx : Nat), kx = out → xW g A s.heap (wC g h now snap has hist ent res num col) H locs → ∀ z ∈ locs, A z.base := by
    intro H locs kx he hw
    subst he
    exact (hpost H locs hw).2
  clear hpost
  generalize hZ : (vx_MQ below (fun _ _ _ _ => False) (xPostX g (wC g h now snap has hist ent res num col) (wC g h now snap has hist ent res num col) s.heap.size (xEx out)) [.ref (h 0), .int a1, .int a2].toArray s 1 6 A) = ZZ
  have hprop : ∀ (pc : Nat) (H : Heap) (locs : List Loc) (ls : Array Slot) (rest : List Value) (q : Nat) (ce : Cell) (kx : Nat), kx = out → xW g A s.heap (wC g h now snap has hist ent res num col) H locs → H[q]? = some ce → ce.vm = .none → s.vm.findClass (xEx kx) = some ce.cls → vx_W p l e { frames := 8, cells := 1, slots := 6, locals := 145 } s m [.ref (h 0), .int a1, .int a2].toArray below meth c H locs (0 + 1) (0 + 6) ZZ (F0 m pc ls rest) q := by
    intro pc H locs ls rest q ce kx he hw hce hcv hcl
    rw [← hZ]
    exact vx_out (fun x hx => (htab x hx).elim) hlocks hce hcv hcl (fun t ht hW => hx9 H locs kx he hw t hW (by rw [ht]; exact Nat.le_refl _) (fun q _ => by rw [ht])) (hx8 H locs kx he hw) (Nat.le_refl _) (Nat.le_refl _)
  have b17 : ∀ (H : Heap) (locs : List Loc) (ls : Array Slot), xW g A s.heap (wC g h now snap has hist ent res num col) H locs → lv_has ls 5 [] → f_X10_writtenAt_b17 now = some (Sum.inl out) → W p l e { frames := 8, cells := 1, slots := 6, locals := 145 } s m [.ref (h 0), .int a1, .int a2].toArray below meth c H locs 0 0 ZZ (F0 m 17 ls []) := by
    intro H locs ls hw hl hf
    rw [← hZ]
    exact xthrow (text := "no such place") hlT E hX htab hlocks hw (by decide) qw372 qw80 xat1 xbt1 xct1 (by decide) hl.1 dX10_writtenAt_17 dX10_writtenAt_20 dX10_writtenAt_21 dX10_writtenAt_23 dX10_writtenAt_26 ⟨by decide, Nat.le_of_ble_eq_true rfl, by decide, by decide⟩ (hx9 _ _ _ (jl hf) hw)
  refine lv_iload_n hx hb dX10_writtenAt_0 rfl (lv_at hl 1 rfl) ?_
  obtain ⟨v1, hv1, hf⟩ := ob_e hf
  rcases v1 with t1 | u1
  · refine xcallSX (ws' := (wC g h now snap has hist ent res num col)) (n := 34) E hX hw [.int a1] [] (metx_X10_requireAccount l hlT g a1 t1 hv1) rfl (by decide) rfl rfl [0, 1, 2, 3, 4, 5, 6, 7, 8, 9, 10, 11, 12, 13, 14, 15, 16, 17, 18, 19, 20, 21, 22, 23, 24, 25, 26, 27, 28, 29, 30, 31, 32, 33] rfl (by decide +kernel) rfl qw369 k_X10_requireAccount ⟨rfl, rfl, Nat.le_of_ble_eq_true rfl, Nat.le_of_ble_eq_true rfl⟩ ⟨by decide, by decide⟩ hl.1 (Nat.le_of_ble_eq_true rfl) dX10_writtenAt_1 (fun H locs q ce hw hce hcv hcl => ?_)
    exact hprop _ _ _ _ _ _ _ _ (jl hf) hw hce hcv hcl
  · refine xcallS (ws' := (wC g h now snap has hist ent res num col)) (st1 := []) (n := 34) E hw [.int a1] [] (met_X10_requireAccount l g a1 u1 hv1) rfl (by decide) rfl rfl [0, 1, 2, 3, 4, 5, 6, 7, 8, 9, 10, 11, 12, 13, 14, 15, 16, 17, 18, 19, 20, 21, 22, 23, 24, 25, 26, 27, 28, 29, 30, 31, 32, 33] rfl (by decide +kernel) rfl qw369 k_X10_requireAccount ⟨rfl, rfl, Nat.le_of_ble_eq_true rfl, Nat.le_of_ble_eq_true rfl⟩ ⟨Nat.zero_le _, Nat.zero_le _⟩ hl.1 (Nat.le_of_ble_eq_true rfl) dX10_writtenAt_1 rfl (fun H locs hw => ?_)
    refine lv_iload_n hx hb dX10_writtenAt_4 rfl (lv_at hl 2 rfl) ?_
    refine lv_if_lt (tgt := 17) hx hb dX10_writtenAt_5 (by decide) (fun c5 => ?_) (fun c5 => ?_)
    · replace hf := ip c5 hf
      exact b17 _ _ _  hw (lv_sub hl [] rfl) hf
    · replace hf := iq c5 hf
      refine lv_iload_n hx hb dX10_writtenAt_8 rfl (lv_at hl 2 rfl) ?_
      refine lv_aload_n hx hb dX10_writtenAt_9 rfl (lv_at hl 0 rfl) ?_
      refine lv_iload_n hx hb dX10_writtenAt_10 rfl (lv_at hl 1 rfl) ?_
      obtain ⟨v11, hv11, hf⟩ := ob_e hf
      rcases v11 with t11 | u11
      · refine xcallVX (ws' := (wC g h now snap has hist ent res num col)) (n := 34) E hX hw [.int a1] [0, 1, 2, 3, 4, 5, 6, 7, 8, 9, 10, 11, 12, 13, 14, 15, 16, 17, 18, 19, 20, 21, 22, 23, 24, 25, 26, 27, 28, 29, 30, 31, 32, 33] (metx_X10_writtenLength l hlT g h now snap has hist ent res num col a1 t11 hv11) rfl (by decide) rfl rfl [34, 35, 36, 37, 38, 39, 40, 41, 42, 43, 44, 45, 46, 47, 48, 49, 50, 51, 52, 53, 54, 55, 56, 57, 58, 59, 60, 61, 62, 63, 64, 65, 66, 67] rfl (by decide +kernel) rfl rfl rfl rfl qw584 k_X10_writtenLength ⟨rfl, rfl, Nat.le_of_ble_eq_true rfl, Nat.le_of_ble_eq_true rfl⟩ ⟨by decide, by decide⟩ hl.1 (Nat.le_of_ble_eq_true rfl) dX10_writtenAt_11 (fun H locs q ce hw hce hcv hcl => ?_)
        exact hprop _ _ _ _ _ _ _ _ (jl hf) hw hce hcv hcl
      · refine xcallV (ws' := (wC g h now snap has hist ent res num col)) (st1 := [.int u11, .int a2]) (n := 34) E hw [.int a1] [0, 1, 2, 3, 4, 5, 6, 7, 8, 9, 10, 11, 12, 13, 14, 15, 16, 17, 18, 19, 20, 21, 22, 23, 24, 25, 26, 27, 28, 29, 30, 31, 32, 33] (met_X10_writtenLength l g h now snap has hist ent res num col a1 u11 hv11) rfl (by decide) rfl rfl [34, 35, 36, 37, 38, 39, 40, 41, 42, 43, 44, 45, 46, 47, 48, 49, 50, 51, 52, 53, 54, 55, 56, 57, 58, 59, 60, 61, 62, 63, 64, 65, 66, 67] rfl (by decide +kernel) rfl rfl rfl rfl qw584 k_X10_writtenLength ⟨rfl, rfl, Nat.le_of_ble_eq_true rfl, Nat.le_of_ble_eq_true rfl⟩ ⟨Nat.zero_le _, Nat.zero_le _⟩ hl.1 (Nat.le_of_ble_eq_true rfl) dX10_writtenAt_11 rfl (fun H locs hw => ?_)
        refine lv_icmp_lt (tgt := 27) hx hb dX10_writtenAt_14 (by decide) (fun c14 => ?_) (fun c14 => ?_)
        · replace hf := ip c14 hf
          refine lv_aload_n hx hb dX10_writtenAt_27 rfl (lv_at hl 0 rfl) ?_
          refine xget (v := .ref (h 1)) E hw 0 rfl rfl 0 (by decide) inw10 qw246 rfl rfl dX10_writtenAt_28 ?_
          refine lv_iload_n hx hb dX10_writtenAt_31 rfl (lv_at hl 1 rfl) ?_
          obtain ⟨v32, hv32, hf⟩ := ob_e hf
          refine xcallV (ws' := (wC g h now snap has hist ent res num col)) (st1 := [.int v32]) (n := 34) E hw [.int a1] [1, 2, 3] (met_X7_wholeOf l g h 1 now a1 v32 hv32) rfl (by decide) rfl rfl [0, 34, 35, 36, 4, 5, 6, 7, 8, 9, 10, 11, 12, 13, 14, 15, 16, 17, 18, 19, 20, 21, 22, 23, 24, 25, 26, 27, 28, 29, 30, 31, 32, 33] rfl (by decide +kernel) rfl rfl rfl rfl qw440 k_X7_wholeOf ⟨rfl, rfl, Nat.le_of_ble_eq_true rfl, Nat.le_of_ble_eq_true rfl⟩ ⟨Nat.zero_le _, Nat.zero_le _⟩ hl.1 (Nat.le_of_ble_eq_true rfl) dX10_writtenAt_32 rfl (fun H locs hw => ?_)
          refine lv_istore_n (lv' := [(3, .int v32), (0, .ref (h 0)), (1, .int a1), (2, .int a2)]) hx hb dX10_writtenAt_35 rfl hl (by decide) rfl (fun ls hl => ?_)
          refine lv_iload_n hx hb dX10_writtenAt_36 rfl (lv_at hl 0 rfl) ?_
          refine lv_aload_n hx hb dX10_writtenAt_37 rfl (lv_at hl 1 rfl) ?_
          refine xget (v := .ref (h 1)) E hw 0 rfl rfl 0 (by decide) inw10 qw246 rfl rfl dX10_writtenAt_38 ?_
          refine xget (v := .int now.1) E hw 1 rfl rfl 0 (by decide) inw7 qw101 rfl rfl dX10_writtenAt_41 ?_
          obtain ⟨v44, hv44, hf⟩ := ob_e hf
          refine xcallS (ws' := (wC g h now snap has hist ent res num col)) (st1 := [.int v44]) (n := 34) E hw [.int v32, .int now.1] [] (met_X9_count l g v32 now.1 v44 hv44) rfl (by decide) rfl rfl [0, 1, 2, 3, 4, 5, 6, 7, 8, 9, 10, 11, 12, 13, 14, 15, 16, 17, 18, 19, 20, 21, 22, 23, 24, 25, 26, 27, 28, 29, 30, 31, 32, 33] rfl (by decide +kernel) rfl qw444 k_X9_count ⟨rfl, rfl, Nat.le_of_ble_eq_true rfl, Nat.le_of_ble_eq_true rfl⟩ ⟨Nat.zero_le _, Nat.zero_le _⟩ hl.1 (Nat.le_of_ble_eq_true rfl) dX10_writtenAt_44 rfl (fun H locs hw => ?_)
          refine lv_istore (lv' := [(4, .int v44), (3, .int v32), (0, .ref (h 0)), (1, .int a1), (2, .int a2)]) hx hb dX10_writtenAt_47 hl (by decide) rfl (fun ls hl => ?_)
          refine lv_iload_n hx hb dX10_writtenAt_49 rfl (lv_at hl 4 rfl) ?_
          refine lv_iload hx hb dX10_writtenAt_50 (lv_at hl 0 rfl) ?_
          refine lv_icmp_ge (tgt := 76) hx hb dX10_writtenAt_52 (by decide) (fun c52 => ?_) (fun c52 => ?_)
          · replace hf := ip c52 hf
            refine lv_aload_n hx hb dX10_writtenAt_76 rfl (lv_at hl 2 rfl) ?_
            refine lv_iload_n hx hb dX10_writtenAt_77 rfl (lv_at hl 3 rfl) ?_
            refine lv_iload_n hx hb dX10_writtenAt_78 rfl (lv_at hl 4 rfl) ?_
            refine lv_iload hx hb dX10_writtenAt_79 (lv_at hl 0 rfl) ?_
            refine lv_isub hx hb dX10_writtenAt_81 ?_
            obtain ⟨v82, hv82, hf⟩ := ob_e hf
            refine xcallV (ws' := (wC g h now snap has hist ent res num col)) (st1 := [.int v82]) (n := 34) E hw [.int a1, .int (a2 - v44)] [0, 1, 2, 3, 4, 5, 6, 7, 8, 9, 10, 11, 12, 13, 14, 15, 16, 17, 18, 19, 20, 21, 22, 23, 24, 25, 26, 27, 28, 29, 30, 31, 32, 33] (met_X10_codeBehind l g h now snap has hist ent res num col a1 (a2 - v44) v82 hv82) rfl (by decide) rfl rfl [34, 35, 36, 37, 38, 39, 40, 41, 42, 43, 44, 45, 46, 47, 48, 49, 50, 51, 52, 53, 54, 55, 56, 57, 58, 59, 60, 61, 62, 63, 64, 65, 66, 67] rfl (by decide +kernel) rfl rfl rfl rfl qw596 k_X10_codeBehind ⟨rfl, rfl, Nat.le_of_ble_eq_true rfl, Nat.le_of_ble_eq_true rfl⟩ ⟨Nat.zero_le _, Nat.zero_le _⟩ hl.1 (Nat.le_of_ble_eq_true rfl) dX10_writtenAt_82 rfl (fun H locs hw => ?_)
            exact nrl hf
          · replace hf := iq c52 hf
            refine lv_iload_n hx hb dX10_writtenAt_55 rfl (lv_at hl 1 rfl) ?_
            refine lv_aload_n hx hb dX10_writtenAt_56 rfl (lv_at hl 2 rfl) ?_
            refine xget (v := .ref (h 1)) E hw 0 rfl rfl 0 (by decide) inw10 qw246 rfl rfl dX10_writtenAt_57 ?_
            refine xget (v := .int now.1) E hw 1 rfl rfl 0 (by decide) inw7 qw101 rfl rfl dX10_writtenAt_60 ?_
            refine lv_iload hx hb dX10_writtenAt_63 (lv_at hl 0 rfl) ?_
            refine lv_iconst (v := 1) hx hb dX10_writtenAt_65 (by decide) ?_
            refine lv_isub hx hb dX10_writtenAt_66 ?_
            refine lv_iload_n hx hb dX10_writtenAt_67 rfl (lv_at hl 4 rfl) ?_
            refine lv_isub hx hb dX10_writtenAt_68 ?_
            obtain ⟨v69, hv69, hf⟩ := ob_e hf
            refine xcallS (ws' := (wC g h now snap has hist ent res num col)) (st1 := [.int v69]) (n := 34) E hw [.int v32, .int now.1, .int ((v44 - 1) - a2)] [] (met_X9_byDividing l g v32 now.1 ((v44 - 1) - a2) v69 hv69) rfl (by decide) rfl rfl [0, 1, 2, 3, 4, 5, 6, 7, 8, 9, 10, 11, 12, 13, 14, 15, 16, 17, 18, 19, 20, 21, 22, 23, 24, 25, 26, 27, 28, 29, 30, 31, 32, 33] rfl (by decide +kernel) rfl qw471 k_X9_byDividing ⟨rfl, rfl, Nat.le_of_ble_eq_true rfl, Nat.le_of_ble_eq_true rfl⟩ ⟨Nat.zero_le _, Nat.zero_le _⟩ hl.1 (Nat.le_of_ble_eq_true rfl) dX10_writtenAt_69 rfl (fun H locs hw => ?_)
            obtain ⟨v72, hv72, hf⟩ := ob_e hf
            refine xcallS (ws' := (wC g h now snap has hist ent res num col)) (st1 := [.int v72]) (n := 34) E hw [.int v69] [] (met_X10_codeOfDigit l g v69 v72 hv72) rfl (by decide) rfl rfl [0, 1, 2, 3, 4, 5, 6, 7, 8, 9, 10, 11, 12, 13, 14, 15, 16, 17, 18, 19, 20, 21, 22, 23, 24, 25, 26, 27, 28, 29, 30, 31, 32, 33] rfl (by decide +kernel) rfl qw593 k_X10_codeOfDigit ⟨rfl, rfl, Nat.le_of_ble_eq_true rfl, Nat.le_of_ble_eq_true rfl⟩ ⟨Nat.zero_le _, Nat.zero_le _⟩ hl.1 (Nat.le_of_ble_eq_true rfl) dX10_writtenAt_72 rfl (fun H locs hw => ?_)
            exact nrl hf
        · replace hf := iq c14 hf
          exact b17 _ _ _  hw (lv_sub hl [] rfl) hf
theorem k_X10_carries : xKV yX10_carries cX10_carries 3 (some .int) 2 := ⟨qw973, qw974, qw66, qw975, by decide +kernel, by decide +kernel, by decide +kernel⟩
set_option maxHeartbeats 4000000 in
set_option maxRecDepth 100000 in
theorem met_X10_carries (l : Launch) (g : xG) (h : Nat → Nat) (now : SC) (snap : SC) (has : Int32) (hist : HC) (ent : EC) (res : RC) (num : NC) (col : CC) (a1 : Int32) (a2 : Int32) (out : Int32 × CC) (hf : f_X10_carries now col a1 a2 = some (Sum.inr out)) : xM l yX10_carries (xC yX10_carries cX10_carries 3 (some .int)) { frames := 4, cells := 0, slots := 0, locals := 103 } g (wC g h now snap has hist ent res num col) [.ref (h 0), .int a1, .int a2] (some (.int out.1)) (wC g h now snap has hist ent res num out.2) := by
  refine xof (by decide) (Nat.le_of_ble_eq_true rfl) ⟨rfl, rfl⟩ ?_
  intro p e s m below meth c A ls E hr hlocks hw hl hpost hAe
  have hx := E.1.1
  have hb := E.1.2.1
  have hown := E.1.2.2.2.1
  have hts := E.1.2.2.2.2
  generalize hZ : (MQ below (xPost g (wC g h now snap has hist ent res num col) (wC g h now snap has hist ent res num out.2) s.heap.size (some (.int out.1))) [.ref (h 0), .int a1, .int a2].toArray s 0 0 A) = ZZ
  have hret : ∀ (pc : Nat) (H : Heap) (locs : List Loc) (ls : Array Slot) (v : Int32) (ccol : CC), (v, ccol) = out → decode cX10_carries pc = .ok (.ireturn, 1) → xW g A s.heap (wC g h now snap has hist ent res num ccol) H locs → W p l e { frames := 4, cells := 0, slots := 0, locals := 103 } s m [.ref (h 0), .int a1, .int a2].toArray below meth c H locs 0 0 ZZ (F0 m pc ls [.int v]) := by
    intro pc H locs ls v ccol he hd hw
    subst he
    rw [← hZ]
    exact W.iret hx hb hr (hpost H locs hw).1 (hpost H locs hw).2 hd hlocks
  clear hpost
  refine lv_iload_n hx hb dX10_carries_0 rfl (lv_at hl 1 rfl) ?_
  refine lv_iload_n hx hb dX10_carries_1 rfl (lv_at hl 2 rfl) ?_
  obtain ⟨v2, hv2, hf⟩ := ob_e hf
  rcases v2 with t2 | u2
  · exact nlr hf
  · refine xcallS (ws' := (wC g h now snap has hist ent res num col)) (st1 := []) (n := 34) E hw [.int a1, .int a2] [] (met_X10_requireAccounts l g a1 a2 u2 hv2) rfl (by decide) rfl rfl [0, 1, 2, 3, 4, 5, 6, 7, 8, 9, 10, 11, 12, 13, 14, 15, 16, 17, 18, 19, 20, 21, 22, 23, 24, 25, 26, 27, 28, 29, 30, 31, 32, 33] rfl (by decide +kernel) rfl qw631 k_X10_requireAccounts ⟨rfl, rfl, Nat.le_of_ble_eq_true rfl, Nat.le_of_ble_eq_true rfl⟩ ⟨Nat.zero_le _, Nat.zero_le _⟩ hl.1 (Nat.le_of_ble_eq_true rfl) dX10_carries_2 rfl (fun H locs hw => ?_)
    refine lv_aload_n hx hb dX10_carries_5 rfl (lv_at hl 0 rfl) ?_
    refine lv_iload_n hx hb dX10_carries_6 rfl (lv_at hl 1 rfl) ?_
    refine lv_iload_n hx hb dX10_carries_7 rfl (lv_at hl 2 rfl) ?_
    obtain ⟨v8, hv8, hf⟩ := ob_e hf
    refine xcallV (ws' := (wC g h now snap has hist ent res num v8)) (st1 := []) (n := 34) E hw [.int a1, .int a2] [0, 1, 2, 3, 4, 5, 6, 7, 8, 9, 10, 11, 12, 13, 14, 15, 16, 17, 18, 19, 20, 21, 22, 23, 24, 25, 26, 27, 28, 29, 30, 31, 32, 33] (met_X10_formColumns l g h now snap has hist ent res num col a1 a2 v8 hv8) rfl (by decide) rfl rfl [34, 35, 36, 37, 38, 39, 40, 41, 42, 43, 44, 45, 46, 47, 48, 49, 50, 51, 52, 53, 54, 55, 56, 57, 58, 59, 60, 61, 62, 63, 64, 65, 66, 67] rfl (by decide +kernel) rfl rfl rfl rfl qw604 k_X10_formColumns ⟨rfl, rfl, Nat.le_of_ble_eq_true rfl, Nat.le_of_ble_eq_true rfl⟩ ⟨Nat.zero_le _, Nat.zero_le _⟩ hl.1 (Nat.le_of_ble_eq_true rfl) dX10_carries_8 rfl (fun H locs hw => ?_)
    refine lv_aload_n hx hb dX10_carries_11 rfl (lv_at hl 0 rfl) ?_
    refine xget (v := .ref (h 32)) E hw 0 rfl rfl 7 (by decide) inw10 qw253 rfl rfl dX10_carries_12 ?_
    refine xget (v := .int v8.2.1) E hw 32 rfl rfl 1 (by decide) inw1 qw233 rfl rfl dX10_carries_15 ?_
    exact hret _ _ _ _ _ _ (jr hf) dX10_carries_18 hw
set_option maxHeartbeats 4000000 in
set_option maxRecDepth 100000 in
theorem metx_X10_carries (l : Launch) (hlT : l.stackTraces = false) (g : xG) (h : Nat → Nat) (now : SC) (snap : SC) (has : Int32) (hist : HC) (ent : EC) (res : RC) (num : NC) (col : CC) (a1 : Int32) (a2 : Int32) (out : Nat × CC) (hf : f_X10_carries now col a1 a2 = some (Sum.inl out)) : xMX l yX10_carries (xC yX10_carries cX10_carries 3 (some .int)) { frames := 8, cells := 1, slots := 6, locals := 141 } g (wC g h now snap has hist ent res num col) [.ref (h 0), .int a1, .int a2] (xEx out.1) (wC g h now snap has hist ent res num out.2) := by
  refine xofX (by decide) (Nat.le_of_ble_eq_true rfl) ⟨rfl, rfl⟩ ?_
  intro p e s m below meth c A ls E hlocks htab hX hw hl hpost
  have hx := E.1.1
  have hb := E.1.2.1
  have hown := E.1.2.2.2.1
  have hts := E.1.2.2.2.2
  have hx9 : ∀ (H : Heap) (locs : List Loc) (kx : Nat) (ccol : CC), (kx, ccol) = out → xW g A s.heap (wC g h now snap has hist ent res num ccol) H locs → ∀ t : State, s.vm.Alike t.vm → H.size ≤ t.heap.size → (∀ q : Nat, q < H.size → t.heap[q]? = H[q]?) → xPostX g (wC g h now snap has hist ent res num col) (wC g h now snap has hist ent res num out.2) s.heap.size (xEx out.1) (xEx kx) s t := by
    intro H locs kx ccol he hw t h1 h2 h3
    subst he
    exact (hpost H locs hw).1 t h1 h2 h3
  have hx8 : ∀ (H : Heap) (locs : List Loc) (kx : Nat) (ccol : CC), (kx, ccol) = out → xW g A s.heap (wC g h now snap has hist ent res num ccol) H locs → ∀ z ∈ locs, A z.base := by
    intro H locs kx ccol he hw
    subst he
    exact (hpost H locs hw).2
  clear hpost
  generalize hZ : (vx_MQ below (fun _ _ _ _ => False) (xPostX g (wC g h now snap has hist ent res num col) (wC g h now snap has hist ent res num out.2) s.heap.size (xEx out.1)) [.ref (h 0), .int a1, .int a2].toArray s 1 6 A) = ZZ
  have hprop : ∀ (pc : Nat) (H : Heap) (locs : List Loc) (ls : Array Slot) (rest : List Value) (q : Nat) (ce : Cell) (kx : Nat) (ccol : CC), (kx, ccol) = out → xW g A s.heap (wC g h now snap has hist ent res num ccol) H locs → H[q]? = some ce → ce.vm = .none → s.vm.findClass (xEx kx) = some ce.cls → vx_W p l e { frames := 8, cells := 1, slots := 6, locals := 141 } s m [.ref (h 0), .int a1, .int a2].toArray below meth c H locs (0 + 1) (0 + 6) ZZ (F0 m pc ls rest) q := by
    intro pc H locs ls rest q ce kx ccol he hw hce hcv hcl
    rw [← hZ]
    exact vx_out (fun x hx => (htab x hx).elim) hlocks hce hcv hcl (fun t ht hW => hx9 H locs kx ccol he hw t hW (by rw [ht]; exact Nat.le_refl _) (fun q _ => by rw [ht])) (hx8 H locs kx ccol he hw) (Nat.le_refl _) (Nat.le_refl _)
  refine lv_iload_n hx hb dX10_carries_0 rfl (lv_at hl 1 rfl) ?_
  refine lv_iload_n hx hb dX10_carries_1 rfl (lv_at hl 2 rfl) ?_
  obtain ⟨v2, hv2, hf⟩ := ob_e hf
  rcases v2 with t2 | u2
  · refine xcallSX (ws' := (wC g h now snap has hist ent res num col)) (n := 34) E hX hw [.int a1, .int a2] [] (metx_X10_requireAccounts l hlT g a1 a2 t2 hv2) rfl (by decide) rfl rfl [0, 1, 2, 3, 4, 5, 6, 7, 8, 9, 10, 11, 12, 13, 14, 15, 16, 17, 18, 19, 20, 21, 22, 23, 24, 25, 26, 27, 28, 29, 30, 31, 32, 33] rfl (by decide +kernel) rfl qw631 k_X10_requireAccounts ⟨rfl, rfl, Nat.le_of_ble_eq_true rfl, Nat.le_of_ble_eq_true rfl⟩ ⟨by decide, by decide⟩ hl.1 (Nat.le_of_ble_eq_true rfl) dX10_carries_2 (fun H locs q ce hw hce hcv hcl => ?_)
    exact hprop _ _ _ _ _ _ _ _ _ (jl hf) hw hce hcv hcl
  · refine xcallS (ws' := (wC g h now snap has hist ent res num col)) (st1 := []) (n := 34) E hw [.int a1, .int a2] [] (met_X10_requireAccounts l g a1 a2 u2 hv2) rfl (by decide) rfl rfl [0, 1, 2, 3, 4, 5, 6, 7, 8, 9, 10, 11, 12, 13, 14, 15, 16, 17, 18, 19, 20, 21, 22, 23, 24, 25, 26, 27, 28, 29, 30, 31, 32, 33] rfl (by decide +kernel) rfl qw631 k_X10_requireAccounts ⟨rfl, rfl, Nat.le_of_ble_eq_true rfl, Nat.le_of_ble_eq_true rfl⟩ ⟨Nat.zero_le _, Nat.zero_le _⟩ hl.1 (Nat.le_of_ble_eq_true rfl) dX10_carries_2 rfl (fun H locs hw => ?_)
    refine lv_aload_n hx hb dX10_carries_5 rfl (lv_at hl 0 rfl) ?_
    refine lv_iload_n hx hb dX10_carries_6 rfl (lv_at hl 1 rfl) ?_
    refine lv_iload_n hx hb dX10_carries_7 rfl (lv_at hl 2 rfl) ?_
    obtain ⟨v8, hv8, hf⟩ := ob_e hf
    refine xcallV (ws' := (wC g h now snap has hist ent res num v8)) (st1 := []) (n := 34) E hw [.int a1, .int a2] [0, 1, 2, 3, 4, 5, 6, 7, 8, 9, 10, 11, 12, 13, 14, 15, 16, 17, 18, 19, 20, 21, 22, 23, 24, 25, 26, 27, 28, 29, 30, 31, 32, 33] (met_X10_formColumns l g h now snap has hist ent res num col a1 a2 v8 hv8) rfl (by decide) rfl rfl [34, 35, 36, 37, 38, 39, 40, 41, 42, 43, 44, 45, 46, 47, 48, 49, 50, 51, 52, 53, 54, 55, 56, 57, 58, 59, 60, 61, 62, 63, 64, 65, 66, 67] rfl (by decide +kernel) rfl rfl rfl rfl qw604 k_X10_formColumns ⟨rfl, rfl, Nat.le_of_ble_eq_true rfl, Nat.le_of_ble_eq_true rfl⟩ ⟨Nat.zero_le _, Nat.zero_le _⟩ hl.1 (Nat.le_of_ble_eq_true rfl) dX10_carries_8 rfl (fun H locs hw => ?_)
    refine lv_aload_n hx hb dX10_carries_11 rfl (lv_at hl 0 rfl) ?_
    refine xget (v := .ref (h 32)) E hw 0 rfl rfl 7 (by decide) inw10 qw253 rfl rfl dX10_carries_12 ?_
    refine xget (v := .int v8.2.1) E hw 32 rfl rfl 1 (by decide) inw1 qw233 rfl rfl dX10_carries_15 ?_
    exact nrl hf
