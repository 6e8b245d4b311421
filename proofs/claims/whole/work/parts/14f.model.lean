theorem k_X11_wholeDigitByPowers : xKV yX11_wholeDigitByPowers cX11_wholeDigitByPowers 3 (some .int) 2 := ⟨qw1322, qw1323, qw74, qw1324, by decide +kernel, by decide +kernel, by decide +kernel⟩
set_option maxHeartbeats 4000000 in
set_option maxRecDepth 100000 in
theorem met_X11_wholeDigitByPowers (l : Launch) (g : xG) (h : Nat → Nat) (thrown : Int32) (ss : (Nat → Int32)) (states : (Nat → Int32)) (stateMany : Int32) (snapshot : (Nat → Int32)) (hasSnapshot : Int32) (text : (Nat → Int32)) (length : Int32) (at_ : Int32) (isWell : Int32) (rd : (Nat → Int32)) (readMany : Int32) (top : Int64) (bottom : Int64) (digit : (Nat → Int32)) (digitMany : Int32) (other : (Nat → Int32)) (otherMany : Int32) (column : (Nat → Int32)) (columnMany : Int32) (carryMany : Int32) (chainMost : Int32) (a1 : Int32) (a2 : Int32) (out : Int32 × Int32 × (Nat → Int32) × Int32) (hf : f_X11_wholeDigitByPowers thrown ss digit digitMany a1 a2 = some out) : xM l yX11_wholeDigitByPowers (xC yX11_wholeDigitByPowers cX11_wholeDigitByPowers 3 (some .int)) { frames := 5, cells := 0, slots := 0, locals := 107 } g (wM g h thrown ss states stateMany snapshot hasSnapshot text length at_ isWell rd readMany top bottom digit digitMany other otherMany column columnMany carryMany chainMost) [.ref (h 0), .int a1, .int a2] (some (.int out.1)) (wM g h out.2.1 ss states stateMany snapshot hasSnapshot text length at_ isWell rd readMany top bottom out.2.2.1 out.2.2.2 other otherMany column columnMany carryMany chainMost) := by
  refine xof (by decide) (Nat.le_of_ble_eq_true rfl) ⟨rfl, rfl⟩ ?_
  intro p e s m below meth c A ls E hr hlocks hw hl hpost hAe
  have hx := E.1.1
  have hb := E.1.2.1
  have hown := E.1.2.2.2.1
  have hts := E.1.2.2.2.2
  generalize hZ : (MQ below (xPost g (wM g h thrown ss states stateMany snapshot hasSnapshot text length at_ isWell rd readMany top bottom digit digitMany other otherMany column columnMany carryMany chainMost) (wM g h out.2.1 ss states stateMany snapshot hasSnapshot text length at_ isWell rd readMany top bottom out.2.2.1 out.2.2.2 other otherMany column columnMany carryMany chainMost) s.heap.size (some (.int out.1))) [.ref (h 0), .int a1, .int a2].toArray s 0 0 A) = ZZ
  have hret : ∀ (pc : Nat) (H : Heap) (locs : List Loc) (ls : Array Slot) (v : Int32) (cthrown : Int32) (cdigit : (Nat → Int32)) (cdigitMany : Int32), (v, cthrown, cdigit, cdigitMany) = out → decode cX11_wholeDigitByPowers pc = .ok (.ireturn, 1) → xW g A s.heap (wM g h cthrown ss states stateMany snapshot hasSnapshot text length at_ isWell rd readMany top bottom cdigit cdigitMany other otherMany column columnMany carryMany chainMost) H locs → W p l e { frames := 5, cells := 0, slots := 0, locals := 107 } s m [.ref (h 0), .int a1, .int a2].toArray below meth c H locs 0 0 ZZ (F0 m pc ls [.int v]) := by
    intro pc H locs ls v cthrown cdigit cdigitMany he hd hw
    subst he
    rw [← hZ]
    exact W.iret hx hb hr (hpost H locs hw).1 (hpost H locs hw).2 hd hlocks
  clear hpost
  refine lv_aload_n hx hb dX11_wholeDigitByPowers_0 rfl (lv_at hl 0 rfl) ?_
  refine lv_iload_n hx hb dX11_wholeDigitByPowers_1 rfl (lv_at hl 1 rfl) ?_
  refine lv_iload_n hx hb dX11_wholeDigitByPowers_2 rfl (lv_at hl 2 rfl) ?_
  obtain ⟨v3, hv3, hf⟩ := ob_e hf
  refine xcallV (ws' := (wM g h v3.2.1 ss states stateMany snapshot hasSnapshot text length at_ isWell rd readMany top bottom v3.2.2.1 v3.2.2.2 other otherMany column columnMany carryMany chainMost)) (st1 := [.int v3.1]) (n := 9) E hw [.int a1, .int a2] [0, 1, 2, 3, 4, 5, 6, 7, 8] (met_X11_tellsDigit l g h thrown ss states stateMany snapshot hasSnapshot text length at_ isWell rd readMany top bottom digit digitMany other otherMany column columnMany carryMany chainMost a1 a2 v3 hv3) rfl (by decide) rfl rfl [9, 10, 11, 12, 13, 14, 15, 16, 17] rfl (by decide +kernel) rfl rfl rfl rfl qw1317 k_X11_tellsDigit ⟨rfl, rfl, Nat.le_of_ble_eq_true rfl, Nat.le_of_ble_eq_true rfl⟩ ⟨Nat.zero_le _, Nat.zero_le _⟩ hl.1 (Nat.le_of_ble_eq_true rfl) dX11_wholeDigitByPowers_3 rfl (fun H locs hw => ?_)
  exact hret _ _ _ _ _ _ _ _ (Option.some.inj hf) dX11_wholeDigitByPowers_6 hw
theorem k_X11_digitSum : xKV yX11_digitSum cX11_digitSum 2 (some .int) 1 := ⟨qw1326, qw1327, qw74, qw1328, by decide +kernel, by decide +kernel, by decide +kernel⟩
set_option maxHeartbeats 4000000 in
set_option maxRecDepth 100000 in
theorem met_X11_digitSum (l : Launch) (g : xG) (h : Nat → Nat) (thrown : Int32) (ss : (Nat → Int32)) (states : (Nat → Int32)) (stateMany : Int32) (snapshot : (Nat → Int32)) (hasSnapshot : Int32) (text : (Nat → Int32)) (length : Int32) (at_ : Int32) (isWell : Int32) (rd : (Nat → Int32)) (readMany : Int32) (top : Int64) (bottom : Int64) (digit : (Nat → Int32)) (digitMany : Int32) (other : (Nat → Int32)) (otherMany : Int32) (column : (Nat → Int32)) (columnMany : Int32) (carryMany : Int32) (chainMost : Int32) (a1 : Int32) (out : Int32 × Int32 × (Nat → Int32) × Int32) (hf : f_X11_digitSum thrown ss digit digitMany a1 = some out) : xM l yX11_digitSum (xC yX11_digitSum cX11_digitSum 2 (some .int)) { frames := 4, cells := 0, slots := 0, locals := 87 } g (wM g h thrown ss states stateMany snapshot hasSnapshot text length at_ isWell rd readMany top bottom digit digitMany other otherMany column columnMany carryMany chainMost) [.ref (h 0), .int a1] (some (.int out.1)) (wM g h out.2.1 ss states stateMany snapshot hasSnapshot text length at_ isWell rd readMany top bottom out.2.2.1 out.2.2.2 other otherMany column columnMany carryMany chainMost) := by
  refine xof (by decide) (Nat.le_of_ble_eq_true rfl) ⟨rfl, rfl⟩ ?_
  intro p e s m below meth c A ls E hr hlocks hw hl hpost hAe
  have hx := E.1.1
  have hb := E.1.2.1
  have hown := E.1.2.2.2.1
  have hts := E.1.2.2.2.2
  generalize hZ : (MQ below (xPost g (wM g h thrown ss states stateMany snapshot hasSnapshot text length at_ isWell rd readMany top bottom digit digitMany other otherMany column columnMany carryMany chainMost) (wM g h out.2.1 ss states stateMany snapshot hasSnapshot text length at_ isWell rd readMany top bottom out.2.2.1 out.2.2.2 other otherMany column columnMany carryMany chainMost) s.heap.size (some (.int out.1))) [.ref (h 0), .int a1].toArray s 0 0 A) = ZZ
  have hret : ∀ (pc : Nat) (H : Heap) (locs : List Loc) (ls : Array Slot) (v : Int32) (cthrown : Int32) (cdigit : (Nat → Int32)) (cdigitMany : Int32), (v, cthrown, cdigit, cdigitMany) = out → decode cX11_digitSum pc = .ok (.ireturn, 1) → xW g A s.heap (wM g h cthrown ss states stateMany snapshot hasSnapshot text length at_ isWell rd readMany top bottom cdigit cdigitMany other otherMany column columnMany carryMany chainMost) H locs → W p l e { frames := 4, cells := 0, slots := 0, locals := 87 } s m [.ref (h 0), .int a1].toArray below meth c H locs 0 0 ZZ (F0 m pc ls [.int v]) := by
    intro pc H locs ls v cthrown cdigit cdigitMany he hd hw
    subst he
    rw [← hZ]
    exact W.iret hx hb hr (hpost H locs hw).1 (hpost H locs hw).2 hd hlocks
  clear hpost
  refine lv_aload_n hx hb dX11_digitSum_0 rfl (lv_at hl 0 rfl) ?_
  refine lv_iconst (v := 0) hx hb dX11_digitSum_1 (by decide) ?_
  refine xput (ws' := (wM g h 0 ss states stateMany snapshot hasSnapshot text length at_ isWell rd readMany top bottom digit digitMany other otherMany column columnMany carryMany chainMost)) E hw 0 rfl rfl 0 (by decide) inw11 tyX11_ok nmX11 qw1019 rfl rfl rfl rfl (Nat.le_of_ble_eq_true rfl) dX11_digitSum_2 rfl (fun H locs hw => ?_)
  refine lv_iload_n hx hb dX11_digitSum_5 rfl (lv_at hl 1 rfl) ?_
  obtain ⟨v6, hv6, hf⟩ := ob_e hf
  refine xcallS (ws' := (wM g h 0 ss states stateMany snapshot hasSnapshot text length at_ isWell rd readMany top bottom digit digitMany other otherMany column columnMany carryMany chainMost)) (st1 := [.int v6]) (n := 9) E hw [.int a1] [] (met_X11_isAccount l g a1 v6 hv6) rfl (by decide) rfl rfl [0, 1, 2, 3, 4, 5, 6, 7, 8] rfl (by decide +kernel) rfl qw1112 k_X11_isAccount ⟨rfl, rfl, Nat.le_of_ble_eq_true rfl, Nat.le_of_ble_eq_true rfl⟩ ⟨Nat.zero_le _, Nat.zero_le _⟩ hl.1 (Nat.le_of_ble_eq_true rfl) dX11_digitSum_6 rfl (fun H locs hw => ?_)
  refine lv_if_eq (tgt := 20) hx hb dX11_digitSum_9 (by decide) (fun c9 => ?_) (fun c9 => ?_)
  · replace hf := ip c9 hf
    refine lv_aload_n hx hb dX11_digitSum_20 rfl (lv_at hl 0 rfl) ?_
    refine lv_iconst (v := 1) hx hb dX11_digitSum_21 (by decide) ?_
    obtain ⟨v22, hv22, hf⟩ := ob_e hf
    refine xcallV (ws' := (wM g h v22.2 ss states stateMany snapshot hasSnapshot text length at_ isWell rd readMany top bottom digit digitMany other otherMany column columnMany carryMany chainMost)) (st1 := [.int v22.1]) (n := 9) E hw [.int 1] [0, 1, 2, 3, 4, 5, 6, 7, 8] (met_X11_fails l g h 0 ss states stateMany snapshot hasSnapshot text length at_ isWell rd readMany top bottom digit digitMany other otherMany column columnMany carryMany chainMost 1 v22 hv22) rfl (by decide) rfl rfl [9, 10, 11, 12, 13, 14, 15, 16, 17] rfl (by decide +kernel) rfl rfl rfl rfl qw1100 k_X11_fails ⟨rfl, rfl, Nat.le_of_ble_eq_true rfl, Nat.le_of_ble_eq_true rfl⟩ ⟨Nat.zero_le _, Nat.zero_le _⟩ hl.1 (Nat.le_of_ble_eq_true rfl) dX11_digitSum_22 rfl (fun H locs hw => ?_)
    exact hret _ _ _ _ _ _ _ _ (Option.some.inj hf) dX11_digitSum_25 hw
  · replace hf := iq c9 hf
    refine lv_aload_n hx hb dX11_digitSum_12 rfl (lv_at hl 0 rfl) ?_
    refine lv_iload_n hx hb dX11_digitSum_13 rfl (lv_at hl 1 rfl) ?_
    obtain ⟨v14, hv14, hf⟩ := ob_e hf
    refine xcallV (ws' := (wM g h 0 ss states stateMany snapshot hasSnapshot text length at_ isWell rd readMany top bottom v14.2.1 v14.2.2 other otherMany column columnMany carryMany chainMost)) (st1 := [.int v14.1]) (n := 9) E hw [.int a1] [0, 1, 2, 3, 4, 5, 6, 7, 8] (met_X11_sumOf l g h 0 ss states stateMany snapshot hasSnapshot text length at_ isWell rd readMany top bottom digit digitMany other otherMany column columnMany carryMany chainMost a1 v14 hv14) rfl (by decide) rfl rfl [9, 10, 11, 12, 13, 14, 15, 16, 17] rfl (by decide +kernel) rfl rfl rfl rfl qw1329 k_X11_sumOf ⟨rfl, rfl, Nat.le_of_ble_eq_true rfl, Nat.le_of_ble_eq_true rfl⟩ ⟨Nat.zero_le _, Nat.zero_le _⟩ hl.1 (Nat.le_of_ble_eq_true rfl) dX11_digitSum_14 rfl (fun H locs hw => ?_)
    refine lv_goto (tgt := 25) hx hb dX11_digitSum_17 (by decide) ?_
    exact hret _ _ _ _ _ _ _ _ (Option.some.inj hf) dX11_digitSum_25 hw
theorem k_X11_left : xKV yX11_left cX11_left 2 (some .int) 1 := ⟨qw1339, qw51, qw74, qw1340, by decide +kernel, by decide +kernel, by decide +kernel⟩
set_option maxHeartbeats 4000000 in
set_option maxRecDepth 100000 in
theorem met_X11_left (l : Launch) (g : xG) (h : Nat → Nat) (thrown : Int32) (ss : (Nat → Int32)) (states : (Nat → Int32)) (stateMany : Int32) (snapshot : (Nat → Int32)) (hasSnapshot : Int32) (text : (Nat → Int32)) (length : Int32) (at_ : Int32) (isWell : Int32) (rd : (Nat → Int32)) (readMany : Int32) (top : Int64) (bottom : Int64) (digit : (Nat → Int32)) (digitMany : Int32) (other : (Nat → Int32)) (otherMany : Int32) (column : (Nat → Int32)) (columnMany : Int32) (carryMany : Int32) (chainMost : Int32) (a1 : Int32) (out : Int32 × Int32) (hf : f_X11_left thrown ss a1 = some out) : xM l yX11_left (xC yX11_left cX11_left 2 (some .int)) { frames := 2, cells := 0, slots := 0, locals := 42 } g (wM g h thrown ss states stateMany snapshot hasSnapshot text length at_ isWell rd readMany top bottom digit digitMany other otherMany column columnMany carryMany chainMost) [.ref (h 0), .int a1] (some (.int out.1)) (wM g h out.2 ss states stateMany snapshot hasSnapshot text length at_ isWell rd readMany top bottom digit digitMany other otherMany column columnMany carryMany chainMost) := by
  refine xof (by decide) (Nat.le_of_ble_eq_true rfl) ⟨rfl, rfl⟩ ?_
  intro p e s m below meth c A ls E hr hlocks hw hl hpost hAe
  have hx := E.1.1
  have hb := E.1.2.1
  have hown := E.1.2.2.2.1
  have hts := E.1.2.2.2.2
  generalize hZ : (MQ below (xPost g (wM g h thrown ss states stateMany snapshot hasSnapshot text length at_ isWell rd readMany top bottom digit digitMany other otherMany column columnMany carryMany chainMost) (wM g h out.2 ss states stateMany snapshot hasSnapshot text length at_ isWell rd readMany top bottom digit digitMany other otherMany column columnMany carryMany chainMost) s.heap.size (some (.int out.1))) [.ref (h 0), .int a1].toArray s 0 0 A) = ZZ
  have hret : ∀ (pc : Nat) (H : Heap) (locs : List Loc) (ls : Array Slot) (v : Int32) (cthrown : Int32), (v, cthrown) = out → decode cX11_left pc = .ok (.ireturn, 1) → xW g A s.heap (wM g h cthrown ss states stateMany snapshot hasSnapshot text length at_ isWell rd readMany top bottom digit digitMany other otherMany column columnMany carryMany chainMost) H locs → W p l e { frames := 2, cells := 0, slots := 0, locals := 42 } s m [.ref (h 0), .int a1].toArray below meth c H locs 0 0 ZZ (F0 m pc ls [.int v]) := by
    intro pc H locs ls v cthrown he hd hw
    subst he
    rw [← hZ]
    exact W.iret hx hb hr (hpost H locs hw).1 (hpost H locs hw).2 hd hlocks
  clear hpost
  refine lv_aload_n hx hb dX11_left_0 rfl (lv_at hl 0 rfl) ?_
  refine lv_iconst (v := 0) hx hb dX11_left_1 (by decide) ?_
  refine xput (ws' := (wM g h 0 ss states stateMany snapshot hasSnapshot text length at_ isWell rd readMany top bottom digit digitMany other otherMany column columnMany carryMany chainMost)) E hw 0 rfl rfl 0 (by decide) inw11 tyX11_ok nmX11 qw1019 rfl rfl rfl rfl (Nat.le_of_ble_eq_true rfl) dX11_left_2 rfl (fun H locs hw => ?_)
  refine lv_iload_n hx hb dX11_left_5 rfl (lv_at hl 1 rfl) ?_
  obtain ⟨v6, hv6, hf⟩ := ob_e hf
  refine xcallS (ws' := (wM g h 0 ss states stateMany snapshot hasSnapshot text length at_ isWell rd readMany top bottom digit digitMany other otherMany column columnMany carryMany chainMost)) (st1 := [.int v6]) (n := 9) E hw [.int a1] [] (met_X11_isAccount l g a1 v6 hv6) rfl (by decide) rfl rfl [0, 1, 2, 3, 4, 5, 6, 7, 8] rfl (by decide +kernel) rfl qw1112 k_X11_isAccount ⟨rfl, rfl, Nat.le_of_ble_eq_true rfl, Nat.le_of_ble_eq_true rfl⟩ ⟨Nat.zero_le _, Nat.zero_le _⟩ hl.1 (Nat.le_of_ble_eq_true rfl) dX11_left_6 rfl (fun H locs hw => ?_)
  refine lv_if_eq (tgt := 29) hx hb dX11_left_9 (by decide) (fun c9 => ?_) (fun c9 => ?_)
  · replace hf := ip c9 hf
    refine lv_aload_n hx hb dX11_left_29 rfl (lv_at hl 0 rfl) ?_
    refine lv_iconst (v := 1) hx hb dX11_left_30 (by decide) ?_
    obtain ⟨v31, hv31, hf⟩ := ob_e hf
    refine xcallV (ws' := (wM g h v31.2 ss states stateMany snapshot hasSnapshot text length at_ isWell rd readMany top bottom digit digitMany other otherMany column columnMany carryMany chainMost)) (st1 := [.int v31.1]) (n := 9) E hw [.int 1] [0, 1, 2, 3, 4, 5, 6, 7, 8] (met_X11_fails l g h 0 ss states stateMany snapshot hasSnapshot text length at_ isWell rd readMany top bottom digit digitMany other otherMany column columnMany carryMany chainMost 1 v31 hv31) rfl (by decide) rfl rfl [9, 10, 11, 12, 13, 14, 15, 16, 17] rfl (by decide +kernel) rfl rfl rfl rfl qw1100 k_X11_fails ⟨rfl, rfl, Nat.le_of_ble_eq_true rfl, Nat.le_of_ble_eq_true rfl⟩ ⟨Nat.zero_le _, Nat.zero_le _⟩ hl.1 (Nat.le_of_ble_eq_true rfl) dX11_left_31 rfl (fun H locs hw => ?_)
    exact hret _ _ _ _ _ _ (Option.some.inj hf) dX11_left_34 hw
  · replace hf := iq c9 hf
    refine lv_aload_n hx hb dX11_left_12 rfl (lv_at hl 0 rfl) ?_
    refine lv_iload_n hx hb dX11_left_13 rfl (lv_at hl 1 rfl) ?_
    obtain ⟨v14, hv14, hf⟩ := ob_e hf
    refine xcallV (ws' := (wM g h 0 ss states stateMany snapshot hasSnapshot text length at_ isWell rd readMany top bottom digit digitMany other otherMany column columnMany carryMany chainMost)) (st1 := [.int v14]) (n := 9) E hw [.int a1] [0, 1, 2, 3, 4, 5, 6, 7, 8] (met_X11_wholeOf l g h 0 ss states stateMany snapshot hasSnapshot text length at_ isWell rd readMany top bottom digit digitMany other otherMany column columnMany carryMany chainMost a1 v14 hv14) rfl (by decide) rfl rfl [9, 10, 11, 12, 13, 14, 15, 16, 17] rfl (by decide +kernel) rfl rfl rfl rfl qw1169 k_X11_wholeOf ⟨rfl, rfl, Nat.le_of_ble_eq_true rfl, Nat.le_of_ble_eq_true rfl⟩ ⟨Nat.zero_le _, Nat.zero_le _⟩ hl.1 (Nat.le_of_ble_eq_true rfl) dX11_left_14 rfl (fun H locs hw => ?_)
    refine lv_aload_n hx hb dX11_left_17 rfl (lv_at hl 0 rfl) ?_
    refine xget (v := .ref (h 1)) E hw 0 rfl rfl 1 (by decide) inw11 qw1020 rfl rfl dX11_left_18 ?_
    refine lv_iconst (v := 0) hx hb dX11_left_21 (by decide) ?_
    refine xiald E hw 1 rfl (by decide) dX11_left_22 ?_
    refine lv_iconst (v := 1) hx hb dX11_left_23 (by decide) ?_
    refine lv_isub hx hb dX11_left_24 ?_
    obtain ⟨hz, hf⟩ := nz hf
    refine lv_irem hx hb dX11_left_25 hz ?_
    refine lv_goto (tgt := 34) hx hb dX11_left_26 (by decide) ?_
    exact hret _ _ _ _ _ _ (Option.some.inj hf) dX11_left_34 hw
theorem k_X11_leftByDigits : xKV yX11_leftByDigits cX11_leftByDigits 2 (some .int) 1 := ⟨qw1334, qw1335, qw74, qw1336, by decide +kernel, by decide +kernel, by decide +kernel⟩
set_option maxHeartbeats 4000000 in
set_option maxRecDepth 100000 in
theorem met_X11_leftByDigits (l : Launch) (g : xG) (h : Nat → Nat) (thrown : Int32) (ss : (Nat → Int32)) (states : (Nat → Int32)) (stateMany : Int32) (snapshot : (Nat → Int32)) (hasSnapshot : Int32) (text : (Nat → Int32)) (length : Int32) (at_ : Int32) (isWell : Int32) (rd : (Nat → Int32)) (readMany : Int32) (top : Int64) (bottom : Int64) (digit : (Nat → Int32)) (digitMany : Int32) (other : (Nat → Int32)) (otherMany : Int32) (column : (Nat → Int32)) (columnMany : Int32) (carryMany : Int32) (chainMost : Int32) (a1 : Int32) (out : Int32 × Int32) (hf : f_X11_leftByDigits thrown ss a1 = some out) : xM l yX11_leftByDigits (xC yX11_leftByDigits cX11_leftByDigits 2 (some .int)) { frames := 3, cells := 0, slots := 0, locals := 63 } g (wM g h thrown ss states stateMany snapshot hasSnapshot text length at_ isWell rd readMany top bottom digit digitMany other otherMany column columnMany carryMany chainMost) [.ref (h 0), .int a1] (some (.int out.1)) (wM g h out.2 ss states stateMany snapshot hasSnapshot text length at_ isWell rd readMany top bottom digit digitMany other otherMany column columnMany carryMany chainMost) := by
  refine xof (by decide) (Nat.le_of_ble_eq_true rfl) ⟨rfl, rfl⟩ ?_
  intro p e s m below meth c A ls E hr hlocks hw hl hpost hAe
  have hx := E.1.1
  have hb := E.1.2.1
  have hown := E.1.2.2.2.1
  have hts := E.1.2.2.2.2
  generalize hZ : (MQ below (xPost g (wM g h thrown ss states stateMany snapshot hasSnapshot text length at_ isWell rd readMany top bottom digit digitMany other otherMany column columnMany carryMany chainMost) (wM g h out.2 ss states stateMany snapshot hasSnapshot text length at_ isWell rd readMany top bottom digit digitMany other otherMany column columnMany carryMany chainMost) s.heap.size (some (.int out.1))) [.ref (h 0), .int a1].toArray s 0 0 A) = ZZ
  have hret : ∀ (pc : Nat) (H : Heap) (locs : List Loc) (ls : Array Slot) (v : Int32) (cthrown : Int32), (v, cthrown) = out → decode cX11_leftByDigits pc = .ok (.ireturn, 1) → xW g A s.heap (wM g h cthrown ss states stateMany snapshot hasSnapshot text length at_ isWell rd readMany top bottom digit digitMany other otherMany column columnMany carryMany chainMost) H locs → W p l e { frames := 3, cells := 0, slots := 0, locals := 63 } s m [.ref (h 0), .int a1].toArray below meth c H locs 0 0 ZZ (F0 m pc ls [.int v]) := by
    intro pc H locs ls v cthrown he hd hw
    subst he
    rw [← hZ]
    exact W.iret hx hb hr (hpost H locs hw).1 (hpost H locs hw).2 hd hlocks
  clear hpost
  refine lv_aload_n hx hb dX11_leftByDigits_0 rfl (lv_at hl 0 rfl) ?_
  refine lv_iload_n hx hb dX11_leftByDigits_1 rfl (lv_at hl 1 rfl) ?_
  obtain ⟨v2, hv2, hf⟩ := ob_e hf
  refine xcallV (ws' := (wM g h v2.2 ss states stateMany snapshot hasSnapshot text length at_ isWell rd readMany top bottom digit digitMany other otherMany column columnMany carryMany chainMost)) (st1 := [.int v2.1]) (n := 9) E hw [.int a1] [0, 1, 2, 3, 4, 5, 6, 7, 8] (met_X11_left l g h thrown ss states stateMany snapshot hasSnapshot text length at_ isWell rd readMany top bottom digit digitMany other otherMany column columnMany carryMany chainMost a1 v2 hv2) rfl (by decide) rfl rfl [9, 10, 11, 12, 13, 14, 15, 16, 17] rfl (by decide +kernel) rfl rfl rfl rfl qw1337 k_X11_left ⟨rfl, rfl, Nat.le_of_ble_eq_true rfl, Nat.le_of_ble_eq_true rfl⟩ ⟨Nat.zero_le _, Nat.zero_le _⟩ hl.1 (Nat.le_of_ble_eq_true rfl) dX11_leftByDigits_2 rfl (fun H locs hw => ?_)
  exact hret _ _ _ _ _ _ (Option.some.inj hf) dX11_leftByDigits_5 hw
theorem k_X11_leftByDividing : xKV yX11_leftByDividing cX11_leftByDividing 2 (some .int) 1 := ⟨qw1342, qw1343, qw74, qw1344, by decide +kernel, by decide +kernel, by decide +kernel⟩
set_option maxHeartbeats 4000000 in
set_option maxRecDepth 100000 in
theorem met_X11_leftByDividing (l : Launch) (g : xG) (h : Nat → Nat) (thrown : Int32) (ss : (Nat → Int32)) (states : (Nat → Int32)) (stateMany : Int32) (snapshot : (Nat → Int32)) (hasSnapshot : Int32) (text : (Nat → Int32)) (length : Int32) (at_ : Int32) (isWell : Int32) (rd : (Nat → Int32)) (readMany : Int32) (top : Int64) (bottom : Int64) (digit : (Nat → Int32)) (digitMany : Int32) (other : (Nat → Int32)) (otherMany : Int32) (column : (Nat → Int32)) (columnMany : Int32) (carryMany : Int32) (chainMost : Int32) (a1 : Int32) (out : Int32 × Int32) (hf : f_X11_leftByDividing thrown ss a1 = some out) : xM l yX11_leftByDividing (xC yX11_leftByDividing cX11_leftByDividing 2 (some .int)) { frames := 3, cells := 0, slots := 0, locals := 63 } g (wM g h thrown ss states stateMany snapshot hasSnapshot text length at_ isWell rd readMany top bottom digit digitMany other otherMany column columnMany carryMany chainMost) [.ref (h 0), .int a1] (some (.int out.1)) (wM g h out.2 ss states stateMany snapshot hasSnapshot text length at_ isWell rd readMany top bottom digit digitMany other otherMany column columnMany carryMany chainMost) := by
  refine xof (by decide) (Nat.le_of_ble_eq_true rfl) ⟨rfl, rfl⟩ ?_
  intro p e s m below meth c A ls E hr hlocks hw hl hpost hAe
  have hx := E.1.1
  have hb := E.1.2.1
  have hown := E.1.2.2.2.1
  have hts := E.1.2.2.2.2
  generalize hZ : (MQ below (xPost g (wM g h thrown ss states stateMany snapshot hasSnapshot text length at_ isWell rd readMany top bottom digit digitMany other otherMany column columnMany carryMany chainMost) (wM g h out.2 ss states stateMany snapshot hasSnapshot text length at_ isWell rd readMany top bottom digit digitMany other otherMany column columnMany carryMany chainMost) s.heap.size (some (.int out.1))) [.ref (h 0), .int a1].toArray s 0 0 A) = ZZ
  have hret : ∀ (pc : Nat) (H : Heap) (locs : List Loc) (ls : Array Slot) (v : Int32) (cthrown : Int32), (v, cthrown) = out → decode cX11_leftByDividing pc = .ok (.ireturn, 1) → xW g A s.heap (wM g h cthrown ss states stateMany snapshot hasSnapshot text length at_ isWell rd readMany top bottom digit digitMany other otherMany column columnMany carryMany chainMost) H locs → W p l e { frames := 3, cells := 0, slots := 0, locals := 63 } s m [.ref (h 0), .int a1].toArray below meth c H locs 0 0 ZZ (F0 m pc ls [.int v]) := by
    intro pc H locs ls v cthrown he hd hw
    subst he
    rw [← hZ]
    exact W.iret hx hb hr (hpost H locs hw).1 (hpost H locs hw).2 hd hlocks
  clear hpost
  refine lv_aload_n hx hb dX11_leftByDividing_0 rfl (lv_at hl 0 rfl) ?_
  refine lv_iload_n hx hb dX11_leftByDividing_1 rfl (lv_at hl 1 rfl) ?_
  obtain ⟨v2, hv2, hf⟩ := ob_e hf
  refine xcallV (ws' := (wM g h v2.2 ss states stateMany snapshot hasSnapshot text length at_ isWell rd readMany top bottom digit digitMany other otherMany column columnMany carryMany chainMost)) (st1 := [.int v2.1]) (n := 9) E hw [.int a1] [0, 1, 2, 3, 4, 5, 6, 7, 8] (met_X11_left l g h thrown ss states stateMany snapshot hasSnapshot text length at_ isWell rd readMany top bottom digit digitMany other otherMany column columnMany carryMany chainMost a1 v2 hv2) rfl (by decide) rfl rfl [9, 10, 11, 12, 13, 14, 15, 16, 17] rfl (by decide +kernel) rfl rfl rfl rfl qw1337 k_X11_left ⟨rfl, rfl, Nat.le_of_ble_eq_true rfl, Nat.le_of_ble_eq_true rfl⟩ ⟨Nat.zero_le _, Nat.zero_le _⟩ hl.1 (Nat.le_of_ble_eq_true rfl) dX11_leftByDividing_2 rfl (fun H locs hw => ?_)
  exact hret _ _ _ _ _ _ (Option.some.inj hf) dX11_leftByDividing_5 hw
theorem k_X11_headLength : xKV yX11_headLength cX11_headLength 2 (some .int) 1 := ⟨qw1346, qw1347, qw74, qw1348, by decide +kernel, by decide +kernel, by decide +kernel⟩
set_option maxHeartbeats 4000000 in
set_option maxRecDepth 100000 in
theorem met_X11_headLength (l : Launch) (g : xG) (h : Nat → Nat) (thrown : Int32) (ss : (Nat → Int32)) (states : (Nat → Int32)) (stateMany : Int32) (snapshot : (Nat → Int32)) (hasSnapshot : Int32) (text : (Nat → Int32)) (length : Int32) (at_ : Int32) (isWell : Int32) (rd : (Nat → Int32)) (readMany : Int32) (top : Int64) (bottom : Int64) (digit : (Nat → Int32)) (digitMany : Int32) (other : (Nat → Int32)) (otherMany : Int32) (column : (Nat → Int32)) (columnMany : Int32) (carryMany : Int32) (chainMost : Int32) (a1 : Int32) (out : Int32 × Int32) (hf : f_X11_headLength thrown ss a1 = some out) : xM l yX11_headLength (xC yX11_headLength cX11_headLength 2 (some .int)) { frames := 2, cells := 0, slots := 0, locals := 53 } g (wM g h thrown ss states stateMany snapshot hasSnapshot text length at_ isWell rd readMany top bottom digit digitMany other otherMany column columnMany carryMany chainMost) [.ref (h 0), .int a1] (some (.int out.1)) (wM g h out.2 ss states stateMany snapshot hasSnapshot text length at_ isWell rd readMany top bottom digit digitMany other otherMany column columnMany carryMany chainMost) := by
  refine xof (by decide) (Nat.le_of_ble_eq_true rfl) ⟨rfl, rfl⟩ ?_
  intro p e s m below meth c A ls E hr hlocks hw hl hpost hAe
  have hx := E.1.1
  have hb := E.1.2.1
  have hown := E.1.2.2.2.1
  have hts := E.1.2.2.2.2
  generalize hZ : (MQ below (xPost g (wM g h thrown ss states stateMany snapshot hasSnapshot text length at_ isWell rd readMany top bottom digit digitMany other otherMany column columnMany carryMany chainMost) (wM g h out.2 ss states stateMany snapshot hasSnapshot text length at_ isWell rd readMany top bottom digit digitMany other otherMany column columnMany carryMany chainMost) s.heap.size (some (.int out.1))) [.ref (h 0), .int a1].toArray s 0 0 A) = ZZ
  have hret : ∀ (pc : Nat) (H : Heap) (locs : List Loc) (ls : Array Slot) (v : Int32) (cthrown : Int32), (v, cthrown) = out → decode cX11_headLength pc = .ok (.ireturn, 1) → xW g A s.heap (wM g h cthrown ss states stateMany snapshot hasSnapshot text length at_ isWell rd readMany top bottom digit digitMany other otherMany column columnMany carryMany chainMost) H locs → W p l e { frames := 2, cells := 0, slots := 0, locals := 53 } s m [.ref (h 0), .int a1].toArray below meth c H locs 0 0 ZZ (F0 m pc ls [.int v]) := by
    intro pc H locs ls v cthrown he hd hw
    subst he
    rw [← hZ]
    exact W.iret hx hb hr (hpost H locs hw).1 (hpost H locs hw).2 hd hlocks
  clear hpost
  refine lv_aload_n hx hb dX11_headLength_0 rfl (lv_at hl 0 rfl) ?_
  refine lv_iconst (v := 0) hx hb dX11_headLength_1 (by decide) ?_
  refine xput (ws' := (wM g h 0 ss states stateMany snapshot hasSnapshot text length at_ isWell rd readMany top bottom digit digitMany other otherMany column columnMany carryMany chainMost)) E hw 0 rfl rfl 0 (by decide) inw11 tyX11_ok nmX11 qw1019 rfl rfl rfl rfl (Nat.le_of_ble_eq_true rfl) dX11_headLength_2 rfl (fun H locs hw => ?_)
  refine lv_iload_n hx hb dX11_headLength_5 rfl (lv_at hl 1 rfl) ?_
  obtain ⟨v6, hv6, hf⟩ := ob_e hf
  refine xcallS (ws' := (wM g h 0 ss states stateMany snapshot hasSnapshot text length at_ isWell rd readMany top bottom digit digitMany other otherMany column columnMany carryMany chainMost)) (st1 := [.int v6]) (n := 9) E hw [.int a1] [] (met_X11_isAccount l g a1 v6 hv6) rfl (by decide) rfl rfl [0, 1, 2, 3, 4, 5, 6, 7, 8] rfl (by decide +kernel) rfl qw1112 k_X11_isAccount ⟨rfl, rfl, Nat.le_of_ble_eq_true rfl, Nat.le_of_ble_eq_true rfl⟩ ⟨Nat.zero_le _, Nat.zero_le _⟩ hl.1 (Nat.le_of_ble_eq_true rfl) dX11_headLength_6 rfl (fun H locs hw => ?_)
  refine lv_if_eq (tgt := 29) hx hb dX11_headLength_9 (by decide) (fun c9 => ?_) (fun c9 => ?_)
  · replace hf := ip c9 hf
    refine lv_aload_n hx hb dX11_headLength_29 rfl (lv_at hl 0 rfl) ?_
    refine lv_iconst (v := 1) hx hb dX11_headLength_30 (by decide) ?_
    obtain ⟨v31, hv31, hf⟩ := ob_e hf
    refine xcallV (ws' := (wM g h v31.2 ss states stateMany snapshot hasSnapshot text length at_ isWell rd readMany top bottom digit digitMany other otherMany column columnMany carryMany chainMost)) (st1 := [.int v31.1]) (n := 9) E hw [.int 1] [0, 1, 2, 3, 4, 5, 6, 7, 8] (met_X11_fails l g h 0 ss states stateMany snapshot hasSnapshot text length at_ isWell rd readMany top bottom digit digitMany other otherMany column columnMany carryMany chainMost 1 v31 hv31) rfl (by decide) rfl rfl [9, 10, 11, 12, 13, 14, 15, 16, 17] rfl (by decide +kernel) rfl rfl rfl rfl qw1100 k_X11_fails ⟨rfl, rfl, Nat.le_of_ble_eq_true rfl, Nat.le_of_ble_eq_true rfl⟩ ⟨Nat.zero_le _, Nat.zero_le _⟩ hl.1 (Nat.le_of_ble_eq_true rfl) dX11_headLength_31 rfl (fun H locs hw => ?_)
    exact hret _ _ _ _ _ _ (Option.some.inj hf) dX11_headLength_34 hw
  · replace hf := iq c9 hf
    refine lv_aload_n hx hb dX11_headLength_12 rfl (lv_at hl 0 rfl) ?_
    refine lv_iload_n hx hb dX11_headLength_13 rfl (lv_at hl 1 rfl) ?_
    obtain ⟨v14, hv14, hf⟩ := ob_e hf
    refine xcallV (ws' := (wM g h 0 ss states stateMany snapshot hasSnapshot text length at_ isWell rd readMany top bottom digit digitMany other otherMany column columnMany carryMany chainMost)) (st1 := [.int v14]) (n := 9) E hw [.int a1] [0, 1, 2, 3, 4, 5, 6, 7, 8] (met_X11_down l g h 0 ss states stateMany snapshot hasSnapshot text length at_ isWell rd readMany top bottom digit digitMany other otherMany column columnMany carryMany chainMost a1 v14 hv14) rfl (by decide) rfl rfl [9, 10, 11, 12, 13, 14, 15, 16, 17] rfl (by decide +kernel) rfl rfl rfl rfl qw1129 k_X11_down ⟨rfl, rfl, Nat.le_of_ble_eq_true rfl, Nat.le_of_ble_eq_true rfl⟩ ⟨Nat.zero_le _, Nat.zero_le _⟩ hl.1 (Nat.le_of_ble_eq_true rfl) dX11_headLength_14 rfl (fun H locs hw => ?_)
    refine lv_aload_n hx hb dX11_headLength_17 rfl (lv_at hl 0 rfl) ?_
    refine xget (v := .ref (h 1)) E hw 0 rfl rfl 1 (by decide) inw11 qw1020 rfl rfl dX11_headLength_18 ?_
    refine lv_iconst (v := 0) hx hb dX11_headLength_21 (by decide) ?_
    refine xiald E hw 1 rfl (by decide) dX11_headLength_22 ?_
    obtain ⟨v23, hv23, hf⟩ := ob_e hf
    refine xcallS (ws' := (wM g h 0 ss states stateMany snapshot hasSnapshot text length at_ isWell rd readMany top bottom digit digitMany other otherMany column columnMany carryMany chainMost)) (st1 := [.int v23]) (n := 9) E hw [.int v14, .int (ss (0 : Int32).toNatClampNeg)] [] (met_X11_headOf l g v14 (ss (0 : Int32).toNatClampNeg) v23 hv23) rfl (by decide) rfl rfl [0, 1, 2, 3, 4, 5, 6, 7, 8] rfl (by decide +kernel) rfl qw1349 k_X11_headOf ⟨rfl, rfl, Nat.le_of_ble_eq_true rfl, Nat.le_of_ble_eq_true rfl⟩ ⟨Nat.zero_le _, Nat.zero_le _⟩ hl.1 (Nat.le_of_ble_eq_true rfl) dX11_headLength_23 rfl (fun H locs hw => ?_)
    refine lv_goto (tgt := 34) hx hb dX11_headLength_26 (by decide) ?_
    exact hret _ _ _ _ _ _ (Option.some.inj hf) dX11_headLength_34 hw
theorem k_X11_tellsPeriod : xKV yX11_tellsPeriod cX11_tellsPeriod 2 (some .int) 1 := ⟨qw1358, qw52, qw74, qw1359, by decide +kernel, by decide +kernel, by decide +kernel⟩
set_option maxHeartbeats 4000000 in
set_option maxRecDepth 100000 in
theorem met_X11_tellsPeriod (l : Launch) (g : xG) (h : Nat → Nat) (thrown : Int32) (ss : (Nat → Int32)) (states : (Nat → Int32)) (stateMany : Int32) (snapshot : (Nat → Int32)) (hasSnapshot : Int32) (text : (Nat → Int32)) (length : Int32) (at_ : Int32) (isWell : Int32) (rd : (Nat → Int32)) (readMany : Int32) (top : Int64) (bottom : Int64) (digit : (Nat → Int32)) (digitMany : Int32) (other : (Nat → Int32)) (otherMany : Int32) (column : (Nat → Int32)) (columnMany : Int32) (carryMany : Int32) (chainMost : Int32) (a1 : Int32) (out : Int32 × Int32) (hf : f_X11_tellsPeriod thrown ss a1 = some out) : xM l yX11_tellsPeriod (xC yX11_tellsPeriod cX11_tellsPeriod 2 (some .int)) { frames := 2, cells := 0, slots := 0, locals := 54 } g (wM g h thrown ss states stateMany snapshot hasSnapshot text length at_ isWell rd readMany top bottom digit digitMany other otherMany column columnMany carryMany chainMost) [.ref (h 0), .int a1] (some (.int out.1)) (wM g h out.2 ss states stateMany snapshot hasSnapshot text length at_ isWell rd readMany top bottom digit digitMany other otherMany column columnMany carryMany chainMost) := by
  refine xof (by decide) (Nat.le_of_ble_eq_true rfl) ⟨rfl, rfl⟩ ?_
  intro p e s m below meth c A ls E hr hlocks hw hl hpost hAe
  have hx := E.1.1
  have hb := E.1.2.1
  have hown := E.1.2.2.2.1
  have hts := E.1.2.2.2.2
  generalize hZ : (MQ below (xPost g (wM g h thrown ss states stateMany snapshot hasSnapshot text length at_ isWell rd readMany top bottom digit digitMany other otherMany column columnMany carryMany chainMost) (wM g h out.2 ss states stateMany snapshot hasSnapshot text length at_ isWell rd readMany top bottom digit digitMany other otherMany column columnMany carryMany chainMost) s.heap.size (some (.int out.1))) [.ref (h 0), .int a1].toArray s 0 0 A) = ZZ
  have hret : ∀ (pc : Nat) (H : Heap) (locs : List Loc) (ls : Array Slot) (v : Int32) (cthrown : Int32), (v, cthrown) = out → decode cX11_tellsPeriod pc = .ok (.ireturn, 1) → xW g A s.heap (wM g h cthrown ss states stateMany snapshot hasSnapshot text length at_ isWell rd readMany top bottom digit digitMany other otherMany column columnMany carryMany chainMost) H locs → W p l e { frames := 2, cells := 0, slots := 0, locals := 54 } s m [.ref (h 0), .int a1].toArray below meth c H locs 0 0 ZZ (F0 m pc ls [.int v]) := by
    intro pc H locs ls v cthrown he hd hw
    subst he
    rw [← hZ]
    exact W.iret hx hb hr (hpost H locs hw).1 (hpost H locs hw).2 hd hlocks
  clear hpost
  refine lv_aload_n hx hb dX11_tellsPeriod_0 rfl (lv_at hl 0 rfl) ?_
  refine lv_iconst (v := 0) hx hb dX11_tellsPeriod_1 (by decide) ?_
  refine xput (ws' := (wM g h 0 ss states stateMany snapshot hasSnapshot text length at_ isWell rd readMany top bottom digit digitMany other otherMany column columnMany carryMany chainMost)) E hw 0 rfl rfl 0 (by decide) inw11 tyX11_ok nmX11 qw1019 rfl rfl rfl rfl (Nat.le_of_ble_eq_true rfl) dX11_tellsPeriod_2 rfl (fun H locs hw => ?_)
  refine lv_iload_n hx hb dX11_tellsPeriod_5 rfl (lv_at hl 1 rfl) ?_
  obtain ⟨v6, hv6, hf⟩ := ob_e hf
  refine xcallS (ws' := (wM g h 0 ss states stateMany snapshot hasSnapshot text length at_ isWell rd readMany top bottom digit digitMany other otherMany column columnMany carryMany chainMost)) (st1 := [.int v6]) (n := 9) E hw [.int a1] [] (met_X11_isAccount l g a1 v6 hv6) rfl (by decide) rfl rfl [0, 1, 2, 3, 4, 5, 6, 7, 8] rfl (by decide +kernel) rfl qw1112 k_X11_isAccount ⟨rfl, rfl, Nat.le_of_ble_eq_true rfl, Nat.le_of_ble_eq_true rfl⟩ ⟨Nat.zero_le _, Nat.zero_le _⟩ hl.1 (Nat.le_of_ble_eq_true rfl) dX11_tellsPeriod_6 rfl (fun H locs hw => ?_)
  refine lv_if_eq (tgt := 29) hx hb dX11_tellsPeriod_9 (by decide) (fun c9 => ?_) (fun c9 => ?_)
  · replace hf := ip c9 hf
    refine lv_aload_n hx hb dX11_tellsPeriod_29 rfl (lv_at hl 0 rfl) ?_
    refine lv_iconst (v := 1) hx hb dX11_tellsPeriod_30 (by decide) ?_
    obtain ⟨v31, hv31, hf⟩ := ob_e hf
    refine xcallV (ws' := (wM g h v31.2 ss states stateMany snapshot hasSnapshot text length at_ isWell rd readMany top bottom digit digitMany other otherMany column columnMany carryMany chainMost)) (st1 := [.int v31.1]) (n := 9) E hw [.int 1] [0, 1, 2, 3, 4, 5, 6, 7, 8] (met_X11_fails l g h 0 ss states stateMany snapshot hasSnapshot text length at_ isWell rd readMany top bottom digit digitMany other otherMany column columnMany carryMany chainMost 1 v31 hv31) rfl (by decide) rfl rfl [9, 10, 11, 12, 13, 14, 15, 16, 17] rfl (by decide +kernel) rfl rfl rfl rfl qw1100 k_X11_fails ⟨rfl, rfl, Nat.le_of_ble_eq_true rfl, Nat.le_of_ble_eq_true rfl⟩ ⟨Nat.zero_le _, Nat.zero_le _⟩ hl.1 (Nat.le_of_ble_eq_true rfl) dX11_tellsPeriod_31 rfl (fun H locs hw => ?_)
    exact hret _ _ _ _ _ _ (Option.some.inj hf) dX11_tellsPeriod_34 hw
  · replace hf := iq c9 hf
    refine lv_aload_n hx hb dX11_tellsPeriod_12 rfl (lv_at hl 0 rfl) ?_
    refine lv_iload_n hx hb dX11_tellsPeriod_13 rfl (lv_at hl 1 rfl) ?_
    obtain ⟨v14, hv14, hf⟩ := ob_e hf
    refine xcallV (ws' := (wM g h 0 ss states stateMany snapshot hasSnapshot text length at_ isWell rd readMany top bottom digit digitMany other otherMany column columnMany carryMany chainMost)) (st1 := [.int v14]) (n := 9) E hw [.int a1] [0, 1, 2, 3, 4, 5, 6, 7, 8] (met_X11_down l g h 0 ss states stateMany snapshot hasSnapshot text length at_ isWell rd readMany top bottom digit digitMany other otherMany column columnMany carryMany chainMost a1 v14 hv14) rfl (by decide) rfl rfl [9, 10, 11, 12, 13, 14, 15, 16, 17] rfl (by decide +kernel) rfl rfl rfl rfl qw1129 k_X11_down ⟨rfl, rfl, Nat.le_of_ble_eq_true rfl, Nat.le_of_ble_eq_true rfl⟩ ⟨Nat.zero_le _, Nat.zero_le _⟩ hl.1 (Nat.le_of_ble_eq_true rfl) dX11_tellsPeriod_14 rfl (fun H locs hw => ?_)
    refine lv_aload_n hx hb dX11_tellsPeriod_17 rfl (lv_at hl 0 rfl) ?_
    refine xget (v := .ref (h 1)) E hw 0 rfl rfl 1 (by decide) inw11 qw1020 rfl rfl dX11_tellsPeriod_18 ?_
    refine lv_iconst (v := 0) hx hb dX11_tellsPeriod_21 (by decide) ?_
    refine xiald E hw 1 rfl (by decide) dX11_tellsPeriod_22 ?_
    obtain ⟨v23, hv23, hf⟩ := ob_e hf
    refine xcallS (ws' := (wM g h 0 ss states stateMany snapshot hasSnapshot text length at_ isWell rd readMany top bottom digit digitMany other otherMany column columnMany carryMany chainMost)) (st1 := [.int v23]) (n := 9) E hw [.int v14, .int (ss (0 : Int32).toNatClampNeg)] [] (met_X11_periodOf l g v14 (ss (0 : Int32).toNatClampNeg) v23 hv23) rfl (by decide) rfl rfl [0, 1, 2, 3, 4, 5, 6, 7, 8] rfl (by decide +kernel) rfl qw1360 k_X11_periodOf ⟨rfl, rfl, Nat.le_of_ble_eq_true rfl, Nat.le_of_ble_eq_true rfl⟩ ⟨Nat.zero_le _, Nat.zero_le _⟩ hl.1 (Nat.le_of_ble_eq_true rfl) dX11_tellsPeriod_23 rfl (fun H locs hw => ?_)
    refine lv_goto (tgt := 34) hx hb dX11_tellsPeriod_26 (by decide) ?_
    exact hret _ _ _ _ _ _ (Option.some.inj hf) dX11_tellsPeriod_34 hw
theorem k_X11_periodLength : xKV yX11_periodLength cX11_periodLength 2 (some .int) 1 := ⟨qw1353, qw1354, qw74, qw1355, by decide +kernel, by decide +kernel, by decide +kernel⟩
set_option maxHeartbeats 4000000 in
set_option maxRecDepth 100000 in
theorem met_X11_periodLength (l : Launch) (g : xG) (h : Nat → Nat) (thrown : Int32) (ss : (Nat → Int32)) (states : (Nat → Int32)) (stateMany : Int32) (snapshot : (Nat → Int32)) (hasSnapshot : Int32) (text : (Nat → Int32)) (length : Int32) (at_ : Int32) (isWell : Int32) (rd : (Nat → Int32)) (readMany : Int32) (top : Int64) (bottom : Int64) (digit : (Nat → Int32)) (digitMany : Int32) (other : (Nat → Int32)) (otherMany : Int32) (column : (Nat → Int32)) (columnMany : Int32) (carryMany : Int32) (chainMost : Int32) (a1 : Int32) (out : Int32 × Int32) (hf : f_X11_periodLength thrown ss a1 = some out) : xM l yX11_periodLength (xC yX11_periodLength cX11_periodLength 2 (some .int)) { frames := 3, cells := 0, slots := 0, locals := 75 } g (wM g h thrown ss states stateMany snapshot hasSnapshot text length at_ isWell rd readMany top bottom digit digitMany other otherMany column columnMany carryMany chainMost) [.ref (h 0), .int a1] (some (.int out.1)) (wM g h out.2 ss states stateMany snapshot hasSnapshot text length at_ isWell rd readMany top bottom digit digitMany other otherMany column columnMany carryMany chainMost) := by
  refine xof (by decide) (Nat.le_of_ble_eq_true rfl) ⟨rfl, rfl⟩ ?_
  intro p e s m below meth c A ls E hr hlocks hw hl hpost hAe
  have hx := E.1.1
  have hb := E.1.2.1
  have hown := E.1.2.2.2.1
  have hts := E.1.2.2.2.2
  generalize hZ : (MQ below (xPost g (wM g h thrown ss states stateMany snapshot hasSnapshot text length at_ isWell rd readMany top bottom digit digitMany other otherMany column columnMany carryMany chainMost) (wM g h out.2 ss states stateMany snapshot hasSnapshot text length at_ isWell rd readMany top bottom digit digitMany other otherMany column columnMany carryMany chainMost) s.heap.size (some (.int out.1))) [.ref (h 0), .int a1].toArray s 0 0 A) = ZZ
  have hret : ∀ (pc : Nat) (H : Heap) (locs : List Loc) (ls : Array Slot) (v : Int32) (cthrown : Int32), (v, cthrown) = out → decode cX11_periodLength pc = .ok (.ireturn, 1) → xW g A s.heap (wM g h cthrown ss states stateMany snapshot hasSnapshot text length at_ isWell rd readMany top bottom digit digitMany other otherMany column columnMany carryMany chainMost) H locs → W p l e { frames := 3, cells := 0, slots := 0, locals := 75 } s m [.ref (h 0), .int a1].toArray below meth c H locs 0 0 ZZ (F0 m pc ls [.int v]) := by
    intro pc H locs ls v cthrown he hd hw
    subst he
    rw [← hZ]
    exact W.iret hx hb hr (hpost H locs hw).1 (hpost H locs hw).2 hd hlocks
  clear hpost
  refine lv_aload_n hx hb dX11_periodLength_0 rfl (lv_at hl 0 rfl) ?_
  refine lv_iload_n hx hb dX11_periodLength_1 rfl (lv_at hl 1 rfl) ?_
  obtain ⟨v2, hv2, hf⟩ := ob_e hf
  refine xcallV (ws' := (wM g h v2.2 ss states stateMany snapshot hasSnapshot text length at_ isWell rd readMany top bottom digit digitMany other otherMany column columnMany carryMany chainMost)) (st1 := [.int v2.1]) (n := 9) E hw [.int a1] [0, 1, 2, 3, 4, 5, 6, 7, 8] (met_X11_tellsPeriod l g h thrown ss states stateMany snapshot hasSnapshot text length at_ isWell rd readMany top bottom digit digitMany other otherMany column columnMany carryMany chainMost a1 v2 hv2) rfl (by decide) rfl rfl [9, 10, 11, 12, 13, 14, 15, 16, 17] rfl (by decide +kernel) rfl rfl rfl rfl qw1356 k_X11_tellsPeriod ⟨rfl, rfl, Nat.le_of_ble_eq_true rfl, Nat.le_of_ble_eq_true rfl⟩ ⟨Nat.zero_le _, Nat.zero_le _⟩ hl.1 (Nat.le_of_ble_eq_true rfl) dX11_periodLength_2 rfl (fun H locs hw => ?_)
  exact hret _ _ _ _ _ _ (Option.some.inj hf) dX11_periodLength_5 hw
theorem k_X11_periodByOrder : xKV yX11_periodByOrder cX11_periodByOrder 2 (some .int) 1 := ⟨qw1364, qw1365, qw74, qw1366, by decide +kernel, by decide +kernel, by decide +kernel⟩
set_option maxHeartbeats 4000000 in
set_option maxRecDepth 100000 in
theorem met_X11_periodByOrder (l : Launch) (g : xG) (h : Nat → Nat) (thrown : Int32) (ss : (Nat → Int32)) (states : (Nat → Int32)) (stateMany : Int32) (snapshot : (Nat → Int32)) (hasSnapshot : Int32) (text : (Nat → Int32)) (length : Int32) (at_ : Int32) (isWell : Int32) (rd : (Nat → Int32)) (readMany : Int32) (top : Int64) (bottom : Int64) (digit : (Nat → Int32)) (digitMany : Int32) (other : (Nat → Int32)) (otherMany : Int32) (column : (Nat → Int32)) (columnMany : Int32) (carryMany : Int32) (chainMost : Int32) (a1 : Int32) (out : Int32 × Int32) (hf : f_X11_periodByOrder thrown ss a1 = some out) : xM l yX11_periodByOrder (xC yX11_periodByOrder cX11_periodByOrder 2 (some .int)) { frames := 3, cells := 0, slots := 0, locals := 75 } g (wM g h thrown ss states stateMany snapshot hasSnapshot text length at_ isWell rd readMany top bottom digit digitMany other otherMany column columnMany carryMany chainMost) [.ref (h 0), .int a1] (some (.int out.1)) (wM g h out.2 ss states stateMany snapshot hasSnapshot text length at_ isWell rd readMany top bottom digit digitMany other otherMany column columnMany carryMany chainMost) := by
  refine xof (by decide) (Nat.le_of_ble_eq_true rfl) ⟨rfl, rfl⟩ ?_
  intro p e s m below meth c A ls E hr hlocks hw hl hpost hAe
  have hx := E.1.1
  have hb := E.1.2.1
  have hown := E.1.2.2.2.1
  have hts := E.1.2.2.2.2
  generalize hZ : (MQ below (xPost g (wM g h thrown ss states stateMany snapshot hasSnapshot text length at_ isWell rd readMany top bottom digit digitMany other otherMany column columnMany carryMany chainMost) (wM g h out.2 ss states stateMany snapshot hasSnapshot text length at_ isWell rd readMany top bottom digit digitMany other otherMany column columnMany carryMany chainMost) s.heap.size (some (.int out.1))) [.ref (h 0), .int a1].toArray s 0 0 A) = ZZ
  have hret : ∀ (pc : Nat) (H : Heap) (locs : List Loc) (ls : Array Slot) (v : Int32) (cthrown : Int32), (v, cthrown) = out → decode cX11_periodByOrder pc = .ok (.ireturn, 1) → xW g A s.heap (wM g h cthrown ss states stateMany snapshot hasSnapshot text length at_ isWell rd readMany top bottom digit digitMany other otherMany column columnMany carryMany chainMost) H locs → W p l e { frames := 3, cells := 0, slots := 0, locals := 75 } s m [.ref (h 0), .int a1].toArray below meth c H locs 0 0 ZZ (F0 m pc ls [.int v]) := by
    intro pc H locs ls v cthrown he hd hw
    subst he
    rw [← hZ]
    exact W.iret hx hb hr (hpost H locs hw).1 (hpost H locs hw).2 hd hlocks
  clear hpost
  refine lv_aload_n hx hb dX11_periodByOrder_0 rfl (lv_at hl 0 rfl) ?_
  refine lv_iload_n hx hb dX11_periodByOrder_1 rfl (lv_at hl 1 rfl) ?_
  obtain ⟨v2, hv2, hf⟩ := ob_e hf
  refine xcallV (ws' := (wM g h v2.2 ss states stateMany snapshot hasSnapshot text length at_ isWell rd readMany top bottom digit digitMany other otherMany column columnMany carryMany chainMost)) (st1 := [.int v2.1]) (n := 9) E hw [.int a1] [0, 1, 2, 3, 4, 5, 6, 7, 8] (met_X11_tellsPeriod l g h thrown ss states stateMany snapshot hasSnapshot text length at_ isWell rd readMany top bottom digit digitMany other otherMany column columnMany carryMany chainMost a1 v2 hv2) rfl (by decide) rfl rfl [9, 10, 11, 12, 13, 14, 15, 16, 17] rfl (by decide +kernel) rfl rfl rfl rfl qw1356 k_X11_tellsPeriod ⟨rfl, rfl, Nat.le_of_ble_eq_true rfl, Nat.le_of_ble_eq_true rfl⟩ ⟨Nat.zero_le _, Nat.zero_le _⟩ hl.1 (Nat.le_of_ble_eq_true rfl) dX11_periodByOrder_2 rfl (fun H locs hw => ?_)
  exact hret _ _ _ _ _ _ (Option.some.inj hf) dX11_periodByOrder_5 hw
theorem k_X11_digitBehind : xKV yX11_digitBehind cX11_digitBehind 3 (some .int) 2 := ⟨qw1368, qw1369, qw74, qw1370, by decide +kernel, by decide +kernel, by decide +kernel⟩
set_option maxHeartbeats 4000000 in
set_option maxRecDepth 100000 in
theorem met_X11_digitBehind (l : Launch) (g : xG) (h : Nat → Nat) (thrown : Int32) (ss : (Nat → Int32)) (states : (Nat → Int32)) (stateMany : Int32) (snapshot : (Nat → Int32)) (hasSnapshot : Int32) (text : (Nat → Int32)) (length : Int32) (at_ : Int32) (isWell : Int32) (rd : (Nat → Int32)) (readMany : Int32) (top : Int64) (bottom : Int64) (digit : (Nat → Int32)) (digitMany : Int32) (other : (Nat → Int32)) (otherMany : Int32) (column : (Nat → Int32)) (columnMany : Int32) (carryMany : Int32) (chainMost : Int32) (a1 : Int32) (a2 : Int32) (out : Int32 × Int32) (hf : f_X11_digitBehind thrown ss a1 a2 = some out) : xM l yX11_digitBehind (xC yX11_digitBehind cX11_digitBehind 3 (some .int)) { frames := 2, cells := 0, slots := 0, locals := 46 } g (wM g h thrown ss states stateMany snapshot hasSnapshot text length at_ isWell rd readMany top bottom digit digitMany other otherMany column columnMany carryMany chainMost) [.ref (h 0), .int a1, .int a2] (some (.int out.1)) (wM g h out.2 ss states stateMany snapshot hasSnapshot text length at_ isWell rd readMany top bottom digit digitMany other otherMany column columnMany carryMany chainMost) := by
  refine xof (by decide) (Nat.le_of_ble_eq_true rfl) ⟨rfl, rfl⟩ ?_
  intro p e s m below meth c A ls E hr hlocks hw hl hpost hAe
  have hx := E.1.1
  have hb := E.1.2.1
  have hown := E.1.2.2.2.1
  have hts := E.1.2.2.2.2
  generalize hZ : (MQ below (xPost g (wM g h thrown ss states stateMany snapshot hasSnapshot text length at_ isWell rd readMany top bottom digit digitMany other otherMany column columnMany carryMany chainMost) (wM g h out.2 ss states stateMany snapshot hasSnapshot text length at_ isWell rd readMany top bottom digit digitMany other otherMany column columnMany carryMany chainMost) s.heap.size (some (.int out.1))) [.ref (h 0), .int a1, .int a2].toArray s 0 0 A) = ZZ
  have hret : ∀ (pc : Nat) (H : Heap) (locs : List Loc) (ls : Array Slot) (v : Int32) (cthrown : Int32), (v, cthrown) = out → decode cX11_digitBehind pc = .ok (.ireturn, 1) → xW g A s.heap (wM g h cthrown ss states stateMany snapshot hasSnapshot text length at_ isWell rd readMany top bottom digit digitMany other otherMany column columnMany carryMany chainMost) H locs → W p l e { frames := 2, cells := 0, slots := 0, locals := 46 } s m [.ref (h 0), .int a1, .int a2].toArray below meth c H locs 0 0 ZZ (F0 m pc ls [.int v]) := by
    intro pc H locs ls v cthrown he hd hw
    subst he
    rw [← hZ]
    exact W.iret hx hb hr (hpost H locs hw).1 (hpost H locs hw).2 hd hlocks
  clear hpost
  refine lv_aload_n hx hb dX11_digitBehind_0 rfl (lv_at hl 0 rfl) ?_
  refine lv_iconst (v := 0) hx hb dX11_digitBehind_1 (by decide) ?_
  refine xput (ws' := (wM g h 0 ss states stateMany snapshot hasSnapshot text length at_ isWell rd readMany top bottom digit digitMany other otherMany column columnMany carryMany chainMost)) E hw 0 rfl rfl 0 (by decide) inw11 tyX11_ok nmX11 qw1019 rfl rfl rfl rfl (Nat.le_of_ble_eq_true rfl) dX11_digitBehind_2 rfl (fun H locs hw => ?_)
  refine lv_iload_n hx hb dX11_digitBehind_5 rfl (lv_at hl 1 rfl) ?_
  obtain ⟨v6, hv6, hf⟩ := ob_e hf
  refine xcallS (ws' := (wM g h 0 ss states stateMany snapshot hasSnapshot text length at_ isWell rd readMany top bottom digit digitMany other otherMany column columnMany carryMany chainMost)) (st1 := [.int v6]) (n := 9) E hw [.int a1] [] (met_X11_isAccount l g a1 v6 hv6) rfl (by decide) rfl rfl [0, 1, 2, 3, 4, 5, 6, 7, 8] rfl (by decide +kernel) rfl qw1112 k_X11_isAccount ⟨rfl, rfl, Nat.le_of_ble_eq_true rfl, Nat.le_of_ble_eq_true rfl⟩ ⟨Nat.zero_le _, Nat.zero_le _⟩ hl.1 (Nat.le_of_ble_eq_true rfl) dX11_digitBehind_6 rfl (fun H locs hw => ?_)
  refine lv_if_ne (tgt := 18) hx hb dX11_digitBehind_9 (by decide) (fun c9 => ?_) (fun c9 => ?_)
  · replace hf := iq c9 hf
    refine lv_iload_n hx hb dX11_digitBehind_18 rfl (lv_at hl 2 rfl) ?_
    refine lv_iconst (v := 0) hx hb dX11_digitBehind_19 (by decide) ?_
    refine lv_sipush (v := 2000) hx hb dX11_digitBehind_20 (by decide) ?_
    obtain ⟨v23, hv23, hf⟩ := ob_e hf
    refine xcallS (ws' := (wM g h 0 ss states stateMany snapshot hasSnapshot text length at_ isWell rd readMany top bottom digit digitMany other otherMany column columnMany carryMany chainMost)) (st1 := [.int v23]) (n := 9) E hw [.int a2, .int 0, .int 2000] [] (met_X11_in l g a2 0 2000 v23 hv23) rfl (by decide) rfl rfl [0, 1, 2, 3, 4, 5, 6, 7, 8] rfl (by decide +kernel) rfl qw1097 k_X11_in ⟨rfl, rfl, Nat.le_of_ble_eq_true rfl, Nat.le_of_ble_eq_true rfl⟩ ⟨Nat.zero_le _, Nat.zero_le _⟩ hl.1 (Nat.le_of_ble_eq_true rfl) dX11_digitBehind_23 rfl (fun H locs hw => ?_)
    refine lv_if_eq (tgt := 38) hx hb dX11_digitBehind_26 (by decide) (fun c26 => ?_) (fun c26 => ?_)
    · replace hf := ip c26 hf
      refine lv_aload_n hx hb dX11_digitBehind_38 rfl (lv_at hl 0 rfl) ?_
      refine lv_iconst (v := 2) hx hb dX11_digitBehind_39 (by decide) ?_
      obtain ⟨v40, hv40, hf⟩ := ob_e hf
      refine xcallV (ws' := (wM g h v40.2 ss states stateMany snapshot hasSnapshot text length at_ isWell rd readMany top bottom digit digitMany other otherMany column columnMany carryMany chainMost)) (st1 := [.int v40.1]) (n := 9) E hw [.int 2] [0, 1, 2, 3, 4, 5, 6, 7, 8] (met_X11_fails l g h 0 ss states stateMany snapshot hasSnapshot text length at_ isWell rd readMany top bottom digit digitMany other otherMany column columnMany carryMany chainMost 2 v40 hv40) rfl (by decide) rfl rfl [9, 10, 11, 12, 13, 14, 15, 16, 17] rfl (by decide +kernel) rfl rfl rfl rfl qw1100 k_X11_fails ⟨rfl, rfl, Nat.le_of_ble_eq_true rfl, Nat.le_of_ble_eq_true rfl⟩ ⟨Nat.zero_le _, Nat.zero_le _⟩ hl.1 (Nat.le_of_ble_eq_true rfl) dX11_digitBehind_40 rfl (fun H locs hw => ?_)
      exact hret _ _ _ _ _ _ (Option.some.inj hf) dX11_digitBehind_43 hw
    · replace hf := iq c26 hf
      refine lv_aload_n hx hb dX11_digitBehind_29 rfl (lv_at hl 0 rfl) ?_
      refine lv_iload_n hx hb dX11_digitBehind_30 rfl (lv_at hl 1 rfl) ?_
      refine lv_iload_n hx hb dX11_digitBehind_31 rfl (lv_at hl 2 rfl) ?_
      obtain ⟨v32, hv32, hf⟩ := ob_e hf
      refine xcallV (ws' := (wM g h 0 ss states stateMany snapshot hasSnapshot text length at_ isWell rd readMany top bottom digit digitMany other otherMany column columnMany carryMany chainMost)) (st1 := [.int v32]) (n := 9) E hw [.int a1, .int a2] [0, 1, 2, 3, 4, 5, 6, 7, 8] (met_X11_digitAfter l g h 0 ss states stateMany snapshot hasSnapshot text length at_ isWell rd readMany top bottom digit digitMany other otherMany column columnMany carryMany chainMost a1 a2 v32 hv32) rfl (by decide) rfl rfl [9, 10, 11, 12, 13, 14, 15, 16, 17] rfl (by decide +kernel) rfl rfl rfl rfl qw1371 k_X11_digitAfter ⟨rfl, rfl, Nat.le_of_ble_eq_true rfl, Nat.le_of_ble_eq_true rfl⟩ ⟨Nat.zero_le _, Nat.zero_le _⟩ hl.1 (Nat.le_of_ble_eq_true rfl) dX11_digitBehind_32 rfl (fun H locs hw => ?_)
      refine lv_goto (tgt := 43) hx hb dX11_digitBehind_35 (by decide) ?_
      exact hret _ _ _ _ _ _ (Option.some.inj hf) dX11_digitBehind_43 hw
  · replace hf := ip c9 hf
    refine lv_aload_n hx hb dX11_digitBehind_12 rfl (lv_at hl 0 rfl) ?_
    refine lv_iconst (v := 1) hx hb dX11_digitBehind_13 (by decide) ?_
    obtain ⟨v14, hv14, hf⟩ := ob_e hf
    refine xcallV (ws' := (wM g h v14.2 ss states stateMany snapshot hasSnapshot text length at_ isWell rd readMany top bottom digit digitMany other otherMany column columnMany carryMany chainMost)) (st1 := [.int v14.1]) (n := 9) E hw [.int 1] [0, 1, 2, 3, 4, 5, 6, 7, 8] (met_X11_fails l g h 0 ss states stateMany snapshot hasSnapshot text length at_ isWell rd readMany top bottom digit digitMany other otherMany column columnMany carryMany chainMost 1 v14 hv14) rfl (by decide) rfl rfl [9, 10, 11, 12, 13, 14, 15, 16, 17] rfl (by decide +kernel) rfl rfl rfl rfl qw1100 k_X11_fails ⟨rfl, rfl, Nat.le_of_ble_eq_true rfl, Nat.le_of_ble_eq_true rfl⟩ ⟨Nat.zero_le _, Nat.zero_le _⟩ hl.1 (Nat.le_of_ble_eq_true rfl) dX11_digitBehind_14 rfl (fun H locs hw => ?_)
    exact hret _ _ _ _ _ _ (Option.some.inj hf) dX11_digitBehind_17 hw
theorem k_X11_shortestBase : xKV yX11_shortestBase cX11_shortestBase 2 (some .int) 1 := ⟨qw1376, qw1377, qw74, qw1378, by decide +kernel, by decide +kernel, by decide +kernel⟩
set_option maxHeartbeats 4000000 in
set_option maxRecDepth 100000 in
theorem met_X11_shortestBase (l : Launch) (g : xG) (h : Nat → Nat) (thrown : Int32) (ss : (Nat → Int32)) (states : (Nat → Int32)) (stateMany : Int32) (snapshot : (Nat → Int32)) (hasSnapshot : Int32) (text : (Nat → Int32)) (length : Int32) (at_ : Int32) (isWell : Int32) (rd : (Nat → Int32)) (readMany : Int32) (top : Int64) (bottom : Int64) (digit : (Nat → Int32)) (digitMany : Int32) (other : (Nat → Int32)) (otherMany : Int32) (column : (Nat → Int32)) (columnMany : Int32) (carryMany : Int32) (chainMost : Int32) (a1 : Int32) (out : Int32 × Int32) (hf : f_X11_shortestBase thrown ss a1 = some out) : xM l yX11_shortestBase (xC yX11_shortestBase cX11_shortestBase 2 (some .int)) { frames := 3, cells := 0, slots := 0, locals := 79 } g (wM g h thrown ss states stateMany snapshot hasSnapshot text length at_ isWell rd readMany top bottom digit digitMany other otherMany column columnMany carryMany chainMost) [.ref (h 0), .int a1] (some (.int out.1)) (wM g h out.2 ss states stateMany snapshot hasSnapshot text length at_ isWell rd readMany top bottom digit digitMany other otherMany column columnMany carryMany chainMost) := by
  refine xof (by decide) (Nat.le_of_ble_eq_true rfl) ⟨rfl, rfl⟩ ?_
  intro p e s m below meth c A ls E hr hlocks hw hl hpost hAe
  have hx := E.1.1
  have hb := E.1.2.1
  have hown := E.1.2.2.2.1
  have hts := E.1.2.2.2.2
  generalize hZ : (MQ below (xPost g (wM g h thrown ss states stateMany snapshot hasSnapshot text length at_ isWell rd readMany top bottom digit digitMany other otherMany column columnMany carryMany chainMost) (wM g h out.2 ss states stateMany snapshot hasSnapshot text length at_ isWell rd readMany top bottom digit digitMany other otherMany column columnMany carryMany chainMost) s.heap.size (some (.int out.1))) [.ref (h 0), .int a1].toArray s 0 0 A) = ZZ
  have hret : ∀ (pc : Nat) (H : Heap) (locs : List Loc) (ls : Array Slot) (v : Int32) (cthrown : Int32), (v, cthrown) = out → decode cX11_shortestBase pc = .ok (.ireturn, 1) → xW g A s.heap (wM g h cthrown ss states stateMany snapshot hasSnapshot text length at_ isWell rd readMany top bottom digit digitMany other otherMany column columnMany carryMany chainMost) H locs → W p l e { frames := 3, cells := 0, slots := 0, locals := 79 } s m [.ref (h 0), .int a1].toArray below meth c H locs 0 0 ZZ (F0 m pc ls [.int v]) := by
    intro pc H locs ls v cthrown he hd hw
    subst he
    rw [← hZ]
    exact W.iret hx hb hr (hpost H locs hw).1 (hpost H locs hw).2 hd hlocks
  clear hpost
  refine lv_aload_n hx hb dX11_shortestBase_0 rfl (lv_at hl 0 rfl) ?_
  refine lv_iconst (v := 0) hx hb dX11_shortestBase_1 (by decide) ?_
  refine xput (ws' := (wM g h 0 ss states stateMany snapshot hasSnapshot text length at_ isWell rd readMany top bottom digit digitMany other otherMany column columnMany carryMany chainMost)) E hw 0 rfl rfl 0 (by decide) inw11 tyX11_ok nmX11 qw1019 rfl rfl rfl rfl (Nat.le_of_ble_eq_true rfl) dX11_shortestBase_2 rfl (fun H locs hw => ?_)
  refine lv_iload_n hx hb dX11_shortestBase_5 rfl (lv_at hl 1 rfl) ?_
  obtain ⟨v6, hv6, hf⟩ := ob_e hf
  refine xcallS (ws' := (wM g h 0 ss states stateMany snapshot hasSnapshot text length at_ isWell rd readMany top bottom digit digitMany other otherMany column columnMany carryMany chainMost)) (st1 := [.int v6]) (n := 9) E hw [.int a1] [] (met_X11_isAccount l g a1 v6 hv6) rfl (by decide) rfl rfl [0, 1, 2, 3, 4, 5, 6, 7, 8] rfl (by decide +kernel) rfl qw1112 k_X11_isAccount ⟨rfl, rfl, Nat.le_of_ble_eq_true rfl, Nat.le_of_ble_eq_true rfl⟩ ⟨Nat.zero_le _, Nat.zero_le _⟩ hl.1 (Nat.le_of_ble_eq_true rfl) dX11_shortestBase_6 rfl (fun H locs hw => ?_)
  refine lv_if_eq (tgt := 20) hx hb dX11_shortestBase_9 (by decide) (fun c9 => ?_) (fun c9 => ?_)
  · replace hf := ip c9 hf
    refine lv_aload_n hx hb dX11_shortestBase_20 rfl (lv_at hl 0 rfl) ?_
    refine lv_iconst (v := 1) hx hb dX11_shortestBase_21 (by decide) ?_
    obtain ⟨v22, hv22, hf⟩ := ob_e hf
    refine xcallV (ws' := (wM g h v22.2 ss states stateMany snapshot hasSnapshot text length at_ isWell rd readMany top bottom digit digitMany other otherMany column columnMany carryMany chainMost)) (st1 := [.int v22.1]) (n := 9) E hw [.int 1] [0, 1, 2, 3, 4, 5, 6, 7, 8] (met_X11_fails l g h 0 ss states stateMany snapshot hasSnapshot text length at_ isWell rd readMany top bottom digit digitMany other otherMany column columnMany carryMany chainMost 1 v22 hv22) rfl (by decide) rfl rfl [9, 10, 11, 12, 13, 14, 15, 16, 17] rfl (by decide +kernel) rfl rfl rfl rfl qw1100 k_X11_fails ⟨rfl, rfl, Nat.le_of_ble_eq_true rfl, Nat.le_of_ble_eq_true rfl⟩ ⟨Nat.zero_le _, Nat.zero_le _⟩ hl.1 (Nat.le_of_ble_eq_true rfl) dX11_shortestBase_22 rfl (fun H locs hw => ?_)
    exact hret _ _ _ _ _ _ (Option.some.inj hf) dX11_shortestBase_25 hw
  · replace hf := iq c9 hf
    refine lv_aload_n hx hb dX11_shortestBase_12 rfl (lv_at hl 0 rfl) ?_
    refine lv_iload_n hx hb dX11_shortestBase_13 rfl (lv_at hl 1 rfl) ?_
    obtain ⟨v14, hv14, hf⟩ := ob_e hf
    refine xcallV (ws' := (wM g h 0 ss states stateMany snapshot hasSnapshot text length at_ isWell rd readMany top bottom digit digitMany other otherMany column columnMany carryMany chainMost)) (st1 := [.int v14]) (n := 9) E hw [.int a1] [0, 1, 2, 3, 4, 5, 6, 7, 8] (met_X11_bestBase l g h 0 ss states stateMany snapshot hasSnapshot text length at_ isWell rd readMany top bottom digit digitMany other otherMany column columnMany carryMany chainMost a1 v14 hv14) rfl (by decide) rfl rfl [9, 10, 11, 12, 13, 14, 15, 16, 17] rfl (by decide +kernel) rfl rfl rfl rfl qw1379 k_X11_bestBase ⟨rfl, rfl, Nat.le_of_ble_eq_true rfl, Nat.le_of_ble_eq_true rfl⟩ ⟨Nat.zero_le _, Nat.zero_le _⟩ hl.1 (Nat.le_of_ble_eq_true rfl) dX11_shortestBase_14 rfl (fun H locs hw => ?_)
    refine lv_goto (tgt := 25) hx hb dX11_shortestBase_17 (by decide) ?_
    exact hret _ _ _ _ _ _ (Option.some.inj hf) dX11_shortestBase_25 hw
theorem k_X11_writtenLength : xKV yX11_writtenLength cX11_writtenLength 2 (some .int) 1 := ⟨qw1384, qw1385, qw74, qw1386, by decide +kernel, by decide +kernel, by decide +kernel⟩
set_option maxHeartbeats 4000000 in
set_option maxRecDepth 100000 in
theorem met_X11_writtenLength (l : Launch) (g : xG) (h : Nat → Nat) (thrown : Int32) (ss : (Nat → Int32)) (states : (Nat → Int32)) (stateMany : Int32) (snapshot : (Nat → Int32)) (hasSnapshot : Int32) (text : (Nat → Int32)) (length : Int32) (at_ : Int32) (isWell : Int32) (rd : (Nat → Int32)) (readMany : Int32) (top : Int64) (bottom : Int64) (digit : (Nat → Int32)) (digitMany : Int32) (other : (Nat → Int32)) (otherMany : Int32) (column : (Nat → Int32)) (columnMany : Int32) (carryMany : Int32) (chainMost : Int32) (a1 : Int32) (out : Int32 × Int32 × (Nat → Int32) × Int32) (hf : f_X11_writtenLength thrown ss digit digitMany a1 = some out) : xM l yX11_writtenLength (xC yX11_writtenLength cX11_writtenLength 2 (some .int)) { frames := 4, cells := 0, slots := 0, locals := 87 } g (wM g h thrown ss states stateMany snapshot hasSnapshot text length at_ isWell rd readMany top bottom digit digitMany other otherMany column columnMany carryMany chainMost) [.ref (h 0), .int a1] (some (.int out.1)) (wM g h out.2.1 ss states stateMany snapshot hasSnapshot text length at_ isWell rd readMany top bottom out.2.2.1 out.2.2.2 other otherMany column columnMany carryMany chainMost) := by
  refine xof (by decide) (Nat.le_of_ble_eq_true rfl) ⟨rfl, rfl⟩ ?_
  intro p e s m below meth c A ls E hr hlocks hw hl hpost hAe
  have hx := E.1.1
  have hb := E.1.2.1
  have hown := E.1.2.2.2.1
  have hts := E.1.2.2.2.2
  generalize hZ : (MQ below (xPost g (wM g h thrown ss states stateMany snapshot hasSnapshot text length at_ isWell rd readMany top bottom digit digitMany other otherMany column columnMany carryMany chainMost) (wM g h out.2.1 ss states stateMany snapshot hasSnapshot text length at_ isWell rd readMany top bottom out.2.2.1 out.2.2.2 other otherMany column columnMany carryMany chainMost) s.heap.size (some (.int out.1))) [.ref (h 0), .int a1].toArray s 0 0 A) = ZZ
  have hret : ∀ (pc : Nat) (H : Heap) (locs : List Loc) (ls : Array Slot) (v : Int32) (cthrown : Int32) (cdigit : (Nat → Int32)) (cdigitMany : Int32), (v, cthrown, cdigit, cdigitMany) = out → decode cX11_writtenLength pc = .ok (.ireturn, 1) → xW g A s.heap (wM g h cthrown ss states stateMany snapshot hasSnapshot text length at_ isWell rd readMany top bottom cdigit cdigitMany other otherMany column columnMany carryMany chainMost) H locs → W p l e { frames := 4, cells := 0, slots := 0, locals := 87 } s m [.ref (h 0), .int a1].toArray below meth c H locs 0 0 ZZ (F0 m pc ls [.int v]) := by
    intro pc H locs ls v cthrown cdigit cdigitMany he hd hw
    subst he
    rw [← hZ]
    exact W.iret hx hb hr (hpost H locs hw).1 (hpost H locs hw).2 hd hlocks
  clear hpost
  refine lv_aload_n hx hb dX11_writtenLength_0 rfl (lv_at hl 0 rfl) ?_
  refine lv_iconst (v := 0) hx hb dX11_writtenLength_1 (by decide) ?_
  refine xput (ws' := (wM g h 0 ss states stateMany snapshot hasSnapshot text length at_ isWell rd readMany top bottom digit digitMany other otherMany column columnMany carryMany chainMost)) E hw 0 rfl rfl 0 (by decide) inw11 tyX11_ok nmX11 qw1019 rfl rfl rfl rfl (Nat.le_of_ble_eq_true rfl) dX11_writtenLength_2 rfl (fun H locs hw => ?_)
  refine lv_iload_n hx hb dX11_writtenLength_5 rfl (lv_at hl 1 rfl) ?_
  obtain ⟨v6, hv6, hf⟩ := ob_e hf
  refine xcallS (ws' := (wM g h 0 ss states stateMany snapshot hasSnapshot text length at_ isWell rd readMany top bottom digit digitMany other otherMany column columnMany carryMany chainMost)) (st1 := [.int v6]) (n := 9) E hw [.int a1] [] (met_X11_isAccount l g a1 v6 hv6) rfl (by decide) rfl rfl [0, 1, 2, 3, 4, 5, 6, 7, 8] rfl (by decide +kernel) rfl qw1112 k_X11_isAccount ⟨rfl, rfl, Nat.le_of_ble_eq_true rfl, Nat.le_of_ble_eq_true rfl⟩ ⟨Nat.zero_le _, Nat.zero_le _⟩ hl.1 (Nat.le_of_ble_eq_true rfl) dX11_writtenLength_6 rfl (fun H locs hw => ?_)
  refine lv_if_eq (tgt := 20) hx hb dX11_writtenLength_9 (by decide) (fun c9 => ?_) (fun c9 => ?_)
  · replace hf := ip c9 hf
    refine lv_aload_n hx hb dX11_writtenLength_20 rfl (lv_at hl 0 rfl) ?_
    refine lv_iconst (v := 1) hx hb dX11_writtenLength_21 (by decide) ?_
    obtain ⟨v22, hv22, hf⟩ := ob_e hf
    refine xcallV (ws' := (wM g h v22.2 ss states stateMany snapshot hasSnapshot text length at_ isWell rd readMany top bottom digit digitMany other otherMany column columnMany carryMany chainMost)) (st1 := [.int v22.1]) (n := 9) E hw [.int 1] [0, 1, 2, 3, 4, 5, 6, 7, 8] (met_X11_fails l g h 0 ss states stateMany snapshot hasSnapshot text length at_ isWell rd readMany top bottom digit digitMany other otherMany column columnMany carryMany chainMost 1 v22 hv22) rfl (by decide) rfl rfl [9, 10, 11, 12, 13, 14, 15, 16, 17] rfl (by decide +kernel) rfl rfl rfl rfl qw1100 k_X11_fails ⟨rfl, rfl, Nat.le_of_ble_eq_true rfl, Nat.le_of_ble_eq_true rfl⟩ ⟨Nat.zero_le _, Nat.zero_le _⟩ hl.1 (Nat.le_of_ble_eq_true rfl) dX11_writtenLength_22 rfl (fun H locs hw => ?_)
    exact hret _ _ _ _ _ _ _ _ (Option.some.inj hf) dX11_writtenLength_25 hw
  · replace hf := iq c9 hf
    refine lv_aload_n hx hb dX11_writtenLength_12 rfl (lv_at hl 0 rfl) ?_
    refine lv_iload_n hx hb dX11_writtenLength_13 rfl (lv_at hl 1 rfl) ?_
    obtain ⟨v14, hv14, hf⟩ := ob_e hf
    refine xcallV (ws' := (wM g h 0 ss states stateMany snapshot hasSnapshot text length at_ isWell rd readMany top bottom v14.2.1 v14.2.2 other otherMany column columnMany carryMany chainMost)) (st1 := [.int v14.1]) (n := 9) E hw [.int a1] [0, 1, 2, 3, 4, 5, 6, 7, 8] (met_X11_writtenMany l g h 0 ss states stateMany snapshot hasSnapshot text length at_ isWell rd readMany top bottom digit digitMany other otherMany column columnMany carryMany chainMost a1 v14 hv14) rfl (by decide) rfl rfl [9, 10, 11, 12, 13, 14, 15, 16, 17] rfl (by decide +kernel) rfl rfl rfl rfl qw1387 k_X11_writtenMany ⟨rfl, rfl, Nat.le_of_ble_eq_true rfl, Nat.le_of_ble_eq_true rfl⟩ ⟨Nat.zero_le _, Nat.zero_le _⟩ hl.1 (Nat.le_of_ble_eq_true rfl) dX11_writtenLength_14 rfl (fun H locs hw => ?_)
    refine lv_goto (tgt := 25) hx hb dX11_writtenLength_17 (by decide) ?_
    exact hret _ _ _ _ _ _ _ _ (Option.some.inj hf) dX11_writtenLength_25 hw
theorem k_X11_writtenAt : xKV yX11_writtenAt cX11_writtenAt 3 (some .int) 2 := ⟨qw1392, qw1393, qw74, qw1394, by decide +kernel, by decide +kernel, by decide +kernel⟩
set_option maxHeartbeats 4000000 in
set_option maxRecDepth 100000 in
theorem met_X11_writtenAt (l : Launch) (g : xG) (h : Nat → Nat) (thrown : Int32) (ss : (Nat → Int32)) (states : (Nat → Int32)) (stateMany : Int32) (snapshot : (Nat → Int32)) (hasSnapshot : Int32) (text : (Nat → Int32)) (length : Int32) (at_ : Int32) (isWell : Int32) (rd : (Nat → Int32)) (readMany : Int32) (top : Int64) (bottom : Int64) (digit : (Nat → Int32)) (digitMany : Int32) (other : (Nat → Int32)) (otherMany : Int32) (column : (Nat → Int32)) (columnMany : Int32) (carryMany : Int32) (chainMost : Int32) (a1 : Int32) (a2 : Int32) (out : Int32 × Int32 × (Nat → Int32) × Int32) (hf : f_X11_writtenAt thrown ss digit digitMany a1 a2 = some out) : xM l yX11_writtenAt (xC yX11_writtenAt cX11_writtenAt 3 (some .int)) { frames := 4, cells := 0, slots := 0, locals := 89 } g (wM g h thrown ss states stateMany snapshot hasSnapshot text length at_ isWell rd readMany top bottom digit digitMany other otherMany column columnMany carryMany chainMost) [.ref (h 0), .int a1, .int a2] (some (.int out.1)) (wM g h out.2.1 ss states stateMany snapshot hasSnapshot text length at_ isWell rd readMany top bottom out.2.2.1 out.2.2.2 other otherMany column columnMany carryMany chainMost) := by
  refine xof (by decide) (Nat.le_of_ble_eq_true rfl) ⟨rfl, rfl⟩ ?_
  intro p e s m below meth c A ls E hr hlocks hw hl hpost hAe
  have hx := E.1.1
  have hb := E.1.2.1
  have hown := E.1.2.2.2.1
  have hts := E.1.2.2.2.2
  generalize hZ : (MQ below (xPost g (wM g h thrown ss states stateMany snapshot hasSnapshot text length at_ isWell rd readMany top bottom digit digitMany other otherMany column columnMany carryMany chainMost) (wM g h out.2.1 ss states stateMany snapshot hasSnapshot text length at_ isWell rd readMany top bottom out.2.2.1 out.2.2.2 other otherMany column columnMany carryMany chainMost) s.heap.size (some (.int out.1))) [.ref (h 0), .int a1, .int a2].toArray s 0 0 A) = ZZ
  have hret : ∀ (pc : Nat) (H : Heap) (locs : List Loc) (ls : Array Slot) (v : Int32) (cthrown : Int32) (cdigit : (Nat → Int32)) (cdigitMany : Int32), (v, cthrown, cdigit, cdigitMany) = out → decode cX11_writtenAt pc = .ok (.ireturn, 1) → xW g A s.heap (wM g h cthrown ss states stateMany snapshot hasSnapshot text length at_ isWell rd readMany top bottom cdigit cdigitMany other otherMany column columnMany carryMany chainMost) H locs → W p l e { frames := 4, cells := 0, slots := 0, locals := 89 } s m [.ref (h 0), .int a1, .int a2].toArray below meth c H locs 0 0 ZZ (F0 m pc ls [.int v]) := by
    intro pc H locs ls v cthrown cdigit cdigitMany he hd hw
    subst he
    rw [← hZ]
    exact W.iret hx hb hr (hpost H locs hw).1 (hpost H locs hw).2 hd hlocks
  clear hpost
  have b36 : ∀ (H : Heap) (locs : List Loc) (ls : Array Slot) (thrown : Int32) (digit : (Nat → Int32)) (digitMany : Int32), xW g A s.heap (wM g h thrown ss states stateMany snapshot hasSnapshot text length at_ isWell rd readMany top bottom digit digitMany other otherMany column columnMany carryMany chainMost) H locs → lv_has ls 3 [(0, .ref (h 0))] → f_X11_writtenAt_b36 thrown ss digit digitMany = some out → W p l e { frames := 4, cells := 0, slots := 0, locals := 89 } s m [.ref (h 0), .int a1, .int a2].toArray below meth c H locs 0 0 ZZ (F0 m 36 ls []) := by
    intro H locs ls thrown digit digitMany hw hl hf
    refine lv_aload_n hx hb dX11_writtenAt_36 rfl (lv_at hl 0 rfl) ?_
    refine lv_iconst (v := 1) hx hb dX11_writtenAt_37 (by decide) ?_
    obtain ⟨v38, hv38, hf⟩ := ob_e hf
    refine xcallV (ws' := (wM g h v38.2 ss states stateMany snapshot hasSnapshot text length at_ isWell rd readMany top bottom digit digitMany other otherMany column columnMany carryMany chainMost)) (st1 := [.int v38.1]) (n := 9) E hw [.int 1] [0, 1, 2, 3, 4, 5, 6, 7, 8] (met_X11_fails l g h thrown ss states stateMany snapshot hasSnapshot text length at_ isWell rd readMany top bottom digit digitMany other otherMany column columnMany carryMany chainMost 1 v38 hv38) rfl (by decide) rfl rfl [9, 10, 11, 12, 13, 14, 15, 16, 17] rfl (by decide +kernel) rfl rfl rfl rfl qw1100 k_X11_fails ⟨rfl, rfl, Nat.le_of_ble_eq_true rfl, Nat.le_of_ble_eq_true rfl⟩ ⟨Nat.zero_le _, Nat.zero_le _⟩ hl.1 (Nat.le_of_ble_eq_true rfl) dX11_writtenAt_38 rfl (fun H locs hw => ?_)
    exact hret _ _ _ _ _ _ _ _ (Option.some.inj hf) dX11_writtenAt_41 hw
  refine lv_aload_n hx hb dX11_writtenAt_0 rfl (lv_at hl 0 rfl) ?_
  refine lv_iconst (v := 0) hx hb dX11_writtenAt_1 (by decide) ?_
  refine xput (ws' := (wM g h 0 ss states stateMany snapshot hasSnapshot text length at_ isWell rd readMany top bottom digit digitMany other otherMany column columnMany carryMany chainMost)) E hw 0 rfl rfl 0 (by decide) inw11 tyX11_ok nmX11 qw1019 rfl rfl rfl rfl (Nat.le_of_ble_eq_true rfl) dX11_writtenAt_2 rfl (fun H locs hw => ?_)
  refine lv_iload_n hx hb dX11_writtenAt_5 rfl (lv_at hl 1 rfl) ?_
  obtain ⟨v6, hv6, hf⟩ := ob_e hf
  refine xcallS (ws' := (wM g h 0 ss states stateMany snapshot hasSnapshot text length at_ isWell rd readMany top bottom digit digitMany other otherMany column columnMany carryMany chainMost)) (st1 := [.int v6]) (n := 9) E hw [.int a1] [] (met_X11_isAccount l g a1 v6 hv6) rfl (by decide) rfl rfl [0, 1, 2, 3, 4, 5, 6, 7, 8] rfl (by decide +kernel) rfl qw1112 k_X11_isAccount ⟨rfl, rfl, Nat.le_of_ble_eq_true rfl, Nat.le_of_ble_eq_true rfl⟩ ⟨Nat.zero_le _, Nat.zero_le _⟩ hl.1 (Nat.le_of_ble_eq_true rfl) dX11_writtenAt_6 rfl (fun H locs hw => ?_)
  refine lv_if_eq (tgt := 36) hx hb dX11_writtenAt_9 (by decide) (fun c9 => ?_) (fun c9 => ?_)
  · replace hf := ip c9 hf
    exact b36 _ _ _ 0 digit digitMany hw (lv_sub hl [0] rfl) hf
  · replace hf := iq c9 hf
    refine lv_iload_n hx hb dX11_writtenAt_12 rfl (lv_at hl 2 rfl) ?_
    refine lv_iconst (v := 0) hx hb dX11_writtenAt_13 (by decide) ?_
    refine lv_aload_n hx hb dX11_writtenAt_14 rfl (lv_at hl 0 rfl) ?_
    refine lv_iload_n hx hb dX11_writtenAt_15 rfl (lv_at hl 1 rfl) ?_
    obtain ⟨v16, hv16, hf⟩ := ob_e hf
    refine xcallV (ws' := (wM g h 0 ss states stateMany snapshot hasSnapshot text length at_ isWell rd readMany top bottom v16.2.1 v16.2.2 other otherMany column columnMany carryMany chainMost)) (st1 := [.int v16.1, .int 0, .int a2]) (n := 9) E hw [.int a1] [0, 1, 2, 3, 4, 5, 6, 7, 8] (met_X11_writtenMany l g h 0 ss states stateMany snapshot hasSnapshot text length at_ isWell rd readMany top bottom digit digitMany other otherMany column columnMany carryMany chainMost a1 v16 hv16) rfl (by decide) rfl rfl [9, 10, 11, 12, 13, 14, 15, 16, 17] rfl (by decide +kernel) rfl rfl rfl rfl qw1387 k_X11_writtenMany ⟨rfl, rfl, Nat.le_of_ble_eq_true rfl, Nat.le_of_ble_eq_true rfl⟩ ⟨Nat.zero_le _, Nat.zero_le _⟩ hl.1 (Nat.le_of_ble_eq_true rfl) dX11_writtenAt_16 rfl (fun H locs hw => ?_)
    refine lv_iconst (v := 1) hx hb dX11_writtenAt_19 (by decide) ?_
    refine lv_isub hx hb dX11_writtenAt_20 ?_
    obtain ⟨v21, hv21, hf⟩ := ob_e hf
    refine xcallS (ws' := (wM g h 0 ss states stateMany snapshot hasSnapshot text length at_ isWell rd readMany top bottom v16.2.1 v16.2.2 other otherMany column columnMany carryMany chainMost)) (st1 := [.int v21]) (n := 9) E hw [.int a2, .int 0, .int (v16.1 - 1)] [] (met_X11_in l g a2 0 (v16.1 - 1) v21 hv21) rfl (by decide) rfl rfl [0, 1, 2, 3, 4, 5, 6, 7, 8] rfl (by decide +kernel) rfl qw1097 k_X11_in ⟨rfl, rfl, Nat.le_of_ble_eq_true rfl, Nat.le_of_ble_eq_true rfl⟩ ⟨Nat.zero_le _, Nat.zero_le _⟩ hl.1 (Nat.le_of_ble_eq_true rfl) dX11_writtenAt_21 rfl (fun H locs hw => ?_)
    refine lv_if_eq (tgt := 36) hx hb dX11_writtenAt_24 (by decide) (fun c24 => ?_) (fun c24 => ?_)
    · replace hf := ip c24 hf
      exact b36 _ _ _ 0 v16.2.1 v16.2.2 hw (lv_sub hl [0] rfl) hf
    · replace hf := iq c24 hf
      refine lv_aload_n hx hb dX11_writtenAt_27 rfl (lv_at hl 0 rfl) ?_
      refine lv_iload_n hx hb dX11_writtenAt_28 rfl (lv_at hl 1 rfl) ?_
      refine lv_iload_n hx hb dX11_writtenAt_29 rfl (lv_at hl 2 rfl) ?_
      obtain ⟨v30, hv30, hf⟩ := ob_e hf
      refine xcallV (ws' := (wM g h 0 ss states stateMany snapshot hasSnapshot text length at_ isWell rd readMany top bottom v30.2.1 v30.2.2 other otherMany column columnMany carryMany chainMost)) (st1 := [.int v30.1]) (n := 9) E hw [.int a1, .int a2] [0, 1, 2, 3, 4, 5, 6, 7, 8] (met_X11_writes l g h 0 ss states stateMany snapshot hasSnapshot text length at_ isWell rd readMany top bottom v16.2.1 v16.2.2 other otherMany column columnMany carryMany chainMost a1 a2 v30 hv30) rfl (by decide) rfl rfl [9, 10, 11, 12, 13, 14, 15, 16, 17] rfl (by decide +kernel) rfl rfl rfl rfl qw1395 k_X11_writes ⟨rfl, rfl, Nat.le_of_ble_eq_true rfl, Nat.le_of_ble_eq_true rfl⟩ ⟨Nat.zero_le _, Nat.zero_le _⟩ hl.1 (Nat.le_of_ble_eq_true rfl) dX11_writtenAt_30 rfl (fun H locs hw => ?_)
      refine lv_goto (tgt := 41) hx hb dX11_writtenAt_33 (by decide) ?_
      exact hret _ _ _ _ _ _ _ _ (Option.some.inj hf) dX11_writtenAt_41 hw
theorem k_X11_hasColumns : xKV yX11_hasColumns cX11_hasColumns 3 (some .boolean) 2 := ⟨qw1408, qw57, qw74, qw1409, by decide +kernel, by decide +kernel, by decide +kernel⟩
set_option maxHeartbeats 4000000 in
set_option maxRecDepth 100000 in
theorem met_X11_hasColumns (l : Launch) (g : xG) (h : Nat → Nat) (thrown : Int32) (ss : (Nat → Int32)) (states : (Nat → Int32)) (stateMany : Int32) (snapshot : (Nat → Int32)) (hasSnapshot : Int32) (text : (Nat → Int32)) (length : Int32) (at_ : Int32) (isWell : Int32) (rd : (Nat → Int32)) (readMany : Int32) (top : Int64) (bottom : Int64) (digit : (Nat → Int32)) (digitMany : Int32) (other : (Nat → Int32)) (otherMany : Int32) (column : (Nat → Int32)) (columnMany : Int32) (carryMany : Int32) (chainMost : Int32) (a1 : Int32) (a2 : Int32) (out : Int32 × Int32 × (Nat → Int32) × Int32 × (Nat → Int32) × Int32 × (Nat → Int32) × Int32 × Int32 × Int32) (hf : f_X11_hasColumns thrown ss digit digitMany other otherMany column columnMany carryMany chainMost a1 a2 = some out) : xM l yX11_hasColumns (xC yX11_hasColumns cX11_hasColumns 3 (some .boolean)) { frames := 4, cells := 0, slots := 0, locals := 90 } g (wM g h thrown ss states stateMany snapshot hasSnapshot text length at_ isWell rd readMany top bottom digit digitMany other otherMany column columnMany carryMany chainMost) [.ref (h 0), .int a1, .int a2] (some (.int out.1)) (wM g h out.2.1 ss states stateMany snapshot hasSnapshot text length at_ isWell rd readMany top bottom out.2.2.1 out.2.2.2.1 out.2.2.2.2.1 out.2.2.2.2.2.1 out.2.2.2.2.2.2.1 out.2.2.2.2.2.2.2.1 out.2.2.2.2.2.2.2.2.1 out.2.2.2.2.2.2.2.2.2) := by
  refine xof (by decide) (Nat.le_of_ble_eq_true rfl) ⟨rfl, rfl⟩ ?_
  intro p e s m below meth c A ls E hr hlocks hw hl hpost hAe
  have hx := E.1.1
  have hb := E.1.2.1
  have hown := E.1.2.2.2.1
  have hts := E.1.2.2.2.2
  generalize hZ : (MQ below (xPost g (wM g h thrown ss states stateMany snapshot hasSnapshot text length at_ isWell rd readMany top bottom digit digitMany other otherMany column columnMany carryMany chainMost) (wM g h out.2.1 ss states stateMany snapshot hasSnapshot text length at_ isWell rd readMany top bottom out.2.2.1 out.2.2.2.1 out.2.2.2.2.1 out.2.2.2.2.2.1 out.2.2.2.2.2.2.1 out.2.2.2.2.2.2.2.1 out.2.2.2.2.2.2.2.2.1 out.2.2.2.2.2.2.2.2.2) s.heap.size (some (.int out.1))) [.ref (h 0), .int a1, .int a2].toArray s 0 0 A) = ZZ
  have hret : ∀ (pc : Nat) (H : Heap) (locs : List Loc) (ls : Array Slot) (v : Int32) (cthrown : Int32) (cdigit : (Nat → Int32)) (cdigitMany : Int32) (cother : (Nat → Int32)) (cotherMany : Int32) (ccolumn : (Nat → Int32)) (ccolumnMany : Int32) (ccarryMany : Int32) (cchainMost : Int32), narrow .boolean (.int v) = .int v → (v, cthrown, cdigit, cdigitMany, cother, cotherMany, ccolumn, ccolumnMany, ccarryMany, cchainMost) = out → decode cX11_hasColumns pc = .ok (.ireturn, 1) → xW g A s.heap (wM g h cthrown ss states stateMany snapshot hasSnapshot text length at_ isWell rd readMany top bottom cdigit cdigitMany cother cotherMany ccolumn ccolumnMany ccarryMany cchainMost) H locs → W p l e { frames := 4, cells := 0, slots := 0, locals := 90 } s m [.ref (h 0), .int a1, .int a2].toArray below meth c H locs 0 0 ZZ (F0 m pc ls [.int v]) := by
    intro pc H locs ls v cthrown cdigit cdigitMany cother cotherMany ccolumn ccolumnMany ccarryMany cchainMost hn he hd hw
    subst he
    rw [← hZ]
    exact W.zret hx hb hr hn (hpost H locs hw).1 (hpost H locs hw).2 hd hlocks
  clear hpost
  have b30 : ∀ (H : Heap) (locs : List Loc) (ls : Array Slot) (thrown : Int32) (digit : (Nat → Int32)) (digitMany : Int32) (other : (Nat → Int32)) (otherMany : Int32) (column : (Nat → Int32)) (columnMany : Int32) (carryMany : Int32) (chainMost : Int32), xW g A s.heap (wM g h thrown ss states stateMany snapshot hasSnapshot text length at_ isWell rd readMany top bottom digit digitMany other otherMany column columnMany carryMany chainMost) H locs → lv_has ls 3 [(0, .ref (h 0))] → f_X11_hasColumns_b30 thrown ss digit digitMany other otherMany column columnMany carryMany chainMost = some out → W p l e { frames := 4, cells := 0, slots := 0, locals := 90 } s m [.ref (h 0), .int a1, .int a2].toArray below meth c H locs 0 0 ZZ (F0 m 30 ls []) := by
    intro H locs ls thrown digit digitMany other otherMany column columnMany carryMany chainMost hw hl hf
    refine lv_aload_n hx hb dX11_hasColumns_30 rfl (lv_at hl 0 rfl) ?_
    refine xget (v := .int thrown) E hw 0 rfl rfl 0 (by decide) inw11 qw1019 rfl rfl dX11_hasColumns_31 ?_
    refine lv_if_ne (tgt := 41) hx hb dX11_hasColumns_34 (by decide) (fun c34 => ?_) (fun c34 => ?_)
    · replace hf := iq c34 hf
      refine lv_iconst (v := 0) hx hb dX11_hasColumns_41 (by decide) ?_
      exact hret _ _ _ _ _ _ _ _ _ _ _ _ _ _ (by decide) (Option.some.inj hf) dX11_hasColumns_42 hw
    · replace hf := ip c34 hf
      refine lv_iconst (v := 1) hx hb dX11_hasColumns_37 (by decide) ?_
      refine lv_goto (tgt := 42) hx hb dX11_hasColumns_38 (by decide) ?_
      exact hret _ _ _ _ _ _ _ _ _ _ _ _ _ _ (by decide) (Option.some.inj hf) dX11_hasColumns_42 hw
  have b14 : ∀ (H : Heap) (locs : List Loc) (ls : Array Slot) (thrown : Int32) (digit : (Nat → Int32)) (digitMany : Int32) (other : (Nat → Int32)) (otherMany : Int32) (column : (Nat → Int32)) (columnMany : Int32) (carryMany : Int32) (chainMost : Int32) (x1 : Int32) (x2 : Int32) (t0 : Int32), xW g A s.heap (wM g h thrown ss states stateMany snapshot hasSnapshot text length at_ isWell rd readMany top bottom digit digitMany other otherMany column columnMany carryMany chainMost) H locs → lv_has ls 3 [(0, .ref (h 0)), (1, .int x1), (2, .int x2)] → f_X11_hasColumns_b14 thrown ss digit digitMany other otherMany column columnMany carryMany chainMost x1 x2 t0 = some out → W p l e { frames := 4, cells := 0, slots := 0, locals := 90 } s m [.ref (h 0), .int a1, .int a2].toArray below meth c H locs 0 0 ZZ (F0 m 14 ls [.int t0, .ref (h 0)]) := by
    intro H locs ls thrown digit digitMany other otherMany column columnMany carryMany chainMost x1 x2 t0 hw hl hf
    refine xput (ws' := (wM g h t0 ss states stateMany snapshot hasSnapshot text length at_ isWell rd readMany top bottom digit digitMany other otherMany column columnMany carryMany chainMost)) E hw 0 rfl rfl 0 (by decide) inw11 tyX11_ok nmX11 qw1019 rfl rfl rfl rfl (Nat.le_of_ble_eq_true rfl) dX11_hasColumns_14 rfl (fun H locs hw => ?_)
    refine lv_aload_n hx hb dX11_hasColumns_17 rfl (lv_at hl 0 rfl) ?_
    refine xget (v := .int t0) E hw 0 rfl rfl 0 (by decide) inw11 qw1019 rfl rfl dX11_hasColumns_18 ?_
    refine lv_if_ne (tgt := 30) hx hb dX11_hasColumns_21 (by decide) (fun c21 => ?_) (fun c21 => ?_)
    · replace hf := iq c21 hf
      exact b30 _ _ _ t0 digit digitMany other otherMany column columnMany carryMany chainMost hw (lv_sub hl [0] rfl) hf
    · replace hf := ip c21 hf
      refine lv_aload_n hx hb dX11_hasColumns_24 rfl (lv_at hl 0 rfl) ?_
      refine lv_iload_n hx hb dX11_hasColumns_25 rfl (lv_at hl 1 rfl) ?_
      refine lv_iload_n hx hb dX11_hasColumns_26 rfl (lv_at hl 2 rfl) ?_
      obtain ⟨v27, hv27, hf⟩ := ob_e hf
      refine xcallV (ws' := (wM g h t0 ss states stateMany snapshot hasSnapshot text length at_ isWell rd readMany top bottom v27.1 v27.2.1 v27.2.2.1 v27.2.2.2.1 v27.2.2.2.2.1 v27.2.2.2.2.2.1 v27.2.2.2.2.2.2.1 v27.2.2.2.2.2.2.2)) (st1 := []) (n := 9) E hw [.int x1, .int x2] [0, 1, 2, 3, 4, 5, 6, 7, 8] (met_X11_tellsColumns l g h t0 ss states stateMany snapshot hasSnapshot text length at_ isWell rd readMany top bottom digit digitMany other otherMany column columnMany carryMany chainMost x1 x2 v27 hv27) rfl (by decide) rfl rfl [9, 10, 11, 12, 13, 14, 15, 16, 17] rfl (by decide +kernel) rfl rfl rfl rfl qw1410 k_X11_tellsColumns ⟨rfl, rfl, Nat.le_of_ble_eq_true rfl, Nat.le_of_ble_eq_true rfl⟩ ⟨Nat.zero_le _, Nat.zero_le _⟩ hl.1 (Nat.le_of_ble_eq_true rfl) dX11_hasColumns_27 rfl (fun H locs hw => ?_)
      exact b30 _ _ _ t0 v27.1 v27.2.1 v27.2.2.1 v27.2.2.2.1 v27.2.2.2.2.1 v27.2.2.2.2.2.1 v27.2.2.2.2.2.2.1 v27.2.2.2.2.2.2.2 hw (lv_sub hl [0] rfl) hf
  refine lv_aload_n hx hb dX11_hasColumns_0 rfl (lv_at hl 0 rfl) ?_
  refine lv_iload_n hx hb dX11_hasColumns_1 rfl (lv_at hl 1 rfl) ?_
  refine lv_iload_n hx hb dX11_hasColumns_2 rfl (lv_at hl 2 rfl) ?_
  obtain ⟨v3, hv3, hf⟩ := ob_e hf
  refine xcallS (ws' := (wM g h thrown ss states stateMany snapshot hasSnapshot text length at_ isWell rd readMany top bottom digit digitMany other otherMany column columnMany carryMany chainMost)) (st1 := [.int v3, .ref (h 0)]) (n := 9) E hw [.int a1, .int a2] [] (met_X11_areAccounts l g a1 a2 v3 hv3) rfl (by decide) rfl rfl [0, 1, 2, 3, 4, 5, 6, 7, 8] rfl (by decide +kernel) rfl qw1137 k_X11_areAccounts ⟨rfl, rfl, Nat.le_of_ble_eq_true rfl, Nat.le_of_ble_eq_true rfl⟩ ⟨Nat.zero_le _, Nat.zero_le _⟩ hl.1 (Nat.le_of_ble_eq_true rfl) dX11_hasColumns_3 rfl (fun H locs hw => ?_)
  refine lv_if_eq (tgt := 13) hx hb dX11_hasColumns_6 (by decide) (fun c6 => ?_) (fun c6 => ?_)
  · replace hf := ip c6 hf
    refine lv_iconst (v := 1) hx hb dX11_hasColumns_13 (by decide) ?_
    exact b14 _ _ _ thrown digit digitMany other otherMany column columnMany carryMany chainMost a1 a2 1 hw (lv_sub hl [0, 1, 2] rfl) hf
  · replace hf := iq c6 hf
    refine lv_iconst (v := 0) hx hb dX11_hasColumns_9 (by decide) ?_
    refine lv_goto (tgt := 14) hx hb dX11_hasColumns_10 (by decide) ?_
    exact b14 _ _ _ thrown digit digitMany other otherMany column columnMany carryMany chainMost a1 a2 0 hw (lv_sub hl [0, 1, 2] rfl) hf
