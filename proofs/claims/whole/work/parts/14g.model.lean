theorem k_X11_carries : xKV yX11_carries cX11_carries 3 (some .int) 2 := ⟨qw1403, qw1404, qw74, qw1405, by decide +kernel, by decide +kernel, by decide +kernel⟩
set_option maxHeartbeats 4000000 in
set_option maxRecDepth 100000 in
theorem met_X11_carries (l : Launch) (g : xG) (h : Nat → Nat) (thrown : Int32) (ss : (Nat → Int32)) (states : (Nat → Int32)) (stateMany : Int32) (snapshot : (Nat → Int32)) (hasSnapshot : Int32) (text : (Nat → Int32)) (length : Int32) (at_ : Int32) (isWell : Int32) (rd : (Nat → Int32)) (readMany : Int32) (top : Int64) (bottom : Int64) (digit : (Nat → Int32)) (digitMany : Int32) (other : (Nat → Int32)) (otherMany : Int32) (column : (Nat → Int32)) (columnMany : Int32) (carryMany : Int32) (chainMost : Int32) (a1 : Int32) (a2 : Int32) (out : Int32 × Int32 × (Nat → Int32) × Int32 × (Nat → Int32) × Int32 × (Nat → Int32) × Int32 × Int32 × Int32) (hf : f_X11_carries thrown ss digit digitMany other otherMany column columnMany carryMany chainMost a1 a2 = some out) : xM l yX11_carries (xC yX11_carries cX11_carries 3 (some .int)) { frames := 5, cells := 0, slots := 0, locals := 112 } g (wM g h thrown ss states stateMany snapshot hasSnapshot text length at_ isWell rd readMany top bottom digit digitMany other otherMany column columnMany carryMany chainMost) [.ref (h 0), .int a1, .int a2] (some (.int out.1)) (wM g h out.2.1 ss states stateMany snapshot hasSnapshot text length at_ isWell rd readMany top bottom out.2.2.1 out.2.2.2.1 out.2.2.2.2.1 out.2.2.2.2.2.1 out.2.2.2.2.2.2.1 out.2.2.2.2.2.2.2.1 out.2.2.2.2.2.2.2.2.1 out.2.2.2.2.2.2.2.2.2) := by
  refine xof (by decide) (Nat.le_of_ble_eq_true rfl) ⟨rfl, rfl⟩ ?_
  intro p e s m below meth c A ls E hr hlocks hw hl hpost hAe
  have hx := E.1.1
  have hb := E.1.2.1
  have hown := E.1.2.2.2.1
  have hts := E.1.2.2.2.2
  generalize hZ : (MQ below (xPost g (wM g h thrown ss states stateMany snapshot hasSnapshot text length at_ isWell rd readMany top bottom digit digitMany other otherMany column columnMany carryMany chainMost) (wM g h out.2.1 ss states stateMany snapshot hasSnapshot text length at_ isWell rd readMany top bottom out.2.2.1 out.2.2.2.1 out.2.2.2.2.1 out.2.2.2.2.2.1 out.2.2.2.2.2.2.1 out.2.2.2.2.2.2.2.1 out.2.2.2.2.2.2.2.2.1 out.2.2.2.2.2.2.2.2.2) s.heap.size (some (.int out.1))) [.ref (h 0), .int a1, .int a2].toArray s 0 0 A) = ZZ
  have hret : ∀ (pc : Nat) (H : Heap) (locs : List Loc) (ls : Array Slot) (v : Int32) (cthrown : Int32) (cdigit : (Nat → Int32)) (cdigitMany : Int32) (cother : (Nat → Int32)) (cotherMany : Int32) (ccolumn : (Nat → Int32)) (ccolumnMany : Int32) (ccarryMany : Int32) (cchainMost : Int32), (v, cthrown, cdigit, cdigitMany, cother, cotherMany, ccolumn, ccolumnMany, ccarryMany, cchainMost) = out → decode cX11_carries pc = .ok (.ireturn, 1) → xW g A s.heap (wM g h cthrown ss states stateMany snapshot hasSnapshot text length at_ isWell rd readMany top bottom cdigit cdigitMany cother cotherMany ccolumn ccolumnMany ccarryMany cchainMost) H locs → W p l e { frames := 5, cells := 0, slots := 0, locals := 112 } s m [.ref (h 0), .int a1, .int a2].toArray below meth c H locs 0 0 ZZ (F0 m pc ls [.int v]) := by
    intro pc H locs ls v cthrown cdigit cdigitMany cother cotherMany ccolumn ccolumnMany ccarryMany cchainMost he hd hw
    subst he
    rw [← hZ]
    exact W.iret hx hb hr (hpost H locs hw).1 (hpost H locs hw).2 hd hlocks
  clear hpost
  refine lv_aload_n hx hb dX11_carries_0 rfl (lv_at hl 0 rfl) ?_
  refine lv_iload_n hx hb dX11_carries_1 rfl (lv_at hl 1 rfl) ?_
  refine lv_iload_n hx hb dX11_carries_2 rfl (lv_at hl 2 rfl) ?_
  obtain ⟨v3, hv3, hf⟩ := ob_e hf
  refine xcallV (ws' := (wM g h v3.2.1 ss states stateMany snapshot hasSnapshot text length at_ isWell rd readMany top bottom v3.2.2.1 v3.2.2.2.1 v3.2.2.2.2.1 v3.2.2.2.2.2.1 v3.2.2.2.2.2.2.1 v3.2.2.2.2.2.2.2.1 v3.2.2.2.2.2.2.2.2.1 v3.2.2.2.2.2.2.2.2.2)) (st1 := [.int v3.1]) (n := 9) E hw [.int a1, .int a2] [0, 1, 2, 3, 4, 5, 6, 7, 8] (met_X11_hasColumns l g h thrown ss states stateMany snapshot hasSnapshot text length at_ isWell rd readMany top bottom digit digitMany other otherMany column columnMany carryMany chainMost a1 a2 v3 hv3) rfl (by decide) rfl rfl [9, 10, 11, 12, 13, 14, 15, 16, 17] rfl (by decide +kernel) rfl rfl rfl rfl qw1406 k_X11_hasColumns ⟨rfl, rfl, Nat.le_of_ble_eq_true rfl, Nat.le_of_ble_eq_true rfl⟩ ⟨Nat.zero_le _, Nat.zero_le _⟩ hl.1 (Nat.le_of_ble_eq_true rfl) dX11_carries_3 rfl (fun H locs hw => ?_)
  refine lv_if_eq (tgt := 16) hx hb dX11_carries_6 (by decide) (fun c6 => ?_) (fun c6 => ?_)
  · replace hf := ip c6 hf
    refine lv_iconst (v := 0) hx hb dX11_carries_16 (by decide) ?_
    exact hret _ _ _ _ _ _ _ _ _ _ _ _ _ _ (Option.some.inj hf) dX11_carries_17 hw
  · replace hf := iq c6 hf
    refine lv_aload_n hx hb dX11_carries_9 rfl (lv_at hl 0 rfl) ?_
    refine xget (v := .int v3.2.2.2.2.2.2.2.2.1) E hw 0 rfl rfl 20 (by decide) inw11 qw1039 rfl rfl dX11_carries_10 ?_
    refine lv_goto (tgt := 17) hx hb dX11_carries_13 (by decide) ?_
    exact hret _ _ _ _ _ _ _ _ _ _ _ _ _ _ (Option.some.inj hf) dX11_carries_17 hw
theorem k_X11_longestChain : xKV yX11_longestChain cX11_longestChain 3 (some .int) 2 := ⟨qw1415, qw1416, qw74, qw1417, by decide +kernel, by decide +kernel, by decide +kernel⟩
set_option maxHeartbeats 4000000 in
set_option maxRecDepth 100000 in
theorem met_X11_longestChain (l : Launch) (g : xG) (h : Nat → Nat) (thrown : Int32) (ss : (Nat → Int32)) (states : (Nat → Int32)) (stateMany : Int32) (snapshot : (Nat → Int32)) (hasSnapshot : Int32) (text : (Nat → Int32)) (length : Int32) (at_ : Int32) (isWell : Int32) (rd : (Nat → Int32)) (readMany : Int32) (top : Int64) (bottom : Int64) (digit : (Nat → Int32)) (digitMany : Int32) (other : (Nat → Int32)) (otherMany : Int32) (column : (Nat → Int32)) (columnMany : Int32) (carryMany : Int32) (chainMost : Int32) (a1 : Int32) (a2 : Int32) (out : Int32 × Int32 × (Nat → Int32) × Int32 × (Nat → Int32) × Int32 × (Nat → Int32) × Int32 × Int32 × Int32) (hf : f_X11_longestChain thrown ss digit digitMany other otherMany column columnMany carryMany chainMost a1 a2 = some out) : xM l yX11_longestChain (xC yX11_longestChain cX11_longestChain 3 (some .int)) { frames := 5, cells := 0, slots := 0, locals := 112 } g (wM g h thrown ss states stateMany snapshot hasSnapshot text length at_ isWell rd readMany top bottom digit digitMany other otherMany column columnMany carryMany chainMost) [.ref (h 0), .int a1, .int a2] (some (.int out.1)) (wM g h out.2.1 ss states stateMany snapshot hasSnapshot text length at_ isWell rd readMany top bottom out.2.2.1 out.2.2.2.1 out.2.2.2.2.1 out.2.2.2.2.2.1 out.2.2.2.2.2.2.1 out.2.2.2.2.2.2.2.1 out.2.2.2.2.2.2.2.2.1 out.2.2.2.2.2.2.2.2.2) := by
  refine xof (by decide) (Nat.le_of_ble_eq_true rfl) ⟨rfl, rfl⟩ ?_
  intro p e s m below meth c A ls E hr hlocks hw hl hpost hAe
  have hx := E.1.1
  have hb := E.1.2.1
  have hown := E.1.2.2.2.1
  have hts := E.1.2.2.2.2
  generalize hZ : (MQ below (xPost g (wM g h thrown ss states stateMany snapshot hasSnapshot text length at_ isWell rd readMany top bottom digit digitMany other otherMany column columnMany carryMany chainMost) (wM g h out.2.1 ss states stateMany snapshot hasSnapshot text length at_ isWell rd readMany top bottom out.2.2.1 out.2.2.2.1 out.2.2.2.2.1 out.2.2.2.2.2.1 out.2.2.2.2.2.2.1 out.2.2.2.2.2.2.2.1 out.2.2.2.2.2.2.2.2.1 out.2.2.2.2.2.2.2.2.2) s.heap.size (some (.int out.1))) [.ref (h 0), .int a1, .int a2].toArray s 0 0 A) = ZZ
  have hret : ∀ (pc : Nat) (H : Heap) (locs : List Loc) (ls : Array Slot) (v : Int32) (cthrown : Int32) (cdigit : (Nat → Int32)) (cdigitMany : Int32) (cother : (Nat → Int32)) (cotherMany : Int32) (ccolumn : (Nat → Int32)) (ccolumnMany : Int32) (ccarryMany : Int32) (cchainMost : Int32), (v, cthrown, cdigit, cdigitMany, cother, cotherMany, ccolumn, ccolumnMany, ccarryMany, cchainMost) = out → decode cX11_longestChain pc = .ok (.ireturn, 1) → xW g A s.heap (wM g h cthrown ss states stateMany snapshot hasSnapshot text length at_ isWell rd readMany top bottom cdigit cdigitMany cother cotherMany ccolumn ccolumnMany ccarryMany cchainMost) H locs → W p l e { frames := 5, cells := 0, slots := 0, locals := 112 } s m [.ref (h 0), .int a1, .int a2].toArray below meth c H locs 0 0 ZZ (F0 m pc ls [.int v]) := by
    intro pc H locs ls v cthrown cdigit cdigitMany cother cotherMany ccolumn ccolumnMany ccarryMany cchainMost he hd hw
    subst he
    rw [← hZ]
    exact W.iret hx hb hr (hpost H locs hw).1 (hpost H locs hw).2 hd hlocks
  clear hpost
  refine lv_aload_n hx hb dX11_longestChain_0 rfl (lv_at hl 0 rfl) ?_
  refine lv_iload_n hx hb dX11_longestChain_1 rfl (lv_at hl 1 rfl) ?_
  refine lv_iload_n hx hb dX11_longestChain_2 rfl (lv_at hl 2 rfl) ?_
  obtain ⟨v3, hv3, hf⟩ := ob_e hf
  refine xcallV (ws' := (wM g h v3.2.1 ss states stateMany snapshot hasSnapshot text length at_ isWell rd readMany top bottom v3.2.2.1 v3.2.2.2.1 v3.2.2.2.2.1 v3.2.2.2.2.2.1 v3.2.2.2.2.2.2.1 v3.2.2.2.2.2.2.2.1 v3.2.2.2.2.2.2.2.2.1 v3.2.2.2.2.2.2.2.2.2)) (st1 := [.int v3.1]) (n := 9) E hw [.int a1, .int a2] [0, 1, 2, 3, 4, 5, 6, 7, 8] (met_X11_hasColumns l g h thrown ss states stateMany snapshot hasSnapshot text length at_ isWell rd readMany top bottom digit digitMany other otherMany column columnMany carryMany chainMost a1 a2 v3 hv3) rfl (by decide) rfl rfl [9, 10, 11, 12, 13, 14, 15, 16, 17] rfl (by decide +kernel) rfl rfl rfl rfl qw1406 k_X11_hasColumns ⟨rfl, rfl, Nat.le_of_ble_eq_true rfl, Nat.le_of_ble_eq_true rfl⟩ ⟨Nat.zero_le _, Nat.zero_le _⟩ hl.1 (Nat.le_of_ble_eq_true rfl) dX11_longestChain_3 rfl (fun H locs hw => ?_)
  refine lv_if_eq (tgt := 16) hx hb dX11_longestChain_6 (by decide) (fun c6 => ?_) (fun c6 => ?_)
  · replace hf := ip c6 hf
    refine lv_iconst (v := 0) hx hb dX11_longestChain_16 (by decide) ?_
    exact hret _ _ _ _ _ _ _ _ _ _ _ _ _ _ (Option.some.inj hf) dX11_longestChain_17 hw
  · replace hf := iq c6 hf
    refine lv_aload_n hx hb dX11_longestChain_9 rfl (lv_at hl 0 rfl) ?_
    refine xget (v := .int v3.2.2.2.2.2.2.2.2.2) E hw 0 rfl rfl 21 (by decide) inw11 qw1040 rfl rfl dX11_longestChain_10 ?_
    refine lv_goto (tgt := 17) hx hb dX11_longestChain_13 (by decide) ?_
    exact hret _ _ _ _ _ _ _ _ _ _ _ _ _ _ (Option.some.inj hf) dX11_longestChain_17 hw
theorem k_X11_sumDigit : xKV yX11_sumDigit cX11_sumDigit 4 (some .int) 3 := ⟨qw1419, qw1420, qw74, qw1421, by decide +kernel, by decide +kernel, by decide +kernel⟩
set_option maxHeartbeats 4000000 in
set_option maxRecDepth 100000 in
theorem met_X11_sumDigit (l : Launch) (g : xG) (h : Nat → Nat) (thrown : Int32) (ss : (Nat → Int32)) (states : (Nat → Int32)) (stateMany : Int32) (snapshot : (Nat → Int32)) (hasSnapshot : Int32) (text : (Nat → Int32)) (length : Int32) (at_ : Int32) (isWell : Int32) (rd : (Nat → Int32)) (readMany : Int32) (top : Int64) (bottom : Int64) (digit : (Nat → Int32)) (digitMany : Int32) (other : (Nat → Int32)) (otherMany : Int32) (column : (Nat → Int32)) (columnMany : Int32) (carryMany : Int32) (chainMost : Int32) (a1 : Int32) (a2 : Int32) (a3 : Int32) (out : Int32 × Int32 × (Nat → Int32) × Int32 × (Nat → Int32) × Int32 × (Nat → Int32) × Int32 × Int32 × Int32) (hf : f_X11_sumDigit thrown ss digit digitMany other otherMany column columnMany carryMany chainMost a1 a2 a3 = some out) : xM l yX11_sumDigit (xC yX11_sumDigit cX11_sumDigit 4 (some .int)) { frames := 5, cells := 0, slots := 0, locals := 112 } g (wM g h thrown ss states stateMany snapshot hasSnapshot text length at_ isWell rd readMany top bottom digit digitMany other otherMany column columnMany carryMany chainMost) [.ref (h 0), .int a1, .int a2, .int a3] (some (.int out.1)) (wM g h out.2.1 ss states stateMany snapshot hasSnapshot text length at_ isWell rd readMany top bottom out.2.2.1 out.2.2.2.1 out.2.2.2.2.1 out.2.2.2.2.2.1 out.2.2.2.2.2.2.1 out.2.2.2.2.2.2.2.1 out.2.2.2.2.2.2.2.2.1 out.2.2.2.2.2.2.2.2.2) := by
  refine xof (by decide) (Nat.le_of_ble_eq_true rfl) ⟨rfl, rfl⟩ ?_
  intro p e s m below meth c A ls E hr hlocks hw hl hpost hAe
  have hx := E.1.1
  have hb := E.1.2.1
  have hown := E.1.2.2.2.1
  have hts := E.1.2.2.2.2
  generalize hZ : (MQ below (xPost g (wM g h thrown ss states stateMany snapshot hasSnapshot text length at_ isWell rd readMany top bottom digit digitMany other otherMany column columnMany carryMany chainMost) (wM g h out.2.1 ss states stateMany snapshot hasSnapshot text length at_ isWell rd readMany top bottom out.2.2.1 out.2.2.2.1 out.2.2.2.2.1 out.2.2.2.2.2.1 out.2.2.2.2.2.2.1 out.2.2.2.2.2.2.2.1 out.2.2.2.2.2.2.2.2.1 out.2.2.2.2.2.2.2.2.2) s.heap.size (some (.int out.1))) [.ref (h 0), .int a1, .int a2, .int a3].toArray s 0 0 A) = ZZ
  have hret : ∀ (pc : Nat) (H : Heap) (locs : List Loc) (ls : Array Slot) (v : Int32) (cthrown : Int32) (cdigit : (Nat → Int32)) (cdigitMany : Int32) (cother : (Nat → Int32)) (cotherMany : Int32) (ccolumn : (Nat → Int32)) (ccolumnMany : Int32) (ccarryMany : Int32) (cchainMost : Int32), (v, cthrown, cdigit, cdigitMany, cother, cotherMany, ccolumn, ccolumnMany, ccarryMany, cchainMost) = out → decode cX11_sumDigit pc = .ok (.ireturn, 1) → xW g A s.heap (wM g h cthrown ss states stateMany snapshot hasSnapshot text length at_ isWell rd readMany top bottom cdigit cdigitMany cother cotherMany ccolumn ccolumnMany ccarryMany cchainMost) H locs → W p l e { frames := 5, cells := 0, slots := 0, locals := 112 } s m [.ref (h 0), .int a1, .int a2, .int a3].toArray below meth c H locs 0 0 ZZ (F0 m pc ls [.int v]) := by
    intro pc H locs ls v cthrown cdigit cdigitMany cother cotherMany ccolumn ccolumnMany ccarryMany cchainMost he hd hw
    subst he
    rw [← hZ]
    exact W.iret hx hb hr (hpost H locs hw).1 (hpost H locs hw).2 hd hlocks
  clear hpost
  refine lv_aload_n hx hb dX11_sumDigit_0 rfl (lv_at hl 0 rfl) ?_
  refine lv_iload_n hx hb dX11_sumDigit_1 rfl (lv_at hl 1 rfl) ?_
  refine lv_iload_n hx hb dX11_sumDigit_2 rfl (lv_at hl 2 rfl) ?_
  obtain ⟨v3, hv3, hf⟩ := ob_e hf
  refine xcallV (ws' := (wM g h v3.2.1 ss states stateMany snapshot hasSnapshot text length at_ isWell rd readMany top bottom v3.2.2.1 v3.2.2.2.1 v3.2.2.2.2.1 v3.2.2.2.2.2.1 v3.2.2.2.2.2.2.1 v3.2.2.2.2.2.2.2.1 v3.2.2.2.2.2.2.2.2.1 v3.2.2.2.2.2.2.2.2.2)) (st1 := [.int v3.1]) (n := 9) E hw [.int a1, .int a2] [0, 1, 2, 3, 4, 5, 6, 7, 8] (met_X11_hasColumns l g h thrown ss states stateMany snapshot hasSnapshot text length at_ isWell rd readMany top bottom digit digitMany other otherMany column columnMany carryMany chainMost a1 a2 v3 hv3) rfl (by decide) rfl rfl [9, 10, 11, 12, 13, 14, 15, 16, 17] rfl (by decide +kernel) rfl rfl rfl rfl qw1406 k_X11_hasColumns ⟨rfl, rfl, Nat.le_of_ble_eq_true rfl, Nat.le_of_ble_eq_true rfl⟩ ⟨Nat.zero_le _, Nat.zero_le _⟩ hl.1 (Nat.le_of_ble_eq_true rfl) dX11_sumDigit_3 rfl (fun H locs hw => ?_)
  refine lv_if_ne (tgt := 11) hx hb dX11_sumDigit_6 (by decide) (fun c6 => ?_) (fun c6 => ?_)
  · replace hf := iq c6 hf
    refine lv_iload_n hx hb dX11_sumDigit_11 rfl (lv_at hl 3 rfl) ?_
    refine lv_iconst (v := 0) hx hb dX11_sumDigit_12 (by decide) ?_
    refine lv_aload_n hx hb dX11_sumDigit_13 rfl (lv_at hl 0 rfl) ?_
    refine xget (v := .int v3.2.2.2.2.2.2.2.1) E hw 0 rfl rfl 19 (by decide) inw11 qw1038 rfl rfl dX11_sumDigit_14 ?_
    refine lv_iconst (v := 1) hx hb dX11_sumDigit_17 (by decide) ?_
    refine lv_isub hx hb dX11_sumDigit_18 ?_
    obtain ⟨v19, hv19, hf⟩ := ob_e hf
    refine xcallS (ws' := (wM g h v3.2.1 ss states stateMany snapshot hasSnapshot text length at_ isWell rd readMany top bottom v3.2.2.1 v3.2.2.2.1 v3.2.2.2.2.1 v3.2.2.2.2.2.1 v3.2.2.2.2.2.2.1 v3.2.2.2.2.2.2.2.1 v3.2.2.2.2.2.2.2.2.1 v3.2.2.2.2.2.2.2.2.2)) (st1 := [.int v19]) (n := 9) E hw [.int a3, .int 0, .int (v3.2.2.2.2.2.2.2.1 - 1)] [] (met_X11_in l g a3 0 (v3.2.2.2.2.2.2.2.1 - 1) v19 hv19) rfl (by decide) rfl rfl [0, 1, 2, 3, 4, 5, 6, 7, 8] rfl (by decide +kernel) rfl qw1097 k_X11_in ⟨rfl, rfl, Nat.le_of_ble_eq_true rfl, Nat.le_of_ble_eq_true rfl⟩ ⟨Nat.zero_le _, Nat.zero_le _⟩ hl.1 (Nat.le_of_ble_eq_true rfl) dX11_sumDigit_19 rfl (fun H locs hw => ?_)
    refine lv_if_eq (tgt := 34) hx hb dX11_sumDigit_22 (by decide) (fun c22 => ?_) (fun c22 => ?_)
    · replace hf := ip c22 hf
      refine lv_aload_n hx hb dX11_sumDigit_34 rfl (lv_at hl 0 rfl) ?_
      refine lv_iconst (v := 1) hx hb dX11_sumDigit_35 (by decide) ?_
      obtain ⟨v36, hv36, hf⟩ := ob_e hf
      refine xcallV (ws' := (wM g h v36.2 ss states stateMany snapshot hasSnapshot text length at_ isWell rd readMany top bottom v3.2.2.1 v3.2.2.2.1 v3.2.2.2.2.1 v3.2.2.2.2.2.1 v3.2.2.2.2.2.2.1 v3.2.2.2.2.2.2.2.1 v3.2.2.2.2.2.2.2.2.1 v3.2.2.2.2.2.2.2.2.2)) (st1 := [.int v36.1]) (n := 9) E hw [.int 1] [0, 1, 2, 3, 4, 5, 6, 7, 8] (met_X11_fails l g h v3.2.1 ss states stateMany snapshot hasSnapshot text length at_ isWell rd readMany top bottom v3.2.2.1 v3.2.2.2.1 v3.2.2.2.2.1 v3.2.2.2.2.2.1 v3.2.2.2.2.2.2.1 v3.2.2.2.2.2.2.2.1 v3.2.2.2.2.2.2.2.2.1 v3.2.2.2.2.2.2.2.2.2 1 v36 hv36) rfl (by decide) rfl rfl [9, 10, 11, 12, 13, 14, 15, 16, 17] rfl (by decide +kernel) rfl rfl rfl rfl qw1100 k_X11_fails ⟨rfl, rfl, Nat.le_of_ble_eq_true rfl, Nat.le_of_ble_eq_true rfl⟩ ⟨Nat.zero_le _, Nat.zero_le _⟩ hl.1 (Nat.le_of_ble_eq_true rfl) dX11_sumDigit_36 rfl (fun H locs hw => ?_)
      exact hret _ _ _ _ _ _ _ _ _ _ _ _ _ _ (Option.some.inj hf) dX11_sumDigit_39 hw
    · replace hf := iq c22 hf
      refine lv_aload_n hx hb dX11_sumDigit_25 rfl (lv_at hl 0 rfl) ?_
      refine xget (v := .ref (h 8)) E hw 0 rfl rfl 18 (by decide) inw11 qw1037 rfl rfl dX11_sumDigit_26 ?_
      refine lv_iload_n hx hb dX11_sumDigit_29 rfl (lv_at hl 3 rfl) ?_
      obtain ⟨hz, hf⟩ := nz hf
      refine xiald E hw 8 rfl hz dX11_sumDigit_30 ?_
      refine lv_goto (tgt := 39) hx hb dX11_sumDigit_31 (by decide) ?_
      exact hret _ _ _ _ _ _ _ _ _ _ _ _ _ _ (Option.some.inj hf) dX11_sumDigit_39 hw
  · replace hf := ip c6 hf
    refine lv_iconst (v := 0) hx hb dX11_sumDigit_9 (by decide) ?_
    exact hret _ _ _ _ _ _ _ _ _ _ _ _ _ _ (Option.some.inj hf) dX11_sumDigit_10 hw
theorem k_X11_sumByColumns : xKV yX11_sumByColumns cX11_sumByColumns 3 (some .long) 2 := ⟨qw1423, qw1424, qw74, qw1425, by decide +kernel, by decide +kernel, by decide +kernel⟩
set_option maxHeartbeats 4000000 in
set_option maxRecDepth 100000 in
theorem met_X11_sumByColumns (l : Launch) (g : xG) (h : Nat → Nat) (thrown : Int32) (ss : (Nat → Int32)) (states : (Nat → Int32)) (stateMany : Int32) (snapshot : (Nat → Int32)) (hasSnapshot : Int32) (text : (Nat → Int32)) (length : Int32) (at_ : Int32) (isWell : Int32) (rd : (Nat → Int32)) (readMany : Int32) (top : Int64) (bottom : Int64) (digit : (Nat → Int32)) (digitMany : Int32) (other : (Nat → Int32)) (otherMany : Int32) (column : (Nat → Int32)) (columnMany : Int32) (carryMany : Int32) (chainMost : Int32) (a1 : Int32) (a2 : Int32) (out : Int64 × Int32) (hf : f_X11_sumByColumns thrown ss a1 a2 = some out) : xM l yX11_sumByColumns (xC yX11_sumByColumns cX11_sumByColumns 3 (some .long)) { frames := 3, cells := 0, slots := 0, locals := 63 } g (wM g h thrown ss states stateMany snapshot hasSnapshot text length at_ isWell rd readMany top bottom digit digitMany other otherMany column columnMany carryMany chainMost) [.ref (h 0), .int a1, .int a2] (some (.long out.1)) (wM g h out.2 ss states stateMany snapshot hasSnapshot text length at_ isWell rd readMany top bottom digit digitMany other otherMany column columnMany carryMany chainMost) := by
  refine xof (by decide) (Nat.le_of_ble_eq_true rfl) ⟨rfl, rfl⟩ ?_
  intro p e s m below meth c A ls E hr hlocks hw hl hpost hAe
  have hx := E.1.1
  have hb := E.1.2.1
  have hown := E.1.2.2.2.1
  have hts := E.1.2.2.2.2
  generalize hZ : (MQ below (xPost g (wM g h thrown ss states stateMany snapshot hasSnapshot text length at_ isWell rd readMany top bottom digit digitMany other otherMany column columnMany carryMany chainMost) (wM g h out.2 ss states stateMany snapshot hasSnapshot text length at_ isWell rd readMany top bottom digit digitMany other otherMany column columnMany carryMany chainMost) s.heap.size (some (.long out.1))) [.ref (h 0), .int a1, .int a2].toArray s 0 0 A) = ZZ
  have hret : ∀ (pc : Nat) (H : Heap) (locs : List Loc) (ls : Array Slot) (v : Int64) (cthrown : Int32), (v, cthrown) = out → decode cX11_sumByColumns pc = .ok (.lreturn, 1) → xW g A s.heap (wM g h cthrown ss states stateMany snapshot hasSnapshot text length at_ isWell rd readMany top bottom digit digitMany other otherMany column columnMany carryMany chainMost) H locs → W p l e { frames := 3, cells := 0, slots := 0, locals := 63 } s m [.ref (h 0), .int a1, .int a2].toArray below meth c H locs 0 0 ZZ (F0 m pc ls [.long v]) := by
    intro pc H locs ls v cthrown he hd hw
    subst he
    rw [← hZ]
    exact W.lret hx hb hr (hpost H locs hw).1 (hpost H locs hw).2 hd hlocks
  clear hpost
  refine lv_aload_n hx hb dX11_sumByColumns_0 rfl (lv_at hl 0 rfl) ?_
  refine lv_iconst (v := 0) hx hb dX11_sumByColumns_1 (by decide) ?_
  refine xput (ws' := (wM g h 0 ss states stateMany snapshot hasSnapshot text length at_ isWell rd readMany top bottom digit digitMany other otherMany column columnMany carryMany chainMost)) E hw 0 rfl rfl 0 (by decide) inw11 tyX11_ok nmX11 qw1019 rfl rfl rfl rfl (Nat.le_of_ble_eq_true rfl) dX11_sumByColumns_2 rfl (fun H locs hw => ?_)
  refine lv_iload_n hx hb dX11_sumByColumns_5 rfl (lv_at hl 1 rfl) ?_
  refine lv_iload_n hx hb dX11_sumByColumns_6 rfl (lv_at hl 2 rfl) ?_
  obtain ⟨v7, hv7, hf⟩ := ob_e hf
  refine xcallS (ws' := (wM g h 0 ss states stateMany snapshot hasSnapshot text length at_ isWell rd readMany top bottom digit digitMany other otherMany column columnMany carryMany chainMost)) (st1 := [.int v7]) (n := 9) E hw [.int a1, .int a2] [] (met_X11_areAccounts l g a1 a2 v7 hv7) rfl (by decide) rfl rfl [0, 1, 2, 3, 4, 5, 6, 7, 8] rfl (by decide +kernel) rfl qw1137 k_X11_areAccounts ⟨rfl, rfl, Nat.le_of_ble_eq_true rfl, Nat.le_of_ble_eq_true rfl⟩ ⟨Nat.zero_le _, Nat.zero_le _⟩ hl.1 (Nat.le_of_ble_eq_true rfl) dX11_sumByColumns_7 rfl (fun H locs hw => ?_)
  refine lv_if_eq (tgt := 29) hx hb dX11_sumByColumns_10 (by decide) (fun c10 => ?_) (fun c10 => ?_)
  · replace hf := ip c10 hf
    refine lv_aload_n hx hb dX11_sumByColumns_29 rfl (lv_at hl 0 rfl) ?_
    refine lv_iconst (v := 1) hx hb dX11_sumByColumns_30 (by decide) ?_
    obtain ⟨v31, hv31, hf⟩ := ob_e hf
    refine xcallV (ws' := (wM g h v31.2 ss states stateMany snapshot hasSnapshot text length at_ isWell rd readMany top bottom digit digitMany other otherMany column columnMany carryMany chainMost)) (st1 := [.int v31.1]) (n := 9) E hw [.int 1] [0, 1, 2, 3, 4, 5, 6, 7, 8] (met_X11_fails l g h 0 ss states stateMany snapshot hasSnapshot text length at_ isWell rd readMany top bottom digit digitMany other otherMany column columnMany carryMany chainMost 1 v31 hv31) rfl (by decide) rfl rfl [9, 10, 11, 12, 13, 14, 15, 16, 17] rfl (by decide +kernel) rfl rfl rfl rfl qw1100 k_X11_fails ⟨rfl, rfl, Nat.le_of_ble_eq_true rfl, Nat.le_of_ble_eq_true rfl⟩ ⟨Nat.zero_le _, Nat.zero_le _⟩ hl.1 (Nat.le_of_ble_eq_true rfl) dX11_sumByColumns_31 rfl (fun H locs hw => ?_)
    refine lv_i2l hx hb dX11_sumByColumns_34 rfl ?_
    exact hret _ _ _ _ _ _ (Option.some.inj hf) dX11_sumByColumns_35 hw
  · replace hf := iq c10 hf
    refine lv_aload_n hx hb dX11_sumByColumns_13 rfl (lv_at hl 0 rfl) ?_
    refine lv_iload_n hx hb dX11_sumByColumns_14 rfl (lv_at hl 1 rfl) ?_
    obtain ⟨v15, hv15, hf⟩ := ob_e hf
    refine xcallV (ws' := (wM g h 0 ss states stateMany snapshot hasSnapshot text length at_ isWell rd readMany top bottom digit digitMany other otherMany column columnMany carryMany chainMost)) (st1 := [.int v15]) (n := 9) E hw [.int a1] [0, 1, 2, 3, 4, 5, 6, 7, 8] (met_X11_wholeOf l g h 0 ss states stateMany snapshot hasSnapshot text length at_ isWell rd readMany top bottom digit digitMany other otherMany column columnMany carryMany chainMost a1 v15 hv15) rfl (by decide) rfl rfl [9, 10, 11, 12, 13, 14, 15, 16, 17] rfl (by decide +kernel) rfl rfl rfl rfl qw1169 k_X11_wholeOf ⟨rfl, rfl, Nat.le_of_ble_eq_true rfl, Nat.le_of_ble_eq_true rfl⟩ ⟨Nat.zero_le _, Nat.zero_le _⟩ hl.1 (Nat.le_of_ble_eq_true rfl) dX11_sumByColumns_15 rfl (fun H locs hw => ?_)
    refine lv_i2l hx hb dX11_sumByColumns_18 rfl ?_
    refine lv_aload_n hx hb dX11_sumByColumns_19 rfl (lv_at hl 0 rfl) ?_
    refine lv_iload_n hx hb dX11_sumByColumns_20 rfl (lv_at hl 2 rfl) ?_
    obtain ⟨v21, hv21, hf⟩ := ob_e hf
    refine xcallV (ws' := (wM g h 0 ss states stateMany snapshot hasSnapshot text length at_ isWell rd readMany top bottom digit digitMany other otherMany column columnMany carryMany chainMost)) (st1 := [.int v21, .long v15.toInt64]) (n := 9) E hw [.int a2] [0, 1, 2, 3, 4, 5, 6, 7, 8] (met_X11_wholeOf l g h 0 ss states stateMany snapshot hasSnapshot text length at_ isWell rd readMany top bottom digit digitMany other otherMany column columnMany carryMany chainMost a2 v21 hv21) rfl (by decide) rfl rfl [9, 10, 11, 12, 13, 14, 15, 16, 17] rfl (by decide +kernel) rfl rfl rfl rfl qw1169 k_X11_wholeOf ⟨rfl, rfl, Nat.le_of_ble_eq_true rfl, Nat.le_of_ble_eq_true rfl⟩ ⟨Nat.zero_le _, Nat.zero_le _⟩ hl.1 (Nat.le_of_ble_eq_true rfl) dX11_sumByColumns_21 rfl (fun H locs hw => ?_)
    refine lv_i2l hx hb dX11_sumByColumns_24 rfl ?_
    refine lv_ladd hx hb dX11_sumByColumns_25 ?_
    refine lv_goto (tgt := 35) hx hb dX11_sumByColumns_26 (by decide) ?_
    exact hret _ _ _ _ _ _ (Option.some.inj hf) dX11_sumByColumns_35 hw
theorem k_X11_readIn : xKV yX11_readIn cX11_readIn 3 (some .long) 2 := ⟨qw1427, qw1428, qw74, qw1429, by decide +kernel, by decide +kernel, by decide +kernel⟩
set_option maxHeartbeats 4000000 in
set_option maxRecDepth 100000 in
theorem met_X11_readIn (l : Launch) (g : xG) (h : Nat → Nat) (thrown : Int32) (ss : (Nat → Int32)) (states : (Nat → Int32)) (stateMany : Int32) (snapshot : (Nat → Int32)) (hasSnapshot : Int32) (text : (Nat → Int32)) (length : Int32) (at_ : Int32) (isWell : Int32) (rd : (Nat → Int32)) (readMany : Int32) (top : Int64) (bottom : Int64) (digit : (Nat → Int32)) (digitMany : Int32) (other : (Nat → Int32)) (otherMany : Int32) (column : (Nat → Int32)) (columnMany : Int32) (carryMany : Int32) (chainMost : Int32) (a1 : Int32) (a2 : Int32) (out : Int64 × Int32 × (Nat → Int32) × Int32) (hf : f_X11_readIn thrown ss digit digitMany a1 a2 = some out) : xM l yX11_readIn (xC yX11_readIn cX11_readIn 3 (some .long)) { frames := 4, cells := 0, slots := 0, locals := 90 } g (wM g h thrown ss states stateMany snapshot hasSnapshot text length at_ isWell rd readMany top bottom digit digitMany other otherMany column columnMany carryMany chainMost) [.ref (h 0), .int a1, .int a2] (some (.long out.1)) (wM g h out.2.1 ss states stateMany snapshot hasSnapshot text length at_ isWell rd readMany top bottom out.2.2.1 out.2.2.2 other otherMany column columnMany carryMany chainMost) := by
  refine xof (by decide) (Nat.le_of_ble_eq_true rfl) ⟨rfl, rfl⟩ ?_
  intro p e s m below meth c A ls E hr hlocks hw hl hpost hAe
  have hx := E.1.1
  have hb := E.1.2.1
  have hown := E.1.2.2.2.1
  have hts := E.1.2.2.2.2
  generalize hZ : (MQ below (xPost g (wM g h thrown ss states stateMany snapshot hasSnapshot text length at_ isWell rd readMany top bottom digit digitMany other otherMany column columnMany carryMany chainMost) (wM g h out.2.1 ss states stateMany snapshot hasSnapshot text length at_ isWell rd readMany top bottom out.2.2.1 out.2.2.2 other otherMany column columnMany carryMany chainMost) s.heap.size (some (.long out.1))) [.ref (h 0), .int a1, .int a2].toArray s 0 0 A) = ZZ
  have hret : ∀ (pc : Nat) (H : Heap) (locs : List Loc) (ls : Array Slot) (v : Int64) (cthrown : Int32) (cdigit : (Nat → Int32)) (cdigitMany : Int32), (v, cthrown, cdigit, cdigitMany) = out → decode cX11_readIn pc = .ok (.lreturn, 1) → xW g A s.heap (wM g h cthrown ss states stateMany snapshot hasSnapshot text length at_ isWell rd readMany top bottom cdigit cdigitMany other otherMany column columnMany carryMany chainMost) H locs → W p l e { frames := 4, cells := 0, slots := 0, locals := 90 } s m [.ref (h 0), .int a1, .int a2].toArray below meth c H locs 0 0 ZZ (F0 m pc ls [.long v]) := by
    intro pc H locs ls v cthrown cdigit cdigitMany he hd hw
    subst he
    rw [← hZ]
    exact W.lret hx hb hr (hpost H locs hw).1 (hpost H locs hw).2 hd hlocks
  clear hpost
  refine lv_aload_n hx hb dX11_readIn_0 rfl (lv_at hl 0 rfl) ?_
  refine lv_iconst (v := 0) hx hb dX11_readIn_1 (by decide) ?_
  refine xput (ws' := (wM g h 0 ss states stateMany snapshot hasSnapshot text length at_ isWell rd readMany top bottom digit digitMany other otherMany column columnMany carryMany chainMost)) E hw 0 rfl rfl 0 (by decide) inw11 tyX11_ok nmX11 qw1019 rfl rfl rfl rfl (Nat.le_of_ble_eq_true rfl) dX11_readIn_2 rfl (fun H locs hw => ?_)
  refine lv_iload_n hx hb dX11_readIn_5 rfl (lv_at hl 1 rfl) ?_
  obtain ⟨v6, hv6, hf⟩ := ob_e hf
  refine xcallS (ws' := (wM g h 0 ss states stateMany snapshot hasSnapshot text length at_ isWell rd readMany top bottom digit digitMany other otherMany column columnMany carryMany chainMost)) (st1 := [.int v6]) (n := 9) E hw [.int a1] [] (met_X11_isAccount l g a1 v6 hv6) rfl (by decide) rfl rfl [0, 1, 2, 3, 4, 5, 6, 7, 8] rfl (by decide +kernel) rfl qw1112 k_X11_isAccount ⟨rfl, rfl, Nat.le_of_ble_eq_true rfl, Nat.le_of_ble_eq_true rfl⟩ ⟨Nat.zero_le _, Nat.zero_le _⟩ hl.1 (Nat.le_of_ble_eq_true rfl) dX11_readIn_6 rfl (fun H locs hw => ?_)
  refine lv_if_ne (tgt := 19) hx hb dX11_readIn_9 (by decide) (fun c9 => ?_) (fun c9 => ?_)
  · replace hf := iq c9 hf
    refine lv_iload_n hx hb dX11_readIn_19 rfl (lv_at hl 2 rfl) ?_
    obtain ⟨v20, hv20, hf⟩ := ob_e hf
    refine xcallS (ws' := (wM g h 0 ss states stateMany snapshot hasSnapshot text length at_ isWell rd readMany top bottom digit digitMany other otherMany column columnMany carryMany chainMost)) (st1 := [.int v20]) (n := 9) E hw [.int a2] [] (met_X11_isBase l g a2 v20 hv20) rfl (by decide) rfl rfl [0, 1, 2, 3, 4, 5, 6, 7, 8] rfl (by decide +kernel) rfl qw1094 k_X11_isBase ⟨rfl, rfl, Nat.le_of_ble_eq_true rfl, Nat.le_of_ble_eq_true rfl⟩ ⟨Nat.zero_le _, Nat.zero_le _⟩ hl.1 (Nat.le_of_ble_eq_true rfl) dX11_readIn_20 rfl (fun H locs hw => ?_)
    refine lv_if_eq (tgt := 35) hx hb dX11_readIn_23 (by decide) (fun c23 => ?_) (fun c23 => ?_)
    · replace hf := ip c23 hf
      refine lv_aload_n hx hb dX11_readIn_35 rfl (lv_at hl 0 rfl) ?_
      refine lv_iconst (v := 2) hx hb dX11_readIn_36 (by decide) ?_
      obtain ⟨v37, hv37, hf⟩ := ob_e hf
      refine xcallV (ws' := (wM g h v37.2 ss states stateMany snapshot hasSnapshot text length at_ isWell rd readMany top bottom digit digitMany other otherMany column columnMany carryMany chainMost)) (st1 := [.int v37.1]) (n := 9) E hw [.int 2] [0, 1, 2, 3, 4, 5, 6, 7, 8] (met_X11_fails l g h 0 ss states stateMany snapshot hasSnapshot text length at_ isWell rd readMany top bottom digit digitMany other otherMany column columnMany carryMany chainMost 2 v37 hv37) rfl (by decide) rfl rfl [9, 10, 11, 12, 13, 14, 15, 16, 17] rfl (by decide +kernel) rfl rfl rfl rfl qw1100 k_X11_fails ⟨rfl, rfl, Nat.le_of_ble_eq_true rfl, Nat.le_of_ble_eq_true rfl⟩ ⟨Nat.zero_le _, Nat.zero_le _⟩ hl.1 (Nat.le_of_ble_eq_true rfl) dX11_readIn_37 rfl (fun H locs hw => ?_)
      refine lv_i2l hx hb dX11_readIn_40 rfl ?_
      exact hret _ _ _ _ _ _ _ _ (Option.some.inj hf) dX11_readIn_41 hw
    · replace hf := iq c23 hf
      refine lv_aload_n hx hb dX11_readIn_26 rfl (lv_at hl 0 rfl) ?_
      refine lv_iload_n hx hb dX11_readIn_27 rfl (lv_at hl 1 rfl) ?_
      refine lv_iload_n hx hb dX11_readIn_28 rfl (lv_at hl 2 rfl) ?_
      obtain ⟨v29, hv29, hf⟩ := ob_e hf
      refine xcallV (ws' := (wM g h 0 ss states stateMany snapshot hasSnapshot text length at_ isWell rd readMany top bottom v29.2.1 v29.2.2 other otherMany column columnMany carryMany chainMost)) (st1 := [.long v29.1]) (n := 9) E hw [.int a1, .int a2] [0, 1, 2, 3, 4, 5, 6, 7, 8] (met_X11_reads16 l g h 0 ss states stateMany snapshot hasSnapshot text length at_ isWell rd readMany top bottom digit digitMany other otherMany column columnMany carryMany chainMost a1 a2 v29 hv29) rfl (by decide) rfl rfl [9, 10, 11, 12, 13, 14, 15, 16, 17] rfl (by decide +kernel) rfl rfl rfl rfl qw1430 k_X11_reads16 ⟨rfl, rfl, Nat.le_of_ble_eq_true rfl, Nat.le_of_ble_eq_true rfl⟩ ⟨Nat.zero_le _, Nat.zero_le _⟩ hl.1 (Nat.le_of_ble_eq_true rfl) dX11_readIn_29 rfl (fun H locs hw => ?_)
      refine lv_goto (tgt := 41) hx hb dX11_readIn_32 (by decide) ?_
      exact hret _ _ _ _ _ _ _ _ (Option.some.inj hf) dX11_readIn_41 hw
  · replace hf := ip c9 hf
    refine lv_aload_n hx hb dX11_readIn_12 rfl (lv_at hl 0 rfl) ?_
    refine lv_iconst (v := 1) hx hb dX11_readIn_13 (by decide) ?_
    obtain ⟨v14, hv14, hf⟩ := ob_e hf
    refine xcallV (ws' := (wM g h v14.2 ss states stateMany snapshot hasSnapshot text length at_ isWell rd readMany top bottom digit digitMany other otherMany column columnMany carryMany chainMost)) (st1 := [.int v14.1]) (n := 9) E hw [.int 1] [0, 1, 2, 3, 4, 5, 6, 7, 8] (met_X11_fails l g h 0 ss states stateMany snapshot hasSnapshot text length at_ isWell rd readMany top bottom digit digitMany other otherMany column columnMany carryMany chainMost 1 v14 hv14) rfl (by decide) rfl rfl [9, 10, 11, 12, 13, 14, 15, 16, 17] rfl (by decide +kernel) rfl rfl rfl rfl qw1100 k_X11_fails ⟨rfl, rfl, Nat.le_of_ble_eq_true rfl, Nat.le_of_ble_eq_true rfl⟩ ⟨Nat.zero_le _, Nat.zero_le _⟩ hl.1 (Nat.le_of_ble_eq_true rfl) dX11_readIn_14 rfl (fun H locs hw => ?_)
    refine lv_i2l hx hb dX11_readIn_17 rfl ?_
    exact hret _ _ _ _ _ _ _ _ (Option.some.inj hf) dX11_readIn_18 hw
theorem k_X11_whyNoSum : xKV yX11_whyNoSum cX11_whyNoSum 3 (some .int) 2 := ⟨qw1437, qw1438, qw74, qw1439, by decide +kernel, by decide +kernel, by decide +kernel⟩
set_option maxHeartbeats 4000000 in
set_option maxRecDepth 100000 in
theorem met_X11_whyNoSum (l : Launch) (g : xG) (h : Nat → Nat) (thrown : Int32) (ss : (Nat → Int32)) (states : (Nat → Int32)) (stateMany : Int32) (snapshot : (Nat → Int32)) (hasSnapshot : Int32) (text : (Nat → Int32)) (length : Int32) (at_ : Int32) (isWell : Int32) (rd : (Nat → Int32)) (readMany : Int32) (top : Int64) (bottom : Int64) (digit : (Nat → Int32)) (digitMany : Int32) (other : (Nat → Int32)) (otherMany : Int32) (column : (Nat → Int32)) (columnMany : Int32) (carryMany : Int32) (chainMost : Int32) (a1 : Int32) (a2 : Int32) (out : Int32 × Int32 × Int64 × Int64) (hf : f_X11_whyNoSum thrown ss top bottom a1 a2 = some out) : xM l yX11_whyNoSum (xC yX11_whyNoSum cX11_whyNoSum 3 (some .int)) { frames := 3, cells := 0, slots := 0, locals := 78 } g (wM g h thrown ss states stateMany snapshot hasSnapshot text length at_ isWell rd readMany top bottom digit digitMany other otherMany column columnMany carryMany chainMost) [.ref (h 0), .int a1, .int a2] (some (.int out.1)) (wM g h out.2.1 ss states stateMany snapshot hasSnapshot text length at_ isWell rd readMany out.2.2.1 out.2.2.2 digit digitMany other otherMany column columnMany carryMany chainMost) := by
  refine xof (by decide) (Nat.le_of_ble_eq_true rfl) ⟨rfl, rfl⟩ ?_
  intro p e s m below meth c A ls E hr hlocks hw hl hpost hAe
  have hx := E.1.1
  have hb := E.1.2.1
  have hown := E.1.2.2.2.1
  have hts := E.1.2.2.2.2
  generalize hZ : (MQ below (xPost g (wM g h thrown ss states stateMany snapshot hasSnapshot text length at_ isWell rd readMany top bottom digit digitMany other otherMany column columnMany carryMany chainMost) (wM g h out.2.1 ss states stateMany snapshot hasSnapshot text length at_ isWell rd readMany out.2.2.1 out.2.2.2 digit digitMany other otherMany column columnMany carryMany chainMost) s.heap.size (some (.int out.1))) [.ref (h 0), .int a1, .int a2].toArray s 0 0 A) = ZZ
  have hret : ∀ (pc : Nat) (H : Heap) (locs : List Loc) (ls : Array Slot) (v : Int32) (cthrown : Int32) (ctop : Int64) (cbottom : Int64), (v, cthrown, ctop, cbottom) = out → decode cX11_whyNoSum pc = .ok (.ireturn, 1) → xW g A s.heap (wM g h cthrown ss states stateMany snapshot hasSnapshot text length at_ isWell rd readMany ctop cbottom digit digitMany other otherMany column columnMany carryMany chainMost) H locs → W p l e { frames := 3, cells := 0, slots := 0, locals := 78 } s m [.ref (h 0), .int a1, .int a2].toArray below meth c H locs 0 0 ZZ (F0 m pc ls [.int v]) := by
    intro pc H locs ls v cthrown ctop cbottom he hd hw
    subst he
    rw [← hZ]
    exact W.iret hx hb hr (hpost H locs hw).1 (hpost H locs hw).2 hd hlocks
  clear hpost
  refine lv_aload_n hx hb dX11_whyNoSum_0 rfl (lv_at hl 0 rfl) ?_
  refine lv_iconst (v := 0) hx hb dX11_whyNoSum_1 (by decide) ?_
  refine xput (ws' := (wM g h 0 ss states stateMany snapshot hasSnapshot text length at_ isWell rd readMany top bottom digit digitMany other otherMany column columnMany carryMany chainMost)) E hw 0 rfl rfl 0 (by decide) inw11 tyX11_ok nmX11 qw1019 rfl rfl rfl rfl (Nat.le_of_ble_eq_true rfl) dX11_whyNoSum_2 rfl (fun H locs hw => ?_)
  refine lv_iload_n hx hb dX11_whyNoSum_5 rfl (lv_at hl 1 rfl) ?_
  refine lv_iload_n hx hb dX11_whyNoSum_6 rfl (lv_at hl 2 rfl) ?_
  obtain ⟨v7, hv7, hf⟩ := ob_e hf
  refine xcallS (ws' := (wM g h 0 ss states stateMany snapshot hasSnapshot text length at_ isWell rd readMany top bottom digit digitMany other otherMany column columnMany carryMany chainMost)) (st1 := [.int v7]) (n := 9) E hw [.int a1, .int a2] [] (met_X11_areAccounts l g a1 a2 v7 hv7) rfl (by decide) rfl rfl [0, 1, 2, 3, 4, 5, 6, 7, 8] rfl (by decide +kernel) rfl qw1137 k_X11_areAccounts ⟨rfl, rfl, Nat.le_of_ble_eq_true rfl, Nat.le_of_ble_eq_true rfl⟩ ⟨Nat.zero_le _, Nat.zero_le _⟩ hl.1 (Nat.le_of_ble_eq_true rfl) dX11_whyNoSum_7 rfl (fun H locs hw => ?_)
  refine lv_if_eq (tgt := 23) hx hb dX11_whyNoSum_10 (by decide) (fun c10 => ?_) (fun c10 => ?_)
  · replace hf := ip c10 hf
    refine lv_aload_n hx hb dX11_whyNoSum_23 rfl (lv_at hl 0 rfl) ?_
    refine lv_iconst (v := 1) hx hb dX11_whyNoSum_24 (by decide) ?_
    obtain ⟨v25, hv25, hf⟩ := ob_e hf
    refine xcallV (ws' := (wM g h v25.2 ss states stateMany snapshot hasSnapshot text length at_ isWell rd readMany top bottom digit digitMany other otherMany column columnMany carryMany chainMost)) (st1 := [.int v25.1]) (n := 9) E hw [.int 1] [0, 1, 2, 3, 4, 5, 6, 7, 8] (met_X11_fails l g h 0 ss states stateMany snapshot hasSnapshot text length at_ isWell rd readMany top bottom digit digitMany other otherMany column columnMany carryMany chainMost 1 v25 hv25) rfl (by decide) rfl rfl [9, 10, 11, 12, 13, 14, 15, 16, 17] rfl (by decide +kernel) rfl rfl rfl rfl qw1100 k_X11_fails ⟨rfl, rfl, Nat.le_of_ble_eq_true rfl, Nat.le_of_ble_eq_true rfl⟩ ⟨Nat.zero_le _, Nat.zero_le _⟩ hl.1 (Nat.le_of_ble_eq_true rfl) dX11_whyNoSum_25 rfl (fun H locs hw => ?_)
    exact hret _ _ _ _ _ _ _ _ (Option.some.inj hf) dX11_whyNoSum_28 hw
  · replace hf := iq c10 hf
    refine lv_aload_n hx hb dX11_whyNoSum_13 rfl (lv_at hl 0 rfl) ?_
    refine lv_iload_n hx hb dX11_whyNoSum_14 rfl (lv_at hl 1 rfl) ?_
    refine lv_iload_n hx hb dX11_whyNoSum_15 rfl (lv_at hl 2 rfl) ?_
    refine lv_iconst (v := 1) hx hb dX11_whyNoSum_16 (by decide) ?_
    obtain ⟨v17, hv17, hf⟩ := ob_e hf
    refine xcallV (ws' := (wM g h 0 ss states stateMany snapshot hasSnapshot text length at_ isWell rd readMany v17.2.1 v17.2.2 digit digitMany other otherMany column columnMany carryMany chainMost)) (st1 := [.int v17.1]) (n := 9) E hw [.int a1, .int a2, .int 1] [0, 1, 2, 3, 4, 5, 6, 7, 8] (met_X11_makesSum l g h 0 ss states stateMany snapshot hasSnapshot text length at_ isWell rd readMany top bottom digit digitMany other otherMany column columnMany carryMany chainMost a1 a2 1 v17 hv17) rfl (by decide) rfl rfl [9, 10, 11, 12, 13, 14, 15, 16, 17] rfl (by decide +kernel) rfl rfl rfl rfl qw1140 k_X11_makesSum ⟨rfl, rfl, Nat.le_of_ble_eq_true rfl, Nat.le_of_ble_eq_true rfl⟩ ⟨Nat.zero_le _, Nat.zero_le _⟩ hl.1 (Nat.le_of_ble_eq_true rfl) dX11_whyNoSum_17 rfl (fun H locs hw => ?_)
    refine lv_goto (tgt := 28) hx hb dX11_whyNoSum_20 (by decide) ?_
    exact hret _ _ _ _ _ _ _ _ (Option.some.inj hf) dX11_whyNoSum_28 hw
theorem k_X11_periodOfSum : xKV yX11_periodOfSum cX11_periodOfSum 3 (some .int) 2 := ⟨qw1441, qw1442, qw74, qw1443, by decide +kernel, by decide +kernel, by decide +kernel⟩
set_option maxHeartbeats 4000000 in
set_option maxRecDepth 100000 in
theorem met_X11_periodOfSum (l : Launch) (g : xG) (h : Nat → Nat) (thrown : Int32) (ss : (Nat → Int32)) (states : (Nat → Int32)) (stateMany : Int32) (snapshot : (Nat → Int32)) (hasSnapshot : Int32) (text : (Nat → Int32)) (length : Int32) (at_ : Int32) (isWell : Int32) (rd : (Nat → Int32)) (readMany : Int32) (top : Int64) (bottom : Int64) (digit : (Nat → Int32)) (digitMany : Int32) (other : (Nat → Int32)) (otherMany : Int32) (column : (Nat → Int32)) (columnMany : Int32) (carryMany : Int32) (chainMost : Int32) (a1 : Int32) (a2 : Int32) (out : Int32 × Int32 × Int64 × Int64) (hf : f_X11_periodOfSum thrown ss top bottom a1 a2 = some out) : xM l yX11_periodOfSum (xC yX11_periodOfSum cX11_periodOfSum 3 (some .int)) { frames := 4, cells := 0, slots := 0, locals := 100 } g (wM g h thrown ss states stateMany snapshot hasSnapshot text length at_ isWell rd readMany top bottom digit digitMany other otherMany column columnMany carryMany chainMost) [.ref (h 0), .int a1, .int a2] (some (.int out.1)) (wM g h out.2.1 ss states stateMany snapshot hasSnapshot text length at_ isWell rd readMany out.2.2.1 out.2.2.2 digit digitMany other otherMany column columnMany carryMany chainMost) := by
  refine xof (by decide) (Nat.le_of_ble_eq_true rfl) ⟨rfl, rfl⟩ ?_
  intro p e s m below meth c A ls E hr hlocks hw hl hpost hAe
  have hx := E.1.1
  have hb := E.1.2.1
  have hown := E.1.2.2.2.1
  have hts := E.1.2.2.2.2
  generalize hZ : (MQ below (xPost g (wM g h thrown ss states stateMany snapshot hasSnapshot text length at_ isWell rd readMany top bottom digit digitMany other otherMany column columnMany carryMany chainMost) (wM g h out.2.1 ss states stateMany snapshot hasSnapshot text length at_ isWell rd readMany out.2.2.1 out.2.2.2 digit digitMany other otherMany column columnMany carryMany chainMost) s.heap.size (some (.int out.1))) [.ref (h 0), .int a1, .int a2].toArray s 0 0 A) = ZZ
  have hret : ∀ (pc : Nat) (H : Heap) (locs : List Loc) (ls : Array Slot) (v : Int32) (cthrown : Int32) (ctop : Int64) (cbottom : Int64), (v, cthrown, ctop, cbottom) = out → decode cX11_periodOfSum pc = .ok (.ireturn, 1) → xW g A s.heap (wM g h cthrown ss states stateMany snapshot hasSnapshot text length at_ isWell rd readMany ctop cbottom digit digitMany other otherMany column columnMany carryMany chainMost) H locs → W p l e { frames := 4, cells := 0, slots := 0, locals := 100 } s m [.ref (h 0), .int a1, .int a2].toArray below meth c H locs 0 0 ZZ (F0 m pc ls [.int v]) := by
    intro pc H locs ls v cthrown ctop cbottom he hd hw
    subst he
    rw [← hZ]
    exact W.iret hx hb hr (hpost H locs hw).1 (hpost H locs hw).2 hd hlocks
  clear hpost
  refine lv_aload_n hx hb dX11_periodOfSum_0 rfl (lv_at hl 0 rfl) ?_
  refine lv_iconst (v := 0) hx hb dX11_periodOfSum_1 (by decide) ?_
  refine xput (ws' := (wM g h 0 ss states stateMany snapshot hasSnapshot text length at_ isWell rd readMany top bottom digit digitMany other otherMany column columnMany carryMany chainMost)) E hw 0 rfl rfl 0 (by decide) inw11 tyX11_ok nmX11 qw1019 rfl rfl rfl rfl (Nat.le_of_ble_eq_true rfl) dX11_periodOfSum_2 rfl (fun H locs hw => ?_)
  refine lv_iload_n hx hb dX11_periodOfSum_5 rfl (lv_at hl 1 rfl) ?_
  refine lv_iload_n hx hb dX11_periodOfSum_6 rfl (lv_at hl 2 rfl) ?_
  obtain ⟨v7, hv7, hf⟩ := ob_e hf
  refine xcallS (ws' := (wM g h 0 ss states stateMany snapshot hasSnapshot text length at_ isWell rd readMany top bottom digit digitMany other otherMany column columnMany carryMany chainMost)) (st1 := [.int v7]) (n := 9) E hw [.int a1, .int a2] [] (met_X11_areAccounts l g a1 a2 v7 hv7) rfl (by decide) rfl rfl [0, 1, 2, 3, 4, 5, 6, 7, 8] rfl (by decide +kernel) rfl qw1137 k_X11_areAccounts ⟨rfl, rfl, Nat.le_of_ble_eq_true rfl, Nat.le_of_ble_eq_true rfl⟩ ⟨Nat.zero_le _, Nat.zero_le _⟩ hl.1 (Nat.le_of_ble_eq_true rfl) dX11_periodOfSum_7 rfl (fun H locs hw => ?_)
  refine lv_if_eq (tgt := 22) hx hb dX11_periodOfSum_10 (by decide) (fun c10 => ?_) (fun c10 => ?_)
  · replace hf := ip c10 hf
    refine lv_aload_n hx hb dX11_periodOfSum_22 rfl (lv_at hl 0 rfl) ?_
    refine lv_iconst (v := 1) hx hb dX11_periodOfSum_23 (by decide) ?_
    obtain ⟨v24, hv24, hf⟩ := ob_e hf
    refine xcallV (ws' := (wM g h v24.2 ss states stateMany snapshot hasSnapshot text length at_ isWell rd readMany top bottom digit digitMany other otherMany column columnMany carryMany chainMost)) (st1 := [.int v24.1]) (n := 9) E hw [.int 1] [0, 1, 2, 3, 4, 5, 6, 7, 8] (met_X11_fails l g h 0 ss states stateMany snapshot hasSnapshot text length at_ isWell rd readMany top bottom digit digitMany other otherMany column columnMany carryMany chainMost 1 v24 hv24) rfl (by decide) rfl rfl [9, 10, 11, 12, 13, 14, 15, 16, 17] rfl (by decide +kernel) rfl rfl rfl rfl qw1100 k_X11_fails ⟨rfl, rfl, Nat.le_of_ble_eq_true rfl, Nat.le_of_ble_eq_true rfl⟩ ⟨Nat.zero_le _, Nat.zero_le _⟩ hl.1 (Nat.le_of_ble_eq_true rfl) dX11_periodOfSum_24 rfl (fun H locs hw => ?_)
    exact hret _ _ _ _ _ _ _ _ (Option.some.inj hf) dX11_periodOfSum_27 hw
  · replace hf := iq c10 hf
    refine lv_aload_n hx hb dX11_periodOfSum_13 rfl (lv_at hl 0 rfl) ?_
    refine lv_iload_n hx hb dX11_periodOfSum_14 rfl (lv_at hl 1 rfl) ?_
    refine lv_iload_n hx hb dX11_periodOfSum_15 rfl (lv_at hl 2 rfl) ?_
    obtain ⟨v16, hv16, hf⟩ := ob_e hf
    refine xcallV (ws' := (wM g h 0 ss states stateMany snapshot hasSnapshot text length at_ isWell rd readMany v16.2.1 v16.2.2 digit digitMany other otherMany column columnMany carryMany chainMost)) (st1 := [.int v16.1]) (n := 9) E hw [.int a1, .int a2] [0, 1, 2, 3, 4, 5, 6, 7, 8] (met_X11_sumPeriod l g h 0 ss states stateMany snapshot hasSnapshot text length at_ isWell rd readMany top bottom digit digitMany other otherMany column columnMany carryMany chainMost a1 a2 v16 hv16) rfl (by decide) rfl rfl [9, 10, 11, 12, 13, 14, 15, 16, 17] rfl (by decide +kernel) rfl rfl rfl rfl qw1444 k_X11_sumPeriod ⟨rfl, rfl, Nat.le_of_ble_eq_true rfl, Nat.le_of_ble_eq_true rfl⟩ ⟨Nat.zero_le _, Nat.zero_le _⟩ hl.1 (Nat.le_of_ble_eq_true rfl) dX11_periodOfSum_16 rfl (fun H locs hw => ?_)
    refine lv_goto (tgt := 27) hx hb dX11_periodOfSum_19 (by decide) ?_
    exact hret _ _ _ _ _ _ _ _ (Option.some.inj hf) dX11_periodOfSum_27 hw
theorem k_X11_value : xKV yX11_value cX11_value 2 (some .double) 1 := ⟨qw1458, qw62, qw74, qw1459, by decide +kernel, by decide +kernel, by decide +kernel⟩
set_option maxHeartbeats 4000000 in
set_option maxRecDepth 100000 in
theorem met_X11_value (l : Launch) (g : xG) (h : Nat → Nat) (thrown : Int32) (ss : (Nat → Int32)) (states : (Nat → Int32)) (stateMany : Int32) (snapshot : (Nat → Int32)) (hasSnapshot : Int32) (text : (Nat → Int32)) (length : Int32) (at_ : Int32) (isWell : Int32) (rd : (Nat → Int32)) (readMany : Int32) (top : Int64) (bottom : Int64) (digit : (Nat → Int32)) (digitMany : Int32) (other : (Nat → Int32)) (otherMany : Int32) (column : (Nat → Int32)) (columnMany : Int32) (carryMany : Int32) (chainMost : Int32) (a1 : Int32) (out : UInt64) (hf : f_X11_value ss a1 = some out) : xM l yX11_value (xC yX11_value cX11_value 2 (some .double)) { frames := 1, cells := 0, slots := 0, locals := 21 } g (wM g h thrown ss states stateMany snapshot hasSnapshot text length at_ isWell rd readMany top bottom digit digitMany other otherMany column columnMany carryMany chainMost) [.ref (h 0), .int a1] (some (.double out)) (wM g h thrown ss states stateMany snapshot hasSnapshot text length at_ isWell rd readMany top bottom digit digitMany other otherMany column columnMany carryMany chainMost) := by
  refine xof (by decide) (Nat.le_of_ble_eq_true rfl) ⟨rfl, rfl⟩ ?_
  intro p e s m below meth c A ls E hr hlocks hw hl hpost hAe
  have hx := E.1.1
  have hb := E.1.2.1
  have hown := E.1.2.2.2.1
  have hts := E.1.2.2.2.2
  generalize hZ : (MQ below (xPost g (wM g h thrown ss states stateMany snapshot hasSnapshot text length at_ isWell rd readMany top bottom digit digitMany other otherMany column columnMany carryMany chainMost) (wM g h thrown ss states stateMany snapshot hasSnapshot text length at_ isWell rd readMany top bottom digit digitMany other otherMany column columnMany carryMany chainMost) s.heap.size (some (.double out))) [.ref (h 0), .int a1].toArray s 0 0 A) = ZZ
  have hret : ∀ (pc : Nat) (H : Heap) (locs : List Loc) (ls : Array Slot) (v : UInt64), v = out → decode cX11_value pc = .ok (.dreturn, 1) → xW g A s.heap (wM g h thrown ss states stateMany snapshot hasSnapshot text length at_ isWell rd readMany top bottom digit digitMany other otherMany column columnMany carryMany chainMost) H locs → W p l e { frames := 1, cells := 0, slots := 0, locals := 21 } s m [.ref (h 0), .int a1].toArray below meth c H locs 0 0 ZZ (F0 m pc ls [.double v]) := by
    intro pc H locs ls v he hd hw
    subst he
    rw [← hZ]
    exact W.dret hx hb hr (hpost H locs hw).1 (hpost H locs hw).2 hd hlocks
  clear hpost
  refine lv_aload_n hx hb dX11_value_0 rfl (lv_at hl 0 rfl) ?_
  refine lv_iload_n hx hb dX11_value_1 rfl (lv_at hl 1 rfl) ?_
  obtain ⟨v2, hv2, hf⟩ := ob_e hf
  refine xcallV (ws' := (wM g h thrown ss states stateMany snapshot hasSnapshot text length at_ isWell rd readMany top bottom digit digitMany other otherMany column columnMany carryMany chainMost)) (st1 := [.int v2]) (n := 9) E hw [.int a1] [0, 1, 2, 3, 4, 5, 6, 7, 8] (met_X11_up l g h thrown ss states stateMany snapshot hasSnapshot text length at_ isWell rd readMany top bottom digit digitMany other otherMany column columnMany carryMany chainMost a1 v2 hv2) rfl (by decide) rfl rfl [9, 10, 11, 12, 13, 14, 15, 16, 17] rfl (by decide +kernel) rfl rfl rfl rfl qw1144 k_X11_up ⟨rfl, rfl, Nat.le_of_ble_eq_true rfl, Nat.le_of_ble_eq_true rfl⟩ ⟨Nat.zero_le _, Nat.zero_le _⟩ hl.1 (Nat.le_of_ble_eq_true rfl) dX11_value_2 rfl (fun H locs hw => ?_)
  refine lv_i2d hx hb dX11_value_5 ?_
  refine lv_aload_n hx hb dX11_value_6 rfl (lv_at hl 0 rfl) ?_
  refine lv_iload_n hx hb dX11_value_7 rfl (lv_at hl 1 rfl) ?_
  obtain ⟨v8, hv8, hf⟩ := ob_e hf
  refine xcallV (ws' := (wM g h thrown ss states stateMany snapshot hasSnapshot text length at_ isWell rd readMany top bottom digit digitMany other otherMany column columnMany carryMany chainMost)) (st1 := [.int v8, .double (FP.i2d v2)]) (n := 9) E hw [.int a1] [0, 1, 2, 3, 4, 5, 6, 7, 8] (met_X11_down l g h thrown ss states stateMany snapshot hasSnapshot text length at_ isWell rd readMany top bottom digit digitMany other otherMany column columnMany carryMany chainMost a1 v8 hv8) rfl (by decide) rfl rfl [9, 10, 11, 12, 13, 14, 15, 16, 17] rfl (by decide +kernel) rfl rfl rfl rfl qw1129 k_X11_down ⟨rfl, rfl, Nat.le_of_ble_eq_true rfl, Nat.le_of_ble_eq_true rfl⟩ ⟨Nat.zero_le _, Nat.zero_le _⟩ hl.1 (Nat.le_of_ble_eq_true rfl) dX11_value_8 rfl (fun H locs hw => ?_)
  refine lv_i2d hx hb dX11_value_11 ?_
  obtain ⟨hz, hf⟩ := nz hf
  refine lv_ddiv hx hb dX11_value_12 (xn64 hz) ?_
  exact hret _ _ _ _ _ (Option.some.inj hf) dX11_value_13 hw
theorem k_X11_share : xKV yX11_share cX11_share 5 (some .double) 1 := ⟨qw1454, qw61, qw74, qw1455, by decide +kernel, by decide +kernel, by decide +kernel⟩
set_option maxHeartbeats 4000000 in
set_option maxRecDepth 100000 in
theorem met_X11_share (l : Launch) (g : xG) (h : Nat → Nat) (thrown : Int32) (ss : (Nat → Int32)) (states : (Nat → Int32)) (stateMany : Int32) (snapshot : (Nat → Int32)) (hasSnapshot : Int32) (text : (Nat → Int32)) (length : Int32) (at_ : Int32) (isWell : Int32) (rd : (Nat → Int32)) (readMany : Int32) (top : Int64) (bottom : Int64) (digit : (Nat → Int32)) (digitMany : Int32) (other : (Nat → Int32)) (otherMany : Int32) (column : (Nat → Int32)) (columnMany : Int32) (carryMany : Int32) (chainMost : Int32) (a1 : Int32) (out : UInt64) (hf : f_X11_share ss a1 = some out) : xM l yX11_share (xC yX11_share cX11_share 5 (some .double)) { frames := 2, cells := 0, slots := 0, locals := 42 } g (wM g h thrown ss states stateMany snapshot hasSnapshot text length at_ isWell rd readMany top bottom digit digitMany other otherMany column columnMany carryMany chainMost) [.ref (h 0), .int a1] (some (.double out)) (wM g h thrown ss states stateMany snapshot hasSnapshot text length at_ isWell rd readMany top bottom digit digitMany other otherMany column columnMany carryMany chainMost) := by
  refine xof (by decide) (Nat.le_of_ble_eq_true rfl) ⟨rfl, rfl⟩ ?_
  intro p e s m below meth c A ls E hr hlocks hw hl hpost hAe
  have hx := E.1.1
  have hb := E.1.2.1
  have hown := E.1.2.2.2.1
  have hts := E.1.2.2.2.2
  generalize hZ : (MQ below (xPost g (wM g h thrown ss states stateMany snapshot hasSnapshot text length at_ isWell rd readMany top bottom digit digitMany other otherMany column columnMany carryMany chainMost) (wM g h thrown ss states stateMany snapshot hasSnapshot text length at_ isWell rd readMany top bottom digit digitMany other otherMany column columnMany carryMany chainMost) s.heap.size (some (.double out))) [.ref (h 0), .int a1].toArray s 0 0 A) = ZZ
  have hret : ∀ (pc : Nat) (H : Heap) (locs : List Loc) (ls : Array Slot) (v : UInt64), v = out → decode cX11_share pc = .ok (.dreturn, 1) → xW g A s.heap (wM g h thrown ss states stateMany snapshot hasSnapshot text length at_ isWell rd readMany top bottom digit digitMany other otherMany column columnMany carryMany chainMost) H locs → W p l e { frames := 2, cells := 0, slots := 0, locals := 42 } s m [.ref (h 0), .int a1].toArray below meth c H locs 0 0 ZZ (F0 m pc ls [.double v]) := by
    intro pc H locs ls v he hd hw
    subst he
    rw [← hZ]
    exact W.dret hx hb hr (hpost H locs hw).1 (hpost H locs hw).2 hd hlocks
  clear hpost
  have b5 : ∀ n5 : Nat, ∀ (H : Heap) (locs : List Loc) (ls : Array Slot) (x1 : Int32) (x2 : UInt64) (x4 : Int32), xW g A s.heap (wM g h thrown ss states stateMany snapshot hasSnapshot text length at_ isWell rd readMany top bottom digit digitMany other otherMany column columnMany carryMany chainMost) H locs → lv_has ls 5 [(0, .ref (h 0)), (1, .int x1), (2, .double x2), (4, .int x4)] → f_X11_share_b5 n5 ss x1 x2 x4 = some out → W p l e { frames := 2, cells := 0, slots := 0, locals := 42 } s m [.ref (h 0), .int a1].toArray below meth c H locs 0 0 ZZ (F0 m 5 ls []) := by
    intro n5
    induction n5 with
    | zero =>
      intro H locs ls x1 x2 x4 hw hl hf
      exact nn hf
    | succ n5 ih5 =>
      intro H locs ls x1 x2 x4 hw hl hf
      refine lv_iload hx hb dX11_share_5 (lv_at hl 3 rfl) ?_
      refine lv_bipush (v := 6) hx hb dX11_share_7 (by decide) ?_
      refine lv_icmp_ge (tgt := 27) hx hb dX11_share_9 (by decide) (fun c9 => ?_) (fun c9 => ?_)
      · replace hf := ip c9 hf
        refine lv_dload_n hx hb dX11_share_27 rfl (lv_at hl 2 rfl) ?_
        refine lv_dconst0 hx hb dX11_share_28 ?_
        refine lv_dcmp hx hb dX11_share_29 ?_
        refine lv_if_ne (tgt := 37) hx hb dX11_share_30 (by decide) (fun c30 => ?_) (fun c30 => ?_)
        · replace hf := iq c30 hf
          refine lv_aload_n hx hb dX11_share_37 rfl (lv_at hl 0 rfl) ?_
          refine lv_iload_n hx hb dX11_share_38 rfl (lv_at hl 1 rfl) ?_
          obtain ⟨v39, hv39, hf⟩ := ob_e hf
          refine xcallV (ws' := (wM g h thrown ss states stateMany snapshot hasSnapshot text length at_ isWell rd readMany top bottom digit digitMany other otherMany column columnMany carryMany chainMost)) (st1 := [.double v39]) (n := 9) E hw [.int x1] [0, 1, 2, 3, 4, 5, 6, 7, 8] (met_X11_value l g h thrown ss states stateMany snapshot hasSnapshot text length at_ isWell rd readMany top bottom digit digitMany other otherMany column columnMany carryMany chainMost x1 v39 hv39) rfl (by decide) rfl rfl [9, 10, 11, 12, 13, 14, 15, 16, 17] rfl (by decide +kernel) rfl rfl rfl rfl qw1456 k_X11_value ⟨rfl, rfl, Nat.le_of_ble_eq_true rfl, Nat.le_of_ble_eq_true rfl⟩ ⟨Nat.zero_le _, Nat.zero_le _⟩ hl.1 (Nat.le_of_ble_eq_true rfl) dX11_share_39 rfl (fun H locs hw => ?_)
          refine lv_dload_n hx hb dX11_share_42 rfl (lv_at hl 2 rfl) ?_
          obtain ⟨hz, hf⟩ := nz hf
          refine lv_ddiv hx hb dX11_share_43 (xn64 hz) ?_
          exact hret _ _ _ _ _ (Option.some.inj hf) dX11_share_44 hw
        · replace hf := ip c30 hf
          refine lv_dconst0 hx hb dX11_share_33 ?_
          refine lv_goto (tgt := 44) hx hb dX11_share_34 (by decide) ?_
          exact hret _ _ _ _ _ (Option.some.inj hf) dX11_share_44 hw
      · replace hf := iq c9 hf
        refine lv_dload_n hx hb dX11_share_12 rfl (lv_at hl 2 rfl) ?_
        refine lv_aload_n hx hb dX11_share_13 rfl (lv_at hl 0 rfl) ?_
        refine lv_iload hx hb dX11_share_14 (lv_at hl 3 rfl) ?_
        obtain ⟨v16, hv16, hf⟩ := ob_e hf
        refine xcallV (ws' := (wM g h thrown ss states stateMany snapshot hasSnapshot text length at_ isWell rd readMany top bottom digit digitMany other otherMany column columnMany carryMany chainMost)) (st1 := [.double v16, .double x2]) (n := 9) E hw [.int x4] [0, 1, 2, 3, 4, 5, 6, 7, 8] (met_X11_value l g h thrown ss states stateMany snapshot hasSnapshot text length at_ isWell rd readMany top bottom digit digitMany other otherMany column columnMany carryMany chainMost x4 v16 hv16) rfl (by decide) rfl rfl [9, 10, 11, 12, 13, 14, 15, 16, 17] rfl (by decide +kernel) rfl rfl rfl rfl qw1456 k_X11_value ⟨rfl, rfl, Nat.le_of_ble_eq_true rfl, Nat.le_of_ble_eq_true rfl⟩ ⟨Nat.zero_le _, Nat.zero_le _⟩ hl.1 (Nat.le_of_ble_eq_true rfl) dX11_share_16 rfl (fun H locs hw => ?_)
        obtain ⟨hz, hf⟩ := nz hf
        refine lv_dadd hx hb dX11_share_19 (xn64 hz) ?_
        refine lv_dstore_n (lv' := [(2, .double (FP.dadd x2 v16)), (0, .ref (h 0)), (1, .int x1), (4, .int x4)]) hx hb dX11_share_20 rfl hl (by decide) rfl (fun ls hl => ?_)
        refine lv_iinc (v := x4 + 1) (lv' := [(4, .int (x4 + 1)), (2, .double (FP.dadd x2 v16)), (0, .ref (h 0)), (1, .int x1)]) hx hb dX11_share_21 hl (k := 3) rfl rfl (by decide) rfl (fun ls hl => ?_)
        refine lv_goto (tgt := 5) hx hb dX11_share_24 (by decide) ?_
        exact ih5 _ _ _ x1 (FP.dadd x2 v16) (x4 + 1) hw (lv_sub hl [2, 3, 1, 0] rfl) hf
  refine lv_dconst0 hx hb dX11_share_0 ?_
  refine lv_dstore_n (lv' := [(2, .double FP.dconst0), (0, .ref (h 0)), (1, .int a1)]) hx hb dX11_share_1 rfl hl (by decide) rfl (fun ls hl => ?_)
  refine lv_iconst (v := 0) hx hb dX11_share_2 (by decide) ?_
  refine lv_istore (lv' := [(4, .int 0), (2, .double FP.dconst0), (0, .ref (h 0)), (1, .int a1)]) hx hb dX11_share_3 hl (by decide) rfl (fun ls hl => ?_)
  exact b5 xfuel _ _ _ a1 FP.dconst0 0 hw (lv_sub hl [2, 3, 1, 0] rfl) hf
theorem k_X11_shareOf : xKV yX11_shareOf cX11_shareOf 2 (some .double) 1 := ⟨qw1449, qw1450, qw74, qw1451, by decide +kernel, by decide +kernel, by decide +kernel⟩
set_option maxHeartbeats 4000000 in
set_option maxRecDepth 100000 in
theorem met_X11_shareOf (l : Launch) (g : xG) (h : Nat → Nat) (thrown : Int32) (ss : (Nat → Int32)) (states : (Nat → Int32)) (stateMany : Int32) (snapshot : (Nat → Int32)) (hasSnapshot : Int32) (text : (Nat → Int32)) (length : Int32) (at_ : Int32) (isWell : Int32) (rd : (Nat → Int32)) (readMany : Int32) (top : Int64) (bottom : Int64) (digit : (Nat → Int32)) (digitMany : Int32) (other : (Nat → Int32)) (otherMany : Int32) (column : (Nat → Int32)) (columnMany : Int32) (carryMany : Int32) (chainMost : Int32) (a1 : Int32) (out : UInt64 × Int32) (hf : f_X11_shareOf thrown ss a1 = some out) : xM l yX11_shareOf (xC yX11_shareOf cX11_shareOf 2 (some .double)) { frames := 3, cells := 0, slots := 0, locals := 66 } g (wM g h thrown ss states stateMany snapshot hasSnapshot text length at_ isWell rd readMany top bottom digit digitMany other otherMany column columnMany carryMany chainMost) [.ref (h 0), .int a1] (some (.double out.1)) (wM g h out.2 ss states stateMany snapshot hasSnapshot text length at_ isWell rd readMany top bottom digit digitMany other otherMany column columnMany carryMany chainMost) := by
  refine xof (by decide) (Nat.le_of_ble_eq_true rfl) ⟨rfl, rfl⟩ ?_
  intro p e s m below meth c A ls E hr hlocks hw hl hpost hAe
  have hx := E.1.1
  have hb := E.1.2.1
  have hown := E.1.2.2.2.1
  have hts := E.1.2.2.2.2
  generalize hZ : (MQ below (xPost g (wM g h thrown ss states stateMany snapshot hasSnapshot text length at_ isWell rd readMany top bottom digit digitMany other otherMany column columnMany carryMany chainMost) (wM g h out.2 ss states stateMany snapshot hasSnapshot text length at_ isWell rd readMany top bottom digit digitMany other otherMany column columnMany carryMany chainMost) s.heap.size (some (.double out.1))) [.ref (h 0), .int a1].toArray s 0 0 A) = ZZ
  have hret : ∀ (pc : Nat) (H : Heap) (locs : List Loc) (ls : Array Slot) (v : UInt64) (cthrown : Int32), (v, cthrown) = out → decode cX11_shareOf pc = .ok (.dreturn, 1) → xW g A s.heap (wM g h cthrown ss states stateMany snapshot hasSnapshot text length at_ isWell rd readMany top bottom digit digitMany other otherMany column columnMany carryMany chainMost) H locs → W p l e { frames := 3, cells := 0, slots := 0, locals := 66 } s m [.ref (h 0), .int a1].toArray below meth c H locs 0 0 ZZ (F0 m pc ls [.double v]) := by
    intro pc H locs ls v cthrown he hd hw
    subst he
    rw [← hZ]
    exact W.dret hx hb hr (hpost H locs hw).1 (hpost H locs hw).2 hd hlocks
  clear hpost
  refine lv_aload_n hx hb dX11_shareOf_0 rfl (lv_at hl 0 rfl) ?_
  refine lv_iconst (v := 0) hx hb dX11_shareOf_1 (by decide) ?_
  refine xput (ws' := (wM g h 0 ss states stateMany snapshot hasSnapshot text length at_ isWell rd readMany top bottom digit digitMany other otherMany column columnMany carryMany chainMost)) E hw 0 rfl rfl 0 (by decide) inw11 tyX11_ok nmX11 qw1019 rfl rfl rfl rfl (Nat.le_of_ble_eq_true rfl) dX11_shareOf_2 rfl (fun H locs hw => ?_)
  refine lv_iload_n hx hb dX11_shareOf_5 rfl (lv_at hl 1 rfl) ?_
  obtain ⟨v6, hv6, hf⟩ := ob_e hf
  refine xcallS (ws' := (wM g h 0 ss states stateMany snapshot hasSnapshot text length at_ isWell rd readMany top bottom digit digitMany other otherMany column columnMany carryMany chainMost)) (st1 := [.int v6]) (n := 9) E hw [.int a1] [] (met_X11_isAccount l g a1 v6 hv6) rfl (by decide) rfl rfl [0, 1, 2, 3, 4, 5, 6, 7, 8] rfl (by decide +kernel) rfl qw1112 k_X11_isAccount ⟨rfl, rfl, Nat.le_of_ble_eq_true rfl, Nat.le_of_ble_eq_true rfl⟩ ⟨Nat.zero_le _, Nat.zero_le _⟩ hl.1 (Nat.le_of_ble_eq_true rfl) dX11_shareOf_6 rfl (fun H locs hw => ?_)
  refine lv_if_eq (tgt := 20) hx hb dX11_shareOf_9 (by decide) (fun c9 => ?_) (fun c9 => ?_)
  · replace hf := ip c9 hf
    refine lv_aload_n hx hb dX11_shareOf_20 rfl (lv_at hl 0 rfl) ?_
    refine lv_iconst (v := 1) hx hb dX11_shareOf_21 (by decide) ?_
    obtain ⟨v22, hv22, hf⟩ := ob_e hf
    refine xcallV (ws' := (wM g h v22.2 ss states stateMany snapshot hasSnapshot text length at_ isWell rd readMany top bottom digit digitMany other otherMany column columnMany carryMany chainMost)) (st1 := [.int v22.1]) (n := 9) E hw [.int 1] [0, 1, 2, 3, 4, 5, 6, 7, 8] (met_X11_fails l g h 0 ss states stateMany snapshot hasSnapshot text length at_ isWell rd readMany top bottom digit digitMany other otherMany column columnMany carryMany chainMost 1 v22 hv22) rfl (by decide) rfl rfl [9, 10, 11, 12, 13, 14, 15, 16, 17] rfl (by decide +kernel) rfl rfl rfl rfl qw1100 k_X11_fails ⟨rfl, rfl, Nat.le_of_ble_eq_true rfl, Nat.le_of_ble_eq_true rfl⟩ ⟨Nat.zero_le _, Nat.zero_le _⟩ hl.1 (Nat.le_of_ble_eq_true rfl) dX11_shareOf_22 rfl (fun H locs hw => ?_)
    refine lv_i2d hx hb dX11_shareOf_25 ?_
    exact hret _ _ _ _ _ _ (Option.some.inj hf) dX11_shareOf_26 hw
  · replace hf := iq c9 hf
    refine lv_aload_n hx hb dX11_shareOf_12 rfl (lv_at hl 0 rfl) ?_
    refine lv_iload_n hx hb dX11_shareOf_13 rfl (lv_at hl 1 rfl) ?_
    obtain ⟨v14, hv14, hf⟩ := ob_e hf
    refine xcallV (ws' := (wM g h 0 ss states stateMany snapshot hasSnapshot text length at_ isWell rd readMany top bottom digit digitMany other otherMany column columnMany carryMany chainMost)) (st1 := [.double v14]) (n := 9) E hw [.int a1] [0, 1, 2, 3, 4, 5, 6, 7, 8] (met_X11_share l g h 0 ss states stateMany snapshot hasSnapshot text length at_ isWell rd readMany top bottom digit digitMany other otherMany column columnMany carryMany chainMost a1 v14 hv14) rfl (by decide) rfl rfl [9, 10, 11, 12, 13, 14, 15, 16, 17] rfl (by decide +kernel) rfl rfl rfl rfl qw1452 k_X11_share ⟨rfl, rfl, Nat.le_of_ble_eq_true rfl, Nat.le_of_ble_eq_true rfl⟩ ⟨Nat.zero_le _, Nat.zero_le _⟩ hl.1 (Nat.le_of_ble_eq_true rfl) dX11_shareOf_14 rfl (fun H locs hw => ?_)
    refine lv_goto (tgt := 26) hx hb dX11_shareOf_17 (by decide) ?_
    exact hret _ _ _ _ _ _ (Option.some.inj hf) dX11_shareOf_26 hw
theorem k_X11_digestAccount : xKV yX11_digestAccount cX11_digestAccount 9 (some .long) 2 := ⟨qw1468, qw63, qw74, qw1469, by decide +kernel, by decide +kernel, by decide +kernel⟩
set_option maxHeartbeats 4000000 in
set_option maxRecDepth 100000 in
theorem met_X11_digestAccount (l : Launch) (g : xG) (h : Nat → Nat) (thrown : Int32) (ss : (Nat → Int32)) (states : (Nat → Int32)) (stateMany : Int32) (snapshot : (Nat → Int32)) (hasSnapshot : Int32) (text : (Nat → Int32)) (length : Int32) (at_ : Int32) (isWell : Int32) (rd : (Nat → Int32)) (readMany : Int32) (top : Int64) (bottom : Int64) (digit : (Nat → Int32)) (digitMany : Int32) (other : (Nat → Int32)) (otherMany : Int32) (column : (Nat → Int32)) (columnMany : Int32) (carryMany : Int32) (chainMost : Int32) (a1 : Int64) (a2 : Int32) (out : Int64 × (Nat → Int32) × Int32) (hf : f_X11_digestAccount ss digit digitMany a1 a2 = some out) : xM l yX11_digestAccount (xC yX11_digestAccount cX11_digestAccount 9 (some .long)) { frames := 4, cells := 0, slots := 0, locals := 90 } g (wM g h thrown ss states stateMany snapshot hasSnapshot text length at_ isWell rd readMany top bottom digit digitMany other otherMany column columnMany carryMany chainMost) [.ref (h 0), .long a1, .int a2] (some (.long out.1)) (wM g h thrown ss states stateMany snapshot hasSnapshot text length at_ isWell rd readMany top bottom out.2.1 out.2.2 other otherMany column columnMany carryMany chainMost) := by
  refine xof (by decide) (Nat.le_of_ble_eq_true rfl) ⟨rfl, rfl⟩ ?_
  intro p e s m below meth c A ls E hr hlocks hw hl hpost hAe
  have hx := E.1.1
  have hb := E.1.2.1
  have hown := E.1.2.2.2.1
  have hts := E.1.2.2.2.2
  generalize hZ : (MQ below (xPost g (wM g h thrown ss states stateMany snapshot hasSnapshot text length at_ isWell rd readMany top bottom digit digitMany other otherMany column columnMany carryMany chainMost) (wM g h thrown ss states stateMany snapshot hasSnapshot text length at_ isWell rd readMany top bottom out.2.1 out.2.2 other otherMany column columnMany carryMany chainMost) s.heap.size (some (.long out.1))) [.ref (h 0), .long a1, .int a2].toArray s 0 0 A) = ZZ
  have hret : ∀ (pc : Nat) (H : Heap) (locs : List Loc) (ls : Array Slot) (v : Int64) (cdigit : (Nat → Int32)) (cdigitMany : Int32), (v, cdigit, cdigitMany) = out → decode cX11_digestAccount pc = .ok (.lreturn, 1) → xW g A s.heap (wM g h thrown ss states stateMany snapshot hasSnapshot text length at_ isWell rd readMany top bottom cdigit cdigitMany other otherMany column columnMany carryMany chainMost) H locs → W p l e { frames := 4, cells := 0, slots := 0, locals := 90 } s m [.ref (h 0), .long a1, .int a2].toArray below meth c H locs 0 0 ZZ (F0 m pc ls [.long v]) := by
    intro pc H locs ls v cdigit cdigitMany he hd hw
    subst he
    rw [← hZ]
    exact W.lret hx hb hr (hpost H locs hw).1 (hpost H locs hw).2 hd hlocks
  clear hpost
  have b209 : ∀ n209 : Nat, ∀ (H : Heap) (locs : List Loc) (ls : Array Slot) (digit : (Nat → Int32)) (digitMany : Int32) (x3 : Int32) (x4 : Int64) (x8 : Int32), xW g A s.heap (wM g h thrown ss states stateMany snapshot hasSnapshot text length at_ isWell rd readMany top bottom digit digitMany other otherMany column columnMany carryMany chainMost) H locs → lv_has ls 9 [(0, .ref (h 0)), (3, .int x3), (4, .long x4), (8, .int x8)] → f_X11_digestAccount_b209 n209 ss digit digitMany x3 x4 x8 = some out → W p l e { frames := 4, cells := 0, slots := 0, locals := 90 } s m [.ref (h 0), .long a1, .int a2].toArray below meth c H locs 0 0 ZZ (F0 m 209 ls []) := by
    intro n209
    induction n209 with
    | zero =>
      intro H locs ls digit digitMany x3 x4 x8 hw hl hf
      exact nn hf
    | succ n209 ih209 =>
      intro H locs ls digit digitMany x3 x4 x8 hw hl hf
      refine lv_iload hx hb dX11_digestAccount_209 (lv_at hl 3 rfl) ?_
      refine lv_bipush (v := 10) hx hb dX11_digestAccount_211 (by decide) ?_
      refine lv_icmp_ge (tgt := 239) hx hb dX11_digestAccount_213 (by decide) (fun c213 => ?_) (fun c213 => ?_)
      · replace hf := ip c213 hf
        refine lv_ldc2 hx hb hown (hts _ qw1465) dX11_digestAccount_239 ?_
        refine lv_ldc2 hx hb hown (hts _ qw1465) dX11_digestAccount_242 ?_
        refine lv_lload hx hb dX11_digestAccount_245 (lv_at hl 2 rfl) ?_
        refine lv_lmul hx hb dX11_digestAccount_247 ?_
        refine lv_aload_n hx hb dX11_digestAccount_248 rfl (lv_at hl 0 rfl) ?_
        refine lv_iload_n hx hb dX11_digestAccount_249 rfl (lv_at hl 1 rfl) ?_
        obtain ⟨v250, hv250, hf⟩ := ob_e hf
        refine xcallV (ws' := (wM g h thrown ss states stateMany snapshot hasSnapshot text length at_ isWell rd readMany top bottom digit digitMany other otherMany column columnMany carryMany chainMost)) (st1 := [.int v250, .long (31 * x4), .long 31]) (n := 9) E hw [.int x3] [0, 1, 2, 3, 4, 5, 6, 7, 8] (met_X11_bestBase l g h thrown ss states stateMany snapshot hasSnapshot text length at_ isWell rd readMany top bottom digit digitMany other otherMany column columnMany carryMany chainMost x3 v250 hv250) rfl (by decide) rfl rfl [9, 10, 11, 12, 13, 14, 15, 16, 17] rfl (by decide +kernel) rfl rfl rfl rfl qw1379 k_X11_bestBase ⟨rfl, rfl, Nat.le_of_ble_eq_true rfl, Nat.le_of_ble_eq_true rfl⟩ ⟨Nat.zero_le _, Nat.zero_le _⟩ hl.1 (Nat.le_of_ble_eq_true rfl) dX11_digestAccount_250 rfl (fun H locs hw => ?_)
        refine lv_i2l hx hb dX11_digestAccount_253 rfl ?_
        refine lv_ladd hx hb dX11_digestAccount_254 ?_
        refine lv_lmul hx hb dX11_digestAccount_255 ?_
        refine lv_aload_n hx hb dX11_digestAccount_256 rfl (lv_at hl 0 rfl) ?_
        refine lv_iload_n hx hb dX11_digestAccount_257 rfl (lv_at hl 1 rfl) ?_
        refine lv_bipush (v := 16) hx hb dX11_digestAccount_258 (by decide) ?_
        obtain ⟨v260, hv260, hf⟩ := ob_e hf
        refine xcallV (ws' := (wM g h thrown ss states stateMany snapshot hasSnapshot text length at_ isWell rd readMany top bottom v260.2.1 v260.2.2 other otherMany column columnMany carryMany chainMost)) (st1 := [.long v260.1, .long (31 * ((31 * x4) + v250.toInt64))]) (n := 9) E hw [.int x3, .int 16] [0, 1, 2, 3, 4, 5, 6, 7, 8] (met_X11_reads16 l g h thrown ss states stateMany snapshot hasSnapshot text length at_ isWell rd readMany top bottom digit digitMany other otherMany column columnMany carryMany chainMost x3 16 v260 hv260) rfl (by decide) rfl rfl [9, 10, 11, 12, 13, 14, 15, 16, 17] rfl (by decide +kernel) rfl rfl rfl rfl qw1430 k_X11_reads16 ⟨rfl, rfl, Nat.le_of_ble_eq_true rfl, Nat.le_of_ble_eq_true rfl⟩ ⟨Nat.zero_le _, Nat.zero_le _⟩ hl.1 (Nat.le_of_ble_eq_true rfl) dX11_digestAccount_260 rfl (fun H locs hw => ?_)
        refine lv_ladd hx hb dX11_digestAccount_263 ?_
        refine lv_lstore (lv' := [(4, .long ((31 * ((31 * x4) + v250.toInt64)) + v260.1)), (0, .ref (h 0)), (3, .int x3), (8, .int x8)]) hx hb dX11_digestAccount_264 hl (by decide) rfl (fun ls hl => ?_)
        refine lv_ldc2 hx hb hown (hts _ qw1465) dX11_digestAccount_266 ?_
        refine lv_ldc2 hx hb hown (hts _ qw1465) dX11_digestAccount_269 ?_
        refine lv_lload hx hb dX11_digestAccount_272 (lv_at hl 0 rfl) ?_
        refine lv_lmul hx hb dX11_digestAccount_274 ?_
        refine lv_aload_n hx hb dX11_digestAccount_275 rfl (lv_at hl 1 rfl) ?_
        refine lv_iload_n hx hb dX11_digestAccount_276 rfl (lv_at hl 2 rfl) ?_
        obtain ⟨v277, hv277, hf⟩ := ob_e hf
        refine xcallV (ws' := (wM g h thrown ss states stateMany snapshot hasSnapshot text length at_ isWell rd readMany top bottom v277.2.1 v277.2.2 other otherMany column columnMany carryMany chainMost)) (st1 := [.int v277.1, .long (31 * ((31 * ((31 * x4) + v250.toInt64)) + v260.1)), .long 31]) (n := 9) E hw [.int x3] [0, 1, 2, 3, 4, 5, 6, 7, 8] (met_X11_writtenMany l g h thrown ss states stateMany snapshot hasSnapshot text length at_ isWell rd readMany top bottom v260.2.1 v260.2.2 other otherMany column columnMany carryMany chainMost x3 v277 hv277) rfl (by decide) rfl rfl [9, 10, 11, 12, 13, 14, 15, 16, 17] rfl (by decide +kernel) rfl rfl rfl rfl qw1387 k_X11_writtenMany ⟨rfl, rfl, Nat.le_of_ble_eq_true rfl, Nat.le_of_ble_eq_true rfl⟩ ⟨Nat.zero_le _, Nat.zero_le _⟩ hl.1 (Nat.le_of_ble_eq_true rfl) dX11_digestAccount_277 rfl (fun H locs hw => ?_)
        refine lv_i2l hx hb dX11_digestAccount_280 rfl ?_
        refine lv_ladd hx hb dX11_digestAccount_281 ?_
        refine lv_lmul hx hb dX11_digestAccount_282 ?_
        refine lv_aload_n hx hb dX11_digestAccount_283 rfl (lv_at hl 1 rfl) ?_
        refine lv_iload_n hx hb dX11_digestAccount_284 rfl (lv_at hl 2 rfl) ?_
        refine lv_aload_n hx hb dX11_digestAccount_285 rfl (lv_at hl 1 rfl) ?_
        refine lv_iload_n hx hb dX11_digestAccount_286 rfl (lv_at hl 2 rfl) ?_
        obtain ⟨v287, hv287, hf⟩ := ob_e hf
        refine xcallV (ws' := (wM g h thrown ss states stateMany snapshot hasSnapshot text length at_ isWell rd readMany top bottom v287.2.1 v287.2.2 other otherMany column columnMany carryMany chainMost)) (st1 := [.int v287.1, .int x3, .ref (h 0), .long (31 * ((31 * ((31 * ((31 * x4) + v250.toInt64)) + v260.1)) + v277.1.toInt64))]) (n := 9) E hw [.int x3] [0, 1, 2, 3, 4, 5, 6, 7, 8] (met_X11_writtenMany l g h thrown ss states stateMany snapshot hasSnapshot text length at_ isWell rd readMany top bottom v277.2.1 v277.2.2 other otherMany column columnMany carryMany chainMost x3 v287 hv287) rfl (by decide) rfl rfl [9, 10, 11, 12, 13, 14, 15, 16, 17] rfl (by decide +kernel) rfl rfl rfl rfl qw1387 k_X11_writtenMany ⟨rfl, rfl, Nat.le_of_ble_eq_true rfl, Nat.le_of_ble_eq_true rfl⟩ ⟨Nat.zero_le _, Nat.zero_le _⟩ hl.1 (Nat.le_of_ble_eq_true rfl) dX11_digestAccount_287 rfl (fun H locs hw => ?_)
        refine lv_iconst (v := 1) hx hb dX11_digestAccount_290 (by decide) ?_
        refine lv_isub hx hb dX11_digestAccount_291 ?_
        obtain ⟨v292, hv292, hf⟩ := ob_e hf
        refine xcallV (ws' := (wM g h thrown ss states stateMany snapshot hasSnapshot text length at_ isWell rd readMany top bottom v292.2.1 v292.2.2 other otherMany column columnMany carryMany chainMost)) (st1 := [.int v292.1, .long (31 * ((31 * ((31 * ((31 * x4) + v250.toInt64)) + v260.1)) + v277.1.toInt64))]) (n := 9) E hw [.int x3, .int (v287.1 - 1)] [0, 1, 2, 3, 4, 5, 6, 7, 8] (met_X11_writes l g h thrown ss states stateMany snapshot hasSnapshot text length at_ isWell rd readMany top bottom v287.2.1 v287.2.2 other otherMany column columnMany carryMany chainMost x3 (v287.1 - 1) v292 hv292) rfl (by decide) rfl rfl [9, 10, 11, 12, 13, 14, 15, 16, 17] rfl (by decide +kernel) rfl rfl rfl rfl qw1395 k_X11_writes ⟨rfl, rfl, Nat.le_of_ble_eq_true rfl, Nat.le_of_ble_eq_true rfl⟩ ⟨Nat.zero_le _, Nat.zero_le _⟩ hl.1 (Nat.le_of_ble_eq_true rfl) dX11_digestAccount_292 rfl (fun H locs hw => ?_)
        refine lv_i2l hx hb dX11_digestAccount_295 rfl ?_
        refine lv_ladd hx hb dX11_digestAccount_296 ?_
        exact hret _ _ _ _ _ _ _ (Option.some.inj hf) dX11_digestAccount_297 hw
      · replace hf := iq c213 hf
        refine lv_ldc2 hx hb hown (hts _ qw1465) dX11_digestAccount_216 ?_
        refine lv_lload hx hb dX11_digestAccount_219 (lv_at hl 2 rfl) ?_
        refine lv_lmul hx hb dX11_digestAccount_221 ?_
        refine lv_aload_n hx hb dX11_digestAccount_222 rfl (lv_at hl 0 rfl) ?_
        refine lv_iload_n hx hb dX11_digestAccount_223 rfl (lv_at hl 1 rfl) ?_
        refine lv_iload hx hb dX11_digestAccount_224 (lv_at hl 3 rfl) ?_
        obtain ⟨v226, hv226, hf⟩ := ob_e hf
        refine xcallV (ws' := (wM g h thrown ss states stateMany snapshot hasSnapshot text length at_ isWell rd readMany top bottom digit digitMany other otherMany column columnMany carryMany chainMost)) (st1 := [.int v226, .long (31 * x4)]) (n := 9) E hw [.int x3, .int x8] [0, 1, 2, 3, 4, 5, 6, 7, 8] (met_X11_digitAfter l g h thrown ss states stateMany snapshot hasSnapshot text length at_ isWell rd readMany top bottom digit digitMany other otherMany column columnMany carryMany chainMost x3 x8 v226 hv226) rfl (by decide) rfl rfl [9, 10, 11, 12, 13, 14, 15, 16, 17] rfl (by decide +kernel) rfl rfl rfl rfl qw1371 k_X11_digitAfter ⟨rfl, rfl, Nat.le_of_ble_eq_true rfl, Nat.le_of_ble_eq_true rfl⟩ ⟨Nat.zero_le _, Nat.zero_le _⟩ hl.1 (Nat.le_of_ble_eq_true rfl) dX11_digestAccount_226 rfl (fun H locs hw => ?_)
        refine lv_i2l hx hb dX11_digestAccount_229 rfl ?_
        refine lv_ladd hx hb dX11_digestAccount_230 ?_
        refine lv_lstore (lv' := [(4, .long ((31 * x4) + v226.toInt64)), (0, .ref (h 0)), (3, .int x3), (8, .int x8)]) hx hb dX11_digestAccount_231 hl (by decide) rfl (fun ls hl => ?_)
        refine lv_iinc (v := x8 + 1) (lv' := [(8, .int (x8 + 1)), (4, .long ((31 * x4) + v226.toInt64)), (0, .ref (h 0)), (3, .int x3)]) hx hb dX11_digestAccount_233 hl (k := 3) rfl rfl (by decide) rfl (fun ls hl => ?_)
        refine lv_goto (tgt := 209) hx hb dX11_digestAccount_236 (by decide) ?_
        exact ih209 _ _ _ digit digitMany x3 ((31 * x4) + v226.toInt64) (x8 + 1) hw (lv_sub hl [2, 3, 1, 0] rfl) hf
  have b58 : ∀ n58 : Nat, ∀ (H : Heap) (locs : List Loc) (ls : Array Slot) (digit : (Nat → Int32)) (digitMany : Int32) (x3 : Int32) (x4 : Int64) (x6 : Int32), xW g A s.heap (wM g h thrown ss states stateMany snapshot hasSnapshot text length at_ isWell rd readMany top bottom digit digitMany other otherMany column columnMany carryMany chainMost) H locs → lv_has ls 9 [(0, .ref (h 0)), (3, .int x3), (4, .long x4), (6, .int x6)] → f_X11_digestAccount_b58 n58 ss digit digitMany x3 x4 x6 = some out → W p l e { frames := 4, cells := 0, slots := 0, locals := 90 } s m [.ref (h 0), .long a1, .int a2].toArray below meth c H locs 0 0 ZZ (F0 m 58 ls []) := by
    intro n58
    induction n58 with
    | zero =>
      intro H locs ls digit digitMany x3 x4 x6 hw hl hf
      exact nn hf
    | succ n58 ih58 =>
      intro H locs ls digit digitMany x3 x4 x6 hw hl hf
      refine lv_iload hx hb dX11_digestAccount_58 (lv_at hl 3 rfl) ?_
      refine lv_aload_n hx hb dX11_digestAccount_60 rfl (lv_at hl 0 rfl) ?_
      refine xget (v := .int digitMany) E hw 0 rfl rfl 15 (by decide) inw11 qw1034 rfl rfl dX11_digestAccount_61 ?_
      refine lv_icmp_ge (tgt := 103) hx hb dX11_digestAccount_64 (by decide) (fun c64 => ?_) (fun c64 => ?_)
      · replace hf := ip c64 hf
        refine lv_aload_n hx hb dX11_digestAccount_103 rfl (lv_at hl 0 rfl) ?_
        refine lv_iload_n hx hb dX11_digestAccount_104 rfl (lv_at hl 1 rfl) ?_
        obtain ⟨v105, hv105, hf⟩ := ob_e hf
        refine xcallV (ws' := (wM g h thrown ss states stateMany snapshot hasSnapshot text length at_ isWell rd readMany top bottom digit digitMany other otherMany column columnMany carryMany chainMost)) (st1 := [.int v105]) (n := 9) E hw [.int x3] [0, 1, 2, 3, 4, 5, 6, 7, 8] (met_X11_wholeOf l g h thrown ss states stateMany snapshot hasSnapshot text length at_ isWell rd readMany top bottom digit digitMany other otherMany column columnMany carryMany chainMost x3 v105 hv105) rfl (by decide) rfl rfl [9, 10, 11, 12, 13, 14, 15, 16, 17] rfl (by decide +kernel) rfl rfl rfl rfl qw1169 k_X11_wholeOf ⟨rfl, rfl, Nat.le_of_ble_eq_true rfl, Nat.le_of_ble_eq_true rfl⟩ ⟨Nat.zero_le _, Nat.zero_le _⟩ hl.1 (Nat.le_of_ble_eq_true rfl) dX11_digestAccount_105 rfl (fun H locs hw => ?_)
        refine lv_aload_n hx hb dX11_digestAccount_108 rfl (lv_at hl 0 rfl) ?_
        refine xget (v := .ref (h 1)) E hw 0 rfl rfl 1 (by decide) inw11 qw1020 rfl rfl dX11_digestAccount_109 ?_
        refine lv_iconst (v := 0) hx hb dX11_digestAccount_112 (by decide) ?_
        refine xiald E hw 1 rfl (by decide) dX11_digestAccount_113 ?_
        refine lv_iconst (v := 1) hx hb dX11_digestAccount_114 (by decide) ?_
        refine lv_isub hx hb dX11_digestAccount_115 ?_
        obtain ⟨hz, hf⟩ := nz hf
        refine lv_irem hx hb dX11_digestAccount_116 hz ?_
        refine lv_istore (lv' := [(6, .int (v105 - v105 / ((ss (0 : Int32).toNatClampNeg) - 1) * ((ss (0 : Int32).toNatClampNeg) - 1))), (0, .ref (h 0)), (3, .int x3), (4, .long x4)]) hx hb dX11_digestAccount_117 hl (by decide) rfl (fun ls hl => ?_)
        refine lv_aload_n hx hb dX11_digestAccount_119 rfl (lv_at hl 1 rfl) ?_
        refine lv_iload_n hx hb dX11_digestAccount_120 rfl (lv_at hl 2 rfl) ?_
        obtain ⟨v121, hv121, hf⟩ := ob_e hf
        refine xcallV (ws' := (wM g h thrown ss states stateMany snapshot hasSnapshot text length at_ isWell rd readMany top bottom digit digitMany other otherMany column columnMany carryMany chainMost)) (st1 := [.int v121]) (n := 9) E hw [.int x3] [0, 1, 2, 3, 4, 5, 6, 7, 8] (met_X11_down l g h thrown ss states stateMany snapshot hasSnapshot text length at_ isWell rd readMany top bottom digit digitMany other otherMany column columnMany carryMany chainMost x3 v121 hv121) rfl (by decide) rfl rfl [9, 10, 11, 12, 13, 14, 15, 16, 17] rfl (by decide +kernel) rfl rfl rfl rfl qw1129 k_X11_down ⟨rfl, rfl, Nat.le_of_ble_eq_true rfl, Nat.le_of_ble_eq_true rfl⟩ ⟨Nat.zero_le _, Nat.zero_le _⟩ hl.1 (Nat.le_of_ble_eq_true rfl) dX11_digestAccount_121 rfl (fun H locs hw => ?_)
        refine lv_aload_n hx hb dX11_digestAccount_124 rfl (lv_at hl 1 rfl) ?_
        refine xget (v := .ref (h 1)) E hw 0 rfl rfl 1 (by decide) inw11 qw1020 rfl rfl dX11_digestAccount_125 ?_
        refine lv_iconst (v := 0) hx hb dX11_digestAccount_128 (by decide) ?_
        refine xiald E hw 1 rfl (by decide) dX11_digestAccount_129 ?_
        obtain ⟨v130, hv130, hf⟩ := ob_e hf
        refine xcallS (ws' := (wM g h thrown ss states stateMany snapshot hasSnapshot text length at_ isWell rd readMany top bottom digit digitMany other otherMany column columnMany carryMany chainMost)) (st1 := [.int v130]) (n := 9) E hw [.int v121, .int (ss (0 : Int32).toNatClampNeg)] [] (met_X11_periodOf l g v121 (ss (0 : Int32).toNatClampNeg) v130 hv130) rfl (by decide) rfl rfl [0, 1, 2, 3, 4, 5, 6, 7, 8] rfl (by decide +kernel) rfl qw1360 k_X11_periodOf ⟨rfl, rfl, Nat.le_of_ble_eq_true rfl, Nat.le_of_ble_eq_true rfl⟩ ⟨Nat.zero_le _, Nat.zero_le _⟩ hl.1 (Nat.le_of_ble_eq_true rfl) dX11_digestAccount_130 rfl (fun H locs hw => ?_)
        refine lv_istore (lv' := [(7, .int v130), (6, .int (v105 - v105 / ((ss (0 : Int32).toNatClampNeg) - 1) * ((ss (0 : Int32).toNatClampNeg) - 1))), (0, .ref (h 0)), (3, .int x3), (4, .long x4)]) hx hb dX11_digestAccount_133 hl (by decide) rfl (fun ls hl => ?_)
        refine lv_ldc2 hx hb hown (hts _ qw1465) dX11_digestAccount_135 ?_
        refine lv_ldc2 hx hb hown (hts _ qw1465) dX11_digestAccount_138 ?_
        refine lv_ldc2 hx hb hown (hts _ qw1465) dX11_digestAccount_141 ?_
        refine lv_lload hx hb dX11_digestAccount_144 (lv_at hl 4 rfl) ?_
        refine lv_lmul hx hb dX11_digestAccount_146 ?_
        refine lv_aload_n hx hb dX11_digestAccount_147 rfl (lv_at hl 2 rfl) ?_
        refine lv_iload_n hx hb dX11_digestAccount_148 rfl (lv_at hl 3 rfl) ?_
        obtain ⟨v149, hv149, hf⟩ := ob_e hf
        refine xcallV (ws' := (wM g h thrown ss states stateMany snapshot hasSnapshot text length at_ isWell rd readMany top bottom v149.2.1 v149.2.2 other otherMany column columnMany carryMany chainMost)) (st1 := [.int v149.1, .long (31 * x4), .long 31, .long 31]) (n := 9) E hw [.int x3] [0, 1, 2, 3, 4, 5, 6, 7, 8] (met_X11_sumOf l g h thrown ss states stateMany snapshot hasSnapshot text length at_ isWell rd readMany top bottom digit digitMany other otherMany column columnMany carryMany chainMost x3 v149 hv149) rfl (by decide) rfl rfl [9, 10, 11, 12, 13, 14, 15, 16, 17] rfl (by decide +kernel) rfl rfl rfl rfl qw1329 k_X11_sumOf ⟨rfl, rfl, Nat.le_of_ble_eq_true rfl, Nat.le_of_ble_eq_true rfl⟩ ⟨Nat.zero_le _, Nat.zero_le _⟩ hl.1 (Nat.le_of_ble_eq_true rfl) dX11_digestAccount_149 rfl (fun H locs hw => ?_)
        refine lv_i2l hx hb dX11_digestAccount_152 rfl ?_
        refine lv_ladd hx hb dX11_digestAccount_153 ?_
        refine lv_lmul hx hb dX11_digestAccount_154 ?_
        refine lv_iload hx hb dX11_digestAccount_155 (lv_at hl 1 rfl) ?_
        refine lv_i2l hx hb dX11_digestAccount_157 rfl ?_
        refine lv_ladd hx hb dX11_digestAccount_158 ?_
        refine lv_lmul hx hb dX11_digestAccount_159 ?_
        refine lv_iload hx hb dX11_digestAccount_160 (lv_at hl 1 rfl) ?_
        refine lv_i2l hx hb dX11_digestAccount_162 rfl ?_
        refine lv_ladd hx hb dX11_digestAccount_163 ?_
        refine lv_lstore (lv' := [(4, .long ((31 * ((31 * ((31 * x4) + v149.1.toInt64)) + ((v105 - v105 / ((ss (0 : Int32).toNatClampNeg) - 1) * ((ss (0 : Int32).toNatClampNeg) - 1)).toInt64))) + ((v105 - v105 / ((ss (0 : Int32).toNatClampNeg) - 1) * ((ss (0 : Int32).toNatClampNeg) - 1)).toInt64))), (7, .int v130), (6, .int (v105 - v105 / ((ss (0 : Int32).toNatClampNeg) - 1) * ((ss (0 : Int32).toNatClampNeg) - 1))), (0, .ref (h 0)), (3, .int x3)]) hx hb dX11_digestAccount_164 hl (by decide) rfl (fun ls hl => ?_)
        refine lv_ldc2 hx hb hown (hts _ qw1465) dX11_digestAccount_166 ?_
        refine lv_ldc2 hx hb hown (hts _ qw1465) dX11_digestAccount_169 ?_
        refine lv_ldc2 hx hb hown (hts _ qw1465) dX11_digestAccount_172 ?_
        refine lv_lload hx hb dX11_digestAccount_175 (lv_at hl 0 rfl) ?_
        refine lv_lmul hx hb dX11_digestAccount_177 ?_
        refine lv_aload_n hx hb dX11_digestAccount_178 rfl (lv_at hl 3 rfl) ?_
        refine lv_iload_n hx hb dX11_digestAccount_179 rfl (lv_at hl 4 rfl) ?_
        obtain ⟨v180, hv180, hf⟩ := ob_e hf
        refine xcallV (ws' := (wM g h thrown ss states stateMany snapshot hasSnapshot text length at_ isWell rd readMany top bottom v149.2.1 v149.2.2 other otherMany column columnMany carryMany chainMost)) (st1 := [.int v180, .long (31 * ((31 * ((31 * ((31 * x4) + v149.1.toInt64)) + ((v105 - v105 / ((ss (0 : Int32).toNatClampNeg) - 1) * ((ss (0 : Int32).toNatClampNeg) - 1)).toInt64))) + ((v105 - v105 / ((ss (0 : Int32).toNatClampNeg) - 1) * ((ss (0 : Int32).toNatClampNeg) - 1)).toInt64))), .long 31, .long 31]) (n := 9) E hw [.int x3] [0, 1, 2, 3, 4, 5, 6, 7, 8] (met_X11_down l g h thrown ss states stateMany snapshot hasSnapshot text length at_ isWell rd readMany top bottom v149.2.1 v149.2.2 other otherMany column columnMany carryMany chainMost x3 v180 hv180) rfl (by decide) rfl rfl [9, 10, 11, 12, 13, 14, 15, 16, 17] rfl (by decide +kernel) rfl rfl rfl rfl qw1129 k_X11_down ⟨rfl, rfl, Nat.le_of_ble_eq_true rfl, Nat.le_of_ble_eq_true rfl⟩ ⟨Nat.zero_le _, Nat.zero_le _⟩ hl.1 (Nat.le_of_ble_eq_true rfl) dX11_digestAccount_180 rfl (fun H locs hw => ?_)
        refine lv_aload_n hx hb dX11_digestAccount_183 rfl (lv_at hl 3 rfl) ?_
        refine xget (v := .ref (h 1)) E hw 0 rfl rfl 1 (by decide) inw11 qw1020 rfl rfl dX11_digestAccount_184 ?_
        refine lv_iconst (v := 0) hx hb dX11_digestAccount_187 (by decide) ?_
        refine xiald E hw 1 rfl (by decide) dX11_digestAccount_188 ?_
        obtain ⟨v189, hv189, hf⟩ := ob_e hf
        refine xcallS (ws' := (wM g h thrown ss states stateMany snapshot hasSnapshot text length at_ isWell rd readMany top bottom v149.2.1 v149.2.2 other otherMany column columnMany carryMany chainMost)) (st1 := [.int v189, .long (31 * ((31 * ((31 * ((31 * x4) + v149.1.toInt64)) + ((v105 - v105 / ((ss (0 : Int32).toNatClampNeg) - 1) * ((ss (0 : Int32).toNatClampNeg) - 1)).toInt64))) + ((v105 - v105 / ((ss (0 : Int32).toNatClampNeg) - 1) * ((ss (0 : Int32).toNatClampNeg) - 1)).toInt64))), .long 31, .long 31]) (n := 9) E hw [.int v180, .int (ss (0 : Int32).toNatClampNeg)] [] (met_X11_headOf l g v180 (ss (0 : Int32).toNatClampNeg) v189 hv189) rfl (by decide) rfl rfl [0, 1, 2, 3, 4, 5, 6, 7, 8] rfl (by decide +kernel) rfl qw1349 k_X11_headOf ⟨rfl, rfl, Nat.le_of_ble_eq_true rfl, Nat.le_of_ble_eq_true rfl⟩ ⟨Nat.zero_le _, Nat.zero_le _⟩ hl.1 (Nat.le_of_ble_eq_true rfl) dX11_digestAccount_189 rfl (fun H locs hw => ?_)
        refine lv_i2l hx hb dX11_digestAccount_192 rfl ?_
        refine lv_ladd hx hb dX11_digestAccount_193 ?_
        refine lv_lmul hx hb dX11_digestAccount_194 ?_
        refine lv_iload hx hb dX11_digestAccount_195 (lv_at hl 1 rfl) ?_
        refine lv_i2l hx hb dX11_digestAccount_197 rfl ?_
        refine lv_ladd hx hb dX11_digestAccount_198 ?_
        refine lv_lmul hx hb dX11_digestAccount_199 ?_
        refine lv_iload hx hb dX11_digestAccount_200 (lv_at hl 1 rfl) ?_
        refine lv_i2l hx hb dX11_digestAccount_202 rfl ?_
        refine lv_ladd hx hb dX11_digestAccount_203 ?_
        refine lv_lstore (lv' := [(4, .long ((31 * ((31 * ((31 * ((31 * ((31 * ((31 * x4) + v149.1.toInt64)) + ((v105 - v105 / ((ss (0 : Int32).toNatClampNeg) - 1) * ((ss (0 : Int32).toNatClampNeg) - 1)).toInt64))) + ((v105 - v105 / ((ss (0 : Int32).toNatClampNeg) - 1) * ((ss (0 : Int32).toNatClampNeg) - 1)).toInt64))) + v189.toInt64)) + v130.toInt64)) + v130.toInt64)), (7, .int v130), (6, .int (v105 - v105 / ((ss (0 : Int32).toNatClampNeg) - 1) * ((ss (0 : Int32).toNatClampNeg) - 1))), (0, .ref (h 0)), (3, .int x3)]) hx hb dX11_digestAccount_204 hl (by decide) rfl (fun ls hl => ?_)
        refine lv_iconst (v := 0) hx hb dX11_digestAccount_206 (by decide) ?_
        refine lv_istore (lv' := [(8, .int 0), (4, .long ((31 * ((31 * ((31 * ((31 * ((31 * ((31 * x4) + v149.1.toInt64)) + ((v105 - v105 / ((ss (0 : Int32).toNatClampNeg) - 1) * ((ss (0 : Int32).toNatClampNeg) - 1)).toInt64))) + ((v105 - v105 / ((ss (0 : Int32).toNatClampNeg) - 1) * ((ss (0 : Int32).toNatClampNeg) - 1)).toInt64))) + v189.toInt64)) + v130.toInt64)) + v130.toInt64)), (7, .int v130), (6, .int (v105 - v105 / ((ss (0 : Int32).toNatClampNeg) - 1) * ((ss (0 : Int32).toNatClampNeg) - 1))), (0, .ref (h 0)), (3, .int x3)]) hx hb dX11_digestAccount_207 hl (by decide) rfl (fun ls hl => ?_)
        exact b209 xfuel _ _ _ v149.2.1 v149.2.2 x3 ((31 * ((31 * ((31 * ((31 * ((31 * ((31 * x4) + v149.1.toInt64)) + ((v105 - v105 / ((ss (0 : Int32).toNatClampNeg) - 1) * ((ss (0 : Int32).toNatClampNeg) - 1)).toInt64))) + ((v105 - v105 / ((ss (0 : Int32).toNatClampNeg) - 1) * ((ss (0 : Int32).toNatClampNeg) - 1)).toInt64))) + v189.toInt64)) + v130.toInt64)) + v130.toInt64) 0 hw (lv_sub hl [4, 5, 1, 0] rfl) hf
      · replace hf := iq c64 hf
        refine lv_ldc2 hx hb hown (hts _ qw1465) dX11_digestAccount_67 ?_
        refine lv_ldc2 hx hb hown (hts _ qw1465) dX11_digestAccount_70 ?_
        refine lv_lload hx hb dX11_digestAccount_73 (lv_at hl 2 rfl) ?_
        refine lv_lmul hx hb dX11_digestAccount_75 ?_
        refine lv_aload_n hx hb dX11_digestAccount_76 rfl (lv_at hl 0 rfl) ?_
        refine xget (v := .ref (h 6)) E hw 0 rfl rfl 14 (by decide) inw11 qw1033 rfl rfl dX11_digestAccount_77 ?_
        refine lv_iload hx hb dX11_digestAccount_80 (lv_at hl 3 rfl) ?_
        obtain ⟨hz, hf⟩ := nz hf
        refine xiald E hw 6 rfl hz dX11_digestAccount_82 ?_
        refine lv_i2l hx hb dX11_digestAccount_83 rfl ?_
        refine lv_ladd hx hb dX11_digestAccount_84 ?_
        refine lv_lmul hx hb dX11_digestAccount_85 ?_
        refine lv_aload_n hx hb dX11_digestAccount_86 rfl (lv_at hl 0 rfl) ?_
        refine xget (v := .ref (h 6)) E hw 0 rfl rfl 14 (by decide) inw11 qw1033 rfl rfl dX11_digestAccount_87 ?_
        refine lv_iload hx hb dX11_digestAccount_90 (lv_at hl 3 rfl) ?_
        obtain ⟨hz, hf⟩ := nz hf
        refine xiald E hw 6 rfl hz dX11_digestAccount_92 ?_
        refine lv_i2l hx hb dX11_digestAccount_93 rfl ?_
        refine lv_ladd hx hb dX11_digestAccount_94 ?_
        refine lv_lstore (lv' := [(4, .long ((31 * ((31 * x4) + ((digit x6.toNatClampNeg).toInt64))) + ((digit x6.toNatClampNeg).toInt64))), (0, .ref (h 0)), (3, .int x3), (6, .int x6)]) hx hb dX11_digestAccount_95 hl (by decide) rfl (fun ls hl => ?_)
        refine lv_iinc (v := x6 + 1) (lv' := [(6, .int (x6 + 1)), (4, .long ((31 * ((31 * x4) + ((digit x6.toNatClampNeg).toInt64))) + ((digit x6.toNatClampNeg).toInt64))), (0, .ref (h 0)), (3, .int x3)]) hx hb dX11_digestAccount_97 hl (k := 3) rfl rfl (by decide) rfl (fun ls hl => ?_)
        refine lv_goto (tgt := 58) hx hb dX11_digestAccount_100 (by decide) ?_
        exact ih58 _ _ _ digit digitMany x3 ((31 * ((31 * x4) + ((digit x6.toNatClampNeg).toInt64))) + ((digit x6.toNatClampNeg).toInt64)) (x6 + 1) hw (lv_sub hl [2, 3, 1, 0] rfl) hf
  refine lv_aload_n hx hb dX11_digestAccount_0 rfl (lv_at hl 0 rfl) ?_
  refine lv_iload_n hx hb dX11_digestAccount_1 rfl (lv_at hl 2 rfl) ?_
  obtain ⟨v2, hv2, hf⟩ := ob_e hf
  refine xcallV (ws' := (wM g h thrown ss states stateMany snapshot hasSnapshot text length at_ isWell rd readMany top bottom v2.1 v2.2 other otherMany column columnMany carryMany chainMost)) (st1 := []) (n := 9) E hw [.int a2] [0, 1, 2, 3, 4, 5, 6, 7, 8] (met_X11_tellsDigits l g h thrown ss states stateMany snapshot hasSnapshot text length at_ isWell rd readMany top bottom digit digitMany other otherMany column columnMany carryMany chainMost a2 v2 hv2) rfl (by decide) rfl rfl [9, 10, 11, 12, 13, 14, 15, 16, 17] rfl (by decide +kernel) rfl rfl rfl rfl qw1309 k_X11_tellsDigits ⟨rfl, rfl, Nat.le_of_ble_eq_true rfl, Nat.le_of_ble_eq_true rfl⟩ ⟨Nat.zero_le _, Nat.zero_le _⟩ hl.1 (Nat.le_of_ble_eq_true rfl) dX11_digestAccount_2 rfl (fun H locs hw => ?_)
  refine lv_ldc2 hx hb hown (hts _ qw1465) dX11_digestAccount_5 ?_
  refine lv_ldc2 hx hb hown (hts _ qw1465) dX11_digestAccount_8 ?_
  refine lv_ldc2 hx hb hown (hts _ qw1465) dX11_digestAccount_11 ?_
  refine lv_lload_n hx hb dX11_digestAccount_14 rfl (lv_at hl 1 rfl) ?_
  refine lv_lmul hx hb dX11_digestAccount_15 ?_
  refine lv_aload_n hx hb dX11_digestAccount_16 rfl (lv_at hl 0 rfl) ?_
  refine lv_iload_n hx hb dX11_digestAccount_17 rfl (lv_at hl 2 rfl) ?_
  obtain ⟨v18, hv18, hf⟩ := ob_e hf
  refine xcallV (ws' := (wM g h thrown ss states stateMany snapshot hasSnapshot text length at_ isWell rd readMany top bottom v2.1 v2.2 other otherMany column columnMany carryMany chainMost)) (st1 := [.int v18, .long (31 * a1), .long 31, .long 31]) (n := 9) E hw [.int a2] [0, 1, 2, 3, 4, 5, 6, 7, 8] (met_X11_up l g h thrown ss states stateMany snapshot hasSnapshot text length at_ isWell rd readMany top bottom v2.1 v2.2 other otherMany column columnMany carryMany chainMost a2 v18 hv18) rfl (by decide) rfl rfl [9, 10, 11, 12, 13, 14, 15, 16, 17] rfl (by decide +kernel) rfl rfl rfl rfl qw1144 k_X11_up ⟨rfl, rfl, Nat.le_of_ble_eq_true rfl, Nat.le_of_ble_eq_true rfl⟩ ⟨Nat.zero_le _, Nat.zero_le _⟩ hl.1 (Nat.le_of_ble_eq_true rfl) dX11_digestAccount_18 rfl (fun H locs hw => ?_)
  refine lv_i2l hx hb dX11_digestAccount_21 rfl ?_
  refine lv_ladd hx hb dX11_digestAccount_22 ?_
  refine lv_lmul hx hb dX11_digestAccount_23 ?_
  refine lv_aload_n hx hb dX11_digestAccount_24 rfl (lv_at hl 0 rfl) ?_
  refine lv_iload_n hx hb dX11_digestAccount_25 rfl (lv_at hl 2 rfl) ?_
  obtain ⟨v26, hv26, hf⟩ := ob_e hf
  refine xcallV (ws' := (wM g h thrown ss states stateMany snapshot hasSnapshot text length at_ isWell rd readMany top bottom v2.1 v2.2 other otherMany column columnMany carryMany chainMost)) (st1 := [.int v26, .long (31 * ((31 * a1) + v18.toInt64)), .long 31]) (n := 9) E hw [.int a2] [0, 1, 2, 3, 4, 5, 6, 7, 8] (met_X11_down l g h thrown ss states stateMany snapshot hasSnapshot text length at_ isWell rd readMany top bottom v2.1 v2.2 other otherMany column columnMany carryMany chainMost a2 v26 hv26) rfl (by decide) rfl rfl [9, 10, 11, 12, 13, 14, 15, 16, 17] rfl (by decide +kernel) rfl rfl rfl rfl qw1129 k_X11_down ⟨rfl, rfl, Nat.le_of_ble_eq_true rfl, Nat.le_of_ble_eq_true rfl⟩ ⟨Nat.zero_le _, Nat.zero_le _⟩ hl.1 (Nat.le_of_ble_eq_true rfl) dX11_digestAccount_26 rfl (fun H locs hw => ?_)
  refine lv_i2l hx hb dX11_digestAccount_29 rfl ?_
  refine lv_ladd hx hb dX11_digestAccount_30 ?_
  refine lv_lmul hx hb dX11_digestAccount_31 ?_
  refine lv_aload_n hx hb dX11_digestAccount_32 rfl (lv_at hl 0 rfl) ?_
  refine lv_iload_n hx hb dX11_digestAccount_33 rfl (lv_at hl 2 rfl) ?_
  obtain ⟨v34, hv34, hf⟩ := ob_e hf
  refine xcallV (ws' := (wM g h thrown ss states stateMany snapshot hasSnapshot text length at_ isWell rd readMany top bottom v2.1 v2.2 other otherMany column columnMany carryMany chainMost)) (st1 := [.int v34, .long (31 * ((31 * ((31 * a1) + v18.toInt64)) + v26.toInt64))]) (n := 9) E hw [.int a2] [0, 1, 2, 3, 4, 5, 6, 7, 8] (met_X11_wholeOf l g h thrown ss states stateMany snapshot hasSnapshot text length at_ isWell rd readMany top bottom v2.1 v2.2 other otherMany column columnMany carryMany chainMost a2 v34 hv34) rfl (by decide) rfl rfl [9, 10, 11, 12, 13, 14, 15, 16, 17] rfl (by decide +kernel) rfl rfl rfl rfl qw1169 k_X11_wholeOf ⟨rfl, rfl, Nat.le_of_ble_eq_true rfl, Nat.le_of_ble_eq_true rfl⟩ ⟨Nat.zero_le _, Nat.zero_le _⟩ hl.1 (Nat.le_of_ble_eq_true rfl) dX11_digestAccount_34 rfl (fun H locs hw => ?_)
  refine lv_i2l hx hb dX11_digestAccount_37 rfl ?_
  refine lv_ladd hx hb dX11_digestAccount_38 ?_
  refine lv_lstore (lv' := [(4, .long ((31 * ((31 * ((31 * a1) + v18.toInt64)) + v26.toInt64)) + v34.toInt64)), (0, .ref (h 0)), (1, .long a1), (3, .int a2)]) hx hb dX11_digestAccount_39 hl (by decide) rfl (fun ls hl => ?_)
  refine lv_ldc2 hx hb hown (hts _ qw1465) dX11_digestAccount_41 ?_
  refine lv_lload hx hb dX11_digestAccount_44 (lv_at hl 0 rfl) ?_
  refine lv_lmul hx hb dX11_digestAccount_46 ?_
  refine lv_aload_n hx hb dX11_digestAccount_47 rfl (lv_at hl 1 rfl) ?_
  refine xget (v := .int v2.2) E hw 0 rfl rfl 15 (by decide) inw11 qw1034 rfl rfl dX11_digestAccount_48 ?_
  refine lv_i2l hx hb dX11_digestAccount_51 rfl ?_
  refine lv_ladd hx hb dX11_digestAccount_52 ?_
  refine lv_lstore (lv' := [(4, .long ((31 * ((31 * ((31 * ((31 * a1) + v18.toInt64)) + v26.toInt64)) + v34.toInt64)) + v2.2.toInt64)), (0, .ref (h 0)), (1, .long a1), (3, .int a2)]) hx hb dX11_digestAccount_53 hl (by decide) rfl (fun ls hl => ?_)
  refine lv_iconst (v := 0) hx hb dX11_digestAccount_55 (by decide) ?_
  refine lv_istore (lv' := [(6, .int 0), (4, .long ((31 * ((31 * ((31 * ((31 * a1) + v18.toInt64)) + v26.toInt64)) + v34.toInt64)) + v2.2.toInt64)), (0, .ref (h 0)), (1, .long a1), (3, .int a2)]) hx hb dX11_digestAccount_56 hl (by decide) rfl (fun ls hl => ?_)
  exact b58 xfuel _ _ _ v2.1 v2.2 a2 ((31 * ((31 * ((31 * ((31 * a1) + v18.toInt64)) + v26.toInt64)) + v34.toInt64)) + v2.2.toInt64) 0 hw (lv_sub hl [2, 4, 1, 0] rfl) hf
theorem k_X11_digestPair : xKV yX11_digestPair cX11_digestPair 8 (some .long) 3 := ⟨qw1472, qw64, qw74, qw1473, by decide +kernel, by decide +kernel, by decide +kernel⟩
set_option maxHeartbeats 4000000 in
set_option maxRecDepth 100000 in
theorem met_X11_digestPair (l : Launch) (g : xG) (h : Nat → Nat) (thrown : Int32) (ss : (Nat → Int32)) (states : (Nat → Int32)) (stateMany : Int32) (snapshot : (Nat → Int32)) (hasSnapshot : Int32) (text : (Nat → Int32)) (length : Int32) (at_ : Int32) (isWell : Int32) (rd : (Nat → Int32)) (readMany : Int32) (top : Int64) (bottom : Int64) (digit : (Nat → Int32)) (digitMany : Int32) (other : (Nat → Int32)) (otherMany : Int32) (column : (Nat → Int32)) (columnMany : Int32) (carryMany : Int32) (chainMost : Int32) (a1 : Int64) (a2 : Int32) (a3 : Int32) (out : Int64 × Int64 × Int64 × (Nat → Int32) × Int32 × (Nat → Int32) × Int32 × (Nat → Int32) × Int32 × Int32 × Int32) (hf : f_X11_digestPair ss top bottom digit digitMany other otherMany column columnMany carryMany chainMost a1 a2 a3 = some out) : xM l yX11_digestPair (xC yX11_digestPair cX11_digestPair 8 (some .long)) { frames := 4, cells := 0, slots := 0, locals := 100 } g (wM g h thrown ss states stateMany snapshot hasSnapshot text length at_ isWell rd readMany top bottom digit digitMany other otherMany column columnMany carryMany chainMost) [.ref (h 0), .long a1, .int a2, .int a3] (some (.long out.1)) (wM g h thrown ss states stateMany snapshot hasSnapshot text length at_ isWell rd readMany out.2.1 out.2.2.1 out.2.2.2.1 out.2.2.2.2.1 out.2.2.2.2.2.1 out.2.2.2.2.2.2.1 out.2.2.2.2.2.2.2.1 out.2.2.2.2.2.2.2.2.1 out.2.2.2.2.2.2.2.2.2.1 out.2.2.2.2.2.2.2.2.2.2) := by
  refine xof (by decide) (Nat.le_of_ble_eq_true rfl) ⟨rfl, rfl⟩ ?_
  intro p e s m below meth c A ls E hr hlocks hw hl hpost hAe
  have hx := E.1.1
  have hb := E.1.2.1
  have hown := E.1.2.2.2.1
  have hts := E.1.2.2.2.2
  generalize hZ : (MQ below (xPost g (wM g h thrown ss states stateMany snapshot hasSnapshot text length at_ isWell rd readMany top bottom digit digitMany other otherMany column columnMany carryMany chainMost) (wM g h thrown ss states stateMany snapshot hasSnapshot text length at_ isWell rd readMany out.2.1 out.2.2.1 out.2.2.2.1 out.2.2.2.2.1 out.2.2.2.2.2.1 out.2.2.2.2.2.2.1 out.2.2.2.2.2.2.2.1 out.2.2.2.2.2.2.2.2.1 out.2.2.2.2.2.2.2.2.2.1 out.2.2.2.2.2.2.2.2.2.2) s.heap.size (some (.long out.1))) [.ref (h 0), .long a1, .int a2, .int a3].toArray s 0 0 A) = ZZ
  have hret : ∀ (pc : Nat) (H : Heap) (locs : List Loc) (ls : Array Slot) (v : Int64) (ctop : Int64) (cbottom : Int64) (cdigit : (Nat → Int32)) (cdigitMany : Int32) (cother : (Nat → Int32)) (cotherMany : Int32) (ccolumn : (Nat → Int32)) (ccolumnMany : Int32) (ccarryMany : Int32) (cchainMost : Int32), (v, ctop, cbottom, cdigit, cdigitMany, cother, cotherMany, ccolumn, ccolumnMany, ccarryMany, cchainMost) = out → decode cX11_digestPair pc = .ok (.lreturn, 1) → xW g A s.heap (wM g h thrown ss states stateMany snapshot hasSnapshot text length at_ isWell rd readMany ctop cbottom cdigit cdigitMany cother cotherMany ccolumn ccolumnMany ccarryMany cchainMost) H locs → W p l e { frames := 4, cells := 0, slots := 0, locals := 100 } s m [.ref (h 0), .long a1, .int a2, .int a3].toArray below meth c H locs 0 0 ZZ (F0 m pc ls [.long v]) := by
    intro pc H locs ls v ctop cbottom cdigit cdigitMany cother cotherMany ccolumn ccolumnMany ccarryMany cchainMost he hd hw
    subst he
    rw [← hZ]
    exact W.lret hx hb hr (hpost H locs hw).1 (hpost H locs hw).2 hd hlocks
  clear hpost
  have b33 : ∀ n33 : Nat, ∀ (H : Heap) (locs : List Loc) (ls : Array Slot) (top : Int64) (bottom : Int64) (digit : (Nat → Int32)) (digitMany : Int32) (other : (Nat → Int32)) (otherMany : Int32) (column : (Nat → Int32)) (columnMany : Int32) (carryMany : Int32) (chainMost : Int32) (x3 : Int32) (x4 : Int32) (x5 : Int64) (x7 : Int32), xW g A s.heap (wM g h thrown ss states stateMany snapshot hasSnapshot text length at_ isWell rd readMany top bottom digit digitMany other otherMany column columnMany carryMany chainMost) H locs → lv_has ls 8 [(0, .ref (h 0)), (3, .int x3), (4, .int x4), (5, .long x5), (7, .int x7)] → f_X11_digestPair_b33 n33 ss top bottom digit digitMany other otherMany column columnMany carryMany chainMost x3 x4 x5 x7 = some out → W p l e { frames := 4, cells := 0, slots := 0, locals := 100 } s m [.ref (h 0), .long a1, .int a2, .int a3].toArray below meth c H locs 0 0 ZZ (F0 m 33 ls []) := by
    intro n33
    induction n33 with
    | zero =>
      intro H locs ls top bottom digit digitMany other otherMany column columnMany carryMany chainMost x3 x4 x5 x7 hw hl hf
      exact nn hf
    | succ n33 ih33 =>
      intro H locs ls top bottom digit digitMany other otherMany column columnMany carryMany chainMost x3 x4 x5 x7 hw hl hf
      refine lv_iload hx hb dX11_digestPair_33 (lv_at hl 4 rfl) ?_
      refine lv_aload_n hx hb dX11_digestPair_35 rfl (lv_at hl 0 rfl) ?_
      refine xget (v := .int columnMany) E hw 0 rfl rfl 19 (by decide) inw11 qw1038 rfl rfl dX11_digestPair_36 ?_
      refine lv_icmp_ge (tgt := 65) hx hb dX11_digestPair_39 (by decide) (fun c39 => ?_) (fun c39 => ?_)
      · replace hf := ip c39 hf
        refine lv_ldc2 hx hb hown (hts _ qw1465) dX11_digestPair_65 ?_
        refine lv_ldc2 hx hb hown (hts _ qw1465) dX11_digestPair_68 ?_
        refine lv_lload hx hb dX11_digestPair_71 (lv_at hl 3 rfl) ?_
        refine lv_lmul hx hb dX11_digestPair_73 ?_
        refine lv_aload_n hx hb dX11_digestPair_74 rfl (lv_at hl 0 rfl) ?_
        refine lv_iload_n hx hb dX11_digestPair_75 rfl (lv_at hl 1 rfl) ?_
        obtain ⟨v76, hv76, hf⟩ := ob_e hf
        refine xcallV (ws' := (wM g h thrown ss states stateMany snapshot hasSnapshot text length at_ isWell rd readMany top bottom digit digitMany other otherMany column columnMany carryMany chainMost)) (st1 := [.int v76, .long (31 * x5), .long 31]) (n := 9) E hw [.int x3] [0, 1, 2, 3, 4, 5, 6, 7, 8] (met_X11_wholeOf l g h thrown ss states stateMany snapshot hasSnapshot text length at_ isWell rd readMany top bottom digit digitMany other otherMany column columnMany carryMany chainMost x3 v76 hv76) rfl (by decide) rfl rfl [9, 10, 11, 12, 13, 14, 15, 16, 17] rfl (by decide +kernel) rfl rfl rfl rfl qw1169 k_X11_wholeOf ⟨rfl, rfl, Nat.le_of_ble_eq_true rfl, Nat.le_of_ble_eq_true rfl⟩ ⟨Nat.zero_le _, Nat.zero_le _⟩ hl.1 (Nat.le_of_ble_eq_true rfl) dX11_digestPair_76 rfl (fun H locs hw => ?_)
        refine lv_i2l hx hb dX11_digestPair_79 rfl ?_
        refine lv_aload_n hx hb dX11_digestPair_80 rfl (lv_at hl 0 rfl) ?_
        refine lv_iload hx hb dX11_digestPair_81 (lv_at hl 2 rfl) ?_
        obtain ⟨v83, hv83, hf⟩ := ob_e hf
        refine xcallV (ws' := (wM g h thrown ss states stateMany snapshot hasSnapshot text length at_ isWell rd readMany top bottom digit digitMany other otherMany column columnMany carryMany chainMost)) (st1 := [.int v83, .long v76.toInt64, .long (31 * x5), .long 31]) (n := 9) E hw [.int x4] [0, 1, 2, 3, 4, 5, 6, 7, 8] (met_X11_wholeOf l g h thrown ss states stateMany snapshot hasSnapshot text length at_ isWell rd readMany top bottom digit digitMany other otherMany column columnMany carryMany chainMost x4 v83 hv83) rfl (by decide) rfl rfl [9, 10, 11, 12, 13, 14, 15, 16, 17] rfl (by decide +kernel) rfl rfl rfl rfl qw1169 k_X11_wholeOf ⟨rfl, rfl, Nat.le_of_ble_eq_true rfl, Nat.le_of_ble_eq_true rfl⟩ ⟨Nat.zero_le _, Nat.zero_le _⟩ hl.1 (Nat.le_of_ble_eq_true rfl) dX11_digestPair_83 rfl (fun H locs hw => ?_)
        refine lv_i2l hx hb dX11_digestPair_86 rfl ?_
        refine lv_ladd hx hb dX11_digestPair_87 ?_
        refine lv_ladd hx hb dX11_digestPair_88 ?_
        refine lv_lmul hx hb dX11_digestPair_89 ?_
        refine lv_aload_n hx hb dX11_digestPair_90 rfl (lv_at hl 0 rfl) ?_
        refine lv_iload_n hx hb dX11_digestPair_91 rfl (lv_at hl 1 rfl) ?_
        refine lv_iload hx hb dX11_digestPair_92 (lv_at hl 2 rfl) ?_
        refine lv_iconst (v := 1) hx hb dX11_digestPair_94 (by decide) ?_
        obtain ⟨v95, hv95, hf⟩ := ob_e hf
        refine xcallV (ws' := (wM g h thrown ss states stateMany snapshot hasSnapshot text length at_ isWell rd readMany v95.2.1 v95.2.2 digit digitMany other otherMany column columnMany carryMany chainMost)) (st1 := [.int v95.1, .long (31 * ((31 * x5) + (v76.toInt64 + v83.toInt64)))]) (n := 9) E hw [.int x3, .int x4, .int 1] [0, 1, 2, 3, 4, 5, 6, 7, 8] (met_X11_makesSum l g h thrown ss states stateMany snapshot hasSnapshot text length at_ isWell rd readMany top bottom digit digitMany other otherMany column columnMany carryMany chainMost x3 x4 1 v95 hv95) rfl (by decide) rfl rfl [9, 10, 11, 12, 13, 14, 15, 16, 17] rfl (by decide +kernel) rfl rfl rfl rfl qw1140 k_X11_makesSum ⟨rfl, rfl, Nat.le_of_ble_eq_true rfl, Nat.le_of_ble_eq_true rfl⟩ ⟨Nat.zero_le _, Nat.zero_le _⟩ hl.1 (Nat.le_of_ble_eq_true rfl) dX11_digestPair_95 rfl (fun H locs hw => ?_)
        refine lv_i2l hx hb dX11_digestPair_98 rfl ?_
        refine lv_ladd hx hb dX11_digestPair_99 ?_
        refine lv_lstore (lv' := [(5, .long ((31 * ((31 * x5) + (v76.toInt64 + v83.toInt64))) + v95.1.toInt64)), (0, .ref (h 0)), (3, .int x3), (4, .int x4), (7, .int x7)]) hx hb dX11_digestPair_100 hl (by decide) rfl (fun ls hl => ?_)
        refine lv_ldc2 hx hb hown (hts _ qw1465) dX11_digestPair_102 ?_
        refine lv_ldc2 hx hb hown (hts _ qw1465) dX11_digestPair_105 ?_
        refine lv_lload hx hb dX11_digestPair_108 (lv_at hl 0 rfl) ?_
        refine lv_lmul hx hb dX11_digestPair_110 ?_
        refine lv_aload_n hx hb dX11_digestPair_111 rfl (lv_at hl 1 rfl) ?_
        refine lv_iload_n hx hb dX11_digestPair_112 rfl (lv_at hl 2 rfl) ?_
        refine lv_iload hx hb dX11_digestPair_113 (lv_at hl 3 rfl) ?_
        obtain ⟨v115, hv115, hf⟩ := ob_e hf
        refine xcallV (ws' := (wM g h thrown ss states stateMany snapshot hasSnapshot text length at_ isWell rd readMany v115.2.1 v115.2.2 digit digitMany other otherMany column columnMany carryMany chainMost)) (st1 := [.int v115.1, .long (31 * ((31 * ((31 * x5) + (v76.toInt64 + v83.toInt64))) + v95.1.toInt64)), .long 31]) (n := 9) E hw [.int x3, .int x4] [0, 1, 2, 3, 4, 5, 6, 7, 8] (met_X11_sumPeriod l g h thrown ss states stateMany snapshot hasSnapshot text length at_ isWell rd readMany v95.2.1 v95.2.2 digit digitMany other otherMany column columnMany carryMany chainMost x3 x4 v115 hv115) rfl (by decide) rfl rfl [9, 10, 11, 12, 13, 14, 15, 16, 17] rfl (by decide +kernel) rfl rfl rfl rfl qw1444 k_X11_sumPeriod ⟨rfl, rfl, Nat.le_of_ble_eq_true rfl, Nat.le_of_ble_eq_true rfl⟩ ⟨Nat.zero_le _, Nat.zero_le _⟩ hl.1 (Nat.le_of_ble_eq_true rfl) dX11_digestPair_115 rfl (fun H locs hw => ?_)
        refine lv_i2l hx hb dX11_digestPair_118 rfl ?_
        refine lv_ladd hx hb dX11_digestPair_119 ?_
        refine lv_lmul hx hb dX11_digestPair_120 ?_
        refine lv_aload_n hx hb dX11_digestPair_121 rfl (lv_at hl 1 rfl) ?_
        refine lv_iload_n hx hb dX11_digestPair_122 rfl (lv_at hl 2 rfl) ?_
        refine lv_iload hx hb dX11_digestPair_123 (lv_at hl 3 rfl) ?_
        obtain ⟨v125, hv125, hf⟩ := ob_e hf
        refine xcallV (ws' := (wM g h thrown ss states stateMany snapshot hasSnapshot text length at_ isWell rd readMany v115.2.1 v115.2.2 digit digitMany other otherMany column columnMany carryMany chainMost)) (st1 := [.int v125, .long (31 * ((31 * ((31 * ((31 * x5) + (v76.toInt64 + v83.toInt64))) + v95.1.toInt64)) + v115.1.toInt64))]) (n := 9) E hw [.int x3, .int x4] [0, 1, 2, 3, 4, 5, 6, 7, 8] (met_X11_holds l g h thrown ss states stateMany snapshot hasSnapshot text length at_ isWell rd readMany v115.2.1 v115.2.2 digit digitMany other otherMany column columnMany carryMany chainMost x3 x4 v125 hv125) rfl (by decide) rfl rfl [9, 10, 11, 12, 13, 14, 15, 16, 17] rfl (by decide +kernel) rfl rfl rfl rfl qw1289 k_X11_holds ⟨rfl, rfl, Nat.le_of_ble_eq_true rfl, Nat.le_of_ble_eq_true rfl⟩ ⟨Nat.zero_le _, Nat.zero_le _⟩ hl.1 (Nat.le_of_ble_eq_true rfl) dX11_digestPair_125 rfl (fun H locs hw => ?_)
        refine lv_i2l hx hb dX11_digestPair_128 rfl ?_
        refine lv_ladd hx hb dX11_digestPair_129 ?_
        exact hret _ _ _ _ _ _ _ _ _ _ _ _ _ _ _ (Option.some.inj hf) dX11_digestPair_130 hw
      · replace hf := iq c39 hf
        refine lv_ldc2 hx hb hown (hts _ qw1465) dX11_digestPair_42 ?_
        refine lv_lload hx hb dX11_digestPair_45 (lv_at hl 3 rfl) ?_
        refine lv_lmul hx hb dX11_digestPair_47 ?_
        refine lv_aload_n hx hb dX11_digestPair_48 rfl (lv_at hl 0 rfl) ?_
        refine xget (v := .ref (h 8)) E hw 0 rfl rfl 18 (by decide) inw11 qw1037 rfl rfl dX11_digestPair_49 ?_
        refine lv_iload hx hb dX11_digestPair_52 (lv_at hl 4 rfl) ?_
        obtain ⟨hz, hf⟩ := nz hf
        refine xiald E hw 8 rfl hz dX11_digestPair_54 ?_
        refine lv_i2l hx hb dX11_digestPair_55 rfl ?_
        refine lv_ladd hx hb dX11_digestPair_56 ?_
        refine lv_lstore (lv' := [(5, .long ((31 * x5) + ((column x7.toNatClampNeg).toInt64))), (0, .ref (h 0)), (3, .int x3), (4, .int x4), (7, .int x7)]) hx hb dX11_digestPair_57 hl (by decide) rfl (fun ls hl => ?_)
        refine lv_iinc (v := x7 + 1) (lv' := [(7, .int (x7 + 1)), (5, .long ((31 * x5) + ((column x7.toNatClampNeg).toInt64))), (0, .ref (h 0)), (3, .int x3), (4, .int x4)]) hx hb dX11_digestPair_59 hl (k := 4) rfl rfl (by decide) rfl (fun ls hl => ?_)
        refine lv_goto (tgt := 33) hx hb dX11_digestPair_62 (by decide) ?_
        exact ih33 _ _ _ top bottom digit digitMany other otherMany column columnMany carryMany chainMost x3 x4 ((31 * x5) + ((column x7.toNatClampNeg).toInt64)) (x7 + 1) hw (lv_sub hl [2, 3, 4, 1, 0] rfl) hf
  refine lv_aload_n hx hb dX11_digestPair_0 rfl (lv_at hl 0 rfl) ?_
  refine lv_iload_n hx hb dX11_digestPair_1 rfl (lv_at hl 2 rfl) ?_
  refine lv_iload hx hb dX11_digestPair_2 (lv_at hl 3 rfl) ?_
  obtain ⟨v4, hv4, hf⟩ := ob_e hf
  refine xcallV (ws' := (wM g h thrown ss states stateMany snapshot hasSnapshot text length at_ isWell rd readMany top bottom v4.1 v4.2.1 v4.2.2.1 v4.2.2.2.1 v4.2.2.2.2.1 v4.2.2.2.2.2.1 v4.2.2.2.2.2.2.1 v4.2.2.2.2.2.2.2)) (st1 := []) (n := 9) E hw [.int a2, .int a3] [0, 1, 2, 3, 4, 5, 6, 7, 8] (met_X11_tellsColumns l g h thrown ss states stateMany snapshot hasSnapshot text length at_ isWell rd readMany top bottom digit digitMany other otherMany column columnMany carryMany chainMost a2 a3 v4 hv4) rfl (by decide) rfl rfl [9, 10, 11, 12, 13, 14, 15, 16, 17] rfl (by decide +kernel) rfl rfl rfl rfl qw1410 k_X11_tellsColumns ⟨rfl, rfl, Nat.le_of_ble_eq_true rfl, Nat.le_of_ble_eq_true rfl⟩ ⟨Nat.zero_le _, Nat.zero_le _⟩ hl.1 (Nat.le_of_ble_eq_true rfl) dX11_digestPair_4 rfl (fun H locs hw => ?_)
  refine lv_ldc2 hx hb hown (hts _ qw1465) dX11_digestPair_7 ?_
  refine lv_ldc2 hx hb hown (hts _ qw1465) dX11_digestPair_10 ?_
  refine lv_lload_n hx hb dX11_digestPair_13 rfl (lv_at hl 1 rfl) ?_
  refine lv_lmul hx hb dX11_digestPair_14 ?_
  refine lv_aload_n hx hb dX11_digestPair_15 rfl (lv_at hl 0 rfl) ?_
  refine xget (v := .int v4.2.2.2.2.2.2.1) E hw 0 rfl rfl 20 (by decide) inw11 qw1039 rfl rfl dX11_digestPair_16 ?_
  refine lv_i2l hx hb dX11_digestPair_19 rfl ?_
  refine lv_ladd hx hb dX11_digestPair_20 ?_
  refine lv_lmul hx hb dX11_digestPair_21 ?_
  refine lv_aload_n hx hb dX11_digestPair_22 rfl (lv_at hl 0 rfl) ?_
  refine xget (v := .int v4.2.2.2.2.2.2.2) E hw 0 rfl rfl 21 (by decide) inw11 qw1040 rfl rfl dX11_digestPair_23 ?_
  refine lv_i2l hx hb dX11_digestPair_26 rfl ?_
  refine lv_ladd hx hb dX11_digestPair_27 ?_
  refine lv_lstore (lv' := [(5, .long ((31 * ((31 * a1) + v4.2.2.2.2.2.2.1.toInt64)) + v4.2.2.2.2.2.2.2.toInt64)), (0, .ref (h 0)), (1, .long a1), (3, .int a2), (4, .int a3)]) hx hb dX11_digestPair_28 hl (by decide) rfl (fun ls hl => ?_)
  refine lv_iconst (v := 0) hx hb dX11_digestPair_30 (by decide) ?_
  refine lv_istore (lv' := [(7, .int 0), (5, .long ((31 * ((31 * a1) + v4.2.2.2.2.2.2.1.toInt64)) + v4.2.2.2.2.2.2.2.toInt64)), (0, .ref (h 0)), (1, .long a1), (3, .int a2), (4, .int a3)]) hx hb dX11_digestPair_31 hl (by decide) rfl (fun ls hl => ?_)
  exact b33 xfuel _ _ _ top bottom v4.1 v4.2.1 v4.2.2.1 v4.2.2.2.1 v4.2.2.2.2.1 v4.2.2.2.2.2.1 v4.2.2.2.2.2.2.1 v4.2.2.2.2.2.2.2 a2 a3 ((31 * ((31 * a1) + v4.2.2.2.2.2.2.1.toInt64)) + v4.2.2.2.2.2.2.2.toInt64) 0 hw (lv_sub hl [2, 4, 5, 1, 0] rfl) hf
