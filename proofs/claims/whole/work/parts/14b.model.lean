theorem k_X11_power : xKV yX11_power cX11_power 4 (some .int) 1 := ⟨qw1162, qw30, qw74, qw1163, by decide +kernel, by decide +kernel, by decide +kernel⟩
set_option maxHeartbeats 4000000 in
set_option maxRecDepth 100000 in
theorem met_X11_power (l : Launch) (g : xG) (h : Nat → Nat) (thrown : Int32) (ss : (Nat → Int32)) (states : (Nat → Int32)) (stateMany : Int32) (snapshot : (Nat → Int32)) (hasSnapshot : Int32) (text : (Nat → Int32)) (length : Int32) (at_ : Int32) (isWell : Int32) (rd : (Nat → Int32)) (readMany : Int32) (top : Int64) (bottom : Int64) (digit : (Nat → Int32)) (digitMany : Int32) (other : (Nat → Int32)) (otherMany : Int32) (column : (Nat → Int32)) (columnMany : Int32) (carryMany : Int32) (chainMost : Int32) (a1 : Int32) (out : Int32) (hf : f_X11_power ss a1 = some out) : xM l yX11_power (xC yX11_power cX11_power 4 (some .int)) { frames := 0, cells := 0, slots := 0, locals := 0 } g (wM g h thrown ss states stateMany snapshot hasSnapshot text length at_ isWell rd readMany top bottom digit digitMany other otherMany column columnMany carryMany chainMost) [.ref (h 0), .int a1] (some (.int out)) (wM g h thrown ss states stateMany snapshot hasSnapshot text length at_ isWell rd readMany top bottom digit digitMany other otherMany column columnMany carryMany chainMost) := by
  refine xof (by decide) (Nat.le_of_ble_eq_true rfl) ⟨rfl, rfl⟩ ?_
  intro p e s m below meth c A ls E hr hlocks hw hl hpost hAe
  have hx := E.1.1
  have hb := E.1.2.1
  have hown := E.1.2.2.2.1
  have hts := E.1.2.2.2.2
  generalize hZ : (MQ below (xPost g (wM g h thrown ss states stateMany snapshot hasSnapshot text length at_ isWell rd readMany top bottom digit digitMany other otherMany column columnMany carryMany chainMost) (wM g h thrown ss states stateMany snapshot hasSnapshot text length at_ isWell rd readMany top bottom digit digitMany other otherMany column columnMany carryMany chainMost) s.heap.size (some (.int out))) [.ref (h 0), .int a1].toArray s 0 0 A) = ZZ
  have hret : ∀ (pc : Nat) (H : Heap) (locs : List Loc) (ls : Array Slot) (v : Int32), v = out → decode cX11_power pc = .ok (.ireturn, 1) → xW g A s.heap (wM g h thrown ss states stateMany snapshot hasSnapshot text length at_ isWell rd readMany top bottom digit digitMany other otherMany column columnMany carryMany chainMost) H locs → W p l e { frames := 0, cells := 0, slots := 0, locals := 0 } s m [.ref (h 0), .int a1].toArray below meth c H locs 0 0 ZZ (F0 m pc ls [.int v]) := by
    intro pc H locs ls v he hd hw
    subst he
    rw [← hZ]
    exact W.iret hx hb hr (hpost H locs hw).1 (hpost H locs hw).2 hd hlocks
  clear hpost
  have b4 : ∀ n4 : Nat, ∀ (H : Heap) (locs : List Loc) (ls : Array Slot) (x1 : Int32) (x2 : Int32) (x3 : Int32), xW g A s.heap (wM g h thrown ss states stateMany snapshot hasSnapshot text length at_ isWell rd readMany top bottom digit digitMany other otherMany column columnMany carryMany chainMost) H locs → lv_has ls 4 [(0, .ref (h 0)), (1, .int x1), (2, .int x2), (3, .int x3)] → f_X11_power_b4 n4 ss x1 x2 x3 = some out → W p l e { frames := 0, cells := 0, slots := 0, locals := 0 } s m [.ref (h 0), .int a1].toArray below meth c H locs 0 0 ZZ (F0 m 4 ls []) := by
    intro n4
    induction n4 with
    | zero =>
      intro H locs ls x1 x2 x3 hw hl hf
      exact nn hf
    | succ n4 ih4 =>
      intro H locs ls x1 x2 x3 hw hl hf
      refine lv_iload_n hx hb dX11_power_4 rfl (lv_at hl 3 rfl) ?_
      refine lv_iload_n hx hb dX11_power_5 rfl (lv_at hl 1 rfl) ?_
      refine lv_icmp_ge (tgt := 24) hx hb dX11_power_6 (by decide) (fun c6 => ?_) (fun c6 => ?_)
      · replace hf := ip c6 hf
        refine lv_iload_n hx hb dX11_power_24 rfl (lv_at hl 2 rfl) ?_
        exact hret _ _ _ _ _ (Option.some.inj hf) dX11_power_25 hw
      · replace hf := iq c6 hf
        refine lv_iload_n hx hb dX11_power_9 rfl (lv_at hl 2 rfl) ?_
        refine lv_aload_n hx hb dX11_power_10 rfl (lv_at hl 0 rfl) ?_
        refine xget (v := .ref (h 1)) E hw 0 rfl rfl 1 (by decide) inw11 qw1020 rfl rfl dX11_power_11 ?_
        refine lv_iconst (v := 0) hx hb dX11_power_14 (by decide) ?_
        refine xiald E hw 1 rfl (by decide) dX11_power_15 ?_
        refine lv_imul hx hb dX11_power_16 ?_
        refine lv_istore_n (lv' := [(2, .int (x2 * (ss (0 : Int32).toNatClampNeg))), (0, .ref (h 0)), (1, .int x1), (3, .int x3)]) hx hb dX11_power_17 rfl hl (by decide) rfl (fun ls hl => ?_)
        refine lv_iinc (v := x3 + 1) (lv' := [(3, .int (x3 + 1)), (2, .int (x2 * (ss (0 : Int32).toNatClampNeg))), (0, .ref (h 0)), (1, .int x1)]) hx hb dX11_power_18 hl (k := 3) rfl rfl (by decide) rfl (fun ls hl => ?_)
        refine lv_goto (tgt := 4) hx hb dX11_power_21 (by decide) ?_
        exact ih4 _ _ _ x1 (x2 * (ss (0 : Int32).toNatClampNeg)) (x3 + 1) hw (lv_sub hl [2, 3, 1, 0] rfl) hf
  refine lv_iconst (v := 1) hx hb dX11_power_0 (by decide) ?_
  refine lv_istore_n (lv' := [(2, .int 1), (0, .ref (h 0)), (1, .int a1)]) hx hb dX11_power_1 rfl hl (by decide) rfl (fun ls hl => ?_)
  refine lv_iconst (v := 0) hx hb dX11_power_2 (by decide) ?_
  refine lv_istore_n (lv' := [(3, .int 0), (2, .int 1), (0, .ref (h 0)), (1, .int a1)]) hx hb dX11_power_3 rfl hl (by decide) rfl (fun ls hl => ?_)
  exact b4 xfuel _ _ _ a1 1 0 hw (lv_sub hl [2, 3, 1, 0] rfl) hf
theorem k_X11_makesShift : xKV yX11_makesShift cX11_makesShift 3 (some .int) 2 := ⟨qw1158, qw29, qw74, qw1159, by decide +kernel, by decide +kernel, by decide +kernel⟩
set_option maxHeartbeats 4000000 in
set_option maxRecDepth 100000 in
theorem met_X11_makesShift (l : Launch) (g : xG) (h : Nat → Nat) (thrown : Int32) (ss : (Nat → Int32)) (states : (Nat → Int32)) (stateMany : Int32) (snapshot : (Nat → Int32)) (hasSnapshot : Int32) (text : (Nat → Int32)) (length : Int32) (at_ : Int32) (isWell : Int32) (rd : (Nat → Int32)) (readMany : Int32) (top : Int64) (bottom : Int64) (digit : (Nat → Int32)) (digitMany : Int32) (other : (Nat → Int32)) (otherMany : Int32) (column : (Nat → Int32)) (columnMany : Int32) (carryMany : Int32) (chainMost : Int32) (a1 : Int32) (a2 : Int32) (out : Int32 × Int64 × Int64) (hf : f_X11_makesShift ss top bottom a1 a2 = some out) : xM l yX11_makesShift (xC yX11_makesShift cX11_makesShift 3 (some .int)) { frames := 2, cells := 0, slots := 0, locals := 55 } g (wM g h thrown ss states stateMany snapshot hasSnapshot text length at_ isWell rd readMany top bottom digit digitMany other otherMany column columnMany carryMany chainMost) [.ref (h 0), .int a1, .int a2] (some (.int out.1)) (wM g h thrown ss states stateMany snapshot hasSnapshot text length at_ isWell rd readMany out.2.1 out.2.2 digit digitMany other otherMany column columnMany carryMany chainMost) := by
  refine xof (by decide) (Nat.le_of_ble_eq_true rfl) ⟨rfl, rfl⟩ ?_
  intro p e s m below meth c A ls E hr hlocks hw hl hpost hAe
  have hx := E.1.1
  have hb := E.1.2.1
  have hown := E.1.2.2.2.1
  have hts := E.1.2.2.2.2
  generalize hZ : (MQ below (xPost g (wM g h thrown ss states stateMany snapshot hasSnapshot text length at_ isWell rd readMany top bottom digit digitMany other otherMany column columnMany carryMany chainMost) (wM g h thrown ss states stateMany snapshot hasSnapshot text length at_ isWell rd readMany out.2.1 out.2.2 digit digitMany other otherMany column columnMany carryMany chainMost) s.heap.size (some (.int out.1))) [.ref (h 0), .int a1, .int a2].toArray s 0 0 A) = ZZ
  have hret : ∀ (pc : Nat) (H : Heap) (locs : List Loc) (ls : Array Slot) (v : Int32) (ctop : Int64) (cbottom : Int64), (v, ctop, cbottom) = out → decode cX11_makesShift pc = .ok (.ireturn, 1) → xW g A s.heap (wM g h thrown ss states stateMany snapshot hasSnapshot text length at_ isWell rd readMany ctop cbottom digit digitMany other otherMany column columnMany carryMany chainMost) H locs → W p l e { frames := 2, cells := 0, slots := 0, locals := 55 } s m [.ref (h 0), .int a1, .int a2].toArray below meth c H locs 0 0 ZZ (F0 m pc ls [.int v]) := by
    intro pc H locs ls v ctop cbottom he hd hw
    subst he
    rw [← hZ]
    exact W.iret hx hb hr (hpost H locs hw).1 (hpost H locs hw).2 hd hlocks
  clear hpost
  refine lv_iload_n hx hb dX11_makesShift_0 rfl (lv_at hl 2 rfl) ?_
  refine lv_if_ge (tgt := 31) hx hb dX11_makesShift_1 (by decide) (fun c1 => ?_) (fun c1 => ?_)
  · replace hf := ip c1 hf
    refine lv_aload_n hx hb dX11_makesShift_31 rfl (lv_at hl 0 rfl) ?_
    refine lv_aload_n hx hb dX11_makesShift_32 rfl (lv_at hl 0 rfl) ?_
    refine lv_iload_n hx hb dX11_makesShift_33 rfl (lv_at hl 1 rfl) ?_
    obtain ⟨v34, hv34, hf⟩ := ob_e hf
    refine xcallV (ws' := (wM g h thrown ss states stateMany snapshot hasSnapshot text length at_ isWell rd readMany top bottom digit digitMany other otherMany column columnMany carryMany chainMost)) (st1 := [.int v34, .ref (h 0)]) (n := 9) E hw [.int a1] [0, 1, 2, 3, 4, 5, 6, 7, 8] (met_X11_up l g h thrown ss states stateMany snapshot hasSnapshot text length at_ isWell rd readMany top bottom digit digitMany other otherMany column columnMany carryMany chainMost a1 v34 hv34) rfl (by decide) rfl rfl [9, 10, 11, 12, 13, 14, 15, 16, 17] rfl (by decide +kernel) rfl rfl rfl rfl qw1144 k_X11_up ⟨rfl, rfl, Nat.le_of_ble_eq_true rfl, Nat.le_of_ble_eq_true rfl⟩ ⟨Nat.zero_le _, Nat.zero_le _⟩ hl.1 (Nat.le_of_ble_eq_true rfl) dX11_makesShift_34 rfl (fun H locs hw => ?_)
    refine lv_i2l hx hb dX11_makesShift_37 rfl ?_
    refine lv_aload_n hx hb dX11_makesShift_38 rfl (lv_at hl 0 rfl) ?_
    refine lv_iload_n hx hb dX11_makesShift_39 rfl (lv_at hl 2 rfl) ?_
    obtain ⟨v40, hv40, hf⟩ := ob_e hf
    refine xcallV (ws' := (wM g h thrown ss states stateMany snapshot hasSnapshot text length at_ isWell rd readMany top bottom digit digitMany other otherMany column columnMany carryMany chainMost)) (st1 := [.int v40, .long v34.toInt64, .ref (h 0)]) (n := 9) E hw [.int a2] [0, 1, 2, 3, 4, 5, 6, 7, 8] (met_X11_power l g h thrown ss states stateMany snapshot hasSnapshot text length at_ isWell rd readMany top bottom digit digitMany other otherMany column columnMany carryMany chainMost a2 v40 hv40) rfl (by decide) rfl rfl [9, 10, 11, 12, 13, 14, 15, 16, 17] rfl (by decide +kernel) rfl rfl rfl rfl qw1160 k_X11_power ⟨rfl, rfl, Nat.le_of_ble_eq_true rfl, Nat.le_of_ble_eq_true rfl⟩ ⟨Nat.zero_le _, Nat.zero_le _⟩ hl.1 (Nat.le_of_ble_eq_true rfl) dX11_makesShift_40 rfl (fun H locs hw => ?_)
    refine lv_i2l hx hb dX11_makesShift_43 rfl ?_
    refine lv_lmul hx hb dX11_makesShift_44 ?_
    refine lv_aload_n hx hb dX11_makesShift_45 rfl (lv_at hl 0 rfl) ?_
    refine lv_iload_n hx hb dX11_makesShift_46 rfl (lv_at hl 1 rfl) ?_
    obtain ⟨v47, hv47, hf⟩ := ob_e hf
    refine xcallV (ws' := (wM g h thrown ss states stateMany snapshot hasSnapshot text length at_ isWell rd readMany top bottom digit digitMany other otherMany column columnMany carryMany chainMost)) (st1 := [.int v47, .long (v34.toInt64 * v40.toInt64), .ref (h 0)]) (n := 9) E hw [.int a1] [0, 1, 2, 3, 4, 5, 6, 7, 8] (met_X11_down l g h thrown ss states stateMany snapshot hasSnapshot text length at_ isWell rd readMany top bottom digit digitMany other otherMany column columnMany carryMany chainMost a1 v47 hv47) rfl (by decide) rfl rfl [9, 10, 11, 12, 13, 14, 15, 16, 17] rfl (by decide +kernel) rfl rfl rfl rfl qw1129 k_X11_down ⟨rfl, rfl, Nat.le_of_ble_eq_true rfl, Nat.le_of_ble_eq_true rfl⟩ ⟨Nat.zero_le _, Nat.zero_le _⟩ hl.1 (Nat.le_of_ble_eq_true rfl) dX11_makesShift_47 rfl (fun H locs hw => ?_)
    refine lv_i2l hx hb dX11_makesShift_50 rfl ?_
    obtain ⟨v51, hv51, hf⟩ := ob_e hf
    refine xcallV (ws' := (wM g h thrown ss states stateMany snapshot hasSnapshot text length at_ isWell rd readMany v51.2.1 v51.2.2 digit digitMany other otherMany column columnMany carryMany chainMost)) (st1 := [.int v51.1]) (n := 9) E hw [.long (v34.toInt64 * v40.toInt64), .long v47.toInt64] [0, 1, 2, 3, 4, 5, 6, 7, 8] (met_X11_makes l g h thrown ss states stateMany snapshot hasSnapshot text length at_ isWell rd readMany top bottom digit digitMany other otherMany column columnMany carryMany chainMost (v34.toInt64 * v40.toInt64) v47.toInt64 v51 hv51) rfl (by decide) rfl rfl [9, 10, 11, 12, 13, 14, 15, 16, 17] rfl (by decide +kernel) rfl rfl rfl rfl qw1116 k_X11_makes ⟨rfl, rfl, Nat.le_of_ble_eq_true rfl, Nat.le_of_ble_eq_true rfl⟩ ⟨Nat.zero_le _, Nat.zero_le _⟩ hl.1 (Nat.le_of_ble_eq_true rfl) dX11_makesShift_51 rfl (fun H locs hw => ?_)
    exact hret _ _ _ _ _ _ _ (Option.some.inj hf) dX11_makesShift_54 hw
  · replace hf := iq c1 hf
    refine lv_aload_n hx hb dX11_makesShift_4 rfl (lv_at hl 0 rfl) ?_
    refine lv_aload_n hx hb dX11_makesShift_5 rfl (lv_at hl 0 rfl) ?_
    refine lv_iload_n hx hb dX11_makesShift_6 rfl (lv_at hl 1 rfl) ?_
    obtain ⟨v7, hv7, hf⟩ := ob_e hf
    refine xcallV (ws' := (wM g h thrown ss states stateMany snapshot hasSnapshot text length at_ isWell rd readMany top bottom digit digitMany other otherMany column columnMany carryMany chainMost)) (st1 := [.int v7, .ref (h 0)]) (n := 9) E hw [.int a1] [0, 1, 2, 3, 4, 5, 6, 7, 8] (met_X11_up l g h thrown ss states stateMany snapshot hasSnapshot text length at_ isWell rd readMany top bottom digit digitMany other otherMany column columnMany carryMany chainMost a1 v7 hv7) rfl (by decide) rfl rfl [9, 10, 11, 12, 13, 14, 15, 16, 17] rfl (by decide +kernel) rfl rfl rfl rfl qw1144 k_X11_up ⟨rfl, rfl, Nat.le_of_ble_eq_true rfl, Nat.le_of_ble_eq_true rfl⟩ ⟨Nat.zero_le _, Nat.zero_le _⟩ hl.1 (Nat.le_of_ble_eq_true rfl) dX11_makesShift_7 rfl (fun H locs hw => ?_)
    refine lv_i2l hx hb dX11_makesShift_10 rfl ?_
    refine lv_aload_n hx hb dX11_makesShift_11 rfl (lv_at hl 0 rfl) ?_
    refine lv_iload_n hx hb dX11_makesShift_12 rfl (lv_at hl 1 rfl) ?_
    obtain ⟨v13, hv13, hf⟩ := ob_e hf
    refine xcallV (ws' := (wM g h thrown ss states stateMany snapshot hasSnapshot text length at_ isWell rd readMany top bottom digit digitMany other otherMany column columnMany carryMany chainMost)) (st1 := [.int v13, .long v7.toInt64, .ref (h 0)]) (n := 9) E hw [.int a1] [0, 1, 2, 3, 4, 5, 6, 7, 8] (met_X11_down l g h thrown ss states stateMany snapshot hasSnapshot text length at_ isWell rd readMany top bottom digit digitMany other otherMany column columnMany carryMany chainMost a1 v13 hv13) rfl (by decide) rfl rfl [9, 10, 11, 12, 13, 14, 15, 16, 17] rfl (by decide +kernel) rfl rfl rfl rfl qw1129 k_X11_down ⟨rfl, rfl, Nat.le_of_ble_eq_true rfl, Nat.le_of_ble_eq_true rfl⟩ ⟨Nat.zero_le _, Nat.zero_le _⟩ hl.1 (Nat.le_of_ble_eq_true rfl) dX11_makesShift_13 rfl (fun H locs hw => ?_)
    refine lv_i2l hx hb dX11_makesShift_16 rfl ?_
    refine lv_aload_n hx hb dX11_makesShift_17 rfl (lv_at hl 0 rfl) ?_
    refine lv_iload_n hx hb dX11_makesShift_18 rfl (lv_at hl 2 rfl) ?_
    refine lv_ineg hx hb dX11_makesShift_19 ?_
    obtain ⟨v20, hv20, hf⟩ := ob_e hf
    refine xcallV (ws' := (wM g h thrown ss states stateMany snapshot hasSnapshot text length at_ isWell rd readMany top bottom digit digitMany other otherMany column columnMany carryMany chainMost)) (st1 := [.int v20, .long v13.toInt64, .long v7.toInt64, .ref (h 0)]) (n := 9) E hw [.int (-a2)] [0, 1, 2, 3, 4, 5, 6, 7, 8] (met_X11_power l g h thrown ss states stateMany snapshot hasSnapshot text length at_ isWell rd readMany top bottom digit digitMany other otherMany column columnMany carryMany chainMost (-a2) v20 hv20) rfl (by decide) rfl rfl [9, 10, 11, 12, 13, 14, 15, 16, 17] rfl (by decide +kernel) rfl rfl rfl rfl qw1160 k_X11_power ⟨rfl, rfl, Nat.le_of_ble_eq_true rfl, Nat.le_of_ble_eq_true rfl⟩ ⟨Nat.zero_le _, Nat.zero_le _⟩ hl.1 (Nat.le_of_ble_eq_true rfl) dX11_makesShift_20 rfl (fun H locs hw => ?_)
    refine lv_i2l hx hb dX11_makesShift_23 rfl ?_
    refine lv_lmul hx hb dX11_makesShift_24 ?_
    obtain ⟨v25, hv25, hf⟩ := ob_e hf
    refine xcallV (ws' := (wM g h thrown ss states stateMany snapshot hasSnapshot text length at_ isWell rd readMany v25.2.1 v25.2.2 digit digitMany other otherMany column columnMany carryMany chainMost)) (st1 := [.int v25.1]) (n := 9) E hw [.long v7.toInt64, .long (v13.toInt64 * v20.toInt64)] [0, 1, 2, 3, 4, 5, 6, 7, 8] (met_X11_makes l g h thrown ss states stateMany snapshot hasSnapshot text length at_ isWell rd readMany top bottom digit digitMany other otherMany column columnMany carryMany chainMost v7.toInt64 (v13.toInt64 * v20.toInt64) v25 hv25) rfl (by decide) rfl rfl [9, 10, 11, 12, 13, 14, 15, 16, 17] rfl (by decide +kernel) rfl rfl rfl rfl qw1116 k_X11_makes ⟨rfl, rfl, Nat.le_of_ble_eq_true rfl, Nat.le_of_ble_eq_true rfl⟩ ⟨Nat.zero_le _, Nat.zero_le _⟩ hl.1 (Nat.le_of_ble_eq_true rfl) dX11_makesShift_25 rfl (fun H locs hw => ?_)
    refine lv_goto (tgt := 54) hx hb dX11_makesShift_28 (by decide) ?_
    exact hret _ _ _ _ _ _ _ (Option.some.inj hf) dX11_makesShift_54 hw
theorem k_X11_puts : xKV yX11_puts cX11_puts 2 none 1 := ⟨qw1127, qw25, qw74, qw1128, by decide +kernel, by decide +kernel, by decide +kernel⟩
set_option maxHeartbeats 4000000 in
set_option maxRecDepth 100000 in
theorem met_X11_puts (l : Launch) (g : xG) (h : Nat → Nat) (thrown : Int32) (ss : (Nat → Int32)) (states : (Nat → Int32)) (stateMany : Int32) (snapshot : (Nat → Int32)) (hasSnapshot : Int32) (text : (Nat → Int32)) (length : Int32) (at_ : Int32) (isWell : Int32) (rd : (Nat → Int32)) (readMany : Int32) (top : Int64) (bottom : Int64) (digit : (Nat → Int32)) (digitMany : Int32) (other : (Nat → Int32)) (otherMany : Int32) (column : (Nat → Int32)) (columnMany : Int32) (carryMany : Int32) (chainMost : Int32) (a1 : Int32) (out : (Nat → Int32)) (hf : f_X11_puts ss top bottom a1 = some out) : xM l yX11_puts (xC yX11_puts cX11_puts 2 none) { frames := 0, cells := 0, slots := 0, locals := 0 } g (wM g h thrown ss states stateMany snapshot hasSnapshot text length at_ isWell rd readMany top bottom digit digitMany other otherMany column columnMany carryMany chainMost) [.ref (h 0), .int a1] none (wM g h thrown out states stateMany snapshot hasSnapshot text length at_ isWell rd readMany top bottom digit digitMany other otherMany column columnMany carryMany chainMost) := by
  refine xof (by decide) (Nat.le_of_ble_eq_true rfl) ⟨rfl, rfl⟩ ?_
  intro p e s m below meth c A ls E hr hlocks hw hl hpost hAe
  have hx := E.1.1
  have hb := E.1.2.1
  have hown := E.1.2.2.2.1
  have hts := E.1.2.2.2.2
  generalize hZ : (MQ below (xPost g (wM g h thrown ss states stateMany snapshot hasSnapshot text length at_ isWell rd readMany top bottom digit digitMany other otherMany column columnMany carryMany chainMost) (wM g h thrown out states stateMany snapshot hasSnapshot text length at_ isWell rd readMany top bottom digit digitMany other otherMany column columnMany carryMany chainMost) s.heap.size none) [.ref (h 0), .int a1].toArray s 0 0 A) = ZZ
  have hret : ∀ (pc : Nat) (H : Heap) (locs : List Loc) (ls : Array Slot) (css : (Nat → Int32)), css = out → decode cX11_puts pc = .ok (.return_, 1) → xW g A s.heap (wM g h thrown css states stateMany snapshot hasSnapshot text length at_ isWell rd readMany top bottom digit digitMany other otherMany column columnMany carryMany chainMost) H locs → W p l e { frames := 0, cells := 0, slots := 0, locals := 0 } s m [.ref (h 0), .int a1].toArray below meth c H locs 0 0 ZZ (F0 m pc ls []) := by
    intro pc H locs ls css he hd hw
    subst he
    rw [← hZ]
    exact W.vret hx hb hr (hpost H locs hw).1 (hpost H locs hw).2 hd hlocks
  clear hpost
  refine lv_aload_n hx hb dX11_puts_0 rfl (lv_at hl 0 rfl) ?_
  refine xget (v := .ref (h 1)) E hw 0 rfl rfl 1 (by decide) inw11 qw1020 rfl rfl dX11_puts_1 ?_
  refine lv_iconst (v := 3) hx hb dX11_puts_4 (by decide) ?_
  refine lv_iload_n hx hb dX11_puts_5 rfl (lv_at hl 1 rfl) ?_
  refine lv_iadd hx hb dX11_puts_6 ?_
  refine lv_aload_n hx hb dX11_puts_7 rfl (lv_at hl 0 rfl) ?_
  refine xget (v := .long top) E hw 0 rfl rfl 12 (by decide) inw11 qw1031 rfl rfl dX11_puts_8 ?_
  refine lv_l2i hx hb dX11_puts_11 rfl ?_
  obtain ⟨hz, hf⟩ := nz hf
  refine xiast (ws' := (wM g h thrown (upd ss (3 + a1).toNatClampNeg top.toInt32) states stateMany snapshot hasSnapshot text length at_ isWell rd readMany top bottom digit digitMany other otherMany column columnMany carryMany chainMost)) E hw 1 rfl hz dX11_puts_12 rfl (fun H locs hw => ?_)
  refine lv_aload_n hx hb dX11_puts_13 rfl (lv_at hl 0 rfl) ?_
  refine xget (v := .ref (h 1)) E hw 0 rfl rfl 1 (by decide) inw11 qw1020 rfl rfl dX11_puts_14 ?_
  refine lv_bipush (v := 9) hx hb dX11_puts_17 (by decide) ?_
  refine lv_iload_n hx hb dX11_puts_19 rfl (lv_at hl 1 rfl) ?_
  refine lv_iadd hx hb dX11_puts_20 ?_
  refine lv_aload_n hx hb dX11_puts_21 rfl (lv_at hl 0 rfl) ?_
  refine xget (v := .long bottom) E hw 0 rfl rfl 13 (by decide) inw11 qw1032 rfl rfl dX11_puts_22 ?_
  refine lv_l2i hx hb dX11_puts_25 rfl ?_
  obtain ⟨hz, hf⟩ := nz hf
  refine xiast (ws' := (wM g h thrown (upd (upd ss (3 + a1).toNatClampNeg top.toInt32) (9 + a1).toNatClampNeg bottom.toInt32) states stateMany snapshot hasSnapshot text length at_ isWell rd readMany top bottom digit digitMany other otherMany column columnMany carryMany chainMost)) E hw 1 rfl hz dX11_puts_26 rfl (fun H locs hw => ?_)
  exact hret _ _ _ _ _ (Option.some.inj hf) dX11_puts_27 hw
theorem k_X11_holds : xKV yX11_holds cX11_holds 5 (some .int) 2 := ⟨qw1291, qw45, qw74, qw1292, by decide +kernel, by decide +kernel, by decide +kernel⟩
set_option maxHeartbeats 4000000 in
set_option maxRecDepth 100000 in
theorem met_X11_holds (l : Launch) (g : xG) (h : Nat → Nat) (thrown : Int32) (ss : (Nat → Int32)) (states : (Nat → Int32)) (stateMany : Int32) (snapshot : (Nat → Int32)) (hasSnapshot : Int32) (text : (Nat → Int32)) (length : Int32) (at_ : Int32) (isWell : Int32) (rd : (Nat → Int32)) (readMany : Int32) (top : Int64) (bottom : Int64) (digit : (Nat → Int32)) (digitMany : Int32) (other : (Nat → Int32)) (otherMany : Int32) (column : (Nat → Int32)) (columnMany : Int32) (carryMany : Int32) (chainMost : Int32) (a1 : Int32) (a2 : Int32) (out : Int32) (hf : f_X11_holds ss a1 a2 = some out) : xM l yX11_holds (xC yX11_holds cX11_holds 5 (some .int)) { frames := 1, cells := 0, slots := 0, locals := 21 } g (wM g h thrown ss states stateMany snapshot hasSnapshot text length at_ isWell rd readMany top bottom digit digitMany other otherMany column columnMany carryMany chainMost) [.ref (h 0), .int a1, .int a2] (some (.int out)) (wM g h thrown ss states stateMany snapshot hasSnapshot text length at_ isWell rd readMany top bottom digit digitMany other otherMany column columnMany carryMany chainMost) := by
  refine xof (by decide) (Nat.le_of_ble_eq_true rfl) ⟨rfl, rfl⟩ ?_
  intro p e s m below meth c A ls E hr hlocks hw hl hpost hAe
  have hx := E.1.1
  have hb := E.1.2.1
  have hown := E.1.2.2.2.1
  have hts := E.1.2.2.2.2
  generalize hZ : (MQ below (xPost g (wM g h thrown ss states stateMany snapshot hasSnapshot text length at_ isWell rd readMany top bottom digit digitMany other otherMany column columnMany carryMany chainMost) (wM g h thrown ss states stateMany snapshot hasSnapshot text length at_ isWell rd readMany top bottom digit digitMany other otherMany column columnMany carryMany chainMost) s.heap.size (some (.int out))) [.ref (h 0), .int a1, .int a2].toArray s 0 0 A) = ZZ
  have hret : ∀ (pc : Nat) (H : Heap) (locs : List Loc) (ls : Array Slot) (v : Int32), v = out → decode cX11_holds pc = .ok (.ireturn, 1) → xW g A s.heap (wM g h thrown ss states stateMany snapshot hasSnapshot text length at_ isWell rd readMany top bottom digit digitMany other otherMany column columnMany carryMany chainMost) H locs → W p l e { frames := 1, cells := 0, slots := 0, locals := 21 } s m [.ref (h 0), .int a1, .int a2].toArray below meth c H locs 0 0 ZZ (F0 m pc ls [.int v]) := by
    intro pc H locs ls v he hd hw
    subst he
    rw [← hZ]
    exact W.iret hx hb hr (hpost H locs hw).1 (hpost H locs hw).2 hd hlocks
  clear hpost
  refine lv_aload_n hx hb dX11_holds_0 rfl (lv_at hl 0 rfl) ?_
  refine lv_iload_n hx hb dX11_holds_1 rfl (lv_at hl 1 rfl) ?_
  obtain ⟨v2, hv2, hf⟩ := ob_e hf
  refine xcallV (ws' := (wM g h thrown ss states stateMany snapshot hasSnapshot text length at_ isWell rd readMany top bottom digit digitMany other otherMany column columnMany carryMany chainMost)) (st1 := [.int v2]) (n := 9) E hw [.int a1] [0, 1, 2, 3, 4, 5, 6, 7, 8] (met_X11_up l g h thrown ss states stateMany snapshot hasSnapshot text length at_ isWell rd readMany top bottom digit digitMany other otherMany column columnMany carryMany chainMost a1 v2 hv2) rfl (by decide) rfl rfl [9, 10, 11, 12, 13, 14, 15, 16, 17] rfl (by decide +kernel) rfl rfl rfl rfl qw1144 k_X11_up ⟨rfl, rfl, Nat.le_of_ble_eq_true rfl, Nat.le_of_ble_eq_true rfl⟩ ⟨Nat.zero_le _, Nat.zero_le _⟩ hl.1 (Nat.le_of_ble_eq_true rfl) dX11_holds_2 rfl (fun H locs hw => ?_)
  refine lv_i2l hx hb dX11_holds_5 rfl ?_
  refine lv_aload_n hx hb dX11_holds_6 rfl (lv_at hl 0 rfl) ?_
  refine lv_iload_n hx hb dX11_holds_7 rfl (lv_at hl 2 rfl) ?_
  obtain ⟨v8, hv8, hf⟩ := ob_e hf
  refine xcallV (ws' := (wM g h thrown ss states stateMany snapshot hasSnapshot text length at_ isWell rd readMany top bottom digit digitMany other otherMany column columnMany carryMany chainMost)) (st1 := [.int v8, .long v2.toInt64]) (n := 9) E hw [.int a2] [0, 1, 2, 3, 4, 5, 6, 7, 8] (met_X11_down l g h thrown ss states stateMany snapshot hasSnapshot text length at_ isWell rd readMany top bottom digit digitMany other otherMany column columnMany carryMany chainMost a2 v8 hv8) rfl (by decide) rfl rfl [9, 10, 11, 12, 13, 14, 15, 16, 17] rfl (by decide +kernel) rfl rfl rfl rfl qw1129 k_X11_down ⟨rfl, rfl, Nat.le_of_ble_eq_true rfl, Nat.le_of_ble_eq_true rfl⟩ ⟨Nat.zero_le _, Nat.zero_le _⟩ hl.1 (Nat.le_of_ble_eq_true rfl) dX11_holds_8 rfl (fun H locs hw => ?_)
  refine lv_i2l hx hb dX11_holds_11 rfl ?_
  refine lv_lmul hx hb dX11_holds_12 ?_
  refine lv_aload_n hx hb dX11_holds_13 rfl (lv_at hl 0 rfl) ?_
  refine lv_iload_n hx hb dX11_holds_14 rfl (lv_at hl 2 rfl) ?_
  obtain ⟨v15, hv15, hf⟩ := ob_e hf
  refine xcallV (ws' := (wM g h thrown ss states stateMany snapshot hasSnapshot text length at_ isWell rd readMany top bottom digit digitMany other otherMany column columnMany carryMany chainMost)) (st1 := [.int v15, .long (v2.toInt64 * v8.toInt64)]) (n := 9) E hw [.int a2] [0, 1, 2, 3, 4, 5, 6, 7, 8] (met_X11_up l g h thrown ss states stateMany snapshot hasSnapshot text length at_ isWell rd readMany top bottom digit digitMany other otherMany column columnMany carryMany chainMost a2 v15 hv15) rfl (by decide) rfl rfl [9, 10, 11, 12, 13, 14, 15, 16, 17] rfl (by decide +kernel) rfl rfl rfl rfl qw1144 k_X11_up ⟨rfl, rfl, Nat.le_of_ble_eq_true rfl, Nat.le_of_ble_eq_true rfl⟩ ⟨Nat.zero_le _, Nat.zero_le _⟩ hl.1 (Nat.le_of_ble_eq_true rfl) dX11_holds_15 rfl (fun H locs hw => ?_)
  refine lv_i2l hx hb dX11_holds_18 rfl ?_
  refine lv_aload_n hx hb dX11_holds_19 rfl (lv_at hl 0 rfl) ?_
  refine lv_iload_n hx hb dX11_holds_20 rfl (lv_at hl 1 rfl) ?_
  obtain ⟨v21, hv21, hf⟩ := ob_e hf
  refine xcallV (ws' := (wM g h thrown ss states stateMany snapshot hasSnapshot text length at_ isWell rd readMany top bottom digit digitMany other otherMany column columnMany carryMany chainMost)) (st1 := [.int v21, .long v15.toInt64, .long (v2.toInt64 * v8.toInt64)]) (n := 9) E hw [.int a1] [0, 1, 2, 3, 4, 5, 6, 7, 8] (met_X11_down l g h thrown ss states stateMany snapshot hasSnapshot text length at_ isWell rd readMany top bottom digit digitMany other otherMany column columnMany carryMany chainMost a1 v21 hv21) rfl (by decide) rfl rfl [9, 10, 11, 12, 13, 14, 15, 16, 17] rfl (by decide +kernel) rfl rfl rfl rfl qw1129 k_X11_down ⟨rfl, rfl, Nat.le_of_ble_eq_true rfl, Nat.le_of_ble_eq_true rfl⟩ ⟨Nat.zero_le _, Nat.zero_le _⟩ hl.1 (Nat.le_of_ble_eq_true rfl) dX11_holds_21 rfl (fun H locs hw => ?_)
  refine lv_i2l hx hb dX11_holds_24 rfl ?_
  refine lv_lmul hx hb dX11_holds_25 ?_
  refine lv_lsub hx hb dX11_holds_26 ?_
  refine lv_lstore_n (lv' := [(3, .long ((v2.toInt64 * v8.toInt64) - (v15.toInt64 * v21.toInt64))), (0, .ref (h 0)), (1, .int a1), (2, .int a2)]) hx hb dX11_holds_27 rfl hl (by decide) rfl (fun ls hl => ?_)
  refine lv_lload_n hx hb dX11_holds_28 rfl (lv_at hl 0 rfl) ?_
  refine lv_lconst (v := 0) hx hb dX11_holds_29 (by decide) ?_
  refine xlc_ge (tgt := 38) hx hb dX11_holds_30 dX11_holds_31 (by decide) (fun c30 => ?_) (fun c30 => ?_)
  · replace hf := iq c30 hf
    refine lv_lload_n hx hb dX11_holds_38 rfl (lv_at hl 0 rfl) ?_
    refine lv_lconst (v := 0) hx hb dX11_holds_39 (by decide) ?_
    refine xlc_le (tgt := 48) hx hb dX11_holds_40 dX11_holds_41 (by decide) (fun c40 => ?_) (fun c40 => ?_)
    · replace hf := iq c40 hf
      refine lv_iconst (v := 0) hx hb dX11_holds_48 (by decide) ?_
      exact hret _ _ _ _ _ (Option.some.inj hf) dX11_holds_49 hw
    · replace hf := ip c40 hf
      refine lv_iconst (v := 1) hx hb dX11_holds_44 (by decide) ?_
      refine lv_goto (tgt := 49) hx hb dX11_holds_45 (by decide) ?_
      exact hret _ _ _ _ _ (Option.some.inj hf) dX11_holds_49 hw
  · replace hf := ip c30 hf
    refine lv_iconst (v := (-1)) hx hb dX11_holds_34 (by decide) ?_
    refine lv_goto (tgt := 49) hx hb dX11_holds_35 (by decide) ?_
    exact hret _ _ _ _ _ (Option.some.inj hf) dX11_holds_49 hw
theorem k_X11_greatest : xKV yX11_greatest cX11_greatest 3 (some .int) 0 := ⟨qw1299, qw46, qw74, qw1300, by decide +kernel, by decide +kernel, by decide +kernel⟩
set_option maxHeartbeats 4000000 in
set_option maxRecDepth 100000 in
theorem met_X11_greatest (l : Launch) (g : xG) (h : Nat → Nat) (thrown : Int32) (ss : (Nat → Int32)) (states : (Nat → Int32)) (stateMany : Int32) (snapshot : (Nat → Int32)) (hasSnapshot : Int32) (text : (Nat → Int32)) (length : Int32) (at_ : Int32) (isWell : Int32) (rd : (Nat → Int32)) (readMany : Int32) (top : Int64) (bottom : Int64) (digit : (Nat → Int32)) (digitMany : Int32) (other : (Nat → Int32)) (otherMany : Int32) (column : (Nat → Int32)) (columnMany : Int32) (carryMany : Int32) (chainMost : Int32) (out : Int32) (hf : f_X11_greatest ss = some out) : xM l yX11_greatest (xC yX11_greatest cX11_greatest 3 (some .int)) { frames := 2, cells := 0, slots := 0, locals := 45 } g (wM g h thrown ss states stateMany snapshot hasSnapshot text length at_ isWell rd readMany top bottom digit digitMany other otherMany column columnMany carryMany chainMost) [.ref (h 0)] (some (.int out)) (wM g h thrown ss states stateMany snapshot hasSnapshot text length at_ isWell rd readMany top bottom digit digitMany other otherMany column columnMany carryMany chainMost) := by
  refine xof (by decide) (Nat.le_of_ble_eq_true rfl) ⟨rfl, rfl⟩ ?_
  intro p e s m below meth c A ls E hr hlocks hw hl hpost hAe
  have hx := E.1.1
  have hb := E.1.2.1
  have hown := E.1.2.2.2.1
  have hts := E.1.2.2.2.2
  generalize hZ : (MQ below (xPost g (wM g h thrown ss states stateMany snapshot hasSnapshot text length at_ isWell rd readMany top bottom digit digitMany other otherMany column columnMany carryMany chainMost) (wM g h thrown ss states stateMany snapshot hasSnapshot text length at_ isWell rd readMany top bottom digit digitMany other otherMany column columnMany carryMany chainMost) s.heap.size (some (.int out))) [.ref (h 0)].toArray s 0 0 A) = ZZ
  have hret : ∀ (pc : Nat) (H : Heap) (locs : List Loc) (ls : Array Slot) (v : Int32), v = out → decode cX11_greatest pc = .ok (.ireturn, 1) → xW g A s.heap (wM g h thrown ss states stateMany snapshot hasSnapshot text length at_ isWell rd readMany top bottom digit digitMany other otherMany column columnMany carryMany chainMost) H locs → W p l e { frames := 2, cells := 0, slots := 0, locals := 45 } s m [.ref (h 0)].toArray below meth c H locs 0 0 ZZ (F0 m pc ls [.int v]) := by
    intro pc H locs ls v he hd hw
    subst he
    rw [← hZ]
    exact W.iret hx hb hr (hpost H locs hw).1 (hpost H locs hw).2 hd hlocks
  clear hpost
  have b4 : ∀ n4 : Nat, ∀ (H : Heap) (locs : List Loc) (ls : Array Slot) (x1 : Int32) (x2 : Int32), xW g A s.heap (wM g h thrown ss states stateMany snapshot hasSnapshot text length at_ isWell rd readMany top bottom digit digitMany other otherMany column columnMany carryMany chainMost) H locs → lv_has ls 3 [(0, .ref (h 0)), (1, .int x1), (2, .int x2)] → f_X11_greatest_b4 n4 ss x1 x2 = some out → W p l e { frames := 2, cells := 0, slots := 0, locals := 45 } s m [.ref (h 0)].toArray below meth c H locs 0 0 ZZ (F0 m 4 ls []) := by
    intro n4
    induction n4 with
    | zero =>
      intro H locs ls x1 x2 hw hl hf
      exact nn hf
    | succ n4 ih4 =>
      have b24 : ∀ (H : Heap) (locs : List Loc) (ls : Array Slot) (x2 : Int32) (t0 : Int32), xW g A s.heap (wM g h thrown ss states stateMany snapshot hasSnapshot text length at_ isWell rd readMany top bottom digit digitMany other otherMany column columnMany carryMany chainMost) H locs → lv_has ls 3 [(0, .ref (h 0)), (2, .int x2)] → f_X11_greatest_b24 (f_X11_greatest_b4 n4) ss x2 t0 = some out → W p l e { frames := 2, cells := 0, slots := 0, locals := 45 } s m [.ref (h 0)].toArray below meth c H locs 0 0 ZZ (F0 m 24 ls [.int t0]) := by
        intro H locs ls x2 t0 hw hl hf
        refine lv_istore_n (lv' := [(1, .int t0), (0, .ref (h 0)), (2, .int x2)]) hx hb dX11_greatest_24 rfl hl (by decide) rfl (fun ls hl => ?_)
        refine lv_iinc (v := x2 + 1) (lv' := [(2, .int (x2 + 1)), (1, .int t0), (0, .ref (h 0))]) hx hb dX11_greatest_25 hl (k := 2) rfl rfl (by decide) rfl (fun ls hl => ?_)
        refine lv_goto (tgt := 4) hx hb dX11_greatest_28 (by decide) ?_
        exact ih4 _ _ _ t0 (x2 + 1) hw (lv_sub hl [2, 1, 0] rfl) hf
      intro H locs ls x1 x2 hw hl hf
      refine lv_iload_n hx hb dX11_greatest_4 rfl (lv_at hl 2 rfl) ?_
      refine lv_bipush (v := 6) hx hb dX11_greatest_5 (by decide) ?_
      refine lv_icmp_ge (tgt := 31) hx hb dX11_greatest_7 (by decide) (fun c7 => ?_) (fun c7 => ?_)
      · replace hf := ip c7 hf
        refine lv_iload_n hx hb dX11_greatest_31 rfl (lv_at hl 1 rfl) ?_
        exact hret _ _ _ _ _ (Option.some.inj hf) dX11_greatest_32 hw
      · replace hf := iq c7 hf
        refine lv_aload_n hx hb dX11_greatest_10 rfl (lv_at hl 0 rfl) ?_
        refine lv_iload_n hx hb dX11_greatest_11 rfl (lv_at hl 2 rfl) ?_
        refine lv_iload_n hx hb dX11_greatest_12 rfl (lv_at hl 1 rfl) ?_
        obtain ⟨v13, hv13, hf⟩ := ob_e hf
        refine xcallV (ws' := (wM g h thrown ss states stateMany snapshot hasSnapshot text length at_ isWell rd readMany top bottom digit digitMany other otherMany column columnMany carryMany chainMost)) (st1 := [.int v13]) (n := 9) E hw [.int x2, .int x1] [0, 1, 2, 3, 4, 5, 6, 7, 8] (met_X11_holds l g h thrown ss states stateMany snapshot hasSnapshot text length at_ isWell rd readMany top bottom digit digitMany other otherMany column columnMany carryMany chainMost x2 x1 v13 hv13) rfl (by decide) rfl rfl [9, 10, 11, 12, 13, 14, 15, 16, 17] rfl (by decide +kernel) rfl rfl rfl rfl qw1289 k_X11_holds ⟨rfl, rfl, Nat.le_of_ble_eq_true rfl, Nat.le_of_ble_eq_true rfl⟩ ⟨Nat.zero_le _, Nat.zero_le _⟩ hl.1 (Nat.le_of_ble_eq_true rfl) dX11_greatest_13 rfl (fun H locs hw => ?_)
        refine lv_if_le (tgt := 23) hx hb dX11_greatest_16 (by decide) (fun c16 => ?_) (fun c16 => ?_)
        · replace hf := ip c16 hf
          refine lv_iload_n hx hb dX11_greatest_23 rfl (lv_at hl 1 rfl) ?_
          exact b24 _ _ _ x2 x1 hw (lv_sub hl [0, 2] rfl) hf
        · replace hf := iq c16 hf
          refine lv_iload_n hx hb dX11_greatest_19 rfl (lv_at hl 2 rfl) ?_
          refine lv_goto (tgt := 24) hx hb dX11_greatest_20 (by decide) ?_
          exact b24 _ _ _ x2 x2 hw (lv_sub hl [0, 2] rfl) hf
  refine lv_iconst (v := 0) hx hb dX11_greatest_0 (by decide) ?_
  refine lv_istore_n (lv' := [(1, .int 0), (0, .ref (h 0))]) hx hb dX11_greatest_1 rfl hl (by decide) rfl (fun ls hl => ?_)
  refine lv_iconst (v := 1) hx hb dX11_greatest_2 (by decide) ?_
  refine lv_istore_n (lv' := [(2, .int 1), (1, .int 0), (0, .ref (h 0))]) hx hb dX11_greatest_3 rfl hl (by decide) rfl (fun ls hl => ?_)
  exact b4 xfuel _ _ _ 0 1 hw (lv_sub hl [2, 1, 0] rfl) hf
theorem k_X11_tellsDigits : xKV yX11_tellsDigits cX11_tellsDigits 3 none 1 := ⟨qw1311, qw48, qw74, qw1312, by decide +kernel, by decide +kernel, by decide +kernel⟩
set_option maxHeartbeats 4000000 in
set_option maxRecDepth 100000 in
theorem met_X11_tellsDigits (l : Launch) (g : xG) (h : Nat → Nat) (thrown : Int32) (ss : (Nat → Int32)) (states : (Nat → Int32)) (stateMany : Int32) (snapshot : (Nat → Int32)) (hasSnapshot : Int32) (text : (Nat → Int32)) (length : Int32) (at_ : Int32) (isWell : Int32) (rd : (Nat → Int32)) (readMany : Int32) (top : Int64) (bottom : Int64) (digit : (Nat → Int32)) (digitMany : Int32) (other : (Nat → Int32)) (otherMany : Int32) (column : (Nat → Int32)) (columnMany : Int32) (carryMany : Int32) (chainMost : Int32) (a1 : Int32) (out : (Nat → Int32) × Int32) (hf : f_X11_tellsDigits ss digit digitMany a1 = some out) : xM l yX11_tellsDigits (xC yX11_tellsDigits cX11_tellsDigits 3 none) { frames := 2, cells := 0, slots := 0, locals := 42 } g (wM g h thrown ss states stateMany snapshot hasSnapshot text length at_ isWell rd readMany top bottom digit digitMany other otherMany column columnMany carryMany chainMost) [.ref (h 0), .int a1] none (wM g h thrown ss states stateMany snapshot hasSnapshot text length at_ isWell rd readMany top bottom out.1 out.2 other otherMany column columnMany carryMany chainMost) := by
  refine xof (by decide) (Nat.le_of_ble_eq_true rfl) ⟨rfl, rfl⟩ ?_
  intro p e s m below meth c A ls E hr hlocks hw hl hpost hAe
  have hx := E.1.1
  have hb := E.1.2.1
  have hown := E.1.2.2.2.1
  have hts := E.1.2.2.2.2
  generalize hZ : (MQ below (xPost g (wM g h thrown ss states stateMany snapshot hasSnapshot text length at_ isWell rd readMany top bottom digit digitMany other otherMany column columnMany carryMany chainMost) (wM g h thrown ss states stateMany snapshot hasSnapshot text length at_ isWell rd readMany top bottom out.1 out.2 other otherMany column columnMany carryMany chainMost) s.heap.size none) [.ref (h 0), .int a1].toArray s 0 0 A) = ZZ
  have hret : ∀ (pc : Nat) (H : Heap) (locs : List Loc) (ls : Array Slot) (cdigit : (Nat → Int32)) (cdigitMany : Int32), (cdigit, cdigitMany) = out → decode cX11_tellsDigits pc = .ok (.return_, 1) → xW g A s.heap (wM g h thrown ss states stateMany snapshot hasSnapshot text length at_ isWell rd readMany top bottom cdigit cdigitMany other otherMany column columnMany carryMany chainMost) H locs → W p l e { frames := 2, cells := 0, slots := 0, locals := 42 } s m [.ref (h 0), .int a1].toArray below meth c H locs 0 0 ZZ (F0 m pc ls []) := by
    intro pc H locs ls cdigit cdigitMany he hd hw
    subst he
    rw [← hZ]
    exact W.vret hx hb hr (hpost H locs hw).1 (hpost H locs hw).2 hd hlocks
  clear hpost
  have b11 : ∀ n11 : Nat, ∀ (H : Heap) (locs : List Loc) (ls : Array Slot) (digit : (Nat → Int32)) (digitMany : Int32) (x2 : Int32), xW g A s.heap (wM g h thrown ss states stateMany snapshot hasSnapshot text length at_ isWell rd readMany top bottom digit digitMany other otherMany column columnMany carryMany chainMost) H locs → lv_has ls 3 [(0, .ref (h 0)), (2, .int x2)] → f_X11_tellsDigits_b11 n11 ss digit digitMany x2 = some out → W p l e { frames := 2, cells := 0, slots := 0, locals := 42 } s m [.ref (h 0), .int a1].toArray below meth c H locs 0 0 ZZ (F0 m 11 ls []) := by
    intro n11
    induction n11 with
    | zero =>
      intro H locs ls digit digitMany x2 hw hl hf
      exact nn hf
    | succ n11 ih11 =>
      have b22 : ∀ (H : Heap) (locs : List Loc) (ls : Array Slot) (digit : (Nat → Int32)) (digitMany : Int32) (x2 : Int32), xW g A s.heap (wM g h thrown ss states stateMany snapshot hasSnapshot text length at_ isWell rd readMany top bottom digit digitMany other otherMany column columnMany carryMany chainMost) H locs → lv_has ls 3 [(0, .ref (h 0)), (2, .int x2)] → f_X11_tellsDigits_b22 (f_X11_tellsDigits_b11 n11) ss digit digitMany x2 = some out → W p l e { frames := 2, cells := 0, slots := 0, locals := 42 } s m [.ref (h 0), .int a1].toArray below meth c H locs 0 0 ZZ (F0 m 22 ls []) := by
        intro H locs ls digit digitMany x2 hw hl hf
        refine lv_aload_n hx hb dX11_tellsDigits_22 rfl (lv_at hl 0 rfl) ?_
        refine xget (v := .ref (h 6)) E hw 0 rfl rfl 14 (by decide) inw11 qw1033 rfl rfl dX11_tellsDigits_23 ?_
        refine lv_aload_n hx hb dX11_tellsDigits_26 rfl (lv_at hl 0 rfl) ?_
        refine xget (v := .int digitMany) E hw 0 rfl rfl 15 (by decide) inw11 qw1034 rfl rfl dX11_tellsDigits_27 ?_
        refine lv_iload_n hx hb dX11_tellsDigits_30 rfl (lv_at hl 1 rfl) ?_
        refine lv_aload_n hx hb dX11_tellsDigits_31 rfl (lv_at hl 0 rfl) ?_
        refine xget (v := .ref (h 1)) E hw 0 rfl rfl 1 (by decide) inw11 qw1020 rfl rfl dX11_tellsDigits_32 ?_
        refine lv_iconst (v := 0) hx hb dX11_tellsDigits_35 (by decide) ?_
        refine xiald E hw 1 rfl (by decide) dX11_tellsDigits_36 ?_
        obtain ⟨hz, hf⟩ := nz hf
        refine lv_irem hx hb dX11_tellsDigits_37 hz ?_
        obtain ⟨hz, hf⟩ := nz hf
        refine xiast (ws' := (wM g h thrown ss states stateMany snapshot hasSnapshot text length at_ isWell rd readMany top bottom (upd digit digitMany.toNatClampNeg (x2 - x2 / (ss (0 : Int32).toNatClampNeg) * (ss (0 : Int32).toNatClampNeg))) digitMany other otherMany column columnMany carryMany chainMost)) E hw 6 rfl hz dX11_tellsDigits_38 rfl (fun H locs hw => ?_)
        refine lv_iload_n hx hb dX11_tellsDigits_39 rfl (lv_at hl 1 rfl) ?_
        refine lv_aload_n hx hb dX11_tellsDigits_40 rfl (lv_at hl 0 rfl) ?_
        refine xget (v := .ref (h 1)) E hw 0 rfl rfl 1 (by decide) inw11 qw1020 rfl rfl dX11_tellsDigits_41 ?_
        refine lv_iconst (v := 0) hx hb dX11_tellsDigits_44 (by decide) ?_
        refine xiald E hw 1 rfl (by decide) dX11_tellsDigits_45 ?_
        obtain ⟨hz, hf⟩ := nz hf
        refine lv_idiv hx hb dX11_tellsDigits_46 hz ?_
        refine lv_istore_n (lv' := [(2, .int (x2 / (ss (0 : Int32).toNatClampNeg))), (0, .ref (h 0))]) hx hb dX11_tellsDigits_47 rfl hl (by decide) rfl (fun ls hl => ?_)
        refine lv_aload_n hx hb dX11_tellsDigits_48 rfl (lv_at hl 1 rfl) ?_
        refine lv_dup hx hb dX11_tellsDigits_49 rfl ?_
        refine xget (v := .int digitMany) E hw 0 rfl rfl 15 (by decide) inw11 qw1034 rfl rfl dX11_tellsDigits_50 ?_
        refine lv_iconst (v := 1) hx hb dX11_tellsDigits_53 (by decide) ?_
        refine lv_iadd hx hb dX11_tellsDigits_54 ?_
        refine xput (ws' := (wM g h thrown ss states stateMany snapshot hasSnapshot text length at_ isWell rd readMany top bottom (upd digit digitMany.toNatClampNeg (x2 - x2 / (ss (0 : Int32).toNatClampNeg) * (ss (0 : Int32).toNatClampNeg))) (digitMany + 1) other otherMany column columnMany carryMany chainMost)) E hw 0 rfl rfl 15 (by decide) inw11 tyX11_ok nmX11 qw1034 rfl rfl rfl rfl (Nat.le_of_ble_eq_true rfl) dX11_tellsDigits_55 rfl (fun H locs hw => ?_)
        refine lv_goto (tgt := 11) hx hb dX11_tellsDigits_58 (by decide) ?_
        exact ih11 _ _ _ (upd digit digitMany.toNatClampNeg (x2 - x2 / (ss (0 : Int32).toNatClampNeg) * (ss (0 : Int32).toNatClampNeg))) (digitMany + 1) (x2 / (ss (0 : Int32).toNatClampNeg)) hw (lv_sub hl [1, 0] rfl) hf
      intro H locs ls digit digitMany x2 hw hl hf
      refine lv_iload_n hx hb dX11_tellsDigits_11 rfl (lv_at hl 1 rfl) ?_
      refine lv_if_gt (tgt := 22) hx hb dX11_tellsDigits_12 (by decide) (fun c12 => ?_) (fun c12 => ?_)
      · replace hf := ip c12 hf
        exact b22 _ _ _ digit digitMany x2 hw (lv_sub hl [0, 1] rfl) hf
      · replace hf := iq c12 hf
        refine lv_aload_n hx hb dX11_tellsDigits_15 rfl (lv_at hl 0 rfl) ?_
        refine xget (v := .int digitMany) E hw 0 rfl rfl 15 (by decide) inw11 qw1034 rfl rfl dX11_tellsDigits_16 ?_
        refine lv_if_ne (tgt := 61) hx hb dX11_tellsDigits_19 (by decide) (fun c19 => ?_) (fun c19 => ?_)
        · replace hf := iq c19 hf
          exact hret _ _ _ _ _ _ (Option.some.inj hf) dX11_tellsDigits_61 hw
        · replace hf := ip c19 hf
          exact b22 _ _ _ digit digitMany x2 hw (lv_sub hl [0, 1] rfl) hf
  refine lv_aload_n hx hb dX11_tellsDigits_0 rfl (lv_at hl 0 rfl) ?_
  refine lv_iload_n hx hb dX11_tellsDigits_1 rfl (lv_at hl 1 rfl) ?_
  obtain ⟨v2, hv2, hf⟩ := ob_e hf
  refine xcallV (ws' := (wM g h thrown ss states stateMany snapshot hasSnapshot text length at_ isWell rd readMany top bottom digit digitMany other otherMany column columnMany carryMany chainMost)) (st1 := [.int v2]) (n := 9) E hw [.int a1] [0, 1, 2, 3, 4, 5, 6, 7, 8] (met_X11_wholeOf l g h thrown ss states stateMany snapshot hasSnapshot text length at_ isWell rd readMany top bottom digit digitMany other otherMany column columnMany carryMany chainMost a1 v2 hv2) rfl (by decide) rfl rfl [9, 10, 11, 12, 13, 14, 15, 16, 17] rfl (by decide +kernel) rfl rfl rfl rfl qw1169 k_X11_wholeOf ⟨rfl, rfl, Nat.le_of_ble_eq_true rfl, Nat.le_of_ble_eq_true rfl⟩ ⟨Nat.zero_le _, Nat.zero_le _⟩ hl.1 (Nat.le_of_ble_eq_true rfl) dX11_tellsDigits_2 rfl (fun H locs hw => ?_)
  refine lv_istore_n (lv' := [(2, .int v2), (0, .ref (h 0)), (1, .int a1)]) hx hb dX11_tellsDigits_5 rfl hl (by decide) rfl (fun ls hl => ?_)
  refine lv_aload_n hx hb dX11_tellsDigits_6 rfl (lv_at hl 1 rfl) ?_
  refine lv_iconst (v := 0) hx hb dX11_tellsDigits_7 (by decide) ?_
  refine xput (ws' := (wM g h thrown ss states stateMany snapshot hasSnapshot text length at_ isWell rd readMany top bottom digit 0 other otherMany column columnMany carryMany chainMost)) E hw 0 rfl rfl 15 (by decide) inw11 tyX11_ok nmX11 qw1034 rfl rfl rfl rfl (Nat.le_of_ble_eq_true rfl) dX11_tellsDigits_8 rfl (fun H locs hw => ?_)
  exact b11 xfuel _ _ _ digit 0 v2 hw (lv_sub hl [1, 0] rfl) hf
theorem k_X11_sumOf : xKV yX11_sumOf cX11_sumOf 4 (some .int) 1 := ⟨qw1331, qw50, qw74, qw1332, by decide +kernel, by decide +kernel, by decide +kernel⟩
set_option maxHeartbeats 4000000 in
set_option maxRecDepth 100000 in
theorem met_X11_sumOf (l : Launch) (g : xG) (h : Nat → Nat) (thrown : Int32) (ss : (Nat → Int32)) (states : (Nat → Int32)) (stateMany : Int32) (snapshot : (Nat → Int32)) (hasSnapshot : Int32) (text : (Nat → Int32)) (length : Int32) (at_ : Int32) (isWell : Int32) (rd : (Nat → Int32)) (readMany : Int32) (top : Int64) (bottom : Int64) (digit : (Nat → Int32)) (digitMany : Int32) (other : (Nat → Int32)) (otherMany : Int32) (column : (Nat → Int32)) (columnMany : Int32) (carryMany : Int32) (chainMost : Int32) (a1 : Int32) (out : Int32 × (Nat → Int32) × Int32) (hf : f_X11_sumOf ss digit digitMany a1 = some out) : xM l yX11_sumOf (xC yX11_sumOf cX11_sumOf 4 (some .int)) { frames := 3, cells := 0, slots := 0, locals := 64 } g (wM g h thrown ss states stateMany snapshot hasSnapshot text length at_ isWell rd readMany top bottom digit digitMany other otherMany column columnMany carryMany chainMost) [.ref (h 0), .int a1] (some (.int out.1)) (wM g h thrown ss states stateMany snapshot hasSnapshot text length at_ isWell rd readMany top bottom out.2.1 out.2.2 other otherMany column columnMany carryMany chainMost) := by
  refine xof (by decide) (Nat.le_of_ble_eq_true rfl) ⟨rfl, rfl⟩ ?_
  intro p e s m below meth c A ls E hr hlocks hw hl hpost hAe
  have hx := E.1.1
  have hb := E.1.2.1
  have hown := E.1.2.2.2.1
  have hts := E.1.2.2.2.2
  generalize hZ : (MQ below (xPost g (wM g h thrown ss states stateMany snapshot hasSnapshot text length at_ isWell rd readMany top bottom digit digitMany other otherMany column columnMany carryMany chainMost) (wM g h thrown ss states stateMany snapshot hasSnapshot text length at_ isWell rd readMany top bottom out.2.1 out.2.2 other otherMany column columnMany carryMany chainMost) s.heap.size (some (.int out.1))) [.ref (h 0), .int a1].toArray s 0 0 A) = ZZ
  have hret : ∀ (pc : Nat) (H : Heap) (locs : List Loc) (ls : Array Slot) (v : Int32) (cdigit : (Nat → Int32)) (cdigitMany : Int32), (v, cdigit, cdigitMany) = out → decode cX11_sumOf pc = .ok (.ireturn, 1) → xW g A s.heap (wM g h thrown ss states stateMany snapshot hasSnapshot text length at_ isWell rd readMany top bottom cdigit cdigitMany other otherMany column columnMany carryMany chainMost) H locs → W p l e { frames := 3, cells := 0, slots := 0, locals := 64 } s m [.ref (h 0), .int a1].toArray below meth c H locs 0 0 ZZ (F0 m pc ls [.int v]) := by
    intro pc H locs ls v cdigit cdigitMany he hd hw
    subst he
    rw [← hZ]
    exact W.iret hx hb hr (hpost H locs hw).1 (hpost H locs hw).2 hd hlocks
  clear hpost
  have b9 : ∀ n9 : Nat, ∀ (H : Heap) (locs : List Loc) (ls : Array Slot) (digit : (Nat → Int32)) (digitMany : Int32) (x2 : Int32) (x3 : Int32), xW g A s.heap (wM g h thrown ss states stateMany snapshot hasSnapshot text length at_ isWell rd readMany top bottom digit digitMany other otherMany column columnMany carryMany chainMost) H locs → lv_has ls 4 [(0, .ref (h 0)), (2, .int x2), (3, .int x3)] → f_X11_sumOf_b9 n9 ss digit digitMany x2 x3 = some out → W p l e { frames := 3, cells := 0, slots := 0, locals := 64 } s m [.ref (h 0), .int a1].toArray below meth c H locs 0 0 ZZ (F0 m 9 ls []) := by
    intro n9
    induction n9 with
    | zero =>
      intro H locs ls digit digitMany x2 x3 hw hl hf
      exact nn hf
    | succ n9 ih9 =>
      intro H locs ls digit digitMany x2 x3 hw hl hf
      refine lv_iload_n hx hb dX11_sumOf_9 rfl (lv_at hl 2 rfl) ?_
      refine lv_aload_n hx hb dX11_sumOf_10 rfl (lv_at hl 0 rfl) ?_
      refine xget (v := .int digitMany) E hw 0 rfl rfl 15 (by decide) inw11 qw1034 rfl rfl dX11_sumOf_11 ?_
      refine lv_icmp_ge (tgt := 32) hx hb dX11_sumOf_14 (by decide) (fun c14 => ?_) (fun c14 => ?_)
      · replace hf := ip c14 hf
        refine lv_iload_n hx hb dX11_sumOf_32 rfl (lv_at hl 1 rfl) ?_
        exact hret _ _ _ _ _ _ _ (Option.some.inj hf) dX11_sumOf_33 hw
      · replace hf := iq c14 hf
        refine lv_iload_n hx hb dX11_sumOf_17 rfl (lv_at hl 1 rfl) ?_
        refine lv_aload_n hx hb dX11_sumOf_18 rfl (lv_at hl 0 rfl) ?_
        refine xget (v := .ref (h 6)) E hw 0 rfl rfl 14 (by decide) inw11 qw1033 rfl rfl dX11_sumOf_19 ?_
        refine lv_iload_n hx hb dX11_sumOf_22 rfl (lv_at hl 2 rfl) ?_
        obtain ⟨hz, hf⟩ := nz hf
        refine xiald E hw 6 rfl hz dX11_sumOf_23 ?_
        refine lv_iadd hx hb dX11_sumOf_24 ?_
        refine lv_istore_n (lv' := [(2, .int (x2 + (digit x3.toNatClampNeg))), (0, .ref (h 0)), (3, .int x3)]) hx hb dX11_sumOf_25 rfl hl (by decide) rfl (fun ls hl => ?_)
        refine lv_iinc (v := x3 + 1) (lv' := [(3, .int (x3 + 1)), (2, .int (x2 + (digit x3.toNatClampNeg))), (0, .ref (h 0))]) hx hb dX11_sumOf_26 hl (k := 2) rfl rfl (by decide) rfl (fun ls hl => ?_)
        refine lv_goto (tgt := 9) hx hb dX11_sumOf_29 (by decide) ?_
        exact ih9 _ _ _ digit digitMany (x2 + (digit x3.toNatClampNeg)) (x3 + 1) hw (lv_sub hl [2, 1, 0] rfl) hf
  refine lv_iconst (v := 0) hx hb dX11_sumOf_0 (by decide) ?_
  refine lv_istore_n (lv' := [(2, .int 0), (0, .ref (h 0)), (1, .int a1)]) hx hb dX11_sumOf_1 rfl hl (by decide) rfl (fun ls hl => ?_)
  refine lv_aload_n hx hb dX11_sumOf_2 rfl (lv_at hl 1 rfl) ?_
  refine lv_iload_n hx hb dX11_sumOf_3 rfl (lv_at hl 2 rfl) ?_
  obtain ⟨v4, hv4, hf⟩ := ob_e hf
  refine xcallV (ws' := (wM g h thrown ss states stateMany snapshot hasSnapshot text length at_ isWell rd readMany top bottom v4.1 v4.2 other otherMany column columnMany carryMany chainMost)) (st1 := []) (n := 9) E hw [.int a1] [0, 1, 2, 3, 4, 5, 6, 7, 8] (met_X11_tellsDigits l g h thrown ss states stateMany snapshot hasSnapshot text length at_ isWell rd readMany top bottom digit digitMany other otherMany column columnMany carryMany chainMost a1 v4 hv4) rfl (by decide) rfl rfl [9, 10, 11, 12, 13, 14, 15, 16, 17] rfl (by decide +kernel) rfl rfl rfl rfl qw1309 k_X11_tellsDigits ⟨rfl, rfl, Nat.le_of_ble_eq_true rfl, Nat.le_of_ble_eq_true rfl⟩ ⟨Nat.zero_le _, Nat.zero_le _⟩ hl.1 (Nat.le_of_ble_eq_true rfl) dX11_sumOf_4 rfl (fun H locs hw => ?_)
  refine lv_iconst (v := 0) hx hb dX11_sumOf_7 (by decide) ?_
  refine lv_istore_n (lv' := [(3, .int 0), (2, .int 0), (0, .ref (h 0)), (1, .int a1)]) hx hb dX11_sumOf_8 rfl hl (by decide) rfl (fun ls hl => ?_)
  exact b9 xfuel _ _ _ v4.1 v4.2 0 0 hw (lv_sub hl [2, 1, 0] rfl) hf
theorem k_X11_headOf : xKS yX11_headOf cX11_headOf 5 (some .int) 2 := ⟨qw1350, qw74, qw1351, by decide +kernel, by decide +kernel, by decide +kernel⟩
set_option maxHeartbeats 4000000 in
set_option maxRecDepth 100000 in
theorem met_X11_headOf (l : Launch) (g : xG) (a0 : Int32) (a1 : Int32) (out : Int32) (hf : f_X11_headOf a0 a1 = some out) : xM l yX11_headOf (xC yX11_headOf cX11_headOf 5 (some .int)) { frames := 1, cells := 0, slots := 0, locals := 29 } g ([] : va_W) [.int a0, .int a1] (some (.int out)) ([] : va_W) := by
  refine xof (by decide) (Nat.le_of_ble_eq_true rfl) ⟨rfl, rfl⟩ ?_
  intro p e s m below meth c A ls E hr hlocks hw hl hpost hAe
  have hx := E.1.1
  have hb := E.1.2.1
  have hown := E.1.2.2.2.1
  have hts := E.1.2.2.2.2
  generalize hZ : (MQ below (xPost g ([] : va_W) ([] : va_W) s.heap.size (some (.int out))) [.int a0, .int a1].toArray s 0 0 A) = ZZ
  have hret : ∀ (pc : Nat) (H : Heap) (locs : List Loc) (ls : Array Slot) (v : Int32), v = out → decode cX11_headOf pc = .ok (.ireturn, 1) → xW g A s.heap ([] : va_W) H locs → W p l e { frames := 1, cells := 0, slots := 0, locals := 29 } s m [.int a0, .int a1].toArray below meth c H locs 0 0 ZZ (F0 m pc ls [.int v]) := by
    intro pc H locs ls v he hd hw
    subst he
    rw [← hZ]
    exact W.iret hx hb hr (hpost H locs hw).1 (hpost H locs hw).2 hd hlocks
  clear hpost
  have b14 : ∀ n14 : Nat, ∀ (H : Heap) (locs : List Loc) (ls : Array Slot) (x1 : Int32) (x2 : Int32) (x3 : Int32) (x4 : Int32), xW g A s.heap ([] : va_W) H locs → lv_has ls 5 [(1, .int x1), (2, .int x2), (3, .int x3), (4, .int x4)] → f_X11_headOf_b14 n14 x1 x2 x3 x4 = some out → W p l e { frames := 1, cells := 0, slots := 0, locals := 29 } s m [.int a0, .int a1].toArray below meth c H locs 0 0 ZZ (F0 m 14 ls []) := by
    intro n14
    induction n14 with
    | zero =>
      intro H locs ls x1 x2 x3 x4 hw hl hf
      exact nn hf
    | succ n14 ih14 =>
      intro H locs ls x1 x2 x3 x4 hw hl hf
      refine lv_iload hx hb dX11_headOf_14 (lv_at hl 3 rfl) ?_
      refine lv_iconst (v := 1) hx hb dX11_headOf_16 (by decide) ?_
      refine lv_icmp_le (tgt := 41) hx hb dX11_headOf_17 (by decide) (fun c17 => ?_) (fun c17 => ?_)
      · replace hf := ip c17 hf
        refine lv_iload_n hx hb dX11_headOf_41 rfl (lv_at hl 1 rfl) ?_
        exact hret _ _ _ _ _ (Option.some.inj hf) dX11_headOf_42 hw
      · replace hf := iq c17 hf
        refine lv_iload_n hx hb dX11_headOf_20 rfl (lv_at hl 2 rfl) ?_
        refine lv_iload hx hb dX11_headOf_21 (lv_at hl 3 rfl) ?_
        obtain ⟨hz, hf⟩ := nz hf
        refine lv_idiv hx hb dX11_headOf_23 hz ?_
        refine lv_istore_n (lv' := [(3, .int (x3 / x4)), (1, .int x1), (2, .int x2), (4, .int x4)]) hx hb dX11_headOf_24 rfl hl (by decide) rfl (fun ls hl => ?_)
        refine lv_iinc (v := x2 + 1) (lv' := [(2, .int (x2 + 1)), (3, .int (x3 / x4)), (1, .int x1), (4, .int x4)]) hx hb dX11_headOf_25 hl (k := 2) rfl rfl (by decide) rfl (fun ls hl => ?_)
        refine lv_iload_n hx hb dX11_headOf_28 rfl (lv_at hl 1 rfl) ?_
        refine lv_i2l hx hb dX11_headOf_29 rfl ?_
        refine lv_iload_n hx hb dX11_headOf_30 rfl (lv_at hl 2 rfl) ?_
        refine lv_i2l hx hb dX11_headOf_31 rfl ?_
        obtain ⟨v32, hv32, hf⟩ := ob_e hf
        refine xcallS (ws' := ([] : va_W)) (st1 := [.long v32]) (n := 0) E hw [.long ((x3 / x4).toInt64), .long x1.toInt64] [] (met_X11_factor l g ((x3 / x4).toInt64) x1.toInt64 v32 hv32) rfl (by decide) rfl rfl [] rfl (by decide +kernel) rfl qw1120 k_X11_factor ⟨rfl, rfl, Nat.le_of_ble_eq_true rfl, Nat.le_of_ble_eq_true rfl⟩ ⟨Nat.zero_le _, Nat.zero_le _⟩ hl.1 (Nat.le_of_ble_eq_true rfl) dX11_headOf_32 rfl (fun H locs hw => ?_)
        refine lv_l2i hx hb dX11_headOf_35 rfl ?_
        refine lv_istore (lv' := [(4, .int v32.toInt32), (2, .int (x2 + 1)), (3, .int (x3 / x4)), (1, .int x1)]) hx hb dX11_headOf_36 hl (by decide) rfl (fun ls hl => ?_)
        refine lv_goto (tgt := 14) hx hb dX11_headOf_38 (by decide) ?_
        exact ih14 _ _ _ x1 (x2 + 1) (x3 / x4) v32.toInt32 hw (lv_sub hl [3, 1, 2, 0] rfl) hf
  refine lv_iconst (v := 0) hx hb dX11_headOf_0 (by decide) ?_
  refine lv_istore_n (lv' := [(2, .int 0), (0, .int a0), (1, .int a1)]) hx hb dX11_headOf_1 rfl hl (by decide) rfl (fun ls hl => ?_)
  refine lv_iload_n hx hb dX11_headOf_2 rfl (lv_at hl 1 rfl) ?_
  refine lv_istore_n (lv' := [(3, .int a0), (2, .int 0), (0, .int a0), (1, .int a1)]) hx hb dX11_headOf_3 rfl hl (by decide) rfl (fun ls hl => ?_)
  refine lv_iload_n hx hb dX11_headOf_4 rfl (lv_at hl 0 rfl) ?_
  refine lv_i2l hx hb dX11_headOf_5 rfl ?_
  refine lv_iload_n hx hb dX11_headOf_6 rfl (lv_at hl 3 rfl) ?_
  refine lv_i2l hx hb dX11_headOf_7 rfl ?_
  obtain ⟨v8, hv8, hf⟩ := ob_e hf
  refine xcallS (ws' := ([] : va_W)) (st1 := [.long v8]) (n := 0) E hw [.long a0.toInt64, .long a1.toInt64] [] (met_X11_factor l g a0.toInt64 a1.toInt64 v8 hv8) rfl (by decide) rfl rfl [] rfl (by decide +kernel) rfl qw1120 k_X11_factor ⟨rfl, rfl, Nat.le_of_ble_eq_true rfl, Nat.le_of_ble_eq_true rfl⟩ ⟨Nat.zero_le _, Nat.zero_le _⟩ hl.1 (Nat.le_of_ble_eq_true rfl) dX11_headOf_8 rfl (fun H locs hw => ?_)
  refine lv_l2i hx hb dX11_headOf_11 rfl ?_
  refine lv_istore (lv' := [(4, .int v8.toInt32), (3, .int a0), (2, .int 0), (0, .int a0), (1, .int a1)]) hx hb dX11_headOf_12 hl (by decide) rfl (fun ls hl => ?_)
  exact b14 xfuel _ _ _ a1 0 a0 v8.toInt32 hw (lv_sub hl [4, 2, 1, 0] rfl) hf
theorem k_X11_periodOf : xKS yX11_periodOf cX11_periodOf 6 (some .int) 2 := ⟨qw1361, qw74, qw1362, by decide +kernel, by decide +kernel, by decide +kernel⟩
set_option maxHeartbeats 4000000 in
set_option maxRecDepth 100000 in
theorem met_X11_periodOf (l : Launch) (g : xG) (a0 : Int32) (a1 : Int32) (out : Int32) (hf : f_X11_periodOf a0 a1 = some out) : xM l yX11_periodOf (xC yX11_periodOf cX11_periodOf 6 (some .int)) { frames := 1, cells := 0, slots := 0, locals := 29 } g ([] : va_W) [.int a0, .int a1] (some (.int out)) ([] : va_W) := by
  refine xof (by decide) (Nat.le_of_ble_eq_true rfl) ⟨rfl, rfl⟩ ?_
  intro p e s m below meth c A ls E hr hlocks hw hl hpost hAe
  have hx := E.1.1
  have hb := E.1.2.1
  have hown := E.1.2.2.2.1
  have hts := E.1.2.2.2.2
  generalize hZ : (MQ below (xPost g ([] : va_W) ([] : va_W) s.heap.size (some (.int out))) [.int a0, .int a1].toArray s 0 0 A) = ZZ
  have hret : ∀ (pc : Nat) (H : Heap) (locs : List Loc) (ls : Array Slot) (v : Int32), v = out → decode cX11_periodOf pc = .ok (.ireturn, 1) → xW g A s.heap ([] : va_W) H locs → W p l e { frames := 1, cells := 0, slots := 0, locals := 29 } s m [.int a0, .int a1].toArray below meth c H locs 0 0 ZZ (F0 m pc ls [.int v]) := by
    intro pc H locs ls v he hd hw
    subst he
    rw [← hZ]
    exact W.iret hx hb hr (hpost H locs hw).1 (hpost H locs hw).2 hd hlocks
  clear hpost
  have b58 : ∀ n58 : Nat, ∀ (H : Heap) (locs : List Loc) (ls : Array Slot) (x1 : Int32) (x2 : Int32) (x4 : Int32) (x5 : Int32), xW g A s.heap ([] : va_W) H locs → lv_has ls 6 [(1, .int x1), (2, .int x2), (4, .int x4), (5, .int x5)] → f_X11_periodOf_b58 n58 x1 x2 x4 x5 = some out → W p l e { frames := 1, cells := 0, slots := 0, locals := 29 } s m [.int a0, .int a1].toArray below meth c H locs 0 0 ZZ (F0 m 58 ls []) := by
    intro n58
    induction n58 with
    | zero =>
      intro H locs ls x1 x2 x4 x5 hw hl hf
      exact nn hf
    | succ n58 ih58 =>
      intro H locs ls x1 x2 x4 x5 hw hl hf
      refine lv_iload_n hx hb dX11_periodOf_58 rfl (lv_at hl 1 rfl) ?_
      refine lv_iconst (v := 1) hx hb dX11_periodOf_59 (by decide) ?_
      refine lv_icmp_le (tgt := 83) hx hb dX11_periodOf_60 (by decide) (fun c60 => ?_) (fun c60 => ?_)
      · replace hf := ip c60 hf
        refine lv_iload hx hb dX11_periodOf_83 (lv_at hl 2 rfl) ?_
        exact hret _ _ _ _ _ (Option.some.inj hf) dX11_periodOf_85 hw
      · replace hf := iq c60 hf
        refine lv_iload hx hb dX11_periodOf_63 (lv_at hl 3 rfl) ?_
        refine lv_iconst (v := 1) hx hb dX11_periodOf_65 (by decide) ?_
        refine lv_icmp_eq (tgt := 83) hx hb dX11_periodOf_66 (by decide) (fun c66 => ?_) (fun c66 => ?_)
        · replace hf := ip c66 hf
          refine lv_iload hx hb dX11_periodOf_83 (lv_at hl 2 rfl) ?_
          exact hret _ _ _ _ _ (Option.some.inj hf) dX11_periodOf_85 hw
        · replace hf := iq c66 hf
          refine lv_iload hx hb dX11_periodOf_69 (lv_at hl 3 rfl) ?_
          refine lv_iload_n hx hb dX11_periodOf_71 rfl (lv_at hl 0 rfl) ?_
          refine lv_imul hx hb dX11_periodOf_72 ?_
          refine lv_iload_n hx hb dX11_periodOf_73 rfl (lv_at hl 1 rfl) ?_
          obtain ⟨hz, hf⟩ := nz hf
          refine lv_irem hx hb dX11_periodOf_74 hz ?_
          refine lv_istore (lv' := [(5, .int ((x5 * x1) - (x5 * x1) / x2 * x2)), (1, .int x1), (2, .int x2), (4, .int x4)]) hx hb dX11_periodOf_75 hl (by decide) rfl (fun ls hl => ?_)
          refine lv_iinc (v := x4 + 1) (lv' := [(4, .int (x4 + 1)), (5, .int ((x5 * x1) - (x5 * x1) / x2 * x2)), (1, .int x1), (2, .int x2)]) hx hb dX11_periodOf_77 hl (k := 3) rfl rfl (by decide) rfl (fun ls hl => ?_)
          refine lv_goto (tgt := 58) hx hb dX11_periodOf_80 (by decide) ?_
          exact ih58 _ _ _ x1 x2 (x4 + 1) ((x5 * x1) - (x5 * x1) / x2 * x2) hw (lv_sub hl [2, 3, 0, 1] rfl) hf
  have b56 : ∀ (H : Heap) (locs : List Loc) (ls : Array Slot) (x1 : Int32) (x2 : Int32) (x4 : Int32) (t0 : Int32), xW g A s.heap ([] : va_W) H locs → lv_has ls 6 [(1, .int x1), (2, .int x2), (4, .int x4)] → f_X11_periodOf_b56 x1 x2 x4 t0 = some out → W p l e { frames := 1, cells := 0, slots := 0, locals := 29 } s m [.int a0, .int a1].toArray below meth c H locs 0 0 ZZ (F0 m 56 ls [.int t0]) := by
    intro H locs ls x1 x2 x4 t0 hw hl hf
    refine lv_istore (lv' := [(5, .int t0), (1, .int x1), (2, .int x2), (4, .int x4)]) hx hb dX11_periodOf_56 hl (by decide) rfl (fun ls hl => ?_)
    exact b58 xfuel _ _ _ x1 x2 x4 t0 hw (lv_sub hl [1, 2, 3, 0] rfl) hf
  have b42 : ∀ (H : Heap) (locs : List Loc) (ls : Array Slot) (x1 : Int32) (x2 : Int32) (t0 : Int32), xW g A s.heap ([] : va_W) H locs → lv_has ls 6 [(1, .int x1), (2, .int x2)] → f_X11_periodOf_b42 x1 x2 t0 = some out → W p l e { frames := 1, cells := 0, slots := 0, locals := 29 } s m [.int a0, .int a1].toArray below meth c H locs 0 0 ZZ (F0 m 42 ls [.int t0]) := by
    intro H locs ls x1 x2 t0 hw hl hf
    refine lv_istore (lv' := [(4, .int t0), (1, .int x1), (2, .int x2)]) hx hb dX11_periodOf_42 hl (by decide) rfl (fun ls hl => ?_)
    refine lv_iload_n hx hb dX11_periodOf_44 rfl (lv_at hl 2 rfl) ?_
    refine lv_iconst (v := 1) hx hb dX11_periodOf_45 (by decide) ?_
    refine lv_icmp_ne (tgt := 53) hx hb dX11_periodOf_46 (by decide) (fun c46 => ?_) (fun c46 => ?_)
    · replace hf := iq c46 hf
      refine lv_iload_n hx hb dX11_periodOf_53 rfl (lv_at hl 1 rfl) ?_
      refine lv_iload_n hx hb dX11_periodOf_54 rfl (lv_at hl 2 rfl) ?_
      obtain ⟨hz, hf⟩ := nz hf
      refine lv_irem hx hb dX11_periodOf_55 hz ?_
      exact b56 _ _ _ x1 x2 t0 (x1 - x1 / x2 * x2) hw (lv_sub hl [1, 2, 0] rfl) hf
    · replace hf := ip c46 hf
      refine lv_iconst (v := 1) hx hb dX11_periodOf_49 (by decide) ?_
      refine lv_goto (tgt := 56) hx hb dX11_periodOf_50 (by decide) ?_
      exact b56 _ _ _ x1 x2 t0 1 hw (lv_sub hl [1, 2, 0] rfl) hf
  have b11 : ∀ n11 : Nat, ∀ (H : Heap) (locs : List Loc) (ls : Array Slot) (x1 : Int32) (x2 : Int32) (x3 : Int32), xW g A s.heap ([] : va_W) H locs → lv_has ls 6 [(1, .int x1), (2, .int x2), (3, .int x3)] → f_X11_periodOf_b11 n11 x1 x2 x3 = some out → W p l e { frames := 1, cells := 0, slots := 0, locals := 29 } s m [.int a0, .int a1].toArray below meth c H locs 0 0 ZZ (F0 m 11 ls []) := by
    intro n11
    induction n11 with
    | zero =>
      intro H locs ls x1 x2 x3 hw hl hf
      exact nn hf
    | succ n11 ih11 =>
      intro H locs ls x1 x2 x3 hw hl hf
      refine lv_iload_n hx hb dX11_periodOf_11 rfl (lv_at hl 2 rfl) ?_
      refine lv_iconst (v := 1) hx hb dX11_periodOf_12 (by decide) ?_
      refine lv_icmp_le (tgt := 32) hx hb dX11_periodOf_13 (by decide) (fun c13 => ?_) (fun c13 => ?_)
      · replace hf := ip c13 hf
        refine lv_iload_n hx hb dX11_periodOf_32 rfl (lv_at hl 1 rfl) ?_
        refine lv_iconst (v := 1) hx hb dX11_periodOf_33 (by decide) ?_
        refine lv_icmp_ne (tgt := 41) hx hb dX11_periodOf_34 (by decide) (fun c34 => ?_) (fun c34 => ?_)
        · replace hf := iq c34 hf
          refine lv_iconst (v := 1) hx hb dX11_periodOf_41 (by decide) ?_
          exact b42 _ _ _ x1 x2 1 hw (lv_sub hl [0, 1] rfl) hf
        · replace hf := ip c34 hf
          refine lv_iconst (v := 0) hx hb dX11_periodOf_37 (by decide) ?_
          refine lv_goto (tgt := 42) hx hb dX11_periodOf_38 (by decide) ?_
          exact b42 _ _ _ x1 x2 0 hw (lv_sub hl [0, 1] rfl) hf
      · replace hf := iq c13 hf
        refine lv_iload_n hx hb dX11_periodOf_16 rfl (lv_at hl 1 rfl) ?_
        refine lv_iload_n hx hb dX11_periodOf_17 rfl (lv_at hl 2 rfl) ?_
        obtain ⟨hz, hf⟩ := nz hf
        refine lv_idiv hx hb dX11_periodOf_18 hz ?_
        refine lv_istore_n (lv' := [(2, .int (x2 / x3)), (1, .int x1), (3, .int x3)]) hx hb dX11_periodOf_19 rfl hl (by decide) rfl (fun ls hl => ?_)
        refine lv_iload_n hx hb dX11_periodOf_20 rfl (lv_at hl 0 rfl) ?_
        refine lv_i2l hx hb dX11_periodOf_21 rfl ?_
        refine lv_iload_n hx hb dX11_periodOf_22 rfl (lv_at hl 1 rfl) ?_
        refine lv_i2l hx hb dX11_periodOf_23 rfl ?_
        obtain ⟨v24, hv24, hf⟩ := ob_e hf
        refine xcallS (ws' := ([] : va_W)) (st1 := [.long v24]) (n := 0) E hw [.long ((x2 / x3).toInt64), .long x1.toInt64] [] (met_X11_factor l g ((x2 / x3).toInt64) x1.toInt64 v24 hv24) rfl (by decide) rfl rfl [] rfl (by decide +kernel) rfl qw1120 k_X11_factor ⟨rfl, rfl, Nat.le_of_ble_eq_true rfl, Nat.le_of_ble_eq_true rfl⟩ ⟨Nat.zero_le _, Nat.zero_le _⟩ hl.1 (Nat.le_of_ble_eq_true rfl) dX11_periodOf_24 rfl (fun H locs hw => ?_)
        refine lv_l2i hx hb dX11_periodOf_27 rfl ?_
        refine lv_istore_n (lv' := [(3, .int v24.toInt32), (2, .int (x2 / x3)), (1, .int x1)]) hx hb dX11_periodOf_28 rfl hl (by decide) rfl (fun ls hl => ?_)
        refine lv_goto (tgt := 11) hx hb dX11_periodOf_29 (by decide) ?_
        exact ih11 _ _ _ x1 (x2 / x3) v24.toInt32 hw (lv_sub hl [2, 1, 0] rfl) hf
  refine lv_iload_n hx hb dX11_periodOf_0 rfl (lv_at hl 0 rfl) ?_
  refine lv_istore_n (lv' := [(2, .int a0), (0, .int a0), (1, .int a1)]) hx hb dX11_periodOf_1 rfl hl (by decide) rfl (fun ls hl => ?_)
  refine lv_iload_n hx hb dX11_periodOf_2 rfl (lv_at hl 0 rfl) ?_
  refine lv_i2l hx hb dX11_periodOf_3 rfl ?_
  refine lv_iload_n hx hb dX11_periodOf_4 rfl (lv_at hl 2 rfl) ?_
  refine lv_i2l hx hb dX11_periodOf_5 rfl ?_
  obtain ⟨v6, hv6, hf⟩ := ob_e hf
  refine xcallS (ws' := ([] : va_W)) (st1 := [.long v6]) (n := 0) E hw [.long a0.toInt64, .long a1.toInt64] [] (met_X11_factor l g a0.toInt64 a1.toInt64 v6 hv6) rfl (by decide) rfl rfl [] rfl (by decide +kernel) rfl qw1120 k_X11_factor ⟨rfl, rfl, Nat.le_of_ble_eq_true rfl, Nat.le_of_ble_eq_true rfl⟩ ⟨Nat.zero_le _, Nat.zero_le _⟩ hl.1 (Nat.le_of_ble_eq_true rfl) dX11_periodOf_6 rfl (fun H locs hw => ?_)
  refine lv_l2i hx hb dX11_periodOf_9 rfl ?_
  refine lv_istore_n (lv' := [(3, .int v6.toInt32), (2, .int a0), (0, .int a0), (1, .int a1)]) hx hb dX11_periodOf_10 rfl hl (by decide) rfl (fun ls hl => ?_)
  exact b11 xfuel _ _ _ a1 a0 v6.toInt32 hw (lv_sub hl [3, 1, 0] rfl) hf
theorem k_X11_digitAfter : xKV yX11_digitAfter cX11_digitAfter 6 (some .int) 2 := ⟨qw1373, qw53, qw74, qw1374, by decide +kernel, by decide +kernel, by decide +kernel⟩
set_option maxHeartbeats 4000000 in
set_option maxRecDepth 100000 in
theorem met_X11_digitAfter (l : Launch) (g : xG) (h : Nat → Nat) (thrown : Int32) (ss : (Nat → Int32)) (states : (Nat → Int32)) (stateMany : Int32) (snapshot : (Nat → Int32)) (hasSnapshot : Int32) (text : (Nat → Int32)) (length : Int32) (at_ : Int32) (isWell : Int32) (rd : (Nat → Int32)) (readMany : Int32) (top : Int64) (bottom : Int64) (digit : (Nat → Int32)) (digitMany : Int32) (other : (Nat → Int32)) (otherMany : Int32) (column : (Nat → Int32)) (columnMany : Int32) (carryMany : Int32) (chainMost : Int32) (a1 : Int32) (a2 : Int32) (out : Int32) (hf : f_X11_digitAfter ss a1 a2 = some out) : xM l yX11_digitAfter (xC yX11_digitAfter cX11_digitAfter 6 (some .int)) { frames := 1, cells := 0, slots := 0, locals := 21 } g (wM g h thrown ss states stateMany snapshot hasSnapshot text length at_ isWell rd readMany top bottom digit digitMany other otherMany column columnMany carryMany chainMost) [.ref (h 0), .int a1, .int a2] (some (.int out)) (wM g h thrown ss states stateMany snapshot hasSnapshot text length at_ isWell rd readMany top bottom digit digitMany other otherMany column columnMany carryMany chainMost) := by
  refine xof (by decide) (Nat.le_of_ble_eq_true rfl) ⟨rfl, rfl⟩ ?_
  intro p e s m below meth c A ls E hr hlocks hw hl hpost hAe
  have hx := E.1.1
  have hb := E.1.2.1
  have hown := E.1.2.2.2.1
  have hts := E.1.2.2.2.2
  generalize hZ : (MQ below (xPost g (wM g h thrown ss states stateMany snapshot hasSnapshot text length at_ isWell rd readMany top bottom digit digitMany other otherMany column columnMany carryMany chainMost) (wM g h thrown ss states stateMany snapshot hasSnapshot text length at_ isWell rd readMany top bottom digit digitMany other otherMany column columnMany carryMany chainMost) s.heap.size (some (.int out))) [.ref (h 0), .int a1, .int a2].toArray s 0 0 A) = ZZ
  have hret : ∀ (pc : Nat) (H : Heap) (locs : List Loc) (ls : Array Slot) (v : Int32), v = out → decode cX11_digitAfter pc = .ok (.ireturn, 1) → xW g A s.heap (wM g h thrown ss states stateMany snapshot hasSnapshot text length at_ isWell rd readMany top bottom digit digitMany other otherMany column columnMany carryMany chainMost) H locs → W p l e { frames := 1, cells := 0, slots := 0, locals := 21 } s m [.ref (h 0), .int a1, .int a2].toArray below meth c H locs 0 0 ZZ (F0 m pc ls [.int v]) := by
    intro pc H locs ls v he hd hw
    subst he
    rw [← hZ]
    exact W.iret hx hb hr (hpost H locs hw).1 (hpost H locs hw).2 hd hlocks
  clear hpost
  have b18 : ∀ n18 : Nat, ∀ (H : Heap) (locs : List Loc) (ls : Array Slot) (x1 : Int32) (x2 : Int32) (x3 : Int32) (x4 : Int32) (x5 : Int32), xW g A s.heap (wM g h thrown ss states stateMany snapshot hasSnapshot text length at_ isWell rd readMany top bottom digit digitMany other otherMany column columnMany carryMany chainMost) H locs → lv_has ls 6 [(0, .ref (h 0)), (1, .int x1), (2, .int x2), (3, .int x3), (4, .int x4), (5, .int x5)] → f_X11_digitAfter_b18 n18 ss x1 x2 x3 x4 x5 = some out → W p l e { frames := 1, cells := 0, slots := 0, locals := 21 } s m [.ref (h 0), .int a1, .int a2].toArray below meth c H locs 0 0 ZZ (F0 m 18 ls []) := by
    intro n18
    induction n18 with
    | zero =>
      intro H locs ls x1 x2 x3 x4 x5 hw hl hf
      exact nn hf
    | succ n18 ih18 =>
      intro H locs ls x1 x2 x3 x4 x5 hw hl hf
      refine lv_iload hx hb dX11_digitAfter_18 (lv_at hl 5 rfl) ?_
      refine lv_iload_n hx hb dX11_digitAfter_20 rfl (lv_at hl 2 rfl) ?_
      refine lv_icmp_gt (tgt := 61) hx hb dX11_digitAfter_21 (by decide) (fun c21 => ?_) (fun c21 => ?_)
      · replace hf := ip c21 hf
        refine lv_iload hx hb dX11_digitAfter_61 (lv_at hl 4 rfl) ?_
        exact hret _ _ _ _ _ (Option.some.inj hf) dX11_digitAfter_63 hw
      · replace hf := iq c21 hf
        refine lv_iload_n hx hb dX11_digitAfter_24 rfl (lv_at hl 3 rfl) ?_
        refine lv_aload_n hx hb dX11_digitAfter_25 rfl (lv_at hl 0 rfl) ?_
        refine xget (v := .ref (h 1)) E hw 0 rfl rfl 1 (by decide) inw11 qw1020 rfl rfl dX11_digitAfter_26 ?_
        refine lv_iconst (v := 0) hx hb dX11_digitAfter_29 (by decide) ?_
        refine xiald E hw 1 rfl (by decide) dX11_digitAfter_30 ?_
        refine lv_imul hx hb dX11_digitAfter_31 ?_
        refine lv_aload_n hx hb dX11_digitAfter_32 rfl (lv_at hl 0 rfl) ?_
        refine lv_iload_n hx hb dX11_digitAfter_33 rfl (lv_at hl 1 rfl) ?_
        obtain ⟨v34, hv34, hf⟩ := ob_e hf
        refine xcallV (ws' := (wM g h thrown ss states stateMany snapshot hasSnapshot text length at_ isWell rd readMany top bottom digit digitMany other otherMany column columnMany carryMany chainMost)) (st1 := [.int v34, .int (x3 * (ss (0 : Int32).toNatClampNeg))]) (n := 9) E hw [.int x1] [0, 1, 2, 3, 4, 5, 6, 7, 8] (met_X11_down l g h thrown ss states stateMany snapshot hasSnapshot text length at_ isWell rd readMany top bottom digit digitMany other otherMany column columnMany carryMany chainMost x1 v34 hv34) rfl (by decide) rfl rfl [9, 10, 11, 12, 13, 14, 15, 16, 17] rfl (by decide +kernel) rfl rfl rfl rfl qw1129 k_X11_down ⟨rfl, rfl, Nat.le_of_ble_eq_true rfl, Nat.le_of_ble_eq_true rfl⟩ ⟨Nat.zero_le _, Nat.zero_le _⟩ hl.1 (Nat.le_of_ble_eq_true rfl) dX11_digitAfter_34 rfl (fun H locs hw => ?_)
        obtain ⟨hz, hf⟩ := nz hf
        refine lv_idiv hx hb dX11_digitAfter_37 hz ?_
        refine lv_istore (lv' := [(4, .int ((x3 * (ss (0 : Int32).toNatClampNeg)) / v34)), (0, .ref (h 0)), (1, .int x1), (2, .int x2), (3, .int x3), (5, .int x5)]) hx hb dX11_digitAfter_38 hl (by decide) rfl (fun ls hl => ?_)
        refine lv_iload_n hx hb dX11_digitAfter_40 rfl (lv_at hl 4 rfl) ?_
        refine lv_aload_n hx hb dX11_digitAfter_41 rfl (lv_at hl 1 rfl) ?_
        refine xget (v := .ref (h 1)) E hw 0 rfl rfl 1 (by decide) inw11 qw1020 rfl rfl dX11_digitAfter_42 ?_
        refine lv_iconst (v := 0) hx hb dX11_digitAfter_45 (by decide) ?_
        refine xiald E hw 1 rfl (by decide) dX11_digitAfter_46 ?_
        refine lv_imul hx hb dX11_digitAfter_47 ?_
        refine lv_aload_n hx hb dX11_digitAfter_48 rfl (lv_at hl 1 rfl) ?_
        refine lv_iload_n hx hb dX11_digitAfter_49 rfl (lv_at hl 2 rfl) ?_
        obtain ⟨v50, hv50, hf⟩ := ob_e hf
        refine xcallV (ws' := (wM g h thrown ss states stateMany snapshot hasSnapshot text length at_ isWell rd readMany top bottom digit digitMany other otherMany column columnMany carryMany chainMost)) (st1 := [.int v50, .int (x3 * (ss (0 : Int32).toNatClampNeg))]) (n := 9) E hw [.int x1] [0, 1, 2, 3, 4, 5, 6, 7, 8] (met_X11_down l g h thrown ss states stateMany snapshot hasSnapshot text length at_ isWell rd readMany top bottom digit digitMany other otherMany column columnMany carryMany chainMost x1 v50 hv50) rfl (by decide) rfl rfl [9, 10, 11, 12, 13, 14, 15, 16, 17] rfl (by decide +kernel) rfl rfl rfl rfl qw1129 k_X11_down ⟨rfl, rfl, Nat.le_of_ble_eq_true rfl, Nat.le_of_ble_eq_true rfl⟩ ⟨Nat.zero_le _, Nat.zero_le _⟩ hl.1 (Nat.le_of_ble_eq_true rfl) dX11_digitAfter_50 rfl (fun H locs hw => ?_)
        obtain ⟨hz, hf⟩ := nz hf
        refine lv_irem hx hb dX11_digitAfter_53 hz ?_
        refine lv_istore_n (lv' := [(3, .int ((x3 * (ss (0 : Int32).toNatClampNeg)) - (x3 * (ss (0 : Int32).toNatClampNeg)) / v50 * v50)), (4, .int ((x3 * (ss (0 : Int32).toNatClampNeg)) / v34)), (0, .ref (h 0)), (1, .int x1), (2, .int x2), (5, .int x5)]) hx hb dX11_digitAfter_54 rfl hl (by decide) rfl (fun ls hl => ?_)
        refine lv_iinc (v := x5 + 1) (lv' := [(5, .int (x5 + 1)), (3, .int ((x3 * (ss (0 : Int32).toNatClampNeg)) - (x3 * (ss (0 : Int32).toNatClampNeg)) / v50 * v50)), (4, .int ((x3 * (ss (0 : Int32).toNatClampNeg)) / v34)), (0, .ref (h 0)), (1, .int x1), (2, .int x2)]) hx hb dX11_digitAfter_55 hl (k := 5) rfl rfl (by decide) rfl (fun ls hl => ?_)
        refine lv_goto (tgt := 18) hx hb dX11_digitAfter_58 (by decide) ?_
        exact ih18 _ _ _ x1 x2 ((x3 * (ss (0 : Int32).toNatClampNeg)) - (x3 * (ss (0 : Int32).toNatClampNeg)) / v50 * v50) ((x3 * (ss (0 : Int32).toNatClampNeg)) / v34) (x5 + 1) hw (lv_sub hl [3, 4, 5, 1, 2, 0] rfl) hf
  refine lv_aload_n hx hb dX11_digitAfter_0 rfl (lv_at hl 0 rfl) ?_
  refine lv_iload_n hx hb dX11_digitAfter_1 rfl (lv_at hl 1 rfl) ?_
  obtain ⟨v2, hv2, hf⟩ := ob_e hf
  refine xcallV (ws' := (wM g h thrown ss states stateMany snapshot hasSnapshot text length at_ isWell rd readMany top bottom digit digitMany other otherMany column columnMany carryMany chainMost)) (st1 := [.int v2]) (n := 9) E hw [.int a1] [0, 1, 2, 3, 4, 5, 6, 7, 8] (met_X11_up l g h thrown ss states stateMany snapshot hasSnapshot text length at_ isWell rd readMany top bottom digit digitMany other otherMany column columnMany carryMany chainMost a1 v2 hv2) rfl (by decide) rfl rfl [9, 10, 11, 12, 13, 14, 15, 16, 17] rfl (by decide +kernel) rfl rfl rfl rfl qw1144 k_X11_up ⟨rfl, rfl, Nat.le_of_ble_eq_true rfl, Nat.le_of_ble_eq_true rfl⟩ ⟨Nat.zero_le _, Nat.zero_le _⟩ hl.1 (Nat.le_of_ble_eq_true rfl) dX11_digitAfter_2 rfl (fun H locs hw => ?_)
  refine lv_aload_n hx hb dX11_digitAfter_5 rfl (lv_at hl 0 rfl) ?_
  refine lv_iload_n hx hb dX11_digitAfter_6 rfl (lv_at hl 1 rfl) ?_
  obtain ⟨v7, hv7, hf⟩ := ob_e hf
  refine xcallV (ws' := (wM g h thrown ss states stateMany snapshot hasSnapshot text length at_ isWell rd readMany top bottom digit digitMany other otherMany column columnMany carryMany chainMost)) (st1 := [.int v7, .int v2]) (n := 9) E hw [.int a1] [0, 1, 2, 3, 4, 5, 6, 7, 8] (met_X11_down l g h thrown ss states stateMany snapshot hasSnapshot text length at_ isWell rd readMany top bottom digit digitMany other otherMany column columnMany carryMany chainMost a1 v7 hv7) rfl (by decide) rfl rfl [9, 10, 11, 12, 13, 14, 15, 16, 17] rfl (by decide +kernel) rfl rfl rfl rfl qw1129 k_X11_down ⟨rfl, rfl, Nat.le_of_ble_eq_true rfl, Nat.le_of_ble_eq_true rfl⟩ ⟨Nat.zero_le _, Nat.zero_le _⟩ hl.1 (Nat.le_of_ble_eq_true rfl) dX11_digitAfter_7 rfl (fun H locs hw => ?_)
  obtain ⟨hz, hf⟩ := nz hf
  refine lv_irem hx hb dX11_digitAfter_10 hz ?_
  refine lv_istore_n (lv' := [(3, .int (v2 - v2 / v7 * v7)), (0, .ref (h 0)), (1, .int a1), (2, .int a2)]) hx hb dX11_digitAfter_11 rfl hl (by decide) rfl (fun ls hl => ?_)
  refine lv_iconst (v := 0) hx hb dX11_digitAfter_12 (by decide) ?_
  refine lv_istore (lv' := [(4, .int 0), (3, .int (v2 - v2 / v7 * v7)), (0, .ref (h 0)), (1, .int a1), (2, .int a2)]) hx hb dX11_digitAfter_13 hl (by decide) rfl (fun ls hl => ?_)
  refine lv_iconst (v := 0) hx hb dX11_digitAfter_15 (by decide) ?_
  refine lv_istore (lv' := [(5, .int 0), (4, .int 0), (3, .int (v2 - v2 / v7 * v7)), (0, .ref (h 0)), (1, .int a1), (2, .int a2)]) hx hb dX11_digitAfter_16 hl (by decide) rfl (fun ls hl => ?_)
  exact b18 xfuel _ _ _ a1 a2 (v2 - v2 / v7 * v7) 0 0 hw (lv_sub hl [3, 4, 5, 2, 1, 0] rfl) hf
theorem k_X11_bestBase : xKV yX11_bestBase cX11_bestBase 6 (some .int) 1 := ⟨qw1381, qw54, qw74, qw1382, by decide +kernel, by decide +kernel, by decide +kernel⟩
set_option maxHeartbeats 4000000 in
set_option maxRecDepth 100000 in
theorem met_X11_bestBase (l : Launch) (g : xG) (h : Nat → Nat) (thrown : Int32) (ss : (Nat → Int32)) (states : (Nat → Int32)) (stateMany : Int32) (snapshot : (Nat → Int32)) (hasSnapshot : Int32) (text : (Nat → Int32)) (length : Int32) (at_ : Int32) (isWell : Int32) (rd : (Nat → Int32)) (readMany : Int32) (top : Int64) (bottom : Int64) (digit : (Nat → Int32)) (digitMany : Int32) (other : (Nat → Int32)) (otherMany : Int32) (column : (Nat → Int32)) (columnMany : Int32) (carryMany : Int32) (chainMost : Int32) (a1 : Int32) (out : Int32) (hf : f_X11_bestBase ss a1 = some out) : xM l yX11_bestBase (xC yX11_bestBase cX11_bestBase 6 (some .int)) { frames := 2, cells := 0, slots := 0, locals := 54 } g (wM g h thrown ss states stateMany snapshot hasSnapshot text length at_ isWell rd readMany top bottom digit digitMany other otherMany column columnMany carryMany chainMost) [.ref (h 0), .int a1] (some (.int out)) (wM g h thrown ss states stateMany snapshot hasSnapshot text length at_ isWell rd readMany top bottom digit digitMany other otherMany column columnMany carryMany chainMost) := by
  refine xof (by decide) (Nat.le_of_ble_eq_true rfl) ⟨rfl, rfl⟩ ?_
  intro p e s m below meth c A ls E hr hlocks hw hl hpost hAe
  have hx := E.1.1
  have hb := E.1.2.1
  have hown := E.1.2.2.2.1
  have hts := E.1.2.2.2.2
  generalize hZ : (MQ below (xPost g (wM g h thrown ss states stateMany snapshot hasSnapshot text length at_ isWell rd readMany top bottom digit digitMany other otherMany column columnMany carryMany chainMost) (wM g h thrown ss states stateMany snapshot hasSnapshot text length at_ isWell rd readMany top bottom digit digitMany other otherMany column columnMany carryMany chainMost) s.heap.size (some (.int out))) [.ref (h 0), .int a1].toArray s 0 0 A) = ZZ
  have hret : ∀ (pc : Nat) (H : Heap) (locs : List Loc) (ls : Array Slot) (v : Int32), v = out → decode cX11_bestBase pc = .ok (.ireturn, 1) → xW g A s.heap (wM g h thrown ss states stateMany snapshot hasSnapshot text length at_ isWell rd readMany top bottom digit digitMany other otherMany column columnMany carryMany chainMost) H locs → W p l e { frames := 2, cells := 0, slots := 0, locals := 54 } s m [.ref (h 0), .int a1].toArray below meth c H locs 0 0 ZZ (F0 m pc ls [.int v]) := by
    intro pc H locs ls v he hd hw
    subst he
    rw [← hZ]
    exact W.iret hx hb hr (hpost H locs hw).1 (hpost H locs hw).2 hd hlocks
  clear hpost
  have b25 : ∀ n25 : Nat, ∀ (H : Heap) (locs : List Loc) (ls : Array Slot) (x1 : Int32) (x2 : Int32) (x3 : Int32) (x4 : Int32), xW g A s.heap (wM g h thrown ss states stateMany snapshot hasSnapshot text length at_ isWell rd readMany top bottom digit digitMany other otherMany column columnMany carryMany chainMost) H locs → lv_has ls 6 [(0, .ref (h 0)), (1, .int x1), (2, .int x2), (3, .int x3), (4, .int x4)] → f_X11_bestBase_b25 n25 ss x1 x2 x3 x4 = some out → W p l e { frames := 2, cells := 0, slots := 0, locals := 54 } s m [.ref (h 0), .int a1].toArray below meth c H locs 0 0 ZZ (F0 m 25 ls []) := by
    intro n25
    induction n25 with
    | zero =>
      intro H locs ls x1 x2 x3 x4 hw hl hf
      exact nn hf
    | succ n25 ih25 =>
      have b80 : ∀ (H : Heap) (locs : List Loc) (ls : Array Slot) (x1 : Int32) (x2 : Int32) (x4 : Int32) (t0 : Int32), xW g A s.heap (wM g h thrown ss states stateMany snapshot hasSnapshot text length at_ isWell rd readMany top bottom digit digitMany other otherMany column columnMany carryMany chainMost) H locs → lv_has ls 6 [(0, .ref (h 0)), (1, .int x1), (2, .int x2), (4, .int x4)] → f_X11_bestBase_b80 (f_X11_bestBase_b25 n25) ss x1 x2 x4 t0 = some out → W p l e { frames := 2, cells := 0, slots := 0, locals := 54 } s m [.ref (h 0), .int a1].toArray below meth c H locs 0 0 ZZ (F0 m 80 ls [.int t0]) := by
        intro H locs ls x1 x2 x4 t0 hw hl hf
        refine lv_istore_n (lv' := [(3, .int t0), (0, .ref (h 0)), (1, .int x1), (2, .int x2), (4, .int x4)]) hx hb dX11_bestBase_80 rfl hl (by decide) rfl (fun ls hl => ?_)
        refine lv_iinc (v := x4 + 1) (lv' := [(4, .int (x4 + 1)), (3, .int t0), (0, .ref (h 0)), (1, .int x1), (2, .int x2)]) hx hb dX11_bestBase_81 hl (k := 4) rfl rfl (by decide) rfl (fun ls hl => ?_)
        refine lv_goto (tgt := 25) hx hb dX11_bestBase_84 (by decide) ?_
        exact ih25 _ _ _ x1 x2 t0 (x4 + 1) hw (lv_sub hl [2, 3, 4, 1, 0] rfl) hf
      have b67 : ∀ (H : Heap) (locs : List Loc) (ls : Array Slot) (x1 : Int32) (x3 : Int32) (x4 : Int32) (x5 : Int32) (t0 : Int32), xW g A s.heap (wM g h thrown ss states stateMany snapshot hasSnapshot text length at_ isWell rd readMany top bottom digit digitMany other otherMany column columnMany carryMany chainMost) H locs → lv_has ls 6 [(0, .ref (h 0)), (1, .int x1), (3, .int x3), (4, .int x4), (5, .int x5)] → f_X11_bestBase_b67 (f_X11_bestBase_b25 n25) ss x1 x3 x4 x5 t0 = some out → W p l e { frames := 2, cells := 0, slots := 0, locals := 54 } s m [.ref (h 0), .int a1].toArray below meth c H locs 0 0 ZZ (F0 m 67 ls [.int t0]) := by
        intro H locs ls x1 x3 x4 x5 t0 hw hl hf
        refine lv_istore_n (lv' := [(2, .int t0), (0, .ref (h 0)), (1, .int x1), (3, .int x3), (4, .int x4), (5, .int x5)]) hx hb dX11_bestBase_67 rfl hl (by decide) rfl (fun ls hl => ?_)
        refine lv_iload hx hb dX11_bestBase_68 (lv_at hl 5 rfl) ?_
        refine lv_iload_n hx hb dX11_bestBase_70 rfl (lv_at hl 3 rfl) ?_
        refine lv_icmp_ge (tgt := 79) hx hb dX11_bestBase_71 (by decide) (fun c71 => ?_) (fun c71 => ?_)
        · replace hf := ip c71 hf
          refine lv_iload_n hx hb dX11_bestBase_79 rfl (lv_at hl 3 rfl) ?_
          exact b80 _ _ _ x1 t0 x4 x3 hw (lv_sub hl [1, 2, 0, 4] rfl) hf
        · replace hf := iq c71 hf
          refine lv_iload hx hb dX11_bestBase_74 (lv_at hl 5 rfl) ?_
          refine lv_goto (tgt := 80) hx hb dX11_bestBase_76 (by decide) ?_
          exact b80 _ _ _ x1 t0 x4 x5 hw (lv_sub hl [1, 2, 0, 4] rfl) hf
      intro H locs ls x1 x2 x3 x4 hw hl hf
      refine lv_iload hx hb dX11_bestBase_25 (lv_at hl 4 rfl) ?_
      refine lv_bipush (v := 17) hx hb dX11_bestBase_27 (by decide) ?_
      refine lv_icmp_ge (tgt := 87) hx hb dX11_bestBase_29 (by decide) (fun c29 => ?_) (fun c29 => ?_)
      · replace hf := ip c29 hf
        refine lv_iload_n hx hb dX11_bestBase_87 rfl (lv_at hl 2 rfl) ?_
        exact hret _ _ _ _ _ (Option.some.inj hf) dX11_bestBase_88 hw
      · replace hf := iq c29 hf
        refine lv_aload_n hx hb dX11_bestBase_32 rfl (lv_at hl 0 rfl) ?_
        refine lv_iload_n hx hb dX11_bestBase_33 rfl (lv_at hl 1 rfl) ?_
        obtain ⟨v34, hv34, hf⟩ := ob_e hf
        refine xcallV (ws' := (wM g h thrown ss states stateMany snapshot hasSnapshot text length at_ isWell rd readMany top bottom digit digitMany other otherMany column columnMany carryMany chainMost)) (st1 := [.int v34]) (n := 9) E hw [.int x1] [0, 1, 2, 3, 4, 5, 6, 7, 8] (met_X11_down l g h thrown ss states stateMany snapshot hasSnapshot text length at_ isWell rd readMany top bottom digit digitMany other otherMany column columnMany carryMany chainMost x1 v34 hv34) rfl (by decide) rfl rfl [9, 10, 11, 12, 13, 14, 15, 16, 17] rfl (by decide +kernel) rfl rfl rfl rfl qw1129 k_X11_down ⟨rfl, rfl, Nat.le_of_ble_eq_true rfl, Nat.le_of_ble_eq_true rfl⟩ ⟨Nat.zero_le _, Nat.zero_le _⟩ hl.1 (Nat.le_of_ble_eq_true rfl) dX11_bestBase_34 rfl (fun H locs hw => ?_)
        refine lv_iload hx hb dX11_bestBase_37 (lv_at hl 4 rfl) ?_
        obtain ⟨v39, hv39, hf⟩ := ob_e hf
        refine xcallS (ws' := (wM g h thrown ss states stateMany snapshot hasSnapshot text length at_ isWell rd readMany top bottom digit digitMany other otherMany column columnMany carryMany chainMost)) (st1 := [.int v39]) (n := 9) E hw [.int v34, .int x4] [] (met_X11_headOf l g v34 x4 v39 hv39) rfl (by decide) rfl rfl [0, 1, 2, 3, 4, 5, 6, 7, 8] rfl (by decide +kernel) rfl qw1349 k_X11_headOf ⟨rfl, rfl, Nat.le_of_ble_eq_true rfl, Nat.le_of_ble_eq_true rfl⟩ ⟨Nat.zero_le _, Nat.zero_le _⟩ hl.1 (Nat.le_of_ble_eq_true rfl) dX11_bestBase_39 rfl (fun H locs hw => ?_)
        refine lv_aload_n hx hb dX11_bestBase_42 rfl (lv_at hl 0 rfl) ?_
        refine lv_iload_n hx hb dX11_bestBase_43 rfl (lv_at hl 1 rfl) ?_
        obtain ⟨v44, hv44, hf⟩ := ob_e hf
        refine xcallV (ws' := (wM g h thrown ss states stateMany snapshot hasSnapshot text length at_ isWell rd readMany top bottom digit digitMany other otherMany column columnMany carryMany chainMost)) (st1 := [.int v44, .int v39]) (n := 9) E hw [.int x1] [0, 1, 2, 3, 4, 5, 6, 7, 8] (met_X11_down l g h thrown ss states stateMany snapshot hasSnapshot text length at_ isWell rd readMany top bottom digit digitMany other otherMany column columnMany carryMany chainMost x1 v44 hv44) rfl (by decide) rfl rfl [9, 10, 11, 12, 13, 14, 15, 16, 17] rfl (by decide +kernel) rfl rfl rfl rfl qw1129 k_X11_down ⟨rfl, rfl, Nat.le_of_ble_eq_true rfl, Nat.le_of_ble_eq_true rfl⟩ ⟨Nat.zero_le _, Nat.zero_le _⟩ hl.1 (Nat.le_of_ble_eq_true rfl) dX11_bestBase_44 rfl (fun H locs hw => ?_)
        refine lv_iload hx hb dX11_bestBase_47 (lv_at hl 4 rfl) ?_
        obtain ⟨v49, hv49, hf⟩ := ob_e hf
        refine xcallS (ws' := (wM g h thrown ss states stateMany snapshot hasSnapshot text length at_ isWell rd readMany top bottom digit digitMany other otherMany column columnMany carryMany chainMost)) (st1 := [.int v49, .int v39]) (n := 9) E hw [.int v44, .int x4] [] (met_X11_periodOf l g v44 x4 v49 hv49) rfl (by decide) rfl rfl [0, 1, 2, 3, 4, 5, 6, 7, 8] rfl (by decide +kernel) rfl qw1360 k_X11_periodOf ⟨rfl, rfl, Nat.le_of_ble_eq_true rfl, Nat.le_of_ble_eq_true rfl⟩ ⟨Nat.zero_le _, Nat.zero_le _⟩ hl.1 (Nat.le_of_ble_eq_true rfl) dX11_bestBase_49 rfl (fun H locs hw => ?_)
        refine lv_iadd hx hb dX11_bestBase_52 ?_
        refine lv_istore (lv' := [(5, .int (v39 + v49)), (0, .ref (h 0)), (1, .int x1), (2, .int x2), (3, .int x3), (4, .int x4)]) hx hb dX11_bestBase_53 hl (by decide) rfl (fun ls hl => ?_)
        refine lv_iload hx hb dX11_bestBase_55 (lv_at hl 0 rfl) ?_
        refine lv_iload_n hx hb dX11_bestBase_57 rfl (lv_at hl 4 rfl) ?_
        refine lv_icmp_ge (tgt := 66) hx hb dX11_bestBase_58 (by decide) (fun c58 => ?_) (fun c58 => ?_)
        · replace hf := ip c58 hf
          refine lv_iload_n hx hb dX11_bestBase_66 rfl (lv_at hl 3 rfl) ?_
          exact b67 _ _ _ x1 x3 x4 (v39 + v49) x2 hw (lv_sub hl [1, 2, 4, 5, 0] rfl) hf
        · replace hf := iq c58 hf
          refine lv_iload hx hb dX11_bestBase_61 (lv_at hl 5 rfl) ?_
          refine lv_goto (tgt := 67) hx hb dX11_bestBase_63 (by decide) ?_
          exact b67 _ _ _ x1 x3 x4 (v39 + v49) x4 hw (lv_sub hl [1, 2, 4, 5, 0] rfl) hf
  refine lv_iconst (v := 2) hx hb dX11_bestBase_0 (by decide) ?_
  refine lv_istore_n (lv' := [(2, .int 2), (0, .ref (h 0)), (1, .int a1)]) hx hb dX11_bestBase_1 rfl hl (by decide) rfl (fun ls hl => ?_)
  refine lv_aload_n hx hb dX11_bestBase_2 rfl (lv_at hl 1 rfl) ?_
  refine lv_iload_n hx hb dX11_bestBase_3 rfl (lv_at hl 2 rfl) ?_
  obtain ⟨v4, hv4, hf⟩ := ob_e hf
  refine xcallV (ws' := (wM g h thrown ss states stateMany snapshot hasSnapshot text length at_ isWell rd readMany top bottom digit digitMany other otherMany column columnMany carryMany chainMost)) (st1 := [.int v4]) (n := 9) E hw [.int a1] [0, 1, 2, 3, 4, 5, 6, 7, 8] (met_X11_down l g h thrown ss states stateMany snapshot hasSnapshot text length at_ isWell rd readMany top bottom digit digitMany other otherMany column columnMany carryMany chainMost a1 v4 hv4) rfl (by decide) rfl rfl [9, 10, 11, 12, 13, 14, 15, 16, 17] rfl (by decide +kernel) rfl rfl rfl rfl qw1129 k_X11_down ⟨rfl, rfl, Nat.le_of_ble_eq_true rfl, Nat.le_of_ble_eq_true rfl⟩ ⟨Nat.zero_le _, Nat.zero_le _⟩ hl.1 (Nat.le_of_ble_eq_true rfl) dX11_bestBase_4 rfl (fun H locs hw => ?_)
  refine lv_iconst (v := 2) hx hb dX11_bestBase_7 (by decide) ?_
  obtain ⟨v8, hv8, hf⟩ := ob_e hf
  refine xcallS (ws' := (wM g h thrown ss states stateMany snapshot hasSnapshot text length at_ isWell rd readMany top bottom digit digitMany other otherMany column columnMany carryMany chainMost)) (st1 := [.int v8]) (n := 9) E hw [.int v4, .int 2] [] (met_X11_headOf l g v4 2 v8 hv8) rfl (by decide) rfl rfl [0, 1, 2, 3, 4, 5, 6, 7, 8] rfl (by decide +kernel) rfl qw1349 k_X11_headOf ⟨rfl, rfl, Nat.le_of_ble_eq_true rfl, Nat.le_of_ble_eq_true rfl⟩ ⟨Nat.zero_le _, Nat.zero_le _⟩ hl.1 (Nat.le_of_ble_eq_true rfl) dX11_bestBase_8 rfl (fun H locs hw => ?_)
  refine lv_aload_n hx hb dX11_bestBase_11 rfl (lv_at hl 1 rfl) ?_
  refine lv_iload_n hx hb dX11_bestBase_12 rfl (lv_at hl 2 rfl) ?_
  obtain ⟨v13, hv13, hf⟩ := ob_e hf
  refine xcallV (ws' := (wM g h thrown ss states stateMany snapshot hasSnapshot text length at_ isWell rd readMany top bottom digit digitMany other otherMany column columnMany carryMany chainMost)) (st1 := [.int v13, .int v8]) (n := 9) E hw [.int a1] [0, 1, 2, 3, 4, 5, 6, 7, 8] (met_X11_down l g h thrown ss states stateMany snapshot hasSnapshot text length at_ isWell rd readMany top bottom digit digitMany other otherMany column columnMany carryMany chainMost a1 v13 hv13) rfl (by decide) rfl rfl [9, 10, 11, 12, 13, 14, 15, 16, 17] rfl (by decide +kernel) rfl rfl rfl rfl qw1129 k_X11_down ⟨rfl, rfl, Nat.le_of_ble_eq_true rfl, Nat.le_of_ble_eq_true rfl⟩ ⟨Nat.zero_le _, Nat.zero_le _⟩ hl.1 (Nat.le_of_ble_eq_true rfl) dX11_bestBase_13 rfl (fun H locs hw => ?_)
  refine lv_iconst (v := 2) hx hb dX11_bestBase_16 (by decide) ?_
  obtain ⟨v17, hv17, hf⟩ := ob_e hf
  refine xcallS (ws' := (wM g h thrown ss states stateMany snapshot hasSnapshot text length at_ isWell rd readMany top bottom digit digitMany other otherMany column columnMany carryMany chainMost)) (st1 := [.int v17, .int v8]) (n := 9) E hw [.int v13, .int 2] [] (met_X11_periodOf l g v13 2 v17 hv17) rfl (by decide) rfl rfl [0, 1, 2, 3, 4, 5, 6, 7, 8] rfl (by decide +kernel) rfl qw1360 k_X11_periodOf ⟨rfl, rfl, Nat.le_of_ble_eq_true rfl, Nat.le_of_ble_eq_true rfl⟩ ⟨Nat.zero_le _, Nat.zero_le _⟩ hl.1 (Nat.le_of_ble_eq_true rfl) dX11_bestBase_17 rfl (fun H locs hw => ?_)
  refine lv_iadd hx hb dX11_bestBase_20 ?_
  refine lv_istore_n (lv' := [(3, .int (v8 + v17)), (2, .int 2), (0, .ref (h 0)), (1, .int a1)]) hx hb dX11_bestBase_21 rfl hl (by decide) rfl (fun ls hl => ?_)
  refine lv_iconst (v := 3) hx hb dX11_bestBase_22 (by decide) ?_
  refine lv_istore (lv' := [(4, .int 3), (3, .int (v8 + v17)), (2, .int 2), (0, .ref (h 0)), (1, .int a1)]) hx hb dX11_bestBase_23 hl (by decide) rfl (fun ls hl => ?_)
  exact b25 xfuel _ _ _ a1 2 (v8 + v17) 3 hw (lv_sub hl [3, 4, 2, 1, 0] rfl) hf
theorem k_X11_writtenMany : xKV yX11_writtenMany cX11_writtenMany 4 (some .int) 1 := ⟨qw1389, qw55, qw74, qw1390, by decide +kernel, by decide +kernel, by decide +kernel⟩
set_option maxHeartbeats 4000000 in
set_option maxRecDepth 100000 in
theorem met_X11_writtenMany (l : Launch) (g : xG) (h : Nat → Nat) (thrown : Int32) (ss : (Nat → Int32)) (states : (Nat → Int32)) (stateMany : Int32) (snapshot : (Nat → Int32)) (hasSnapshot : Int32) (text : (Nat → Int32)) (length : Int32) (at_ : Int32) (isWell : Int32) (rd : (Nat → Int32)) (readMany : Int32) (top : Int64) (bottom : Int64) (digit : (Nat → Int32)) (digitMany : Int32) (other : (Nat → Int32)) (otherMany : Int32) (column : (Nat → Int32)) (columnMany : Int32) (carryMany : Int32) (chainMost : Int32) (a1 : Int32) (out : Int32 × (Nat → Int32) × Int32) (hf : f_X11_writtenMany ss digit digitMany a1 = some out) : xM l yX11_writtenMany (xC yX11_writtenMany cX11_writtenMany 4 (some .int)) { frames := 3, cells := 0, slots := 0, locals := 64 } g (wM g h thrown ss states stateMany snapshot hasSnapshot text length at_ isWell rd readMany top bottom digit digitMany other otherMany column columnMany carryMany chainMost) [.ref (h 0), .int a1] (some (.int out.1)) (wM g h thrown ss states stateMany snapshot hasSnapshot text length at_ isWell rd readMany top bottom out.2.1 out.2.2 other otherMany column columnMany carryMany chainMost) := by
  refine xof (by decide) (Nat.le_of_ble_eq_true rfl) ⟨rfl, rfl⟩ ?_
  intro p e s m below meth c A ls E hr hlocks hw hl hpost hAe
  have hx := E.1.1
  have hb := E.1.2.1
  have hown := E.1.2.2.2.1
  have hts := E.1.2.2.2.2
  generalize hZ : (MQ below (xPost g (wM g h thrown ss states stateMany snapshot hasSnapshot text length at_ isWell rd readMany top bottom digit digitMany other otherMany column columnMany carryMany chainMost) (wM g h thrown ss states stateMany snapshot hasSnapshot text length at_ isWell rd readMany top bottom out.2.1 out.2.2 other otherMany column columnMany carryMany chainMost) s.heap.size (some (.int out.1))) [.ref (h 0), .int a1].toArray s 0 0 A) = ZZ
  have hret : ∀ (pc : Nat) (H : Heap) (locs : List Loc) (ls : Array Slot) (v : Int32) (cdigit : (Nat → Int32)) (cdigitMany : Int32), (v, cdigit, cdigitMany) = out → decode cX11_writtenMany pc = .ok (.ireturn, 1) → xW g A s.heap (wM g h thrown ss states stateMany snapshot hasSnapshot text length at_ isWell rd readMany top bottom cdigit cdigitMany other otherMany column columnMany carryMany chainMost) H locs → W p l e { frames := 3, cells := 0, slots := 0, locals := 64 } s m [.ref (h 0), .int a1].toArray below meth c H locs 0 0 ZZ (F0 m pc ls [.int v]) := by
    intro pc H locs ls v cdigit cdigitMany he hd hw
    subst he
    rw [← hZ]
    exact W.iret hx hb hr (hpost H locs hw).1 (hpost H locs hw).2 hd hlocks
  clear hpost
  refine lv_aload_n hx hb dX11_writtenMany_0 rfl (lv_at hl 0 rfl) ?_
  refine lv_iload_n hx hb dX11_writtenMany_1 rfl (lv_at hl 1 rfl) ?_
  obtain ⟨v2, hv2, hf⟩ := ob_e hf
  refine xcallV (ws' := (wM g h thrown ss states stateMany snapshot hasSnapshot text length at_ isWell rd readMany top bottom v2.1 v2.2 other otherMany column columnMany carryMany chainMost)) (st1 := []) (n := 9) E hw [.int a1] [0, 1, 2, 3, 4, 5, 6, 7, 8] (met_X11_tellsDigits l g h thrown ss states stateMany snapshot hasSnapshot text length at_ isWell rd readMany top bottom digit digitMany other otherMany column columnMany carryMany chainMost a1 v2 hv2) rfl (by decide) rfl rfl [9, 10, 11, 12, 13, 14, 15, 16, 17] rfl (by decide +kernel) rfl rfl rfl rfl qw1309 k_X11_tellsDigits ⟨rfl, rfl, Nat.le_of_ble_eq_true rfl, Nat.le_of_ble_eq_true rfl⟩ ⟨Nat.zero_le _, Nat.zero_le _⟩ hl.1 (Nat.le_of_ble_eq_true rfl) dX11_writtenMany_2 rfl (fun H locs hw => ?_)
  refine lv_aload_n hx hb dX11_writtenMany_5 rfl (lv_at hl 0 rfl) ?_
  refine lv_iload_n hx hb dX11_writtenMany_6 rfl (lv_at hl 1 rfl) ?_
  obtain ⟨v7, hv7, hf⟩ := ob_e hf
  refine xcallV (ws' := (wM g h thrown ss states stateMany snapshot hasSnapshot text length at_ isWell rd readMany top bottom v2.1 v2.2 other otherMany column columnMany carryMany chainMost)) (st1 := [.int v7]) (n := 9) E hw [.int a1] [0, 1, 2, 3, 4, 5, 6, 7, 8] (met_X11_down l g h thrown ss states stateMany snapshot hasSnapshot text length at_ isWell rd readMany top bottom v2.1 v2.2 other otherMany column columnMany carryMany chainMost a1 v7 hv7) rfl (by decide) rfl rfl [9, 10, 11, 12, 13, 14, 15, 16, 17] rfl (by decide +kernel) rfl rfl rfl rfl qw1129 k_X11_down ⟨rfl, rfl, Nat.le_of_ble_eq_true rfl, Nat.le_of_ble_eq_true rfl⟩ ⟨Nat.zero_le _, Nat.zero_le _⟩ hl.1 (Nat.le_of_ble_eq_true rfl) dX11_writtenMany_7 rfl (fun H locs hw => ?_)
  refine lv_aload_n hx hb dX11_writtenMany_10 rfl (lv_at hl 0 rfl) ?_
  refine xget (v := .ref (h 1)) E hw 0 rfl rfl 1 (by decide) inw11 qw1020 rfl rfl dX11_writtenMany_11 ?_
  refine lv_iconst (v := 0) hx hb dX11_writtenMany_14 (by decide) ?_
  refine xiald E hw 1 rfl (by decide) dX11_writtenMany_15 ?_
  obtain ⟨v16, hv16, hf⟩ := ob_e hf
  refine xcallS (ws' := (wM g h thrown ss states stateMany snapshot hasSnapshot text length at_ isWell rd readMany top bottom v2.1 v2.2 other otherMany column columnMany carryMany chainMost)) (st1 := [.int v16]) (n := 9) E hw [.int v7, .int (ss (0 : Int32).toNatClampNeg)] [] (met_X11_headOf l g v7 (ss (0 : Int32).toNatClampNeg) v16 hv16) rfl (by decide) rfl rfl [0, 1, 2, 3, 4, 5, 6, 7, 8] rfl (by decide +kernel) rfl qw1349 k_X11_headOf ⟨rfl, rfl, Nat.le_of_ble_eq_true rfl, Nat.le_of_ble_eq_true rfl⟩ ⟨Nat.zero_le _, Nat.zero_le _⟩ hl.1 (Nat.le_of_ble_eq_true rfl) dX11_writtenMany_16 rfl (fun H locs hw => ?_)
  refine lv_istore_n (lv' := [(2, .int v16), (0, .ref (h 0)), (1, .int a1)]) hx hb dX11_writtenMany_19 rfl hl (by decide) rfl (fun ls hl => ?_)
  refine lv_aload_n hx hb dX11_writtenMany_20 rfl (lv_at hl 1 rfl) ?_
  refine lv_iload_n hx hb dX11_writtenMany_21 rfl (lv_at hl 2 rfl) ?_
  obtain ⟨v22, hv22, hf⟩ := ob_e hf
  refine xcallV (ws' := (wM g h thrown ss states stateMany snapshot hasSnapshot text length at_ isWell rd readMany top bottom v2.1 v2.2 other otherMany column columnMany carryMany chainMost)) (st1 := [.int v22]) (n := 9) E hw [.int a1] [0, 1, 2, 3, 4, 5, 6, 7, 8] (met_X11_down l g h thrown ss states stateMany snapshot hasSnapshot text length at_ isWell rd readMany top bottom v2.1 v2.2 other otherMany column columnMany carryMany chainMost a1 v22 hv22) rfl (by decide) rfl rfl [9, 10, 11, 12, 13, 14, 15, 16, 17] rfl (by decide +kernel) rfl rfl rfl rfl qw1129 k_X11_down ⟨rfl, rfl, Nat.le_of_ble_eq_true rfl, Nat.le_of_ble_eq_true rfl⟩ ⟨Nat.zero_le _, Nat.zero_le _⟩ hl.1 (Nat.le_of_ble_eq_true rfl) dX11_writtenMany_22 rfl (fun H locs hw => ?_)
  refine lv_aload_n hx hb dX11_writtenMany_25 rfl (lv_at hl 1 rfl) ?_
  refine xget (v := .ref (h 1)) E hw 0 rfl rfl 1 (by decide) inw11 qw1020 rfl rfl dX11_writtenMany_26 ?_
  refine lv_iconst (v := 0) hx hb dX11_writtenMany_29 (by decide) ?_
  refine xiald E hw 1 rfl (by decide) dX11_writtenMany_30 ?_
  obtain ⟨v31, hv31, hf⟩ := ob_e hf
  refine xcallS (ws' := (wM g h thrown ss states stateMany snapshot hasSnapshot text length at_ isWell rd readMany top bottom v2.1 v2.2 other otherMany column columnMany carryMany chainMost)) (st1 := [.int v31]) (n := 9) E hw [.int v22, .int (ss (0 : Int32).toNatClampNeg)] [] (met_X11_periodOf l g v22 (ss (0 : Int32).toNatClampNeg) v31 hv31) rfl (by decide) rfl rfl [0, 1, 2, 3, 4, 5, 6, 7, 8] rfl (by decide +kernel) rfl qw1360 k_X11_periodOf ⟨rfl, rfl, Nat.le_of_ble_eq_true rfl, Nat.le_of_ble_eq_true rfl⟩ ⟨Nat.zero_le _, Nat.zero_le _⟩ hl.1 (Nat.le_of_ble_eq_true rfl) dX11_writtenMany_31 rfl (fun H locs hw => ?_)
  refine lv_istore_n (lv' := [(3, .int v31), (2, .int v16), (0, .ref (h 0)), (1, .int a1)]) hx hb dX11_writtenMany_34 rfl hl (by decide) rfl (fun ls hl => ?_)
  refine lv_aload_n hx hb dX11_writtenMany_35 rfl (lv_at hl 2 rfl) ?_
  refine xget (v := .int v2.2) E hw 0 rfl rfl 15 (by decide) inw11 qw1034 rfl rfl dX11_writtenMany_36 ?_
  refine lv_aload_n hx hb dX11_writtenMany_39 rfl (lv_at hl 2 rfl) ?_
  refine lv_iload_n hx hb dX11_writtenMany_40 rfl (lv_at hl 3 rfl) ?_
  obtain ⟨v41, hv41, hf⟩ := ob_e hf
  refine xcallV (ws' := (wM g h thrown ss states stateMany snapshot hasSnapshot text length at_ isWell rd readMany top bottom v2.1 v2.2 other otherMany column columnMany carryMany chainMost)) (st1 := [.int v41, .int v2.2]) (n := 9) E hw [.int a1] [0, 1, 2, 3, 4, 5, 6, 7, 8] (met_X11_down l g h thrown ss states stateMany snapshot hasSnapshot text length at_ isWell rd readMany top bottom v2.1 v2.2 other otherMany column columnMany carryMany chainMost a1 v41 hv41) rfl (by decide) rfl rfl [9, 10, 11, 12, 13, 14, 15, 16, 17] rfl (by decide +kernel) rfl rfl rfl rfl qw1129 k_X11_down ⟨rfl, rfl, Nat.le_of_ble_eq_true rfl, Nat.le_of_ble_eq_true rfl⟩ ⟨Nat.zero_le _, Nat.zero_le _⟩ hl.1 (Nat.le_of_ble_eq_true rfl) dX11_writtenMany_41 rfl (fun H locs hw => ?_)
  refine lv_iconst (v := 1) hx hb dX11_writtenMany_44 (by decide) ?_
  refine lv_icmp_ne (tgt := 52) hx hb dX11_writtenMany_45 (by decide) (fun c45 => ?_) (fun c45 => ?_)
  · replace hf := iq c45 hf
    refine lv_iconst (v := 1) hx hb dX11_writtenMany_52 (by decide) ?_
    refine lv_iload_n hx hb dX11_writtenMany_53 rfl (lv_at hl 1 rfl) ?_
    refine lv_iadd hx hb dX11_writtenMany_54 ?_
    refine lv_iload_n hx hb dX11_writtenMany_55 rfl (lv_at hl 0 rfl) ?_
    refine lv_iadd hx hb dX11_writtenMany_56 ?_
    refine lv_iload_n hx hb dX11_writtenMany_57 rfl (lv_at hl 0 rfl) ?_
    refine lv_if_le (tgt := 65) hx hb dX11_writtenMany_58 (by decide) (fun c58 => ?_) (fun c58 => ?_)
    · replace hf := ip c58 hf
      refine lv_iconst (v := 0) hx hb dX11_writtenMany_65 (by decide) ?_
      refine lv_iadd hx hb dX11_writtenMany_66 ?_
      refine lv_iadd hx hb dX11_writtenMany_67 ?_
      exact hret _ _ _ _ _ _ _ (Option.some.inj hf) dX11_writtenMany_68 hw
    · replace hf := iq c58 hf
      refine lv_iconst (v := 2) hx hb dX11_writtenMany_61 (by decide) ?_
      refine lv_goto (tgt := 66) hx hb dX11_writtenMany_62 (by decide) ?_
      refine lv_iadd hx hb dX11_writtenMany_66 ?_
      refine lv_iadd hx hb dX11_writtenMany_67 ?_
      exact hret _ _ _ _ _ _ _ (Option.some.inj hf) dX11_writtenMany_68 hw
  · replace hf := ip c45 hf
    refine lv_iconst (v := 0) hx hb dX11_writtenMany_48 (by decide) ?_
    refine lv_goto (tgt := 67) hx hb dX11_writtenMany_49 (by decide) ?_
    refine lv_iadd hx hb dX11_writtenMany_67 ?_
    exact hret _ _ _ _ _ _ _ (Option.some.inj hf) dX11_writtenMany_68 hw
theorem k_X11_sign : xKS yX11_sign cX11_sign 1 (some .int) 1 := ⟨qw1400, qw74, qw1401, by decide +kernel, by decide +kernel, by decide +kernel⟩
set_option maxHeartbeats 4000000 in
set_option maxRecDepth 100000 in
theorem met_X11_sign (l : Launch) (g : xG) (a0 : Int32) (out : Int32) (hf : f_X11_sign a0 = some out) : xM l yX11_sign (xC yX11_sign cX11_sign 1 (some .int)) { frames := 0, cells := 0, slots := 0, locals := 0 } g ([] : va_W) [.int a0] (some (.int out)) ([] : va_W) := by
  refine xof (by decide) (Nat.le_of_ble_eq_true rfl) ⟨rfl, rfl⟩ ?_
  intro p e s m below meth c A ls E hr hlocks hw hl hpost hAe
  have hx := E.1.1
  have hb := E.1.2.1
  have hown := E.1.2.2.2.1
  have hts := E.1.2.2.2.2
  generalize hZ : (MQ below (xPost g ([] : va_W) ([] : va_W) s.heap.size (some (.int out))) [.int a0].toArray s 0 0 A) = ZZ
  have hret : ∀ (pc : Nat) (H : Heap) (locs : List Loc) (ls : Array Slot) (v : Int32), v = out → decode cX11_sign pc = .ok (.ireturn, 1) → xW g A s.heap ([] : va_W) H locs → W p l e { frames := 0, cells := 0, slots := 0, locals := 0 } s m [.int a0].toArray below meth c H locs 0 0 ZZ (F0 m pc ls [.int v]) := by
    intro pc H locs ls v he hd hw
    subst he
    rw [← hZ]
    exact W.iret hx hb hr (hpost H locs hw).1 (hpost H locs hw).2 hd hlocks
  clear hpost
  refine lv_iload_n hx hb dX11_sign_0 rfl (lv_at hl 0 rfl) ?_
  refine lv_bipush (v := 10) hx hb dX11_sign_1 (by decide) ?_
  refine lv_icmp_ge (tgt := 13) hx hb dX11_sign_3 (by decide) (fun c3 => ?_) (fun c3 => ?_)
  · replace hf := ip c3 hf
    refine lv_bipush (v := 97) hx hb dX11_sign_13 (by decide) ?_
    refine lv_iload_n hx hb dX11_sign_15 rfl (lv_at hl 0 rfl) ?_
    refine lv_iadd hx hb dX11_sign_16 ?_
    refine lv_bipush (v := 10) hx hb dX11_sign_17 (by decide) ?_
    refine lv_isub hx hb dX11_sign_19 ?_
    exact hret _ _ _ _ _ (Option.some.inj hf) dX11_sign_20 hw
  · replace hf := iq c3 hf
    refine lv_bipush (v := 48) hx hb dX11_sign_6 (by decide) ?_
    refine lv_iload_n hx hb dX11_sign_8 rfl (lv_at hl 0 rfl) ?_
    refine lv_iadd hx hb dX11_sign_9 ?_
    refine lv_goto (tgt := 20) hx hb dX11_sign_10 (by decide) ?_
    exact hret _ _ _ _ _ (Option.some.inj hf) dX11_sign_20 hw
theorem k_X11_writes : xKV yX11_writes cX11_writes 6 (some .int) 2 := ⟨qw1397, qw56, qw74, qw1398, by decide +kernel, by decide +kernel, by decide +kernel⟩
set_option maxHeartbeats 4000000 in
set_option maxRecDepth 100000 in
theorem met_X11_writes (l : Launch) (g : xG) (h : Nat → Nat) (thrown : Int32) (ss : (Nat → Int32)) (states : (Nat → Int32)) (stateMany : Int32) (snapshot : (Nat → Int32)) (hasSnapshot : Int32) (text : (Nat → Int32)) (length : Int32) (at_ : Int32) (isWell : Int32) (rd : (Nat → Int32)) (readMany : Int32) (top : Int64) (bottom : Int64) (digit : (Nat → Int32)) (digitMany : Int32) (other : (Nat → Int32)) (otherMany : Int32) (column : (Nat → Int32)) (columnMany : Int32) (carryMany : Int32) (chainMost : Int32) (a1 : Int32) (a2 : Int32) (out : Int32 × (Nat → Int32) × Int32) (hf : f_X11_writes ss digit digitMany a1 a2 = some out) : xM l yX11_writes (xC yX11_writes cX11_writes 6 (some .int)) { frames := 3, cells := 0, slots := 0, locals := 64 } g (wM g h thrown ss states stateMany snapshot hasSnapshot text length at_ isWell rd readMany top bottom digit digitMany other otherMany column columnMany carryMany chainMost) [.ref (h 0), .int a1, .int a2] (some (.int out.1)) (wM g h thrown ss states stateMany snapshot hasSnapshot text length at_ isWell rd readMany top bottom out.2.1 out.2.2 other otherMany column columnMany carryMany chainMost) := by
  refine xof (by decide) (Nat.le_of_ble_eq_true rfl) ⟨rfl, rfl⟩ ?_
  intro p e s m below meth c A ls E hr hlocks hw hl hpost hAe
  have hx := E.1.1
  have hb := E.1.2.1
  have hown := E.1.2.2.2.1
  have hts := E.1.2.2.2.2
  generalize hZ : (MQ below (xPost g (wM g h thrown ss states stateMany snapshot hasSnapshot text length at_ isWell rd readMany top bottom digit digitMany other otherMany column columnMany carryMany chainMost) (wM g h thrown ss states stateMany snapshot hasSnapshot text length at_ isWell rd readMany top bottom out.2.1 out.2.2 other otherMany column columnMany carryMany chainMost) s.heap.size (some (.int out.1))) [.ref (h 0), .int a1, .int a2].toArray s 0 0 A) = ZZ
  have hret : ∀ (pc : Nat) (H : Heap) (locs : List Loc) (ls : Array Slot) (v : Int32) (cdigit : (Nat → Int32)) (cdigitMany : Int32), (v, cdigit, cdigitMany) = out → decode cX11_writes pc = .ok (.ireturn, 1) → xW g A s.heap (wM g h thrown ss states stateMany snapshot hasSnapshot text length at_ isWell rd readMany top bottom cdigit cdigitMany other otherMany column columnMany carryMany chainMost) H locs → W p l e { frames := 3, cells := 0, slots := 0, locals := 64 } s m [.ref (h 0), .int a1, .int a2].toArray below meth c H locs 0 0 ZZ (F0 m pc ls [.int v]) := by
    intro pc H locs ls v cdigit cdigitMany he hd hw
    subst he
    rw [← hZ]
    exact W.iret hx hb hr (hpost H locs hw).1 (hpost H locs hw).2 hd hlocks
  clear hpost
  refine lv_aload_n hx hb dX11_writes_0 rfl (lv_at hl 0 rfl) ?_
  refine lv_iload_n hx hb dX11_writes_1 rfl (lv_at hl 1 rfl) ?_
  obtain ⟨v2, hv2, hf⟩ := ob_e hf
  refine xcallV (ws' := (wM g h thrown ss states stateMany snapshot hasSnapshot text length at_ isWell rd readMany top bottom v2.1 v2.2 other otherMany column columnMany carryMany chainMost)) (st1 := []) (n := 9) E hw [.int a1] [0, 1, 2, 3, 4, 5, 6, 7, 8] (met_X11_tellsDigits l g h thrown ss states stateMany snapshot hasSnapshot text length at_ isWell rd readMany top bottom digit digitMany other otherMany column columnMany carryMany chainMost a1 v2 hv2) rfl (by decide) rfl rfl [9, 10, 11, 12, 13, 14, 15, 16, 17] rfl (by decide +kernel) rfl rfl rfl rfl qw1309 k_X11_tellsDigits ⟨rfl, rfl, Nat.le_of_ble_eq_true rfl, Nat.le_of_ble_eq_true rfl⟩ ⟨Nat.zero_le _, Nat.zero_le _⟩ hl.1 (Nat.le_of_ble_eq_true rfl) dX11_writes_2 rfl (fun H locs hw => ?_)
  refine lv_iload_n hx hb dX11_writes_5 rfl (lv_at hl 2 rfl) ?_
  refine lv_aload_n hx hb dX11_writes_6 rfl (lv_at hl 0 rfl) ?_
  refine xget (v := .int v2.2) E hw 0 rfl rfl 15 (by decide) inw11 qw1034 rfl rfl dX11_writes_7 ?_
  refine lv_icmp_ge (tgt := 30) hx hb dX11_writes_10 (by decide) (fun c10 => ?_) (fun c10 => ?_)
  · replace hf := ip c10 hf
    refine lv_iload_n hx hb dX11_writes_30 rfl (lv_at hl 2 rfl) ?_
    refine lv_aload_n hx hb dX11_writes_31 rfl (lv_at hl 0 rfl) ?_
    refine xget (v := .int v2.2) E hw 0 rfl rfl 15 (by decide) inw11 qw1034 rfl rfl dX11_writes_32 ?_
    refine lv_isub hx hb dX11_writes_35 ?_
    refine lv_iconst (v := 1) hx hb dX11_writes_36 (by decide) ?_
    refine lv_isub hx hb dX11_writes_37 ?_
    refine lv_istore_n (lv' := [(3, .int ((a2 - v2.2) - 1)), (0, .ref (h 0)), (1, .int a1), (2, .int a2)]) hx hb dX11_writes_38 rfl hl (by decide) rfl (fun ls hl => ?_)
    refine lv_aload_n hx hb dX11_writes_39 rfl (lv_at hl 1 rfl) ?_
    refine lv_iload_n hx hb dX11_writes_40 rfl (lv_at hl 2 rfl) ?_
    obtain ⟨v41, hv41, hf⟩ := ob_e hf
    refine xcallV (ws' := (wM g h thrown ss states stateMany snapshot hasSnapshot text length at_ isWell rd readMany top bottom v2.1 v2.2 other otherMany column columnMany carryMany chainMost)) (st1 := [.int v41]) (n := 9) E hw [.int a1] [0, 1, 2, 3, 4, 5, 6, 7, 8] (met_X11_down l g h thrown ss states stateMany snapshot hasSnapshot text length at_ isWell rd readMany top bottom v2.1 v2.2 other otherMany column columnMany carryMany chainMost a1 v41 hv41) rfl (by decide) rfl rfl [9, 10, 11, 12, 13, 14, 15, 16, 17] rfl (by decide +kernel) rfl rfl rfl rfl qw1129 k_X11_down ⟨rfl, rfl, Nat.le_of_ble_eq_true rfl, Nat.le_of_ble_eq_true rfl⟩ ⟨Nat.zero_le _, Nat.zero_le _⟩ hl.1 (Nat.le_of_ble_eq_true rfl) dX11_writes_41 rfl (fun H locs hw => ?_)
    refine lv_aload_n hx hb dX11_writes_44 rfl (lv_at hl 1 rfl) ?_
    refine xget (v := .ref (h 1)) E hw 0 rfl rfl 1 (by decide) inw11 qw1020 rfl rfl dX11_writes_45 ?_
    refine lv_iconst (v := 0) hx hb dX11_writes_48 (by decide) ?_
    refine xiald E hw 1 rfl (by decide) dX11_writes_49 ?_
    obtain ⟨v50, hv50, hf⟩ := ob_e hf
    refine xcallS (ws' := (wM g h thrown ss states stateMany snapshot hasSnapshot text length at_ isWell rd readMany top bottom v2.1 v2.2 other otherMany column columnMany carryMany chainMost)) (st1 := [.int v50]) (n := 9) E hw [.int v41, .int (ss (0 : Int32).toNatClampNeg)] [] (met_X11_headOf l g v41 (ss (0 : Int32).toNatClampNeg) v50 hv50) rfl (by decide) rfl rfl [0, 1, 2, 3, 4, 5, 6, 7, 8] rfl (by decide +kernel) rfl qw1349 k_X11_headOf ⟨rfl, rfl, Nat.le_of_ble_eq_true rfl, Nat.le_of_ble_eq_true rfl⟩ ⟨Nat.zero_le _, Nat.zero_le _⟩ hl.1 (Nat.le_of_ble_eq_true rfl) dX11_writes_50 rfl (fun H locs hw => ?_)
    refine lv_istore (lv' := [(4, .int v50), (3, .int ((a2 - v2.2) - 1)), (0, .ref (h 0)), (1, .int a1), (2, .int a2)]) hx hb dX11_writes_53 hl (by decide) rfl (fun ls hl => ?_)
    refine lv_aload_n hx hb dX11_writes_55 rfl (lv_at hl 2 rfl) ?_
    refine lv_iload_n hx hb dX11_writes_56 rfl (lv_at hl 3 rfl) ?_
    obtain ⟨v57, hv57, hf⟩ := ob_e hf
    refine xcallV (ws' := (wM g h thrown ss states stateMany snapshot hasSnapshot text length at_ isWell rd readMany top bottom v2.1 v2.2 other otherMany column columnMany carryMany chainMost)) (st1 := [.int v57]) (n := 9) E hw [.int a1] [0, 1, 2, 3, 4, 5, 6, 7, 8] (met_X11_down l g h thrown ss states stateMany snapshot hasSnapshot text length at_ isWell rd readMany top bottom v2.1 v2.2 other otherMany column columnMany carryMany chainMost a1 v57 hv57) rfl (by decide) rfl rfl [9, 10, 11, 12, 13, 14, 15, 16, 17] rfl (by decide +kernel) rfl rfl rfl rfl qw1129 k_X11_down ⟨rfl, rfl, Nat.le_of_ble_eq_true rfl, Nat.le_of_ble_eq_true rfl⟩ ⟨Nat.zero_le _, Nat.zero_le _⟩ hl.1 (Nat.le_of_ble_eq_true rfl) dX11_writes_57 rfl (fun H locs hw => ?_)
    refine lv_aload_n hx hb dX11_writes_60 rfl (lv_at hl 2 rfl) ?_
    refine xget (v := .ref (h 1)) E hw 0 rfl rfl 1 (by decide) inw11 qw1020 rfl rfl dX11_writes_61 ?_
    refine lv_iconst (v := 0) hx hb dX11_writes_64 (by decide) ?_
    refine xiald E hw 1 rfl (by decide) dX11_writes_65 ?_
    obtain ⟨v66, hv66, hf⟩ := ob_e hf
    refine xcallS (ws' := (wM g h thrown ss states stateMany snapshot hasSnapshot text length at_ isWell rd readMany top bottom v2.1 v2.2 other otherMany column columnMany carryMany chainMost)) (st1 := [.int v66]) (n := 9) E hw [.int v57, .int (ss (0 : Int32).toNatClampNeg)] [] (met_X11_periodOf l g v57 (ss (0 : Int32).toNatClampNeg) v66 hv66) rfl (by decide) rfl rfl [0, 1, 2, 3, 4, 5, 6, 7, 8] rfl (by decide +kernel) rfl qw1360 k_X11_periodOf ⟨rfl, rfl, Nat.le_of_ble_eq_true rfl, Nat.le_of_ble_eq_true rfl⟩ ⟨Nat.zero_le _, Nat.zero_le _⟩ hl.1 (Nat.le_of_ble_eq_true rfl) dX11_writes_66 rfl (fun H locs hw => ?_)
    refine lv_istore (lv' := [(5, .int v66), (4, .int v50), (3, .int ((a2 - v2.2) - 1)), (0, .ref (h 0)), (1, .int a1), (2, .int a2)]) hx hb dX11_writes_69 hl (by decide) rfl (fun ls hl => ?_)
    refine lv_iload_n hx hb dX11_writes_71 rfl (lv_at hl 2 rfl) ?_
    refine lv_if_ge (tgt := 78) hx hb dX11_writes_72 (by decide) (fun c72 => ?_) (fun c72 => ?_)
    · replace hf := ip c72 hf
      refine lv_iload_n hx hb dX11_writes_78 rfl (lv_at hl 2 rfl) ?_
      refine lv_iload hx hb dX11_writes_79 (lv_at hl 1 rfl) ?_
      refine lv_icmp_ge (tgt := 94) hx hb dX11_writes_81 (by decide) (fun c81 => ?_) (fun c81 => ?_)
      · replace hf := ip c81 hf
        refine lv_iload_n hx hb dX11_writes_94 rfl (lv_at hl 2 rfl) ?_
        refine lv_iload hx hb dX11_writes_95 (lv_at hl 1 rfl) ?_
        refine lv_icmp_ne (tgt := 105) hx hb dX11_writes_97 (by decide) (fun c97 => ?_) (fun c97 => ?_)
        · replace hf := iq c97 hf
          refine lv_iload_n hx hb dX11_writes_105 rfl (lv_at hl 2 rfl) ?_
          refine lv_iload hx hb dX11_writes_106 (lv_at hl 1 rfl) ?_
          refine lv_iload hx hb dX11_writes_108 (lv_at hl 0 rfl) ?_
          refine lv_iadd hx hb dX11_writes_110 ?_
          refine lv_iconst (v := 1) hx hb dX11_writes_111 (by decide) ?_
          refine lv_iadd hx hb dX11_writes_112 ?_
          refine lv_icmp_ne (tgt := 121) hx hb dX11_writes_113 (by decide) (fun c113 => ?_) (fun c113 => ?_)
          · replace hf := iq c113 hf
            refine lv_aload_n hx hb dX11_writes_121 rfl (lv_at hl 3 rfl) ?_
            refine lv_iload_n hx hb dX11_writes_122 rfl (lv_at hl 4 rfl) ?_
            refine lv_iload_n hx hb dX11_writes_123 rfl (lv_at hl 2 rfl) ?_
            refine lv_iconst (v := 1) hx hb dX11_writes_124 (by decide) ?_
            refine lv_isub hx hb dX11_writes_125 ?_
            obtain ⟨v126, hv126, hf⟩ := ob_e hf
            refine xcallV (ws' := (wM g h thrown ss states stateMany snapshot hasSnapshot text length at_ isWell rd readMany top bottom v2.1 v2.2 other otherMany column columnMany carryMany chainMost)) (st1 := [.int v126]) (n := 9) E hw [.int a1, .int (((a2 - v2.2) - 1) - 1)] [0, 1, 2, 3, 4, 5, 6, 7, 8] (met_X11_digitAfter l g h thrown ss states stateMany snapshot hasSnapshot text length at_ isWell rd readMany top bottom v2.1 v2.2 other otherMany column columnMany carryMany chainMost a1 (((a2 - v2.2) - 1) - 1) v126 hv126) rfl (by decide) rfl rfl [9, 10, 11, 12, 13, 14, 15, 16, 17] rfl (by decide +kernel) rfl rfl rfl rfl qw1371 k_X11_digitAfter ⟨rfl, rfl, Nat.le_of_ble_eq_true rfl, Nat.le_of_ble_eq_true rfl⟩ ⟨Nat.zero_le _, Nat.zero_le _⟩ hl.1 (Nat.le_of_ble_eq_true rfl) dX11_writes_126 rfl (fun H locs hw => ?_)
            obtain ⟨v129, hv129, hf⟩ := ob_e hf
            refine xcallS (ws' := (wM g h thrown ss states stateMany snapshot hasSnapshot text length at_ isWell rd readMany top bottom v2.1 v2.2 other otherMany column columnMany carryMany chainMost)) (st1 := [.int v129]) (n := 9) E hw [.int v126] [] (met_X11_sign l g v126 v129 hv129) rfl (by decide) rfl rfl [0, 1, 2, 3, 4, 5, 6, 7, 8] rfl (by decide +kernel) rfl qw1399 k_X11_sign ⟨rfl, rfl, Nat.le_of_ble_eq_true rfl, Nat.le_of_ble_eq_true rfl⟩ ⟨Nat.zero_le _, Nat.zero_le _⟩ hl.1 (Nat.le_of_ble_eq_true rfl) dX11_writes_129 rfl (fun H locs hw => ?_)
            exact hret _ _ _ _ _ _ _ (Option.some.inj hf) dX11_writes_132 hw
          · replace hf := ip c113 hf
            refine lv_bipush (v := 41) hx hb dX11_writes_116 (by decide) ?_
            refine lv_goto (tgt := 132) hx hb dX11_writes_118 (by decide) ?_
            exact hret _ _ _ _ _ _ _ (Option.some.inj hf) dX11_writes_132 hw
        · replace hf := ip c97 hf
          refine lv_bipush (v := 40) hx hb dX11_writes_100 (by decide) ?_
          refine lv_goto (tgt := 132) hx hb dX11_writes_102 (by decide) ?_
          exact hret _ _ _ _ _ _ _ (Option.some.inj hf) dX11_writes_132 hw
      · replace hf := iq c81 hf
        refine lv_aload_n hx hb dX11_writes_84 rfl (lv_at hl 3 rfl) ?_
        refine lv_iload_n hx hb dX11_writes_85 rfl (lv_at hl 4 rfl) ?_
        refine lv_iload_n hx hb dX11_writes_86 rfl (lv_at hl 2 rfl) ?_
        obtain ⟨v87, hv87, hf⟩ := ob_e hf
        refine xcallV (ws' := (wM g h thrown ss states stateMany snapshot hasSnapshot text length at_ isWell rd readMany top bottom v2.1 v2.2 other otherMany column columnMany carryMany chainMost)) (st1 := [.int v87]) (n := 9) E hw [.int a1, .int ((a2 - v2.2) - 1)] [0, 1, 2, 3, 4, 5, 6, 7, 8] (met_X11_digitAfter l g h thrown ss states stateMany snapshot hasSnapshot text length at_ isWell rd readMany top bottom v2.1 v2.2 other otherMany column columnMany carryMany chainMost a1 ((a2 - v2.2) - 1) v87 hv87) rfl (by decide) rfl rfl [9, 10, 11, 12, 13, 14, 15, 16, 17] rfl (by decide +kernel) rfl rfl rfl rfl qw1371 k_X11_digitAfter ⟨rfl, rfl, Nat.le_of_ble_eq_true rfl, Nat.le_of_ble_eq_true rfl⟩ ⟨Nat.zero_le _, Nat.zero_le _⟩ hl.1 (Nat.le_of_ble_eq_true rfl) dX11_writes_87 rfl (fun H locs hw => ?_)
        obtain ⟨v90, hv90, hf⟩ := ob_e hf
        refine xcallS (ws' := (wM g h thrown ss states stateMany snapshot hasSnapshot text length at_ isWell rd readMany top bottom v2.1 v2.2 other otherMany column columnMany carryMany chainMost)) (st1 := [.int v90]) (n := 9) E hw [.int v87] [] (met_X11_sign l g v87 v90 hv90) rfl (by decide) rfl rfl [0, 1, 2, 3, 4, 5, 6, 7, 8] rfl (by decide +kernel) rfl qw1399 k_X11_sign ⟨rfl, rfl, Nat.le_of_ble_eq_true rfl, Nat.le_of_ble_eq_true rfl⟩ ⟨Nat.zero_le _, Nat.zero_le _⟩ hl.1 (Nat.le_of_ble_eq_true rfl) dX11_writes_90 rfl (fun H locs hw => ?_)
        exact hret _ _ _ _ _ _ _ (Option.some.inj hf) dX11_writes_93 hw
    · replace hf := iq c72 hf
      refine lv_bipush (v := 46) hx hb dX11_writes_75 (by decide) ?_
      exact hret _ _ _ _ _ _ _ (Option.some.inj hf) dX11_writes_77 hw
  · replace hf := iq c10 hf
    refine lv_aload_n hx hb dX11_writes_13 rfl (lv_at hl 0 rfl) ?_
    refine xget (v := .ref (h 6)) E hw 0 rfl rfl 14 (by decide) inw11 qw1033 rfl rfl dX11_writes_14 ?_
    refine lv_aload_n hx hb dX11_writes_17 rfl (lv_at hl 0 rfl) ?_
    refine xget (v := .int v2.2) E hw 0 rfl rfl 15 (by decide) inw11 qw1034 rfl rfl dX11_writes_18 ?_
    refine lv_iconst (v := 1) hx hb dX11_writes_21 (by decide) ?_
    refine lv_isub hx hb dX11_writes_22 ?_
    refine lv_iload_n hx hb dX11_writes_23 rfl (lv_at hl 2 rfl) ?_
    refine lv_isub hx hb dX11_writes_24 ?_
    obtain ⟨hz, hf⟩ := nz hf
    refine xiald E hw 6 rfl hz dX11_writes_25 ?_
    obtain ⟨v26, hv26, hf⟩ := ob_e hf
    refine xcallS (ws' := (wM g h thrown ss states stateMany snapshot hasSnapshot text length at_ isWell rd readMany top bottom v2.1 v2.2 other otherMany column columnMany carryMany chainMost)) (st1 := [.int v26]) (n := 9) E hw [.int (v2.1 ((v2.2 - 1) - a2).toNatClampNeg)] [] (met_X11_sign l g (v2.1 ((v2.2 - 1) - a2).toNatClampNeg) v26 hv26) rfl (by decide) rfl rfl [0, 1, 2, 3, 4, 5, 6, 7, 8] rfl (by decide +kernel) rfl qw1399 k_X11_sign ⟨rfl, rfl, Nat.le_of_ble_eq_true rfl, Nat.le_of_ble_eq_true rfl⟩ ⟨Nat.zero_le _, Nat.zero_le _⟩ hl.1 (Nat.le_of_ble_eq_true rfl) dX11_writes_26 rfl (fun H locs hw => ?_)
    exact hret _ _ _ _ _ _ _ (Option.some.inj hf) dX11_writes_29 hw
