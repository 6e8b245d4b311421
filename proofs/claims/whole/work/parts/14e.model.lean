theorem k_X11_undo : xKV yX11_undo cX11_undo 2 (some .int) 0 := ⟨qw1254, qw1255, qw74, qw1256, by decide +kernel, by decide +kernel, by decide +kernel⟩
set_option maxHeartbeats 4000000 in
set_option maxRecDepth 100000 in
theorem met_X11_undo (l : Launch) (g : xG) (h : Nat → Nat) (thrown : Int32) (ss : (Nat → Int32)) (states : (Nat → Int32)) (stateMany : Int32) (snapshot : (Nat → Int32)) (hasSnapshot : Int32) (text : (Nat → Int32)) (length : Int32) (at_ : Int32) (isWell : Int32) (rd : (Nat → Int32)) (readMany : Int32) (top : Int64) (bottom : Int64) (digit : (Nat → Int32)) (digitMany : Int32) (other : (Nat → Int32)) (otherMany : Int32) (column : (Nat → Int32)) (columnMany : Int32) (carryMany : Int32) (chainMost : Int32) (out : Int32 × Int32 × (Nat → Int32) × Int32) (hf : f_X11_undo thrown ss states stateMany = some out) : xM l yX11_undo (xC yX11_undo cX11_undo 2 (some .int)) { frames := 1, cells := 0, slots := 0, locals := 21 } g (wM g h thrown ss states stateMany snapshot hasSnapshot text length at_ isWell rd readMany top bottom digit digitMany other otherMany column columnMany carryMany chainMost) [.ref (h 0)] (some (.int out.1)) (wM g h out.2.1 out.2.2.1 states out.2.2.2 snapshot hasSnapshot text length at_ isWell rd readMany top bottom digit digitMany other otherMany column columnMany carryMany chainMost) := by
  refine xof (by decide) (Nat.le_of_ble_eq_true rfl) ⟨rfl, rfl⟩ ?_
  intro p e s m below meth c A ls E hr hlocks hw hl hpost hAe
  have hx := E.1.1
  have hb := E.1.2.1
  have hown := E.1.2.2.2.1
  have hts := E.1.2.2.2.2
  generalize hZ : (MQ below (xPost g (wM g h thrown ss states stateMany snapshot hasSnapshot text length at_ isWell rd readMany top bottom digit digitMany other otherMany column columnMany carryMany chainMost) (wM g h out.2.1 out.2.2.1 states out.2.2.2 snapshot hasSnapshot text length at_ isWell rd readMany top bottom digit digitMany other otherMany column columnMany carryMany chainMost) s.heap.size (some (.int out.1))) [.ref (h 0)].toArray s 0 0 A) = ZZ
  have hret : ∀ (pc : Nat) (H : Heap) (locs : List Loc) (ls : Array Slot) (v : Int32) (cthrown : Int32) (css : (Nat → Int32)) (cstateMany : Int32), (v, cthrown, css, cstateMany) = out → decode cX11_undo pc = .ok (.ireturn, 1) → xW g A s.heap (wM g h cthrown css states cstateMany snapshot hasSnapshot text length at_ isWell rd readMany top bottom digit digitMany other otherMany column columnMany carryMany chainMost) H locs → W p l e { frames := 1, cells := 0, slots := 0, locals := 21 } s m [.ref (h 0)].toArray below meth c H locs 0 0 ZZ (F0 m pc ls [.int v]) := by
    intro pc H locs ls v cthrown css cstateMany he hd hw
    subst he
    rw [← hZ]
    exact W.iret hx hb hr (hpost H locs hw).1 (hpost H locs hw).2 hd hlocks
  clear hpost
  have b30 : ∀ n30 : Nat, ∀ (H : Heap) (locs : List Loc) (ls : Array Slot) (thrown : Int32) (ss : (Nat → Int32)) (stateMany : Int32) (x1 : Int32), xW g A s.heap (wM g h thrown ss states stateMany snapshot hasSnapshot text length at_ isWell rd readMany top bottom digit digitMany other otherMany column columnMany carryMany chainMost) H locs → lv_has ls 2 [(0, .ref (h 0)), (1, .int x1)] → f_X11_undo_b30 n30 thrown ss states stateMany x1 = some out → W p l e { frames := 1, cells := 0, slots := 0, locals := 21 } s m [.ref (h 0)].toArray below meth c H locs 0 0 ZZ (F0 m 30 ls []) := by
    intro n30
    induction n30 with
    | zero =>
      intro H locs ls thrown ss stateMany x1 hw hl hf
      exact nn hf
    | succ n30 ih30 =>
      intro H locs ls thrown ss stateMany x1 hw hl hf
      refine lv_iload_n hx hb dX11_undo_30 rfl (lv_at hl 1 rfl) ?_
      refine lv_bipush (v := 15) hx hb dX11_undo_31 (by decide) ?_
      refine lv_icmp_ge (tgt := 62) hx hb dX11_undo_33 (by decide) (fun c33 => ?_) (fun c33 => ?_)
      · replace hf := ip c33 hf
        refine lv_aload_n hx hb dX11_undo_62 rfl (lv_at hl 0 rfl) ?_
        refine xget (v := .int stateMany) E hw 0 rfl rfl 3 (by decide) inw11 qw1022 rfl rfl dX11_undo_63 ?_
        exact hret _ _ _ _ _ _ _ _ (Option.some.inj hf) dX11_undo_66 hw
      · replace hf := iq c33 hf
        refine lv_aload_n hx hb dX11_undo_36 rfl (lv_at hl 0 rfl) ?_
        refine xget (v := .ref (h 1)) E hw 0 rfl rfl 1 (by decide) inw11 qw1020 rfl rfl dX11_undo_37 ?_
        refine lv_iload_n hx hb dX11_undo_40 rfl (lv_at hl 1 rfl) ?_
        refine lv_aload_n hx hb dX11_undo_41 rfl (lv_at hl 0 rfl) ?_
        refine xget (v := .ref (h 2)) E hw 0 rfl rfl 2 (by decide) inw11 qw1021 rfl rfl dX11_undo_42 ?_
        refine lv_bipush (v := 15) hx hb dX11_undo_45 (by decide) ?_
        refine lv_aload_n hx hb dX11_undo_47 rfl (lv_at hl 0 rfl) ?_
        refine xget (v := .int stateMany) E hw 0 rfl rfl 3 (by decide) inw11 qw1022 rfl rfl dX11_undo_48 ?_
        refine lv_imul hx hb dX11_undo_51 ?_
        refine lv_iload_n hx hb dX11_undo_52 rfl (lv_at hl 1 rfl) ?_
        refine lv_iadd hx hb dX11_undo_53 ?_
        obtain ⟨hz, hf⟩ := nz hf
        refine xiald E hw 2 rfl hz dX11_undo_54 ?_
        obtain ⟨hz, hf⟩ := nz hf
        refine xiast (ws' := (wM g h thrown (upd ss x1.toNatClampNeg (states ((15 * stateMany) + x1).toNatClampNeg)) states stateMany snapshot hasSnapshot text length at_ isWell rd readMany top bottom digit digitMany other otherMany column columnMany carryMany chainMost)) E hw 1 rfl hz dX11_undo_55 rfl (fun H locs hw => ?_)
        refine lv_iinc (v := x1 + 1) (lv' := [(1, .int (x1 + 1)), (0, .ref (h 0))]) hx hb dX11_undo_56 hl (k := 1) rfl rfl (by decide) rfl (fun ls hl => ?_)
        refine lv_goto (tgt := 30) hx hb dX11_undo_59 (by decide) ?_
        exact ih30 _ _ _ thrown (upd ss x1.toNatClampNeg (states ((15 * stateMany) + x1).toNatClampNeg)) stateMany (x1 + 1) hw (lv_sub hl [1, 0] rfl) hf
  refine lv_aload_n hx hb dX11_undo_0 rfl (lv_at hl 0 rfl) ?_
  refine lv_iconst (v := 0) hx hb dX11_undo_1 (by decide) ?_
  refine xput (ws' := (wM g h 0 ss states stateMany snapshot hasSnapshot text length at_ isWell rd readMany top bottom digit digitMany other otherMany column columnMany carryMany chainMost)) E hw 0 rfl rfl 0 (by decide) inw11 tyX11_ok nmX11 qw1019 rfl rfl rfl rfl (Nat.le_of_ble_eq_true rfl) dX11_undo_2 rfl (fun H locs hw => ?_)
  refine lv_aload_n hx hb dX11_undo_5 rfl (lv_at hl 0 rfl) ?_
  refine xget (v := .int stateMany) E hw 0 rfl rfl 3 (by decide) inw11 qw1022 rfl rfl dX11_undo_6 ?_
  refine lv_if_ne (tgt := 18) hx hb dX11_undo_9 (by decide) (fun c9 => ?_) (fun c9 => ?_)
  · replace hf := iq c9 hf
    refine lv_aload_n hx hb dX11_undo_18 rfl (lv_at hl 0 rfl) ?_
    refine lv_dup hx hb dX11_undo_19 rfl ?_
    refine xget (v := .int stateMany) E hw 0 rfl rfl 3 (by decide) inw11 qw1022 rfl rfl dX11_undo_20 ?_
    refine lv_iconst (v := 1) hx hb dX11_undo_23 (by decide) ?_
    refine lv_isub hx hb dX11_undo_24 ?_
    refine xput (ws' := (wM g h 0 ss states (stateMany - 1) snapshot hasSnapshot text length at_ isWell rd readMany top bottom digit digitMany other otherMany column columnMany carryMany chainMost)) E hw 0 rfl rfl 3 (by decide) inw11 tyX11_ok nmX11 qw1022 rfl rfl rfl rfl (Nat.le_of_ble_eq_true rfl) dX11_undo_25 rfl (fun H locs hw => ?_)
    refine lv_iconst (v := 0) hx hb dX11_undo_28 (by decide) ?_
    refine lv_istore_n (lv' := [(1, .int 0), (0, .ref (h 0))]) hx hb dX11_undo_29 rfl hl (by decide) rfl (fun ls hl => ?_)
    exact b30 xfuel _ _ _ 0 ss (stateMany - 1) 0 hw (lv_sub hl [1, 0] rfl) hf
  · replace hf := ip c9 hf
    refine lv_aload_n hx hb dX11_undo_12 rfl (lv_at hl 0 rfl) ?_
    refine lv_iconst (v := 1) hx hb dX11_undo_13 (by decide) ?_
    obtain ⟨v14, hv14, hf⟩ := ob_e hf
    refine xcallV (ws' := (wM g h v14.2 ss states stateMany snapshot hasSnapshot text length at_ isWell rd readMany top bottom digit digitMany other otherMany column columnMany carryMany chainMost)) (st1 := [.int v14.1]) (n := 9) E hw [.int 1] [0, 1, 2, 3, 4, 5, 6, 7, 8] (met_X11_fails l g h 0 ss states stateMany snapshot hasSnapshot text length at_ isWell rd readMany top bottom digit digitMany other otherMany column columnMany carryMany chainMost 1 v14 hv14) rfl (by decide) rfl rfl [9, 10, 11, 12, 13, 14, 15, 16, 17] rfl (by decide +kernel) rfl rfl rfl rfl qw1100 k_X11_fails ⟨rfl, rfl, Nat.le_of_ble_eq_true rfl, Nat.le_of_ble_eq_true rfl⟩ ⟨Nat.zero_le _, Nat.zero_le _⟩ hl.1 (Nat.le_of_ble_eq_true rfl) dX11_undo_14 rfl (fun H locs hw => ?_)
    exact hret _ _ _ _ _ _ _ _ (Option.some.inj hf) dX11_undo_17 hw
theorem k_X11_keep : xKV yX11_keep cX11_keep 2 (some .int) 0 := ⟨qw1258, qw1259, qw74, qw1260, by decide +kernel, by decide +kernel, by decide +kernel⟩
set_option maxHeartbeats 4000000 in
set_option maxRecDepth 100000 in
theorem met_X11_keep (l : Launch) (g : xG) (h : Nat → Nat) (thrown : Int32) (ss : (Nat → Int32)) (states : (Nat → Int32)) (stateMany : Int32) (snapshot : (Nat → Int32)) (hasSnapshot : Int32) (text : (Nat → Int32)) (length : Int32) (at_ : Int32) (isWell : Int32) (rd : (Nat → Int32)) (readMany : Int32) (top : Int64) (bottom : Int64) (digit : (Nat → Int32)) (digitMany : Int32) (other : (Nat → Int32)) (otherMany : Int32) (column : (Nat → Int32)) (columnMany : Int32) (carryMany : Int32) (chainMost : Int32) (out : Int32 × Int32 × (Nat → Int32) × Int32) (hf : f_X11_keep thrown ss snapshot hasSnapshot = some out) : xM l yX11_keep (xC yX11_keep cX11_keep 2 (some .int)) { frames := 0, cells := 0, slots := 0, locals := 0 } g (wM g h thrown ss states stateMany snapshot hasSnapshot text length at_ isWell rd readMany top bottom digit digitMany other otherMany column columnMany carryMany chainMost) [.ref (h 0)] (some (.int out.1)) (wM g h out.2.1 ss states stateMany out.2.2.1 out.2.2.2 text length at_ isWell rd readMany top bottom digit digitMany other otherMany column columnMany carryMany chainMost) := by
  refine xof (by decide) (Nat.le_of_ble_eq_true rfl) ⟨rfl, rfl⟩ ?_
  intro p e s m below meth c A ls E hr hlocks hw hl hpost hAe
  have hx := E.1.1
  have hb := E.1.2.1
  have hown := E.1.2.2.2.1
  have hts := E.1.2.2.2.2
  generalize hZ : (MQ below (xPost g (wM g h thrown ss states stateMany snapshot hasSnapshot text length at_ isWell rd readMany top bottom digit digitMany other otherMany column columnMany carryMany chainMost) (wM g h out.2.1 ss states stateMany out.2.2.1 out.2.2.2 text length at_ isWell rd readMany top bottom digit digitMany other otherMany column columnMany carryMany chainMost) s.heap.size (some (.int out.1))) [.ref (h 0)].toArray s 0 0 A) = ZZ
  have hret : ∀ (pc : Nat) (H : Heap) (locs : List Loc) (ls : Array Slot) (v : Int32) (cthrown : Int32) (csnapshot : (Nat → Int32)) (chasSnapshot : Int32), (v, cthrown, csnapshot, chasSnapshot) = out → decode cX11_keep pc = .ok (.ireturn, 1) → xW g A s.heap (wM g h cthrown ss states stateMany csnapshot chasSnapshot text length at_ isWell rd readMany top bottom digit digitMany other otherMany column columnMany carryMany chainMost) H locs → W p l e { frames := 0, cells := 0, slots := 0, locals := 0 } s m [.ref (h 0)].toArray below meth c H locs 0 0 ZZ (F0 m pc ls [.int v]) := by
    intro pc H locs ls v cthrown csnapshot chasSnapshot he hd hw
    subst he
    rw [← hZ]
    exact W.iret hx hb hr (hpost H locs hw).1 (hpost H locs hw).2 hd hlocks
  clear hpost
  have b7 : ∀ n7 : Nat, ∀ (H : Heap) (locs : List Loc) (ls : Array Slot) (thrown : Int32) (snapshot : (Nat → Int32)) (hasSnapshot : Int32) (x1 : Int32), xW g A s.heap (wM g h thrown ss states stateMany snapshot hasSnapshot text length at_ isWell rd readMany top bottom digit digitMany other otherMany column columnMany carryMany chainMost) H locs → lv_has ls 2 [(0, .ref (h 0)), (1, .int x1)] → f_X11_keep_b7 n7 thrown ss snapshot hasSnapshot x1 = some out → W p l e { frames := 0, cells := 0, slots := 0, locals := 0 } s m [.ref (h 0)].toArray below meth c H locs 0 0 ZZ (F0 m 7 ls []) := by
    intro n7
    induction n7 with
    | zero =>
      intro H locs ls thrown snapshot hasSnapshot x1 hw hl hf
      exact nn hf
    | succ n7 ih7 =>
      intro H locs ls thrown snapshot hasSnapshot x1 hw hl hf
      refine lv_iload_n hx hb dX11_keep_7 rfl (lv_at hl 1 rfl) ?_
      refine lv_bipush (v := 15) hx hb dX11_keep_8 (by decide) ?_
      refine lv_icmp_ge (tgt := 31) hx hb dX11_keep_10 (by decide) (fun c10 => ?_) (fun c10 => ?_)
      · replace hf := ip c10 hf
        refine lv_aload_n hx hb dX11_keep_31 rfl (lv_at hl 0 rfl) ?_
        refine lv_iconst (v := 1) hx hb dX11_keep_32 (by decide) ?_
        refine xput (ws' := (wM g h thrown ss states stateMany snapshot 1 text length at_ isWell rd readMany top bottom digit digitMany other otherMany column columnMany carryMany chainMost)) E hw 0 rfl rfl 5 (by decide) inw11 tyX11_ok nmX11 qw1024 rfl rfl (by decide) (by decide) (Nat.le_of_ble_eq_true rfl) dX11_keep_33 rfl (fun H locs hw => ?_)
        refine lv_aload_n hx hb dX11_keep_36 rfl (lv_at hl 0 rfl) ?_
        refine xget (v := .ref (h 1)) E hw 0 rfl rfl 1 (by decide) inw11 qw1020 rfl rfl dX11_keep_37 ?_
        refine lv_iconst (v := 0) hx hb dX11_keep_40 (by decide) ?_
        refine xiald E hw 1 rfl (by decide) dX11_keep_41 ?_
        exact hret _ _ _ _ _ _ _ _ (Option.some.inj hf) dX11_keep_42 hw
      · replace hf := iq c10 hf
        refine lv_aload_n hx hb dX11_keep_13 rfl (lv_at hl 0 rfl) ?_
        refine xget (v := .ref (h 3)) E hw 0 rfl rfl 4 (by decide) inw11 qw1023 rfl rfl dX11_keep_14 ?_
        refine lv_iload_n hx hb dX11_keep_17 rfl (lv_at hl 1 rfl) ?_
        refine lv_aload_n hx hb dX11_keep_18 rfl (lv_at hl 0 rfl) ?_
        refine xget (v := .ref (h 1)) E hw 0 rfl rfl 1 (by decide) inw11 qw1020 rfl rfl dX11_keep_19 ?_
        refine lv_iload_n hx hb dX11_keep_22 rfl (lv_at hl 1 rfl) ?_
        obtain ⟨hz, hf⟩ := nz hf
        refine xiald E hw 1 rfl hz dX11_keep_23 ?_
        obtain ⟨hz, hf⟩ := nz hf
        refine xiast (ws' := (wM g h thrown ss states stateMany (upd snapshot x1.toNatClampNeg (ss x1.toNatClampNeg)) hasSnapshot text length at_ isWell rd readMany top bottom digit digitMany other otherMany column columnMany carryMany chainMost)) E hw 3 rfl hz dX11_keep_24 rfl (fun H locs hw => ?_)
        refine lv_iinc (v := x1 + 1) (lv' := [(1, .int (x1 + 1)), (0, .ref (h 0))]) hx hb dX11_keep_25 hl (k := 1) rfl rfl (by decide) rfl (fun ls hl => ?_)
        refine lv_goto (tgt := 7) hx hb dX11_keep_28 (by decide) ?_
        exact ih7 _ _ _ thrown (upd snapshot x1.toNatClampNeg (ss x1.toNatClampNeg)) hasSnapshot (x1 + 1) hw (lv_sub hl [1, 0] rfl) hf
  refine lv_aload_n hx hb dX11_keep_0 rfl (lv_at hl 0 rfl) ?_
  refine lv_iconst (v := 0) hx hb dX11_keep_1 (by decide) ?_
  refine xput (ws' := (wM g h 0 ss states stateMany snapshot hasSnapshot text length at_ isWell rd readMany top bottom digit digitMany other otherMany column columnMany carryMany chainMost)) E hw 0 rfl rfl 0 (by decide) inw11 tyX11_ok nmX11 qw1019 rfl rfl rfl rfl (Nat.le_of_ble_eq_true rfl) dX11_keep_2 rfl (fun H locs hw => ?_)
  refine lv_iconst (v := 0) hx hb dX11_keep_5 (by decide) ?_
  refine lv_istore_n (lv' := [(1, .int 0), (0, .ref (h 0))]) hx hb dX11_keep_6 rfl hl (by decide) rfl (fun ls hl => ?_)
  exact b7 xfuel _ _ _ 0 snapshot hasSnapshot 0 hw (lv_sub hl [1, 0] rfl) hf
theorem k_X11_restore : xKV yX11_restore cX11_restore 2 (some .int) 0 := ⟨qw1262, qw1263, qw74, qw1264, by decide +kernel, by decide +kernel, by decide +kernel⟩
set_option maxHeartbeats 4000000 in
set_option maxRecDepth 100000 in
theorem met_X11_restore (l : Launch) (g : xG) (h : Nat → Nat) (thrown : Int32) (ss : (Nat → Int32)) (states : (Nat → Int32)) (stateMany : Int32) (snapshot : (Nat → Int32)) (hasSnapshot : Int32) (text : (Nat → Int32)) (length : Int32) (at_ : Int32) (isWell : Int32) (rd : (Nat → Int32)) (readMany : Int32) (top : Int64) (bottom : Int64) (digit : (Nat → Int32)) (digitMany : Int32) (other : (Nat → Int32)) (otherMany : Int32) (column : (Nat → Int32)) (columnMany : Int32) (carryMany : Int32) (chainMost : Int32) (out : Int32 × Int32 × (Nat → Int32) × (Nat → Int32) × Int32) (hf : f_X11_restore thrown ss states stateMany snapshot hasSnapshot = some out) : xM l yX11_restore (xC yX11_restore cX11_restore 2 (some .int)) { frames := 1, cells := 0, slots := 0, locals := 21 } g (wM g h thrown ss states stateMany snapshot hasSnapshot text length at_ isWell rd readMany top bottom digit digitMany other otherMany column columnMany carryMany chainMost) [.ref (h 0)] (some (.int out.1)) (wM g h out.2.1 out.2.2.1 out.2.2.2.1 out.2.2.2.2 snapshot hasSnapshot text length at_ isWell rd readMany top bottom digit digitMany other otherMany column columnMany carryMany chainMost) := by
  refine xof (by decide) (Nat.le_of_ble_eq_true rfl) ⟨rfl, rfl⟩ ?_
  intro p e s m below meth c A ls E hr hlocks hw hl hpost hAe
  have hx := E.1.1
  have hb := E.1.2.1
  have hown := E.1.2.2.2.1
  have hts := E.1.2.2.2.2
  generalize hZ : (MQ below (xPost g (wM g h thrown ss states stateMany snapshot hasSnapshot text length at_ isWell rd readMany top bottom digit digitMany other otherMany column columnMany carryMany chainMost) (wM g h out.2.1 out.2.2.1 out.2.2.2.1 out.2.2.2.2 snapshot hasSnapshot text length at_ isWell rd readMany top bottom digit digitMany other otherMany column columnMany carryMany chainMost) s.heap.size (some (.int out.1))) [.ref (h 0)].toArray s 0 0 A) = ZZ
  have hret : ∀ (pc : Nat) (H : Heap) (locs : List Loc) (ls : Array Slot) (v : Int32) (cthrown : Int32) (css : (Nat → Int32)) (cstates : (Nat → Int32)) (cstateMany : Int32), (v, cthrown, css, cstates, cstateMany) = out → decode cX11_restore pc = .ok (.ireturn, 1) → xW g A s.heap (wM g h cthrown css cstates cstateMany snapshot hasSnapshot text length at_ isWell rd readMany top bottom digit digitMany other otherMany column columnMany carryMany chainMost) H locs → W p l e { frames := 1, cells := 0, slots := 0, locals := 21 } s m [.ref (h 0)].toArray below meth c H locs 0 0 ZZ (F0 m pc ls [.int v]) := by
    intro pc H locs ls v cthrown css cstates cstateMany he hd hw
    subst he
    rw [← hZ]
    exact W.iret hx hb hr (hpost H locs hw).1 (hpost H locs hw).2 hd hlocks
  clear hpost
  have b24 : ∀ n24 : Nat, ∀ (H : Heap) (locs : List Loc) (ls : Array Slot) (thrown : Int32) (ss : (Nat → Int32)) (states : (Nat → Int32)) (stateMany : Int32) (x1 : Int32), xW g A s.heap (wM g h thrown ss states stateMany snapshot hasSnapshot text length at_ isWell rd readMany top bottom digit digitMany other otherMany column columnMany carryMany chainMost) H locs → lv_has ls 2 [(0, .ref (h 0)), (1, .int x1)] → f_X11_restore_b24 n24 thrown ss states stateMany snapshot hasSnapshot x1 = some out → W p l e { frames := 1, cells := 0, slots := 0, locals := 21 } s m [.ref (h 0)].toArray below meth c H locs 0 0 ZZ (F0 m 24 ls []) := by
    intro n24
    induction n24 with
    | zero =>
      intro H locs ls thrown ss states stateMany x1 hw hl hf
      exact nn hf
    | succ n24 ih24 =>
      intro H locs ls thrown ss states stateMany x1 hw hl hf
      refine lv_iload_n hx hb dX11_restore_24 rfl (lv_at hl 1 rfl) ?_
      refine lv_bipush (v := 15) hx hb dX11_restore_25 (by decide) ?_
      refine lv_icmp_ge (tgt := 48) hx hb dX11_restore_27 (by decide) (fun c27 => ?_) (fun c27 => ?_)
      · replace hf := ip c27 hf
        refine lv_aload_n hx hb dX11_restore_48 rfl (lv_at hl 0 rfl) ?_
        refine xget (v := .ref (h 1)) E hw 0 rfl rfl 1 (by decide) inw11 qw1020 rfl rfl dX11_restore_49 ?_
        refine lv_iconst (v := 0) hx hb dX11_restore_52 (by decide) ?_
        refine xiald E hw 1 rfl (by decide) dX11_restore_53 ?_
        exact hret _ _ _ _ _ _ _ _ _ (Option.some.inj hf) dX11_restore_54 hw
      · replace hf := iq c27 hf
        refine lv_aload_n hx hb dX11_restore_30 rfl (lv_at hl 0 rfl) ?_
        refine xget (v := .ref (h 1)) E hw 0 rfl rfl 1 (by decide) inw11 qw1020 rfl rfl dX11_restore_31 ?_
        refine lv_iload_n hx hb dX11_restore_34 rfl (lv_at hl 1 rfl) ?_
        refine lv_aload_n hx hb dX11_restore_35 rfl (lv_at hl 0 rfl) ?_
        refine xget (v := .ref (h 3)) E hw 0 rfl rfl 4 (by decide) inw11 qw1023 rfl rfl dX11_restore_36 ?_
        refine lv_iload_n hx hb dX11_restore_39 rfl (lv_at hl 1 rfl) ?_
        obtain ⟨hz, hf⟩ := nz hf
        refine xiald E hw 3 rfl hz dX11_restore_40 ?_
        obtain ⟨hz, hf⟩ := nz hf
        refine xiast (ws' := (wM g h thrown (upd ss x1.toNatClampNeg (snapshot x1.toNatClampNeg)) states stateMany snapshot hasSnapshot text length at_ isWell rd readMany top bottom digit digitMany other otherMany column columnMany carryMany chainMost)) E hw 1 rfl hz dX11_restore_41 rfl (fun H locs hw => ?_)
        refine lv_iinc (v := x1 + 1) (lv' := [(1, .int (x1 + 1)), (0, .ref (h 0))]) hx hb dX11_restore_42 hl (k := 1) rfl rfl (by decide) rfl (fun ls hl => ?_)
        refine lv_goto (tgt := 24) hx hb dX11_restore_45 (by decide) ?_
        exact ih24 _ _ _ thrown (upd ss x1.toNatClampNeg (snapshot x1.toNatClampNeg)) states stateMany (x1 + 1) hw (lv_sub hl [1, 0] rfl) hf
  refine lv_aload_n hx hb dX11_restore_0 rfl (lv_at hl 0 rfl) ?_
  refine lv_iconst (v := 0) hx hb dX11_restore_1 (by decide) ?_
  refine xput (ws' := (wM g h 0 ss states stateMany snapshot hasSnapshot text length at_ isWell rd readMany top bottom digit digitMany other otherMany column columnMany carryMany chainMost)) E hw 0 rfl rfl 0 (by decide) inw11 tyX11_ok nmX11 qw1019 rfl rfl rfl rfl (Nat.le_of_ble_eq_true rfl) dX11_restore_2 rfl (fun H locs hw => ?_)
  refine lv_aload_n hx hb dX11_restore_5 rfl (lv_at hl 0 rfl) ?_
  refine xget (v := .int hasSnapshot) E hw 0 rfl rfl 5 (by decide) inw11 qw1024 rfl rfl dX11_restore_6 ?_
  refine lv_if_ne (tgt := 18) hx hb dX11_restore_9 (by decide) (fun c9 => ?_) (fun c9 => ?_)
  · replace hf := iq c9 hf
    refine lv_aload_n hx hb dX11_restore_18 rfl (lv_at hl 0 rfl) ?_
    obtain ⟨v19, hv19, hf⟩ := ob_e hf
    refine xcallV (ws' := (wM g h 0 ss v19.1 v19.2 snapshot hasSnapshot text length at_ isWell rd readMany top bottom digit digitMany other otherMany column columnMany carryMany chainMost)) (st1 := []) (n := 9) E hw [] [0, 1, 2, 3, 4, 5, 6, 7, 8] (met_X11_records l g h 0 ss states stateMany snapshot hasSnapshot text length at_ isWell rd readMany top bottom digit digitMany other otherMany column columnMany carryMany chainMost v19 hv19) rfl (by decide) rfl rfl [9, 10, 11, 12, 13, 14, 15, 16, 17] rfl (by decide +kernel) rfl rfl rfl rfl qw1104 k_X11_records ⟨rfl, rfl, Nat.le_of_ble_eq_true rfl, Nat.le_of_ble_eq_true rfl⟩ ⟨Nat.zero_le _, Nat.zero_le _⟩ hl.1 (Nat.le_of_ble_eq_true rfl) dX11_restore_19 rfl (fun H locs hw => ?_)
    refine lv_iconst (v := 0) hx hb dX11_restore_22 (by decide) ?_
    refine lv_istore_n (lv' := [(1, .int 0), (0, .ref (h 0))]) hx hb dX11_restore_23 rfl hl (by decide) rfl (fun ls hl => ?_)
    exact b24 xfuel _ _ _ 0 ss v19.1 v19.2 0 hw (lv_sub hl [1, 0] rfl) hf
  · replace hf := ip c9 hf
    refine lv_aload_n hx hb dX11_restore_12 rfl (lv_at hl 0 rfl) ?_
    refine lv_iconst (v := 1) hx hb dX11_restore_13 (by decide) ?_
    obtain ⟨v14, hv14, hf⟩ := ob_e hf
    refine xcallV (ws' := (wM g h v14.2 ss states stateMany snapshot hasSnapshot text length at_ isWell rd readMany top bottom digit digitMany other otherMany column columnMany carryMany chainMost)) (st1 := [.int v14.1]) (n := 9) E hw [.int 1] [0, 1, 2, 3, 4, 5, 6, 7, 8] (met_X11_fails l g h 0 ss states stateMany snapshot hasSnapshot text length at_ isWell rd readMany top bottom digit digitMany other otherMany column columnMany carryMany chainMost 1 v14 hv14) rfl (by decide) rfl rfl [9, 10, 11, 12, 13, 14, 15, 16, 17] rfl (by decide +kernel) rfl rfl rfl rfl qw1100 k_X11_fails ⟨rfl, rfl, Nat.le_of_ble_eq_true rfl, Nat.le_of_ble_eq_true rfl⟩ ⟨Nat.zero_le _, Nat.zero_le _⟩ hl.1 (Nat.le_of_ble_eq_true rfl) dX11_restore_14 rfl (fun H locs hw => ?_)
    exact hret _ _ _ _ _ _ _ _ _ (Option.some.inj hf) dX11_restore_17 hw
theorem k_X11_savedStates : xKV yX11_savedStates cX11_savedStates 1 (some .int) 0 := ⟨qw1266, qw1267, qw74, qw1268, by decide +kernel, by decide +kernel, by decide +kernel⟩
set_option maxHeartbeats 4000000 in
set_option maxRecDepth 100000 in
theorem met_X11_savedStates (l : Launch) (g : xG) (h : Nat → Nat) (thrown : Int32) (ss : (Nat → Int32)) (states : (Nat → Int32)) (stateMany : Int32) (snapshot : (Nat → Int32)) (hasSnapshot : Int32) (text : (Nat → Int32)) (length : Int32) (at_ : Int32) (isWell : Int32) (rd : (Nat → Int32)) (readMany : Int32) (top : Int64) (bottom : Int64) (digit : (Nat → Int32)) (digitMany : Int32) (other : (Nat → Int32)) (otherMany : Int32) (column : (Nat → Int32)) (columnMany : Int32) (carryMany : Int32) (chainMost : Int32) (out : Int32 × Int32) (hf : f_X11_savedStates thrown stateMany = some out) : xM l yX11_savedStates (xC yX11_savedStates cX11_savedStates 1 (some .int)) { frames := 0, cells := 0, slots := 0, locals := 0 } g (wM g h thrown ss states stateMany snapshot hasSnapshot text length at_ isWell rd readMany top bottom digit digitMany other otherMany column columnMany carryMany chainMost) [.ref (h 0)] (some (.int out.1)) (wM g h out.2 ss states stateMany snapshot hasSnapshot text length at_ isWell rd readMany top bottom digit digitMany other otherMany column columnMany carryMany chainMost) := by
  refine xof (by decide) (Nat.le_of_ble_eq_true rfl) ⟨rfl, rfl⟩ ?_
  intro p e s m below meth c A ls E hr hlocks hw hl hpost hAe
  have hx := E.1.1
  have hb := E.1.2.1
  have hown := E.1.2.2.2.1
  have hts := E.1.2.2.2.2
  generalize hZ : (MQ below (xPost g (wM g h thrown ss states stateMany snapshot hasSnapshot text length at_ isWell rd readMany top bottom digit digitMany other otherMany column columnMany carryMany chainMost) (wM g h out.2 ss states stateMany snapshot hasSnapshot text length at_ isWell rd readMany top bottom digit digitMany other otherMany column columnMany carryMany chainMost) s.heap.size (some (.int out.1))) [.ref (h 0)].toArray s 0 0 A) = ZZ
  have hret : ∀ (pc : Nat) (H : Heap) (locs : List Loc) (ls : Array Slot) (v : Int32) (cthrown : Int32), (v, cthrown) = out → decode cX11_savedStates pc = .ok (.ireturn, 1) → xW g A s.heap (wM g h cthrown ss states stateMany snapshot hasSnapshot text length at_ isWell rd readMany top bottom digit digitMany other otherMany column columnMany carryMany chainMost) H locs → W p l e { frames := 0, cells := 0, slots := 0, locals := 0 } s m [.ref (h 0)].toArray below meth c H locs 0 0 ZZ (F0 m pc ls [.int v]) := by
    intro pc H locs ls v cthrown he hd hw
    subst he
    rw [← hZ]
    exact W.iret hx hb hr (hpost H locs hw).1 (hpost H locs hw).2 hd hlocks
  clear hpost
  refine lv_aload_n hx hb dX11_savedStates_0 rfl (lv_at hl 0 rfl) ?_
  refine lv_iconst (v := 0) hx hb dX11_savedStates_1 (by decide) ?_
  refine xput (ws' := (wM g h 0 ss states stateMany snapshot hasSnapshot text length at_ isWell rd readMany top bottom digit digitMany other otherMany column columnMany carryMany chainMost)) E hw 0 rfl rfl 0 (by decide) inw11 tyX11_ok nmX11 qw1019 rfl rfl rfl rfl (Nat.le_of_ble_eq_true rfl) dX11_savedStates_2 rfl (fun H locs hw => ?_)
  refine lv_aload_n hx hb dX11_savedStates_5 rfl (lv_at hl 0 rfl) ?_
  refine xget (v := .int stateMany) E hw 0 rfl rfl 3 (by decide) inw11 qw1022 rfl rfl dX11_savedStates_6 ?_
  exact hret _ _ _ _ _ _ (Option.some.inj hf) dX11_savedStates_9 hw
theorem k_X11_base : xKV yX11_base cX11_base 1 (some .int) 0 := ⟨qw1270, qw1271, qw74, qw1272, by decide +kernel, by decide +kernel, by decide +kernel⟩
set_option maxHeartbeats 4000000 in
set_option maxRecDepth 100000 in
theorem met_X11_base (l : Launch) (g : xG) (h : Nat → Nat) (thrown : Int32) (ss : (Nat → Int32)) (states : (Nat → Int32)) (stateMany : Int32) (snapshot : (Nat → Int32)) (hasSnapshot : Int32) (text : (Nat → Int32)) (length : Int32) (at_ : Int32) (isWell : Int32) (rd : (Nat → Int32)) (readMany : Int32) (top : Int64) (bottom : Int64) (digit : (Nat → Int32)) (digitMany : Int32) (other : (Nat → Int32)) (otherMany : Int32) (column : (Nat → Int32)) (columnMany : Int32) (carryMany : Int32) (chainMost : Int32) (out : Int32 × Int32) (hf : f_X11_base thrown ss = some out) : xM l yX11_base (xC yX11_base cX11_base 1 (some .int)) { frames := 0, cells := 0, slots := 0, locals := 0 } g (wM g h thrown ss states stateMany snapshot hasSnapshot text length at_ isWell rd readMany top bottom digit digitMany other otherMany column columnMany carryMany chainMost) [.ref (h 0)] (some (.int out.1)) (wM g h out.2 ss states stateMany snapshot hasSnapshot text length at_ isWell rd readMany top bottom digit digitMany other otherMany column columnMany carryMany chainMost) := by
  refine xof (by decide) (Nat.le_of_ble_eq_true rfl) ⟨rfl, rfl⟩ ?_
  intro p e s m below meth c A ls E hr hlocks hw hl hpost hAe
  have hx := E.1.1
  have hb := E.1.2.1
  have hown := E.1.2.2.2.1
  have hts := E.1.2.2.2.2
  generalize hZ : (MQ below (xPost g (wM g h thrown ss states stateMany snapshot hasSnapshot text length at_ isWell rd readMany top bottom digit digitMany other otherMany column columnMany carryMany chainMost) (wM g h out.2 ss states stateMany snapshot hasSnapshot text length at_ isWell rd readMany top bottom digit digitMany other otherMany column columnMany carryMany chainMost) s.heap.size (some (.int out.1))) [.ref (h 0)].toArray s 0 0 A) = ZZ
  have hret : ∀ (pc : Nat) (H : Heap) (locs : List Loc) (ls : Array Slot) (v : Int32) (cthrown : Int32), (v, cthrown) = out → decode cX11_base pc = .ok (.ireturn, 1) → xW g A s.heap (wM g h cthrown ss states stateMany snapshot hasSnapshot text length at_ isWell rd readMany top bottom digit digitMany other otherMany column columnMany carryMany chainMost) H locs → W p l e { frames := 0, cells := 0, slots := 0, locals := 0 } s m [.ref (h 0)].toArray below meth c H locs 0 0 ZZ (F0 m pc ls [.int v]) := by
    intro pc H locs ls v cthrown he hd hw
    subst he
    rw [← hZ]
    exact W.iret hx hb hr (hpost H locs hw).1 (hpost H locs hw).2 hd hlocks
  clear hpost
  refine lv_aload_n hx hb dX11_base_0 rfl (lv_at hl 0 rfl) ?_
  refine lv_iconst (v := 0) hx hb dX11_base_1 (by decide) ?_
  refine xput (ws' := (wM g h 0 ss states stateMany snapshot hasSnapshot text length at_ isWell rd readMany top bottom digit digitMany other otherMany column columnMany carryMany chainMost)) E hw 0 rfl rfl 0 (by decide) inw11 tyX11_ok nmX11 qw1019 rfl rfl rfl rfl (Nat.le_of_ble_eq_true rfl) dX11_base_2 rfl (fun H locs hw => ?_)
  refine lv_aload_n hx hb dX11_base_5 rfl (lv_at hl 0 rfl) ?_
  refine xget (v := .ref (h 1)) E hw 0 rfl rfl 1 (by decide) inw11 qw1020 rfl rfl dX11_base_6 ?_
  refine lv_iconst (v := 0) hx hb dX11_base_9 (by decide) ?_
  refine xiald E hw 1 rfl (by decide) dX11_base_10 ?_
  exact hret _ _ _ _ _ _ (Option.some.inj hf) dX11_base_11 hw
theorem k_X11_numerator : xKV yX11_numerator cX11_numerator 2 (some .int) 1 := ⟨qw1274, qw1275, qw74, qw1276, by decide +kernel, by decide +kernel, by decide +kernel⟩
set_option maxHeartbeats 4000000 in
set_option maxRecDepth 100000 in
theorem met_X11_numerator (l : Launch) (g : xG) (h : Nat → Nat) (thrown : Int32) (ss : (Nat → Int32)) (states : (Nat → Int32)) (stateMany : Int32) (snapshot : (Nat → Int32)) (hasSnapshot : Int32) (text : (Nat → Int32)) (length : Int32) (at_ : Int32) (isWell : Int32) (rd : (Nat → Int32)) (readMany : Int32) (top : Int64) (bottom : Int64) (digit : (Nat → Int32)) (digitMany : Int32) (other : (Nat → Int32)) (otherMany : Int32) (column : (Nat → Int32)) (columnMany : Int32) (carryMany : Int32) (chainMost : Int32) (a1 : Int32) (out : Int32 × Int32) (hf : f_X11_numerator thrown ss a1 = some out) : xM l yX11_numerator (xC yX11_numerator cX11_numerator 2 (some .int)) { frames := 2, cells := 0, slots := 0, locals := 42 } g (wM g h thrown ss states stateMany snapshot hasSnapshot text length at_ isWell rd readMany top bottom digit digitMany other otherMany column columnMany carryMany chainMost) [.ref (h 0), .int a1] (some (.int out.1)) (wM g h out.2 ss states stateMany snapshot hasSnapshot text length at_ isWell rd readMany top bottom digit digitMany other otherMany column columnMany carryMany chainMost) := by
  refine xof (by decide) (Nat.le_of_ble_eq_true rfl) ⟨rfl, rfl⟩ ?_
  intro p e s m below meth c A ls E hr hlocks hw hl hpost hAe
  have hx := E.1.1
  have hb := E.1.2.1
  have hown := E.1.2.2.2.1
  have hts := E.1.2.2.2.2
  generalize hZ : (MQ below (xPost g (wM g h thrown ss states stateMany snapshot hasSnapshot text length at_ isWell rd readMany top bottom digit digitMany other otherMany column columnMany carryMany chainMost) (wM g h out.2 ss states stateMany snapshot hasSnapshot text length at_ isWell rd readMany top bottom digit digitMany other otherMany column columnMany carryMany chainMost) s.heap.size (some (.int out.1))) [.ref (h 0), .int a1].toArray s 0 0 A) = ZZ
  have hret : ∀ (pc : Nat) (H : Heap) (locs : List Loc) (ls : Array Slot) (v : Int32) (cthrown : Int32), (v, cthrown) = out → decode cX11_numerator pc = .ok (.ireturn, 1) → xW g A s.heap (wM g h cthrown ss states stateMany snapshot hasSnapshot text length at_ isWell rd readMany top bottom digit digitMany other otherMany column columnMany carryMany chainMost) H locs → W p l e { frames := 2, cells := 0, slots := 0, locals := 42 } s m [.ref (h 0), .int a1].toArray below meth c H locs 0 0 ZZ (F0 m pc ls [.int v]) := by
    intro pc H locs ls v cthrown he hd hw
    subst he
    rw [← hZ]
    exact W.iret hx hb hr (hpost H locs hw).1 (hpost H locs hw).2 hd hlocks
  clear hpost
  refine lv_aload_n hx hb dX11_numerator_0 rfl (lv_at hl 0 rfl) ?_
  refine lv_iconst (v := 0) hx hb dX11_numerator_1 (by decide) ?_
  refine xput (ws' := (wM g h 0 ss states stateMany snapshot hasSnapshot text length at_ isWell rd readMany top bottom digit digitMany other otherMany column columnMany carryMany chainMost)) E hw 0 rfl rfl 0 (by decide) inw11 tyX11_ok nmX11 qw1019 rfl rfl rfl rfl (Nat.le_of_ble_eq_true rfl) dX11_numerator_2 rfl (fun H locs hw => ?_)
  refine lv_iload_n hx hb dX11_numerator_5 rfl (lv_at hl 1 rfl) ?_
  obtain ⟨v6, hv6, hf⟩ := ob_e hf
  refine xcallS (ws' := (wM g h 0 ss states stateMany snapshot hasSnapshot text length at_ isWell rd readMany top bottom digit digitMany other otherMany column columnMany carryMany chainMost)) (st1 := [.int v6]) (n := 9) E hw [.int a1] [] (met_X11_isAccount l g a1 v6 hv6) rfl (by decide) rfl rfl [0, 1, 2, 3, 4, 5, 6, 7, 8] rfl (by decide +kernel) rfl qw1112 k_X11_isAccount ⟨rfl, rfl, Nat.le_of_ble_eq_true rfl, Nat.le_of_ble_eq_true rfl⟩ ⟨Nat.zero_le _, Nat.zero_le _⟩ hl.1 (Nat.le_of_ble_eq_true rfl) dX11_numerator_6 rfl (fun H locs hw => ?_)
  refine lv_if_eq (tgt := 20) hx hb dX11_numerator_9 (by decide) (fun c9 => ?_) (fun c9 => ?_)
  · replace hf := ip c9 hf
    refine lv_aload_n hx hb dX11_numerator_20 rfl (lv_at hl 0 rfl) ?_
    refine lv_iconst (v := 1) hx hb dX11_numerator_21 (by decide) ?_
    obtain ⟨v22, hv22, hf⟩ := ob_e hf
    refine xcallV (ws' := (wM g h v22.2 ss states stateMany snapshot hasSnapshot text length at_ isWell rd readMany top bottom digit digitMany other otherMany column columnMany carryMany chainMost)) (st1 := [.int v22.1]) (n := 9) E hw [.int 1] [0, 1, 2, 3, 4, 5, 6, 7, 8] (met_X11_fails l g h 0 ss states stateMany snapshot hasSnapshot text length at_ isWell rd readMany top bottom digit digitMany other otherMany column columnMany carryMany chainMost 1 v22 hv22) rfl (by decide) rfl rfl [9, 10, 11, 12, 13, 14, 15, 16, 17] rfl (by decide +kernel) rfl rfl rfl rfl qw1100 k_X11_fails ⟨rfl, rfl, Nat.le_of_ble_eq_true rfl, Nat.le_of_ble_eq_true rfl⟩ ⟨Nat.zero_le _, Nat.zero_le _⟩ hl.1 (Nat.le_of_ble_eq_true rfl) dX11_numerator_22 rfl (fun H locs hw => ?_)
    exact hret _ _ _ _ _ _ (Option.some.inj hf) dX11_numerator_25 hw
  · replace hf := iq c9 hf
    refine lv_aload_n hx hb dX11_numerator_12 rfl (lv_at hl 0 rfl) ?_
    refine lv_iload_n hx hb dX11_numerator_13 rfl (lv_at hl 1 rfl) ?_
    obtain ⟨v14, hv14, hf⟩ := ob_e hf
    refine xcallV (ws' := (wM g h 0 ss states stateMany snapshot hasSnapshot text length at_ isWell rd readMany top bottom digit digitMany other otherMany column columnMany carryMany chainMost)) (st1 := [.int v14]) (n := 9) E hw [.int a1] [0, 1, 2, 3, 4, 5, 6, 7, 8] (met_X11_up l g h 0 ss states stateMany snapshot hasSnapshot text length at_ isWell rd readMany top bottom digit digitMany other otherMany column columnMany carryMany chainMost a1 v14 hv14) rfl (by decide) rfl rfl [9, 10, 11, 12, 13, 14, 15, 16, 17] rfl (by decide +kernel) rfl rfl rfl rfl qw1144 k_X11_up ⟨rfl, rfl, Nat.le_of_ble_eq_true rfl, Nat.le_of_ble_eq_true rfl⟩ ⟨Nat.zero_le _, Nat.zero_le _⟩ hl.1 (Nat.le_of_ble_eq_true rfl) dX11_numerator_14 rfl (fun H locs hw => ?_)
    refine lv_goto (tgt := 25) hx hb dX11_numerator_17 (by decide) ?_
    exact hret _ _ _ _ _ _ (Option.some.inj hf) dX11_numerator_25 hw
theorem k_X11_denominator : xKV yX11_denominator cX11_denominator 2 (some .int) 1 := ⟨qw1278, qw1279, qw74, qw1280, by decide +kernel, by decide +kernel, by decide +kernel⟩
set_option maxHeartbeats 4000000 in
set_option maxRecDepth 100000 in
theorem met_X11_denominator (l : Launch) (g : xG) (h : Nat → Nat) (thrown : Int32) (ss : (Nat → Int32)) (states : (Nat → Int32)) (stateMany : Int32) (snapshot : (Nat → Int32)) (hasSnapshot : Int32) (text : (Nat → Int32)) (length : Int32) (at_ : Int32) (isWell : Int32) (rd : (Nat → Int32)) (readMany : Int32) (top : Int64) (bottom : Int64) (digit : (Nat → Int32)) (digitMany : Int32) (other : (Nat → Int32)) (otherMany : Int32) (column : (Nat → Int32)) (columnMany : Int32) (carryMany : Int32) (chainMost : Int32) (a1 : Int32) (out : Int32 × Int32) (hf : f_X11_denominator thrown ss a1 = some out) : xM l yX11_denominator (xC yX11_denominator cX11_denominator 2 (some .int)) { frames := 2, cells := 0, slots := 0, locals := 42 } g (wM g h thrown ss states stateMany snapshot hasSnapshot text length at_ isWell rd readMany top bottom digit digitMany other otherMany column columnMany carryMany chainMost) [.ref (h 0), .int a1] (some (.int out.1)) (wM g h out.2 ss states stateMany snapshot hasSnapshot text length at_ isWell rd readMany top bottom digit digitMany other otherMany column columnMany carryMany chainMost) := by
  refine xof (by decide) (Nat.le_of_ble_eq_true rfl) ⟨rfl, rfl⟩ ?_
  intro p e s m below meth c A ls E hr hlocks hw hl hpost hAe
  have hx := E.1.1
  have hb := E.1.2.1
  have hown := E.1.2.2.2.1
  have hts := E.1.2.2.2.2
  generalize hZ : (MQ below (xPost g (wM g h thrown ss states stateMany snapshot hasSnapshot text length at_ isWell rd readMany top bottom digit digitMany other otherMany column columnMany carryMany chainMost) (wM g h out.2 ss states stateMany snapshot hasSnapshot text length at_ isWell rd readMany top bottom digit digitMany other otherMany column columnMany carryMany chainMost) s.heap.size (some (.int out.1))) [.ref (h 0), .int a1].toArray s 0 0 A) = ZZ
  have hret : ∀ (pc : Nat) (H : Heap) (locs : List Loc) (ls : Array Slot) (v : Int32) (cthrown : Int32), (v, cthrown) = out → decode cX11_denominator pc = .ok (.ireturn, 1) → xW g A s.heap (wM g h cthrown ss states stateMany snapshot hasSnapshot text length at_ isWell rd readMany top bottom digit digitMany other otherMany column columnMany carryMany chainMost) H locs → W p l e { frames := 2, cells := 0, slots := 0, locals := 42 } s m [.ref (h 0), .int a1].toArray below meth c H locs 0 0 ZZ (F0 m pc ls [.int v]) := by
    intro pc H locs ls v cthrown he hd hw
    subst he
    rw [← hZ]
    exact W.iret hx hb hr (hpost H locs hw).1 (hpost H locs hw).2 hd hlocks
  clear hpost
  refine lv_aload_n hx hb dX11_denominator_0 rfl (lv_at hl 0 rfl) ?_
  refine lv_iconst (v := 0) hx hb dX11_denominator_1 (by decide) ?_
  refine xput (ws' := (wM g h 0 ss states stateMany snapshot hasSnapshot text length at_ isWell rd readMany top bottom digit digitMany other otherMany column columnMany carryMany chainMost)) E hw 0 rfl rfl 0 (by decide) inw11 tyX11_ok nmX11 qw1019 rfl rfl rfl rfl (Nat.le_of_ble_eq_true rfl) dX11_denominator_2 rfl (fun H locs hw => ?_)
  refine lv_iload_n hx hb dX11_denominator_5 rfl (lv_at hl 1 rfl) ?_
  obtain ⟨v6, hv6, hf⟩ := ob_e hf
  refine xcallS (ws' := (wM g h 0 ss states stateMany snapshot hasSnapshot text length at_ isWell rd readMany top bottom digit digitMany other otherMany column columnMany carryMany chainMost)) (st1 := [.int v6]) (n := 9) E hw [.int a1] [] (met_X11_isAccount l g a1 v6 hv6) rfl (by decide) rfl rfl [0, 1, 2, 3, 4, 5, 6, 7, 8] rfl (by decide +kernel) rfl qw1112 k_X11_isAccount ⟨rfl, rfl, Nat.le_of_ble_eq_true rfl, Nat.le_of_ble_eq_true rfl⟩ ⟨Nat.zero_le _, Nat.zero_le _⟩ hl.1 (Nat.le_of_ble_eq_true rfl) dX11_denominator_6 rfl (fun H locs hw => ?_)
  refine lv_if_eq (tgt := 20) hx hb dX11_denominator_9 (by decide) (fun c9 => ?_) (fun c9 => ?_)
  · replace hf := ip c9 hf
    refine lv_aload_n hx hb dX11_denominator_20 rfl (lv_at hl 0 rfl) ?_
    refine lv_iconst (v := 1) hx hb dX11_denominator_21 (by decide) ?_
    obtain ⟨v22, hv22, hf⟩ := ob_e hf
    refine xcallV (ws' := (wM g h v22.2 ss states stateMany snapshot hasSnapshot text length at_ isWell rd readMany top bottom digit digitMany other otherMany column columnMany carryMany chainMost)) (st1 := [.int v22.1]) (n := 9) E hw [.int 1] [0, 1, 2, 3, 4, 5, 6, 7, 8] (met_X11_fails l g h 0 ss states stateMany snapshot hasSnapshot text length at_ isWell rd readMany top bottom digit digitMany other otherMany column columnMany carryMany chainMost 1 v22 hv22) rfl (by decide) rfl rfl [9, 10, 11, 12, 13, 14, 15, 16, 17] rfl (by decide +kernel) rfl rfl rfl rfl qw1100 k_X11_fails ⟨rfl, rfl, Nat.le_of_ble_eq_true rfl, Nat.le_of_ble_eq_true rfl⟩ ⟨Nat.zero_le _, Nat.zero_le _⟩ hl.1 (Nat.le_of_ble_eq_true rfl) dX11_denominator_22 rfl (fun H locs hw => ?_)
    exact hret _ _ _ _ _ _ (Option.some.inj hf) dX11_denominator_25 hw
  · replace hf := iq c9 hf
    refine lv_aload_n hx hb dX11_denominator_12 rfl (lv_at hl 0 rfl) ?_
    refine lv_iload_n hx hb dX11_denominator_13 rfl (lv_at hl 1 rfl) ?_
    obtain ⟨v14, hv14, hf⟩ := ob_e hf
    refine xcallV (ws' := (wM g h 0 ss states stateMany snapshot hasSnapshot text length at_ isWell rd readMany top bottom digit digitMany other otherMany column columnMany carryMany chainMost)) (st1 := [.int v14]) (n := 9) E hw [.int a1] [0, 1, 2, 3, 4, 5, 6, 7, 8] (met_X11_down l g h 0 ss states stateMany snapshot hasSnapshot text length at_ isWell rd readMany top bottom digit digitMany other otherMany column columnMany carryMany chainMost a1 v14 hv14) rfl (by decide) rfl rfl [9, 10, 11, 12, 13, 14, 15, 16, 17] rfl (by decide +kernel) rfl rfl rfl rfl qw1129 k_X11_down ⟨rfl, rfl, Nat.le_of_ble_eq_true rfl, Nat.le_of_ble_eq_true rfl⟩ ⟨Nat.zero_le _, Nat.zero_le _⟩ hl.1 (Nat.le_of_ble_eq_true rfl) dX11_denominator_14 rfl (fun H locs hw => ?_)
    refine lv_goto (tgt := 25) hx hb dX11_denominator_17 (by decide) ?_
    exact hret _ _ _ _ _ _ (Option.some.inj hf) dX11_denominator_25 hw
theorem k_X11_whole : xKV yX11_whole cX11_whole 2 (some .int) 1 := ⟨qw1282, qw1283, qw74, qw1284, by decide +kernel, by decide +kernel, by decide +kernel⟩
set_option maxHeartbeats 4000000 in
set_option maxRecDepth 100000 in
theorem met_X11_whole (l : Launch) (g : xG) (h : Nat → Nat) (thrown : Int32) (ss : (Nat → Int32)) (states : (Nat → Int32)) (stateMany : Int32) (snapshot : (Nat → Int32)) (hasSnapshot : Int32) (text : (Nat → Int32)) (length : Int32) (at_ : Int32) (isWell : Int32) (rd : (Nat → Int32)) (readMany : Int32) (top : Int64) (bottom : Int64) (digit : (Nat → Int32)) (digitMany : Int32) (other : (Nat → Int32)) (otherMany : Int32) (column : (Nat → Int32)) (columnMany : Int32) (carryMany : Int32) (chainMost : Int32) (a1 : Int32) (out : Int32 × Int32) (hf : f_X11_whole thrown ss a1 = some out) : xM l yX11_whole (xC yX11_whole cX11_whole 2 (some .int)) { frames := 2, cells := 0, slots := 0, locals := 42 } g (wM g h thrown ss states stateMany snapshot hasSnapshot text length at_ isWell rd readMany top bottom digit digitMany other otherMany column columnMany carryMany chainMost) [.ref (h 0), .int a1] (some (.int out.1)) (wM g h out.2 ss states stateMany snapshot hasSnapshot text length at_ isWell rd readMany top bottom digit digitMany other otherMany column columnMany carryMany chainMost) := by
  refine xof (by decide) (Nat.le_of_ble_eq_true rfl) ⟨rfl, rfl⟩ ?_
  intro p e s m below meth c A ls E hr hlocks hw hl hpost hAe
  have hx := E.1.1
  have hb := E.1.2.1
  have hown := E.1.2.2.2.1
  have hts := E.1.2.2.2.2
  generalize hZ : (MQ below (xPost g (wM g h thrown ss states stateMany snapshot hasSnapshot text length at_ isWell rd readMany top bottom digit digitMany other otherMany column columnMany carryMany chainMost) (wM g h out.2 ss states stateMany snapshot hasSnapshot text length at_ isWell rd readMany top bottom digit digitMany other otherMany column columnMany carryMany chainMost) s.heap.size (some (.int out.1))) [.ref (h 0), .int a1].toArray s 0 0 A) = ZZ
  have hret : ∀ (pc : Nat) (H : Heap) (locs : List Loc) (ls : Array Slot) (v : Int32) (cthrown : Int32), (v, cthrown) = out → decode cX11_whole pc = .ok (.ireturn, 1) → xW g A s.heap (wM g h cthrown ss states stateMany snapshot hasSnapshot text length at_ isWell rd readMany top bottom digit digitMany other otherMany column columnMany carryMany chainMost) H locs → W p l e { frames := 2, cells := 0, slots := 0, locals := 42 } s m [.ref (h 0), .int a1].toArray below meth c H locs 0 0 ZZ (F0 m pc ls [.int v]) := by
    intro pc H locs ls v cthrown he hd hw
    subst he
    rw [← hZ]
    exact W.iret hx hb hr (hpost H locs hw).1 (hpost H locs hw).2 hd hlocks
  clear hpost
  refine lv_aload_n hx hb dX11_whole_0 rfl (lv_at hl 0 rfl) ?_
  refine lv_iconst (v := 0) hx hb dX11_whole_1 (by decide) ?_
  refine xput (ws' := (wM g h 0 ss states stateMany snapshot hasSnapshot text length at_ isWell rd readMany top bottom digit digitMany other otherMany column columnMany carryMany chainMost)) E hw 0 rfl rfl 0 (by decide) inw11 tyX11_ok nmX11 qw1019 rfl rfl rfl rfl (Nat.le_of_ble_eq_true rfl) dX11_whole_2 rfl (fun H locs hw => ?_)
  refine lv_iload_n hx hb dX11_whole_5 rfl (lv_at hl 1 rfl) ?_
  obtain ⟨v6, hv6, hf⟩ := ob_e hf
  refine xcallS (ws' := (wM g h 0 ss states stateMany snapshot hasSnapshot text length at_ isWell rd readMany top bottom digit digitMany other otherMany column columnMany carryMany chainMost)) (st1 := [.int v6]) (n := 9) E hw [.int a1] [] (met_X11_isAccount l g a1 v6 hv6) rfl (by decide) rfl rfl [0, 1, 2, 3, 4, 5, 6, 7, 8] rfl (by decide +kernel) rfl qw1112 k_X11_isAccount ⟨rfl, rfl, Nat.le_of_ble_eq_true rfl, Nat.le_of_ble_eq_true rfl⟩ ⟨Nat.zero_le _, Nat.zero_le _⟩ hl.1 (Nat.le_of_ble_eq_true rfl) dX11_whole_6 rfl (fun H locs hw => ?_)
  refine lv_if_eq (tgt := 20) hx hb dX11_whole_9 (by decide) (fun c9 => ?_) (fun c9 => ?_)
  · replace hf := ip c9 hf
    refine lv_aload_n hx hb dX11_whole_20 rfl (lv_at hl 0 rfl) ?_
    refine lv_iconst (v := 1) hx hb dX11_whole_21 (by decide) ?_
    obtain ⟨v22, hv22, hf⟩ := ob_e hf
    refine xcallV (ws' := (wM g h v22.2 ss states stateMany snapshot hasSnapshot text length at_ isWell rd readMany top bottom digit digitMany other otherMany column columnMany carryMany chainMost)) (st1 := [.int v22.1]) (n := 9) E hw [.int 1] [0, 1, 2, 3, 4, 5, 6, 7, 8] (met_X11_fails l g h 0 ss states stateMany snapshot hasSnapshot text length at_ isWell rd readMany top bottom digit digitMany other otherMany column columnMany carryMany chainMost 1 v22 hv22) rfl (by decide) rfl rfl [9, 10, 11, 12, 13, 14, 15, 16, 17] rfl (by decide +kernel) rfl rfl rfl rfl qw1100 k_X11_fails ⟨rfl, rfl, Nat.le_of_ble_eq_true rfl, Nat.le_of_ble_eq_true rfl⟩ ⟨Nat.zero_le _, Nat.zero_le _⟩ hl.1 (Nat.le_of_ble_eq_true rfl) dX11_whole_22 rfl (fun H locs hw => ?_)
    exact hret _ _ _ _ _ _ (Option.some.inj hf) dX11_whole_25 hw
  · replace hf := iq c9 hf
    refine lv_aload_n hx hb dX11_whole_12 rfl (lv_at hl 0 rfl) ?_
    refine lv_iload_n hx hb dX11_whole_13 rfl (lv_at hl 1 rfl) ?_
    obtain ⟨v14, hv14, hf⟩ := ob_e hf
    refine xcallV (ws' := (wM g h 0 ss states stateMany snapshot hasSnapshot text length at_ isWell rd readMany top bottom digit digitMany other otherMany column columnMany carryMany chainMost)) (st1 := [.int v14]) (n := 9) E hw [.int a1] [0, 1, 2, 3, 4, 5, 6, 7, 8] (met_X11_wholeOf l g h 0 ss states stateMany snapshot hasSnapshot text length at_ isWell rd readMany top bottom digit digitMany other otherMany column columnMany carryMany chainMost a1 v14 hv14) rfl (by decide) rfl rfl [9, 10, 11, 12, 13, 14, 15, 16, 17] rfl (by decide +kernel) rfl rfl rfl rfl qw1169 k_X11_wholeOf ⟨rfl, rfl, Nat.le_of_ble_eq_true rfl, Nat.le_of_ble_eq_true rfl⟩ ⟨Nat.zero_le _, Nat.zero_le _⟩ hl.1 (Nat.le_of_ble_eq_true rfl) dX11_whole_14 rfl (fun H locs hw => ?_)
    refine lv_goto (tgt := 25) hx hb dX11_whole_17 (by decide) ?_
    exact hret _ _ _ _ _ _ (Option.some.inj hf) dX11_whole_25 hw
theorem k_X11_compare : xKV yX11_compare cX11_compare 3 (some .int) 2 := ⟨qw1286, qw1287, qw74, qw1288, by decide +kernel, by decide +kernel, by decide +kernel⟩
set_option maxHeartbeats 4000000 in
set_option maxRecDepth 100000 in
theorem met_X11_compare (l : Launch) (g : xG) (h : Nat → Nat) (thrown : Int32) (ss : (Nat → Int32)) (states : (Nat → Int32)) (stateMany : Int32) (snapshot : (Nat → Int32)) (hasSnapshot : Int32) (text : (Nat → Int32)) (length : Int32) (at_ : Int32) (isWell : Int32) (rd : (Nat → Int32)) (readMany : Int32) (top : Int64) (bottom : Int64) (digit : (Nat → Int32)) (digitMany : Int32) (other : (Nat → Int32)) (otherMany : Int32) (column : (Nat → Int32)) (columnMany : Int32) (carryMany : Int32) (chainMost : Int32) (a1 : Int32) (a2 : Int32) (out : Int32 × Int32) (hf : f_X11_compare thrown ss a1 a2 = some out) : xM l yX11_compare (xC yX11_compare cX11_compare 3 (some .int)) { frames := 3, cells := 0, slots := 0, locals := 63 } g (wM g h thrown ss states stateMany snapshot hasSnapshot text length at_ isWell rd readMany top bottom digit digitMany other otherMany column columnMany carryMany chainMost) [.ref (h 0), .int a1, .int a2] (some (.int out.1)) (wM g h out.2 ss states stateMany snapshot hasSnapshot text length at_ isWell rd readMany top bottom digit digitMany other otherMany column columnMany carryMany chainMost) := by
  refine xof (by decide) (Nat.le_of_ble_eq_true rfl) ⟨rfl, rfl⟩ ?_
  intro p e s m below meth c A ls E hr hlocks hw hl hpost hAe
  have hx := E.1.1
  have hb := E.1.2.1
  have hown := E.1.2.2.2.1
  have hts := E.1.2.2.2.2
  generalize hZ : (MQ below (xPost g (wM g h thrown ss states stateMany snapshot hasSnapshot text length at_ isWell rd readMany top bottom digit digitMany other otherMany column columnMany carryMany chainMost) (wM g h out.2 ss states stateMany snapshot hasSnapshot text length at_ isWell rd readMany top bottom digit digitMany other otherMany column columnMany carryMany chainMost) s.heap.size (some (.int out.1))) [.ref (h 0), .int a1, .int a2].toArray s 0 0 A) = ZZ
  have hret : ∀ (pc : Nat) (H : Heap) (locs : List Loc) (ls : Array Slot) (v : Int32) (cthrown : Int32), (v, cthrown) = out → decode cX11_compare pc = .ok (.ireturn, 1) → xW g A s.heap (wM g h cthrown ss states stateMany snapshot hasSnapshot text length at_ isWell rd readMany top bottom digit digitMany other otherMany column columnMany carryMany chainMost) H locs → W p l e { frames := 3, cells := 0, slots := 0, locals := 63 } s m [.ref (h 0), .int a1, .int a2].toArray below meth c H locs 0 0 ZZ (F0 m pc ls [.int v]) := by
    intro pc H locs ls v cthrown he hd hw
    subst he
    rw [← hZ]
    exact W.iret hx hb hr (hpost H locs hw).1 (hpost H locs hw).2 hd hlocks
  clear hpost
  refine lv_aload_n hx hb dX11_compare_0 rfl (lv_at hl 0 rfl) ?_
  refine lv_iconst (v := 0) hx hb dX11_compare_1 (by decide) ?_
  refine xput (ws' := (wM g h 0 ss states stateMany snapshot hasSnapshot text length at_ isWell rd readMany top bottom digit digitMany other otherMany column columnMany carryMany chainMost)) E hw 0 rfl rfl 0 (by decide) inw11 tyX11_ok nmX11 qw1019 rfl rfl rfl rfl (Nat.le_of_ble_eq_true rfl) dX11_compare_2 rfl (fun H locs hw => ?_)
  refine lv_iload_n hx hb dX11_compare_5 rfl (lv_at hl 1 rfl) ?_
  refine lv_iload_n hx hb dX11_compare_6 rfl (lv_at hl 2 rfl) ?_
  obtain ⟨v7, hv7, hf⟩ := ob_e hf
  refine xcallS (ws' := (wM g h 0 ss states stateMany snapshot hasSnapshot text length at_ isWell rd readMany top bottom digit digitMany other otherMany column columnMany carryMany chainMost)) (st1 := [.int v7]) (n := 9) E hw [.int a1, .int a2] [] (met_X11_areAccounts l g a1 a2 v7 hv7) rfl (by decide) rfl rfl [0, 1, 2, 3, 4, 5, 6, 7, 8] rfl (by decide +kernel) rfl qw1137 k_X11_areAccounts ⟨rfl, rfl, Nat.le_of_ble_eq_true rfl, Nat.le_of_ble_eq_true rfl⟩ ⟨Nat.zero_le _, Nat.zero_le _⟩ hl.1 (Nat.le_of_ble_eq_true rfl) dX11_compare_7 rfl (fun H locs hw => ?_)
  refine lv_if_eq (tgt := 22) hx hb dX11_compare_10 (by decide) (fun c10 => ?_) (fun c10 => ?_)
  · replace hf := ip c10 hf
    refine lv_aload_n hx hb dX11_compare_22 rfl (lv_at hl 0 rfl) ?_
    refine lv_iconst (v := 1) hx hb dX11_compare_23 (by decide) ?_
    obtain ⟨v24, hv24, hf⟩ := ob_e hf
    refine xcallV (ws' := (wM g h v24.2 ss states stateMany snapshot hasSnapshot text length at_ isWell rd readMany top bottom digit digitMany other otherMany column columnMany carryMany chainMost)) (st1 := [.int v24.1]) (n := 9) E hw [.int 1] [0, 1, 2, 3, 4, 5, 6, 7, 8] (met_X11_fails l g h 0 ss states stateMany snapshot hasSnapshot text length at_ isWell rd readMany top bottom digit digitMany other otherMany column columnMany carryMany chainMost 1 v24 hv24) rfl (by decide) rfl rfl [9, 10, 11, 12, 13, 14, 15, 16, 17] rfl (by decide +kernel) rfl rfl rfl rfl qw1100 k_X11_fails ⟨rfl, rfl, Nat.le_of_ble_eq_true rfl, Nat.le_of_ble_eq_true rfl⟩ ⟨Nat.zero_le _, Nat.zero_le _⟩ hl.1 (Nat.le_of_ble_eq_true rfl) dX11_compare_24 rfl (fun H locs hw => ?_)
    exact hret _ _ _ _ _ _ (Option.some.inj hf) dX11_compare_27 hw
  · replace hf := iq c10 hf
    refine lv_aload_n hx hb dX11_compare_13 rfl (lv_at hl 0 rfl) ?_
    refine lv_iload_n hx hb dX11_compare_14 rfl (lv_at hl 1 rfl) ?_
    refine lv_iload_n hx hb dX11_compare_15 rfl (lv_at hl 2 rfl) ?_
    obtain ⟨v16, hv16, hf⟩ := ob_e hf
    refine xcallV (ws' := (wM g h 0 ss states stateMany snapshot hasSnapshot text length at_ isWell rd readMany top bottom digit digitMany other otherMany column columnMany carryMany chainMost)) (st1 := [.int v16]) (n := 9) E hw [.int a1, .int a2] [0, 1, 2, 3, 4, 5, 6, 7, 8] (met_X11_holds l g h 0 ss states stateMany snapshot hasSnapshot text length at_ isWell rd readMany top bottom digit digitMany other otherMany column columnMany carryMany chainMost a1 a2 v16 hv16) rfl (by decide) rfl rfl [9, 10, 11, 12, 13, 14, 15, 16, 17] rfl (by decide +kernel) rfl rfl rfl rfl qw1289 k_X11_holds ⟨rfl, rfl, Nat.le_of_ble_eq_true rfl, Nat.le_of_ble_eq_true rfl⟩ ⟨Nat.zero_le _, Nat.zero_le _⟩ hl.1 (Nat.le_of_ble_eq_true rfl) dX11_compare_16 rfl (fun H locs hw => ?_)
    refine lv_goto (tgt := 27) hx hb dX11_compare_19 (by decide) ?_
    exact hret _ _ _ _ _ _ (Option.some.inj hf) dX11_compare_27 hw
theorem k_X11_richest : xKV yX11_richest cX11_richest 1 (some .int) 0 := ⟨qw1294, qw1295, qw74, qw1296, by decide +kernel, by decide +kernel, by decide +kernel⟩
set_option maxHeartbeats 4000000 in
set_option maxRecDepth 100000 in
theorem met_X11_richest (l : Launch) (g : xG) (h : Nat → Nat) (thrown : Int32) (ss : (Nat → Int32)) (states : (Nat → Int32)) (stateMany : Int32) (snapshot : (Nat → Int32)) (hasSnapshot : Int32) (text : (Nat → Int32)) (length : Int32) (at_ : Int32) (isWell : Int32) (rd : (Nat → Int32)) (readMany : Int32) (top : Int64) (bottom : Int64) (digit : (Nat → Int32)) (digitMany : Int32) (other : (Nat → Int32)) (otherMany : Int32) (column : (Nat → Int32)) (columnMany : Int32) (carryMany : Int32) (chainMost : Int32) (out : Int32 × Int32) (hf : f_X11_richest thrown ss = some out) : xM l yX11_richest (xC yX11_richest cX11_richest 1 (some .int)) { frames := 3, cells := 0, slots := 0, locals := 67 } g (wM g h thrown ss states stateMany snapshot hasSnapshot text length at_ isWell rd readMany top bottom digit digitMany other otherMany column columnMany carryMany chainMost) [.ref (h 0)] (some (.int out.1)) (wM g h out.2 ss states stateMany snapshot hasSnapshot text length at_ isWell rd readMany top bottom digit digitMany other otherMany column columnMany carryMany chainMost) := by
  refine xof (by decide) (Nat.le_of_ble_eq_true rfl) ⟨rfl, rfl⟩ ?_
  intro p e s m below meth c A ls E hr hlocks hw hl hpost hAe
  have hx := E.1.1
  have hb := E.1.2.1
  have hown := E.1.2.2.2.1
  have hts := E.1.2.2.2.2
  generalize hZ : (MQ below (xPost g (wM g h thrown ss states stateMany snapshot hasSnapshot text length at_ isWell rd readMany top bottom digit digitMany other otherMany column columnMany carryMany chainMost) (wM g h out.2 ss states stateMany snapshot hasSnapshot text length at_ isWell rd readMany top bottom digit digitMany other otherMany column columnMany carryMany chainMost) s.heap.size (some (.int out.1))) [.ref (h 0)].toArray s 0 0 A) = ZZ
  have hret : ∀ (pc : Nat) (H : Heap) (locs : List Loc) (ls : Array Slot) (v : Int32) (cthrown : Int32), (v, cthrown) = out → decode cX11_richest pc = .ok (.ireturn, 1) → xW g A s.heap (wM g h cthrown ss states stateMany snapshot hasSnapshot text length at_ isWell rd readMany top bottom digit digitMany other otherMany column columnMany carryMany chainMost) H locs → W p l e { frames := 3, cells := 0, slots := 0, locals := 67 } s m [.ref (h 0)].toArray below meth c H locs 0 0 ZZ (F0 m pc ls [.int v]) := by
    intro pc H locs ls v cthrown he hd hw
    subst he
    rw [← hZ]
    exact W.iret hx hb hr (hpost H locs hw).1 (hpost H locs hw).2 hd hlocks
  clear hpost
  refine lv_aload_n hx hb dX11_richest_0 rfl (lv_at hl 0 rfl) ?_
  refine lv_iconst (v := 0) hx hb dX11_richest_1 (by decide) ?_
  refine xput (ws' := (wM g h 0 ss states stateMany snapshot hasSnapshot text length at_ isWell rd readMany top bottom digit digitMany other otherMany column columnMany carryMany chainMost)) E hw 0 rfl rfl 0 (by decide) inw11 tyX11_ok nmX11 qw1019 rfl rfl rfl rfl (Nat.le_of_ble_eq_true rfl) dX11_richest_2 rfl (fun H locs hw => ?_)
  refine lv_aload_n hx hb dX11_richest_5 rfl (lv_at hl 0 rfl) ?_
  obtain ⟨v6, hv6, hf⟩ := ob_e hf
  refine xcallV (ws' := (wM g h 0 ss states stateMany snapshot hasSnapshot text length at_ isWell rd readMany top bottom digit digitMany other otherMany column columnMany carryMany chainMost)) (st1 := [.int v6]) (n := 9) E hw [] [0, 1, 2, 3, 4, 5, 6, 7, 8] (met_X11_greatest l g h 0 ss states stateMany snapshot hasSnapshot text length at_ isWell rd readMany top bottom digit digitMany other otherMany column columnMany carryMany chainMost v6 hv6) rfl (by decide) rfl rfl [9, 10, 11, 12, 13, 14, 15, 16, 17] rfl (by decide +kernel) rfl rfl rfl rfl qw1297 k_X11_greatest ⟨rfl, rfl, Nat.le_of_ble_eq_true rfl, Nat.le_of_ble_eq_true rfl⟩ ⟨Nat.zero_le _, Nat.zero_le _⟩ hl.1 (Nat.le_of_ble_eq_true rfl) dX11_richest_6 rfl (fun H locs hw => ?_)
  exact hret _ _ _ _ _ _ (Option.some.inj hf) dX11_richest_9 hw
theorem k_X11_hasDigits : xKV yX11_hasDigits cX11_hasDigits 2 (some .boolean) 1 := ⟨qw1307, qw47, qw74, qw1308, by decide +kernel, by decide +kernel, by decide +kernel⟩
set_option maxHeartbeats 4000000 in
set_option maxRecDepth 100000 in
theorem met_X11_hasDigits (l : Launch) (g : xG) (h : Nat → Nat) (thrown : Int32) (ss : (Nat → Int32)) (states : (Nat → Int32)) (stateMany : Int32) (snapshot : (Nat → Int32)) (hasSnapshot : Int32) (text : (Nat → Int32)) (length : Int32) (at_ : Int32) (isWell : Int32) (rd : (Nat → Int32)) (readMany : Int32) (top : Int64) (bottom : Int64) (digit : (Nat → Int32)) (digitMany : Int32) (other : (Nat → Int32)) (otherMany : Int32) (column : (Nat → Int32)) (columnMany : Int32) (carryMany : Int32) (chainMost : Int32) (a1 : Int32) (out : Int32 × Int32 × (Nat → Int32) × Int32) (hf : f_X11_hasDigits thrown ss digit digitMany a1 = some out) : xM l yX11_hasDigits (xC yX11_hasDigits cX11_hasDigits 2 (some .boolean)) { frames := 3, cells := 0, slots := 0, locals := 64 } g (wM g h thrown ss states stateMany snapshot hasSnapshot text length at_ isWell rd readMany top bottom digit digitMany other otherMany column columnMany carryMany chainMost) [.ref (h 0), .int a1] (some (.int out.1)) (wM g h out.2.1 ss states stateMany snapshot hasSnapshot text length at_ isWell rd readMany top bottom out.2.2.1 out.2.2.2 other otherMany column columnMany carryMany chainMost) := by
  refine xof (by decide) (Nat.le_of_ble_eq_true rfl) ⟨rfl, rfl⟩ ?_
  intro p e s m below meth c A ls E hr hlocks hw hl hpost hAe
  have hx := E.1.1
  have hb := E.1.2.1
  have hown := E.1.2.2.2.1
  have hts := E.1.2.2.2.2
  generalize hZ : (MQ below (xPost g (wM g h thrown ss states stateMany snapshot hasSnapshot text length at_ isWell rd readMany top bottom digit digitMany other otherMany column columnMany carryMany chainMost) (wM g h out.2.1 ss states stateMany snapshot hasSnapshot text length at_ isWell rd readMany top bottom out.2.2.1 out.2.2.2 other otherMany column columnMany carryMany chainMost) s.heap.size (some (.int out.1))) [.ref (h 0), .int a1].toArray s 0 0 A) = ZZ
  have hret : ∀ (pc : Nat) (H : Heap) (locs : List Loc) (ls : Array Slot) (v : Int32) (cthrown : Int32) (cdigit : (Nat → Int32)) (cdigitMany : Int32), narrow .boolean (.int v) = .int v → (v, cthrown, cdigit, cdigitMany) = out → decode cX11_hasDigits pc = .ok (.ireturn, 1) → xW g A s.heap (wM g h cthrown ss states stateMany snapshot hasSnapshot text length at_ isWell rd readMany top bottom cdigit cdigitMany other otherMany column columnMany carryMany chainMost) H locs → W p l e { frames := 3, cells := 0, slots := 0, locals := 64 } s m [.ref (h 0), .int a1].toArray below meth c H locs 0 0 ZZ (F0 m pc ls [.int v]) := by
    intro pc H locs ls v cthrown cdigit cdigitMany hn he hd hw
    subst he
    rw [← hZ]
    exact W.zret hx hb hr hn (hpost H locs hw).1 (hpost H locs hw).2 hd hlocks
  clear hpost
  have b28 : ∀ (H : Heap) (locs : List Loc) (ls : Array Slot) (thrown : Int32) (digit : (Nat → Int32)) (digitMany : Int32), xW g A s.heap (wM g h thrown ss states stateMany snapshot hasSnapshot text length at_ isWell rd readMany top bottom digit digitMany other otherMany column columnMany carryMany chainMost) H locs → lv_has ls 2 [(0, .ref (h 0))] → f_X11_hasDigits_b28 thrown ss digit digitMany = some out → W p l e { frames := 3, cells := 0, slots := 0, locals := 64 } s m [.ref (h 0), .int a1].toArray below meth c H locs 0 0 ZZ (F0 m 28 ls []) := by
    intro H locs ls thrown digit digitMany hw hl hf
    refine lv_aload_n hx hb dX11_hasDigits_28 rfl (lv_at hl 0 rfl) ?_
    refine xget (v := .int thrown) E hw 0 rfl rfl 0 (by decide) inw11 qw1019 rfl rfl dX11_hasDigits_29 ?_
    refine lv_if_ne (tgt := 39) hx hb dX11_hasDigits_32 (by decide) (fun c32 => ?_) (fun c32 => ?_)
    · replace hf := iq c32 hf
      refine lv_iconst (v := 0) hx hb dX11_hasDigits_39 (by decide) ?_
      exact hret _ _ _ _ _ _ _ _ (by decide) (Option.some.inj hf) dX11_hasDigits_40 hw
    · replace hf := ip c32 hf
      refine lv_iconst (v := 1) hx hb dX11_hasDigits_35 (by decide) ?_
      refine lv_goto (tgt := 40) hx hb dX11_hasDigits_36 (by decide) ?_
      exact hret _ _ _ _ _ _ _ _ (by decide) (Option.some.inj hf) dX11_hasDigits_40 hw
  have b13 : ∀ (H : Heap) (locs : List Loc) (ls : Array Slot) (thrown : Int32) (digit : (Nat → Int32)) (digitMany : Int32) (x1 : Int32) (t0 : Int32), xW g A s.heap (wM g h thrown ss states stateMany snapshot hasSnapshot text length at_ isWell rd readMany top bottom digit digitMany other otherMany column columnMany carryMany chainMost) H locs → lv_has ls 2 [(0, .ref (h 0)), (1, .int x1)] → f_X11_hasDigits_b13 thrown ss digit digitMany x1 t0 = some out → W p l e { frames := 3, cells := 0, slots := 0, locals := 64 } s m [.ref (h 0), .int a1].toArray below meth c H locs 0 0 ZZ (F0 m 13 ls [.int t0, .ref (h 0)]) := by
    intro H locs ls thrown digit digitMany x1 t0 hw hl hf
    refine xput (ws' := (wM g h t0 ss states stateMany snapshot hasSnapshot text length at_ isWell rd readMany top bottom digit digitMany other otherMany column columnMany carryMany chainMost)) E hw 0 rfl rfl 0 (by decide) inw11 tyX11_ok nmX11 qw1019 rfl rfl rfl rfl (Nat.le_of_ble_eq_true rfl) dX11_hasDigits_13 rfl (fun H locs hw => ?_)
    refine lv_aload_n hx hb dX11_hasDigits_16 rfl (lv_at hl 0 rfl) ?_
    refine xget (v := .int t0) E hw 0 rfl rfl 0 (by decide) inw11 qw1019 rfl rfl dX11_hasDigits_17 ?_
    refine lv_if_ne (tgt := 28) hx hb dX11_hasDigits_20 (by decide) (fun c20 => ?_) (fun c20 => ?_)
    · replace hf := iq c20 hf
      exact b28 _ _ _ t0 digit digitMany hw (lv_sub hl [0] rfl) hf
    · replace hf := ip c20 hf
      refine lv_aload_n hx hb dX11_hasDigits_23 rfl (lv_at hl 0 rfl) ?_
      refine lv_iload_n hx hb dX11_hasDigits_24 rfl (lv_at hl 1 rfl) ?_
      obtain ⟨v25, hv25, hf⟩ := ob_e hf
      refine xcallV (ws' := (wM g h t0 ss states stateMany snapshot hasSnapshot text length at_ isWell rd readMany top bottom v25.1 v25.2 other otherMany column columnMany carryMany chainMost)) (st1 := []) (n := 9) E hw [.int x1] [0, 1, 2, 3, 4, 5, 6, 7, 8] (met_X11_tellsDigits l g h t0 ss states stateMany snapshot hasSnapshot text length at_ isWell rd readMany top bottom digit digitMany other otherMany column columnMany carryMany chainMost x1 v25 hv25) rfl (by decide) rfl rfl [9, 10, 11, 12, 13, 14, 15, 16, 17] rfl (by decide +kernel) rfl rfl rfl rfl qw1309 k_X11_tellsDigits ⟨rfl, rfl, Nat.le_of_ble_eq_true rfl, Nat.le_of_ble_eq_true rfl⟩ ⟨Nat.zero_le _, Nat.zero_le _⟩ hl.1 (Nat.le_of_ble_eq_true rfl) dX11_hasDigits_25 rfl (fun H locs hw => ?_)
      exact b28 _ _ _ t0 v25.1 v25.2 hw (lv_sub hl [0] rfl) hf
  refine lv_aload_n hx hb dX11_hasDigits_0 rfl (lv_at hl 0 rfl) ?_
  refine lv_iload_n hx hb dX11_hasDigits_1 rfl (lv_at hl 1 rfl) ?_
  obtain ⟨v2, hv2, hf⟩ := ob_e hf
  refine xcallS (ws' := (wM g h thrown ss states stateMany snapshot hasSnapshot text length at_ isWell rd readMany top bottom digit digitMany other otherMany column columnMany carryMany chainMost)) (st1 := [.int v2, .ref (h 0)]) (n := 9) E hw [.int a1] [] (met_X11_isAccount l g a1 v2 hv2) rfl (by decide) rfl rfl [0, 1, 2, 3, 4, 5, 6, 7, 8] rfl (by decide +kernel) rfl qw1112 k_X11_isAccount ⟨rfl, rfl, Nat.le_of_ble_eq_true rfl, Nat.le_of_ble_eq_true rfl⟩ ⟨Nat.zero_le _, Nat.zero_le _⟩ hl.1 (Nat.le_of_ble_eq_true rfl) dX11_hasDigits_2 rfl (fun H locs hw => ?_)
  refine lv_if_eq (tgt := 12) hx hb dX11_hasDigits_5 (by decide) (fun c5 => ?_) (fun c5 => ?_)
  · replace hf := ip c5 hf
    refine lv_iconst (v := 1) hx hb dX11_hasDigits_12 (by decide) ?_
    exact b13 _ _ _ thrown digit digitMany a1 1 hw (lv_sub hl [0, 1] rfl) hf
  · replace hf := iq c5 hf
    refine lv_iconst (v := 0) hx hb dX11_hasDigits_8 (by decide) ?_
    refine lv_goto (tgt := 13) hx hb dX11_hasDigits_9 (by decide) ?_
    exact b13 _ _ _ thrown digit digitMany a1 0 hw (lv_sub hl [0, 1] rfl) hf
theorem k_X11_wholeDigits : xKV yX11_wholeDigits cX11_wholeDigits 2 (some .int) 1 := ⟨qw1302, qw1303, qw74, qw1304, by decide +kernel, by decide +kernel, by decide +kernel⟩
set_option maxHeartbeats 4000000 in
set_option maxRecDepth 100000 in
theorem met_X11_wholeDigits (l : Launch) (g : xG) (h : Nat → Nat) (thrown : Int32) (ss : (Nat → Int32)) (states : (Nat → Int32)) (stateMany : Int32) (snapshot : (Nat → Int32)) (hasSnapshot : Int32) (text : (Nat → Int32)) (length : Int32) (at_ : Int32) (isWell : Int32) (rd : (Nat → Int32)) (readMany : Int32) (top : Int64) (bottom : Int64) (digit : (Nat → Int32)) (digitMany : Int32) (other : (Nat → Int32)) (otherMany : Int32) (column : (Nat → Int32)) (columnMany : Int32) (carryMany : Int32) (chainMost : Int32) (a1 : Int32) (out : Int32 × Int32 × (Nat → Int32) × Int32) (hf : f_X11_wholeDigits thrown ss digit digitMany a1 = some out) : xM l yX11_wholeDigits (xC yX11_wholeDigits cX11_wholeDigits 2 (some .int)) { frames := 4, cells := 0, slots := 0, locals := 85 } g (wM g h thrown ss states stateMany snapshot hasSnapshot text length at_ isWell rd readMany top bottom digit digitMany other otherMany column columnMany carryMany chainMost) [.ref (h 0), .int a1] (some (.int out.1)) (wM g h out.2.1 ss states stateMany snapshot hasSnapshot text length at_ isWell rd readMany top bottom out.2.2.1 out.2.2.2 other otherMany column columnMany carryMany chainMost) := by
  refine xof (by decide) (Nat.le_of_ble_eq_true rfl) ⟨rfl, rfl⟩ ?_
  intro p e s m below meth c A ls E hr hlocks hw hl hpost hAe
  have hx := E.1.1
  have hb := E.1.2.1
  have hown := E.1.2.2.2.1
  have hts := E.1.2.2.2.2
  generalize hZ : (MQ below (xPost g (wM g h thrown ss states stateMany snapshot hasSnapshot text length at_ isWell rd readMany top bottom digit digitMany other otherMany column columnMany carryMany chainMost) (wM g h out.2.1 ss states stateMany snapshot hasSnapshot text length at_ isWell rd readMany top bottom out.2.2.1 out.2.2.2 other otherMany column columnMany carryMany chainMost) s.heap.size (some (.int out.1))) [.ref (h 0), .int a1].toArray s 0 0 A) = ZZ
  have hret : ∀ (pc : Nat) (H : Heap) (locs : List Loc) (ls : Array Slot) (v : Int32) (cthrown : Int32) (cdigit : (Nat → Int32)) (cdigitMany : Int32), (v, cthrown, cdigit, cdigitMany) = out → decode cX11_wholeDigits pc = .ok (.ireturn, 1) → xW g A s.heap (wM g h cthrown ss states stateMany snapshot hasSnapshot text length at_ isWell rd readMany top bottom cdigit cdigitMany other otherMany column columnMany carryMany chainMost) H locs → W p l e { frames := 4, cells := 0, slots := 0, locals := 85 } s m [.ref (h 0), .int a1].toArray below meth c H locs 0 0 ZZ (F0 m pc ls [.int v]) := by
    intro pc H locs ls v cthrown cdigit cdigitMany he hd hw
    subst he
    rw [← hZ]
    exact W.iret hx hb hr (hpost H locs hw).1 (hpost H locs hw).2 hd hlocks
  clear hpost
  refine lv_aload_n hx hb dX11_wholeDigits_0 rfl (lv_at hl 0 rfl) ?_
  refine lv_iload_n hx hb dX11_wholeDigits_1 rfl (lv_at hl 1 rfl) ?_
  obtain ⟨v2, hv2, hf⟩ := ob_e hf
  refine xcallV (ws' := (wM g h v2.2.1 ss states stateMany snapshot hasSnapshot text length at_ isWell rd readMany top bottom v2.2.2.1 v2.2.2.2 other otherMany column columnMany carryMany chainMost)) (st1 := [.int v2.1]) (n := 9) E hw [.int a1] [0, 1, 2, 3, 4, 5, 6, 7, 8] (met_X11_hasDigits l g h thrown ss states stateMany snapshot hasSnapshot text length at_ isWell rd readMany top bottom digit digitMany other otherMany column columnMany carryMany chainMost a1 v2 hv2) rfl (by decide) rfl rfl [9, 10, 11, 12, 13, 14, 15, 16, 17] rfl (by decide +kernel) rfl rfl rfl rfl qw1305 k_X11_hasDigits ⟨rfl, rfl, Nat.le_of_ble_eq_true rfl, Nat.le_of_ble_eq_true rfl⟩ ⟨Nat.zero_le _, Nat.zero_le _⟩ hl.1 (Nat.le_of_ble_eq_true rfl) dX11_wholeDigits_2 rfl (fun H locs hw => ?_)
  refine lv_if_eq (tgt := 15) hx hb dX11_wholeDigits_5 (by decide) (fun c5 => ?_) (fun c5 => ?_)
  · replace hf := ip c5 hf
    refine lv_iconst (v := 0) hx hb dX11_wholeDigits_15 (by decide) ?_
    exact hret _ _ _ _ _ _ _ _ (Option.some.inj hf) dX11_wholeDigits_16 hw
  · replace hf := iq c5 hf
    refine lv_aload_n hx hb dX11_wholeDigits_8 rfl (lv_at hl 0 rfl) ?_
    refine xget (v := .int v2.2.2.2) E hw 0 rfl rfl 15 (by decide) inw11 qw1034 rfl rfl dX11_wholeDigits_9 ?_
    refine lv_goto (tgt := 16) hx hb dX11_wholeDigits_12 (by decide) ?_
    exact hret _ _ _ _ _ _ _ _ (Option.some.inj hf) dX11_wholeDigits_16 hw
theorem k_X11_tellsDigit : xKV yX11_tellsDigit cX11_tellsDigit 3 (some .int) 2 := ⟨qw1319, qw49, qw74, qw1320, by decide +kernel, by decide +kernel, by decide +kernel⟩
set_option maxHeartbeats 4000000 in
set_option maxRecDepth 100000 in
theorem met_X11_tellsDigit (l : Launch) (g : xG) (h : Nat → Nat) (thrown : Int32) (ss : (Nat → Int32)) (states : (Nat → Int32)) (stateMany : Int32) (snapshot : (Nat → Int32)) (hasSnapshot : Int32) (text : (Nat → Int32)) (length : Int32) (at_ : Int32) (isWell : Int32) (rd : (Nat → Int32)) (readMany : Int32) (top : Int64) (bottom : Int64) (digit : (Nat → Int32)) (digitMany : Int32) (other : (Nat → Int32)) (otherMany : Int32) (column : (Nat → Int32)) (columnMany : Int32) (carryMany : Int32) (chainMost : Int32) (a1 : Int32) (a2 : Int32) (out : Int32 × Int32 × (Nat → Int32) × Int32) (hf : f_X11_tellsDigit thrown ss digit digitMany a1 a2 = some out) : xM l yX11_tellsDigit (xC yX11_tellsDigit cX11_tellsDigit 3 (some .int)) { frames := 4, cells := 0, slots := 0, locals := 85 } g (wM g h thrown ss states stateMany snapshot hasSnapshot text length at_ isWell rd readMany top bottom digit digitMany other otherMany column columnMany carryMany chainMost) [.ref (h 0), .int a1, .int a2] (some (.int out.1)) (wM g h out.2.1 ss states stateMany snapshot hasSnapshot text length at_ isWell rd readMany top bottom out.2.2.1 out.2.2.2 other otherMany column columnMany carryMany chainMost) := by
  refine xof (by decide) (Nat.le_of_ble_eq_true rfl) ⟨rfl, rfl⟩ ?_
  intro p e s m below meth c A ls E hr hlocks hw hl hpost hAe
  have hx := E.1.1
  have hb := E.1.2.1
  have hown := E.1.2.2.2.1
  have hts := E.1.2.2.2.2
  generalize hZ : (MQ below (xPost g (wM g h thrown ss states stateMany snapshot hasSnapshot text length at_ isWell rd readMany top bottom digit digitMany other otherMany column columnMany carryMany chainMost) (wM g h out.2.1 ss states stateMany snapshot hasSnapshot text length at_ isWell rd readMany top bottom out.2.2.1 out.2.2.2 other otherMany column columnMany carryMany chainMost) s.heap.size (some (.int out.1))) [.ref (h 0), .int a1, .int a2].toArray s 0 0 A) = ZZ
  have hret : ∀ (pc : Nat) (H : Heap) (locs : List Loc) (ls : Array Slot) (v : Int32) (cthrown : Int32) (cdigit : (Nat → Int32)) (cdigitMany : Int32), (v, cthrown, cdigit, cdigitMany) = out → decode cX11_tellsDigit pc = .ok (.ireturn, 1) → xW g A s.heap (wM g h cthrown ss states stateMany snapshot hasSnapshot text length at_ isWell rd readMany top bottom cdigit cdigitMany other otherMany column columnMany carryMany chainMost) H locs → W p l e { frames := 4, cells := 0, slots := 0, locals := 85 } s m [.ref (h 0), .int a1, .int a2].toArray below meth c H locs 0 0 ZZ (F0 m pc ls [.int v]) := by
    intro pc H locs ls v cthrown cdigit cdigitMany he hd hw
    subst he
    rw [← hZ]
    exact W.iret hx hb hr (hpost H locs hw).1 (hpost H locs hw).2 hd hlocks
  clear hpost
  refine lv_aload_n hx hb dX11_tellsDigit_0 rfl (lv_at hl 0 rfl) ?_
  refine lv_iload_n hx hb dX11_tellsDigit_1 rfl (lv_at hl 1 rfl) ?_
  obtain ⟨v2, hv2, hf⟩ := ob_e hf
  refine xcallV (ws' := (wM g h v2.2.1 ss states stateMany snapshot hasSnapshot text length at_ isWell rd readMany top bottom v2.2.2.1 v2.2.2.2 other otherMany column columnMany carryMany chainMost)) (st1 := [.int v2.1]) (n := 9) E hw [.int a1] [0, 1, 2, 3, 4, 5, 6, 7, 8] (met_X11_hasDigits l g h thrown ss states stateMany snapshot hasSnapshot text length at_ isWell rd readMany top bottom digit digitMany other otherMany column columnMany carryMany chainMost a1 v2 hv2) rfl (by decide) rfl rfl [9, 10, 11, 12, 13, 14, 15, 16, 17] rfl (by decide +kernel) rfl rfl rfl rfl qw1305 k_X11_hasDigits ⟨rfl, rfl, Nat.le_of_ble_eq_true rfl, Nat.le_of_ble_eq_true rfl⟩ ⟨Nat.zero_le _, Nat.zero_le _⟩ hl.1 (Nat.le_of_ble_eq_true rfl) dX11_tellsDigit_2 rfl (fun H locs hw => ?_)
  refine lv_if_ne (tgt := 10) hx hb dX11_tellsDigit_5 (by decide) (fun c5 => ?_) (fun c5 => ?_)
  · replace hf := iq c5 hf
    refine lv_iload_n hx hb dX11_tellsDigit_10 rfl (lv_at hl 2 rfl) ?_
    refine lv_iconst (v := 0) hx hb dX11_tellsDigit_11 (by decide) ?_
    refine lv_aload_n hx hb dX11_tellsDigit_12 rfl (lv_at hl 0 rfl) ?_
    refine xget (v := .int v2.2.2.2) E hw 0 rfl rfl 15 (by decide) inw11 qw1034 rfl rfl dX11_tellsDigit_13 ?_
    refine lv_iconst (v := 1) hx hb dX11_tellsDigit_16 (by decide) ?_
    refine lv_isub hx hb dX11_tellsDigit_17 ?_
    obtain ⟨v18, hv18, hf⟩ := ob_e hf
    refine xcallS (ws' := (wM g h v2.2.1 ss states stateMany snapshot hasSnapshot text length at_ isWell rd readMany top bottom v2.2.2.1 v2.2.2.2 other otherMany column columnMany carryMany chainMost)) (st1 := [.int v18]) (n := 9) E hw [.int a2, .int 0, .int (v2.2.2.2 - 1)] [] (met_X11_in l g a2 0 (v2.2.2.2 - 1) v18 hv18) rfl (by decide) rfl rfl [0, 1, 2, 3, 4, 5, 6, 7, 8] rfl (by decide +kernel) rfl qw1097 k_X11_in ⟨rfl, rfl, Nat.le_of_ble_eq_true rfl, Nat.le_of_ble_eq_true rfl⟩ ⟨Nat.zero_le _, Nat.zero_le _⟩ hl.1 (Nat.le_of_ble_eq_true rfl) dX11_tellsDigit_18 rfl (fun H locs hw => ?_)
    refine lv_if_eq (tgt := 33) hx hb dX11_tellsDigit_21 (by decide) (fun c21 => ?_) (fun c21 => ?_)
    · replace hf := ip c21 hf
      refine lv_aload_n hx hb dX11_tellsDigit_33 rfl (lv_at hl 0 rfl) ?_
      refine lv_iconst (v := 1) hx hb dX11_tellsDigit_34 (by decide) ?_
      obtain ⟨v35, hv35, hf⟩ := ob_e hf
      refine xcallV (ws' := (wM g h v35.2 ss states stateMany snapshot hasSnapshot text length at_ isWell rd readMany top bottom v2.2.2.1 v2.2.2.2 other otherMany column columnMany carryMany chainMost)) (st1 := [.int v35.1]) (n := 9) E hw [.int 1] [0, 1, 2, 3, 4, 5, 6, 7, 8] (met_X11_fails l g h v2.2.1 ss states stateMany snapshot hasSnapshot text length at_ isWell rd readMany top bottom v2.2.2.1 v2.2.2.2 other otherMany column columnMany carryMany chainMost 1 v35 hv35) rfl (by decide) rfl rfl [9, 10, 11, 12, 13, 14, 15, 16, 17] rfl (by decide +kernel) rfl rfl rfl rfl qw1100 k_X11_fails ⟨rfl, rfl, Nat.le_of_ble_eq_true rfl, Nat.le_of_ble_eq_true rfl⟩ ⟨Nat.zero_le _, Nat.zero_le _⟩ hl.1 (Nat.le_of_ble_eq_true rfl) dX11_tellsDigit_35 rfl (fun H locs hw => ?_)
      exact hret _ _ _ _ _ _ _ _ (Option.some.inj hf) dX11_tellsDigit_38 hw
    · replace hf := iq c21 hf
      refine lv_aload_n hx hb dX11_tellsDigit_24 rfl (lv_at hl 0 rfl) ?_
      refine xget (v := .ref (h 6)) E hw 0 rfl rfl 14 (by decide) inw11 qw1033 rfl rfl dX11_tellsDigit_25 ?_
      refine lv_iload_n hx hb dX11_tellsDigit_28 rfl (lv_at hl 2 rfl) ?_
      obtain ⟨hz, hf⟩ := nz hf
      refine xiald E hw 6 rfl hz dX11_tellsDigit_29 ?_
      refine lv_goto (tgt := 38) hx hb dX11_tellsDigit_30 (by decide) ?_
      exact hret _ _ _ _ _ _ _ _ (Option.some.inj hf) dX11_tellsDigit_38 hw
  · replace hf := ip c5 hf
    refine lv_iconst (v := 0) hx hb dX11_tellsDigit_8 (by decide) ?_
    exact hret _ _ _ _ _ _ _ _ (Option.some.inj hf) dX11_tellsDigit_9 hw
theorem k_X11_wholeDigit : xKV yX11_wholeDigit cX11_wholeDigit 3 (some .int) 2 := ⟨qw1314, qw1315, qw74, qw1316, by decide +kernel, by decide +kernel, by decide +kernel⟩
set_option maxHeartbeats 4000000 in
set_option maxRecDepth 100000 in
theorem met_X11_wholeDigit (l : Launch) (g : xG) (h : Nat → Nat) (thrown : Int32) (ss : (Nat → Int32)) (states : (Nat → Int32)) (stateMany : Int32) (snapshot : (Nat → Int32)) (hasSnapshot : Int32) (text : (Nat → Int32)) (length : Int32) (at_ : Int32) (isWell : Int32) (rd : (Nat → Int32)) (readMany : Int32) (top : Int64) (bottom : Int64) (digit : (Nat → Int32)) (digitMany : Int32) (other : (Nat → Int32)) (otherMany : Int32) (column : (Nat → Int32)) (columnMany : Int32) (carryMany : Int32) (chainMost : Int32) (a1 : Int32) (a2 : Int32) (out : Int32 × Int32 × (Nat → Int32) × Int32) (hf : f_X11_wholeDigit thrown ss digit digitMany a1 a2 = some out) : xM l yX11_wholeDigit (xC yX11_wholeDigit cX11_wholeDigit 3 (some .int)) { frames := 5, cells := 0, slots := 0, locals := 107 } g (wM g h thrown ss states stateMany snapshot hasSnapshot text length at_ isWell rd readMany top bottom digit digitMany other otherMany column columnMany carryMany chainMost) [.ref (h 0), .int a1, .int a2] (some (.int out.1)) (wM g h out.2.1 ss states stateMany snapshot hasSnapshot text length at_ isWell rd readMany top bottom out.2.2.1 out.2.2.2 other otherMany column columnMany carryMany chainMost) := by
  refine xof (by decide) (Nat.le_of_ble_eq_true rfl) ⟨rfl, rfl⟩ ?_
  intro p e s m below meth c A ls E hr hlocks hw hl hpost hAe
  have hx := E.1.1
  have hb := E.1.2.1
  have hown := E.1.2.2.2.1
  have hts := E.1.2.2.2.2
  generalize hZ : (MQ below (xPost g (wM g h thrown ss states stateMany snapshot hasSnapshot text length at_ isWell rd readMany top bottom digit digitMany other otherMany column columnMany carryMany chainMost) (wM g h out.2.1 ss states stateMany snapshot hasSnapshot text length at_ isWell rd readMany top bottom out.2.2.1 out.2.2.2 other otherMany column columnMany carryMany chainMost) s.heap.size (some (.int out.1))) [.ref (h 0), .int a1, .int a2].toArray s 0 0 A) = ZZ
  have hret : ∀ (pc : Nat) (H : Heap) (locs : List Loc) (ls : Array Slot) (v : Int32) (cthrown : Int32) (cdigit : (Nat → Int32)) (cdigitMany : Int32), (v, cthrown, cdigit, cdigitMany) = out → decode cX11_wholeDigit pc = .ok (.ireturn, 1) → xW g A s.heap (wM g h cthrown ss states stateMany snapshot hasSnapshot text length at_ isWell rd readMany top bottom cdigit cdigitMany other otherMany column columnMany carryMany chainMost) H locs → W p l e { frames := 5, cells := 0, slots := 0, locals := 107 } s m [.ref (h 0), .int a1, .int a2].toArray below meth c H locs 0 0 ZZ (F0 m pc ls [.int v]) := by
    intro pc H locs ls v cthrown cdigit cdigitMany he hd hw
    subst he
    rw [← hZ]
    exact W.iret hx hb hr (hpost H locs hw).1 (hpost H locs hw).2 hd hlocks
  clear hpost
  refine lv_aload_n hx hb dX11_wholeDigit_0 rfl (lv_at hl 0 rfl) ?_
  refine lv_iload_n hx hb dX11_wholeDigit_1 rfl (lv_at hl 1 rfl) ?_
  refine lv_iload_n hx hb dX11_wholeDigit_2 rfl (lv_at hl 2 rfl) ?_
  obtain ⟨v3, hv3, hf⟩ := ob_e hf
  refine xcallV (ws' := (wM g h v3.2.1 ss states stateMany snapshot hasSnapshot text length at_ isWell rd readMany top bottom v3.2.2.1 v3.2.2.2 other otherMany column columnMany carryMany chainMost)) (st1 := [.int v3.1]) (n := 9) E hw [.int a1, .int a2] [0, 1, 2, 3, 4, 5, 6, 7, 8] (met_X11_tellsDigit l g h thrown ss states stateMany snapshot hasSnapshot text length at_ isWell rd readMany top bottom digit digitMany other otherMany column columnMany carryMany chainMost a1 a2 v3 hv3) rfl (by decide) rfl rfl [9, 10, 11, 12, 13, 14, 15, 16, 17] rfl (by decide +kernel) rfl rfl rfl rfl qw1317 k_X11_tellsDigit ⟨rfl, rfl, Nat.le_of_ble_eq_true rfl, Nat.le_of_ble_eq_true rfl⟩ ⟨Nat.zero_le _, Nat.zero_le _⟩ hl.1 (Nat.le_of_ble_eq_true rfl) dX11_wholeDigit_3 rfl (fun H locs hw => ?_)
  exact hret _ _ _ _ _ _ _ _ (Option.some.inj hf) dX11_wholeDigit_6 hw
