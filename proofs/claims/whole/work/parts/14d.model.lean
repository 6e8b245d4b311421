theorem k_X11_takesDigits : xKV yX11_takesDigits cX11_takesDigits 4 (some .int) 2 := ⟨qw1215, qw39, qw74, qw1216, by decide +kernel, by decide +kernel, by decide +kernel⟩
set_option maxHeartbeats 4000000 in
set_option maxRecDepth 100000 in
theorem met_X11_takesDigits (l : Launch) (g : xG) (h : Nat → Nat) (thrown : Int32) (ss : (Nat → Int32)) (states : (Nat → Int32)) (stateMany : Int32) (snapshot : (Nat → Int32)) (hasSnapshot : Int32) (text : (Nat → Int32)) (length : Int32) (at_ : Int32) (isWell : Int32) (rd : (Nat → Int32)) (readMany : Int32) (top : Int64) (bottom : Int64) (digit : (Nat → Int32)) (digitMany : Int32) (other : (Nat → Int32)) (otherMany : Int32) (column : (Nat → Int32)) (columnMany : Int32) (carryMany : Int32) (chainMost : Int32) (a1 : Int32) (a2 : Int32) (out : Int32 × Int32 × Int32 × (Nat → Int32)) (hf : f_X11_takesDigits text length at_ isWell rd a1 a2 = some out) : xM l yX11_takesDigits (xC yX11_takesDigits cX11_takesDigits 4 (some .int)) { frames := 2, cells := 0, slots := 0, locals := 43 } g (wM g h thrown ss states stateMany snapshot hasSnapshot text length at_ isWell rd readMany top bottom digit digitMany other otherMany column columnMany carryMany chainMost) [.ref (h 0), .int a1, .int a2] (some (.int out.1)) (wM g h thrown ss states stateMany snapshot hasSnapshot text length out.2.1 out.2.2.1 out.2.2.2 readMany top bottom digit digitMany other otherMany column columnMany carryMany chainMost) := by
  refine xof (by decide) (Nat.le_of_ble_eq_true rfl) ⟨rfl, rfl⟩ ?_
  intro p e s m below meth c A ls E hr hlocks hw hl hpost hAe
  have hx := E.1.1
  have hb := E.1.2.1
  have hown := E.1.2.2.2.1
  have hts := E.1.2.2.2.2
  generalize hZ : (MQ below (xPost g (wM g h thrown ss states stateMany snapshot hasSnapshot text length at_ isWell rd readMany top bottom digit digitMany other otherMany column columnMany carryMany chainMost) (wM g h thrown ss states stateMany snapshot hasSnapshot text length out.2.1 out.2.2.1 out.2.2.2 readMany top bottom digit digitMany other otherMany column columnMany carryMany chainMost) s.heap.size (some (.int out.1))) [.ref (h 0), .int a1, .int a2].toArray s 0 0 A) = ZZ
  have hret : ∀ (pc : Nat) (H : Heap) (locs : List Loc) (ls : Array Slot) (v : Int32) (cat_ : Int32) (cisWell : Int32) (crd : (Nat → Int32)), (v, cat_, cisWell, crd) = out → decode cX11_takesDigits pc = .ok (.ireturn, 1) → xW g A s.heap (wM g h thrown ss states stateMany snapshot hasSnapshot text length cat_ cisWell crd readMany top bottom digit digitMany other otherMany column columnMany carryMany chainMost) H locs → W p l e { frames := 2, cells := 0, slots := 0, locals := 43 } s m [.ref (h 0), .int a1, .int a2].toArray below meth c H locs 0 0 ZZ (F0 m pc ls [.int v]) := by
    intro pc H locs ls v cat_ cisWell crd he hd hw
    subst he
    rw [← hZ]
    exact W.iret hx hb hr (hpost H locs hw).1 (hpost H locs hw).2 hd hlocks
  clear hpost
  have b67 : ∀ (H : Heap) (locs : List Loc) (ls : Array Slot) (at_ : Int32) (isWell : Int32) (rd : (Nat → Int32)) (x3 : Int32) (t0 : Int32), xW g A s.heap (wM g h thrown ss states stateMany snapshot hasSnapshot text length at_ isWell rd readMany top bottom digit digitMany other otherMany column columnMany carryMany chainMost) H locs → lv_has ls 4 [(3, .int x3)] → f_X11_takesDigits_b67 text length at_ isWell rd x3 t0 = some out → W p l e { frames := 2, cells := 0, slots := 0, locals := 43 } s m [.ref (h 0), .int a1, .int a2].toArray below meth c H locs 0 0 ZZ (F0 m 67 ls [.int t0, .ref (h 0)]) := by
    intro H locs ls at_ isWell rd x3 t0 hw hl hf
    obtain ⟨hz, hf⟩ := nz hf
    refine xput (ws' := (wM g h thrown ss states stateMany snapshot hasSnapshot text length at_ t0 rd readMany top bottom digit digitMany other otherMany column columnMany carryMany chainMost)) E hw 0 rfl rfl 9 (by decide) inw11 tyX11_ok nmX11 qw1028 rfl rfl (xbool hz).1 (xbool hz).2 (Nat.le_of_ble_eq_true rfl) dX11_takesDigits_67 rfl (fun H locs hw => ?_)
    refine lv_iload_n hx hb dX11_takesDigits_70 rfl (lv_at hl 0 rfl) ?_
    exact hret _ _ _ _ _ _ _ _ (Option.some.inj hf) dX11_takesDigits_71 hw
  have b66 : ∀ (H : Heap) (locs : List Loc) (ls : Array Slot) (at_ : Int32) (isWell : Int32) (rd : (Nat → Int32)) (x3 : Int32), xW g A s.heap (wM g h thrown ss states stateMany snapshot hasSnapshot text length at_ isWell rd readMany top bottom digit digitMany other otherMany column columnMany carryMany chainMost) H locs → lv_has ls 4 [(3, .int x3)] → f_X11_takesDigits_b66 text length at_ isWell rd x3 = some out → W p l e { frames := 2, cells := 0, slots := 0, locals := 43 } s m [.ref (h 0), .int a1, .int a2].toArray below meth c H locs 0 0 ZZ (F0 m 66 ls [.ref (h 0)]) := by
    intro H locs ls at_ isWell rd x3 hw hl hf
    refine lv_iconst (v := 0) hx hb dX11_takesDigits_66 (by decide) ?_
    exact b67 _ _ _ at_ isWell rd x3 0 hw (lv_sub hl [0] rfl) hf
  have b50 : ∀ (H : Heap) (locs : List Loc) (ls : Array Slot) (at_ : Int32) (isWell : Int32) (rd : (Nat → Int32)) (x3 : Int32), xW g A s.heap (wM g h thrown ss states stateMany snapshot hasSnapshot text length at_ isWell rd readMany top bottom digit digitMany other otherMany column columnMany carryMany chainMost) H locs → lv_has ls 4 [(0, .ref (h 0)), (3, .int x3)] → f_X11_takesDigits_b50 text length at_ isWell rd x3 = some out → W p l e { frames := 2, cells := 0, slots := 0, locals := 43 } s m [.ref (h 0), .int a1, .int a2].toArray below meth c H locs 0 0 ZZ (F0 m 50 ls []) := by
    intro H locs ls at_ isWell rd x3 hw hl hf
    refine lv_aload_n hx hb dX11_takesDigits_50 rfl (lv_at hl 0 rfl) ?_
    refine lv_aload_n hx hb dX11_takesDigits_51 rfl (lv_at hl 0 rfl) ?_
    refine xget (v := .int isWell) E hw 0 rfl rfl 9 (by decide) inw11 qw1028 rfl rfl dX11_takesDigits_52 ?_
    refine lv_if_eq (tgt := 66) hx hb dX11_takesDigits_55 (by decide) (fun c55 => ?_) (fun c55 => ?_)
    · replace hf := ip c55 hf
      exact b66 _ _ _ at_ isWell rd x3 hw (lv_sub hl [1] rfl) hf
    · replace hf := iq c55 hf
      refine lv_iload_n hx hb dX11_takesDigits_58 rfl (lv_at hl 1 rfl) ?_
      refine lv_if_le (tgt := 66) hx hb dX11_takesDigits_59 (by decide) (fun c59 => ?_) (fun c59 => ?_)
      · replace hf := ip c59 hf
        exact b66 _ _ _ at_ isWell rd x3 hw (lv_sub hl [1] rfl) hf
      · replace hf := iq c59 hf
        refine lv_iconst (v := 1) hx hb dX11_takesDigits_62 (by decide) ?_
        refine lv_goto (tgt := 67) hx hb dX11_takesDigits_63 (by decide) ?_
        exact b67 _ _ _ at_ isWell rd x3 1 hw (lv_sub hl [1] rfl) hf
  have b2 : ∀ n2 : Nat, ∀ (H : Heap) (locs : List Loc) (ls : Array Slot) (at_ : Int32) (isWell : Int32) (rd : (Nat → Int32)) (x1 : Int32) (x2 : Int32) (x3 : Int32), xW g A s.heap (wM g h thrown ss states stateMany snapshot hasSnapshot text length at_ isWell rd readMany top bottom digit digitMany other otherMany column columnMany carryMany chainMost) H locs → lv_has ls 4 [(0, .ref (h 0)), (1, .int x1), (2, .int x2), (3, .int x3)] → f_X11_takesDigits_b2 n2 text length at_ isWell rd x1 x2 x3 = some out → W p l e { frames := 2, cells := 0, slots := 0, locals := 43 } s m [.ref (h 0), .int a1, .int a2].toArray below meth c H locs 0 0 ZZ (F0 m 2 ls []) := by
    intro n2
    induction n2 with
    | zero =>
      intro H locs ls at_ isWell rd x1 x2 x3 hw hl hf
      exact nn hf
    | succ n2 ih2 =>
      intro H locs ls at_ isWell rd x1 x2 x3 hw hl hf
      refine lv_aload_n hx hb dX11_takesDigits_2 rfl (lv_at hl 0 rfl) ?_
      refine xget (v := .int isWell) E hw 0 rfl rfl 9 (by decide) inw11 qw1028 rfl rfl dX11_takesDigits_3 ?_
      refine lv_if_eq (tgt := 50) hx hb dX11_takesDigits_6 (by decide) (fun c6 => ?_) (fun c6 => ?_)
      · replace hf := ip c6 hf
        exact b50 _ _ _ at_ isWell rd x3 hw (lv_sub hl [0, 3] rfl) hf
      · replace hf := iq c6 hf
        refine lv_iload_n hx hb dX11_takesDigits_9 rfl (lv_at hl 3 rfl) ?_
        refine lv_iload_n hx hb dX11_takesDigits_10 rfl (lv_at hl 2 rfl) ?_
        refine lv_icmp_ge (tgt := 50) hx hb dX11_takesDigits_11 (by decide) (fun c11 => ?_) (fun c11 => ?_)
        · replace hf := ip c11 hf
          exact b50 _ _ _ at_ isWell rd x3 hw (lv_sub hl [0, 3] rfl) hf
        · replace hf := iq c11 hf
          refine lv_aload_n hx hb dX11_takesDigits_14 rfl (lv_at hl 0 rfl) ?_
          obtain ⟨v15, hv15, hf⟩ := ob_e hf
          refine xcallV (ws' := (wM g h thrown ss states stateMany snapshot hasSnapshot text length at_ isWell rd readMany top bottom digit digitMany other otherMany column columnMany carryMany chainMost)) (st1 := [.int v15]) (n := 9) E hw [] [0, 1, 2, 3, 4, 5, 6, 7, 8] (met_X11_value16 l g h thrown ss states stateMany snapshot hasSnapshot text length at_ isWell rd readMany top bottom digit digitMany other otherMany column columnMany carryMany chainMost v15 hv15) rfl (by decide) rfl rfl [9, 10, 11, 12, 13, 14, 15, 16, 17] rfl (by decide +kernel) rfl rfl rfl rfl qw1217 k_X11_value16 ⟨rfl, rfl, Nat.le_of_ble_eq_true rfl, Nat.le_of_ble_eq_true rfl⟩ ⟨Nat.zero_le _, Nat.zero_le _⟩ hl.1 (Nat.le_of_ble_eq_true rfl) dX11_takesDigits_15 rfl (fun H locs hw => ?_)
          refine lv_iconst (v := (-1)) hx hb dX11_takesDigits_18 (by decide) ?_
          refine lv_icmp_eq (tgt := 50) hx hb dX11_takesDigits_19 (by decide) (fun c19 => ?_) (fun c19 => ?_)
          · replace hf := ip c19 hf
            exact b50 _ _ _ at_ isWell rd x3 hw (lv_sub hl [0, 3] rfl) hf
          · replace hf := iq c19 hf
            refine lv_aload_n hx hb dX11_takesDigits_22 rfl (lv_at hl 0 rfl) ?_
            refine xget (v := .ref (h 5)) E hw 0 rfl rfl 10 (by decide) inw11 qw1029 rfl rfl dX11_takesDigits_23 ?_
            refine lv_iload_n hx hb dX11_takesDigits_26 rfl (lv_at hl 1 rfl) ?_
            refine lv_iload_n hx hb dX11_takesDigits_27 rfl (lv_at hl 3 rfl) ?_
            refine lv_iadd hx hb dX11_takesDigits_28 ?_
            refine lv_aload_n hx hb dX11_takesDigits_29 rfl (lv_at hl 0 rfl) ?_
            obtain ⟨v30, hv30, hf⟩ := ob_e hf
            refine xcallV (ws' := (wM g h thrown ss states stateMany snapshot hasSnapshot text length at_ isWell rd readMany top bottom digit digitMany other otherMany column columnMany carryMany chainMost)) (st1 := [.int v30, .int (x1 + x3), .ref (h 5)]) (n := 9) E hw [] [0, 1, 2, 3, 4, 5, 6, 7, 8] (met_X11_value16 l g h thrown ss states stateMany snapshot hasSnapshot text length at_ isWell rd readMany top bottom digit digitMany other otherMany column columnMany carryMany chainMost v30 hv30) rfl (by decide) rfl rfl [9, 10, 11, 12, 13, 14, 15, 16, 17] rfl (by decide +kernel) rfl rfl rfl rfl qw1217 k_X11_value16 ⟨rfl, rfl, Nat.le_of_ble_eq_true rfl, Nat.le_of_ble_eq_true rfl⟩ ⟨Nat.zero_le _, Nat.zero_le _⟩ hl.1 (Nat.le_of_ble_eq_true rfl) dX11_takesDigits_30 rfl (fun H locs hw => ?_)
            obtain ⟨hz, hf⟩ := nz hf
            refine xiast (ws' := (wM g h thrown ss states stateMany snapshot hasSnapshot text length at_ isWell (upd rd (x1 + x3).toNatClampNeg v30) readMany top bottom digit digitMany other otherMany column columnMany carryMany chainMost)) E hw 5 rfl hz dX11_takesDigits_33 rfl (fun H locs hw => ?_)
            refine lv_iinc (v := x3 + 1) (lv' := [(3, .int (x3 + 1)), (0, .ref (h 0)), (1, .int x1), (2, .int x2)]) hx hb dX11_takesDigits_34 hl (k := 3) rfl rfl (by decide) rfl (fun ls hl => ?_)
            refine lv_aload_n hx hb dX11_takesDigits_37 rfl (lv_at hl 1 rfl) ?_
            refine lv_dup hx hb dX11_takesDigits_38 rfl ?_
            refine xget (v := .int at_) E hw 0 rfl rfl 8 (by decide) inw11 qw1027 rfl rfl dX11_takesDigits_39 ?_
            refine lv_iconst (v := 1) hx hb dX11_takesDigits_42 (by decide) ?_
            refine lv_iadd hx hb dX11_takesDigits_43 ?_
            refine xput (ws' := (wM g h thrown ss states stateMany snapshot hasSnapshot text length (at_ + 1) isWell (upd rd (x1 + x3).toNatClampNeg v30) readMany top bottom digit digitMany other otherMany column columnMany carryMany chainMost)) E hw 0 rfl rfl 8 (by decide) inw11 tyX11_ok nmX11 qw1027 rfl rfl rfl rfl (Nat.le_of_ble_eq_true rfl) dX11_takesDigits_44 rfl (fun H locs hw => ?_)
            refine lv_goto (tgt := 2) hx hb dX11_takesDigits_47 (by decide) ?_
            exact ih2 _ _ _ (at_ + 1) isWell (upd rd (x1 + x3).toNatClampNeg v30) x1 x2 (x3 + 1) hw (lv_sub hl [1, 2, 3, 0] rfl) hf
  refine lv_iconst (v := 0) hx hb dX11_takesDigits_0 (by decide) ?_
  refine lv_istore_n (lv' := [(3, .int 0), (0, .ref (h 0)), (1, .int a1), (2, .int a2)]) hx hb dX11_takesDigits_1 rfl hl (by decide) rfl (fun ls hl => ?_)
  exact b2 xfuel _ _ _ at_ isWell rd a1 a2 0 hw (lv_sub hl [1, 2, 3, 0] rfl) hf
theorem k_X11_readsNumber : xKV yX11_readsNumber cX11_readsNumber 3 none 1 := ⟨qw1211, qw38, qw74, qw1212, by decide +kernel, by decide +kernel, by decide +kernel⟩
set_option maxHeartbeats 4000000 in
set_option maxRecDepth 100000 in
theorem met_X11_readsNumber (l : Launch) (g : xG) (h : Nat → Nat) (thrown : Int32) (ss : (Nat → Int32)) (states : (Nat → Int32)) (stateMany : Int32) (snapshot : (Nat → Int32)) (hasSnapshot : Int32) (text : (Nat → Int32)) (length : Int32) (at_ : Int32) (isWell : Int32) (rd : (Nat → Int32)) (readMany : Int32) (top : Int64) (bottom : Int64) (digit : (Nat → Int32)) (digitMany : Int32) (other : (Nat → Int32)) (otherMany : Int32) (column : (Nat → Int32)) (columnMany : Int32) (carryMany : Int32) (chainMost : Int32) (a1 : Int32) (out : Int32 × Int32 × (Nat → Int32)) (hf : f_X11_readsNumber text length at_ isWell rd a1 = some out) : xM l yX11_readsNumber (xC yX11_readsNumber cX11_readsNumber 3 none) { frames := 3, cells := 0, slots := 0, locals := 66 } g (wM g h thrown ss states stateMany snapshot hasSnapshot text length at_ isWell rd readMany top bottom digit digitMany other otherMany column columnMany carryMany chainMost) [.ref (h 0), .int a1] none (wM g h thrown ss states stateMany snapshot hasSnapshot text length out.1 out.2.1 out.2.2 readMany top bottom digit digitMany other otherMany column columnMany carryMany chainMost) := by
  refine xof (by decide) (Nat.le_of_ble_eq_true rfl) ⟨rfl, rfl⟩ ?_
  intro p e s m below meth c A ls E hr hlocks hw hl hpost hAe
  have hx := E.1.1
  have hb := E.1.2.1
  have hown := E.1.2.2.2.1
  have hts := E.1.2.2.2.2
  generalize hZ : (MQ below (xPost g (wM g h thrown ss states stateMany snapshot hasSnapshot text length at_ isWell rd readMany top bottom digit digitMany other otherMany column columnMany carryMany chainMost) (wM g h thrown ss states stateMany snapshot hasSnapshot text length out.1 out.2.1 out.2.2 readMany top bottom digit digitMany other otherMany column columnMany carryMany chainMost) s.heap.size none) [.ref (h 0), .int a1].toArray s 0 0 A) = ZZ
  have hret : ∀ (pc : Nat) (H : Heap) (locs : List Loc) (ls : Array Slot) (cat_ : Int32) (cisWell : Int32) (crd : (Nat → Int32)), (cat_, cisWell, crd) = out → decode cX11_readsNumber pc = .ok (.return_, 1) → xW g A s.heap (wM g h thrown ss states stateMany snapshot hasSnapshot text length cat_ cisWell crd readMany top bottom digit digitMany other otherMany column columnMany carryMany chainMost) H locs → W p l e { frames := 3, cells := 0, slots := 0, locals := 66 } s m [.ref (h 0), .int a1].toArray below meth c H locs 0 0 ZZ (F0 m pc ls []) := by
    intro pc H locs ls cat_ cisWell crd he hd hw
    subst he
    rw [← hZ]
    exact W.vret hx hb hr (hpost H locs hw).1 (hpost H locs hw).2 hd hlocks
  clear hpost
  have b93 : ∀ (H : Heap) (locs : List Loc) (ls : Array Slot) (at_ : Int32) (isWell : Int32) (rd : (Nat → Int32)) (x1 : Int32), xW g A s.heap (wM g h thrown ss states stateMany snapshot hasSnapshot text length at_ isWell rd readMany top bottom digit digitMany other otherMany column columnMany carryMany chainMost) H locs → lv_has ls 3 [(0, .ref (h 0)), (1, .int x1)] → f_X11_readsNumber_b93 text length at_ isWell rd x1 = some out → W p l e { frames := 3, cells := 0, slots := 0, locals := 66 } s m [.ref (h 0), .int a1].toArray below meth c H locs 0 0 ZZ (F0 m 93 ls []) := by
    intro H locs ls at_ isWell rd x1 hw hl hf
    refine lv_aload_n hx hb dX11_readsNumber_93 rfl (lv_at hl 0 rfl) ?_
    refine xget (v := .int isWell) E hw 0 rfl rfl 9 (by decide) inw11 qw1028 rfl rfl dX11_readsNumber_94 ?_
    refine lv_if_eq (tgt := 145) hx hb dX11_readsNumber_97 (by decide) (fun c97 => ?_) (fun c97 => ?_)
    · replace hf := ip c97 hf
      exact hret _ _ _ _ _ _ _ (Option.some.inj hf) dX11_readsNumber_145 hw
    · replace hf := iq c97 hf
      refine lv_aload_n hx hb dX11_readsNumber_100 rfl (lv_at hl 0 rfl) ?_
      obtain ⟨v101, hv101, hf⟩ := ob_e hf
      refine xcallV (ws' := (wM g h thrown ss states stateMany snapshot hasSnapshot text length at_ isWell rd readMany top bottom digit digitMany other otherMany column columnMany carryMany chainMost)) (st1 := [.int v101]) (n := 9) E hw [] [0, 1, 2, 3, 4, 5, 6, 7, 8] (met_X11_signAt l g h thrown ss states stateMany snapshot hasSnapshot text length at_ isWell rd readMany top bottom digit digitMany other otherMany column columnMany carryMany chainMost v101 hv101) rfl (by decide) rfl rfl [9, 10, 11, 12, 13, 14, 15, 16, 17] rfl (by decide +kernel) rfl rfl rfl rfl qw1197 k_X11_signAt ⟨rfl, rfl, Nat.le_of_ble_eq_true rfl, Nat.le_of_ble_eq_true rfl⟩ ⟨Nat.zero_le _, Nat.zero_le _⟩ hl.1 (Nat.le_of_ble_eq_true rfl) dX11_readsNumber_101 rfl (fun H locs hw => ?_)
      refine lv_bipush (v := 40) hx hb dX11_readsNumber_104 (by decide) ?_
      refine lv_icmp_ne (tgt := 145) hx hb dX11_readsNumber_106 (by decide) (fun c106 => ?_) (fun c106 => ?_)
      · replace hf := iq c106 hf
        exact hret _ _ _ _ _ _ _ (Option.some.inj hf) dX11_readsNumber_145 hw
      · replace hf := ip c106 hf
        refine lv_aload_n hx hb dX11_readsNumber_109 rfl (lv_at hl 0 rfl) ?_
        refine lv_dup hx hb dX11_readsNumber_110 rfl ?_
        refine xget (v := .int at_) E hw 0 rfl rfl 8 (by decide) inw11 qw1027 rfl rfl dX11_readsNumber_111 ?_
        refine lv_iconst (v := 1) hx hb dX11_readsNumber_114 (by decide) ?_
        refine lv_iadd hx hb dX11_readsNumber_115 ?_
        refine xput (ws' := (wM g h thrown ss states stateMany snapshot hasSnapshot text length (at_ + 1) isWell rd readMany top bottom digit digitMany other otherMany column columnMany carryMany chainMost)) E hw 0 rfl rfl 8 (by decide) inw11 tyX11_ok nmX11 qw1027 rfl rfl rfl rfl (Nat.le_of_ble_eq_true rfl) dX11_readsNumber_116 rfl (fun H locs hw => ?_)
        refine lv_aload_n hx hb dX11_readsNumber_119 rfl (lv_at hl 0 rfl) ?_
        refine xget (v := .ref (h 5)) E hw 0 rfl rfl 10 (by decide) inw11 qw1029 rfl rfl dX11_readsNumber_120 ?_
        refine lv_iload_n hx hb dX11_readsNumber_123 rfl (lv_at hl 1 rfl) ?_
        refine lv_iconst (v := 5) hx hb dX11_readsNumber_124 (by decide) ?_
        refine lv_iadd hx hb dX11_readsNumber_125 ?_
        refine lv_aload_n hx hb dX11_readsNumber_126 rfl (lv_at hl 0 rfl) ?_
        refine lv_iload_n hx hb dX11_readsNumber_127 rfl (lv_at hl 1 rfl) ?_
        refine lv_bipush (v := 18) hx hb dX11_readsNumber_128 (by decide) ?_
        refine lv_iadd hx hb dX11_readsNumber_130 ?_
        refine lv_iconst (v := 4) hx hb dX11_readsNumber_131 (by decide) ?_
        obtain ⟨v132, hv132, hf⟩ := ob_e hf
        refine xcallV (ws' := (wM g h thrown ss states stateMany snapshot hasSnapshot text length v132.2.1 v132.2.2.1 v132.2.2.2 readMany top bottom digit digitMany other otherMany column columnMany carryMany chainMost)) (st1 := [.int v132.1, .int (x1 + 5), .ref (h 5)]) (n := 9) E hw [.int (x1 + 18), .int 4] [0, 1, 2, 3, 4, 5, 6, 7, 8] (met_X11_takesDigits l g h thrown ss states stateMany snapshot hasSnapshot text length (at_ + 1) isWell rd readMany top bottom digit digitMany other otherMany column columnMany carryMany chainMost (x1 + 18) 4 v132 hv132) rfl (by decide) rfl rfl [9, 10, 11, 12, 13, 14, 15, 16, 17] rfl (by decide +kernel) rfl rfl rfl rfl qw1213 k_X11_takesDigits ⟨rfl, rfl, Nat.le_of_ble_eq_true rfl, Nat.le_of_ble_eq_true rfl⟩ ⟨Nat.zero_le _, Nat.zero_le _⟩ hl.1 (Nat.le_of_ble_eq_true rfl) dX11_readsNumber_132 rfl (fun H locs hw => ?_)
        obtain ⟨hz, hf⟩ := nz hf
        refine xiast (ws' := (wM g h thrown ss states stateMany snapshot hasSnapshot text length v132.2.1 v132.2.2.1 (upd v132.2.2.2 (x1 + 5).toNatClampNeg v132.1) readMany top bottom digit digitMany other otherMany column columnMany carryMany chainMost)) E hw 5 rfl hz dX11_readsNumber_135 rfl (fun H locs hw => ?_)
        refine lv_aload_n hx hb dX11_readsNumber_136 rfl (lv_at hl 0 rfl) ?_
        refine lv_bipush (v := 41) hx hb dX11_readsNumber_137 (by decide) ?_
        refine lv_bipush (v := 41) hx hb dX11_readsNumber_139 (by decide) ?_
        obtain ⟨v141, hv141, hf⟩ := ob_e hf
        refine xcallV (ws' := (wM g h thrown ss states stateMany snapshot hasSnapshot text length v141.2.1 v141.2.2 (upd v132.2.2.2 (x1 + 5).toNatClampNeg v132.1) readMany top bottom digit digitMany other otherMany column columnMany carryMany chainMost)) (st1 := [.int v141.1]) (n := 9) E hw [.int 41, .int 41] [0, 1, 2, 3, 4, 5, 6, 7, 8] (met_X11_takes l g h thrown ss states stateMany snapshot hasSnapshot text length v132.2.1 v132.2.2.1 (upd v132.2.2.2 (x1 + 5).toNatClampNeg v132.1) readMany top bottom digit digitMany other otherMany column columnMany carryMany chainMost 41 41 v141 hv141) rfl (by decide) rfl rfl [9, 10, 11, 12, 13, 14, 15, 16, 17] rfl (by decide +kernel) rfl rfl rfl rfl qw1205 k_X11_takes ⟨rfl, rfl, Nat.le_of_ble_eq_true rfl, Nat.le_of_ble_eq_true rfl⟩ ⟨Nat.zero_le _, Nat.zero_le _⟩ hl.1 (Nat.le_of_ble_eq_true rfl) dX11_readsNumber_141 rfl (fun H locs hw => ?_)
        refine lv_pop hx hb dX11_readsNumber_144 rfl ?_
        exact hret _ _ _ _ _ _ _ (Option.some.inj hf) dX11_readsNumber_145 hw
  have b37 : ∀ (H : Heap) (locs : List Loc) (ls : Array Slot) (at_ : Int32) (isWell : Int32) (rd : (Nat → Int32)) (x1 : Int32) (t0 : Int32) (t1 : Int32) (t3 : Int32), xW g A s.heap (wM g h thrown ss states stateMany snapshot hasSnapshot text length at_ isWell rd readMany top bottom digit digitMany other otherMany column columnMany carryMany chainMost) H locs → lv_has ls 3 [(0, .ref (h 0)), (1, .int x1)] → f_X11_readsNumber_b37 text length at_ isWell rd x1 t0 t1 t3 = some out → W p l e { frames := 3, cells := 0, slots := 0, locals := 66 } s m [.ref (h 0), .int a1].toArray below meth c H locs 0 0 ZZ (F0 m 37 ls [.int t0, .int t1, .ref (h 0), .int t3, .ref (h 5)]) := by
    intro H locs ls at_ isWell rd x1 t0 t1 t3 hw hl hf
    obtain ⟨v37, hv37, hf⟩ := ob_e hf
    refine xcallV (ws' := (wM g h thrown ss states stateMany snapshot hasSnapshot text length v37.2.1 v37.2.2.1 v37.2.2.2 readMany top bottom digit digitMany other otherMany column columnMany carryMany chainMost)) (st1 := [.int v37.1, .int t3, .ref (h 5)]) (n := 9) E hw [.int t1, .int t0] [0, 1, 2, 3, 4, 5, 6, 7, 8] (met_X11_takesDigits l g h thrown ss states stateMany snapshot hasSnapshot text length at_ isWell rd readMany top bottom digit digitMany other otherMany column columnMany carryMany chainMost t1 t0 v37 hv37) rfl (by decide) rfl rfl [9, 10, 11, 12, 13, 14, 15, 16, 17] rfl (by decide +kernel) rfl rfl rfl rfl qw1213 k_X11_takesDigits ⟨rfl, rfl, Nat.le_of_ble_eq_true rfl, Nat.le_of_ble_eq_true rfl⟩ ⟨Nat.zero_le _, Nat.zero_le _⟩ hl.1 (Nat.le_of_ble_eq_true rfl) dX11_readsNumber_37 rfl (fun H locs hw => ?_)
    obtain ⟨hz, hf⟩ := nz hf
    refine xiast (ws' := (wM g h thrown ss states stateMany snapshot hasSnapshot text length v37.2.1 v37.2.2.1 (upd v37.2.2.2 t3.toNatClampNeg v37.1) readMany top bottom digit digitMany other otherMany column columnMany carryMany chainMost)) E hw 5 rfl hz dX11_readsNumber_40 rfl (fun H locs hw => ?_)
    refine lv_aload_n hx hb dX11_readsNumber_41 rfl (lv_at hl 0 rfl) ?_
    refine xget (v := .int v37.2.2.1) E hw 0 rfl rfl 9 (by decide) inw11 qw1028 rfl rfl dX11_readsNumber_42 ?_
    refine lv_if_eq (tgt := 145) hx hb dX11_readsNumber_45 (by decide) (fun c45 => ?_) (fun c45 => ?_)
    · replace hf := ip c45 hf
      exact hret _ _ _ _ _ _ _ (Option.some.inj hf) dX11_readsNumber_145 hw
    · replace hf := iq c45 hf
      refine lv_aload_n hx hb dX11_readsNumber_48 rfl (lv_at hl 0 rfl) ?_
      obtain ⟨v49, hv49, hf⟩ := ob_e hf
      refine xcallV (ws' := (wM g h thrown ss states stateMany snapshot hasSnapshot text length v37.2.1 v37.2.2.1 (upd v37.2.2.2 t3.toNatClampNeg v37.1) readMany top bottom digit digitMany other otherMany column columnMany carryMany chainMost)) (st1 := [.int v49]) (n := 9) E hw [] [0, 1, 2, 3, 4, 5, 6, 7, 8] (met_X11_signAt l g h thrown ss states stateMany snapshot hasSnapshot text length v37.2.1 v37.2.2.1 (upd v37.2.2.2 t3.toNatClampNeg v37.1) readMany top bottom digit digitMany other otherMany column columnMany carryMany chainMost v49 hv49) rfl (by decide) rfl rfl [9, 10, 11, 12, 13, 14, 15, 16, 17] rfl (by decide +kernel) rfl rfl rfl rfl qw1197 k_X11_signAt ⟨rfl, rfl, Nat.le_of_ble_eq_true rfl, Nat.le_of_ble_eq_true rfl⟩ ⟨Nat.zero_le _, Nat.zero_le _⟩ hl.1 (Nat.le_of_ble_eq_true rfl) dX11_readsNumber_49 rfl (fun H locs hw => ?_)
      refine lv_bipush (v := 46) hx hb dX11_readsNumber_52 (by decide) ?_
      refine lv_icmp_ne (tgt := 145) hx hb dX11_readsNumber_54 (by decide) (fun c54 => ?_) (fun c54 => ?_)
      · replace hf := iq c54 hf
        exact hret _ _ _ _ _ _ _ (Option.some.inj hf) dX11_readsNumber_145 hw
      · replace hf := ip c54 hf
        refine lv_aload_n hx hb dX11_readsNumber_57 rfl (lv_at hl 0 rfl) ?_
        refine lv_dup hx hb dX11_readsNumber_58 rfl ?_
        refine xget (v := .int v37.2.1) E hw 0 rfl rfl 8 (by decide) inw11 qw1027 rfl rfl dX11_readsNumber_59 ?_
        refine lv_iconst (v := 1) hx hb dX11_readsNumber_62 (by decide) ?_
        refine lv_iadd hx hb dX11_readsNumber_63 ?_
        refine xput (ws' := (wM g h thrown ss states stateMany snapshot hasSnapshot text length (v37.2.1 + 1) v37.2.2.1 (upd v37.2.2.2 t3.toNatClampNeg v37.1) readMany top bottom digit digitMany other otherMany column columnMany carryMany chainMost)) E hw 0 rfl rfl 8 (by decide) inw11 tyX11_ok nmX11 qw1027 rfl rfl rfl rfl (Nat.le_of_ble_eq_true rfl) dX11_readsNumber_64 rfl (fun H locs hw => ?_)
        refine lv_aload_n hx hb dX11_readsNumber_67 rfl (lv_at hl 0 rfl) ?_
        obtain ⟨v68, hv68, hf⟩ := ob_e hf
        refine xcallV (ws' := (wM g h thrown ss states stateMany snapshot hasSnapshot text length (v37.2.1 + 1) v37.2.2.1 (upd v37.2.2.2 t3.toNatClampNeg v37.1) readMany top bottom digit digitMany other otherMany column columnMany carryMany chainMost)) (st1 := [.int v68]) (n := 9) E hw [] [0, 1, 2, 3, 4, 5, 6, 7, 8] (met_X11_signAt l g h thrown ss states stateMany snapshot hasSnapshot text length (v37.2.1 + 1) v37.2.2.1 (upd v37.2.2.2 t3.toNatClampNeg v37.1) readMany top bottom digit digitMany other otherMany column columnMany carryMany chainMost v68 hv68) rfl (by decide) rfl rfl [9, 10, 11, 12, 13, 14, 15, 16, 17] rfl (by decide +kernel) rfl rfl rfl rfl qw1197 k_X11_signAt ⟨rfl, rfl, Nat.le_of_ble_eq_true rfl, Nat.le_of_ble_eq_true rfl⟩ ⟨Nat.zero_le _, Nat.zero_le _⟩ hl.1 (Nat.le_of_ble_eq_true rfl) dX11_readsNumber_68 rfl (fun H locs hw => ?_)
        refine lv_bipush (v := 40) hx hb dX11_readsNumber_71 (by decide) ?_
        refine lv_icmp_eq (tgt := 93) hx hb dX11_readsNumber_73 (by decide) (fun c73 => ?_) (fun c73 => ?_)
        · replace hf := ip c73 hf
          exact b93 _ _ _ (v37.2.1 + 1) v37.2.2.1 (upd v37.2.2.2 t3.toNatClampNeg v37.1) x1 hw (lv_sub hl [0, 1] rfl) hf
        · replace hf := iq c73 hf
          refine lv_aload_n hx hb dX11_readsNumber_76 rfl (lv_at hl 0 rfl) ?_
          refine xget (v := .ref (h 5)) E hw 0 rfl rfl 10 (by decide) inw11 qw1029 rfl rfl dX11_readsNumber_77 ?_
          refine lv_iload_n hx hb dX11_readsNumber_80 rfl (lv_at hl 1 rfl) ?_
          refine lv_iconst (v := 4) hx hb dX11_readsNumber_81 (by decide) ?_
          refine lv_iadd hx hb dX11_readsNumber_82 ?_
          refine lv_aload_n hx hb dX11_readsNumber_83 rfl (lv_at hl 0 rfl) ?_
          refine lv_iload_n hx hb dX11_readsNumber_84 rfl (lv_at hl 1 rfl) ?_
          refine lv_bipush (v := 14) hx hb dX11_readsNumber_85 (by decide) ?_
          refine lv_iadd hx hb dX11_readsNumber_87 ?_
          refine lv_iconst (v := 4) hx hb dX11_readsNumber_88 (by decide) ?_
          obtain ⟨v89, hv89, hf⟩ := ob_e hf
          refine xcallV (ws' := (wM g h thrown ss states stateMany snapshot hasSnapshot text length v89.2.1 v89.2.2.1 v89.2.2.2 readMany top bottom digit digitMany other otherMany column columnMany carryMany chainMost)) (st1 := [.int v89.1, .int (x1 + 4), .ref (h 5)]) (n := 9) E hw [.int (x1 + 14), .int 4] [0, 1, 2, 3, 4, 5, 6, 7, 8] (met_X11_takesDigits l g h thrown ss states stateMany snapshot hasSnapshot text length (v37.2.1 + 1) v37.2.2.1 (upd v37.2.2.2 t3.toNatClampNeg v37.1) readMany top bottom digit digitMany other otherMany column columnMany carryMany chainMost (x1 + 14) 4 v89 hv89) rfl (by decide) rfl rfl [9, 10, 11, 12, 13, 14, 15, 16, 17] rfl (by decide +kernel) rfl rfl rfl rfl qw1213 k_X11_takesDigits ⟨rfl, rfl, Nat.le_of_ble_eq_true rfl, Nat.le_of_ble_eq_true rfl⟩ ⟨Nat.zero_le _, Nat.zero_le _⟩ hl.1 (Nat.le_of_ble_eq_true rfl) dX11_readsNumber_89 rfl (fun H locs hw => ?_)
          obtain ⟨hz, hf⟩ := nz hf
          refine xiast (ws' := (wM g h thrown ss states stateMany snapshot hasSnapshot text length v89.2.1 v89.2.2.1 (upd v89.2.2.2 (x1 + 4).toNatClampNeg v89.1) readMany top bottom digit digitMany other otherMany column columnMany carryMany chainMost)) E hw 5 rfl hz dX11_readsNumber_92 rfl (fun H locs hw => ?_)
          exact b93 _ _ _ v89.2.1 v89.2.2.1 (upd v89.2.2.2 (x1 + 4).toNatClampNeg v89.1) x1 hw (lv_sub hl [0, 1] rfl) hf
  have b14 : ∀ (H : Heap) (locs : List Loc) (ls : Array Slot) (at_ : Int32) (isWell : Int32) (rd : (Nat → Int32)) (x1 : Int32) (t0 : Int32), xW g A s.heap (wM g h thrown ss states stateMany snapshot hasSnapshot text length at_ isWell rd readMany top bottom digit digitMany other otherMany column columnMany carryMany chainMost) H locs → lv_has ls 3 [(0, .ref (h 0)), (1, .int x1)] → f_X11_readsNumber_b14 text length at_ isWell rd x1 t0 = some out → W p l e { frames := 3, cells := 0, slots := 0, locals := 66 } s m [.ref (h 0), .int a1].toArray below meth c H locs 0 0 ZZ (F0 m 14 ls [.int t0]) := by
    intro H locs ls at_ isWell rd x1 t0 hw hl hf
    refine lv_istore_n (lv' := [(2, .int t0), (0, .ref (h 0)), (1, .int x1)]) hx hb dX11_readsNumber_14 rfl hl (by decide) rfl (fun ls hl => ?_)
    refine lv_aload_n hx hb dX11_readsNumber_15 rfl (lv_at hl 1 rfl) ?_
    refine xget (v := .ref (h 5)) E hw 0 rfl rfl 10 (by decide) inw11 qw1029 rfl rfl dX11_readsNumber_16 ?_
    refine lv_iload_n hx hb dX11_readsNumber_19 rfl (lv_at hl 2 rfl) ?_
    refine lv_iconst (v := 3) hx hb dX11_readsNumber_20 (by decide) ?_
    refine lv_iadd hx hb dX11_readsNumber_21 ?_
    refine lv_aload_n hx hb dX11_readsNumber_22 rfl (lv_at hl 1 rfl) ?_
    refine lv_iload_n hx hb dX11_readsNumber_23 rfl (lv_at hl 2 rfl) ?_
    refine lv_bipush (v := 6) hx hb dX11_readsNumber_24 (by decide) ?_
    refine lv_iadd hx hb dX11_readsNumber_26 ?_
    refine lv_iload_n hx hb dX11_readsNumber_27 rfl (lv_at hl 0 rfl) ?_
    refine lv_if_eq (tgt := 35) hx hb dX11_readsNumber_28 (by decide) (fun c28 => ?_) (fun c28 => ?_)
    · replace hf := ip c28 hf
      refine lv_bipush (v := 8) hx hb dX11_readsNumber_35 (by decide) ?_
      exact b37 _ _ _ at_ isWell rd x1 8 (x1 + 6) (x1 + 3) hw (lv_sub hl [1, 2] rfl) hf
    · replace hf := iq c28 hf
      refine lv_iconst (v := 1) hx hb dX11_readsNumber_31 (by decide) ?_
      refine lv_goto (tgt := 37) hx hb dX11_readsNumber_32 (by decide) ?_
      exact b37 _ _ _ at_ isWell rd x1 1 (x1 + 6) (x1 + 3) hw (lv_sub hl [1, 2] rfl) hf
  refine lv_aload_n hx hb dX11_readsNumber_0 rfl (lv_at hl 0 rfl) ?_
  obtain ⟨v1, hv1, hf⟩ := ob_e hf
  refine xcallV (ws' := (wM g h thrown ss states stateMany snapshot hasSnapshot text length at_ isWell rd readMany top bottom digit digitMany other otherMany column columnMany carryMany chainMost)) (st1 := [.int v1]) (n := 9) E hw [] [0, 1, 2, 3, 4, 5, 6, 7, 8] (met_X11_signAt l g h thrown ss states stateMany snapshot hasSnapshot text length at_ isWell rd readMany top bottom digit digitMany other otherMany column columnMany carryMany chainMost v1 hv1) rfl (by decide) rfl rfl [9, 10, 11, 12, 13, 14, 15, 16, 17] rfl (by decide +kernel) rfl rfl rfl rfl qw1197 k_X11_signAt ⟨rfl, rfl, Nat.le_of_ble_eq_true rfl, Nat.le_of_ble_eq_true rfl⟩ ⟨Nat.zero_le _, Nat.zero_le _⟩ hl.1 (Nat.le_of_ble_eq_true rfl) dX11_readsNumber_1 rfl (fun H locs hw => ?_)
  refine lv_bipush (v := 48) hx hb dX11_readsNumber_4 (by decide) ?_
  refine lv_icmp_ne (tgt := 13) hx hb dX11_readsNumber_6 (by decide) (fun c6 => ?_) (fun c6 => ?_)
  · replace hf := iq c6 hf
    refine lv_iconst (v := 0) hx hb dX11_readsNumber_13 (by decide) ?_
    exact b14 _ _ _ at_ isWell rd a1 0 hw (lv_sub hl [0, 1] rfl) hf
  · replace hf := ip c6 hf
    refine lv_iconst (v := 1) hx hb dX11_readsNumber_9 (by decide) ?_
    refine lv_goto (tgt := 14) hx hb dX11_readsNumber_10 (by decide) ?_
    exact b14 _ _ _ at_ isWell rd a1 1 hw (lv_sub hl [0, 1] rfl) hf
theorem k_X11_readsBase : xKV yX11_readsBase cX11_readsBase 3 none 1 := ⟨qw1203, qw36, qw74, qw1204, by decide +kernel, by decide +kernel, by decide +kernel⟩
set_option maxHeartbeats 4000000 in
set_option maxRecDepth 100000 in
theorem met_X11_readsBase (l : Launch) (g : xG) (h : Nat → Nat) (thrown : Int32) (ss : (Nat → Int32)) (states : (Nat → Int32)) (stateMany : Int32) (snapshot : (Nat → Int32)) (hasSnapshot : Int32) (text : (Nat → Int32)) (length : Int32) (at_ : Int32) (isWell : Int32) (rd : (Nat → Int32)) (readMany : Int32) (top : Int64) (bottom : Int64) (digit : (Nat → Int32)) (digitMany : Int32) (other : (Nat → Int32)) (otherMany : Int32) (column : (Nat → Int32)) (columnMany : Int32) (carryMany : Int32) (chainMost : Int32) (a1 : Int32) (out : Int32 × Int32 × (Nat → Int32)) (hf : f_X11_readsBase text length at_ isWell rd a1 = some out) : xM l yX11_readsBase (xC yX11_readsBase cX11_readsBase 3 none) { frames := 2, cells := 0, slots := 0, locals := 45 } g (wM g h thrown ss states stateMany snapshot hasSnapshot text length at_ isWell rd readMany top bottom digit digitMany other otherMany column columnMany carryMany chainMost) [.ref (h 0), .int a1] none (wM g h thrown ss states stateMany snapshot hasSnapshot text length out.1 out.2.1 out.2.2 readMany top bottom digit digitMany other otherMany column columnMany carryMany chainMost) := by
  refine xof (by decide) (Nat.le_of_ble_eq_true rfl) ⟨rfl, rfl⟩ ?_
  intro p e s m below meth c A ls E hr hlocks hw hl hpost hAe
  have hx := E.1.1
  have hb := E.1.2.1
  have hown := E.1.2.2.2.1
  have hts := E.1.2.2.2.2
  generalize hZ : (MQ below (xPost g (wM g h thrown ss states stateMany snapshot hasSnapshot text length at_ isWell rd readMany top bottom digit digitMany other otherMany column columnMany carryMany chainMost) (wM g h thrown ss states stateMany snapshot hasSnapshot text length out.1 out.2.1 out.2.2 readMany top bottom digit digitMany other otherMany column columnMany carryMany chainMost) s.heap.size none) [.ref (h 0), .int a1].toArray s 0 0 A) = ZZ
  have hret : ∀ (pc : Nat) (H : Heap) (locs : List Loc) (ls : Array Slot) (cat_ : Int32) (cisWell : Int32) (crd : (Nat → Int32)), (cat_, cisWell, crd) = out → decode cX11_readsBase pc = .ok (.return_, 1) → xW g A s.heap (wM g h thrown ss states stateMany snapshot hasSnapshot text length cat_ cisWell crd readMany top bottom digit digitMany other otherMany column columnMany carryMany chainMost) H locs → W p l e { frames := 2, cells := 0, slots := 0, locals := 45 } s m [.ref (h 0), .int a1].toArray below meth c H locs 0 0 ZZ (F0 m pc ls []) := by
    intro pc H locs ls cat_ cisWell crd he hd hw
    subst he
    rw [← hZ]
    exact W.vret hx hb hr (hpost H locs hw).1 (hpost H locs hw).2 hd hlocks
  clear hpost
  have b33 : ∀ (H : Heap) (locs : List Loc) (ls : Array Slot) (at_ : Int32) (isWell : Int32) (rd : (Nat → Int32)) (x1 : Int32) (x2 : Int32), xW g A s.heap (wM g h thrown ss states stateMany snapshot hasSnapshot text length at_ isWell rd readMany top bottom digit digitMany other otherMany column columnMany carryMany chainMost) H locs → lv_has ls 3 [(0, .ref (h 0)), (1, .int x1), (2, .int x2)] → f_X11_readsBase_b33 text length at_ isWell rd x1 x2 = some out → W p l e { frames := 2, cells := 0, slots := 0, locals := 45 } s m [.ref (h 0), .int a1].toArray below meth c H locs 0 0 ZZ (F0 m 33 ls []) := by
    intro H locs ls at_ isWell rd x1 x2 hw hl hf
    refine lv_aload_n hx hb dX11_readsBase_33 rfl (lv_at hl 0 rfl) ?_
    refine xget (v := .ref (h 5)) E hw 0 rfl rfl 10 (by decide) inw11 qw1029 rfl rfl dX11_readsBase_34 ?_
    refine lv_iload_n hx hb dX11_readsBase_37 rfl (lv_at hl 1 rfl) ?_
    refine lv_iconst (v := 2) hx hb dX11_readsBase_38 (by decide) ?_
    refine lv_iadd hx hb dX11_readsBase_39 ?_
    refine lv_iload_n hx hb dX11_readsBase_40 rfl (lv_at hl 2 rfl) ?_
    obtain ⟨hz, hf⟩ := nz hf
    refine xiast (ws' := (wM g h thrown ss states stateMany snapshot hasSnapshot text length at_ isWell (upd rd (x1 + 2).toNatClampNeg x2) readMany top bottom digit digitMany other otherMany column columnMany carryMany chainMost)) E hw 5 rfl hz dX11_readsBase_41 rfl (fun H locs hw => ?_)
    exact hret _ _ _ _ _ _ _ (Option.some.inj hf) dX11_readsBase_42 hw
  refine lv_aload_n hx hb dX11_readsBase_0 rfl (lv_at hl 0 rfl) ?_
  refine lv_bipush (v := 49) hx hb dX11_readsBase_1 (by decide) ?_
  refine lv_bipush (v := 57) hx hb dX11_readsBase_3 (by decide) ?_
  obtain ⟨v5, hv5, hf⟩ := ob_e hf
  refine xcallV (ws' := (wM g h thrown ss states stateMany snapshot hasSnapshot text length v5.2.1 v5.2.2 rd readMany top bottom digit digitMany other otherMany column columnMany carryMany chainMost)) (st1 := [.int v5.1]) (n := 9) E hw [.int 49, .int 57] [0, 1, 2, 3, 4, 5, 6, 7, 8] (met_X11_takes l g h thrown ss states stateMany snapshot hasSnapshot text length at_ isWell rd readMany top bottom digit digitMany other otherMany column columnMany carryMany chainMost 49 57 v5 hv5) rfl (by decide) rfl rfl [9, 10, 11, 12, 13, 14, 15, 16, 17] rfl (by decide +kernel) rfl rfl rfl rfl qw1205 k_X11_takes ⟨rfl, rfl, Nat.le_of_ble_eq_true rfl, Nat.le_of_ble_eq_true rfl⟩ ⟨Nat.zero_le _, Nat.zero_le _⟩ hl.1 (Nat.le_of_ble_eq_true rfl) dX11_readsBase_5 rfl (fun H locs hw => ?_)
  refine lv_istore_n (lv' := [(2, .int v5.1), (0, .ref (h 0)), (1, .int a1)]) hx hb dX11_readsBase_8 rfl hl (by decide) rfl (fun ls hl => ?_)
  refine lv_aload_n hx hb dX11_readsBase_9 rfl (lv_at hl 1 rfl) ?_
  refine xget (v := .int v5.2.2) E hw 0 rfl rfl 9 (by decide) inw11 qw1028 rfl rfl dX11_readsBase_10 ?_
  refine lv_if_eq (tgt := 33) hx hb dX11_readsBase_13 (by decide) (fun c13 => ?_) (fun c13 => ?_)
  · replace hf := ip c13 hf
    exact b33 _ _ _ v5.2.1 v5.2.2 rd a1 v5.1 hw (lv_sub hl [1, 2, 0] rfl) hf
  · replace hf := iq c13 hf
    refine lv_iload_n hx hb dX11_readsBase_16 rfl (lv_at hl 0 rfl) ?_
    refine lv_iconst (v := 1) hx hb dX11_readsBase_17 (by decide) ?_
    refine lv_icmp_ne (tgt := 33) hx hb dX11_readsBase_18 (by decide) (fun c18 => ?_) (fun c18 => ?_)
    · replace hf := iq c18 hf
      exact b33 _ _ _ v5.2.1 v5.2.2 rd a1 v5.1 hw (lv_sub hl [1, 2, 0] rfl) hf
    · replace hf := ip c18 hf
      refine lv_bipush (v := 10) hx hb dX11_readsBase_21 (by decide) ?_
      refine lv_aload_n hx hb dX11_readsBase_23 rfl (lv_at hl 1 rfl) ?_
      refine lv_bipush (v := 48) hx hb dX11_readsBase_24 (by decide) ?_
      refine lv_bipush (v := 54) hx hb dX11_readsBase_26 (by decide) ?_
      obtain ⟨v28, hv28, hf⟩ := ob_e hf
      refine xcallV (ws' := (wM g h thrown ss states stateMany snapshot hasSnapshot text length v28.2.1 v28.2.2 rd readMany top bottom digit digitMany other otherMany column columnMany carryMany chainMost)) (st1 := [.int v28.1, .int 10]) (n := 9) E hw [.int 48, .int 54] [0, 1, 2, 3, 4, 5, 6, 7, 8] (met_X11_takes l g h thrown ss states stateMany snapshot hasSnapshot text length v5.2.1 v5.2.2 rd readMany top bottom digit digitMany other otherMany column columnMany carryMany chainMost 48 54 v28 hv28) rfl (by decide) rfl rfl [9, 10, 11, 12, 13, 14, 15, 16, 17] rfl (by decide +kernel) rfl rfl rfl rfl qw1205 k_X11_takes ⟨rfl, rfl, Nat.le_of_ble_eq_true rfl, Nat.le_of_ble_eq_true rfl⟩ ⟨Nat.zero_le _, Nat.zero_le _⟩ hl.1 (Nat.le_of_ble_eq_true rfl) dX11_readsBase_28 rfl (fun H locs hw => ?_)
      refine lv_iadd hx hb dX11_readsBase_31 ?_
      refine lv_istore_n (lv' := [(2, .int (10 + v28.1)), (0, .ref (h 0)), (1, .int a1)]) hx hb dX11_readsBase_32 rfl hl (by decide) rfl (fun ls hl => ?_)
      exact b33 _ _ _ v28.2.1 v28.2.2 rd a1 (10 + v28.1) hw (lv_sub hl [1, 2, 0] rfl) hf
theorem k_X11_readsPart : xKV yX11_readsPart cX11_readsPart 3 none 0 := ⟨qw1195, qw34, qw74, qw1196, by decide +kernel, by decide +kernel, by decide +kernel⟩
set_option maxHeartbeats 4000000 in
set_option maxRecDepth 100000 in
theorem met_X11_readsPart (l : Launch) (g : xG) (h : Nat → Nat) (thrown : Int32) (ss : (Nat → Int32)) (states : (Nat → Int32)) (stateMany : Int32) (snapshot : (Nat → Int32)) (hasSnapshot : Int32) (text : (Nat → Int32)) (length : Int32) (at_ : Int32) (isWell : Int32) (rd : (Nat → Int32)) (readMany : Int32) (top : Int64) (bottom : Int64) (digit : (Nat → Int32)) (digitMany : Int32) (other : (Nat → Int32)) (otherMany : Int32) (column : (Nat → Int32)) (columnMany : Int32) (carryMany : Int32) (chainMost : Int32) (out : Int32 × Int32 × (Nat → Int32) × Int32) (hf : f_X11_readsPart text length at_ isWell rd readMany = some out) : xM l yX11_readsPart (xC yX11_readsPart cX11_readsPart 3 none) { frames := 4, cells := 0, slots := 0, locals := 88 } g (wM g h thrown ss states stateMany snapshot hasSnapshot text length at_ isWell rd readMany top bottom digit digitMany other otherMany column columnMany carryMany chainMost) [.ref (h 0)] none (wM g h thrown ss states stateMany snapshot hasSnapshot text length out.1 out.2.1 out.2.2.1 out.2.2.2 top bottom digit digitMany other otherMany column columnMany carryMany chainMost) := by
  refine xof (by decide) (Nat.le_of_ble_eq_true rfl) ⟨rfl, rfl⟩ ?_
  intro p e s m below meth c A ls E hr hlocks hw hl hpost hAe
  have hx := E.1.1
  have hb := E.1.2.1
  have hown := E.1.2.2.2.1
  have hts := E.1.2.2.2.2
  generalize hZ : (MQ below (xPost g (wM g h thrown ss states stateMany snapshot hasSnapshot text length at_ isWell rd readMany top bottom digit digitMany other otherMany column columnMany carryMany chainMost) (wM g h thrown ss states stateMany snapshot hasSnapshot text length out.1 out.2.1 out.2.2.1 out.2.2.2 top bottom digit digitMany other otherMany column columnMany carryMany chainMost) s.heap.size none) [.ref (h 0)].toArray s 0 0 A) = ZZ
  have hret : ∀ (pc : Nat) (H : Heap) (locs : List Loc) (ls : Array Slot) (cat_ : Int32) (cisWell : Int32) (crd : (Nat → Int32)) (creadMany : Int32), (cat_, cisWell, crd, creadMany) = out → decode cX11_readsPart pc = .ok (.return_, 1) → xW g A s.heap (wM g h thrown ss states stateMany snapshot hasSnapshot text length cat_ cisWell crd creadMany top bottom digit digitMany other otherMany column columnMany carryMany chainMost) H locs → W p l e { frames := 4, cells := 0, slots := 0, locals := 88 } s m [.ref (h 0)].toArray below meth c H locs 0 0 ZZ (F0 m pc ls []) := by
    intro pc H locs ls cat_ cisWell crd creadMany he hd hw
    subst he
    rw [← hZ]
    exact W.vret hx hb hr (hpost H locs hw).1 (hpost H locs hw).2 hd hlocks
  clear hpost
  have b214 : ∀ (H : Heap) (locs : List Loc) (ls : Array Slot) (at_ : Int32) (isWell : Int32) (rd : (Nat → Int32)) (readMany : Int32) (t0 : Int32) (t1 : Int32), xW g A s.heap (wM g h thrown ss states stateMany snapshot hasSnapshot text length at_ isWell rd readMany top bottom digit digitMany other otherMany column columnMany carryMany chainMost) H locs → lv_has ls 3 [] → f_X11_readsPart_b214 text length at_ isWell rd readMany t0 t1 = some out → W p l e { frames := 4, cells := 0, slots := 0, locals := 88 } s m [.ref (h 0)].toArray below meth c H locs 0 0 ZZ (F0 m 214 ls [.int t0, .int t1, .ref (h 0)]) := by
    intro H locs ls at_ isWell rd readMany t0 t1 hw hl hf
    refine lv_iadd hx hb dX11_readsPart_214 ?_
    refine xput (ws' := (wM g h thrown ss states stateMany snapshot hasSnapshot text length at_ isWell rd (t1 + t0) top bottom digit digitMany other otherMany column columnMany carryMany chainMost)) E hw 0 rfl rfl 11 (by decide) inw11 tyX11_ok nmX11 qw1030 rfl rfl rfl rfl (Nat.le_of_ble_eq_true rfl) dX11_readsPart_215 rfl (fun H locs hw => ?_)
    exact hret _ _ _ _ _ _ _ _ (Option.some.inj hf) dX11_readsPart_218 hw
  have b197 : ∀ (H : Heap) (locs : List Loc) (ls : Array Slot) (at_ : Int32) (isWell : Int32) (rd : (Nat → Int32)) (readMany : Int32), xW g A s.heap (wM g h thrown ss states stateMany snapshot hasSnapshot text length at_ isWell rd readMany top bottom digit digitMany other otherMany column columnMany carryMany chainMost) H locs → lv_has ls 3 [(0, .ref (h 0))] → f_X11_readsPart_b197 text length at_ isWell rd readMany = some out → W p l e { frames := 4, cells := 0, slots := 0, locals := 88 } s m [.ref (h 0)].toArray below meth c H locs 0 0 ZZ (F0 m 197 ls []) := by
    intro H locs ls at_ isWell rd readMany hw hl hf
    refine lv_aload_n hx hb dX11_readsPart_197 rfl (lv_at hl 0 rfl) ?_
    refine lv_dup hx hb dX11_readsPart_198 rfl ?_
    refine xget (v := .int readMany) E hw 0 rfl rfl 11 (by decide) inw11 qw1030 rfl rfl dX11_readsPart_199 ?_
    refine lv_aload_n hx hb dX11_readsPart_202 rfl (lv_at hl 0 rfl) ?_
    refine xget (v := .int isWell) E hw 0 rfl rfl 9 (by decide) inw11 qw1028 rfl rfl dX11_readsPart_203 ?_
    refine lv_if_eq (tgt := 213) hx hb dX11_readsPart_206 (by decide) (fun c206 => ?_) (fun c206 => ?_)
    · replace hf := ip c206 hf
      refine lv_iconst (v := 0) hx hb dX11_readsPart_213 (by decide) ?_
      exact b214 _ _ _ at_ isWell rd readMany 0 readMany hw (lv_sub hl [] rfl) hf
    · replace hf := iq c206 hf
      refine lv_iconst (v := 1) hx hb dX11_readsPart_209 (by decide) ?_
      refine lv_goto (tgt := 214) hx hb dX11_readsPart_210 (by decide) ?_
      exact b214 _ _ _ at_ isWell rd readMany 1 readMany hw (lv_sub hl [] rfl) hf
  have b181 : ∀ (H : Heap) (locs : List Loc) (ls : Array Slot) (at_ : Int32) (isWell : Int32) (rd : (Nat → Int32)) (readMany : Int32) (x1 : Int32), xW g A s.heap (wM g h thrown ss states stateMany snapshot hasSnapshot text length at_ isWell rd readMany top bottom digit digitMany other otherMany column columnMany carryMany chainMost) H locs → lv_has ls 3 [(0, .ref (h 0)), (1, .int x1)] → f_X11_readsPart_b181 text length at_ isWell rd readMany x1 = some out → W p l e { frames := 4, cells := 0, slots := 0, locals := 88 } s m [.ref (h 0)].toArray below meth c H locs 0 0 ZZ (F0 m 181 ls []) := by
    intro H locs ls at_ isWell rd readMany x1 hw hl hf
    refine lv_aload_n hx hb dX11_readsPart_181 rfl (lv_at hl 0 rfl) ?_
    refine xget (v := .ref (h 5)) E hw 0 rfl rfl 10 (by decide) inw11 qw1029 rfl rfl dX11_readsPart_182 ?_
    refine lv_iload_n hx hb dX11_readsPart_185 rfl (lv_at hl 1 rfl) ?_
    refine lv_iconst (v := 2) hx hb dX11_readsPart_186 (by decide) ?_
    refine lv_iadd hx hb dX11_readsPart_187 ?_
    refine lv_aload_n hx hb dX11_readsPart_188 rfl (lv_at hl 0 rfl) ?_
    refine lv_bipush (v := 48) hx hb dX11_readsPart_189 (by decide) ?_
    refine lv_bipush (v := 53) hx hb dX11_readsPart_191 (by decide) ?_
    obtain ⟨v193, hv193, hf⟩ := ob_e hf
    refine xcallV (ws' := (wM g h thrown ss states stateMany snapshot hasSnapshot text length v193.2.1 v193.2.2 rd readMany top bottom digit digitMany other otherMany column columnMany carryMany chainMost)) (st1 := [.int v193.1, .int (x1 + 2), .ref (h 5)]) (n := 9) E hw [.int 48, .int 53] [0, 1, 2, 3, 4, 5, 6, 7, 8] (met_X11_takes l g h thrown ss states stateMany snapshot hasSnapshot text length at_ isWell rd readMany top bottom digit digitMany other otherMany column columnMany carryMany chainMost 48 53 v193 hv193) rfl (by decide) rfl rfl [9, 10, 11, 12, 13, 14, 15, 16, 17] rfl (by decide +kernel) rfl rfl rfl rfl qw1205 k_X11_takes ⟨rfl, rfl, Nat.le_of_ble_eq_true rfl, Nat.le_of_ble_eq_true rfl⟩ ⟨Nat.zero_le _, Nat.zero_le _⟩ hl.1 (Nat.le_of_ble_eq_true rfl) dX11_readsPart_193 rfl (fun H locs hw => ?_)
    obtain ⟨hz, hf⟩ := nz hf
    refine xiast (ws' := (wM g h thrown ss states stateMany snapshot hasSnapshot text length v193.2.1 v193.2.2 (upd rd (x1 + 2).toNatClampNeg v193.1) readMany top bottom digit digitMany other otherMany column columnMany carryMany chainMost)) E hw 5 rfl hz dX11_readsPart_196 rfl (fun H locs hw => ?_)
    exact b197 _ _ _ v193.2.1 v193.2.2 (upd rd (x1 + 2).toNatClampNeg v193.1) readMany hw (lv_sub hl [0] rfl) hf
  have b147 : ∀ (H : Heap) (locs : List Loc) (ls : Array Slot) (at_ : Int32) (isWell : Int32) (rd : (Nat → Int32)) (readMany : Int32) (x1 : Int32) (x2 : Int32) (t0 : Int32) (t1 : Int32), xW g A s.heap (wM g h thrown ss states stateMany snapshot hasSnapshot text length at_ isWell rd readMany top bottom digit digitMany other otherMany column columnMany carryMany chainMost) H locs → lv_has ls 3 [(0, .ref (h 0)), (1, .int x1), (2, .int x2)] → f_X11_readsPart_b147 text length at_ isWell rd readMany x1 x2 t0 t1 = some out → W p l e { frames := 4, cells := 0, slots := 0, locals := 88 } s m [.ref (h 0)].toArray below meth c H locs 0 0 ZZ (F0 m 147 ls [.int t0, .int t1, .ref (h 0)]) := by
    intro H locs ls at_ isWell rd readMany x1 x2 t0 t1 hw hl hf
    refine lv_iadd hx hb dX11_readsPart_147 ?_
    refine xput (ws' := (wM g h thrown ss states stateMany snapshot hasSnapshot text length (t1 + t0) isWell rd readMany top bottom digit digitMany other otherMany column columnMany carryMany chainMost)) E hw 0 rfl rfl 8 (by decide) inw11 tyX11_ok nmX11 qw1027 rfl rfl rfl rfl (Nat.le_of_ble_eq_true rfl) dX11_readsPart_148 rfl (fun H locs hw => ?_)
    refine lv_aload_n hx hb dX11_readsPart_151 rfl (lv_at hl 0 rfl) ?_
    refine xget (v := .ref (h 5)) E hw 0 rfl rfl 10 (by decide) inw11 qw1029 rfl rfl dX11_readsPart_152 ?_
    refine lv_iload_n hx hb dX11_readsPart_155 rfl (lv_at hl 1 rfl) ?_
    refine lv_iconst (v := 1) hx hb dX11_readsPart_156 (by decide) ?_
    refine lv_iadd hx hb dX11_readsPart_157 ?_
    refine lv_iload_n hx hb dX11_readsPart_158 rfl (lv_at hl 2 rfl) ?_
    obtain ⟨hz, hf⟩ := nz hf
    refine xiast (ws' := (wM g h thrown ss states stateMany snapshot hasSnapshot text length (t1 + t0) isWell (upd rd (x1 + 1).toNatClampNeg x2) readMany top bottom digit digitMany other otherMany column columnMany carryMany chainMost)) E hw 5 rfl hz dX11_readsPart_159 rfl (fun H locs hw => ?_)
    refine lv_aload_n hx hb dX11_readsPart_160 rfl (lv_at hl 0 rfl) ?_
    refine xget (v := .int isWell) E hw 0 rfl rfl 9 (by decide) inw11 qw1028 rfl rfl dX11_readsPart_161 ?_
    refine lv_if_eq (tgt := 181) hx hb dX11_readsPart_164 (by decide) (fun c164 => ?_) (fun c164 => ?_)
    · replace hf := ip c164 hf
      exact b181 _ _ _ (t1 + t0) isWell (upd rd (x1 + 1).toNatClampNeg x2) readMany x1 hw (lv_sub hl [0, 1] rfl) hf
    · replace hf := iq c164 hf
      refine lv_iload_n hx hb dX11_readsPart_167 rfl (lv_at hl 2 rfl) ?_
      refine lv_bipush (v := 61) hx hb dX11_readsPart_168 (by decide) ?_
      refine lv_icmp_ne (tgt := 181) hx hb dX11_readsPart_170 (by decide) (fun c170 => ?_) (fun c170 => ?_)
      · replace hf := iq c170 hf
        exact b181 _ _ _ (t1 + t0) isWell (upd rd (x1 + 1).toNatClampNeg x2) readMany x1 hw (lv_sub hl [0, 1] rfl) hf
      · replace hf := ip c170 hf
        refine lv_aload_n hx hb dX11_readsPart_173 rfl (lv_at hl 0 rfl) ?_
        refine lv_iload_n hx hb dX11_readsPart_174 rfl (lv_at hl 1 rfl) ?_
        obtain ⟨v175, hv175, hf⟩ := ob_e hf
        refine xcallV (ws' := (wM g h thrown ss states stateMany snapshot hasSnapshot text length v175.1 v175.2.1 v175.2.2 readMany top bottom digit digitMany other otherMany column columnMany carryMany chainMost)) (st1 := []) (n := 9) E hw [.int x1] [0, 1, 2, 3, 4, 5, 6, 7, 8] (met_X11_readsNumber l g h thrown ss states stateMany snapshot hasSnapshot text length (t1 + t0) isWell (upd rd (x1 + 1).toNatClampNeg x2) readMany top bottom digit digitMany other otherMany column columnMany carryMany chainMost x1 v175 hv175) rfl (by decide) rfl rfl [9, 10, 11, 12, 13, 14, 15, 16, 17] rfl (by decide +kernel) rfl rfl rfl rfl qw1209 k_X11_readsNumber ⟨rfl, rfl, Nat.le_of_ble_eq_true rfl, Nat.le_of_ble_eq_true rfl⟩ ⟨Nat.zero_le _, Nat.zero_le _⟩ hl.1 (Nat.le_of_ble_eq_true rfl) dX11_readsPart_175 rfl (fun H locs hw => ?_)
        refine lv_goto (tgt := 197) hx hb dX11_readsPart_178 (by decide) ?_
        exact b197 _ _ _ v175.1 v175.2.1 v175.2.2 readMany hw (lv_sub hl [0] rfl) hf
  have b127 : ∀ (H : Heap) (locs : List Loc) (ls : Array Slot) (at_ : Int32) (isWell : Int32) (rd : (Nat → Int32)) (readMany : Int32) (x1 : Int32) (x2 : Int32) (t0 : Int32), xW g A s.heap (wM g h thrown ss states stateMany snapshot hasSnapshot text length at_ isWell rd readMany top bottom digit digitMany other otherMany column columnMany carryMany chainMost) H locs → lv_has ls 3 [(0, .ref (h 0)), (1, .int x1), (2, .int x2)] → f_X11_readsPart_b127 text length at_ isWell rd readMany x1 x2 t0 = some out → W p l e { frames := 4, cells := 0, slots := 0, locals := 88 } s m [.ref (h 0)].toArray below meth c H locs 0 0 ZZ (F0 m 127 ls [.int t0, .ref (h 0)]) := by
    intro H locs ls at_ isWell rd readMany x1 x2 t0 hw hl hf
    obtain ⟨hz, hf⟩ := nz hf
    refine xput (ws' := (wM g h thrown ss states stateMany snapshot hasSnapshot text length at_ t0 rd readMany top bottom digit digitMany other otherMany column columnMany carryMany chainMost)) E hw 0 rfl rfl 9 (by decide) inw11 tyX11_ok nmX11 qw1028 rfl rfl (xbool hz).1 (xbool hz).2 (Nat.le_of_ble_eq_true rfl) dX11_readsPart_127 rfl (fun H locs hw => ?_)
    refine lv_aload_n hx hb dX11_readsPart_130 rfl (lv_at hl 0 rfl) ?_
    refine lv_dup hx hb dX11_readsPart_131 rfl ?_
    refine xget (v := .int at_) E hw 0 rfl rfl 8 (by decide) inw11 qw1027 rfl rfl dX11_readsPart_132 ?_
    refine lv_aload_n hx hb dX11_readsPart_135 rfl (lv_at hl 0 rfl) ?_
    refine xget (v := .int t0) E hw 0 rfl rfl 9 (by decide) inw11 qw1028 rfl rfl dX11_readsPart_136 ?_
    refine lv_if_eq (tgt := 146) hx hb dX11_readsPart_139 (by decide) (fun c139 => ?_) (fun c139 => ?_)
    · replace hf := ip c139 hf
      refine lv_iconst (v := 0) hx hb dX11_readsPart_146 (by decide) ?_
      exact b147 _ _ _ at_ t0 rd readMany x1 x2 0 at_ hw (lv_sub hl [0, 1, 2] rfl) hf
    · replace hf := iq c139 hf
      refine lv_iconst (v := 1) hx hb dX11_readsPart_142 (by decide) ?_
      refine lv_goto (tgt := 147) hx hb dX11_readsPart_143 (by decide) ?_
      exact b147 _ _ _ at_ t0 rd readMany x1 x2 1 at_ hw (lv_sub hl [0, 1, 2] rfl) hf
  have b122 : ∀ (H : Heap) (locs : List Loc) (ls : Array Slot) (at_ : Int32) (isWell : Int32) (rd : (Nat → Int32)) (readMany : Int32) (x1 : Int32) (x2 : Int32), xW g A s.heap (wM g h thrown ss states stateMany snapshot hasSnapshot text length at_ isWell rd readMany top bottom digit digitMany other otherMany column columnMany carryMany chainMost) H locs → lv_has ls 3 [(0, .ref (h 0)), (1, .int x1), (2, .int x2)] → f_X11_readsPart_b122 text length at_ isWell rd readMany x1 x2 = some out → W p l e { frames := 4, cells := 0, slots := 0, locals := 88 } s m [.ref (h 0)].toArray below meth c H locs 0 0 ZZ (F0 m 122 ls [.ref (h 0)]) := by
    intro H locs ls at_ isWell rd readMany x1 x2 hw hl hf
    refine lv_iconst (v := 1) hx hb dX11_readsPart_122 (by decide) ?_
    refine lv_goto (tgt := 127) hx hb dX11_readsPart_123 (by decide) ?_
    exact b127 _ _ _ at_ isWell rd readMany x1 x2 1 hw (lv_sub hl [0, 1, 2] rfl) hf
  have b102 : ∀ (H : Heap) (locs : List Loc) (ls : Array Slot) (at_ : Int32) (isWell : Int32) (rd : (Nat → Int32)) (readMany : Int32) (x1 : Int32) (t0 : Int32), xW g A s.heap (wM g h thrown ss states stateMany snapshot hasSnapshot text length at_ isWell rd readMany top bottom digit digitMany other otherMany column columnMany carryMany chainMost) H locs → lv_has ls 3 [(0, .ref (h 0)), (1, .int x1)] → f_X11_readsPart_b102 text length at_ isWell rd readMany x1 t0 = some out → W p l e { frames := 4, cells := 0, slots := 0, locals := 88 } s m [.ref (h 0)].toArray below meth c H locs 0 0 ZZ (F0 m 102 ls [.int t0]) := by
    intro H locs ls at_ isWell rd readMany x1 t0 hw hl hf
    refine lv_istore_n (lv' := [(2, .int t0), (0, .ref (h 0)), (1, .int x1)]) hx hb dX11_readsPart_102 rfl hl (by decide) rfl (fun ls hl => ?_)
    refine lv_aload_n hx hb dX11_readsPart_103 rfl (lv_at hl 1 rfl) ?_
    refine lv_iload_n hx hb dX11_readsPart_104 rfl (lv_at hl 0 rfl) ?_
    refine lv_bipush (v := 61) hx hb dX11_readsPart_105 (by decide) ?_
    refine lv_icmp_eq (tgt := 122) hx hb dX11_readsPart_107 (by decide) (fun c107 => ?_) (fun c107 => ?_)
    · replace hf := ip c107 hf
      exact b122 _ _ _ at_ isWell rd readMany x1 t0 hw (lv_sub hl [1, 2, 0] rfl) hf
    · replace hf := iq c107 hf
      refine lv_iload_n hx hb dX11_readsPart_110 rfl (lv_at hl 0 rfl) ?_
      refine lv_bipush (v := 43) hx hb dX11_readsPart_111 (by decide) ?_
      refine lv_icmp_eq (tgt := 122) hx hb dX11_readsPart_113 (by decide) (fun c113 => ?_) (fun c113 => ?_)
      · replace hf := ip c113 hf
        exact b122 _ _ _ at_ isWell rd readMany x1 t0 hw (lv_sub hl [1, 2, 0] rfl) hf
      · replace hf := iq c113 hf
        refine lv_iload_n hx hb dX11_readsPart_116 rfl (lv_at hl 0 rfl) ?_
        refine lv_bipush (v := 45) hx hb dX11_readsPart_117 (by decide) ?_
        refine lv_icmp_ne (tgt := 126) hx hb dX11_readsPart_119 (by decide) (fun c119 => ?_) (fun c119 => ?_)
        · replace hf := iq c119 hf
          refine lv_iconst (v := 0) hx hb dX11_readsPart_126 (by decide) ?_
          exact b127 _ _ _ at_ isWell rd readMany x1 t0 0 hw (lv_sub hl [1, 2, 0] rfl) hf
        · replace hf := ip c119 hf
          exact b122 _ _ _ at_ isWell rd readMany x1 t0 hw (lv_sub hl [1, 2, 0] rfl) hf
  have b15 : ∀ n15 : Nat, ∀ (H : Heap) (locs : List Loc) (ls : Array Slot) (at_ : Int32) (isWell : Int32) (rd : (Nat → Int32)) (readMany : Int32) (x1 : Int32) (x2 : Int32), xW g A s.heap (wM g h thrown ss states stateMany snapshot hasSnapshot text length at_ isWell rd readMany top bottom digit digitMany other otherMany column columnMany carryMany chainMost) H locs → lv_has ls 3 [(0, .ref (h 0)), (1, .int x1), (2, .int x2)] → f_X11_readsPart_b15 n15 text length at_ isWell rd readMany x1 x2 = some out → W p l e { frames := 4, cells := 0, slots := 0, locals := 88 } s m [.ref (h 0)].toArray below meth c H locs 0 0 ZZ (F0 m 15 ls []) := by
    intro n15
    induction n15 with
    | zero =>
      intro H locs ls at_ isWell rd readMany x1 x2 hw hl hf
      exact nn hf
    | succ n15 ih15 =>
      intro H locs ls at_ isWell rd readMany x1 x2 hw hl hf
      refine lv_iload_n hx hb dX11_readsPart_15 rfl (lv_at hl 2 rfl) ?_
      refine lv_bipush (v := 24) hx hb dX11_readsPart_16 (by decide) ?_
      refine lv_icmp_ge (tgt := 36) hx hb dX11_readsPart_18 (by decide) (fun c18 => ?_) (fun c18 => ?_)
      · replace hf := ip c18 hf
        refine lv_aload_n hx hb dX11_readsPart_36 rfl (lv_at hl 0 rfl) ?_
        obtain ⟨v37, hv37, hf⟩ := ob_e hf
        refine xcallV (ws' := (wM g h thrown ss states stateMany snapshot hasSnapshot text length at_ isWell rd readMany top bottom digit digitMany other otherMany column columnMany carryMany chainMost)) (st1 := [.int v37]) (n := 9) E hw [] [0, 1, 2, 3, 4, 5, 6, 7, 8] (met_X11_signAt l g h thrown ss states stateMany snapshot hasSnapshot text length at_ isWell rd readMany top bottom digit digitMany other otherMany column columnMany carryMany chainMost v37 hv37) rfl (by decide) rfl rfl [9, 10, 11, 12, 13, 14, 15, 16, 17] rfl (by decide +kernel) rfl rfl rfl rfl qw1197 k_X11_signAt ⟨rfl, rfl, Nat.le_of_ble_eq_true rfl, Nat.le_of_ble_eq_true rfl⟩ ⟨Nat.zero_le _, Nat.zero_le _⟩ hl.1 (Nat.le_of_ble_eq_true rfl) dX11_readsPart_37 rfl (fun H locs hw => ?_)
        refine lv_bipush (v := 98) hx hb dX11_readsPart_40 (by decide) ?_
        refine lv_icmp_ne (tgt := 73) hx hb dX11_readsPart_42 (by decide) (fun c42 => ?_) (fun c42 => ?_)
        · replace hf := iq c42 hf
          refine lv_aload_n hx hb dX11_readsPart_73 rfl (lv_at hl 0 rfl) ?_
          refine xget (v := .ref (h 5)) E hw 0 rfl rfl 10 (by decide) inw11 qw1029 rfl rfl dX11_readsPart_74 ?_
          refine lv_iload_n hx hb dX11_readsPart_77 rfl (lv_at hl 1 rfl) ?_
          refine lv_aload_n hx hb dX11_readsPart_78 rfl (lv_at hl 0 rfl) ?_
          refine lv_bipush (v := 48) hx hb dX11_readsPart_79 (by decide) ?_
          refine lv_bipush (v := 53) hx hb dX11_readsPart_81 (by decide) ?_
          obtain ⟨v83, hv83, hf⟩ := ob_e hf
          refine xcallV (ws' := (wM g h thrown ss states stateMany snapshot hasSnapshot text length v83.2.1 v83.2.2 rd readMany top bottom digit digitMany other otherMany column columnMany carryMany chainMost)) (st1 := [.int v83.1, .int x1, .ref (h 5)]) (n := 9) E hw [.int 48, .int 53] [0, 1, 2, 3, 4, 5, 6, 7, 8] (met_X11_takes l g h thrown ss states stateMany snapshot hasSnapshot text length at_ isWell rd readMany top bottom digit digitMany other otherMany column columnMany carryMany chainMost 48 53 v83 hv83) rfl (by decide) rfl rfl [9, 10, 11, 12, 13, 14, 15, 16, 17] rfl (by decide +kernel) rfl rfl rfl rfl qw1205 k_X11_takes ⟨rfl, rfl, Nat.le_of_ble_eq_true rfl, Nat.le_of_ble_eq_true rfl⟩ ⟨Nat.zero_le _, Nat.zero_le _⟩ hl.1 (Nat.le_of_ble_eq_true rfl) dX11_readsPart_83 rfl (fun H locs hw => ?_)
          obtain ⟨hz, hf⟩ := nz hf
          refine xiast (ws' := (wM g h thrown ss states stateMany snapshot hasSnapshot text length v83.2.1 v83.2.2 (upd rd x1.toNatClampNeg v83.1) readMany top bottom digit digitMany other otherMany column columnMany carryMany chainMost)) E hw 5 rfl hz dX11_readsPart_86 rfl (fun H locs hw => ?_)
          refine lv_aload_n hx hb dX11_readsPart_87 rfl (lv_at hl 0 rfl) ?_
          refine xget (v := .int v83.2.2) E hw 0 rfl rfl 9 (by decide) inw11 qw1028 rfl rfl dX11_readsPart_88 ?_
          refine lv_if_eq (tgt := 101) hx hb dX11_readsPart_91 (by decide) (fun c91 => ?_) (fun c91 => ?_)
          · replace hf := ip c91 hf
            refine lv_iconst (v := 0) hx hb dX11_readsPart_101 (by decide) ?_
            exact b102 _ _ _ v83.2.1 v83.2.2 (upd rd x1.toNatClampNeg v83.1) readMany x1 0 hw (lv_sub hl [0, 1] rfl) hf
          · replace hf := iq c91 hf
            refine lv_aload_n hx hb dX11_readsPart_94 rfl (lv_at hl 0 rfl) ?_
            obtain ⟨v95, hv95, hf⟩ := ob_e hf
            refine xcallV (ws' := (wM g h thrown ss states stateMany snapshot hasSnapshot text length v83.2.1 v83.2.2 (upd rd x1.toNatClampNeg v83.1) readMany top bottom digit digitMany other otherMany column columnMany carryMany chainMost)) (st1 := [.int v95]) (n := 9) E hw [] [0, 1, 2, 3, 4, 5, 6, 7, 8] (met_X11_signAt l g h thrown ss states stateMany snapshot hasSnapshot text length v83.2.1 v83.2.2 (upd rd x1.toNatClampNeg v83.1) readMany top bottom digit digitMany other otherMany column columnMany carryMany chainMost v95 hv95) rfl (by decide) rfl rfl [9, 10, 11, 12, 13, 14, 15, 16, 17] rfl (by decide +kernel) rfl rfl rfl rfl qw1197 k_X11_signAt ⟨rfl, rfl, Nat.le_of_ble_eq_true rfl, Nat.le_of_ble_eq_true rfl⟩ ⟨Nat.zero_le _, Nat.zero_le _⟩ hl.1 (Nat.le_of_ble_eq_true rfl) dX11_readsPart_95 rfl (fun H locs hw => ?_)
            refine lv_goto (tgt := 102) hx hb dX11_readsPart_98 (by decide) ?_
            exact b102 _ _ _ v83.2.1 v83.2.2 (upd rd x1.toNatClampNeg v83.1) readMany x1 v95 hw (lv_sub hl [0, 1] rfl) hf
        · replace hf := ip c42 hf
          refine lv_aload_n hx hb dX11_readsPart_45 rfl (lv_at hl 0 rfl) ?_
          refine lv_dup hx hb dX11_readsPart_46 rfl ?_
          refine xget (v := .int at_) E hw 0 rfl rfl 8 (by decide) inw11 qw1027 rfl rfl dX11_readsPart_47 ?_
          refine lv_iconst (v := 1) hx hb dX11_readsPart_50 (by decide) ?_
          refine lv_iadd hx hb dX11_readsPart_51 ?_
          refine xput (ws' := (wM g h thrown ss states stateMany snapshot hasSnapshot text length (at_ + 1) isWell rd readMany top bottom digit digitMany other otherMany column columnMany carryMany chainMost)) E hw 0 rfl rfl 8 (by decide) inw11 tyX11_ok nmX11 qw1027 rfl rfl rfl rfl (Nat.le_of_ble_eq_true rfl) dX11_readsPart_52 rfl (fun H locs hw => ?_)
          refine lv_aload_n hx hb dX11_readsPart_55 rfl (lv_at hl 0 rfl) ?_
          refine xget (v := .ref (h 5)) E hw 0 rfl rfl 10 (by decide) inw11 qw1029 rfl rfl dX11_readsPart_56 ?_
          refine lv_iload_n hx hb dX11_readsPart_59 rfl (lv_at hl 1 rfl) ?_
          refine lv_iconst (v := 1) hx hb dX11_readsPart_60 (by decide) ?_
          refine lv_iadd hx hb dX11_readsPart_61 ?_
          refine lv_bipush (v := 98) hx hb dX11_readsPart_62 (by decide) ?_
          obtain ⟨hz, hf⟩ := nz hf
          refine xiast (ws' := (wM g h thrown ss states stateMany snapshot hasSnapshot text length (at_ + 1) isWell (upd rd (x1 + 1).toNatClampNeg 98) readMany top bottom digit digitMany other otherMany column columnMany carryMany chainMost)) E hw 5 rfl hz dX11_readsPart_64 rfl (fun H locs hw => ?_)
          refine lv_aload_n hx hb dX11_readsPart_65 rfl (lv_at hl 0 rfl) ?_
          refine lv_iload_n hx hb dX11_readsPart_66 rfl (lv_at hl 1 rfl) ?_
          obtain ⟨v67, hv67, hf⟩ := ob_e hf
          refine xcallV (ws' := (wM g h thrown ss states stateMany snapshot hasSnapshot text length v67.1 v67.2.1 v67.2.2 readMany top bottom digit digitMany other otherMany column columnMany carryMany chainMost)) (st1 := []) (n := 9) E hw [.int x1] [0, 1, 2, 3, 4, 5, 6, 7, 8] (met_X11_readsBase l g h thrown ss states stateMany snapshot hasSnapshot text length (at_ + 1) isWell (upd rd (x1 + 1).toNatClampNeg 98) readMany top bottom digit digitMany other otherMany column columnMany carryMany chainMost x1 v67 hv67) rfl (by decide) rfl rfl [9, 10, 11, 12, 13, 14, 15, 16, 17] rfl (by decide +kernel) rfl rfl rfl rfl qw1201 k_X11_readsBase ⟨rfl, rfl, Nat.le_of_ble_eq_true rfl, Nat.le_of_ble_eq_true rfl⟩ ⟨Nat.zero_le _, Nat.zero_le _⟩ hl.1 (Nat.le_of_ble_eq_true rfl) dX11_readsPart_67 rfl (fun H locs hw => ?_)
          refine lv_goto (tgt := 197) hx hb dX11_readsPart_70 (by decide) ?_
          exact b197 _ _ _ v67.1 v67.2.1 v67.2.2 readMany hw (lv_sub hl [0] rfl) hf
      · replace hf := iq c18 hf
        refine lv_aload_n hx hb dX11_readsPart_21 rfl (lv_at hl 0 rfl) ?_
        refine xget (v := .ref (h 5)) E hw 0 rfl rfl 10 (by decide) inw11 qw1029 rfl rfl dX11_readsPart_22 ?_
        refine lv_iload_n hx hb dX11_readsPart_25 rfl (lv_at hl 1 rfl) ?_
        refine lv_iload_n hx hb dX11_readsPart_26 rfl (lv_at hl 2 rfl) ?_
        refine lv_iadd hx hb dX11_readsPart_27 ?_
        refine lv_iconst (v := 0) hx hb dX11_readsPart_28 (by decide) ?_
        obtain ⟨hz, hf⟩ := nz hf
        refine xiast (ws' := (wM g h thrown ss states stateMany snapshot hasSnapshot text length at_ isWell (upd rd (x1 + x2).toNatClampNeg 0) readMany top bottom digit digitMany other otherMany column columnMany carryMany chainMost)) E hw 5 rfl hz dX11_readsPart_29 rfl (fun H locs hw => ?_)
        refine lv_iinc (v := x2 + 1) (lv' := [(2, .int (x2 + 1)), (0, .ref (h 0)), (1, .int x1)]) hx hb dX11_readsPart_30 hl (k := 2) rfl rfl (by decide) rfl (fun ls hl => ?_)
        refine lv_goto (tgt := 15) hx hb dX11_readsPart_33 (by decide) ?_
        exact ih15 _ _ _ at_ isWell (upd rd (x1 + x2).toNatClampNeg 0) readMany x1 (x2 + 1) hw (lv_sub hl [1, 2, 0] rfl) hf
  refine lv_bipush (v := 24) hx hb dX11_readsPart_0 (by decide) ?_
  refine lv_aload_n hx hb dX11_readsPart_2 rfl (lv_at hl 0 rfl) ?_
  refine xget (v := .int readMany) E hw 0 rfl rfl 11 (by decide) inw11 qw1030 rfl rfl dX11_readsPart_3 ?_
  refine lv_imul hx hb dX11_readsPart_6 ?_
  refine lv_istore_n (lv' := [(1, .int (24 * readMany)), (0, .ref (h 0))]) hx hb dX11_readsPart_7 rfl hl (by decide) rfl (fun ls hl => ?_)
  refine lv_aload_n hx hb dX11_readsPart_8 rfl (lv_at hl 1 rfl) ?_
  refine lv_iconst (v := 1) hx hb dX11_readsPart_9 (by decide) ?_
  refine xput (ws' := (wM g h thrown ss states stateMany snapshot hasSnapshot text length at_ 1 rd readMany top bottom digit digitMany other otherMany column columnMany carryMany chainMost)) E hw 0 rfl rfl 9 (by decide) inw11 tyX11_ok nmX11 qw1028 rfl rfl (by decide) (by decide) (Nat.le_of_ble_eq_true rfl) dX11_readsPart_10 rfl (fun H locs hw => ?_)
  refine lv_iconst (v := 0) hx hb dX11_readsPart_13 (by decide) ?_
  refine lv_istore_n (lv' := [(2, .int 0), (1, .int (24 * readMany)), (0, .ref (h 0))]) hx hb dX11_readsPart_14 rfl hl (by decide) rfl (fun ls hl => ?_)
  exact b15 xfuel _ _ _ at_ 1 rd readMany (24 * readMany) 0 hw (lv_sub hl [2, 1, 0] rfl) hf
theorem k_X11_readsEntries : xKV yX11_readsEntries cX11_readsEntries 1 (some .boolean) 0 := ⟨qw1191, qw33, qw74, qw1192, by decide +kernel, by decide +kernel, by decide +kernel⟩
set_option maxHeartbeats 4000000 in
set_option maxRecDepth 100000 in
theorem met_X11_readsEntries (l : Launch) (g : xG) (h : Nat → Nat) (thrown : Int32) (ss : (Nat → Int32)) (states : (Nat → Int32)) (stateMany : Int32) (snapshot : (Nat → Int32)) (hasSnapshot : Int32) (text : (Nat → Int32)) (length : Int32) (at_ : Int32) (isWell : Int32) (rd : (Nat → Int32)) (readMany : Int32) (top : Int64) (bottom : Int64) (digit : (Nat → Int32)) (digitMany : Int32) (other : (Nat → Int32)) (otherMany : Int32) (column : (Nat → Int32)) (columnMany : Int32) (carryMany : Int32) (chainMost : Int32) (out : Int32 × Int32 × Int32 × (Nat → Int32) × Int32) (hf : f_X11_readsEntries text length at_ isWell rd readMany = some out) : xM l yX11_readsEntries (xC yX11_readsEntries cX11_readsEntries 1 (some .boolean)) { frames := 5, cells := 0, slots := 0, locals := 110 } g (wM g h thrown ss states stateMany snapshot hasSnapshot text length at_ isWell rd readMany top bottom digit digitMany other otherMany column columnMany carryMany chainMost) [.ref (h 0)] (some (.int out.1)) (wM g h thrown ss states stateMany snapshot hasSnapshot text length out.2.1 out.2.2.1 out.2.2.2.1 out.2.2.2.2 top bottom digit digitMany other otherMany column columnMany carryMany chainMost) := by
  refine xof (by decide) (Nat.le_of_ble_eq_true rfl) ⟨rfl, rfl⟩ ?_
  intro p e s m below meth c A ls E hr hlocks hw hl hpost hAe
  have hx := E.1.1
  have hb := E.1.2.1
  have hown := E.1.2.2.2.1
  have hts := E.1.2.2.2.2
  generalize hZ : (MQ below (xPost g (wM g h thrown ss states stateMany snapshot hasSnapshot text length at_ isWell rd readMany top bottom digit digitMany other otherMany column columnMany carryMany chainMost) (wM g h thrown ss states stateMany snapshot hasSnapshot text length out.2.1 out.2.2.1 out.2.2.2.1 out.2.2.2.2 top bottom digit digitMany other otherMany column columnMany carryMany chainMost) s.heap.size (some (.int out.1))) [.ref (h 0)].toArray s 0 0 A) = ZZ
  have hret : ∀ (pc : Nat) (H : Heap) (locs : List Loc) (ls : Array Slot) (v : Int32) (cat_ : Int32) (cisWell : Int32) (crd : (Nat → Int32)) (creadMany : Int32), narrow .boolean (.int v) = .int v → (v, cat_, cisWell, crd, creadMany) = out → decode cX11_readsEntries pc = .ok (.ireturn, 1) → xW g A s.heap (wM g h thrown ss states stateMany snapshot hasSnapshot text length cat_ cisWell crd creadMany top bottom digit digitMany other otherMany column columnMany carryMany chainMost) H locs → W p l e { frames := 5, cells := 0, slots := 0, locals := 110 } s m [.ref (h 0)].toArray below meth c H locs 0 0 ZZ (F0 m pc ls [.int v]) := by
    intro pc H locs ls v cat_ cisWell crd creadMany hn he hd hw
    subst he
    rw [← hZ]
    exact W.zret hx hb hr hn (hpost H locs hw).1 (hpost H locs hw).2 hd hlocks
  clear hpost
  have b14 : ∀ n14 : Nat, ∀ (H : Heap) (locs : List Loc) (ls : Array Slot) (at_ : Int32) (isWell : Int32) (rd : (Nat → Int32)) (readMany : Int32), xW g A s.heap (wM g h thrown ss states stateMany snapshot hasSnapshot text length at_ isWell rd readMany top bottom digit digitMany other otherMany column columnMany carryMany chainMost) H locs → lv_has ls 1 [(0, .ref (h 0))] → f_X11_readsEntries_b14 n14 text length at_ isWell rd readMany = some out → W p l e { frames := 5, cells := 0, slots := 0, locals := 110 } s m [.ref (h 0)].toArray below meth c H locs 0 0 ZZ (F0 m 14 ls []) := by
    intro n14
    induction n14 with
    | zero =>
      intro H locs ls at_ isWell rd readMany hw hl hf
      exact nn hf
    | succ n14 ih14 =>
      intro H locs ls at_ isWell rd readMany hw hl hf
      refine lv_aload_n hx hb dX11_readsEntries_14 rfl (lv_at hl 0 rfl) ?_
      refine xget (v := .int isWell) E hw 0 rfl rfl 9 (by decide) inw11 qw1028 rfl rfl dX11_readsEntries_15 ?_
      refine lv_if_eq (tgt := 55) hx hb dX11_readsEntries_18 (by decide) (fun c18 => ?_) (fun c18 => ?_)
      · replace hf := ip c18 hf
        refine lv_aload_n hx hb dX11_readsEntries_55 rfl (lv_at hl 0 rfl) ?_
        refine xget (v := .int isWell) E hw 0 rfl rfl 9 (by decide) inw11 qw1028 rfl rfl dX11_readsEntries_56 ?_
        obtain ⟨hz, hf⟩ := nz hf
        exact hret _ _ _ _ _ _ _ _ _ (xbool hz).1 (Option.some.inj hf) dX11_readsEntries_59 hw
      · replace hf := iq c18 hf
        refine lv_aload_n hx hb dX11_readsEntries_21 rfl (lv_at hl 0 rfl) ?_
        refine xget (v := .int at_) E hw 0 rfl rfl 8 (by decide) inw11 qw1027 rfl rfl dX11_readsEntries_22 ?_
        refine lv_aload_n hx hb dX11_readsEntries_25 rfl (lv_at hl 0 rfl) ?_
        refine xget (v := .int length) E hw 0 rfl rfl 7 (by decide) inw11 qw1026 rfl rfl dX11_readsEntries_26 ?_
        refine lv_icmp_ge (tgt := 55) hx hb dX11_readsEntries_29 (by decide) (fun c29 => ?_) (fun c29 => ?_)
        · replace hf := ip c29 hf
          refine lv_aload_n hx hb dX11_readsEntries_55 rfl (lv_at hl 0 rfl) ?_
          refine xget (v := .int isWell) E hw 0 rfl rfl 9 (by decide) inw11 qw1028 rfl rfl dX11_readsEntries_56 ?_
          obtain ⟨hz, hf⟩ := nz hf
          exact hret _ _ _ _ _ _ _ _ _ (xbool hz).1 (Option.some.inj hf) dX11_readsEntries_59 hw
        · replace hf := iq c29 hf
          refine lv_aload_n hx hb dX11_readsEntries_32 rfl (lv_at hl 0 rfl) ?_
          refine lv_bipush (v := 59) hx hb dX11_readsEntries_33 (by decide) ?_
          refine lv_bipush (v := 59) hx hb dX11_readsEntries_35 (by decide) ?_
          obtain ⟨v37, hv37, hf⟩ := ob_e hf
          refine xcallV (ws' := (wM g h thrown ss states stateMany snapshot hasSnapshot text length v37.2.1 v37.2.2 rd readMany top bottom digit digitMany other otherMany column columnMany carryMany chainMost)) (st1 := [.int v37.1]) (n := 9) E hw [.int 59, .int 59] [0, 1, 2, 3, 4, 5, 6, 7, 8] (met_X11_takes l g h thrown ss states stateMany snapshot hasSnapshot text length at_ isWell rd readMany top bottom digit digitMany other otherMany column columnMany carryMany chainMost 59 59 v37 hv37) rfl (by decide) rfl rfl [9, 10, 11, 12, 13, 14, 15, 16, 17] rfl (by decide +kernel) rfl rfl rfl rfl qw1205 k_X11_takes ⟨rfl, rfl, Nat.le_of_ble_eq_true rfl, Nat.le_of_ble_eq_true rfl⟩ ⟨Nat.zero_le _, Nat.zero_le _⟩ hl.1 (Nat.le_of_ble_eq_true rfl) dX11_readsEntries_37 rfl (fun H locs hw => ?_)
          refine lv_pop hx hb dX11_readsEntries_40 rfl ?_
          refine lv_aload_n hx hb dX11_readsEntries_41 rfl (lv_at hl 0 rfl) ?_
          refine xget (v := .int v37.2.2) E hw 0 rfl rfl 9 (by decide) inw11 qw1028 rfl rfl dX11_readsEntries_42 ?_
          refine lv_if_eq (tgt := 14) hx hb dX11_readsEntries_45 (by decide) (fun c45 => ?_) (fun c45 => ?_)
          · replace hf := ip c45 hf
            exact ih14 _ _ _ v37.2.1 v37.2.2 rd readMany hw (lv_sub hl [0] rfl) hf
          · replace hf := iq c45 hf
            refine lv_aload_n hx hb dX11_readsEntries_48 rfl (lv_at hl 0 rfl) ?_
            obtain ⟨v49, hv49, hf⟩ := ob_e hf
            refine xcallV (ws' := (wM g h thrown ss states stateMany snapshot hasSnapshot text length v49.1 v49.2.1 v49.2.2.1 v49.2.2.2 top bottom digit digitMany other otherMany column columnMany carryMany chainMost)) (st1 := []) (n := 9) E hw [] [0, 1, 2, 3, 4, 5, 6, 7, 8] (met_X11_readsPart l g h thrown ss states stateMany snapshot hasSnapshot text length v37.2.1 v37.2.2 rd readMany top bottom digit digitMany other otherMany column columnMany carryMany chainMost v49 hv49) rfl (by decide) rfl rfl [9, 10, 11, 12, 13, 14, 15, 16, 17] rfl (by decide +kernel) rfl rfl rfl rfl qw1193 k_X11_readsPart ⟨rfl, rfl, Nat.le_of_ble_eq_true rfl, Nat.le_of_ble_eq_true rfl⟩ ⟨Nat.zero_le _, Nat.zero_le _⟩ hl.1 (Nat.le_of_ble_eq_true rfl) dX11_readsEntries_49 rfl (fun H locs hw => ?_)
            refine lv_goto (tgt := 14) hx hb dX11_readsEntries_52 (by decide) ?_
            exact ih14 _ _ _ v49.1 v49.2.1 v49.2.2.1 v49.2.2.2 hw (lv_sub hl [0] rfl) hf
  refine lv_aload_n hx hb dX11_readsEntries_0 rfl (lv_at hl 0 rfl) ?_
  refine lv_iconst (v := 0) hx hb dX11_readsEntries_1 (by decide) ?_
  refine xput (ws' := (wM g h thrown ss states stateMany snapshot hasSnapshot text length 0 isWell rd readMany top bottom digit digitMany other otherMany column columnMany carryMany chainMost)) E hw 0 rfl rfl 8 (by decide) inw11 tyX11_ok nmX11 qw1027 rfl rfl rfl rfl (Nat.le_of_ble_eq_true rfl) dX11_readsEntries_2 rfl (fun H locs hw => ?_)
  refine lv_aload_n hx hb dX11_readsEntries_5 rfl (lv_at hl 0 rfl) ?_
  refine lv_iconst (v := 0) hx hb dX11_readsEntries_6 (by decide) ?_
  refine xput (ws' := (wM g h thrown ss states stateMany snapshot hasSnapshot text length 0 isWell rd 0 top bottom digit digitMany other otherMany column columnMany carryMany chainMost)) E hw 0 rfl rfl 11 (by decide) inw11 tyX11_ok nmX11 qw1030 rfl rfl rfl rfl (Nat.le_of_ble_eq_true rfl) dX11_readsEntries_7 rfl (fun H locs hw => ?_)
  refine lv_aload_n hx hb dX11_readsEntries_10 rfl (lv_at hl 0 rfl) ?_
  obtain ⟨v11, hv11, hf⟩ := ob_e hf
  refine xcallV (ws' := (wM g h thrown ss states stateMany snapshot hasSnapshot text length v11.1 v11.2.1 v11.2.2.1 v11.2.2.2 top bottom digit digitMany other otherMany column columnMany carryMany chainMost)) (st1 := []) (n := 9) E hw [] [0, 1, 2, 3, 4, 5, 6, 7, 8] (met_X11_readsPart l g h thrown ss states stateMany snapshot hasSnapshot text length 0 isWell rd 0 top bottom digit digitMany other otherMany column columnMany carryMany chainMost v11 hv11) rfl (by decide) rfl rfl [9, 10, 11, 12, 13, 14, 15, 16, 17] rfl (by decide +kernel) rfl rfl rfl rfl qw1193 k_X11_readsPart ⟨rfl, rfl, Nat.le_of_ble_eq_true rfl, Nat.le_of_ble_eq_true rfl⟩ ⟨Nat.zero_le _, Nat.zero_le _⟩ hl.1 (Nat.le_of_ble_eq_true rfl) dX11_readsEntries_11 rfl (fun H locs hw => ?_)
  exact b14 xfuel _ _ _ v11.1 v11.2.1 v11.2.2.1 v11.2.2.2 hw (lv_sub hl [0] rfl) hf
theorem k_X11_firstError : xKV yX11_firstError cX11_firstError 1 (some .int) 0 := ⟨qw1186, qw1187, qw74, qw1188, by decide +kernel, by decide +kernel, by decide +kernel⟩
set_option maxHeartbeats 4000000 in
set_option maxRecDepth 100000 in
theorem met_X11_firstError (l : Launch) (g : xG) (h : Nat → Nat) (thrown : Int32) (ss : (Nat → Int32)) (states : (Nat → Int32)) (stateMany : Int32) (snapshot : (Nat → Int32)) (hasSnapshot : Int32) (text : (Nat → Int32)) (length : Int32) (at_ : Int32) (isWell : Int32) (rd : (Nat → Int32)) (readMany : Int32) (top : Int64) (bottom : Int64) (digit : (Nat → Int32)) (digitMany : Int32) (other : (Nat → Int32)) (otherMany : Int32) (column : (Nat → Int32)) (columnMany : Int32) (carryMany : Int32) (chainMost : Int32) (out : Int32 × Int32 × Int32 × Int32 × (Nat → Int32) × Int32) (hf : f_X11_firstError thrown text length at_ isWell rd readMany = some out) : xM l yX11_firstError (xC yX11_firstError cX11_firstError 1 (some .int)) { frames := 6, cells := 0, slots := 0, locals := 130 } g (wM g h thrown ss states stateMany snapshot hasSnapshot text length at_ isWell rd readMany top bottom digit digitMany other otherMany column columnMany carryMany chainMost) [.ref (h 0)] (some (.int out.1)) (wM g h out.2.1 ss states stateMany snapshot hasSnapshot text length out.2.2.1 out.2.2.2.1 out.2.2.2.2.1 out.2.2.2.2.2 top bottom digit digitMany other otherMany column columnMany carryMany chainMost) := by
  refine xof (by decide) (Nat.le_of_ble_eq_true rfl) ⟨rfl, rfl⟩ ?_
  intro p e s m below meth c A ls E hr hlocks hw hl hpost hAe
  have hx := E.1.1
  have hb := E.1.2.1
  have hown := E.1.2.2.2.1
  have hts := E.1.2.2.2.2
  generalize hZ : (MQ below (xPost g (wM g h thrown ss states stateMany snapshot hasSnapshot text length at_ isWell rd readMany top bottom digit digitMany other otherMany column columnMany carryMany chainMost) (wM g h out.2.1 ss states stateMany snapshot hasSnapshot text length out.2.2.1 out.2.2.2.1 out.2.2.2.2.1 out.2.2.2.2.2 top bottom digit digitMany other otherMany column columnMany carryMany chainMost) s.heap.size (some (.int out.1))) [.ref (h 0)].toArray s 0 0 A) = ZZ
  have hret : ∀ (pc : Nat) (H : Heap) (locs : List Loc) (ls : Array Slot) (v : Int32) (cthrown : Int32) (cat_ : Int32) (cisWell : Int32) (crd : (Nat → Int32)) (creadMany : Int32), (v, cthrown, cat_, cisWell, crd, creadMany) = out → decode cX11_firstError pc = .ok (.ireturn, 1) → xW g A s.heap (wM g h cthrown ss states stateMany snapshot hasSnapshot text length cat_ cisWell crd creadMany top bottom digit digitMany other otherMany column columnMany carryMany chainMost) H locs → W p l e { frames := 6, cells := 0, slots := 0, locals := 130 } s m [.ref (h 0)].toArray below meth c H locs 0 0 ZZ (F0 m pc ls [.int v]) := by
    intro pc H locs ls v cthrown cat_ cisWell crd creadMany he hd hw
    subst he
    rw [← hZ]
    exact W.iret hx hb hr (hpost H locs hw).1 (hpost H locs hw).2 hd hlocks
  clear hpost
  refine lv_aload_n hx hb dX11_firstError_0 rfl (lv_at hl 0 rfl) ?_
  refine lv_iconst (v := 0) hx hb dX11_firstError_1 (by decide) ?_
  refine xput (ws' := (wM g h 0 ss states stateMany snapshot hasSnapshot text length at_ isWell rd readMany top bottom digit digitMany other otherMany column columnMany carryMany chainMost)) E hw 0 rfl rfl 0 (by decide) inw11 tyX11_ok nmX11 qw1019 rfl rfl rfl rfl (Nat.le_of_ble_eq_true rfl) dX11_firstError_2 rfl (fun H locs hw => ?_)
  refine lv_aload_n hx hb dX11_firstError_5 rfl (lv_at hl 0 rfl) ?_
  obtain ⟨v6, hv6, hf⟩ := ob_e hf
  refine xcallV (ws' := (wM g h 0 ss states stateMany snapshot hasSnapshot text length v6.2.1 v6.2.2.1 v6.2.2.2.1 v6.2.2.2.2 top bottom digit digitMany other otherMany column columnMany carryMany chainMost)) (st1 := [.int v6.1]) (n := 9) E hw [] [0, 1, 2, 3, 4, 5, 6, 7, 8] (met_X11_readsEntries l g h 0 ss states stateMany snapshot hasSnapshot text length at_ isWell rd readMany top bottom digit digitMany other otherMany column columnMany carryMany chainMost v6 hv6) rfl (by decide) rfl rfl [9, 10, 11, 12, 13, 14, 15, 16, 17] rfl (by decide +kernel) rfl rfl rfl rfl qw1189 k_X11_readsEntries ⟨rfl, rfl, Nat.le_of_ble_eq_true rfl, Nat.le_of_ble_eq_true rfl⟩ ⟨Nat.zero_le _, Nat.zero_le _⟩ hl.1 (Nat.le_of_ble_eq_true rfl) dX11_firstError_6 rfl (fun H locs hw => ?_)
  refine lv_if_eq (tgt := 19) hx hb dX11_firstError_9 (by decide) (fun c9 => ?_) (fun c9 => ?_)
  · replace hf := ip c9 hf
    refine lv_aload_n hx hb dX11_firstError_19 rfl (lv_at hl 0 rfl) ?_
    refine xget (v := .int v6.2.1) E hw 0 rfl rfl 8 (by decide) inw11 qw1027 rfl rfl dX11_firstError_20 ?_
    exact hret _ _ _ _ _ _ _ _ _ _ (Option.some.inj hf) dX11_firstError_23 hw
  · replace hf := iq c9 hf
    refine lv_aload_n hx hb dX11_firstError_12 rfl (lv_at hl 0 rfl) ?_
    refine xget (v := .int length) E hw 0 rfl rfl 7 (by decide) inw11 qw1026 rfl rfl dX11_firstError_13 ?_
    refine lv_goto (tgt := 23) hx hb dX11_firstError_16 (by decide) ?_
    exact hret _ _ _ _ _ _ _ _ _ _ (Option.some.inj hf) dX11_firstError_23 hw
theorem k_X11_digitsOf : xKV yX11_digitsOf cX11_digitsOf 6 (some .long) 2 := ⟨qw1239, qw44, qw74, qw1240, by decide +kernel, by decide +kernel, by decide +kernel⟩
set_option maxHeartbeats 4000000 in
set_option maxRecDepth 100000 in
theorem met_X11_digitsOf (l : Launch) (g : xG) (h : Nat → Nat) (thrown : Int32) (ss : (Nat → Int32)) (states : (Nat → Int32)) (stateMany : Int32) (snapshot : (Nat → Int32)) (hasSnapshot : Int32) (text : (Nat → Int32)) (length : Int32) (at_ : Int32) (isWell : Int32) (rd : (Nat → Int32)) (readMany : Int32) (top : Int64) (bottom : Int64) (digit : (Nat → Int32)) (digitMany : Int32) (other : (Nat → Int32)) (otherMany : Int32) (column : (Nat → Int32)) (columnMany : Int32) (carryMany : Int32) (chainMost : Int32) (a1 : Int32) (a2 : Int32) (out : Int64) (hf : f_X11_digitsOf ss rd a1 a2 = some out) : xM l yX11_digitsOf (xC yX11_digitsOf cX11_digitsOf 6 (some .long)) { frames := 0, cells := 0, slots := 0, locals := 0 } g (wM g h thrown ss states stateMany snapshot hasSnapshot text length at_ isWell rd readMany top bottom digit digitMany other otherMany column columnMany carryMany chainMost) [.ref (h 0), .int a1, .int a2] (some (.long out)) (wM g h thrown ss states stateMany snapshot hasSnapshot text length at_ isWell rd readMany top bottom digit digitMany other otherMany column columnMany carryMany chainMost) := by
  refine xof (by decide) (Nat.le_of_ble_eq_true rfl) ⟨rfl, rfl⟩ ?_
  intro p e s m below meth c A ls E hr hlocks hw hl hpost hAe
  have hx := E.1.1
  have hb := E.1.2.1
  have hown := E.1.2.2.2.1
  have hts := E.1.2.2.2.2
  generalize hZ : (MQ below (xPost g (wM g h thrown ss states stateMany snapshot hasSnapshot text length at_ isWell rd readMany top bottom digit digitMany other otherMany column columnMany carryMany chainMost) (wM g h thrown ss states stateMany snapshot hasSnapshot text length at_ isWell rd readMany top bottom digit digitMany other otherMany column columnMany carryMany chainMost) s.heap.size (some (.long out))) [.ref (h 0), .int a1, .int a2].toArray s 0 0 A) = ZZ
  have hret : ∀ (pc : Nat) (H : Heap) (locs : List Loc) (ls : Array Slot) (v : Int64), v = out → decode cX11_digitsOf pc = .ok (.lreturn, 1) → xW g A s.heap (wM g h thrown ss states stateMany snapshot hasSnapshot text length at_ isWell rd readMany top bottom digit digitMany other otherMany column columnMany carryMany chainMost) H locs → W p l e { frames := 0, cells := 0, slots := 0, locals := 0 } s m [.ref (h 0), .int a1, .int a2].toArray below meth c H locs 0 0 ZZ (F0 m pc ls [.long v]) := by
    intro pc H locs ls v he hd hw
    subst he
    rw [← hZ]
    exact W.lret hx hb hr (hpost H locs hw).1 (hpost H locs hw).2 hd hlocks
  clear hpost
  have b5 : ∀ n5 : Nat, ∀ (H : Heap) (locs : List Loc) (ls : Array Slot) (x1 : Int32) (x2 : Int32) (x3 : Int64) (x5 : Int32), xW g A s.heap (wM g h thrown ss states stateMany snapshot hasSnapshot text length at_ isWell rd readMany top bottom digit digitMany other otherMany column columnMany carryMany chainMost) H locs → lv_has ls 6 [(0, .ref (h 0)), (1, .int x1), (2, .int x2), (3, .long x3), (5, .int x5)] → f_X11_digitsOf_b5 n5 ss rd x1 x2 x3 x5 = some out → W p l e { frames := 0, cells := 0, slots := 0, locals := 0 } s m [.ref (h 0), .int a1, .int a2].toArray below meth c H locs 0 0 ZZ (F0 m 5 ls []) := by
    intro n5
    induction n5 with
    | zero =>
      intro H locs ls x1 x2 x3 x5 hw hl hf
      exact nn hf
    | succ n5 ih5 =>
      intro H locs ls x1 x2 x3 x5 hw hl hf
      refine lv_iload hx hb dX11_digitsOf_5 (lv_at hl 4 rfl) ?_
      refine lv_iload_n hx hb dX11_digitsOf_7 rfl (lv_at hl 2 rfl) ?_
      refine lv_icmp_ge (tgt := 38) hx hb dX11_digitsOf_8 (by decide) (fun c8 => ?_) (fun c8 => ?_)
      · replace hf := ip c8 hf
        refine lv_lload_n hx hb dX11_digitsOf_38 rfl (lv_at hl 3 rfl) ?_
        exact hret _ _ _ _ _ (Option.some.inj hf) dX11_digitsOf_39 hw
      · replace hf := iq c8 hf
        refine lv_lload_n hx hb dX11_digitsOf_11 rfl (lv_at hl 3 rfl) ?_
        refine lv_aload_n hx hb dX11_digitsOf_12 rfl (lv_at hl 0 rfl) ?_
        refine xget (v := .ref (h 1)) E hw 0 rfl rfl 1 (by decide) inw11 qw1020 rfl rfl dX11_digitsOf_13 ?_
        refine lv_iconst (v := 0) hx hb dX11_digitsOf_16 (by decide) ?_
        refine xiald E hw 1 rfl (by decide) dX11_digitsOf_17 ?_
        refine lv_i2l hx hb dX11_digitsOf_18 rfl ?_
        refine lv_lmul hx hb dX11_digitsOf_19 ?_
        refine lv_aload_n hx hb dX11_digitsOf_20 rfl (lv_at hl 0 rfl) ?_
        refine xget (v := .ref (h 5)) E hw 0 rfl rfl 10 (by decide) inw11 qw1029 rfl rfl dX11_digitsOf_21 ?_
        refine lv_iload_n hx hb dX11_digitsOf_24 rfl (lv_at hl 1 rfl) ?_
        refine lv_iload hx hb dX11_digitsOf_25 (lv_at hl 4 rfl) ?_
        refine lv_iadd hx hb dX11_digitsOf_27 ?_
        obtain ⟨hz, hf⟩ := nz hf
        refine xiald E hw 5 rfl hz dX11_digitsOf_28 ?_
        refine lv_i2l hx hb dX11_digitsOf_29 rfl ?_
        refine lv_ladd hx hb dX11_digitsOf_30 ?_
        refine lv_lstore_n (lv' := [(3, .long ((x3 * ((ss (0 : Int32).toNatClampNeg).toInt64)) + ((rd (x1 + x5).toNatClampNeg).toInt64))), (0, .ref (h 0)), (1, .int x1), (2, .int x2), (5, .int x5)]) hx hb dX11_digitsOf_31 rfl hl (by decide) rfl (fun ls hl => ?_)
        refine lv_iinc (v := x5 + 1) (lv' := [(5, .int (x5 + 1)), (3, .long ((x3 * ((ss (0 : Int32).toNatClampNeg).toInt64)) + ((rd (x1 + x5).toNatClampNeg).toInt64))), (0, .ref (h 0)), (1, .int x1), (2, .int x2)]) hx hb dX11_digitsOf_32 hl (k := 4) rfl rfl (by decide) rfl (fun ls hl => ?_)
        refine lv_goto (tgt := 5) hx hb dX11_digitsOf_35 (by decide) ?_
        exact ih5 _ _ _ x1 x2 ((x3 * ((ss (0 : Int32).toNatClampNeg).toInt64)) + ((rd (x1 + x5).toNatClampNeg).toInt64)) (x5 + 1) hw (lv_sub hl [2, 3, 4, 1, 0] rfl) hf
  refine lv_lconst (v := 0) hx hb dX11_digitsOf_0 (by decide) ?_
  refine lv_lstore_n (lv' := [(3, .long 0), (0, .ref (h 0)), (1, .int a1), (2, .int a2)]) hx hb dX11_digitsOf_1 rfl hl (by decide) rfl (fun ls hl => ?_)
  refine lv_iconst (v := 0) hx hb dX11_digitsOf_2 (by decide) ?_
  refine lv_istore (lv' := [(5, .int 0), (3, .long 0), (0, .ref (h 0)), (1, .int a1), (2, .int a2)]) hx hb dX11_digitsOf_3 hl (by decide) rfl (fun ls hl => ?_)
  exact b5 xfuel _ _ _ a1 a2 0 0 hw (lv_sub hl [2, 3, 4, 1, 0] rfl) hf
theorem k_X11_areBelow : xKV yX11_areBelow cX11_areBelow 5 (some .boolean) 2 := ⟨qw1235, qw43, qw74, qw1236, by decide +kernel, by decide +kernel, by decide +kernel⟩
set_option maxHeartbeats 4000000 in
set_option maxRecDepth 100000 in
theorem met_X11_areBelow (l : Launch) (g : xG) (h : Nat → Nat) (thrown : Int32) (ss : (Nat → Int32)) (states : (Nat → Int32)) (stateMany : Int32) (snapshot : (Nat → Int32)) (hasSnapshot : Int32) (text : (Nat → Int32)) (length : Int32) (at_ : Int32) (isWell : Int32) (rd : (Nat → Int32)) (readMany : Int32) (top : Int64) (bottom : Int64) (digit : (Nat → Int32)) (digitMany : Int32) (other : (Nat → Int32)) (otherMany : Int32) (column : (Nat → Int32)) (columnMany : Int32) (carryMany : Int32) (chainMost : Int32) (a1 : Int32) (a2 : Int32) (out : Int32) (hf : f_X11_areBelow ss rd a1 a2 = some out) : xM l yX11_areBelow (xC yX11_areBelow cX11_areBelow 5 (some .boolean)) { frames := 0, cells := 0, slots := 0, locals := 0 } g (wM g h thrown ss states stateMany snapshot hasSnapshot text length at_ isWell rd readMany top bottom digit digitMany other otherMany column columnMany carryMany chainMost) [.ref (h 0), .int a1, .int a2] (some (.int out)) (wM g h thrown ss states stateMany snapshot hasSnapshot text length at_ isWell rd readMany top bottom digit digitMany other otherMany column columnMany carryMany chainMost) := by
  refine xof (by decide) (Nat.le_of_ble_eq_true rfl) ⟨rfl, rfl⟩ ?_
  intro p e s m below meth c A ls E hr hlocks hw hl hpost hAe
  have hx := E.1.1
  have hb := E.1.2.1
  have hown := E.1.2.2.2.1
  have hts := E.1.2.2.2.2
  generalize hZ : (MQ below (xPost g (wM g h thrown ss states stateMany snapshot hasSnapshot text length at_ isWell rd readMany top bottom digit digitMany other otherMany column columnMany carryMany chainMost) (wM g h thrown ss states stateMany snapshot hasSnapshot text length at_ isWell rd readMany top bottom digit digitMany other otherMany column columnMany carryMany chainMost) s.heap.size (some (.int out))) [.ref (h 0), .int a1, .int a2].toArray s 0 0 A) = ZZ
  have hret : ∀ (pc : Nat) (H : Heap) (locs : List Loc) (ls : Array Slot) (v : Int32), narrow .boolean (.int v) = .int v → v = out → decode cX11_areBelow pc = .ok (.ireturn, 1) → xW g A s.heap (wM g h thrown ss states stateMany snapshot hasSnapshot text length at_ isWell rd readMany top bottom digit digitMany other otherMany column columnMany carryMany chainMost) H locs → W p l e { frames := 0, cells := 0, slots := 0, locals := 0 } s m [.ref (h 0), .int a1, .int a2].toArray below meth c H locs 0 0 ZZ (F0 m pc ls [.int v]) := by
    intro pc H locs ls v hn he hd hw
    subst he
    rw [← hZ]
    exact W.zret hx hb hr hn (hpost H locs hw).1 (hpost H locs hw).2 hd hlocks
  clear hpost
  have b5 : ∀ n5 : Nat, ∀ (H : Heap) (locs : List Loc) (ls : Array Slot) (x1 : Int32) (x2 : Int32) (x3 : Int32) (x4 : Int32), xW g A s.heap (wM g h thrown ss states stateMany snapshot hasSnapshot text length at_ isWell rd readMany top bottom digit digitMany other otherMany column columnMany carryMany chainMost) H locs → lv_has ls 5 [(0, .ref (h 0)), (1, .int x1), (2, .int x2), (3, .int x3), (4, .int x4)] → f_X11_areBelow_b5 n5 ss rd x1 x2 x3 x4 = some out → W p l e { frames := 0, cells := 0, slots := 0, locals := 0 } s m [.ref (h 0), .int a1, .int a2].toArray below meth c H locs 0 0 ZZ (F0 m 5 ls []) := by
    intro n5
    induction n5 with
    | zero =>
      intro H locs ls x1 x2 x3 x4 hw hl hf
      exact nn hf
    | succ n5 ih5 =>
      have b38 : ∀ (H : Heap) (locs : List Loc) (ls : Array Slot) (x1 : Int32) (x2 : Int32) (x4 : Int32) (t0 : Int32), xW g A s.heap (wM g h thrown ss states stateMany snapshot hasSnapshot text length at_ isWell rd readMany top bottom digit digitMany other otherMany column columnMany carryMany chainMost) H locs → lv_has ls 5 [(0, .ref (h 0)), (1, .int x1), (2, .int x2), (4, .int x4)] → f_X11_areBelow_b38 (f_X11_areBelow_b5 n5) ss rd x1 x2 x4 t0 = some out → W p l e { frames := 0, cells := 0, slots := 0, locals := 0 } s m [.ref (h 0), .int a1, .int a2].toArray below meth c H locs 0 0 ZZ (F0 m 38 ls [.int t0]) := by
        intro H locs ls x1 x2 x4 t0 hw hl hf
        refine lv_istore_n (lv' := [(3, .int t0), (0, .ref (h 0)), (1, .int x1), (2, .int x2), (4, .int x4)]) hx hb dX11_areBelow_38 rfl hl (by decide) rfl (fun ls hl => ?_)
        refine lv_iinc (v := x4 + 1) (lv' := [(4, .int (x4 + 1)), (3, .int t0), (0, .ref (h 0)), (1, .int x1), (2, .int x2)]) hx hb dX11_areBelow_39 hl (k := 4) rfl rfl (by decide) rfl (fun ls hl => ?_)
        refine lv_goto (tgt := 5) hx hb dX11_areBelow_42 (by decide) ?_
        exact ih5 _ _ _ x1 x2 t0 (x4 + 1) hw (lv_sub hl [2, 3, 4, 1, 0] rfl) hf
      have b37 : ∀ (H : Heap) (locs : List Loc) (ls : Array Slot) (x1 : Int32) (x2 : Int32) (x4 : Int32), xW g A s.heap (wM g h thrown ss states stateMany snapshot hasSnapshot text length at_ isWell rd readMany top bottom digit digitMany other otherMany column columnMany carryMany chainMost) H locs → lv_has ls 5 [(0, .ref (h 0)), (1, .int x1), (2, .int x2), (4, .int x4)] → f_X11_areBelow_b37 (f_X11_areBelow_b5 n5) ss rd x1 x2 x4 = some out → W p l e { frames := 0, cells := 0, slots := 0, locals := 0 } s m [.ref (h 0), .int a1, .int a2].toArray below meth c H locs 0 0 ZZ (F0 m 37 ls []) := by
        intro H locs ls x1 x2 x4 hw hl hf
        refine lv_iconst (v := 0) hx hb dX11_areBelow_37 (by decide) ?_
        exact b38 _ _ _ x1 x2 x4 0 hw (lv_sub hl [0, 1, 2, 3] rfl) hf
      intro H locs ls x1 x2 x3 x4 hw hl hf
      refine lv_iload hx hb dX11_areBelow_5 (lv_at hl 4 rfl) ?_
      refine lv_iload_n hx hb dX11_areBelow_7 rfl (lv_at hl 2 rfl) ?_
      refine lv_icmp_ge (tgt := 45) hx hb dX11_areBelow_8 (by decide) (fun c8 => ?_) (fun c8 => ?_)
      · replace hf := ip c8 hf
        refine lv_iload_n hx hb dX11_areBelow_45 rfl (lv_at hl 3 rfl) ?_
        obtain ⟨hz, hf⟩ := nz hf
        exact hret _ _ _ _ _ (xbool hz).1 (Option.some.inj hf) dX11_areBelow_46 hw
      · replace hf := iq c8 hf
        refine lv_iload_n hx hb dX11_areBelow_11 rfl (lv_at hl 3 rfl) ?_
        refine lv_if_eq (tgt := 37) hx hb dX11_areBelow_12 (by decide) (fun c12 => ?_) (fun c12 => ?_)
        · replace hf := ip c12 hf
          exact b37 _ _ _ x1 x2 x4 hw (lv_sub hl [0, 1, 2, 4] rfl) hf
        · replace hf := iq c12 hf
          refine lv_aload_n hx hb dX11_areBelow_15 rfl (lv_at hl 0 rfl) ?_
          refine xget (v := .ref (h 5)) E hw 0 rfl rfl 10 (by decide) inw11 qw1029 rfl rfl dX11_areBelow_16 ?_
          refine lv_iload_n hx hb dX11_areBelow_19 rfl (lv_at hl 1 rfl) ?_
          refine lv_iload hx hb dX11_areBelow_20 (lv_at hl 4 rfl) ?_
          refine lv_iadd hx hb dX11_areBelow_22 ?_
          obtain ⟨hz, hf⟩ := nz hf
          refine xiald E hw 5 rfl hz dX11_areBelow_23 ?_
          refine lv_aload_n hx hb dX11_areBelow_24 rfl (lv_at hl 0 rfl) ?_
          refine xget (v := .ref (h 1)) E hw 0 rfl rfl 1 (by decide) inw11 qw1020 rfl rfl dX11_areBelow_25 ?_
          refine lv_iconst (v := 0) hx hb dX11_areBelow_28 (by decide) ?_
          refine xiald E hw 1 rfl (by decide) dX11_areBelow_29 ?_
          refine lv_icmp_ge (tgt := 37) hx hb dX11_areBelow_30 (by decide) (fun c30 => ?_) (fun c30 => ?_)
          · replace hf := ip c30 hf
            exact b37 _ _ _ x1 x2 x4 hw (lv_sub hl [0, 1, 2, 4] rfl) hf
          · replace hf := iq c30 hf
            refine lv_iconst (v := 1) hx hb dX11_areBelow_33 (by decide) ?_
            refine lv_goto (tgt := 38) hx hb dX11_areBelow_34 (by decide) ?_
            exact b38 _ _ _ x1 x2 x4 1 hw (lv_sub hl [0, 1, 2, 4] rfl) hf
  refine lv_iconst (v := 1) hx hb dX11_areBelow_0 (by decide) ?_
  refine lv_istore_n (lv' := [(3, .int 1), (0, .ref (h 0)), (1, .int a1), (2, .int a2)]) hx hb dX11_areBelow_1 rfl hl (by decide) rfl (fun ls hl => ?_)
  refine lv_iconst (v := 0) hx hb dX11_areBelow_2 (by decide) ?_
  refine lv_istore (lv' := [(4, .int 0), (3, .int 1), (0, .ref (h 0)), (1, .int a1), (2, .int a2)]) hx hb dX11_areBelow_3 hl (by decide) rfl (fun ls hl => ?_)
  exact b5 xfuel _ _ _ a1 a2 1 0 hw (lv_sub hl [2, 3, 4, 1, 0] rfl) hf
theorem k_X11_makesNumber : xKV yX11_makesNumber cX11_makesNumber 13 (some .int) 1 := ⟨qw1231, qw42, qw74, qw1232, by decide +kernel, by decide +kernel, by decide +kernel⟩
set_option maxHeartbeats 4000000 in
set_option maxRecDepth 100000 in
theorem met_X11_makesNumber (l : Launch) (g : xG) (h : Nat → Nat) (thrown : Int32) (ss : (Nat → Int32)) (states : (Nat → Int32)) (stateMany : Int32) (snapshot : (Nat → Int32)) (hasSnapshot : Int32) (text : (Nat → Int32)) (length : Int32) (at_ : Int32) (isWell : Int32) (rd : (Nat → Int32)) (readMany : Int32) (top : Int64) (bottom : Int64) (digit : (Nat → Int32)) (digitMany : Int32) (other : (Nat → Int32)) (otherMany : Int32) (column : (Nat → Int32)) (columnMany : Int32) (carryMany : Int32) (chainMost : Int32) (a1 : Int32) (out : Int32 × Int64 × Int64) (hf : f_X11_makesNumber ss rd top bottom a1 = some out) : xM l yX11_makesNumber (xC yX11_makesNumber cX11_makesNumber 13 (some .int)) { frames := 2, cells := 0, slots := 0, locals := 55 } g (wM g h thrown ss states stateMany snapshot hasSnapshot text length at_ isWell rd readMany top bottom digit digitMany other otherMany column columnMany carryMany chainMost) [.ref (h 0), .int a1] (some (.int out.1)) (wM g h thrown ss states stateMany snapshot hasSnapshot text length at_ isWell rd readMany out.2.1 out.2.2 digit digitMany other otherMany column columnMany carryMany chainMost) := by
  refine xof (by decide) (Nat.le_of_ble_eq_true rfl) ⟨rfl, rfl⟩ ?_
  intro p e s m below meth c A ls E hr hlocks hw hl hpost hAe
  have hx := E.1.1
  have hb := E.1.2.1
  have hown := E.1.2.2.2.1
  have hts := E.1.2.2.2.2
  generalize hZ : (MQ below (xPost g (wM g h thrown ss states stateMany snapshot hasSnapshot text length at_ isWell rd readMany top bottom digit digitMany other otherMany column columnMany carryMany chainMost) (wM g h thrown ss states stateMany snapshot hasSnapshot text length at_ isWell rd readMany out.2.1 out.2.2 digit digitMany other otherMany column columnMany carryMany chainMost) s.heap.size (some (.int out.1))) [.ref (h 0), .int a1].toArray s 0 0 A) = ZZ
  have hret : ∀ (pc : Nat) (H : Heap) (locs : List Loc) (ls : Array Slot) (v : Int32) (ctop : Int64) (cbottom : Int64), (v, ctop, cbottom) = out → decode cX11_makesNumber pc = .ok (.ireturn, 1) → xW g A s.heap (wM g h thrown ss states stateMany snapshot hasSnapshot text length at_ isWell rd readMany ctop cbottom digit digitMany other otherMany column columnMany carryMany chainMost) H locs → W p l e { frames := 2, cells := 0, slots := 0, locals := 55 } s m [.ref (h 0), .int a1].toArray below meth c H locs 0 0 ZZ (F0 m pc ls [.int v]) := by
    intro pc H locs ls v ctop cbottom he hd hw
    subst he
    rw [← hZ]
    exact W.iret hx hb hr (hpost H locs hw).1 (hpost H locs hw).2 hd hlocks
  clear hpost
  have b107 : ∀ (H : Heap) (locs : List Loc) (ls : Array Slot) (top : Int64) (bottom : Int64) (x1 : Int32) (x3 : Int32) (x4 : Int32) (x5 : Int64) (t0 : Int64), xW g A s.heap (wM g h thrown ss states stateMany snapshot hasSnapshot text length at_ isWell rd readMany top bottom digit digitMany other otherMany column columnMany carryMany chainMost) H locs → lv_has ls 13 [(0, .ref (h 0)), (1, .int x1), (3, .int x3), (4, .int x4), (5, .long x5)] → f_X11_makesNumber_b107 ss rd top bottom x1 x3 x4 x5 t0 = some out → W p l e { frames := 2, cells := 0, slots := 0, locals := 55 } s m [.ref (h 0), .int a1].toArray below meth c H locs 0 0 ZZ (F0 m 107 ls [.long t0]) := by
    intro H locs ls top bottom x1 x3 x4 x5 t0 hw hl hf
    refine lv_lstore (lv' := [(7, .long t0), (0, .ref (h 0)), (1, .int x1), (3, .int x3), (4, .int x4), (5, .long x5)]) hx hb dX11_makesNumber_107 hl (by decide) rfl (fun ls hl => ?_)
    refine lv_aload_n hx hb dX11_makesNumber_109 rfl (lv_at hl 1 rfl) ?_
    refine lv_iload_n hx hb dX11_makesNumber_110 rfl (lv_at hl 2 rfl) ?_
    refine lv_bipush (v := 14) hx hb dX11_makesNumber_111 (by decide) ?_
    refine lv_iadd hx hb dX11_makesNumber_113 ?_
    refine lv_iload_n hx hb dX11_makesNumber_114 rfl (lv_at hl 3 rfl) ?_
    obtain ⟨v115, hv115, hf⟩ := ob_e hf
    refine xcallV (ws' := (wM g h thrown ss states stateMany snapshot hasSnapshot text length at_ isWell rd readMany top bottom digit digitMany other otherMany column columnMany carryMany chainMost)) (st1 := [.long v115]) (n := 9) E hw [.int (x1 + 14), .int x3] [0, 1, 2, 3, 4, 5, 6, 7, 8] (met_X11_digitsOf l g h thrown ss states stateMany snapshot hasSnapshot text length at_ isWell rd readMany top bottom digit digitMany other otherMany column columnMany carryMany chainMost (x1 + 14) x3 v115 hv115) rfl (by decide) rfl rfl [9, 10, 11, 12, 13, 14, 15, 16, 17] rfl (by decide +kernel) rfl rfl rfl rfl qw1237 k_X11_digitsOf ⟨rfl, rfl, Nat.le_of_ble_eq_true rfl, Nat.le_of_ble_eq_true rfl⟩ ⟨Nat.zero_le _, Nat.zero_le _⟩ hl.1 (Nat.le_of_ble_eq_true rfl) dX11_makesNumber_115 rfl (fun H locs hw => ?_)
    refine lv_lload hx hb dX11_makesNumber_118 (lv_at hl 0 rfl) ?_
    refine lv_lmul hx hb dX11_makesNumber_120 ?_
    refine lv_aload_n hx hb dX11_makesNumber_121 rfl (lv_at hl 1 rfl) ?_
    refine lv_iload_n hx hb dX11_makesNumber_122 rfl (lv_at hl 2 rfl) ?_
    refine lv_bipush (v := 18) hx hb dX11_makesNumber_123 (by decide) ?_
    refine lv_iadd hx hb dX11_makesNumber_125 ?_
    refine lv_iload hx hb dX11_makesNumber_126 (lv_at hl 4 rfl) ?_
    obtain ⟨v128, hv128, hf⟩ := ob_e hf
    refine xcallV (ws' := (wM g h thrown ss states stateMany snapshot hasSnapshot text length at_ isWell rd readMany top bottom digit digitMany other otherMany column columnMany carryMany chainMost)) (st1 := [.long v128, .long (v115 * t0)]) (n := 9) E hw [.int (x1 + 18), .int x4] [0, 1, 2, 3, 4, 5, 6, 7, 8] (met_X11_digitsOf l g h thrown ss states stateMany snapshot hasSnapshot text length at_ isWell rd readMany top bottom digit digitMany other otherMany column columnMany carryMany chainMost (x1 + 18) x4 v128 hv128) rfl (by decide) rfl rfl [9, 10, 11, 12, 13, 14, 15, 16, 17] rfl (by decide +kernel) rfl rfl rfl rfl qw1237 k_X11_digitsOf ⟨rfl, rfl, Nat.le_of_ble_eq_true rfl, Nat.le_of_ble_eq_true rfl⟩ ⟨Nat.zero_le _, Nat.zero_le _⟩ hl.1 (Nat.le_of_ble_eq_true rfl) dX11_makesNumber_128 rfl (fun H locs hw => ?_)
    refine lv_ladd hx hb dX11_makesNumber_131 ?_
    refine lv_lstore (lv' := [(9, .long ((v115 * t0) + v128)), (7, .long t0), (0, .ref (h 0)), (1, .int x1), (3, .int x3), (4, .int x4), (5, .long x5)]) hx hb dX11_makesNumber_132 hl (by decide) rfl (fun ls hl => ?_)
    refine lv_aload_n hx hb dX11_makesNumber_134 rfl (lv_at hl 2 rfl) ?_
    refine lv_iload_n hx hb dX11_makesNumber_135 rfl (lv_at hl 4 rfl) ?_
    obtain ⟨v136, hv136, hf⟩ := ob_e hf
    refine xcallV (ws' := (wM g h thrown ss states stateMany snapshot hasSnapshot text length at_ isWell rd readMany top bottom digit digitMany other otherMany column columnMany carryMany chainMost)) (st1 := [.int v136]) (n := 9) E hw [.int x3] [0, 1, 2, 3, 4, 5, 6, 7, 8] (met_X11_power l g h thrown ss states stateMany snapshot hasSnapshot text length at_ isWell rd readMany top bottom digit digitMany other otherMany column columnMany carryMany chainMost x3 v136 hv136) rfl (by decide) rfl rfl [9, 10, 11, 12, 13, 14, 15, 16, 17] rfl (by decide +kernel) rfl rfl rfl rfl qw1160 k_X11_power ⟨rfl, rfl, Nat.le_of_ble_eq_true rfl, Nat.le_of_ble_eq_true rfl⟩ ⟨Nat.zero_le _, Nat.zero_le _⟩ hl.1 (Nat.le_of_ble_eq_true rfl) dX11_makesNumber_136 rfl (fun H locs hw => ?_)
    refine lv_i2l hx hb dX11_makesNumber_139 rfl ?_
    refine lv_lload hx hb dX11_makesNumber_140 (lv_at hl 1 rfl) ?_
    refine lv_lmul hx hb dX11_makesNumber_142 ?_
    refine lv_lstore (lv' := [(11, .long (v136.toInt64 * t0)), (9, .long ((v115 * t0) + v128)), (7, .long t0), (0, .ref (h 0)), (1, .int x1), (3, .int x3), (4, .int x4), (5, .long x5)]) hx hb dX11_makesNumber_143 hl (by decide) rfl (fun ls hl => ?_)
    refine lv_aload_n hx hb dX11_makesNumber_145 rfl (lv_at hl 3 rfl) ?_
    refine lv_lload hx hb dX11_makesNumber_146 (lv_at hl 7 rfl) ?_
    refine lv_lload hx hb dX11_makesNumber_148 (lv_at hl 0 rfl) ?_
    refine lv_lmul hx hb dX11_makesNumber_150 ?_
    refine lv_lload hx hb dX11_makesNumber_151 (lv_at hl 1 rfl) ?_
    refine lv_ladd hx hb dX11_makesNumber_153 ?_
    refine lv_lload hx hb dX11_makesNumber_154 (lv_at hl 0 rfl) ?_
    obtain ⟨v156, hv156, hf⟩ := ob_e hf
    refine xcallV (ws' := (wM g h thrown ss states stateMany snapshot hasSnapshot text length at_ isWell rd readMany v156.2.1 v156.2.2 digit digitMany other otherMany column columnMany carryMany chainMost)) (st1 := [.int v156.1]) (n := 9) E hw [.long ((x5 * (v136.toInt64 * t0)) + ((v115 * t0) + v128)), .long (v136.toInt64 * t0)] [0, 1, 2, 3, 4, 5, 6, 7, 8] (met_X11_makes l g h thrown ss states stateMany snapshot hasSnapshot text length at_ isWell rd readMany top bottom digit digitMany other otherMany column columnMany carryMany chainMost ((x5 * (v136.toInt64 * t0)) + ((v115 * t0) + v128)) (v136.toInt64 * t0) v156 hv156) rfl (by decide) rfl rfl [9, 10, 11, 12, 13, 14, 15, 16, 17] rfl (by decide +kernel) rfl rfl rfl rfl qw1116 k_X11_makes ⟨rfl, rfl, Nat.le_of_ble_eq_true rfl, Nat.le_of_ble_eq_true rfl⟩ ⟨Nat.zero_le _, Nat.zero_le _⟩ hl.1 (Nat.le_of_ble_eq_true rfl) dX11_makesNumber_156 rfl (fun H locs hw => ?_)
    refine lv_if_le (tgt := 166) hx hb dX11_makesNumber_159 (by decide) (fun c159 => ?_) (fun c159 => ?_)
    · replace hf := ip c159 hf
      refine lv_iconst (v := 0) hx hb dX11_makesNumber_166 (by decide) ?_
      exact hret _ _ _ _ _ _ _ (Option.some.inj hf) dX11_makesNumber_167 hw
    · replace hf := iq c159 hf
      refine lv_iconst (v := 2) hx hb dX11_makesNumber_162 (by decide) ?_
      refine lv_goto (tgt := 167) hx hb dX11_makesNumber_163 (by decide) ?_
      exact hret _ _ _ _ _ _ _ (Option.some.inj hf) dX11_makesNumber_167 hw
  refine lv_aload_n hx hb dX11_makesNumber_0 rfl (lv_at hl 0 rfl) ?_
  refine xget (v := .ref (h 5)) E hw 0 rfl rfl 10 (by decide) inw11 qw1029 rfl rfl dX11_makesNumber_1 ?_
  refine lv_iload_n hx hb dX11_makesNumber_4 rfl (lv_at hl 1 rfl) ?_
  refine lv_iconst (v := 3) hx hb dX11_makesNumber_5 (by decide) ?_
  refine lv_iadd hx hb dX11_makesNumber_6 ?_
  obtain ⟨hz, hf⟩ := nz hf
  refine xiald E hw 5 rfl hz dX11_makesNumber_7 ?_
  refine lv_istore_n (lv' := [(2, .int (rd (a1 + 3).toNatClampNeg)), (0, .ref (h 0)), (1, .int a1)]) hx hb dX11_makesNumber_8 rfl hl (by decide) rfl (fun ls hl => ?_)
  refine lv_aload_n hx hb dX11_makesNumber_9 rfl (lv_at hl 1 rfl) ?_
  refine xget (v := .ref (h 5)) E hw 0 rfl rfl 10 (by decide) inw11 qw1029 rfl rfl dX11_makesNumber_10 ?_
  refine lv_iload_n hx hb dX11_makesNumber_13 rfl (lv_at hl 2 rfl) ?_
  refine lv_iconst (v := 4) hx hb dX11_makesNumber_14 (by decide) ?_
  refine lv_iadd hx hb dX11_makesNumber_15 ?_
  obtain ⟨hz, hf⟩ := nz hf
  refine xiald E hw 5 rfl hz dX11_makesNumber_16 ?_
  refine lv_istore_n (lv' := [(3, .int (rd (a1 + 4).toNatClampNeg)), (2, .int (rd (a1 + 3).toNatClampNeg)), (0, .ref (h 0)), (1, .int a1)]) hx hb dX11_makesNumber_17 rfl hl (by decide) rfl (fun ls hl => ?_)
  refine lv_aload_n hx hb dX11_makesNumber_18 rfl (lv_at hl 2 rfl) ?_
  refine xget (v := .ref (h 5)) E hw 0 rfl rfl 10 (by decide) inw11 qw1029 rfl rfl dX11_makesNumber_19 ?_
  refine lv_iload_n hx hb dX11_makesNumber_22 rfl (lv_at hl 3 rfl) ?_
  refine lv_iconst (v := 5) hx hb dX11_makesNumber_23 (by decide) ?_
  refine lv_iadd hx hb dX11_makesNumber_24 ?_
  obtain ⟨hz, hf⟩ := nz hf
  refine xiald E hw 5 rfl hz dX11_makesNumber_25 ?_
  refine lv_istore (lv' := [(4, .int (rd (a1 + 5).toNatClampNeg)), (3, .int (rd (a1 + 4).toNatClampNeg)), (2, .int (rd (a1 + 3).toNatClampNeg)), (0, .ref (h 0)), (1, .int a1)]) hx hb dX11_makesNumber_26 hl (by decide) rfl (fun ls hl => ?_)
  refine lv_aload_n hx hb dX11_makesNumber_28 rfl (lv_at hl 3 rfl) ?_
  refine lv_iload_n hx hb dX11_makesNumber_29 rfl (lv_at hl 4 rfl) ?_
  refine lv_bipush (v := 6) hx hb dX11_makesNumber_30 (by decide) ?_
  refine lv_iadd hx hb dX11_makesNumber_32 ?_
  refine lv_iload_n hx hb dX11_makesNumber_33 rfl (lv_at hl 2 rfl) ?_
  obtain ⟨v34, hv34, hf⟩ := ob_e hf
  refine xcallV (ws' := (wM g h thrown ss states stateMany snapshot hasSnapshot text length at_ isWell rd readMany top bottom digit digitMany other otherMany column columnMany carryMany chainMost)) (st1 := [.int v34]) (n := 9) E hw [.int (a1 + 6), .int (rd (a1 + 3).toNatClampNeg)] [0, 1, 2, 3, 4, 5, 6, 7, 8] (met_X11_areBelow l g h thrown ss states stateMany snapshot hasSnapshot text length at_ isWell rd readMany top bottom digit digitMany other otherMany column columnMany carryMany chainMost (a1 + 6) (rd (a1 + 3).toNatClampNeg) v34 hv34) rfl (by decide) rfl rfl [9, 10, 11, 12, 13, 14, 15, 16, 17] rfl (by decide +kernel) rfl rfl rfl rfl qw1233 k_X11_areBelow ⟨rfl, rfl, Nat.le_of_ble_eq_true rfl, Nat.le_of_ble_eq_true rfl⟩ ⟨Nat.zero_le _, Nat.zero_le _⟩ hl.1 (Nat.le_of_ble_eq_true rfl) dX11_makesNumber_34 rfl (fun H locs hw => ?_)
  refine lv_if_eq (tgt := 65) hx hb dX11_makesNumber_37 (by decide) (fun c37 => ?_) (fun c37 => ?_)
  · replace hf := ip c37 hf
    refine lv_iconst (v := 1) hx hb dX11_makesNumber_65 (by decide) ?_
    exact hret _ _ _ _ _ _ _ (Option.some.inj hf) dX11_makesNumber_66 hw
  · replace hf := iq c37 hf
    refine lv_aload_n hx hb dX11_makesNumber_40 rfl (lv_at hl 3 rfl) ?_
    refine lv_iload_n hx hb dX11_makesNumber_41 rfl (lv_at hl 4 rfl) ?_
    refine lv_bipush (v := 14) hx hb dX11_makesNumber_42 (by decide) ?_
    refine lv_iadd hx hb dX11_makesNumber_44 ?_
    refine lv_iload_n hx hb dX11_makesNumber_45 rfl (lv_at hl 1 rfl) ?_
    obtain ⟨v46, hv46, hf⟩ := ob_e hf
    refine xcallV (ws' := (wM g h thrown ss states stateMany snapshot hasSnapshot text length at_ isWell rd readMany top bottom digit digitMany other otherMany column columnMany carryMany chainMost)) (st1 := [.int v46]) (n := 9) E hw [.int (a1 + 14), .int (rd (a1 + 4).toNatClampNeg)] [0, 1, 2, 3, 4, 5, 6, 7, 8] (met_X11_areBelow l g h thrown ss states stateMany snapshot hasSnapshot text length at_ isWell rd readMany top bottom digit digitMany other otherMany column columnMany carryMany chainMost (a1 + 14) (rd (a1 + 4).toNatClampNeg) v46 hv46) rfl (by decide) rfl rfl [9, 10, 11, 12, 13, 14, 15, 16, 17] rfl (by decide +kernel) rfl rfl rfl rfl qw1233 k_X11_areBelow ⟨rfl, rfl, Nat.le_of_ble_eq_true rfl, Nat.le_of_ble_eq_true rfl⟩ ⟨Nat.zero_le _, Nat.zero_le _⟩ hl.1 (Nat.le_of_ble_eq_true rfl) dX11_makesNumber_46 rfl (fun H locs hw => ?_)
    refine lv_if_eq (tgt := 65) hx hb dX11_makesNumber_49 (by decide) (fun c49 => ?_) (fun c49 => ?_)
    · replace hf := ip c49 hf
      refine lv_iconst (v := 1) hx hb dX11_makesNumber_65 (by decide) ?_
      exact hret _ _ _ _ _ _ _ (Option.some.inj hf) dX11_makesNumber_66 hw
    · replace hf := iq c49 hf
      refine lv_aload_n hx hb dX11_makesNumber_52 rfl (lv_at hl 3 rfl) ?_
      refine lv_iload_n hx hb dX11_makesNumber_53 rfl (lv_at hl 4 rfl) ?_
      refine lv_bipush (v := 18) hx hb dX11_makesNumber_54 (by decide) ?_
      refine lv_iadd hx hb dX11_makesNumber_56 ?_
      refine lv_iload hx hb dX11_makesNumber_57 (lv_at hl 0 rfl) ?_
      obtain ⟨v59, hv59, hf⟩ := ob_e hf
      refine xcallV (ws' := (wM g h thrown ss states stateMany snapshot hasSnapshot text length at_ isWell rd readMany top bottom digit digitMany other otherMany column columnMany carryMany chainMost)) (st1 := [.int v59]) (n := 9) E hw [.int (a1 + 18), .int (rd (a1 + 5).toNatClampNeg)] [0, 1, 2, 3, 4, 5, 6, 7, 8] (met_X11_areBelow l g h thrown ss states stateMany snapshot hasSnapshot text length at_ isWell rd readMany top bottom digit digitMany other otherMany column columnMany carryMany chainMost (a1 + 18) (rd (a1 + 5).toNatClampNeg) v59 hv59) rfl (by decide) rfl rfl [9, 10, 11, 12, 13, 14, 15, 16, 17] rfl (by decide +kernel) rfl rfl rfl rfl qw1233 k_X11_areBelow ⟨rfl, rfl, Nat.le_of_ble_eq_true rfl, Nat.le_of_ble_eq_true rfl⟩ ⟨Nat.zero_le _, Nat.zero_le _⟩ hl.1 (Nat.le_of_ble_eq_true rfl) dX11_makesNumber_59 rfl (fun H locs hw => ?_)
      refine lv_if_ne (tgt := 67) hx hb dX11_makesNumber_62 (by decide) (fun c62 => ?_) (fun c62 => ?_)
      · replace hf := iq c62 hf
        refine lv_aload_n hx hb dX11_makesNumber_67 rfl (lv_at hl 3 rfl) ?_
        refine lv_iload_n hx hb dX11_makesNumber_68 rfl (lv_at hl 4 rfl) ?_
        refine lv_bipush (v := 6) hx hb dX11_makesNumber_69 (by decide) ?_
        refine lv_iadd hx hb dX11_makesNumber_71 ?_
        refine lv_iload_n hx hb dX11_makesNumber_72 rfl (lv_at hl 2 rfl) ?_
        obtain ⟨v73, hv73, hf⟩ := ob_e hf
        refine xcallV (ws' := (wM g h thrown ss states stateMany snapshot hasSnapshot text length at_ isWell rd readMany top bottom digit digitMany other otherMany column columnMany carryMany chainMost)) (st1 := [.long v73]) (n := 9) E hw [.int (a1 + 6), .int (rd (a1 + 3).toNatClampNeg)] [0, 1, 2, 3, 4, 5, 6, 7, 8] (met_X11_digitsOf l g h thrown ss states stateMany snapshot hasSnapshot text length at_ isWell rd readMany top bottom digit digitMany other otherMany column columnMany carryMany chainMost (a1 + 6) (rd (a1 + 3).toNatClampNeg) v73 hv73) rfl (by decide) rfl rfl [9, 10, 11, 12, 13, 14, 15, 16, 17] rfl (by decide +kernel) rfl rfl rfl rfl qw1237 k_X11_digitsOf ⟨rfl, rfl, Nat.le_of_ble_eq_true rfl, Nat.le_of_ble_eq_true rfl⟩ ⟨Nat.zero_le _, Nat.zero_le _⟩ hl.1 (Nat.le_of_ble_eq_true rfl) dX11_makesNumber_73 rfl (fun H locs hw => ?_)
        refine lv_lstore (lv' := [(5, .long v73), (4, .int (rd (a1 + 5).toNatClampNeg)), (3, .int (rd (a1 + 4).toNatClampNeg)), (2, .int (rd (a1 + 3).toNatClampNeg)), (0, .ref (h 0)), (1, .int a1)]) hx hb dX11_makesNumber_76 hl (by decide) rfl (fun ls hl => ?_)
        refine lv_lload hx hb dX11_makesNumber_78 (lv_at hl 0 rfl) ?_
        refine lv_ldc2 hx hb hown (hts _ qw1123) dX11_makesNumber_80 ?_
        refine xlc_le (tgt := 89) hx hb dX11_makesNumber_83 dX11_makesNumber_84 (by decide) (fun c83 => ?_) (fun c83 => ?_)
        · replace hf := iq c83 hf
          refine lv_iload hx hb dX11_makesNumber_89 (lv_at hl 1 rfl) ?_
          refine lv_if_ne (tgt := 98) hx hb dX11_makesNumber_91 (by decide) (fun c91 => ?_) (fun c91 => ?_)
          · replace hf := iq c91 hf
            refine lv_aload_n hx hb dX11_makesNumber_98 rfl (lv_at hl 4 rfl) ?_
            refine lv_iload hx hb dX11_makesNumber_99 (lv_at hl 1 rfl) ?_
            obtain ⟨v101, hv101, hf⟩ := ob_e hf
            refine xcallV (ws' := (wM g h thrown ss states stateMany snapshot hasSnapshot text length at_ isWell rd readMany top bottom digit digitMany other otherMany column columnMany carryMany chainMost)) (st1 := [.int v101]) (n := 9) E hw [.int (rd (a1 + 5).toNatClampNeg)] [0, 1, 2, 3, 4, 5, 6, 7, 8] (met_X11_power l g h thrown ss states stateMany snapshot hasSnapshot text length at_ isWell rd readMany top bottom digit digitMany other otherMany column columnMany carryMany chainMost (rd (a1 + 5).toNatClampNeg) v101 hv101) rfl (by decide) rfl rfl [9, 10, 11, 12, 13, 14, 15, 16, 17] rfl (by decide +kernel) rfl rfl rfl rfl qw1160 k_X11_power ⟨rfl, rfl, Nat.le_of_ble_eq_true rfl, Nat.le_of_ble_eq_true rfl⟩ ⟨Nat.zero_le _, Nat.zero_le _⟩ hl.1 (Nat.le_of_ble_eq_true rfl) dX11_makesNumber_101 rfl (fun H locs hw => ?_)
            refine lv_i2l hx hb dX11_makesNumber_104 rfl ?_
            refine lv_lconst (v := 1) hx hb dX11_makesNumber_105 (by decide) ?_
            refine lv_lsub hx hb dX11_makesNumber_106 ?_
            exact b107 _ _ _ top bottom a1 (rd (a1 + 4).toNatClampNeg) (rd (a1 + 5).toNatClampNeg) v73 (v101.toInt64 - 1) hw (lv_sub hl [4, 5, 2, 1, 0] rfl) hf
          · replace hf := ip c91 hf
            refine lv_lconst (v := 1) hx hb dX11_makesNumber_94 (by decide) ?_
            refine lv_goto (tgt := 107) hx hb dX11_makesNumber_95 (by decide) ?_
            exact b107 _ _ _ top bottom a1 (rd (a1 + 4).toNatClampNeg) (rd (a1 + 5).toNatClampNeg) v73 1 hw (lv_sub hl [4, 5, 2, 1, 0] rfl) hf
        · replace hf := ip c83 hf
          refine lv_iconst (v := 2) hx hb dX11_makesNumber_87 (by decide) ?_
          exact hret _ _ _ _ _ _ _ (Option.some.inj hf) dX11_makesNumber_88 hw
      · replace hf := ip c62 hf
        refine lv_iconst (v := 1) hx hb dX11_makesNumber_65 (by decide) ?_
        exact hret _ _ _ _ _ _ _ (Option.some.inj hf) dX11_makesNumber_66 hw
theorem k_X11_does : xKV yX11_does cX11_does 5 (some .int) 1 := ⟨qw1227, qw41, qw74, qw1228, by decide +kernel, by decide +kernel, by decide +kernel⟩
set_option maxHeartbeats 4000000 in
set_option maxRecDepth 100000 in
theorem met_X11_does (l : Launch) (g : xG) (h : Nat → Nat) (thrown : Int32) (ss : (Nat → Int32)) (states : (Nat → Int32)) (stateMany : Int32) (snapshot : (Nat → Int32)) (hasSnapshot : Int32) (text : (Nat → Int32)) (length : Int32) (at_ : Int32) (isWell : Int32) (rd : (Nat → Int32)) (readMany : Int32) (top : Int64) (bottom : Int64) (digit : (Nat → Int32)) (digitMany : Int32) (other : (Nat → Int32)) (otherMany : Int32) (column : (Nat → Int32)) (columnMany : Int32) (carryMany : Int32) (chainMost : Int32) (a1 : Int32) (out : Int32 × (Nat → Int32) × Int64 × Int64) (hf : f_X11_does ss rd top bottom a1 = some out) : xM l yX11_does (xC yX11_does cX11_does 5 (some .int)) { frames := 3, cells := 0, slots := 0, locals := 87 } g (wM g h thrown ss states stateMany snapshot hasSnapshot text length at_ isWell rd readMany top bottom digit digitMany other otherMany column columnMany carryMany chainMost) [.ref (h 0), .int a1] (some (.int out.1)) (wM g h thrown out.2.1 states stateMany snapshot hasSnapshot text length at_ isWell rd readMany out.2.2.1 out.2.2.2 digit digitMany other otherMany column columnMany carryMany chainMost) := by
  refine xof (by decide) (Nat.le_of_ble_eq_true rfl) ⟨rfl, rfl⟩ ?_
  intro p e s m below meth c A ls E hr hlocks hw hl hpost hAe
  have hx := E.1.1
  have hb := E.1.2.1
  have hown := E.1.2.2.2.1
  have hts := E.1.2.2.2.2
  generalize hZ : (MQ below (xPost g (wM g h thrown ss states stateMany snapshot hasSnapshot text length at_ isWell rd readMany top bottom digit digitMany other otherMany column columnMany carryMany chainMost) (wM g h thrown out.2.1 states stateMany snapshot hasSnapshot text length at_ isWell rd readMany out.2.2.1 out.2.2.2 digit digitMany other otherMany column columnMany carryMany chainMost) s.heap.size (some (.int out.1))) [.ref (h 0), .int a1].toArray s 0 0 A) = ZZ
  have hret : ∀ (pc : Nat) (H : Heap) (locs : List Loc) (ls : Array Slot) (v : Int32) (css : (Nat → Int32)) (ctop : Int64) (cbottom : Int64), (v, css, ctop, cbottom) = out → decode cX11_does pc = .ok (.ireturn, 1) → xW g A s.heap (wM g h thrown css states stateMany snapshot hasSnapshot text length at_ isWell rd readMany ctop cbottom digit digitMany other otherMany column columnMany carryMany chainMost) H locs → W p l e { frames := 3, cells := 0, slots := 0, locals := 87 } s m [.ref (h 0), .int a1].toArray below meth c H locs 0 0 ZZ (F0 m pc ls [.int v]) := by
    intro pc H locs ls v css ctop cbottom he hd hw
    subst he
    rw [← hZ]
    exact W.iret hx hb hr (hpost H locs hw).1 (hpost H locs hw).2 hd hlocks
  clear hpost
  have b133 : ∀ (H : Heap) (locs : List Loc) (ls : Array Slot) (ss : (Nat → Int32)) (top : Int64) (bottom : Int64) (x2 : Int32) (x4 : Int32), xW g A s.heap (wM g h thrown ss states stateMany snapshot hasSnapshot text length at_ isWell rd readMany top bottom digit digitMany other otherMany column columnMany carryMany chainMost) H locs → lv_has ls 5 [(0, .ref (h 0)), (2, .int x2), (4, .int x4)] → f_X11_does_b133 ss rd top bottom x2 x4 = some out → W p l e { frames := 3, cells := 0, slots := 0, locals := 87 } s m [.ref (h 0), .int a1].toArray below meth c H locs 0 0 ZZ (F0 m 133 ls []) := by
    intro H locs ls ss top bottom x2 x4 hw hl hf
    refine lv_iload hx hb dX11_does_133 (lv_at hl 2 rfl) ?_
    refine lv_if_ne (tgt := 143) hx hb dX11_does_135 (by decide) (fun c135 => ?_) (fun c135 => ?_)
    · replace hf := iq c135 hf
      refine lv_iload hx hb dX11_does_143 (lv_at hl 2 rfl) ?_
      exact hret _ _ _ _ _ _ _ _ (Option.some.inj hf) dX11_does_145 hw
    · replace hf := ip c135 hf
      refine lv_aload_n hx hb dX11_does_138 rfl (lv_at hl 0 rfl) ?_
      refine lv_iload_n hx hb dX11_does_139 rfl (lv_at hl 1 rfl) ?_
      obtain ⟨v140, hv140, hf⟩ := ob_e hf
      refine xcallV (ws' := (wM g h thrown v140 states stateMany snapshot hasSnapshot text length at_ isWell rd readMany top bottom digit digitMany other otherMany column columnMany carryMany chainMost)) (st1 := []) (n := 9) E hw [.int x2] [0, 1, 2, 3, 4, 5, 6, 7, 8] (met_X11_puts l g h thrown ss states stateMany snapshot hasSnapshot text length at_ isWell rd readMany top bottom digit digitMany other otherMany column columnMany carryMany chainMost x2 v140 hv140) rfl (by decide) rfl rfl [9, 10, 11, 12, 13, 14, 15, 16, 17] rfl (by decide +kernel) rfl rfl rfl rfl qw1125 k_X11_puts ⟨rfl, rfl, Nat.le_of_ble_eq_true rfl, Nat.le_of_ble_eq_true rfl⟩ ⟨Nat.zero_le _, Nat.zero_le _⟩ hl.1 (Nat.le_of_ble_eq_true rfl) dX11_does_140 rfl (fun H locs hw => ?_)
      refine lv_iload hx hb dX11_does_143 (lv_at hl 2 rfl) ?_
      exact hret _ _ _ _ _ _ _ _ (Option.some.inj hf) dX11_does_145 hw
  have b94 : ∀ (H : Heap) (locs : List Loc) (ls : Array Slot) (ss : (Nat → Int32)) (top : Int64) (bottom : Int64) (x2 : Int32) (t0 : Int32), xW g A s.heap (wM g h thrown ss states stateMany snapshot hasSnapshot text length at_ isWell rd readMany top bottom digit digitMany other otherMany column columnMany carryMany chainMost) H locs → lv_has ls 5 [(0, .ref (h 0)), (2, .int x2)] → f_X11_does_b94 ss rd top bottom x2 t0 = some out → W p l e { frames := 3, cells := 0, slots := 0, locals := 87 } s m [.ref (h 0), .int a1].toArray below meth c H locs 0 0 ZZ (F0 m 94 ls [.int t0]) := by
    intro H locs ls ss top bottom x2 t0 hw hl hf
    refine lv_istore (lv' := [(4, .int t0), (0, .ref (h 0)), (2, .int x2)]) hx hb dX11_does_94 hl (by decide) rfl (fun ls hl => ?_)
    refine lv_goto (tgt := 133) hx hb dX11_does_96 (by decide) ?_
    exact b133 _ _ _ ss top bottom x2 t0 hw (lv_sub hl [1, 2, 0] rfl) hf
  have b131 : ∀ (H : Heap) (locs : List Loc) (ls : Array Slot) (ss : (Nat → Int32)) (top : Int64) (bottom : Int64) (x2 : Int32) (t0 : Int32), xW g A s.heap (wM g h thrown ss states stateMany snapshot hasSnapshot text length at_ isWell rd readMany top bottom digit digitMany other otherMany column columnMany carryMany chainMost) H locs → lv_has ls 5 [(0, .ref (h 0)), (2, .int x2)] → f_X11_does_b131 ss rd top bottom x2 t0 = some out → W p l e { frames := 3, cells := 0, slots := 0, locals := 87 } s m [.ref (h 0), .int a1].toArray below meth c H locs 0 0 ZZ (F0 m 131 ls [.int t0]) := by
    intro H locs ls ss top bottom x2 t0 hw hl hf
    refine lv_istore (lv' := [(4, .int t0), (0, .ref (h 0)), (2, .int x2)]) hx hb dX11_does_131 hl (by decide) rfl (fun ls hl => ?_)
    exact b133 _ _ _ ss top bottom x2 t0 hw (lv_sub hl [1, 2, 0] rfl) hf
  have b114 : ∀ (H : Heap) (locs : List Loc) (ls : Array Slot) (ss : (Nat → Int32)) (top : Int64) (bottom : Int64) (x2 : Int32) (t0 : Int32), xW g A s.heap (wM g h thrown ss states stateMany snapshot hasSnapshot text length at_ isWell rd readMany top bottom digit digitMany other otherMany column columnMany carryMany chainMost) H locs → lv_has ls 5 [(0, .ref (h 0)), (2, .int x2)] → f_X11_does_b114 ss rd top bottom x2 t0 = some out → W p l e { frames := 3, cells := 0, slots := 0, locals := 87 } s m [.ref (h 0), .int a1].toArray below meth c H locs 0 0 ZZ (F0 m 114 ls [.int t0]) := by
    intro H locs ls ss top bottom x2 t0 hw hl hf
    refine lv_istore (lv' := [(4, .int t0), (0, .ref (h 0)), (2, .int x2)]) hx hb dX11_does_114 hl (by decide) rfl (fun ls hl => ?_)
    refine lv_aload_n hx hb dX11_does_116 rfl (lv_at hl 1 rfl) ?_
    refine xget (v := .long top) E hw 0 rfl rfl 12 (by decide) inw11 qw1031 rfl rfl dX11_does_117 ?_
    refine lv_lconst (v := 0) hx hb dX11_does_120 (by decide) ?_
    refine xlc_ge (tgt := 129) hx hb dX11_does_121 dX11_does_122 (by decide) (fun c121 => ?_) (fun c121 => ?_)
    · replace hf := iq c121 hf
      refine lv_iload hx hb dX11_does_129 (lv_at hl 0 rfl) ?_
      exact b131 _ _ _ ss top bottom x2 t0 hw (lv_sub hl [1, 2] rfl) hf
    · replace hf := ip c121 hf
      refine lv_iconst (v := 3) hx hb dX11_does_125 (by decide) ?_
      refine lv_goto (tgt := 131) hx hb dX11_does_126 (by decide) ?_
      exact b131 _ _ _ ss top bottom x2 3 hw (lv_sub hl [1, 2] rfl) hf
  refine lv_aload_n hx hb dX11_does_0 rfl (lv_at hl 0 rfl) ?_
  refine xget (v := .ref (h 5)) E hw 0 rfl rfl 10 (by decide) inw11 qw1029 rfl rfl dX11_does_1 ?_
  refine lv_iload_n hx hb dX11_does_4 rfl (lv_at hl 1 rfl) ?_
  obtain ⟨hz, hf⟩ := nz hf
  refine xiald E hw 5 rfl hz dX11_does_5 ?_
  refine lv_istore_n (lv' := [(2, .int (rd a1.toNatClampNeg)), (0, .ref (h 0)), (1, .int a1)]) hx hb dX11_does_6 rfl hl (by decide) rfl (fun ls hl => ?_)
  refine lv_aload_n hx hb dX11_does_7 rfl (lv_at hl 1 rfl) ?_
  refine xget (v := .ref (h 5)) E hw 0 rfl rfl 10 (by decide) inw11 qw1029 rfl rfl dX11_does_8 ?_
  refine lv_iload_n hx hb dX11_does_11 rfl (lv_at hl 2 rfl) ?_
  refine lv_iconst (v := 2) hx hb dX11_does_12 (by decide) ?_
  refine lv_iadd hx hb dX11_does_13 ?_
  obtain ⟨hz, hf⟩ := nz hf
  refine xiald E hw 5 rfl hz dX11_does_14 ?_
  refine lv_istore_n (lv' := [(3, .int (rd (a1 + 2).toNatClampNeg)), (2, .int (rd a1.toNatClampNeg)), (0, .ref (h 0)), (1, .int a1)]) hx hb dX11_does_15 rfl hl (by decide) rfl (fun ls hl => ?_)
  refine lv_iconst (v := 0) hx hb dX11_does_16 (by decide) ?_
  refine lv_istore (lv' := [(4, .int 0), (3, .int (rd (a1 + 2).toNatClampNeg)), (2, .int (rd a1.toNatClampNeg)), (0, .ref (h 0)), (1, .int a1)]) hx hb dX11_does_17 hl (by decide) rfl (fun ls hl => ?_)
  refine lv_aload_n hx hb dX11_does_19 rfl (lv_at hl 3 rfl) ?_
  refine xget (v := .ref (h 5)) E hw 0 rfl rfl 10 (by decide) inw11 qw1029 rfl rfl dX11_does_20 ?_
  refine lv_iload_n hx hb dX11_does_23 rfl (lv_at hl 4 rfl) ?_
  refine lv_iconst (v := 1) hx hb dX11_does_24 (by decide) ?_
  refine lv_iadd hx hb dX11_does_25 ?_
  obtain ⟨hz, hf⟩ := nz hf
  refine xiald E hw 5 rfl hz dX11_does_26 ?_
  by_cases hk0 : (rd (a1 + 1).toNatClampNeg) = 43
  · replace hf := ip hk0 hf
    refine lv_lookup (tgt := 79) (off := 52) hx hb dX11_does_27 rfl (by rw [hk0]; rfl) (by decide) ?_
    refine lv_aload_n hx hb dX11_does_79 rfl (lv_at hl 3 rfl) ?_
    refine lv_iload_n hx hb dX11_does_80 rfl (lv_at hl 2 rfl) ?_
    refine lv_iload_n hx hb dX11_does_81 rfl (lv_at hl 1 rfl) ?_
    refine lv_iconst (v := 1) hx hb dX11_does_82 (by decide) ?_
    obtain ⟨v83, hv83, hf⟩ := ob_e hf
    refine xcallV (ws' := (wM g h thrown ss states stateMany snapshot hasSnapshot text length at_ isWell rd readMany v83.2.1 v83.2.2 digit digitMany other otherMany column columnMany carryMany chainMost)) (st1 := [.int v83.1]) (n := 9) E hw [.int (rd a1.toNatClampNeg), .int (rd (a1 + 2).toNatClampNeg), .int 1] [0, 1, 2, 3, 4, 5, 6, 7, 8] (met_X11_makesSum l g h thrown ss states stateMany snapshot hasSnapshot text length at_ isWell rd readMany top bottom digit digitMany other otherMany column columnMany carryMany chainMost (rd a1.toNatClampNeg) (rd (a1 + 2).toNatClampNeg) 1 v83 hv83) rfl (by decide) rfl rfl [9, 10, 11, 12, 13, 14, 15, 16, 17] rfl (by decide +kernel) rfl rfl rfl rfl qw1140 k_X11_makesSum ⟨rfl, rfl, Nat.le_of_ble_eq_true rfl, Nat.le_of_ble_eq_true rfl⟩ ⟨Nat.zero_le _, Nat.zero_le _⟩ hl.1 (Nat.le_of_ble_eq_true rfl) dX11_does_83 rfl (fun H locs hw => ?_)
    refine lv_if_le (tgt := 93) hx hb dX11_does_86 (by decide) (fun c86 => ?_) (fun c86 => ?_)
    · replace hf := ip c86 hf
      refine lv_iconst (v := 0) hx hb dX11_does_93 (by decide) ?_
      exact b94 _ _ _ ss v83.2.1 v83.2.2 (rd a1.toNatClampNeg) 0 hw (lv_sub hl [3, 2] rfl) hf
    · replace hf := iq c86 hf
      refine lv_iconst (v := 2) hx hb dX11_does_89 (by decide) ?_
      refine lv_goto (tgt := 94) hx hb dX11_does_90 (by decide) ?_
      exact b94 _ _ _ ss v83.2.1 v83.2.2 (rd a1.toNatClampNeg) 2 hw (lv_sub hl [3, 2] rfl) hf
  replace hf := iq hk0 hf
  by_cases hk1 : (rd (a1 + 1).toNatClampNeg) = 61
  · replace hf := ip hk1 hf
    refine lv_lookup (tgt := 69) (off := 42) hx hb dX11_does_27 rfl (by rw [hk1]; rfl) (by decide) ?_
    refine lv_aload_n hx hb dX11_does_69 rfl (lv_at hl 3 rfl) ?_
    refine lv_iload_n hx hb dX11_does_70 rfl (lv_at hl 4 rfl) ?_
    obtain ⟨v71, hv71, hf⟩ := ob_e hf
    refine xcallV (ws' := (wM g h thrown ss states stateMany snapshot hasSnapshot text length at_ isWell rd readMany v71.2.1 v71.2.2 digit digitMany other otherMany column columnMany carryMany chainMost)) (st1 := [.int v71.1]) (n := 9) E hw [.int a1] [0, 1, 2, 3, 4, 5, 6, 7, 8] (met_X11_makesNumber l g h thrown ss states stateMany snapshot hasSnapshot text length at_ isWell rd readMany top bottom digit digitMany other otherMany column columnMany carryMany chainMost a1 v71 hv71) rfl (by decide) rfl rfl [9, 10, 11, 12, 13, 14, 15, 16, 17] rfl (by decide +kernel) rfl rfl rfl rfl qw1229 k_X11_makesNumber ⟨rfl, rfl, Nat.le_of_ble_eq_true rfl, Nat.le_of_ble_eq_true rfl⟩ ⟨Nat.zero_le _, Nat.zero_le _⟩ hl.1 (Nat.le_of_ble_eq_true rfl) dX11_does_71 rfl (fun H locs hw => ?_)
    refine lv_istore (lv' := [(4, .int v71.1), (3, .int (rd (a1 + 2).toNatClampNeg)), (2, .int (rd a1.toNatClampNeg)), (0, .ref (h 0)), (1, .int a1)]) hx hb dX11_does_74 hl (by decide) rfl (fun ls hl => ?_)
    refine lv_goto (tgt := 133) hx hb dX11_does_76 (by decide) ?_
    exact b133 _ _ _ ss v71.2.1 v71.2.2 (rd a1.toNatClampNeg) v71.1 hw (lv_sub hl [3, 2, 0] rfl) hf
  replace hf := iq hk1 hf
  by_cases hk2 : (rd (a1 + 1).toNatClampNeg) = 98
  · replace hf := ip hk2 hf
    refine lv_lookup (tgt := 60) (off := 33) hx hb dX11_does_27 rfl (by rw [hk2]; rfl) (by decide) ?_
    refine lv_aload_n hx hb dX11_does_60 rfl (lv_at hl 3 rfl) ?_
    refine xget (v := .ref (h 1)) E hw 0 rfl rfl 1 (by decide) inw11 qw1020 rfl rfl dX11_does_61 ?_
    refine lv_iconst (v := 0) hx hb dX11_does_64 (by decide) ?_
    refine lv_iload_n hx hb dX11_does_65 rfl (lv_at hl 1 rfl) ?_
    refine xiast (ws' := (wM g h thrown (upd ss (0 : Int32).toNatClampNeg (rd (a1 + 2).toNatClampNeg)) states stateMany snapshot hasSnapshot text length at_ isWell rd readMany top bottom digit digitMany other otherMany column columnMany carryMany chainMost)) E hw 1 rfl (by decide) dX11_does_66 rfl (fun H locs hw => ?_)
    refine lv_iconst (v := 0) hx hb dX11_does_67 (by decide) ?_
    exact hret _ _ _ _ _ _ _ _ (Option.some.inj hf) dX11_does_68 hw
  replace hf := iq hk2 hf
  refine lv_lookup (tgt := 99) (off := 72) hx hb dX11_does_27 rfl (by rw [lv_osw hk0 (by decide), lv_osw hk1 (by decide), lv_osw hk2 (by decide)]; rfl) (by decide) ?_
  refine lv_aload_n hx hb dX11_does_99 rfl (lv_at hl 3 rfl) ?_
  refine lv_iload_n hx hb dX11_does_100 rfl (lv_at hl 2 rfl) ?_
  refine lv_iload_n hx hb dX11_does_101 rfl (lv_at hl 1 rfl) ?_
  refine lv_iconst (v := (-1)) hx hb dX11_does_102 (by decide) ?_
  obtain ⟨v103, hv103, hf⟩ := ob_e hf
  refine xcallV (ws' := (wM g h thrown ss states stateMany snapshot hasSnapshot text length at_ isWell rd readMany v103.2.1 v103.2.2 digit digitMany other otherMany column columnMany carryMany chainMost)) (st1 := [.int v103.1]) (n := 9) E hw [.int (rd a1.toNatClampNeg), .int (rd (a1 + 2).toNatClampNeg), .int (-1)] [0, 1, 2, 3, 4, 5, 6, 7, 8] (met_X11_makesSum l g h thrown ss states stateMany snapshot hasSnapshot text length at_ isWell rd readMany top bottom digit digitMany other otherMany column columnMany carryMany chainMost (rd a1.toNatClampNeg) (rd (a1 + 2).toNatClampNeg) (-1) v103 hv103) rfl (by decide) rfl rfl [9, 10, 11, 12, 13, 14, 15, 16, 17] rfl (by decide +kernel) rfl rfl rfl rfl qw1140 k_X11_makesSum ⟨rfl, rfl, Nat.le_of_ble_eq_true rfl, Nat.le_of_ble_eq_true rfl⟩ ⟨Nat.zero_le _, Nat.zero_le _⟩ hl.1 (Nat.le_of_ble_eq_true rfl) dX11_does_103 rfl (fun H locs hw => ?_)
  refine lv_if_le (tgt := 113) hx hb dX11_does_106 (by decide) (fun c106 => ?_) (fun c106 => ?_)
  · replace hf := ip c106 hf
    refine lv_iconst (v := 0) hx hb dX11_does_113 (by decide) ?_
    exact b114 _ _ _ ss v103.2.1 v103.2.2 (rd a1.toNatClampNeg) 0 hw (lv_sub hl [3, 2] rfl) hf
  · replace hf := iq c106 hf
    refine lv_iconst (v := 2) hx hb dX11_does_109 (by decide) ?_
    refine lv_goto (tgt := 114) hx hb dX11_does_110 (by decide) ?_
    exact b114 _ _ _ ss v103.2.1 v103.2.2 (rd a1.toNatClampNeg) 2 hw (lv_sub hl [3, 2] rfl) hf
theorem k_X11_enter : xKV yX11_enter cX11_enter 3 (some .int) 0 := ⟨qw1222, qw1223, qw74, qw1224, by decide +kernel, by decide +kernel, by decide +kernel⟩
set_option maxHeartbeats 4000000 in
set_option maxRecDepth 100000 in
theorem met_X11_enter (l : Launch) (g : xG) (h : Nat → Nat) (thrown : Int32) (ss : (Nat → Int32)) (states : (Nat → Int32)) (stateMany : Int32) (snapshot : (Nat → Int32)) (hasSnapshot : Int32) (text : (Nat → Int32)) (length : Int32) (at_ : Int32) (isWell : Int32) (rd : (Nat → Int32)) (readMany : Int32) (top : Int64) (bottom : Int64) (digit : (Nat → Int32)) (digitMany : Int32) (other : (Nat → Int32)) (otherMany : Int32) (column : (Nat → Int32)) (columnMany : Int32) (carryMany : Int32) (chainMost : Int32) (out : Int32 × Int32 × (Nat → Int32) × (Nat → Int32) × Int32 × Int32 × Int32 × Int32 × (Nat → Int32) × Int32 × Int64 × Int64) (hf : f_X11_enter thrown ss states stateMany text length at_ isWell rd readMany top bottom = some out) : xM l yX11_enter (xC yX11_enter cX11_enter 3 (some .int)) { frames := 6, cells := 0, slots := 0, locals := 130 } g (wM g h thrown ss states stateMany snapshot hasSnapshot text length at_ isWell rd readMany top bottom digit digitMany other otherMany column columnMany carryMany chainMost) [.ref (h 0)] (some (.int out.1)) (wM g h out.2.1 out.2.2.1 out.2.2.2.1 out.2.2.2.2.1 snapshot hasSnapshot text out.2.2.2.2.2.1 out.2.2.2.2.2.2.1 out.2.2.2.2.2.2.2.1 out.2.2.2.2.2.2.2.2.1 out.2.2.2.2.2.2.2.2.2.1 out.2.2.2.2.2.2.2.2.2.2.1 out.2.2.2.2.2.2.2.2.2.2.2 digit digitMany other otherMany column columnMany carryMany chainMost) := by
  refine xof (by decide) (Nat.le_of_ble_eq_true rfl) ⟨rfl, rfl⟩ ?_
  intro p e s m below meth c A ls E hr hlocks hw hl hpost hAe
  have hx := E.1.1
  have hb := E.1.2.1
  have hown := E.1.2.2.2.1
  have hts := E.1.2.2.2.2
  generalize hZ : (MQ below (xPost g (wM g h thrown ss states stateMany snapshot hasSnapshot text length at_ isWell rd readMany top bottom digit digitMany other otherMany column columnMany carryMany chainMost) (wM g h out.2.1 out.2.2.1 out.2.2.2.1 out.2.2.2.2.1 snapshot hasSnapshot text out.2.2.2.2.2.1 out.2.2.2.2.2.2.1 out.2.2.2.2.2.2.2.1 out.2.2.2.2.2.2.2.2.1 out.2.2.2.2.2.2.2.2.2.1 out.2.2.2.2.2.2.2.2.2.2.1 out.2.2.2.2.2.2.2.2.2.2.2 digit digitMany other otherMany column columnMany carryMany chainMost) s.heap.size (some (.int out.1))) [.ref (h 0)].toArray s 0 0 A) = ZZ
  have hret : ∀ (pc : Nat) (H : Heap) (locs : List Loc) (ls : Array Slot) (v : Int32) (cthrown : Int32) (css : (Nat → Int32)) (cstates : (Nat → Int32)) (cstateMany : Int32) (clength : Int32) (cat_ : Int32) (cisWell : Int32) (crd : (Nat → Int32)) (creadMany : Int32) (ctop : Int64) (cbottom : Int64), (v, cthrown, css, cstates, cstateMany, clength, cat_, cisWell, crd, creadMany, ctop, cbottom) = out → decode cX11_enter pc = .ok (.ireturn, 1) → xW g A s.heap (wM g h cthrown css cstates cstateMany snapshot hasSnapshot text clength cat_ cisWell crd creadMany ctop cbottom digit digitMany other otherMany column columnMany carryMany chainMost) H locs → W p l e { frames := 6, cells := 0, slots := 0, locals := 130 } s m [.ref (h 0)].toArray below meth c H locs 0 0 ZZ (F0 m pc ls [.int v]) := by
    intro pc H locs ls v cthrown css cstates cstateMany clength cat_ cisWell crd creadMany ctop cbottom he hd hw
    subst he
    rw [← hZ]
    exact W.iret hx hb hr (hpost H locs hw).1 (hpost H locs hw).2 hd hlocks
  clear hpost
  have b81 : ∀ (H : Heap) (locs : List Loc) (ls : Array Slot) (thrown : Int32) (ss : (Nat → Int32)) (states : (Nat → Int32)) (stateMany : Int32) (length : Int32) (at_ : Int32) (isWell : Int32) (rd : (Nat → Int32)) (readMany : Int32) (top : Int64) (bottom : Int64) (x1 : Int32) (x2 : Int32) (t0 : Int32) (t1 : Int32), xW g A s.heap (wM g h thrown ss states stateMany snapshot hasSnapshot text length at_ isWell rd readMany top bottom digit digitMany other otherMany column columnMany carryMany chainMost) H locs → lv_has ls 3 [(0, .ref (h 0)), (1, .int x1), (2, .int x2)] → f_X11_enter_b81 thrown ss states stateMany text length at_ isWell rd readMany top bottom x1 x2 t0 t1 = some out → W p l e { frames := 6, cells := 0, slots := 0, locals := 130 } s m [.ref (h 0)].toArray below meth c H locs 0 0 ZZ (F0 m 81 ls [.int t0, .int t1, .ref (h 1)]) := by
    intro H locs ls thrown ss states stateMany length at_ isWell rd readMany top bottom x1 x2 t0 t1 hw hl hf
    obtain ⟨hz, hf⟩ := nz hf
    refine xiast (ws' := (wM g h thrown (upd ss t1.toNatClampNeg t0) states stateMany snapshot hasSnapshot text length at_ isWell rd readMany top bottom digit digitMany other otherMany column columnMany carryMany chainMost)) E hw 1 rfl hz dX11_enter_81 rfl (fun H locs hw => ?_)
    refine lv_aload_n hx hb dX11_enter_82 rfl (lv_at hl 0 rfl) ?_
    refine xget (v := .ref (h 1)) E hw 0 rfl rfl 1 (by decide) inw11 qw1020 rfl rfl dX11_enter_83 ?_
    refine lv_iconst (v := 2) hx hb dX11_enter_86 (by decide) ?_
    refine lv_iload_n hx hb dX11_enter_87 rfl (lv_at hl 2 rfl) ?_
    refine xiast (ws' := (wM g h thrown (upd (upd ss t1.toNatClampNeg t0) (2 : Int32).toNatClampNeg x2) states stateMany snapshot hasSnapshot text length at_ isWell rd readMany top bottom digit digitMany other otherMany column columnMany carryMany chainMost)) E hw 1 rfl (by decide) dX11_enter_88 rfl (fun H locs hw => ?_)
    refine lv_iload_n hx hb dX11_enter_89 rfl (lv_at hl 1 rfl) ?_
    exact hret _ _ _ _ _ _ _ _ _ _ _ _ _ _ _ _ (Option.some.inj hf) dX11_enter_90 hw
  have b67 : ∀ (H : Heap) (locs : List Loc) (ls : Array Slot) (thrown : Int32) (ss : (Nat → Int32)) (states : (Nat → Int32)) (stateMany : Int32) (length : Int32) (at_ : Int32) (isWell : Int32) (rd : (Nat → Int32)) (readMany : Int32) (top : Int64) (bottom : Int64) (x1 : Int32) (x2 : Int32), xW g A s.heap (wM g h thrown ss states stateMany snapshot hasSnapshot text length at_ isWell rd readMany top bottom digit digitMany other otherMany column columnMany carryMany chainMost) H locs → lv_has ls 3 [(0, .ref (h 0)), (1, .int x1), (2, .int x2)] → f_X11_enter_b67 thrown ss states stateMany text length at_ isWell rd readMany top bottom x1 x2 = some out → W p l e { frames := 6, cells := 0, slots := 0, locals := 130 } s m [.ref (h 0)].toArray below meth c H locs 0 0 ZZ (F0 m 67 ls []) := by
    intro H locs ls thrown ss states stateMany length at_ isWell rd readMany top bottom x1 x2 hw hl hf
    refine lv_aload_n hx hb dX11_enter_67 rfl (lv_at hl 0 rfl) ?_
    refine xget (v := .ref (h 1)) E hw 0 rfl rfl 1 (by decide) inw11 qw1020 rfl rfl dX11_enter_68 ?_
    refine lv_iconst (v := 1) hx hb dX11_enter_71 (by decide) ?_
    refine lv_iload_n hx hb dX11_enter_72 rfl (lv_at hl 2 rfl) ?_
    refine lv_if_ne (tgt := 80) hx hb dX11_enter_73 (by decide) (fun c73 => ?_) (fun c73 => ?_)
    · replace hf := iq c73 hf
      refine lv_iload_n hx hb dX11_enter_80 rfl (lv_at hl 1 rfl) ?_
      exact b81 _ _ _ thrown ss states stateMany length at_ isWell rd readMany top bottom x1 x2 x1 1 hw (lv_sub hl [0, 1, 2] rfl) hf
    · replace hf := ip c73 hf
      refine lv_iconst (v := (-1)) hx hb dX11_enter_76 (by decide) ?_
      refine lv_goto (tgt := 81) hx hb dX11_enter_77 (by decide) ?_
      exact b81 _ _ _ thrown ss states stateMany length at_ isWell rd readMany top bottom x1 x2 (-1) 1 hw (lv_sub hl [0, 1, 2] rfl) hf
  have b31 : ∀ n31 : Nat, ∀ (H : Heap) (locs : List Loc) (ls : Array Slot) (thrown : Int32) (ss : (Nat → Int32)) (states : (Nat → Int32)) (stateMany : Int32) (length : Int32) (at_ : Int32) (isWell : Int32) (rd : (Nat → Int32)) (readMany : Int32) (top : Int64) (bottom : Int64) (x1 : Int32) (x2 : Int32), xW g A s.heap (wM g h thrown ss states stateMany snapshot hasSnapshot text length at_ isWell rd readMany top bottom digit digitMany other otherMany column columnMany carryMany chainMost) H locs → lv_has ls 3 [(0, .ref (h 0)), (1, .int x1), (2, .int x2)] → f_X11_enter_b31 n31 thrown ss states stateMany text length at_ isWell rd readMany top bottom x1 x2 = some out → W p l e { frames := 6, cells := 0, slots := 0, locals := 130 } s m [.ref (h 0)].toArray below meth c H locs 0 0 ZZ (F0 m 31 ls []) := by
    intro n31
    induction n31 with
    | zero =>
      intro H locs ls thrown ss states stateMany length at_ isWell rd readMany top bottom x1 x2 hw hl hf
      exact nn hf
    | succ n31 ih31 =>
      have b62 : ∀ (H : Heap) (locs : List Loc) (ls : Array Slot) (thrown : Int32) (ss : (Nat → Int32)) (states : (Nat → Int32)) (stateMany : Int32) (length : Int32) (at_ : Int32) (isWell : Int32) (rd : (Nat → Int32)) (readMany : Int32) (top : Int64) (bottom : Int64) (x2 : Int32) (t0 : Int32) (t1 : Int32), xW g A s.heap (wM g h thrown ss states stateMany snapshot hasSnapshot text length at_ isWell rd readMany top bottom digit digitMany other otherMany column columnMany carryMany chainMost) H locs → lv_has ls 3 [(0, .ref (h 0)), (2, .int x2)] → f_X11_enter_b62 (f_X11_enter_b31 n31) thrown ss states stateMany text length at_ isWell rd readMany top bottom x2 t0 t1 = some out → W p l e { frames := 6, cells := 0, slots := 0, locals := 130 } s m [.ref (h 0)].toArray below meth c H locs 0 0 ZZ (F0 m 62 ls [.int t0, .int t1]) := by
        intro H locs ls thrown ss states stateMany length at_ isWell rd readMany top bottom x2 t0 t1 hw hl hf
        refine lv_iadd hx hb dX11_enter_62 ?_
        refine lv_istore_n (lv' := [(1, .int (t1 + t0)), (0, .ref (h 0)), (2, .int x2)]) hx hb dX11_enter_63 rfl hl (by decide) rfl (fun ls hl => ?_)
        refine lv_goto (tgt := 31) hx hb dX11_enter_64 (by decide) ?_
        exact ih31 _ _ _ thrown ss states stateMany length at_ isWell rd readMany top bottom (t1 + t0) x2 hw (lv_sub hl [1, 0, 2] rfl) hf
      intro H locs ls thrown ss states stateMany length at_ isWell rd readMany top bottom x1 x2 hw hl hf
      refine lv_iload_n hx hb dX11_enter_31 rfl (lv_at hl 1 rfl) ?_
      refine lv_aload_n hx hb dX11_enter_32 rfl (lv_at hl 0 rfl) ?_
      refine xget (v := .int readMany) E hw 0 rfl rfl 11 (by decide) inw11 qw1030 rfl rfl dX11_enter_33 ?_
      refine lv_icmp_ge (tgt := 67) hx hb dX11_enter_36 (by decide) (fun c36 => ?_) (fun c36 => ?_)
      · replace hf := ip c36 hf
        exact b67 _ _ _ thrown ss states stateMany length at_ isWell rd readMany top bottom x1 x2 hw (lv_sub hl [0, 1, 2] rfl) hf
      · replace hf := iq c36 hf
        refine lv_iload_n hx hb dX11_enter_39 rfl (lv_at hl 2 rfl) ?_
        refine lv_if_ne (tgt := 67) hx hb dX11_enter_40 (by decide) (fun c40 => ?_) (fun c40 => ?_)
        · replace hf := iq c40 hf
          exact b67 _ _ _ thrown ss states stateMany length at_ isWell rd readMany top bottom x1 x2 hw (lv_sub hl [0, 1, 2] rfl) hf
        · replace hf := ip c40 hf
          refine lv_aload_n hx hb dX11_enter_43 rfl (lv_at hl 0 rfl) ?_
          refine lv_bipush (v := 24) hx hb dX11_enter_44 (by decide) ?_
          refine lv_iload_n hx hb dX11_enter_46 rfl (lv_at hl 1 rfl) ?_
          refine lv_imul hx hb dX11_enter_47 ?_
          obtain ⟨v48, hv48, hf⟩ := ob_e hf
          refine xcallV (ws' := (wM g h thrown v48.2.1 states stateMany snapshot hasSnapshot text length at_ isWell rd readMany v48.2.2.1 v48.2.2.2 digit digitMany other otherMany column columnMany carryMany chainMost)) (st1 := [.int v48.1]) (n := 9) E hw [.int (24 * x1)] [0, 1, 2, 3, 4, 5, 6, 7, 8] (met_X11_does l g h thrown ss states stateMany snapshot hasSnapshot text length at_ isWell rd readMany top bottom digit digitMany other otherMany column columnMany carryMany chainMost (24 * x1) v48 hv48) rfl (by decide) rfl rfl [9, 10, 11, 12, 13, 14, 15, 16, 17] rfl (by decide +kernel) rfl rfl rfl rfl qw1225 k_X11_does ⟨rfl, rfl, Nat.le_of_ble_eq_true rfl, Nat.le_of_ble_eq_true rfl⟩ ⟨Nat.zero_le _, Nat.zero_le _⟩ hl.1 (Nat.le_of_ble_eq_true rfl) dX11_enter_48 rfl (fun H locs hw => ?_)
          refine lv_istore_n (lv' := [(2, .int v48.1), (0, .ref (h 0)), (1, .int x1)]) hx hb dX11_enter_51 rfl hl (by decide) rfl (fun ls hl => ?_)
          refine lv_iload_n hx hb dX11_enter_52 rfl (lv_at hl 2 rfl) ?_
          refine lv_iload_n hx hb dX11_enter_53 rfl (lv_at hl 0 rfl) ?_
          refine lv_if_ne (tgt := 61) hx hb dX11_enter_54 (by decide) (fun c54 => ?_) (fun c54 => ?_)
          · replace hf := iq c54 hf
            refine lv_iconst (v := 0) hx hb dX11_enter_61 (by decide) ?_
            exact b62 _ _ _ thrown v48.2.1 states stateMany length at_ isWell rd readMany v48.2.2.1 v48.2.2.2 v48.1 0 x1 hw (lv_sub hl [1, 0] rfl) hf
          · replace hf := ip c54 hf
            refine lv_iconst (v := 1) hx hb dX11_enter_57 (by decide) ?_
            refine lv_goto (tgt := 62) hx hb dX11_enter_58 (by decide) ?_
            exact b62 _ _ _ thrown v48.2.1 states stateMany length at_ isWell rd readMany v48.2.2.1 v48.2.2.2 v48.1 1 x1 hw (lv_sub hl [1, 0] rfl) hf
  refine lv_aload_n hx hb dX11_enter_0 rfl (lv_at hl 0 rfl) ?_
  refine lv_iconst (v := 0) hx hb dX11_enter_1 (by decide) ?_
  refine xput (ws' := (wM g h 0 ss states stateMany snapshot hasSnapshot text length at_ isWell rd readMany top bottom digit digitMany other otherMany column columnMany carryMany chainMost)) E hw 0 rfl rfl 0 (by decide) inw11 tyX11_ok nmX11 qw1019 rfl rfl rfl rfl (Nat.le_of_ble_eq_true rfl) dX11_enter_2 rfl (fun H locs hw => ?_)
  refine lv_aload_n hx hb dX11_enter_5 rfl (lv_at hl 0 rfl) ?_
  obtain ⟨v6, hv6, hf⟩ := ob_e hf
  refine xcallV (ws' := (wM g h 0 ss states stateMany snapshot hasSnapshot text length v6.2.1 v6.2.2.1 v6.2.2.2.1 v6.2.2.2.2 top bottom digit digitMany other otherMany column columnMany carryMany chainMost)) (st1 := [.int v6.1]) (n := 9) E hw [] [0, 1, 2, 3, 4, 5, 6, 7, 8] (met_X11_readsEntries l g h 0 ss states stateMany snapshot hasSnapshot text length at_ isWell rd readMany top bottom digit digitMany other otherMany column columnMany carryMany chainMost v6 hv6) rfl (by decide) rfl rfl [9, 10, 11, 12, 13, 14, 15, 16, 17] rfl (by decide +kernel) rfl rfl rfl rfl qw1189 k_X11_readsEntries ⟨rfl, rfl, Nat.le_of_ble_eq_true rfl, Nat.le_of_ble_eq_true rfl⟩ ⟨Nat.zero_le _, Nat.zero_le _⟩ hl.1 (Nat.le_of_ble_eq_true rfl) dX11_enter_6 rfl (fun H locs hw => ?_)
  refine lv_if_ne (tgt := 18) hx hb dX11_enter_9 (by decide) (fun c9 => ?_) (fun c9 => ?_)
  · replace hf := iq c9 hf
    refine lv_aload_n hx hb dX11_enter_18 rfl (lv_at hl 0 rfl) ?_
    obtain ⟨v19, hv19, hf⟩ := ob_e hf
    refine xcallV (ws' := (wM g h 0 ss v19.1 v19.2 snapshot hasSnapshot text length v6.2.1 v6.2.2.1 v6.2.2.2.1 v6.2.2.2.2 top bottom digit digitMany other otherMany column columnMany carryMany chainMost)) (st1 := []) (n := 9) E hw [] [0, 1, 2, 3, 4, 5, 6, 7, 8] (met_X11_records l g h 0 ss states stateMany snapshot hasSnapshot text length v6.2.1 v6.2.2.1 v6.2.2.2.1 v6.2.2.2.2 top bottom digit digitMany other otherMany column columnMany carryMany chainMost v19 hv19) rfl (by decide) rfl rfl [9, 10, 11, 12, 13, 14, 15, 16, 17] rfl (by decide +kernel) rfl rfl rfl rfl qw1104 k_X11_records ⟨rfl, rfl, Nat.le_of_ble_eq_true rfl, Nat.le_of_ble_eq_true rfl⟩ ⟨Nat.zero_le _, Nat.zero_le _⟩ hl.1 (Nat.le_of_ble_eq_true rfl) dX11_enter_19 rfl (fun H locs hw => ?_)
    refine lv_aload_n hx hb dX11_enter_22 rfl (lv_at hl 0 rfl) ?_
    refine lv_iconst (v := 0) hx hb dX11_enter_23 (by decide) ?_
    refine xput (ws' := (wM g h 0 ss v19.1 v19.2 snapshot hasSnapshot text 0 v6.2.1 v6.2.2.1 v6.2.2.2.1 v6.2.2.2.2 top bottom digit digitMany other otherMany column columnMany carryMany chainMost)) E hw 0 rfl rfl 7 (by decide) inw11 tyX11_ok nmX11 qw1026 rfl rfl rfl rfl (Nat.le_of_ble_eq_true rfl) dX11_enter_24 rfl (fun H locs hw => ?_)
    refine lv_iconst (v := 0) hx hb dX11_enter_27 (by decide) ?_
    refine lv_istore_n (lv' := [(1, .int 0), (0, .ref (h 0))]) hx hb dX11_enter_28 rfl hl (by decide) rfl (fun ls hl => ?_)
    refine lv_iconst (v := 0) hx hb dX11_enter_29 (by decide) ?_
    refine lv_istore_n (lv' := [(2, .int 0), (1, .int 0), (0, .ref (h 0))]) hx hb dX11_enter_30 rfl hl (by decide) rfl (fun ls hl => ?_)
    exact b31 xfuel _ _ _ 0 ss v19.1 v19.2 0 v6.2.1 v6.2.2.1 v6.2.2.2.1 v6.2.2.2.2 top bottom 0 0 hw (lv_sub hl [2, 1, 0] rfl) hf
  · replace hf := ip c9 hf
    refine lv_aload_n hx hb dX11_enter_12 rfl (lv_at hl 0 rfl) ?_
    refine lv_iconst (v := 1) hx hb dX11_enter_13 (by decide) ?_
    obtain ⟨v14, hv14, hf⟩ := ob_e hf
    refine xcallV (ws' := (wM g h v14.2 ss states stateMany snapshot hasSnapshot text length v6.2.1 v6.2.2.1 v6.2.2.2.1 v6.2.2.2.2 top bottom digit digitMany other otherMany column columnMany carryMany chainMost)) (st1 := [.int v14.1]) (n := 9) E hw [.int 1] [0, 1, 2, 3, 4, 5, 6, 7, 8] (met_X11_fails l g h 0 ss states stateMany snapshot hasSnapshot text length v6.2.1 v6.2.2.1 v6.2.2.2.1 v6.2.2.2.2 top bottom digit digitMany other otherMany column columnMany carryMany chainMost 1 v14 hv14) rfl (by decide) rfl rfl [9, 10, 11, 12, 13, 14, 15, 16, 17] rfl (by decide +kernel) rfl rfl rfl rfl qw1100 k_X11_fails ⟨rfl, rfl, Nat.le_of_ble_eq_true rfl, Nat.le_of_ble_eq_true rfl⟩ ⟨Nat.zero_le _, Nat.zero_le _⟩ hl.1 (Nat.le_of_ble_eq_true rfl) dX11_enter_14 rfl (fun H locs hw => ?_)
    exact hret _ _ _ _ _ _ _ _ _ _ _ _ _ _ _ _ (Option.some.inj hf) dX11_enter_17 hw
theorem k_X11_hasStopped : xKV yX11_hasStopped cX11_hasStopped 1 (some .boolean) 0 := ⟨qw1242, qw1243, qw74, qw1244, by decide +kernel, by decide +kernel, by decide +kernel⟩
set_option maxHeartbeats 4000000 in
set_option maxRecDepth 100000 in
theorem met_X11_hasStopped (l : Launch) (g : xG) (h : Nat → Nat) (thrown : Int32) (ss : (Nat → Int32)) (states : (Nat → Int32)) (stateMany : Int32) (snapshot : (Nat → Int32)) (hasSnapshot : Int32) (text : (Nat → Int32)) (length : Int32) (at_ : Int32) (isWell : Int32) (rd : (Nat → Int32)) (readMany : Int32) (top : Int64) (bottom : Int64) (digit : (Nat → Int32)) (digitMany : Int32) (other : (Nat → Int32)) (otherMany : Int32) (column : (Nat → Int32)) (columnMany : Int32) (carryMany : Int32) (chainMost : Int32) (out : Int32 × Int32) (hf : f_X11_hasStopped thrown ss = some out) : xM l yX11_hasStopped (xC yX11_hasStopped cX11_hasStopped 1 (some .boolean)) { frames := 0, cells := 0, slots := 0, locals := 0 } g (wM g h thrown ss states stateMany snapshot hasSnapshot text length at_ isWell rd readMany top bottom digit digitMany other otherMany column columnMany carryMany chainMost) [.ref (h 0)] (some (.int out.1)) (wM g h out.2 ss states stateMany snapshot hasSnapshot text length at_ isWell rd readMany top bottom digit digitMany other otherMany column columnMany carryMany chainMost) := by
  refine xof (by decide) (Nat.le_of_ble_eq_true rfl) ⟨rfl, rfl⟩ ?_
  intro p e s m below meth c A ls E hr hlocks hw hl hpost hAe
  have hx := E.1.1
  have hb := E.1.2.1
  have hown := E.1.2.2.2.1
  have hts := E.1.2.2.2.2
  generalize hZ : (MQ below (xPost g (wM g h thrown ss states stateMany snapshot hasSnapshot text length at_ isWell rd readMany top bottom digit digitMany other otherMany column columnMany carryMany chainMost) (wM g h out.2 ss states stateMany snapshot hasSnapshot text length at_ isWell rd readMany top bottom digit digitMany other otherMany column columnMany carryMany chainMost) s.heap.size (some (.int out.1))) [.ref (h 0)].toArray s 0 0 A) = ZZ
  have hret : ∀ (pc : Nat) (H : Heap) (locs : List Loc) (ls : Array Slot) (v : Int32) (cthrown : Int32), narrow .boolean (.int v) = .int v → (v, cthrown) = out → decode cX11_hasStopped pc = .ok (.ireturn, 1) → xW g A s.heap (wM g h cthrown ss states stateMany snapshot hasSnapshot text length at_ isWell rd readMany top bottom digit digitMany other otherMany column columnMany carryMany chainMost) H locs → W p l e { frames := 0, cells := 0, slots := 0, locals := 0 } s m [.ref (h 0)].toArray below meth c H locs 0 0 ZZ (F0 m pc ls [.int v]) := by
    intro pc H locs ls v cthrown hn he hd hw
    subst he
    rw [← hZ]
    exact W.zret hx hb hr hn (hpost H locs hw).1 (hpost H locs hw).2 hd hlocks
  clear hpost
  refine lv_aload_n hx hb dX11_hasStopped_0 rfl (lv_at hl 0 rfl) ?_
  refine lv_iconst (v := 0) hx hb dX11_hasStopped_1 (by decide) ?_
  refine xput (ws' := (wM g h 0 ss states stateMany snapshot hasSnapshot text length at_ isWell rd readMany top bottom digit digitMany other otherMany column columnMany carryMany chainMost)) E hw 0 rfl rfl 0 (by decide) inw11 tyX11_ok nmX11 qw1019 rfl rfl rfl rfl (Nat.le_of_ble_eq_true rfl) dX11_hasStopped_2 rfl (fun H locs hw => ?_)
  refine lv_aload_n hx hb dX11_hasStopped_5 rfl (lv_at hl 0 rfl) ?_
  refine xget (v := .ref (h 1)) E hw 0 rfl rfl 1 (by decide) inw11 qw1020 rfl rfl dX11_hasStopped_6 ?_
  refine lv_iconst (v := 1) hx hb dX11_hasStopped_9 (by decide) ?_
  refine xiald E hw 1 rfl (by decide) dX11_hasStopped_10 ?_
  refine lv_iconst (v := (-1)) hx hb dX11_hasStopped_11 (by decide) ?_
  refine lv_icmp_eq (tgt := 19) hx hb dX11_hasStopped_12 (by decide) (fun c12 => ?_) (fun c12 => ?_)
  · replace hf := ip c12 hf
    refine lv_iconst (v := 0) hx hb dX11_hasStopped_19 (by decide) ?_
    exact hret _ _ _ _ _ _ (by decide) (Option.some.inj hf) dX11_hasStopped_20 hw
  · replace hf := iq c12 hf
    refine lv_iconst (v := 1) hx hb dX11_hasStopped_15 (by decide) ?_
    refine lv_goto (tgt := 20) hx hb dX11_hasStopped_16 (by decide) ?_
    exact hret _ _ _ _ _ _ (by decide) (Option.some.inj hf) dX11_hasStopped_20 hw
theorem k_X11_stoppedPart : xKV yX11_stoppedPart cX11_stoppedPart 1 (some .int) 0 := ⟨qw1246, qw1247, qw74, qw1248, by decide +kernel, by decide +kernel, by decide +kernel⟩
set_option maxHeartbeats 4000000 in
set_option maxRecDepth 100000 in
theorem met_X11_stoppedPart (l : Launch) (g : xG) (h : Nat → Nat) (thrown : Int32) (ss : (Nat → Int32)) (states : (Nat → Int32)) (stateMany : Int32) (snapshot : (Nat → Int32)) (hasSnapshot : Int32) (text : (Nat → Int32)) (length : Int32) (at_ : Int32) (isWell : Int32) (rd : (Nat → Int32)) (readMany : Int32) (top : Int64) (bottom : Int64) (digit : (Nat → Int32)) (digitMany : Int32) (other : (Nat → Int32)) (otherMany : Int32) (column : (Nat → Int32)) (columnMany : Int32) (carryMany : Int32) (chainMost : Int32) (out : Int32 × Int32) (hf : f_X11_stoppedPart thrown ss = some out) : xM l yX11_stoppedPart (xC yX11_stoppedPart cX11_stoppedPart 1 (some .int)) { frames := 1, cells := 0, slots := 0, locals := 21 } g (wM g h thrown ss states stateMany snapshot hasSnapshot text length at_ isWell rd readMany top bottom digit digitMany other otherMany column columnMany carryMany chainMost) [.ref (h 0)] (some (.int out.1)) (wM g h out.2 ss states stateMany snapshot hasSnapshot text length at_ isWell rd readMany top bottom digit digitMany other otherMany column columnMany carryMany chainMost) := by
  refine xof (by decide) (Nat.le_of_ble_eq_true rfl) ⟨rfl, rfl⟩ ?_
  intro p e s m below meth c A ls E hr hlocks hw hl hpost hAe
  have hx := E.1.1
  have hb := E.1.2.1
  have hown := E.1.2.2.2.1
  have hts := E.1.2.2.2.2
  generalize hZ : (MQ below (xPost g (wM g h thrown ss states stateMany snapshot hasSnapshot text length at_ isWell rd readMany top bottom digit digitMany other otherMany column columnMany carryMany chainMost) (wM g h out.2 ss states stateMany snapshot hasSnapshot text length at_ isWell rd readMany top bottom digit digitMany other otherMany column columnMany carryMany chainMost) s.heap.size (some (.int out.1))) [.ref (h 0)].toArray s 0 0 A) = ZZ
  have hret : ∀ (pc : Nat) (H : Heap) (locs : List Loc) (ls : Array Slot) (v : Int32) (cthrown : Int32), (v, cthrown) = out → decode cX11_stoppedPart pc = .ok (.ireturn, 1) → xW g A s.heap (wM g h cthrown ss states stateMany snapshot hasSnapshot text length at_ isWell rd readMany top bottom digit digitMany other otherMany column columnMany carryMany chainMost) H locs → W p l e { frames := 1, cells := 0, slots := 0, locals := 21 } s m [.ref (h 0)].toArray below meth c H locs 0 0 ZZ (F0 m pc ls [.int v]) := by
    intro pc H locs ls v cthrown he hd hw
    subst he
    rw [← hZ]
    exact W.iret hx hb hr (hpost H locs hw).1 (hpost H locs hw).2 hd hlocks
  clear hpost
  refine lv_aload_n hx hb dX11_stoppedPart_0 rfl (lv_at hl 0 rfl) ?_
  refine lv_iconst (v := 0) hx hb dX11_stoppedPart_1 (by decide) ?_
  refine xput (ws' := (wM g h 0 ss states stateMany snapshot hasSnapshot text length at_ isWell rd readMany top bottom digit digitMany other otherMany column columnMany carryMany chainMost)) E hw 0 rfl rfl 0 (by decide) inw11 tyX11_ok nmX11 qw1019 rfl rfl rfl rfl (Nat.le_of_ble_eq_true rfl) dX11_stoppedPart_2 rfl (fun H locs hw => ?_)
  refine lv_aload_n hx hb dX11_stoppedPart_5 rfl (lv_at hl 0 rfl) ?_
  refine xget (v := .ref (h 1)) E hw 0 rfl rfl 1 (by decide) inw11 qw1020 rfl rfl dX11_stoppedPart_6 ?_
  refine lv_iconst (v := 1) hx hb dX11_stoppedPart_9 (by decide) ?_
  refine xiald E hw 1 rfl (by decide) dX11_stoppedPart_10 ?_
  refine lv_iconst (v := (-1)) hx hb dX11_stoppedPart_11 (by decide) ?_
  refine lv_icmp_ne (tgt := 23) hx hb dX11_stoppedPart_12 (by decide) (fun c12 => ?_) (fun c12 => ?_)
  · replace hf := iq c12 hf
    refine lv_aload_n hx hb dX11_stoppedPart_23 rfl (lv_at hl 0 rfl) ?_
    refine xget (v := .ref (h 1)) E hw 0 rfl rfl 1 (by decide) inw11 qw1020 rfl rfl dX11_stoppedPart_24 ?_
    refine lv_iconst (v := 1) hx hb dX11_stoppedPart_27 (by decide) ?_
    refine xiald E hw 1 rfl (by decide) dX11_stoppedPart_28 ?_
    exact hret _ _ _ _ _ _ (Option.some.inj hf) dX11_stoppedPart_29 hw
  · replace hf := ip c12 hf
    refine lv_aload_n hx hb dX11_stoppedPart_15 rfl (lv_at hl 0 rfl) ?_
    refine lv_iconst (v := 1) hx hb dX11_stoppedPart_16 (by decide) ?_
    obtain ⟨v17, hv17, hf⟩ := ob_e hf
    refine xcallV (ws' := (wM g h v17.2 ss states stateMany snapshot hasSnapshot text length at_ isWell rd readMany top bottom digit digitMany other otherMany column columnMany carryMany chainMost)) (st1 := [.int v17.1]) (n := 9) E hw [.int 1] [0, 1, 2, 3, 4, 5, 6, 7, 8] (met_X11_fails l g h 0 ss states stateMany snapshot hasSnapshot text length at_ isWell rd readMany top bottom digit digitMany other otherMany column columnMany carryMany chainMost 1 v17 hv17) rfl (by decide) rfl rfl [9, 10, 11, 12, 13, 14, 15, 16, 17] rfl (by decide +kernel) rfl rfl rfl rfl qw1100 k_X11_fails ⟨rfl, rfl, Nat.le_of_ble_eq_true rfl, Nat.le_of_ble_eq_true rfl⟩ ⟨Nat.zero_le _, Nat.zero_le _⟩ hl.1 (Nat.le_of_ble_eq_true rfl) dX11_stoppedPart_17 rfl (fun H locs hw => ?_)
    refine lv_goto (tgt := 29) hx hb dX11_stoppedPart_20 (by decide) ?_
    exact hret _ _ _ _ _ _ (Option.some.inj hf) dX11_stoppedPart_29 hw
theorem k_X11_whyStopped : xKV yX11_whyStopped cX11_whyStopped 1 (some .int) 0 := ⟨qw1250, qw1251, qw74, qw1252, by decide +kernel, by decide +kernel, by decide +kernel⟩
set_option maxHeartbeats 4000000 in
set_option maxRecDepth 100000 in
theorem met_X11_whyStopped (l : Launch) (g : xG) (h : Nat → Nat) (thrown : Int32) (ss : (Nat → Int32)) (states : (Nat → Int32)) (stateMany : Int32) (snapshot : (Nat → Int32)) (hasSnapshot : Int32) (text : (Nat → Int32)) (length : Int32) (at_ : Int32) (isWell : Int32) (rd : (Nat → Int32)) (readMany : Int32) (top : Int64) (bottom : Int64) (digit : (Nat → Int32)) (digitMany : Int32) (other : (Nat → Int32)) (otherMany : Int32) (column : (Nat → Int32)) (columnMany : Int32) (carryMany : Int32) (chainMost : Int32) (out : Int32 × Int32) (hf : f_X11_whyStopped thrown ss = some out) : xM l yX11_whyStopped (xC yX11_whyStopped cX11_whyStopped 1 (some .int)) { frames := 1, cells := 0, slots := 0, locals := 21 } g (wM g h thrown ss states stateMany snapshot hasSnapshot text length at_ isWell rd readMany top bottom digit digitMany other otherMany column columnMany carryMany chainMost) [.ref (h 0)] (some (.int out.1)) (wM g h out.2 ss states stateMany snapshot hasSnapshot text length at_ isWell rd readMany top bottom digit digitMany other otherMany column columnMany carryMany chainMost) := by
  refine xof (by decide) (Nat.le_of_ble_eq_true rfl) ⟨rfl, rfl⟩ ?_
  intro p e s m below meth c A ls E hr hlocks hw hl hpost hAe
  have hx := E.1.1
  have hb := E.1.2.1
  have hown := E.1.2.2.2.1
  have hts := E.1.2.2.2.2
  generalize hZ : (MQ below (xPost g (wM g h thrown ss states stateMany snapshot hasSnapshot text length at_ isWell rd readMany top bottom digit digitMany other otherMany column columnMany carryMany chainMost) (wM g h out.2 ss states stateMany snapshot hasSnapshot text length at_ isWell rd readMany top bottom digit digitMany other otherMany column columnMany carryMany chainMost) s.heap.size (some (.int out.1))) [.ref (h 0)].toArray s 0 0 A) = ZZ
  have hret : ∀ (pc : Nat) (H : Heap) (locs : List Loc) (ls : Array Slot) (v : Int32) (cthrown : Int32), (v, cthrown) = out → decode cX11_whyStopped pc = .ok (.ireturn, 1) → xW g A s.heap (wM g h cthrown ss states stateMany snapshot hasSnapshot text length at_ isWell rd readMany top bottom digit digitMany other otherMany column columnMany carryMany chainMost) H locs → W p l e { frames := 1, cells := 0, slots := 0, locals := 21 } s m [.ref (h 0)].toArray below meth c H locs 0 0 ZZ (F0 m pc ls [.int v]) := by
    intro pc H locs ls v cthrown he hd hw
    subst he
    rw [← hZ]
    exact W.iret hx hb hr (hpost H locs hw).1 (hpost H locs hw).2 hd hlocks
  clear hpost
  refine lv_aload_n hx hb dX11_whyStopped_0 rfl (lv_at hl 0 rfl) ?_
  refine lv_iconst (v := 0) hx hb dX11_whyStopped_1 (by decide) ?_
  refine xput (ws' := (wM g h 0 ss states stateMany snapshot hasSnapshot text length at_ isWell rd readMany top bottom digit digitMany other otherMany column columnMany carryMany chainMost)) E hw 0 rfl rfl 0 (by decide) inw11 tyX11_ok nmX11 qw1019 rfl rfl rfl rfl (Nat.le_of_ble_eq_true rfl) dX11_whyStopped_2 rfl (fun H locs hw => ?_)
  refine lv_aload_n hx hb dX11_whyStopped_5 rfl (lv_at hl 0 rfl) ?_
  refine xget (v := .ref (h 1)) E hw 0 rfl rfl 1 (by decide) inw11 qw1020 rfl rfl dX11_whyStopped_6 ?_
  refine lv_iconst (v := 1) hx hb dX11_whyStopped_9 (by decide) ?_
  refine xiald E hw 1 rfl (by decide) dX11_whyStopped_10 ?_
  refine lv_iconst (v := (-1)) hx hb dX11_whyStopped_11 (by decide) ?_
  refine lv_icmp_ne (tgt := 23) hx hb dX11_whyStopped_12 (by decide) (fun c12 => ?_) (fun c12 => ?_)
  · replace hf := iq c12 hf
    refine lv_aload_n hx hb dX11_whyStopped_23 rfl (lv_at hl 0 rfl) ?_
    refine xget (v := .ref (h 1)) E hw 0 rfl rfl 1 (by decide) inw11 qw1020 rfl rfl dX11_whyStopped_24 ?_
    refine lv_iconst (v := 2) hx hb dX11_whyStopped_27 (by decide) ?_
    refine xiald E hw 1 rfl (by decide) dX11_whyStopped_28 ?_
    exact hret _ _ _ _ _ _ (Option.some.inj hf) dX11_whyStopped_29 hw
  · replace hf := ip c12 hf
    refine lv_aload_n hx hb dX11_whyStopped_15 rfl (lv_at hl 0 rfl) ?_
    refine lv_iconst (v := 1) hx hb dX11_whyStopped_16 (by decide) ?_
    obtain ⟨v17, hv17, hf⟩ := ob_e hf
    refine xcallV (ws' := (wM g h v17.2 ss states stateMany snapshot hasSnapshot text length at_ isWell rd readMany top bottom digit digitMany other otherMany column columnMany carryMany chainMost)) (st1 := [.int v17.1]) (n := 9) E hw [.int 1] [0, 1, 2, 3, 4, 5, 6, 7, 8] (met_X11_fails l g h 0 ss states stateMany snapshot hasSnapshot text length at_ isWell rd readMany top bottom digit digitMany other otherMany column columnMany carryMany chainMost 1 v17 hv17) rfl (by decide) rfl rfl [9, 10, 11, 12, 13, 14, 15, 16, 17] rfl (by decide +kernel) rfl rfl rfl rfl qw1100 k_X11_fails ⟨rfl, rfl, Nat.le_of_ble_eq_true rfl, Nat.le_of_ble_eq_true rfl⟩ ⟨Nat.zero_le _, Nat.zero_le _⟩ hl.1 (Nat.le_of_ble_eq_true rfl) dX11_whyStopped_17 rfl (fun H locs hw => ?_)
    refine lv_goto (tgt := 29) hx hb dX11_whyStopped_20 (by decide) ?_
    exact hret _ _ _ _ _ _ (Option.some.inj hf) dX11_whyStopped_29 hw
