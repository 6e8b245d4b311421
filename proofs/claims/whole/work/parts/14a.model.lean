theorem k_X11_thrown : xKV yX11_thrown cX11_thrown 1 (some .int) 0 := ⟨qw1087, qw1088, qw74, qw1089, by decide +kernel, by decide +kernel, by decide +kernel⟩
set_option maxHeartbeats 4000000 in
set_option maxRecDepth 100000 in
theorem met_X11_thrown (l : Launch) (g : xG) (h : Nat → Nat) (thrown : Int32) (ss : (Nat → Int32)) (states : (Nat → Int32)) (stateMany : Int32) (snapshot : (Nat → Int32)) (hasSnapshot : Int32) (text : (Nat → Int32)) (length : Int32) (at_ : Int32) (isWell : Int32) (rd : (Nat → Int32)) (readMany : Int32) (top : Int64) (bottom : Int64) (digit : (Nat → Int32)) (digitMany : Int32) (other : (Nat → Int32)) (otherMany : Int32) (column : (Nat → Int32)) (columnMany : Int32) (carryMany : Int32) (chainMost : Int32) (out : Int32) (hf : f_X11_thrown thrown = some out) : xM l yX11_thrown (xC yX11_thrown cX11_thrown 1 (some .int)) { frames := 0, cells := 0, slots := 0, locals := 0 } g (wM g h thrown ss states stateMany snapshot hasSnapshot text length at_ isWell rd readMany top bottom digit digitMany other otherMany column columnMany carryMany chainMost) [.ref (h 0)] (some (.int out)) (wM g h thrown ss states stateMany snapshot hasSnapshot text length at_ isWell rd readMany top bottom digit digitMany other otherMany column columnMany carryMany chainMost) := by
  refine xof (by decide) (Nat.le_of_ble_eq_true rfl) ⟨rfl, rfl⟩ ?_
  intro p e s m below meth c A ls E hr hlocks hw hl hpost hAe
  have hx := E.1.1
  have hb := E.1.2.1
  have hown := E.1.2.2.2.1
  have hts := E.1.2.2.2.2
  generalize hZ : (MQ below (xPost g (wM g h thrown ss states stateMany snapshot hasSnapshot text length at_ isWell rd readMany top bottom digit digitMany other otherMany column columnMany carryMany chainMost) (wM g h thrown ss states stateMany snapshot hasSnapshot text length at_ isWell rd readMany top bottom digit digitMany other otherMany column columnMany carryMany chainMost) s.heap.size (some (.int out))) [.ref (h 0)].toArray s 0 0 A) = ZZ
  have hret : ∀ (pc : Nat) (H : Heap) (locs : List Loc) (ls : Array Slot) (v : Int32), v = out → decode cX11_thrown pc = .ok (.ireturn, 1) → xW g A s.heap (wM g h thrown ss states stateMany snapshot hasSnapshot text length at_ isWell rd readMany top bottom digit digitMany other otherMany column columnMany carryMany chainMost) H locs → W p l e { frames := 0, cells := 0, slots := 0, locals := 0 } s m [.ref (h 0)].toArray below meth c H locs 0 0 ZZ (F0 m pc ls [.int v]) := by
    intro pc H locs ls v he hd hw
    subst he
    rw [← hZ]
    exact W.iret hx hb hr (hpost H locs hw).1 (hpost H locs hw).2 hd hlocks
  clear hpost
  refine lv_aload_n hx hb dX11_thrown_0 rfl (lv_at hl 0 rfl) ?_
  refine xget (v := .int thrown) E hw 0 rfl rfl 0 (by decide) inw11 qw1019 rfl rfl dX11_thrown_1 ?_
  exact hret _ _ _ _ _ (Option.some.inj hf) dX11_thrown_4 hw
theorem k_X11_fails : xKV yX11_fails cX11_fails 2 (some .int) 1 := ⟨qw1102, qw22, qw74, qw1103, by decide +kernel, by decide +kernel, by decide +kernel⟩
set_option maxHeartbeats 4000000 in
set_option maxRecDepth 100000 in
theorem met_X11_fails (l : Launch) (g : xG) (h : Nat → Nat) (thrown : Int32) (ss : (Nat → Int32)) (states : (Nat → Int32)) (stateMany : Int32) (snapshot : (Nat → Int32)) (hasSnapshot : Int32) (text : (Nat → Int32)) (length : Int32) (at_ : Int32) (isWell : Int32) (rd : (Nat → Int32)) (readMany : Int32) (top : Int64) (bottom : Int64) (digit : (Nat → Int32)) (digitMany : Int32) (other : (Nat → Int32)) (otherMany : Int32) (column : (Nat → Int32)) (columnMany : Int32) (carryMany : Int32) (chainMost : Int32) (a1 : Int32) (out : Int32 × Int32) (hf : f_X11_fails thrown a1 = some out) : xM l yX11_fails (xC yX11_fails cX11_fails 2 (some .int)) { frames := 0, cells := 0, slots := 0, locals := 0 } g (wM g h thrown ss states stateMany snapshot hasSnapshot text length at_ isWell rd readMany top bottom digit digitMany other otherMany column columnMany carryMany chainMost) [.ref (h 0), .int a1] (some (.int out.1)) (wM g h out.2 ss states stateMany snapshot hasSnapshot text length at_ isWell rd readMany top bottom digit digitMany other otherMany column columnMany carryMany chainMost) := by
  refine xof (by decide) (Nat.le_of_ble_eq_true rfl) ⟨rfl, rfl⟩ ?_
  intro p e s m below meth c A ls E hr hlocks hw hl hpost hAe
  have hx := E.1.1
  have hb := E.1.2.1
  have hown := E.1.2.2.2.1
  have hts := E.1.2.2.2.2
  generalize hZ : (MQ below (xPost g (wM g h thrown ss states stateMany snapshot hasSnapshot text length at_ isWell rd readMany top bottom digit digitMany other otherMany column columnMany carryMany chainMost) (wM g h out.2 ss states stateMany snapshot hasSnapshot text length at_ isWell rd readMany top bottom digit digitMany other otherMany column columnMany carryMany chainMost) s.heap.size (some (.int out.1))) [.ref (h 0), .int a1].toArray s 0 0 A) = ZZ
  have hret : ∀ (pc : Nat) (H : Heap) (locs : List Loc) (ls : Array Slot) (v : Int32) (cthrown : Int32), (v, cthrown) = out → decode cX11_fails pc = .ok (.ireturn, 1) → xW g A s.heap (wM g h cthrown ss states stateMany snapshot hasSnapshot text length at_ isWell rd readMany top bottom digit digitMany other otherMany column columnMany carryMany chainMost) H locs → W p l e { frames := 0, cells := 0, slots := 0, locals := 0 } s m [.ref (h 0), .int a1].toArray below meth c H locs 0 0 ZZ (F0 m pc ls [.int v]) := by
    intro pc H locs ls v cthrown he hd hw
    subst he
    rw [← hZ]
    exact W.iret hx hb hr (hpost H locs hw).1 (hpost H locs hw).2 hd hlocks
  clear hpost
  refine lv_aload_n hx hb dX11_fails_0 rfl (lv_at hl 0 rfl) ?_
  refine lv_iload_n hx hb dX11_fails_1 rfl (lv_at hl 1 rfl) ?_
  refine xput (ws' := (wM g h a1 ss states stateMany snapshot hasSnapshot text length at_ isWell rd readMany top bottom digit digitMany other otherMany column columnMany carryMany chainMost)) E hw 0 rfl rfl 0 (by decide) inw11 tyX11_ok nmX11 qw1019 rfl rfl rfl rfl (Nat.le_of_ble_eq_true rfl) dX11_fails_2 rfl (fun H locs hw => ?_)
  refine lv_iconst (v := 0) hx hb dX11_fails_5 (by decide) ?_
  exact hret _ _ _ _ _ _ (Option.some.inj hf) dX11_fails_6 hw
theorem k_X11_in : xKS yX11_in cX11_in 3 (some .boolean) 3 := ⟨qw1098, qw74, qw1099, by decide +kernel, by decide +kernel, by decide +kernel⟩
set_option maxHeartbeats 4000000 in
set_option maxRecDepth 100000 in
theorem met_X11_in (l : Launch) (g : xG) (a0 : Int32) (a1 : Int32) (a2 : Int32) (out : Int32) (hf : f_X11_in a0 a1 a2 = some out) : xM l yX11_in (xC yX11_in cX11_in 3 (some .boolean)) { frames := 0, cells := 0, slots := 0, locals := 0 } g ([] : va_W) [.int a0, .int a1, .int a2] (some (.int out)) ([] : va_W) := by
  refine xof (by decide) (Nat.le_of_ble_eq_true rfl) ⟨rfl, rfl⟩ ?_
  intro p e s m below meth c A ls E hr hlocks hw hl hpost hAe
  have hx := E.1.1
  have hb := E.1.2.1
  have hown := E.1.2.2.2.1
  have hts := E.1.2.2.2.2
  generalize hZ : (MQ below (xPost g ([] : va_W) ([] : va_W) s.heap.size (some (.int out))) [.int a0, .int a1, .int a2].toArray s 0 0 A) = ZZ
  have hret : ∀ (pc : Nat) (H : Heap) (locs : List Loc) (ls : Array Slot) (v : Int32), narrow .boolean (.int v) = .int v → v = out → decode cX11_in pc = .ok (.ireturn, 1) → xW g A s.heap ([] : va_W) H locs → W p l e { frames := 0, cells := 0, slots := 0, locals := 0 } s m [.int a0, .int a1, .int a2].toArray below meth c H locs 0 0 ZZ (F0 m pc ls [.int v]) := by
    intro pc H locs ls v hn he hd hw
    subst he
    rw [← hZ]
    exact W.zret hx hb hr hn (hpost H locs hw).1 (hpost H locs hw).2 hd hlocks
  clear hpost
  refine lv_iload_n hx hb dX11_in_0 rfl (lv_at hl 0 rfl) ?_
  refine lv_iload_n hx hb dX11_in_1 rfl (lv_at hl 1 rfl) ?_
  refine lv_icmp_lt (tgt := 14) hx hb dX11_in_2 (by decide) (fun c2 => ?_) (fun c2 => ?_)
  · replace hf := ip c2 hf
    refine lv_iconst (v := 0) hx hb dX11_in_14 (by decide) ?_
    exact hret _ _ _ _ _ (by decide) (Option.some.inj hf) dX11_in_15 hw
  · replace hf := iq c2 hf
    refine lv_iload_n hx hb dX11_in_5 rfl (lv_at hl 0 rfl) ?_
    refine lv_iload_n hx hb dX11_in_6 rfl (lv_at hl 2 rfl) ?_
    refine lv_icmp_gt (tgt := 14) hx hb dX11_in_7 (by decide) (fun c7 => ?_) (fun c7 => ?_)
    · replace hf := ip c7 hf
      refine lv_iconst (v := 0) hx hb dX11_in_14 (by decide) ?_
      exact hret _ _ _ _ _ (by decide) (Option.some.inj hf) dX11_in_15 hw
    · replace hf := iq c7 hf
      refine lv_iconst (v := 1) hx hb dX11_in_10 (by decide) ?_
      refine lv_goto (tgt := 15) hx hb dX11_in_11 (by decide) ?_
      exact hret _ _ _ _ _ (by decide) (Option.some.inj hf) dX11_in_15 hw
theorem k_X11_isAccount : xKS yX11_isAccount cX11_isAccount 1 (some .boolean) 1 := ⟨qw1113, qw74, qw1114, by decide +kernel, by decide +kernel, by decide +kernel⟩
set_option maxHeartbeats 4000000 in
set_option maxRecDepth 100000 in
theorem met_X11_isAccount (l : Launch) (g : xG) (a0 : Int32) (out : Int32) (hf : f_X11_isAccount a0 = some out) : xM l yX11_isAccount (xC yX11_isAccount cX11_isAccount 1 (some .boolean)) { frames := 1, cells := 0, slots := 0, locals := 22 } g ([] : va_W) [.int a0] (some (.int out)) ([] : va_W) := by
  refine xof (by decide) (Nat.le_of_ble_eq_true rfl) ⟨rfl, rfl⟩ ?_
  intro p e s m below meth c A ls E hr hlocks hw hl hpost hAe
  have hx := E.1.1
  have hb := E.1.2.1
  have hown := E.1.2.2.2.1
  have hts := E.1.2.2.2.2
  generalize hZ : (MQ below (xPost g ([] : va_W) ([] : va_W) s.heap.size (some (.int out))) [.int a0].toArray s 0 0 A) = ZZ
  have hret : ∀ (pc : Nat) (H : Heap) (locs : List Loc) (ls : Array Slot) (v : Int32), narrow .boolean (.int v) = .int v → v = out → decode cX11_isAccount pc = .ok (.ireturn, 1) → xW g A s.heap ([] : va_W) H locs → W p l e { frames := 1, cells := 0, slots := 0, locals := 22 } s m [.int a0].toArray below meth c H locs 0 0 ZZ (F0 m pc ls [.int v]) := by
    intro pc H locs ls v hn he hd hw
    subst he
    rw [← hZ]
    exact W.zret hx hb hr hn (hpost H locs hw).1 (hpost H locs hw).2 hd hlocks
  clear hpost
  refine lv_iload_n hx hb dX11_isAccount_0 rfl (lv_at hl 0 rfl) ?_
  refine lv_iconst (v := 0) hx hb dX11_isAccount_1 (by decide) ?_
  refine lv_iconst (v := 5) hx hb dX11_isAccount_2 (by decide) ?_
  obtain ⟨v3, hv3, hf⟩ := ob_e hf
  refine xcallS (ws' := ([] : va_W)) (st1 := [.int v3]) (n := 0) E hw [.int a0, .int 0, .int 5] [] (met_X11_in l g a0 0 5 v3 hv3) rfl (by decide) rfl rfl [] rfl (by decide +kernel) rfl qw1097 k_X11_in ⟨rfl, rfl, Nat.le_of_ble_eq_true rfl, Nat.le_of_ble_eq_true rfl⟩ ⟨Nat.zero_le _, Nat.zero_le _⟩ hl.1 (Nat.le_of_ble_eq_true rfl) dX11_isAccount_3 rfl (fun H locs hw => ?_)
  obtain ⟨hz, hf⟩ := nz hf
  exact hret _ _ _ _ _ (xbool hz).1 (Option.some.inj hf) dX11_isAccount_6 hw
theorem k_X11_areAccounts : xKS yX11_areAccounts cX11_areAccounts 2 (some .boolean) 2 := ⟨qw1138, qw74, qw1139, by decide +kernel, by decide +kernel, by decide +kernel⟩
set_option maxHeartbeats 4000000 in
set_option maxRecDepth 100000 in
theorem met_X11_areAccounts (l : Launch) (g : xG) (a0 : Int32) (a1 : Int32) (out : Int32) (hf : f_X11_areAccounts a0 a1 = some out) : xM l yX11_areAccounts (xC yX11_areAccounts cX11_areAccounts 2 (some .boolean)) { frames := 2, cells := 0, slots := 0, locals := 42 } g ([] : va_W) [.int a0, .int a1] (some (.int out)) ([] : va_W) := by
  refine xof (by decide) (Nat.le_of_ble_eq_true rfl) ⟨rfl, rfl⟩ ?_
  intro p e s m below meth c A ls E hr hlocks hw hl hpost hAe
  have hx := E.1.1
  have hb := E.1.2.1
  have hown := E.1.2.2.2.1
  have hts := E.1.2.2.2.2
  generalize hZ : (MQ below (xPost g ([] : va_W) ([] : va_W) s.heap.size (some (.int out))) [.int a0, .int a1].toArray s 0 0 A) = ZZ
  have hret : ∀ (pc : Nat) (H : Heap) (locs : List Loc) (ls : Array Slot) (v : Int32), narrow .boolean (.int v) = .int v → v = out → decode cX11_areAccounts pc = .ok (.ireturn, 1) → xW g A s.heap ([] : va_W) H locs → W p l e { frames := 2, cells := 0, slots := 0, locals := 42 } s m [.int a0, .int a1].toArray below meth c H locs 0 0 ZZ (F0 m pc ls [.int v]) := by
    intro pc H locs ls v hn he hd hw
    subst he
    rw [← hZ]
    exact W.zret hx hb hr hn (hpost H locs hw).1 (hpost H locs hw).2 hd hlocks
  clear hpost
  refine lv_iload_n hx hb dX11_areAccounts_0 rfl (lv_at hl 0 rfl) ?_
  obtain ⟨v1, hv1, hf⟩ := ob_e hf
  refine xcallS (ws' := ([] : va_W)) (st1 := [.int v1]) (n := 0) E hw [.int a0] [] (met_X11_isAccount l g a0 v1 hv1) rfl (by decide) rfl rfl [] rfl (by decide +kernel) rfl qw1112 k_X11_isAccount ⟨rfl, rfl, Nat.le_of_ble_eq_true rfl, Nat.le_of_ble_eq_true rfl⟩ ⟨Nat.zero_le _, Nat.zero_le _⟩ hl.1 (Nat.le_of_ble_eq_true rfl) dX11_areAccounts_1 rfl (fun H locs hw => ?_)
  refine lv_if_eq (tgt := 18) hx hb dX11_areAccounts_4 (by decide) (fun c4 => ?_) (fun c4 => ?_)
  · replace hf := ip c4 hf
    refine lv_iconst (v := 0) hx hb dX11_areAccounts_18 (by decide) ?_
    exact hret _ _ _ _ _ (by decide) (Option.some.inj hf) dX11_areAccounts_19 hw
  · replace hf := iq c4 hf
    refine lv_iload_n hx hb dX11_areAccounts_7 rfl (lv_at hl 1 rfl) ?_
    obtain ⟨v8, hv8, hf⟩ := ob_e hf
    refine xcallS (ws' := ([] : va_W)) (st1 := [.int v8]) (n := 0) E hw [.int a1] [] (met_X11_isAccount l g a1 v8 hv8) rfl (by decide) rfl rfl [] rfl (by decide +kernel) rfl qw1112 k_X11_isAccount ⟨rfl, rfl, Nat.le_of_ble_eq_true rfl, Nat.le_of_ble_eq_true rfl⟩ ⟨Nat.zero_le _, Nat.zero_le _⟩ hl.1 (Nat.le_of_ble_eq_true rfl) dX11_areAccounts_8 rfl (fun H locs hw => ?_)
    refine lv_if_eq (tgt := 18) hx hb dX11_areAccounts_11 (by decide) (fun c11 => ?_) (fun c11 => ?_)
    · replace hf := ip c11 hf
      refine lv_iconst (v := 0) hx hb dX11_areAccounts_18 (by decide) ?_
      exact hret _ _ _ _ _ (by decide) (Option.some.inj hf) dX11_areAccounts_19 hw
    · replace hf := iq c11 hf
      refine lv_iconst (v := 1) hx hb dX11_areAccounts_14 (by decide) ?_
      refine lv_goto (tgt := 19) hx hb dX11_areAccounts_15 (by decide) ?_
      exact hret _ _ _ _ _ (by decide) (Option.some.inj hf) dX11_areAccounts_19 hw
theorem k_X11_isBase : xKS yX11_isBase cX11_isBase 1 (some .boolean) 1 := ⟨qw1095, qw74, qw1096, by decide +kernel, by decide +kernel, by decide +kernel⟩
set_option maxHeartbeats 4000000 in
set_option maxRecDepth 100000 in
theorem met_X11_isBase (l : Launch) (g : xG) (a0 : Int32) (out : Int32) (hf : f_X11_isBase a0 = some out) : xM l yX11_isBase (xC yX11_isBase cX11_isBase 1 (some .boolean)) { frames := 1, cells := 0, slots := 0, locals := 22 } g ([] : va_W) [.int a0] (some (.int out)) ([] : va_W) := by
  refine xof (by decide) (Nat.le_of_ble_eq_true rfl) ⟨rfl, rfl⟩ ?_
  intro p e s m below meth c A ls E hr hlocks hw hl hpost hAe
  have hx := E.1.1
  have hb := E.1.2.1
  have hown := E.1.2.2.2.1
  have hts := E.1.2.2.2.2
  generalize hZ : (MQ below (xPost g ([] : va_W) ([] : va_W) s.heap.size (some (.int out))) [.int a0].toArray s 0 0 A) = ZZ
  have hret : ∀ (pc : Nat) (H : Heap) (locs : List Loc) (ls : Array Slot) (v : Int32), narrow .boolean (.int v) = .int v → v = out → decode cX11_isBase pc = .ok (.ireturn, 1) → xW g A s.heap ([] : va_W) H locs → W p l e { frames := 1, cells := 0, slots := 0, locals := 22 } s m [.int a0].toArray below meth c H locs 0 0 ZZ (F0 m pc ls [.int v]) := by
    intro pc H locs ls v hn he hd hw
    subst he
    rw [← hZ]
    exact W.zret hx hb hr hn (hpost H locs hw).1 (hpost H locs hw).2 hd hlocks
  clear hpost
  refine lv_iload_n hx hb dX11_isBase_0 rfl (lv_at hl 0 rfl) ?_
  refine lv_iconst (v := 2) hx hb dX11_isBase_1 (by decide) ?_
  refine lv_bipush (v := 16) hx hb dX11_isBase_2 (by decide) ?_
  obtain ⟨v4, hv4, hf⟩ := ob_e hf
  refine xcallS (ws' := ([] : va_W)) (st1 := [.int v4]) (n := 0) E hw [.int a0, .int 2, .int 16] [] (met_X11_in l g a0 2 16 v4 hv4) rfl (by decide) rfl rfl [] rfl (by decide +kernel) rfl qw1097 k_X11_in ⟨rfl, rfl, Nat.le_of_ble_eq_true rfl, Nat.le_of_ble_eq_true rfl⟩ ⟨Nat.zero_le _, Nat.zero_le _⟩ hl.1 (Nat.le_of_ble_eq_true rfl) dX11_isBase_4 rfl (fun H locs hw => ?_)
  obtain ⟨hz, hf⟩ := nz hf
  exact hret _ _ _ _ _ (xbool hz).1 (Option.some.inj hf) dX11_isBase_7 hw
theorem k_X11_up : xKV yX11_up cX11_up 2 (some .int) 1 := ⟨qw1146, qw28, qw74, qw1147, by decide +kernel, by decide +kernel, by decide +kernel⟩
set_option maxHeartbeats 4000000 in
set_option maxRecDepth 100000 in
theorem met_X11_up (l : Launch) (g : xG) (h : Nat → Nat) (thrown : Int32) (ss : (Nat → Int32)) (states : (Nat → Int32)) (stateMany : Int32) (snapshot : (Nat → Int32)) (hasSnapshot : Int32) (text : (Nat → Int32)) (length : Int32) (at_ : Int32) (isWell : Int32) (rd : (Nat → Int32)) (readMany : Int32) (top : Int64) (bottom : Int64) (digit : (Nat → Int32)) (digitMany : Int32) (other : (Nat → Int32)) (otherMany : Int32) (column : (Nat → Int32)) (columnMany : Int32) (carryMany : Int32) (chainMost : Int32) (a1 : Int32) (out : Int32) (hf : f_X11_up ss a1 = some out) : xM l yX11_up (xC yX11_up cX11_up 2 (some .int)) { frames := 0, cells := 0, slots := 0, locals := 0 } g (wM g h thrown ss states stateMany snapshot hasSnapshot text length at_ isWell rd readMany top bottom digit digitMany other otherMany column columnMany carryMany chainMost) [.ref (h 0), .int a1] (some (.int out)) (wM g h thrown ss states stateMany snapshot hasSnapshot text length at_ isWell rd readMany top bottom digit digitMany other otherMany column columnMany carryMany chainMost) := by
  refine xof (by decide) (Nat.le_of_ble_eq_true rfl) ⟨rfl, rfl⟩ ?_
  intro p e s m below meth c A ls E hr hlocks hw hl hpost hAe
  have hx := E.1.1
  have hb := E.1.2.1
  have hown := E.1.2.2.2.1
  have hts := E.1.2.2.2.2
  generalize hZ : (MQ below (xPost g (wM g h thrown ss states stateMany snapshot hasSnapshot text length at_ isWell rd readMany top bottom digit digitMany other otherMany column columnMany carryMany chainMost) (wM g h thrown ss states stateMany snapshot hasSnapshot text length at_ isWell rd readMany top bottom digit digitMany other otherMany column columnMany carryMany chainMost) s.heap.size (some (.int out))) [.ref (h 0), .int a1].toArray s 0 0 A) = ZZ
  have hret : ∀ (pc : Nat) (H : Heap) (locs : List Loc) (ls : Array Slot) (v : Int32), v = out → decode cX11_up pc = .ok (.ireturn, 1) → xW g A s.heap (wM g h thrown ss states stateMany snapshot hasSnapshot text length at_ isWell rd readMany top bottom digit digitMany other otherMany column columnMany carryMany chainMost) H locs → W p l e { frames := 0, cells := 0, slots := 0, locals := 0 } s m [.ref (h 0), .int a1].toArray below meth c H locs 0 0 ZZ (F0 m pc ls [.int v]) := by
    intro pc H locs ls v he hd hw
    subst he
    rw [← hZ]
    exact W.iret hx hb hr (hpost H locs hw).1 (hpost H locs hw).2 hd hlocks
  clear hpost
  refine lv_aload_n hx hb dX11_up_0 rfl (lv_at hl 0 rfl) ?_
  refine xget (v := .ref (h 1)) E hw 0 rfl rfl 1 (by decide) inw11 qw1020 rfl rfl dX11_up_1 ?_
  refine lv_iconst (v := 3) hx hb dX11_up_4 (by decide) ?_
  refine lv_iload_n hx hb dX11_up_5 rfl (lv_at hl 1 rfl) ?_
  refine lv_iadd hx hb dX11_up_6 ?_
  obtain ⟨hz, hf⟩ := nz hf
  refine xiald E hw 1 rfl hz dX11_up_7 ?_
  exact hret _ _ _ _ _ (Option.some.inj hf) dX11_up_8 hw
theorem k_X11_down : xKV yX11_down cX11_down 2 (some .int) 1 := ⟨qw1131, qw26, qw74, qw1132, by decide +kernel, by decide +kernel, by decide +kernel⟩
set_option maxHeartbeats 4000000 in
set_option maxRecDepth 100000 in
theorem met_X11_down (l : Launch) (g : xG) (h : Nat → Nat) (thrown : Int32) (ss : (Nat → Int32)) (states : (Nat → Int32)) (stateMany : Int32) (snapshot : (Nat → Int32)) (hasSnapshot : Int32) (text : (Nat → Int32)) (length : Int32) (at_ : Int32) (isWell : Int32) (rd : (Nat → Int32)) (readMany : Int32) (top : Int64) (bottom : Int64) (digit : (Nat → Int32)) (digitMany : Int32) (other : (Nat → Int32)) (otherMany : Int32) (column : (Nat → Int32)) (columnMany : Int32) (carryMany : Int32) (chainMost : Int32) (a1 : Int32) (out : Int32) (hf : f_X11_down ss a1 = some out) : xM l yX11_down (xC yX11_down cX11_down 2 (some .int)) { frames := 0, cells := 0, slots := 0, locals := 0 } g (wM g h thrown ss states stateMany snapshot hasSnapshot text length at_ isWell rd readMany top bottom digit digitMany other otherMany column columnMany carryMany chainMost) [.ref (h 0), .int a1] (some (.int out)) (wM g h thrown ss states stateMany snapshot hasSnapshot text length at_ isWell rd readMany top bottom digit digitMany other otherMany column columnMany carryMany chainMost) := by
  refine xof (by decide) (Nat.le_of_ble_eq_true rfl) ⟨rfl, rfl⟩ ?_
  intro p e s m below meth c A ls E hr hlocks hw hl hpost hAe
  have hx := E.1.1
  have hb := E.1.2.1
  have hown := E.1.2.2.2.1
  have hts := E.1.2.2.2.2
  generalize hZ : (MQ below (xPost g (wM g h thrown ss states stateMany snapshot hasSnapshot text length at_ isWell rd readMany top bottom digit digitMany other otherMany column columnMany carryMany chainMost) (wM g h thrown ss states stateMany snapshot hasSnapshot text length at_ isWell rd readMany top bottom digit digitMany other otherMany column columnMany carryMany chainMost) s.heap.size (some (.int out))) [.ref (h 0), .int a1].toArray s 0 0 A) = ZZ
  have hret : ∀ (pc : Nat) (H : Heap) (locs : List Loc) (ls : Array Slot) (v : Int32), v = out → decode cX11_down pc = .ok (.ireturn, 1) → xW g A s.heap (wM g h thrown ss states stateMany snapshot hasSnapshot text length at_ isWell rd readMany top bottom digit digitMany other otherMany column columnMany carryMany chainMost) H locs → W p l e { frames := 0, cells := 0, slots := 0, locals := 0 } s m [.ref (h 0), .int a1].toArray below meth c H locs 0 0 ZZ (F0 m pc ls [.int v]) := by
    intro pc H locs ls v he hd hw
    subst he
    rw [← hZ]
    exact W.iret hx hb hr (hpost H locs hw).1 (hpost H locs hw).2 hd hlocks
  clear hpost
  refine lv_aload_n hx hb dX11_down_0 rfl (lv_at hl 0 rfl) ?_
  refine xget (v := .ref (h 1)) E hw 0 rfl rfl 1 (by decide) inw11 qw1020 rfl rfl dX11_down_1 ?_
  refine lv_bipush (v := 9) hx hb dX11_down_4 (by decide) ?_
  refine lv_iload_n hx hb dX11_down_6 rfl (lv_at hl 1 rfl) ?_
  refine lv_iadd hx hb dX11_down_7 ?_
  obtain ⟨hz, hf⟩ := nz hf
  refine xiald E hw 1 rfl hz dX11_down_8 ?_
  exact hret _ _ _ _ _ (Option.some.inj hf) dX11_down_9 hw
theorem k_X11_wholeOf : xKV yX11_wholeOf cX11_wholeOf 2 (some .int) 1 := ⟨qw1171, qw31, qw74, qw1172, by decide +kernel, by decide +kernel, by decide +kernel⟩
set_option maxHeartbeats 4000000 in
set_option maxRecDepth 100000 in
theorem met_X11_wholeOf (l : Launch) (g : xG) (h : Nat → Nat) (thrown : Int32) (ss : (Nat → Int32)) (states : (Nat → Int32)) (stateMany : Int32) (snapshot : (Nat → Int32)) (hasSnapshot : Int32) (text : (Nat → Int32)) (length : Int32) (at_ : Int32) (isWell : Int32) (rd : (Nat → Int32)) (readMany : Int32) (top : Int64) (bottom : Int64) (digit : (Nat → Int32)) (digitMany : Int32) (other : (Nat → Int32)) (otherMany : Int32) (column : (Nat → Int32)) (columnMany : Int32) (carryMany : Int32) (chainMost : Int32) (a1 : Int32) (out : Int32) (hf : f_X11_wholeOf ss a1 = some out) : xM l yX11_wholeOf (xC yX11_wholeOf cX11_wholeOf 2 (some .int)) { frames := 1, cells := 0, slots := 0, locals := 21 } g (wM g h thrown ss states stateMany snapshot hasSnapshot text length at_ isWell rd readMany top bottom digit digitMany other otherMany column columnMany carryMany chainMost) [.ref (h 0), .int a1] (some (.int out)) (wM g h thrown ss states stateMany snapshot hasSnapshot text length at_ isWell rd readMany top bottom digit digitMany other otherMany column columnMany carryMany chainMost) := by
  refine xof (by decide) (Nat.le_of_ble_eq_true rfl) ⟨rfl, rfl⟩ ?_
  intro p e s m below meth c A ls E hr hlocks hw hl hpost hAe
  have hx := E.1.1
  have hb := E.1.2.1
  have hown := E.1.2.2.2.1
  have hts := E.1.2.2.2.2
  generalize hZ : (MQ below (xPost g (wM g h thrown ss states stateMany snapshot hasSnapshot text length at_ isWell rd readMany top bottom digit digitMany other otherMany column columnMany carryMany chainMost) (wM g h thrown ss states stateMany snapshot hasSnapshot text length at_ isWell rd readMany top bottom digit digitMany other otherMany column columnMany carryMany chainMost) s.heap.size (some (.int out))) [.ref (h 0), .int a1].toArray s 0 0 A) = ZZ
  have hret : ∀ (pc : Nat) (H : Heap) (locs : List Loc) (ls : Array Slot) (v : Int32), v = out → decode cX11_wholeOf pc = .ok (.ireturn, 1) → xW g A s.heap (wM g h thrown ss states stateMany snapshot hasSnapshot text length at_ isWell rd readMany top bottom digit digitMany other otherMany column columnMany carryMany chainMost) H locs → W p l e { frames := 1, cells := 0, slots := 0, locals := 21 } s m [.ref (h 0), .int a1].toArray below meth c H locs 0 0 ZZ (F0 m pc ls [.int v]) := by
    intro pc H locs ls v he hd hw
    subst he
    rw [← hZ]
    exact W.iret hx hb hr (hpost H locs hw).1 (hpost H locs hw).2 hd hlocks
  clear hpost
  refine lv_aload_n hx hb dX11_wholeOf_0 rfl (lv_at hl 0 rfl) ?_
  refine lv_iload_n hx hb dX11_wholeOf_1 rfl (lv_at hl 1 rfl) ?_
  obtain ⟨v2, hv2, hf⟩ := ob_e hf
  refine xcallV (ws' := (wM g h thrown ss states stateMany snapshot hasSnapshot text length at_ isWell rd readMany top bottom digit digitMany other otherMany column columnMany carryMany chainMost)) (st1 := [.int v2]) (n := 9) E hw [.int a1] [0, 1, 2, 3, 4, 5, 6, 7, 8] (met_X11_up l g h thrown ss states stateMany snapshot hasSnapshot text length at_ isWell rd readMany top bottom digit digitMany other otherMany column columnMany carryMany chainMost a1 v2 hv2) rfl (by decide) rfl rfl [9, 10, 11, 12, 13, 14, 15, 16, 17] rfl (by decide +kernel) rfl rfl rfl rfl qw1144 k_X11_up ⟨rfl, rfl, Nat.le_of_ble_eq_true rfl, Nat.le_of_ble_eq_true rfl⟩ ⟨Nat.zero_le _, Nat.zero_le _⟩ hl.1 (Nat.le_of_ble_eq_true rfl) dX11_wholeOf_2 rfl (fun H locs hw => ?_)
  refine lv_aload_n hx hb dX11_wholeOf_5 rfl (lv_at hl 0 rfl) ?_
  refine lv_iload_n hx hb dX11_wholeOf_6 rfl (lv_at hl 1 rfl) ?_
  obtain ⟨v7, hv7, hf⟩ := ob_e hf
  refine xcallV (ws' := (wM g h thrown ss states stateMany snapshot hasSnapshot text length at_ isWell rd readMany top bottom digit digitMany other otherMany column columnMany carryMany chainMost)) (st1 := [.int v7, .int v2]) (n := 9) E hw [.int a1] [0, 1, 2, 3, 4, 5, 6, 7, 8] (met_X11_down l g h thrown ss states stateMany snapshot hasSnapshot text length at_ isWell rd readMany top bottom digit digitMany other otherMany column columnMany carryMany chainMost a1 v7 hv7) rfl (by decide) rfl rfl [9, 10, 11, 12, 13, 14, 15, 16, 17] rfl (by decide +kernel) rfl rfl rfl rfl qw1129 k_X11_down ⟨rfl, rfl, Nat.le_of_ble_eq_true rfl, Nat.le_of_ble_eq_true rfl⟩ ⟨Nat.zero_le _, Nat.zero_le _⟩ hl.1 (Nat.le_of_ble_eq_true rfl) dX11_wholeOf_7 rfl (fun H locs hw => ?_)
  obtain ⟨hz, hf⟩ := nz hf
  refine lv_idiv hx hb dX11_wholeOf_10 hz ?_
  exact hret _ _ _ _ _ (Option.some.inj hf) dX11_wholeOf_11 hw
theorem k_X11_records : xKV yX11_records cX11_records 2 none 0 := ⟨qw1106, qw23, qw74, qw1107, by decide +kernel, by decide +kernel, by decide +kernel⟩
set_option maxHeartbeats 4000000 in
set_option maxRecDepth 100000 in
theorem met_X11_records (l : Launch) (g : xG) (h : Nat → Nat) (thrown : Int32) (ss : (Nat → Int32)) (states : (Nat → Int32)) (stateMany : Int32) (snapshot : (Nat → Int32)) (hasSnapshot : Int32) (text : (Nat → Int32)) (length : Int32) (at_ : Int32) (isWell : Int32) (rd : (Nat → Int32)) (readMany : Int32) (top : Int64) (bottom : Int64) (digit : (Nat → Int32)) (digitMany : Int32) (other : (Nat → Int32)) (otherMany : Int32) (column : (Nat → Int32)) (columnMany : Int32) (carryMany : Int32) (chainMost : Int32) (out : (Nat → Int32) × Int32) (hf : f_X11_records ss states stateMany = some out) : xM l yX11_records (xC yX11_records cX11_records 2 none) { frames := 0, cells := 0, slots := 0, locals := 0 } g (wM g h thrown ss states stateMany snapshot hasSnapshot text length at_ isWell rd readMany top bottom digit digitMany other otherMany column columnMany carryMany chainMost) [.ref (h 0)] none (wM g h thrown ss out.1 out.2 snapshot hasSnapshot text length at_ isWell rd readMany top bottom digit digitMany other otherMany column columnMany carryMany chainMost) := by
  refine xof (by decide) (Nat.le_of_ble_eq_true rfl) ⟨rfl, rfl⟩ ?_
  intro p e s m below meth c A ls E hr hlocks hw hl hpost hAe
  have hx := E.1.1
  have hb := E.1.2.1
  have hown := E.1.2.2.2.1
  have hts := E.1.2.2.2.2
  generalize hZ : (MQ below (xPost g (wM g h thrown ss states stateMany snapshot hasSnapshot text length at_ isWell rd readMany top bottom digit digitMany other otherMany column columnMany carryMany chainMost) (wM g h thrown ss out.1 out.2 snapshot hasSnapshot text length at_ isWell rd readMany top bottom digit digitMany other otherMany column columnMany carryMany chainMost) s.heap.size none) [.ref (h 0)].toArray s 0 0 A) = ZZ
  have hret : ∀ (pc : Nat) (H : Heap) (locs : List Loc) (ls : Array Slot) (cstates : (Nat → Int32)) (cstateMany : Int32), (cstates, cstateMany) = out → decode cX11_records pc = .ok (.return_, 1) → xW g A s.heap (wM g h thrown ss cstates cstateMany snapshot hasSnapshot text length at_ isWell rd readMany top bottom digit digitMany other otherMany column columnMany carryMany chainMost) H locs → W p l e { frames := 0, cells := 0, slots := 0, locals := 0 } s m [.ref (h 0)].toArray below meth c H locs 0 0 ZZ (F0 m pc ls []) := by
    intro pc H locs ls cstates cstateMany he hd hw
    subst he
    rw [← hZ]
    exact W.vret hx hb hr (hpost H locs hw).1 (hpost H locs hw).2 hd hlocks
  clear hpost
  have b50 : ∀ n50 : Nat, ∀ (H : Heap) (locs : List Loc) (ls : Array Slot) (states : (Nat → Int32)) (stateMany : Int32) (x1 : Int32), xW g A s.heap (wM g h thrown ss states stateMany snapshot hasSnapshot text length at_ isWell rd readMany top bottom digit digitMany other otherMany column columnMany carryMany chainMost) H locs → lv_has ls 2 [(0, .ref (h 0)), (1, .int x1)] → f_X11_records_b50 n50 ss states stateMany x1 = some out → W p l e { frames := 0, cells := 0, slots := 0, locals := 0 } s m [.ref (h 0)].toArray below meth c H locs 0 0 ZZ (F0 m 50 ls []) := by
    intro n50
    induction n50 with
    | zero =>
      intro H locs ls states stateMany x1 hw hl hf
      exact nn hf
    | succ n50 ih50 =>
      intro H locs ls states stateMany x1 hw hl hf
      refine lv_iload_n hx hb dX11_records_50 rfl (lv_at hl 1 rfl) ?_
      refine lv_bipush (v := 15) hx hb dX11_records_51 (by decide) ?_
      refine lv_icmp_ge (tgt := 82) hx hb dX11_records_53 (by decide) (fun c53 => ?_) (fun c53 => ?_)
      · replace hf := ip c53 hf
        refine lv_aload_n hx hb dX11_records_82 rfl (lv_at hl 0 rfl) ?_
        refine lv_dup hx hb dX11_records_83 rfl ?_
        refine xget (v := .int stateMany) E hw 0 rfl rfl 3 (by decide) inw11 qw1022 rfl rfl dX11_records_84 ?_
        refine lv_iconst (v := 1) hx hb dX11_records_87 (by decide) ?_
        refine lv_iadd hx hb dX11_records_88 ?_
        refine xput (ws' := (wM g h thrown ss states (stateMany + 1) snapshot hasSnapshot text length at_ isWell rd readMany top bottom digit digitMany other otherMany column columnMany carryMany chainMost)) E hw 0 rfl rfl 3 (by decide) inw11 tyX11_ok nmX11 qw1022 rfl rfl rfl rfl (Nat.le_of_ble_eq_true rfl) dX11_records_89 rfl (fun H locs hw => ?_)
        exact hret _ _ _ _ _ _ (Option.some.inj hf) dX11_records_92 hw
      · replace hf := iq c53 hf
        refine lv_aload_n hx hb dX11_records_56 rfl (lv_at hl 0 rfl) ?_
        refine xget (v := .ref (h 2)) E hw 0 rfl rfl 2 (by decide) inw11 qw1021 rfl rfl dX11_records_57 ?_
        refine lv_bipush (v := 15) hx hb dX11_records_60 (by decide) ?_
        refine lv_aload_n hx hb dX11_records_62 rfl (lv_at hl 0 rfl) ?_
        refine xget (v := .int stateMany) E hw 0 rfl rfl 3 (by decide) inw11 qw1022 rfl rfl dX11_records_63 ?_
        refine lv_imul hx hb dX11_records_66 ?_
        refine lv_iload_n hx hb dX11_records_67 rfl (lv_at hl 1 rfl) ?_
        refine lv_iadd hx hb dX11_records_68 ?_
        refine lv_aload_n hx hb dX11_records_69 rfl (lv_at hl 0 rfl) ?_
        refine xget (v := .ref (h 1)) E hw 0 rfl rfl 1 (by decide) inw11 qw1020 rfl rfl dX11_records_70 ?_
        refine lv_iload_n hx hb dX11_records_73 rfl (lv_at hl 1 rfl) ?_
        obtain ⟨hz, hf⟩ := nz hf
        refine xiald E hw 1 rfl hz dX11_records_74 ?_
        obtain ⟨hz, hf⟩ := nz hf
        refine xiast (ws' := (wM g h thrown ss (upd states ((15 * stateMany) + x1).toNatClampNeg (ss x1.toNatClampNeg)) stateMany snapshot hasSnapshot text length at_ isWell rd readMany top bottom digit digitMany other otherMany column columnMany carryMany chainMost)) E hw 2 rfl hz dX11_records_75 rfl (fun H locs hw => ?_)
        refine lv_iinc (v := x1 + 1) (lv' := [(1, .int (x1 + 1)), (0, .ref (h 0))]) hx hb dX11_records_76 hl (k := 1) rfl rfl (by decide) rfl (fun ls hl => ?_)
        refine lv_goto (tgt := 50) hx hb dX11_records_79 (by decide) ?_
        exact ih50 _ _ _ (upd states ((15 * stateMany) + x1).toNatClampNeg (ss x1.toNatClampNeg)) stateMany (x1 + 1) hw (lv_sub hl [1, 0] rfl) hf
  have b48 : ∀ (H : Heap) (locs : List Loc) (ls : Array Slot) (states : (Nat → Int32)) (stateMany : Int32), xW g A s.heap (wM g h thrown ss states stateMany snapshot hasSnapshot text length at_ isWell rd readMany top bottom digit digitMany other otherMany column columnMany carryMany chainMost) H locs → lv_has ls 2 [(0, .ref (h 0))] → f_X11_records_b48 ss states stateMany = some out → W p l e { frames := 0, cells := 0, slots := 0, locals := 0 } s m [.ref (h 0)].toArray below meth c H locs 0 0 ZZ (F0 m 48 ls []) := by
    intro H locs ls states stateMany hw hl hf
    refine lv_iconst (v := 0) hx hb dX11_records_48 (by decide) ?_
    refine lv_istore_n (lv' := [(1, .int 0), (0, .ref (h 0))]) hx hb dX11_records_49 rfl hl (by decide) rfl (fun ls hl => ?_)
    exact b50 xfuel _ _ _ states stateMany 0 hw (lv_sub hl [1, 0] rfl) hf
  have b11 : ∀ n11 : Nat, ∀ (H : Heap) (locs : List Loc) (ls : Array Slot) (states : (Nat → Int32)) (stateMany : Int32) (x1 : Int32), xW g A s.heap (wM g h thrown ss states stateMany snapshot hasSnapshot text length at_ isWell rd readMany top bottom digit digitMany other otherMany column columnMany carryMany chainMost) H locs → lv_has ls 2 [(0, .ref (h 0)), (1, .int x1)] → f_X11_records_b11 n11 ss states stateMany x1 = some out → W p l e { frames := 0, cells := 0, slots := 0, locals := 0 } s m [.ref (h 0)].toArray below meth c H locs 0 0 ZZ (F0 m 11 ls []) := by
    intro n11
    induction n11 with
    | zero =>
      intro H locs ls states stateMany x1 hw hl hf
      exact nn hf
    | succ n11 ih11 =>
      intro H locs ls states stateMany x1 hw hl hf
      refine lv_iload_n hx hb dX11_records_11 rfl (lv_at hl 1 rfl) ?_
      refine lv_bipush (v := 75) hx hb dX11_records_12 (by decide) ?_
      refine lv_icmp_ge (tgt := 38) hx hb dX11_records_14 (by decide) (fun c14 => ?_) (fun c14 => ?_)
      · replace hf := ip c14 hf
        refine lv_aload_n hx hb dX11_records_38 rfl (lv_at hl 0 rfl) ?_
        refine lv_dup hx hb dX11_records_39 rfl ?_
        refine xget (v := .int stateMany) E hw 0 rfl rfl 3 (by decide) inw11 qw1022 rfl rfl dX11_records_40 ?_
        refine lv_iconst (v := 1) hx hb dX11_records_43 (by decide) ?_
        refine lv_isub hx hb dX11_records_44 ?_
        refine xput (ws' := (wM g h thrown ss states (stateMany - 1) snapshot hasSnapshot text length at_ isWell rd readMany top bottom digit digitMany other otherMany column columnMany carryMany chainMost)) E hw 0 rfl rfl 3 (by decide) inw11 tyX11_ok nmX11 qw1022 rfl rfl rfl rfl (Nat.le_of_ble_eq_true rfl) dX11_records_45 rfl (fun H locs hw => ?_)
        exact b48 _ _ _ states (stateMany - 1) hw (lv_sub hl [0] rfl) hf
      · replace hf := iq c14 hf
        refine lv_aload_n hx hb dX11_records_17 rfl (lv_at hl 0 rfl) ?_
        refine xget (v := .ref (h 2)) E hw 0 rfl rfl 2 (by decide) inw11 qw1021 rfl rfl dX11_records_18 ?_
        refine lv_iload_n hx hb dX11_records_21 rfl (lv_at hl 1 rfl) ?_
        refine lv_aload_n hx hb dX11_records_22 rfl (lv_at hl 0 rfl) ?_
        refine xget (v := .ref (h 2)) E hw 0 rfl rfl 2 (by decide) inw11 qw1021 rfl rfl dX11_records_23 ?_
        refine lv_iload_n hx hb dX11_records_26 rfl (lv_at hl 1 rfl) ?_
        refine lv_bipush (v := 15) hx hb dX11_records_27 (by decide) ?_
        refine lv_iadd hx hb dX11_records_29 ?_
        obtain ⟨hz, hf⟩ := nz hf
        refine xiald E hw 2 rfl hz dX11_records_30 ?_
        obtain ⟨hz, hf⟩ := nz hf
        refine xiast (ws' := (wM g h thrown ss (upd states x1.toNatClampNeg (states (x1 + 15).toNatClampNeg)) stateMany snapshot hasSnapshot text length at_ isWell rd readMany top bottom digit digitMany other otherMany column columnMany carryMany chainMost)) E hw 2 rfl hz dX11_records_31 rfl (fun H locs hw => ?_)
        refine lv_iinc (v := x1 + 1) (lv' := [(1, .int (x1 + 1)), (0, .ref (h 0))]) hx hb dX11_records_32 hl (k := 1) rfl rfl (by decide) rfl (fun ls hl => ?_)
        refine lv_goto (tgt := 11) hx hb dX11_records_35 (by decide) ?_
        exact ih11 _ _ _ (upd states x1.toNatClampNeg (states (x1 + 15).toNatClampNeg)) stateMany (x1 + 1) hw (lv_sub hl [1, 0] rfl) hf
  refine lv_aload_n hx hb dX11_records_0 rfl (lv_at hl 0 rfl) ?_
  refine xget (v := .int stateMany) E hw 0 rfl rfl 3 (by decide) inw11 qw1022 rfl rfl dX11_records_1 ?_
  refine lv_bipush (v := 6) hx hb dX11_records_4 (by decide) ?_
  refine lv_icmp_ne (tgt := 48) hx hb dX11_records_6 (by decide) (fun c6 => ?_) (fun c6 => ?_)
  · replace hf := iq c6 hf
    exact b48 _ _ _ states stateMany hw (lv_sub hl [0] rfl) hf
  · replace hf := ip c6 hf
    refine lv_iconst (v := 0) hx hb dX11_records_9 (by decide) ?_
    refine lv_istore_n (lv' := [(1, .int 0), (0, .ref (h 0))]) hx hb dX11_records_10 rfl hl (by decide) rfl (fun ls hl => ?_)
    exact b11 xfuel _ _ _ states stateMany 0 hw (lv_sub hl [1, 0] rfl) hf
theorem k_X11_factor : xKS yX11_factor cX11_factor 10 (some .long) 2 := ⟨qw1121, qw74, qw1122, by decide +kernel, by decide +kernel, by decide +kernel⟩
set_option maxHeartbeats 4000000 in
set_option maxRecDepth 100000 in
theorem met_X11_factor (l : Launch) (g : xG) (a0 : Int64) (a1 : Int64) (out : Int64) (hf : f_X11_factor a0 a1 = some out) : xM l yX11_factor (xC yX11_factor cX11_factor 10 (some .long)) { frames := 0, cells := 0, slots := 0, locals := 0 } g ([] : va_W) [.long a0, .long a1] (some (.long out)) ([] : va_W) := by
  refine xof (by decide) (Nat.le_of_ble_eq_true rfl) ⟨rfl, rfl⟩ ?_
  intro p e s m below meth c A ls E hr hlocks hw hl hpost hAe
  have hx := E.1.1
  have hb := E.1.2.1
  have hown := E.1.2.2.2.1
  have hts := E.1.2.2.2.2
  generalize hZ : (MQ below (xPost g ([] : va_W) ([] : va_W) s.heap.size (some (.long out))) [.long a0, .long a1].toArray s 0 0 A) = ZZ
  have hret : ∀ (pc : Nat) (H : Heap) (locs : List Loc) (ls : Array Slot) (v : Int64), v = out → decode cX11_factor pc = .ok (.lreturn, 1) → xW g A s.heap ([] : va_W) H locs → W p l e { frames := 0, cells := 0, slots := 0, locals := 0 } s m [.long a0, .long a1].toArray below meth c H locs 0 0 ZZ (F0 m pc ls [.long v]) := by
    intro pc H locs ls v he hd hw
    subst he
    rw [← hZ]
    exact W.lret hx hb hr (hpost H locs hw).1 (hpost H locs hw).2 hd hlocks
  clear hpost
  have b6 : ∀ n6 : Nat, ∀ (H : Heap) (locs : List Loc) (ls : Array Slot) (x4 : Int64) (x6 : Int64), xW g A s.heap ([] : va_W) H locs → lv_has ls 10 [(4, .long x4), (6, .long x6)] → f_X11_factor_b6 n6 x4 x6 = some out → W p l e { frames := 0, cells := 0, slots := 0, locals := 0 } s m [.long a0, .long a1].toArray below meth c H locs 0 0 ZZ (F0 m 6 ls []) := by
    intro n6
    induction n6 with
    | zero =>
      intro H locs ls x4 x6 hw hl hf
      exact nn hf
    | succ n6 ih6 =>
      intro H locs ls x4 x6 hw hl hf
      refine lv_lload hx hb dX11_factor_6 (lv_at hl 1 rfl) ?_
      refine lv_lconst (v := 0) hx hb dX11_factor_8 (by decide) ?_
      refine xlc_eq (tgt := 31) hx hb dX11_factor_9 dX11_factor_10 (by decide) (fun c9 => ?_) (fun c9 => ?_)
      · replace hf := ip c9 hf
        refine lv_lload hx hb dX11_factor_31 (lv_at hl 0 rfl) ?_
        refine lv_lconst (v := 0) hx hb dX11_factor_33 (by decide) ?_
        refine xlc_ge (tgt := 44) hx hb dX11_factor_34 dX11_factor_35 (by decide) (fun c34 => ?_) (fun c34 => ?_)
        · replace hf := iq c34 hf
          refine lv_lload hx hb dX11_factor_44 (lv_at hl 0 rfl) ?_
          exact hret _ _ _ _ _ (Option.some.inj hf) dX11_factor_46 hw
        · replace hf := ip c34 hf
          refine lv_lload hx hb dX11_factor_38 (lv_at hl 0 rfl) ?_
          refine lv_lneg hx hb dX11_factor_40 ?_
          refine lv_goto (tgt := 46) hx hb dX11_factor_41 (by decide) ?_
          exact hret _ _ _ _ _ (Option.some.inj hf) dX11_factor_46 hw
      · replace hf := iq c9 hf
        refine lv_lload hx hb dX11_factor_13 (lv_at hl 0 rfl) ?_
        refine lv_lload hx hb dX11_factor_15 (lv_at hl 1 rfl) ?_
        obtain ⟨hz, hf⟩ := nz hf
        refine lv_lrem hx hb dX11_factor_17 hz ?_
        refine lv_lstore (lv' := [(8, .long (x4 - x4 / x6 * x6)), (4, .long x4), (6, .long x6)]) hx hb dX11_factor_18 hl (by decide) rfl (fun ls hl => ?_)
        refine lv_lload hx hb dX11_factor_20 (lv_at hl 2 rfl) ?_
        refine lv_lstore (lv' := [(4, .long x6), (8, .long (x4 - x4 / x6 * x6)), (6, .long x6)]) hx hb dX11_factor_22 hl (by decide) rfl (fun ls hl => ?_)
        refine lv_lload hx hb dX11_factor_24 (lv_at hl 1 rfl) ?_
        refine lv_lstore (lv' := [(6, .long (x4 - x4 / x6 * x6)), (4, .long x6), (8, .long (x4 - x4 / x6 * x6))]) hx hb dX11_factor_26 hl (by decide) rfl (fun ls hl => ?_)
        refine lv_goto (tgt := 6) hx hb dX11_factor_28 (by decide) ?_
        exact ih6 _ _ _ x6 (x4 - x4 / x6 * x6) hw (lv_sub hl [1, 0] rfl) hf
  refine lv_lload_n hx hb dX11_factor_0 rfl (lv_at hl 0 rfl) ?_
  refine lv_lstore (lv' := [(4, .long a0), (0, .long a0), (2, .long a1)]) hx hb dX11_factor_1 hl (by decide) rfl (fun ls hl => ?_)
  refine lv_lload_n hx hb dX11_factor_3 rfl (lv_at hl 2 rfl) ?_
  refine lv_lstore (lv' := [(6, .long a1), (4, .long a0), (0, .long a0), (2, .long a1)]) hx hb dX11_factor_4 hl (by decide) rfl (fun ls hl => ?_)
  exact b6 xfuel _ _ _ a0 a1 hw (lv_sub hl [1, 0] rfl) hf
theorem k_X11_makes : xKV yX11_makes cX11_makes 7 (some .int) 2 := ⟨qw1118, qw24, qw74, qw1119, by decide +kernel, by decide +kernel, by decide +kernel⟩
set_option maxHeartbeats 4000000 in
set_option maxRecDepth 100000 in
theorem met_X11_makes (l : Launch) (g : xG) (h : Nat → Nat) (thrown : Int32) (ss : (Nat → Int32)) (states : (Nat → Int32)) (stateMany : Int32) (snapshot : (Nat → Int32)) (hasSnapshot : Int32) (text : (Nat → Int32)) (length : Int32) (at_ : Int32) (isWell : Int32) (rd : (Nat → Int32)) (readMany : Int32) (top : Int64) (bottom : Int64) (digit : (Nat → Int32)) (digitMany : Int32) (other : (Nat → Int32)) (otherMany : Int32) (column : (Nat → Int32)) (columnMany : Int32) (carryMany : Int32) (chainMost : Int32) (a1 : Int64) (a2 : Int64) (out : Int32 × Int64 × Int64) (hf : f_X11_makes top bottom a1 a2 = some out) : xM l yX11_makes (xC yX11_makes cX11_makes 7 (some .int)) { frames := 1, cells := 0, slots := 0, locals := 29 } g (wM g h thrown ss states stateMany snapshot hasSnapshot text length at_ isWell rd readMany top bottom digit digitMany other otherMany column columnMany carryMany chainMost) [.ref (h 0), .long a1, .long a2] (some (.int out.1)) (wM g h thrown ss states stateMany snapshot hasSnapshot text length at_ isWell rd readMany out.2.1 out.2.2 digit digitMany other otherMany column columnMany carryMany chainMost) := by
  refine xof (by decide) (Nat.le_of_ble_eq_true rfl) ⟨rfl, rfl⟩ ?_
  intro p e s m below meth c A ls E hr hlocks hw hl hpost hAe
  have hx := E.1.1
  have hb := E.1.2.1
  have hown := E.1.2.2.2.1
  have hts := E.1.2.2.2.2
  generalize hZ : (MQ below (xPost g (wM g h thrown ss states stateMany snapshot hasSnapshot text length at_ isWell rd readMany top bottom digit digitMany other otherMany column columnMany carryMany chainMost) (wM g h thrown ss states stateMany snapshot hasSnapshot text length at_ isWell rd readMany out.2.1 out.2.2 digit digitMany other otherMany column columnMany carryMany chainMost) s.heap.size (some (.int out.1))) [.ref (h 0), .long a1, .long a2].toArray s 0 0 A) = ZZ
  have hret : ∀ (pc : Nat) (H : Heap) (locs : List Loc) (ls : Array Slot) (v : Int32) (ctop : Int64) (cbottom : Int64), (v, ctop, cbottom) = out → decode cX11_makes pc = .ok (.ireturn, 1) → xW g A s.heap (wM g h thrown ss states stateMany snapshot hasSnapshot text length at_ isWell rd readMany ctop cbottom digit digitMany other otherMany column columnMany carryMany chainMost) H locs → W p l e { frames := 1, cells := 0, slots := 0, locals := 29 } s m [.ref (h 0), .long a1, .long a2].toArray below meth c H locs 0 0 ZZ (F0 m pc ls [.int v]) := by
    intro pc H locs ls v ctop cbottom he hd hw
    subst he
    rw [← hZ]
    exact W.iret hx hb hr (hpost H locs hw).1 (hpost H locs hw).2 hd hlocks
  clear hpost
  refine lv_lload_n hx hb dX11_makes_0 rfl (lv_at hl 1 rfl) ?_
  refine lv_lload_n hx hb dX11_makes_1 rfl (lv_at hl 2 rfl) ?_
  obtain ⟨v2, hv2, hf⟩ := ob_e hf
  refine xcallS (ws' := (wM g h thrown ss states stateMany snapshot hasSnapshot text length at_ isWell rd readMany top bottom digit digitMany other otherMany column columnMany carryMany chainMost)) (st1 := [.long v2]) (n := 9) E hw [.long a1, .long a2] [] (met_X11_factor l g a1 a2 v2 hv2) rfl (by decide) rfl rfl [0, 1, 2, 3, 4, 5, 6, 7, 8] rfl (by decide +kernel) rfl qw1120 k_X11_factor ⟨rfl, rfl, Nat.le_of_ble_eq_true rfl, Nat.le_of_ble_eq_true rfl⟩ ⟨Nat.zero_le _, Nat.zero_le _⟩ hl.1 (Nat.le_of_ble_eq_true rfl) dX11_makes_2 rfl (fun H locs hw => ?_)
  refine lv_lstore (lv' := [(5, .long v2), (0, .ref (h 0)), (1, .long a1), (3, .long a2)]) hx hb dX11_makes_5 hl (by decide) rfl (fun ls hl => ?_)
  refine lv_aload_n hx hb dX11_makes_7 rfl (lv_at hl 1 rfl) ?_
  refine lv_lload_n hx hb dX11_makes_8 rfl (lv_at hl 2 rfl) ?_
  refine lv_lload hx hb dX11_makes_9 (lv_at hl 0 rfl) ?_
  obtain ⟨hz, hf⟩ := nz hf
  refine lv_ldiv hx hb dX11_makes_11 hz ?_
  refine xput (ws' := (wM g h thrown ss states stateMany snapshot hasSnapshot text length at_ isWell rd readMany (a1 / v2) bottom digit digitMany other otherMany column columnMany carryMany chainMost)) E hw 0 rfl rfl 12 (by decide) inw11 tyX11_ok nmX11 qw1031 rfl rfl rfl rfl (Nat.le_of_ble_eq_true rfl) dX11_makes_12 rfl (fun H locs hw => ?_)
  refine lv_aload_n hx hb dX11_makes_15 rfl (lv_at hl 1 rfl) ?_
  refine lv_lload_n hx hb dX11_makes_16 rfl (lv_at hl 3 rfl) ?_
  refine lv_lload hx hb dX11_makes_17 (lv_at hl 0 rfl) ?_
  obtain ⟨hz, hf⟩ := nz hf
  refine lv_ldiv hx hb dX11_makes_19 hz ?_
  refine xput (ws' := (wM g h thrown ss states stateMany snapshot hasSnapshot text length at_ isWell rd readMany (a1 / v2) (a2 / v2) digit digitMany other otherMany column columnMany carryMany chainMost)) E hw 0 rfl rfl 13 (by decide) inw11 tyX11_ok nmX11 qw1032 rfl rfl rfl rfl (Nat.le_of_ble_eq_true rfl) dX11_makes_20 rfl (fun H locs hw => ?_)
  refine lv_aload_n hx hb dX11_makes_23 rfl (lv_at hl 1 rfl) ?_
  refine xget (v := .long (a1 / v2)) E hw 0 rfl rfl 12 (by decide) inw11 qw1031 rfl rfl dX11_makes_24 ?_
  refine lv_ldc2 hx hb hown (hts _ qw1123) dX11_makes_27 ?_
  refine xlc_le (tgt := 38) hx hb dX11_makes_30 dX11_makes_31 (by decide) (fun c30 => ?_) (fun c30 => ?_)
  · replace hf := iq c30 hf
    refine lv_aload_n hx hb dX11_makes_38 rfl (lv_at hl 1 rfl) ?_
    refine xget (v := .long (a2 / v2)) E hw 0 rfl rfl 13 (by decide) inw11 qw1032 rfl rfl dX11_makes_39 ?_
    refine lv_ldc2 hx hb hown (hts _ qw1124) dX11_makes_42 ?_
    refine xlc_le (tgt := 53) hx hb dX11_makes_45 dX11_makes_46 (by decide) (fun c45 => ?_) (fun c45 => ?_)
    · replace hf := iq c45 hf
      refine lv_iconst (v := 0) hx hb dX11_makes_53 (by decide) ?_
      exact hret _ _ _ _ _ _ _ (Option.some.inj hf) dX11_makes_54 hw
    · replace hf := ip c45 hf
      refine lv_iconst (v := 2) hx hb dX11_makes_49 (by decide) ?_
      refine lv_goto (tgt := 54) hx hb dX11_makes_50 (by decide) ?_
      exact hret _ _ _ _ _ _ _ (Option.some.inj hf) dX11_makes_54 hw
  · replace hf := ip c30 hf
    refine lv_iconst (v := 1) hx hb dX11_makes_34 (by decide) ?_
    refine lv_goto (tgt := 54) hx hb dX11_makes_35 (by decide) ?_
    exact hret _ _ _ _ _ _ _ (Option.some.inj hf) dX11_makes_54 hw
theorem k_X11_makesSum : xKV yX11_makesSum cX11_makesSum 4 (some .int) 3 := ⟨qw1142, qw27, qw74, qw1143, by decide +kernel, by decide +kernel, by decide +kernel⟩
set_option maxHeartbeats 4000000 in
set_option maxRecDepth 100000 in
theorem met_X11_makesSum (l : Launch) (g : xG) (h : Nat → Nat) (thrown : Int32) (ss : (Nat → Int32)) (states : (Nat → Int32)) (stateMany : Int32) (snapshot : (Nat → Int32)) (hasSnapshot : Int32) (text : (Nat → Int32)) (length : Int32) (at_ : Int32) (isWell : Int32) (rd : (Nat → Int32)) (readMany : Int32) (top : Int64) (bottom : Int64) (digit : (Nat → Int32)) (digitMany : Int32) (other : (Nat → Int32)) (otherMany : Int32) (column : (Nat → Int32)) (columnMany : Int32) (carryMany : Int32) (chainMost : Int32) (a1 : Int32) (a2 : Int32) (a3 : Int32) (out : Int32 × Int64 × Int64) (hf : f_X11_makesSum ss top bottom a1 a2 a3 = some out) : xM l yX11_makesSum (xC yX11_makesSum cX11_makesSum 4 (some .int)) { frames := 2, cells := 0, slots := 0, locals := 55 } g (wM g h thrown ss states stateMany snapshot hasSnapshot text length at_ isWell rd readMany top bottom digit digitMany other otherMany column columnMany carryMany chainMost) [.ref (h 0), .int a1, .int a2, .int a3] (some (.int out.1)) (wM g h thrown ss states stateMany snapshot hasSnapshot text length at_ isWell rd readMany out.2.1 out.2.2 digit digitMany other otherMany column columnMany carryMany chainMost) := by
  refine xof (by decide) (Nat.le_of_ble_eq_true rfl) ⟨rfl, rfl⟩ ?_
  intro p e s m below meth c A ls E hr hlocks hw hl hpost hAe
  have hx := E.1.1
  have hb := E.1.2.1
  have hown := E.1.2.2.2.1
  have hts := E.1.2.2.2.2
  generalize hZ : (MQ below (xPost g (wM g h thrown ss states stateMany snapshot hasSnapshot text length at_ isWell rd readMany top bottom digit digitMany other otherMany column columnMany carryMany chainMost) (wM g h thrown ss states stateMany snapshot hasSnapshot text length at_ isWell rd readMany out.2.1 out.2.2 digit digitMany other otherMany column columnMany carryMany chainMost) s.heap.size (some (.int out.1))) [.ref (h 0), .int a1, .int a2, .int a3].toArray s 0 0 A) = ZZ
  have hret : ∀ (pc : Nat) (H : Heap) (locs : List Loc) (ls : Array Slot) (v : Int32) (ctop : Int64) (cbottom : Int64), (v, ctop, cbottom) = out → decode cX11_makesSum pc = .ok (.ireturn, 1) → xW g A s.heap (wM g h thrown ss states stateMany snapshot hasSnapshot text length at_ isWell rd readMany ctop cbottom digit digitMany other otherMany column columnMany carryMany chainMost) H locs → W p l e { frames := 2, cells := 0, slots := 0, locals := 55 } s m [.ref (h 0), .int a1, .int a2, .int a3].toArray below meth c H locs 0 0 ZZ (F0 m pc ls [.int v]) := by
    intro pc H locs ls v ctop cbottom he hd hw
    subst he
    rw [← hZ]
    exact W.iret hx hb hr (hpost H locs hw).1 (hpost H locs hw).2 hd hlocks
  clear hpost
  refine lv_aload_n hx hb dX11_makesSum_0 rfl (lv_at hl 0 rfl) ?_
  refine lv_aload_n hx hb dX11_makesSum_1 rfl (lv_at hl 0 rfl) ?_
  refine lv_iload_n hx hb dX11_makesSum_2 rfl (lv_at hl 1 rfl) ?_
  obtain ⟨v3, hv3, hf⟩ := ob_e hf
  refine xcallV (ws' := (wM g h thrown ss states stateMany snapshot hasSnapshot text length at_ isWell rd readMany top bottom digit digitMany other otherMany column columnMany carryMany chainMost)) (st1 := [.int v3, .ref (h 0)]) (n := 9) E hw [.int a1] [0, 1, 2, 3, 4, 5, 6, 7, 8] (met_X11_up l g h thrown ss states stateMany snapshot hasSnapshot text length at_ isWell rd readMany top bottom digit digitMany other otherMany column columnMany carryMany chainMost a1 v3 hv3) rfl (by decide) rfl rfl [9, 10, 11, 12, 13, 14, 15, 16, 17] rfl (by decide +kernel) rfl rfl rfl rfl qw1144 k_X11_up ⟨rfl, rfl, Nat.le_of_ble_eq_true rfl, Nat.le_of_ble_eq_true rfl⟩ ⟨Nat.zero_le _, Nat.zero_le _⟩ hl.1 (Nat.le_of_ble_eq_true rfl) dX11_makesSum_3 rfl (fun H locs hw => ?_)
  refine lv_i2l hx hb dX11_makesSum_6 rfl ?_
  refine lv_aload_n hx hb dX11_makesSum_7 rfl (lv_at hl 0 rfl) ?_
  refine lv_iload_n hx hb dX11_makesSum_8 rfl (lv_at hl 2 rfl) ?_
  obtain ⟨v9, hv9, hf⟩ := ob_e hf
  refine xcallV (ws' := (wM g h thrown ss states stateMany snapshot hasSnapshot text length at_ isWell rd readMany top bottom digit digitMany other otherMany column columnMany carryMany chainMost)) (st1 := [.int v9, .long v3.toInt64, .ref (h 0)]) (n := 9) E hw [.int a2] [0, 1, 2, 3, 4, 5, 6, 7, 8] (met_X11_down l g h thrown ss states stateMany snapshot hasSnapshot text length at_ isWell rd readMany top bottom digit digitMany other otherMany column columnMany carryMany chainMost a2 v9 hv9) rfl (by decide) rfl rfl [9, 10, 11, 12, 13, 14, 15, 16, 17] rfl (by decide +kernel) rfl rfl rfl rfl qw1129 k_X11_down ⟨rfl, rfl, Nat.le_of_ble_eq_true rfl, Nat.le_of_ble_eq_true rfl⟩ ⟨Nat.zero_le _, Nat.zero_le _⟩ hl.1 (Nat.le_of_ble_eq_true rfl) dX11_makesSum_9 rfl (fun H locs hw => ?_)
  refine lv_i2l hx hb dX11_makesSum_12 rfl ?_
  refine lv_lmul hx hb dX11_makesSum_13 ?_
  refine lv_iload_n hx hb dX11_makesSum_14 rfl (lv_at hl 3 rfl) ?_
  refine lv_i2l hx hb dX11_makesSum_15 rfl ?_
  refine lv_aload_n hx hb dX11_makesSum_16 rfl (lv_at hl 0 rfl) ?_
  refine lv_iload_n hx hb dX11_makesSum_17 rfl (lv_at hl 2 rfl) ?_
  obtain ⟨v18, hv18, hf⟩ := ob_e hf
  refine xcallV (ws' := (wM g h thrown ss states stateMany snapshot hasSnapshot text length at_ isWell rd readMany top bottom digit digitMany other otherMany column columnMany carryMany chainMost)) (st1 := [.int v18, .long a3.toInt64, .long (v3.toInt64 * v9.toInt64), .ref (h 0)]) (n := 9) E hw [.int a2] [0, 1, 2, 3, 4, 5, 6, 7, 8] (met_X11_up l g h thrown ss states stateMany snapshot hasSnapshot text length at_ isWell rd readMany top bottom digit digitMany other otherMany column columnMany carryMany chainMost a2 v18 hv18) rfl (by decide) rfl rfl [9, 10, 11, 12, 13, 14, 15, 16, 17] rfl (by decide +kernel) rfl rfl rfl rfl qw1144 k_X11_up ⟨rfl, rfl, Nat.le_of_ble_eq_true rfl, Nat.le_of_ble_eq_true rfl⟩ ⟨Nat.zero_le _, Nat.zero_le _⟩ hl.1 (Nat.le_of_ble_eq_true rfl) dX11_makesSum_18 rfl (fun H locs hw => ?_)
  refine lv_i2l hx hb dX11_makesSum_21 rfl ?_
  refine lv_lmul hx hb dX11_makesSum_22 ?_
  refine lv_aload_n hx hb dX11_makesSum_23 rfl (lv_at hl 0 rfl) ?_
  refine lv_iload_n hx hb dX11_makesSum_24 rfl (lv_at hl 1 rfl) ?_
  obtain ⟨v25, hv25, hf⟩ := ob_e hf
  refine xcallV (ws' := (wM g h thrown ss states stateMany snapshot hasSnapshot text length at_ isWell rd readMany top bottom digit digitMany other otherMany column columnMany carryMany chainMost)) (st1 := [.int v25, .long (a3.toInt64 * v18.toInt64), .long (v3.toInt64 * v9.toInt64), .ref (h 0)]) (n := 9) E hw [.int a1] [0, 1, 2, 3, 4, 5, 6, 7, 8] (met_X11_down l g h thrown ss states stateMany snapshot hasSnapshot text length at_ isWell rd readMany top bottom digit digitMany other otherMany column columnMany carryMany chainMost a1 v25 hv25) rfl (by decide) rfl rfl [9, 10, 11, 12, 13, 14, 15, 16, 17] rfl (by decide +kernel) rfl rfl rfl rfl qw1129 k_X11_down ⟨rfl, rfl, Nat.le_of_ble_eq_true rfl, Nat.le_of_ble_eq_true rfl⟩ ⟨Nat.zero_le _, Nat.zero_le _⟩ hl.1 (Nat.le_of_ble_eq_true rfl) dX11_makesSum_25 rfl (fun H locs hw => ?_)
  refine lv_i2l hx hb dX11_makesSum_28 rfl ?_
  refine lv_lmul hx hb dX11_makesSum_29 ?_
  refine lv_ladd hx hb dX11_makesSum_30 ?_
  refine lv_aload_n hx hb dX11_makesSum_31 rfl (lv_at hl 0 rfl) ?_
  refine lv_iload_n hx hb dX11_makesSum_32 rfl (lv_at hl 1 rfl) ?_
  obtain ⟨v33, hv33, hf⟩ := ob_e hf
  refine xcallV (ws' := (wM g h thrown ss states stateMany snapshot hasSnapshot text length at_ isWell rd readMany top bottom digit digitMany other otherMany column columnMany carryMany chainMost)) (st1 := [.int v33, .long ((v3.toInt64 * v9.toInt64) + ((a3.toInt64 * v18.toInt64) * v25.toInt64)), .ref (h 0)]) (n := 9) E hw [.int a1] [0, 1, 2, 3, 4, 5, 6, 7, 8] (met_X11_down l g h thrown ss states stateMany snapshot hasSnapshot text length at_ isWell rd readMany top bottom digit digitMany other otherMany column columnMany carryMany chainMost a1 v33 hv33) rfl (by decide) rfl rfl [9, 10, 11, 12, 13, 14, 15, 16, 17] rfl (by decide +kernel) rfl rfl rfl rfl qw1129 k_X11_down ⟨rfl, rfl, Nat.le_of_ble_eq_true rfl, Nat.le_of_ble_eq_true rfl⟩ ⟨Nat.zero_le _, Nat.zero_le _⟩ hl.1 (Nat.le_of_ble_eq_true rfl) dX11_makesSum_33 rfl (fun H locs hw => ?_)
  refine lv_i2l hx hb dX11_makesSum_36 rfl ?_
  refine lv_aload_n hx hb dX11_makesSum_37 rfl (lv_at hl 0 rfl) ?_
  refine lv_iload_n hx hb dX11_makesSum_38 rfl (lv_at hl 2 rfl) ?_
  obtain ⟨v39, hv39, hf⟩ := ob_e hf
  refine xcallV (ws' := (wM g h thrown ss states stateMany snapshot hasSnapshot text length at_ isWell rd readMany top bottom digit digitMany other otherMany column columnMany carryMany chainMost)) (st1 := [.int v39, .long v33.toInt64, .long ((v3.toInt64 * v9.toInt64) + ((a3.toInt64 * v18.toInt64) * v25.toInt64)), .ref (h 0)]) (n := 9) E hw [.int a2] [0, 1, 2, 3, 4, 5, 6, 7, 8] (met_X11_down l g h thrown ss states stateMany snapshot hasSnapshot text length at_ isWell rd readMany top bottom digit digitMany other otherMany column columnMany carryMany chainMost a2 v39 hv39) rfl (by decide) rfl rfl [9, 10, 11, 12, 13, 14, 15, 16, 17] rfl (by decide +kernel) rfl rfl rfl rfl qw1129 k_X11_down ⟨rfl, rfl, Nat.le_of_ble_eq_true rfl, Nat.le_of_ble_eq_true rfl⟩ ⟨Nat.zero_le _, Nat.zero_le _⟩ hl.1 (Nat.le_of_ble_eq_true rfl) dX11_makesSum_39 rfl (fun H locs hw => ?_)
  refine lv_i2l hx hb dX11_makesSum_42 rfl ?_
  refine lv_lmul hx hb dX11_makesSum_43 ?_
  obtain ⟨v44, hv44, hf⟩ := ob_e hf
  refine xcallV (ws' := (wM g h thrown ss states stateMany snapshot hasSnapshot text length at_ isWell rd readMany v44.2.1 v44.2.2 digit digitMany other otherMany column columnMany carryMany chainMost)) (st1 := [.int v44.1]) (n := 9) E hw [.long ((v3.toInt64 * v9.toInt64) + ((a3.toInt64 * v18.toInt64) * v25.toInt64)), .long (v33.toInt64 * v39.toInt64)] [0, 1, 2, 3, 4, 5, 6, 7, 8] (met_X11_makes l g h thrown ss states stateMany snapshot hasSnapshot text length at_ isWell rd readMany top bottom digit digitMany other otherMany column columnMany carryMany chainMost ((v3.toInt64 * v9.toInt64) + ((a3.toInt64 * v18.toInt64) * v25.toInt64)) (v33.toInt64 * v39.toInt64) v44 hv44) rfl (by decide) rfl rfl [9, 10, 11, 12, 13, 14, 15, 16, 17] rfl (by decide +kernel) rfl rfl rfl rfl qw1116 k_X11_makes ⟨rfl, rfl, Nat.le_of_ble_eq_true rfl, Nat.le_of_ble_eq_true rfl⟩ ⟨Nat.zero_le _, Nat.zero_le _⟩ hl.1 (Nat.le_of_ble_eq_true rfl) dX11_makesSum_44 rfl (fun H locs hw => ?_)
  exact hret _ _ _ _ _ _ _ (Option.some.inj hf) dX11_makesSum_47 hw
theorem k_X11_makesMore : xKV yX11_makesMore cX11_makesMore 3 (some .int) 2 := ⟨qw1175, qw32, qw74, qw1176, by decide +kernel, by decide +kernel, by decide +kernel⟩
set_option maxHeartbeats 4000000 in
set_option maxRecDepth 100000 in
theorem met_X11_makesMore (l : Launch) (g : xG) (h : Nat → Nat) (thrown : Int32) (ss : (Nat → Int32)) (states : (Nat → Int32)) (stateMany : Int32) (snapshot : (Nat → Int32)) (hasSnapshot : Int32) (text : (Nat → Int32)) (length : Int32) (at_ : Int32) (isWell : Int32) (rd : (Nat → Int32)) (readMany : Int32) (top : Int64) (bottom : Int64) (digit : (Nat → Int32)) (digitMany : Int32) (other : (Nat → Int32)) (otherMany : Int32) (column : (Nat → Int32)) (columnMany : Int32) (carryMany : Int32) (chainMost : Int32) (a1 : Int32) (a2 : Int32) (out : Int32 × Int64 × Int64) (hf : f_X11_makesMore ss top bottom a1 a2 = some out) : xM l yX11_makesMore (xC yX11_makesMore cX11_makesMore 3 (some .int)) { frames := 2, cells := 0, slots := 0, locals := 55 } g (wM g h thrown ss states stateMany snapshot hasSnapshot text length at_ isWell rd readMany top bottom digit digitMany other otherMany column columnMany carryMany chainMost) [.ref (h 0), .int a1, .int a2] (some (.int out.1)) (wM g h thrown ss states stateMany snapshot hasSnapshot text length at_ isWell rd readMany out.2.1 out.2.2 digit digitMany other otherMany column columnMany carryMany chainMost) := by
  refine xof (by decide) (Nat.le_of_ble_eq_true rfl) ⟨rfl, rfl⟩ ?_
  intro p e s m below meth c A ls E hr hlocks hw hl hpost hAe
  have hx := E.1.1
  have hb := E.1.2.1
  have hown := E.1.2.2.2.1
  have hts := E.1.2.2.2.2
  generalize hZ : (MQ below (xPost g (wM g h thrown ss states stateMany snapshot hasSnapshot text length at_ isWell rd readMany top bottom digit digitMany other otherMany column columnMany carryMany chainMost) (wM g h thrown ss states stateMany snapshot hasSnapshot text length at_ isWell rd readMany out.2.1 out.2.2 digit digitMany other otherMany column columnMany carryMany chainMost) s.heap.size (some (.int out.1))) [.ref (h 0), .int a1, .int a2].toArray s 0 0 A) = ZZ
  have hret : ∀ (pc : Nat) (H : Heap) (locs : List Loc) (ls : Array Slot) (v : Int32) (ctop : Int64) (cbottom : Int64), (v, ctop, cbottom) = out → decode cX11_makesMore pc = .ok (.ireturn, 1) → xW g A s.heap (wM g h thrown ss states stateMany snapshot hasSnapshot text length at_ isWell rd readMany ctop cbottom digit digitMany other otherMany column columnMany carryMany chainMost) H locs → W p l e { frames := 2, cells := 0, slots := 0, locals := 55 } s m [.ref (h 0), .int a1, .int a2].toArray below meth c H locs 0 0 ZZ (F0 m pc ls [.int v]) := by
    intro pc H locs ls v ctop cbottom he hd hw
    subst he
    rw [← hZ]
    exact W.iret hx hb hr (hpost H locs hw).1 (hpost H locs hw).2 hd hlocks
  clear hpost
  refine lv_aload_n hx hb dX11_makesMore_0 rfl (lv_at hl 0 rfl) ?_
  refine lv_aload_n hx hb dX11_makesMore_1 rfl (lv_at hl 0 rfl) ?_
  refine lv_iload_n hx hb dX11_makesMore_2 rfl (lv_at hl 1 rfl) ?_
  obtain ⟨v3, hv3, hf⟩ := ob_e hf
  refine xcallV (ws' := (wM g h thrown ss states stateMany snapshot hasSnapshot text length at_ isWell rd readMany top bottom digit digitMany other otherMany column columnMany carryMany chainMost)) (st1 := [.int v3, .ref (h 0)]) (n := 9) E hw [.int a1] [0, 1, 2, 3, 4, 5, 6, 7, 8] (met_X11_up l g h thrown ss states stateMany snapshot hasSnapshot text length at_ isWell rd readMany top bottom digit digitMany other otherMany column columnMany carryMany chainMost a1 v3 hv3) rfl (by decide) rfl rfl [9, 10, 11, 12, 13, 14, 15, 16, 17] rfl (by decide +kernel) rfl rfl rfl rfl qw1144 k_X11_up ⟨rfl, rfl, Nat.le_of_ble_eq_true rfl, Nat.le_of_ble_eq_true rfl⟩ ⟨Nat.zero_le _, Nat.zero_le _⟩ hl.1 (Nat.le_of_ble_eq_true rfl) dX11_makesMore_3 rfl (fun H locs hw => ?_)
  refine lv_i2l hx hb dX11_makesMore_6 rfl ?_
  refine lv_iload_n hx hb dX11_makesMore_7 rfl (lv_at hl 2 rfl) ?_
  refine lv_i2l hx hb dX11_makesMore_8 rfl ?_
  refine lv_aload_n hx hb dX11_makesMore_9 rfl (lv_at hl 0 rfl) ?_
  refine lv_iload_n hx hb dX11_makesMore_10 rfl (lv_at hl 1 rfl) ?_
  obtain ⟨v11, hv11, hf⟩ := ob_e hf
  refine xcallV (ws' := (wM g h thrown ss states stateMany snapshot hasSnapshot text length at_ isWell rd readMany top bottom digit digitMany other otherMany column columnMany carryMany chainMost)) (st1 := [.int v11, .long a2.toInt64, .long v3.toInt64, .ref (h 0)]) (n := 9) E hw [.int a1] [0, 1, 2, 3, 4, 5, 6, 7, 8] (met_X11_down l g h thrown ss states stateMany snapshot hasSnapshot text length at_ isWell rd readMany top bottom digit digitMany other otherMany column columnMany carryMany chainMost a1 v11 hv11) rfl (by decide) rfl rfl [9, 10, 11, 12, 13, 14, 15, 16, 17] rfl (by decide +kernel) rfl rfl rfl rfl qw1129 k_X11_down ⟨rfl, rfl, Nat.le_of_ble_eq_true rfl, Nat.le_of_ble_eq_true rfl⟩ ⟨Nat.zero_le _, Nat.zero_le _⟩ hl.1 (Nat.le_of_ble_eq_true rfl) dX11_makesMore_11 rfl (fun H locs hw => ?_)
  refine lv_i2l hx hb dX11_makesMore_14 rfl ?_
  refine lv_lmul hx hb dX11_makesMore_15 ?_
  refine lv_ladd hx hb dX11_makesMore_16 ?_
  refine lv_aload_n hx hb dX11_makesMore_17 rfl (lv_at hl 0 rfl) ?_
  refine lv_iload_n hx hb dX11_makesMore_18 rfl (lv_at hl 1 rfl) ?_
  obtain ⟨v19, hv19, hf⟩ := ob_e hf
  refine xcallV (ws' := (wM g h thrown ss states stateMany snapshot hasSnapshot text length at_ isWell rd readMany top bottom digit digitMany other otherMany column columnMany carryMany chainMost)) (st1 := [.int v19, .long (v3.toInt64 + (a2.toInt64 * v11.toInt64)), .ref (h 0)]) (n := 9) E hw [.int a1] [0, 1, 2, 3, 4, 5, 6, 7, 8] (met_X11_down l g h thrown ss states stateMany snapshot hasSnapshot text length at_ isWell rd readMany top bottom digit digitMany other otherMany column columnMany carryMany chainMost a1 v19 hv19) rfl (by decide) rfl rfl [9, 10, 11, 12, 13, 14, 15, 16, 17] rfl (by decide +kernel) rfl rfl rfl rfl qw1129 k_X11_down ⟨rfl, rfl, Nat.le_of_ble_eq_true rfl, Nat.le_of_ble_eq_true rfl⟩ ⟨Nat.zero_le _, Nat.zero_le _⟩ hl.1 (Nat.le_of_ble_eq_true rfl) dX11_makesMore_19 rfl (fun H locs hw => ?_)
  refine lv_i2l hx hb dX11_makesMore_22 rfl ?_
  obtain ⟨v23, hv23, hf⟩ := ob_e hf
  refine xcallV (ws' := (wM g h thrown ss states stateMany snapshot hasSnapshot text length at_ isWell rd readMany v23.2.1 v23.2.2 digit digitMany other otherMany column columnMany carryMany chainMost)) (st1 := [.int v23.1]) (n := 9) E hw [.long (v3.toInt64 + (a2.toInt64 * v11.toInt64)), .long v19.toInt64] [0, 1, 2, 3, 4, 5, 6, 7, 8] (met_X11_makes l g h thrown ss states stateMany snapshot hasSnapshot text length at_ isWell rd readMany top bottom digit digitMany other otherMany column columnMany carryMany chainMost (v3.toInt64 + (a2.toInt64 * v11.toInt64)) v19.toInt64 v23 hv23) rfl (by decide) rfl rfl [9, 10, 11, 12, 13, 14, 15, 16, 17] rfl (by decide +kernel) rfl rfl rfl rfl qw1116 k_X11_makes ⟨rfl, rfl, Nat.le_of_ble_eq_true rfl, Nat.le_of_ble_eq_true rfl⟩ ⟨Nat.zero_le _, Nat.zero_le _⟩ hl.1 (Nat.le_of_ble_eq_true rfl) dX11_makesMore_23 rfl (fun H locs hw => ?_)
  exact hret _ _ _ _ _ _ _ (Option.some.inj hf) dX11_makesMore_26 hw
