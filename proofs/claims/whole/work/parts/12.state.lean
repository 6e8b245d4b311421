theorem k_X8_begin : xKV yX8_begin cX8_begin 1 none 0 := ⟨qw284, qw285, qw70, qw286, by decide +kernel, by decide +kernel, by decide +kernel⟩
set_option maxHeartbeats 4000000 in
set_option maxRecDepth 100000 in
theorem met_X8_begin (l : Launch) (g : xG) (h : Nat → Nat) (o : Nat) (y : YC) (out : YC) (hf : f_X8_begin y = some out) : xM l yX8_begin (xC yX8_begin cX8_begin 1 none) { frames := 0, cells := 0, slots := 0, locals := 0 } g (wY h o y) [.ref (h o)] none (wY h o out) := by
  refine xof (by decide) (Nat.le_of_ble_eq_true rfl) ⟨rfl, rfl⟩ ?_
  intro p e s m below meth c A ls E hr hlocks hw hl hpost hAe
  have hx := E.1.1
  have hb := E.1.2.1
  have hown := E.1.2.2.2.1
  have hts := E.1.2.2.2.2
  generalize hZ : (MQ below (xPost g (wY h o y) (wY h o out) s.heap.size none) [.ref (h o)].toArray s 0 0 A) = ZZ
  have hret : ∀ (pc : Nat) (H : Heap) (locs : List Loc) (ls : Array Slot) (cy : YC), cy = out → decode cX8_begin pc = .ok (.return_, 1) → xW g A s.heap (wY h o cy) H locs → W p l e { frames := 0, cells := 0, slots := 0, locals := 0 } s m [.ref (h o)].toArray below meth c H locs 0 0 ZZ (F0 m pc ls []) := by
    intro pc H locs ls cy he hd hw
    subst he
    rw [← hZ]
    exact W.vret hx hb hr (hpost H locs hw).1 (hpost H locs hw).2 hd hlocks
  clear hpost
  refine lv_aload_n hx hb dX8_begin_0 rfl (lv_at hl 0 rfl) ?_
  refine lv_iconst (v := 1) hx hb dX8_begin_1 (by decide) ?_
  refine xput (ws' := (wY h o (1, y.2))) E hw 0 rfl rfl 0 (by decide) inw8 tyX8_ok nmX8 qw152 rfl rfl rfl rfl (Nat.le_of_ble_eq_true rfl) dX8_begin_2 rfl (fun H locs hw => ?_)
  refine lv_aload_n hx hb dX8_begin_5 rfl (lv_at hl 0 rfl) ?_
  refine lv_iconst (v := 0) hx hb dX8_begin_6 (by decide) ?_
  refine xput (ws' := (wY h o (1, 0))) E hw 0 rfl rfl 1 (by decide) inw8 tyX8_ok nmX8 qw153 rfl rfl rfl rfl (Nat.le_of_ble_eq_true rfl) dX8_begin_7 rfl (fun H locs hw => ?_)
  exact hret _ _ _ _ _ (Option.some.inj hf) dX8_begin_10 hw
theorem k_X8_isAccountCode : xKS yX8_isAccountCode cX8_isAccountCode 1 (some .boolean) 1 := ⟨qw300, qw70, qw301, by decide +kernel, by decide +kernel, by decide +kernel⟩
set_option maxHeartbeats 4000000 in
set_option maxRecDepth 100000 in
theorem met_X8_isAccountCode (l : Launch) (g : xG) (a0 : Int32) (out : Int32) (hf : f_X8_isAccountCode a0 = some out) : xM l yX8_isAccountCode (xC yX8_isAccountCode cX8_isAccountCode 1 (some .boolean)) { frames := 0, cells := 0, slots := 0, locals := 0 } g ([] : va_W) [.int a0] (some (.int out)) ([] : va_W) := by
  refine xof (by decide) (Nat.le_of_ble_eq_true rfl) ⟨rfl, rfl⟩ ?_
  intro p e s m below meth c A ls E hr hlocks hw hl hpost hAe
  have hx := E.1.1
  have hb := E.1.2.1
  have hown := E.1.2.2.2.1
  have hts := E.1.2.2.2.2
  generalize hZ : (MQ below (xPost g ([] : va_W) ([] : va_W) s.heap.size (some (.int out))) [.int a0].toArray s 0 0 A) = ZZ
  have hret : ∀ (pc : Nat) (H : Heap) (locs : List Loc) (ls : Array Slot) (v : Int32), narrow .boolean (.int v) = .int v → v = out → decode cX8_isAccountCode pc = .ok (.ireturn, 1) → xW g A s.heap ([] : va_W) H locs → W p l e { frames := 0, cells := 0, slots := 0, locals := 0 } s m [.int a0].toArray below meth c H locs 0 0 ZZ (F0 m pc ls [.int v]) := by
    intro pc H locs ls v hn he hd hw
    subst he
    rw [← hZ]
    exact W.zret hx hb hr hn (hpost H locs hw).1 (hpost H locs hw).2 hd hlocks
  clear hpost
  refine lv_iload_n hx hb dX8_isAccountCode_0 rfl (lv_at hl 0 rfl) ?_
  refine lv_bipush (v := 48) hx hb dX8_isAccountCode_1 (by decide) ?_
  refine lv_icmp_lt (tgt := 16) hx hb dX8_isAccountCode_3 (by decide) (fun c3 => ?_) (fun c3 => ?_)
  · replace hf := ip c3 hf
    refine lv_iconst (v := 0) hx hb dX8_isAccountCode_16 (by decide) ?_
    exact hret _ _ _ _ _ (by decide) (Option.some.inj hf) dX8_isAccountCode_17 hw
  · replace hf := iq c3 hf
    refine lv_iload_n hx hb dX8_isAccountCode_6 rfl (lv_at hl 0 rfl) ?_
    refine lv_bipush (v := 54) hx hb dX8_isAccountCode_7 (by decide) ?_
    refine lv_icmp_ge (tgt := 16) hx hb dX8_isAccountCode_9 (by decide) (fun c9 => ?_) (fun c9 => ?_)
    · replace hf := ip c9 hf
      refine lv_iconst (v := 0) hx hb dX8_isAccountCode_16 (by decide) ?_
      exact hret _ _ _ _ _ (by decide) (Option.some.inj hf) dX8_isAccountCode_17 hw
    · replace hf := iq c9 hf
      refine lv_iconst (v := 1) hx hb dX8_isAccountCode_12 (by decide) ?_
      refine lv_goto (tgt := 17) hx hb dX8_isAccountCode_13 (by decide) ?_
      exact hret _ _ _ _ _ (by decide) (Option.some.inj hf) dX8_isAccountCode_17 hw
theorem k_X8_onlyIf : xKS yX8_onlyIf cX8_onlyIf 2 (some .int) 2 := ⟨qw303, qw70, qw304, by decide +kernel, by decide +kernel, by decide +kernel⟩
set_option maxHeartbeats 4000000 in
set_option maxRecDepth 100000 in
theorem met_X8_onlyIf (l : Launch) (g : xG) (a0 : Int32) (a1 : Int32) (out : Int32) (hf : f_X8_onlyIf a0 a1 = some out) : xM l yX8_onlyIf (xC yX8_onlyIf cX8_onlyIf 2 (some .int)) { frames := 0, cells := 0, slots := 0, locals := 0 } g ([] : va_W) [.int a0, .int a1] (some (.int out)) ([] : va_W) := by
  refine xof (by decide) (Nat.le_of_ble_eq_true rfl) ⟨rfl, rfl⟩ ?_
  intro p e s m below meth c A ls E hr hlocks hw hl hpost hAe
  have hx := E.1.1
  have hb := E.1.2.1
  have hown := E.1.2.2.2.1
  have hts := E.1.2.2.2.2
  generalize hZ : (MQ below (xPost g ([] : va_W) ([] : va_W) s.heap.size (some (.int out))) [.int a0, .int a1].toArray s 0 0 A) = ZZ
  have hret : ∀ (pc : Nat) (H : Heap) (locs : List Loc) (ls : Array Slot) (v : Int32), v = out → decode cX8_onlyIf pc = .ok (.ireturn, 1) → xW g A s.heap ([] : va_W) H locs → W p l e { frames := 0, cells := 0, slots := 0, locals := 0 } s m [.int a0, .int a1].toArray below meth c H locs 0 0 ZZ (F0 m pc ls [.int v]) := by
    intro pc H locs ls v he hd hw
    subst he
    rw [← hZ]
    exact W.iret hx hb hr (hpost H locs hw).1 (hpost H locs hw).2 hd hlocks
  clear hpost
  refine lv_iload_n hx hb dX8_onlyIf_0 rfl (lv_at hl 0 rfl) ?_
  refine lv_if_eq (tgt := 8) hx hb dX8_onlyIf_1 (by decide) (fun c1 => ?_) (fun c1 => ?_)
  · replace hf := ip c1 hf
    refine lv_iconst (v := 0) hx hb dX8_onlyIf_8 (by decide) ?_
    exact hret _ _ _ _ _ (Option.some.inj hf) dX8_onlyIf_9 hw
  · replace hf := iq c1 hf
    refine lv_iload_n hx hb dX8_onlyIf_4 rfl (lv_at hl 1 rfl) ?_
    refine lv_goto (tgt := 9) hx hb dX8_onlyIf_5 (by decide) ?_
    exact hret _ _ _ _ _ (Option.some.inj hf) dX8_onlyIf_9 hw
theorem k_X8_digitOf : xKS yX8_digitOf cX8_digitOf 1 (some .int) 1 := ⟨qw310, qw70, qw311, by decide +kernel, by decide +kernel, by decide +kernel⟩
set_option maxHeartbeats 4000000 in
set_option maxRecDepth 100000 in
theorem met_X8_digitOf (l : Launch) (g : xG) (a0 : Int32) (out : Int32) (hf : f_X8_digitOf a0 = some out) : xM l yX8_digitOf (xC yX8_digitOf cX8_digitOf 1 (some .int)) { frames := 0, cells := 0, slots := 0, locals := 0 } g ([] : va_W) [.int a0] (some (.int out)) ([] : va_W) := by
  refine xof (by decide) (Nat.le_of_ble_eq_true rfl) ⟨rfl, rfl⟩ ?_
  intro p e s m below meth c A ls E hr hlocks hw hl hpost hAe
  have hx := E.1.1
  have hb := E.1.2.1
  have hown := E.1.2.2.2.1
  have hts := E.1.2.2.2.2
  generalize hZ : (MQ below (xPost g ([] : va_W) ([] : va_W) s.heap.size (some (.int out))) [.int a0].toArray s 0 0 A) = ZZ
  have hret : ∀ (pc : Nat) (H : Heap) (locs : List Loc) (ls : Array Slot) (v : Int32), v = out → decode cX8_digitOf pc = .ok (.ireturn, 1) → xW g A s.heap ([] : va_W) H locs → W p l e { frames := 0, cells := 0, slots := 0, locals := 0 } s m [.int a0].toArray below meth c H locs 0 0 ZZ (F0 m pc ls [.int v]) := by
    intro pc H locs ls v he hd hw
    subst he
    rw [← hZ]
    exact W.iret hx hb hr (hpost H locs hw).1 (hpost H locs hw).2 hd hlocks
  clear hpost
  have b17 : ∀ (H : Heap) (locs : List Loc) (ls : Array Slot) (x0 : Int32), xW g A s.heap ([] : va_W) H locs → lv_has ls 1 [(0, .int x0)] → f_X8_digitOf_b17 x0 = some out → W p l e { frames := 0, cells := 0, slots := 0, locals := 0 } s m [.int a0].toArray below meth c H locs 0 0 ZZ (F0 m 17 ls []) := by
    intro H locs ls x0 hw hl hf
    refine lv_iload_n hx hb dX8_digitOf_17 rfl (lv_at hl 0 rfl) ?_
    refine lv_bipush (v := 97) hx hb dX8_digitOf_18 (by decide) ?_
    refine lv_icmp_lt (tgt := 39) hx hb dX8_digitOf_20 (by decide) (fun c20 => ?_) (fun c20 => ?_)
    · replace hf := ip c20 hf
      refine lv_iconst (v := (-1)) hx hb dX8_digitOf_39 (by decide) ?_
      exact hret _ _ _ _ _ (Option.some.inj hf) dX8_digitOf_40 hw
    · replace hf := iq c20 hf
      refine lv_iload_n hx hb dX8_digitOf_23 rfl (lv_at hl 0 rfl) ?_
      refine lv_bipush (v := 102) hx hb dX8_digitOf_24 (by decide) ?_
      refine lv_icmp_gt (tgt := 39) hx hb dX8_digitOf_26 (by decide) (fun c26 => ?_) (fun c26 => ?_)
      · replace hf := ip c26 hf
        refine lv_iconst (v := (-1)) hx hb dX8_digitOf_39 (by decide) ?_
        exact hret _ _ _ _ _ (Option.some.inj hf) dX8_digitOf_40 hw
      · replace hf := iq c26 hf
        refine lv_iload_n hx hb dX8_digitOf_29 rfl (lv_at hl 0 rfl) ?_
        refine lv_bipush (v := 97) hx hb dX8_digitOf_30 (by decide) ?_
        refine lv_isub hx hb dX8_digitOf_32 ?_
        refine lv_bipush (v := 10) hx hb dX8_digitOf_33 (by decide) ?_
        refine lv_iadd hx hb dX8_digitOf_35 ?_
        refine lv_goto (tgt := 40) hx hb dX8_digitOf_36 (by decide) ?_
        exact hret _ _ _ _ _ (Option.some.inj hf) dX8_digitOf_40 hw
  refine lv_iload_n hx hb dX8_digitOf_0 rfl (lv_at hl 0 rfl) ?_
  refine lv_bipush (v := 48) hx hb dX8_digitOf_1 (by decide) ?_
  refine lv_icmp_lt (tgt := 17) hx hb dX8_digitOf_3 (by decide) (fun c3 => ?_) (fun c3 => ?_)
  · replace hf := ip c3 hf
    exact b17 _ _ _ a0 hw (lv_sub hl [0] rfl) hf
  · replace hf := iq c3 hf
    refine lv_iload_n hx hb dX8_digitOf_6 rfl (lv_at hl 0 rfl) ?_
    refine lv_bipush (v := 57) hx hb dX8_digitOf_7 (by decide) ?_
    refine lv_icmp_gt (tgt := 17) hx hb dX8_digitOf_9 (by decide) (fun c9 => ?_) (fun c9 => ?_)
    · replace hf := ip c9 hf
      exact b17 _ _ _ a0 hw (lv_sub hl [0] rfl) hf
    · replace hf := iq c9 hf
      refine lv_iload_n hx hb dX8_digitOf_12 rfl (lv_at hl 0 rfl) ?_
      refine lv_bipush (v := 48) hx hb dX8_digitOf_13 (by decide) ?_
      refine lv_isub hx hb dX8_digitOf_15 ?_
      exact hret _ _ _ _ _ (Option.some.inj hf) dX8_digitOf_16 hw
theorem k_X8_expectedInNumber : xKV yX8_expectedInNumber cX8_expectedInNumber 3 (some .int) 1 := ⟨qw307, qw1, qw70, qw308, by decide +kernel, by decide +kernel, by decide +kernel⟩
set_option maxHeartbeats 4000000 in
set_option maxRecDepth 100000 in
theorem met_X8_expectedInNumber (l : Launch) (g : xG) (h : Nat → Nat) (o : Nat) (y : YC) (a1 : Int32) (out : Int32) (hf : f_X8_expectedInNumber y a1 = some out) : xM l yX8_expectedInNumber (xC yX8_expectedInNumber cX8_expectedInNumber 3 (some .int)) { frames := 1, cells := 0, slots := 0, locals := 21 } g (wY h o y) [.ref (h o), .int a1] (some (.int out)) (wY h o y) := by
  refine xof (by decide) (Nat.le_of_ble_eq_true rfl) ⟨rfl, rfl⟩ ?_
  intro p e s m below meth c A ls E hr hlocks hw hl hpost hAe
  have hx := E.1.1
  have hb := E.1.2.1
  have hown := E.1.2.2.2.1
  have hts := E.1.2.2.2.2
  generalize hZ : (MQ below (xPost g (wY h o y) (wY h o y) s.heap.size (some (.int out))) [.ref (h o), .int a1].toArray s 0 0 A) = ZZ
  have hret : ∀ (pc : Nat) (H : Heap) (locs : List Loc) (ls : Array Slot) (v : Int32), v = out → decode cX8_expectedInNumber pc = .ok (.ireturn, 1) → xW g A s.heap (wY h o y) H locs → W p l e { frames := 1, cells := 0, slots := 0, locals := 21 } s m [.ref (h o), .int a1].toArray below meth c H locs 0 0 ZZ (F0 m pc ls [.int v]) := by
    intro pc H locs ls v he hd hw
    subst he
    rw [← hZ]
    exact W.iret hx hb hr (hpost H locs hw).1 (hpost H locs hw).2 hd hlocks
  clear hpost
  have b100 : ∀ (H : Heap) (locs : List Loc) (ls : Array Slot) (t0 : Int32), xW g A s.heap (wY h o y) H locs → lv_has ls 3 [] → f_X8_expectedInNumber_b100 y t0 = some out → W p l e { frames := 1, cells := 0, slots := 0, locals := 21 } s m [.ref (h o), .int a1].toArray below meth c H locs 0 0 ZZ (F0 m 100 ls [.int t0]) := by
    intro H locs ls t0 hw hl hf
    refine lv_iconst (v := 1) hx hb dX8_expectedInNumber_100 (by decide) ?_
    obtain ⟨v101, hv101, hf⟩ := ob_e hf
    refine xcallS (ws' := (wY h o y)) (st1 := [.int v101]) (n := 1) E hw [.int t0, .int 1] [] (met_X8_onlyIf l g t0 1 v101 hv101) rfl (by decide) rfl rfl [0] rfl (by decide +kernel) rfl qw302 k_X8_onlyIf ⟨rfl, rfl, Nat.le_of_ble_eq_true rfl, Nat.le_of_ble_eq_true rfl⟩ ⟨Nat.zero_le _, Nat.zero_le _⟩ hl.1 (Nat.le_of_ble_eq_true rfl) dX8_expectedInNumber_101 rfl (fun H locs hw => ?_)
    exact hret _ _ _ _ _ (Option.some.inj hf) dX8_expectedInNumber_104 hw
  have b151 : ∀ (H : Heap) (locs : List Loc) (ls : Array Slot) (t0 : Int32), xW g A s.heap (wY h o y) H locs → lv_has ls 3 [] → f_X8_expectedInNumber_b151 y t0 = some out → W p l e { frames := 1, cells := 0, slots := 0, locals := 21 } s m [.ref (h o), .int a1].toArray below meth c H locs 0 0 ZZ (F0 m 151 ls [.int t0]) := by
    intro H locs ls t0 hw hl hf
    refine lv_iconst (v := 1) hx hb dX8_expectedInNumber_151 (by decide) ?_
    obtain ⟨v152, hv152, hf⟩ := ob_e hf
    refine xcallS (ws' := (wY h o y)) (st1 := [.int v152]) (n := 1) E hw [.int t0, .int 1] [] (met_X8_onlyIf l g t0 1 v152 hv152) rfl (by decide) rfl rfl [0] rfl (by decide +kernel) rfl qw302 k_X8_onlyIf ⟨rfl, rfl, Nat.le_of_ble_eq_true rfl, Nat.le_of_ble_eq_true rfl⟩ ⟨Nat.zero_le _, Nat.zero_le _⟩ hl.1 (Nat.le_of_ble_eq_true rfl) dX8_expectedInNumber_152 rfl (fun H locs hw => ?_)
    exact hret _ _ _ _ _ (Option.some.inj hf) dX8_expectedInNumber_155 hw
  have b123 : ∀ (H : Heap) (locs : List Loc) (ls : Array Slot) (t0 : Int32), xW g A s.heap (wY h o y) H locs → lv_has ls 3 [] → f_X8_expectedInNumber_b123 y t0 = some out → W p l e { frames := 1, cells := 0, slots := 0, locals := 21 } s m [.ref (h o), .int a1].toArray below meth c H locs 0 0 ZZ (F0 m 123 ls [.int t0]) := by
    intro H locs ls t0 hw hl hf
    refine lv_bipush (v := 8) hx hb dX8_expectedInNumber_123 (by decide) ?_
    obtain ⟨v125, hv125, hf⟩ := ob_e hf
    refine xcallS (ws' := (wY h o y)) (st1 := [.int v125]) (n := 1) E hw [.int t0, .int 8] [] (met_X8_onlyIf l g t0 8 v125 hv125) rfl (by decide) rfl rfl [0] rfl (by decide +kernel) rfl qw302 k_X8_onlyIf ⟨rfl, rfl, Nat.le_of_ble_eq_true rfl, Nat.le_of_ble_eq_true rfl⟩ ⟨Nat.zero_le _, Nat.zero_le _⟩ hl.1 (Nat.le_of_ble_eq_true rfl) dX8_expectedInNumber_125 rfl (fun H locs hw => ?_)
    exact hret _ _ _ _ _ (Option.some.inj hf) dX8_expectedInNumber_128 hw
  have b219 : ∀ (H : Heap) (locs : List Loc) (ls : Array Slot) (t0 : Int32), xW g A s.heap (wY h o y) H locs → lv_has ls 3 [] → f_X8_expectedInNumber_b219 y t0 = some out → W p l e { frames := 1, cells := 0, slots := 0, locals := 21 } s m [.ref (h o), .int a1].toArray below meth c H locs 0 0 ZZ (F0 m 219 ls [.int t0]) := by
    intro H locs ls t0 hw hl hf
    refine lv_iconst (v := 1) hx hb dX8_expectedInNumber_219 (by decide) ?_
    obtain ⟨v220, hv220, hf⟩ := ob_e hf
    refine xcallS (ws' := (wY h o y)) (st1 := [.int v220]) (n := 1) E hw [.int t0, .int 1] [] (met_X8_onlyIf l g t0 1 v220 hv220) rfl (by decide) rfl rfl [0] rfl (by decide +kernel) rfl qw302 k_X8_onlyIf ⟨rfl, rfl, Nat.le_of_ble_eq_true rfl, Nat.le_of_ble_eq_true rfl⟩ ⟨Nat.zero_le _, Nat.zero_le _⟩ hl.1 (Nat.le_of_ble_eq_true rfl) dX8_expectedInNumber_220 rfl (fun H locs hw => ?_)
    exact hret _ _ _ _ _ (Option.some.inj hf) dX8_expectedInNumber_223 hw
  have b191 : ∀ (H : Heap) (locs : List Loc) (ls : Array Slot) (t0 : Int32), xW g A s.heap (wY h o y) H locs → lv_has ls 3 [] → f_X8_expectedInNumber_b191 y t0 = some out → W p l e { frames := 1, cells := 0, slots := 0, locals := 21 } s m [.ref (h o), .int a1].toArray below meth c H locs 0 0 ZZ (F0 m 191 ls [.int t0]) := by
    intro H locs ls t0 hw hl hf
    refine lv_bipush (v := 10) hx hb dX8_expectedInNumber_191 (by decide) ?_
    obtain ⟨v193, hv193, hf⟩ := ob_e hf
    refine xcallS (ws' := (wY h o y)) (st1 := [.int v193]) (n := 1) E hw [.int t0, .int 10] [] (met_X8_onlyIf l g t0 10 v193 hv193) rfl (by decide) rfl rfl [0] rfl (by decide +kernel) rfl qw302 k_X8_onlyIf ⟨rfl, rfl, Nat.le_of_ble_eq_true rfl, Nat.le_of_ble_eq_true rfl⟩ ⟨Nat.zero_le _, Nat.zero_le _⟩ hl.1 (Nat.le_of_ble_eq_true rfl) dX8_expectedInNumber_193 rfl (fun H locs hw => ?_)
    exact hret _ _ _ _ _ (Option.some.inj hf) dX8_expectedInNumber_196 hw
  have b267 : ∀ (H : Heap) (locs : List Loc) (ls : Array Slot) (t0 : Int32), xW g A s.heap (wY h o y) H locs → lv_has ls 3 [] → f_X8_expectedInNumber_b267 y t0 = some out → W p l e { frames := 1, cells := 0, slots := 0, locals := 21 } s m [.ref (h o), .int a1].toArray below meth c H locs 0 0 ZZ (F0 m 267 ls [.int t0]) := by
    intro H locs ls t0 hw hl hf
    refine lv_bipush (v := 13) hx hb dX8_expectedInNumber_267 (by decide) ?_
    obtain ⟨v269, hv269, hf⟩ := ob_e hf
    refine xcallS (ws' := (wY h o y)) (st1 := [.int v269]) (n := 1) E hw [.int t0, .int 13] [] (met_X8_onlyIf l g t0 13 v269 hv269) rfl (by decide) rfl rfl [0] rfl (by decide +kernel) rfl qw302 k_X8_onlyIf ⟨rfl, rfl, Nat.le_of_ble_eq_true rfl, Nat.le_of_ble_eq_true rfl⟩ ⟨Nat.zero_le _, Nat.zero_le _⟩ hl.1 (Nat.le_of_ble_eq_true rfl) dX8_expectedInNumber_269 rfl (fun H locs hw => ?_)
    exact hret _ _ _ _ _ (Option.some.inj hf) dX8_expectedInNumber_272 hw
  have b248 : ∀ (H : Heap) (locs : List Loc) (ls : Array Slot) (t0 : Int32), xW g A s.heap (wY h o y) H locs → lv_has ls 3 [] → f_X8_expectedInNumber_b248 y t0 = some out → W p l e { frames := 1, cells := 0, slots := 0, locals := 21 } s m [.ref (h o), .int a1].toArray below meth c H locs 0 0 ZZ (F0 m 248 ls [.int t0]) := by
    intro H locs ls t0 hw hl hf
    refine lv_bipush (v := 12) hx hb dX8_expectedInNumber_248 (by decide) ?_
    obtain ⟨v250, hv250, hf⟩ := ob_e hf
    refine xcallS (ws' := (wY h o y)) (st1 := [.int v250]) (n := 1) E hw [.int t0, .int 12] [] (met_X8_onlyIf l g t0 12 v250 hv250) rfl (by decide) rfl rfl [0] rfl (by decide +kernel) rfl qw302 k_X8_onlyIf ⟨rfl, rfl, Nat.le_of_ble_eq_true rfl, Nat.le_of_ble_eq_true rfl⟩ ⟨Nat.zero_le _, Nat.zero_le _⟩ hl.1 (Nat.le_of_ble_eq_true rfl) dX8_expectedInNumber_250 rfl (fun H locs hw => ?_)
    refine lv_goto (tgt := 272) hx hb dX8_expectedInNumber_253 (by decide) ?_
    exact hret _ _ _ _ _ (Option.some.inj hf) dX8_expectedInNumber_272 hw
  have b12 : ∀ (H : Heap) (locs : List Loc) (ls : Array Slot) (x1 : Int32) (t0 : Int32), xW g A s.heap (wY h o y) H locs → lv_has ls 3 [(0, .ref (h o)), (1, .int x1)] → f_X8_expectedInNumber_b12 y x1 t0 = some out → W p l e { frames := 1, cells := 0, slots := 0, locals := 21 } s m [.ref (h o), .int a1].toArray below meth c H locs 0 0 ZZ (F0 m 12 ls [.int t0]) := by
    intro H locs ls x1 t0 hw hl hf
    refine lv_istore_n (lv' := [(2, .int t0), (0, .ref (h o)), (1, .int x1)]) hx hb dX8_expectedInNumber_12 rfl hl (by decide) rfl (fun ls hl => ?_)
    refine lv_aload_n hx hb dX8_expectedInNumber_13 rfl (lv_at hl 1 rfl) ?_
    refine xget (v := .int y.1) E hw 0 rfl rfl 0 (by decide) inw8 qw152 rfl rfl dX8_expectedInNumber_14 ?_
    by_cases hd17 : y.1.toInt < 6 ∨ 12 < y.1.toInt
    · replace hf := ip hd17 hf
      refine lv_tableOut (tgt := 273) hx hb dX8_expectedInNumber_17 hd17 (by decide) ?_
      refine lv_iconst (v := 0) hx hb dX8_expectedInNumber_273 (by decide) ?_
      exact hret _ _ _ _ _ (Option.some.inj hf) dX8_expectedInNumber_274 hw
    replace hf := iq hd17 hf
    by_cases hk : y.1 = 6
    · replace hf := ip hk hf
      refine lv_tableIn (tgt := 60) (off := 43) hx hb dX8_expectedInNumber_17 (by rw [hk]; decide) (by rw [hk]; decide) (by rw [hk]; rfl) (by decide) ?_
      refine lv_iload_n hx hb dX8_expectedInNumber_60 rfl (lv_at hl 2 rfl) ?_
      refine lv_bipush (v := 48) hx hb dX8_expectedInNumber_61 (by decide) ?_
      refine lv_icmp_ne (tgt := 71) hx hb dX8_expectedInNumber_63 (by decide) (fun c63 => ?_) (fun c63 => ?_)
      · replace hf := iq c63 hf
        refine lv_iload_n hx hb dX8_expectedInNumber_71 rfl (lv_at hl 0 rfl) ?_
        refine lv_bipush (v := 8) hx hb dX8_expectedInNumber_72 (by decide) ?_
        obtain ⟨v74, hv74, hf⟩ := ob_e hf
        refine xcallS (ws' := (wY h o y)) (st1 := [.int v74]) (n := 1) E hw [.int t0, .int 8] [] (met_X8_onlyIf l g t0 8 v74 hv74) rfl (by decide) rfl rfl [0] rfl (by decide +kernel) rfl qw302 k_X8_onlyIf ⟨rfl, rfl, Nat.le_of_ble_eq_true rfl, Nat.le_of_ble_eq_true rfl⟩ ⟨Nat.zero_le _, Nat.zero_le _⟩ hl.1 (Nat.le_of_ble_eq_true rfl) dX8_expectedInNumber_74 rfl (fun H locs hw => ?_)
        exact hret _ _ _ _ _ (Option.some.inj hf) dX8_expectedInNumber_77 hw
      · replace hf := ip c63 hf
        refine lv_bipush (v := 7) hx hb dX8_expectedInNumber_66 (by decide) ?_
        refine lv_goto (tgt := 77) hx hb dX8_expectedInNumber_68 (by decide) ?_
        exact hret _ _ _ _ _ (Option.some.inj hf) dX8_expectedInNumber_77 hw
    replace hf := iq hk hf
    by_cases hk : y.1 = 7
    · replace hf := ip hk hf
      refine lv_tableIn (tgt := 78) (off := 61) hx hb dX8_expectedInNumber_17 (by rw [hk]; decide) (by rw [hk]; decide) (by rw [hk]; rfl) (by decide) ?_
      refine lv_iload_n hx hb dX8_expectedInNumber_78 rfl (lv_at hl 2 rfl) ?_
      refine lv_bipush (v := 46) hx hb dX8_expectedInNumber_79 (by decide) ?_
      refine lv_icmp_ne (tgt := 89) hx hb dX8_expectedInNumber_81 (by decide) (fun c81 => ?_) (fun c81 => ?_)
      · replace hf := iq c81 hf
        refine lv_iload_n hx hb dX8_expectedInNumber_89 rfl (lv_at hl 2 rfl) ?_
        refine lv_bipush (v := 59) hx hb dX8_expectedInNumber_90 (by decide) ?_
        refine lv_icmp_ne (tgt := 99) hx hb dX8_expectedInNumber_92 (by decide) (fun c92 => ?_) (fun c92 => ?_)
        · replace hf := iq c92 hf
          refine lv_iconst (v := 0) hx hb dX8_expectedInNumber_99 (by decide) ?_
          exact b100 _ _ _ 0 hw (lv_sub hl [] rfl) hf
        · replace hf := ip c92 hf
          refine lv_iconst (v := 1) hx hb dX8_expectedInNumber_95 (by decide) ?_
          refine lv_goto (tgt := 100) hx hb dX8_expectedInNumber_96 (by decide) ?_
          exact b100 _ _ _ 1 hw (lv_sub hl [] rfl) hf
      · replace hf := ip c81 hf
        refine lv_bipush (v := 9) hx hb dX8_expectedInNumber_84 (by decide) ?_
        refine lv_goto (tgt := 104) hx hb dX8_expectedInNumber_86 (by decide) ?_
        exact hret _ _ _ _ _ (Option.some.inj hf) dX8_expectedInNumber_104 hw
    replace hf := iq hk hf
    by_cases hk : y.1 = 8
    · replace hf := ip hk hf
      refine lv_tableIn (tgt := 105) (off := 88) hx hb dX8_expectedInNumber_17 (by rw [hk]; decide) (by rw [hk]; decide) (by rw [hk]; rfl) (by decide) ?_
      refine lv_iload_n hx hb dX8_expectedInNumber_105 rfl (lv_at hl 0 rfl) ?_
      refine lv_if_eq (tgt := 129) hx hb dX8_expectedInNumber_106 (by decide) (fun c106 => ?_) (fun c106 => ?_)
      · replace hf := ip c106 hf
        refine lv_iload_n hx hb dX8_expectedInNumber_129 rfl (lv_at hl 2 rfl) ?_
        refine lv_bipush (v := 46) hx hb dX8_expectedInNumber_130 (by decide) ?_
        refine lv_icmp_ne (tgt := 140) hx hb dX8_expectedInNumber_132 (by decide) (fun c132 => ?_) (fun c132 => ?_)
        · replace hf := iq c132 hf
          refine lv_iload_n hx hb dX8_expectedInNumber_140 rfl (lv_at hl 2 rfl) ?_
          refine lv_bipush (v := 59) hx hb dX8_expectedInNumber_141 (by decide) ?_
          refine lv_icmp_ne (tgt := 150) hx hb dX8_expectedInNumber_143 (by decide) (fun c143 => ?_) (fun c143 => ?_)
          · replace hf := iq c143 hf
            refine lv_iconst (v := 0) hx hb dX8_expectedInNumber_150 (by decide) ?_
            exact b151 _ _ _ 0 hw (lv_sub hl [] rfl) hf
          · replace hf := ip c143 hf
            refine lv_iconst (v := 1) hx hb dX8_expectedInNumber_146 (by decide) ?_
            refine lv_goto (tgt := 151) hx hb dX8_expectedInNumber_147 (by decide) ?_
            exact b151 _ _ _ 1 hw (lv_sub hl [] rfl) hf
        · replace hf := ip c132 hf
          refine lv_bipush (v := 9) hx hb dX8_expectedInNumber_135 (by decide) ?_
          refine lv_goto (tgt := 155) hx hb dX8_expectedInNumber_137 (by decide) ?_
          exact hret _ _ _ _ _ (Option.some.inj hf) dX8_expectedInNumber_155 hw
      · replace hf := iq c106 hf
        refine lv_aload_n hx hb dX8_expectedInNumber_109 rfl (lv_at hl 1 rfl) ?_
        refine xget (v := .int y.2) E hw 0 rfl rfl 1 (by decide) inw8 qw153 rfl rfl dX8_expectedInNumber_110 ?_
        refine lv_bipush (v := 8) hx hb dX8_expectedInNumber_113 (by decide) ?_
        refine lv_icmp_ge (tgt := 122) hx hb dX8_expectedInNumber_115 (by decide) (fun c115 => ?_) (fun c115 => ?_)
        · replace hf := ip c115 hf
          refine lv_iconst (v := 0) hx hb dX8_expectedInNumber_122 (by decide) ?_
          exact b123 _ _ _ 0 hw (lv_sub hl [] rfl) hf
        · replace hf := iq c115 hf
          refine lv_iconst (v := 1) hx hb dX8_expectedInNumber_118 (by decide) ?_
          refine lv_goto (tgt := 123) hx hb dX8_expectedInNumber_119 (by decide) ?_
          exact b123 _ _ _ 1 hw (lv_sub hl [] rfl) hf
    replace hf := iq hk hf
    by_cases hk : y.1 = 9
    · replace hf := ip hk hf
      refine lv_tableIn (tgt := 156) (off := 139) hx hb dX8_expectedInNumber_17 (by rw [hk]; decide) (by rw [hk]; decide) (by rw [hk]; rfl) (by decide) ?_
      refine lv_iload_n hx hb dX8_expectedInNumber_156 rfl (lv_at hl 2 rfl) ?_
      refine lv_bipush (v := 40) hx hb dX8_expectedInNumber_157 (by decide) ?_
      refine lv_icmp_ne (tgt := 167) hx hb dX8_expectedInNumber_159 (by decide) (fun c159 => ?_) (fun c159 => ?_)
      · replace hf := iq c159 hf
        refine lv_iload_n hx hb dX8_expectedInNumber_167 rfl (lv_at hl 0 rfl) ?_
        refine lv_bipush (v := 10) hx hb dX8_expectedInNumber_168 (by decide) ?_
        obtain ⟨v170, hv170, hf⟩ := ob_e hf
        refine xcallS (ws' := (wY h o y)) (st1 := [.int v170]) (n := 1) E hw [.int t0, .int 10] [] (met_X8_onlyIf l g t0 10 v170 hv170) rfl (by decide) rfl rfl [0] rfl (by decide +kernel) rfl qw302 k_X8_onlyIf ⟨rfl, rfl, Nat.le_of_ble_eq_true rfl, Nat.le_of_ble_eq_true rfl⟩ ⟨Nat.zero_le _, Nat.zero_le _⟩ hl.1 (Nat.le_of_ble_eq_true rfl) dX8_expectedInNumber_170 rfl (fun H locs hw => ?_)
        exact hret _ _ _ _ _ (Option.some.inj hf) dX8_expectedInNumber_173 hw
      · replace hf := ip c159 hf
        refine lv_bipush (v := 11) hx hb dX8_expectedInNumber_162 (by decide) ?_
        refine lv_goto (tgt := 173) hx hb dX8_expectedInNumber_164 (by decide) ?_
        exact hret _ _ _ _ _ (Option.some.inj hf) dX8_expectedInNumber_173 hw
    replace hf := iq hk hf
    by_cases hk : y.1 = 10
    · replace hf := ip hk hf
      refine lv_tableIn (tgt := 174) (off := 157) hx hb dX8_expectedInNumber_17 (by rw [hk]; decide) (by rw [hk]; decide) (by rw [hk]; rfl) (by decide) ?_
      refine lv_iload_n hx hb dX8_expectedInNumber_174 rfl (lv_at hl 0 rfl) ?_
      refine lv_if_eq (tgt := 197) hx hb dX8_expectedInNumber_175 (by decide) (fun c175 => ?_) (fun c175 => ?_)
      · replace hf := ip c175 hf
        refine lv_iload_n hx hb dX8_expectedInNumber_197 rfl (lv_at hl 2 rfl) ?_
        refine lv_bipush (v := 40) hx hb dX8_expectedInNumber_198 (by decide) ?_
        refine lv_icmp_ne (tgt := 208) hx hb dX8_expectedInNumber_200 (by decide) (fun c200 => ?_) (fun c200 => ?_)
        · replace hf := iq c200 hf
          refine lv_iload_n hx hb dX8_expectedInNumber_208 rfl (lv_at hl 2 rfl) ?_
          refine lv_bipush (v := 59) hx hb dX8_expectedInNumber_209 (by decide) ?_
          refine lv_icmp_ne (tgt := 218) hx hb dX8_expectedInNumber_211 (by decide) (fun c211 => ?_) (fun c211 => ?_)
          · replace hf := iq c211 hf
            refine lv_iconst (v := 0) hx hb dX8_expectedInNumber_218 (by decide) ?_
            exact b219 _ _ _ 0 hw (lv_sub hl [] rfl) hf
          · replace hf := ip c211 hf
            refine lv_iconst (v := 1) hx hb dX8_expectedInNumber_214 (by decide) ?_
            refine lv_goto (tgt := 219) hx hb dX8_expectedInNumber_215 (by decide) ?_
            exact b219 _ _ _ 1 hw (lv_sub hl [] rfl) hf
        · replace hf := ip c200 hf
          refine lv_bipush (v := 11) hx hb dX8_expectedInNumber_203 (by decide) ?_
          refine lv_goto (tgt := 223) hx hb dX8_expectedInNumber_205 (by decide) ?_
          exact hret _ _ _ _ _ (Option.some.inj hf) dX8_expectedInNumber_223 hw
      · replace hf := iq c175 hf
        refine lv_aload_n hx hb dX8_expectedInNumber_178 rfl (lv_at hl 1 rfl) ?_
        refine xget (v := .int y.2) E hw 0 rfl rfl 1 (by decide) inw8 qw153 rfl rfl dX8_expectedInNumber_179 ?_
        refine lv_iconst (v := 4) hx hb dX8_expectedInNumber_182 (by decide) ?_
        refine lv_icmp_ge (tgt := 190) hx hb dX8_expectedInNumber_183 (by decide) (fun c183 => ?_) (fun c183 => ?_)
        · replace hf := ip c183 hf
          refine lv_iconst (v := 0) hx hb dX8_expectedInNumber_190 (by decide) ?_
          exact b191 _ _ _ 0 hw (lv_sub hl [] rfl) hf
        · replace hf := iq c183 hf
          refine lv_iconst (v := 1) hx hb dX8_expectedInNumber_186 (by decide) ?_
          refine lv_goto (tgt := 191) hx hb dX8_expectedInNumber_187 (by decide) ?_
          exact b191 _ _ _ 1 hw (lv_sub hl [] rfl) hf
    replace hf := iq hk hf
    by_cases hk : y.1 = 11
    · replace hf := ip hk hf
      refine lv_tableIn (tgt := 224) (off := 207) hx hb dX8_expectedInNumber_17 (by rw [hk]; decide) (by rw [hk]; decide) (by rw [hk]; rfl) (by decide) ?_
      refine lv_iload_n hx hb dX8_expectedInNumber_224 rfl (lv_at hl 0 rfl) ?_
      refine lv_bipush (v := 12) hx hb dX8_expectedInNumber_225 (by decide) ?_
      obtain ⟨v227, hv227, hf⟩ := ob_e hf
      refine xcallS (ws' := (wY h o y)) (st1 := [.int v227]) (n := 1) E hw [.int t0, .int 12] [] (met_X8_onlyIf l g t0 12 v227 hv227) rfl (by decide) rfl rfl [0] rfl (by decide +kernel) rfl qw302 k_X8_onlyIf ⟨rfl, rfl, Nat.le_of_ble_eq_true rfl, Nat.le_of_ble_eq_true rfl⟩ ⟨Nat.zero_le _, Nat.zero_le _⟩ hl.1 (Nat.le_of_ble_eq_true rfl) dX8_expectedInNumber_227 rfl (fun H locs hw => ?_)
      exact hret _ _ _ _ _ (Option.some.inj hf) dX8_expectedInNumber_230 hw
    replace hf := iq hk hf
    by_cases hk : y.1 = 12
    · replace hf := ip hk hf
      refine lv_tableIn (tgt := 231) (off := 214) hx hb dX8_expectedInNumber_17 (by rw [hk]; decide) (by rw [hk]; decide) (by rw [hk]; rfl) (by decide) ?_
      refine lv_iload_n hx hb dX8_expectedInNumber_231 rfl (lv_at hl 0 rfl) ?_
      refine lv_if_eq (tgt := 256) hx hb dX8_expectedInNumber_232 (by decide) (fun c232 => ?_) (fun c232 => ?_)
      · replace hf := ip c232 hf
        refine lv_iload_n hx hb dX8_expectedInNumber_256 rfl (lv_at hl 2 rfl) ?_
        refine lv_bipush (v := 41) hx hb dX8_expectedInNumber_257 (by decide) ?_
        refine lv_icmp_ne (tgt := 266) hx hb dX8_expectedInNumber_259 (by decide) (fun c259 => ?_) (fun c259 => ?_)
        · replace hf := iq c259 hf
          refine lv_iconst (v := 0) hx hb dX8_expectedInNumber_266 (by decide) ?_
          exact b267 _ _ _ 0 hw (lv_sub hl [] rfl) hf
        · replace hf := ip c259 hf
          refine lv_iconst (v := 1) hx hb dX8_expectedInNumber_262 (by decide) ?_
          refine lv_goto (tgt := 267) hx hb dX8_expectedInNumber_263 (by decide) ?_
          exact b267 _ _ _ 1 hw (lv_sub hl [] rfl) hf
      · replace hf := iq c232 hf
        refine lv_aload_n hx hb dX8_expectedInNumber_235 rfl (lv_at hl 1 rfl) ?_
        refine xget (v := .int y.2) E hw 0 rfl rfl 1 (by decide) inw8 qw153 rfl rfl dX8_expectedInNumber_236 ?_
        refine lv_iconst (v := 4) hx hb dX8_expectedInNumber_239 (by decide) ?_
        refine lv_icmp_ge (tgt := 247) hx hb dX8_expectedInNumber_240 (by decide) (fun c240 => ?_) (fun c240 => ?_)
        · replace hf := ip c240 hf
          refine lv_iconst (v := 0) hx hb dX8_expectedInNumber_247 (by decide) ?_
          exact b248 _ _ _ 0 hw (lv_sub hl [] rfl) hf
        · replace hf := iq c240 hf
          refine lv_iconst (v := 1) hx hb dX8_expectedInNumber_243 (by decide) ?_
          refine lv_goto (tgt := 248) hx hb dX8_expectedInNumber_244 (by decide) ?_
          exact b248 _ _ _ 1 hw (lv_sub hl [] rfl) hf
    replace hf := iq hk hf
    exact nn hf
  refine lv_iload_n hx hb dX8_expectedInNumber_0 rfl (lv_at hl 1 rfl) ?_
  obtain ⟨v1, hv1, hf⟩ := ob_e hf
  refine xcallS (ws' := (wY h o y)) (st1 := [.int v1]) (n := 1) E hw [.int a1] [] (met_X8_digitOf l g a1 v1 hv1) rfl (by decide) rfl rfl [0] rfl (by decide +kernel) rfl qw309 k_X8_digitOf ⟨rfl, rfl, Nat.le_of_ble_eq_true rfl, Nat.le_of_ble_eq_true rfl⟩ ⟨Nat.zero_le _, Nat.zero_le _⟩ hl.1 (Nat.le_of_ble_eq_true rfl) dX8_expectedInNumber_1 rfl (fun H locs hw => ?_)
  refine lv_if_lt (tgt := 11) hx hb dX8_expectedInNumber_4 (by decide) (fun c4 => ?_) (fun c4 => ?_)
  · replace hf := ip c4 hf
    refine lv_iconst (v := 0) hx hb dX8_expectedInNumber_11 (by decide) ?_
    exact b12 _ _ _ a1 0 hw (lv_sub hl [0, 1] rfl) hf
  · replace hf := iq c4 hf
    refine lv_iconst (v := 1) hx hb dX8_expectedInNumber_7 (by decide) ?_
    refine lv_goto (tgt := 12) hx hb dX8_expectedInNumber_8 (by decide) ?_
    exact b12 _ _ _ a1 1 hw (lv_sub hl [0, 1] rfl) hf
theorem k_X8_expectedAfter : xKV yX8_expectedAfter cX8_expectedAfter 2 (some .int) 1 := ⟨qw297, qw0, qw70, qw298, by decide +kernel, by decide +kernel, by decide +kernel⟩
set_option maxHeartbeats 4000000 in
set_option maxRecDepth 100000 in
theorem met_X8_expectedAfter (l : Launch) (g : xG) (h : Nat → Nat) (o : Nat) (y : YC) (a1 : Int32) (out : Int32) (hf : f_X8_expectedAfter y a1 = some out) : xM l yX8_expectedAfter (xC yX8_expectedAfter cX8_expectedAfter 2 (some .int)) { frames := 2, cells := 0, slots := 0, locals := 43 } g (wY h o y) [.ref (h o), .int a1] (some (.int out)) (wY h o y) := by
  refine xof (by decide) (Nat.le_of_ble_eq_true rfl) ⟨rfl, rfl⟩ ?_
  intro p e s m below meth c A ls E hr hlocks hw hl hpost hAe
  have hx := E.1.1
  have hb := E.1.2.1
  have hown := E.1.2.2.2.1
  have hts := E.1.2.2.2.2
  generalize hZ : (MQ below (xPost g (wY h o y) (wY h o y) s.heap.size (some (.int out))) [.ref (h o), .int a1].toArray s 0 0 A) = ZZ
  have hret : ∀ (pc : Nat) (H : Heap) (locs : List Loc) (ls : Array Slot) (v : Int32), v = out → decode cX8_expectedAfter pc = .ok (.ireturn, 1) → xW g A s.heap (wY h o y) H locs → W p l e { frames := 2, cells := 0, slots := 0, locals := 43 } s m [.ref (h o), .int a1].toArray below meth c H locs 0 0 ZZ (F0 m pc ls [.int v]) := by
    intro pc H locs ls v he hd hw
    subst he
    rw [← hZ]
    exact W.iret hx hb hr (hpost H locs hw).1 (hpost H locs hw).2 hd hlocks
  clear hpost
  have b119 : ∀ (H : Heap) (locs : List Loc) (ls : Array Slot) (t0 : Int32), xW g A s.heap (wY h o y) H locs → lv_has ls 2 [] → f_X8_expectedAfter_b119 y t0 = some out → W p l e { frames := 2, cells := 0, slots := 0, locals := 43 } s m [.ref (h o), .int a1].toArray below meth c H locs 0 0 ZZ (F0 m 119 ls [.int t0]) := by
    intro H locs ls t0 hw hl hf
    refine lv_iconst (v := 3) hx hb dX8_expectedAfter_119 (by decide) ?_
    obtain ⟨v120, hv120, hf⟩ := ob_e hf
    refine xcallS (ws' := (wY h o y)) (st1 := [.int v120]) (n := 1) E hw [.int t0, .int 3] [] (met_X8_onlyIf l g t0 3 v120 hv120) rfl (by decide) rfl rfl [0] rfl (by decide +kernel) rfl qw302 k_X8_onlyIf ⟨rfl, rfl, Nat.le_of_ble_eq_true rfl, Nat.le_of_ble_eq_true rfl⟩ ⟨Nat.zero_le _, Nat.zero_le _⟩ hl.1 (Nat.le_of_ble_eq_true rfl) dX8_expectedAfter_120 rfl (fun H locs hw => ?_)
    exact hret _ _ _ _ _ (Option.some.inj hf) dX8_expectedAfter_123 hw
  have b114 : ∀ (H : Heap) (locs : List Loc) (ls : Array Slot), xW g A s.heap (wY h o y) H locs → lv_has ls 2 [] → f_X8_expectedAfter_b114 y = some out → W p l e { frames := 2, cells := 0, slots := 0, locals := 43 } s m [.ref (h o), .int a1].toArray below meth c H locs 0 0 ZZ (F0 m 114 ls []) := by
    intro H locs ls hw hl hf
    refine lv_iconst (v := 1) hx hb dX8_expectedAfter_114 (by decide) ?_
    refine lv_goto (tgt := 119) hx hb dX8_expectedAfter_115 (by decide) ?_
    exact b119 _ _ _ 1 hw (lv_sub hl [] rfl) hf
  have b161 : ∀ (H : Heap) (locs : List Loc) (ls : Array Slot) (t0 : Int32), xW g A s.heap (wY h o y) H locs → lv_has ls 2 [] → f_X8_expectedAfter_b161 y t0 = some out → W p l e { frames := 2, cells := 0, slots := 0, locals := 43 } s m [.ref (h o), .int a1].toArray below meth c H locs 0 0 ZZ (F0 m 161 ls [.int t0]) := by
    intro H locs ls t0 hw hl hf
    refine lv_bipush (v := 13) hx hb dX8_expectedAfter_161 (by decide) ?_
    obtain ⟨v163, hv163, hf⟩ := ob_e hf
    refine xcallS (ws' := (wY h o y)) (st1 := [.int v163]) (n := 1) E hw [.int t0, .int 13] [] (met_X8_onlyIf l g t0 13 v163 hv163) rfl (by decide) rfl rfl [0] rfl (by decide +kernel) rfl qw302 k_X8_onlyIf ⟨rfl, rfl, Nat.le_of_ble_eq_true rfl, Nat.le_of_ble_eq_true rfl⟩ ⟨Nat.zero_le _, Nat.zero_le _⟩ hl.1 (Nat.le_of_ble_eq_true rfl) dX8_expectedAfter_163 rfl (fun H locs hw => ?_)
    exact hret _ _ _ _ _ (Option.some.inj hf) dX8_expectedAfter_166 hw
  have b160 : ∀ (H : Heap) (locs : List Loc) (ls : Array Slot), xW g A s.heap (wY h o y) H locs → lv_has ls 2 [] → f_X8_expectedAfter_b160 y = some out → W p l e { frames := 2, cells := 0, slots := 0, locals := 43 } s m [.ref (h o), .int a1].toArray below meth c H locs 0 0 ZZ (F0 m 160 ls []) := by
    intro H locs ls hw hl hf
    refine lv_iconst (v := 0) hx hb dX8_expectedAfter_160 (by decide) ?_
    exact b161 _ _ _ 0 hw (lv_sub hl [] rfl) hf
  have b184 : ∀ (H : Heap) (locs : List Loc) (ls : Array Slot) (t0 : Int32), xW g A s.heap (wY h o y) H locs → lv_has ls 2 [] → f_X8_expectedAfter_b184 y t0 = some out → W p l e { frames := 2, cells := 0, slots := 0, locals := 43 } s m [.ref (h o), .int a1].toArray below meth c H locs 0 0 ZZ (F0 m 184 ls [.int t0]) := by
    intro H locs ls t0 hw hl hf
    refine lv_bipush (v := 13) hx hb dX8_expectedAfter_184 (by decide) ?_
    obtain ⟨v186, hv186, hf⟩ := ob_e hf
    refine xcallS (ws' := (wY h o y)) (st1 := [.int v186]) (n := 1) E hw [.int t0, .int 13] [] (met_X8_onlyIf l g t0 13 v186 hv186) rfl (by decide) rfl rfl [0] rfl (by decide +kernel) rfl qw302 k_X8_onlyIf ⟨rfl, rfl, Nat.le_of_ble_eq_true rfl, Nat.le_of_ble_eq_true rfl⟩ ⟨Nat.zero_le _, Nat.zero_le _⟩ hl.1 (Nat.le_of_ble_eq_true rfl) dX8_expectedAfter_186 rfl (fun H locs hw => ?_)
    exact hret _ _ _ _ _ (Option.some.inj hf) dX8_expectedAfter_189 hw
  have b183 : ∀ (H : Heap) (locs : List Loc) (ls : Array Slot), xW g A s.heap (wY h o y) H locs → lv_has ls 2 [] → f_X8_expectedAfter_b183 y = some out → W p l e { frames := 2, cells := 0, slots := 0, locals := 43 } s m [.ref (h o), .int a1].toArray below meth c H locs 0 0 ZZ (F0 m 183 ls []) := by
    intro H locs ls hw hl hf
    refine lv_iconst (v := 0) hx hb dX8_expectedAfter_183 (by decide) ?_
    exact b184 _ _ _ 0 hw (lv_sub hl [] rfl) hf
  have b201 : ∀ (H : Heap) (locs : List Loc) (ls : Array Slot) (t0 : Int32), xW g A s.heap (wY h o y) H locs → lv_has ls 2 [] → f_X8_expectedAfter_b201 y t0 = some out → W p l e { frames := 2, cells := 0, slots := 0, locals := 43 } s m [.ref (h o), .int a1].toArray below meth c H locs 0 0 ZZ (F0 m 201 ls [.int t0]) := by
    intro H locs ls t0 hw hl hf
    refine lv_iconst (v := 1) hx hb dX8_expectedAfter_201 (by decide) ?_
    obtain ⟨v202, hv202, hf⟩ := ob_e hf
    refine xcallS (ws' := (wY h o y)) (st1 := [.int v202]) (n := 1) E hw [.int t0, .int 1] [] (met_X8_onlyIf l g t0 1 v202 hv202) rfl (by decide) rfl rfl [0] rfl (by decide +kernel) rfl qw302 k_X8_onlyIf ⟨rfl, rfl, Nat.le_of_ble_eq_true rfl, Nat.le_of_ble_eq_true rfl⟩ ⟨Nat.zero_le _, Nat.zero_le _⟩ hl.1 (Nat.le_of_ble_eq_true rfl) dX8_expectedAfter_202 rfl (fun H locs hw => ?_)
    exact hret _ _ _ _ _ (Option.some.inj hf) dX8_expectedAfter_205 hw
  refine lv_aload_n hx hb dX8_expectedAfter_0 rfl (lv_at hl 0 rfl) ?_
  refine xget (v := .int y.1) E hw 0 rfl rfl 0 (by decide) inw8 qw152 rfl rfl dX8_expectedAfter_1 ?_
  by_cases hd4 : y.1.toInt < 1 ∨ 13 < y.1.toInt
  · replace hf := ip hd4 hf
    refine lv_tableOut (tgt := 206) hx hb dX8_expectedAfter_4 hd4 (by decide) ?_
    refine lv_aload_n hx hb dX8_expectedAfter_206 rfl (lv_at hl 0 rfl) ?_
    refine lv_iload_n hx hb dX8_expectedAfter_207 rfl (lv_at hl 1 rfl) ?_
    obtain ⟨v208, hv208, hf⟩ := ob_e hf
    refine xcallV (ws' := (wY h o y)) (st1 := [.int v208]) (n := 1) E hw [.int a1] [0] (met_X8_expectedInNumber l g h o y a1 v208 hv208) rfl (by decide) rfl rfl [1] rfl (by decide +kernel) rfl rfl rfl rfl qw305 k_X8_expectedInNumber ⟨rfl, rfl, Nat.le_of_ble_eq_true rfl, Nat.le_of_ble_eq_true rfl⟩ ⟨Nat.zero_le _, Nat.zero_le _⟩ hl.1 (Nat.le_of_ble_eq_true rfl) dX8_expectedAfter_208 rfl (fun H locs hw => ?_)
    exact hret _ _ _ _ _ (Option.some.inj hf) dX8_expectedAfter_211 hw
  replace hf := iq hd4 hf
  by_cases hk : y.1 = 1
  · replace hf := ip hk hf
    refine lv_tableIn (tgt := 72) (off := 68) hx hb dX8_expectedAfter_4 (by rw [hk]; decide) (by rw [hk]; decide) (by rw [hk]; rfl) (by decide) ?_
    refine lv_iload_n hx hb dX8_expectedAfter_72 rfl (lv_at hl 1 rfl) ?_
    refine lv_bipush (v := 98) hx hb dX8_expectedAfter_73 (by decide) ?_
    refine lv_icmp_ne (tgt := 82) hx hb dX8_expectedAfter_75 (by decide) (fun c75 => ?_) (fun c75 => ?_)
    · replace hf := iq c75 hf
      refine lv_iload_n hx hb dX8_expectedAfter_82 rfl (lv_at hl 1 rfl) ?_
      obtain ⟨v83, hv83, hf⟩ := ob_e hf
      refine xcallS (ws' := (wY h o y)) (st1 := [.int v83]) (n := 1) E hw [.int a1] [] (met_X8_isAccountCode l g a1 v83 hv83) rfl (by decide) rfl rfl [0] rfl (by decide +kernel) rfl qw299 k_X8_isAccountCode ⟨rfl, rfl, Nat.le_of_ble_eq_true rfl, Nat.le_of_ble_eq_true rfl⟩ ⟨Nat.zero_le _, Nat.zero_le _⟩ hl.1 (Nat.le_of_ble_eq_true rfl) dX8_expectedAfter_83 rfl (fun H locs hw => ?_)
      refine lv_iconst (v := 2) hx hb dX8_expectedAfter_86 (by decide) ?_
      obtain ⟨v87, hv87, hf⟩ := ob_e hf
      refine xcallS (ws' := (wY h o y)) (st1 := [.int v87]) (n := 1) E hw [.int v83, .int 2] [] (met_X8_onlyIf l g v83 2 v87 hv87) rfl (by decide) rfl rfl [0] rfl (by decide +kernel) rfl qw302 k_X8_onlyIf ⟨rfl, rfl, Nat.le_of_ble_eq_true rfl, Nat.le_of_ble_eq_true rfl⟩ ⟨Nat.zero_le _, Nat.zero_le _⟩ hl.1 (Nat.le_of_ble_eq_true rfl) dX8_expectedAfter_87 rfl (fun H locs hw => ?_)
      exact hret _ _ _ _ _ (Option.some.inj hf) dX8_expectedAfter_90 hw
    · replace hf := ip c75 hf
      refine lv_iconst (v := 4) hx hb dX8_expectedAfter_78 (by decide) ?_
      refine lv_goto (tgt := 90) hx hb dX8_expectedAfter_79 (by decide) ?_
      exact hret _ _ _ _ _ (Option.some.inj hf) dX8_expectedAfter_90 hw
  replace hf := iq hk hf
  by_cases hk : y.1 = 2
  · replace hf := ip hk hf
    refine lv_tableIn (tgt := 91) (off := 87) hx hb dX8_expectedAfter_4 (by rw [hk]; decide) (by rw [hk]; decide) (by rw [hk]; rfl) (by decide) ?_
    refine lv_iload_n hx hb dX8_expectedAfter_91 rfl (lv_at hl 1 rfl) ?_
    refine lv_bipush (v := 61) hx hb dX8_expectedAfter_92 (by decide) ?_
    refine lv_icmp_ne (tgt := 102) hx hb dX8_expectedAfter_94 (by decide) (fun c94 => ?_) (fun c94 => ?_)
    · replace hf := iq c94 hf
      refine lv_iload_n hx hb dX8_expectedAfter_102 rfl (lv_at hl 1 rfl) ?_
      refine lv_bipush (v := 43) hx hb dX8_expectedAfter_103 (by decide) ?_
      refine lv_icmp_eq (tgt := 114) hx hb dX8_expectedAfter_105 (by decide) (fun c105 => ?_) (fun c105 => ?_)
      · replace hf := ip c105 hf
        exact b114 _ _ _  hw (lv_sub hl [] rfl) hf
      · replace hf := iq c105 hf
        refine lv_iload_n hx hb dX8_expectedAfter_108 rfl (lv_at hl 1 rfl) ?_
        refine lv_bipush (v := 45) hx hb dX8_expectedAfter_109 (by decide) ?_
        refine lv_icmp_ne (tgt := 118) hx hb dX8_expectedAfter_111 (by decide) (fun c111 => ?_) (fun c111 => ?_)
        · replace hf := iq c111 hf
          refine lv_iconst (v := 0) hx hb dX8_expectedAfter_118 (by decide) ?_
          exact b119 _ _ _ 0 hw (lv_sub hl [] rfl) hf
        · replace hf := ip c111 hf
          exact b114 _ _ _  hw (lv_sub hl [] rfl) hf
    · replace hf := ip c94 hf
      refine lv_bipush (v := 6) hx hb dX8_expectedAfter_97 (by decide) ?_
      refine lv_goto (tgt := 123) hx hb dX8_expectedAfter_99 (by decide) ?_
      exact hret _ _ _ _ _ (Option.some.inj hf) dX8_expectedAfter_123 hw
  replace hf := iq hk hf
  by_cases hk : y.1 = 3
  · replace hf := ip hk hf
    refine lv_tableIn (tgt := 124) (off := 120) hx hb dX8_expectedAfter_4 (by rw [hk]; decide) (by rw [hk]; decide) (by rw [hk]; rfl) (by decide) ?_
    refine lv_iload_n hx hb dX8_expectedAfter_124 rfl (lv_at hl 1 rfl) ?_
    obtain ⟨v125, hv125, hf⟩ := ob_e hf
    refine xcallS (ws' := (wY h o y)) (st1 := [.int v125]) (n := 1) E hw [.int a1] [] (met_X8_isAccountCode l g a1 v125 hv125) rfl (by decide) rfl rfl [0] rfl (by decide +kernel) rfl qw299 k_X8_isAccountCode ⟨rfl, rfl, Nat.le_of_ble_eq_true rfl, Nat.le_of_ble_eq_true rfl⟩ ⟨Nat.zero_le _, Nat.zero_le _⟩ hl.1 (Nat.le_of_ble_eq_true rfl) dX8_expectedAfter_125 rfl (fun H locs hw => ?_)
    refine lv_bipush (v := 13) hx hb dX8_expectedAfter_128 (by decide) ?_
    obtain ⟨v130, hv130, hf⟩ := ob_e hf
    refine xcallS (ws' := (wY h o y)) (st1 := [.int v130]) (n := 1) E hw [.int v125, .int 13] [] (met_X8_onlyIf l g v125 13 v130 hv130) rfl (by decide) rfl rfl [0] rfl (by decide +kernel) rfl qw302 k_X8_onlyIf ⟨rfl, rfl, Nat.le_of_ble_eq_true rfl, Nat.le_of_ble_eq_true rfl⟩ ⟨Nat.zero_le _, Nat.zero_le _⟩ hl.1 (Nat.le_of_ble_eq_true rfl) dX8_expectedAfter_130 rfl (fun H locs hw => ?_)
    exact hret _ _ _ _ _ (Option.some.inj hf) dX8_expectedAfter_133 hw
  replace hf := iq hk hf
  by_cases hk : y.1 = 4
  · replace hf := ip hk hf
    refine lv_tableIn (tgt := 134) (off := 130) hx hb dX8_expectedAfter_4 (by rw [hk]; decide) (by rw [hk]; decide) (by rw [hk]; rfl) (by decide) ?_
    refine lv_iload_n hx hb dX8_expectedAfter_134 rfl (lv_at hl 1 rfl) ?_
    refine lv_bipush (v := 49) hx hb dX8_expectedAfter_135 (by decide) ?_
    refine lv_icmp_ne (tgt := 144) hx hb dX8_expectedAfter_137 (by decide) (fun c137 => ?_) (fun c137 => ?_)
    · replace hf := iq c137 hf
      refine lv_iload_n hx hb dX8_expectedAfter_144 rfl (lv_at hl 1 rfl) ?_
      refine lv_bipush (v := 50) hx hb dX8_expectedAfter_145 (by decide) ?_
      refine lv_icmp_lt (tgt := 160) hx hb dX8_expectedAfter_147 (by decide) (fun c147 => ?_) (fun c147 => ?_)
      · replace hf := ip c147 hf
        exact b160 _ _ _  hw (lv_sub hl [] rfl) hf
      · replace hf := iq c147 hf
        refine lv_iload_n hx hb dX8_expectedAfter_150 rfl (lv_at hl 1 rfl) ?_
        refine lv_bipush (v := 57) hx hb dX8_expectedAfter_151 (by decide) ?_
        refine lv_icmp_gt (tgt := 160) hx hb dX8_expectedAfter_153 (by decide) (fun c153 => ?_) (fun c153 => ?_)
        · replace hf := ip c153 hf
          exact b160 _ _ _  hw (lv_sub hl [] rfl) hf
        · replace hf := iq c153 hf
          refine lv_iconst (v := 1) hx hb dX8_expectedAfter_156 (by decide) ?_
          refine lv_goto (tgt := 161) hx hb dX8_expectedAfter_157 (by decide) ?_
          exact b161 _ _ _ 1 hw (lv_sub hl [] rfl) hf
    · replace hf := ip c137 hf
      refine lv_iconst (v := 5) hx hb dX8_expectedAfter_140 (by decide) ?_
      refine lv_goto (tgt := 166) hx hb dX8_expectedAfter_141 (by decide) ?_
      exact hret _ _ _ _ _ (Option.some.inj hf) dX8_expectedAfter_166 hw
  replace hf := iq hk hf
  by_cases hk : y.1 = 5
  · replace hf := ip hk hf
    refine lv_tableIn (tgt := 167) (off := 163) hx hb dX8_expectedAfter_4 (by rw [hk]; decide) (by rw [hk]; decide) (by rw [hk]; rfl) (by decide) ?_
    refine lv_iload_n hx hb dX8_expectedAfter_167 rfl (lv_at hl 1 rfl) ?_
    refine lv_bipush (v := 48) hx hb dX8_expectedAfter_168 (by decide) ?_
    refine lv_icmp_lt (tgt := 183) hx hb dX8_expectedAfter_170 (by decide) (fun c170 => ?_) (fun c170 => ?_)
    · replace hf := ip c170 hf
      exact b183 _ _ _  hw (lv_sub hl [] rfl) hf
    · replace hf := iq c170 hf
      refine lv_iload_n hx hb dX8_expectedAfter_173 rfl (lv_at hl 1 rfl) ?_
      refine lv_bipush (v := 54) hx hb dX8_expectedAfter_174 (by decide) ?_
      refine lv_icmp_gt (tgt := 183) hx hb dX8_expectedAfter_176 (by decide) (fun c176 => ?_) (fun c176 => ?_)
      · replace hf := ip c176 hf
        exact b183 _ _ _  hw (lv_sub hl [] rfl) hf
      · replace hf := iq c176 hf
        refine lv_iconst (v := 1) hx hb dX8_expectedAfter_179 (by decide) ?_
        refine lv_goto (tgt := 184) hx hb dX8_expectedAfter_180 (by decide) ?_
        exact b184 _ _ _ 1 hw (lv_sub hl [] rfl) hf
  replace hf := iq hk hf
  by_cases hk : y.1 = 6
  · replace hf := ip hk hf
    refine lv_tableIn (tgt := 206) (off := 202) hx hb dX8_expectedAfter_4 (by rw [hk]; decide) (by rw [hk]; decide) (by rw [hk]; rfl) (by decide) ?_
    refine lv_aload_n hx hb dX8_expectedAfter_206 rfl (lv_at hl 0 rfl) ?_
    refine lv_iload_n hx hb dX8_expectedAfter_207 rfl (lv_at hl 1 rfl) ?_
    obtain ⟨v208, hv208, hf⟩ := ob_e hf
    refine xcallV (ws' := (wY h o y)) (st1 := [.int v208]) (n := 1) E hw [.int a1] [0] (met_X8_expectedInNumber l g h o y a1 v208 hv208) rfl (by decide) rfl rfl [1] rfl (by decide +kernel) rfl rfl rfl rfl qw305 k_X8_expectedInNumber ⟨rfl, rfl, Nat.le_of_ble_eq_true rfl, Nat.le_of_ble_eq_true rfl⟩ ⟨Nat.zero_le _, Nat.zero_le _⟩ hl.1 (Nat.le_of_ble_eq_true rfl) dX8_expectedAfter_208 rfl (fun H locs hw => ?_)
    exact hret _ _ _ _ _ (Option.some.inj hf) dX8_expectedAfter_211 hw
  replace hf := iq hk hf
  by_cases hk : y.1 = 7
  · replace hf := ip hk hf
    refine lv_tableIn (tgt := 206) (off := 202) hx hb dX8_expectedAfter_4 (by rw [hk]; decide) (by rw [hk]; decide) (by rw [hk]; rfl) (by decide) ?_
    refine lv_aload_n hx hb dX8_expectedAfter_206 rfl (lv_at hl 0 rfl) ?_
    refine lv_iload_n hx hb dX8_expectedAfter_207 rfl (lv_at hl 1 rfl) ?_
    obtain ⟨v208, hv208, hf⟩ := ob_e hf
    refine xcallV (ws' := (wY h o y)) (st1 := [.int v208]) (n := 1) E hw [.int a1] [0] (met_X8_expectedInNumber l g h o y a1 v208 hv208) rfl (by decide) rfl rfl [1] rfl (by decide +kernel) rfl rfl rfl rfl qw305 k_X8_expectedInNumber ⟨rfl, rfl, Nat.le_of_ble_eq_true rfl, Nat.le_of_ble_eq_true rfl⟩ ⟨Nat.zero_le _, Nat.zero_le _⟩ hl.1 (Nat.le_of_ble_eq_true rfl) dX8_expectedAfter_208 rfl (fun H locs hw => ?_)
    exact hret _ _ _ _ _ (Option.some.inj hf) dX8_expectedAfter_211 hw
  replace hf := iq hk hf
  by_cases hk : y.1 = 8
  · replace hf := ip hk hf
    refine lv_tableIn (tgt := 206) (off := 202) hx hb dX8_expectedAfter_4 (by rw [hk]; decide) (by rw [hk]; decide) (by rw [hk]; rfl) (by decide) ?_
    refine lv_aload_n hx hb dX8_expectedAfter_206 rfl (lv_at hl 0 rfl) ?_
    refine lv_iload_n hx hb dX8_expectedAfter_207 rfl (lv_at hl 1 rfl) ?_
    obtain ⟨v208, hv208, hf⟩ := ob_e hf
    refine xcallV (ws' := (wY h o y)) (st1 := [.int v208]) (n := 1) E hw [.int a1] [0] (met_X8_expectedInNumber l g h o y a1 v208 hv208) rfl (by decide) rfl rfl [1] rfl (by decide +kernel) rfl rfl rfl rfl qw305 k_X8_expectedInNumber ⟨rfl, rfl, Nat.le_of_ble_eq_true rfl, Nat.le_of_ble_eq_true rfl⟩ ⟨Nat.zero_le _, Nat.zero_le _⟩ hl.1 (Nat.le_of_ble_eq_true rfl) dX8_expectedAfter_208 rfl (fun H locs hw => ?_)
    exact hret _ _ _ _ _ (Option.some.inj hf) dX8_expectedAfter_211 hw
  replace hf := iq hk hf
  by_cases hk : y.1 = 9
  · replace hf := ip hk hf
    refine lv_tableIn (tgt := 206) (off := 202) hx hb dX8_expectedAfter_4 (by rw [hk]; decide) (by rw [hk]; decide) (by rw [hk]; rfl) (by decide) ?_
    refine lv_aload_n hx hb dX8_expectedAfter_206 rfl (lv_at hl 0 rfl) ?_
    refine lv_iload_n hx hb dX8_expectedAfter_207 rfl (lv_at hl 1 rfl) ?_
    obtain ⟨v208, hv208, hf⟩ := ob_e hf
    refine xcallV (ws' := (wY h o y)) (st1 := [.int v208]) (n := 1) E hw [.int a1] [0] (met_X8_expectedInNumber l g h o y a1 v208 hv208) rfl (by decide) rfl rfl [1] rfl (by decide +kernel) rfl rfl rfl rfl qw305 k_X8_expectedInNumber ⟨rfl, rfl, Nat.le_of_ble_eq_true rfl, Nat.le_of_ble_eq_true rfl⟩ ⟨Nat.zero_le _, Nat.zero_le _⟩ hl.1 (Nat.le_of_ble_eq_true rfl) dX8_expectedAfter_208 rfl (fun H locs hw => ?_)
    exact hret _ _ _ _ _ (Option.some.inj hf) dX8_expectedAfter_211 hw
  replace hf := iq hk hf
  by_cases hk : y.1 = 10
  · replace hf := ip hk hf
    refine lv_tableIn (tgt := 206) (off := 202) hx hb dX8_expectedAfter_4 (by rw [hk]; decide) (by rw [hk]; decide) (by rw [hk]; rfl) (by decide) ?_
    refine lv_aload_n hx hb dX8_expectedAfter_206 rfl (lv_at hl 0 rfl) ?_
    refine lv_iload_n hx hb dX8_expectedAfter_207 rfl (lv_at hl 1 rfl) ?_
    obtain ⟨v208, hv208, hf⟩ := ob_e hf
    refine xcallV (ws' := (wY h o y)) (st1 := [.int v208]) (n := 1) E hw [.int a1] [0] (met_X8_expectedInNumber l g h o y a1 v208 hv208) rfl (by decide) rfl rfl [1] rfl (by decide +kernel) rfl rfl rfl rfl qw305 k_X8_expectedInNumber ⟨rfl, rfl, Nat.le_of_ble_eq_true rfl, Nat.le_of_ble_eq_true rfl⟩ ⟨Nat.zero_le _, Nat.zero_le _⟩ hl.1 (Nat.le_of_ble_eq_true rfl) dX8_expectedAfter_208 rfl (fun H locs hw => ?_)
    exact hret _ _ _ _ _ (Option.some.inj hf) dX8_expectedAfter_211 hw
  replace hf := iq hk hf
  by_cases hk : y.1 = 11
  · replace hf := ip hk hf
    refine lv_tableIn (tgt := 206) (off := 202) hx hb dX8_expectedAfter_4 (by rw [hk]; decide) (by rw [hk]; decide) (by rw [hk]; rfl) (by decide) ?_
    refine lv_aload_n hx hb dX8_expectedAfter_206 rfl (lv_at hl 0 rfl) ?_
    refine lv_iload_n hx hb dX8_expectedAfter_207 rfl (lv_at hl 1 rfl) ?_
    obtain ⟨v208, hv208, hf⟩ := ob_e hf
    refine xcallV (ws' := (wY h o y)) (st1 := [.int v208]) (n := 1) E hw [.int a1] [0] (met_X8_expectedInNumber l g h o y a1 v208 hv208) rfl (by decide) rfl rfl [1] rfl (by decide +kernel) rfl rfl rfl rfl qw305 k_X8_expectedInNumber ⟨rfl, rfl, Nat.le_of_ble_eq_true rfl, Nat.le_of_ble_eq_true rfl⟩ ⟨Nat.zero_le _, Nat.zero_le _⟩ hl.1 (Nat.le_of_ble_eq_true rfl) dX8_expectedAfter_208 rfl (fun H locs hw => ?_)
    exact hret _ _ _ _ _ (Option.some.inj hf) dX8_expectedAfter_211 hw
  replace hf := iq hk hf
  by_cases hk : y.1 = 12
  · replace hf := ip hk hf
    refine lv_tableIn (tgt := 206) (off := 202) hx hb dX8_expectedAfter_4 (by rw [hk]; decide) (by rw [hk]; decide) (by rw [hk]; rfl) (by decide) ?_
    refine lv_aload_n hx hb dX8_expectedAfter_206 rfl (lv_at hl 0 rfl) ?_
    refine lv_iload_n hx hb dX8_expectedAfter_207 rfl (lv_at hl 1 rfl) ?_
    obtain ⟨v208, hv208, hf⟩ := ob_e hf
    refine xcallV (ws' := (wY h o y)) (st1 := [.int v208]) (n := 1) E hw [.int a1] [0] (met_X8_expectedInNumber l g h o y a1 v208 hv208) rfl (by decide) rfl rfl [1] rfl (by decide +kernel) rfl rfl rfl rfl qw305 k_X8_expectedInNumber ⟨rfl, rfl, Nat.le_of_ble_eq_true rfl, Nat.le_of_ble_eq_true rfl⟩ ⟨Nat.zero_le _, Nat.zero_le _⟩ hl.1 (Nat.le_of_ble_eq_true rfl) dX8_expectedAfter_208 rfl (fun H locs hw => ?_)
    exact hret _ _ _ _ _ (Option.some.inj hf) dX8_expectedAfter_211 hw
  replace hf := iq hk hf
  by_cases hk : y.1 = 13
  · replace hf := ip hk hf
    refine lv_tableIn (tgt := 190) (off := 186) hx hb dX8_expectedAfter_4 (by rw [hk]; decide) (by rw [hk]; decide) (by rw [hk]; rfl) (by decide) ?_
    refine lv_iload_n hx hb dX8_expectedAfter_190 rfl (lv_at hl 1 rfl) ?_
    refine lv_bipush (v := 59) hx hb dX8_expectedAfter_191 (by decide) ?_
    refine lv_icmp_ne (tgt := 200) hx hb dX8_expectedAfter_193 (by decide) (fun c193 => ?_) (fun c193 => ?_)
    · replace hf := iq c193 hf
      refine lv_iconst (v := 0) hx hb dX8_expectedAfter_200 (by decide) ?_
      exact b201 _ _ _ 0 hw (lv_sub hl [] rfl) hf
    · replace hf := ip c193 hf
      refine lv_iconst (v := 1) hx hb dX8_expectedAfter_196 (by decide) ?_
      refine lv_goto (tgt := 201) hx hb dX8_expectedAfter_197 (by decide) ?_
      exact b201 _ _ _ 1 hw (lv_sub hl [] rfl) hf
  replace hf := iq hk hf
  exact nn hf
theorem k_X8_take : xKV yX8_take cX8_take 3 (some .boolean) 1 := ⟨qw292, qw293, qw70, qw294, by decide +kernel, by decide +kernel, by decide +kernel⟩
set_option maxHeartbeats 4000000 in
set_option maxRecDepth 100000 in
theorem met_X8_take (l : Launch) (g : xG) (h : Nat → Nat) (o : Nat) (y : YC) (a1 : Int32) (out : Int32 × YC) (hf : f_X8_take y a1 = some out) : xM l yX8_take (xC yX8_take cX8_take 3 (some .boolean)) { frames := 3, cells := 0, slots := 0, locals := 64 } g (wY h o y) [.ref (h o), .int a1] (some (.int out.1)) (wY h o out.2) := by
  refine xof (by decide) (Nat.le_of_ble_eq_true rfl) ⟨rfl, rfl⟩ ?_
  intro p e s m below meth c A ls E hr hlocks hw hl hpost hAe
  have hx := E.1.1
  have hb := E.1.2.1
  have hown := E.1.2.2.2.1
  have hts := E.1.2.2.2.2
  generalize hZ : (MQ below (xPost g (wY h o y) (wY h o out.2) s.heap.size (some (.int out.1))) [.ref (h o), .int a1].toArray s 0 0 A) = ZZ
  have hret : ∀ (pc : Nat) (H : Heap) (locs : List Loc) (ls : Array Slot) (v : Int32) (cy : YC), narrow .boolean (.int v) = .int v → (v, cy) = out → decode cX8_take pc = .ok (.ireturn, 1) → xW g A s.heap (wY h o cy) H locs → W p l e { frames := 3, cells := 0, slots := 0, locals := 64 } s m [.ref (h o), .int a1].toArray below meth c H locs 0 0 ZZ (F0 m pc ls [.int v]) := by
    intro pc H locs ls v cy hn he hd hw
    subst he
    rw [← hZ]
    exact W.zret hx hb hr hn (hpost H locs hw).1 (hpost H locs hw).2 hd hlocks
  clear hpost
  have b25 : ∀ (H : Heap) (locs : List Loc) (ls : Array Slot) (y : YC) (x2 : Int32) (t0 : Int32), xW g A s.heap (wY h o y) H locs → lv_has ls 3 [(0, .ref (h o)), (2, .int x2)] → f_X8_take_b25 y x2 t0 = some out → W p l e { frames := 3, cells := 0, slots := 0, locals := 64 } s m [.ref (h o), .int a1].toArray below meth c H locs 0 0 ZZ (F0 m 25 ls [.int t0, .ref (h o)]) := by
    intro H locs ls y x2 t0 hw hl hf
    refine xput (ws' := (wY h o (y.1, t0))) E hw 0 rfl rfl 1 (by decide) inw8 tyX8_ok nmX8 qw153 rfl rfl rfl rfl (Nat.le_of_ble_eq_true rfl) dX8_take_25 rfl (fun H locs hw => ?_)
    refine lv_aload_n hx hb dX8_take_28 rfl (lv_at hl 0 rfl) ?_
    refine lv_iload_n hx hb dX8_take_29 rfl (lv_at hl 1 rfl) ?_
    refine xput (ws' := (wY h o (x2, t0))) E hw 0 rfl rfl 0 (by decide) inw8 tyX8_ok nmX8 qw152 rfl rfl rfl rfl (Nat.le_of_ble_eq_true rfl) dX8_take_30 rfl (fun H locs hw => ?_)
    refine lv_iload_n hx hb dX8_take_33 rfl (lv_at hl 1 rfl) ?_
    refine lv_if_eq (tgt := 41) hx hb dX8_take_34 (by decide) (fun c34 => ?_) (fun c34 => ?_)
    · replace hf := ip c34 hf
      refine lv_iconst (v := 0) hx hb dX8_take_41 (by decide) ?_
      exact hret _ _ _ _ _ _ (by decide) (Option.some.inj hf) dX8_take_42 hw
    · replace hf := iq c34 hf
      refine lv_iconst (v := 1) hx hb dX8_take_37 (by decide) ?_
      refine lv_goto (tgt := 42) hx hb dX8_take_38 (by decide) ?_
      exact hret _ _ _ _ _ _ (by decide) (Option.some.inj hf) dX8_take_42 hw
  refine lv_aload_n hx hb dX8_take_0 rfl (lv_at hl 0 rfl) ?_
  refine lv_iload_n hx hb dX8_take_1 rfl (lv_at hl 1 rfl) ?_
  obtain ⟨v2, hv2, hf⟩ := ob_e hf
  refine xcallV (ws' := (wY h o y)) (st1 := [.int v2]) (n := 1) E hw [.int a1] [0] (met_X8_expectedAfter l g h o y a1 v2 hv2) rfl (by decide) rfl rfl [1] rfl (by decide +kernel) rfl rfl rfl rfl qw295 k_X8_expectedAfter ⟨rfl, rfl, Nat.le_of_ble_eq_true rfl, Nat.le_of_ble_eq_true rfl⟩ ⟨Nat.zero_le _, Nat.zero_le _⟩ hl.1 (Nat.le_of_ble_eq_true rfl) dX8_take_2 rfl (fun H locs hw => ?_)
  refine lv_istore_n (lv' := [(2, .int v2), (0, .ref (h o)), (1, .int a1)]) hx hb dX8_take_5 rfl hl (by decide) rfl (fun ls hl => ?_)
  refine lv_aload_n hx hb dX8_take_6 rfl (lv_at hl 1 rfl) ?_
  refine lv_iload_n hx hb dX8_take_7 rfl (lv_at hl 0 rfl) ?_
  refine lv_aload_n hx hb dX8_take_8 rfl (lv_at hl 1 rfl) ?_
  refine xget (v := .int y.1) E hw 0 rfl rfl 0 (by decide) inw8 qw152 rfl rfl dX8_take_9 ?_
  refine lv_icmp_ne (tgt := 24) hx hb dX8_take_12 (by decide) (fun c12 => ?_) (fun c12 => ?_)
  · replace hf := iq c12 hf
    refine lv_iconst (v := 1) hx hb dX8_take_24 (by decide) ?_
    exact b25 _ _ _ y v2 1 hw (lv_sub hl [1, 0] rfl) hf
  · replace hf := ip c12 hf
    refine lv_aload_n hx hb dX8_take_15 rfl (lv_at hl 1 rfl) ?_
    refine xget (v := .int y.2) E hw 0 rfl rfl 1 (by decide) inw8 qw153 rfl rfl dX8_take_16 ?_
    refine lv_iconst (v := 1) hx hb dX8_take_19 (by decide) ?_
    refine lv_iadd hx hb dX8_take_20 ?_
    refine lv_goto (tgt := 25) hx hb dX8_take_21 (by decide) ?_
    exact b25 _ _ _ y v2 (y.2 + 1) hw (lv_sub hl [1, 0] rfl) hf
theorem k_X8_mayEnd : xKV yX8_mayEnd cX8_mayEnd 1 (some .boolean) 0 := ⟨qw815, qw816, qw70, qw817, by decide +kernel, by decide +kernel, by decide +kernel⟩
set_option maxHeartbeats 4000000 in
set_option maxRecDepth 100000 in
theorem met_X8_mayEnd (l : Launch) (g : xG) (h : Nat → Nat) (o : Nat) (y : YC) (out : Int32) (hf : f_X8_mayEnd y = some out) : xM l yX8_mayEnd (xC yX8_mayEnd cX8_mayEnd 1 (some .boolean)) { frames := 0, cells := 0, slots := 0, locals := 0 } g (wY h o y) [.ref (h o)] (some (.int out)) (wY h o y) := by
  refine xof (by decide) (Nat.le_of_ble_eq_true rfl) ⟨rfl, rfl⟩ ?_
  intro p e s m below meth c A ls E hr hlocks hw hl hpost hAe
  have hx := E.1.1
  have hb := E.1.2.1
  have hown := E.1.2.2.2.1
  have hts := E.1.2.2.2.2
  generalize hZ : (MQ below (xPost g (wY h o y) (wY h o y) s.heap.size (some (.int out))) [.ref (h o)].toArray s 0 0 A) = ZZ
  have hret : ∀ (pc : Nat) (H : Heap) (locs : List Loc) (ls : Array Slot) (v : Int32), narrow .boolean (.int v) = .int v → v = out → decode cX8_mayEnd pc = .ok (.ireturn, 1) → xW g A s.heap (wY h o y) H locs → W p l e { frames := 0, cells := 0, slots := 0, locals := 0 } s m [.ref (h o)].toArray below meth c H locs 0 0 ZZ (F0 m pc ls [.int v]) := by
    intro pc H locs ls v hn he hd hw
    subst he
    rw [← hZ]
    exact W.zret hx hb hr hn (hpost H locs hw).1 (hpost H locs hw).2 hd hlocks
  clear hpost
  have b36 : ∀ (H : Heap) (locs : List Loc) (ls : Array Slot), xW g A s.heap (wY h o y) H locs → lv_has ls 1 [] → f_X8_mayEnd_b36 y = some out → W p l e { frames := 0, cells := 0, slots := 0, locals := 0 } s m [.ref (h o)].toArray below meth c H locs 0 0 ZZ (F0 m 36 ls []) := by
    intro H locs ls hw hl hf
    refine lv_iconst (v := 1) hx hb dX8_mayEnd_36 (by decide) ?_
    refine lv_goto (tgt := 41) hx hb dX8_mayEnd_37 (by decide) ?_
    exact hret _ _ _ _ _ (by decide) (Option.some.inj hf) dX8_mayEnd_41 hw
  refine lv_aload_n hx hb dX8_mayEnd_0 rfl (lv_at hl 0 rfl) ?_
  refine xget (v := .int y.1) E hw 0 rfl rfl 0 (by decide) inw8 qw152 rfl rfl dX8_mayEnd_1 ?_
  refine lv_bipush (v := 7) hx hb dX8_mayEnd_4 (by decide) ?_
  refine lv_icmp_eq (tgt := 36) hx hb dX8_mayEnd_6 (by decide) (fun c6 => ?_) (fun c6 => ?_)
  · replace hf := ip c6 hf
    exact b36 _ _ _  hw (lv_sub hl [] rfl) hf
  · replace hf := iq c6 hf
    refine lv_aload_n hx hb dX8_mayEnd_9 rfl (lv_at hl 0 rfl) ?_
    refine xget (v := .int y.1) E hw 0 rfl rfl 0 (by decide) inw8 qw152 rfl rfl dX8_mayEnd_10 ?_
    refine lv_bipush (v := 8) hx hb dX8_mayEnd_13 (by decide) ?_
    refine lv_icmp_eq (tgt := 36) hx hb dX8_mayEnd_15 (by decide) (fun c15 => ?_) (fun c15 => ?_)
    · replace hf := ip c15 hf
      exact b36 _ _ _  hw (lv_sub hl [] rfl) hf
    · replace hf := iq c15 hf
      refine lv_aload_n hx hb dX8_mayEnd_18 rfl (lv_at hl 0 rfl) ?_
      refine xget (v := .int y.1) E hw 0 rfl rfl 0 (by decide) inw8 qw152 rfl rfl dX8_mayEnd_19 ?_
      refine lv_bipush (v := 10) hx hb dX8_mayEnd_22 (by decide) ?_
      refine lv_icmp_eq (tgt := 36) hx hb dX8_mayEnd_24 (by decide) (fun c24 => ?_) (fun c24 => ?_)
      · replace hf := ip c24 hf
        exact b36 _ _ _  hw (lv_sub hl [] rfl) hf
      · replace hf := iq c24 hf
        refine lv_aload_n hx hb dX8_mayEnd_27 rfl (lv_at hl 0 rfl) ?_
        refine xget (v := .int y.1) E hw 0 rfl rfl 0 (by decide) inw8 qw152 rfl rfl dX8_mayEnd_28 ?_
        refine lv_bipush (v := 13) hx hb dX8_mayEnd_31 (by decide) ?_
        refine lv_icmp_ne (tgt := 40) hx hb dX8_mayEnd_33 (by decide) (fun c33 => ?_) (fun c33 => ?_)
        · replace hf := iq c33 hf
          refine lv_iconst (v := 0) hx hb dX8_mayEnd_40 (by decide) ?_
          exact hret _ _ _ _ _ (by decide) (Option.some.inj hf) dX8_mayEnd_41 hw
        · replace hf := ip c33 hf
          exact b36 _ _ _  hw (lv_sub hl [] rfl) hf
theorem k_X7_takeFrom : xKV yX7_takeFrom cX7_takeFrom 3 none 1 := ⟨qw321, qw322, qw67, qw323, by decide +kernel, by decide +kernel, by decide +kernel⟩
set_option maxHeartbeats 4000000 in
set_option maxRecDepth 100000 in
theorem met_X7_takeFrom (l : Launch) (g : xG) (h : Nat → Nat) (o : Nat) (o2 : Nat) (x : SC) (xo : SC) (out : SC) (hf : f_X7_takeFrom x xo = some out) : xM l yX7_takeFrom (xC yX7_takeFrom cX7_takeFrom 3 none) { frames := 0, cells := 0, slots := 0, locals := 0 } g (wS g h o x ++ wS g h o2 xo) [.ref (h o), .ref (h o2)] none (wS g h o out ++ wS g h o2 xo) := by
  refine xof (by decide) (Nat.le_of_ble_eq_true rfl) ⟨rfl, rfl⟩ ?_
  intro p e s m below meth c A ls E hr hlocks hw hl hpost hAe
  have hx := E.1.1
  have hb := E.1.2.1
  have hown := E.1.2.2.2.1
  have hts := E.1.2.2.2.2
  generalize hZ : (MQ below (xPost g (wS g h o x ++ wS g h o2 xo) (wS g h o out ++ wS g h o2 xo) s.heap.size none) [.ref (h o), .ref (h o2)].toArray s 0 0 A) = ZZ
  have hret : ∀ (pc : Nat) (H : Heap) (locs : List Loc) (ls : Array Slot) (cx : SC), cx = out → decode cX7_takeFrom pc = .ok (.return_, 1) → xW g A s.heap (wS g h o cx ++ wS g h o2 xo) H locs → W p l e { frames := 0, cells := 0, slots := 0, locals := 0 } s m [.ref (h o), .ref (h o2)].toArray below meth c H locs 0 0 ZZ (F0 m pc ls []) := by
    intro pc H locs ls cx he hd hw
    subst he
    rw [← hZ]
    exact W.vret hx hb hr (hpost H locs hw).1 (hpost H locs hw).2 hd hlocks
  clear hpost
  have b26 : ∀ n26 : Nat, ∀ (H : Heap) (locs : List Loc) (ls : Array Slot) (x : SC) (x2 : Int32), xW g A s.heap (wS g h o x ++ wS g h o2 xo) H locs → lv_has ls 3 [(0, .ref (h o)), (1, .ref (h o2)), (2, .int x2)] → f_X7_takeFrom_b26 n26 x xo x2 = some out → W p l e { frames := 0, cells := 0, slots := 0, locals := 0 } s m [.ref (h o), .ref (h o2)].toArray below meth c H locs 0 0 ZZ (F0 m 26 ls []) := by
    intro n26
    induction n26 with
    | zero =>
      intro H locs ls x x2 hw hl hf
      exact nn hf
    | succ n26 ih26 =>
      intro H locs ls x x2 hw hl hf
      refine lv_iload_n hx hb dX7_takeFrom_26 rfl (lv_at hl 2 rfl) ?_
      refine lv_bipush (v := 6) hx hb dX7_takeFrom_27 (by decide) ?_
      refine lv_icmp_ge (tgt := 62) hx hb dX7_takeFrom_29 (by decide) (fun c29 => ?_) (fun c29 => ?_)
      · replace hf := ip c29 hf
        exact hret _ _ _ _ _ (Option.some.inj hf) dX7_takeFrom_62 hw
      · replace hf := iq c29 hf
        refine lv_aload_n hx hb dX7_takeFrom_32 rfl (lv_at hl 0 rfl) ?_
        refine xget (v := .ref (h (o + 1))) E hw 0 rfl rfl 3 (by decide) inw7 qw106 rfl rfl dX7_takeFrom_33 ?_
        refine lv_iload_n hx hb dX7_takeFrom_36 rfl (lv_at hl 2 rfl) ?_
        refine lv_aload_n hx hb dX7_takeFrom_37 rfl (lv_at hl 1 rfl) ?_
        refine xget (v := .ref (h (o2 + 1))) E hw 3 rfl rfl 3 (by decide) inw7 qw106 rfl rfl dX7_takeFrom_38 ?_
        refine lv_iload_n hx hb dX7_takeFrom_41 rfl (lv_at hl 2 rfl) ?_
        obtain ⟨hz, hf⟩ := nz hf
        refine xiald E hw 4 rfl hz dX7_takeFrom_42 ?_
        obtain ⟨hz, hf⟩ := nz hf
        refine xiast (ws' := (wS g h o (x.1, x.2.1, x.2.2.1, (upd x.2.2.2.1 x2.toNatClampNeg (xo.2.2.2.1 x2.toNatClampNeg)), x.2.2.2.2) ++ wS g h o2 xo)) E hw 1 rfl hz dX7_takeFrom_43 rfl (fun H locs hw => ?_)
        refine lv_aload_n hx hb dX7_takeFrom_44 rfl (lv_at hl 0 rfl) ?_
        refine xget (v := .ref (h (o + 2))) E hw 0 rfl rfl 4 (by decide) inw7 qw107 rfl rfl dX7_takeFrom_45 ?_
        refine lv_iload_n hx hb dX7_takeFrom_48 rfl (lv_at hl 2 rfl) ?_
        refine lv_aload_n hx hb dX7_takeFrom_49 rfl (lv_at hl 1 rfl) ?_
        refine xget (v := .ref (h (o2 + 2))) E hw 3 rfl rfl 4 (by decide) inw7 qw107 rfl rfl dX7_takeFrom_50 ?_
        refine lv_iload_n hx hb dX7_takeFrom_53 rfl (lv_at hl 2 rfl) ?_
        obtain ⟨hz, hf⟩ := nz hf
        refine xiald E hw 5 rfl hz dX7_takeFrom_54 ?_
        obtain ⟨hz, hf⟩ := nz hf
        refine xiast (ws' := (wS g h o (x.1, x.2.1, x.2.2.1, (upd x.2.2.2.1 x2.toNatClampNeg (xo.2.2.2.1 x2.toNatClampNeg)), (upd x.2.2.2.2 x2.toNatClampNeg (xo.2.2.2.2 x2.toNatClampNeg))) ++ wS g h o2 xo)) E hw 2 rfl hz dX7_takeFrom_55 rfl (fun H locs hw => ?_)
        refine lv_iinc (v := x2 + 1) (lv' := [(2, .int (x2 + 1)), (0, .ref (h o)), (1, .ref (h o2))]) hx hb dX7_takeFrom_56 hl (k := 2) rfl rfl (by decide) rfl (fun ls hl => ?_)
        refine lv_goto (tgt := 26) hx hb dX7_takeFrom_59 (by decide) ?_
        exact ih26 _ _ _ (x.1, x.2.1, x.2.2.1, (upd x.2.2.2.1 x2.toNatClampNeg (xo.2.2.2.1 x2.toNatClampNeg)), (upd x.2.2.2.2 x2.toNatClampNeg (xo.2.2.2.2 x2.toNatClampNeg))) (x2 + 1) hw (lv_sub hl [1, 2, 0] rfl) hf
  refine lv_aload_n hx hb dX7_takeFrom_0 rfl (lv_at hl 0 rfl) ?_
  refine lv_aload_n hx hb dX7_takeFrom_1 rfl (lv_at hl 1 rfl) ?_
  refine xget (v := .int xo.1) E hw 3 rfl rfl 0 (by decide) inw7 qw100 rfl rfl dX7_takeFrom_2 ?_
  refine xput (ws' := (wS g h o (xo.1, x.2.1, x.2.2.1, x.2.2.2.1, x.2.2.2.2) ++ wS g h o2 xo)) E hw 0 rfl rfl 0 (by decide) inw7 tyX7_ok nmX7 qw100 rfl rfl rfl rfl (Nat.le_of_ble_eq_true rfl) dX7_takeFrom_5 rfl (fun H locs hw => ?_)
  refine lv_aload_n hx hb dX7_takeFrom_8 rfl (lv_at hl 0 rfl) ?_
  refine lv_aload_n hx hb dX7_takeFrom_9 rfl (lv_at hl 1 rfl) ?_
  refine xget (v := .int xo.2.1) E hw 3 rfl rfl 1 (by decide) inw7 qw102 rfl rfl dX7_takeFrom_10 ?_
  refine xput (ws' := (wS g h o (xo.1, xo.2.1, x.2.2.1, x.2.2.2.1, x.2.2.2.2) ++ wS g h o2 xo)) E hw 0 rfl rfl 1 (by decide) inw7 tyX7_ok nmX7 qw102 rfl rfl rfl rfl (Nat.le_of_ble_eq_true rfl) dX7_takeFrom_13 rfl (fun H locs hw => ?_)
  refine lv_aload_n hx hb dX7_takeFrom_16 rfl (lv_at hl 0 rfl) ?_
  refine lv_aload_n hx hb dX7_takeFrom_17 rfl (lv_at hl 1 rfl) ?_
  refine xget (v := .int xo.2.2.1) E hw 3 rfl rfl 2 (by decide) inw7 qw104 rfl rfl dX7_takeFrom_18 ?_
  refine xput (ws' := (wS g h o (xo.1, xo.2.1, xo.2.2.1, x.2.2.2.1, x.2.2.2.2) ++ wS g h o2 xo)) E hw 0 rfl rfl 2 (by decide) inw7 tyX7_ok nmX7 qw104 rfl rfl rfl rfl (Nat.le_of_ble_eq_true rfl) dX7_takeFrom_21 rfl (fun H locs hw => ?_)
  refine lv_iconst (v := 0) hx hb dX7_takeFrom_24 (by decide) ?_
  refine lv_istore_n (lv' := [(2, .int 0), (0, .ref (h o)), (1, .ref (h o2))]) hx hb dX7_takeFrom_25 rfl hl (by decide) rfl (fun ls hl => ?_)
  exact b26 xfuel _ _ _ (xo.1, xo.2.1, xo.2.2.1, x.2.2.2.1, x.2.2.2.2) 0 hw (lv_sub hl [1, 2, 0] rfl) hf
theorem k_X6_put : xKV yX6_put cX6_put 7 none 2 := ⟨qw639, qw640, qw71, qw641, by decide +kernel, by decide +kernel, by decide +kernel⟩
set_option maxHeartbeats 4000000 in
set_option maxRecDepth 100000 in
theorem met_X6_put (l : Launch) (g : xG) (h : Nat → Nat) (o : Nat) (r : RC) (a1 : Int64) (a2 : Int64) (out : RC) (hf : f_X6_put r a1 a2 = some out) : xM l yX6_put (xC yX6_put cX6_put 7 none) { frames := 1, cells := 0, slots := 0, locals := 30 } g (wR h o r) [.ref (h o), .long a1, .long a2] none (wR h o out) := by
  refine xof (by decide) (Nat.le_of_ble_eq_true rfl) ⟨rfl, rfl⟩ ?_
  intro p e s m below meth c A ls E hr hlocks hw hl hpost hAe
  have hx := E.1.1
  have hb := E.1.2.1
  have hown := E.1.2.2.2.1
  have hts := E.1.2.2.2.2
  generalize hZ : (MQ below (xPost g (wR h o r) (wR h o out) s.heap.size none) [.ref (h o), .long a1, .long a2].toArray s 0 0 A) = ZZ
  have hret : ∀ (pc : Nat) (H : Heap) (locs : List Loc) (ls : Array Slot) (cr : RC), cr = out → decode cX6_put pc = .ok (.return_, 1) → xW g A s.heap (wR h o cr) H locs → W p l e { frames := 1, cells := 0, slots := 0, locals := 30 } s m [.ref (h o), .long a1, .long a2].toArray below meth c H locs 0 0 ZZ (F0 m pc ls []) := by
    intro pc H locs ls cr he hd hw
    subst he
    rw [← hZ]
    exact W.vret hx hb hr (hpost H locs hw).1 (hpost H locs hw).2 hd hlocks
  clear hpost
  refine lv_lload_n hx hb dX6_put_0 rfl (lv_at hl 1 rfl) ?_
  refine xlabs E hl.1 qw642 qw643 qw79 qw644 ⟨Nat.le_of_ble_eq_true rfl, Nat.le_of_ble_eq_true rfl⟩ ⟨Nat.zero_le _, Nat.zero_le _⟩ dX6_put_1 ?_
  refine lv_lload_n hx hb dX6_put_4 rfl (lv_at hl 2 rfl) ?_
  obtain ⟨v5, hv5, hf⟩ := ob_e hf
  refine xcallS (ws' := (wR h o r)) (st1 := [.long v5]) (n := 1) E hw [.long (if 0 < a1 then a1 else -a1), .long a2] [] (met_X5_greatestCommon l g (if 0 < a1 then a1 else -a1) a2 v5 hv5) rfl (by decide) rfl rfl [0] rfl (by decide +kernel) rfl qw645 k_X5_greatestCommon ⟨rfl, rfl, Nat.le_of_ble_eq_true rfl, Nat.le_of_ble_eq_true rfl⟩ ⟨Nat.zero_le _, Nat.zero_le _⟩ hl.1 (Nat.le_of_ble_eq_true rfl) dX6_put_5 rfl (fun H locs hw => ?_)
  refine lv_lstore (lv' := [(5, .long v5), (0, .ref (h o)), (1, .long a1), (3, .long a2)]) hx hb dX6_put_8 hl (by decide) rfl (fun ls hl => ?_)
  refine lv_aload_n hx hb dX6_put_10 rfl (lv_at hl 1 rfl) ?_
  refine lv_lload_n hx hb dX6_put_11 rfl (lv_at hl 2 rfl) ?_
  refine lv_lload hx hb dX6_put_12 (lv_at hl 0 rfl) ?_
  obtain ⟨v14, hv14, hf⟩ := ob_e hf
  refine xcallS (ws' := (wR h o r)) (st1 := [.long v14, .ref (h o)]) (n := 1) E hw [.long a1, .long v5] [] (met_X5_quotient l g a1 v5 v14 hv14) rfl (by decide) rfl rfl [0] rfl (by decide +kernel) rfl qw646 k_X5_quotient ⟨rfl, rfl, Nat.le_of_ble_eq_true rfl, Nat.le_of_ble_eq_true rfl⟩ ⟨Nat.zero_le _, Nat.zero_le _⟩ hl.1 (Nat.le_of_ble_eq_true rfl) dX6_put_14 rfl (fun H locs hw => ?_)
  refine xput (ws' := (wR h o (v14, r.2))) E hw 0 rfl rfl 0 (by decide) inw6 tyX6_ok nmX6 qw176 rfl rfl rfl rfl (Nat.le_of_ble_eq_true rfl) dX6_put_17 rfl (fun H locs hw => ?_)
  refine lv_aload_n hx hb dX6_put_20 rfl (lv_at hl 1 rfl) ?_
  refine lv_lload_n hx hb dX6_put_21 rfl (lv_at hl 3 rfl) ?_
  refine lv_lload hx hb dX6_put_22 (lv_at hl 0 rfl) ?_
  obtain ⟨v24, hv24, hf⟩ := ob_e hf
  refine xcallS (ws' := (wR h o (v14, r.2))) (st1 := [.long v24, .ref (h o)]) (n := 1) E hw [.long a2, .long v5] [] (met_X5_quotient l g a2 v5 v24 hv24) rfl (by decide) rfl rfl [0] rfl (by decide +kernel) rfl qw646 k_X5_quotient ⟨rfl, rfl, Nat.le_of_ble_eq_true rfl, Nat.le_of_ble_eq_true rfl⟩ ⟨Nat.zero_le _, Nat.zero_le _⟩ hl.1 (Nat.le_of_ble_eq_true rfl) dX6_put_24 rfl (fun H locs hw => ?_)
  refine xput (ws' := (wR h o (v14, v24))) E hw 0 rfl rfl 1 (by decide) inw6 tyX6_ok nmX6 qw180 rfl rfl rfl rfl (Nat.le_of_ble_eq_true rfl) dX6_put_27 rfl (fun H locs hw => ?_)
  exact hret _ _ _ _ _ (Option.some.inj hf) dX6_put_30 hw
theorem k_X6_reasonAgainst : xKV yX6_reasonAgainst cX6_reasonAgainst 1 (some .int) 0 := ⟨qw727, qw728, qw71, qw729, by decide +kernel, by decide +kernel, by decide +kernel⟩
set_option maxHeartbeats 4000000 in
set_option maxRecDepth 100000 in
theorem met_X6_reasonAgainst (l : Launch) (g : xG) (h : Nat → Nat) (o : Nat) (r : RC) (out : Int32) (hf : f_X6_reasonAgainst r = some out) : xM l yX6_reasonAgainst (xC yX6_reasonAgainst cX6_reasonAgainst 1 (some .int)) { frames := 0, cells := 0, slots := 0, locals := 0 } g (wR h o r) [.ref (h o)] (some (.int out)) (wR h o r) := by
  refine xof (by decide) (Nat.le_of_ble_eq_true rfl) ⟨rfl, rfl⟩ ?_
  intro p e s m below meth c A ls E hr hlocks hw hl hpost hAe
  have hx := E.1.1
  have hb := E.1.2.1
  have hown := E.1.2.2.2.1
  have hts := E.1.2.2.2.2
  generalize hZ : (MQ below (xPost g (wR h o r) (wR h o r) s.heap.size (some (.int out))) [.ref (h o)].toArray s 0 0 A) = ZZ
  have hret : ∀ (pc : Nat) (H : Heap) (locs : List Loc) (ls : Array Slot) (v : Int32), v = out → decode cX6_reasonAgainst pc = .ok (.ireturn, 1) → xW g A s.heap (wR h o r) H locs → W p l e { frames := 0, cells := 0, slots := 0, locals := 0 } s m [.ref (h o)].toArray below meth c H locs 0 0 ZZ (F0 m pc ls [.int v]) := by
    intro pc H locs ls v he hd hw
    subst he
    rw [← hZ]
    exact W.iret hx hb hr (hpost H locs hw).1 (hpost H locs hw).2 hd hlocks
  clear hpost
  have b33 : ∀ (H : Heap) (locs : List Loc) (ls : Array Slot), xW g A s.heap (wR h o r) H locs → lv_has ls 1 [] → f_X6_reasonAgainst_b33 r = some out → W p l e { frames := 0, cells := 0, slots := 0, locals := 0 } s m [.ref (h o)].toArray below meth c H locs 0 0 ZZ (F0 m 33 ls []) := by
    intro H locs ls hw hl hf
    refine lv_iconst (v := 2) hx hb dX6_reasonAgainst_33 (by decide) ?_
    refine lv_goto (tgt := 38) hx hb dX6_reasonAgainst_34 (by decide) ?_
    exact hret _ _ _ _ _ (Option.some.inj hf) dX6_reasonAgainst_38 hw
  refine lv_aload_n hx hb dX6_reasonAgainst_0 rfl (lv_at hl 0 rfl) ?_
  refine xget (v := .long r.1) E hw 0 rfl rfl 0 (by decide) inw6 qw176 rfl rfl dX6_reasonAgainst_1 ?_
  refine lv_lconst (v := 0) hx hb dX6_reasonAgainst_4 (by decide) ?_
  refine xlc_ge (tgt := 11) hx hb dX6_reasonAgainst_5 dX6_reasonAgainst_6 (by decide) (fun c5 => ?_) (fun c5 => ?_)
  · replace hf := iq c5 hf
    refine lv_aload_n hx hb dX6_reasonAgainst_11 rfl (lv_at hl 0 rfl) ?_
    refine xget (v := .long r.1) E hw 0 rfl rfl 0 (by decide) inw6 qw176 rfl rfl dX6_reasonAgainst_12 ?_
    refine lv_ldc2 hx hb hown (hts _ qw730) dX6_reasonAgainst_15 ?_
    refine xlc_gt (tgt := 33) hx hb dX6_reasonAgainst_18 dX6_reasonAgainst_19 (by decide) (fun c18 => ?_) (fun c18 => ?_)
    · replace hf := ip c18 hf
      exact b33 _ _ _  hw (lv_sub hl [] rfl) hf
    · replace hf := iq c18 hf
      refine lv_aload_n hx hb dX6_reasonAgainst_22 rfl (lv_at hl 0 rfl) ?_
      refine xget (v := .long r.2) E hw 0 rfl rfl 1 (by decide) inw6 qw180 rfl rfl dX6_reasonAgainst_23 ?_
      refine lv_ldc2 hx hb hown (hts _ qw731) dX6_reasonAgainst_26 ?_
      refine xlc_le (tgt := 37) hx hb dX6_reasonAgainst_29 dX6_reasonAgainst_30 (by decide) (fun c29 => ?_) (fun c29 => ?_)
      · replace hf := iq c29 hf
        refine lv_iconst (v := 0) hx hb dX6_reasonAgainst_37 (by decide) ?_
        exact hret _ _ _ _ _ (Option.some.inj hf) dX6_reasonAgainst_38 hw
      · replace hf := ip c29 hf
        exact b33 _ _ _  hw (lv_sub hl [] rfl) hf
  · replace hf := ip c5 hf
    refine lv_iconst (v := 3) hx hb dX6_reasonAgainst_9 (by decide) ?_
    exact hret _ _ _ _ _ (Option.some.inj hf) dX6_reasonAgainst_10 hw
theorem k_X7_isAccount : xKS yX7_isAccount cX7_isAccount 1 (some .boolean) 1 := ⟨qw345, qw67, qw346, by decide +kernel, by decide +kernel, by decide +kernel⟩
set_option maxHeartbeats 4000000 in
set_option maxRecDepth 100000 in
theorem met_X7_isAccount (l : Launch) (g : xG) (a0 : Int32) (out : Int32) (hf : f_X7_isAccount a0 = some out) : xM l yX7_isAccount (xC yX7_isAccount cX7_isAccount 1 (some .boolean)) { frames := 0, cells := 0, slots := 0, locals := 0 } g ([] : va_W) [.int a0] (some (.int out)) ([] : va_W) := by
  refine xof (by decide) (Nat.le_of_ble_eq_true rfl) ⟨rfl, rfl⟩ ?_
  intro p e s m below meth c A ls E hr hlocks hw hl hpost hAe
  have hx := E.1.1
  have hb := E.1.2.1
  have hown := E.1.2.2.2.1
  have hts := E.1.2.2.2.2
  generalize hZ : (MQ below (xPost g ([] : va_W) ([] : va_W) s.heap.size (some (.int out))) [.int a0].toArray s 0 0 A) = ZZ
  have hret : ∀ (pc : Nat) (H : Heap) (locs : List Loc) (ls : Array Slot) (v : Int32), narrow .boolean (.int v) = .int v → v = out → decode cX7_isAccount pc = .ok (.ireturn, 1) → xW g A s.heap ([] : va_W) H locs → W p l e { frames := 0, cells := 0, slots := 0, locals := 0 } s m [.int a0].toArray below meth c H locs 0 0 ZZ (F0 m pc ls [.int v]) := by
    intro pc H locs ls v hn he hd hw
    subst he
    rw [← hZ]
    exact W.zret hx hb hr hn (hpost H locs hw).1 (hpost H locs hw).2 hd hlocks
  clear hpost
  refine lv_iload_n hx hb dX7_isAccount_0 rfl (lv_at hl 0 rfl) ?_
  refine lv_if_lt (tgt := 14) hx hb dX7_isAccount_1 (by decide) (fun c1 => ?_) (fun c1 => ?_)
  · replace hf := ip c1 hf
    refine lv_iconst (v := 0) hx hb dX7_isAccount_14 (by decide) ?_
    exact hret _ _ _ _ _ (by decide) (Option.some.inj hf) dX7_isAccount_15 hw
  · replace hf := iq c1 hf
    refine lv_iload_n hx hb dX7_isAccount_4 rfl (lv_at hl 0 rfl) ?_
    refine lv_bipush (v := 6) hx hb dX7_isAccount_5 (by decide) ?_
    refine lv_icmp_ge (tgt := 14) hx hb dX7_isAccount_7 (by decide) (fun c7 => ?_) (fun c7 => ?_)
    · replace hf := ip c7 hf
      refine lv_iconst (v := 0) hx hb dX7_isAccount_14 (by decide) ?_
      exact hret _ _ _ _ _ (by decide) (Option.some.inj hf) dX7_isAccount_15 hw
    · replace hf := iq c7 hf
      refine lv_iconst (v := 1) hx hb dX7_isAccount_10 (by decide) ?_
      refine lv_goto (tgt := 15) hx hb dX7_isAccount_11 (by decide) ?_
      exact hret _ _ _ _ _ (by decide) (Option.some.inj hf) dX7_isAccount_15 hw
theorem k_X7_store : xKV yX7_store cX7_store 3 none 2 := ⟨qw711, qw712, qw67, qw713, by decide +kernel, by decide +kernel, by decide +kernel⟩
set_option maxHeartbeats 4000000 in
set_option maxRecDepth 100000 in
theorem met_X7_store (l : Launch) (g : xG) (h : Nat → Nat) (o : Nat) (o2 : Nat) (x : SC) (r : RC) (a1 : Int32) (out : SC) (hf : f_X7_store x r a1 = some out) : xM l yX7_store (xC yX7_store cX7_store 3 none) { frames := 1, cells := 0, slots := 0, locals := 20 } g (wS g h o x ++ wR h o2 r) [.ref (h o), .int a1, .ref (h o2)] none (wS g h o out ++ wR h o2 r) := by
  refine xof (by decide) (Nat.le_of_ble_eq_true rfl) ⟨rfl, rfl⟩ ?_
  intro p e s m below meth c A ls E hr hlocks hw hl hpost hAe
  have hx := E.1.1
  have hb := E.1.2.1
  have hown := E.1.2.2.2.1
  have hts := E.1.2.2.2.2
  generalize hZ : (MQ below (xPost g (wS g h o x ++ wR h o2 r) (wS g h o out ++ wR h o2 r) s.heap.size none) [.ref (h o), .int a1, .ref (h o2)].toArray s 0 0 A) = ZZ
  have hret : ∀ (pc : Nat) (H : Heap) (locs : List Loc) (ls : Array Slot) (cx : SC), cx = out → decode cX7_store pc = .ok (.return_, 1) → xW g A s.heap (wS g h o cx ++ wR h o2 r) H locs → W p l e { frames := 1, cells := 0, slots := 0, locals := 20 } s m [.ref (h o), .int a1, .ref (h o2)].toArray below meth c H locs 0 0 ZZ (F0 m pc ls []) := by
    intro pc H locs ls cx he hd hw
    subst he
    rw [← hZ]
    exact W.vret hx hb hr (hpost H locs hw).1 (hpost H locs hw).2 hd hlocks
  clear hpost
  refine lv_iload_n hx hb dX7_store_0 rfl (lv_at hl 1 rfl) ?_
  obtain ⟨v1, hv1, hf⟩ := ob_e hf
  refine xcallS (ws' := (wS g h o x ++ wR h o2 r)) (st1 := [.int v1]) (n := 4) E hw [.int a1] [] (met_X7_isAccount l g a1 v1 hv1) rfl (by decide) rfl rfl [0, 1, 2, 3] rfl (by decide +kernel) rfl qw344 k_X7_isAccount ⟨rfl, rfl, Nat.le_of_ble_eq_true rfl, Nat.le_of_ble_eq_true rfl⟩ ⟨Nat.zero_le _, Nat.zero_le _⟩ hl.1 (Nat.le_of_ble_eq_true rfl) dX7_store_1 rfl (fun H locs hw => ?_)
  refine lv_if_eq (tgt := 29) hx hb dX7_store_4 (by decide) (fun c4 => ?_) (fun c4 => ?_)
  · replace hf := ip c4 hf
    exact hret _ _ _ _ _ (Option.some.inj hf) dX7_store_29 hw
  · replace hf := iq c4 hf
    refine lv_aload_n hx hb dX7_store_7 rfl (lv_at hl 0 rfl) ?_
    refine xget (v := .ref (h (o + 1))) E hw 0 rfl rfl 3 (by decide) inw7 qw106 rfl rfl dX7_store_8 ?_
    refine lv_iload_n hx hb dX7_store_11 rfl (lv_at hl 1 rfl) ?_
    refine lv_aload_n hx hb dX7_store_12 rfl (lv_at hl 2 rfl) ?_
    refine xget (v := .long r.1) E hw 3 rfl rfl 0 (by decide) inw6 qw177 rfl rfl dX7_store_13 ?_
    refine lv_l2i hx hb dX7_store_16 rfl ?_
    obtain ⟨hz, hf⟩ := nz hf
    refine xiast (ws' := (wS g h o (x.1, x.2.1, x.2.2.1, (upd x.2.2.2.1 a1.toNatClampNeg r.1.toInt32), x.2.2.2.2) ++ wR h o2 r)) E hw 1 rfl hz dX7_store_17 rfl (fun H locs hw => ?_)
    refine lv_aload_n hx hb dX7_store_18 rfl (lv_at hl 0 rfl) ?_
    refine xget (v := .ref (h (o + 2))) E hw 0 rfl rfl 4 (by decide) inw7 qw107 rfl rfl dX7_store_19 ?_
    refine lv_iload_n hx hb dX7_store_22 rfl (lv_at hl 1 rfl) ?_
    refine lv_aload_n hx hb dX7_store_23 rfl (lv_at hl 2 rfl) ?_
    refine xget (v := .long r.2) E hw 3 rfl rfl 1 (by decide) inw6 qw181 rfl rfl dX7_store_24 ?_
    refine lv_l2i hx hb dX7_store_27 rfl ?_
    obtain ⟨hz, hf⟩ := nz hf
    refine xiast (ws' := (wS g h o (x.1, x.2.1, x.2.2.1, (upd x.2.2.2.1 a1.toNatClampNeg r.1.toInt32), (upd x.2.2.2.2 a1.toNatClampNeg r.2.toInt32)) ++ wR h o2 r)) E hw 2 rfl hz dX7_store_28 rfl (fun H locs hw => ?_)
    exact hret _ _ _ _ _ (Option.some.inj hf) dX7_store_29 hw
theorem k_X7_stopAt : xKV yX7_stopAt cX7_stopAt 3 none 2 := ⟨qw820, qw821, qw67, qw822, by decide +kernel, by decide +kernel, by decide +kernel⟩
set_option maxHeartbeats 4000000 in
set_option maxRecDepth 100000 in
theorem met_X7_stopAt (l : Launch) (g : xG) (h : Nat → Nat) (o : Nat) (x : SC) (a1 : Int32) (a2 : Int32) (out : SC) (hf : f_X7_stopAt x a1 a2 = some out) : xM l yX7_stopAt (xC yX7_stopAt cX7_stopAt 3 none) { frames := 0, cells := 0, slots := 0, locals := 0 } g (wS g h o x) [.ref (h o), .int a1, .int a2] none (wS g h o out) := by
  refine xof (by decide) (Nat.le_of_ble_eq_true rfl) ⟨rfl, rfl⟩ ?_
  intro p e s m below meth c A ls E hr hlocks hw hl hpost hAe
  have hx := E.1.1
  have hb := E.1.2.1
  have hown := E.1.2.2.2.1
  have hts := E.1.2.2.2.2
  generalize hZ : (MQ below (xPost g (wS g h o x) (wS g h o out) s.heap.size none) [.ref (h o), .int a1, .int a2].toArray s 0 0 A) = ZZ
  have hret : ∀ (pc : Nat) (H : Heap) (locs : List Loc) (ls : Array Slot) (cx : SC), cx = out → decode cX7_stopAt pc = .ok (.return_, 1) → xW g A s.heap (wS g h o cx) H locs → W p l e { frames := 0, cells := 0, slots := 0, locals := 0 } s m [.ref (h o), .int a1, .int a2].toArray below meth c H locs 0 0 ZZ (F0 m pc ls []) := by
    intro pc H locs ls cx he hd hw
    subst he
    rw [← hZ]
    exact W.vret hx hb hr (hpost H locs hw).1 (hpost H locs hw).2 hd hlocks
  clear hpost
  refine lv_aload_n hx hb dX7_stopAt_0 rfl (lv_at hl 0 rfl) ?_
  refine lv_iload_n hx hb dX7_stopAt_1 rfl (lv_at hl 1 rfl) ?_
  refine xput (ws' := (wS g h o (x.1, a1, x.2.2.1, x.2.2.2.1, x.2.2.2.2))) E hw 0 rfl rfl 1 (by decide) inw7 tyX7_ok nmX7 qw102 rfl rfl rfl rfl (Nat.le_of_ble_eq_true rfl) dX7_stopAt_2 rfl (fun H locs hw => ?_)
  refine lv_aload_n hx hb dX7_stopAt_5 rfl (lv_at hl 0 rfl) ?_
  refine lv_iload_n hx hb dX7_stopAt_6 rfl (lv_at hl 2 rfl) ?_
  refine xput (ws' := (wS g h o (x.1, a1, a2, x.2.2.2.1, x.2.2.2.2))) E hw 0 rfl rfl 2 (by decide) inw7 tyX7_ok nmX7 qw104 rfl rfl rfl rfl (Nat.le_of_ble_eq_true rfl) dX7_stopAt_7 rfl (fun H locs hw => ?_)
  exact hret _ _ _ _ _ (Option.some.inj hf) dX7_stopAt_10 hw
theorem k_X7_numeratorOf : xKV yX7_numeratorOf cX7_numeratorOf 2 (some .int) 1 := ⟨qw341, qw342, qw67, qw343, by decide +kernel, by decide +kernel, by decide +kernel⟩
set_option maxHeartbeats 4000000 in
set_option maxRecDepth 100000 in
theorem met_X7_numeratorOf (l : Launch) (g : xG) (h : Nat → Nat) (o : Nat) (x : SC) (a1 : Int32) (out : Int32) (hf : f_X7_numeratorOf x a1 = some out) : xM l yX7_numeratorOf (xC yX7_numeratorOf cX7_numeratorOf 2 (some .int)) { frames := 1, cells := 0, slots := 0, locals := 20 } g (wS g h o x) [.ref (h o), .int a1] (some (.int out)) (wS g h o x) := by
  refine xof (by decide) (Nat.le_of_ble_eq_true rfl) ⟨rfl, rfl⟩ ?_
  intro p e s m below meth c A ls E hr hlocks hw hl hpost hAe
  have hx := E.1.1
  have hb := E.1.2.1
  have hown := E.1.2.2.2.1
  have hts := E.1.2.2.2.2
  generalize hZ : (MQ below (xPost g (wS g h o x) (wS g h o x) s.heap.size (some (.int out))) [.ref (h o), .int a1].toArray s 0 0 A) = ZZ
  have hret : ∀ (pc : Nat) (H : Heap) (locs : List Loc) (ls : Array Slot) (v : Int32), v = out → decode cX7_numeratorOf pc = .ok (.ireturn, 1) → xW g A s.heap (wS g h o x) H locs → W p l e { frames := 1, cells := 0, slots := 0, locals := 20 } s m [.ref (h o), .int a1].toArray below meth c H locs 0 0 ZZ (F0 m pc ls [.int v]) := by
    intro pc H locs ls v he hd hw
    subst he
    rw [← hZ]
    exact W.iret hx hb hr (hpost H locs hw).1 (hpost H locs hw).2 hd hlocks
  clear hpost
  refine lv_iload_n hx hb dX7_numeratorOf_0 rfl (lv_at hl 1 rfl) ?_
  obtain ⟨v1, hv1, hf⟩ := ob_e hf
  refine xcallS (ws' := (wS g h o x)) (st1 := [.int v1]) (n := 3) E hw [.int a1] [] (met_X7_isAccount l g a1 v1 hv1) rfl (by decide) rfl rfl [0, 1, 2] rfl (by decide +kernel) rfl qw344 k_X7_isAccount ⟨rfl, rfl, Nat.le_of_ble_eq_true rfl, Nat.le_of_ble_eq_true rfl⟩ ⟨Nat.zero_le _, Nat.zero_le _⟩ hl.1 (Nat.le_of_ble_eq_true rfl) dX7_numeratorOf_1 rfl (fun H locs hw => ?_)
  refine lv_if_eq (tgt := 16) hx hb dX7_numeratorOf_4 (by decide) (fun c4 => ?_) (fun c4 => ?_)
  · replace hf := ip c4 hf
    refine lv_iconst (v := 0) hx hb dX7_numeratorOf_16 (by decide) ?_
    exact hret _ _ _ _ _ (Option.some.inj hf) dX7_numeratorOf_17 hw
  · replace hf := iq c4 hf
    refine lv_aload_n hx hb dX7_numeratorOf_7 rfl (lv_at hl 0 rfl) ?_
    refine xget (v := .ref (h (o + 1))) E hw 0 rfl rfl 3 (by decide) inw7 qw106 rfl rfl dX7_numeratorOf_8 ?_
    refine lv_iload_n hx hb dX7_numeratorOf_11 rfl (lv_at hl 1 rfl) ?_
    obtain ⟨hz, hf⟩ := nz hf
    refine xiald E hw 1 rfl hz dX7_numeratorOf_12 ?_
    refine lv_goto (tgt := 17) hx hb dX7_numeratorOf_13 (by decide) ?_
    exact hret _ _ _ _ _ (Option.some.inj hf) dX7_numeratorOf_17 hw
theorem k_X7_denominatorOf : xKV yX7_denominatorOf cX7_denominatorOf 2 (some .int) 1 := ⟨qw348, qw349, qw67, qw350, by decide +kernel, by decide +kernel, by decide +kernel⟩
set_option maxHeartbeats 4000000 in
set_option maxRecDepth 100000 in
theorem met_X7_denominatorOf (l : Launch) (g : xG) (h : Nat → Nat) (o : Nat) (x : SC) (a1 : Int32) (out : Int32) (hf : f_X7_denominatorOf x a1 = some out) : xM l yX7_denominatorOf (xC yX7_denominatorOf cX7_denominatorOf 2 (some .int)) { frames := 1, cells := 0, slots := 0, locals := 20 } g (wS g h o x) [.ref (h o), .int a1] (some (.int out)) (wS g h o x) := by
  refine xof (by decide) (Nat.le_of_ble_eq_true rfl) ⟨rfl, rfl⟩ ?_
  intro p e s m below meth c A ls E hr hlocks hw hl hpost hAe
  have hx := E.1.1
  have hb := E.1.2.1
  have hown := E.1.2.2.2.1
  have hts := E.1.2.2.2.2
  generalize hZ : (MQ below (xPost g (wS g h o x) (wS g h o x) s.heap.size (some (.int out))) [.ref (h o), .int a1].toArray s 0 0 A) = ZZ
  have hret : ∀ (pc : Nat) (H : Heap) (locs : List Loc) (ls : Array Slot) (v : Int32), v = out → decode cX7_denominatorOf pc = .ok (.ireturn, 1) → xW g A s.heap (wS g h o x) H locs → W p l e { frames := 1, cells := 0, slots := 0, locals := 20 } s m [.ref (h o), .int a1].toArray below meth c H locs 0 0 ZZ (F0 m pc ls [.int v]) := by
    intro pc H locs ls v he hd hw
    subst he
    rw [← hZ]
    exact W.iret hx hb hr (hpost H locs hw).1 (hpost H locs hw).2 hd hlocks
  clear hpost
  refine lv_iload_n hx hb dX7_denominatorOf_0 rfl (lv_at hl 1 rfl) ?_
  obtain ⟨v1, hv1, hf⟩ := ob_e hf
  refine xcallS (ws' := (wS g h o x)) (st1 := [.int v1]) (n := 3) E hw [.int a1] [] (met_X7_isAccount l g a1 v1 hv1) rfl (by decide) rfl rfl [0, 1, 2] rfl (by decide +kernel) rfl qw344 k_X7_isAccount ⟨rfl, rfl, Nat.le_of_ble_eq_true rfl, Nat.le_of_ble_eq_true rfl⟩ ⟨Nat.zero_le _, Nat.zero_le _⟩ hl.1 (Nat.le_of_ble_eq_true rfl) dX7_denominatorOf_1 rfl (fun H locs hw => ?_)
  refine lv_if_eq (tgt := 16) hx hb dX7_denominatorOf_4 (by decide) (fun c4 => ?_) (fun c4 => ?_)
  · replace hf := ip c4 hf
    refine lv_iconst (v := 1) hx hb dX7_denominatorOf_16 (by decide) ?_
    exact hret _ _ _ _ _ (Option.some.inj hf) dX7_denominatorOf_17 hw
  · replace hf := iq c4 hf
    refine lv_aload_n hx hb dX7_denominatorOf_7 rfl (lv_at hl 0 rfl) ?_
    refine xget (v := .ref (h (o + 2))) E hw 0 rfl rfl 4 (by decide) inw7 qw107 rfl rfl dX7_denominatorOf_8 ?_
    refine lv_iload_n hx hb dX7_denominatorOf_11 rfl (lv_at hl 1 rfl) ?_
    obtain ⟨hz, hf⟩ := nz hf
    refine xiald E hw 2 rfl hz dX7_denominatorOf_12 ?_
    refine lv_goto (tgt := 17) hx hb dX7_denominatorOf_13 (by decide) ?_
    exact hret _ _ _ _ _ (Option.some.inj hf) dX7_denominatorOf_17 hw
theorem k_X7_wholeOf : xKV yX7_wholeOf cX7_wholeOf 2 (some .int) 1 := ⟨qw441, qw442, qw67, qw443, by decide +kernel, by decide +kernel, by decide +kernel⟩
set_option maxHeartbeats 4000000 in
set_option maxRecDepth 100000 in
theorem met_X7_wholeOf (l : Launch) (g : xG) (h : Nat → Nat) (o : Nat) (x : SC) (a1 : Int32) (out : Int32) (hf : f_X7_wholeOf x a1 = some out) : xM l yX7_wholeOf (xC yX7_wholeOf cX7_wholeOf 2 (some .int)) { frames := 1, cells := 0, slots := 0, locals := 20 } g (wS g h o x) [.ref (h o), .int a1] (some (.int out)) (wS g h o x) := by
  refine xof (by decide) (Nat.le_of_ble_eq_true rfl) ⟨rfl, rfl⟩ ?_
  intro p e s m below meth c A ls E hr hlocks hw hl hpost hAe
  have hx := E.1.1
  have hb := E.1.2.1
  have hown := E.1.2.2.2.1
  have hts := E.1.2.2.2.2
  generalize hZ : (MQ below (xPost g (wS g h o x) (wS g h o x) s.heap.size (some (.int out))) [.ref (h o), .int a1].toArray s 0 0 A) = ZZ
  have hret : ∀ (pc : Nat) (H : Heap) (locs : List Loc) (ls : Array Slot) (v : Int32), v = out → decode cX7_wholeOf pc = .ok (.ireturn, 1) → xW g A s.heap (wS g h o x) H locs → W p l e { frames := 1, cells := 0, slots := 0, locals := 20 } s m [.ref (h o), .int a1].toArray below meth c H locs 0 0 ZZ (F0 m pc ls [.int v]) := by
    intro pc H locs ls v he hd hw
    subst he
    rw [← hZ]
    exact W.iret hx hb hr (hpost H locs hw).1 (hpost H locs hw).2 hd hlocks
  clear hpost
  refine lv_iload_n hx hb dX7_wholeOf_0 rfl (lv_at hl 1 rfl) ?_
  obtain ⟨v1, hv1, hf⟩ := ob_e hf
  refine xcallS (ws' := (wS g h o x)) (st1 := [.int v1]) (n := 3) E hw [.int a1] [] (met_X7_isAccount l g a1 v1 hv1) rfl (by decide) rfl rfl [0, 1, 2] rfl (by decide +kernel) rfl qw344 k_X7_isAccount ⟨rfl, rfl, Nat.le_of_ble_eq_true rfl, Nat.le_of_ble_eq_true rfl⟩ ⟨Nat.zero_le _, Nat.zero_le _⟩ hl.1 (Nat.le_of_ble_eq_true rfl) dX7_wholeOf_1 rfl (fun H locs hw => ?_)
  refine lv_if_eq (tgt := 32) hx hb dX7_wholeOf_4 (by decide) (fun c4 => ?_) (fun c4 => ?_)
  · replace hf := ip c4 hf
    refine lv_iconst (v := 0) hx hb dX7_wholeOf_32 (by decide) ?_
    exact hret _ _ _ _ _ (Option.some.inj hf) dX7_wholeOf_33 hw
  · replace hf := iq c4 hf
    refine lv_aload_n hx hb dX7_wholeOf_7 rfl (lv_at hl 0 rfl) ?_
    refine xget (v := .ref (h (o + 2))) E hw 0 rfl rfl 4 (by decide) inw7 qw107 rfl rfl dX7_wholeOf_8 ?_
    refine lv_iload_n hx hb dX7_wholeOf_11 rfl (lv_at hl 1 rfl) ?_
    obtain ⟨hz, hf⟩ := nz hf
    refine xiald E hw 2 rfl hz dX7_wholeOf_12 ?_
    refine lv_if_le (tgt := 32) hx hb dX7_wholeOf_13 (by decide) (fun c13 => ?_) (fun c13 => ?_)
    · replace hf := ip c13 hf
      refine lv_iconst (v := 0) hx hb dX7_wholeOf_32 (by decide) ?_
      exact hret _ _ _ _ _ (Option.some.inj hf) dX7_wholeOf_33 hw
    · replace hf := iq c13 hf
      refine lv_aload_n hx hb dX7_wholeOf_16 rfl (lv_at hl 0 rfl) ?_
      refine xget (v := .ref (h (o + 1))) E hw 0 rfl rfl 3 (by decide) inw7 qw106 rfl rfl dX7_wholeOf_17 ?_
      refine lv_iload_n hx hb dX7_wholeOf_20 rfl (lv_at hl 1 rfl) ?_
      obtain ⟨hz, hf⟩ := nz hf
      refine xiald E hw 1 rfl hz dX7_wholeOf_21 ?_
      refine lv_aload_n hx hb dX7_wholeOf_22 rfl (lv_at hl 0 rfl) ?_
      refine xget (v := .ref (h (o + 2))) E hw 0 rfl rfl 4 (by decide) inw7 qw107 rfl rfl dX7_wholeOf_23 ?_
      refine lv_iload_n hx hb dX7_wholeOf_26 rfl (lv_at hl 1 rfl) ?_
      obtain ⟨hz, hf⟩ := nz hf
      refine xiald E hw 2 rfl hz dX7_wholeOf_27 ?_
      obtain ⟨hz, hf⟩ := nz hf
      refine lv_idiv hx hb dX7_wholeOf_28 hz ?_
      refine lv_goto (tgt := 33) hx hb dX7_wholeOf_29 (by decide) ?_
      exact hret _ _ _ _ _ (Option.some.inj hf) dX7_wholeOf_33 hw
theorem k_X7_restOf : xKV yX7_restOf cX7_restOf 2 (some .long) 1 := ⟨qw527, qw528, qw67, qw529, by decide +kernel, by decide +kernel, by decide +kernel⟩
set_option maxHeartbeats 4000000 in
set_option maxRecDepth 100000 in
theorem met_X7_restOf (l : Launch) (g : xG) (h : Nat → Nat) (o : Nat) (x : SC) (a1 : Int32) (out : Int64) (hf : f_X7_restOf x a1 = some out) : xM l yX7_restOf (xC yX7_restOf cX7_restOf 2 (some .long)) { frames := 1, cells := 0, slots := 0, locals := 20 } g (wS g h o x) [.ref (h o), .int a1] (some (.long out)) (wS g h o x) := by
  refine xof (by decide) (Nat.le_of_ble_eq_true rfl) ⟨rfl, rfl⟩ ?_
  intro p e s m below meth c A ls E hr hlocks hw hl hpost hAe
  have hx := E.1.1
  have hb := E.1.2.1
  have hown := E.1.2.2.2.1
  have hts := E.1.2.2.2.2
  generalize hZ : (MQ below (xPost g (wS g h o x) (wS g h o x) s.heap.size (some (.long out))) [.ref (h o), .int a1].toArray s 0 0 A) = ZZ
  have hret : ∀ (pc : Nat) (H : Heap) (locs : List Loc) (ls : Array Slot) (v : Int64), v = out → decode cX7_restOf pc = .ok (.lreturn, 1) → xW g A s.heap (wS g h o x) H locs → W p l e { frames := 1, cells := 0, slots := 0, locals := 20 } s m [.ref (h o), .int a1].toArray below meth c H locs 0 0 ZZ (F0 m pc ls [.long v]) := by
    intro pc H locs ls v he hd hw
    subst he
    rw [← hZ]
    exact W.lret hx hb hr (hpost H locs hw).1 (hpost H locs hw).2 hd hlocks
  clear hpost
  refine lv_iload_n hx hb dX7_restOf_0 rfl (lv_at hl 1 rfl) ?_
  obtain ⟨v1, hv1, hf⟩ := ob_e hf
  refine xcallS (ws' := (wS g h o x)) (st1 := [.int v1]) (n := 3) E hw [.int a1] [] (met_X7_isAccount l g a1 v1 hv1) rfl (by decide) rfl rfl [0, 1, 2] rfl (by decide +kernel) rfl qw344 k_X7_isAccount ⟨rfl, rfl, Nat.le_of_ble_eq_true rfl, Nat.le_of_ble_eq_true rfl⟩ ⟨Nat.zero_le _, Nat.zero_le _⟩ hl.1 (Nat.le_of_ble_eq_true rfl) dX7_restOf_1 rfl (fun H locs hw => ?_)
  refine lv_if_eq (tgt := 33) hx hb dX7_restOf_4 (by decide) (fun c4 => ?_) (fun c4 => ?_)
  · replace hf := ip c4 hf
    refine lv_lconst (v := 0) hx hb dX7_restOf_33 (by decide) ?_
    exact hret _ _ _ _ _ (Option.some.inj hf) dX7_restOf_34 hw
  · replace hf := iq c4 hf
    refine lv_aload_n hx hb dX7_restOf_7 rfl (lv_at hl 0 rfl) ?_
    refine xget (v := .ref (h (o + 2))) E hw 0 rfl rfl 4 (by decide) inw7 qw107 rfl rfl dX7_restOf_8 ?_
    refine lv_iload_n hx hb dX7_restOf_11 rfl (lv_at hl 1 rfl) ?_
    obtain ⟨hz, hf⟩ := nz hf
    refine xiald E hw 2 rfl hz dX7_restOf_12 ?_
    refine lv_if_le (tgt := 33) hx hb dX7_restOf_13 (by decide) (fun c13 => ?_) (fun c13 => ?_)
    · replace hf := ip c13 hf
      refine lv_lconst (v := 0) hx hb dX7_restOf_33 (by decide) ?_
      exact hret _ _ _ _ _ (Option.some.inj hf) dX7_restOf_34 hw
    · replace hf := iq c13 hf
      refine lv_aload_n hx hb dX7_restOf_16 rfl (lv_at hl 0 rfl) ?_
      refine xget (v := .ref (h (o + 1))) E hw 0 rfl rfl 3 (by decide) inw7 qw106 rfl rfl dX7_restOf_17 ?_
      refine lv_iload_n hx hb dX7_restOf_20 rfl (lv_at hl 1 rfl) ?_
      obtain ⟨hz, hf⟩ := nz hf
      refine xiald E hw 1 rfl hz dX7_restOf_21 ?_
      refine lv_aload_n hx hb dX7_restOf_22 rfl (lv_at hl 0 rfl) ?_
      refine xget (v := .ref (h (o + 2))) E hw 0 rfl rfl 4 (by decide) inw7 qw107 rfl rfl dX7_restOf_23 ?_
      refine lv_iload_n hx hb dX7_restOf_26 rfl (lv_at hl 1 rfl) ?_
      obtain ⟨hz, hf⟩ := nz hf
      refine xiald E hw 2 rfl hz dX7_restOf_27 ?_
      obtain ⟨hz, hf⟩ := nz hf
      refine lv_irem hx hb dX7_restOf_28 hz ?_
      refine lv_i2l hx hb dX7_restOf_29 rfl ?_
      refine lv_goto (tgt := 34) hx hb dX7_restOf_30 (by decide) ?_
      exact hret _ _ _ _ _ (Option.some.inj hf) dX7_restOf_34 hw
theorem k_X7_asDouble : xKV yX7_asDouble cX7_asDouble 2 (some .double) 1 := ⟨qw664, qw665, qw67, qw666, by decide +kernel, by decide +kernel, by decide +kernel⟩
set_option maxHeartbeats 4000000 in
set_option maxRecDepth 100000 in
theorem met_X7_asDouble (l : Launch) (g : xG) (h : Nat → Nat) (o : Nat) (x : SC) (a1 : Int32) (out : UInt64) (hf : f_X7_asDouble x a1 = some out) : xM l yX7_asDouble (xC yX7_asDouble cX7_asDouble 2 (some .double)) { frames := 1, cells := 0, slots := 0, locals := 20 } g (wS g h o x) [.ref (h o), .int a1] (some (.double out)) (wS g h o x) := by
  refine xof (by decide) (Nat.le_of_ble_eq_true rfl) ⟨rfl, rfl⟩ ?_
  intro p e s m below meth c A ls E hr hlocks hw hl hpost hAe
  have hx := E.1.1
  have hb := E.1.2.1
  have hown := E.1.2.2.2.1
  have hts := E.1.2.2.2.2
  generalize hZ : (MQ below (xPost g (wS g h o x) (wS g h o x) s.heap.size (some (.double out))) [.ref (h o), .int a1].toArray s 0 0 A) = ZZ
  have hret : ∀ (pc : Nat) (H : Heap) (locs : List Loc) (ls : Array Slot) (v : UInt64), v = out → decode cX7_asDouble pc = .ok (.dreturn, 1) → xW g A s.heap (wS g h o x) H locs → W p l e { frames := 1, cells := 0, slots := 0, locals := 20 } s m [.ref (h o), .int a1].toArray below meth c H locs 0 0 ZZ (F0 m pc ls [.double v]) := by
    intro pc H locs ls v he hd hw
    subst he
    rw [← hZ]
    exact W.dret hx hb hr (hpost H locs hw).1 (hpost H locs hw).2 hd hlocks
  clear hpost
  refine lv_iload_n hx hb dX7_asDouble_0 rfl (lv_at hl 1 rfl) ?_
  obtain ⟨v1, hv1, hf⟩ := ob_e hf
  refine xcallS (ws' := (wS g h o x)) (st1 := [.int v1]) (n := 3) E hw [.int a1] [] (met_X7_isAccount l g a1 v1 hv1) rfl (by decide) rfl rfl [0, 1, 2] rfl (by decide +kernel) rfl qw344 k_X7_isAccount ⟨rfl, rfl, Nat.le_of_ble_eq_true rfl, Nat.le_of_ble_eq_true rfl⟩ ⟨Nat.zero_le _, Nat.zero_le _⟩ hl.1 (Nat.le_of_ble_eq_true rfl) dX7_asDouble_1 rfl (fun H locs hw => ?_)
  refine lv_if_eq (tgt := 34) hx hb dX7_asDouble_4 (by decide) (fun c4 => ?_) (fun c4 => ?_)
  · replace hf := ip c4 hf
    refine lv_dconst0 hx hb dX7_asDouble_34 ?_
    exact hret _ _ _ _ _ (Option.some.inj hf) dX7_asDouble_35 hw
  · replace hf := iq c4 hf
    refine lv_aload_n hx hb dX7_asDouble_7 rfl (lv_at hl 0 rfl) ?_
    refine xget (v := .ref (h (o + 2))) E hw 0 rfl rfl 4 (by decide) inw7 qw107 rfl rfl dX7_asDouble_8 ?_
    refine lv_iload_n hx hb dX7_asDouble_11 rfl (lv_at hl 1 rfl) ?_
    obtain ⟨hz, hf⟩ := nz hf
    refine xiald E hw 2 rfl hz dX7_asDouble_12 ?_
    refine lv_if_le (tgt := 34) hx hb dX7_asDouble_13 (by decide) (fun c13 => ?_) (fun c13 => ?_)
    · replace hf := ip c13 hf
      refine lv_dconst0 hx hb dX7_asDouble_34 ?_
      exact hret _ _ _ _ _ (Option.some.inj hf) dX7_asDouble_35 hw
    · replace hf := iq c13 hf
      refine lv_aload_n hx hb dX7_asDouble_16 rfl (lv_at hl 0 rfl) ?_
      refine xget (v := .ref (h (o + 1))) E hw 0 rfl rfl 3 (by decide) inw7 qw106 rfl rfl dX7_asDouble_17 ?_
      refine lv_iload_n hx hb dX7_asDouble_20 rfl (lv_at hl 1 rfl) ?_
      obtain ⟨hz, hf⟩ := nz hf
      refine xiald E hw 1 rfl hz dX7_asDouble_21 ?_
      refine lv_i2d hx hb dX7_asDouble_22 ?_
      refine lv_aload_n hx hb dX7_asDouble_23 rfl (lv_at hl 0 rfl) ?_
      refine xget (v := .ref (h (o + 2))) E hw 0 rfl rfl 4 (by decide) inw7 qw107 rfl rfl dX7_asDouble_24 ?_
      refine lv_iload_n hx hb dX7_asDouble_27 rfl (lv_at hl 1 rfl) ?_
      obtain ⟨hz, hf⟩ := nz hf
      refine xiald E hw 2 rfl hz dX7_asDouble_28 ?_
      refine lv_i2d hx hb dX7_asDouble_29 ?_
      obtain ⟨hz, hf⟩ := nz hf
      refine lv_ddiv hx hb dX7_asDouble_30 (xn64 hz) ?_
      refine lv_goto (tgt := 35) hx hb dX7_asDouble_31 (by decide) ?_
      exact hret _ _ _ _ _ (Option.some.inj hf) dX7_asDouble_35 hw
