theorem k_X5_quotient : xKS yX5_quotient cX5_quotient 4 (some .long) 2 := ⟨qw356, qw26, qw357, by decide +kernel, by decide +kernel, by decide +kernel⟩
set_option maxHeartbeats 4000000 in
set_option maxRecDepth 100000 in
theorem met_X5_quotient (l : Launch) (g : xG) (a0 : Int64) (a1 : Int64) (out : Int64) (hf : f_X5_quotient a0 a1 = some out) : xM l yX5_quotient (xC yX5_quotient cX5_quotient 4 (some .long)) { frames := 0, cells := 0, slots := 0, locals := 0 } g ([] : va_W) [.long a0, .long a1] (some (.long out)) ([] : va_W) := by
  refine xof (by decide) (Nat.le_of_ble_eq_true rfl) ⟨rfl, rfl⟩ ?_
  intro p e s m below meth c A ls E hr hlocks hw hl hpost hAe
  have hx := E.1.1
  have hb := E.1.2.1
  have hown := E.1.2.2.2.1
  have hts := E.1.2.2.2.2
  generalize hZ : (MQ below (xPost g ([] : va_W) ([] : va_W) s.heap.size (some (.long out))) [.long a0, .long a1].toArray s 0 0 A) = ZZ
  have hret : ∀ (pc : Nat) (H : Heap) (locs : List Loc) (ls : Array Slot) (v : Int64), v = out → decode cX5_quotient pc = .ok (.lreturn, 1) → xW g A s.heap ([] : va_W) H locs → W p l e { frames := 0, cells := 0, slots := 0, locals := 0 } s m [.long a0, .long a1].toArray below meth c H locs 0 0 ZZ (F0 m pc ls [.long v]) := by
    intro pc H locs ls v he hd hw
    subst he
    rw [← hZ]
    exact W.lret hx hb hr (hpost H locs hw).1 (hpost H locs hw).2 hd hlocks
  clear hpost
  refine lv_lload_n hx hb dX5_quotient_0 rfl (lv_at hl 1 rfl) ?_
  refine lv_lconst (v := 1) hx hb dX5_quotient_1 (by decide) ?_
  refine xlc_ge (tgt := 10) hx hb dX5_quotient_2 dX5_quotient_3 (by decide) (fun c2 => ?_) (fun c2 => ?_)
  · replace hf := iq c2 hf
    refine lv_lload_n hx hb dX5_quotient_10 rfl (lv_at hl 0 rfl) ?_
    refine lv_lload_n hx hb dX5_quotient_11 rfl (lv_at hl 1 rfl) ?_
    obtain ⟨hz, hf⟩ := nz hf
    refine lv_ldiv hx hb dX5_quotient_12 hz ?_
    exact hret _ _ _ _ _ (Option.some.inj hf) dX5_quotient_13 hw
  · replace hf := ip c2 hf
    refine lv_lconst (v := 0) hx hb dX5_quotient_6 (by decide) ?_
    refine lv_goto (tgt := 13) hx hb dX5_quotient_7 (by decide) ?_
    exact hret _ _ _ _ _ (Option.some.inj hf) dX5_quotient_13 hw
theorem k_X5_greatestCommon : xKS yX5_greatestCommon cX5_greatestCommon 11 (some .long) 2 := ⟨qw373, qw26, qw374, by decide +kernel, by decide +kernel, by decide +kernel⟩
set_option maxHeartbeats 4000000 in
set_option maxRecDepth 100000 in
theorem met_X5_greatestCommon (l : Launch) (g : xG) (a0 : Int64) (a1 : Int64) (out : Int64) (hf : f_X5_greatestCommon a0 a1 = some out) : xM l yX5_greatestCommon (xC yX5_greatestCommon cX5_greatestCommon 11 (some .long)) { frames := 0, cells := 0, slots := 0, locals := 0 } g ([] : va_W) [.long a0, .long a1] (some (.long out)) ([] : va_W) := by
  refine xof (by decide) (Nat.le_of_ble_eq_true rfl) ⟨rfl, rfl⟩ ?_
  intro p e s m below meth c A ls E hr hlocks hw hl hpost hAe
  have hx := E.1.1
  have hb := E.1.2.1
  have hown := E.1.2.2.2.1
  have hts := E.1.2.2.2.2
  generalize hZ : (MQ below (xPost g ([] : va_W) ([] : va_W) s.heap.size (some (.long out))) [.long a0, .long a1].toArray s 0 0 A) = ZZ
  have hret : ∀ (pc : Nat) (H : Heap) (locs : List Loc) (ls : Array Slot) (v : Int64), v = out → decode cX5_greatestCommon pc = .ok (.lreturn, 1) → xW g A s.heap ([] : va_W) H locs → W p l e { frames := 0, cells := 0, slots := 0, locals := 0 } s m [.long a0, .long a1].toArray below meth c H locs 0 0 ZZ (F0 m pc ls [.long v]) := by
    intro pc H locs ls v he hd hw
    subst he
    rw [← hZ]
    exact W.lret hx hb hr (hpost H locs hw).1 (hpost H locs hw).2 hd hlocks
  clear hpost
  have b9 : ∀ n9 : Nat, ∀ (H : Heap) (locs : List Loc) (ls : Array Slot) (x4 : Int64) (x6 : Int64) (x8 : Int32), xW g A s.heap ([] : va_W) H locs → lv_has ls 11 [(4, .long x4), (6, .long x6), (8, .int x8)] → f_X5_greatestCommon_b9 n9 x4 x6 x8 = some out → W p l e { frames := 0, cells := 0, slots := 0, locals := 0 } s m [.long a0, .long a1].toArray below meth c H locs 0 0 ZZ (F0 m 9 ls []) := by
    intro n9
    induction n9 with
    | zero =>
      intro H locs ls x4 x6 x8 hw hl hf
      exact nn hf
    | succ n9 ih9 =>
      intro H locs ls x4 x6 x8 hw hl hf
      refine lv_lload hx hb dX5_greatestCommon_9 (lv_at hl 1 rfl) ?_
      refine lv_lconst (v := 0) hx hb dX5_greatestCommon_11 (by decide) ?_
      refine xlc_eq (tgt := 45) hx hb dX5_greatestCommon_12 dX5_greatestCommon_13 (by decide) (fun c12 => ?_) (fun c12 => ?_)
      · replace hf := ip c12 hf
        refine lv_lload hx hb dX5_greatestCommon_45 (lv_at hl 0 rfl) ?_
        exact hret _ _ _ _ _ (Option.some.inj hf) dX5_greatestCommon_47 hw
      · replace hf := iq c12 hf
        refine lv_iload hx hb dX5_greatestCommon_16 (lv_at hl 2 rfl) ?_
        refine lv_sipush (v := 200) hx hb dX5_greatestCommon_18 (by decide) ?_
        refine lv_icmp_ge (tgt := 45) hx hb dX5_greatestCommon_21 (by decide) (fun c21 => ?_) (fun c21 => ?_)
        · replace hf := ip c21 hf
          refine lv_lload hx hb dX5_greatestCommon_45 (lv_at hl 0 rfl) ?_
          exact hret _ _ _ _ _ (Option.some.inj hf) dX5_greatestCommon_47 hw
        · replace hf := iq c21 hf
          refine lv_lload hx hb dX5_greatestCommon_24 (lv_at hl 0 rfl) ?_
          refine lv_lload hx hb dX5_greatestCommon_26 (lv_at hl 1 rfl) ?_
          obtain ⟨hz, hf⟩ := nz hf
          refine lv_lrem hx hb dX5_greatestCommon_28 hz ?_
          refine lv_lstore (lv' := [(9, .long (x4 - x4 / x6 * x6)), (4, .long x4), (6, .long x6), (8, .int x8)]) hx hb dX5_greatestCommon_29 hl (by decide) rfl (fun ls hl => ?_)
          refine lv_lload hx hb dX5_greatestCommon_31 (lv_at hl 2 rfl) ?_
          refine lv_lstore (lv' := [(4, .long x6), (9, .long (x4 - x4 / x6 * x6)), (6, .long x6), (8, .int x8)]) hx hb dX5_greatestCommon_33 hl (by decide) rfl (fun ls hl => ?_)
          refine lv_lload hx hb dX5_greatestCommon_35 (lv_at hl 1 rfl) ?_
          refine lv_lstore (lv' := [(6, .long (x4 - x4 / x6 * x6)), (4, .long x6), (9, .long (x4 - x4 / x6 * x6)), (8, .int x8)]) hx hb dX5_greatestCommon_37 hl (by decide) rfl (fun ls hl => ?_)
          refine lv_iinc (v := x8 + 1) (lv' := [(8, .int (x8 + 1)), (6, .long (x4 - x4 / x6 * x6)), (4, .long x6), (9, .long (x4 - x4 / x6 * x6))]) hx hb dX5_greatestCommon_39 hl (k := 3) rfl rfl (by decide) rfl (fun ls hl => ?_)
          refine lv_goto (tgt := 9) hx hb dX5_greatestCommon_42 (by decide) ?_
          exact ih9 _ _ _ x6 (x4 - x4 / x6 * x6) (x8 + 1) hw (lv_sub hl [2, 1, 0] rfl) hf
  refine lv_lload_n hx hb dX5_greatestCommon_0 rfl (lv_at hl 0 rfl) ?_
  refine lv_lstore (lv' := [(4, .long a0), (0, .long a0), (2, .long a1)]) hx hb dX5_greatestCommon_1 hl (by decide) rfl (fun ls hl => ?_)
  refine lv_lload_n hx hb dX5_greatestCommon_3 rfl (lv_at hl 2 rfl) ?_
  refine lv_lstore (lv' := [(6, .long a1), (4, .long a0), (0, .long a0), (2, .long a1)]) hx hb dX5_greatestCommon_4 hl (by decide) rfl (fun ls hl => ?_)
  refine lv_iconst (v := 0) hx hb dX5_greatestCommon_6 (by decide) ?_
  refine lv_istore (lv' := [(8, .int 0), (6, .long a1), (4, .long a0), (0, .long a0), (2, .long a1)]) hx hb dX5_greatestCommon_7 hl (by decide) rfl (fun ls hl => ?_)
  exact b9 xfuel _ _ _ a0 a1 0 hw (lv_sub hl [2, 1, 0] rfl) hf
theorem k_X5_left : xKS yX5_left cX5_left 4 (some .long) 2 := ⟨qw391, qw26, qw392, by decide +kernel, by decide +kernel, by decide +kernel⟩
set_option maxHeartbeats 4000000 in
set_option maxRecDepth 100000 in
theorem met_X5_left (l : Launch) (g : xG) (a0 : Int64) (a1 : Int64) (out : Int64) (hf : f_X5_left a0 a1 = some out) : xM l yX5_left (xC yX5_left cX5_left 4 (some .long)) { frames := 0, cells := 0, slots := 0, locals := 0 } g ([] : va_W) [.long a0, .long a1] (some (.long out)) ([] : va_W) := by
  refine xof (by decide) (Nat.le_of_ble_eq_true rfl) ⟨rfl, rfl⟩ ?_
  intro p e s m below meth c A ls E hr hlocks hw hl hpost hAe
  have hx := E.1.1
  have hb := E.1.2.1
  have hown := E.1.2.2.2.1
  have hts := E.1.2.2.2.2
  generalize hZ : (MQ below (xPost g ([] : va_W) ([] : va_W) s.heap.size (some (.long out))) [.long a0, .long a1].toArray s 0 0 A) = ZZ
  have hret : ∀ (pc : Nat) (H : Heap) (locs : List Loc) (ls : Array Slot) (v : Int64), v = out → decode cX5_left pc = .ok (.lreturn, 1) → xW g A s.heap ([] : va_W) H locs → W p l e { frames := 0, cells := 0, slots := 0, locals := 0 } s m [.long a0, .long a1].toArray below meth c H locs 0 0 ZZ (F0 m pc ls [.long v]) := by
    intro pc H locs ls v he hd hw
    subst he
    rw [← hZ]
    exact W.lret hx hb hr (hpost H locs hw).1 (hpost H locs hw).2 hd hlocks
  clear hpost
  refine lv_lload_n hx hb dX5_left_0 rfl (lv_at hl 1 rfl) ?_
  refine lv_lconst (v := 1) hx hb dX5_left_1 (by decide) ?_
  refine xlc_ge (tgt := 10) hx hb dX5_left_2 dX5_left_3 (by decide) (fun c2 => ?_) (fun c2 => ?_)
  · replace hf := iq c2 hf
    refine lv_lload_n hx hb dX5_left_10 rfl (lv_at hl 0 rfl) ?_
    refine lv_lload_n hx hb dX5_left_11 rfl (lv_at hl 1 rfl) ?_
    obtain ⟨hz, hf⟩ := nz hf
    refine lv_lrem hx hb dX5_left_12 hz ?_
    exact hret _ _ _ _ _ (Option.some.inj hf) dX5_left_13 hw
  · replace hf := ip c2 hf
    refine lv_lconst (v := 0) hx hb dX5_left_6 (by decide) ?_
    refine lv_goto (tgt := 13) hx hb dX5_left_7 (by decide) ?_
    exact hret _ _ _ _ _ (Option.some.inj hf) dX5_left_13 hw
theorem k_X5_power : xKS yX5_power cX5_power 6 (some .long) 2 := ⟨qw544, qw26, qw545, by decide +kernel, by decide +kernel, by decide +kernel⟩
set_option maxHeartbeats 4000000 in
set_option maxRecDepth 100000 in
theorem met_X5_power (l : Launch) (g : xG) (a0 : Int64) (a1 : Int32) (out : Int64) (hf : f_X5_power a0 a1 = some out) : xM l yX5_power (xC yX5_power cX5_power 6 (some .long)) { frames := 0, cells := 0, slots := 0, locals := 0 } g ([] : va_W) [.long a0, .int a1] (some (.long out)) ([] : va_W) := by
  refine xof (by decide) (Nat.le_of_ble_eq_true rfl) ⟨rfl, rfl⟩ ?_
  intro p e s m below meth c A ls E hr hlocks hw hl hpost hAe
  have hx := E.1.1
  have hb := E.1.2.1
  have hown := E.1.2.2.2.1
  have hts := E.1.2.2.2.2
  generalize hZ : (MQ below (xPost g ([] : va_W) ([] : va_W) s.heap.size (some (.long out))) [.long a0, .int a1].toArray s 0 0 A) = ZZ
  have hret : ∀ (pc : Nat) (H : Heap) (locs : List Loc) (ls : Array Slot) (v : Int64), v = out → decode cX5_power pc = .ok (.lreturn, 1) → xW g A s.heap ([] : va_W) H locs → W p l e { frames := 0, cells := 0, slots := 0, locals := 0 } s m [.long a0, .int a1].toArray below meth c H locs 0 0 ZZ (F0 m pc ls [.long v]) := by
    intro pc H locs ls v he hd hw
    subst he
    rw [← hZ]
    exact W.lret hx hb hr (hpost H locs hw).1 (hpost H locs hw).2 hd hlocks
  clear hpost
  have b5 : ∀ n5 : Nat, ∀ (H : Heap) (locs : List Loc) (ls : Array Slot) (x0 : Int64) (x2 : Int32) (x3 : Int64) (x5 : Int32), xW g A s.heap ([] : va_W) H locs → lv_has ls 6 [(0, .long x0), (2, .int x2), (3, .long x3), (5, .int x5)] → f_X5_power_b5 n5 x0 x2 x3 x5 = some out → W p l e { frames := 0, cells := 0, slots := 0, locals := 0 } s m [.long a0, .int a1].toArray below meth c H locs 0 0 ZZ (F0 m 5 ls []) := by
    intro n5
    induction n5 with
    | zero =>
      intro H locs ls x0 x2 x3 x5 hw hl hf
      exact nn hf
    | succ n5 ih5 =>
      intro H locs ls x0 x2 x3 x5 hw hl hf
      refine lv_iload hx hb dX5_power_5 (lv_at hl 3 rfl) ?_
      refine lv_iload_n hx hb dX5_power_7 rfl (lv_at hl 1 rfl) ?_
      refine lv_icmp_ge (tgt := 28) hx hb dX5_power_8 (by decide) (fun c8 => ?_) (fun c8 => ?_)
      · replace hf := ip c8 hf
        refine lv_lload_n hx hb dX5_power_28 rfl (lv_at hl 2 rfl) ?_
        exact hret _ _ _ _ _ (Option.some.inj hf) dX5_power_29 hw
      · replace hf := iq c8 hf
        refine lv_iload hx hb dX5_power_11 (lv_at hl 3 rfl) ?_
        refine lv_bipush (v := 100) hx hb dX5_power_13 (by decide) ?_
        refine lv_icmp_ge (tgt := 28) hx hb dX5_power_15 (by decide) (fun c15 => ?_) (fun c15 => ?_)
        · replace hf := ip c15 hf
          refine lv_lload_n hx hb dX5_power_28 rfl (lv_at hl 2 rfl) ?_
          exact hret _ _ _ _ _ (Option.some.inj hf) dX5_power_29 hw
        · replace hf := iq c15 hf
          refine lv_lload_n hx hb dX5_power_18 rfl (lv_at hl 2 rfl) ?_
          refine lv_lload_n hx hb dX5_power_19 rfl (lv_at hl 0 rfl) ?_
          refine lv_lmul hx hb dX5_power_20 ?_
          refine lv_lstore_n (lv' := [(3, .long (x3 * x0)), (0, .long x0), (2, .int x2), (5, .int x5)]) hx hb dX5_power_21 rfl hl (by decide) rfl (fun ls hl => ?_)
          refine lv_iinc (v := x5 + 1) (lv' := [(5, .int (x5 + 1)), (3, .long (x3 * x0)), (0, .long x0), (2, .int x2)]) hx hb dX5_power_22 hl (k := 3) rfl rfl (by decide) rfl (fun ls hl => ?_)
          refine lv_goto (tgt := 5) hx hb dX5_power_25 (by decide) ?_
          exact ih5 _ _ _ x0 x2 (x3 * x0) (x5 + 1) hw (lv_sub hl [2, 3, 1, 0] rfl) hf
  refine lv_lconst (v := 1) hx hb dX5_power_0 (by decide) ?_
  refine lv_lstore_n (lv' := [(3, .long 1), (0, .long a0), (2, .int a1)]) hx hb dX5_power_1 rfl hl (by decide) rfl (fun ls hl => ?_)
  refine lv_iconst (v := 0) hx hb dX5_power_2 (by decide) ?_
  refine lv_istore (lv' := [(5, .int 0), (3, .long 1), (0, .long a0), (2, .int a1)]) hx hb dX5_power_3 hl (by decide) rfl (fun ls hl => ?_)
  exact b5 xfuel _ _ _ a0 a1 1 0 hw (lv_sub hl [2, 3, 1, 0] rfl) hf
