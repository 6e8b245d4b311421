theorem k_X0_restAfter : xKS yX0_restAfter cX0_restAfter 9 (some .long) 4 := ⟨qw384, qw27, qw385, by decide +kernel, by decide +kernel, by decide +kernel⟩
set_option maxHeartbeats 4000000 in
set_option maxRecDepth 100000 in
theorem met_X0_restAfter (l : Launch) (g : xG) (a0 : Int64) (a1 : Int64) (a2 : Int32) (a3 : Int32) (out : Int64) (hf : f_X0_restAfter a0 a1 a2 a3 = some out) : xM l yX0_restAfter (xC yX0_restAfter cX0_restAfter 9 (some .long)) { frames := 0, cells := 0, slots := 0, locals := 0 } g ([] : va_W) [.long a0, .long a1, .int a2, .int a3] (some (.long out)) ([] : va_W) := by
  refine xof (by decide) (Nat.le_of_ble_eq_true rfl) ⟨rfl, rfl⟩ ?_
  intro p e s m below meth c A ls E hr hlocks hw hl hpost hAe
  have hx := E.1.1
  have hb := E.1.2.1
  have hown := E.1.2.2.2.1
  have hts := E.1.2.2.2.2
  generalize hZ : (MQ below (xPost g ([] : va_W) ([] : va_W) s.heap.size (some (.long out))) [.long a0, .long a1, .int a2, .int a3].toArray s 0 0 A) = ZZ
  have hret : ∀ (pc : Nat) (H : Heap) (locs : List Loc) (ls : Array Slot) (v : Int64), v = out → decode cX0_restAfter pc = .ok (.lreturn, 1) → xW g A s.heap ([] : va_W) H locs → W p l e { frames := 0, cells := 0, slots := 0, locals := 0 } s m [.long a0, .long a1, .int a2, .int a3].toArray below meth c H locs 0 0 ZZ (F0 m pc ls [.long v]) := by
    intro pc H locs ls v he hd hw
    subst he
    rw [← hZ]
    exact W.lret hx hb hr (hpost H locs hw).1 (hpost H locs hw).2 hd hlocks
  clear hpost
  have b14 : ∀ n14 : Nat, ∀ (H : Heap) (locs : List Loc) (ls : Array Slot) (x2 : Int64) (x4 : Int32) (x5 : Int32) (x6 : Int64) (x8 : Int32), xW g A s.heap ([] : va_W) H locs → lv_has ls 9 [(2, .long x2), (4, .int x4), (5, .int x5), (6, .long x6), (8, .int x8)] → f_X0_restAfter_b14 n14 x2 x4 x5 x6 x8 = some out → W p l e { frames := 0, cells := 0, slots := 0, locals := 0 } s m [.long a0, .long a1, .int a2, .int a3].toArray below meth c H locs 0 0 ZZ (F0 m 14 ls []) := by
    intro n14
    induction n14 with
    | zero =>
      intro H locs ls x2 x4 x5 x6 x8 hw hl hf
      exact nn hf
    | succ n14 ih14 =>
      intro H locs ls x2 x4 x5 x6 x8 hw hl hf
      refine lv_iload hx hb dX0_restAfter_14 (lv_at hl 4 rfl) ?_
      refine lv_iload hx hb dX0_restAfter_16 (lv_at hl 2 rfl) ?_
      refine lv_icmp_ge (tgt := 45) hx hb dX0_restAfter_18 (by decide) (fun c18 => ?_) (fun c18 => ?_)
      · replace hf := ip c18 hf
        refine lv_lload hx hb dX0_restAfter_45 (lv_at hl 3 rfl) ?_
        exact hret _ _ _ _ _ (Option.some.inj hf) dX0_restAfter_47 hw
      · replace hf := iq c18 hf
        refine lv_iload hx hb dX0_restAfter_21 (lv_at hl 4 rfl) ?_
        refine lv_sipush (v := 2000) hx hb dX0_restAfter_23 (by decide) ?_
        refine lv_icmp_gt (tgt := 45) hx hb dX0_restAfter_26 (by decide) (fun c26 => ?_) (fun c26 => ?_)
        · replace hf := ip c26 hf
          refine lv_lload hx hb dX0_restAfter_45 (lv_at hl 3 rfl) ?_
          exact hret _ _ _ _ _ (Option.some.inj hf) dX0_restAfter_47 hw
        · replace hf := iq c26 hf
          refine lv_lload hx hb dX0_restAfter_29 (lv_at hl 3 rfl) ?_
          refine lv_iload hx hb dX0_restAfter_31 (lv_at hl 1 rfl) ?_
          refine lv_i2l hx hb dX0_restAfter_33 rfl ?_
          refine lv_lmul hx hb dX0_restAfter_34 ?_
          refine lv_lload_n hx hb dX0_restAfter_35 rfl (lv_at hl 0 rfl) ?_
          obtain ⟨hz, hf⟩ := nz hf
          refine lv_lrem hx hb dX0_restAfter_36 hz ?_
          refine lv_lstore (lv' := [(6, .long ((x6 * x4.toInt64) - (x6 * x4.toInt64) / x2 * x2)), (2, .long x2), (4, .int x4), (5, .int x5), (8, .int x8)]) hx hb dX0_restAfter_37 hl (by decide) rfl (fun ls hl => ?_)
          refine lv_iinc (v := x8 + 1) (lv' := [(8, .int (x8 + 1)), (6, .long ((x6 * x4.toInt64) - (x6 * x4.toInt64) / x2 * x2)), (2, .long x2), (4, .int x4), (5, .int x5)]) hx hb dX0_restAfter_39 hl (k := 4) rfl rfl (by decide) rfl (fun ls hl => ?_)
          refine lv_goto (tgt := 14) hx hb dX0_restAfter_42 (by decide) ?_
          exact ih14 _ _ _ x2 x4 x5 ((x6 * x4.toInt64) - (x6 * x4.toInt64) / x2 * x2) (x8 + 1) hw (lv_sub hl [2, 3, 4, 1, 0] rfl) hf
  refine lv_lload_n hx hb dX0_restAfter_0 rfl (lv_at hl 1 rfl) ?_
  refine lv_lconst (v := 1) hx hb dX0_restAfter_1 (by decide) ?_
  refine xlc_ge (tgt := 8) hx hb dX0_restAfter_2 dX0_restAfter_3 (by decide) (fun c2 => ?_) (fun c2 => ?_)
  · replace hf := iq c2 hf
    refine lv_lload_n hx hb dX0_restAfter_8 rfl (lv_at hl 0 rfl) ?_
    refine lv_lstore (lv' := [(6, .long a0), (0, .long a0), (2, .long a1), (4, .int a2), (5, .int a3)]) hx hb dX0_restAfter_9 hl (by decide) rfl (fun ls hl => ?_)
    refine lv_iconst (v := 0) hx hb dX0_restAfter_11 (by decide) ?_
    refine lv_istore (lv' := [(8, .int 0), (6, .long a0), (0, .long a0), (2, .long a1), (4, .int a2), (5, .int a3)]) hx hb dX0_restAfter_12 hl (by decide) rfl (fun ls hl => ?_)
    exact b14 xfuel _ _ _ a1 a2 a3 a0 0 hw (lv_sub hl [3, 4, 5, 1, 0] rfl) hf
  · replace hf := ip c2 hf
    refine lv_lconst (v := 0) hx hb dX0_restAfter_6 (by decide) ?_
    exact hret _ _ _ _ _ (Option.some.inj hf) dX0_restAfter_7 hw
theorem k_X0_digit : xKS yX0_digit cX0_digit 8 (some .int) 4 := ⟨qw401, qw27, qw402, by decide +kernel, by decide +kernel, by decide +kernel⟩
set_option maxHeartbeats 4000000 in
set_option maxRecDepth 100000 in
theorem met_X0_digit (l : Launch) (g : xG) (a0 : Int64) (a1 : Int64) (a2 : Int32) (a3 : Int32) (out : Int32) (hf : f_X0_digit a0 a1 a2 a3 = some out) : xM l yX0_digit (xC yX0_digit cX0_digit 8 (some .int)) { frames := 1, cells := 0, slots := 0, locals := 28 } g ([] : va_W) [.long a0, .long a1, .int a2, .int a3] (some (.int out)) ([] : va_W) := by
  refine xof (by decide) (Nat.le_of_ble_eq_true rfl) ⟨rfl, rfl⟩ ?_
  intro p e s m below meth c A ls E hr hlocks hw hl hpost hAe
  have hx := E.1.1
  have hb := E.1.2.1
  have hown := E.1.2.2.2.1
  have hts := E.1.2.2.2.2
  generalize hZ : (MQ below (xPost g ([] : va_W) ([] : va_W) s.heap.size (some (.int out))) [.long a0, .long a1, .int a2, .int a3].toArray s 0 0 A) = ZZ
  have hret : ∀ (pc : Nat) (H : Heap) (locs : List Loc) (ls : Array Slot) (v : Int32), v = out → decode cX0_digit pc = .ok (.ireturn, 1) → xW g A s.heap ([] : va_W) H locs → W p l e { frames := 1, cells := 0, slots := 0, locals := 28 } s m [.long a0, .long a1, .int a2, .int a3].toArray below meth c H locs 0 0 ZZ (F0 m pc ls [.int v]) := by
    intro pc H locs ls v he hd hw
    subst he
    rw [← hZ]
    exact W.iret hx hb hr (hpost H locs hw).1 (hpost H locs hw).2 hd hlocks
  clear hpost
  refine lv_lload_n hx hb dX0_digit_0 rfl (lv_at hl 0 rfl) ?_
  refine lv_lload_n hx hb dX0_digit_1 rfl (lv_at hl 1 rfl) ?_
  refine lv_iload hx hb dX0_digit_2 (lv_at hl 2 rfl) ?_
  refine lv_iload hx hb dX0_digit_4 (lv_at hl 3 rfl) ?_
  obtain ⟨v6, hv6, hf⟩ := ob_e hf
  refine xcallS (ws' := ([] : va_W)) (st1 := [.long v6]) (n := 0) E hw [.long a0, .long a1, .int a2, .int a3] [] (met_X0_restAfter l g a0 a1 a2 a3 v6 hv6) rfl (by decide) rfl rfl [] rfl (by decide +kernel) rfl qw383 k_X0_restAfter ⟨rfl, rfl, Nat.le_of_ble_eq_true rfl, Nat.le_of_ble_eq_true rfl⟩ ⟨Nat.zero_le _, Nat.zero_le _⟩ hl.1 (Nat.le_of_ble_eq_true rfl) dX0_digit_6 rfl (fun H locs hw => ?_)
  refine lv_lstore (lv' := [(6, .long v6), (0, .long a0), (2, .long a1), (4, .int a2), (5, .int a3)]) hx hb dX0_digit_9 hl (by decide) rfl (fun ls hl => ?_)
  refine lv_lload hx hb dX0_digit_11 (lv_at hl 0 rfl) ?_
  refine lv_iload hx hb dX0_digit_13 (lv_at hl 3 rfl) ?_
  refine lv_i2l hx hb dX0_digit_15 rfl ?_
  refine lv_lmul hx hb dX0_digit_16 ?_
  refine lv_lload_n hx hb dX0_digit_17 rfl (lv_at hl 2 rfl) ?_
  obtain ⟨v18, hv18, hf⟩ := ob_e hf
  refine xcallS (ws' := ([] : va_W)) (st1 := [.long v18]) (n := 0) E hw [.long (v6 * a2.toInt64), .long a1] [] (met_X5_quotient l g (v6 * a2.toInt64) a1 v18 hv18) rfl (by decide) rfl rfl [] rfl (by decide +kernel) rfl qw375 k_X5_quotient ⟨rfl, rfl, Nat.le_of_ble_eq_true rfl, Nat.le_of_ble_eq_true rfl⟩ ⟨Nat.zero_le _, Nat.zero_le _⟩ hl.1 (Nat.le_of_ble_eq_true rfl) dX0_digit_18 rfl (fun H locs hw => ?_)
  refine lv_l2i hx hb dX0_digit_21 rfl ?_
  exact hret _ _ _ _ _ (Option.some.inj hf) dX0_digit_22 hw
theorem k_X0_digitOn : xKS yX0_digitOn cX0_digitOn 3 (some .long) 2 := ⟨qw370, qw27, qw371, by decide +kernel, by decide +kernel, by decide +kernel⟩
set_option maxHeartbeats 4000000 in
set_option maxRecDepth 100000 in
theorem met_X0_digitOn (l : Launch) (g : xG) (a0 : Int64) (a1 : Int32) (out : Int64) (hf : f_X0_digitOn a0 a1 = some out) : xM l yX0_digitOn (xC yX0_digitOn cX0_digitOn 3 (some .long)) { frames := 1, cells := 0, slots := 0, locals := 30 } g ([] : va_W) [.long a0, .int a1] (some (.long out)) ([] : va_W) := by
  refine xof (by decide) (Nat.le_of_ble_eq_true rfl) ⟨rfl, rfl⟩ ?_
  intro p e s m below meth c A ls E hr hlocks hw hl hpost hAe
  have hx := E.1.1
  have hb := E.1.2.1
  have hown := E.1.2.2.2.1
  have hts := E.1.2.2.2.2
  generalize hZ : (MQ below (xPost g ([] : va_W) ([] : va_W) s.heap.size (some (.long out))) [.long a0, .int a1].toArray s 0 0 A) = ZZ
  have hret : ∀ (pc : Nat) (H : Heap) (locs : List Loc) (ls : Array Slot) (v : Int64), v = out → decode cX0_digitOn pc = .ok (.lreturn, 1) → xW g A s.heap ([] : va_W) H locs → W p l e { frames := 1, cells := 0, slots := 0, locals := 30 } s m [.long a0, .int a1].toArray below meth c H locs 0 0 ZZ (F0 m pc ls [.long v]) := by
    intro pc H locs ls v he hd hw
    subst he
    rw [← hZ]
    exact W.lret hx hb hr (hpost H locs hw).1 (hpost H locs hw).2 hd hlocks
  clear hpost
  refine lv_lload_n hx hb dX0_digitOn_0 rfl (lv_at hl 0 rfl) ?_
  refine lv_lload_n hx hb dX0_digitOn_1 rfl (lv_at hl 0 rfl) ?_
  refine lv_iload_n hx hb dX0_digitOn_2 rfl (lv_at hl 1 rfl) ?_
  refine lv_i2l hx hb dX0_digitOn_3 rfl ?_
  obtain ⟨v4, hv4, hf⟩ := ob_e hf
  refine xcallS (ws' := ([] : va_W)) (st1 := [.long v4, .long a0]) (n := 0) E hw [.long a0, .long a1.toInt64] [] (met_X5_greatestCommon l g a0 a1.toInt64 v4 hv4) rfl (by decide) rfl rfl [] rfl (by decide +kernel) rfl qw372 k_X5_greatestCommon ⟨rfl, rfl, Nat.le_of_ble_eq_true rfl, Nat.le_of_ble_eq_true rfl⟩ ⟨Nat.zero_le _, Nat.zero_le _⟩ hl.1 (Nat.le_of_ble_eq_true rfl) dX0_digitOn_4 rfl (fun H locs hw => ?_)
  obtain ⟨v7, hv7, hf⟩ := ob_e hf
  refine xcallS (ws' := ([] : va_W)) (st1 := [.long v7]) (n := 0) E hw [.long a0, .long v4] [] (met_X5_quotient l g a0 v4 v7 hv7) rfl (by decide) rfl rfl [] rfl (by decide +kernel) rfl qw375 k_X5_quotient ⟨rfl, rfl, Nat.le_of_ble_eq_true rfl, Nat.le_of_ble_eq_true rfl⟩ ⟨Nat.zero_le _, Nat.zero_le _⟩ hl.1 (Nat.le_of_ble_eq_true rfl) dX0_digitOn_7 rfl (fun H locs hw => ?_)
  exact hret _ _ _ _ _ (Option.some.inj hf) dX0_digitOn_10 hw
theorem k_X0_head : xKS yX0_head cX0_head 8 (some .int) 2 := ⟨qw367, qw27, qw368, by decide +kernel, by decide +kernel, by decide +kernel⟩
set_option maxHeartbeats 4000000 in
set_option maxRecDepth 100000 in
theorem met_X0_head (l : Launch) (g : xG) (a0 : Int64) (a1 : Int32) (out : Int32) (hf : f_X0_head a0 a1 = some out) : xM l yX0_head (xC yX0_head cX0_head 8 (some .int)) { frames := 2, cells := 0, slots := 0, locals := 52 } g ([] : va_W) [.long a0, .int a1] (some (.int out)) ([] : va_W) := by
  refine xof (by decide) (Nat.le_of_ble_eq_true rfl) ⟨rfl, rfl⟩ ?_
  intro p e s m below meth c A ls E hr hlocks hw hl hpost hAe
  have hx := E.1.1
  have hb := E.1.2.1
  have hown := E.1.2.2.2.1
  have hts := E.1.2.2.2.2
  generalize hZ : (MQ below (xPost g ([] : va_W) ([] : va_W) s.heap.size (some (.int out))) [.long a0, .int a1].toArray s 0 0 A) = ZZ
  have hret : ∀ (pc : Nat) (H : Heap) (locs : List Loc) (ls : Array Slot) (v : Int32), v = out → decode cX0_head pc = .ok (.ireturn, 1) → xW g A s.heap ([] : va_W) H locs → W p l e { frames := 2, cells := 0, slots := 0, locals := 52 } s m [.long a0, .int a1].toArray below meth c H locs 0 0 ZZ (F0 m pc ls [.int v]) := by
    intro pc H locs ls v he hd hw
    subst he
    rw [← hZ]
    exact W.iret hx hb hr (hpost H locs hw).1 (hpost H locs hw).2 hd hlocks
  clear hpost
  have b13 : ∀ n13 : Nat, ∀ (H : Heap) (locs : List Loc) (ls : Array Slot) (x2 : Int32) (x3 : Int32) (x4 : Int64) (x6 : Int64), xW g A s.heap ([] : va_W) H locs → lv_has ls 8 [(2, .int x2), (3, .int x3), (4, .long x4), (6, .long x6)] → f_X0_head_b13 n13 x2 x3 x4 x6 = some out → W p l e { frames := 2, cells := 0, slots := 0, locals := 52 } s m [.long a0, .int a1].toArray below meth c H locs 0 0 ZZ (F0 m 13 ls []) := by
    intro n13
    induction n13 with
    | zero =>
      intro H locs ls x2 x3 x4 x6 hw hl hf
      exact nn hf
    | succ n13 ih13 =>
      intro H locs ls x2 x3 x4 x6 hw hl hf
      refine lv_lload hx hb dX0_head_13 (lv_at hl 3 rfl) ?_
      refine lv_lload hx hb dX0_head_15 (lv_at hl 2 rfl) ?_
      refine xlc_eq (tgt := 45) hx hb dX0_head_17 dX0_head_18 (by decide) (fun c17 => ?_) (fun c17 => ?_)
      · replace hf := ip c17 hf
        refine lv_iload_n hx hb dX0_head_45 rfl (lv_at hl 1 rfl) ?_
        exact hret _ _ _ _ _ (Option.some.inj hf) dX0_head_46 hw
      · replace hf := iq c17 hf
        refine lv_iload_n hx hb dX0_head_21 rfl (lv_at hl 1 rfl) ?_
        refine lv_bipush (v := 32) hx hb dX0_head_22 (by decide) ?_
        refine lv_icmp_ge (tgt := 45) hx hb dX0_head_24 (by decide) (fun c24 => ?_) (fun c24 => ?_)
        · replace hf := ip c24 hf
          refine lv_iload_n hx hb dX0_head_45 rfl (lv_at hl 1 rfl) ?_
          exact hret _ _ _ _ _ (Option.some.inj hf) dX0_head_46 hw
        · replace hf := iq c24 hf
          refine lv_lload hx hb dX0_head_27 (lv_at hl 3 rfl) ?_
          refine lv_lstore (lv' := [(4, .long x6), (2, .int x2), (3, .int x3), (6, .long x6)]) hx hb dX0_head_29 hl (by decide) rfl (fun ls hl => ?_)
          refine lv_lload hx hb dX0_head_31 (lv_at hl 0 rfl) ?_
          refine lv_iload_n hx hb dX0_head_33 rfl (lv_at hl 1 rfl) ?_
          obtain ⟨v34, hv34, hf⟩ := ob_e hf
          refine xcallS (ws' := ([] : va_W)) (st1 := [.long v34]) (n := 0) E hw [.long x6, .int x2] [] (met_X0_digitOn l g x6 x2 v34 hv34) rfl (by decide) rfl rfl [] rfl (by decide +kernel) rfl qw369 k_X0_digitOn ⟨rfl, rfl, Nat.le_of_ble_eq_true rfl, Nat.le_of_ble_eq_true rfl⟩ ⟨Nat.zero_le _, Nat.zero_le _⟩ hl.1 (Nat.le_of_ble_eq_true rfl) dX0_head_34 rfl (fun H locs hw => ?_)
          refine lv_lstore (lv' := [(6, .long v34), (4, .long x6), (2, .int x2), (3, .int x3)]) hx hb dX0_head_37 hl (by decide) rfl (fun ls hl => ?_)
          refine lv_iinc (v := x3 + 1) (lv' := [(3, .int (x3 + 1)), (6, .long v34), (4, .long x6), (2, .int x2)]) hx hb dX0_head_39 hl (k := 3) rfl rfl (by decide) rfl (fun ls hl => ?_)
          refine lv_goto (tgt := 13) hx hb dX0_head_42 (by decide) ?_
          exact ih13 _ _ _ x2 (x3 + 1) x6 v34 hw (lv_sub hl [3, 0, 2, 1] rfl) hf
  refine lv_iconst (v := 0) hx hb dX0_head_0 (by decide) ?_
  refine lv_istore_n (lv' := [(3, .int 0), (0, .long a0), (2, .int a1)]) hx hb dX0_head_1 rfl hl (by decide) rfl (fun ls hl => ?_)
  refine lv_lload_n hx hb dX0_head_2 rfl (lv_at hl 1 rfl) ?_
  refine lv_lstore (lv' := [(4, .long a0), (3, .int 0), (0, .long a0), (2, .int a1)]) hx hb dX0_head_3 hl (by decide) rfl (fun ls hl => ?_)
  refine lv_lload hx hb dX0_head_5 (lv_at hl 0 rfl) ?_
  refine lv_iload_n hx hb dX0_head_7 rfl (lv_at hl 3 rfl) ?_
  obtain ⟨v8, hv8, hf⟩ := ob_e hf
  refine xcallS (ws' := ([] : va_W)) (st1 := [.long v8]) (n := 0) E hw [.long a0, .int a1] [] (met_X0_digitOn l g a0 a1 v8 hv8) rfl (by decide) rfl rfl [] rfl (by decide +kernel) rfl qw369 k_X0_digitOn ⟨rfl, rfl, Nat.le_of_ble_eq_true rfl, Nat.le_of_ble_eq_true rfl⟩ ⟨Nat.zero_le _, Nat.zero_le _⟩ hl.1 (Nat.le_of_ble_eq_true rfl) dX0_head_8 rfl (fun H locs hw => ?_)
  refine lv_lstore (lv' := [(6, .long v8), (4, .long a0), (3, .int 0), (0, .long a0), (2, .int a1)]) hx hb dX0_head_11 hl (by decide) rfl (fun ls hl => ?_)
  exact b13 xfuel _ _ _ a1 0 a0 v8 hw (lv_sub hl [4, 2, 1, 0] rfl) hf
theorem k_X0_coprimePart : xKS yX0_coprimePart cX0_coprimePart 6 (some .long) 2 := ⟨qw619, qw27, qw620, by decide +kernel, by decide +kernel, by decide +kernel⟩
set_option maxHeartbeats 4000000 in
set_option maxRecDepth 100000 in
theorem met_X0_coprimePart (l : Launch) (g : xG) (a0 : Int64) (a1 : Int32) (out : Int64) (hf : f_X0_coprimePart a0 a1 = some out) : xM l yX0_coprimePart (xC yX0_coprimePart cX0_coprimePart 6 (some .long)) { frames := 3, cells := 0, slots := 0, locals := 79 } g ([] : va_W) [.long a0, .int a1] (some (.long out)) ([] : va_W) := by
  refine xof (by decide) (Nat.le_of_ble_eq_true rfl) ⟨rfl, rfl⟩ ?_
  intro p e s m below meth c A ls E hr hlocks hw hl hpost hAe
  have hx := E.1.1
  have hb := E.1.2.1
  have hown := E.1.2.2.2.1
  have hts := E.1.2.2.2.2
  generalize hZ : (MQ below (xPost g ([] : va_W) ([] : va_W) s.heap.size (some (.long out))) [.long a0, .int a1].toArray s 0 0 A) = ZZ
  have hret : ∀ (pc : Nat) (H : Heap) (locs : List Loc) (ls : Array Slot) (v : Int64), v = out → decode cX0_coprimePart pc = .ok (.lreturn, 1) → xW g A s.heap ([] : va_W) H locs → W p l e { frames := 3, cells := 0, slots := 0, locals := 79 } s m [.long a0, .int a1].toArray below meth c H locs 0 0 ZZ (F0 m pc ls [.long v]) := by
    intro pc H locs ls v he hd hw
    subst he
    rw [← hZ]
    exact W.lret hx hb hr (hpost H locs hw).1 (hpost H locs hw).2 hd hlocks
  clear hpost
  have b9 : ∀ n9 : Nat, ∀ (H : Heap) (locs : List Loc) (ls : Array Slot) (x2 : Int32) (x3 : Int64) (x5 : Int32), xW g A s.heap ([] : va_W) H locs → lv_has ls 6 [(2, .int x2), (3, .long x3), (5, .int x5)] → f_X0_coprimePart_b9 n9 x2 x3 x5 = some out → W p l e { frames := 3, cells := 0, slots := 0, locals := 79 } s m [.long a0, .int a1].toArray below meth c H locs 0 0 ZZ (F0 m 9 ls []) := by
    intro n9
    induction n9 with
    | zero =>
      intro H locs ls x2 x3 x5 hw hl hf
      exact nn hf
    | succ n9 ih9 =>
      intro H locs ls x2 x3 x5 hw hl hf
      refine lv_iload hx hb dX0_coprimePart_9 (lv_at hl 2 rfl) ?_
      refine lv_if_le (tgt := 26) hx hb dX0_coprimePart_11 (by decide) (fun c11 => ?_) (fun c11 => ?_)
      · replace hf := ip c11 hf
        refine lv_lload_n hx hb dX0_coprimePart_26 rfl (lv_at hl 1 rfl) ?_
        exact hret _ _ _ _ _ (Option.some.inj hf) dX0_coprimePart_27 hw
      · replace hf := iq c11 hf
        refine lv_lload_n hx hb dX0_coprimePart_14 rfl (lv_at hl 1 rfl) ?_
        refine lv_iload_n hx hb dX0_coprimePart_15 rfl (lv_at hl 0 rfl) ?_
        obtain ⟨v16, hv16, hf⟩ := ob_e hf
        refine xcallS (ws' := ([] : va_W)) (st1 := [.long v16]) (n := 0) E hw [.long x3, .int x2] [] (met_X0_digitOn l g x3 x2 v16 hv16) rfl (by decide) rfl rfl [] rfl (by decide +kernel) rfl qw369 k_X0_digitOn ⟨rfl, rfl, Nat.le_of_ble_eq_true rfl, Nat.le_of_ble_eq_true rfl⟩ ⟨Nat.zero_le _, Nat.zero_le _⟩ hl.1 (Nat.le_of_ble_eq_true rfl) dX0_coprimePart_16 rfl (fun H locs hw => ?_)
        refine lv_lstore_n (lv' := [(3, .long v16), (2, .int x2), (5, .int x5)]) hx hb dX0_coprimePart_19 rfl hl (by decide) rfl (fun ls hl => ?_)
        refine lv_iinc (v := x5 + (-1)) (lv' := [(5, .int (x5 + (-1))), (3, .long v16), (2, .int x2)]) hx hb dX0_coprimePart_20 hl (k := 2) rfl rfl (by decide) rfl (fun ls hl => ?_)
        refine lv_goto (tgt := 9) hx hb dX0_coprimePart_23 (by decide) ?_
        exact ih9 _ _ _ x2 v16 (x5 + (-1)) hw (lv_sub hl [2, 1, 0] rfl) hf
  refine lv_lload_n hx hb dX0_coprimePart_0 rfl (lv_at hl 0 rfl) ?_
  refine lv_lstore_n (lv' := [(3, .long a0), (0, .long a0), (2, .int a1)]) hx hb dX0_coprimePart_1 rfl hl (by decide) rfl (fun ls hl => ?_)
  refine lv_lload_n hx hb dX0_coprimePart_2 rfl (lv_at hl 1 rfl) ?_
  refine lv_iload_n hx hb dX0_coprimePart_3 rfl (lv_at hl 2 rfl) ?_
  obtain ⟨v4, hv4, hf⟩ := ob_e hf
  refine xcallS (ws' := ([] : va_W)) (st1 := [.int v4]) (n := 0) E hw [.long a0, .int a1] [] (met_X0_head l g a0 a1 v4 hv4) rfl (by decide) rfl rfl [] rfl (by decide +kernel) rfl qw621 k_X0_head ⟨rfl, rfl, Nat.le_of_ble_eq_true rfl, Nat.le_of_ble_eq_true rfl⟩ ⟨Nat.zero_le _, Nat.zero_le _⟩ hl.1 (Nat.le_of_ble_eq_true rfl) dX0_coprimePart_4 rfl (fun H locs hw => ?_)
  refine lv_istore (lv' := [(5, .int v4), (3, .long a0), (0, .long a0), (2, .int a1)]) hx hb dX0_coprimePart_7 hl (by decide) rfl (fun ls hl => ?_)
  exact b9 xfuel _ _ _ a1 a0 v4 hw (lv_sub hl [3, 1, 0] rfl) hf
theorem k_X0_periodByDividing : xKS yX0_periodByDividing cX0_periodByDividing 11 (some .int) 4 := ⟨qw381, qw27, qw382, by decide +kernel, by decide +kernel, by decide +kernel⟩
set_option maxHeartbeats 4000000 in
set_option maxRecDepth 100000 in
theorem met_X0_periodByDividing (l : Launch) (g : xG) (a0 : Int64) (a1 : Int64) (a2 : Int32) (a3 : Int32) (out : Int32) (hf : f_X0_periodByDividing a0 a1 a2 a3 = some out) : xM l yX0_periodByDividing (xC yX0_periodByDividing cX0_periodByDividing 11 (some .int)) { frames := 1, cells := 0, slots := 0, locals := 28 } g ([] : va_W) [.long a0, .long a1, .int a2, .int a3] (some (.int out)) ([] : va_W) := by
  refine xof (by decide) (Nat.le_of_ble_eq_true rfl) ⟨rfl, rfl⟩ ?_
  intro p e s m below meth c A ls E hr hlocks hw hl hpost hAe
  have hx := E.1.1
  have hb := E.1.2.1
  have hown := E.1.2.2.2.1
  have hts := E.1.2.2.2.2
  generalize hZ : (MQ below (xPost g ([] : va_W) ([] : va_W) s.heap.size (some (.int out))) [.long a0, .long a1, .int a2, .int a3].toArray s 0 0 A) = ZZ
  have hret : ∀ (pc : Nat) (H : Heap) (locs : List Loc) (ls : Array Slot) (v : Int32), v = out → decode cX0_periodByDividing pc = .ok (.ireturn, 1) → xW g A s.heap ([] : va_W) H locs → W p l e { frames := 1, cells := 0, slots := 0, locals := 28 } s m [.long a0, .long a1, .int a2, .int a3].toArray below meth c H locs 0 0 ZZ (F0 m pc ls [.int v]) := by
    intro pc H locs ls v he hd hw
    subst he
    rw [← hZ]
    exact W.iret hx hb hr (hpost H locs hw).1 (hpost H locs hw).2 hd hlocks
  clear hpost
  have b34 : ∀ n34 : Nat, ∀ (H : Heap) (locs : List Loc) (ls : Array Slot) (x2 : Int64) (x4 : Int32) (x6 : Int64) (x8 : Int32) (x9 : Int64), xW g A s.heap ([] : va_W) H locs → lv_has ls 11 [(2, .long x2), (4, .int x4), (6, .long x6), (8, .int x8), (9, .long x9)] → f_X0_periodByDividing_b34 n34 x2 x4 x6 x8 x9 = some out → W p l e { frames := 1, cells := 0, slots := 0, locals := 28 } s m [.long a0, .long a1, .int a2, .int a3].toArray below meth c H locs 0 0 ZZ (F0 m 34 ls []) := by
    intro n34
    induction n34 with
    | zero =>
      intro H locs ls x2 x4 x6 x8 x9 hw hl hf
      exact nn hf
    | succ n34 ih34 =>
      intro H locs ls x2 x4 x6 x8 x9 hw hl hf
      refine lv_lload hx hb dX0_periodByDividing_34 (lv_at hl 4 rfl) ?_
      refine lv_lload hx hb dX0_periodByDividing_36 (lv_at hl 2 rfl) ?_
      refine xlc_eq (tgt := 67) hx hb dX0_periodByDividing_38 dX0_periodByDividing_39 (by decide) (fun c38 => ?_) (fun c38 => ?_)
      · replace hf := ip c38 hf
        refine lv_iload hx hb dX0_periodByDividing_67 (lv_at hl 3 rfl) ?_
        exact hret _ _ _ _ _ (Option.some.inj hf) dX0_periodByDividing_69 hw
      · replace hf := iq c38 hf
        refine lv_iload hx hb dX0_periodByDividing_42 (lv_at hl 3 rfl) ?_
        refine lv_i2l hx hb dX0_periodByDividing_44 rfl ?_
        refine lv_lload_n hx hb dX0_periodByDividing_45 rfl (lv_at hl 0 rfl) ?_
        refine xlc_ge (tgt := 67) hx hb dX0_periodByDividing_46 dX0_periodByDividing_47 (by decide) (fun c46 => ?_) (fun c46 => ?_)
        · replace hf := iq c46 hf
          refine lv_iload hx hb dX0_periodByDividing_67 (lv_at hl 3 rfl) ?_
          exact hret _ _ _ _ _ (Option.some.inj hf) dX0_periodByDividing_69 hw
        · replace hf := ip c46 hf
          refine lv_lload hx hb dX0_periodByDividing_50 (lv_at hl 4 rfl) ?_
          refine lv_lload_n hx hb dX0_periodByDividing_52 rfl (lv_at hl 0 rfl) ?_
          refine lv_iload hx hb dX0_periodByDividing_53 (lv_at hl 1 rfl) ?_
          refine lv_iconst (v := 1) hx hb dX0_periodByDividing_55 (by decide) ?_
          obtain ⟨v56, hv56, hf⟩ := ob_e hf
          refine xcallS (ws' := ([] : va_W)) (st1 := [.long v56]) (n := 0) E hw [.long x9, .long x2, .int x4, .int 1] [] (met_X0_restAfter l g x9 x2 x4 1 v56 hv56) rfl (by decide) rfl rfl [] rfl (by decide +kernel) rfl qw383 k_X0_restAfter ⟨rfl, rfl, Nat.le_of_ble_eq_true rfl, Nat.le_of_ble_eq_true rfl⟩ ⟨Nat.zero_le _, Nat.zero_le _⟩ hl.1 (Nat.le_of_ble_eq_true rfl) dX0_periodByDividing_56 rfl (fun H locs hw => ?_)
          refine lv_lstore (lv' := [(9, .long v56), (2, .long x2), (4, .int x4), (6, .long x6), (8, .int x8)]) hx hb dX0_periodByDividing_59 hl (by decide) rfl (fun ls hl => ?_)
          refine lv_iinc (v := x8 + 1) (lv' := [(8, .int (x8 + 1)), (9, .long v56), (2, .long x2), (4, .int x4), (6, .long x6)]) hx hb dX0_periodByDividing_61 hl (k := 4) rfl rfl (by decide) rfl (fun ls hl => ?_)
          refine lv_goto (tgt := 34) hx hb dX0_periodByDividing_64 (by decide) ?_
          exact ih34 _ _ _ x2 x4 x6 (x8 + 1) v56 hw (lv_sub hl [2, 3, 4, 0, 1] rfl) hf
  refine lv_lload_n hx hb dX0_periodByDividing_0 rfl (lv_at hl 0 rfl) ?_
  refine lv_lload_n hx hb dX0_periodByDividing_1 rfl (lv_at hl 1 rfl) ?_
  refine lv_iload hx hb dX0_periodByDividing_2 (lv_at hl 2 rfl) ?_
  refine lv_iload hx hb dX0_periodByDividing_4 (lv_at hl 3 rfl) ?_
  obtain ⟨v6, hv6, hf⟩ := ob_e hf
  refine xcallS (ws' := ([] : va_W)) (st1 := [.long v6]) (n := 0) E hw [.long a0, .long a1, .int a2, .int a3] [] (met_X0_restAfter l g a0 a1 a2 a3 v6 hv6) rfl (by decide) rfl rfl [] rfl (by decide +kernel) rfl qw383 k_X0_restAfter ⟨rfl, rfl, Nat.le_of_ble_eq_true rfl, Nat.le_of_ble_eq_true rfl⟩ ⟨Nat.zero_le _, Nat.zero_le _⟩ hl.1 (Nat.le_of_ble_eq_true rfl) dX0_periodByDividing_6 rfl (fun H locs hw => ?_)
  refine lv_lstore (lv' := [(6, .long v6), (0, .long a0), (2, .long a1), (4, .int a2), (5, .int a3)]) hx hb dX0_periodByDividing_9 hl (by decide) rfl (fun ls hl => ?_)
  refine lv_lload hx hb dX0_periodByDividing_11 (lv_at hl 0 rfl) ?_
  refine lv_lconst (v := 0) hx hb dX0_periodByDividing_13 (by decide) ?_
  refine xlc_ne (tgt := 20) hx hb dX0_periodByDividing_14 dX0_periodByDividing_15 (by decide) (fun c14 => ?_) (fun c14 => ?_)
  · replace hf := iq c14 hf
    refine lv_iconst (v := 1) hx hb dX0_periodByDividing_20 (by decide) ?_
    refine lv_istore (lv' := [(8, .int 1), (6, .long v6), (0, .long a0), (2, .long a1), (4, .int a2), (5, .int a3)]) hx hb dX0_periodByDividing_21 hl (by decide) rfl (fun ls hl => ?_)
    refine lv_lload hx hb dX0_periodByDividing_23 (lv_at hl 1 rfl) ?_
    refine lv_lload_n hx hb dX0_periodByDividing_25 rfl (lv_at hl 3 rfl) ?_
    refine lv_iload hx hb dX0_periodByDividing_26 (lv_at hl 4 rfl) ?_
    refine lv_iconst (v := 1) hx hb dX0_periodByDividing_28 (by decide) ?_
    obtain ⟨v29, hv29, hf⟩ := ob_e hf
    refine xcallS (ws' := ([] : va_W)) (st1 := [.long v29]) (n := 0) E hw [.long v6, .long a1, .int a2, .int 1] [] (met_X0_restAfter l g v6 a1 a2 1 v29 hv29) rfl (by decide) rfl rfl [] rfl (by decide +kernel) rfl qw383 k_X0_restAfter ⟨rfl, rfl, Nat.le_of_ble_eq_true rfl, Nat.le_of_ble_eq_true rfl⟩ ⟨Nat.zero_le _, Nat.zero_le _⟩ hl.1 (Nat.le_of_ble_eq_true rfl) dX0_periodByDividing_29 rfl (fun H locs hw => ?_)
    refine lv_lstore (lv' := [(9, .long v29), (8, .int 1), (6, .long v6), (0, .long a0), (2, .long a1), (4, .int a2), (5, .int a3)]) hx hb dX0_periodByDividing_32 hl (by decide) rfl (fun ls hl => ?_)
    exact b34 xfuel _ _ _ a1 a2 v6 1 v29 hw (lv_sub hl [4, 5, 2, 1, 0] rfl) hf
  · replace hf := ip c14 hf
    refine lv_iconst (v := 0) hx hb dX0_periodByDividing_18 (by decide) ?_
    exact hret _ _ _ _ _ (Option.some.inj hf) dX0_periodByDividing_19 hw
theorem k_X0_timesToOne : xKS yX0_timesToOne cX0_timesToOne 7 (some .int) 3 := ⟨qw623, qw27, qw624, by decide +kernel, by decide +kernel, by decide +kernel⟩
set_option maxHeartbeats 4000000 in
set_option maxRecDepth 100000 in
theorem met_X0_timesToOne (l : Launch) (g : xG) (a0 : Int32) (a1 : Int64) (a2 : Int32) (out : Int32) (hf : f_X0_timesToOne a0 a1 a2 = some out) : xM l yX0_timesToOne (xC yX0_timesToOne cX0_timesToOne 7 (some .int)) { frames := 0, cells := 0, slots := 0, locals := 0 } g ([] : va_W) [.int a0, .long a1, .int a2] (some (.int out)) ([] : va_W) := by
  refine xof (by decide) (Nat.le_of_ble_eq_true rfl) ⟨rfl, rfl⟩ ?_
  intro p e s m below meth c A ls E hr hlocks hw hl hpost hAe
  have hx := E.1.1
  have hb := E.1.2.1
  have hown := E.1.2.2.2.1
  have hts := E.1.2.2.2.2
  generalize hZ : (MQ below (xPost g ([] : va_W) ([] : va_W) s.heap.size (some (.int out))) [.int a0, .long a1, .int a2].toArray s 0 0 A) = ZZ
  have hret : ∀ (pc : Nat) (H : Heap) (locs : List Loc) (ls : Array Slot) (v : Int32), v = out → decode cX0_timesToOne pc = .ok (.ireturn, 1) → xW g A s.heap ([] : va_W) H locs → W p l e { frames := 0, cells := 0, slots := 0, locals := 0 } s m [.int a0, .long a1, .int a2].toArray below meth c H locs 0 0 ZZ (F0 m pc ls [.int v]) := by
    intro pc H locs ls v he hd hw
    subst he
    rw [← hZ]
    exact W.iret hx hb hr (hpost H locs hw).1 (hpost H locs hw).2 hd hlocks
  clear hpost
  have b17 : ∀ n17 : Nat, ∀ (H : Heap) (locs : List Loc) (ls : Array Slot) (x0 : Int32) (x1 : Int64) (x3 : Int32) (x4 : Int64) (x6 : Int32), xW g A s.heap ([] : va_W) H locs → lv_has ls 7 [(0, .int x0), (1, .long x1), (3, .int x3), (4, .long x4), (6, .int x6)] → f_X0_timesToOne_b17 n17 x0 x1 x3 x4 x6 = some out → W p l e { frames := 0, cells := 0, slots := 0, locals := 0 } s m [.int a0, .long a1, .int a2].toArray below meth c H locs 0 0 ZZ (F0 m 17 ls []) := by
    intro n17
    induction n17 with
    | zero =>
      intro H locs ls x0 x1 x3 x4 x6 hw hl hf
      exact nn hf
    | succ n17 ih17 =>
      intro H locs ls x0 x1 x3 x4 x6 hw hl hf
      refine lv_lload hx hb dX0_timesToOne_17 (lv_at hl 3 rfl) ?_
      refine lv_lconst (v := 1) hx hb dX0_timesToOne_19 (by decide) ?_
      refine xlc_eq (tgt := 45) hx hb dX0_timesToOne_20 dX0_timesToOne_21 (by decide) (fun c20 => ?_) (fun c20 => ?_)
      · replace hf := ip c20 hf
        refine lv_iload hx hb dX0_timesToOne_45 (lv_at hl 4 rfl) ?_
        exact hret _ _ _ _ _ (Option.some.inj hf) dX0_timesToOne_47 hw
      · replace hf := iq c20 hf
        refine lv_iload hx hb dX0_timesToOne_24 (lv_at hl 4 rfl) ?_
        refine lv_iload_n hx hb dX0_timesToOne_26 rfl (lv_at hl 2 rfl) ?_
        refine lv_icmp_ge (tgt := 45) hx hb dX0_timesToOne_27 (by decide) (fun c27 => ?_) (fun c27 => ?_)
        · replace hf := ip c27 hf
          refine lv_iload hx hb dX0_timesToOne_45 (lv_at hl 4 rfl) ?_
          exact hret _ _ _ _ _ (Option.some.inj hf) dX0_timesToOne_47 hw
        · replace hf := iq c27 hf
          refine lv_lload hx hb dX0_timesToOne_30 (lv_at hl 3 rfl) ?_
          refine lv_iload_n hx hb dX0_timesToOne_32 rfl (lv_at hl 0 rfl) ?_
          refine lv_i2l hx hb dX0_timesToOne_33 rfl ?_
          refine lv_lmul hx hb dX0_timesToOne_34 ?_
          refine lv_lload_n hx hb dX0_timesToOne_35 rfl (lv_at hl 1 rfl) ?_
          obtain ⟨hz, hf⟩ := nz hf
          refine lv_lrem hx hb dX0_timesToOne_36 hz ?_
          refine lv_lstore (lv' := [(4, .long ((x4 * x0.toInt64) - (x4 * x0.toInt64) / x1 * x1)), (0, .int x0), (1, .long x1), (3, .int x3), (6, .int x6)]) hx hb dX0_timesToOne_37 hl (by decide) rfl (fun ls hl => ?_)
          refine lv_iinc (v := x6 + 1) (lv' := [(6, .int (x6 + 1)), (4, .long ((x4 * x0.toInt64) - (x4 * x0.toInt64) / x1 * x1)), (0, .int x0), (1, .long x1), (3, .int x3)]) hx hb dX0_timesToOne_39 hl (k := 4) rfl rfl (by decide) rfl (fun ls hl => ?_)
          refine lv_goto (tgt := 17) hx hb dX0_timesToOne_42 (by decide) ?_
          exact ih17 _ _ _ x0 x1 x3 ((x4 * x0.toInt64) - (x4 * x0.toInt64) / x1 * x1) (x6 + 1) hw (lv_sub hl [2, 3, 4, 1, 0] rfl) hf
  refine lv_lload_n hx hb dX0_timesToOne_0 rfl (lv_at hl 1 rfl) ?_
  refine lv_lconst (v := 1) hx hb dX0_timesToOne_1 (by decide) ?_
  refine xlc_gt (tgt := 8) hx hb dX0_timesToOne_2 dX0_timesToOne_3 (by decide) (fun c2 => ?_) (fun c2 => ?_)
  · replace hf := ip c2 hf
    refine lv_iload_n hx hb dX0_timesToOne_8 rfl (lv_at hl 0 rfl) ?_
    refine lv_i2l hx hb dX0_timesToOne_9 rfl ?_
    refine lv_lload_n hx hb dX0_timesToOne_10 rfl (lv_at hl 1 rfl) ?_
    obtain ⟨hz, hf⟩ := nz hf
    refine lv_lrem hx hb dX0_timesToOne_11 hz ?_
    refine lv_lstore (lv' := [(4, .long (a0.toInt64 - a0.toInt64 / a1 * a1)), (0, .int a0), (1, .long a1), (3, .int a2)]) hx hb dX0_timesToOne_12 hl (by decide) rfl (fun ls hl => ?_)
    refine lv_iconst (v := 1) hx hb dX0_timesToOne_14 (by decide) ?_
    refine lv_istore (lv' := [(6, .int 1), (4, .long (a0.toInt64 - a0.toInt64 / a1 * a1)), (0, .int a0), (1, .long a1), (3, .int a2)]) hx hb dX0_timesToOne_15 hl (by decide) rfl (fun ls hl => ?_)
    exact b17 xfuel _ _ _ a0 a1 a2 (a0.toInt64 - a0.toInt64 / a1 * a1) 1 hw (lv_sub hl [2, 3, 4, 1, 0] rfl) hf
  · replace hf := iq c2 hf
    refine lv_iconst (v := 0) hx hb dX0_timesToOne_6 (by decide) ?_
    exact hret _ _ _ _ _ (Option.some.inj hf) dX0_timesToOne_7 hw
theorem k_X9_count : xKS yX9_count cX9_count 5 (some .int) 2 := ⟨qw353, qw25, qw354, by decide +kernel, by decide +kernel, by decide +kernel⟩
set_option maxHeartbeats 4000000 in
set_option maxRecDepth 100000 in
theorem met_X9_count (l : Launch) (g : xG) (a0 : Int32) (a1 : Int32) (out : Int32) (hf : f_X9_count a0 a1 = some out) : xM l yX9_count (xC yX9_count cX9_count 5 (some .int)) { frames := 1, cells := 0, slots := 0, locals := 23 } g ([] : va_W) [.int a0, .int a1] (some (.int out)) ([] : va_W) := by
  refine xof (by decide) (Nat.le_of_ble_eq_true rfl) ⟨rfl, rfl⟩ ?_
  intro p e s m below meth c A ls E hr hlocks hw hl hpost hAe
  have hx := E.1.1
  have hb := E.1.2.1
  have hown := E.1.2.2.2.1
  have hts := E.1.2.2.2.2
  generalize hZ : (MQ below (xPost g ([] : va_W) ([] : va_W) s.heap.size (some (.int out))) [.int a0, .int a1].toArray s 0 0 A) = ZZ
  have hret : ∀ (pc : Nat) (H : Heap) (locs : List Loc) (ls : Array Slot) (v : Int32), v = out → decode cX9_count pc = .ok (.ireturn, 1) → xW g A s.heap ([] : va_W) H locs → W p l e { frames := 1, cells := 0, slots := 0, locals := 23 } s m [.int a0, .int a1].toArray below meth c H locs 0 0 ZZ (F0 m pc ls [.int v]) := by
    intro pc H locs ls v he hd hw
    subst he
    rw [← hZ]
    exact W.iret hx hb hr (hpost H locs hw).1 (hpost H locs hw).2 hd hlocks
  clear hpost
  have b10 : ∀ n10 : Nat, ∀ (H : Heap) (locs : List Loc) (ls : Array Slot) (x1 : Int32) (x2 : Int32) (x3 : Int64), xW g A s.heap ([] : va_W) H locs → lv_has ls 5 [(1, .int x1), (2, .int x2), (3, .long x3)] → f_X9_count_b10 n10 x1 x2 x3 = some out → W p l e { frames := 1, cells := 0, slots := 0, locals := 23 } s m [.int a0, .int a1].toArray below meth c H locs 0 0 ZZ (F0 m 10 ls []) := by
    intro n10
    induction n10 with
    | zero =>
      intro H locs ls x1 x2 x3 hw hl hf
      exact nn hf
    | succ n10 ih10 =>
      intro H locs ls x1 x2 x3 hw hl hf
      refine lv_lload_n hx hb dX9_count_10 rfl (lv_at hl 2 rfl) ?_
      refine lv_lconst (v := 0) hx hb dX9_count_11 (by decide) ?_
      refine xlc_le (tgt := 35) hx hb dX9_count_12 dX9_count_13 (by decide) (fun c12 => ?_) (fun c12 => ?_)
      · replace hf := iq c12 hf
        refine lv_iload_n hx hb dX9_count_35 rfl (lv_at hl 1 rfl) ?_
        exact hret _ _ _ _ _ (Option.some.inj hf) dX9_count_36 hw
      · replace hf := ip c12 hf
        refine lv_iload_n hx hb dX9_count_16 rfl (lv_at hl 1 rfl) ?_
        refine lv_bipush (v := 30) hx hb dX9_count_17 (by decide) ?_
        refine lv_icmp_ge (tgt := 35) hx hb dX9_count_19 (by decide) (fun c19 => ?_) (fun c19 => ?_)
        · replace hf := ip c19 hf
          refine lv_iload_n hx hb dX9_count_35 rfl (lv_at hl 1 rfl) ?_
          exact hret _ _ _ _ _ (Option.some.inj hf) dX9_count_36 hw
        · replace hf := iq c19 hf
          refine lv_lload_n hx hb dX9_count_22 rfl (lv_at hl 2 rfl) ?_
          refine lv_iload_n hx hb dX9_count_23 rfl (lv_at hl 0 rfl) ?_
          refine lv_i2l hx hb dX9_count_24 rfl ?_
          obtain ⟨v25, hv25, hf⟩ := ob_e hf
          refine xcallS (ws' := ([] : va_W)) (st1 := [.long v25]) (n := 0) E hw [.long x3, .long x1.toInt64] [] (met_X5_quotient l g x3 x1.toInt64 v25 hv25) rfl (by decide) rfl rfl [] rfl (by decide +kernel) rfl qw355 k_X5_quotient ⟨rfl, rfl, Nat.le_of_ble_eq_true rfl, Nat.le_of_ble_eq_true rfl⟩ ⟨Nat.zero_le _, Nat.zero_le _⟩ hl.1 (Nat.le_of_ble_eq_true rfl) dX9_count_25 rfl (fun H locs hw => ?_)
          refine lv_lstore_n (lv' := [(3, .long v25), (1, .int x1), (2, .int x2)]) hx hb dX9_count_28 rfl hl (by decide) rfl (fun ls hl => ?_)
          refine lv_iinc (v := x2 + 1) (lv' := [(2, .int (x2 + 1)), (3, .long v25), (1, .int x1)]) hx hb dX9_count_29 hl (k := 2) rfl rfl (by decide) rfl (fun ls hl => ?_)
          refine lv_goto (tgt := 10) hx hb dX9_count_32 (by decide) ?_
          exact ih10 _ _ _ x1 (x2 + 1) v25 hw (lv_sub hl [2, 0, 1] rfl) hf
  refine lv_iconst (v := 1) hx hb dX9_count_0 (by decide) ?_
  refine lv_istore_n (lv' := [(2, .int 1), (0, .int a0), (1, .int a1)]) hx hb dX9_count_1 rfl hl (by decide) rfl (fun ls hl => ?_)
  refine lv_iload_n hx hb dX9_count_2 rfl (lv_at hl 1 rfl) ?_
  refine lv_i2l hx hb dX9_count_3 rfl ?_
  refine lv_iload_n hx hb dX9_count_4 rfl (lv_at hl 2 rfl) ?_
  refine lv_i2l hx hb dX9_count_5 rfl ?_
  obtain ⟨v6, hv6, hf⟩ := ob_e hf
  refine xcallS (ws' := ([] : va_W)) (st1 := [.long v6]) (n := 0) E hw [.long a0.toInt64, .long a1.toInt64] [] (met_X5_quotient l g a0.toInt64 a1.toInt64 v6 hv6) rfl (by decide) rfl rfl [] rfl (by decide +kernel) rfl qw355 k_X5_quotient ⟨rfl, rfl, Nat.le_of_ble_eq_true rfl, Nat.le_of_ble_eq_true rfl⟩ ⟨Nat.zero_le _, Nat.zero_le _⟩ hl.1 (Nat.le_of_ble_eq_true rfl) dX9_count_6 rfl (fun H locs hw => ?_)
  refine lv_lstore_n (lv' := [(3, .long v6), (2, .int 1), (0, .int a0), (1, .int a1)]) hx hb dX9_count_9 rfl hl (by decide) rfl (fun ls hl => ?_)
  exact b10 xfuel _ _ _ a1 1 v6 hw (lv_sub hl [3, 1, 0] rfl) hf
theorem k_X9_byDividing : xKS yX9_byDividing cX9_byDividing 6 (some .int) 3 := ⟨qw388, qw25, qw389, by decide +kernel, by decide +kernel, by decide +kernel⟩
set_option maxHeartbeats 4000000 in
set_option maxRecDepth 100000 in
theorem met_X9_byDividing (l : Launch) (g : xG) (a0 : Int32) (a1 : Int32) (a2 : Int32) (out : Int32) (hf : f_X9_byDividing a0 a1 a2 = some out) : xM l yX9_byDividing (xC yX9_byDividing cX9_byDividing 6 (some .int)) { frames := 1, cells := 0, slots := 0, locals := 23 } g ([] : va_W) [.int a0, .int a1, .int a2] (some (.int out)) ([] : va_W) := by
  refine xof (by decide) (Nat.le_of_ble_eq_true rfl) ⟨rfl, rfl⟩ ?_
  intro p e s m below meth c A ls E hr hlocks hw hl hpost hAe
  have hx := E.1.1
  have hb := E.1.2.1
  have hown := E.1.2.2.2.1
  have hts := E.1.2.2.2.2
  generalize hZ : (MQ below (xPost g ([] : va_W) ([] : va_W) s.heap.size (some (.int out))) [.int a0, .int a1, .int a2].toArray s 0 0 A) = ZZ
  have hret : ∀ (pc : Nat) (H : Heap) (locs : List Loc) (ls : Array Slot) (v : Int32), v = out → decode cX9_byDividing pc = .ok (.ireturn, 1) → xW g A s.heap ([] : va_W) H locs → W p l e { frames := 1, cells := 0, slots := 0, locals := 23 } s m [.int a0, .int a1, .int a2].toArray below meth c H locs 0 0 ZZ (F0 m pc ls [.int v]) := by
    intro pc H locs ls v he hd hw
    subst he
    rw [← hZ]
    exact W.iret hx hb hr (hpost H locs hw).1 (hpost H locs hw).2 hd hlocks
  clear hpost
  have b32 : ∀ (H : Heap) (locs : List Loc) (ls : Array Slot) (x1 : Int32) (x3 : Int64), xW g A s.heap ([] : va_W) H locs → lv_has ls 6 [(1, .int x1), (3, .long x3)] → f_X9_byDividing_b32 x1 x3 = some out → W p l e { frames := 1, cells := 0, slots := 0, locals := 23 } s m [.int a0, .int a1, .int a2].toArray below meth c H locs 0 0 ZZ (F0 m 32 ls []) := by
    intro H locs ls x1 x3 hw hl hf
    refine lv_lload_n hx hb dX9_byDividing_32 rfl (lv_at hl 1 rfl) ?_
    refine lv_iload_n hx hb dX9_byDividing_33 rfl (lv_at hl 0 rfl) ?_
    refine lv_i2l hx hb dX9_byDividing_34 rfl ?_
    obtain ⟨v35, hv35, hf⟩ := ob_e hf
    refine xcallS (ws' := ([] : va_W)) (st1 := [.long v35]) (n := 0) E hw [.long x3, .long x1.toInt64] [] (met_X5_left l g x3 x1.toInt64 v35 hv35) rfl (by decide) rfl rfl [] rfl (by decide +kernel) rfl qw390 k_X5_left ⟨rfl, rfl, Nat.le_of_ble_eq_true rfl, Nat.le_of_ble_eq_true rfl⟩ ⟨Nat.zero_le _, Nat.zero_le _⟩ hl.1 (Nat.le_of_ble_eq_true rfl) dX9_byDividing_35 rfl (fun H locs hw => ?_)
    refine lv_l2i hx hb dX9_byDividing_38 rfl ?_
    exact hret _ _ _ _ _ (Option.some.inj hf) dX9_byDividing_39 hw
  have b6 : ∀ n6 : Nat, ∀ (H : Heap) (locs : List Loc) (ls : Array Slot) (x1 : Int32) (x2 : Int32) (x3 : Int64) (x5 : Int32), xW g A s.heap ([] : va_W) H locs → lv_has ls 6 [(1, .int x1), (2, .int x2), (3, .long x3), (5, .int x5)] → f_X9_byDividing_b6 n6 x1 x2 x3 x5 = some out → W p l e { frames := 1, cells := 0, slots := 0, locals := 23 } s m [.int a0, .int a1, .int a2].toArray below meth c H locs 0 0 ZZ (F0 m 6 ls []) := by
    intro n6
    induction n6 with
    | zero =>
      intro H locs ls x1 x2 x3 x5 hw hl hf
      exact nn hf
    | succ n6 ih6 =>
      intro H locs ls x1 x2 x3 x5 hw hl hf
      refine lv_iload hx hb dX9_byDividing_6 (lv_at hl 3 rfl) ?_
      refine lv_iload_n hx hb dX9_byDividing_8 rfl (lv_at hl 1 rfl) ?_
      refine lv_icmp_ge (tgt := 32) hx hb dX9_byDividing_9 (by decide) (fun c9 => ?_) (fun c9 => ?_)
      · replace hf := ip c9 hf
        exact b32 _ _ _ x1 x3 hw (lv_sub hl [0, 2] rfl) hf
      · replace hf := iq c9 hf
        refine lv_iload hx hb dX9_byDividing_12 (lv_at hl 3 rfl) ?_
        refine lv_bipush (v := 30) hx hb dX9_byDividing_14 (by decide) ?_
        refine lv_icmp_ge (tgt := 32) hx hb dX9_byDividing_16 (by decide) (fun c16 => ?_) (fun c16 => ?_)
        · replace hf := ip c16 hf
          exact b32 _ _ _ x1 x3 hw (lv_sub hl [0, 2] rfl) hf
        · replace hf := iq c16 hf
          refine lv_lload_n hx hb dX9_byDividing_19 rfl (lv_at hl 2 rfl) ?_
          refine lv_iload_n hx hb dX9_byDividing_20 rfl (lv_at hl 0 rfl) ?_
          refine lv_i2l hx hb dX9_byDividing_21 rfl ?_
          obtain ⟨v22, hv22, hf⟩ := ob_e hf
          refine xcallS (ws' := ([] : va_W)) (st1 := [.long v22]) (n := 0) E hw [.long x3, .long x1.toInt64] [] (met_X5_quotient l g x3 x1.toInt64 v22 hv22) rfl (by decide) rfl rfl [] rfl (by decide +kernel) rfl qw355 k_X5_quotient ⟨rfl, rfl, Nat.le_of_ble_eq_true rfl, Nat.le_of_ble_eq_true rfl⟩ ⟨Nat.zero_le _, Nat.zero_le _⟩ hl.1 (Nat.le_of_ble_eq_true rfl) dX9_byDividing_22 rfl (fun H locs hw => ?_)
          refine lv_lstore_n (lv' := [(3, .long v22), (1, .int x1), (2, .int x2), (5, .int x5)]) hx hb dX9_byDividing_25 rfl hl (by decide) rfl (fun ls hl => ?_)
          refine lv_iinc (v := x5 + 1) (lv' := [(5, .int (x5 + 1)), (3, .long v22), (1, .int x1), (2, .int x2)]) hx hb dX9_byDividing_26 hl (k := 3) rfl rfl (by decide) rfl (fun ls hl => ?_)
          refine lv_goto (tgt := 6) hx hb dX9_byDividing_29 (by decide) ?_
          exact ih6 _ _ _ x1 x2 v22 (x5 + 1) hw (lv_sub hl [2, 3, 1, 0] rfl) hf
  refine lv_iload_n hx hb dX9_byDividing_0 rfl (lv_at hl 0 rfl) ?_
  refine lv_i2l hx hb dX9_byDividing_1 rfl ?_
  refine lv_lstore_n (lv' := [(3, .long a0.toInt64), (0, .int a0), (1, .int a1), (2, .int a2)]) hx hb dX9_byDividing_2 rfl hl (by decide) rfl (fun ls hl => ?_)
  refine lv_iconst (v := 0) hx hb dX9_byDividing_3 (by decide) ?_
  refine lv_istore (lv' := [(5, .int 0), (3, .long a0.toInt64), (0, .int a0), (1, .int a1), (2, .int a2)]) hx hb dX9_byDividing_4 hl (by decide) rfl (fun ls hl => ?_)
  exact b6 xfuel _ _ _ a1 a2 a0.toInt64 0 hw (lv_sub hl [3, 4, 1, 0] rfl) hf
theorem k_X9_byPowers : xKS yX9_byPowers cX9_byPowers 10 (some .int) 3 := ⟨qw580, qw25, qw581, by decide +kernel, by decide +kernel, by decide +kernel⟩
set_option maxHeartbeats 4000000 in
set_option maxRecDepth 100000 in
theorem met_X9_byPowers (l : Launch) (g : xG) (a0 : Int32) (a1 : Int32) (a2 : Int32) (out : Int32) (hf : f_X9_byPowers a0 a1 a2 = some out) : xM l yX9_byPowers (xC yX9_byPowers cX9_byPowers 10 (some .int)) { frames := 2, cells := 0, slots := 0, locals := 47 } g ([] : va_W) [.int a0, .int a1, .int a2] (some (.int out)) ([] : va_W) := by
  refine xof (by decide) (Nat.le_of_ble_eq_true rfl) ⟨rfl, rfl⟩ ?_
  intro p e s m below meth c A ls E hr hlocks hw hl hpost hAe
  have hx := E.1.1
  have hb := E.1.2.1
  have hown := E.1.2.2.2.1
  have hts := E.1.2.2.2.2
  generalize hZ : (MQ below (xPost g ([] : va_W) ([] : va_W) s.heap.size (some (.int out))) [.int a0, .int a1, .int a2].toArray s 0 0 A) = ZZ
  have hret : ∀ (pc : Nat) (H : Heap) (locs : List Loc) (ls : Array Slot) (v : Int32), v = out → decode cX9_byPowers pc = .ok (.ireturn, 1) → xW g A s.heap ([] : va_W) H locs → W p l e { frames := 2, cells := 0, slots := 0, locals := 47 } s m [.int a0, .int a1, .int a2].toArray below meth c H locs 0 0 ZZ (F0 m pc ls [.int v]) := by
    intro pc H locs ls v he hd hw
    subst he
    rw [← hZ]
    exact W.iret hx hb hr (hpost H locs hw).1 (hpost H locs hw).2 hd hlocks
  clear hpost
  have b26 : ∀ n26 : Nat, ∀ (H : Heap) (locs : List Loc) (ls : Array Slot) (x1 : Int32) (x2 : Int32) (x4 : Int64) (x6 : Int64) (x8 : Int32) (x9 : Int32), xW g A s.heap ([] : va_W) H locs → lv_has ls 10 [(1, .int x1), (2, .int x2), (4, .long x4), (6, .long x6), (8, .int x8), (9, .int x9)] → f_X9_byPowers_b26 n26 x1 x2 x4 x6 x8 x9 = some out → W p l e { frames := 2, cells := 0, slots := 0, locals := 47 } s m [.int a0, .int a1, .int a2].toArray below meth c H locs 0 0 ZZ (F0 m 26 ls []) := by
    intro n26
    induction n26 with
    | zero =>
      intro H locs ls x1 x2 x4 x6 x8 x9 hw hl hf
      exact nn hf
    | succ n26 ih26 =>
      have b67 : ∀ (H : Heap) (locs : List Loc) (ls : Array Slot) (x1 : Int32) (x2 : Int32) (x4 : Int64) (x6 : Int64) (x8 : Int32) (x9 : Int32), xW g A s.heap ([] : va_W) H locs → lv_has ls 10 [(1, .int x1), (2, .int x2), (4, .long x4), (6, .long x6), (8, .int x8), (9, .int x9)] → f_X9_byPowers_b67 (f_X9_byPowers_b26 n26) x1 x2 x4 x6 x8 x9 = some out → W p l e { frames := 2, cells := 0, slots := 0, locals := 47 } s m [.int a0, .int a1, .int a2].toArray below meth c H locs 0 0 ZZ (F0 m 67 ls []) := by
        intro H locs ls x1 x2 x4 x6 x8 x9 hw hl hf
        refine lv_lload hx hb dX9_byPowers_67 (lv_at hl 2 rfl) ?_
        refine lv_iload_n hx hb dX9_byPowers_69 rfl (lv_at hl 0 rfl) ?_
        refine lv_i2l hx hb dX9_byPowers_70 rfl ?_
        obtain ⟨v71, hv71, hf⟩ := ob_e hf
        refine xcallS (ws' := ([] : va_W)) (st1 := [.long v71]) (n := 0) E hw [.long x4, .long x1.toInt64] [] (met_X5_quotient l g x4 x1.toInt64 v71 hv71) rfl (by decide) rfl rfl [] rfl (by decide +kernel) rfl qw355 k_X5_quotient ⟨rfl, rfl, Nat.le_of_ble_eq_true rfl, Nat.le_of_ble_eq_true rfl⟩ ⟨Nat.zero_le _, Nat.zero_le _⟩ hl.1 (Nat.le_of_ble_eq_true rfl) dX9_byPowers_71 rfl (fun H locs hw => ?_)
        refine lv_lstore (lv' := [(4, .long v71), (1, .int x1), (2, .int x2), (6, .long x6), (8, .int x8), (9, .int x9)]) hx hb dX9_byPowers_74 hl (by decide) rfl (fun ls hl => ?_)
        refine lv_iinc (v := x9 + (-1)) (lv' := [(9, .int (x9 + (-1))), (4, .long v71), (1, .int x1), (2, .int x2), (6, .long x6), (8, .int x8)]) hx hb dX9_byPowers_76 hl (k := 5) rfl rfl (by decide) rfl (fun ls hl => ?_)
        refine lv_goto (tgt := 26) hx hb dX9_byPowers_79 (by decide) ?_
        exact ih26 _ _ _ x1 x2 v71 x6 x8 (x9 + (-1)) hw (lv_sub hl [2, 3, 1, 4, 5, 0] rfl) hf
      have b40 : ∀ n40 : Nat, ∀ (H : Heap) (locs : List Loc) (ls : Array Slot) (x1 : Int32) (x2 : Int32) (x4 : Int64) (x6 : Int64) (x8 : Int32) (x9 : Int32), xW g A s.heap ([] : va_W) H locs → lv_has ls 10 [(1, .int x1), (2, .int x2), (4, .long x4), (6, .long x6), (8, .int x8), (9, .int x9)] → f_X9_byPowers_b40 (f_X9_byPowers_b26 n26) n40 x1 x2 x4 x6 x8 x9 = some out → W p l e { frames := 2, cells := 0, slots := 0, locals := 47 } s m [.int a0, .int a1, .int a2].toArray below meth c H locs 0 0 ZZ (F0 m 40 ls []) := by
        intro n40
        induction n40 with
        | zero =>
          intro H locs ls x1 x2 x4 x6 x8 x9 hw hl hf
          exact nn hf
        | succ n40 ih40 =>
          intro H locs ls x1 x2 x4 x6 x8 x9 hw hl hf
          refine lv_iload hx hb dX9_byPowers_40 (lv_at hl 4 rfl) ?_
          refine lv_iload_n hx hb dX9_byPowers_42 rfl (lv_at hl 0 rfl) ?_
          refine lv_icmp_ge (tgt := 67) hx hb dX9_byPowers_43 (by decide) (fun c43 => ?_) (fun c43 => ?_)
          · replace hf := ip c43 hf
            exact b67 _ _ _ x1 x2 x4 x6 x8 x9 hw (lv_sub hl [0, 1, 2, 3, 4, 5] rfl) hf
          · replace hf := iq c43 hf
            refine lv_lload hx hb dX9_byPowers_46 (lv_at hl 3 rfl) ?_
            refine lv_lload hx hb dX9_byPowers_48 (lv_at hl 2 rfl) ?_
            refine xlc_lt (tgt := 67) hx hb dX9_byPowers_50 dX9_byPowers_51 (by decide) (fun c50 => ?_) (fun c50 => ?_)
            · replace hf := ip c50 hf
              exact b67 _ _ _ x1 x2 x4 x6 x8 x9 hw (lv_sub hl [0, 1, 2, 3, 4, 5] rfl) hf
            · replace hf := iq c50 hf
              refine lv_lload hx hb dX9_byPowers_54 (lv_at hl 3 rfl) ?_
              refine lv_lload hx hb dX9_byPowers_56 (lv_at hl 2 rfl) ?_
              refine lv_lsub hx hb dX9_byPowers_58 ?_
              refine lv_lstore (lv' := [(6, .long (x6 - x4)), (1, .int x1), (2, .int x2), (4, .long x4), (8, .int x8), (9, .int x9)]) hx hb dX9_byPowers_59 hl (by decide) rfl (fun ls hl => ?_)
              refine lv_iinc (v := x8 + 1) (lv' := [(8, .int (x8 + 1)), (6, .long (x6 - x4)), (1, .int x1), (2, .int x2), (4, .long x4), (9, .int x9)]) hx hb dX9_byPowers_61 hl (k := 4) rfl rfl (by decide) rfl (fun ls hl => ?_)
              refine lv_goto (tgt := 40) hx hb dX9_byPowers_64 (by decide) ?_
              exact ih40 _ _ _ x1 x2 x4 (x6 - x4) (x8 + 1) x9 hw (lv_sub hl [2, 3, 4, 1, 0, 5] rfl) hf
      intro H locs ls x1 x2 x4 x6 x8 x9 hw hl hf
      refine lv_iload hx hb dX9_byPowers_26 (lv_at hl 5 rfl) ?_
      refine lv_iload_n hx hb dX9_byPowers_28 rfl (lv_at hl 1 rfl) ?_
      refine lv_icmp_lt (tgt := 82) hx hb dX9_byPowers_29 (by decide) (fun c29 => ?_) (fun c29 => ?_)
      · replace hf := ip c29 hf
        refine lv_iload hx hb dX9_byPowers_82 (lv_at hl 4 rfl) ?_
        exact hret _ _ _ _ _ (Option.some.inj hf) dX9_byPowers_84 hw
      · replace hf := iq c29 hf
        refine lv_iload hx hb dX9_byPowers_32 (lv_at hl 5 rfl) ?_
        refine lv_if_lt (tgt := 82) hx hb dX9_byPowers_34 (by decide) (fun c34 => ?_) (fun c34 => ?_)
        · replace hf := ip c34 hf
          refine lv_iload hx hb dX9_byPowers_82 (lv_at hl 4 rfl) ?_
          exact hret _ _ _ _ _ (Option.some.inj hf) dX9_byPowers_84 hw
        · replace hf := iq c34 hf
          refine lv_iconst (v := 0) hx hb dX9_byPowers_37 (by decide) ?_
          refine lv_istore (lv' := [(8, .int 0), (1, .int x1), (2, .int x2), (4, .long x4), (6, .long x6), (9, .int x9)]) hx hb dX9_byPowers_38 hl (by decide) rfl (fun ls hl => ?_)
          exact b40 xfuel _ _ _ x1 x2 x4 x6 0 x9 hw (lv_sub hl [1, 2, 3, 4, 0, 5] rfl) hf
  refine lv_iload_n hx hb dX9_byPowers_0 rfl (lv_at hl 0 rfl) ?_
  refine lv_iload_n hx hb dX9_byPowers_1 rfl (lv_at hl 1 rfl) ?_
  obtain ⟨v2, hv2, hf⟩ := ob_e hf
  refine xcallS (ws' := ([] : va_W)) (st1 := [.int v2]) (n := 0) E hw [.int a0, .int a1] [] (met_X9_count l g a0 a1 v2 hv2) rfl (by decide) rfl rfl [] rfl (by decide +kernel) rfl qw582 k_X9_count ⟨rfl, rfl, Nat.le_of_ble_eq_true rfl, Nat.le_of_ble_eq_true rfl⟩ ⟨Nat.zero_le _, Nat.zero_le _⟩ hl.1 (Nat.le_of_ble_eq_true rfl) dX9_byPowers_2 rfl (fun H locs hw => ?_)
  refine lv_iconst (v := 1) hx hb dX9_byPowers_5 (by decide) ?_
  refine lv_isub hx hb dX9_byPowers_6 ?_
  refine lv_istore_n (lv' := [(3, .int (v2 - 1)), (0, .int a0), (1, .int a1), (2, .int a2)]) hx hb dX9_byPowers_7 rfl hl (by decide) rfl (fun ls hl => ?_)
  refine lv_iload_n hx hb dX9_byPowers_8 rfl (lv_at hl 2 rfl) ?_
  refine lv_i2l hx hb dX9_byPowers_9 rfl ?_
  refine lv_iload_n hx hb dX9_byPowers_10 rfl (lv_at hl 0 rfl) ?_
  obtain ⟨v11, hv11, hf⟩ := ob_e hf
  refine xcallS (ws' := ([] : va_W)) (st1 := [.long v11]) (n := 0) E hw [.long a1.toInt64, .int (v2 - 1)] [] (met_X5_power l g a1.toInt64 (v2 - 1) v11 hv11) rfl (by decide) rfl rfl [] rfl (by decide +kernel) rfl qw583 k_X5_power ⟨rfl, rfl, Nat.le_of_ble_eq_true rfl, Nat.le_of_ble_eq_true rfl⟩ ⟨Nat.zero_le _, Nat.zero_le _⟩ hl.1 (Nat.le_of_ble_eq_true rfl) dX9_byPowers_11 rfl (fun H locs hw => ?_)
  refine lv_lstore (lv' := [(4, .long v11), (3, .int (v2 - 1)), (0, .int a0), (1, .int a1), (2, .int a2)]) hx hb dX9_byPowers_14 hl (by decide) rfl (fun ls hl => ?_)
  refine lv_iload_n hx hb dX9_byPowers_16 rfl (lv_at hl 2 rfl) ?_
  refine lv_i2l hx hb dX9_byPowers_17 rfl ?_
  refine lv_lstore (lv' := [(6, .long a0.toInt64), (4, .long v11), (3, .int (v2 - 1)), (0, .int a0), (1, .int a1), (2, .int a2)]) hx hb dX9_byPowers_18 hl (by decide) rfl (fun ls hl => ?_)
  refine lv_iconst (v := 0) hx hb dX9_byPowers_20 (by decide) ?_
  refine lv_istore (lv' := [(8, .int 0), (6, .long a0.toInt64), (4, .long v11), (3, .int (v2 - 1)), (0, .int a0), (1, .int a1), (2, .int a2)]) hx hb dX9_byPowers_21 hl (by decide) rfl (fun ls hl => ?_)
  refine lv_iload_n hx hb dX9_byPowers_23 rfl (lv_at hl 3 rfl) ?_
  refine lv_istore (lv' := [(9, .int (v2 - 1)), (8, .int 0), (6, .long a0.toInt64), (4, .long v11), (3, .int (v2 - 1)), (0, .int a0), (1, .int a1), (2, .int a2)]) hx hb dX9_byPowers_24 hl (by decide) rfl (fun ls hl => ?_)
  exact b26 xfuel _ _ _ a1 a2 v11 a0.toInt64 0 (v2 - 1) hw (lv_sub hl [6, 7, 3, 2, 1, 0] rfl) hf
theorem k_X9_sum : xKS yX9_sum cX9_sum 7 (some .int) 2 := ⟨qw603, qw25, qw604, by decide +kernel, by decide +kernel, by decide +kernel⟩
set_option maxHeartbeats 4000000 in
set_option maxRecDepth 100000 in
theorem met_X9_sum (l : Launch) (g : xG) (a0 : Int32) (a1 : Int32) (out : Int32) (hf : f_X9_sum a0 a1 = some out) : xM l yX9_sum (xC yX9_sum cX9_sum 7 (some .int)) { frames := 1, cells := 0, slots := 0, locals := 23 } g ([] : va_W) [.int a0, .int a1] (some (.int out)) ([] : va_W) := by
  refine xof (by decide) (Nat.le_of_ble_eq_true rfl) ⟨rfl, rfl⟩ ?_
  intro p e s m below meth c A ls E hr hlocks hw hl hpost hAe
  have hx := E.1.1
  have hb := E.1.2.1
  have hown := E.1.2.2.2.1
  have hts := E.1.2.2.2.2
  generalize hZ : (MQ below (xPost g ([] : va_W) ([] : va_W) s.heap.size (some (.int out))) [.int a0, .int a1].toArray s 0 0 A) = ZZ
  have hret : ∀ (pc : Nat) (H : Heap) (locs : List Loc) (ls : Array Slot) (v : Int32), v = out → decode cX9_sum pc = .ok (.ireturn, 1) → xW g A s.heap ([] : va_W) H locs → W p l e { frames := 1, cells := 0, slots := 0, locals := 23 } s m [.int a0, .int a1].toArray below meth c H locs 0 0 ZZ (F0 m pc ls [.int v]) := by
    intro pc H locs ls v he hd hw
    subst he
    rw [← hZ]
    exact W.iret hx hb hr (hpost H locs hw).1 (hpost H locs hw).2 hd hlocks
  clear hpost
  have b9 : ∀ n9 : Nat, ∀ (H : Heap) (locs : List Loc) (ls : Array Slot) (x1 : Int32) (x2 : Int64) (x4 : Int64) (x6 : Int32), xW g A s.heap ([] : va_W) H locs → lv_has ls 7 [(1, .int x1), (2, .long x2), (4, .long x4), (6, .int x6)] → f_X9_sum_b9 n9 x1 x2 x4 x6 = some out → W p l e { frames := 1, cells := 0, slots := 0, locals := 23 } s m [.int a0, .int a1].toArray below meth c H locs 0 0 ZZ (F0 m 9 ls []) := by
    intro n9
    induction n9 with
    | zero =>
      intro H locs ls x1 x2 x4 x6 hw hl hf
      exact nn hf
    | succ n9 ih9 =>
      intro H locs ls x1 x2 x4 x6 hw hl hf
      refine lv_lload_n hx hb dX9_sum_9 rfl (lv_at hl 1 rfl) ?_
      refine lv_lconst (v := 0) hx hb dX9_sum_10 (by decide) ?_
      refine xlc_le (tgt := 46) hx hb dX9_sum_11 dX9_sum_12 (by decide) (fun c11 => ?_) (fun c11 => ?_)
      · replace hf := iq c11 hf
        refine lv_lload hx hb dX9_sum_46 (lv_at hl 2 rfl) ?_
        refine lv_l2i hx hb dX9_sum_48 rfl ?_
        exact hret _ _ _ _ _ (Option.some.inj hf) dX9_sum_49 hw
      · replace hf := ip c11 hf
        refine lv_iload hx hb dX9_sum_15 (lv_at hl 3 rfl) ?_
        refine lv_bipush (v := 30) hx hb dX9_sum_17 (by decide) ?_
        refine lv_icmp_ge (tgt := 46) hx hb dX9_sum_19 (by decide) (fun c19 => ?_) (fun c19 => ?_)
        · replace hf := ip c19 hf
          refine lv_lload hx hb dX9_sum_46 (lv_at hl 2 rfl) ?_
          refine lv_l2i hx hb dX9_sum_48 rfl ?_
          exact hret _ _ _ _ _ (Option.some.inj hf) dX9_sum_49 hw
        · replace hf := iq c19 hf
          refine lv_lload hx hb dX9_sum_22 (lv_at hl 2 rfl) ?_
          refine lv_lload_n hx hb dX9_sum_24 rfl (lv_at hl 1 rfl) ?_
          refine lv_iload_n hx hb dX9_sum_25 rfl (lv_at hl 0 rfl) ?_
          refine lv_i2l hx hb dX9_sum_26 rfl ?_
          obtain ⟨v27, hv27, hf⟩ := ob_e hf
          refine xcallS (ws' := ([] : va_W)) (st1 := [.long v27, .long x4]) (n := 0) E hw [.long x2, .long x1.toInt64] [] (met_X5_left l g x2 x1.toInt64 v27 hv27) rfl (by decide) rfl rfl [] rfl (by decide +kernel) rfl qw390 k_X5_left ⟨rfl, rfl, Nat.le_of_ble_eq_true rfl, Nat.le_of_ble_eq_true rfl⟩ ⟨Nat.zero_le _, Nat.zero_le _⟩ hl.1 (Nat.le_of_ble_eq_true rfl) dX9_sum_27 rfl (fun H locs hw => ?_)
          refine lv_ladd hx hb dX9_sum_30 ?_
          refine lv_lstore (lv' := [(4, .long (x4 + v27)), (1, .int x1), (2, .long x2), (6, .int x6)]) hx hb dX9_sum_31 hl (by decide) rfl (fun ls hl => ?_)
          refine lv_lload_n hx hb dX9_sum_33 rfl (lv_at hl 2 rfl) ?_
          refine lv_iload_n hx hb dX9_sum_34 rfl (lv_at hl 1 rfl) ?_
          refine lv_i2l hx hb dX9_sum_35 rfl ?_
          obtain ⟨v36, hv36, hf⟩ := ob_e hf
          refine xcallS (ws' := ([] : va_W)) (st1 := [.long v36]) (n := 0) E hw [.long x2, .long x1.toInt64] [] (met_X5_quotient l g x2 x1.toInt64 v36 hv36) rfl (by decide) rfl rfl [] rfl (by decide +kernel) rfl qw355 k_X5_quotient ⟨rfl, rfl, Nat.le_of_ble_eq_true rfl, Nat.le_of_ble_eq_true rfl⟩ ⟨Nat.zero_le _, Nat.zero_le _⟩ hl.1 (Nat.le_of_ble_eq_true rfl) dX9_sum_36 rfl (fun H locs hw => ?_)
          refine lv_lstore_n (lv' := [(2, .long v36), (4, .long (x4 + v27)), (1, .int x1), (6, .int x6)]) hx hb dX9_sum_39 rfl hl (by decide) rfl (fun ls hl => ?_)
          refine lv_iinc (v := x6 + 1) (lv' := [(6, .int (x6 + 1)), (2, .long v36), (4, .long (x4 + v27)), (1, .int x1)]) hx hb dX9_sum_40 hl (k := 3) rfl rfl (by decide) rfl (fun ls hl => ?_)
          refine lv_goto (tgt := 9) hx hb dX9_sum_43 (by decide) ?_
          exact ih9 _ _ _ x1 v36 (x4 + v27) (x6 + 1) hw (lv_sub hl [3, 1, 2, 0] rfl) hf
  refine lv_iload_n hx hb dX9_sum_0 rfl (lv_at hl 0 rfl) ?_
  refine lv_i2l hx hb dX9_sum_1 rfl ?_
  refine lv_lstore_n (lv' := [(2, .long a0.toInt64), (0, .int a0), (1, .int a1)]) hx hb dX9_sum_2 rfl hl (by decide) rfl (fun ls hl => ?_)
  refine lv_lconst (v := 0) hx hb dX9_sum_3 (by decide) ?_
  refine lv_lstore (lv' := [(4, .long 0), (2, .long a0.toInt64), (0, .int a0), (1, .int a1)]) hx hb dX9_sum_4 hl (by decide) rfl (fun ls hl => ?_)
  refine lv_iconst (v := 0) hx hb dX9_sum_6 (by decide) ?_
  refine lv_istore (lv' := [(6, .int 0), (4, .long 0), (2, .long a0.toInt64), (0, .int a0), (1, .int a1)]) hx hb dX9_sum_7 hl (by decide) rfl (fun ls hl => ?_)
  exact b9 xfuel _ _ _ a1 a0.toInt64 0 0 hw (lv_sub hl [4, 2, 1, 0] rfl) hf
