theorem k_X10_requireBase : xKS yX10_requireBase cX10_requireBase 1 none 1 := ⟨qw444, qw13, qw445, by decide +kernel, by decide +kernel, by decide +kernel⟩
set_option maxHeartbeats 4000000 in
set_option maxRecDepth 100000 in
theorem met_X10_requireBase (l : Launch) (g : xG) (a0 : Int32) (out : Unit) (hf : f_X10_requireBase a0 = some (Sum.inr out)) : xM l yX10_requireBase (xC yX10_requireBase cX10_requireBase 1 none) { frames := 1, cells := 0, slots := 0, locals := 31 } g ([] : va_W) [.int a0] none ([] : va_W) := by
  refine xof (by decide) (Nat.le_of_ble_eq_true rfl) ⟨rfl, rfl⟩ ?_
  intro p e s m below meth c A ls E hr hlocks hw hl hpost hAe
  have hx := E.1.1
  have hb := E.1.2.1
  have hown := E.1.2.2.2.1
  have hts := E.1.2.2.2.2
  generalize hZ : (MQ below (xPost g ([] : va_W) ([] : va_W) s.heap.size none) [.int a0].toArray s 0 0 A) = ZZ
  have hret : ∀ (pc : Nat) (H : Heap) (locs : List Loc) (ls : Array Slot), () = out → decode cX10_requireBase pc = .ok (.return_, 1) → xW g A s.heap ([] : va_W) H locs → W p l e { frames := 1, cells := 0, slots := 0, locals := 31 } s m [.int a0].toArray below meth c H locs 0 0 ZZ (F0 m pc ls []) := by
    intro pc H locs ls he hd hw
    subst he
    rw [← hZ]
    exact W.vret hx hb hr (hpost H locs hw).1 (hpost H locs hw).2 hd hlocks
  clear hpost
  have b11 : ∀ (H : Heap) (locs : List Loc) (ls : Array Slot), xW g A s.heap ([] : va_W) H locs → lv_has ls 1 [] → f_X10_requireBase_b11 = some (Sum.inr out) → W p l e { frames := 1, cells := 0, slots := 0, locals := 31 } s m [.int a0].toArray below meth c H locs 0 0 ZZ (F0 m 11 ls []) := by
    intro H locs ls hw hl hf
    exact nlr hf
  refine lv_iload_n hx hb dX10_requireBase_0 rfl (lv_at hl 0 rfl) ?_
  refine lv_iconst (v := 2) hx hb dX10_requireBase_1 (by decide) ?_
  refine lv_icmp_lt (tgt := 11) hx hb dX10_requireBase_2 (by decide) (fun c2 => ?_) (fun c2 => ?_)
  · replace hf := ip c2 hf
    exact b11 _ _ _  hw (lv_sub hl [] rfl) hf
  · replace hf := iq c2 hf
    refine lv_iload_n hx hb dX10_requireBase_5 rfl (lv_at hl 0 rfl) ?_
    refine lv_bipush (v := 16) hx hb dX10_requireBase_6 (by decide) ?_
    refine lv_icmp_le (tgt := 22) hx hb dX10_requireBase_8 (by decide) (fun c8 => ?_) (fun c8 => ?_)
    · replace hf := ip c8 hf
      exact hret _ _ _ _ (jr hf) dX10_requireBase_22 hw
    · replace hf := iq c8 hf
      exact b11 _ _ _  hw (lv_sub hl [] rfl) hf
theorem k_X10_setBase : xKV yX10_setBase cX10_setBase 3 (some .int) 1 := ⟨qw440, qw441, qw13, qw442, by decide +kernel, by decide +kernel, by decide +kernel⟩
set_option maxHeartbeats 4000000 in
set_option maxRecDepth 100000 in
theorem met_X10_setBase (l : Launch) (g : xG) (h : Nat → Nat) (now : SC) (snap : SC) (has : Int32) (hist : HC) (ent : EC) (res : RC) (num : NC) (col : CC) (a1 : Int32) (out : Int32 × SC × HC) (hf : f_X10_setBase now hist a1 = some (Sum.inr out)) : xM l yX10_setBase (xC yX10_setBase cX10_setBase 3 (some .int)) { frames := 2, cells := 0, slots := 0, locals := 51 } g (wC g h now snap has hist ent res num col) [.ref (h 0), .int a1] (some (.int out.1)) (wC g h out.2.1 snap has out.2.2 ent res num col) := by
  refine xof (by decide) (Nat.le_of_ble_eq_true rfl) ⟨rfl, rfl⟩ ?_
  intro p e s m below meth c A ls E hr hlocks hw hl hpost hAe
  have hx := E.1.1
  have hb := E.1.2.1
  have hown := E.1.2.2.2.1
  have hts := E.1.2.2.2.2
  generalize hZ : (MQ below (xPost g (wC g h now snap has hist ent res num col) (wC g h out.2.1 snap has out.2.2 ent res num col) s.heap.size (some (.int out.1))) [.ref (h 0), .int a1].toArray s 0 0 A) = ZZ
  have hret : ∀ (pc : Nat) (H : Heap) (locs : List Loc) (ls : Array Slot) (v : Int32) (cnow : SC) (chist : HC), (v, cnow, chist) = out → decode cX10_setBase pc = .ok (.ireturn, 1) → xW g A s.heap (wC g h cnow snap has chist ent res num col) H locs → W p l e { frames := 2, cells := 0, slots := 0, locals := 51 } s m [.ref (h 0), .int a1].toArray below meth c H locs 0 0 ZZ (F0 m pc ls [.int v]) := by
    intro pc H locs ls v cnow chist he hd hw
    subst he
    rw [← hZ]
    exact W.iret hx hb hr (hpost H locs hw).1 (hpost H locs hw).2 hd hlocks
  clear hpost
  refine lv_iload_n hx hb dX10_setBase_0 rfl (lv_at hl 1 rfl) ?_
  obtain ⟨v1, hv1, hf⟩ := ob_e hf
  rcases v1 with t1 | u1
  · exact nlr hf
  · refine xcallS (ws' := (wC g h now snap has hist ent res num col)) (st1 := []) (n := 34) E hw [.int a1] [] (met_X10_requireBase l g a1 u1 hv1) rfl (by decide) rfl rfl [0, 1, 2, 3, 4, 5, 6, 7, 8, 9, 10, 11, 12, 13, 14, 15, 16, 17, 18, 19, 20, 21, 22, 23, 24, 25, 26, 27, 28, 29, 30, 31, 32, 33] rfl (by decide +kernel) rfl qw443 k_X10_requireBase ⟨rfl, rfl, Nat.le_of_ble_eq_true rfl, Nat.le_of_ble_eq_true rfl⟩ ⟨Nat.zero_le _, Nat.zero_le _⟩ hl.1 (Nat.le_of_ble_eq_true rfl) dX10_setBase_1 rfl (fun H locs hw => ?_)
    refine lv_aload_n hx hb dX10_setBase_4 rfl (lv_at hl 0 rfl) ?_
    refine xget (v := .ref (h 7)) E hw 0 rfl rfl 3 (by decide) inw10 qw189 rfl rfl dX10_setBase_5 ?_
    refine lv_aload_n hx hb dX10_setBase_8 rfl (lv_at hl 0 rfl) ?_
    refine xget (v := .ref (h 1)) E hw 0 rfl rfl 0 (by decide) inw10 qw186 rfl rfl dX10_setBase_9 ?_
    obtain ⟨v12, hv12, hf⟩ := ob_e hf
    refine xcallV (ws' := (wC g h now snap has v12 ent res num col)) (st1 := []) (n := 34) E hw [.ref (h 1)] [7, 8, 9, 10, 11, 12, 13, 14, 15, 16, 17, 18, 19, 20, 21, 22, 23, 24, 25, 26, 1, 2, 3] (met_X3_push l g h 7 1 hist now v12 hv12) rfl (by decide) rfl rfl [0, 54, 55, 56, 4, 5, 6, 34, 35, 36, 37, 38, 39, 40, 41, 42, 43, 44, 45, 46, 47, 48, 49, 50, 51, 52, 53, 27, 28, 29, 30, 31, 32, 33] rfl (by decide +kernel) rfl rfl rfl rfl qw462 k_X3_push ⟨rfl, rfl, Nat.le_of_ble_eq_true rfl, Nat.le_of_ble_eq_true rfl⟩ ⟨Nat.zero_le _, Nat.zero_le _⟩ hl.1 (Nat.le_of_ble_eq_true rfl) dX10_setBase_12 rfl (fun H locs hw => ?_)
    refine lv_aload_n hx hb dX10_setBase_15 rfl (lv_at hl 0 rfl) ?_
    refine xget (v := .ref (h 1)) E hw 0 rfl rfl 0 (by decide) inw10 qw186 rfl rfl dX10_setBase_16 ?_
    refine xget (v := .int now.1) E hw 1 rfl rfl 0 (by decide) inw7 qw46 rfl rfl dX10_setBase_19 ?_
    refine lv_istore_n (lv' := [(2, .int now.1), (0, .ref (h 0)), (1, .int a1)]) hx hb dX10_setBase_22 rfl hl (by decide) rfl (fun ls hl => ?_)
    refine lv_aload_n hx hb dX10_setBase_23 rfl (lv_at hl 1 rfl) ?_
    refine xget (v := .ref (h 1)) E hw 0 rfl rfl 0 (by decide) inw10 qw186 rfl rfl dX10_setBase_24 ?_
    refine lv_iload_n hx hb dX10_setBase_27 rfl (lv_at hl 2 rfl) ?_
    refine xput (ws' := (wC g h (a1, now.2.1, now.2.2.1, now.2.2.2.1, now.2.2.2.2) snap has v12 ent res num col)) E hw 1 rfl rfl 0 (by decide) inw7 tyX7_ok nmX7 qw46 rfl rfl rfl rfl (Nat.le_of_ble_eq_true rfl) dX10_setBase_28 rfl (fun H locs hw => ?_)
    refine lv_iload_n hx hb dX10_setBase_31 rfl (lv_at hl 0 rfl) ?_
    exact hret _ _ _ _ _ _ _ (jr hf) dX10_setBase_32 hw
theorem k_X10_requireAccount : xKS yX10_requireAccount cX10_requireAccount 1 none 1 := ⟨qw311, qw13, qw312, by decide +kernel, by decide +kernel, by decide +kernel⟩
set_option maxHeartbeats 4000000 in
set_option maxRecDepth 100000 in
theorem met_X10_requireAccount (l : Launch) (g : xG) (a0 : Int32) (out : Unit) (hf : f_X10_requireAccount a0 = some (Sum.inr out)) : xM l yX10_requireAccount (xC yX10_requireAccount cX10_requireAccount 1 none) { frames := 1, cells := 0, slots := 0, locals := 31 } g ([] : va_W) [.int a0] none ([] : va_W) := by
  refine xof (by decide) (Nat.le_of_ble_eq_true rfl) ⟨rfl, rfl⟩ ?_
  intro p e s m below meth c A ls E hr hlocks hw hl hpost hAe
  have hx := E.1.1
  have hb := E.1.2.1
  have hown := E.1.2.2.2.1
  have hts := E.1.2.2.2.2
  generalize hZ : (MQ below (xPost g ([] : va_W) ([] : va_W) s.heap.size none) [.int a0].toArray s 0 0 A) = ZZ
  have hret : ∀ (pc : Nat) (H : Heap) (locs : List Loc) (ls : Array Slot), () = out → decode cX10_requireAccount pc = .ok (.return_, 1) → xW g A s.heap ([] : va_W) H locs → W p l e { frames := 1, cells := 0, slots := 0, locals := 31 } s m [.int a0].toArray below meth c H locs 0 0 ZZ (F0 m pc ls []) := by
    intro pc H locs ls he hd hw
    subst he
    rw [← hZ]
    exact W.vret hx hb hr (hpost H locs hw).1 (hpost H locs hw).2 hd hlocks
  clear hpost
  have b10 : ∀ (H : Heap) (locs : List Loc) (ls : Array Slot), xW g A s.heap ([] : va_W) H locs → lv_has ls 1 [] → f_X10_requireAccount_b10 = some (Sum.inr out) → W p l e { frames := 1, cells := 0, slots := 0, locals := 31 } s m [.int a0].toArray below meth c H locs 0 0 ZZ (F0 m 10 ls []) := by
    intro H locs ls hw hl hf
    exact nlr hf
  refine lv_iload_n hx hb dX10_requireAccount_0 rfl (lv_at hl 0 rfl) ?_
  refine lv_if_lt (tgt := 10) hx hb dX10_requireAccount_1 (by decide) (fun c1 => ?_) (fun c1 => ?_)
  · replace hf := ip c1 hf
    exact b10 _ _ _  hw (lv_sub hl [] rfl) hf
  · replace hf := iq c1 hf
    refine lv_iload_n hx hb dX10_requireAccount_4 rfl (lv_at hl 0 rfl) ?_
    refine lv_bipush (v := 6) hx hb dX10_requireAccount_5 (by decide) ?_
    refine lv_icmp_lt (tgt := 21) hx hb dX10_requireAccount_7 (by decide) (fun c7 => ?_) (fun c7 => ?_)
    · replace hf := ip c7 hf
      exact hret _ _ _ _ (jr hf) dX10_requireAccount_21 hw
    · replace hf := iq c7 hf
      exact b10 _ _ _  hw (lv_sub hl [] rfl) hf
theorem k_X10_setFraction : xKV yX10_setFraction cX10_setFraction 4 (some .int) 3 := ⟨qw471, qw472, qw13, qw473, by decide +kernel, by decide +kernel, by decide +kernel⟩
set_option maxHeartbeats 4000000 in
set_option maxRecDepth 100000 in
theorem met_X10_setFraction (l : Launch) (g : xG) (h : Nat → Nat) (now : SC) (snap : SC) (has : Int32) (hist : HC) (ent : EC) (res : RC) (num : NC) (col : CC) (a1 : Int32) (a2 : Int32) (a3 : Int32) (out : Int32 × SC × HC × RC) (hf : f_X10_setFraction now hist res a1 a2 a3 = some (Sum.inr out)) : xM l yX10_setFraction (xC yX10_setFraction cX10_setFraction 4 (some .int)) { frames := 3, cells := 0, slots := 0, locals := 71 } g (wC g h now snap has hist ent res num col) [.ref (h 0), .int a1, .int a2, .int a3] (some (.int out.1)) (wC g h out.2.1 snap has out.2.2.1 ent out.2.2.2 num col) := by
  refine xof (by decide) (Nat.le_of_ble_eq_true rfl) ⟨rfl, rfl⟩ ?_
  intro p e s m below meth c A ls E hr hlocks hw hl hpost hAe
  have hx := E.1.1
  have hb := E.1.2.1
  have hown := E.1.2.2.2.1
  have hts := E.1.2.2.2.2
  generalize hZ : (MQ below (xPost g (wC g h now snap has hist ent res num col) (wC g h out.2.1 snap has out.2.2.1 ent out.2.2.2 num col) s.heap.size (some (.int out.1))) [.ref (h 0), .int a1, .int a2, .int a3].toArray s 0 0 A) = ZZ
  have hret : ∀ (pc : Nat) (H : Heap) (locs : List Loc) (ls : Array Slot) (v : Int32) (cnow : SC) (chist : HC) (cres : RC), (v, cnow, chist, cres) = out → decode cX10_setFraction pc = .ok (.ireturn, 1) → xW g A s.heap (wC g h cnow snap has chist ent cres num col) H locs → W p l e { frames := 3, cells := 0, slots := 0, locals := 71 } s m [.ref (h 0), .int a1, .int a2, .int a3].toArray below meth c H locs 0 0 ZZ (F0 m pc ls [.int v]) := by
    intro pc H locs ls v cnow chist cres he hd hw
    subst he
    rw [← hZ]
    exact W.iret hx hb hr (hpost H locs hw).1 (hpost H locs hw).2 hd hlocks
  clear hpost
  have b14 : ∀ (H : Heap) (locs : List Loc) (ls : Array Slot) (now : SC) (hist : HC) (res : RC), xW g A s.heap (wC g h now snap has hist ent res num col) H locs → lv_has ls 4 [] → f_X10_setFraction_b14 now hist res = some (Sum.inr out) → W p l e { frames := 3, cells := 0, slots := 0, locals := 71 } s m [.ref (h 0), .int a1, .int a2, .int a3].toArray below meth c H locs 0 0 ZZ (F0 m 14 ls []) := by
    intro H locs ls now hist res hw hl hf
    exact nlr hf
  have b36 : ∀ (H : Heap) (locs : List Loc) (ls : Array Slot) (now : SC) (hist : HC) (res : RC), xW g A s.heap (wC g h now snap has hist ent res num col) H locs → lv_has ls 4 [] → f_X10_setFraction_b36 now hist res = some (Sum.inr out) → W p l e { frames := 3, cells := 0, slots := 0, locals := 71 } s m [.ref (h 0), .int a1, .int a2, .int a3].toArray below meth c H locs 0 0 ZZ (F0 m 36 ls []) := by
    intro H locs ls now hist res hw hl hf
    exact nlr hf
  refine lv_iload_n hx hb dX10_setFraction_0 rfl (lv_at hl 1 rfl) ?_
  obtain ⟨v1, hv1, hf⟩ := ob_e hf
  rcases v1 with t1 | u1
  · exact nlr hf
  · refine xcallS (ws' := (wC g h now snap has hist ent res num col)) (st1 := []) (n := 34) E hw [.int a1] [] (met_X10_requireAccount l g a1 u1 hv1) rfl (by decide) rfl rfl [0, 1, 2, 3, 4, 5, 6, 7, 8, 9, 10, 11, 12, 13, 14, 15, 16, 17, 18, 19, 20, 21, 22, 23, 24, 25, 26, 27, 28, 29, 30, 31, 32, 33] rfl (by decide +kernel) rfl qw310 k_X10_requireAccount ⟨rfl, rfl, Nat.le_of_ble_eq_true rfl, Nat.le_of_ble_eq_true rfl⟩ ⟨Nat.zero_le _, Nat.zero_le _⟩ hl.1 (Nat.le_of_ble_eq_true rfl) dX10_setFraction_1 rfl (fun H locs hw => ?_)
    refine lv_iload_n hx hb dX10_setFraction_4 rfl (lv_at hl 2 rfl) ?_
    refine lv_if_lt (tgt := 14) hx hb dX10_setFraction_5 (by decide) (fun c5 => ?_) (fun c5 => ?_)
    · replace hf := ip c5 hf
      exact b14 _ _ _ now hist res hw (lv_sub hl [] rfl) hf
    · replace hf := iq c5 hf
      refine lv_iload_n hx hb dX10_setFraction_8 rfl (lv_at hl 2 rfl) ?_
      refine lv_ldc hx hb hown (hts _ qw474) dX10_setFraction_9 ?_
      refine lv_icmp_le (tgt := 24) hx hb dX10_setFraction_11 (by decide) (fun c11 => ?_) (fun c11 => ?_)
      · replace hf := ip c11 hf
        refine lv_iload_n hx hb dX10_setFraction_24 rfl (lv_at hl 3 rfl) ?_
        refine lv_iconst (v := 1) hx hb dX10_setFraction_25 (by decide) ?_
        refine lv_icmp_lt (tgt := 36) hx hb dX10_setFraction_26 (by decide) (fun c26 => ?_) (fun c26 => ?_)
        · replace hf := ip c26 hf
          exact b36 _ _ _ now hist res hw (lv_sub hl [] rfl) hf
        · replace hf := iq c26 hf
          refine lv_iload_n hx hb dX10_setFraction_29 rfl (lv_at hl 3 rfl) ?_
          refine lv_sipush (v := 999) hx hb dX10_setFraction_30 (by decide) ?_
          refine lv_icmp_le (tgt := 46) hx hb dX10_setFraction_33 (by decide) (fun c33 => ?_) (fun c33 => ?_)
          · replace hf := ip c33 hf
            refine lv_aload_n hx hb dX10_setFraction_46 rfl (lv_at hl 0 rfl) ?_
            refine xget (v := .ref (h 30)) E hw 0 rfl rfl 5 (by decide) inw10 qw191 rfl rfl dX10_setFraction_47 ?_
            refine lv_iload_n hx hb dX10_setFraction_50 rfl (lv_at hl 2 rfl) ?_
            refine lv_i2l hx hb dX10_setFraction_51 rfl ?_
            refine lv_iload_n hx hb dX10_setFraction_52 rfl (lv_at hl 3 rfl) ?_
            refine lv_i2l hx hb dX10_setFraction_53 rfl ?_
            obtain ⟨v54, hv54, hf⟩ := ob_e hf
            refine xcallV (ws' := (wC g h now snap has hist ent v54 num col)) (st1 := []) (n := 34) E hw [.long a2.toInt64, .long a3.toInt64] [30] (met_X6_put l g h 30 res a2.toInt64 a3.toInt64 v54 hv54) rfl (by decide) rfl rfl [0, 1, 2, 3, 4, 5, 6, 7, 8, 9, 10, 11, 12, 13, 14, 15, 16, 17, 18, 19, 20, 21, 22, 23, 24, 25, 26, 27, 28, 29, 34, 31, 32, 33] rfl (by decide +kernel) rfl rfl rfl rfl qw477 k_X6_put ⟨rfl, rfl, Nat.le_of_ble_eq_true rfl, Nat.le_of_ble_eq_true rfl⟩ ⟨Nat.zero_le _, Nat.zero_le _⟩ hl.1 (Nat.le_of_ble_eq_true rfl) dX10_setFraction_54 rfl (fun H locs hw => ?_)
            refine lv_aload_n hx hb dX10_setFraction_57 rfl (lv_at hl 0 rfl) ?_
            refine lv_iload_n hx hb dX10_setFraction_58 rfl (lv_at hl 1 rfl) ?_
            obtain ⟨v59, hv59, hf⟩ := ob_e hf
            refine xcallV (ws' := (wC g h v59.1 snap has v59.2 ent v54 num col)) (st1 := []) (n := 34) E hw [.int a1] [0, 1, 2, 3, 4, 5, 6, 7, 8, 9, 10, 11, 12, 13, 14, 15, 16, 17, 18, 19, 20, 21, 22, 23, 24, 25, 26, 27, 28, 29, 30, 31, 32, 33] (met_X10_saveAndStore l g h now snap has hist ent v54 num col a1 v59 hv59) rfl (by decide) rfl rfl [34, 35, 36, 37, 38, 39, 40, 41, 42, 43, 44, 45, 46, 47, 48, 49, 50, 51, 52, 53, 54, 55, 56, 57, 58, 59, 60, 61, 62, 63, 64, 65, 66, 67] rfl (by decide +kernel) rfl rfl rfl rfl qw486 k_X10_saveAndStore ⟨rfl, rfl, Nat.le_of_ble_eq_true rfl, Nat.le_of_ble_eq_true rfl⟩ ⟨Nat.zero_le _, Nat.zero_le _⟩ hl.1 (Nat.le_of_ble_eq_true rfl) dX10_setFraction_59 rfl (fun H locs hw => ?_)
            refine lv_aload_n hx hb dX10_setFraction_62 rfl (lv_at hl 0 rfl) ?_
            refine xget (v := .ref (h 1)) E hw 0 rfl rfl 0 (by decide) inw10 qw186 rfl rfl dX10_setFraction_63 ?_
            refine lv_iload_n hx hb dX10_setFraction_66 rfl (lv_at hl 1 rfl) ?_
            obtain ⟨v67, hv67, hf⟩ := ob_e hf
            refine xcallV (ws' := (wC g h v59.1 snap has v59.2 ent v54 num col)) (st1 := [.int v67]) (n := 34) E hw [.int a1] [1, 2, 3] (met_X7_denominatorOf l g h 1 v59.1 a1 v67 hv67) rfl (by decide) rfl rfl [0, 34, 35, 36, 4, 5, 6, 7, 8, 9, 10, 11, 12, 13, 14, 15, 16, 17, 18, 19, 20, 21, 22, 23, 24, 25, 26, 27, 28, 29, 30, 31, 32, 33] rfl (by decide +kernel) rfl rfl rfl rfl qw340 k_X7_denominatorOf ⟨rfl, rfl, Nat.le_of_ble_eq_true rfl, Nat.le_of_ble_eq_true rfl⟩ ⟨Nat.zero_le _, Nat.zero_le _⟩ hl.1 (Nat.le_of_ble_eq_true rfl) dX10_setFraction_67 rfl (fun H locs hw => ?_)
            exact hret _ _ _ _ _ _ _ _ (jr hf) dX10_setFraction_70 hw
          · replace hf := iq c33 hf
            exact b36 _ _ _ now hist res hw (lv_sub hl [] rfl) hf
      · replace hf := iq c11 hf
        exact b14 _ _ _ now hist res hw (lv_sub hl [] rfl) hf
theorem k_X10_requireAccounts : xKS yX10_requireAccounts cX10_requireAccounts 2 none 2 := ⟨qw499, qw13, qw500, by decide +kernel, by decide +kernel, by decide +kernel⟩
set_option maxHeartbeats 4000000 in
set_option maxRecDepth 100000 in
theorem met_X10_requireAccounts (l : Launch) (g : xG) (a0 : Int32) (a1 : Int32) (out : Unit) (hf : f_X10_requireAccounts a0 a1 = some (Sum.inr out)) : xM l yX10_requireAccounts (xC yX10_requireAccounts cX10_requireAccounts 2 none) { frames := 2, cells := 0, slots := 0, locals := 51 } g ([] : va_W) [.int a0, .int a1] none ([] : va_W) := by
  refine xof (by decide) (Nat.le_of_ble_eq_true rfl) ⟨rfl, rfl⟩ ?_
  intro p e s m below meth c A ls E hr hlocks hw hl hpost hAe
  have hx := E.1.1
  have hb := E.1.2.1
  have hown := E.1.2.2.2.1
  have hts := E.1.2.2.2.2
  generalize hZ : (MQ below (xPost g ([] : va_W) ([] : va_W) s.heap.size none) [.int a0, .int a1].toArray s 0 0 A) = ZZ
  have hret : ∀ (pc : Nat) (H : Heap) (locs : List Loc) (ls : Array Slot), () = out → decode cX10_requireAccounts pc = .ok (.return_, 1) → xW g A s.heap ([] : va_W) H locs → W p l e { frames := 2, cells := 0, slots := 0, locals := 51 } s m [.int a0, .int a1].toArray below meth c H locs 0 0 ZZ (F0 m pc ls []) := by
    intro pc H locs ls he hd hw
    subst he
    rw [← hZ]
    exact W.vret hx hb hr (hpost H locs hw).1 (hpost H locs hw).2 hd hlocks
  clear hpost
  refine lv_iload_n hx hb dX10_requireAccounts_0 rfl (lv_at hl 0 rfl) ?_
  obtain ⟨v1, hv1, hf⟩ := ob_e hf
  rcases v1 with t1 | u1
  · exact nlr hf
  · refine xcallS (ws' := ([] : va_W)) (st1 := []) (n := 0) E hw [.int a0] [] (met_X10_requireAccount l g a0 u1 hv1) rfl (by decide) rfl rfl [] rfl (by decide +kernel) rfl qw310 k_X10_requireAccount ⟨rfl, rfl, Nat.le_of_ble_eq_true rfl, Nat.le_of_ble_eq_true rfl⟩ ⟨Nat.zero_le _, Nat.zero_le _⟩ hl.1 (Nat.le_of_ble_eq_true rfl) dX10_requireAccounts_1 rfl (fun H locs hw => ?_)
    refine lv_iload_n hx hb dX10_requireAccounts_4 rfl (lv_at hl 1 rfl) ?_
    obtain ⟨v5, hv5, hf⟩ := ob_e hf
    rcases v5 with t5 | u5
    · exact nlr hf
    · refine xcallS (ws' := ([] : va_W)) (st1 := []) (n := 0) E hw [.int a1] [] (met_X10_requireAccount l g a1 u5 hv5) rfl (by decide) rfl rfl [] rfl (by decide +kernel) rfl qw310 k_X10_requireAccount ⟨rfl, rfl, Nat.le_of_ble_eq_true rfl, Nat.le_of_ble_eq_true rfl⟩ ⟨Nat.zero_le _, Nat.zero_le _⟩ hl.1 (Nat.le_of_ble_eq_true rfl) dX10_requireAccounts_5 rfl (fun H locs hw => ?_)
      exact hret _ _ _ _ (jr hf) dX10_requireAccounts_8 hw
theorem k_X10_requirePossible : xKV yX10_requirePossible cX10_requirePossible 1 none 0 := ⟨qw513, qw5, qw13, qw514, by decide +kernel, by decide +kernel, by decide +kernel⟩
set_option maxHeartbeats 4000000 in
set_option maxRecDepth 100000 in
theorem met_X10_requirePossible (l : Launch) (g : xG) (h : Nat → Nat) (now : SC) (snap : SC) (has : Int32) (hist : HC) (ent : EC) (res : RC) (num : NC) (col : CC) (out : Unit) (hf : f_X10_requirePossible res = some (Sum.inr out)) : xM l yX10_requirePossible (xC yX10_requirePossible cX10_requirePossible 1 none) { frames := 1, cells := 0, slots := 0, locals := 31 } g (wC g h now snap has hist ent res num col) [.ref (h 0)] none (wC g h now snap has hist ent res num col) := by
  refine xof (by decide) (Nat.le_of_ble_eq_true rfl) ⟨rfl, rfl⟩ ?_
  intro p e s m below meth c A ls E hr hlocks hw hl hpost hAe
  have hx := E.1.1
  have hb := E.1.2.1
  have hown := E.1.2.2.2.1
  have hts := E.1.2.2.2.2
  generalize hZ : (MQ below (xPost g (wC g h now snap has hist ent res num col) (wC g h now snap has hist ent res num col) s.heap.size none) [.ref (h 0)].toArray s 0 0 A) = ZZ
  have hret : ∀ (pc : Nat) (H : Heap) (locs : List Loc) (ls : Array Slot), () = out → decode cX10_requirePossible pc = .ok (.return_, 1) → xW g A s.heap (wC g h now snap has hist ent res num col) H locs → W p l e { frames := 1, cells := 0, slots := 0, locals := 31 } s m [.ref (h 0)].toArray below meth c H locs 0 0 ZZ (F0 m pc ls []) := by
    intro pc H locs ls he hd hw
    subst he
    rw [← hZ]
    exact W.vret hx hb hr (hpost H locs hw).1 (hpost H locs hw).2 hd hlocks
  clear hpost
  refine lv_aload_n hx hb dX10_requirePossible_0 rfl (lv_at hl 0 rfl) ?_
  refine xget (v := .ref (h 30)) E hw 0 rfl rfl 5 (by decide) inw10 qw191 rfl rfl dX10_requirePossible_1 ?_
  obtain ⟨v4, hv4, hf⟩ := ob_e hf
  refine xcallV (ws' := (wC g h now snap has hist ent res num col)) (st1 := [.int v4]) (n := 34) E hw [] [30] (met_X6_reasonAgainst l g h 30 res v4 hv4) rfl (by decide) rfl rfl [0, 1, 2, 3, 4, 5, 6, 7, 8, 9, 10, 11, 12, 13, 14, 15, 16, 17, 18, 19, 20, 21, 22, 23, 24, 25, 26, 27, 28, 29, 34, 31, 32, 33] rfl (by decide +kernel) rfl rfl rfl rfl qw515 k_X6_reasonAgainst ⟨rfl, rfl, Nat.le_of_ble_eq_true rfl, Nat.le_of_ble_eq_true rfl⟩ ⟨Nat.zero_le _, Nat.zero_le _⟩ hl.1 (Nat.le_of_ble_eq_true rfl) dX10_requirePossible_4 rfl (fun H locs hw => ?_)
  refine lv_if_eq (tgt := 21) hx hb dX10_requirePossible_7 (by decide) (fun c7 => ?_) (fun c7 => ?_)
  · replace hf := ip c7 hf
    exact hret _ _ _ _ (jr hf) dX10_requirePossible_21 hw
  · replace hf := iq c7 hf
    exact nlr hf
theorem k_X10_add : xKV yX10_add cX10_add 3 (some .int) 2 := ⟨qw508, qw509, qw13, qw510, by decide +kernel, by decide +kernel, by decide +kernel⟩
set_option maxHeartbeats 4000000 in
set_option maxRecDepth 100000 in
theorem met_X10_add (l : Launch) (g : xG) (h : Nat → Nat) (now : SC) (snap : SC) (has : Int32) (hist : HC) (ent : EC) (res : RC) (num : NC) (col : CC) (a1 : Int32) (a2 : Int32) (out : Int32 × SC × HC × RC) (hf : f_X10_add now hist res a1 a2 = some (Sum.inr out)) : xM l yX10_add (xC yX10_add cX10_add 3 (some .int)) { frames := 3, cells := 0, slots := 0, locals := 82 } g (wC g h now snap has hist ent res num col) [.ref (h 0), .int a1, .int a2] (some (.int out.1)) (wC g h out.2.1 snap has out.2.2.1 ent out.2.2.2 num col) := by
  refine xof (by decide) (Nat.le_of_ble_eq_true rfl) ⟨rfl, rfl⟩ ?_
  intro p e s m below meth c A ls E hr hlocks hw hl hpost hAe
  have hx := E.1.1
  have hb := E.1.2.1
  have hown := E.1.2.2.2.1
  have hts := E.1.2.2.2.2
  generalize hZ : (MQ below (xPost g (wC g h now snap has hist ent res num col) (wC g h out.2.1 snap has out.2.2.1 ent out.2.2.2 num col) s.heap.size (some (.int out.1))) [.ref (h 0), .int a1, .int a2].toArray s 0 0 A) = ZZ
  have hret : ∀ (pc : Nat) (H : Heap) (locs : List Loc) (ls : Array Slot) (v : Int32) (cnow : SC) (chist : HC) (cres : RC), (v, cnow, chist, cres) = out → decode cX10_add pc = .ok (.ireturn, 1) → xW g A s.heap (wC g h cnow snap has chist ent cres num col) H locs → W p l e { frames := 3, cells := 0, slots := 0, locals := 82 } s m [.ref (h 0), .int a1, .int a2].toArray below meth c H locs 0 0 ZZ (F0 m pc ls [.int v]) := by
    intro pc H locs ls v cnow chist cres he hd hw
    subst he
    rw [← hZ]
    exact W.iret hx hb hr (hpost H locs hw).1 (hpost H locs hw).2 hd hlocks
  clear hpost
  refine lv_iload_n hx hb dX10_add_0 rfl (lv_at hl 1 rfl) ?_
  refine lv_iload_n hx hb dX10_add_1 rfl (lv_at hl 2 rfl) ?_
  obtain ⟨v2, hv2, hf⟩ := ob_e hf
  rcases v2 with t2 | u2
  · exact nlr hf
  · refine xcallS (ws' := (wC g h now snap has hist ent res num col)) (st1 := []) (n := 34) E hw [.int a1, .int a2] [] (met_X10_requireAccounts l g a1 a2 u2 hv2) rfl (by decide) rfl rfl [0, 1, 2, 3, 4, 5, 6, 7, 8, 9, 10, 11, 12, 13, 14, 15, 16, 17, 18, 19, 20, 21, 22, 23, 24, 25, 26, 27, 28, 29, 30, 31, 32, 33] rfl (by decide +kernel) rfl qw498 k_X10_requireAccounts ⟨rfl, rfl, Nat.le_of_ble_eq_true rfl, Nat.le_of_ble_eq_true rfl⟩ ⟨Nat.zero_le _, Nat.zero_le _⟩ hl.1 (Nat.le_of_ble_eq_true rfl) dX10_add_2 rfl (fun H locs hw => ?_)
    refine lv_aload_n hx hb dX10_add_5 rfl (lv_at hl 0 rfl) ?_
    refine lv_iload_n hx hb dX10_add_6 rfl (lv_at hl 1 rfl) ?_
    refine lv_iload_n hx hb dX10_add_7 rfl (lv_at hl 2 rfl) ?_
    obtain ⟨v8, hv8, hf⟩ := ob_e hf
    refine xcallV (ws' := (wC g h now snap has hist ent v8 num col)) (st1 := []) (n := 34) E hw [.int a1, .int a2] [0, 1, 2, 3, 4, 5, 6, 7, 8, 9, 10, 11, 12, 13, 14, 15, 16, 17, 18, 19, 20, 21, 22, 23, 24, 25, 26, 27, 28, 29, 30, 31, 32, 33] (met_X10_formSum l g h now snap has hist ent res num col a1 a2 v8 hv8) rfl (by decide) rfl rfl [34, 35, 36, 37, 38, 39, 40, 41, 42, 43, 44, 45, 46, 47, 48, 49, 50, 51, 52, 53, 54, 55, 56, 57, 58, 59, 60, 61, 62, 63, 64, 65, 66, 67] rfl (by decide +kernel) rfl rfl rfl rfl qw501 k_X10_formSum ⟨rfl, rfl, Nat.le_of_ble_eq_true rfl, Nat.le_of_ble_eq_true rfl⟩ ⟨Nat.zero_le _, Nat.zero_le _⟩ hl.1 (Nat.le_of_ble_eq_true rfl) dX10_add_8 rfl (fun H locs hw => ?_)
    refine lv_aload_n hx hb dX10_add_11 rfl (lv_at hl 0 rfl) ?_
    obtain ⟨v12, hv12, hf⟩ := ob_e hf
    rcases v12 with t12 | u12
    · exact nlr hf
    · refine xcallV (ws' := (wC g h now snap has hist ent v8 num col)) (st1 := []) (n := 34) E hw [] [0, 1, 2, 3, 4, 5, 6, 7, 8, 9, 10, 11, 12, 13, 14, 15, 16, 17, 18, 19, 20, 21, 22, 23, 24, 25, 26, 27, 28, 29, 30, 31, 32, 33] (met_X10_requirePossible l g h now snap has hist ent v8 num col u12 hv12) rfl (by decide) rfl rfl [34, 35, 36, 37, 38, 39, 40, 41, 42, 43, 44, 45, 46, 47, 48, 49, 50, 51, 52, 53, 54, 55, 56, 57, 58, 59, 60, 61, 62, 63, 64, 65, 66, 67] rfl (by decide +kernel) rfl rfl rfl rfl qw511 k_X10_requirePossible ⟨rfl, rfl, Nat.le_of_ble_eq_true rfl, Nat.le_of_ble_eq_true rfl⟩ ⟨Nat.zero_le _, Nat.zero_le _⟩ hl.1 (Nat.le_of_ble_eq_true rfl) dX10_add_12 rfl (fun H locs hw => ?_)
      refine lv_aload_n hx hb dX10_add_15 rfl (lv_at hl 0 rfl) ?_
      refine lv_iload_n hx hb dX10_add_16 rfl (lv_at hl 1 rfl) ?_
      obtain ⟨v17, hv17, hf⟩ := ob_e hf
      refine xcallV (ws' := (wC g h v17.1 snap has v17.2 ent v8 num col)) (st1 := []) (n := 34) E hw [.int a1] [0, 1, 2, 3, 4, 5, 6, 7, 8, 9, 10, 11, 12, 13, 14, 15, 16, 17, 18, 19, 20, 21, 22, 23, 24, 25, 26, 27, 28, 29, 30, 31, 32, 33] (met_X10_saveAndStore l g h now snap has hist ent v8 num col a1 v17 hv17) rfl (by decide) rfl rfl [34, 35, 36, 37, 38, 39, 40, 41, 42, 43, 44, 45, 46, 47, 48, 49, 50, 51, 52, 53, 54, 55, 56, 57, 58, 59, 60, 61, 62, 63, 64, 65, 66, 67] rfl (by decide +kernel) rfl rfl rfl rfl qw486 k_X10_saveAndStore ⟨rfl, rfl, Nat.le_of_ble_eq_true rfl, Nat.le_of_ble_eq_true rfl⟩ ⟨Nat.zero_le _, Nat.zero_le _⟩ hl.1 (Nat.le_of_ble_eq_true rfl) dX10_add_17 rfl (fun H locs hw => ?_)
      refine lv_aload_n hx hb dX10_add_20 rfl (lv_at hl 0 rfl) ?_
      refine xget (v := .ref (h 1)) E hw 0 rfl rfl 0 (by decide) inw10 qw186 rfl rfl dX10_add_21 ?_
      refine lv_iload_n hx hb dX10_add_24 rfl (lv_at hl 1 rfl) ?_
      obtain ⟨v25, hv25, hf⟩ := ob_e hf
      refine xcallV (ws' := (wC g h v17.1 snap has v17.2 ent v8 num col)) (st1 := [.int v25]) (n := 34) E hw [.int a1] [1, 2, 3] (met_X7_numeratorOf l g h 1 v17.1 a1 v25 hv25) rfl (by decide) rfl rfl [0, 34, 35, 36, 4, 5, 6, 7, 8, 9, 10, 11, 12, 13, 14, 15, 16, 17, 18, 19, 20, 21, 22, 23, 24, 25, 26, 27, 28, 29, 30, 31, 32, 33] rfl (by decide +kernel) rfl rfl rfl rfl qw329 k_X7_numeratorOf ⟨rfl, rfl, Nat.le_of_ble_eq_true rfl, Nat.le_of_ble_eq_true rfl⟩ ⟨Nat.zero_le _, Nat.zero_le _⟩ hl.1 (Nat.le_of_ble_eq_true rfl) dX10_add_25 rfl (fun H locs hw => ?_)
      exact hret _ _ _ _ _ _ _ _ (jr hf) dX10_add_28 hw
theorem k_X10_subtract : xKV yX10_subtract cX10_subtract 3 (some .int) 2 := ⟨qw523, qw524, qw13, qw525, by decide +kernel, by decide +kernel, by decide +kernel⟩
set_option maxHeartbeats 4000000 in
set_option maxRecDepth 100000 in
theorem met_X10_subtract (l : Launch) (g : xG) (h : Nat → Nat) (now : SC) (snap : SC) (has : Int32) (hist : HC) (ent : EC) (res : RC) (num : NC) (col : CC) (a1 : Int32) (a2 : Int32) (out : Int32 × SC × HC × RC) (hf : f_X10_subtract now hist res a1 a2 = some (Sum.inr out)) : xM l yX10_subtract (xC yX10_subtract cX10_subtract 3 (some .int)) { frames := 3, cells := 0, slots := 0, locals := 82 } g (wC g h now snap has hist ent res num col) [.ref (h 0), .int a1, .int a2] (some (.int out.1)) (wC g h out.2.1 snap has out.2.2.1 ent out.2.2.2 num col) := by
  refine xof (by decide) (Nat.le_of_ble_eq_true rfl) ⟨rfl, rfl⟩ ?_
  intro p e s m below meth c A ls E hr hlocks hw hl hpost hAe
  have hx := E.1.1
  have hb := E.1.2.1
  have hown := E.1.2.2.2.1
  have hts := E.1.2.2.2.2
  generalize hZ : (MQ below (xPost g (wC g h now snap has hist ent res num col) (wC g h out.2.1 snap has out.2.2.1 ent out.2.2.2 num col) s.heap.size (some (.int out.1))) [.ref (h 0), .int a1, .int a2].toArray s 0 0 A) = ZZ
  have hret : ∀ (pc : Nat) (H : Heap) (locs : List Loc) (ls : Array Slot) (v : Int32) (cnow : SC) (chist : HC) (cres : RC), (v, cnow, chist, cres) = out → decode cX10_subtract pc = .ok (.ireturn, 1) → xW g A s.heap (wC g h cnow snap has chist ent cres num col) H locs → W p l e { frames := 3, cells := 0, slots := 0, locals := 82 } s m [.ref (h 0), .int a1, .int a2].toArray below meth c H locs 0 0 ZZ (F0 m pc ls [.int v]) := by
    intro pc H locs ls v cnow chist cres he hd hw
    subst he
    rw [← hZ]
    exact W.iret hx hb hr (hpost H locs hw).1 (hpost H locs hw).2 hd hlocks
  clear hpost
  refine lv_iload_n hx hb dX10_subtract_0 rfl (lv_at hl 1 rfl) ?_
  refine lv_iload_n hx hb dX10_subtract_1 rfl (lv_at hl 2 rfl) ?_
  obtain ⟨v2, hv2, hf⟩ := ob_e hf
  rcases v2 with t2 | u2
  · exact nlr hf
  · refine xcallS (ws' := (wC g h now snap has hist ent res num col)) (st1 := []) (n := 34) E hw [.int a1, .int a2] [] (met_X10_requireAccounts l g a1 a2 u2 hv2) rfl (by decide) rfl rfl [0, 1, 2, 3, 4, 5, 6, 7, 8, 9, 10, 11, 12, 13, 14, 15, 16, 17, 18, 19, 20, 21, 22, 23, 24, 25, 26, 27, 28, 29, 30, 31, 32, 33] rfl (by decide +kernel) rfl qw498 k_X10_requireAccounts ⟨rfl, rfl, Nat.le_of_ble_eq_true rfl, Nat.le_of_ble_eq_true rfl⟩ ⟨Nat.zero_le _, Nat.zero_le _⟩ hl.1 (Nat.le_of_ble_eq_true rfl) dX10_subtract_2 rfl (fun H locs hw => ?_)
    refine lv_aload_n hx hb dX10_subtract_5 rfl (lv_at hl 0 rfl) ?_
    refine lv_iload_n hx hb dX10_subtract_6 rfl (lv_at hl 1 rfl) ?_
    refine lv_iload_n hx hb dX10_subtract_7 rfl (lv_at hl 2 rfl) ?_
    obtain ⟨v8, hv8, hf⟩ := ob_e hf
    refine xcallV (ws' := (wC g h now snap has hist ent v8 num col)) (st1 := []) (n := 34) E hw [.int a1, .int a2] [0, 1, 2, 3, 4, 5, 6, 7, 8, 9, 10, 11, 12, 13, 14, 15, 16, 17, 18, 19, 20, 21, 22, 23, 24, 25, 26, 27, 28, 29, 30, 31, 32, 33] (met_X10_formDifference l g h now snap has hist ent res num col a1 a2 v8 hv8) rfl (by decide) rfl rfl [34, 35, 36, 37, 38, 39, 40, 41, 42, 43, 44, 45, 46, 47, 48, 49, 50, 51, 52, 53, 54, 55, 56, 57, 58, 59, 60, 61, 62, 63, 64, 65, 66, 67] rfl (by decide +kernel) rfl rfl rfl rfl qw526 k_X10_formDifference ⟨rfl, rfl, Nat.le_of_ble_eq_true rfl, Nat.le_of_ble_eq_true rfl⟩ ⟨Nat.zero_le _, Nat.zero_le _⟩ hl.1 (Nat.le_of_ble_eq_true rfl) dX10_subtract_8 rfl (fun H locs hw => ?_)
    refine lv_aload_n hx hb dX10_subtract_11 rfl (lv_at hl 0 rfl) ?_
    obtain ⟨v12, hv12, hf⟩ := ob_e hf
    rcases v12 with t12 | u12
    · exact nlr hf
    · refine xcallV (ws' := (wC g h now snap has hist ent v8 num col)) (st1 := []) (n := 34) E hw [] [0, 1, 2, 3, 4, 5, 6, 7, 8, 9, 10, 11, 12, 13, 14, 15, 16, 17, 18, 19, 20, 21, 22, 23, 24, 25, 26, 27, 28, 29, 30, 31, 32, 33] (met_X10_requirePossible l g h now snap has hist ent v8 num col u12 hv12) rfl (by decide) rfl rfl [34, 35, 36, 37, 38, 39, 40, 41, 42, 43, 44, 45, 46, 47, 48, 49, 50, 51, 52, 53, 54, 55, 56, 57, 58, 59, 60, 61, 62, 63, 64, 65, 66, 67] rfl (by decide +kernel) rfl rfl rfl rfl qw511 k_X10_requirePossible ⟨rfl, rfl, Nat.le_of_ble_eq_true rfl, Nat.le_of_ble_eq_true rfl⟩ ⟨Nat.zero_le _, Nat.zero_le _⟩ hl.1 (Nat.le_of_ble_eq_true rfl) dX10_subtract_12 rfl (fun H locs hw => ?_)
      refine lv_aload_n hx hb dX10_subtract_15 rfl (lv_at hl 0 rfl) ?_
      refine lv_iload_n hx hb dX10_subtract_16 rfl (lv_at hl 1 rfl) ?_
      obtain ⟨v17, hv17, hf⟩ := ob_e hf
      refine xcallV (ws' := (wC g h v17.1 snap has v17.2 ent v8 num col)) (st1 := []) (n := 34) E hw [.int a1] [0, 1, 2, 3, 4, 5, 6, 7, 8, 9, 10, 11, 12, 13, 14, 15, 16, 17, 18, 19, 20, 21, 22, 23, 24, 25, 26, 27, 28, 29, 30, 31, 32, 33] (met_X10_saveAndStore l g h now snap has hist ent v8 num col a1 v17 hv17) rfl (by decide) rfl rfl [34, 35, 36, 37, 38, 39, 40, 41, 42, 43, 44, 45, 46, 47, 48, 49, 50, 51, 52, 53, 54, 55, 56, 57, 58, 59, 60, 61, 62, 63, 64, 65, 66, 67] rfl (by decide +kernel) rfl rfl rfl rfl qw486 k_X10_saveAndStore ⟨rfl, rfl, Nat.le_of_ble_eq_true rfl, Nat.le_of_ble_eq_true rfl⟩ ⟨Nat.zero_le _, Nat.zero_le _⟩ hl.1 (Nat.le_of_ble_eq_true rfl) dX10_subtract_17 rfl (fun H locs hw => ?_)
      refine lv_aload_n hx hb dX10_subtract_20 rfl (lv_at hl 0 rfl) ?_
      refine xget (v := .ref (h 1)) E hw 0 rfl rfl 0 (by decide) inw10 qw186 rfl rfl dX10_subtract_21 ?_
      refine lv_iload_n hx hb dX10_subtract_24 rfl (lv_at hl 1 rfl) ?_
      obtain ⟨v25, hv25, hf⟩ := ob_e hf
      refine xcallV (ws' := (wC g h v17.1 snap has v17.2 ent v8 num col)) (st1 := [.int v25]) (n := 34) E hw [.int a1] [1, 2, 3] (met_X7_numeratorOf l g h 1 v17.1 a1 v25 hv25) rfl (by decide) rfl rfl [0, 34, 35, 36, 4, 5, 6, 7, 8, 9, 10, 11, 12, 13, 14, 15, 16, 17, 18, 19, 20, 21, 22, 23, 24, 25, 26, 27, 28, 29, 30, 31, 32, 33] rfl (by decide +kernel) rfl rfl rfl rfl qw329 k_X7_numeratorOf ⟨rfl, rfl, Nat.le_of_ble_eq_true rfl, Nat.le_of_ble_eq_true rfl⟩ ⟨Nat.zero_le _, Nat.zero_le _⟩ hl.1 (Nat.le_of_ble_eq_true rfl) dX10_subtract_25 rfl (fun H locs hw => ?_)
      exact hret _ _ _ _ _ _ _ _ (jr hf) dX10_subtract_28 hw
theorem k_X10_shift : xKV yX10_shift cX10_shift 3 (some .int) 2 := ⟨qw532, qw533, qw13, qw534, by decide +kernel, by decide +kernel, by decide +kernel⟩
set_option maxHeartbeats 4000000 in
set_option maxRecDepth 100000 in
theorem met_X10_shift (l : Launch) (g : xG) (h : Nat → Nat) (now : SC) (snap : SC) (has : Int32) (hist : HC) (ent : EC) (res : RC) (num : NC) (col : CC) (a1 : Int32) (a2 : Int32) (out : Int32 × SC × HC × RC) (hf : f_X10_shift now hist res a1 a2 = some (Sum.inr out)) : xM l yX10_shift (xC yX10_shift cX10_shift 3 (some .int)) { frames := 3, cells := 0, slots := 0, locals := 80 } g (wC g h now snap has hist ent res num col) [.ref (h 0), .int a1, .int a2] (some (.int out.1)) (wC g h out.2.1 snap has out.2.2.1 ent out.2.2.2 num col) := by
  refine xof (by decide) (Nat.le_of_ble_eq_true rfl) ⟨rfl, rfl⟩ ?_
  intro p e s m below meth c A ls E hr hlocks hw hl hpost hAe
  have hx := E.1.1
  have hb := E.1.2.1
  have hown := E.1.2.2.2.1
  have hts := E.1.2.2.2.2
  generalize hZ : (MQ below (xPost g (wC g h now snap has hist ent res num col) (wC g h out.2.1 snap has out.2.2.1 ent out.2.2.2 num col) s.heap.size (some (.int out.1))) [.ref (h 0), .int a1, .int a2].toArray s 0 0 A) = ZZ
  have hret : ∀ (pc : Nat) (H : Heap) (locs : List Loc) (ls : Array Slot) (v : Int32) (cnow : SC) (chist : HC) (cres : RC), (v, cnow, chist, cres) = out → decode cX10_shift pc = .ok (.ireturn, 1) → xW g A s.heap (wC g h cnow snap has chist ent cres num col) H locs → W p l e { frames := 3, cells := 0, slots := 0, locals := 80 } s m [.ref (h 0), .int a1, .int a2].toArray below meth c H locs 0 0 ZZ (F0 m pc ls [.int v]) := by
    intro pc H locs ls v cnow chist cres he hd hw
    subst he
    rw [← hZ]
    exact W.iret hx hb hr (hpost H locs hw).1 (hpost H locs hw).2 hd hlocks
  clear hpost
  have b15 : ∀ (H : Heap) (locs : List Loc) (ls : Array Slot) (now : SC) (hist : HC) (res : RC), xW g A s.heap (wC g h now snap has hist ent res num col) H locs → lv_has ls 3 [] → f_X10_shift_b15 now hist res = some (Sum.inr out) → W p l e { frames := 3, cells := 0, slots := 0, locals := 80 } s m [.ref (h 0), .int a1, .int a2].toArray below meth c H locs 0 0 ZZ (F0 m 15 ls []) := by
    intro H locs ls now hist res hw hl hf
    exact nlr hf
  refine lv_iload_n hx hb dX10_shift_0 rfl (lv_at hl 1 rfl) ?_
  obtain ⟨v1, hv1, hf⟩ := ob_e hf
  rcases v1 with t1 | u1
  · exact nlr hf
  · refine xcallS (ws' := (wC g h now snap has hist ent res num col)) (st1 := []) (n := 34) E hw [.int a1] [] (met_X10_requireAccount l g a1 u1 hv1) rfl (by decide) rfl rfl [0, 1, 2, 3, 4, 5, 6, 7, 8, 9, 10, 11, 12, 13, 14, 15, 16, 17, 18, 19, 20, 21, 22, 23, 24, 25, 26, 27, 28, 29, 30, 31, 32, 33] rfl (by decide +kernel) rfl qw310 k_X10_requireAccount ⟨rfl, rfl, Nat.le_of_ble_eq_true rfl, Nat.le_of_ble_eq_true rfl⟩ ⟨Nat.zero_le _, Nat.zero_le _⟩ hl.1 (Nat.le_of_ble_eq_true rfl) dX10_shift_1 rfl (fun H locs hw => ?_)
    refine lv_iload_n hx hb dX10_shift_4 rfl (lv_at hl 2 rfl) ?_
    refine lv_bipush (v := (-3)) hx hb dX10_shift_5 (by decide) ?_
    refine lv_icmp_lt (tgt := 15) hx hb dX10_shift_7 (by decide) (fun c7 => ?_) (fun c7 => ?_)
    · replace hf := ip c7 hf
      exact b15 _ _ _ now hist res hw (lv_sub hl [] rfl) hf
    · replace hf := iq c7 hf
      refine lv_iload_n hx hb dX10_shift_10 rfl (lv_at hl 2 rfl) ?_
      refine lv_iconst (v := 3) hx hb dX10_shift_11 (by decide) ?_
      refine lv_icmp_le (tgt := 25) hx hb dX10_shift_12 (by decide) (fun c12 => ?_) (fun c12 => ?_)
      · replace hf := ip c12 hf
        refine lv_aload_n hx hb dX10_shift_25 rfl (lv_at hl 0 rfl) ?_
        refine lv_iload_n hx hb dX10_shift_26 rfl (lv_at hl 1 rfl) ?_
        refine lv_iload_n hx hb dX10_shift_27 rfl (lv_at hl 2 rfl) ?_
        obtain ⟨v28, hv28, hf⟩ := ob_e hf
        refine xcallV (ws' := (wC g h now snap has hist ent v28 num col)) (st1 := []) (n := 34) E hw [.int a1, .int a2] [0, 1, 2, 3, 4, 5, 6, 7, 8, 9, 10, 11, 12, 13, 14, 15, 16, 17, 18, 19, 20, 21, 22, 23, 24, 25, 26, 27, 28, 29, 30, 31, 32, 33] (met_X10_formShift l g h now snap has hist ent res num col a1 a2 v28 hv28) rfl (by decide) rfl rfl [34, 35, 36, 37, 38, 39, 40, 41, 42, 43, 44, 45, 46, 47, 48, 49, 50, 51, 52, 53, 54, 55, 56, 57, 58, 59, 60, 61, 62, 63, 64, 65, 66, 67] rfl (by decide +kernel) rfl rfl rfl rfl qw536 k_X10_formShift ⟨rfl, rfl, Nat.le_of_ble_eq_true rfl, Nat.le_of_ble_eq_true rfl⟩ ⟨Nat.zero_le _, Nat.zero_le _⟩ hl.1 (Nat.le_of_ble_eq_true rfl) dX10_shift_28 rfl (fun H locs hw => ?_)
        refine lv_aload_n hx hb dX10_shift_31 rfl (lv_at hl 0 rfl) ?_
        obtain ⟨v32, hv32, hf⟩ := ob_e hf
        rcases v32 with t32 | u32
        · exact nlr hf
        · refine xcallV (ws' := (wC g h now snap has hist ent v28 num col)) (st1 := []) (n := 34) E hw [] [0, 1, 2, 3, 4, 5, 6, 7, 8, 9, 10, 11, 12, 13, 14, 15, 16, 17, 18, 19, 20, 21, 22, 23, 24, 25, 26, 27, 28, 29, 30, 31, 32, 33] (met_X10_requirePossible l g h now snap has hist ent v28 num col u32 hv32) rfl (by decide) rfl rfl [34, 35, 36, 37, 38, 39, 40, 41, 42, 43, 44, 45, 46, 47, 48, 49, 50, 51, 52, 53, 54, 55, 56, 57, 58, 59, 60, 61, 62, 63, 64, 65, 66, 67] rfl (by decide +kernel) rfl rfl rfl rfl qw511 k_X10_requirePossible ⟨rfl, rfl, Nat.le_of_ble_eq_true rfl, Nat.le_of_ble_eq_true rfl⟩ ⟨Nat.zero_le _, Nat.zero_le _⟩ hl.1 (Nat.le_of_ble_eq_true rfl) dX10_shift_32 rfl (fun H locs hw => ?_)
          refine lv_aload_n hx hb dX10_shift_35 rfl (lv_at hl 0 rfl) ?_
          refine lv_iload_n hx hb dX10_shift_36 rfl (lv_at hl 1 rfl) ?_
          obtain ⟨v37, hv37, hf⟩ := ob_e hf
          refine xcallV (ws' := (wC g h v37.1 snap has v37.2 ent v28 num col)) (st1 := []) (n := 34) E hw [.int a1] [0, 1, 2, 3, 4, 5, 6, 7, 8, 9, 10, 11, 12, 13, 14, 15, 16, 17, 18, 19, 20, 21, 22, 23, 24, 25, 26, 27, 28, 29, 30, 31, 32, 33] (met_X10_saveAndStore l g h now snap has hist ent v28 num col a1 v37 hv37) rfl (by decide) rfl rfl [34, 35, 36, 37, 38, 39, 40, 41, 42, 43, 44, 45, 46, 47, 48, 49, 50, 51, 52, 53, 54, 55, 56, 57, 58, 59, 60, 61, 62, 63, 64, 65, 66, 67] rfl (by decide +kernel) rfl rfl rfl rfl qw486 k_X10_saveAndStore ⟨rfl, rfl, Nat.le_of_ble_eq_true rfl, Nat.le_of_ble_eq_true rfl⟩ ⟨Nat.zero_le _, Nat.zero_le _⟩ hl.1 (Nat.le_of_ble_eq_true rfl) dX10_shift_37 rfl (fun H locs hw => ?_)
          refine lv_aload_n hx hb dX10_shift_40 rfl (lv_at hl 0 rfl) ?_
          refine xget (v := .ref (h 1)) E hw 0 rfl rfl 0 (by decide) inw10 qw186 rfl rfl dX10_shift_41 ?_
          refine lv_iload_n hx hb dX10_shift_44 rfl (lv_at hl 1 rfl) ?_
          obtain ⟨v45, hv45, hf⟩ := ob_e hf
          refine xcallV (ws' := (wC g h v37.1 snap has v37.2 ent v28 num col)) (st1 := [.int v45]) (n := 34) E hw [.int a1] [1, 2, 3] (met_X7_denominatorOf l g h 1 v37.1 a1 v45 hv45) rfl (by decide) rfl rfl [0, 34, 35, 36, 4, 5, 6, 7, 8, 9, 10, 11, 12, 13, 14, 15, 16, 17, 18, 19, 20, 21, 22, 23, 24, 25, 26, 27, 28, 29, 30, 31, 32, 33] rfl (by decide +kernel) rfl rfl rfl rfl qw340 k_X7_denominatorOf ⟨rfl, rfl, Nat.le_of_ble_eq_true rfl, Nat.le_of_ble_eq_true rfl⟩ ⟨Nat.zero_le _, Nat.zero_le _⟩ hl.1 (Nat.le_of_ble_eq_true rfl) dX10_shift_45 rfl (fun H locs hw => ?_)
          exact hret _ _ _ _ _ _ _ _ (jr hf) dX10_shift_48 hw
      · replace hf := iq c12 hf
        exact b15 _ _ _ now hist res hw (lv_sub hl [] rfl) hf
theorem k_X10_pay : xKV yX10_pay cX10_pay 4 (some .int) 3 := ⟨qw552, qw553, qw13, qw554, by decide +kernel, by decide +kernel, by decide +kernel⟩
set_option maxHeartbeats 4000000 in
set_option maxRecDepth 100000 in
theorem met_X10_pay (l : Launch) (g : xG) (h : Nat → Nat) (now : SC) (snap : SC) (has : Int32) (hist : HC) (ent : EC) (res : RC) (num : NC) (col : CC) (a1 : Int32) (a2 : Int32) (a3 : Int32) (out : Int32 × SC × HC × RC) (hf : f_X10_pay now hist res a1 a2 a3 = some (Sum.inr out)) : xM l yX10_pay (xC yX10_pay cX10_pay 4 (some .int)) { frames := 3, cells := 0, slots := 0, locals := 81 } g (wC g h now snap has hist ent res num col) [.ref (h 0), .int a1, .int a2, .int a3] (some (.int out.1)) (wC g h out.2.1 snap has out.2.2.1 ent out.2.2.2 num col) := by
  refine xof (by decide) (Nat.le_of_ble_eq_true rfl) ⟨rfl, rfl⟩ ?_
  intro p e s m below meth c A ls E hr hlocks hw hl hpost hAe
  have hx := E.1.1
  have hb := E.1.2.1
  have hown := E.1.2.2.2.1
  have hts := E.1.2.2.2.2
  generalize hZ : (MQ below (xPost g (wC g h now snap has hist ent res num col) (wC g h out.2.1 snap has out.2.2.1 ent out.2.2.2 num col) s.heap.size (some (.int out.1))) [.ref (h 0), .int a1, .int a2, .int a3].toArray s 0 0 A) = ZZ
  have hret : ∀ (pc : Nat) (H : Heap) (locs : List Loc) (ls : Array Slot) (v : Int32) (cnow : SC) (chist : HC) (cres : RC), (v, cnow, chist, cres) = out → decode cX10_pay pc = .ok (.ireturn, 1) → xW g A s.heap (wC g h cnow snap has chist ent cres num col) H locs → W p l e { frames := 3, cells := 0, slots := 0, locals := 81 } s m [.ref (h 0), .int a1, .int a2, .int a3].toArray below meth c H locs 0 0 ZZ (F0 m pc ls [.int v]) := by
    intro pc H locs ls v cnow chist cres he hd hw
    subst he
    rw [← hZ]
    exact W.iret hx hb hr (hpost H locs hw).1 (hpost H locs hw).2 hd hlocks
  clear hpost
  have b31 : ∀ (H : Heap) (locs : List Loc) (ls : Array Slot) (now : SC) (hist : HC) (res : RC), xW g A s.heap (wC g h now snap has hist ent res num col) H locs → lv_has ls 4 [] → f_X10_pay_b31 now hist res = some (Sum.inr out) → W p l e { frames := 3, cells := 0, slots := 0, locals := 81 } s m [.ref (h 0), .int a1, .int a2, .int a3].toArray below meth c H locs 0 0 ZZ (F0 m 31 ls []) := by
    intro H locs ls now hist res hw hl hf
    exact nlr hf
  refine lv_iload_n hx hb dX10_pay_0 rfl (lv_at hl 1 rfl) ?_
  refine lv_iload_n hx hb dX10_pay_1 rfl (lv_at hl 2 rfl) ?_
  obtain ⟨v2, hv2, hf⟩ := ob_e hf
  rcases v2 with t2 | u2
  · exact nlr hf
  · refine xcallS (ws' := (wC g h now snap has hist ent res num col)) (st1 := []) (n := 34) E hw [.int a1, .int a2] [] (met_X10_requireAccounts l g a1 a2 u2 hv2) rfl (by decide) rfl rfl [0, 1, 2, 3, 4, 5, 6, 7, 8, 9, 10, 11, 12, 13, 14, 15, 16, 17, 18, 19, 20, 21, 22, 23, 24, 25, 26, 27, 28, 29, 30, 31, 32, 33] rfl (by decide +kernel) rfl qw498 k_X10_requireAccounts ⟨rfl, rfl, Nat.le_of_ble_eq_true rfl, Nat.le_of_ble_eq_true rfl⟩ ⟨Nat.zero_le _, Nat.zero_le _⟩ hl.1 (Nat.le_of_ble_eq_true rfl) dX10_pay_2 rfl (fun H locs hw => ?_)
    refine lv_iload_n hx hb dX10_pay_5 rfl (lv_at hl 1 rfl) ?_
    refine lv_iload_n hx hb dX10_pay_6 rfl (lv_at hl 2 rfl) ?_
    refine lv_icmp_ne (tgt := 20) hx hb dX10_pay_7 (by decide) (fun c7 => ?_) (fun c7 => ?_)
    · replace hf := iq c7 hf
      refine lv_iload_n hx hb dX10_pay_20 rfl (lv_at hl 3 rfl) ?_
      refine lv_iconst (v := 1) hx hb dX10_pay_21 (by decide) ?_
      refine lv_icmp_lt (tgt := 31) hx hb dX10_pay_22 (by decide) (fun c22 => ?_) (fun c22 => ?_)
      · replace hf := ip c22 hf
        exact b31 _ _ _ now hist res hw (lv_sub hl [] rfl) hf
      · replace hf := iq c22 hf
        refine lv_iload_n hx hb dX10_pay_25 rfl (lv_at hl 3 rfl) ?_
        refine lv_ldc hx hb hown (hts _ qw556) dX10_pay_26 ?_
        refine lv_icmp_le (tgt := 41) hx hb dX10_pay_28 (by decide) (fun c28 => ?_) (fun c28 => ?_)
        · replace hf := ip c28 hf
          refine lv_aload_n hx hb dX10_pay_41 rfl (lv_at hl 0 rfl) ?_
          refine lv_iload_n hx hb dX10_pay_42 rfl (lv_at hl 1 rfl) ?_
          refine lv_iload_n hx hb dX10_pay_43 rfl (lv_at hl 3 rfl) ?_
          refine lv_ineg hx hb dX10_pay_44 ?_
          refine lv_i2l hx hb dX10_pay_45 rfl ?_
          obtain ⟨v46, hv46, hf⟩ := ob_e hf
          refine xcallV (ws' := (wC g h now snap has hist ent v46 num col)) (st1 := []) (n := 34) E hw [.int a1, .long ((-a3).toInt64)] [0, 1, 2, 3, 4, 5, 6, 7, 8, 9, 10, 11, 12, 13, 14, 15, 16, 17, 18, 19, 20, 21, 22, 23, 24, 25, 26, 27, 28, 29, 30, 31, 32, 33] (met_X10_formWithCoins l g h now snap has hist ent res num col a1 ((-a3).toInt64) v46 hv46) rfl (by decide) rfl rfl [34, 35, 36, 37, 38, 39, 40, 41, 42, 43, 44, 45, 46, 47, 48, 49, 50, 51, 52, 53, 54, 55, 56, 57, 58, 59, 60, 61, 62, 63, 64, 65, 66, 67] rfl (by decide +kernel) rfl rfl rfl rfl qw558 k_X10_formWithCoins ⟨rfl, rfl, Nat.le_of_ble_eq_true rfl, Nat.le_of_ble_eq_true rfl⟩ ⟨Nat.zero_le _, Nat.zero_le _⟩ hl.1 (Nat.le_of_ble_eq_true rfl) dX10_pay_46 rfl (fun H locs hw => ?_)
          refine lv_aload_n hx hb dX10_pay_49 rfl (lv_at hl 0 rfl) ?_
          obtain ⟨v50, hv50, hf⟩ := ob_e hf
          rcases v50 with t50 | u50
          · exact nlr hf
          · refine xcallV (ws' := (wC g h now snap has hist ent v46 num col)) (st1 := []) (n := 34) E hw [] [0, 1, 2, 3, 4, 5, 6, 7, 8, 9, 10, 11, 12, 13, 14, 15, 16, 17, 18, 19, 20, 21, 22, 23, 24, 25, 26, 27, 28, 29, 30, 31, 32, 33] (met_X10_requirePossible l g h now snap has hist ent v46 num col u50 hv50) rfl (by decide) rfl rfl [34, 35, 36, 37, 38, 39, 40, 41, 42, 43, 44, 45, 46, 47, 48, 49, 50, 51, 52, 53, 54, 55, 56, 57, 58, 59, 60, 61, 62, 63, 64, 65, 66, 67] rfl (by decide +kernel) rfl rfl rfl rfl qw511 k_X10_requirePossible ⟨rfl, rfl, Nat.le_of_ble_eq_true rfl, Nat.le_of_ble_eq_true rfl⟩ ⟨Nat.zero_le _, Nat.zero_le _⟩ hl.1 (Nat.le_of_ble_eq_true rfl) dX10_pay_50 rfl (fun H locs hw => ?_)
            refine lv_aload_n hx hb dX10_pay_53 rfl (lv_at hl 0 rfl) ?_
            refine lv_iload_n hx hb dX10_pay_54 rfl (lv_at hl 2 rfl) ?_
            refine lv_iload_n hx hb dX10_pay_55 rfl (lv_at hl 3 rfl) ?_
            refine lv_i2l hx hb dX10_pay_56 rfl ?_
            obtain ⟨v57, hv57, hf⟩ := ob_e hf
            refine xcallV (ws' := (wC g h now snap has hist ent v57 num col)) (st1 := []) (n := 34) E hw [.int a2, .long a3.toInt64] [0, 1, 2, 3, 4, 5, 6, 7, 8, 9, 10, 11, 12, 13, 14, 15, 16, 17, 18, 19, 20, 21, 22, 23, 24, 25, 26, 27, 28, 29, 30, 31, 32, 33] (met_X10_formWithCoins l g h now snap has hist ent v46 num col a2 a3.toInt64 v57 hv57) rfl (by decide) rfl rfl [34, 35, 36, 37, 38, 39, 40, 41, 42, 43, 44, 45, 46, 47, 48, 49, 50, 51, 52, 53, 54, 55, 56, 57, 58, 59, 60, 61, 62, 63, 64, 65, 66, 67] rfl (by decide +kernel) rfl rfl rfl rfl qw558 k_X10_formWithCoins ⟨rfl, rfl, Nat.le_of_ble_eq_true rfl, Nat.le_of_ble_eq_true rfl⟩ ⟨Nat.zero_le _, Nat.zero_le _⟩ hl.1 (Nat.le_of_ble_eq_true rfl) dX10_pay_57 rfl (fun H locs hw => ?_)
            refine lv_aload_n hx hb dX10_pay_60 rfl (lv_at hl 0 rfl) ?_
            obtain ⟨v61, hv61, hf⟩ := ob_e hf
            rcases v61 with t61 | u61
            · exact nlr hf
            · refine xcallV (ws' := (wC g h now snap has hist ent v57 num col)) (st1 := []) (n := 34) E hw [] [0, 1, 2, 3, 4, 5, 6, 7, 8, 9, 10, 11, 12, 13, 14, 15, 16, 17, 18, 19, 20, 21, 22, 23, 24, 25, 26, 27, 28, 29, 30, 31, 32, 33] (met_X10_requirePossible l g h now snap has hist ent v57 num col u61 hv61) rfl (by decide) rfl rfl [34, 35, 36, 37, 38, 39, 40, 41, 42, 43, 44, 45, 46, 47, 48, 49, 50, 51, 52, 53, 54, 55, 56, 57, 58, 59, 60, 61, 62, 63, 64, 65, 66, 67] rfl (by decide +kernel) rfl rfl rfl rfl qw511 k_X10_requirePossible ⟨rfl, rfl, Nat.le_of_ble_eq_true rfl, Nat.le_of_ble_eq_true rfl⟩ ⟨Nat.zero_le _, Nat.zero_le _⟩ hl.1 (Nat.le_of_ble_eq_true rfl) dX10_pay_61 rfl (fun H locs hw => ?_)
              refine lv_aload_n hx hb dX10_pay_64 rfl (lv_at hl 0 rfl) ?_
              refine lv_iload_n hx hb dX10_pay_65 rfl (lv_at hl 2 rfl) ?_
              obtain ⟨v66, hv66, hf⟩ := ob_e hf
              refine xcallV (ws' := (wC g h v66.1 snap has v66.2 ent v57 num col)) (st1 := []) (n := 34) E hw [.int a2] [0, 1, 2, 3, 4, 5, 6, 7, 8, 9, 10, 11, 12, 13, 14, 15, 16, 17, 18, 19, 20, 21, 22, 23, 24, 25, 26, 27, 28, 29, 30, 31, 32, 33] (met_X10_saveAndStore l g h now snap has hist ent v57 num col a2 v66 hv66) rfl (by decide) rfl rfl [34, 35, 36, 37, 38, 39, 40, 41, 42, 43, 44, 45, 46, 47, 48, 49, 50, 51, 52, 53, 54, 55, 56, 57, 58, 59, 60, 61, 62, 63, 64, 65, 66, 67] rfl (by decide +kernel) rfl rfl rfl rfl qw486 k_X10_saveAndStore ⟨rfl, rfl, Nat.le_of_ble_eq_true rfl, Nat.le_of_ble_eq_true rfl⟩ ⟨Nat.zero_le _, Nat.zero_le _⟩ hl.1 (Nat.le_of_ble_eq_true rfl) dX10_pay_66 rfl (fun H locs hw => ?_)
              refine lv_aload_n hx hb dX10_pay_69 rfl (lv_at hl 0 rfl) ?_
              refine lv_iload_n hx hb dX10_pay_70 rfl (lv_at hl 1 rfl) ?_
              refine lv_iload_n hx hb dX10_pay_71 rfl (lv_at hl 3 rfl) ?_
              refine lv_ineg hx hb dX10_pay_72 ?_
              refine lv_i2l hx hb dX10_pay_73 rfl ?_
              obtain ⟨v74, hv74, hf⟩ := ob_e hf
              refine xcallV (ws' := (wC g h v66.1 snap has v66.2 ent v74 num col)) (st1 := []) (n := 34) E hw [.int a1, .long ((-a3).toInt64)] [0, 1, 2, 3, 4, 5, 6, 7, 8, 9, 10, 11, 12, 13, 14, 15, 16, 17, 18, 19, 20, 21, 22, 23, 24, 25, 26, 27, 28, 29, 30, 31, 32, 33] (met_X10_formWithCoins l g h v66.1 snap has v66.2 ent v57 num col a1 ((-a3).toInt64) v74 hv74) rfl (by decide) rfl rfl [34, 35, 36, 37, 38, 39, 40, 41, 42, 43, 44, 45, 46, 47, 48, 49, 50, 51, 52, 53, 54, 55, 56, 57, 58, 59, 60, 61, 62, 63, 64, 65, 66, 67] rfl (by decide +kernel) rfl rfl rfl rfl qw558 k_X10_formWithCoins ⟨rfl, rfl, Nat.le_of_ble_eq_true rfl, Nat.le_of_ble_eq_true rfl⟩ ⟨Nat.zero_le _, Nat.zero_le _⟩ hl.1 (Nat.le_of_ble_eq_true rfl) dX10_pay_74 rfl (fun H locs hw => ?_)
              refine lv_aload_n hx hb dX10_pay_77 rfl (lv_at hl 0 rfl) ?_
              refine xget (v := .ref (h 1)) E hw 0 rfl rfl 0 (by decide) inw10 qw186 rfl rfl dX10_pay_78 ?_
              refine lv_iload_n hx hb dX10_pay_81 rfl (lv_at hl 1 rfl) ?_
              refine lv_aload_n hx hb dX10_pay_82 rfl (lv_at hl 0 rfl) ?_
              refine xget (v := .ref (h 30)) E hw 0 rfl rfl 5 (by decide) inw10 qw191 rfl rfl dX10_pay_83 ?_
              obtain ⟨v86, hv86, hf⟩ := ob_e hf
              refine xcallV (ws' := (wC g h v86 snap has v66.2 ent v74 num col)) (st1 := []) (n := 34) E hw [.int a1, .ref (h 30)] [1, 2, 3, 30] (met_X7_store l g h 1 30 v66.1 v74 a1 v86 hv86) rfl (by decide) rfl rfl [0, 34, 35, 36, 4, 5, 6, 7, 8, 9, 10, 11, 12, 13, 14, 15, 16, 17, 18, 19, 20, 21, 22, 23, 24, 25, 26, 27, 28, 29, 37, 31, 32, 33] rfl (by decide +kernel) rfl rfl rfl rfl qw490 k_X7_store ⟨rfl, rfl, Nat.le_of_ble_eq_true rfl, Nat.le_of_ble_eq_true rfl⟩ ⟨Nat.zero_le _, Nat.zero_le _⟩ hl.1 (Nat.le_of_ble_eq_true rfl) dX10_pay_86 rfl (fun H locs hw => ?_)
              refine lv_aload_n hx hb dX10_pay_89 rfl (lv_at hl 0 rfl) ?_
              refine xget (v := .ref (h 1)) E hw 0 rfl rfl 0 (by decide) inw10 qw186 rfl rfl dX10_pay_90 ?_
              refine lv_iload_n hx hb dX10_pay_93 rfl (lv_at hl 1 rfl) ?_
              obtain ⟨v94, hv94, hf⟩ := ob_e hf
              refine xcallV (ws' := (wC g h v86 snap has v66.2 ent v74 num col)) (st1 := [.int v94]) (n := 34) E hw [.int a1] [1, 2, 3] (met_X7_numeratorOf l g h 1 v86 a1 v94 hv94) rfl (by decide) rfl rfl [0, 34, 35, 36, 4, 5, 6, 7, 8, 9, 10, 11, 12, 13, 14, 15, 16, 17, 18, 19, 20, 21, 22, 23, 24, 25, 26, 27, 28, 29, 30, 31, 32, 33] rfl (by decide +kernel) rfl rfl rfl rfl qw329 k_X7_numeratorOf ⟨rfl, rfl, Nat.le_of_ble_eq_true rfl, Nat.le_of_ble_eq_true rfl⟩ ⟨Nat.zero_le _, Nat.zero_le _⟩ hl.1 (Nat.le_of_ble_eq_true rfl) dX10_pay_94 rfl (fun H locs hw => ?_)
              exact hret _ _ _ _ _ _ _ _ (jr hf) dX10_pay_97 hw
        · replace hf := iq c28 hf
          exact b31 _ _ _ now hist res hw (lv_sub hl [] rfl) hf
    · replace hf := ip c7 hf
      exact nlr hf
theorem k_X10_requireStop : xKV yX10_requireStop cX10_requireStop 1 none 0 := ⟨qw429, qw2, qw13, qw430, by decide +kernel, by decide +kernel, by decide +kernel⟩
set_option maxHeartbeats 4000000 in
set_option maxRecDepth 100000 in
theorem met_X10_requireStop (l : Launch) (g : xG) (h : Nat → Nat) (now : SC) (snap : SC) (has : Int32) (hist : HC) (ent : EC) (res : RC) (num : NC) (col : CC) (out : Unit) (hf : f_X10_requireStop now = some (Sum.inr out)) : xM l yX10_requireStop (xC yX10_requireStop cX10_requireStop 1 none) { frames := 1, cells := 0, slots := 0, locals := 31 } g (wC g h now snap has hist ent res num col) [.ref (h 0)] none (wC g h now snap has hist ent res num col) := by
  refine xof (by decide) (Nat.le_of_ble_eq_true rfl) ⟨rfl, rfl⟩ ?_
  intro p e s m below meth c A ls E hr hlocks hw hl hpost hAe
  have hx := E.1.1
  have hb := E.1.2.1
  have hown := E.1.2.2.2.1
  have hts := E.1.2.2.2.2
  generalize hZ : (MQ below (xPost g (wC g h now snap has hist ent res num col) (wC g h now snap has hist ent res num col) s.heap.size none) [.ref (h 0)].toArray s 0 0 A) = ZZ
  have hret : ∀ (pc : Nat) (H : Heap) (locs : List Loc) (ls : Array Slot), () = out → decode cX10_requireStop pc = .ok (.return_, 1) → xW g A s.heap (wC g h now snap has hist ent res num col) H locs → W p l e { frames := 1, cells := 0, slots := 0, locals := 31 } s m [.ref (h 0)].toArray below meth c H locs 0 0 ZZ (F0 m pc ls []) := by
    intro pc H locs ls he hd hw
    subst he
    rw [← hZ]
    exact W.vret hx hb hr (hpost H locs hw).1 (hpost H locs hw).2 hd hlocks
  clear hpost
  refine lv_aload_n hx hb dX10_requireStop_0 rfl (lv_at hl 0 rfl) ?_
  refine xget (v := .ref (h 1)) E hw 0 rfl rfl 0 (by decide) inw10 qw186 rfl rfl dX10_requireStop_1 ?_
  refine xget (v := .int now.2.2.1) E hw 1 rfl rfl 2 (by decide) inw7 qw50 rfl rfl dX10_requireStop_4 ?_
  refine lv_if_ne (tgt := 21) hx hb dX10_requireStop_7 (by decide) (fun c7 => ?_) (fun c7 => ?_)
  · replace hf := iq c7 hf
    exact hret _ _ _ _ (jr hf) dX10_requireStop_21 hw
  · replace hf := ip c7 hf
    exact nlr hf
theorem k_X10_stoppedPart : xKV yX10_stoppedPart cX10_stoppedPart 1 (some .int) 0 := ⟨qw424, qw425, qw13, qw426, by decide +kernel, by decide +kernel, by decide +kernel⟩
set_option maxHeartbeats 4000000 in
set_option maxRecDepth 100000 in
theorem met_X10_stoppedPart (l : Launch) (g : xG) (h : Nat → Nat) (now : SC) (snap : SC) (has : Int32) (hist : HC) (ent : EC) (res : RC) (num : NC) (col : CC) (out : Int32) (hf : f_X10_stoppedPart now = some (Sum.inr out)) : xM l yX10_stoppedPart (xC yX10_stoppedPart cX10_stoppedPart 1 (some .int)) { frames := 2, cells := 0, slots := 0, locals := 51 } g (wC g h now snap has hist ent res num col) [.ref (h 0)] (some (.int out)) (wC g h now snap has hist ent res num col) := by
  refine xof (by decide) (Nat.le_of_ble_eq_true rfl) ⟨rfl, rfl⟩ ?_
  intro p e s m below meth c A ls E hr hlocks hw hl hpost hAe
  have hx := E.1.1
  have hb := E.1.2.1
  have hown := E.1.2.2.2.1
  have hts := E.1.2.2.2.2
  generalize hZ : (MQ below (xPost g (wC g h now snap has hist ent res num col) (wC g h now snap has hist ent res num col) s.heap.size (some (.int out))) [.ref (h 0)].toArray s 0 0 A) = ZZ
  have hret : ∀ (pc : Nat) (H : Heap) (locs : List Loc) (ls : Array Slot) (v : Int32), v = out → decode cX10_stoppedPart pc = .ok (.ireturn, 1) → xW g A s.heap (wC g h now snap has hist ent res num col) H locs → W p l e { frames := 2, cells := 0, slots := 0, locals := 51 } s m [.ref (h 0)].toArray below meth c H locs 0 0 ZZ (F0 m pc ls [.int v]) := by
    intro pc H locs ls v he hd hw
    subst he
    rw [← hZ]
    exact W.iret hx hb hr (hpost H locs hw).1 (hpost H locs hw).2 hd hlocks
  clear hpost
  refine lv_aload_n hx hb dX10_stoppedPart_0 rfl (lv_at hl 0 rfl) ?_
  obtain ⟨v1, hv1, hf⟩ := ob_e hf
  rcases v1 with t1 | u1
  · exact nlr hf
  · refine xcallV (ws' := (wC g h now snap has hist ent res num col)) (st1 := []) (n := 34) E hw [] [0, 1, 2, 3, 4, 5, 6, 7, 8, 9, 10, 11, 12, 13, 14, 15, 16, 17, 18, 19, 20, 21, 22, 23, 24, 25, 26, 27, 28, 29, 30, 31, 32, 33] (met_X10_requireStop l g h now snap has hist ent res num col u1 hv1) rfl (by decide) rfl rfl [34, 35, 36, 37, 38, 39, 40, 41, 42, 43, 44, 45, 46, 47, 48, 49, 50, 51, 52, 53, 54, 55, 56, 57, 58, 59, 60, 61, 62, 63, 64, 65, 66, 67] rfl (by decide +kernel) rfl rfl rfl rfl qw427 k_X10_requireStop ⟨rfl, rfl, Nat.le_of_ble_eq_true rfl, Nat.le_of_ble_eq_true rfl⟩ ⟨Nat.zero_le _, Nat.zero_le _⟩ hl.1 (Nat.le_of_ble_eq_true rfl) dX10_stoppedPart_1 rfl (fun H locs hw => ?_)
    refine lv_aload_n hx hb dX10_stoppedPart_4 rfl (lv_at hl 0 rfl) ?_
    refine xget (v := .ref (h 1)) E hw 0 rfl rfl 0 (by decide) inw10 qw186 rfl rfl dX10_stoppedPart_5 ?_
    refine xget (v := .int now.2.1) E hw 1 rfl rfl 1 (by decide) inw7 qw48 rfl rfl dX10_stoppedPart_8 ?_
    exact hret _ _ _ _ _ (jr hf) dX10_stoppedPart_11 hw
