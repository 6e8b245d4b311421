theorem k_X10_whyNoSum : xKV yX10_whyNoSum cX10_whyNoSum 3 (some .int) 2 := ⟨qw495, qw496, qw13, qw497, by decide +kernel, by decide +kernel, by decide +kernel⟩
set_option maxHeartbeats 4000000 in
set_option maxRecDepth 100000 in
theorem met_X10_whyNoSum (l : Launch) (g : xG) (h : Nat → Nat) (now : SC) (snap : SC) (has : Int32) (hist : HC) (ent : EC) (res : RC) (num : NC) (col : CC) (a1 : Int32) (a2 : Int32) (out : Int32 × RC) (hf : f_X10_whyNoSum now res a1 a2 = some (Sum.inr out)) : xM l yX10_whyNoSum (xC yX10_whyNoSum cX10_whyNoSum 3 (some .int)) { frames := 3, cells := 0, slots := 0, locals := 82 } g (wC g h now snap has hist ent res num col) [.ref (h 0), .int a1, .int a2] (some (.int out.1)) (wC g h now snap has hist ent out.2 num col) := by
  refine xof (by decide) (Nat.le_of_ble_eq_true rfl) ⟨rfl, rfl⟩ ?_
  intro p e s m below meth c A ls E hr hlocks hw hl hpost hAe
  have hx := E.1.1
  have hb := E.1.2.1
  have hown := E.1.2.2.2.1
  have hts := E.1.2.2.2.2
  generalize hZ : (MQ below (xPost g (wC g h now snap has hist ent res num col) (wC g h now snap has hist ent out.2 num col) s.heap.size (some (.int out.1))) [.ref (h 0), .int a1, .int a2].toArray s 0 0 A) = ZZ
  have hret : ∀ (pc : Nat) (H : Heap) (locs : List Loc) (ls : Array Slot) (v : Int32) (cres : RC), (v, cres) = out → decode cX10_whyNoSum pc = .ok (.ireturn, 1) → xW g A s.heap (wC g h now snap has hist ent cres num col) H locs → W p l e { frames := 3, cells := 0, slots := 0, locals := 82 } s m [.ref (h 0), .int a1, .int a2].toArray below meth c H locs 0 0 ZZ (F0 m pc ls [.int v]) := by
    intro pc H locs ls v cres he hd hw
    subst he
    rw [← hZ]
    exact W.iret hx hb hr (hpost H locs hw).1 (hpost H locs hw).2 hd hlocks
  clear hpost
  refine lv_iload_n hx hb dX10_whyNoSum_0 rfl (lv_at hl 1 rfl) ?_
  refine lv_iload_n hx hb dX10_whyNoSum_1 rfl (lv_at hl 2 rfl) ?_
  obtain ⟨v2, hv2, hf⟩ := ob_e hf
  rcases v2 with t2 | u2
  · exact nlr hf
  · refine xcallS (ws' := (wC g h now snap has hist ent res num col)) (st1 := []) (n := 34) E hw [.int a1, .int a2] [] (met_X10_requireAccounts l g a1 a2 u2 hv2) rfl (by decide) rfl rfl [0, 1, 2, 3, 4, 5, 6, 7, 8, 9, 10, 11, 12, 13, 14, 15, 16, 17, 18, 19, 20, 21, 22, 23, 24, 25, 26, 27, 28, 29, 30, 31, 32, 33] rfl (by decide +kernel) rfl qw498 k_X10_requireAccounts ⟨rfl, rfl, Nat.le_of_ble_eq_true rfl, Nat.le_of_ble_eq_true rfl⟩ ⟨Nat.zero_le _, Nat.zero_le _⟩ hl.1 (Nat.le_of_ble_eq_true rfl) dX10_whyNoSum_2 rfl (fun H locs hw => ?_)
    refine lv_aload_n hx hb dX10_whyNoSum_5 rfl (lv_at hl 0 rfl) ?_
    refine lv_iload_n hx hb dX10_whyNoSum_6 rfl (lv_at hl 1 rfl) ?_
    refine lv_iload_n hx hb dX10_whyNoSum_7 rfl (lv_at hl 2 rfl) ?_
    obtain ⟨v8, hv8, hf⟩ := ob_e hf
    refine xcallV (ws' := (wC g h now snap has hist ent v8 num col)) (st1 := []) (n := 34) E hw [.int a1, .int a2] [0, 1, 2, 3, 4, 5, 6, 7, 8, 9, 10, 11, 12, 13, 14, 15, 16, 17, 18, 19, 20, 21, 22, 23, 24, 25, 26, 27, 28, 29, 30, 31, 32, 33] (met_X10_formSum l g h now snap has hist ent res num col a1 a2 v8 hv8) rfl (by decide) rfl rfl [34, 35, 36, 37, 38, 39, 40, 41, 42, 43, 44, 45, 46, 47, 48, 49, 50, 51, 52, 53, 54, 55, 56, 57, 58, 59, 60, 61, 62, 63, 64, 65, 66, 67] rfl (by decide +kernel) rfl rfl rfl rfl qw501 k_X10_formSum ⟨rfl, rfl, Nat.le_of_ble_eq_true rfl, Nat.le_of_ble_eq_true rfl⟩ ⟨Nat.zero_le _, Nat.zero_le _⟩ hl.1 (Nat.le_of_ble_eq_true rfl) dX10_whyNoSum_8 rfl (fun H locs hw => ?_)
    refine lv_aload_n hx hb dX10_whyNoSum_11 rfl (lv_at hl 0 rfl) ?_
    refine xget (v := .ref (h 30)) E hw 0 rfl rfl 5 (by decide) inw10 qw191 rfl rfl dX10_whyNoSum_12 ?_
    refine xget (v := .long v8.1) E hw 30 rfl rfl 0 (by decide) inw6 qw122 rfl rfl dX10_whyNoSum_15 ?_
    refine lv_ldc2 hx hb hown (hts _ qw505) dX10_whyNoSum_18 ?_
    refine xlc_le (tgt := 27) hx hb dX10_whyNoSum_21 dX10_whyNoSum_22 (by decide) (fun c21 => ?_) (fun c21 => ?_)
    · replace hf := iq c21 hf
      refine lv_aload_n hx hb dX10_whyNoSum_27 rfl (lv_at hl 0 rfl) ?_
      refine xget (v := .ref (h 30)) E hw 0 rfl rfl 5 (by decide) inw10 qw191 rfl rfl dX10_whyNoSum_28 ?_
      refine xget (v := .long v8.2) E hw 30 rfl rfl 1 (by decide) inw6 qw125 rfl rfl dX10_whyNoSum_31 ?_
      refine lv_ldc2 hx hb hown (hts _ qw506) dX10_whyNoSum_34 ?_
      refine xlc_le (tgt := 45) hx hb dX10_whyNoSum_37 dX10_whyNoSum_38 (by decide) (fun c37 => ?_) (fun c37 => ?_)
      · replace hf := iq c37 hf
        refine lv_iconst (v := 0) hx hb dX10_whyNoSum_45 (by decide) ?_
        exact hret _ _ _ _ _ _ (jr hf) dX10_whyNoSum_46 hw
      · replace hf := ip c37 hf
        refine lv_iconst (v := 2) hx hb dX10_whyNoSum_41 (by decide) ?_
        refine lv_goto (tgt := 46) hx hb dX10_whyNoSum_42 (by decide) ?_
        exact hret _ _ _ _ _ _ (jr hf) dX10_whyNoSum_46 hw
    · replace hf := ip c21 hf
      refine lv_iconst (v := 1) hx hb dX10_whyNoSum_25 (by decide) ?_
      exact hret _ _ _ _ _ _ (jr hf) dX10_whyNoSum_26 hw
theorem k_X10_shareOf : xKV yX10_shareOf cX10_shareOf 5 (some .double) 1 := ⟨qw404, qw405, qw13, qw406, by decide +kernel, by decide +kernel, by decide +kernel⟩
set_option maxHeartbeats 4000000 in
set_option maxRecDepth 100000 in
theorem met_X10_shareOf (l : Launch) (g : xG) (h : Nat → Nat) (now : SC) (snap : SC) (has : Int32) (hist : HC) (ent : EC) (res : RC) (num : NC) (col : CC) (a1 : Int32) (out : UInt64) (hf : f_X10_shareOf now a1 = some (Sum.inr out)) : xM l yX10_shareOf (xC yX10_shareOf cX10_shareOf 5 (some .double)) { frames := 2, cells := 0, slots := 0, locals := 51 } g (wC g h now snap has hist ent res num col) [.ref (h 0), .int a1] (some (.double out)) (wC g h now snap has hist ent res num col) := by
  refine xof (by decide) (Nat.le_of_ble_eq_true rfl) ⟨rfl, rfl⟩ ?_
  intro p e s m below meth c A ls E hr hlocks hw hl hpost hAe
  have hx := E.1.1
  have hb := E.1.2.1
  have hown := E.1.2.2.2.1
  have hts := E.1.2.2.2.2
  generalize hZ : (MQ below (xPost g (wC g h now snap has hist ent res num col) (wC g h now snap has hist ent res num col) s.heap.size (some (.double out))) [.ref (h 0), .int a1].toArray s 0 0 A) = ZZ
  have hret : ∀ (pc : Nat) (H : Heap) (locs : List Loc) (ls : Array Slot) (v : UInt64), v = out → decode cX10_shareOf pc = .ok (.dreturn, 1) → xW g A s.heap (wC g h now snap has hist ent res num col) H locs → W p l e { frames := 2, cells := 0, slots := 0, locals := 51 } s m [.ref (h 0), .int a1].toArray below meth c H locs 0 0 ZZ (F0 m pc ls [.double v]) := by
    intro pc H locs ls v he hd hw
    subst he
    rw [← hZ]
    exact W.dret hx hb hr (hpost H locs hw).1 (hpost H locs hw).2 hd hlocks
  clear hpost
  have b9 : ∀ n9 : Nat, ∀ (H : Heap) (locs : List Loc) (ls : Array Slot) (x1 : Int32) (x2 : UInt64) (x4 : Int32), xW g A s.heap (wC g h now snap has hist ent res num col) H locs → lv_has ls 5 [(0, .ref (h 0)), (1, .int x1), (2, .double x2), (4, .int x4)] → f_X10_shareOf_b9 n9 now x1 x2 x4 = some (Sum.inr out) → W p l e { frames := 2, cells := 0, slots := 0, locals := 51 } s m [.ref (h 0), .int a1].toArray below meth c H locs 0 0 ZZ (F0 m 9 ls []) := by
    intro n9
    induction n9 with
    | zero =>
      intro H locs ls x1 x2 x4 hw hl hf
      exact nn hf
    | succ n9 ih9 =>
      intro H locs ls x1 x2 x4 hw hl hf
      refine lv_iload hx hb dX10_shareOf_9 (lv_at hl 3 rfl) ?_
      refine lv_bipush (v := 6) hx hb dX10_shareOf_11 (by decide) ?_
      refine lv_icmp_ge (tgt := 34) hx hb dX10_shareOf_13 (by decide) (fun c13 => ?_) (fun c13 => ?_)
      · replace hf := ip c13 hf
        refine lv_dload_n hx hb dX10_shareOf_34 rfl (lv_at hl 2 rfl) ?_
        refine lv_dconst0 hx hb dX10_shareOf_35 ?_
        refine lv_dcmp hx hb dX10_shareOf_36 ?_
        refine lv_if_le (tgt := 53) hx hb dX10_shareOf_37 (by decide) (fun c37 => ?_) (fun c37 => ?_)
        · replace hf := ip c37 hf
          refine lv_dconst0 hx hb dX10_shareOf_53 ?_
          exact hret _ _ _ _ _ (jr hf) dX10_shareOf_54 hw
        · replace hf := iq c37 hf
          refine lv_aload_n hx hb dX10_shareOf_40 rfl (lv_at hl 0 rfl) ?_
          refine xget (v := .ref (h 1)) E hw 0 rfl rfl 0 (by decide) inw10 qw186 rfl rfl dX10_shareOf_41 ?_
          refine lv_iload_n hx hb dX10_shareOf_44 rfl (lv_at hl 1 rfl) ?_
          obtain ⟨v45, hv45, hf⟩ := ob_e hf
          refine xcallV (ws' := (wC g h now snap has hist ent res num col)) (st1 := [.double v45]) (n := 34) E hw [.int x1] [1, 2, 3] (met_X7_asDouble l g h 1 now x1 v45 hv45) rfl (by decide) rfl rfl [0, 34, 35, 36, 4, 5, 6, 7, 8, 9, 10, 11, 12, 13, 14, 15, 16, 17, 18, 19, 20, 21, 22, 23, 24, 25, 26, 27, 28, 29, 30, 31, 32, 33] rfl (by decide +kernel) rfl rfl rfl rfl qw407 k_X7_asDouble ⟨rfl, rfl, Nat.le_of_ble_eq_true rfl, Nat.le_of_ble_eq_true rfl⟩ ⟨Nat.zero_le _, Nat.zero_le _⟩ hl.1 (Nat.le_of_ble_eq_true rfl) dX10_shareOf_45 rfl (fun H locs hw => ?_)
          refine lv_dload_n hx hb dX10_shareOf_48 rfl (lv_at hl 2 rfl) ?_
          obtain ⟨hz, hf⟩ := nz hf
          refine lv_ddiv hx hb dX10_shareOf_49 (xn64 hz) ?_
          refine lv_goto (tgt := 54) hx hb dX10_shareOf_50 (by decide) ?_
          exact hret _ _ _ _ _ (jr hf) dX10_shareOf_54 hw
      · replace hf := iq c13 hf
        refine lv_dload_n hx hb dX10_shareOf_16 rfl (lv_at hl 2 rfl) ?_
        refine lv_aload_n hx hb dX10_shareOf_17 rfl (lv_at hl 0 rfl) ?_
        refine xget (v := .ref (h 1)) E hw 0 rfl rfl 0 (by decide) inw10 qw186 rfl rfl dX10_shareOf_18 ?_
        refine lv_iload hx hb dX10_shareOf_21 (lv_at hl 3 rfl) ?_
        obtain ⟨v23, hv23, hf⟩ := ob_e hf
        refine xcallV (ws' := (wC g h now snap has hist ent res num col)) (st1 := [.double v23, .double x2]) (n := 34) E hw [.int x4] [1, 2, 3] (met_X7_asDouble l g h 1 now x4 v23 hv23) rfl (by decide) rfl rfl [0, 34, 35, 36, 4, 5, 6, 7, 8, 9, 10, 11, 12, 13, 14, 15, 16, 17, 18, 19, 20, 21, 22, 23, 24, 25, 26, 27, 28, 29, 30, 31, 32, 33] rfl (by decide +kernel) rfl rfl rfl rfl qw407 k_X7_asDouble ⟨rfl, rfl, Nat.le_of_ble_eq_true rfl, Nat.le_of_ble_eq_true rfl⟩ ⟨Nat.zero_le _, Nat.zero_le _⟩ hl.1 (Nat.le_of_ble_eq_true rfl) dX10_shareOf_23 rfl (fun H locs hw => ?_)
        obtain ⟨hz, hf⟩ := nz hf
        refine lv_dadd hx hb dX10_shareOf_26 (xn64 hz) ?_
        refine lv_dstore_n (lv' := [(2, .double (FP.dadd x2 v23)), (0, .ref (h 0)), (1, .int x1), (4, .int x4)]) hx hb dX10_shareOf_27 rfl hl (by decide) rfl (fun ls hl => ?_)
        refine lv_iinc (v := x4 + 1) (lv' := [(4, .int (x4 + 1)), (2, .double (FP.dadd x2 v23)), (0, .ref (h 0)), (1, .int x1)]) hx hb dX10_shareOf_28 hl (k := 3) rfl rfl (by decide) rfl (fun ls hl => ?_)
        refine lv_goto (tgt := 9) hx hb dX10_shareOf_31 (by decide) ?_
        exact ih9 _ _ _ x1 (FP.dadd x2 v23) (x4 + 1) hw (lv_sub hl [2, 3, 1, 0] rfl) hf
  refine lv_iload_n hx hb dX10_shareOf_0 rfl (lv_at hl 1 rfl) ?_
  obtain ⟨v1, hv1, hf⟩ := ob_e hf
  rcases v1 with t1 | u1
  · exact nlr hf
  · refine xcallS (ws' := (wC g h now snap has hist ent res num col)) (st1 := []) (n := 34) E hw [.int a1] [] (met_X10_requireAccount l g a1 u1 hv1) rfl (by decide) rfl rfl [0, 1, 2, 3, 4, 5, 6, 7, 8, 9, 10, 11, 12, 13, 14, 15, 16, 17, 18, 19, 20, 21, 22, 23, 24, 25, 26, 27, 28, 29, 30, 31, 32, 33] rfl (by decide +kernel) rfl qw310 k_X10_requireAccount ⟨rfl, rfl, Nat.le_of_ble_eq_true rfl, Nat.le_of_ble_eq_true rfl⟩ ⟨Nat.zero_le _, Nat.zero_le _⟩ hl.1 (Nat.le_of_ble_eq_true rfl) dX10_shareOf_1 rfl (fun H locs hw => ?_)
    refine lv_dconst0 hx hb dX10_shareOf_4 ?_
    refine lv_dstore_n (lv' := [(2, .double FP.dconst0), (0, .ref (h 0)), (1, .int a1)]) hx hb dX10_shareOf_5 rfl hl (by decide) rfl (fun ls hl => ?_)
    refine lv_iconst (v := 0) hx hb dX10_shareOf_6 (by decide) ?_
    refine lv_istore (lv' := [(4, .int 0), (2, .double FP.dconst0), (0, .ref (h 0)), (1, .int a1)]) hx hb dX10_shareOf_7 hl (by decide) rfl (fun ls hl => ?_)
    exact b9 xfuel _ _ _ a1 FP.dconst0 0 hw (lv_sub hl [2, 3, 1, 0] rfl) hf
