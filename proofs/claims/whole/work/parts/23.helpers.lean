theorem k_L_setBase : xKW yL_setBase cL_setBase 4 (some .int) [(0, 9, 12, 13)] 3 := ⟨qw680, qw65, qw681, by decide +kernel, by decide +kernel, by decide +kernel⟩
set_option maxHeartbeats 4000000 in
set_option maxRecDepth 100000 in
theorem met_L_setBase (l : Launch) (hlT : l.stackTraces = false) (g : xG) (h : Nat → Nat) (ho : Nat) (now : SC) (snap : SC) (has : Int32) (hist : HC) (ent : EC) (res : RC) (num : NC) (col : CC) (arr : (Nat → Int64)) (a1 : Int32) (out : Int32 × SC × HC × (Nat → Int64)) (hf : f_L_setBase now hist arr a1 = some out) : xMW l yL_setBase (xCW yL_setBase cL_setBase 4 (some .int) [(0, 9, 12, 13)]) { frames := 8, cells := 1, slots := 6, locals := 142 } g (wC g h now snap has hist ent res num col ++ [(ho, .inl (g.2.2.2.1, 1, .inr (.inl arr)))]) [.ref (h 0), .int a1, .ref ho] (some (.int out.1)) (wC g h out.2.1 snap has out.2.2.1 ent res num col ++ [(ho, .inl (g.2.2.2.1, 1, .inr (.inl out.2.2.2)))]) := by
  refine xofW (by decide) (Nat.le_of_ble_eq_true rfl) ?_
  intro p e s m below meth c A ls E hr hlocks htab hX hNc hw hl hpost
  have hx := E.1.1
  have hb := E.1.2.1
  have hown := E.1.2.2.2.1
  have hts := E.1.2.2.2.2
  generalize hZ : (MQ below (xPost g (wC g h now snap has hist ent res num col ++ [(ho, .inl (g.2.2.2.1, 1, .inr (.inl arr)))]) (wC g h out.2.1 snap has out.2.2.1 ent res num col ++ [(ho, .inl (g.2.2.2.1, 1, .inr (.inl out.2.2.2)))]) s.heap.size (some (.int out.1))) [.ref (h 0), .int a1, .ref ho].toArray s 1 6 A) = ZZ
  have hret : ∀ (pc : Nat) (H : Heap) (locs : List Loc) (ls : Array Slot) (cells slots : Nat) (v : Int32) (cnow : SC) (chist : HC) (carr : (Nat → Int64)), cells ≤ 1 → slots ≤ 6 → (v, cnow, chist, carr) = out → decode cL_setBase pc = .ok (.ireturn, 1) → xW g A s.heap (wC g h cnow snap has chist ent res num col ++ [(ho, .inl (g.2.2.2.1, 1, .inr (.inl carr)))]) H locs → W p l e { frames := 8, cells := 1, slots := 6, locals := 142 } s m [.ref (h 0), .int a1, .ref ho].toArray below meth c H locs cells slots ZZ (F0 m pc ls [.int v]) := by
    intro pc H locs ls cells slots v cnow chist carr hc hs he hd hw
    subst he
    rw [← hZ]
    exact W.widen hc hs (W.iret hx hb hr (hpost H locs hw).1 (hpost H locs hw).2 hd hlocks)
  clear hpost
  refine lv_aload_n hx hb dL_setBase_0 rfl (lv_at hl 2 rfl) ?_
  refine lv_iconst (v := 0) hx hb dL_setBase_1 (by decide) ?_
  refine lv_aload_n hx hb dL_setBase_2 rfl (lv_at hl 0 rfl) ?_
  refine lv_iload_n hx hb dL_setBase_3 rfl (lv_at hl 1 rfl) ?_
  obtain ⟨v4, hv4, hf⟩ := ob_e hf
  rcases v4 with t4 | u4
  · replace hf := se_l hf
    refine xcallVX (ws' := (wC g h t4.2.1 snap has t4.2.2 ent res num col ++ [(ho, .inl (g.2.2.2.1, 1, .inr (.inl arr)))])) (n := 35) E hX hw [.int a1] [0, 1, 2, 3, 4, 5, 6, 7, 8, 9, 10, 11, 12, 13, 14, 15, 16, 17, 18, 19, 20, 21, 22, 23, 24, 25, 26, 27, 28, 29, 30, 31, 32, 33] (metx_X10_setBase l hlT g h now snap has hist ent res num col a1 t4 hv4) rfl (by decide) rfl rfl [35, 36, 37, 38, 39, 40, 41, 42, 43, 44, 45, 46, 47, 48, 49, 50, 51, 52, 53, 54, 55, 56, 57, 58, 59, 60, 61, 62, 63, 64, 65, 66, 67, 68, 34] rfl (by decide +kernel) rfl rfl rfl rfl qw683 k_X10_setBase ⟨rfl, rfl, Nat.le_of_ble_eq_true rfl, Nat.le_of_ble_eq_true rfl⟩ ⟨by decide, by decide⟩ hl.1 (Nat.le_of_ble_eq_true rfl) dL_setBase_4 (fun H locs q ce hw hce hcv hcl => ?_)
    by_cases hk : t4.1 = 2
    · replace hf := ip hk hf
      have hcl : s.vm.findClass "java/lang/IllegalArgumentException" = some ce.cls := by rw [hk] at hcl; exact hcl
      refine vx_catch (name := "java/lang/IllegalArgumentException") hown [] ⟨0, 9, 12, 13⟩ [] (htab.trans rfl) (fun z hz => absurd hz List.not_mem_nil) (by decide) (by decide) (hts _ qw682) (xodd_args hX.2.2.2 _ (by decide)) hce hcv hcl ?_
      refine lv_astore_n (lv' := [(3, .ref q), (0, .ref (h 0)), (1, .int a1), (2, .ref ho)]) hx hb dL_setBase_12 rfl hl (by decide) rfl (fun ls hl => ?_)
      refine lv_iconst (v := 1) hx hb dL_setBase_13 (by decide) ?_
      exact hret _ _ _ _ _ _ _ _ _ _ (by decide) (by decide) (Option.some.inj hf) dL_setBase_14 hw
    replace hf := iq hk hf
    exact nn hf
  · replace hf := se_r hf
    refine xcallV (ws' := (wC g h u4.2.1 snap has u4.2.2 ent res num col ++ [(ho, .inl (g.2.2.2.1, 1, .inr (.inl arr)))])) (st1 := [.int u4.1, .int 0, .ref ho]) (n := 35) E hw [.int a1] [0, 1, 2, 3, 4, 5, 6, 7, 8, 9, 10, 11, 12, 13, 14, 15, 16, 17, 18, 19, 20, 21, 22, 23, 24, 25, 26, 27, 28, 29, 30, 31, 32, 33] (met_X10_setBase l g h now snap has hist ent res num col a1 u4 hv4) rfl (by decide) rfl rfl [35, 36, 37, 38, 39, 40, 41, 42, 43, 44, 45, 46, 47, 48, 49, 50, 51, 52, 53, 54, 55, 56, 57, 58, 59, 60, 61, 62, 63, 64, 65, 66, 67, 68, 34] rfl (by decide +kernel) rfl rfl rfl rfl qw683 k_X10_setBase ⟨rfl, rfl, Nat.le_of_ble_eq_true rfl, Nat.le_of_ble_eq_true rfl⟩ ⟨Nat.zero_le _, Nat.zero_le _⟩ hl.1 (Nat.le_of_ble_eq_true rfl) dL_setBase_4 rfl (fun H locs hw => ?_)
    refine lv_i2l hx hb dL_setBase_7 rfl ?_
    refine xlast (ws' := (wC g h u4.2.1 snap has u4.2.2 ent res num col ++ [(ho, .inl (g.2.2.2.1, 1, .inr (.inl (vp_updL arr (0 : Int32).toNatClampNeg u4.1.toInt64))))])) E hw 34 rfl (by decide) dL_setBase_8 rfl (fun H locs hw => ?_)
    refine lv_goto (tgt := 15) hx hb dL_setBase_9 (by decide) ?_
    refine lv_iconst (v := 0) hx hb dL_setBase_15 (by decide) ?_
    exact hret _ _ _ _ _ _ _ _ _ _ (by decide) (by decide) (Option.some.inj hf) dL_setBase_16 hw
theorem k_L_setFraction : xKW yL_setFraction cL_setFraction 6 (some .int) [(0, 12, 15, 19), (0, 12, 19, 13)] 5 := ⟨qw696, qw65, qw697, by decide +kernel, by decide +kernel, by decide +kernel⟩
set_option maxHeartbeats 4000000 in
set_option maxRecDepth 100000 in
theorem met_L_setFraction (l : Launch) (hlT : l.stackTraces = false) (g : xG) (h : Nat → Nat) (ho : Nat) (now : SC) (snap : SC) (has : Int32) (hist : HC) (ent : EC) (res : RC) (num : NC) (col : CC) (arr : (Nat → Int64)) (a1 : Int32) (a2 : Int32) (a3 : Int32) (out : Int32 × SC × HC × RC × (Nat → Int64)) (hf : f_L_setFraction now hist res arr a1 a2 a3 = some out) : xMW l yL_setFraction (xCW yL_setFraction cL_setFraction 6 (some .int) [(0, 12, 15, 19), (0, 12, 19, 13)]) { frames := 8, cells := 1, slots := 6, locals := 143 } g (wC g h now snap has hist ent res num col ++ [(ho, .inl (g.2.2.2.1, 1, .inr (.inl arr)))]) [.ref (h 0), .int a1, .int a2, .int a3, .ref ho] (some (.int out.1)) (wC g h out.2.1 snap has out.2.2.1 ent out.2.2.2.1 num col ++ [(ho, .inl (g.2.2.2.1, 1, .inr (.inl out.2.2.2.2)))]) := by
  refine xofW (by decide) (Nat.le_of_ble_eq_true rfl) ?_
  intro p e s m below meth c A ls E hr hlocks htab hX hNc hw hl hpost
  have hx := E.1.1
  have hb := E.1.2.1
  have hown := E.1.2.2.2.1
  have hts := E.1.2.2.2.2
  generalize hZ : (MQ below (xPost g (wC g h now snap has hist ent res num col ++ [(ho, .inl (g.2.2.2.1, 1, .inr (.inl arr)))]) (wC g h out.2.1 snap has out.2.2.1 ent out.2.2.2.1 num col ++ [(ho, .inl (g.2.2.2.1, 1, .inr (.inl out.2.2.2.2)))]) s.heap.size (some (.int out.1))) [.ref (h 0), .int a1, .int a2, .int a3, .ref ho].toArray s 1 6 A) = ZZ
  have hret : ∀ (pc : Nat) (H : Heap) (locs : List Loc) (ls : Array Slot) (cells slots : Nat) (v : Int32) (cnow : SC) (chist : HC) (cres : RC) (carr : (Nat → Int64)), cells ≤ 1 → slots ≤ 6 → (v, cnow, chist, cres, carr) = out → decode cL_setFraction pc = .ok (.ireturn, 1) → xW g A s.heap (wC g h cnow snap has chist ent cres num col ++ [(ho, .inl (g.2.2.2.1, 1, .inr (.inl carr)))]) H locs → W p l e { frames := 8, cells := 1, slots := 6, locals := 143 } s m [.ref (h 0), .int a1, .int a2, .int a3, .ref ho].toArray below meth c H locs cells slots ZZ (F0 m pc ls [.int v]) := by
    intro pc H locs ls cells slots v cnow chist cres carr hc hs he hd hw
    subst he
    rw [← hZ]
    exact W.widen hc hs (W.iret hx hb hr (hpost H locs hw).1 (hpost H locs hw).2 hd hlocks)
  clear hpost
  refine lv_aload hx hb dL_setFraction_0 (lv_at hl 4 rfl) ?_
  refine lv_iconst (v := 0) hx hb dL_setFraction_2 (by decide) ?_
  refine lv_aload_n hx hb dL_setFraction_3 rfl (lv_at hl 0 rfl) ?_
  refine lv_iload_n hx hb dL_setFraction_4 rfl (lv_at hl 1 rfl) ?_
  refine lv_iload_n hx hb dL_setFraction_5 rfl (lv_at hl 2 rfl) ?_
  refine lv_iload_n hx hb dL_setFraction_6 rfl (lv_at hl 3 rfl) ?_
  obtain ⟨v7, hv7, hf⟩ := ob_e hf
  rcases v7 with t7 | u7
  · replace hf := se_l hf
    refine xcallVX (ws' := (wC g h t7.2.1 snap has t7.2.2.1 ent t7.2.2.2 num col ++ [(ho, .inl (g.2.2.2.1, 1, .inr (.inl arr)))])) (n := 35) E hX hw [.int a1, .int a2, .int a3] [0, 1, 2, 3, 4, 5, 6, 7, 8, 9, 10, 11, 12, 13, 14, 15, 16, 17, 18, 19, 20, 21, 22, 23, 24, 25, 26, 27, 28, 29, 30, 31, 32, 33] (metx_X10_setFraction l hlT g h now snap has hist ent res num col a1 a2 a3 t7 hv7) rfl (by decide) rfl rfl [35, 36, 37, 38, 39, 40, 41, 42, 43, 44, 45, 46, 47, 48, 49, 50, 51, 52, 53, 54, 55, 56, 57, 58, 59, 60, 61, 62, 63, 64, 65, 66, 67, 68, 34] rfl (by decide +kernel) rfl rfl rfl rfl qw699 k_X10_setFraction ⟨rfl, rfl, Nat.le_of_ble_eq_true rfl, Nat.le_of_ble_eq_true rfl⟩ ⟨by decide, by decide⟩ hl.1 (Nat.le_of_ble_eq_true rfl) dL_setFraction_7 (fun H locs q ce hw hce hcv hcl => ?_)
    by_cases hk : t7.1 = 1
    · replace hf := ip hk hf
      have hcl : s.vm.findClass "java/lang/IndexOutOfBoundsException" = some ce.cls := by rw [hk] at hcl; exact hcl
      refine vx_catch (name := "java/lang/IndexOutOfBoundsException") hown [] ⟨0, 12, 15, 19⟩ [⟨0, 12, 19, 13⟩] (htab.trans rfl) (fun z hz => absurd hz List.not_mem_nil) (by decide) (by decide) (hts _ qw698) (xodd_args hX.2.2.2 _ (by decide)) hce hcv hcl ?_
      refine lv_astore (lv' := [(5, .ref q), (0, .ref (h 0)), (1, .int a1), (2, .int a2), (3, .int a3), (4, .ref ho)]) hx hb dL_setFraction_15 hl (by decide) rfl (fun ls hl => ?_)
      refine lv_iconst (v := 1) hx hb dL_setFraction_17 (by decide) ?_
      exact hret _ _ _ _ _ _ _ _ _ _ _ (by decide) (by decide) (Option.some.inj hf) dL_setFraction_18 hw
    replace hf := iq hk hf
    by_cases hk : t7.1 = 2
    · replace hf := ip hk hf
      have hcl : s.vm.findClass "java/lang/IllegalArgumentException" = some ce.cls := by rw [hk] at hcl; exact hcl
      refine vx_catch (name := "java/lang/IllegalArgumentException") hown [⟨0, 12, 15, 19⟩] ⟨0, 12, 19, 13⟩ [] (htab.trans rfl) (fun z hz => by rw [List.mem_singleton.mp hz]; exact Or.inr ⟨by decide, "java/lang/IndexOutOfBoundsException", hts _ qw698, hNc.1⟩) (by decide) (by decide) (hts _ qw682) (xodd_args hX.2.2.2 _ (by decide)) hce hcv hcl ?_
      refine lv_astore (lv' := [(5, .ref q), (0, .ref (h 0)), (1, .int a1), (2, .int a2), (3, .int a3), (4, .ref ho)]) hx hb dL_setFraction_19 hl (by decide) rfl (fun ls hl => ?_)
      refine lv_iconst (v := 2) hx hb dL_setFraction_21 (by decide) ?_
      exact hret _ _ _ _ _ _ _ _ _ _ _ (by decide) (by decide) (Option.some.inj hf) dL_setFraction_22 hw
    replace hf := iq hk hf
    exact nn hf
  · replace hf := se_r hf
    refine xcallV (ws' := (wC g h u7.2.1 snap has u7.2.2.1 ent u7.2.2.2 num col ++ [(ho, .inl (g.2.2.2.1, 1, .inr (.inl arr)))])) (st1 := [.int u7.1, .int 0, .ref ho]) (n := 35) E hw [.int a1, .int a2, .int a3] [0, 1, 2, 3, 4, 5, 6, 7, 8, 9, 10, 11, 12, 13, 14, 15, 16, 17, 18, 19, 20, 21, 22, 23, 24, 25, 26, 27, 28, 29, 30, 31, 32, 33] (met_X10_setFraction l g h now snap has hist ent res num col a1 a2 a3 u7 hv7) rfl (by decide) rfl rfl [35, 36, 37, 38, 39, 40, 41, 42, 43, 44, 45, 46, 47, 48, 49, 50, 51, 52, 53, 54, 55, 56, 57, 58, 59, 60, 61, 62, 63, 64, 65, 66, 67, 68, 34] rfl (by decide +kernel) rfl rfl rfl rfl qw699 k_X10_setFraction ⟨rfl, rfl, Nat.le_of_ble_eq_true rfl, Nat.le_of_ble_eq_true rfl⟩ ⟨Nat.zero_le _, Nat.zero_le _⟩ hl.1 (Nat.le_of_ble_eq_true rfl) dL_setFraction_7 rfl (fun H locs hw => ?_)
    refine lv_i2l hx hb dL_setFraction_10 rfl ?_
    refine xlast (ws' := (wC g h u7.2.1 snap has u7.2.2.1 ent u7.2.2.2 num col ++ [(ho, .inl (g.2.2.2.1, 1, .inr (.inl (vp_updL arr (0 : Int32).toNatClampNeg u7.1.toInt64))))])) E hw 34 rfl (by decide) dL_setFraction_11 rfl (fun H locs hw => ?_)
    refine lv_goto (tgt := 23) hx hb dL_setFraction_12 (by decide) ?_
    refine lv_iconst (v := 0) hx hb dL_setFraction_23 (by decide) ?_
    exact hret _ _ _ _ _ _ _ _ _ _ _ (by decide) (by decide) (Option.some.inj hf) dL_setFraction_24 hw
theorem k_L_add : xKW yL_add cL_add 5 (some .int) [(0, 10, 13, 19), (0, 10, 17, 25)] 4 := ⟨qw715, qw65, qw716, by decide +kernel, by decide +kernel, by decide +kernel⟩
set_option maxHeartbeats 4000000 in
set_option maxRecDepth 100000 in
theorem met_L_add (l : Launch) (hlT : l.stackTraces = false) (g : xG) (h : Nat → Nat) (ho : Nat) (now : SC) (snap : SC) (has : Int32) (hist : HC) (ent : EC) (res : RC) (num : NC) (col : CC) (arr : (Nat → Int64)) (a1 : Int32) (a2 : Int32) (out : Int32 × SC × HC × RC × (Nat → Int64)) (hf : f_L_add now hist res arr a1 a2 = some out) : xMW l yL_add (xCW yL_add cL_add 5 (some .int) [(0, 10, 13, 19), (0, 10, 17, 25)]) { frames := 9, cells := 1, slots := 6, locals := 163 } g (wC g h now snap has hist ent res num col ++ [(ho, .inl (g.2.2.2.1, 1, .inr (.inl arr)))]) [.ref (h 0), .int a1, .int a2, .ref ho] (some (.int out.1)) (wC g h out.2.1 snap has out.2.2.1 ent out.2.2.2.1 num col ++ [(ho, .inl (g.2.2.2.1, 1, .inr (.inl out.2.2.2.2)))]) := by
  refine xofW (by decide) (Nat.le_of_ble_eq_true rfl) ?_
  intro p e s m below meth c A ls E hr hlocks htab hX hNc hw hl hpost
  have hx := E.1.1
  have hb := E.1.2.1
  have hown := E.1.2.2.2.1
  have hts := E.1.2.2.2.2
  generalize hZ : (MQ below (xPost g (wC g h now snap has hist ent res num col ++ [(ho, .inl (g.2.2.2.1, 1, .inr (.inl arr)))]) (wC g h out.2.1 snap has out.2.2.1 ent out.2.2.2.1 num col ++ [(ho, .inl (g.2.2.2.1, 1, .inr (.inl out.2.2.2.2)))]) s.heap.size (some (.int out.1))) [.ref (h 0), .int a1, .int a2, .ref ho].toArray s 1 6 A) = ZZ
  have hret : ∀ (pc : Nat) (H : Heap) (locs : List Loc) (ls : Array Slot) (cells slots : Nat) (v : Int32) (cnow : SC) (chist : HC) (cres : RC) (carr : (Nat → Int64)), cells ≤ 1 → slots ≤ 6 → (v, cnow, chist, cres, carr) = out → decode cL_add pc = .ok (.ireturn, 1) → xW g A s.heap (wC g h cnow snap has chist ent cres num col ++ [(ho, .inl (g.2.2.2.1, 1, .inr (.inl carr)))]) H locs → W p l e { frames := 9, cells := 1, slots := 6, locals := 163 } s m [.ref (h 0), .int a1, .int a2, .ref ho].toArray below meth c H locs cells slots ZZ (F0 m pc ls [.int v]) := by
    intro pc H locs ls cells slots v cnow chist cres carr hc hs he hd hw
    subst he
    rw [← hZ]
    exact W.widen hc hs (W.iret hx hb hr (hpost H locs hw).1 (hpost H locs hw).2 hd hlocks)
  clear hpost
  refine lv_aload_n hx hb dL_add_0 rfl (lv_at hl 3 rfl) ?_
  refine lv_iconst (v := 0) hx hb dL_add_1 (by decide) ?_
  refine lv_aload_n hx hb dL_add_2 rfl (lv_at hl 0 rfl) ?_
  refine lv_iload_n hx hb dL_add_3 rfl (lv_at hl 1 rfl) ?_
  refine lv_iload_n hx hb dL_add_4 rfl (lv_at hl 2 rfl) ?_
  obtain ⟨v5, hv5, hf⟩ := ob_e hf
  rcases v5 with t5 | u5
  · replace hf := se_l hf
    refine xcallVX (ws' := (wC g h t5.2.1 snap has t5.2.2.1 ent t5.2.2.2 num col ++ [(ho, .inl (g.2.2.2.1, 1, .inr (.inl arr)))])) (n := 35) E hX hw [.int a1, .int a2] [0, 1, 2, 3, 4, 5, 6, 7, 8, 9, 10, 11, 12, 13, 14, 15, 16, 17, 18, 19, 20, 21, 22, 23, 24, 25, 26, 27, 28, 29, 30, 31, 32, 33] (metx_X10_add l hlT g h now snap has hist ent res num col a1 a2 t5 hv5) rfl (by decide) rfl rfl [35, 36, 37, 38, 39, 40, 41, 42, 43, 44, 45, 46, 47, 48, 49, 50, 51, 52, 53, 54, 55, 56, 57, 58, 59, 60, 61, 62, 63, 64, 65, 66, 67, 68, 34] rfl (by decide +kernel) rfl rfl rfl rfl qw718 k_X10_add ⟨rfl, rfl, Nat.le_of_ble_eq_true rfl, Nat.le_of_ble_eq_true rfl⟩ ⟨by decide, by decide⟩ hl.1 (Nat.le_of_ble_eq_true rfl) dL_add_5 (fun H locs q ce hw hce hcv hcl => ?_)
    by_cases hk : t5.1 = 1
    · replace hf := ip hk hf
      have hcl : s.vm.findClass "java/lang/IndexOutOfBoundsException" = some ce.cls := by rw [hk] at hcl; exact hcl
      refine vx_catch (name := "java/lang/IndexOutOfBoundsException") hown [] ⟨0, 10, 13, 19⟩ [⟨0, 10, 17, 25⟩] (htab.trans rfl) (fun z hz => absurd hz List.not_mem_nil) (by decide) (by decide) (hts _ qw698) (xodd_args hX.2.2.2 _ (by decide)) hce hcv hcl ?_
      refine lv_astore (lv' := [(4, .ref q), (0, .ref (h 0)), (1, .int a1), (2, .int a2), (3, .ref ho)]) hx hb dL_add_13 hl (by decide) rfl (fun ls hl => ?_)
      refine lv_iconst (v := 1) hx hb dL_add_15 (by decide) ?_
      exact hret _ _ _ _ _ _ _ _ _ _ _ (by decide) (by decide) (Option.some.inj hf) dL_add_16 hw
    replace hf := iq hk hf
    by_cases hk : t5.1 = 3
    · replace hf := ip hk hf
      have hcl : s.vm.findClass "java/lang/IllegalStateException" = some ce.cls := by rw [hk] at hcl; exact hcl
      refine vx_catch (name := "java/lang/IllegalStateException") hown [⟨0, 10, 13, 19⟩] ⟨0, 10, 17, 25⟩ [] (htab.trans rfl) (fun z hz => by rw [List.mem_singleton.mp hz]; exact Or.inr ⟨by decide, "java/lang/IndexOutOfBoundsException", hts _ qw698, hNc.2.1⟩) (by decide) (by decide) (hts _ qw717) (xodd_args hX.2.2.2 _ (by decide)) hce hcv hcl ?_
      refine lv_astore (lv' := [(4, .ref q), (0, .ref (h 0)), (1, .int a1), (2, .int a2), (3, .ref ho)]) hx hb dL_add_17 hl (by decide) rfl (fun ls hl => ?_)
      refine lv_iconst (v := 2) hx hb dL_add_19 (by decide) ?_
      exact hret _ _ _ _ _ _ _ _ _ _ _ (by decide) (by decide) (Option.some.inj hf) dL_add_20 hw
    replace hf := iq hk hf
    exact nn hf
  · replace hf := se_r hf
    refine xcallV (ws' := (wC g h u5.2.1 snap has u5.2.2.1 ent u5.2.2.2 num col ++ [(ho, .inl (g.2.2.2.1, 1, .inr (.inl arr)))])) (st1 := [.int u5.1, .int 0, .ref ho]) (n := 35) E hw [.int a1, .int a2] [0, 1, 2, 3, 4, 5, 6, 7, 8, 9, 10, 11, 12, 13, 14, 15, 16, 17, 18, 19, 20, 21, 22, 23, 24, 25, 26, 27, 28, 29, 30, 31, 32, 33] (met_X10_add l g h now snap has hist ent res num col a1 a2 u5 hv5) rfl (by decide) rfl rfl [35, 36, 37, 38, 39, 40, 41, 42, 43, 44, 45, 46, 47, 48, 49, 50, 51, 52, 53, 54, 55, 56, 57, 58, 59, 60, 61, 62, 63, 64, 65, 66, 67, 68, 34] rfl (by decide +kernel) rfl rfl rfl rfl qw718 k_X10_add ⟨rfl, rfl, Nat.le_of_ble_eq_true rfl, Nat.le_of_ble_eq_true rfl⟩ ⟨Nat.zero_le _, Nat.zero_le _⟩ hl.1 (Nat.le_of_ble_eq_true rfl) dL_add_5 rfl (fun H locs hw => ?_)
    refine lv_i2l hx hb dL_add_8 rfl ?_
    refine xlast (ws' := (wC g h u5.2.1 snap has u5.2.2.1 ent u5.2.2.2 num col ++ [(ho, .inl (g.2.2.2.1, 1, .inr (.inl (vp_updL arr (0 : Int32).toNatClampNeg u5.1.toInt64))))])) E hw 34 rfl (by decide) dL_add_9 rfl (fun H locs hw => ?_)
    refine lv_goto (tgt := 21) hx hb dL_add_10 (by decide) ?_
    refine lv_iconst (v := 0) hx hb dL_add_21 (by decide) ?_
    exact hret _ _ _ _ _ _ _ _ _ _ _ (by decide) (by decide) (Option.some.inj hf) dL_add_22 hw
theorem k_L_subtract : xKW yL_subtract cL_subtract 5 (some .int) [(0, 10, 13, 19), (0, 10, 17, 25)] 4 := ⟨qw749, qw65, qw750, by decide +kernel, by decide +kernel, by decide +kernel⟩
set_option maxHeartbeats 4000000 in
set_option maxRecDepth 100000 in
theorem met_L_subtract (l : Launch) (hlT : l.stackTraces = false) (g : xG) (h : Nat → Nat) (ho : Nat) (now : SC) (snap : SC) (has : Int32) (hist : HC) (ent : EC) (res : RC) (num : NC) (col : CC) (arr : (Nat → Int64)) (a1 : Int32) (a2 : Int32) (out : Int32 × SC × HC × RC × (Nat → Int64)) (hf : f_L_subtract now hist res arr a1 a2 = some out) : xMW l yL_subtract (xCW yL_subtract cL_subtract 5 (some .int) [(0, 10, 13, 19), (0, 10, 17, 25)]) { frames := 9, cells := 1, slots := 6, locals := 163 } g (wC g h now snap has hist ent res num col ++ [(ho, .inl (g.2.2.2.1, 1, .inr (.inl arr)))]) [.ref (h 0), .int a1, .int a2, .ref ho] (some (.int out.1)) (wC g h out.2.1 snap has out.2.2.1 ent out.2.2.2.1 num col ++ [(ho, .inl (g.2.2.2.1, 1, .inr (.inl out.2.2.2.2)))]) := by
  refine xofW (by decide) (Nat.le_of_ble_eq_true rfl) ?_
  intro p e s m below meth c A ls E hr hlocks htab hX hNc hw hl hpost
  have hx := E.1.1
  have hb := E.1.2.1
  have hown := E.1.2.2.2.1
  have hts := E.1.2.2.2.2
  generalize hZ : (MQ below (xPost g (wC g h now snap has hist ent res num col ++ [(ho, .inl (g.2.2.2.1, 1, .inr (.inl arr)))]) (wC g h out.2.1 snap has out.2.2.1 ent out.2.2.2.1 num col ++ [(ho, .inl (g.2.2.2.1, 1, .inr (.inl out.2.2.2.2)))]) s.heap.size (some (.int out.1))) [.ref (h 0), .int a1, .int a2, .ref ho].toArray s 1 6 A) = ZZ
  have hret : ∀ (pc : Nat) (H : Heap) (locs : List Loc) (ls : Array Slot) (cells slots : Nat) (v : Int32) (cnow : SC) (chist : HC) (cres : RC) (carr : (Nat → Int64)), cells ≤ 1 → slots ≤ 6 → (v, cnow, chist, cres, carr) = out → decode cL_subtract pc = .ok (.ireturn, 1) → xW g A s.heap (wC g h cnow snap has chist ent cres num col ++ [(ho, .inl (g.2.2.2.1, 1, .inr (.inl carr)))]) H locs → W p l e { frames := 9, cells := 1, slots := 6, locals := 163 } s m [.ref (h 0), .int a1, .int a2, .ref ho].toArray below meth c H locs cells slots ZZ (F0 m pc ls [.int v]) := by
    intro pc H locs ls cells slots v cnow chist cres carr hc hs he hd hw
    subst he
    rw [← hZ]
    exact W.widen hc hs (W.iret hx hb hr (hpost H locs hw).1 (hpost H locs hw).2 hd hlocks)
  clear hpost
  refine lv_aload_n hx hb dL_subtract_0 rfl (lv_at hl 3 rfl) ?_
  refine lv_iconst (v := 0) hx hb dL_subtract_1 (by decide) ?_
  refine lv_aload_n hx hb dL_subtract_2 rfl (lv_at hl 0 rfl) ?_
  refine lv_iload_n hx hb dL_subtract_3 rfl (lv_at hl 1 rfl) ?_
  refine lv_iload_n hx hb dL_subtract_4 rfl (lv_at hl 2 rfl) ?_
  obtain ⟨v5, hv5, hf⟩ := ob_e hf
  rcases v5 with t5 | u5
  · replace hf := se_l hf
    refine xcallVX (ws' := (wC g h t5.2.1 snap has t5.2.2.1 ent t5.2.2.2 num col ++ [(ho, .inl (g.2.2.2.1, 1, .inr (.inl arr)))])) (n := 35) E hX hw [.int a1, .int a2] [0, 1, 2, 3, 4, 5, 6, 7, 8, 9, 10, 11, 12, 13, 14, 15, 16, 17, 18, 19, 20, 21, 22, 23, 24, 25, 26, 27, 28, 29, 30, 31, 32, 33] (metx_X10_subtract l hlT g h now snap has hist ent res num col a1 a2 t5 hv5) rfl (by decide) rfl rfl [35, 36, 37, 38, 39, 40, 41, 42, 43, 44, 45, 46, 47, 48, 49, 50, 51, 52, 53, 54, 55, 56, 57, 58, 59, 60, 61, 62, 63, 64, 65, 66, 67, 68, 34] rfl (by decide +kernel) rfl rfl rfl rfl qw751 k_X10_subtract ⟨rfl, rfl, Nat.le_of_ble_eq_true rfl, Nat.le_of_ble_eq_true rfl⟩ ⟨by decide, by decide⟩ hl.1 (Nat.le_of_ble_eq_true rfl) dL_subtract_5 (fun H locs q ce hw hce hcv hcl => ?_)
    by_cases hk : t5.1 = 1
    · replace hf := ip hk hf
      have hcl : s.vm.findClass "java/lang/IndexOutOfBoundsException" = some ce.cls := by rw [hk] at hcl; exact hcl
      refine vx_catch (name := "java/lang/IndexOutOfBoundsException") hown [] ⟨0, 10, 13, 19⟩ [⟨0, 10, 17, 25⟩] (htab.trans rfl) (fun z hz => absurd hz List.not_mem_nil) (by decide) (by decide) (hts _ qw698) (xodd_args hX.2.2.2 _ (by decide)) hce hcv hcl ?_
      refine lv_astore (lv' := [(4, .ref q), (0, .ref (h 0)), (1, .int a1), (2, .int a2), (3, .ref ho)]) hx hb dL_subtract_13 hl (by decide) rfl (fun ls hl => ?_)
      refine lv_iconst (v := 1) hx hb dL_subtract_15 (by decide) ?_
      exact hret _ _ _ _ _ _ _ _ _ _ _ (by decide) (by decide) (Option.some.inj hf) dL_subtract_16 hw
    replace hf := iq hk hf
    by_cases hk : t5.1 = 3
    · replace hf := ip hk hf
      have hcl : s.vm.findClass "java/lang/IllegalStateException" = some ce.cls := by rw [hk] at hcl; exact hcl
      refine vx_catch (name := "java/lang/IllegalStateException") hown [⟨0, 10, 13, 19⟩] ⟨0, 10, 17, 25⟩ [] (htab.trans rfl) (fun z hz => by rw [List.mem_singleton.mp hz]; exact Or.inr ⟨by decide, "java/lang/IndexOutOfBoundsException", hts _ qw698, hNc.2.1⟩) (by decide) (by decide) (hts _ qw717) (xodd_args hX.2.2.2 _ (by decide)) hce hcv hcl ?_
      refine lv_astore (lv' := [(4, .ref q), (0, .ref (h 0)), (1, .int a1), (2, .int a2), (3, .ref ho)]) hx hb dL_subtract_17 hl (by decide) rfl (fun ls hl => ?_)
      refine lv_iconst (v := 2) hx hb dL_subtract_19 (by decide) ?_
      exact hret _ _ _ _ _ _ _ _ _ _ _ (by decide) (by decide) (Option.some.inj hf) dL_subtract_20 hw
    replace hf := iq hk hf
    exact nn hf
  · replace hf := se_r hf
    refine xcallV (ws' := (wC g h u5.2.1 snap has u5.2.2.1 ent u5.2.2.2 num col ++ [(ho, .inl (g.2.2.2.1, 1, .inr (.inl arr)))])) (st1 := [.int u5.1, .int 0, .ref ho]) (n := 35) E hw [.int a1, .int a2] [0, 1, 2, 3, 4, 5, 6, 7, 8, 9, 10, 11, 12, 13, 14, 15, 16, 17, 18, 19, 20, 21, 22, 23, 24, 25, 26, 27, 28, 29, 30, 31, 32, 33] (met_X10_subtract l g h now snap has hist ent res num col a1 a2 u5 hv5) rfl (by decide) rfl rfl [35, 36, 37, 38, 39, 40, 41, 42, 43, 44, 45, 46, 47, 48, 49, 50, 51, 52, 53, 54, 55, 56, 57, 58, 59, 60, 61, 62, 63, 64, 65, 66, 67, 68, 34] rfl (by decide +kernel) rfl rfl rfl rfl qw751 k_X10_subtract ⟨rfl, rfl, Nat.le_of_ble_eq_true rfl, Nat.le_of_ble_eq_true rfl⟩ ⟨Nat.zero_le _, Nat.zero_le _⟩ hl.1 (Nat.le_of_ble_eq_true rfl) dL_subtract_5 rfl (fun H locs hw => ?_)
    refine lv_i2l hx hb dL_subtract_8 rfl ?_
    refine xlast (ws' := (wC g h u5.2.1 snap has u5.2.2.1 ent u5.2.2.2 num col ++ [(ho, .inl (g.2.2.2.1, 1, .inr (.inl (vp_updL arr (0 : Int32).toNatClampNeg u5.1.toInt64))))])) E hw 34 rfl (by decide) dL_subtract_9 rfl (fun H locs hw => ?_)
    refine lv_goto (tgt := 21) hx hb dL_subtract_10 (by decide) ?_
    refine lv_iconst (v := 0) hx hb dL_subtract_21 (by decide) ?_
    exact hret _ _ _ _ _ _ _ _ _ _ _ (by decide) (by decide) (Option.some.inj hf) dL_subtract_22 hw
theorem k_L_shift : xKW yL_shift cL_shift 5 (some .int) [(0, 10, 13, 19), (0, 10, 17, 13), (0, 10, 21, 25)] 4 := ⟨qw760, qw65, qw761, by decide +kernel, by decide +kernel, by decide +kernel⟩
set_option maxHeartbeats 4000000 in
set_option maxRecDepth 100000 in
theorem met_L_shift (l : Launch) (hlT : l.stackTraces = false) (g : xG) (h : Nat → Nat) (ho : Nat) (now : SC) (snap : SC) (has : Int32) (hist : HC) (ent : EC) (res : RC) (num : NC) (col : CC) (arr : (Nat → Int64)) (a1 : Int32) (a2 : Int32) (out : Int32 × SC × HC × RC × (Nat → Int64)) (hf : f_L_shift now hist res arr a1 a2 = some out) : xMW l yL_shift (xCW yL_shift cL_shift 5 (some .int) [(0, 10, 13, 19), (0, 10, 17, 13), (0, 10, 21, 25)]) { frames := 8, cells := 1, slots := 6, locals := 142 } g (wC g h now snap has hist ent res num col ++ [(ho, .inl (g.2.2.2.1, 1, .inr (.inl arr)))]) [.ref (h 0), .int a1, .int a2, .ref ho] (some (.int out.1)) (wC g h out.2.1 snap has out.2.2.1 ent out.2.2.2.1 num col ++ [(ho, .inl (g.2.2.2.1, 1, .inr (.inl out.2.2.2.2)))]) := by
  refine xofW (by decide) (Nat.le_of_ble_eq_true rfl) ?_
  intro p e s m below meth c A ls E hr hlocks htab hX hNc hw hl hpost
  have hx := E.1.1
  have hb := E.1.2.1
  have hown := E.1.2.2.2.1
  have hts := E.1.2.2.2.2
  generalize hZ : (MQ below (xPost g (wC g h now snap has hist ent res num col ++ [(ho, .inl (g.2.2.2.1, 1, .inr (.inl arr)))]) (wC g h out.2.1 snap has out.2.2.1 ent out.2.2.2.1 num col ++ [(ho, .inl (g.2.2.2.1, 1, .inr (.inl out.2.2.2.2)))]) s.heap.size (some (.int out.1))) [.ref (h 0), .int a1, .int a2, .ref ho].toArray s 1 6 A) = ZZ
  have hret : ∀ (pc : Nat) (H : Heap) (locs : List Loc) (ls : Array Slot) (cells slots : Nat) (v : Int32) (cnow : SC) (chist : HC) (cres : RC) (carr : (Nat → Int64)), cells ≤ 1 → slots ≤ 6 → (v, cnow, chist, cres, carr) = out → decode cL_shift pc = .ok (.ireturn, 1) → xW g A s.heap (wC g h cnow snap has chist ent cres num col ++ [(ho, .inl (g.2.2.2.1, 1, .inr (.inl carr)))]) H locs → W p l e { frames := 8, cells := 1, slots := 6, locals := 142 } s m [.ref (h 0), .int a1, .int a2, .ref ho].toArray below meth c H locs cells slots ZZ (F0 m pc ls [.int v]) := by
    intro pc H locs ls cells slots v cnow chist cres carr hc hs he hd hw
    subst he
    rw [← hZ]
    exact W.widen hc hs (W.iret hx hb hr (hpost H locs hw).1 (hpost H locs hw).2 hd hlocks)
  clear hpost
  refine lv_aload_n hx hb dL_shift_0 rfl (lv_at hl 3 rfl) ?_
  refine lv_iconst (v := 0) hx hb dL_shift_1 (by decide) ?_
  refine lv_aload_n hx hb dL_shift_2 rfl (lv_at hl 0 rfl) ?_
  refine lv_iload_n hx hb dL_shift_3 rfl (lv_at hl 1 rfl) ?_
  refine lv_iload_n hx hb dL_shift_4 rfl (lv_at hl 2 rfl) ?_
  obtain ⟨v5, hv5, hf⟩ := ob_e hf
  rcases v5 with t5 | u5
  · replace hf := se_l hf
    refine xcallVX (ws' := (wC g h t5.2.1 snap has t5.2.2.1 ent t5.2.2.2 num col ++ [(ho, .inl (g.2.2.2.1, 1, .inr (.inl arr)))])) (n := 35) E hX hw [.int a1, .int a2] [0, 1, 2, 3, 4, 5, 6, 7, 8, 9, 10, 11, 12, 13, 14, 15, 16, 17, 18, 19, 20, 21, 22, 23, 24, 25, 26, 27, 28, 29, 30, 31, 32, 33] (metx_X10_shift l hlT g h now snap has hist ent res num col a1 a2 t5 hv5) rfl (by decide) rfl rfl [35, 36, 37, 38, 39, 40, 41, 42, 43, 44, 45, 46, 47, 48, 49, 50, 51, 52, 53, 54, 55, 56, 57, 58, 59, 60, 61, 62, 63, 64, 65, 66, 67, 68, 34] rfl (by decide +kernel) rfl rfl rfl rfl qw762 k_X10_shift ⟨rfl, rfl, Nat.le_of_ble_eq_true rfl, Nat.le_of_ble_eq_true rfl⟩ ⟨by decide, by decide⟩ hl.1 (Nat.le_of_ble_eq_true rfl) dL_shift_5 (fun H locs q ce hw hce hcv hcl => ?_)
    by_cases hk : t5.1 = 1
    · replace hf := ip hk hf
      have hcl : s.vm.findClass "java/lang/IndexOutOfBoundsException" = some ce.cls := by rw [hk] at hcl; exact hcl
      refine vx_catch (name := "java/lang/IndexOutOfBoundsException") hown [] ⟨0, 10, 13, 19⟩ [⟨0, 10, 17, 13⟩, ⟨0, 10, 21, 25⟩] (htab.trans rfl) (fun z hz => absurd hz List.not_mem_nil) (by decide) (by decide) (hts _ qw698) (xodd_args hX.2.2.2 _ (by decide)) hce hcv hcl ?_
      refine lv_astore (lv' := [(4, .ref q), (0, .ref (h 0)), (1, .int a1), (2, .int a2), (3, .ref ho)]) hx hb dL_shift_13 hl (by decide) rfl (fun ls hl => ?_)
      refine lv_iconst (v := 1) hx hb dL_shift_15 (by decide) ?_
      exact hret _ _ _ _ _ _ _ _ _ _ _ (by decide) (by decide) (Option.some.inj hf) dL_shift_16 hw
    replace hf := iq hk hf
    by_cases hk : t5.1 = 2
    · replace hf := ip hk hf
      have hcl : s.vm.findClass "java/lang/IllegalArgumentException" = some ce.cls := by rw [hk] at hcl; exact hcl
      refine vx_catch (name := "java/lang/IllegalArgumentException") hown [⟨0, 10, 13, 19⟩] ⟨0, 10, 17, 13⟩ [⟨0, 10, 21, 25⟩] (htab.trans rfl) (fun z hz => by rw [List.mem_singleton.mp hz]; exact Or.inr ⟨by decide, "java/lang/IndexOutOfBoundsException", hts _ qw698, hNc.1⟩) (by decide) (by decide) (hts _ qw682) (xodd_args hX.2.2.2 _ (by decide)) hce hcv hcl ?_
      refine lv_astore (lv' := [(4, .ref q), (0, .ref (h 0)), (1, .int a1), (2, .int a2), (3, .ref ho)]) hx hb dL_shift_17 hl (by decide) rfl (fun ls hl => ?_)
      refine lv_iconst (v := 2) hx hb dL_shift_19 (by decide) ?_
      exact hret _ _ _ _ _ _ _ _ _ _ _ (by decide) (by decide) (Option.some.inj hf) dL_shift_20 hw
    replace hf := iq hk hf
    by_cases hk : t5.1 = 3
    · replace hf := ip hk hf
      have hcl : s.vm.findClass "java/lang/IllegalStateException" = some ce.cls := by rw [hk] at hcl; exact hcl
      refine vx_catch (name := "java/lang/IllegalStateException") hown [⟨0, 10, 13, 19⟩, ⟨0, 10, 17, 13⟩] ⟨0, 10, 21, 25⟩ [] (htab.trans rfl) (fun z hz => by rcases List.mem_cons.mp hz with h | h; (rw [h]; exact Or.inr ⟨by decide, "java/lang/IndexOutOfBoundsException", hts _ qw698, hNc.2.1⟩); (rw [List.mem_singleton.mp h]; exact Or.inr ⟨by decide, "java/lang/IllegalArgumentException", hts _ qw682, hNc.2.2⟩)) (by decide) (by decide) (hts _ qw717) (xodd_args hX.2.2.2 _ (by decide)) hce hcv hcl ?_
      refine lv_astore (lv' := [(4, .ref q), (0, .ref (h 0)), (1, .int a1), (2, .int a2), (3, .ref ho)]) hx hb dL_shift_21 hl (by decide) rfl (fun ls hl => ?_)
      refine lv_iconst (v := 3) hx hb dL_shift_23 (by decide) ?_
      exact hret _ _ _ _ _ _ _ _ _ _ _ (by decide) (by decide) (Option.some.inj hf) dL_shift_24 hw
    replace hf := iq hk hf
    exact nn hf
  · replace hf := se_r hf
    refine xcallV (ws' := (wC g h u5.2.1 snap has u5.2.2.1 ent u5.2.2.2 num col ++ [(ho, .inl (g.2.2.2.1, 1, .inr (.inl arr)))])) (st1 := [.int u5.1, .int 0, .ref ho]) (n := 35) E hw [.int a1, .int a2] [0, 1, 2, 3, 4, 5, 6, 7, 8, 9, 10, 11, 12, 13, 14, 15, 16, 17, 18, 19, 20, 21, 22, 23, 24, 25, 26, 27, 28, 29, 30, 31, 32, 33] (met_X10_shift l g h now snap has hist ent res num col a1 a2 u5 hv5) rfl (by decide) rfl rfl [35, 36, 37, 38, 39, 40, 41, 42, 43, 44, 45, 46, 47, 48, 49, 50, 51, 52, 53, 54, 55, 56, 57, 58, 59, 60, 61, 62, 63, 64, 65, 66, 67, 68, 34] rfl (by decide +kernel) rfl rfl rfl rfl qw762 k_X10_shift ⟨rfl, rfl, Nat.le_of_ble_eq_true rfl, Nat.le_of_ble_eq_true rfl⟩ ⟨Nat.zero_le _, Nat.zero_le _⟩ hl.1 (Nat.le_of_ble_eq_true rfl) dL_shift_5 rfl (fun H locs hw => ?_)
    refine lv_i2l hx hb dL_shift_8 rfl ?_
    refine xlast (ws' := (wC g h u5.2.1 snap has u5.2.2.1 ent u5.2.2.2 num col ++ [(ho, .inl (g.2.2.2.1, 1, .inr (.inl (vp_updL arr (0 : Int32).toNatClampNeg u5.1.toInt64))))])) E hw 34 rfl (by decide) dL_shift_9 rfl (fun H locs hw => ?_)
    refine lv_goto (tgt := 25) hx hb dL_shift_10 (by decide) ?_
    refine lv_iconst (v := 0) hx hb dL_shift_25 (by decide) ?_
    exact hret _ _ _ _ _ _ _ _ _ _ _ (by decide) (by decide) (Option.some.inj hf) dL_shift_26 hw
theorem k_L_pay : xKW yL_pay cL_pay 6 (some .int) [(0, 12, 15, 19), (0, 12, 19, 13), (0, 12, 23, 25)] 5 := ⟨qw776, qw65, qw777, by decide +kernel, by decide +kernel, by decide +kernel⟩
set_option maxHeartbeats 4000000 in
set_option maxRecDepth 100000 in
theorem met_L_pay (l : Launch) (hlT : l.stackTraces = false) (g : xG) (h : Nat → Nat) (ho : Nat) (now : SC) (snap : SC) (has : Int32) (hist : HC) (ent : EC) (res : RC) (num : NC) (col : CC) (arr : (Nat → Int64)) (a1 : Int32) (a2 : Int32) (a3 : Int32) (out : Int32 × SC × HC × RC × (Nat → Int64)) (hf : f_L_pay now hist res arr a1 a2 a3 = some out) : xMW l yL_pay (xCW yL_pay cL_pay 6 (some .int) [(0, 12, 15, 19), (0, 12, 19, 13), (0, 12, 23, 25)]) { frames := 9, cells := 1, slots := 6, locals := 164 } g (wC g h now snap has hist ent res num col ++ [(ho, .inl (g.2.2.2.1, 1, .inr (.inl arr)))]) [.ref (h 0), .int a1, .int a2, .int a3, .ref ho] (some (.int out.1)) (wC g h out.2.1 snap has out.2.2.1 ent out.2.2.2.1 num col ++ [(ho, .inl (g.2.2.2.1, 1, .inr (.inl out.2.2.2.2)))]) := by
  refine xofW (by decide) (Nat.le_of_ble_eq_true rfl) ?_
  intro p e s m below meth c A ls E hr hlocks htab hX hNc hw hl hpost
  have hx := E.1.1
  have hb := E.1.2.1
  have hown := E.1.2.2.2.1
  have hts := E.1.2.2.2.2
  generalize hZ : (MQ below (xPost g (wC g h now snap has hist ent res num col ++ [(ho, .inl (g.2.2.2.1, 1, .inr (.inl arr)))]) (wC g h out.2.1 snap has out.2.2.1 ent out.2.2.2.1 num col ++ [(ho, .inl (g.2.2.2.1, 1, .inr (.inl out.2.2.2.2)))]) s.heap.size (some (.int out.1))) [.ref (h 0), .int a1, .int a2, .int a3, .ref ho].toArray s 1 6 A) = ZZ
  have hret : ∀ (pc : Nat) (H : Heap) (locs : List Loc) (ls : Array Slot) (cells slots : Nat) (v : Int32) (cnow : SC) (chist : HC) (cres : RC) (carr : (Nat → Int64)), cells ≤ 1 → slots ≤ 6 → (v, cnow, chist, cres, carr) = out → decode cL_pay pc = .ok (.ireturn, 1) → xW g A s.heap (wC g h cnow snap has chist ent cres num col ++ [(ho, .inl (g.2.2.2.1, 1, .inr (.inl carr)))]) H locs → W p l e { frames := 9, cells := 1, slots := 6, locals := 164 } s m [.ref (h 0), .int a1, .int a2, .int a3, .ref ho].toArray below meth c H locs cells slots ZZ (F0 m pc ls [.int v]) := by
    intro pc H locs ls cells slots v cnow chist cres carr hc hs he hd hw
    subst he
    rw [← hZ]
    exact W.widen hc hs (W.iret hx hb hr (hpost H locs hw).1 (hpost H locs hw).2 hd hlocks)
  clear hpost
  refine lv_aload hx hb dL_pay_0 (lv_at hl 4 rfl) ?_
  refine lv_iconst (v := 0) hx hb dL_pay_2 (by decide) ?_
  refine lv_aload_n hx hb dL_pay_3 rfl (lv_at hl 0 rfl) ?_
  refine lv_iload_n hx hb dL_pay_4 rfl (lv_at hl 1 rfl) ?_
  refine lv_iload_n hx hb dL_pay_5 rfl (lv_at hl 2 rfl) ?_
  refine lv_iload_n hx hb dL_pay_6 rfl (lv_at hl 3 rfl) ?_
  obtain ⟨v7, hv7, hf⟩ := ob_e hf
  rcases v7 with t7 | u7
  · replace hf := se_l hf
    refine xcallVX (ws' := (wC g h t7.2.1 snap has t7.2.2.1 ent t7.2.2.2 num col ++ [(ho, .inl (g.2.2.2.1, 1, .inr (.inl arr)))])) (n := 35) E hX hw [.int a1, .int a2, .int a3] [0, 1, 2, 3, 4, 5, 6, 7, 8, 9, 10, 11, 12, 13, 14, 15, 16, 17, 18, 19, 20, 21, 22, 23, 24, 25, 26, 27, 28, 29, 30, 31, 32, 33] (metx_X10_pay l hlT g h now snap has hist ent res num col a1 a2 a3 t7 hv7) rfl (by decide) rfl rfl [35, 36, 37, 38, 39, 40, 41, 42, 43, 44, 45, 46, 47, 48, 49, 50, 51, 52, 53, 54, 55, 56, 57, 58, 59, 60, 61, 62, 63, 64, 65, 66, 67, 68, 34] rfl (by decide +kernel) rfl rfl rfl rfl qw778 k_X10_pay ⟨rfl, rfl, Nat.le_of_ble_eq_true rfl, Nat.le_of_ble_eq_true rfl⟩ ⟨by decide, by decide⟩ hl.1 (Nat.le_of_ble_eq_true rfl) dL_pay_7 (fun H locs q ce hw hce hcv hcl => ?_)
    by_cases hk : t7.1 = 1
    · replace hf := ip hk hf
      have hcl : s.vm.findClass "java/lang/IndexOutOfBoundsException" = some ce.cls := by rw [hk] at hcl; exact hcl
      refine vx_catch (name := "java/lang/IndexOutOfBoundsException") hown [] ⟨0, 12, 15, 19⟩ [⟨0, 12, 19, 13⟩, ⟨0, 12, 23, 25⟩] (htab.trans rfl) (fun z hz => absurd hz List.not_mem_nil) (by decide) (by decide) (hts _ qw698) (xodd_args hX.2.2.2 _ (by decide)) hce hcv hcl ?_
      refine lv_astore (lv' := [(5, .ref q), (0, .ref (h 0)), (1, .int a1), (2, .int a2), (3, .int a3), (4, .ref ho)]) hx hb dL_pay_15 hl (by decide) rfl (fun ls hl => ?_)
      refine lv_iconst (v := 1) hx hb dL_pay_17 (by decide) ?_
      exact hret _ _ _ _ _ _ _ _ _ _ _ (by decide) (by decide) (Option.some.inj hf) dL_pay_18 hw
    replace hf := iq hk hf
    by_cases hk : t7.1 = 2
    · replace hf := ip hk hf
      have hcl : s.vm.findClass "java/lang/IllegalArgumentException" = some ce.cls := by rw [hk] at hcl; exact hcl
      refine vx_catch (name := "java/lang/IllegalArgumentException") hown [⟨0, 12, 15, 19⟩] ⟨0, 12, 19, 13⟩ [⟨0, 12, 23, 25⟩] (htab.trans rfl) (fun z hz => by rw [List.mem_singleton.mp hz]; exact Or.inr ⟨by decide, "java/lang/IndexOutOfBoundsException", hts _ qw698, hNc.1⟩) (by decide) (by decide) (hts _ qw682) (xodd_args hX.2.2.2 _ (by decide)) hce hcv hcl ?_
      refine lv_astore (lv' := [(5, .ref q), (0, .ref (h 0)), (1, .int a1), (2, .int a2), (3, .int a3), (4, .ref ho)]) hx hb dL_pay_19 hl (by decide) rfl (fun ls hl => ?_)
      refine lv_iconst (v := 2) hx hb dL_pay_21 (by decide) ?_
      exact hret _ _ _ _ _ _ _ _ _ _ _ (by decide) (by decide) (Option.some.inj hf) dL_pay_22 hw
    replace hf := iq hk hf
    by_cases hk : t7.1 = 3
    · replace hf := ip hk hf
      have hcl : s.vm.findClass "java/lang/IllegalStateException" = some ce.cls := by rw [hk] at hcl; exact hcl
      refine vx_catch (name := "java/lang/IllegalStateException") hown [⟨0, 12, 15, 19⟩, ⟨0, 12, 19, 13⟩] ⟨0, 12, 23, 25⟩ [] (htab.trans rfl) (fun z hz => by rcases List.mem_cons.mp hz with h | h; (rw [h]; exact Or.inr ⟨by decide, "java/lang/IndexOutOfBoundsException", hts _ qw698, hNc.2.1⟩); (rw [List.mem_singleton.mp h]; exact Or.inr ⟨by decide, "java/lang/IllegalArgumentException", hts _ qw682, hNc.2.2⟩)) (by decide) (by decide) (hts _ qw717) (xodd_args hX.2.2.2 _ (by decide)) hce hcv hcl ?_
      refine lv_astore (lv' := [(5, .ref q), (0, .ref (h 0)), (1, .int a1), (2, .int a2), (3, .int a3), (4, .ref ho)]) hx hb dL_pay_23 hl (by decide) rfl (fun ls hl => ?_)
      refine lv_iconst (v := 3) hx hb dL_pay_25 (by decide) ?_
      exact hret _ _ _ _ _ _ _ _ _ _ _ (by decide) (by decide) (Option.some.inj hf) dL_pay_26 hw
    replace hf := iq hk hf
    exact nn hf
  · replace hf := se_r hf
    refine xcallV (ws' := (wC g h u7.2.1 snap has u7.2.2.1 ent u7.2.2.2 num col ++ [(ho, .inl (g.2.2.2.1, 1, .inr (.inl arr)))])) (st1 := [.int u7.1, .int 0, .ref ho]) (n := 35) E hw [.int a1, .int a2, .int a3] [0, 1, 2, 3, 4, 5, 6, 7, 8, 9, 10, 11, 12, 13, 14, 15, 16, 17, 18, 19, 20, 21, 22, 23, 24, 25, 26, 27, 28, 29, 30, 31, 32, 33] (met_X10_pay l g h now snap has hist ent res num col a1 a2 a3 u7 hv7) rfl (by decide) rfl rfl [35, 36, 37, 38, 39, 40, 41, 42, 43, 44, 45, 46, 47, 48, 49, 50, 51, 52, 53, 54, 55, 56, 57, 58, 59, 60, 61, 62, 63, 64, 65, 66, 67, 68, 34] rfl (by decide +kernel) rfl rfl rfl rfl qw778 k_X10_pay ⟨rfl, rfl, Nat.le_of_ble_eq_true rfl, Nat.le_of_ble_eq_true rfl⟩ ⟨Nat.zero_le _, Nat.zero_le _⟩ hl.1 (Nat.le_of_ble_eq_true rfl) dL_pay_7 rfl (fun H locs hw => ?_)
    refine lv_i2l hx hb dL_pay_10 rfl ?_
    refine xlast (ws' := (wC g h u7.2.1 snap has u7.2.2.1 ent u7.2.2.2 num col ++ [(ho, .inl (g.2.2.2.1, 1, .inr (.inl (vp_updL arr (0 : Int32).toNatClampNeg u7.1.toInt64))))])) E hw 34 rfl (by decide) dL_pay_11 rfl (fun H locs hw => ?_)
    refine lv_goto (tgt := 27) hx hb dL_pay_12 (by decide) ?_
    refine lv_iconst (v := 0) hx hb dL_pay_27 (by decide) ?_
    exact hret _ _ _ _ _ _ _ _ _ _ _ (by decide) (by decide) (Option.some.inj hf) dL_pay_28 hw
theorem k_L_append : xKW yL_append cL_append 4 (some .int) [(0, 9, 12, 13), (0, 9, 15, 25)] 3 := ⟨qw790, qw65, qw791, by decide +kernel, by decide +kernel, by decide +kernel⟩
set_option maxHeartbeats 4000000 in
set_option maxRecDepth 100000 in
theorem met_L_append (l : Launch) (hlT : l.stackTraces = false) (g : xG) (h : Nat → Nat) (ho : Nat) (now : SC) (snap : SC) (has : Int32) (hist : HC) (ent : EC) (res : RC) (num : NC) (col : CC) (arr : (Nat → Int64)) (a1 : Int32) (out : Int32 × EC × (Nat → Int64)) (hf : f_L_append ent arr a1 = some out) : xMW l yL_append (xCW yL_append cL_append 4 (some .int) [(0, 9, 12, 13), (0, 9, 15, 25)]) { frames := 7, cells := 1, slots := 6, locals := 121 } g (wC g h now snap has hist ent res num col ++ [(ho, .inl (g.2.2.2.1, 1, .inr (.inl arr)))]) [.ref (h 0), .int a1, .ref ho] (some (.int out.1)) (wC g h now snap has hist out.2.1 res num col ++ [(ho, .inl (g.2.2.2.1, 1, .inr (.inl out.2.2)))]) := by
  refine xofW (by decide) (Nat.le_of_ble_eq_true rfl) ?_
  intro p e s m below meth c A ls E hr hlocks htab hX hNc hw hl hpost
  have hx := E.1.1
  have hb := E.1.2.1
  have hown := E.1.2.2.2.1
  have hts := E.1.2.2.2.2
  generalize hZ : (MQ below (xPost g (wC g h now snap has hist ent res num col ++ [(ho, .inl (g.2.2.2.1, 1, .inr (.inl arr)))]) (wC g h now snap has hist out.2.1 res num col ++ [(ho, .inl (g.2.2.2.1, 1, .inr (.inl out.2.2)))]) s.heap.size (some (.int out.1))) [.ref (h 0), .int a1, .ref ho].toArray s 1 6 A) = ZZ
  have hret : ∀ (pc : Nat) (H : Heap) (locs : List Loc) (ls : Array Slot) (cells slots : Nat) (v : Int32) (cent : EC) (carr : (Nat → Int64)), cells ≤ 1 → slots ≤ 6 → (v, cent, carr) = out → decode cL_append pc = .ok (.ireturn, 1) → xW g A s.heap (wC g h now snap has hist cent res num col ++ [(ho, .inl (g.2.2.2.1, 1, .inr (.inl carr)))]) H locs → W p l e { frames := 7, cells := 1, slots := 6, locals := 121 } s m [.ref (h 0), .int a1, .ref ho].toArray below meth c H locs cells slots ZZ (F0 m pc ls [.int v]) := by
    intro pc H locs ls cells slots v cent carr hc hs he hd hw
    subst he
    rw [← hZ]
    exact W.widen hc hs (W.iret hx hb hr (hpost H locs hw).1 (hpost H locs hw).2 hd hlocks)
  clear hpost
  refine lv_aload_n hx hb dL_append_0 rfl (lv_at hl 2 rfl) ?_
  refine lv_iconst (v := 0) hx hb dL_append_1 (by decide) ?_
  refine lv_aload_n hx hb dL_append_2 rfl (lv_at hl 0 rfl) ?_
  refine lv_iload_n hx hb dL_append_3 rfl (lv_at hl 1 rfl) ?_
  obtain ⟨v4, hv4, hf⟩ := ob_e hf
  rcases v4 with t4 | u4
  · replace hf := se_l hf
    refine xcallVX (ws' := (wC g h now snap has hist t4.2 res num col ++ [(ho, .inl (g.2.2.2.1, 1, .inr (.inl arr)))])) (n := 35) E hX hw [.int a1] [0, 1, 2, 3, 4, 5, 6, 7, 8, 9, 10, 11, 12, 13, 14, 15, 16, 17, 18, 19, 20, 21, 22, 23, 24, 25, 26, 27, 28, 29, 30, 31, 32, 33] (metx_X10_append l hlT g h now snap has hist ent res num col a1 t4 hv4) rfl (by decide) rfl rfl [35, 36, 37, 38, 39, 40, 41, 42, 43, 44, 45, 46, 47, 48, 49, 50, 51, 52, 53, 54, 55, 56, 57, 58, 59, 60, 61, 62, 63, 64, 65, 66, 67, 68, 34] rfl (by decide +kernel) rfl rfl rfl rfl qw792 k_X10_append ⟨rfl, rfl, Nat.le_of_ble_eq_true rfl, Nat.le_of_ble_eq_true rfl⟩ ⟨by decide, by decide⟩ hl.1 (Nat.le_of_ble_eq_true rfl) dL_append_4 (fun H locs q ce hw hce hcv hcl => ?_)
    by_cases hk : t4.1 = 2
    · replace hf := ip hk hf
      have hcl : s.vm.findClass "java/lang/IllegalArgumentException" = some ce.cls := by rw [hk] at hcl; exact hcl
      refine vx_catch (name := "java/lang/IllegalArgumentException") hown [] ⟨0, 9, 12, 13⟩ [⟨0, 9, 15, 25⟩] (htab.trans rfl) (fun z hz => absurd hz List.not_mem_nil) (by decide) (by decide) (hts _ qw682) (xodd_args hX.2.2.2 _ (by decide)) hce hcv hcl ?_
      refine lv_astore_n (lv' := [(3, .ref q), (0, .ref (h 0)), (1, .int a1), (2, .ref ho)]) hx hb dL_append_12 rfl hl (by decide) rfl (fun ls hl => ?_)
      refine lv_iconst (v := 1) hx hb dL_append_13 (by decide) ?_
      exact hret _ _ _ _ _ _ _ _ _ (by decide) (by decide) (Option.some.inj hf) dL_append_14 hw
    replace hf := iq hk hf
    by_cases hk : t4.1 = 3
    · replace hf := ip hk hf
      have hcl : s.vm.findClass "java/lang/IllegalStateException" = some ce.cls := by rw [hk] at hcl; exact hcl
      refine vx_catch (name := "java/lang/IllegalStateException") hown [⟨0, 9, 12, 13⟩] ⟨0, 9, 15, 25⟩ [] (htab.trans rfl) (fun z hz => by rw [List.mem_singleton.mp hz]; exact Or.inr ⟨by decide, "java/lang/IllegalArgumentException", hts _ qw682, hNc.2.2⟩) (by decide) (by decide) (hts _ qw717) (xodd_args hX.2.2.2 _ (by decide)) hce hcv hcl ?_
      refine lv_astore_n (lv' := [(3, .ref q), (0, .ref (h 0)), (1, .int a1), (2, .ref ho)]) hx hb dL_append_15 rfl hl (by decide) rfl (fun ls hl => ?_)
      refine lv_iconst (v := 2) hx hb dL_append_16 (by decide) ?_
      exact hret _ _ _ _ _ _ _ _ _ (by decide) (by decide) (Option.some.inj hf) dL_append_17 hw
    replace hf := iq hk hf
    exact nn hf
  · replace hf := se_r hf
    refine xcallV (ws' := (wC g h now snap has hist u4.2 res num col ++ [(ho, .inl (g.2.2.2.1, 1, .inr (.inl arr)))])) (st1 := [.int u4.1, .int 0, .ref ho]) (n := 35) E hw [.int a1] [0, 1, 2, 3, 4, 5, 6, 7, 8, 9, 10, 11, 12, 13, 14, 15, 16, 17, 18, 19, 20, 21, 22, 23, 24, 25, 26, 27, 28, 29, 30, 31, 32, 33] (met_X10_append l g h now snap has hist ent res num col a1 u4 hv4) rfl (by decide) rfl rfl [35, 36, 37, 38, 39, 40, 41, 42, 43, 44, 45, 46, 47, 48, 49, 50, 51, 52, 53, 54, 55, 56, 57, 58, 59, 60, 61, 62, 63, 64, 65, 66, 67, 68, 34] rfl (by decide +kernel) rfl rfl rfl rfl qw792 k_X10_append ⟨rfl, rfl, Nat.le_of_ble_eq_true rfl, Nat.le_of_ble_eq_true rfl⟩ ⟨Nat.zero_le _, Nat.zero_le _⟩ hl.1 (Nat.le_of_ble_eq_true rfl) dL_append_4 rfl (fun H locs hw => ?_)
    refine lv_i2l hx hb dL_append_7 rfl ?_
    refine xlast (ws' := (wC g h now snap has hist u4.2 res num col ++ [(ho, .inl (g.2.2.2.1, 1, .inr (.inl (vp_updL arr (0 : Int32).toNatClampNeg u4.1.toInt64))))])) E hw 34 rfl (by decide) dL_append_8 rfl (fun H locs hw => ?_)
    refine lv_goto (tgt := 18) hx hb dL_append_9 (by decide) ?_
    refine lv_iconst (v := 0) hx hb dL_append_18 (by decide) ?_
    exact hret _ _ _ _ _ _ _ _ _ (by decide) (by decide) (Option.some.inj hf) dL_append_19 hw
theorem k_L_enter : xKW yL_enter cL_enter 3 (some .int) [(0, 8, 11, 13)] 2 := ⟨qw803, qw65, qw804, by decide +kernel, by decide +kernel, by decide +kernel⟩
set_option maxHeartbeats 4000000 in
set_option maxRecDepth 100000 in
theorem met_L_enter (l : Launch) (hlT : l.stackTraces = false) (g : xG) (h : Nat → Nat) (ho : Nat) (now : SC) (snap : SC) (has : Int32) (hist : HC) (ent : EC) (res : RC) (num : NC) (col : CC) (arr : (Nat → Int64)) (out : Int32 × SC × HC × EC × RC × NC × (Nat → Int64)) (hf : f_L_enter now hist ent res num arr = some out) : xMW l yL_enter (xCW yL_enter cL_enter 3 (some .int) [(0, 8, 11, 13)]) { frames := 7, cells := 1, slots := 6, locals := 176 } g (wC g h now snap has hist ent res num col ++ [(ho, .inl (g.2.2.2.1, 1, .inr (.inl arr)))]) [.ref (h 0), .ref ho] (some (.int out.1)) (wC g h out.2.1 snap has out.2.2.1 out.2.2.2.1 out.2.2.2.2.1 out.2.2.2.2.2.1 col ++ [(ho, .inl (g.2.2.2.1, 1, .inr (.inl out.2.2.2.2.2.2)))]) := by
  refine xofW (by decide) (Nat.le_of_ble_eq_true rfl) ?_
  intro p e s m below meth c A ls E hr hlocks htab hX hNc hw hl hpost
  have hx := E.1.1
  have hb := E.1.2.1
  have hown := E.1.2.2.2.1
  have hts := E.1.2.2.2.2
  generalize hZ : (MQ below (xPost g (wC g h now snap has hist ent res num col ++ [(ho, .inl (g.2.2.2.1, 1, .inr (.inl arr)))]) (wC g h out.2.1 snap has out.2.2.1 out.2.2.2.1 out.2.2.2.2.1 out.2.2.2.2.2.1 col ++ [(ho, .inl (g.2.2.2.1, 1, .inr (.inl out.2.2.2.2.2.2)))]) s.heap.size (some (.int out.1))) [.ref (h 0), .ref ho].toArray s 1 6 A) = ZZ
  have hret : ∀ (pc : Nat) (H : Heap) (locs : List Loc) (ls : Array Slot) (cells slots : Nat) (v : Int32) (cnow : SC) (chist : HC) (cent : EC) (cres : RC) (cnum : NC) (carr : (Nat → Int64)), cells ≤ 1 → slots ≤ 6 → (v, cnow, chist, cent, cres, cnum, carr) = out → decode cL_enter pc = .ok (.ireturn, 1) → xW g A s.heap (wC g h cnow snap has chist cent cres cnum col ++ [(ho, .inl (g.2.2.2.1, 1, .inr (.inl carr)))]) H locs → W p l e { frames := 7, cells := 1, slots := 6, locals := 176 } s m [.ref (h 0), .ref ho].toArray below meth c H locs cells slots ZZ (F0 m pc ls [.int v]) := by
    intro pc H locs ls cells slots v cnow chist cent cres cnum carr hc hs he hd hw
    subst he
    rw [← hZ]
    exact W.widen hc hs (W.iret hx hb hr (hpost H locs hw).1 (hpost H locs hw).2 hd hlocks)
  clear hpost
  refine lv_aload_n hx hb dL_enter_0 rfl (lv_at hl 1 rfl) ?_
  refine lv_iconst (v := 0) hx hb dL_enter_1 (by decide) ?_
  refine lv_aload_n hx hb dL_enter_2 rfl (lv_at hl 0 rfl) ?_
  obtain ⟨v3, hv3, hf⟩ := ob_e hf
  rcases v3 with t3 | u3
  · replace hf := se_l hf
    refine xcallVX (ws' := (wC g h t3.2.1 snap has t3.2.2.1 t3.2.2.2.1 t3.2.2.2.2.1 t3.2.2.2.2.2 col ++ [(ho, .inl (g.2.2.2.1, 1, .inr (.inl arr)))])) (n := 35) E hX hw [] [0, 1, 2, 3, 4, 5, 6, 7, 8, 9, 10, 11, 12, 13, 14, 15, 16, 17, 18, 19, 20, 21, 22, 23, 24, 25, 26, 27, 28, 29, 30, 31, 32, 33] (metx_X10_enter l hlT g h now snap has hist ent res num col t3 hv3) rfl (by decide) rfl rfl [35, 36, 37, 38, 39, 40, 41, 42, 43, 44, 45, 46, 47, 48, 49, 50, 51, 52, 53, 54, 55, 56, 57, 58, 59, 60, 61, 62, 63, 64, 65, 66, 67, 68, 34] rfl (by decide +kernel) rfl rfl rfl rfl qw805 k_X10_enter ⟨rfl, rfl, Nat.le_of_ble_eq_true rfl, Nat.le_of_ble_eq_true rfl⟩ ⟨by decide, by decide⟩ hl.1 (Nat.le_of_ble_eq_true rfl) dL_enter_3 (fun H locs q ce hw hce hcv hcl => ?_)
    by_cases hk : t3.1 = 2
    · replace hf := ip hk hf
      have hcl : s.vm.findClass "java/lang/IllegalArgumentException" = some ce.cls := by rw [hk] at hcl; exact hcl
      refine vx_catch (name := "java/lang/IllegalArgumentException") hown [] ⟨0, 8, 11, 13⟩ [] (htab.trans rfl) (fun z hz => absurd hz List.not_mem_nil) (by decide) (by decide) (hts _ qw682) (xodd_args hX.2.2.2 _ (by decide)) hce hcv hcl ?_
      refine lv_astore_n (lv' := [(2, .ref q), (0, .ref (h 0)), (1, .ref ho)]) hx hb dL_enter_11 rfl hl (by decide) rfl (fun ls hl => ?_)
      refine lv_iconst (v := 1) hx hb dL_enter_12 (by decide) ?_
      exact hret _ _ _ _ _ _ _ _ _ _ _ _ _ (by decide) (by decide) (Option.some.inj hf) dL_enter_13 hw
    replace hf := iq hk hf
    exact nn hf
  · replace hf := se_r hf
    refine xcallV (ws' := (wC g h u3.2.1 snap has u3.2.2.1 u3.2.2.2.1 u3.2.2.2.2.1 u3.2.2.2.2.2 col ++ [(ho, .inl (g.2.2.2.1, 1, .inr (.inl arr)))])) (st1 := [.int u3.1, .int 0, .ref ho]) (n := 35) E hw [] [0, 1, 2, 3, 4, 5, 6, 7, 8, 9, 10, 11, 12, 13, 14, 15, 16, 17, 18, 19, 20, 21, 22, 23, 24, 25, 26, 27, 28, 29, 30, 31, 32, 33] (met_X10_enter l g h now snap has hist ent res num col u3 hv3) rfl (by decide) rfl rfl [35, 36, 37, 38, 39, 40, 41, 42, 43, 44, 45, 46, 47, 48, 49, 50, 51, 52, 53, 54, 55, 56, 57, 58, 59, 60, 61, 62, 63, 64, 65, 66, 67, 68, 34] rfl (by decide +kernel) rfl rfl rfl rfl qw805 k_X10_enter ⟨rfl, rfl, Nat.le_of_ble_eq_true rfl, Nat.le_of_ble_eq_true rfl⟩ ⟨Nat.zero_le _, Nat.zero_le _⟩ hl.1 (Nat.le_of_ble_eq_true rfl) dL_enter_3 rfl (fun H locs hw => ?_)
    refine lv_i2l hx hb dL_enter_6 rfl ?_
    refine xlast (ws' := (wC g h u3.2.1 snap has u3.2.2.1 u3.2.2.2.1 u3.2.2.2.2.1 u3.2.2.2.2.2 col ++ [(ho, .inl (g.2.2.2.1, 1, .inr (.inl (vp_updL arr (0 : Int32).toNatClampNeg u3.1.toInt64))))])) E hw 34 rfl (by decide) dL_enter_7 rfl (fun H locs hw => ?_)
    refine lv_goto (tgt := 14) hx hb dL_enter_8 (by decide) ?_
    refine lv_iconst (v := 0) hx hb dL_enter_14 (by decide) ?_
    exact hret _ _ _ _ _ _ _ _ _ _ _ _ _ (by decide) (by decide) (Option.some.inj hf) dL_enter_15 hw
theorem k_L_stoppedPart : xKW yL_stoppedPart cL_stoppedPart 3 (some .int) [(0, 8, 11, 25)] 2 := ⟨qw859, qw65, qw860, by decide +kernel, by decide +kernel, by decide +kernel⟩
set_option maxHeartbeats 4000000 in
set_option maxRecDepth 100000 in
theorem met_L_stoppedPart (l : Launch) (hlT : l.stackTraces = false) (g : xG) (h : Nat → Nat) (ho : Nat) (now : SC) (snap : SC) (has : Int32) (hist : HC) (ent : EC) (res : RC) (num : NC) (col : CC) (arr : (Nat → Int64)) (out : Int32 × (Nat → Int64)) (hf : f_L_stoppedPart now arr = some out) : xMW l yL_stoppedPart (xCW yL_stoppedPart cL_stoppedPart 3 (some .int) [(0, 8, 11, 25)]) { frames := 8, cells := 1, slots := 6, locals := 140 } g (wC g h now snap has hist ent res num col ++ [(ho, .inl (g.2.2.2.1, 1, .inr (.inl arr)))]) [.ref (h 0), .ref ho] (some (.int out.1)) (wC g h now snap has hist ent res num col ++ [(ho, .inl (g.2.2.2.1, 1, .inr (.inl out.2)))]) := by
  refine xofW (by decide) (Nat.le_of_ble_eq_true rfl) ?_
  intro p e s m below meth c A ls E hr hlocks htab hX hNc hw hl hpost
  have hx := E.1.1
  have hb := E.1.2.1
  have hown := E.1.2.2.2.1
  have hts := E.1.2.2.2.2
  generalize hZ : (MQ below (xPost g (wC g h now snap has hist ent res num col ++ [(ho, .inl (g.2.2.2.1, 1, .inr (.inl arr)))]) (wC g h now snap has hist ent res num col ++ [(ho, .inl (g.2.2.2.1, 1, .inr (.inl out.2)))]) s.heap.size (some (.int out.1))) [.ref (h 0), .ref ho].toArray s 1 6 A) = ZZ
  have hret : ∀ (pc : Nat) (H : Heap) (locs : List Loc) (ls : Array Slot) (cells slots : Nat) (v : Int32) (carr : (Nat → Int64)), cells ≤ 1 → slots ≤ 6 → (v, carr) = out → decode cL_stoppedPart pc = .ok (.ireturn, 1) → xW g A s.heap (wC g h now snap has hist ent res num col ++ [(ho, .inl (g.2.2.2.1, 1, .inr (.inl carr)))]) H locs → W p l e { frames := 8, cells := 1, slots := 6, locals := 140 } s m [.ref (h 0), .ref ho].toArray below meth c H locs cells slots ZZ (F0 m pc ls [.int v]) := by
    intro pc H locs ls cells slots v carr hc hs he hd hw
    subst he
    rw [← hZ]
    exact W.widen hc hs (W.iret hx hb hr (hpost H locs hw).1 (hpost H locs hw).2 hd hlocks)
  clear hpost
  refine lv_aload_n hx hb dL_stoppedPart_0 rfl (lv_at hl 1 rfl) ?_
  refine lv_iconst (v := 0) hx hb dL_stoppedPart_1 (by decide) ?_
  refine lv_aload_n hx hb dL_stoppedPart_2 rfl (lv_at hl 0 rfl) ?_
  obtain ⟨v3, hv3, hf⟩ := ob_e hf
  rcases v3 with t3 | u3
  · replace hf := se_l hf
    refine xcallVX (ws' := (wC g h now snap has hist ent res num col ++ [(ho, .inl (g.2.2.2.1, 1, .inr (.inl arr)))])) (n := 35) E hX hw [] [0, 1, 2, 3, 4, 5, 6, 7, 8, 9, 10, 11, 12, 13, 14, 15, 16, 17, 18, 19, 20, 21, 22, 23, 24, 25, 26, 27, 28, 29, 30, 31, 32, 33] (metx_X10_stoppedPart l hlT g h now snap has hist ent res num col t3 hv3) rfl (by decide) rfl rfl [35, 36, 37, 38, 39, 40, 41, 42, 43, 44, 45, 46, 47, 48, 49, 50, 51, 52, 53, 54, 55, 56, 57, 58, 59, 60, 61, 62, 63, 64, 65, 66, 67, 68, 34] rfl (by decide +kernel) rfl rfl rfl rfl qw861 k_X10_stoppedPart ⟨rfl, rfl, Nat.le_of_ble_eq_true rfl, Nat.le_of_ble_eq_true rfl⟩ ⟨by decide, by decide⟩ hl.1 (Nat.le_of_ble_eq_true rfl) dL_stoppedPart_3 (fun H locs q ce hw hce hcv hcl => ?_)
    by_cases hk : t3 = 3
    · replace hf := ip hk hf
      have hcl : s.vm.findClass "java/lang/IllegalStateException" = some ce.cls := by rw [hk] at hcl; exact hcl
      refine vx_catch (name := "java/lang/IllegalStateException") hown [] ⟨0, 8, 11, 25⟩ [] (htab.trans rfl) (fun z hz => absurd hz List.not_mem_nil) (by decide) (by decide) (hts _ qw717) (xodd_args hX.2.2.2 _ (by decide)) hce hcv hcl ?_
      refine lv_astore_n (lv' := [(2, .ref q), (0, .ref (h 0)), (1, .ref ho)]) hx hb dL_stoppedPart_11 rfl hl (by decide) rfl (fun ls hl => ?_)
      refine lv_iconst (v := 1) hx hb dL_stoppedPart_12 (by decide) ?_
      exact hret _ _ _ _ _ _ _ _ (by decide) (by decide) (Option.some.inj hf) dL_stoppedPart_13 hw
    replace hf := iq hk hf
    exact nn hf
  · replace hf := se_r hf
    refine xcallV (ws' := (wC g h now snap has hist ent res num col ++ [(ho, .inl (g.2.2.2.1, 1, .inr (.inl arr)))])) (st1 := [.int u3, .int 0, .ref ho]) (n := 35) E hw [] [0, 1, 2, 3, 4, 5, 6, 7, 8, 9, 10, 11, 12, 13, 14, 15, 16, 17, 18, 19, 20, 21, 22, 23, 24, 25, 26, 27, 28, 29, 30, 31, 32, 33] (met_X10_stoppedPart l g h now snap has hist ent res num col u3 hv3) rfl (by decide) rfl rfl [35, 36, 37, 38, 39, 40, 41, 42, 43, 44, 45, 46, 47, 48, 49, 50, 51, 52, 53, 54, 55, 56, 57, 58, 59, 60, 61, 62, 63, 64, 65, 66, 67, 68, 34] rfl (by decide +kernel) rfl rfl rfl rfl qw861 k_X10_stoppedPart ⟨rfl, rfl, Nat.le_of_ble_eq_true rfl, Nat.le_of_ble_eq_true rfl⟩ ⟨Nat.zero_le _, Nat.zero_le _⟩ hl.1 (Nat.le_of_ble_eq_true rfl) dL_stoppedPart_3 rfl (fun H locs hw => ?_)
    refine lv_i2l hx hb dL_stoppedPart_6 rfl ?_
    refine xlast (ws' := (wC g h now snap has hist ent res num col ++ [(ho, .inl (g.2.2.2.1, 1, .inr (.inl (vp_updL arr (0 : Int32).toNatClampNeg u3.toInt64))))])) E hw 34 rfl (by decide) dL_stoppedPart_7 rfl (fun H locs hw => ?_)
    refine lv_goto (tgt := 14) hx hb dL_stoppedPart_8 (by decide) ?_
    refine lv_iconst (v := 0) hx hb dL_stoppedPart_14 (by decide) ?_
    exact hret _ _ _ _ _ _ _ _ (by decide) (by decide) (Option.some.inj hf) dL_stoppedPart_15 hw
theorem k_L_whyStopped : xKW yL_whyStopped cL_whyStopped 3 (some .int) [(0, 8, 11, 25)] 2 := ⟨qw871, qw65, qw872, by decide +kernel, by decide +kernel, by decide +kernel⟩
set_option maxHeartbeats 4000000 in
set_option maxRecDepth 100000 in
theorem met_L_whyStopped (l : Launch) (hlT : l.stackTraces = false) (g : xG) (h : Nat → Nat) (ho : Nat) (now : SC) (snap : SC) (has : Int32) (hist : HC) (ent : EC) (res : RC) (num : NC) (col : CC) (arr : (Nat → Int64)) (out : Int32 × (Nat → Int64)) (hf : f_L_whyStopped now arr = some out) : xMW l yL_whyStopped (xCW yL_whyStopped cL_whyStopped 3 (some .int) [(0, 8, 11, 25)]) { frames := 8, cells := 1, slots := 6, locals := 140 } g (wC g h now snap has hist ent res num col ++ [(ho, .inl (g.2.2.2.1, 1, .inr (.inl arr)))]) [.ref (h 0), .ref ho] (some (.int out.1)) (wC g h now snap has hist ent res num col ++ [(ho, .inl (g.2.2.2.1, 1, .inr (.inl out.2)))]) := by
  refine xofW (by decide) (Nat.le_of_ble_eq_true rfl) ?_
  intro p e s m below meth c A ls E hr hlocks htab hX hNc hw hl hpost
  have hx := E.1.1
  have hb := E.1.2.1
  have hown := E.1.2.2.2.1
  have hts := E.1.2.2.2.2
  generalize hZ : (MQ below (xPost g (wC g h now snap has hist ent res num col ++ [(ho, .inl (g.2.2.2.1, 1, .inr (.inl arr)))]) (wC g h now snap has hist ent res num col ++ [(ho, .inl (g.2.2.2.1, 1, .inr (.inl out.2)))]) s.heap.size (some (.int out.1))) [.ref (h 0), .ref ho].toArray s 1 6 A) = ZZ
  have hret : ∀ (pc : Nat) (H : Heap) (locs : List Loc) (ls : Array Slot) (cells slots : Nat) (v : Int32) (carr : (Nat → Int64)), cells ≤ 1 → slots ≤ 6 → (v, carr) = out → decode cL_whyStopped pc = .ok (.ireturn, 1) → xW g A s.heap (wC g h now snap has hist ent res num col ++ [(ho, .inl (g.2.2.2.1, 1, .inr (.inl carr)))]) H locs → W p l e { frames := 8, cells := 1, slots := 6, locals := 140 } s m [.ref (h 0), .ref ho].toArray below meth c H locs cells slots ZZ (F0 m pc ls [.int v]) := by
    intro pc H locs ls cells slots v carr hc hs he hd hw
    subst he
    rw [← hZ]
    exact W.widen hc hs (W.iret hx hb hr (hpost H locs hw).1 (hpost H locs hw).2 hd hlocks)
  clear hpost
  refine lv_aload_n hx hb dL_whyStopped_0 rfl (lv_at hl 1 rfl) ?_
  refine lv_iconst (v := 0) hx hb dL_whyStopped_1 (by decide) ?_
  refine lv_aload_n hx hb dL_whyStopped_2 rfl (lv_at hl 0 rfl) ?_
  obtain ⟨v3, hv3, hf⟩ := ob_e hf
  rcases v3 with t3 | u3
  · replace hf := se_l hf
    refine xcallVX (ws' := (wC g h now snap has hist ent res num col ++ [(ho, .inl (g.2.2.2.1, 1, .inr (.inl arr)))])) (n := 35) E hX hw [] [0, 1, 2, 3, 4, 5, 6, 7, 8, 9, 10, 11, 12, 13, 14, 15, 16, 17, 18, 19, 20, 21, 22, 23, 24, 25, 26, 27, 28, 29, 30, 31, 32, 33] (metx_X10_whyStopped l hlT g h now snap has hist ent res num col t3 hv3) rfl (by decide) rfl rfl [35, 36, 37, 38, 39, 40, 41, 42, 43, 44, 45, 46, 47, 48, 49, 50, 51, 52, 53, 54, 55, 56, 57, 58, 59, 60, 61, 62, 63, 64, 65, 66, 67, 68, 34] rfl (by decide +kernel) rfl rfl rfl rfl qw873 k_X10_whyStopped ⟨rfl, rfl, Nat.le_of_ble_eq_true rfl, Nat.le_of_ble_eq_true rfl⟩ ⟨by decide, by decide⟩ hl.1 (Nat.le_of_ble_eq_true rfl) dL_whyStopped_3 (fun H locs q ce hw hce hcv hcl => ?_)
    by_cases hk : t3 = 3
    · replace hf := ip hk hf
      have hcl : s.vm.findClass "java/lang/IllegalStateException" = some ce.cls := by rw [hk] at hcl; exact hcl
      refine vx_catch (name := "java/lang/IllegalStateException") hown [] ⟨0, 8, 11, 25⟩ [] (htab.trans rfl) (fun z hz => absurd hz List.not_mem_nil) (by decide) (by decide) (hts _ qw717) (xodd_args hX.2.2.2 _ (by decide)) hce hcv hcl ?_
      refine lv_astore_n (lv' := [(2, .ref q), (0, .ref (h 0)), (1, .ref ho)]) hx hb dL_whyStopped_11 rfl hl (by decide) rfl (fun ls hl => ?_)
      refine lv_iconst (v := 1) hx hb dL_whyStopped_12 (by decide) ?_
      exact hret _ _ _ _ _ _ _ _ (by decide) (by decide) (Option.some.inj hf) dL_whyStopped_13 hw
    replace hf := iq hk hf
    exact nn hf
  · replace hf := se_r hf
    refine xcallV (ws' := (wC g h now snap has hist ent res num col ++ [(ho, .inl (g.2.2.2.1, 1, .inr (.inl arr)))])) (st1 := [.int u3, .int 0, .ref ho]) (n := 35) E hw [] [0, 1, 2, 3, 4, 5, 6, 7, 8, 9, 10, 11, 12, 13, 14, 15, 16, 17, 18, 19, 20, 21, 22, 23, 24, 25, 26, 27, 28, 29, 30, 31, 32, 33] (met_X10_whyStopped l g h now snap has hist ent res num col u3 hv3) rfl (by decide) rfl rfl [35, 36, 37, 38, 39, 40, 41, 42, 43, 44, 45, 46, 47, 48, 49, 50, 51, 52, 53, 54, 55, 56, 57, 58, 59, 60, 61, 62, 63, 64, 65, 66, 67, 68, 34] rfl (by decide +kernel) rfl rfl rfl rfl qw873 k_X10_whyStopped ⟨rfl, rfl, Nat.le_of_ble_eq_true rfl, Nat.le_of_ble_eq_true rfl⟩ ⟨Nat.zero_le _, Nat.zero_le _⟩ hl.1 (Nat.le_of_ble_eq_true rfl) dL_whyStopped_3 rfl (fun H locs hw => ?_)
    refine lv_i2l hx hb dL_whyStopped_6 rfl ?_
    refine xlast (ws' := (wC g h now snap has hist ent res num col ++ [(ho, .inl (g.2.2.2.1, 1, .inr (.inl (vp_updL arr (0 : Int32).toNatClampNeg u3.toInt64))))])) E hw 34 rfl (by decide) dL_whyStopped_7 rfl (fun H locs hw => ?_)
    refine lv_goto (tgt := 14) hx hb dL_whyStopped_8 (by decide) ?_
    refine lv_iconst (v := 0) hx hb dL_whyStopped_14 (by decide) ?_
    exact hret _ _ _ _ _ _ _ _ (by decide) (by decide) (Option.some.inj hf) dL_whyStopped_15 hw
theorem k_L_undo : xKW yL_undo cL_undo 3 (some .int) [(0, 8, 11, 25)] 2 := ⟨qw878, qw65, qw879, by decide +kernel, by decide +kernel, by decide +kernel⟩
set_option maxHeartbeats 4000000 in
set_option maxRecDepth 100000 in
theorem met_L_undo (l : Launch) (hlT : l.stackTraces = false) (g : xG) (h : Nat → Nat) (ho : Nat) (now : SC) (snap : SC) (has : Int32) (hist : HC) (ent : EC) (res : RC) (num : NC) (col : CC) (arr : (Nat → Int64)) (out : Int32 × SC × HC × (Nat → Int64)) (hf : f_L_undo now hist arr = some out) : xMW l yL_undo (xCW yL_undo cL_undo 3 (some .int) [(0, 8, 11, 25)]) { frames := 7, cells := 1, slots := 6, locals := 120 } g (wC g h now snap has hist ent res num col ++ [(ho, .inl (g.2.2.2.1, 1, .inr (.inl arr)))]) [.ref (h 0), .ref ho] (some (.int out.1)) (wC g h out.2.1 snap has out.2.2.1 ent res num col ++ [(ho, .inl (g.2.2.2.1, 1, .inr (.inl out.2.2.2)))]) := by
  refine xofW (by decide) (Nat.le_of_ble_eq_true rfl) ?_
  intro p e s m below meth c A ls E hr hlocks htab hX hNc hw hl hpost
  have hx := E.1.1
  have hb := E.1.2.1
  have hown := E.1.2.2.2.1
  have hts := E.1.2.2.2.2
  generalize hZ : (MQ below (xPost g (wC g h now snap has hist ent res num col ++ [(ho, .inl (g.2.2.2.1, 1, .inr (.inl arr)))]) (wC g h out.2.1 snap has out.2.2.1 ent res num col ++ [(ho, .inl (g.2.2.2.1, 1, .inr (.inl out.2.2.2)))]) s.heap.size (some (.int out.1))) [.ref (h 0), .ref ho].toArray s 1 6 A) = ZZ
  have hret : ∀ (pc : Nat) (H : Heap) (locs : List Loc) (ls : Array Slot) (cells slots : Nat) (v : Int32) (cnow : SC) (chist : HC) (carr : (Nat → Int64)), cells ≤ 1 → slots ≤ 6 → (v, cnow, chist, carr) = out → decode cL_undo pc = .ok (.ireturn, 1) → xW g A s.heap (wC g h cnow snap has chist ent res num col ++ [(ho, .inl (g.2.2.2.1, 1, .inr (.inl carr)))]) H locs → W p l e { frames := 7, cells := 1, slots := 6, locals := 120 } s m [.ref (h 0), .ref ho].toArray below meth c H locs cells slots ZZ (F0 m pc ls [.int v]) := by
    intro pc H locs ls cells slots v cnow chist carr hc hs he hd hw
    subst he
    rw [← hZ]
    exact W.widen hc hs (W.iret hx hb hr (hpost H locs hw).1 (hpost H locs hw).2 hd hlocks)
  clear hpost
  refine lv_aload_n hx hb dL_undo_0 rfl (lv_at hl 1 rfl) ?_
  refine lv_iconst (v := 0) hx hb dL_undo_1 (by decide) ?_
  refine lv_aload_n hx hb dL_undo_2 rfl (lv_at hl 0 rfl) ?_
  obtain ⟨v3, hv3, hf⟩ := ob_e hf
  rcases v3 with t3 | u3
  · replace hf := se_l hf
    refine xcallVX (ws' := (wC g h t3.2.1 snap has t3.2.2 ent res num col ++ [(ho, .inl (g.2.2.2.1, 1, .inr (.inl arr)))])) (n := 35) E hX hw [] [0, 1, 2, 3, 4, 5, 6, 7, 8, 9, 10, 11, 12, 13, 14, 15, 16, 17, 18, 19, 20, 21, 22, 23, 24, 25, 26, 27, 28, 29, 30, 31, 32, 33] (metx_X10_undo l hlT g h now snap has hist ent res num col t3 hv3) rfl (by decide) rfl rfl [35, 36, 37, 38, 39, 40, 41, 42, 43, 44, 45, 46, 47, 48, 49, 50, 51, 52, 53, 54, 55, 56, 57, 58, 59, 60, 61, 62, 63, 64, 65, 66, 67, 68, 34] rfl (by decide +kernel) rfl rfl rfl rfl qw880 k_X10_undo ⟨rfl, rfl, Nat.le_of_ble_eq_true rfl, Nat.le_of_ble_eq_true rfl⟩ ⟨by decide, by decide⟩ hl.1 (Nat.le_of_ble_eq_true rfl) dL_undo_3 (fun H locs q ce hw hce hcv hcl => ?_)
    by_cases hk : t3.1 = 3
    · replace hf := ip hk hf
      have hcl : s.vm.findClass "java/lang/IllegalStateException" = some ce.cls := by rw [hk] at hcl; exact hcl
      refine vx_catch (name := "java/lang/IllegalStateException") hown [] ⟨0, 8, 11, 25⟩ [] (htab.trans rfl) (fun z hz => absurd hz List.not_mem_nil) (by decide) (by decide) (hts _ qw717) (xodd_args hX.2.2.2 _ (by decide)) hce hcv hcl ?_
      refine lv_astore_n (lv' := [(2, .ref q), (0, .ref (h 0)), (1, .ref ho)]) hx hb dL_undo_11 rfl hl (by decide) rfl (fun ls hl => ?_)
      refine lv_iconst (v := 1) hx hb dL_undo_12 (by decide) ?_
      exact hret _ _ _ _ _ _ _ _ _ _ (by decide) (by decide) (Option.some.inj hf) dL_undo_13 hw
    replace hf := iq hk hf
    exact nn hf
  · replace hf := se_r hf
    refine xcallV (ws' := (wC g h u3.2.1 snap has u3.2.2 ent res num col ++ [(ho, .inl (g.2.2.2.1, 1, .inr (.inl arr)))])) (st1 := [.int u3.1, .int 0, .ref ho]) (n := 35) E hw [] [0, 1, 2, 3, 4, 5, 6, 7, 8, 9, 10, 11, 12, 13, 14, 15, 16, 17, 18, 19, 20, 21, 22, 23, 24, 25, 26, 27, 28, 29, 30, 31, 32, 33] (met_X10_undo l g h now snap has hist ent res num col u3 hv3) rfl (by decide) rfl rfl [35, 36, 37, 38, 39, 40, 41, 42, 43, 44, 45, 46, 47, 48, 49, 50, 51, 52, 53, 54, 55, 56, 57, 58, 59, 60, 61, 62, 63, 64, 65, 66, 67, 68, 34] rfl (by decide +kernel) rfl rfl rfl rfl qw880 k_X10_undo ⟨rfl, rfl, Nat.le_of_ble_eq_true rfl, Nat.le_of_ble_eq_true rfl⟩ ⟨Nat.zero_le _, Nat.zero_le _⟩ hl.1 (Nat.le_of_ble_eq_true rfl) dL_undo_3 rfl (fun H locs hw => ?_)
    refine lv_i2l hx hb dL_undo_6 rfl ?_
    refine xlast (ws' := (wC g h u3.2.1 snap has u3.2.2 ent res num col ++ [(ho, .inl (g.2.2.2.1, 1, .inr (.inl (vp_updL arr (0 : Int32).toNatClampNeg u3.1.toInt64))))])) E hw 34 rfl (by decide) dL_undo_7 rfl (fun H locs hw => ?_)
    refine lv_goto (tgt := 14) hx hb dL_undo_8 (by decide) ?_
    refine lv_iconst (v := 0) hx hb dL_undo_14 (by decide) ?_
    exact hret _ _ _ _ _ _ _ _ _ _ (by decide) (by decide) (Option.some.inj hf) dL_undo_15 hw
theorem k_L_restore : xKW yL_restore cL_restore 3 (some .int) [(0, 8, 11, 25)] 2 := ⟨qw891, qw65, qw892, by decide +kernel, by decide +kernel, by decide +kernel⟩
set_option maxHeartbeats 4000000 in
set_option maxRecDepth 100000 in
theorem met_L_restore (l : Launch) (hlT : l.stackTraces = false) (g : xG) (h : Nat → Nat) (ho : Nat) (now : SC) (snap : SC) (has : Int32) (hist : HC) (ent : EC) (res : RC) (num : NC) (col : CC) (arr : (Nat → Int64)) (out : Int32 × SC × HC × (Nat → Int64)) (hf : f_L_restore now snap has hist arr = some out) : xMW l yL_restore (xCW yL_restore cL_restore 3 (some .int) [(0, 8, 11, 25)]) { frames := 7, cells := 1, slots := 6, locals := 120 } g (wC g h now snap has hist ent res num col ++ [(ho, .inl (g.2.2.2.1, 1, .inr (.inl arr)))]) [.ref (h 0), .ref ho] (some (.int out.1)) (wC g h out.2.1 snap has out.2.2.1 ent res num col ++ [(ho, .inl (g.2.2.2.1, 1, .inr (.inl out.2.2.2)))]) := by
  refine xofW (by decide) (Nat.le_of_ble_eq_true rfl) ?_
  intro p e s m below meth c A ls E hr hlocks htab hX hNc hw hl hpost
  have hx := E.1.1
  have hb := E.1.2.1
  have hown := E.1.2.2.2.1
  have hts := E.1.2.2.2.2
  generalize hZ : (MQ below (xPost g (wC g h now snap has hist ent res num col ++ [(ho, .inl (g.2.2.2.1, 1, .inr (.inl arr)))]) (wC g h out.2.1 snap has out.2.2.1 ent res num col ++ [(ho, .inl (g.2.2.2.1, 1, .inr (.inl out.2.2.2)))]) s.heap.size (some (.int out.1))) [.ref (h 0), .ref ho].toArray s 1 6 A) = ZZ
  have hret : ∀ (pc : Nat) (H : Heap) (locs : List Loc) (ls : Array Slot) (cells slots : Nat) (v : Int32) (cnow : SC) (chist : HC) (carr : (Nat → Int64)), cells ≤ 1 → slots ≤ 6 → (v, cnow, chist, carr) = out → decode cL_restore pc = .ok (.ireturn, 1) → xW g A s.heap (wC g h cnow snap has chist ent res num col ++ [(ho, .inl (g.2.2.2.1, 1, .inr (.inl carr)))]) H locs → W p l e { frames := 7, cells := 1, slots := 6, locals := 120 } s m [.ref (h 0), .ref ho].toArray below meth c H locs cells slots ZZ (F0 m pc ls [.int v]) := by
    intro pc H locs ls cells slots v cnow chist carr hc hs he hd hw
    subst he
    rw [← hZ]
    exact W.widen hc hs (W.iret hx hb hr (hpost H locs hw).1 (hpost H locs hw).2 hd hlocks)
  clear hpost
  refine lv_aload_n hx hb dL_restore_0 rfl (lv_at hl 1 rfl) ?_
  refine lv_iconst (v := 0) hx hb dL_restore_1 (by decide) ?_
  refine lv_aload_n hx hb dL_restore_2 rfl (lv_at hl 0 rfl) ?_
  obtain ⟨v3, hv3, hf⟩ := ob_e hf
  rcases v3 with t3 | u3
  · replace hf := se_l hf
    refine xcallVX (ws' := (wC g h t3.2.1 snap has t3.2.2 ent res num col ++ [(ho, .inl (g.2.2.2.1, 1, .inr (.inl arr)))])) (n := 35) E hX hw [] [0, 1, 2, 3, 4, 5, 6, 7, 8, 9, 10, 11, 12, 13, 14, 15, 16, 17, 18, 19, 20, 21, 22, 23, 24, 25, 26, 27, 28, 29, 30, 31, 32, 33] (metx_X10_restore l hlT g h now snap has hist ent res num col t3 hv3) rfl (by decide) rfl rfl [35, 36, 37, 38, 39, 40, 41, 42, 43, 44, 45, 46, 47, 48, 49, 50, 51, 52, 53, 54, 55, 56, 57, 58, 59, 60, 61, 62, 63, 64, 65, 66, 67, 68, 34] rfl (by decide +kernel) rfl rfl rfl rfl qw893 k_X10_restore ⟨rfl, rfl, Nat.le_of_ble_eq_true rfl, Nat.le_of_ble_eq_true rfl⟩ ⟨by decide, by decide⟩ hl.1 (Nat.le_of_ble_eq_true rfl) dL_restore_3 (fun H locs q ce hw hce hcv hcl => ?_)
    by_cases hk : t3.1 = 3
    · replace hf := ip hk hf
      have hcl : s.vm.findClass "java/lang/IllegalStateException" = some ce.cls := by rw [hk] at hcl; exact hcl
      refine vx_catch (name := "java/lang/IllegalStateException") hown [] ⟨0, 8, 11, 25⟩ [] (htab.trans rfl) (fun z hz => absurd hz List.not_mem_nil) (by decide) (by decide) (hts _ qw717) (xodd_args hX.2.2.2 _ (by decide)) hce hcv hcl ?_
      refine lv_astore_n (lv' := [(2, .ref q), (0, .ref (h 0)), (1, .ref ho)]) hx hb dL_restore_11 rfl hl (by decide) rfl (fun ls hl => ?_)
      refine lv_iconst (v := 1) hx hb dL_restore_12 (by decide) ?_
      exact hret _ _ _ _ _ _ _ _ _ _ (by decide) (by decide) (Option.some.inj hf) dL_restore_13 hw
    replace hf := iq hk hf
    exact nn hf
  · replace hf := se_r hf
    refine xcallV (ws' := (wC g h u3.2.1 snap has u3.2.2 ent res num col ++ [(ho, .inl (g.2.2.2.1, 1, .inr (.inl arr)))])) (st1 := [.int u3.1, .int 0, .ref ho]) (n := 35) E hw [] [0, 1, 2, 3, 4, 5, 6, 7, 8, 9, 10, 11, 12, 13, 14, 15, 16, 17, 18, 19, 20, 21, 22, 23, 24, 25, 26, 27, 28, 29, 30, 31, 32, 33] (met_X10_restore l g h now snap has hist ent res num col u3 hv3) rfl (by decide) rfl rfl [35, 36, 37, 38, 39, 40, 41, 42, 43, 44, 45, 46, 47, 48, 49, 50, 51, 52, 53, 54, 55, 56, 57, 58, 59, 60, 61, 62, 63, 64, 65, 66, 67, 68, 34] rfl (by decide +kernel) rfl rfl rfl rfl qw893 k_X10_restore ⟨rfl, rfl, Nat.le_of_ble_eq_true rfl, Nat.le_of_ble_eq_true rfl⟩ ⟨Nat.zero_le _, Nat.zero_le _⟩ hl.1 (Nat.le_of_ble_eq_true rfl) dL_restore_3 rfl (fun H locs hw => ?_)
    refine lv_i2l hx hb dL_restore_6 rfl ?_
    refine xlast (ws' := (wC g h u3.2.1 snap has u3.2.2 ent res num col ++ [(ho, .inl (g.2.2.2.1, 1, .inr (.inl (vp_updL arr (0 : Int32).toNatClampNeg u3.1.toInt64))))])) E hw 34 rfl (by decide) dL_restore_7 rfl (fun H locs hw => ?_)
    refine lv_goto (tgt := 14) hx hb dL_restore_8 (by decide) ?_
    refine lv_iconst (v := 0) hx hb dL_restore_14 (by decide) ?_
    exact hret _ _ _ _ _ _ _ _ _ _ (by decide) (by decide) (Option.some.inj hf) dL_restore_15 hw
theorem k_L_numerator : xKW yL_numerator cL_numerator 4 (some .int) [(0, 9, 12, 19)] 3 := ⟨qw899, qw65, qw900, by decide +kernel, by decide +kernel, by decide +kernel⟩
set_option maxHeartbeats 4000000 in
set_option maxRecDepth 100000 in
theorem met_L_numerator (l : Launch) (hlT : l.stackTraces = false) (g : xG) (h : Nat → Nat) (ho : Nat) (now : SC) (snap : SC) (has : Int32) (hist : HC) (ent : EC) (res : RC) (num : NC) (col : CC) (arr : (Nat → Int64)) (a1 : Int32) (out : Int32 × (Nat → Int64)) (hf : f_L_numerator now arr a1 = some out) : xMW l yL_numerator (xCW yL_numerator cL_numerator 4 (some .int) [(0, 9, 12, 19)]) { frames := 8, cells := 1, slots := 6, locals := 141 } g (wC g h now snap has hist ent res num col ++ [(ho, .inl (g.2.2.2.1, 1, .inr (.inl arr)))]) [.ref (h 0), .int a1, .ref ho] (some (.int out.1)) (wC g h now snap has hist ent res num col ++ [(ho, .inl (g.2.2.2.1, 1, .inr (.inl out.2)))]) := by
  refine xofW (by decide) (Nat.le_of_ble_eq_true rfl) ?_
  intro p e s m below meth c A ls E hr hlocks htab hX hNc hw hl hpost
  have hx := E.1.1
  have hb := E.1.2.1
  have hown := E.1.2.2.2.1
  have hts := E.1.2.2.2.2
  generalize hZ : (MQ below (xPost g (wC g h now snap has hist ent res num col ++ [(ho, .inl (g.2.2.2.1, 1, .inr (.inl arr)))]) (wC g h now snap has hist ent res num col ++ [(ho, .inl (g.2.2.2.1, 1, .inr (.inl out.2)))]) s.heap.size (some (.int out.1))) [.ref (h 0), .int a1, .ref ho].toArray s 1 6 A) = ZZ
  have hret : ∀ (pc : Nat) (H : Heap) (locs : List Loc) (ls : Array Slot) (cells slots : Nat) (v : Int32) (carr : (Nat → Int64)), cells ≤ 1 → slots ≤ 6 → (v, carr) = out → decode cL_numerator pc = .ok (.ireturn, 1) → xW g A s.heap (wC g h now snap has hist ent res num col ++ [(ho, .inl (g.2.2.2.1, 1, .inr (.inl carr)))]) H locs → W p l e { frames := 8, cells := 1, slots := 6, locals := 141 } s m [.ref (h 0), .int a1, .ref ho].toArray below meth c H locs cells slots ZZ (F0 m pc ls [.int v]) := by
    intro pc H locs ls cells slots v carr hc hs he hd hw
    subst he
    rw [← hZ]
    exact W.widen hc hs (W.iret hx hb hr (hpost H locs hw).1 (hpost H locs hw).2 hd hlocks)
  clear hpost
  refine lv_aload_n hx hb dL_numerator_0 rfl (lv_at hl 2 rfl) ?_
  refine lv_iconst (v := 0) hx hb dL_numerator_1 (by decide) ?_
  refine lv_aload_n hx hb dL_numerator_2 rfl (lv_at hl 0 rfl) ?_
  refine lv_iload_n hx hb dL_numerator_3 rfl (lv_at hl 1 rfl) ?_
  obtain ⟨v4, hv4, hf⟩ := ob_e hf
  rcases v4 with t4 | u4
  · replace hf := se_l hf
    refine xcallVX (ws' := (wC g h now snap has hist ent res num col ++ [(ho, .inl (g.2.2.2.1, 1, .inr (.inl arr)))])) (n := 35) E hX hw [.int a1] [0, 1, 2, 3, 4, 5, 6, 7, 8, 9, 10, 11, 12, 13, 14, 15, 16, 17, 18, 19, 20, 21, 22, 23, 24, 25, 26, 27, 28, 29, 30, 31, 32, 33] (metx_X10_numerator l hlT g h now snap has hist ent res num col a1 t4 hv4) rfl (by decide) rfl rfl [35, 36, 37, 38, 39, 40, 41, 42, 43, 44, 45, 46, 47, 48, 49, 50, 51, 52, 53, 54, 55, 56, 57, 58, 59, 60, 61, 62, 63, 64, 65, 66, 67, 68, 34] rfl (by decide +kernel) rfl rfl rfl rfl qw901 k_X10_numerator ⟨rfl, rfl, Nat.le_of_ble_eq_true rfl, Nat.le_of_ble_eq_true rfl⟩ ⟨by decide, by decide⟩ hl.1 (Nat.le_of_ble_eq_true rfl) dL_numerator_4 (fun H locs q ce hw hce hcv hcl => ?_)
    by_cases hk : t4 = 1
    · replace hf := ip hk hf
      have hcl : s.vm.findClass "java/lang/IndexOutOfBoundsException" = some ce.cls := by rw [hk] at hcl; exact hcl
      refine vx_catch (name := "java/lang/IndexOutOfBoundsException") hown [] ⟨0, 9, 12, 19⟩ [] (htab.trans rfl) (fun z hz => absurd hz List.not_mem_nil) (by decide) (by decide) (hts _ qw698) (xodd_args hX.2.2.2 _ (by decide)) hce hcv hcl ?_
      refine lv_astore_n (lv' := [(3, .ref q), (0, .ref (h 0)), (1, .int a1), (2, .ref ho)]) hx hb dL_numerator_12 rfl hl (by decide) rfl (fun ls hl => ?_)
      refine lv_iconst (v := 1) hx hb dL_numerator_13 (by decide) ?_
      exact hret _ _ _ _ _ _ _ _ (by decide) (by decide) (Option.some.inj hf) dL_numerator_14 hw
    replace hf := iq hk hf
    exact nn hf
  · replace hf := se_r hf
    refine xcallV (ws' := (wC g h now snap has hist ent res num col ++ [(ho, .inl (g.2.2.2.1, 1, .inr (.inl arr)))])) (st1 := [.int u4, .int 0, .ref ho]) (n := 35) E hw [.int a1] [0, 1, 2, 3, 4, 5, 6, 7, 8, 9, 10, 11, 12, 13, 14, 15, 16, 17, 18, 19, 20, 21, 22, 23, 24, 25, 26, 27, 28, 29, 30, 31, 32, 33] (met_X10_numerator l g h now snap has hist ent res num col a1 u4 hv4) rfl (by decide) rfl rfl [35, 36, 37, 38, 39, 40, 41, 42, 43, 44, 45, 46, 47, 48, 49, 50, 51, 52, 53, 54, 55, 56, 57, 58, 59, 60, 61, 62, 63, 64, 65, 66, 67, 68, 34] rfl (by decide +kernel) rfl rfl rfl rfl qw901 k_X10_numerator ⟨rfl, rfl, Nat.le_of_ble_eq_true rfl, Nat.le_of_ble_eq_true rfl⟩ ⟨Nat.zero_le _, Nat.zero_le _⟩ hl.1 (Nat.le_of_ble_eq_true rfl) dL_numerator_4 rfl (fun H locs hw => ?_)
    refine lv_i2l hx hb dL_numerator_7 rfl ?_
    refine xlast (ws' := (wC g h now snap has hist ent res num col ++ [(ho, .inl (g.2.2.2.1, 1, .inr (.inl (vp_updL arr (0 : Int32).toNatClampNeg u4.toInt64))))])) E hw 34 rfl (by decide) dL_numerator_8 rfl (fun H locs hw => ?_)
    refine lv_goto (tgt := 15) hx hb dL_numerator_9 (by decide) ?_
    refine lv_iconst (v := 0) hx hb dL_numerator_15 (by decide) ?_
    exact hret _ _ _ _ _ _ _ _ (by decide) (by decide) (Option.some.inj hf) dL_numerator_16 hw
theorem k_L_denominator : xKW yL_denominator cL_denominator 4 (some .int) [(0, 9, 12, 19)] 3 := ⟨qw903, qw65, qw904, by decide +kernel, by decide +kernel, by decide +kernel⟩
set_option maxHeartbeats 4000000 in
set_option maxRecDepth 100000 in
theorem met_L_denominator (l : Launch) (hlT : l.stackTraces = false) (g : xG) (h : Nat → Nat) (ho : Nat) (now : SC) (snap : SC) (has : Int32) (hist : HC) (ent : EC) (res : RC) (num : NC) (col : CC) (arr : (Nat → Int64)) (a1 : Int32) (out : Int32 × (Nat → Int64)) (hf : f_L_denominator now arr a1 = some out) : xMW l yL_denominator (xCW yL_denominator cL_denominator 4 (some .int) [(0, 9, 12, 19)]) { frames := 8, cells := 1, slots := 6, locals := 141 } g (wC g h now snap has hist ent res num col ++ [(ho, .inl (g.2.2.2.1, 1, .inr (.inl arr)))]) [.ref (h 0), .int a1, .ref ho] (some (.int out.1)) (wC g h now snap has hist ent res num col ++ [(ho, .inl (g.2.2.2.1, 1, .inr (.inl out.2)))]) := by
  refine xofW (by decide) (Nat.le_of_ble_eq_true rfl) ?_
  intro p e s m below meth c A ls E hr hlocks htab hX hNc hw hl hpost
  have hx := E.1.1
  have hb := E.1.2.1
  have hown := E.1.2.2.2.1
  have hts := E.1.2.2.2.2
  generalize hZ : (MQ below (xPost g (wC g h now snap has hist ent res num col ++ [(ho, .inl (g.2.2.2.1, 1, .inr (.inl arr)))]) (wC g h now snap has hist ent res num col ++ [(ho, .inl (g.2.2.2.1, 1, .inr (.inl out.2)))]) s.heap.size (some (.int out.1))) [.ref (h 0), .int a1, .ref ho].toArray s 1 6 A) = ZZ
  have hret : ∀ (pc : Nat) (H : Heap) (locs : List Loc) (ls : Array Slot) (cells slots : Nat) (v : Int32) (carr : (Nat → Int64)), cells ≤ 1 → slots ≤ 6 → (v, carr) = out → decode cL_denominator pc = .ok (.ireturn, 1) → xW g A s.heap (wC g h now snap has hist ent res num col ++ [(ho, .inl (g.2.2.2.1, 1, .inr (.inl carr)))]) H locs → W p l e { frames := 8, cells := 1, slots := 6, locals := 141 } s m [.ref (h 0), .int a1, .ref ho].toArray below meth c H locs cells slots ZZ (F0 m pc ls [.int v]) := by
    intro pc H locs ls cells slots v carr hc hs he hd hw
    subst he
    rw [← hZ]
    exact W.widen hc hs (W.iret hx hb hr (hpost H locs hw).1 (hpost H locs hw).2 hd hlocks)
  clear hpost
  refine lv_aload_n hx hb dL_denominator_0 rfl (lv_at hl 2 rfl) ?_
  refine lv_iconst (v := 0) hx hb dL_denominator_1 (by decide) ?_
  refine lv_aload_n hx hb dL_denominator_2 rfl (lv_at hl 0 rfl) ?_
  refine lv_iload_n hx hb dL_denominator_3 rfl (lv_at hl 1 rfl) ?_
  obtain ⟨v4, hv4, hf⟩ := ob_e hf
  rcases v4 with t4 | u4
  · replace hf := se_l hf
    refine xcallVX (ws' := (wC g h now snap has hist ent res num col ++ [(ho, .inl (g.2.2.2.1, 1, .inr (.inl arr)))])) (n := 35) E hX hw [.int a1] [0, 1, 2, 3, 4, 5, 6, 7, 8, 9, 10, 11, 12, 13, 14, 15, 16, 17, 18, 19, 20, 21, 22, 23, 24, 25, 26, 27, 28, 29, 30, 31, 32, 33] (metx_X10_denominator l hlT g h now snap has hist ent res num col a1 t4 hv4) rfl (by decide) rfl rfl [35, 36, 37, 38, 39, 40, 41, 42, 43, 44, 45, 46, 47, 48, 49, 50, 51, 52, 53, 54, 55, 56, 57, 58, 59, 60, 61, 62, 63, 64, 65, 66, 67, 68, 34] rfl (by decide +kernel) rfl rfl rfl rfl qw905 k_X10_denominator ⟨rfl, rfl, Nat.le_of_ble_eq_true rfl, Nat.le_of_ble_eq_true rfl⟩ ⟨by decide, by decide⟩ hl.1 (Nat.le_of_ble_eq_true rfl) dL_denominator_4 (fun H locs q ce hw hce hcv hcl => ?_)
    by_cases hk : t4 = 1
    · replace hf := ip hk hf
      have hcl : s.vm.findClass "java/lang/IndexOutOfBoundsException" = some ce.cls := by rw [hk] at hcl; exact hcl
      refine vx_catch (name := "java/lang/IndexOutOfBoundsException") hown [] ⟨0, 9, 12, 19⟩ [] (htab.trans rfl) (fun z hz => absurd hz List.not_mem_nil) (by decide) (by decide) (hts _ qw698) (xodd_args hX.2.2.2 _ (by decide)) hce hcv hcl ?_
      refine lv_astore_n (lv' := [(3, .ref q), (0, .ref (h 0)), (1, .int a1), (2, .ref ho)]) hx hb dL_denominator_12 rfl hl (by decide) rfl (fun ls hl => ?_)
      refine lv_iconst (v := 1) hx hb dL_denominator_13 (by decide) ?_
      exact hret _ _ _ _ _ _ _ _ (by decide) (by decide) (Option.some.inj hf) dL_denominator_14 hw
    replace hf := iq hk hf
    exact nn hf
  · replace hf := se_r hf
    refine xcallV (ws' := (wC g h now snap has hist ent res num col ++ [(ho, .inl (g.2.2.2.1, 1, .inr (.inl arr)))])) (st1 := [.int u4, .int 0, .ref ho]) (n := 35) E hw [.int a1] [0, 1, 2, 3, 4, 5, 6, 7, 8, 9, 10, 11, 12, 13, 14, 15, 16, 17, 18, 19, 20, 21, 22, 23, 24, 25, 26, 27, 28, 29, 30, 31, 32, 33] (met_X10_denominator l g h now snap has hist ent res num col a1 u4 hv4) rfl (by decide) rfl rfl [35, 36, 37, 38, 39, 40, 41, 42, 43, 44, 45, 46, 47, 48, 49, 50, 51, 52, 53, 54, 55, 56, 57, 58, 59, 60, 61, 62, 63, 64, 65, 66, 67, 68, 34] rfl (by decide +kernel) rfl rfl rfl rfl qw905 k_X10_denominator ⟨rfl, rfl, Nat.le_of_ble_eq_true rfl, Nat.le_of_ble_eq_true rfl⟩ ⟨Nat.zero_le _, Nat.zero_le _⟩ hl.1 (Nat.le_of_ble_eq_true rfl) dL_denominator_4 rfl (fun H locs hw => ?_)
    refine lv_i2l hx hb dL_denominator_7 rfl ?_
    refine xlast (ws' := (wC g h now snap has hist ent res num col ++ [(ho, .inl (g.2.2.2.1, 1, .inr (.inl (vp_updL arr (0 : Int32).toNatClampNeg u4.toInt64))))])) E hw 34 rfl (by decide) dL_denominator_8 rfl (fun H locs hw => ?_)
    refine lv_goto (tgt := 15) hx hb dL_denominator_9 (by decide) ?_
    refine lv_iconst (v := 0) hx hb dL_denominator_15 (by decide) ?_
    exact hret _ _ _ _ _ _ _ _ (by decide) (by decide) (Option.some.inj hf) dL_denominator_16 hw
theorem k_L_whole : xKW yL_whole cL_whole 4 (some .int) [(0, 9, 12, 19)] 3 := ⟨qw907, qw65, qw908, by decide +kernel, by decide +kernel, by decide +kernel⟩
set_option maxHeartbeats 4000000 in
set_option maxRecDepth 100000 in
theorem met_L_whole (l : Launch) (hlT : l.stackTraces = false) (g : xG) (h : Nat → Nat) (ho : Nat) (now : SC) (snap : SC) (has : Int32) (hist : HC) (ent : EC) (res : RC) (num : NC) (col : CC) (arr : (Nat → Int64)) (a1 : Int32) (out : Int32 × (Nat → Int64)) (hf : f_L_whole now arr a1 = some out) : xMW l yL_whole (xCW yL_whole cL_whole 4 (some .int) [(0, 9, 12, 19)]) { frames := 8, cells := 1, slots := 6, locals := 141 } g (wC g h now snap has hist ent res num col ++ [(ho, .inl (g.2.2.2.1, 1, .inr (.inl arr)))]) [.ref (h 0), .int a1, .ref ho] (some (.int out.1)) (wC g h now snap has hist ent res num col ++ [(ho, .inl (g.2.2.2.1, 1, .inr (.inl out.2)))]) := by
  refine xofW (by decide) (Nat.le_of_ble_eq_true rfl) ?_
  intro p e s m below meth c A ls E hr hlocks htab hX hNc hw hl hpost
  have hx := E.1.1
  have hb := E.1.2.1
  have hown := E.1.2.2.2.1
  have hts := E.1.2.2.2.2
  generalize hZ : (MQ below (xPost g (wC g h now snap has hist ent res num col ++ [(ho, .inl (g.2.2.2.1, 1, .inr (.inl arr)))]) (wC g h now snap has hist ent res num col ++ [(ho, .inl (g.2.2.2.1, 1, .inr (.inl out.2)))]) s.heap.size (some (.int out.1))) [.ref (h 0), .int a1, .ref ho].toArray s 1 6 A) = ZZ
  have hret : ∀ (pc : Nat) (H : Heap) (locs : List Loc) (ls : Array Slot) (cells slots : Nat) (v : Int32) (carr : (Nat → Int64)), cells ≤ 1 → slots ≤ 6 → (v, carr) = out → decode cL_whole pc = .ok (.ireturn, 1) → xW g A s.heap (wC g h now snap has hist ent res num col ++ [(ho, .inl (g.2.2.2.1, 1, .inr (.inl carr)))]) H locs → W p l e { frames := 8, cells := 1, slots := 6, locals := 141 } s m [.ref (h 0), .int a1, .ref ho].toArray below meth c H locs cells slots ZZ (F0 m pc ls [.int v]) := by
    intro pc H locs ls cells slots v carr hc hs he hd hw
    subst he
    rw [← hZ]
    exact W.widen hc hs (W.iret hx hb hr (hpost H locs hw).1 (hpost H locs hw).2 hd hlocks)
  clear hpost
  refine lv_aload_n hx hb dL_whole_0 rfl (lv_at hl 2 rfl) ?_
  refine lv_iconst (v := 0) hx hb dL_whole_1 (by decide) ?_
  refine lv_aload_n hx hb dL_whole_2 rfl (lv_at hl 0 rfl) ?_
  refine lv_iload_n hx hb dL_whole_3 rfl (lv_at hl 1 rfl) ?_
  obtain ⟨v4, hv4, hf⟩ := ob_e hf
  rcases v4 with t4 | u4
  · replace hf := se_l hf
    refine xcallVX (ws' := (wC g h now snap has hist ent res num col ++ [(ho, .inl (g.2.2.2.1, 1, .inr (.inl arr)))])) (n := 35) E hX hw [.int a1] [0, 1, 2, 3, 4, 5, 6, 7, 8, 9, 10, 11, 12, 13, 14, 15, 16, 17, 18, 19, 20, 21, 22, 23, 24, 25, 26, 27, 28, 29, 30, 31, 32, 33] (metx_X10_whole l hlT g h now snap has hist ent res num col a1 t4 hv4) rfl (by decide) rfl rfl [35, 36, 37, 38, 39, 40, 41, 42, 43, 44, 45, 46, 47, 48, 49, 50, 51, 52, 53, 54, 55, 56, 57, 58, 59, 60, 61, 62, 63, 64, 65, 66, 67, 68, 34] rfl (by decide +kernel) rfl rfl rfl rfl qw909 k_X10_whole ⟨rfl, rfl, Nat.le_of_ble_eq_true rfl, Nat.le_of_ble_eq_true rfl⟩ ⟨by decide, by decide⟩ hl.1 (Nat.le_of_ble_eq_true rfl) dL_whole_4 (fun H locs q ce hw hce hcv hcl => ?_)
    by_cases hk : t4 = 1
    · replace hf := ip hk hf
      have hcl : s.vm.findClass "java/lang/IndexOutOfBoundsException" = some ce.cls := by rw [hk] at hcl; exact hcl
      refine vx_catch (name := "java/lang/IndexOutOfBoundsException") hown [] ⟨0, 9, 12, 19⟩ [] (htab.trans rfl) (fun z hz => absurd hz List.not_mem_nil) (by decide) (by decide) (hts _ qw698) (xodd_args hX.2.2.2 _ (by decide)) hce hcv hcl ?_
      refine lv_astore_n (lv' := [(3, .ref q), (0, .ref (h 0)), (1, .int a1), (2, .ref ho)]) hx hb dL_whole_12 rfl hl (by decide) rfl (fun ls hl => ?_)
      refine lv_iconst (v := 1) hx hb dL_whole_13 (by decide) ?_
      exact hret _ _ _ _ _ _ _ _ (by decide) (by decide) (Option.some.inj hf) dL_whole_14 hw
    replace hf := iq hk hf
    exact nn hf
  · replace hf := se_r hf
    refine xcallV (ws' := (wC g h now snap has hist ent res num col ++ [(ho, .inl (g.2.2.2.1, 1, .inr (.inl arr)))])) (st1 := [.int u4, .int 0, .ref ho]) (n := 35) E hw [.int a1] [0, 1, 2, 3, 4, 5, 6, 7, 8, 9, 10, 11, 12, 13, 14, 15, 16, 17, 18, 19, 20, 21, 22, 23, 24, 25, 26, 27, 28, 29, 30, 31, 32, 33] (met_X10_whole l g h now snap has hist ent res num col a1 u4 hv4) rfl (by decide) rfl rfl [35, 36, 37, 38, 39, 40, 41, 42, 43, 44, 45, 46, 47, 48, 49, 50, 51, 52, 53, 54, 55, 56, 57, 58, 59, 60, 61, 62, 63, 64, 65, 66, 67, 68, 34] rfl (by decide +kernel) rfl rfl rfl rfl qw909 k_X10_whole ⟨rfl, rfl, Nat.le_of_ble_eq_true rfl, Nat.le_of_ble_eq_true rfl⟩ ⟨Nat.zero_le _, Nat.zero_le _⟩ hl.1 (Nat.le_of_ble_eq_true rfl) dL_whole_4 rfl (fun H locs hw => ?_)
    refine lv_i2l hx hb dL_whole_7 rfl ?_
    refine xlast (ws' := (wC g h now snap has hist ent res num col ++ [(ho, .inl (g.2.2.2.1, 1, .inr (.inl (vp_updL arr (0 : Int32).toNatClampNeg u4.toInt64))))])) E hw 34 rfl (by decide) dL_whole_8 rfl (fun H locs hw => ?_)
    refine lv_goto (tgt := 15) hx hb dL_whole_9 (by decide) ?_
    refine lv_iconst (v := 0) hx hb dL_whole_15 (by decide) ?_
    exact hret _ _ _ _ _ _ _ _ (by decide) (by decide) (Option.some.inj hf) dL_whole_16 hw
theorem k_L_compare : xKW yL_compare cL_compare 5 (some .int) [(0, 10, 13, 19)] 4 := ⟨qw911, qw65, qw912, by decide +kernel, by decide +kernel, by decide +kernel⟩
set_option maxHeartbeats 4000000 in
set_option maxRecDepth 100000 in
theorem met_L_compare (l : Launch) (hlT : l.stackTraces = false) (g : xG) (h : Nat → Nat) (ho : Nat) (now : SC) (snap : SC) (has : Int32) (hist : HC) (ent : EC) (res : RC) (num : NC) (col : CC) (arr : (Nat → Int64)) (a1 : Int32) (a2 : Int32) (out : Int32 × (Nat → Int64)) (hf : f_L_compare now arr a1 a2 = some out) : xMW l yL_compare (xCW yL_compare cL_compare 5 (some .int) [(0, 10, 13, 19)]) { frames := 9, cells := 1, slots := 6, locals := 163 } g (wC g h now snap has hist ent res num col ++ [(ho, .inl (g.2.2.2.1, 1, .inr (.inl arr)))]) [.ref (h 0), .int a1, .int a2, .ref ho] (some (.int out.1)) (wC g h now snap has hist ent res num col ++ [(ho, .inl (g.2.2.2.1, 1, .inr (.inl out.2)))]) := by
  refine xofW (by decide) (Nat.le_of_ble_eq_true rfl) ?_
  intro p e s m below meth c A ls E hr hlocks htab hX hNc hw hl hpost
  have hx := E.1.1
  have hb := E.1.2.1
  have hown := E.1.2.2.2.1
  have hts := E.1.2.2.2.2
  generalize hZ : (MQ below (xPost g (wC g h now snap has hist ent res num col ++ [(ho, .inl (g.2.2.2.1, 1, .inr (.inl arr)))]) (wC g h now snap has hist ent res num col ++ [(ho, .inl (g.2.2.2.1, 1, .inr (.inl out.2)))]) s.heap.size (some (.int out.1))) [.ref (h 0), .int a1, .int a2, .ref ho].toArray s 1 6 A) = ZZ
  have hret : ∀ (pc : Nat) (H : Heap) (locs : List Loc) (ls : Array Slot) (cells slots : Nat) (v : Int32) (carr : (Nat → Int64)), cells ≤ 1 → slots ≤ 6 → (v, carr) = out → decode cL_compare pc = .ok (.ireturn, 1) → xW g A s.heap (wC g h now snap has hist ent res num col ++ [(ho, .inl (g.2.2.2.1, 1, .inr (.inl carr)))]) H locs → W p l e { frames := 9, cells := 1, slots := 6, locals := 163 } s m [.ref (h 0), .int a1, .int a2, .ref ho].toArray below meth c H locs cells slots ZZ (F0 m pc ls [.int v]) := by
    intro pc H locs ls cells slots v carr hc hs he hd hw
    subst he
    rw [← hZ]
    exact W.widen hc hs (W.iret hx hb hr (hpost H locs hw).1 (hpost H locs hw).2 hd hlocks)
  clear hpost
  refine lv_aload_n hx hb dL_compare_0 rfl (lv_at hl 3 rfl) ?_
  refine lv_iconst (v := 0) hx hb dL_compare_1 (by decide) ?_
  refine lv_aload_n hx hb dL_compare_2 rfl (lv_at hl 0 rfl) ?_
  refine lv_iload_n hx hb dL_compare_3 rfl (lv_at hl 1 rfl) ?_
  refine lv_iload_n hx hb dL_compare_4 rfl (lv_at hl 2 rfl) ?_
  obtain ⟨v5, hv5, hf⟩ := ob_e hf
  rcases v5 with t5 | u5
  · replace hf := se_l hf
    refine xcallVX (ws' := (wC g h now snap has hist ent res num col ++ [(ho, .inl (g.2.2.2.1, 1, .inr (.inl arr)))])) (n := 35) E hX hw [.int a1, .int a2] [0, 1, 2, 3, 4, 5, 6, 7, 8, 9, 10, 11, 12, 13, 14, 15, 16, 17, 18, 19, 20, 21, 22, 23, 24, 25, 26, 27, 28, 29, 30, 31, 32, 33] (metx_X10_compare l hlT g h now snap has hist ent res num col a1 a2 t5 hv5) rfl (by decide) rfl rfl [35, 36, 37, 38, 39, 40, 41, 42, 43, 44, 45, 46, 47, 48, 49, 50, 51, 52, 53, 54, 55, 56, 57, 58, 59, 60, 61, 62, 63, 64, 65, 66, 67, 68, 34] rfl (by decide +kernel) rfl rfl rfl rfl qw913 k_X10_compare ⟨rfl, rfl, Nat.le_of_ble_eq_true rfl, Nat.le_of_ble_eq_true rfl⟩ ⟨by decide, by decide⟩ hl.1 (Nat.le_of_ble_eq_true rfl) dL_compare_5 (fun H locs q ce hw hce hcv hcl => ?_)
    by_cases hk : t5 = 1
    · replace hf := ip hk hf
      have hcl : s.vm.findClass "java/lang/IndexOutOfBoundsException" = some ce.cls := by rw [hk] at hcl; exact hcl
      refine vx_catch (name := "java/lang/IndexOutOfBoundsException") hown [] ⟨0, 10, 13, 19⟩ [] (htab.trans rfl) (fun z hz => absurd hz List.not_mem_nil) (by decide) (by decide) (hts _ qw698) (xodd_args hX.2.2.2 _ (by decide)) hce hcv hcl ?_
      refine lv_astore (lv' := [(4, .ref q), (0, .ref (h 0)), (1, .int a1), (2, .int a2), (3, .ref ho)]) hx hb dL_compare_13 hl (by decide) rfl (fun ls hl => ?_)
      refine lv_iconst (v := 1) hx hb dL_compare_15 (by decide) ?_
      exact hret _ _ _ _ _ _ _ _ (by decide) (by decide) (Option.some.inj hf) dL_compare_16 hw
    replace hf := iq hk hf
    exact nn hf
  · replace hf := se_r hf
    refine xcallV (ws' := (wC g h now snap has hist ent res num col ++ [(ho, .inl (g.2.2.2.1, 1, .inr (.inl arr)))])) (st1 := [.int u5, .int 0, .ref ho]) (n := 35) E hw [.int a1, .int a2] [0, 1, 2, 3, 4, 5, 6, 7, 8, 9, 10, 11, 12, 13, 14, 15, 16, 17, 18, 19, 20, 21, 22, 23, 24, 25, 26, 27, 28, 29, 30, 31, 32, 33] (met_X10_compare l g h now snap has hist ent res num col a1 a2 u5 hv5) rfl (by decide) rfl rfl [35, 36, 37, 38, 39, 40, 41, 42, 43, 44, 45, 46, 47, 48, 49, 50, 51, 52, 53, 54, 55, 56, 57, 58, 59, 60, 61, 62, 63, 64, 65, 66, 67, 68, 34] rfl (by decide +kernel) rfl rfl rfl rfl qw913 k_X10_compare ⟨rfl, rfl, Nat.le_of_ble_eq_true rfl, Nat.le_of_ble_eq_true rfl⟩ ⟨Nat.zero_le _, Nat.zero_le _⟩ hl.1 (Nat.le_of_ble_eq_true rfl) dL_compare_5 rfl (fun H locs hw => ?_)
    refine lv_i2l hx hb dL_compare_8 rfl ?_
    refine xlast (ws' := (wC g h now snap has hist ent res num col ++ [(ho, .inl (g.2.2.2.1, 1, .inr (.inl (vp_updL arr (0 : Int32).toNatClampNeg u5.toInt64))))])) E hw 34 rfl (by decide) dL_compare_9 rfl (fun H locs hw => ?_)
    refine lv_goto (tgt := 17) hx hb dL_compare_10 (by decide) ?_
    refine lv_iconst (v := 0) hx hb dL_compare_17 (by decide) ?_
    exact hret _ _ _ _ _ _ _ _ (by decide) (by decide) (Option.some.inj hf) dL_compare_18 hw
theorem k_L_wholeDigits : xKW yL_wholeDigits cL_wholeDigits 4 (some .int) [(0, 9, 12, 19)] 3 := ⟨qw918, qw65, qw919, by decide +kernel, by decide +kernel, by decide +kernel⟩
set_option maxHeartbeats 4000000 in
set_option maxRecDepth 100000 in
theorem met_L_wholeDigits (l : Launch) (hlT : l.stackTraces = false) (g : xG) (h : Nat → Nat) (ho : Nat) (now : SC) (snap : SC) (has : Int32) (hist : HC) (ent : EC) (res : RC) (num : NC) (col : CC) (arr : (Nat → Int64)) (a1 : Int32) (out : Int32 × (Nat → Int64)) (hf : f_L_wholeDigits now arr a1 = some out) : xMW l yL_wholeDigits (xCW yL_wholeDigits cL_wholeDigits 4 (some .int) [(0, 9, 12, 19)]) { frames := 8, cells := 1, slots := 6, locals := 141 } g (wC g h now snap has hist ent res num col ++ [(ho, .inl (g.2.2.2.1, 1, .inr (.inl arr)))]) [.ref (h 0), .int a1, .ref ho] (some (.int out.1)) (wC g h now snap has hist ent res num col ++ [(ho, .inl (g.2.2.2.1, 1, .inr (.inl out.2)))]) := by
  refine xofW (by decide) (Nat.le_of_ble_eq_true rfl) ?_
  intro p e s m below meth c A ls E hr hlocks htab hX hNc hw hl hpost
  have hx := E.1.1
  have hb := E.1.2.1
  have hown := E.1.2.2.2.1
  have hts := E.1.2.2.2.2
  generalize hZ : (MQ below (xPost g (wC g h now snap has hist ent res num col ++ [(ho, .inl (g.2.2.2.1, 1, .inr (.inl arr)))]) (wC g h now snap has hist ent res num col ++ [(ho, .inl (g.2.2.2.1, 1, .inr (.inl out.2)))]) s.heap.size (some (.int out.1))) [.ref (h 0), .int a1, .ref ho].toArray s 1 6 A) = ZZ
  have hret : ∀ (pc : Nat) (H : Heap) (locs : List Loc) (ls : Array Slot) (cells slots : Nat) (v : Int32) (carr : (Nat → Int64)), cells ≤ 1 → slots ≤ 6 → (v, carr) = out → decode cL_wholeDigits pc = .ok (.ireturn, 1) → xW g A s.heap (wC g h now snap has hist ent res num col ++ [(ho, .inl (g.2.2.2.1, 1, .inr (.inl carr)))]) H locs → W p l e { frames := 8, cells := 1, slots := 6, locals := 141 } s m [.ref (h 0), .int a1, .ref ho].toArray below meth c H locs cells slots ZZ (F0 m pc ls [.int v]) := by
    intro pc H locs ls cells slots v carr hc hs he hd hw
    subst he
    rw [← hZ]
    exact W.widen hc hs (W.iret hx hb hr (hpost H locs hw).1 (hpost H locs hw).2 hd hlocks)
  clear hpost
  refine lv_aload_n hx hb dL_wholeDigits_0 rfl (lv_at hl 2 rfl) ?_
  refine lv_iconst (v := 0) hx hb dL_wholeDigits_1 (by decide) ?_
  refine lv_aload_n hx hb dL_wholeDigits_2 rfl (lv_at hl 0 rfl) ?_
  refine lv_iload_n hx hb dL_wholeDigits_3 rfl (lv_at hl 1 rfl) ?_
  obtain ⟨v4, hv4, hf⟩ := ob_e hf
  rcases v4 with t4 | u4
  · replace hf := se_l hf
    refine xcallVX (ws' := (wC g h now snap has hist ent res num col ++ [(ho, .inl (g.2.2.2.1, 1, .inr (.inl arr)))])) (n := 35) E hX hw [.int a1] [0, 1, 2, 3, 4, 5, 6, 7, 8, 9, 10, 11, 12, 13, 14, 15, 16, 17, 18, 19, 20, 21, 22, 23, 24, 25, 26, 27, 28, 29, 30, 31, 32, 33] (metx_X10_wholeDigits l hlT g h now snap has hist ent res num col a1 t4 hv4) rfl (by decide) rfl rfl [35, 36, 37, 38, 39, 40, 41, 42, 43, 44, 45, 46, 47, 48, 49, 50, 51, 52, 53, 54, 55, 56, 57, 58, 59, 60, 61, 62, 63, 64, 65, 66, 67, 68, 34] rfl (by decide +kernel) rfl rfl rfl rfl qw920 k_X10_wholeDigits ⟨rfl, rfl, Nat.le_of_ble_eq_true rfl, Nat.le_of_ble_eq_true rfl⟩ ⟨by decide, by decide⟩ hl.1 (Nat.le_of_ble_eq_true rfl) dL_wholeDigits_4 (fun H locs q ce hw hce hcv hcl => ?_)
    by_cases hk : t4 = 1
    · replace hf := ip hk hf
      have hcl : s.vm.findClass "java/lang/IndexOutOfBoundsException" = some ce.cls := by rw [hk] at hcl; exact hcl
      refine vx_catch (name := "java/lang/IndexOutOfBoundsException") hown [] ⟨0, 9, 12, 19⟩ [] (htab.trans rfl) (fun z hz => absurd hz List.not_mem_nil) (by decide) (by decide) (hts _ qw698) (xodd_args hX.2.2.2 _ (by decide)) hce hcv hcl ?_
      refine lv_astore_n (lv' := [(3, .ref q), (0, .ref (h 0)), (1, .int a1), (2, .ref ho)]) hx hb dL_wholeDigits_12 rfl hl (by decide) rfl (fun ls hl => ?_)
      refine lv_iconst (v := 1) hx hb dL_wholeDigits_13 (by decide) ?_
      exact hret _ _ _ _ _ _ _ _ (by decide) (by decide) (Option.some.inj hf) dL_wholeDigits_14 hw
    replace hf := iq hk hf
    exact nn hf
  · replace hf := se_r hf
    refine xcallV (ws' := (wC g h now snap has hist ent res num col ++ [(ho, .inl (g.2.2.2.1, 1, .inr (.inl arr)))])) (st1 := [.int u4, .int 0, .ref ho]) (n := 35) E hw [.int a1] [0, 1, 2, 3, 4, 5, 6, 7, 8, 9, 10, 11, 12, 13, 14, 15, 16, 17, 18, 19, 20, 21, 22, 23, 24, 25, 26, 27, 28, 29, 30, 31, 32, 33] (met_X10_wholeDigits l g h now snap has hist ent res num col a1 u4 hv4) rfl (by decide) rfl rfl [35, 36, 37, 38, 39, 40, 41, 42, 43, 44, 45, 46, 47, 48, 49, 50, 51, 52, 53, 54, 55, 56, 57, 58, 59, 60, 61, 62, 63, 64, 65, 66, 67, 68, 34] rfl (by decide +kernel) rfl rfl rfl rfl qw920 k_X10_wholeDigits ⟨rfl, rfl, Nat.le_of_ble_eq_true rfl, Nat.le_of_ble_eq_true rfl⟩ ⟨Nat.zero_le _, Nat.zero_le _⟩ hl.1 (Nat.le_of_ble_eq_true rfl) dL_wholeDigits_4 rfl (fun H locs hw => ?_)
    refine lv_i2l hx hb dL_wholeDigits_7 rfl ?_
    refine xlast (ws' := (wC g h now snap has hist ent res num col ++ [(ho, .inl (g.2.2.2.1, 1, .inr (.inl (vp_updL arr (0 : Int32).toNatClampNeg u4.toInt64))))])) E hw 34 rfl (by decide) dL_wholeDigits_8 rfl (fun H locs hw => ?_)
    refine lv_goto (tgt := 15) hx hb dL_wholeDigits_9 (by decide) ?_
    refine lv_iconst (v := 0) hx hb dL_wholeDigits_15 (by decide) ?_
    exact hret _ _ _ _ _ _ _ _ (by decide) (by decide) (Option.some.inj hf) dL_wholeDigits_16 hw
theorem k_L_wholeDigit : xKW yL_wholeDigit cL_wholeDigit 5 (some .int) [(0, 10, 13, 19)] 4 := ⟨qw922, qw65, qw923, by decide +kernel, by decide +kernel, by decide +kernel⟩
set_option maxHeartbeats 4000000 in
set_option maxRecDepth 100000 in
theorem met_L_wholeDigit (l : Launch) (hlT : l.stackTraces = false) (g : xG) (h : Nat → Nat) (ho : Nat) (now : SC) (snap : SC) (has : Int32) (hist : HC) (ent : EC) (res : RC) (num : NC) (col : CC) (arr : (Nat → Int64)) (a1 : Int32) (a2 : Int32) (out : Int32 × (Nat → Int64)) (hf : f_L_wholeDigit now arr a1 a2 = some out) : xMW l yL_wholeDigit (xCW yL_wholeDigit cL_wholeDigit 5 (some .int) [(0, 10, 13, 19)]) { frames := 10, cells := 1, slots := 6, locals := 185 } g (wC g h now snap has hist ent res num col ++ [(ho, .inl (g.2.2.2.1, 1, .inr (.inl arr)))]) [.ref (h 0), .int a1, .int a2, .ref ho] (some (.int out.1)) (wC g h now snap has hist ent res num col ++ [(ho, .inl (g.2.2.2.1, 1, .inr (.inl out.2)))]) := by
  refine xofW (by decide) (Nat.le_of_ble_eq_true rfl) ?_
  intro p e s m below meth c A ls E hr hlocks htab hX hNc hw hl hpost
  have hx := E.1.1
  have hb := E.1.2.1
  have hown := E.1.2.2.2.1
  have hts := E.1.2.2.2.2
  generalize hZ : (MQ below (xPost g (wC g h now snap has hist ent res num col ++ [(ho, .inl (g.2.2.2.1, 1, .inr (.inl arr)))]) (wC g h now snap has hist ent res num col ++ [(ho, .inl (g.2.2.2.1, 1, .inr (.inl out.2)))]) s.heap.size (some (.int out.1))) [.ref (h 0), .int a1, .int a2, .ref ho].toArray s 1 6 A) = ZZ
  have hret : ∀ (pc : Nat) (H : Heap) (locs : List Loc) (ls : Array Slot) (cells slots : Nat) (v : Int32) (carr : (Nat → Int64)), cells ≤ 1 → slots ≤ 6 → (v, carr) = out → decode cL_wholeDigit pc = .ok (.ireturn, 1) → xW g A s.heap (wC g h now snap has hist ent res num col ++ [(ho, .inl (g.2.2.2.1, 1, .inr (.inl carr)))]) H locs → W p l e { frames := 10, cells := 1, slots := 6, locals := 185 } s m [.ref (h 0), .int a1, .int a2, .ref ho].toArray below meth c H locs cells slots ZZ (F0 m pc ls [.int v]) := by
    intro pc H locs ls cells slots v carr hc hs he hd hw
    subst he
    rw [← hZ]
    exact W.widen hc hs (W.iret hx hb hr (hpost H locs hw).1 (hpost H locs hw).2 hd hlocks)
  clear hpost
  refine lv_aload_n hx hb dL_wholeDigit_0 rfl (lv_at hl 3 rfl) ?_
  refine lv_iconst (v := 0) hx hb dL_wholeDigit_1 (by decide) ?_
  refine lv_aload_n hx hb dL_wholeDigit_2 rfl (lv_at hl 0 rfl) ?_
  refine lv_iload_n hx hb dL_wholeDigit_3 rfl (lv_at hl 1 rfl) ?_
  refine lv_iload_n hx hb dL_wholeDigit_4 rfl (lv_at hl 2 rfl) ?_
  obtain ⟨v5, hv5, hf⟩ := ob_e hf
  rcases v5 with t5 | u5
  · replace hf := se_l hf
    refine xcallVX (ws' := (wC g h now snap has hist ent res num col ++ [(ho, .inl (g.2.2.2.1, 1, .inr (.inl arr)))])) (n := 35) E hX hw [.int a1, .int a2] [0, 1, 2, 3, 4, 5, 6, 7, 8, 9, 10, 11, 12, 13, 14, 15, 16, 17, 18, 19, 20, 21, 22, 23, 24, 25, 26, 27, 28, 29, 30, 31, 32, 33] (metx_X10_wholeDigit l hlT g h now snap has hist ent res num col a1 a2 t5 hv5) rfl (by decide) rfl rfl [35, 36, 37, 38, 39, 40, 41, 42, 43, 44, 45, 46, 47, 48, 49, 50, 51, 52, 53, 54, 55, 56, 57, 58, 59, 60, 61, 62, 63, 64, 65, 66, 67, 68, 34] rfl (by decide +kernel) rfl rfl rfl rfl qw924 k_X10_wholeDigit ⟨rfl, rfl, Nat.le_of_ble_eq_true rfl, Nat.le_of_ble_eq_true rfl⟩ ⟨by decide, by decide⟩ hl.1 (Nat.le_of_ble_eq_true rfl) dL_wholeDigit_5 (fun H locs q ce hw hce hcv hcl => ?_)
    by_cases hk : t5 = 1
    · replace hf := ip hk hf
      have hcl : s.vm.findClass "java/lang/IndexOutOfBoundsException" = some ce.cls := by rw [hk] at hcl; exact hcl
      refine vx_catch (name := "java/lang/IndexOutOfBoundsException") hown [] ⟨0, 10, 13, 19⟩ [] (htab.trans rfl) (fun z hz => absurd hz List.not_mem_nil) (by decide) (by decide) (hts _ qw698) (xodd_args hX.2.2.2 _ (by decide)) hce hcv hcl ?_
      refine lv_astore (lv' := [(4, .ref q), (0, .ref (h 0)), (1, .int a1), (2, .int a2), (3, .ref ho)]) hx hb dL_wholeDigit_13 hl (by decide) rfl (fun ls hl => ?_)
      refine lv_iconst (v := 1) hx hb dL_wholeDigit_15 (by decide) ?_
      exact hret _ _ _ _ _ _ _ _ (by decide) (by decide) (Option.some.inj hf) dL_wholeDigit_16 hw
    replace hf := iq hk hf
    exact nn hf
  · replace hf := se_r hf
    refine xcallV (ws' := (wC g h now snap has hist ent res num col ++ [(ho, .inl (g.2.2.2.1, 1, .inr (.inl arr)))])) (st1 := [.int u5, .int 0, .ref ho]) (n := 35) E hw [.int a1, .int a2] [0, 1, 2, 3, 4, 5, 6, 7, 8, 9, 10, 11, 12, 13, 14, 15, 16, 17, 18, 19, 20, 21, 22, 23, 24, 25, 26, 27, 28, 29, 30, 31, 32, 33] (met_X10_wholeDigit l g h now snap has hist ent res num col a1 a2 u5 hv5) rfl (by decide) rfl rfl [35, 36, 37, 38, 39, 40, 41, 42, 43, 44, 45, 46, 47, 48, 49, 50, 51, 52, 53, 54, 55, 56, 57, 58, 59, 60, 61, 62, 63, 64, 65, 66, 67, 68, 34] rfl (by decide +kernel) rfl rfl rfl rfl qw924 k_X10_wholeDigit ⟨rfl, rfl, Nat.le_of_ble_eq_true rfl, Nat.le_of_ble_eq_true rfl⟩ ⟨Nat.zero_le _, Nat.zero_le _⟩ hl.1 (Nat.le_of_ble_eq_true rfl) dL_wholeDigit_5 rfl (fun H locs hw => ?_)
    refine lv_i2l hx hb dL_wholeDigit_8 rfl ?_
    refine xlast (ws' := (wC g h now snap has hist ent res num col ++ [(ho, .inl (g.2.2.2.1, 1, .inr (.inl (vp_updL arr (0 : Int32).toNatClampNeg u5.toInt64))))])) E hw 34 rfl (by decide) dL_wholeDigit_9 rfl (fun H locs hw => ?_)
    refine lv_goto (tgt := 17) hx hb dL_wholeDigit_10 (by decide) ?_
    refine lv_iconst (v := 0) hx hb dL_wholeDigit_17 (by decide) ?_
    exact hret _ _ _ _ _ _ _ _ (by decide) (by decide) (Option.some.inj hf) dL_wholeDigit_18 hw
theorem k_L_wholeDigitByPowers : xKW yL_wholeDigitByPowers cL_wholeDigitByPowers 5 (some .int) [(0, 10, 13, 19)] 4 := ⟨qw926, qw65, qw927, by decide +kernel, by decide +kernel, by decide +kernel⟩
set_option maxHeartbeats 4000000 in
set_option maxRecDepth 100000 in
theorem met_L_wholeDigitByPowers (l : Launch) (hlT : l.stackTraces = false) (g : xG) (h : Nat → Nat) (ho : Nat) (now : SC) (snap : SC) (has : Int32) (hist : HC) (ent : EC) (res : RC) (num : NC) (col : CC) (arr : (Nat → Int64)) (a1 : Int32) (a2 : Int32) (out : Int32 × (Nat → Int64)) (hf : f_L_wholeDigitByPowers now arr a1 a2 = some out) : xMW l yL_wholeDigitByPowers (xCW yL_wholeDigitByPowers cL_wholeDigitByPowers 5 (some .int) [(0, 10, 13, 19)]) { frames := 10, cells := 1, slots := 6, locals := 185 } g (wC g h now snap has hist ent res num col ++ [(ho, .inl (g.2.2.2.1, 1, .inr (.inl arr)))]) [.ref (h 0), .int a1, .int a2, .ref ho] (some (.int out.1)) (wC g h now snap has hist ent res num col ++ [(ho, .inl (g.2.2.2.1, 1, .inr (.inl out.2)))]) := by
  refine xofW (by decide) (Nat.le_of_ble_eq_true rfl) ?_
  intro p e s m below meth c A ls E hr hlocks htab hX hNc hw hl hpost
  have hx := E.1.1
  have hb := E.1.2.1
  have hown := E.1.2.2.2.1
  have hts := E.1.2.2.2.2
  generalize hZ : (MQ below (xPost g (wC g h now snap has hist ent res num col ++ [(ho, .inl (g.2.2.2.1, 1, .inr (.inl arr)))]) (wC g h now snap has hist ent res num col ++ [(ho, .inl (g.2.2.2.1, 1, .inr (.inl out.2)))]) s.heap.size (some (.int out.1))) [.ref (h 0), .int a1, .int a2, .ref ho].toArray s 1 6 A) = ZZ
  have hret : ∀ (pc : Nat) (H : Heap) (locs : List Loc) (ls : Array Slot) (cells slots : Nat) (v : Int32) (carr : (Nat → Int64)), cells ≤ 1 → slots ≤ 6 → (v, carr) = out → decode cL_wholeDigitByPowers pc = .ok (.ireturn, 1) → xW g A s.heap (wC g h now snap has hist ent res num col ++ [(ho, .inl (g.2.2.2.1, 1, .inr (.inl carr)))]) H locs → W p l e { frames := 10, cells := 1, slots := 6, locals := 185 } s m [.ref (h 0), .int a1, .int a2, .ref ho].toArray below meth c H locs cells slots ZZ (F0 m pc ls [.int v]) := by
    intro pc H locs ls cells slots v carr hc hs he hd hw
    subst he
    rw [← hZ]
    exact W.widen hc hs (W.iret hx hb hr (hpost H locs hw).1 (hpost H locs hw).2 hd hlocks)
  clear hpost
  refine lv_aload_n hx hb dL_wholeDigitByPowers_0 rfl (lv_at hl 3 rfl) ?_
  refine lv_iconst (v := 0) hx hb dL_wholeDigitByPowers_1 (by decide) ?_
  refine lv_aload_n hx hb dL_wholeDigitByPowers_2 rfl (lv_at hl 0 rfl) ?_
  refine lv_iload_n hx hb dL_wholeDigitByPowers_3 rfl (lv_at hl 1 rfl) ?_
  refine lv_iload_n hx hb dL_wholeDigitByPowers_4 rfl (lv_at hl 2 rfl) ?_
  obtain ⟨v5, hv5, hf⟩ := ob_e hf
  rcases v5 with t5 | u5
  · replace hf := se_l hf
    refine xcallVX (ws' := (wC g h now snap has hist ent res num col ++ [(ho, .inl (g.2.2.2.1, 1, .inr (.inl arr)))])) (n := 35) E hX hw [.int a1, .int a2] [0, 1, 2, 3, 4, 5, 6, 7, 8, 9, 10, 11, 12, 13, 14, 15, 16, 17, 18, 19, 20, 21, 22, 23, 24, 25, 26, 27, 28, 29, 30, 31, 32, 33] (metx_X10_wholeDigitByPowers l hlT g h now snap has hist ent res num col a1 a2 t5 hv5) rfl (by decide) rfl rfl [35, 36, 37, 38, 39, 40, 41, 42, 43, 44, 45, 46, 47, 48, 49, 50, 51, 52, 53, 54, 55, 56, 57, 58, 59, 60, 61, 62, 63, 64, 65, 66, 67, 68, 34] rfl (by decide +kernel) rfl rfl rfl rfl qw928 k_X10_wholeDigitByPowers ⟨rfl, rfl, Nat.le_of_ble_eq_true rfl, Nat.le_of_ble_eq_true rfl⟩ ⟨by decide, by decide⟩ hl.1 (Nat.le_of_ble_eq_true rfl) dL_wholeDigitByPowers_5 (fun H locs q ce hw hce hcv hcl => ?_)
    by_cases hk : t5 = 1
    · replace hf := ip hk hf
      have hcl : s.vm.findClass "java/lang/IndexOutOfBoundsException" = some ce.cls := by rw [hk] at hcl; exact hcl
      refine vx_catch (name := "java/lang/IndexOutOfBoundsException") hown [] ⟨0, 10, 13, 19⟩ [] (htab.trans rfl) (fun z hz => absurd hz List.not_mem_nil) (by decide) (by decide) (hts _ qw698) (xodd_args hX.2.2.2 _ (by decide)) hce hcv hcl ?_
      refine lv_astore (lv' := [(4, .ref q), (0, .ref (h 0)), (1, .int a1), (2, .int a2), (3, .ref ho)]) hx hb dL_wholeDigitByPowers_13 hl (by decide) rfl (fun ls hl => ?_)
      refine lv_iconst (v := 1) hx hb dL_wholeDigitByPowers_15 (by decide) ?_
      exact hret _ _ _ _ _ _ _ _ (by decide) (by decide) (Option.some.inj hf) dL_wholeDigitByPowers_16 hw
    replace hf := iq hk hf
    exact nn hf
  · replace hf := se_r hf
    refine xcallV (ws' := (wC g h now snap has hist ent res num col ++ [(ho, .inl (g.2.2.2.1, 1, .inr (.inl arr)))])) (st1 := [.int u5, .int 0, .ref ho]) (n := 35) E hw [.int a1, .int a2] [0, 1, 2, 3, 4, 5, 6, 7, 8, 9, 10, 11, 12, 13, 14, 15, 16, 17, 18, 19, 20, 21, 22, 23, 24, 25, 26, 27, 28, 29, 30, 31, 32, 33] (met_X10_wholeDigitByPowers l g h now snap has hist ent res num col a1 a2 u5 hv5) rfl (by decide) rfl rfl [35, 36, 37, 38, 39, 40, 41, 42, 43, 44, 45, 46, 47, 48, 49, 50, 51, 52, 53, 54, 55, 56, 57, 58, 59, 60, 61, 62, 63, 64, 65, 66, 67, 68, 34] rfl (by decide +kernel) rfl rfl rfl rfl qw928 k_X10_wholeDigitByPowers ⟨rfl, rfl, Nat.le_of_ble_eq_true rfl, Nat.le_of_ble_eq_true rfl⟩ ⟨Nat.zero_le _, Nat.zero_le _⟩ hl.1 (Nat.le_of_ble_eq_true rfl) dL_wholeDigitByPowers_5 rfl (fun H locs hw => ?_)
    refine lv_i2l hx hb dL_wholeDigitByPowers_8 rfl ?_
    refine xlast (ws' := (wC g h now snap has hist ent res num col ++ [(ho, .inl (g.2.2.2.1, 1, .inr (.inl (vp_updL arr (0 : Int32).toNatClampNeg u5.toInt64))))])) E hw 34 rfl (by decide) dL_wholeDigitByPowers_9 rfl (fun H locs hw => ?_)
    refine lv_goto (tgt := 17) hx hb dL_wholeDigitByPowers_10 (by decide) ?_
    refine lv_iconst (v := 0) hx hb dL_wholeDigitByPowers_17 (by decide) ?_
    exact hret _ _ _ _ _ _ _ _ (by decide) (by decide) (Option.some.inj hf) dL_wholeDigitByPowers_18 hw
theorem k_L_digitSum : xKW yL_digitSum cL_digitSum 4 (some .int) [(0, 9, 12, 19)] 3 := ⟨qw930, qw65, qw931, by decide +kernel, by decide +kernel, by decide +kernel⟩
set_option maxHeartbeats 4000000 in
set_option maxRecDepth 100000 in
theorem met_L_digitSum (l : Launch) (hlT : l.stackTraces = false) (g : xG) (h : Nat → Nat) (ho : Nat) (now : SC) (snap : SC) (has : Int32) (hist : HC) (ent : EC) (res : RC) (num : NC) (col : CC) (arr : (Nat → Int64)) (a1 : Int32) (out : Int32 × (Nat → Int64)) (hf : f_L_digitSum now arr a1 = some out) : xMW l yL_digitSum (xCW yL_digitSum cL_digitSum 4 (some .int) [(0, 9, 12, 19)]) { frames := 8, cells := 1, slots := 6, locals := 141 } g (wC g h now snap has hist ent res num col ++ [(ho, .inl (g.2.2.2.1, 1, .inr (.inl arr)))]) [.ref (h 0), .int a1, .ref ho] (some (.int out.1)) (wC g h now snap has hist ent res num col ++ [(ho, .inl (g.2.2.2.1, 1, .inr (.inl out.2)))]) := by
  refine xofW (by decide) (Nat.le_of_ble_eq_true rfl) ?_
  intro p e s m below meth c A ls E hr hlocks htab hX hNc hw hl hpost
  have hx := E.1.1
  have hb := E.1.2.1
  have hown := E.1.2.2.2.1
  have hts := E.1.2.2.2.2
  generalize hZ : (MQ below (xPost g (wC g h now snap has hist ent res num col ++ [(ho, .inl (g.2.2.2.1, 1, .inr (.inl arr)))]) (wC g h now snap has hist ent res num col ++ [(ho, .inl (g.2.2.2.1, 1, .inr (.inl out.2)))]) s.heap.size (some (.int out.1))) [.ref (h 0), .int a1, .ref ho].toArray s 1 6 A) = ZZ
  have hret : ∀ (pc : Nat) (H : Heap) (locs : List Loc) (ls : Array Slot) (cells slots : Nat) (v : Int32) (carr : (Nat → Int64)), cells ≤ 1 → slots ≤ 6 → (v, carr) = out → decode cL_digitSum pc = .ok (.ireturn, 1) → xW g A s.heap (wC g h now snap has hist ent res num col ++ [(ho, .inl (g.2.2.2.1, 1, .inr (.inl carr)))]) H locs → W p l e { frames := 8, cells := 1, slots := 6, locals := 141 } s m [.ref (h 0), .int a1, .ref ho].toArray below meth c H locs cells slots ZZ (F0 m pc ls [.int v]) := by
    intro pc H locs ls cells slots v carr hc hs he hd hw
    subst he
    rw [← hZ]
    exact W.widen hc hs (W.iret hx hb hr (hpost H locs hw).1 (hpost H locs hw).2 hd hlocks)
  clear hpost
  refine lv_aload_n hx hb dL_digitSum_0 rfl (lv_at hl 2 rfl) ?_
  refine lv_iconst (v := 0) hx hb dL_digitSum_1 (by decide) ?_
  refine lv_aload_n hx hb dL_digitSum_2 rfl (lv_at hl 0 rfl) ?_
  refine lv_iload_n hx hb dL_digitSum_3 rfl (lv_at hl 1 rfl) ?_
  obtain ⟨v4, hv4, hf⟩ := ob_e hf
  rcases v4 with t4 | u4
  · replace hf := se_l hf
    refine xcallVX (ws' := (wC g h now snap has hist ent res num col ++ [(ho, .inl (g.2.2.2.1, 1, .inr (.inl arr)))])) (n := 35) E hX hw [.int a1] [0, 1, 2, 3, 4, 5, 6, 7, 8, 9, 10, 11, 12, 13, 14, 15, 16, 17, 18, 19, 20, 21, 22, 23, 24, 25, 26, 27, 28, 29, 30, 31, 32, 33] (metx_X10_digitSum l hlT g h now snap has hist ent res num col a1 t4 hv4) rfl (by decide) rfl rfl [35, 36, 37, 38, 39, 40, 41, 42, 43, 44, 45, 46, 47, 48, 49, 50, 51, 52, 53, 54, 55, 56, 57, 58, 59, 60, 61, 62, 63, 64, 65, 66, 67, 68, 34] rfl (by decide +kernel) rfl rfl rfl rfl qw932 k_X10_digitSum ⟨rfl, rfl, Nat.le_of_ble_eq_true rfl, Nat.le_of_ble_eq_true rfl⟩ ⟨by decide, by decide⟩ hl.1 (Nat.le_of_ble_eq_true rfl) dL_digitSum_4 (fun H locs q ce hw hce hcv hcl => ?_)
    by_cases hk : t4 = 1
    · replace hf := ip hk hf
      have hcl : s.vm.findClass "java/lang/IndexOutOfBoundsException" = some ce.cls := by rw [hk] at hcl; exact hcl
      refine vx_catch (name := "java/lang/IndexOutOfBoundsException") hown [] ⟨0, 9, 12, 19⟩ [] (htab.trans rfl) (fun z hz => absurd hz List.not_mem_nil) (by decide) (by decide) (hts _ qw698) (xodd_args hX.2.2.2 _ (by decide)) hce hcv hcl ?_
      refine lv_astore_n (lv' := [(3, .ref q), (0, .ref (h 0)), (1, .int a1), (2, .ref ho)]) hx hb dL_digitSum_12 rfl hl (by decide) rfl (fun ls hl => ?_)
      refine lv_iconst (v := 1) hx hb dL_digitSum_13 (by decide) ?_
      exact hret _ _ _ _ _ _ _ _ (by decide) (by decide) (Option.some.inj hf) dL_digitSum_14 hw
    replace hf := iq hk hf
    exact nn hf
  · replace hf := se_r hf
    refine xcallV (ws' := (wC g h now snap has hist ent res num col ++ [(ho, .inl (g.2.2.2.1, 1, .inr (.inl arr)))])) (st1 := [.int u4, .int 0, .ref ho]) (n := 35) E hw [.int a1] [0, 1, 2, 3, 4, 5, 6, 7, 8, 9, 10, 11, 12, 13, 14, 15, 16, 17, 18, 19, 20, 21, 22, 23, 24, 25, 26, 27, 28, 29, 30, 31, 32, 33] (met_X10_digitSum l g h now snap has hist ent res num col a1 u4 hv4) rfl (by decide) rfl rfl [35, 36, 37, 38, 39, 40, 41, 42, 43, 44, 45, 46, 47, 48, 49, 50, 51, 52, 53, 54, 55, 56, 57, 58, 59, 60, 61, 62, 63, 64, 65, 66, 67, 68, 34] rfl (by decide +kernel) rfl rfl rfl rfl qw932 k_X10_digitSum ⟨rfl, rfl, Nat.le_of_ble_eq_true rfl, Nat.le_of_ble_eq_true rfl⟩ ⟨Nat.zero_le _, Nat.zero_le _⟩ hl.1 (Nat.le_of_ble_eq_true rfl) dL_digitSum_4 rfl (fun H locs hw => ?_)
    refine lv_i2l hx hb dL_digitSum_7 rfl ?_
    refine xlast (ws' := (wC g h now snap has hist ent res num col ++ [(ho, .inl (g.2.2.2.1, 1, .inr (.inl (vp_updL arr (0 : Int32).toNatClampNeg u4.toInt64))))])) E hw 34 rfl (by decide) dL_digitSum_8 rfl (fun H locs hw => ?_)
    refine lv_goto (tgt := 15) hx hb dL_digitSum_9 (by decide) ?_
    refine lv_iconst (v := 0) hx hb dL_digitSum_15 (by decide) ?_
    exact hret _ _ _ _ _ _ _ _ (by decide) (by decide) (Option.some.inj hf) dL_digitSum_16 hw
theorem k_L_leftByDigits : xKW yL_leftByDigits cL_leftByDigits 4 (some .int) [(0, 9, 12, 19)] 3 := ⟨qw934, qw65, qw935, by decide +kernel, by decide +kernel, by decide +kernel⟩
set_option maxHeartbeats 4000000 in
set_option maxRecDepth 100000 in
theorem met_L_leftByDigits (l : Launch) (hlT : l.stackTraces = false) (g : xG) (h : Nat → Nat) (ho : Nat) (now : SC) (snap : SC) (has : Int32) (hist : HC) (ent : EC) (res : RC) (num : NC) (col : CC) (arr : (Nat → Int64)) (a1 : Int32) (out : Int32 × (Nat → Int64)) (hf : f_L_leftByDigits now arr a1 = some out) : xMW l yL_leftByDigits (xCW yL_leftByDigits cL_leftByDigits 4 (some .int) [(0, 9, 12, 19)]) { frames := 8, cells := 1, slots := 6, locals := 141 } g (wC g h now snap has hist ent res num col ++ [(ho, .inl (g.2.2.2.1, 1, .inr (.inl arr)))]) [.ref (h 0), .int a1, .ref ho] (some (.int out.1)) (wC g h now snap has hist ent res num col ++ [(ho, .inl (g.2.2.2.1, 1, .inr (.inl out.2)))]) := by
  refine xofW (by decide) (Nat.le_of_ble_eq_true rfl) ?_
  intro p e s m below meth c A ls E hr hlocks htab hX hNc hw hl hpost
  have hx := E.1.1
  have hb := E.1.2.1
  have hown := E.1.2.2.2.1
  have hts := E.1.2.2.2.2
  generalize hZ : (MQ below (xPost g (wC g h now snap has hist ent res num col ++ [(ho, .inl (g.2.2.2.1, 1, .inr (.inl arr)))]) (wC g h now snap has hist ent res num col ++ [(ho, .inl (g.2.2.2.1, 1, .inr (.inl out.2)))]) s.heap.size (some (.int out.1))) [.ref (h 0), .int a1, .ref ho].toArray s 1 6 A) = ZZ
  have hret : ∀ (pc : Nat) (H : Heap) (locs : List Loc) (ls : Array Slot) (cells slots : Nat) (v : Int32) (carr : (Nat → Int64)), cells ≤ 1 → slots ≤ 6 → (v, carr) = out → decode cL_leftByDigits pc = .ok (.ireturn, 1) → xW g A s.heap (wC g h now snap has hist ent res num col ++ [(ho, .inl (g.2.2.2.1, 1, .inr (.inl carr)))]) H locs → W p l e { frames := 8, cells := 1, slots := 6, locals := 141 } s m [.ref (h 0), .int a1, .ref ho].toArray below meth c H locs cells slots ZZ (F0 m pc ls [.int v]) := by
    intro pc H locs ls cells slots v carr hc hs he hd hw
    subst he
    rw [← hZ]
    exact W.widen hc hs (W.iret hx hb hr (hpost H locs hw).1 (hpost H locs hw).2 hd hlocks)
  clear hpost
  refine lv_aload_n hx hb dL_leftByDigits_0 rfl (lv_at hl 2 rfl) ?_
  refine lv_iconst (v := 0) hx hb dL_leftByDigits_1 (by decide) ?_
  refine lv_aload_n hx hb dL_leftByDigits_2 rfl (lv_at hl 0 rfl) ?_
  refine lv_iload_n hx hb dL_leftByDigits_3 rfl (lv_at hl 1 rfl) ?_
  obtain ⟨v4, hv4, hf⟩ := ob_e hf
  rcases v4 with t4 | u4
  · replace hf := se_l hf
    refine xcallVX (ws' := (wC g h now snap has hist ent res num col ++ [(ho, .inl (g.2.2.2.1, 1, .inr (.inl arr)))])) (n := 35) E hX hw [.int a1] [0, 1, 2, 3, 4, 5, 6, 7, 8, 9, 10, 11, 12, 13, 14, 15, 16, 17, 18, 19, 20, 21, 22, 23, 24, 25, 26, 27, 28, 29, 30, 31, 32, 33] (metx_X10_leftByDigits l hlT g h now snap has hist ent res num col a1 t4 hv4) rfl (by decide) rfl rfl [35, 36, 37, 38, 39, 40, 41, 42, 43, 44, 45, 46, 47, 48, 49, 50, 51, 52, 53, 54, 55, 56, 57, 58, 59, 60, 61, 62, 63, 64, 65, 66, 67, 68, 34] rfl (by decide +kernel) rfl rfl rfl rfl qw936 k_X10_leftByDigits ⟨rfl, rfl, Nat.le_of_ble_eq_true rfl, Nat.le_of_ble_eq_true rfl⟩ ⟨by decide, by decide⟩ hl.1 (Nat.le_of_ble_eq_true rfl) dL_leftByDigits_4 (fun H locs q ce hw hce hcv hcl => ?_)
    by_cases hk : t4 = 1
    · replace hf := ip hk hf
      have hcl : s.vm.findClass "java/lang/IndexOutOfBoundsException" = some ce.cls := by rw [hk] at hcl; exact hcl
      refine vx_catch (name := "java/lang/IndexOutOfBoundsException") hown [] ⟨0, 9, 12, 19⟩ [] (htab.trans rfl) (fun z hz => absurd hz List.not_mem_nil) (by decide) (by decide) (hts _ qw698) (xodd_args hX.2.2.2 _ (by decide)) hce hcv hcl ?_
      refine lv_astore_n (lv' := [(3, .ref q), (0, .ref (h 0)), (1, .int a1), (2, .ref ho)]) hx hb dL_leftByDigits_12 rfl hl (by decide) rfl (fun ls hl => ?_)
      refine lv_iconst (v := 1) hx hb dL_leftByDigits_13 (by decide) ?_
      exact hret _ _ _ _ _ _ _ _ (by decide) (by decide) (Option.some.inj hf) dL_leftByDigits_14 hw
    replace hf := iq hk hf
    exact nn hf
  · replace hf := se_r hf
    refine xcallV (ws' := (wC g h now snap has hist ent res num col ++ [(ho, .inl (g.2.2.2.1, 1, .inr (.inl arr)))])) (st1 := [.int u4, .int 0, .ref ho]) (n := 35) E hw [.int a1] [0, 1, 2, 3, 4, 5, 6, 7, 8, 9, 10, 11, 12, 13, 14, 15, 16, 17, 18, 19, 20, 21, 22, 23, 24, 25, 26, 27, 28, 29, 30, 31, 32, 33] (met_X10_leftByDigits l g h now snap has hist ent res num col a1 u4 hv4) rfl (by decide) rfl rfl [35, 36, 37, 38, 39, 40, 41, 42, 43, 44, 45, 46, 47, 48, 49, 50, 51, 52, 53, 54, 55, 56, 57, 58, 59, 60, 61, 62, 63, 64, 65, 66, 67, 68, 34] rfl (by decide +kernel) rfl rfl rfl rfl qw936 k_X10_leftByDigits ⟨rfl, rfl, Nat.le_of_ble_eq_true rfl, Nat.le_of_ble_eq_true rfl⟩ ⟨Nat.zero_le _, Nat.zero_le _⟩ hl.1 (Nat.le_of_ble_eq_true rfl) dL_leftByDigits_4 rfl (fun H locs hw => ?_)
    refine lv_i2l hx hb dL_leftByDigits_7 rfl ?_
    refine xlast (ws' := (wC g h now snap has hist ent res num col ++ [(ho, .inl (g.2.2.2.1, 1, .inr (.inl (vp_updL arr (0 : Int32).toNatClampNeg u4.toInt64))))])) E hw 34 rfl (by decide) dL_leftByDigits_8 rfl (fun H locs hw => ?_)
    refine lv_goto (tgt := 15) hx hb dL_leftByDigits_9 (by decide) ?_
    refine lv_iconst (v := 0) hx hb dL_leftByDigits_15 (by decide) ?_
    exact hret _ _ _ _ _ _ _ _ (by decide) (by decide) (Option.some.inj hf) dL_leftByDigits_16 hw
theorem k_L_leftByDividing : xKW yL_leftByDividing cL_leftByDividing 4 (some .int) [(0, 9, 12, 19)] 3 := ⟨qw938, qw65, qw939, by decide +kernel, by decide +kernel, by decide +kernel⟩
set_option maxHeartbeats 4000000 in
set_option maxRecDepth 100000 in
theorem met_L_leftByDividing (l : Launch) (hlT : l.stackTraces = false) (g : xG) (h : Nat → Nat) (ho : Nat) (now : SC) (snap : SC) (has : Int32) (hist : HC) (ent : EC) (res : RC) (num : NC) (col : CC) (arr : (Nat → Int64)) (a1 : Int32) (out : Int32 × (Nat → Int64)) (hf : f_L_leftByDividing now arr a1 = some out) : xMW l yL_leftByDividing (xCW yL_leftByDividing cL_leftByDividing 4 (some .int) [(0, 9, 12, 19)]) { frames := 8, cells := 1, slots := 6, locals := 141 } g (wC g h now snap has hist ent res num col ++ [(ho, .inl (g.2.2.2.1, 1, .inr (.inl arr)))]) [.ref (h 0), .int a1, .ref ho] (some (.int out.1)) (wC g h now snap has hist ent res num col ++ [(ho, .inl (g.2.2.2.1, 1, .inr (.inl out.2)))]) := by
  refine xofW (by decide) (Nat.le_of_ble_eq_true rfl) ?_
  intro p e s m below meth c A ls E hr hlocks htab hX hNc hw hl hpost
  have hx := E.1.1
  have hb := E.1.2.1
  have hown := E.1.2.2.2.1
  have hts := E.1.2.2.2.2
  generalize hZ : (MQ below (xPost g (wC g h now snap has hist ent res num col ++ [(ho, .inl (g.2.2.2.1, 1, .inr (.inl arr)))]) (wC g h now snap has hist ent res num col ++ [(ho, .inl (g.2.2.2.1, 1, .inr (.inl out.2)))]) s.heap.size (some (.int out.1))) [.ref (h 0), .int a1, .ref ho].toArray s 1 6 A) = ZZ
  have hret : ∀ (pc : Nat) (H : Heap) (locs : List Loc) (ls : Array Slot) (cells slots : Nat) (v : Int32) (carr : (Nat → Int64)), cells ≤ 1 → slots ≤ 6 → (v, carr) = out → decode cL_leftByDividing pc = .ok (.ireturn, 1) → xW g A s.heap (wC g h now snap has hist ent res num col ++ [(ho, .inl (g.2.2.2.1, 1, .inr (.inl carr)))]) H locs → W p l e { frames := 8, cells := 1, slots := 6, locals := 141 } s m [.ref (h 0), .int a1, .ref ho].toArray below meth c H locs cells slots ZZ (F0 m pc ls [.int v]) := by
    intro pc H locs ls cells slots v carr hc hs he hd hw
    subst he
    rw [← hZ]
    exact W.widen hc hs (W.iret hx hb hr (hpost H locs hw).1 (hpost H locs hw).2 hd hlocks)
  clear hpost
  refine lv_aload_n hx hb dL_leftByDividing_0 rfl (lv_at hl 2 rfl) ?_
  refine lv_iconst (v := 0) hx hb dL_leftByDividing_1 (by decide) ?_
  refine lv_aload_n hx hb dL_leftByDividing_2 rfl (lv_at hl 0 rfl) ?_
  refine lv_iload_n hx hb dL_leftByDividing_3 rfl (lv_at hl 1 rfl) ?_
  obtain ⟨v4, hv4, hf⟩ := ob_e hf
  rcases v4 with t4 | u4
  · replace hf := se_l hf
    refine xcallVX (ws' := (wC g h now snap has hist ent res num col ++ [(ho, .inl (g.2.2.2.1, 1, .inr (.inl arr)))])) (n := 35) E hX hw [.int a1] [0, 1, 2, 3, 4, 5, 6, 7, 8, 9, 10, 11, 12, 13, 14, 15, 16, 17, 18, 19, 20, 21, 22, 23, 24, 25, 26, 27, 28, 29, 30, 31, 32, 33] (metx_X10_leftByDividing l hlT g h now snap has hist ent res num col a1 t4 hv4) rfl (by decide) rfl rfl [35, 36, 37, 38, 39, 40, 41, 42, 43, 44, 45, 46, 47, 48, 49, 50, 51, 52, 53, 54, 55, 56, 57, 58, 59, 60, 61, 62, 63, 64, 65, 66, 67, 68, 34] rfl (by decide +kernel) rfl rfl rfl rfl qw940 k_X10_leftByDividing ⟨rfl, rfl, Nat.le_of_ble_eq_true rfl, Nat.le_of_ble_eq_true rfl⟩ ⟨by decide, by decide⟩ hl.1 (Nat.le_of_ble_eq_true rfl) dL_leftByDividing_4 (fun H locs q ce hw hce hcv hcl => ?_)
    by_cases hk : t4 = 1
    · replace hf := ip hk hf
      have hcl : s.vm.findClass "java/lang/IndexOutOfBoundsException" = some ce.cls := by rw [hk] at hcl; exact hcl
      refine vx_catch (name := "java/lang/IndexOutOfBoundsException") hown [] ⟨0, 9, 12, 19⟩ [] (htab.trans rfl) (fun z hz => absurd hz List.not_mem_nil) (by decide) (by decide) (hts _ qw698) (xodd_args hX.2.2.2 _ (by decide)) hce hcv hcl ?_
      refine lv_astore_n (lv' := [(3, .ref q), (0, .ref (h 0)), (1, .int a1), (2, .ref ho)]) hx hb dL_leftByDividing_12 rfl hl (by decide) rfl (fun ls hl => ?_)
      refine lv_iconst (v := 1) hx hb dL_leftByDividing_13 (by decide) ?_
      exact hret _ _ _ _ _ _ _ _ (by decide) (by decide) (Option.some.inj hf) dL_leftByDividing_14 hw
    replace hf := iq hk hf
    exact nn hf
  · replace hf := se_r hf
    refine xcallV (ws' := (wC g h now snap has hist ent res num col ++ [(ho, .inl (g.2.2.2.1, 1, .inr (.inl arr)))])) (st1 := [.int u4, .int 0, .ref ho]) (n := 35) E hw [.int a1] [0, 1, 2, 3, 4, 5, 6, 7, 8, 9, 10, 11, 12, 13, 14, 15, 16, 17, 18, 19, 20, 21, 22, 23, 24, 25, 26, 27, 28, 29, 30, 31, 32, 33] (met_X10_leftByDividing l g h now snap has hist ent res num col a1 u4 hv4) rfl (by decide) rfl rfl [35, 36, 37, 38, 39, 40, 41, 42, 43, 44, 45, 46, 47, 48, 49, 50, 51, 52, 53, 54, 55, 56, 57, 58, 59, 60, 61, 62, 63, 64, 65, 66, 67, 68, 34] rfl (by decide +kernel) rfl rfl rfl rfl qw940 k_X10_leftByDividing ⟨rfl, rfl, Nat.le_of_ble_eq_true rfl, Nat.le_of_ble_eq_true rfl⟩ ⟨Nat.zero_le _, Nat.zero_le _⟩ hl.1 (Nat.le_of_ble_eq_true rfl) dL_leftByDividing_4 rfl (fun H locs hw => ?_)
    refine lv_i2l hx hb dL_leftByDividing_7 rfl ?_
    refine xlast (ws' := (wC g h now snap has hist ent res num col ++ [(ho, .inl (g.2.2.2.1, 1, .inr (.inl (vp_updL arr (0 : Int32).toNatClampNeg u4.toInt64))))])) E hw 34 rfl (by decide) dL_leftByDividing_8 rfl (fun H locs hw => ?_)
    refine lv_goto (tgt := 15) hx hb dL_leftByDividing_9 (by decide) ?_
    refine lv_iconst (v := 0) hx hb dL_leftByDividing_15 (by decide) ?_
    exact hret _ _ _ _ _ _ _ _ (by decide) (by decide) (Option.some.inj hf) dL_leftByDividing_16 hw
theorem k_L_headLength : xKW yL_headLength cL_headLength 4 (some .int) [(0, 9, 12, 19)] 3 := ⟨qw942, qw65, qw943, by decide +kernel, by decide +kernel, by decide +kernel⟩
set_option maxHeartbeats 4000000 in
set_option maxRecDepth 100000 in
theorem met_L_headLength (l : Launch) (hlT : l.stackTraces = false) (g : xG) (h : Nat → Nat) (ho : Nat) (now : SC) (snap : SC) (has : Int32) (hist : HC) (ent : EC) (res : RC) (num : NC) (col : CC) (arr : (Nat → Int64)) (a1 : Int32) (out : Int32 × (Nat → Int64)) (hf : f_L_headLength now arr a1 = some out) : xMW l yL_headLength (xCW yL_headLength cL_headLength 4 (some .int) [(0, 9, 12, 19)]) { frames := 8, cells := 1, slots := 6, locals := 141 } g (wC g h now snap has hist ent res num col ++ [(ho, .inl (g.2.2.2.1, 1, .inr (.inl arr)))]) [.ref (h 0), .int a1, .ref ho] (some (.int out.1)) (wC g h now snap has hist ent res num col ++ [(ho, .inl (g.2.2.2.1, 1, .inr (.inl out.2)))]) := by
  refine xofW (by decide) (Nat.le_of_ble_eq_true rfl) ?_
  intro p e s m below meth c A ls E hr hlocks htab hX hNc hw hl hpost
  have hx := E.1.1
  have hb := E.1.2.1
  have hown := E.1.2.2.2.1
  have hts := E.1.2.2.2.2
  generalize hZ : (MQ below (xPost g (wC g h now snap has hist ent res num col ++ [(ho, .inl (g.2.2.2.1, 1, .inr (.inl arr)))]) (wC g h now snap has hist ent res num col ++ [(ho, .inl (g.2.2.2.1, 1, .inr (.inl out.2)))]) s.heap.size (some (.int out.1))) [.ref (h 0), .int a1, .ref ho].toArray s 1 6 A) = ZZ
  have hret : ∀ (pc : Nat) (H : Heap) (locs : List Loc) (ls : Array Slot) (cells slots : Nat) (v : Int32) (carr : (Nat → Int64)), cells ≤ 1 → slots ≤ 6 → (v, carr) = out → decode cL_headLength pc = .ok (.ireturn, 1) → xW g A s.heap (wC g h now snap has hist ent res num col ++ [(ho, .inl (g.2.2.2.1, 1, .inr (.inl carr)))]) H locs → W p l e { frames := 8, cells := 1, slots := 6, locals := 141 } s m [.ref (h 0), .int a1, .ref ho].toArray below meth c H locs cells slots ZZ (F0 m pc ls [.int v]) := by
    intro pc H locs ls cells slots v carr hc hs he hd hw
    subst he
    rw [← hZ]
    exact W.widen hc hs (W.iret hx hb hr (hpost H locs hw).1 (hpost H locs hw).2 hd hlocks)
  clear hpost
  refine lv_aload_n hx hb dL_headLength_0 rfl (lv_at hl 2 rfl) ?_
  refine lv_iconst (v := 0) hx hb dL_headLength_1 (by decide) ?_
  refine lv_aload_n hx hb dL_headLength_2 rfl (lv_at hl 0 rfl) ?_
  refine lv_iload_n hx hb dL_headLength_3 rfl (lv_at hl 1 rfl) ?_
  obtain ⟨v4, hv4, hf⟩ := ob_e hf
  rcases v4 with t4 | u4
  · replace hf := se_l hf
    refine xcallVX (ws' := (wC g h now snap has hist ent res num col ++ [(ho, .inl (g.2.2.2.1, 1, .inr (.inl arr)))])) (n := 35) E hX hw [.int a1] [0, 1, 2, 3, 4, 5, 6, 7, 8, 9, 10, 11, 12, 13, 14, 15, 16, 17, 18, 19, 20, 21, 22, 23, 24, 25, 26, 27, 28, 29, 30, 31, 32, 33] (metx_X10_headLength l hlT g h now snap has hist ent res num col a1 t4 hv4) rfl (by decide) rfl rfl [35, 36, 37, 38, 39, 40, 41, 42, 43, 44, 45, 46, 47, 48, 49, 50, 51, 52, 53, 54, 55, 56, 57, 58, 59, 60, 61, 62, 63, 64, 65, 66, 67, 68, 34] rfl (by decide +kernel) rfl rfl rfl rfl qw944 k_X10_headLength ⟨rfl, rfl, Nat.le_of_ble_eq_true rfl, Nat.le_of_ble_eq_true rfl⟩ ⟨by decide, by decide⟩ hl.1 (Nat.le_of_ble_eq_true rfl) dL_headLength_4 (fun H locs q ce hw hce hcv hcl => ?_)
    by_cases hk : t4 = 1
    · replace hf := ip hk hf
      have hcl : s.vm.findClass "java/lang/IndexOutOfBoundsException" = some ce.cls := by rw [hk] at hcl; exact hcl
      refine vx_catch (name := "java/lang/IndexOutOfBoundsException") hown [] ⟨0, 9, 12, 19⟩ [] (htab.trans rfl) (fun z hz => absurd hz List.not_mem_nil) (by decide) (by decide) (hts _ qw698) (xodd_args hX.2.2.2 _ (by decide)) hce hcv hcl ?_
      refine lv_astore_n (lv' := [(3, .ref q), (0, .ref (h 0)), (1, .int a1), (2, .ref ho)]) hx hb dL_headLength_12 rfl hl (by decide) rfl (fun ls hl => ?_)
      refine lv_iconst (v := 1) hx hb dL_headLength_13 (by decide) ?_
      exact hret _ _ _ _ _ _ _ _ (by decide) (by decide) (Option.some.inj hf) dL_headLength_14 hw
    replace hf := iq hk hf
    exact nn hf
  · replace hf := se_r hf
    refine xcallV (ws' := (wC g h now snap has hist ent res num col ++ [(ho, .inl (g.2.2.2.1, 1, .inr (.inl arr)))])) (st1 := [.int u4, .int 0, .ref ho]) (n := 35) E hw [.int a1] [0, 1, 2, 3, 4, 5, 6, 7, 8, 9, 10, 11, 12, 13, 14, 15, 16, 17, 18, 19, 20, 21, 22, 23, 24, 25, 26, 27, 28, 29, 30, 31, 32, 33] (met_X10_headLength l g h now snap has hist ent res num col a1 u4 hv4) rfl (by decide) rfl rfl [35, 36, 37, 38, 39, 40, 41, 42, 43, 44, 45, 46, 47, 48, 49, 50, 51, 52, 53, 54, 55, 56, 57, 58, 59, 60, 61, 62, 63, 64, 65, 66, 67, 68, 34] rfl (by decide +kernel) rfl rfl rfl rfl qw944 k_X10_headLength ⟨rfl, rfl, Nat.le_of_ble_eq_true rfl, Nat.le_of_ble_eq_true rfl⟩ ⟨Nat.zero_le _, Nat.zero_le _⟩ hl.1 (Nat.le_of_ble_eq_true rfl) dL_headLength_4 rfl (fun H locs hw => ?_)
    refine lv_i2l hx hb dL_headLength_7 rfl ?_
    refine xlast (ws' := (wC g h now snap has hist ent res num col ++ [(ho, .inl (g.2.2.2.1, 1, .inr (.inl (vp_updL arr (0 : Int32).toNatClampNeg u4.toInt64))))])) E hw 34 rfl (by decide) dL_headLength_8 rfl (fun H locs hw => ?_)
    refine lv_goto (tgt := 15) hx hb dL_headLength_9 (by decide) ?_
    refine lv_iconst (v := 0) hx hb dL_headLength_15 (by decide) ?_
    exact hret _ _ _ _ _ _ _ _ (by decide) (by decide) (Option.some.inj hf) dL_headLength_16 hw
theorem k_L_periodLength : xKW yL_periodLength cL_periodLength 4 (some .int) [(0, 9, 12, 19)] 3 := ⟨qw946, qw65, qw947, by decide +kernel, by decide +kernel, by decide +kernel⟩
set_option maxHeartbeats 4000000 in
set_option maxRecDepth 100000 in
theorem met_L_periodLength (l : Launch) (hlT : l.stackTraces = false) (g : xG) (h : Nat → Nat) (ho : Nat) (now : SC) (snap : SC) (has : Int32) (hist : HC) (ent : EC) (res : RC) (num : NC) (col : CC) (arr : (Nat → Int64)) (a1 : Int32) (out : Int32 × (Nat → Int64)) (hf : f_L_periodLength now arr a1 = some out) : xMW l yL_periodLength (xCW yL_periodLength cL_periodLength 4 (some .int) [(0, 9, 12, 19)]) { frames := 8, cells := 1, slots := 6, locals := 143 } g (wC g h now snap has hist ent res num col ++ [(ho, .inl (g.2.2.2.1, 1, .inr (.inl arr)))]) [.ref (h 0), .int a1, .ref ho] (some (.int out.1)) (wC g h now snap has hist ent res num col ++ [(ho, .inl (g.2.2.2.1, 1, .inr (.inl out.2)))]) := by
  refine xofW (by decide) (Nat.le_of_ble_eq_true rfl) ?_
  intro p e s m below meth c A ls E hr hlocks htab hX hNc hw hl hpost
  have hx := E.1.1
  have hb := E.1.2.1
  have hown := E.1.2.2.2.1
  have hts := E.1.2.2.2.2
  generalize hZ : (MQ below (xPost g (wC g h now snap has hist ent res num col ++ [(ho, .inl (g.2.2.2.1, 1, .inr (.inl arr)))]) (wC g h now snap has hist ent res num col ++ [(ho, .inl (g.2.2.2.1, 1, .inr (.inl out.2)))]) s.heap.size (some (.int out.1))) [.ref (h 0), .int a1, .ref ho].toArray s 1 6 A) = ZZ
  have hret : ∀ (pc : Nat) (H : Heap) (locs : List Loc) (ls : Array Slot) (cells slots : Nat) (v : Int32) (carr : (Nat → Int64)), cells ≤ 1 → slots ≤ 6 → (v, carr) = out → decode cL_periodLength pc = .ok (.ireturn, 1) → xW g A s.heap (wC g h now snap has hist ent res num col ++ [(ho, .inl (g.2.2.2.1, 1, .inr (.inl carr)))]) H locs → W p l e { frames := 8, cells := 1, slots := 6, locals := 143 } s m [.ref (h 0), .int a1, .ref ho].toArray below meth c H locs cells slots ZZ (F0 m pc ls [.int v]) := by
    intro pc H locs ls cells slots v carr hc hs he hd hw
    subst he
    rw [← hZ]
    exact W.widen hc hs (W.iret hx hb hr (hpost H locs hw).1 (hpost H locs hw).2 hd hlocks)
  clear hpost
  refine lv_aload_n hx hb dL_periodLength_0 rfl (lv_at hl 2 rfl) ?_
  refine lv_iconst (v := 0) hx hb dL_periodLength_1 (by decide) ?_
  refine lv_aload_n hx hb dL_periodLength_2 rfl (lv_at hl 0 rfl) ?_
  refine lv_iload_n hx hb dL_periodLength_3 rfl (lv_at hl 1 rfl) ?_
  obtain ⟨v4, hv4, hf⟩ := ob_e hf
  rcases v4 with t4 | u4
  · replace hf := se_l hf
    refine xcallVX (ws' := (wC g h now snap has hist ent res num col ++ [(ho, .inl (g.2.2.2.1, 1, .inr (.inl arr)))])) (n := 35) E hX hw [.int a1] [0, 1, 2, 3, 4, 5, 6, 7, 8, 9, 10, 11, 12, 13, 14, 15, 16, 17, 18, 19, 20, 21, 22, 23, 24, 25, 26, 27, 28, 29, 30, 31, 32, 33] (metx_X10_periodLength l hlT g h now snap has hist ent res num col a1 t4 hv4) rfl (by decide) rfl rfl [35, 36, 37, 38, 39, 40, 41, 42, 43, 44, 45, 46, 47, 48, 49, 50, 51, 52, 53, 54, 55, 56, 57, 58, 59, 60, 61, 62, 63, 64, 65, 66, 67, 68, 34] rfl (by decide +kernel) rfl rfl rfl rfl qw948 k_X10_periodLength ⟨rfl, rfl, Nat.le_of_ble_eq_true rfl, Nat.le_of_ble_eq_true rfl⟩ ⟨by decide, by decide⟩ hl.1 (Nat.le_of_ble_eq_true rfl) dL_periodLength_4 (fun H locs q ce hw hce hcv hcl => ?_)
    by_cases hk : t4 = 1
    · replace hf := ip hk hf
      have hcl : s.vm.findClass "java/lang/IndexOutOfBoundsException" = some ce.cls := by rw [hk] at hcl; exact hcl
      refine vx_catch (name := "java/lang/IndexOutOfBoundsException") hown [] ⟨0, 9, 12, 19⟩ [] (htab.trans rfl) (fun z hz => absurd hz List.not_mem_nil) (by decide) (by decide) (hts _ qw698) (xodd_args hX.2.2.2 _ (by decide)) hce hcv hcl ?_
      refine lv_astore_n (lv' := [(3, .ref q), (0, .ref (h 0)), (1, .int a1), (2, .ref ho)]) hx hb dL_periodLength_12 rfl hl (by decide) rfl (fun ls hl => ?_)
      refine lv_iconst (v := 1) hx hb dL_periodLength_13 (by decide) ?_
      exact hret _ _ _ _ _ _ _ _ (by decide) (by decide) (Option.some.inj hf) dL_periodLength_14 hw
    replace hf := iq hk hf
    exact nn hf
  · replace hf := se_r hf
    refine xcallV (ws' := (wC g h now snap has hist ent res num col ++ [(ho, .inl (g.2.2.2.1, 1, .inr (.inl arr)))])) (st1 := [.int u4, .int 0, .ref ho]) (n := 35) E hw [.int a1] [0, 1, 2, 3, 4, 5, 6, 7, 8, 9, 10, 11, 12, 13, 14, 15, 16, 17, 18, 19, 20, 21, 22, 23, 24, 25, 26, 27, 28, 29, 30, 31, 32, 33] (met_X10_periodLength l g h now snap has hist ent res num col a1 u4 hv4) rfl (by decide) rfl rfl [35, 36, 37, 38, 39, 40, 41, 42, 43, 44, 45, 46, 47, 48, 49, 50, 51, 52, 53, 54, 55, 56, 57, 58, 59, 60, 61, 62, 63, 64, 65, 66, 67, 68, 34] rfl (by decide +kernel) rfl rfl rfl rfl qw948 k_X10_periodLength ⟨rfl, rfl, Nat.le_of_ble_eq_true rfl, Nat.le_of_ble_eq_true rfl⟩ ⟨Nat.zero_le _, Nat.zero_le _⟩ hl.1 (Nat.le_of_ble_eq_true rfl) dL_periodLength_4 rfl (fun H locs hw => ?_)
    refine lv_i2l hx hb dL_periodLength_7 rfl ?_
    refine xlast (ws' := (wC g h now snap has hist ent res num col ++ [(ho, .inl (g.2.2.2.1, 1, .inr (.inl (vp_updL arr (0 : Int32).toNatClampNeg u4.toInt64))))])) E hw 34 rfl (by decide) dL_periodLength_8 rfl (fun H locs hw => ?_)
    refine lv_goto (tgt := 15) hx hb dL_periodLength_9 (by decide) ?_
    refine lv_iconst (v := 0) hx hb dL_periodLength_15 (by decide) ?_
    exact hret _ _ _ _ _ _ _ _ (by decide) (by decide) (Option.some.inj hf) dL_periodLength_16 hw
theorem k_L_periodByOrder : xKW yL_periodByOrder cL_periodByOrder 4 (some .int) [(0, 9, 12, 19)] 3 := ⟨qw950, qw65, qw951, by decide +kernel, by decide +kernel, by decide +kernel⟩
set_option maxHeartbeats 4000000 in
set_option maxRecDepth 100000 in
theorem met_L_periodByOrder (l : Launch) (hlT : l.stackTraces = false) (g : xG) (h : Nat → Nat) (ho : Nat) (now : SC) (snap : SC) (has : Int32) (hist : HC) (ent : EC) (res : RC) (num : NC) (col : CC) (arr : (Nat → Int64)) (a1 : Int32) (out : Int32 × (Nat → Int64)) (hf : f_L_periodByOrder now arr a1 = some out) : xMW l yL_periodByOrder (xCW yL_periodByOrder cL_periodByOrder 4 (some .int) [(0, 9, 12, 19)]) { frames := 8, cells := 1, slots := 6, locals := 143 } g (wC g h now snap has hist ent res num col ++ [(ho, .inl (g.2.2.2.1, 1, .inr (.inl arr)))]) [.ref (h 0), .int a1, .ref ho] (some (.int out.1)) (wC g h now snap has hist ent res num col ++ [(ho, .inl (g.2.2.2.1, 1, .inr (.inl out.2)))]) := by
  refine xofW (by decide) (Nat.le_of_ble_eq_true rfl) ?_
  intro p e s m below meth c A ls E hr hlocks htab hX hNc hw hl hpost
  have hx := E.1.1
  have hb := E.1.2.1
  have hown := E.1.2.2.2.1
  have hts := E.1.2.2.2.2
  generalize hZ : (MQ below (xPost g (wC g h now snap has hist ent res num col ++ [(ho, .inl (g.2.2.2.1, 1, .inr (.inl arr)))]) (wC g h now snap has hist ent res num col ++ [(ho, .inl (g.2.2.2.1, 1, .inr (.inl out.2)))]) s.heap.size (some (.int out.1))) [.ref (h 0), .int a1, .ref ho].toArray s 1 6 A) = ZZ
  have hret : ∀ (pc : Nat) (H : Heap) (locs : List Loc) (ls : Array Slot) (cells slots : Nat) (v : Int32) (carr : (Nat → Int64)), cells ≤ 1 → slots ≤ 6 → (v, carr) = out → decode cL_periodByOrder pc = .ok (.ireturn, 1) → xW g A s.heap (wC g h now snap has hist ent res num col ++ [(ho, .inl (g.2.2.2.1, 1, .inr (.inl carr)))]) H locs → W p l e { frames := 8, cells := 1, slots := 6, locals := 143 } s m [.ref (h 0), .int a1, .ref ho].toArray below meth c H locs cells slots ZZ (F0 m pc ls [.int v]) := by
    intro pc H locs ls cells slots v carr hc hs he hd hw
    subst he
    rw [← hZ]
    exact W.widen hc hs (W.iret hx hb hr (hpost H locs hw).1 (hpost H locs hw).2 hd hlocks)
  clear hpost
  refine lv_aload_n hx hb dL_periodByOrder_0 rfl (lv_at hl 2 rfl) ?_
  refine lv_iconst (v := 0) hx hb dL_periodByOrder_1 (by decide) ?_
  refine lv_aload_n hx hb dL_periodByOrder_2 rfl (lv_at hl 0 rfl) ?_
  refine lv_iload_n hx hb dL_periodByOrder_3 rfl (lv_at hl 1 rfl) ?_
  obtain ⟨v4, hv4, hf⟩ := ob_e hf
  rcases v4 with t4 | u4
  · replace hf := se_l hf
    refine xcallVX (ws' := (wC g h now snap has hist ent res num col ++ [(ho, .inl (g.2.2.2.1, 1, .inr (.inl arr)))])) (n := 35) E hX hw [.int a1] [0, 1, 2, 3, 4, 5, 6, 7, 8, 9, 10, 11, 12, 13, 14, 15, 16, 17, 18, 19, 20, 21, 22, 23, 24, 25, 26, 27, 28, 29, 30, 31, 32, 33] (metx_X10_periodByOrder l hlT g h now snap has hist ent res num col a1 t4 hv4) rfl (by decide) rfl rfl [35, 36, 37, 38, 39, 40, 41, 42, 43, 44, 45, 46, 47, 48, 49, 50, 51, 52, 53, 54, 55, 56, 57, 58, 59, 60, 61, 62, 63, 64, 65, 66, 67, 68, 34] rfl (by decide +kernel) rfl rfl rfl rfl qw952 k_X10_periodByOrder ⟨rfl, rfl, Nat.le_of_ble_eq_true rfl, Nat.le_of_ble_eq_true rfl⟩ ⟨by decide, by decide⟩ hl.1 (Nat.le_of_ble_eq_true rfl) dL_periodByOrder_4 (fun H locs q ce hw hce hcv hcl => ?_)
    by_cases hk : t4 = 1
    · replace hf := ip hk hf
      have hcl : s.vm.findClass "java/lang/IndexOutOfBoundsException" = some ce.cls := by rw [hk] at hcl; exact hcl
      refine vx_catch (name := "java/lang/IndexOutOfBoundsException") hown [] ⟨0, 9, 12, 19⟩ [] (htab.trans rfl) (fun z hz => absurd hz List.not_mem_nil) (by decide) (by decide) (hts _ qw698) (xodd_args hX.2.2.2 _ (by decide)) hce hcv hcl ?_
      refine lv_astore_n (lv' := [(3, .ref q), (0, .ref (h 0)), (1, .int a1), (2, .ref ho)]) hx hb dL_periodByOrder_12 rfl hl (by decide) rfl (fun ls hl => ?_)
      refine lv_iconst (v := 1) hx hb dL_periodByOrder_13 (by decide) ?_
      exact hret _ _ _ _ _ _ _ _ (by decide) (by decide) (Option.some.inj hf) dL_periodByOrder_14 hw
    replace hf := iq hk hf
    exact nn hf
  · replace hf := se_r hf
    refine xcallV (ws' := (wC g h now snap has hist ent res num col ++ [(ho, .inl (g.2.2.2.1, 1, .inr (.inl arr)))])) (st1 := [.int u4, .int 0, .ref ho]) (n := 35) E hw [.int a1] [0, 1, 2, 3, 4, 5, 6, 7, 8, 9, 10, 11, 12, 13, 14, 15, 16, 17, 18, 19, 20, 21, 22, 23, 24, 25, 26, 27, 28, 29, 30, 31, 32, 33] (met_X10_periodByOrder l g h now snap has hist ent res num col a1 u4 hv4) rfl (by decide) rfl rfl [35, 36, 37, 38, 39, 40, 41, 42, 43, 44, 45, 46, 47, 48, 49, 50, 51, 52, 53, 54, 55, 56, 57, 58, 59, 60, 61, 62, 63, 64, 65, 66, 67, 68, 34] rfl (by decide +kernel) rfl rfl rfl rfl qw952 k_X10_periodByOrder ⟨rfl, rfl, Nat.le_of_ble_eq_true rfl, Nat.le_of_ble_eq_true rfl⟩ ⟨Nat.zero_le _, Nat.zero_le _⟩ hl.1 (Nat.le_of_ble_eq_true rfl) dL_periodByOrder_4 rfl (fun H locs hw => ?_)
    refine lv_i2l hx hb dL_periodByOrder_7 rfl ?_
    refine xlast (ws' := (wC g h now snap has hist ent res num col ++ [(ho, .inl (g.2.2.2.1, 1, .inr (.inl (vp_updL arr (0 : Int32).toNatClampNeg u4.toInt64))))])) E hw 34 rfl (by decide) dL_periodByOrder_8 rfl (fun H locs hw => ?_)
    refine lv_goto (tgt := 15) hx hb dL_periodByOrder_9 (by decide) ?_
    refine lv_iconst (v := 0) hx hb dL_periodByOrder_15 (by decide) ?_
    exact hret _ _ _ _ _ _ _ _ (by decide) (by decide) (Option.some.inj hf) dL_periodByOrder_16 hw
theorem k_L_digitBehind : xKW yL_digitBehind cL_digitBehind 5 (some .int) [(0, 10, 13, 19), (0, 10, 17, 13)] 4 := ⟨qw954, qw65, qw955, by decide +kernel, by decide +kernel, by decide +kernel⟩
set_option maxHeartbeats 4000000 in
set_option maxRecDepth 100000 in
theorem met_L_digitBehind (l : Launch) (hlT : l.stackTraces = false) (g : xG) (h : Nat → Nat) (ho : Nat) (now : SC) (snap : SC) (has : Int32) (hist : HC) (ent : EC) (res : RC) (num : NC) (col : CC) (arr : (Nat → Int64)) (a1 : Int32) (a2 : Int32) (out : Int32 × (Nat → Int64)) (hf : f_L_digitBehind now arr a1 a2 = some out) : xMW l yL_digitBehind (xCW yL_digitBehind cL_digitBehind 5 (some .int) [(0, 10, 13, 19), (0, 10, 17, 13)]) { frames := 8, cells := 1, slots := 6, locals := 142 } g (wC g h now snap has hist ent res num col ++ [(ho, .inl (g.2.2.2.1, 1, .inr (.inl arr)))]) [.ref (h 0), .int a1, .int a2, .ref ho] (some (.int out.1)) (wC g h now snap has hist ent res num col ++ [(ho, .inl (g.2.2.2.1, 1, .inr (.inl out.2)))]) := by
  refine xofW (by decide) (Nat.le_of_ble_eq_true rfl) ?_
  intro p e s m below meth c A ls E hr hlocks htab hX hNc hw hl hpost
  have hx := E.1.1
  have hb := E.1.2.1
  have hown := E.1.2.2.2.1
  have hts := E.1.2.2.2.2
  generalize hZ : (MQ below (xPost g (wC g h now snap has hist ent res num col ++ [(ho, .inl (g.2.2.2.1, 1, .inr (.inl arr)))]) (wC g h now snap has hist ent res num col ++ [(ho, .inl (g.2.2.2.1, 1, .inr (.inl out.2)))]) s.heap.size (some (.int out.1))) [.ref (h 0), .int a1, .int a2, .ref ho].toArray s 1 6 A) = ZZ
  have hret : ∀ (pc : Nat) (H : Heap) (locs : List Loc) (ls : Array Slot) (cells slots : Nat) (v : Int32) (carr : (Nat → Int64)), cells ≤ 1 → slots ≤ 6 → (v, carr) = out → decode cL_digitBehind pc = .ok (.ireturn, 1) → xW g A s.heap (wC g h now snap has hist ent res num col ++ [(ho, .inl (g.2.2.2.1, 1, .inr (.inl carr)))]) H locs → W p l e { frames := 8, cells := 1, slots := 6, locals := 142 } s m [.ref (h 0), .int a1, .int a2, .ref ho].toArray below meth c H locs cells slots ZZ (F0 m pc ls [.int v]) := by
    intro pc H locs ls cells slots v carr hc hs he hd hw
    subst he
    rw [← hZ]
    exact W.widen hc hs (W.iret hx hb hr (hpost H locs hw).1 (hpost H locs hw).2 hd hlocks)
  clear hpost
  refine lv_aload_n hx hb dL_digitBehind_0 rfl (lv_at hl 3 rfl) ?_
  refine lv_iconst (v := 0) hx hb dL_digitBehind_1 (by decide) ?_
  refine lv_aload_n hx hb dL_digitBehind_2 rfl (lv_at hl 0 rfl) ?_
  refine lv_iload_n hx hb dL_digitBehind_3 rfl (lv_at hl 1 rfl) ?_
  refine lv_iload_n hx hb dL_digitBehind_4 rfl (lv_at hl 2 rfl) ?_
  obtain ⟨v5, hv5, hf⟩ := ob_e hf
  rcases v5 with t5 | u5
  · replace hf := se_l hf
    refine xcallVX (ws' := (wC g h now snap has hist ent res num col ++ [(ho, .inl (g.2.2.2.1, 1, .inr (.inl arr)))])) (n := 35) E hX hw [.int a1, .int a2] [0, 1, 2, 3, 4, 5, 6, 7, 8, 9, 10, 11, 12, 13, 14, 15, 16, 17, 18, 19, 20, 21, 22, 23, 24, 25, 26, 27, 28, 29, 30, 31, 32, 33] (metx_X10_digitBehind l hlT g h now snap has hist ent res num col a1 a2 t5 hv5) rfl (by decide) rfl rfl [35, 36, 37, 38, 39, 40, 41, 42, 43, 44, 45, 46, 47, 48, 49, 50, 51, 52, 53, 54, 55, 56, 57, 58, 59, 60, 61, 62, 63, 64, 65, 66, 67, 68, 34] rfl (by decide +kernel) rfl rfl rfl rfl qw956 k_X10_digitBehind ⟨rfl, rfl, Nat.le_of_ble_eq_true rfl, Nat.le_of_ble_eq_true rfl⟩ ⟨by decide, by decide⟩ hl.1 (Nat.le_of_ble_eq_true rfl) dL_digitBehind_5 (fun H locs q ce hw hce hcv hcl => ?_)
    by_cases hk : t5 = 1
    · replace hf := ip hk hf
      have hcl : s.vm.findClass "java/lang/IndexOutOfBoundsException" = some ce.cls := by rw [hk] at hcl; exact hcl
      refine vx_catch (name := "java/lang/IndexOutOfBoundsException") hown [] ⟨0, 10, 13, 19⟩ [⟨0, 10, 17, 13⟩] (htab.trans rfl) (fun z hz => absurd hz List.not_mem_nil) (by decide) (by decide) (hts _ qw698) (xodd_args hX.2.2.2 _ (by decide)) hce hcv hcl ?_
      refine lv_astore (lv' := [(4, .ref q), (0, .ref (h 0)), (1, .int a1), (2, .int a2), (3, .ref ho)]) hx hb dL_digitBehind_13 hl (by decide) rfl (fun ls hl => ?_)
      refine lv_iconst (v := 1) hx hb dL_digitBehind_15 (by decide) ?_
      exact hret _ _ _ _ _ _ _ _ (by decide) (by decide) (Option.some.inj hf) dL_digitBehind_16 hw
    replace hf := iq hk hf
    by_cases hk : t5 = 2
    · replace hf := ip hk hf
      have hcl : s.vm.findClass "java/lang/IllegalArgumentException" = some ce.cls := by rw [hk] at hcl; exact hcl
      refine vx_catch (name := "java/lang/IllegalArgumentException") hown [⟨0, 10, 13, 19⟩] ⟨0, 10, 17, 13⟩ [] (htab.trans rfl) (fun z hz => by rw [List.mem_singleton.mp hz]; exact Or.inr ⟨by decide, "java/lang/IndexOutOfBoundsException", hts _ qw698, hNc.1⟩) (by decide) (by decide) (hts _ qw682) (xodd_args hX.2.2.2 _ (by decide)) hce hcv hcl ?_
      refine lv_astore (lv' := [(4, .ref q), (0, .ref (h 0)), (1, .int a1), (2, .int a2), (3, .ref ho)]) hx hb dL_digitBehind_17 hl (by decide) rfl (fun ls hl => ?_)
      refine lv_iconst (v := 2) hx hb dL_digitBehind_19 (by decide) ?_
      exact hret _ _ _ _ _ _ _ _ (by decide) (by decide) (Option.some.inj hf) dL_digitBehind_20 hw
    replace hf := iq hk hf
    exact nn hf
  · replace hf := se_r hf
    refine xcallV (ws' := (wC g h now snap has hist ent res num col ++ [(ho, .inl (g.2.2.2.1, 1, .inr (.inl arr)))])) (st1 := [.int u5, .int 0, .ref ho]) (n := 35) E hw [.int a1, .int a2] [0, 1, 2, 3, 4, 5, 6, 7, 8, 9, 10, 11, 12, 13, 14, 15, 16, 17, 18, 19, 20, 21, 22, 23, 24, 25, 26, 27, 28, 29, 30, 31, 32, 33] (met_X10_digitBehind l g h now snap has hist ent res num col a1 a2 u5 hv5) rfl (by decide) rfl rfl [35, 36, 37, 38, 39, 40, 41, 42, 43, 44, 45, 46, 47, 48, 49, 50, 51, 52, 53, 54, 55, 56, 57, 58, 59, 60, 61, 62, 63, 64, 65, 66, 67, 68, 34] rfl (by decide +kernel) rfl rfl rfl rfl qw956 k_X10_digitBehind ⟨rfl, rfl, Nat.le_of_ble_eq_true rfl, Nat.le_of_ble_eq_true rfl⟩ ⟨Nat.zero_le _, Nat.zero_le _⟩ hl.1 (Nat.le_of_ble_eq_true rfl) dL_digitBehind_5 rfl (fun H locs hw => ?_)
    refine lv_i2l hx hb dL_digitBehind_8 rfl ?_
    refine xlast (ws' := (wC g h now snap has hist ent res num col ++ [(ho, .inl (g.2.2.2.1, 1, .inr (.inl (vp_updL arr (0 : Int32).toNatClampNeg u5.toInt64))))])) E hw 34 rfl (by decide) dL_digitBehind_9 rfl (fun H locs hw => ?_)
    refine lv_goto (tgt := 21) hx hb dL_digitBehind_10 (by decide) ?_
    refine lv_iconst (v := 0) hx hb dL_digitBehind_21 (by decide) ?_
    exact hret _ _ _ _ _ _ _ _ (by decide) (by decide) (Option.some.inj hf) dL_digitBehind_22 hw
theorem k_L_shortestBase : xKW yL_shortestBase cL_shortestBase 4 (some .int) [(0, 9, 12, 19)] 3 := ⟨qw958, qw65, qw959, by decide +kernel, by decide +kernel, by decide +kernel⟩
set_option maxHeartbeats 4000000 in
set_option maxRecDepth 100000 in
theorem met_L_shortestBase (l : Launch) (hlT : l.stackTraces = false) (g : xG) (h : Nat → Nat) (ho : Nat) (now : SC) (snap : SC) (has : Int32) (hist : HC) (ent : EC) (res : RC) (num : NC) (col : CC) (arr : (Nat → Int64)) (a1 : Int32) (out : Int32 × (Nat → Int64)) (hf : f_L_shortestBase now arr a1 = some out) : xMW l yL_shortestBase (xCW yL_shortestBase cL_shortestBase 4 (some .int) [(0, 9, 12, 19)]) { frames := 8, cells := 1, slots := 6, locals := 147 } g (wC g h now snap has hist ent res num col ++ [(ho, .inl (g.2.2.2.1, 1, .inr (.inl arr)))]) [.ref (h 0), .int a1, .ref ho] (some (.int out.1)) (wC g h now snap has hist ent res num col ++ [(ho, .inl (g.2.2.2.1, 1, .inr (.inl out.2)))]) := by
  refine xofW (by decide) (Nat.le_of_ble_eq_true rfl) ?_
  intro p e s m below meth c A ls E hr hlocks htab hX hNc hw hl hpost
  have hx := E.1.1
  have hb := E.1.2.1
  have hown := E.1.2.2.2.1
  have hts := E.1.2.2.2.2
  generalize hZ : (MQ below (xPost g (wC g h now snap has hist ent res num col ++ [(ho, .inl (g.2.2.2.1, 1, .inr (.inl arr)))]) (wC g h now snap has hist ent res num col ++ [(ho, .inl (g.2.2.2.1, 1, .inr (.inl out.2)))]) s.heap.size (some (.int out.1))) [.ref (h 0), .int a1, .ref ho].toArray s 1 6 A) = ZZ
  have hret : ∀ (pc : Nat) (H : Heap) (locs : List Loc) (ls : Array Slot) (cells slots : Nat) (v : Int32) (carr : (Nat → Int64)), cells ≤ 1 → slots ≤ 6 → (v, carr) = out → decode cL_shortestBase pc = .ok (.ireturn, 1) → xW g A s.heap (wC g h now snap has hist ent res num col ++ [(ho, .inl (g.2.2.2.1, 1, .inr (.inl carr)))]) H locs → W p l e { frames := 8, cells := 1, slots := 6, locals := 147 } s m [.ref (h 0), .int a1, .ref ho].toArray below meth c H locs cells slots ZZ (F0 m pc ls [.int v]) := by
    intro pc H locs ls cells slots v carr hc hs he hd hw
    subst he
    rw [← hZ]
    exact W.widen hc hs (W.iret hx hb hr (hpost H locs hw).1 (hpost H locs hw).2 hd hlocks)
  clear hpost
  refine lv_aload_n hx hb dL_shortestBase_0 rfl (lv_at hl 2 rfl) ?_
  refine lv_iconst (v := 0) hx hb dL_shortestBase_1 (by decide) ?_
  refine lv_aload_n hx hb dL_shortestBase_2 rfl (lv_at hl 0 rfl) ?_
  refine lv_iload_n hx hb dL_shortestBase_3 rfl (lv_at hl 1 rfl) ?_
  obtain ⟨v4, hv4, hf⟩ := ob_e hf
  rcases v4 with t4 | u4
  · replace hf := se_l hf
    refine xcallVX (ws' := (wC g h now snap has hist ent res num col ++ [(ho, .inl (g.2.2.2.1, 1, .inr (.inl arr)))])) (n := 35) E hX hw [.int a1] [0, 1, 2, 3, 4, 5, 6, 7, 8, 9, 10, 11, 12, 13, 14, 15, 16, 17, 18, 19, 20, 21, 22, 23, 24, 25, 26, 27, 28, 29, 30, 31, 32, 33] (metx_X10_shortestBase l hlT g h now snap has hist ent res num col a1 t4 hv4) rfl (by decide) rfl rfl [35, 36, 37, 38, 39, 40, 41, 42, 43, 44, 45, 46, 47, 48, 49, 50, 51, 52, 53, 54, 55, 56, 57, 58, 59, 60, 61, 62, 63, 64, 65, 66, 67, 68, 34] rfl (by decide +kernel) rfl rfl rfl rfl qw960 k_X10_shortestBase ⟨rfl, rfl, Nat.le_of_ble_eq_true rfl, Nat.le_of_ble_eq_true rfl⟩ ⟨by decide, by decide⟩ hl.1 (Nat.le_of_ble_eq_true rfl) dL_shortestBase_4 (fun H locs q ce hw hce hcv hcl => ?_)
    by_cases hk : t4 = 1
    · replace hf := ip hk hf
      have hcl : s.vm.findClass "java/lang/IndexOutOfBoundsException" = some ce.cls := by rw [hk] at hcl; exact hcl
      refine vx_catch (name := "java/lang/IndexOutOfBoundsException") hown [] ⟨0, 9, 12, 19⟩ [] (htab.trans rfl) (fun z hz => absurd hz List.not_mem_nil) (by decide) (by decide) (hts _ qw698) (xodd_args hX.2.2.2 _ (by decide)) hce hcv hcl ?_
      refine lv_astore_n (lv' := [(3, .ref q), (0, .ref (h 0)), (1, .int a1), (2, .ref ho)]) hx hb dL_shortestBase_12 rfl hl (by decide) rfl (fun ls hl => ?_)
      refine lv_iconst (v := 1) hx hb dL_shortestBase_13 (by decide) ?_
      exact hret _ _ _ _ _ _ _ _ (by decide) (by decide) (Option.some.inj hf) dL_shortestBase_14 hw
    replace hf := iq hk hf
    exact nn hf
  · replace hf := se_r hf
    refine xcallV (ws' := (wC g h now snap has hist ent res num col ++ [(ho, .inl (g.2.2.2.1, 1, .inr (.inl arr)))])) (st1 := [.int u4, .int 0, .ref ho]) (n := 35) E hw [.int a1] [0, 1, 2, 3, 4, 5, 6, 7, 8, 9, 10, 11, 12, 13, 14, 15, 16, 17, 18, 19, 20, 21, 22, 23, 24, 25, 26, 27, 28, 29, 30, 31, 32, 33] (met_X10_shortestBase l g h now snap has hist ent res num col a1 u4 hv4) rfl (by decide) rfl rfl [35, 36, 37, 38, 39, 40, 41, 42, 43, 44, 45, 46, 47, 48, 49, 50, 51, 52, 53, 54, 55, 56, 57, 58, 59, 60, 61, 62, 63, 64, 65, 66, 67, 68, 34] rfl (by decide +kernel) rfl rfl rfl rfl qw960 k_X10_shortestBase ⟨rfl, rfl, Nat.le_of_ble_eq_true rfl, Nat.le_of_ble_eq_true rfl⟩ ⟨Nat.zero_le _, Nat.zero_le _⟩ hl.1 (Nat.le_of_ble_eq_true rfl) dL_shortestBase_4 rfl (fun H locs hw => ?_)
    refine lv_i2l hx hb dL_shortestBase_7 rfl ?_
    refine xlast (ws' := (wC g h now snap has hist ent res num col ++ [(ho, .inl (g.2.2.2.1, 1, .inr (.inl (vp_updL arr (0 : Int32).toNatClampNeg u4.toInt64))))])) E hw 34 rfl (by decide) dL_shortestBase_8 rfl (fun H locs hw => ?_)
    refine lv_goto (tgt := 15) hx hb dL_shortestBase_9 (by decide) ?_
    refine lv_iconst (v := 0) hx hb dL_shortestBase_15 (by decide) ?_
    exact hret _ _ _ _ _ _ _ _ (by decide) (by decide) (Option.some.inj hf) dL_shortestBase_16 hw
theorem k_L_writtenLength : xKW yL_writtenLength cL_writtenLength 4 (some .int) [(0, 9, 12, 19)] 3 := ⟨qw962, qw65, qw963, by decide +kernel, by decide +kernel, by decide +kernel⟩
set_option maxHeartbeats 4000000 in
set_option maxRecDepth 100000 in
theorem met_L_writtenLength (l : Launch) (hlT : l.stackTraces = false) (g : xG) (h : Nat → Nat) (ho : Nat) (now : SC) (snap : SC) (has : Int32) (hist : HC) (ent : EC) (res : RC) (num : NC) (col : CC) (arr : (Nat → Int64)) (a1 : Int32) (out : Int32 × (Nat → Int64)) (hf : f_L_writtenLength now arr a1 = some out) : xMW l yL_writtenLength (xCW yL_writtenLength cL_writtenLength 4 (some .int) [(0, 9, 12, 19)]) { frames := 8, cells := 1, slots := 6, locals := 145 } g (wC g h now snap has hist ent res num col ++ [(ho, .inl (g.2.2.2.1, 1, .inr (.inl arr)))]) [.ref (h 0), .int a1, .ref ho] (some (.int out.1)) (wC g h now snap has hist ent res num col ++ [(ho, .inl (g.2.2.2.1, 1, .inr (.inl out.2)))]) := by
  refine xofW (by decide) (Nat.le_of_ble_eq_true rfl) ?_
  intro p e s m below meth c A ls E hr hlocks htab hX hNc hw hl hpost
  have hx := E.1.1
  have hb := E.1.2.1
  have hown := E.1.2.2.2.1
  have hts := E.1.2.2.2.2
  generalize hZ : (MQ below (xPost g (wC g h now snap has hist ent res num col ++ [(ho, .inl (g.2.2.2.1, 1, .inr (.inl arr)))]) (wC g h now snap has hist ent res num col ++ [(ho, .inl (g.2.2.2.1, 1, .inr (.inl out.2)))]) s.heap.size (some (.int out.1))) [.ref (h 0), .int a1, .ref ho].toArray s 1 6 A) = ZZ
  have hret : ∀ (pc : Nat) (H : Heap) (locs : List Loc) (ls : Array Slot) (cells slots : Nat) (v : Int32) (carr : (Nat → Int64)), cells ≤ 1 → slots ≤ 6 → (v, carr) = out → decode cL_writtenLength pc = .ok (.ireturn, 1) → xW g A s.heap (wC g h now snap has hist ent res num col ++ [(ho, .inl (g.2.2.2.1, 1, .inr (.inl carr)))]) H locs → W p l e { frames := 8, cells := 1, slots := 6, locals := 145 } s m [.ref (h 0), .int a1, .ref ho].toArray below meth c H locs cells slots ZZ (F0 m pc ls [.int v]) := by
    intro pc H locs ls cells slots v carr hc hs he hd hw
    subst he
    rw [← hZ]
    exact W.widen hc hs (W.iret hx hb hr (hpost H locs hw).1 (hpost H locs hw).2 hd hlocks)
  clear hpost
  refine lv_aload_n hx hb dL_writtenLength_0 rfl (lv_at hl 2 rfl) ?_
  refine lv_iconst (v := 0) hx hb dL_writtenLength_1 (by decide) ?_
  refine lv_aload_n hx hb dL_writtenLength_2 rfl (lv_at hl 0 rfl) ?_
  refine lv_iload_n hx hb dL_writtenLength_3 rfl (lv_at hl 1 rfl) ?_
  obtain ⟨v4, hv4, hf⟩ := ob_e hf
  rcases v4 with t4 | u4
  · replace hf := se_l hf
    refine xcallVX (ws' := (wC g h now snap has hist ent res num col ++ [(ho, .inl (g.2.2.2.1, 1, .inr (.inl arr)))])) (n := 35) E hX hw [.int a1] [0, 1, 2, 3, 4, 5, 6, 7, 8, 9, 10, 11, 12, 13, 14, 15, 16, 17, 18, 19, 20, 21, 22, 23, 24, 25, 26, 27, 28, 29, 30, 31, 32, 33] (metx_X10_writtenLength l hlT g h now snap has hist ent res num col a1 t4 hv4) rfl (by decide) rfl rfl [35, 36, 37, 38, 39, 40, 41, 42, 43, 44, 45, 46, 47, 48, 49, 50, 51, 52, 53, 54, 55, 56, 57, 58, 59, 60, 61, 62, 63, 64, 65, 66, 67, 68, 34] rfl (by decide +kernel) rfl rfl rfl rfl qw964 k_X10_writtenLength ⟨rfl, rfl, Nat.le_of_ble_eq_true rfl, Nat.le_of_ble_eq_true rfl⟩ ⟨by decide, by decide⟩ hl.1 (Nat.le_of_ble_eq_true rfl) dL_writtenLength_4 (fun H locs q ce hw hce hcv hcl => ?_)
    by_cases hk : t4 = 1
    · replace hf := ip hk hf
      have hcl : s.vm.findClass "java/lang/IndexOutOfBoundsException" = some ce.cls := by rw [hk] at hcl; exact hcl
      refine vx_catch (name := "java/lang/IndexOutOfBoundsException") hown [] ⟨0, 9, 12, 19⟩ [] (htab.trans rfl) (fun z hz => absurd hz List.not_mem_nil) (by decide) (by decide) (hts _ qw698) (xodd_args hX.2.2.2 _ (by decide)) hce hcv hcl ?_
      refine lv_astore_n (lv' := [(3, .ref q), (0, .ref (h 0)), (1, .int a1), (2, .ref ho)]) hx hb dL_writtenLength_12 rfl hl (by decide) rfl (fun ls hl => ?_)
      refine lv_iconst (v := 1) hx hb dL_writtenLength_13 (by decide) ?_
      exact hret _ _ _ _ _ _ _ _ (by decide) (by decide) (Option.some.inj hf) dL_writtenLength_14 hw
    replace hf := iq hk hf
    exact nn hf
  · replace hf := se_r hf
    refine xcallV (ws' := (wC g h now snap has hist ent res num col ++ [(ho, .inl (g.2.2.2.1, 1, .inr (.inl arr)))])) (st1 := [.int u4, .int 0, .ref ho]) (n := 35) E hw [.int a1] [0, 1, 2, 3, 4, 5, 6, 7, 8, 9, 10, 11, 12, 13, 14, 15, 16, 17, 18, 19, 20, 21, 22, 23, 24, 25, 26, 27, 28, 29, 30, 31, 32, 33] (met_X10_writtenLength l g h now snap has hist ent res num col a1 u4 hv4) rfl (by decide) rfl rfl [35, 36, 37, 38, 39, 40, 41, 42, 43, 44, 45, 46, 47, 48, 49, 50, 51, 52, 53, 54, 55, 56, 57, 58, 59, 60, 61, 62, 63, 64, 65, 66, 67, 68, 34] rfl (by decide +kernel) rfl rfl rfl rfl qw964 k_X10_writtenLength ⟨rfl, rfl, Nat.le_of_ble_eq_true rfl, Nat.le_of_ble_eq_true rfl⟩ ⟨Nat.zero_le _, Nat.zero_le _⟩ hl.1 (Nat.le_of_ble_eq_true rfl) dL_writtenLength_4 rfl (fun H locs hw => ?_)
    refine lv_i2l hx hb dL_writtenLength_7 rfl ?_
    refine xlast (ws' := (wC g h now snap has hist ent res num col ++ [(ho, .inl (g.2.2.2.1, 1, .inr (.inl (vp_updL arr (0 : Int32).toNatClampNeg u4.toInt64))))])) E hw 34 rfl (by decide) dL_writtenLength_8 rfl (fun H locs hw => ?_)
    refine lv_goto (tgt := 15) hx hb dL_writtenLength_9 (by decide) ?_
    refine lv_iconst (v := 0) hx hb dL_writtenLength_15 (by decide) ?_
    exact hret _ _ _ _ _ _ _ _ (by decide) (by decide) (Option.some.inj hf) dL_writtenLength_16 hw
theorem k_L_writtenAt : xKW yL_writtenAt cL_writtenAt 5 (some .int) [(0, 10, 13, 19)] 4 := ⟨qw966, qw65, qw967, by decide +kernel, by decide +kernel, by decide +kernel⟩
set_option maxHeartbeats 4000000 in
set_option maxRecDepth 100000 in
theorem met_L_writtenAt (l : Launch) (hlT : l.stackTraces = false) (g : xG) (h : Nat → Nat) (ho : Nat) (now : SC) (snap : SC) (has : Int32) (hist : HC) (ent : EC) (res : RC) (num : NC) (col : CC) (arr : (Nat → Int64)) (a1 : Int32) (a2 : Int32) (out : Int32 × (Nat → Int64)) (hf : f_L_writtenAt now arr a1 a2 = some out) : xMW l yL_writtenAt (xCW yL_writtenAt cL_writtenAt 5 (some .int) [(0, 10, 13, 19)]) { frames := 9, cells := 1, slots := 6, locals := 169 } g (wC g h now snap has hist ent res num col ++ [(ho, .inl (g.2.2.2.1, 1, .inr (.inl arr)))]) [.ref (h 0), .int a1, .int a2, .ref ho] (some (.int out.1)) (wC g h now snap has hist ent res num col ++ [(ho, .inl (g.2.2.2.1, 1, .inr (.inl out.2)))]) := by
  refine xofW (by decide) (Nat.le_of_ble_eq_true rfl) ?_
  intro p e s m below meth c A ls E hr hlocks htab hX hNc hw hl hpost
  have hx := E.1.1
  have hb := E.1.2.1
  have hown := E.1.2.2.2.1
  have hts := E.1.2.2.2.2
  generalize hZ : (MQ below (xPost g (wC g h now snap has hist ent res num col ++ [(ho, .inl (g.2.2.2.1, 1, .inr (.inl arr)))]) (wC g h now snap has hist ent res num col ++ [(ho, .inl (g.2.2.2.1, 1, .inr (.inl out.2)))]) s.heap.size (some (.int out.1))) [.ref (h 0), .int a1, .int a2, .ref ho].toArray s 1 6 A) = ZZ
  have hret : ∀ (pc : Nat) (H : Heap) (locs : List Loc) (ls : Array Slot) (cells slots : Nat) (v : Int32) (carr : (Nat → Int64)), cells ≤ 1 → slots ≤ 6 → (v, carr) = out → decode cL_writtenAt pc = .ok (.ireturn, 1) → xW g A s.heap (wC g h now snap has hist ent res num col ++ [(ho, .inl (g.2.2.2.1, 1, .inr (.inl carr)))]) H locs → W p l e { frames := 9, cells := 1, slots := 6, locals := 169 } s m [.ref (h 0), .int a1, .int a2, .ref ho].toArray below meth c H locs cells slots ZZ (F0 m pc ls [.int v]) := by
    intro pc H locs ls cells slots v carr hc hs he hd hw
    subst he
    rw [← hZ]
    exact W.widen hc hs (W.iret hx hb hr (hpost H locs hw).1 (hpost H locs hw).2 hd hlocks)
  clear hpost
  refine lv_aload_n hx hb dL_writtenAt_0 rfl (lv_at hl 3 rfl) ?_
  refine lv_iconst (v := 0) hx hb dL_writtenAt_1 (by decide) ?_
  refine lv_aload_n hx hb dL_writtenAt_2 rfl (lv_at hl 0 rfl) ?_
  refine lv_iload_n hx hb dL_writtenAt_3 rfl (lv_at hl 1 rfl) ?_
  refine lv_iload_n hx hb dL_writtenAt_4 rfl (lv_at hl 2 rfl) ?_
  obtain ⟨v5, hv5, hf⟩ := ob_e hf
  rcases v5 with t5 | u5
  · replace hf := se_l hf
    refine xcallVX (ws' := (wC g h now snap has hist ent res num col ++ [(ho, .inl (g.2.2.2.1, 1, .inr (.inl arr)))])) (n := 35) E hX hw [.int a1, .int a2] [0, 1, 2, 3, 4, 5, 6, 7, 8, 9, 10, 11, 12, 13, 14, 15, 16, 17, 18, 19, 20, 21, 22, 23, 24, 25, 26, 27, 28, 29, 30, 31, 32, 33] (metx_X10_writtenAt l hlT g h now snap has hist ent res num col a1 a2 t5 hv5) rfl (by decide) rfl rfl [35, 36, 37, 38, 39, 40, 41, 42, 43, 44, 45, 46, 47, 48, 49, 50, 51, 52, 53, 54, 55, 56, 57, 58, 59, 60, 61, 62, 63, 64, 65, 66, 67, 68, 34] rfl (by decide +kernel) rfl rfl rfl rfl qw968 k_X10_writtenAt ⟨rfl, rfl, Nat.le_of_ble_eq_true rfl, Nat.le_of_ble_eq_true rfl⟩ ⟨by decide, by decide⟩ hl.1 (Nat.le_of_ble_eq_true rfl) dL_writtenAt_5 (fun H locs q ce hw hce hcv hcl => ?_)
    by_cases hk : t5 = 1
    · replace hf := ip hk hf
      have hcl : s.vm.findClass "java/lang/IndexOutOfBoundsException" = some ce.cls := by rw [hk] at hcl; exact hcl
      refine vx_catch (name := "java/lang/IndexOutOfBoundsException") hown [] ⟨0, 10, 13, 19⟩ [] (htab.trans rfl) (fun z hz => absurd hz List.not_mem_nil) (by decide) (by decide) (hts _ qw698) (xodd_args hX.2.2.2 _ (by decide)) hce hcv hcl ?_
      refine lv_astore (lv' := [(4, .ref q), (0, .ref (h 0)), (1, .int a1), (2, .int a2), (3, .ref ho)]) hx hb dL_writtenAt_13 hl (by decide) rfl (fun ls hl => ?_)
      refine lv_iconst (v := 1) hx hb dL_writtenAt_15 (by decide) ?_
      exact hret _ _ _ _ _ _ _ _ (by decide) (by decide) (Option.some.inj hf) dL_writtenAt_16 hw
    replace hf := iq hk hf
    exact nn hf
  · replace hf := se_r hf
    refine xcallV (ws' := (wC g h now snap has hist ent res num col ++ [(ho, .inl (g.2.2.2.1, 1, .inr (.inl arr)))])) (st1 := [.int u5, .int 0, .ref ho]) (n := 35) E hw [.int a1, .int a2] [0, 1, 2, 3, 4, 5, 6, 7, 8, 9, 10, 11, 12, 13, 14, 15, 16, 17, 18, 19, 20, 21, 22, 23, 24, 25, 26, 27, 28, 29, 30, 31, 32, 33] (met_X10_writtenAt l g h now snap has hist ent res num col a1 a2 u5 hv5) rfl (by decide) rfl rfl [35, 36, 37, 38, 39, 40, 41, 42, 43, 44, 45, 46, 47, 48, 49, 50, 51, 52, 53, 54, 55, 56, 57, 58, 59, 60, 61, 62, 63, 64, 65, 66, 67, 68, 34] rfl (by decide +kernel) rfl rfl rfl rfl qw968 k_X10_writtenAt ⟨rfl, rfl, Nat.le_of_ble_eq_true rfl, Nat.le_of_ble_eq_true rfl⟩ ⟨Nat.zero_le _, Nat.zero_le _⟩ hl.1 (Nat.le_of_ble_eq_true rfl) dL_writtenAt_5 rfl (fun H locs hw => ?_)
    refine lv_i2l hx hb dL_writtenAt_8 rfl ?_
    refine xlast (ws' := (wC g h now snap has hist ent res num col ++ [(ho, .inl (g.2.2.2.1, 1, .inr (.inl (vp_updL arr (0 : Int32).toNatClampNeg u5.toInt64))))])) E hw 34 rfl (by decide) dL_writtenAt_9 rfl (fun H locs hw => ?_)
    refine lv_goto (tgt := 17) hx hb dL_writtenAt_10 (by decide) ?_
    refine lv_iconst (v := 0) hx hb dL_writtenAt_17 (by decide) ?_
    exact hret _ _ _ _ _ _ _ _ (by decide) (by decide) (Option.some.inj hf) dL_writtenAt_18 hw
theorem k_L_carries : xKW yL_carries cL_carries 5 (some .int) [(0, 10, 13, 19)] 4 := ⟨qw970, qw65, qw971, by decide +kernel, by decide +kernel, by decide +kernel⟩
set_option maxHeartbeats 4000000 in
set_option maxRecDepth 100000 in
theorem met_L_carries (l : Launch) (hlT : l.stackTraces = false) (g : xG) (h : Nat → Nat) (ho : Nat) (now : SC) (snap : SC) (has : Int32) (hist : HC) (ent : EC) (res : RC) (num : NC) (col : CC) (arr : (Nat → Int64)) (a1 : Int32) (a2 : Int32) (out : Int32 × CC × (Nat → Int64)) (hf : f_L_carries now col arr a1 a2 = some out) : xMW l yL_carries (xCW yL_carries cL_carries 5 (some .int) [(0, 10, 13, 19)]) { frames := 9, cells := 1, slots := 6, locals := 163 } g (wC g h now snap has hist ent res num col ++ [(ho, .inl (g.2.2.2.1, 1, .inr (.inl arr)))]) [.ref (h 0), .int a1, .int a2, .ref ho] (some (.int out.1)) (wC g h now snap has hist ent res num out.2.1 ++ [(ho, .inl (g.2.2.2.1, 1, .inr (.inl out.2.2)))]) := by
  refine xofW (by decide) (Nat.le_of_ble_eq_true rfl) ?_
  intro p e s m below meth c A ls E hr hlocks htab hX hNc hw hl hpost
  have hx := E.1.1
  have hb := E.1.2.1
  have hown := E.1.2.2.2.1
  have hts := E.1.2.2.2.2
  generalize hZ : (MQ below (xPost g (wC g h now snap has hist ent res num col ++ [(ho, .inl (g.2.2.2.1, 1, .inr (.inl arr)))]) (wC g h now snap has hist ent res num out.2.1 ++ [(ho, .inl (g.2.2.2.1, 1, .inr (.inl out.2.2)))]) s.heap.size (some (.int out.1))) [.ref (h 0), .int a1, .int a2, .ref ho].toArray s 1 6 A) = ZZ
  have hret : ∀ (pc : Nat) (H : Heap) (locs : List Loc) (ls : Array Slot) (cells slots : Nat) (v : Int32) (ccol : CC) (carr : (Nat → Int64)), cells ≤ 1 → slots ≤ 6 → (v, ccol, carr) = out → decode cL_carries pc = .ok (.ireturn, 1) → xW g A s.heap (wC g h now snap has hist ent res num ccol ++ [(ho, .inl (g.2.2.2.1, 1, .inr (.inl carr)))]) H locs → W p l e { frames := 9, cells := 1, slots := 6, locals := 163 } s m [.ref (h 0), .int a1, .int a2, .ref ho].toArray below meth c H locs cells slots ZZ (F0 m pc ls [.int v]) := by
    intro pc H locs ls cells slots v ccol carr hc hs he hd hw
    subst he
    rw [← hZ]
    exact W.widen hc hs (W.iret hx hb hr (hpost H locs hw).1 (hpost H locs hw).2 hd hlocks)
  clear hpost
  refine lv_aload_n hx hb dL_carries_0 rfl (lv_at hl 3 rfl) ?_
  refine lv_iconst (v := 0) hx hb dL_carries_1 (by decide) ?_
  refine lv_aload_n hx hb dL_carries_2 rfl (lv_at hl 0 rfl) ?_
  refine lv_iload_n hx hb dL_carries_3 rfl (lv_at hl 1 rfl) ?_
  refine lv_iload_n hx hb dL_carries_4 rfl (lv_at hl 2 rfl) ?_
  obtain ⟨v5, hv5, hf⟩ := ob_e hf
  rcases v5 with t5 | u5
  · replace hf := se_l hf
    refine xcallVX (ws' := (wC g h now snap has hist ent res num t5.2 ++ [(ho, .inl (g.2.2.2.1, 1, .inr (.inl arr)))])) (n := 35) E hX hw [.int a1, .int a2] [0, 1, 2, 3, 4, 5, 6, 7, 8, 9, 10, 11, 12, 13, 14, 15, 16, 17, 18, 19, 20, 21, 22, 23, 24, 25, 26, 27, 28, 29, 30, 31, 32, 33] (metx_X10_carries l hlT g h now snap has hist ent res num col a1 a2 t5 hv5) rfl (by decide) rfl rfl [35, 36, 37, 38, 39, 40, 41, 42, 43, 44, 45, 46, 47, 48, 49, 50, 51, 52, 53, 54, 55, 56, 57, 58, 59, 60, 61, 62, 63, 64, 65, 66, 67, 68, 34] rfl (by decide +kernel) rfl rfl rfl rfl qw972 k_X10_carries ⟨rfl, rfl, Nat.le_of_ble_eq_true rfl, Nat.le_of_ble_eq_true rfl⟩ ⟨by decide, by decide⟩ hl.1 (Nat.le_of_ble_eq_true rfl) dL_carries_5 (fun H locs q ce hw hce hcv hcl => ?_)
    by_cases hk : t5.1 = 1
    · replace hf := ip hk hf
      have hcl : s.vm.findClass "java/lang/IndexOutOfBoundsException" = some ce.cls := by rw [hk] at hcl; exact hcl
      refine vx_catch (name := "java/lang/IndexOutOfBoundsException") hown [] ⟨0, 10, 13, 19⟩ [] (htab.trans rfl) (fun z hz => absurd hz List.not_mem_nil) (by decide) (by decide) (hts _ qw698) (xodd_args hX.2.2.2 _ (by decide)) hce hcv hcl ?_
      refine lv_astore (lv' := [(4, .ref q), (0, .ref (h 0)), (1, .int a1), (2, .int a2), (3, .ref ho)]) hx hb dL_carries_13 hl (by decide) rfl (fun ls hl => ?_)
      refine lv_iconst (v := 1) hx hb dL_carries_15 (by decide) ?_
      exact hret _ _ _ _ _ _ _ _ _ (by decide) (by decide) (Option.some.inj hf) dL_carries_16 hw
    replace hf := iq hk hf
    exact nn hf
  · replace hf := se_r hf
    refine xcallV (ws' := (wC g h now snap has hist ent res num u5.2 ++ [(ho, .inl (g.2.2.2.1, 1, .inr (.inl arr)))])) (st1 := [.int u5.1, .int 0, .ref ho]) (n := 35) E hw [.int a1, .int a2] [0, 1, 2, 3, 4, 5, 6, 7, 8, 9, 10, 11, 12, 13, 14, 15, 16, 17, 18, 19, 20, 21, 22, 23, 24, 25, 26, 27, 28, 29, 30, 31, 32, 33] (met_X10_carries l g h now snap has hist ent res num col a1 a2 u5 hv5) rfl (by decide) rfl rfl [35, 36, 37, 38, 39, 40, 41, 42, 43, 44, 45, 46, 47, 48, 49, 50, 51, 52, 53, 54, 55, 56, 57, 58, 59, 60, 61, 62, 63, 64, 65, 66, 67, 68, 34] rfl (by decide +kernel) rfl rfl rfl rfl qw972 k_X10_carries ⟨rfl, rfl, Nat.le_of_ble_eq_true rfl, Nat.le_of_ble_eq_true rfl⟩ ⟨Nat.zero_le _, Nat.zero_le _⟩ hl.1 (Nat.le_of_ble_eq_true rfl) dL_carries_5 rfl (fun H locs hw => ?_)
    refine lv_i2l hx hb dL_carries_8 rfl ?_
    refine xlast (ws' := (wC g h now snap has hist ent res num u5.2 ++ [(ho, .inl (g.2.2.2.1, 1, .inr (.inl (vp_updL arr (0 : Int32).toNatClampNeg u5.1.toInt64))))])) E hw 34 rfl (by decide) dL_carries_9 rfl (fun H locs hw => ?_)
    refine lv_goto (tgt := 17) hx hb dL_carries_10 (by decide) ?_
    refine lv_iconst (v := 0) hx hb dL_carries_17 (by decide) ?_
    exact hret _ _ _ _ _ _ _ _ _ (by decide) (by decide) (Option.some.inj hf) dL_carries_18 hw
theorem k_L_longestChain : xKW yL_longestChain cL_longestChain 5 (some .int) [(0, 10, 13, 19)] 4 := ⟨qw977, qw65, qw978, by decide +kernel, by decide +kernel, by decide +kernel⟩
set_option maxHeartbeats 4000000 in
set_option maxRecDepth 100000 in
theorem met_L_longestChain (l : Launch) (hlT : l.stackTraces = false) (g : xG) (h : Nat → Nat) (ho : Nat) (now : SC) (snap : SC) (has : Int32) (hist : HC) (ent : EC) (res : RC) (num : NC) (col : CC) (arr : (Nat → Int64)) (a1 : Int32) (a2 : Int32) (out : Int32 × CC × (Nat → Int64)) (hf : f_L_longestChain now col arr a1 a2 = some out) : xMW l yL_longestChain (xCW yL_longestChain cL_longestChain 5 (some .int) [(0, 10, 13, 19)]) { frames := 9, cells := 1, slots := 6, locals := 163 } g (wC g h now snap has hist ent res num col ++ [(ho, .inl (g.2.2.2.1, 1, .inr (.inl arr)))]) [.ref (h 0), .int a1, .int a2, .ref ho] (some (.int out.1)) (wC g h now snap has hist ent res num out.2.1 ++ [(ho, .inl (g.2.2.2.1, 1, .inr (.inl out.2.2)))]) := by
  refine xofW (by decide) (Nat.le_of_ble_eq_true rfl) ?_
  intro p e s m below meth c A ls E hr hlocks htab hX hNc hw hl hpost
  have hx := E.1.1
  have hb := E.1.2.1
  have hown := E.1.2.2.2.1
  have hts := E.1.2.2.2.2
  generalize hZ : (MQ below (xPost g (wC g h now snap has hist ent res num col ++ [(ho, .inl (g.2.2.2.1, 1, .inr (.inl arr)))]) (wC g h now snap has hist ent res num out.2.1 ++ [(ho, .inl (g.2.2.2.1, 1, .inr (.inl out.2.2)))]) s.heap.size (some (.int out.1))) [.ref (h 0), .int a1, .int a2, .ref ho].toArray s 1 6 A) = ZZ
  have hret : ∀ (pc : Nat) (H : Heap) (locs : List Loc) (ls : Array Slot) (cells slots : Nat) (v : Int32) (ccol : CC) (carr : (Nat → Int64)), cells ≤ 1 → slots ≤ 6 → (v, ccol, carr) = out → decode cL_longestChain pc = .ok (.ireturn, 1) → xW g A s.heap (wC g h now snap has hist ent res num ccol ++ [(ho, .inl (g.2.2.2.1, 1, .inr (.inl carr)))]) H locs → W p l e { frames := 9, cells := 1, slots := 6, locals := 163 } s m [.ref (h 0), .int a1, .int a2, .ref ho].toArray below meth c H locs cells slots ZZ (F0 m pc ls [.int v]) := by
    intro pc H locs ls cells slots v ccol carr hc hs he hd hw
    subst he
    rw [← hZ]
    exact W.widen hc hs (W.iret hx hb hr (hpost H locs hw).1 (hpost H locs hw).2 hd hlocks)
  clear hpost
  refine lv_aload_n hx hb dL_longestChain_0 rfl (lv_at hl 3 rfl) ?_
  refine lv_iconst (v := 0) hx hb dL_longestChain_1 (by decide) ?_
  refine lv_aload_n hx hb dL_longestChain_2 rfl (lv_at hl 0 rfl) ?_
  refine lv_iload_n hx hb dL_longestChain_3 rfl (lv_at hl 1 rfl) ?_
  refine lv_iload_n hx hb dL_longestChain_4 rfl (lv_at hl 2 rfl) ?_
  obtain ⟨v5, hv5, hf⟩ := ob_e hf
  rcases v5 with t5 | u5
  · replace hf := se_l hf
    refine xcallVX (ws' := (wC g h now snap has hist ent res num t5.2 ++ [(ho, .inl (g.2.2.2.1, 1, .inr (.inl arr)))])) (n := 35) E hX hw [.int a1, .int a2] [0, 1, 2, 3, 4, 5, 6, 7, 8, 9, 10, 11, 12, 13, 14, 15, 16, 17, 18, 19, 20, 21, 22, 23, 24, 25, 26, 27, 28, 29, 30, 31, 32, 33] (metx_X10_longestChain l hlT g h now snap has hist ent res num col a1 a2 t5 hv5) rfl (by decide) rfl rfl [35, 36, 37, 38, 39, 40, 41, 42, 43, 44, 45, 46, 47, 48, 49, 50, 51, 52, 53, 54, 55, 56, 57, 58, 59, 60, 61, 62, 63, 64, 65, 66, 67, 68, 34] rfl (by decide +kernel) rfl rfl rfl rfl qw979 k_X10_longestChain ⟨rfl, rfl, Nat.le_of_ble_eq_true rfl, Nat.le_of_ble_eq_true rfl⟩ ⟨by decide, by decide⟩ hl.1 (Nat.le_of_ble_eq_true rfl) dL_longestChain_5 (fun H locs q ce hw hce hcv hcl => ?_)
    by_cases hk : t5.1 = 1
    · replace hf := ip hk hf
      have hcl : s.vm.findClass "java/lang/IndexOutOfBoundsException" = some ce.cls := by rw [hk] at hcl; exact hcl
      refine vx_catch (name := "java/lang/IndexOutOfBoundsException") hown [] ⟨0, 10, 13, 19⟩ [] (htab.trans rfl) (fun z hz => absurd hz List.not_mem_nil) (by decide) (by decide) (hts _ qw698) (xodd_args hX.2.2.2 _ (by decide)) hce hcv hcl ?_
      refine lv_astore (lv' := [(4, .ref q), (0, .ref (h 0)), (1, .int a1), (2, .int a2), (3, .ref ho)]) hx hb dL_longestChain_13 hl (by decide) rfl (fun ls hl => ?_)
      refine lv_iconst (v := 1) hx hb dL_longestChain_15 (by decide) ?_
      exact hret _ _ _ _ _ _ _ _ _ (by decide) (by decide) (Option.some.inj hf) dL_longestChain_16 hw
    replace hf := iq hk hf
    exact nn hf
  · replace hf := se_r hf
    refine xcallV (ws' := (wC g h now snap has hist ent res num u5.2 ++ [(ho, .inl (g.2.2.2.1, 1, .inr (.inl arr)))])) (st1 := [.int u5.1, .int 0, .ref ho]) (n := 35) E hw [.int a1, .int a2] [0, 1, 2, 3, 4, 5, 6, 7, 8, 9, 10, 11, 12, 13, 14, 15, 16, 17, 18, 19, 20, 21, 22, 23, 24, 25, 26, 27, 28, 29, 30, 31, 32, 33] (met_X10_longestChain l g h now snap has hist ent res num col a1 a2 u5 hv5) rfl (by decide) rfl rfl [35, 36, 37, 38, 39, 40, 41, 42, 43, 44, 45, 46, 47, 48, 49, 50, 51, 52, 53, 54, 55, 56, 57, 58, 59, 60, 61, 62, 63, 64, 65, 66, 67, 68, 34] rfl (by decide +kernel) rfl rfl rfl rfl qw979 k_X10_longestChain ⟨rfl, rfl, Nat.le_of_ble_eq_true rfl, Nat.le_of_ble_eq_true rfl⟩ ⟨Nat.zero_le _, Nat.zero_le _⟩ hl.1 (Nat.le_of_ble_eq_true rfl) dL_longestChain_5 rfl (fun H locs hw => ?_)
    refine lv_i2l hx hb dL_longestChain_8 rfl ?_
    refine xlast (ws' := (wC g h now snap has hist ent res num u5.2 ++ [(ho, .inl (g.2.2.2.1, 1, .inr (.inl (vp_updL arr (0 : Int32).toNatClampNeg u5.1.toInt64))))])) E hw 34 rfl (by decide) dL_longestChain_9 rfl (fun H locs hw => ?_)
    refine lv_goto (tgt := 17) hx hb dL_longestChain_10 (by decide) ?_
    refine lv_iconst (v := 0) hx hb dL_longestChain_17 (by decide) ?_
    exact hret _ _ _ _ _ _ _ _ _ (by decide) (by decide) (Option.some.inj hf) dL_longestChain_18 hw
theorem k_L_sumDigit : xKW yL_sumDigit cL_sumDigit 6 (some .int) [(0, 12, 15, 19)] 5 := ⟨qw984, qw65, qw985, by decide +kernel, by decide +kernel, by decide +kernel⟩
set_option maxHeartbeats 4000000 in
set_option maxRecDepth 100000 in
theorem met_L_sumDigit (l : Launch) (hlT : l.stackTraces = false) (g : xG) (h : Nat → Nat) (ho : Nat) (now : SC) (snap : SC) (has : Int32) (hist : HC) (ent : EC) (res : RC) (num : NC) (col : CC) (arr : (Nat → Int64)) (a1 : Int32) (a2 : Int32) (a3 : Int32) (out : Int32 × CC × (Nat → Int64)) (hf : f_L_sumDigit now col arr a1 a2 a3 = some out) : xMW l yL_sumDigit (xCW yL_sumDigit cL_sumDigit 6 (some .int) [(0, 12, 15, 19)]) { frames := 9, cells := 1, slots := 6, locals := 164 } g (wC g h now snap has hist ent res num col ++ [(ho, .inl (g.2.2.2.1, 1, .inr (.inl arr)))]) [.ref (h 0), .int a1, .int a2, .int a3, .ref ho] (some (.int out.1)) (wC g h now snap has hist ent res num out.2.1 ++ [(ho, .inl (g.2.2.2.1, 1, .inr (.inl out.2.2)))]) := by
  refine xofW (by decide) (Nat.le_of_ble_eq_true rfl) ?_
  intro p e s m below meth c A ls E hr hlocks htab hX hNc hw hl hpost
  have hx := E.1.1
  have hb := E.1.2.1
  have hown := E.1.2.2.2.1
  have hts := E.1.2.2.2.2
  generalize hZ : (MQ below (xPost g (wC g h now snap has hist ent res num col ++ [(ho, .inl (g.2.2.2.1, 1, .inr (.inl arr)))]) (wC g h now snap has hist ent res num out.2.1 ++ [(ho, .inl (g.2.2.2.1, 1, .inr (.inl out.2.2)))]) s.heap.size (some (.int out.1))) [.ref (h 0), .int a1, .int a2, .int a3, .ref ho].toArray s 1 6 A) = ZZ
  have hret : ∀ (pc : Nat) (H : Heap) (locs : List Loc) (ls : Array Slot) (cells slots : Nat) (v : Int32) (ccol : CC) (carr : (Nat → Int64)), cells ≤ 1 → slots ≤ 6 → (v, ccol, carr) = out → decode cL_sumDigit pc = .ok (.ireturn, 1) → xW g A s.heap (wC g h now snap has hist ent res num ccol ++ [(ho, .inl (g.2.2.2.1, 1, .inr (.inl carr)))]) H locs → W p l e { frames := 9, cells := 1, slots := 6, locals := 164 } s m [.ref (h 0), .int a1, .int a2, .int a3, .ref ho].toArray below meth c H locs cells slots ZZ (F0 m pc ls [.int v]) := by
    intro pc H locs ls cells slots v ccol carr hc hs he hd hw
    subst he
    rw [← hZ]
    exact W.widen hc hs (W.iret hx hb hr (hpost H locs hw).1 (hpost H locs hw).2 hd hlocks)
  clear hpost
  refine lv_aload hx hb dL_sumDigit_0 (lv_at hl 4 rfl) ?_
  refine lv_iconst (v := 0) hx hb dL_sumDigit_2 (by decide) ?_
  refine lv_aload_n hx hb dL_sumDigit_3 rfl (lv_at hl 0 rfl) ?_
  refine lv_iload_n hx hb dL_sumDigit_4 rfl (lv_at hl 1 rfl) ?_
  refine lv_iload_n hx hb dL_sumDigit_5 rfl (lv_at hl 2 rfl) ?_
  refine lv_iload_n hx hb dL_sumDigit_6 rfl (lv_at hl 3 rfl) ?_
  obtain ⟨v7, hv7, hf⟩ := ob_e hf
  rcases v7 with t7 | u7
  · replace hf := se_l hf
    refine xcallVX (ws' := (wC g h now snap has hist ent res num t7.2 ++ [(ho, .inl (g.2.2.2.1, 1, .inr (.inl arr)))])) (n := 35) E hX hw [.int a1, .int a2, .int a3] [0, 1, 2, 3, 4, 5, 6, 7, 8, 9, 10, 11, 12, 13, 14, 15, 16, 17, 18, 19, 20, 21, 22, 23, 24, 25, 26, 27, 28, 29, 30, 31, 32, 33] (metx_X10_sumDigit l hlT g h now snap has hist ent res num col a1 a2 a3 t7 hv7) rfl (by decide) rfl rfl [35, 36, 37, 38, 39, 40, 41, 42, 43, 44, 45, 46, 47, 48, 49, 50, 51, 52, 53, 54, 55, 56, 57, 58, 59, 60, 61, 62, 63, 64, 65, 66, 67, 68, 34] rfl (by decide +kernel) rfl rfl rfl rfl qw986 k_X10_sumDigit ⟨rfl, rfl, Nat.le_of_ble_eq_true rfl, Nat.le_of_ble_eq_true rfl⟩ ⟨by decide, by decide⟩ hl.1 (Nat.le_of_ble_eq_true rfl) dL_sumDigit_7 (fun H locs q ce hw hce hcv hcl => ?_)
    by_cases hk : t7.1 = 1
    · replace hf := ip hk hf
      have hcl : s.vm.findClass "java/lang/IndexOutOfBoundsException" = some ce.cls := by rw [hk] at hcl; exact hcl
      refine vx_catch (name := "java/lang/IndexOutOfBoundsException") hown [] ⟨0, 12, 15, 19⟩ [] (htab.trans rfl) (fun z hz => absurd hz List.not_mem_nil) (by decide) (by decide) (hts _ qw698) (xodd_args hX.2.2.2 _ (by decide)) hce hcv hcl ?_
      refine lv_astore (lv' := [(5, .ref q), (0, .ref (h 0)), (1, .int a1), (2, .int a2), (3, .int a3), (4, .ref ho)]) hx hb dL_sumDigit_15 hl (by decide) rfl (fun ls hl => ?_)
      refine lv_iconst (v := 1) hx hb dL_sumDigit_17 (by decide) ?_
      exact hret _ _ _ _ _ _ _ _ _ (by decide) (by decide) (Option.some.inj hf) dL_sumDigit_18 hw
    replace hf := iq hk hf
    exact nn hf
  · replace hf := se_r hf
    refine xcallV (ws' := (wC g h now snap has hist ent res num u7.2 ++ [(ho, .inl (g.2.2.2.1, 1, .inr (.inl arr)))])) (st1 := [.int u7.1, .int 0, .ref ho]) (n := 35) E hw [.int a1, .int a2, .int a3] [0, 1, 2, 3, 4, 5, 6, 7, 8, 9, 10, 11, 12, 13, 14, 15, 16, 17, 18, 19, 20, 21, 22, 23, 24, 25, 26, 27, 28, 29, 30, 31, 32, 33] (met_X10_sumDigit l g h now snap has hist ent res num col a1 a2 a3 u7 hv7) rfl (by decide) rfl rfl [35, 36, 37, 38, 39, 40, 41, 42, 43, 44, 45, 46, 47, 48, 49, 50, 51, 52, 53, 54, 55, 56, 57, 58, 59, 60, 61, 62, 63, 64, 65, 66, 67, 68, 34] rfl (by decide +kernel) rfl rfl rfl rfl qw986 k_X10_sumDigit ⟨rfl, rfl, Nat.le_of_ble_eq_true rfl, Nat.le_of_ble_eq_true rfl⟩ ⟨Nat.zero_le _, Nat.zero_le _⟩ hl.1 (Nat.le_of_ble_eq_true rfl) dL_sumDigit_7 rfl (fun H locs hw => ?_)
    refine lv_i2l hx hb dL_sumDigit_10 rfl ?_
    refine xlast (ws' := (wC g h now snap has hist ent res num u7.2 ++ [(ho, .inl (g.2.2.2.1, 1, .inr (.inl (vp_updL arr (0 : Int32).toNatClampNeg u7.1.toInt64))))])) E hw 34 rfl (by decide) dL_sumDigit_11 rfl (fun H locs hw => ?_)
    refine lv_goto (tgt := 19) hx hb dL_sumDigit_12 (by decide) ?_
    refine lv_iconst (v := 0) hx hb dL_sumDigit_19 (by decide) ?_
    exact hret _ _ _ _ _ _ _ _ _ (by decide) (by decide) (Option.some.inj hf) dL_sumDigit_20 hw
theorem k_L_sumByColumns : xKW yL_sumByColumns cL_sumByColumns 5 (some .int) [(0, 9, 12, 19)] 4 := ⟨qw991, qw65, qw992, by decide +kernel, by decide +kernel, by decide +kernel⟩
set_option maxHeartbeats 4000000 in
set_option maxRecDepth 100000 in
theorem met_L_sumByColumns (l : Launch) (hlT : l.stackTraces = false) (g : xG) (h : Nat → Nat) (ho : Nat) (now : SC) (snap : SC) (has : Int32) (hist : HC) (ent : EC) (res : RC) (num : NC) (col : CC) (arr : (Nat → Int64)) (a1 : Int32) (a2 : Int32) (out : Int32 × CC × (Nat → Int64)) (hf : f_L_sumByColumns now col arr a1 a2 = some out) : xMW l yL_sumByColumns (xCW yL_sumByColumns cL_sumByColumns 5 (some .int) [(0, 9, 12, 19)]) { frames := 9, cells := 1, slots := 6, locals := 163 } g (wC g h now snap has hist ent res num col ++ [(ho, .inl (g.2.2.2.1, 1, .inr (.inl arr)))]) [.ref (h 0), .int a1, .int a2, .ref ho] (some (.int out.1)) (wC g h now snap has hist ent res num out.2.1 ++ [(ho, .inl (g.2.2.2.1, 1, .inr (.inl out.2.2)))]) := by
  refine xofW (by decide) (Nat.le_of_ble_eq_true rfl) ?_
  intro p e s m below meth c A ls E hr hlocks htab hX hNc hw hl hpost
  have hx := E.1.1
  have hb := E.1.2.1
  have hown := E.1.2.2.2.1
  have hts := E.1.2.2.2.2
  generalize hZ : (MQ below (xPost g (wC g h now snap has hist ent res num col ++ [(ho, .inl (g.2.2.2.1, 1, .inr (.inl arr)))]) (wC g h now snap has hist ent res num out.2.1 ++ [(ho, .inl (g.2.2.2.1, 1, .inr (.inl out.2.2)))]) s.heap.size (some (.int out.1))) [.ref (h 0), .int a1, .int a2, .ref ho].toArray s 1 6 A) = ZZ
  have hret : ∀ (pc : Nat) (H : Heap) (locs : List Loc) (ls : Array Slot) (cells slots : Nat) (v : Int32) (ccol : CC) (carr : (Nat → Int64)), cells ≤ 1 → slots ≤ 6 → (v, ccol, carr) = out → decode cL_sumByColumns pc = .ok (.ireturn, 1) → xW g A s.heap (wC g h now snap has hist ent res num ccol ++ [(ho, .inl (g.2.2.2.1, 1, .inr (.inl carr)))]) H locs → W p l e { frames := 9, cells := 1, slots := 6, locals := 163 } s m [.ref (h 0), .int a1, .int a2, .ref ho].toArray below meth c H locs cells slots ZZ (F0 m pc ls [.int v]) := by
    intro pc H locs ls cells slots v ccol carr hc hs he hd hw
    subst he
    rw [← hZ]
    exact W.widen hc hs (W.iret hx hb hr (hpost H locs hw).1 (hpost H locs hw).2 hd hlocks)
  clear hpost
  refine lv_aload_n hx hb dL_sumByColumns_0 rfl (lv_at hl 3 rfl) ?_
  refine lv_iconst (v := 0) hx hb dL_sumByColumns_1 (by decide) ?_
  refine lv_aload_n hx hb dL_sumByColumns_2 rfl (lv_at hl 0 rfl) ?_
  refine lv_iload_n hx hb dL_sumByColumns_3 rfl (lv_at hl 1 rfl) ?_
  refine lv_iload_n hx hb dL_sumByColumns_4 rfl (lv_at hl 2 rfl) ?_
  obtain ⟨v5, hv5, hf⟩ := ob_e hf
  rcases v5 with t5 | u5
  · replace hf := se_l hf
    refine xcallVX (ws' := (wC g h now snap has hist ent res num t5.2 ++ [(ho, .inl (g.2.2.2.1, 1, .inr (.inl arr)))])) (n := 35) E hX hw [.int a1, .int a2] [0, 1, 2, 3, 4, 5, 6, 7, 8, 9, 10, 11, 12, 13, 14, 15, 16, 17, 18, 19, 20, 21, 22, 23, 24, 25, 26, 27, 28, 29, 30, 31, 32, 33] (metx_X10_sumByColumns l hlT g h now snap has hist ent res num col a1 a2 t5 hv5) rfl (by decide) rfl rfl [35, 36, 37, 38, 39, 40, 41, 42, 43, 44, 45, 46, 47, 48, 49, 50, 51, 52, 53, 54, 55, 56, 57, 58, 59, 60, 61, 62, 63, 64, 65, 66, 67, 68, 34] rfl (by decide +kernel) rfl rfl rfl rfl qw993 k_X10_sumByColumns ⟨rfl, rfl, Nat.le_of_ble_eq_true rfl, Nat.le_of_ble_eq_true rfl⟩ ⟨by decide, by decide⟩ hl.1 (Nat.le_of_ble_eq_true rfl) dL_sumByColumns_5 (fun H locs q ce hw hce hcv hcl => ?_)
    by_cases hk : t5.1 = 1
    · replace hf := ip hk hf
      have hcl : s.vm.findClass "java/lang/IndexOutOfBoundsException" = some ce.cls := by rw [hk] at hcl; exact hcl
      refine vx_catch (name := "java/lang/IndexOutOfBoundsException") hown [] ⟨0, 9, 12, 19⟩ [] (htab.trans rfl) (fun z hz => absurd hz List.not_mem_nil) (by decide) (by decide) (hts _ qw698) (xodd_args hX.2.2.2 _ (by decide)) hce hcv hcl ?_
      refine lv_astore (lv' := [(4, .ref q), (0, .ref (h 0)), (1, .int a1), (2, .int a2), (3, .ref ho)]) hx hb dL_sumByColumns_12 hl (by decide) rfl (fun ls hl => ?_)
      refine lv_iconst (v := 1) hx hb dL_sumByColumns_14 (by decide) ?_
      exact hret _ _ _ _ _ _ _ _ _ (by decide) (by decide) (Option.some.inj hf) dL_sumByColumns_15 hw
    replace hf := iq hk hf
    exact nn hf
  · replace hf := se_r hf
    refine xcallV (ws' := (wC g h now snap has hist ent res num u5.2 ++ [(ho, .inl (g.2.2.2.1, 1, .inr (.inl arr)))])) (st1 := [.long u5.1, .int 0, .ref ho]) (n := 35) E hw [.int a1, .int a2] [0, 1, 2, 3, 4, 5, 6, 7, 8, 9, 10, 11, 12, 13, 14, 15, 16, 17, 18, 19, 20, 21, 22, 23, 24, 25, 26, 27, 28, 29, 30, 31, 32, 33] (met_X10_sumByColumns l g h now snap has hist ent res num col a1 a2 u5 hv5) rfl (by decide) rfl rfl [35, 36, 37, 38, 39, 40, 41, 42, 43, 44, 45, 46, 47, 48, 49, 50, 51, 52, 53, 54, 55, 56, 57, 58, 59, 60, 61, 62, 63, 64, 65, 66, 67, 68, 34] rfl (by decide +kernel) rfl rfl rfl rfl qw993 k_X10_sumByColumns ⟨rfl, rfl, Nat.le_of_ble_eq_true rfl, Nat.le_of_ble_eq_true rfl⟩ ⟨Nat.zero_le _, Nat.zero_le _⟩ hl.1 (Nat.le_of_ble_eq_true rfl) dL_sumByColumns_5 rfl (fun H locs hw => ?_)
    refine xlast (ws' := (wC g h now snap has hist ent res num u5.2 ++ [(ho, .inl (g.2.2.2.1, 1, .inr (.inl (vp_updL arr (0 : Int32).toNatClampNeg u5.1))))])) E hw 34 rfl (by decide) dL_sumByColumns_8 rfl (fun H locs hw => ?_)
    refine lv_goto (tgt := 16) hx hb dL_sumByColumns_9 (by decide) ?_
    refine lv_iconst (v := 0) hx hb dL_sumByColumns_16 (by decide) ?_
    exact hret _ _ _ _ _ _ _ _ _ (by decide) (by decide) (Option.some.inj hf) dL_sumByColumns_17 hw
theorem k_L_readIn : xKW yL_readIn cL_readIn 5 (some .int) [(0, 9, 12, 19), (0, 9, 16, 13)] 4 := ⟨qw998, qw65, qw999, by decide +kernel, by decide +kernel, by decide +kernel⟩
set_option maxHeartbeats 4000000 in
set_option maxRecDepth 100000 in
theorem met_L_readIn (l : Launch) (hlT : l.stackTraces = false) (g : xG) (h : Nat → Nat) (ho : Nat) (now : SC) (snap : SC) (has : Int32) (hist : HC) (ent : EC) (res : RC) (num : NC) (col : CC) (arr : (Nat → Int64)) (a1 : Int32) (a2 : Int32) (out : Int32 × (Nat → Int64)) (hf : f_L_readIn now arr a1 a2 = some out) : xMW l yL_readIn (xCW yL_readIn cL_readIn 5 (some .int) [(0, 9, 12, 19), (0, 9, 16, 13)]) { frames := 8, cells := 1, slots := 6, locals := 147 } g (wC g h now snap has hist ent res num col ++ [(ho, .inl (g.2.2.2.1, 1, .inr (.inl arr)))]) [.ref (h 0), .int a1, .int a2, .ref ho] (some (.int out.1)) (wC g h now snap has hist ent res num col ++ [(ho, .inl (g.2.2.2.1, 1, .inr (.inl out.2)))]) := by
  refine xofW (by decide) (Nat.le_of_ble_eq_true rfl) ?_
  intro p e s m below meth c A ls E hr hlocks htab hX hNc hw hl hpost
  have hx := E.1.1
  have hb := E.1.2.1
  have hown := E.1.2.2.2.1
  have hts := E.1.2.2.2.2
  generalize hZ : (MQ below (xPost g (wC g h now snap has hist ent res num col ++ [(ho, .inl (g.2.2.2.1, 1, .inr (.inl arr)))]) (wC g h now snap has hist ent res num col ++ [(ho, .inl (g.2.2.2.1, 1, .inr (.inl out.2)))]) s.heap.size (some (.int out.1))) [.ref (h 0), .int a1, .int a2, .ref ho].toArray s 1 6 A) = ZZ
  have hret : ∀ (pc : Nat) (H : Heap) (locs : List Loc) (ls : Array Slot) (cells slots : Nat) (v : Int32) (carr : (Nat → Int64)), cells ≤ 1 → slots ≤ 6 → (v, carr) = out → decode cL_readIn pc = .ok (.ireturn, 1) → xW g A s.heap (wC g h now snap has hist ent res num col ++ [(ho, .inl (g.2.2.2.1, 1, .inr (.inl carr)))]) H locs → W p l e { frames := 8, cells := 1, slots := 6, locals := 147 } s m [.ref (h 0), .int a1, .int a2, .ref ho].toArray below meth c H locs cells slots ZZ (F0 m pc ls [.int v]) := by
    intro pc H locs ls cells slots v carr hc hs he hd hw
    subst he
    rw [← hZ]
    exact W.widen hc hs (W.iret hx hb hr (hpost H locs hw).1 (hpost H locs hw).2 hd hlocks)
  clear hpost
  refine lv_aload_n hx hb dL_readIn_0 rfl (lv_at hl 3 rfl) ?_
  refine lv_iconst (v := 0) hx hb dL_readIn_1 (by decide) ?_
  refine lv_aload_n hx hb dL_readIn_2 rfl (lv_at hl 0 rfl) ?_
  refine lv_iload_n hx hb dL_readIn_3 rfl (lv_at hl 1 rfl) ?_
  refine lv_iload_n hx hb dL_readIn_4 rfl (lv_at hl 2 rfl) ?_
  obtain ⟨v5, hv5, hf⟩ := ob_e hf
  rcases v5 with t5 | u5
  · replace hf := se_l hf
    refine xcallVX (ws' := (wC g h now snap has hist ent res num col ++ [(ho, .inl (g.2.2.2.1, 1, .inr (.inl arr)))])) (n := 35) E hX hw [.int a1, .int a2] [0, 1, 2, 3, 4, 5, 6, 7, 8, 9, 10, 11, 12, 13, 14, 15, 16, 17, 18, 19, 20, 21, 22, 23, 24, 25, 26, 27, 28, 29, 30, 31, 32, 33] (metx_X10_readIn l hlT g h now snap has hist ent res num col a1 a2 t5 hv5) rfl (by decide) rfl rfl [35, 36, 37, 38, 39, 40, 41, 42, 43, 44, 45, 46, 47, 48, 49, 50, 51, 52, 53, 54, 55, 56, 57, 58, 59, 60, 61, 62, 63, 64, 65, 66, 67, 68, 34] rfl (by decide +kernel) rfl rfl rfl rfl qw1000 k_X10_readIn ⟨rfl, rfl, Nat.le_of_ble_eq_true rfl, Nat.le_of_ble_eq_true rfl⟩ ⟨by decide, by decide⟩ hl.1 (Nat.le_of_ble_eq_true rfl) dL_readIn_5 (fun H locs q ce hw hce hcv hcl => ?_)
    by_cases hk : t5 = 1
    · replace hf := ip hk hf
      have hcl : s.vm.findClass "java/lang/IndexOutOfBoundsException" = some ce.cls := by rw [hk] at hcl; exact hcl
      refine vx_catch (name := "java/lang/IndexOutOfBoundsException") hown [] ⟨0, 9, 12, 19⟩ [⟨0, 9, 16, 13⟩] (htab.trans rfl) (fun z hz => absurd hz List.not_mem_nil) (by decide) (by decide) (hts _ qw698) (xodd_args hX.2.2.2 _ (by decide)) hce hcv hcl ?_
      refine lv_astore (lv' := [(4, .ref q), (0, .ref (h 0)), (1, .int a1), (2, .int a2), (3, .ref ho)]) hx hb dL_readIn_12 hl (by decide) rfl (fun ls hl => ?_)
      refine lv_iconst (v := 1) hx hb dL_readIn_14 (by decide) ?_
      exact hret _ _ _ _ _ _ _ _ (by decide) (by decide) (Option.some.inj hf) dL_readIn_15 hw
    replace hf := iq hk hf
    by_cases hk : t5 = 2
    · replace hf := ip hk hf
      have hcl : s.vm.findClass "java/lang/IllegalArgumentException" = some ce.cls := by rw [hk] at hcl; exact hcl
      refine vx_catch (name := "java/lang/IllegalArgumentException") hown [⟨0, 9, 12, 19⟩] ⟨0, 9, 16, 13⟩ [] (htab.trans rfl) (fun z hz => by rw [List.mem_singleton.mp hz]; exact Or.inr ⟨by decide, "java/lang/IndexOutOfBoundsException", hts _ qw698, hNc.1⟩) (by decide) (by decide) (hts _ qw682) (xodd_args hX.2.2.2 _ (by decide)) hce hcv hcl ?_
      refine lv_astore (lv' := [(4, .ref q), (0, .ref (h 0)), (1, .int a1), (2, .int a2), (3, .ref ho)]) hx hb dL_readIn_16 hl (by decide) rfl (fun ls hl => ?_)
      refine lv_iconst (v := 2) hx hb dL_readIn_18 (by decide) ?_
      exact hret _ _ _ _ _ _ _ _ (by decide) (by decide) (Option.some.inj hf) dL_readIn_19 hw
    replace hf := iq hk hf
    exact nn hf
  · replace hf := se_r hf
    refine xcallV (ws' := (wC g h now snap has hist ent res num col ++ [(ho, .inl (g.2.2.2.1, 1, .inr (.inl arr)))])) (st1 := [.long u5, .int 0, .ref ho]) (n := 35) E hw [.int a1, .int a2] [0, 1, 2, 3, 4, 5, 6, 7, 8, 9, 10, 11, 12, 13, 14, 15, 16, 17, 18, 19, 20, 21, 22, 23, 24, 25, 26, 27, 28, 29, 30, 31, 32, 33] (met_X10_readIn l g h now snap has hist ent res num col a1 a2 u5 hv5) rfl (by decide) rfl rfl [35, 36, 37, 38, 39, 40, 41, 42, 43, 44, 45, 46, 47, 48, 49, 50, 51, 52, 53, 54, 55, 56, 57, 58, 59, 60, 61, 62, 63, 64, 65, 66, 67, 68, 34] rfl (by decide +kernel) rfl rfl rfl rfl qw1000 k_X10_readIn ⟨rfl, rfl, Nat.le_of_ble_eq_true rfl, Nat.le_of_ble_eq_true rfl⟩ ⟨Nat.zero_le _, Nat.zero_le _⟩ hl.1 (Nat.le_of_ble_eq_true rfl) dL_readIn_5 rfl (fun H locs hw => ?_)
    refine xlast (ws' := (wC g h now snap has hist ent res num col ++ [(ho, .inl (g.2.2.2.1, 1, .inr (.inl (vp_updL arr (0 : Int32).toNatClampNeg u5))))])) E hw 34 rfl (by decide) dL_readIn_8 rfl (fun H locs hw => ?_)
    refine lv_goto (tgt := 20) hx hb dL_readIn_9 (by decide) ?_
    refine lv_iconst (v := 0) hx hb dL_readIn_20 (by decide) ?_
    exact hret _ _ _ _ _ _ _ _ (by decide) (by decide) (Option.some.inj hf) dL_readIn_21 hw
theorem k_L_whyNoSum : xKW yL_whyNoSum cL_whyNoSum 5 (some .int) [(0, 10, 13, 19)] 4 := ⟨qw1002, qw65, qw1003, by decide +kernel, by decide +kernel, by decide +kernel⟩
set_option maxHeartbeats 4000000 in
set_option maxRecDepth 100000 in
theorem met_L_whyNoSum (l : Launch) (hlT : l.stackTraces = false) (g : xG) (h : Nat → Nat) (ho : Nat) (now : SC) (snap : SC) (has : Int32) (hist : HC) (ent : EC) (res : RC) (num : NC) (col : CC) (arr : (Nat → Int64)) (a1 : Int32) (a2 : Int32) (out : Int32 × RC × (Nat → Int64)) (hf : f_L_whyNoSum now res arr a1 a2 = some out) : xMW l yL_whyNoSum (xCW yL_whyNoSum cL_whyNoSum 5 (some .int) [(0, 10, 13, 19)]) { frames := 9, cells := 1, slots := 6, locals := 163 } g (wC g h now snap has hist ent res num col ++ [(ho, .inl (g.2.2.2.1, 1, .inr (.inl arr)))]) [.ref (h 0), .int a1, .int a2, .ref ho] (some (.int out.1)) (wC g h now snap has hist ent out.2.1 num col ++ [(ho, .inl (g.2.2.2.1, 1, .inr (.inl out.2.2)))]) := by
  refine xofW (by decide) (Nat.le_of_ble_eq_true rfl) ?_
  intro p e s m below meth c A ls E hr hlocks htab hX hNc hw hl hpost
  have hx := E.1.1
  have hb := E.1.2.1
  have hown := E.1.2.2.2.1
  have hts := E.1.2.2.2.2
  generalize hZ : (MQ below (xPost g (wC g h now snap has hist ent res num col ++ [(ho, .inl (g.2.2.2.1, 1, .inr (.inl arr)))]) (wC g h now snap has hist ent out.2.1 num col ++ [(ho, .inl (g.2.2.2.1, 1, .inr (.inl out.2.2)))]) s.heap.size (some (.int out.1))) [.ref (h 0), .int a1, .int a2, .ref ho].toArray s 1 6 A) = ZZ
  have hret : ∀ (pc : Nat) (H : Heap) (locs : List Loc) (ls : Array Slot) (cells slots : Nat) (v : Int32) (cres : RC) (carr : (Nat → Int64)), cells ≤ 1 → slots ≤ 6 → (v, cres, carr) = out → decode cL_whyNoSum pc = .ok (.ireturn, 1) → xW g A s.heap (wC g h now snap has hist ent cres num col ++ [(ho, .inl (g.2.2.2.1, 1, .inr (.inl carr)))]) H locs → W p l e { frames := 9, cells := 1, slots := 6, locals := 163 } s m [.ref (h 0), .int a1, .int a2, .ref ho].toArray below meth c H locs cells slots ZZ (F0 m pc ls [.int v]) := by
    intro pc H locs ls cells slots v cres carr hc hs he hd hw
    subst he
    rw [← hZ]
    exact W.widen hc hs (W.iret hx hb hr (hpost H locs hw).1 (hpost H locs hw).2 hd hlocks)
  clear hpost
  refine lv_aload_n hx hb dL_whyNoSum_0 rfl (lv_at hl 3 rfl) ?_
  refine lv_iconst (v := 0) hx hb dL_whyNoSum_1 (by decide) ?_
  refine lv_aload_n hx hb dL_whyNoSum_2 rfl (lv_at hl 0 rfl) ?_
  refine lv_iload_n hx hb dL_whyNoSum_3 rfl (lv_at hl 1 rfl) ?_
  refine lv_iload_n hx hb dL_whyNoSum_4 rfl (lv_at hl 2 rfl) ?_
  obtain ⟨v5, hv5, hf⟩ := ob_e hf
  rcases v5 with t5 | u5
  · replace hf := se_l hf
    refine xcallVX (ws' := (wC g h now snap has hist ent t5.2 num col ++ [(ho, .inl (g.2.2.2.1, 1, .inr (.inl arr)))])) (n := 35) E hX hw [.int a1, .int a2] [0, 1, 2, 3, 4, 5, 6, 7, 8, 9, 10, 11, 12, 13, 14, 15, 16, 17, 18, 19, 20, 21, 22, 23, 24, 25, 26, 27, 28, 29, 30, 31, 32, 33] (metx_X10_whyNoSum l hlT g h now snap has hist ent res num col a1 a2 t5 hv5) rfl (by decide) rfl rfl [35, 36, 37, 38, 39, 40, 41, 42, 43, 44, 45, 46, 47, 48, 49, 50, 51, 52, 53, 54, 55, 56, 57, 58, 59, 60, 61, 62, 63, 64, 65, 66, 67, 68, 34] rfl (by decide +kernel) rfl rfl rfl rfl qw1004 k_X10_whyNoSum ⟨rfl, rfl, Nat.le_of_ble_eq_true rfl, Nat.le_of_ble_eq_true rfl⟩ ⟨by decide, by decide⟩ hl.1 (Nat.le_of_ble_eq_true rfl) dL_whyNoSum_5 (fun H locs q ce hw hce hcv hcl => ?_)
    by_cases hk : t5.1 = 1
    · replace hf := ip hk hf
      have hcl : s.vm.findClass "java/lang/IndexOutOfBoundsException" = some ce.cls := by rw [hk] at hcl; exact hcl
      refine vx_catch (name := "java/lang/IndexOutOfBoundsException") hown [] ⟨0, 10, 13, 19⟩ [] (htab.trans rfl) (fun z hz => absurd hz List.not_mem_nil) (by decide) (by decide) (hts _ qw698) (xodd_args hX.2.2.2 _ (by decide)) hce hcv hcl ?_
      refine lv_astore (lv' := [(4, .ref q), (0, .ref (h 0)), (1, .int a1), (2, .int a2), (3, .ref ho)]) hx hb dL_whyNoSum_13 hl (by decide) rfl (fun ls hl => ?_)
      refine lv_iconst (v := 1) hx hb dL_whyNoSum_15 (by decide) ?_
      exact hret _ _ _ _ _ _ _ _ _ (by decide) (by decide) (Option.some.inj hf) dL_whyNoSum_16 hw
    replace hf := iq hk hf
    exact nn hf
  · replace hf := se_r hf
    refine xcallV (ws' := (wC g h now snap has hist ent u5.2 num col ++ [(ho, .inl (g.2.2.2.1, 1, .inr (.inl arr)))])) (st1 := [.int u5.1, .int 0, .ref ho]) (n := 35) E hw [.int a1, .int a2] [0, 1, 2, 3, 4, 5, 6, 7, 8, 9, 10, 11, 12, 13, 14, 15, 16, 17, 18, 19, 20, 21, 22, 23, 24, 25, 26, 27, 28, 29, 30, 31, 32, 33] (met_X10_whyNoSum l g h now snap has hist ent res num col a1 a2 u5 hv5) rfl (by decide) rfl rfl [35, 36, 37, 38, 39, 40, 41, 42, 43, 44, 45, 46, 47, 48, 49, 50, 51, 52, 53, 54, 55, 56, 57, 58, 59, 60, 61, 62, 63, 64, 65, 66, 67, 68, 34] rfl (by decide +kernel) rfl rfl rfl rfl qw1004 k_X10_whyNoSum ⟨rfl, rfl, Nat.le_of_ble_eq_true rfl, Nat.le_of_ble_eq_true rfl⟩ ⟨Nat.zero_le _, Nat.zero_le _⟩ hl.1 (Nat.le_of_ble_eq_true rfl) dL_whyNoSum_5 rfl (fun H locs hw => ?_)
    refine lv_i2l hx hb dL_whyNoSum_8 rfl ?_
    refine xlast (ws' := (wC g h now snap has hist ent u5.2 num col ++ [(ho, .inl (g.2.2.2.1, 1, .inr (.inl (vp_updL arr (0 : Int32).toNatClampNeg u5.1.toInt64))))])) E hw 34 rfl (by decide) dL_whyNoSum_9 rfl (fun H locs hw => ?_)
    refine lv_goto (tgt := 17) hx hb dL_whyNoSum_10 (by decide) ?_
    refine lv_iconst (v := 0) hx hb dL_whyNoSum_17 (by decide) ?_
    exact hret _ _ _ _ _ _ _ _ _ (by decide) (by decide) (Option.some.inj hf) dL_whyNoSum_18 hw
theorem k_L_periodOfSum : xKW yL_periodOfSum cL_periodOfSum 5 (some .int) [(0, 10, 13, 19)] 4 := ⟨qw1006, qw65, qw1007, by decide +kernel, by decide +kernel, by decide +kernel⟩
set_option maxHeartbeats 4000000 in
set_option maxRecDepth 100000 in
theorem met_L_periodOfSum (l : Launch) (hlT : l.stackTraces = false) (g : xG) (h : Nat → Nat) (ho : Nat) (now : SC) (snap : SC) (has : Int32) (hist : HC) (ent : EC) (res : RC) (num : NC) (col : CC) (arr : (Nat → Int64)) (a1 : Int32) (a2 : Int32) (out : Int32 × RC × (Nat → Int64)) (hf : f_L_periodOfSum now res arr a1 a2 = some out) : xMW l yL_periodOfSum (xCW yL_periodOfSum cL_periodOfSum 5 (some .int) [(0, 10, 13, 19)]) { frames := 9, cells := 1, slots := 6, locals := 163 } g (wC g h now snap has hist ent res num col ++ [(ho, .inl (g.2.2.2.1, 1, .inr (.inl arr)))]) [.ref (h 0), .int a1, .int a2, .ref ho] (some (.int out.1)) (wC g h now snap has hist ent out.2.1 num col ++ [(ho, .inl (g.2.2.2.1, 1, .inr (.inl out.2.2)))]) := by
  refine xofW (by decide) (Nat.le_of_ble_eq_true rfl) ?_
  intro p e s m below meth c A ls E hr hlocks htab hX hNc hw hl hpost
  have hx := E.1.1
  have hb := E.1.2.1
  have hown := E.1.2.2.2.1
  have hts := E.1.2.2.2.2
  generalize hZ : (MQ below (xPost g (wC g h now snap has hist ent res num col ++ [(ho, .inl (g.2.2.2.1, 1, .inr (.inl arr)))]) (wC g h now snap has hist ent out.2.1 num col ++ [(ho, .inl (g.2.2.2.1, 1, .inr (.inl out.2.2)))]) s.heap.size (some (.int out.1))) [.ref (h 0), .int a1, .int a2, .ref ho].toArray s 1 6 A) = ZZ
  have hret : ∀ (pc : Nat) (H : Heap) (locs : List Loc) (ls : Array Slot) (cells slots : Nat) (v : Int32) (cres : RC) (carr : (Nat → Int64)), cells ≤ 1 → slots ≤ 6 → (v, cres, carr) = out → decode cL_periodOfSum pc = .ok (.ireturn, 1) → xW g A s.heap (wC g h now snap has hist ent cres num col ++ [(ho, .inl (g.2.2.2.1, 1, .inr (.inl carr)))]) H locs → W p l e { frames := 9, cells := 1, slots := 6, locals := 163 } s m [.ref (h 0), .int a1, .int a2, .ref ho].toArray below meth c H locs cells slots ZZ (F0 m pc ls [.int v]) := by
    intro pc H locs ls cells slots v cres carr hc hs he hd hw
    subst he
    rw [← hZ]
    exact W.widen hc hs (W.iret hx hb hr (hpost H locs hw).1 (hpost H locs hw).2 hd hlocks)
  clear hpost
  refine lv_aload_n hx hb dL_periodOfSum_0 rfl (lv_at hl 3 rfl) ?_
  refine lv_iconst (v := 0) hx hb dL_periodOfSum_1 (by decide) ?_
  refine lv_aload_n hx hb dL_periodOfSum_2 rfl (lv_at hl 0 rfl) ?_
  refine lv_iload_n hx hb dL_periodOfSum_3 rfl (lv_at hl 1 rfl) ?_
  refine lv_iload_n hx hb dL_periodOfSum_4 rfl (lv_at hl 2 rfl) ?_
  obtain ⟨v5, hv5, hf⟩ := ob_e hf
  rcases v5 with t5 | u5
  · replace hf := se_l hf
    refine xcallVX (ws' := (wC g h now snap has hist ent t5.2 num col ++ [(ho, .inl (g.2.2.2.1, 1, .inr (.inl arr)))])) (n := 35) E hX hw [.int a1, .int a2] [0, 1, 2, 3, 4, 5, 6, 7, 8, 9, 10, 11, 12, 13, 14, 15, 16, 17, 18, 19, 20, 21, 22, 23, 24, 25, 26, 27, 28, 29, 30, 31, 32, 33] (metx_X10_periodOfSum l hlT g h now snap has hist ent res num col a1 a2 t5 hv5) rfl (by decide) rfl rfl [35, 36, 37, 38, 39, 40, 41, 42, 43, 44, 45, 46, 47, 48, 49, 50, 51, 52, 53, 54, 55, 56, 57, 58, 59, 60, 61, 62, 63, 64, 65, 66, 67, 68, 34] rfl (by decide +kernel) rfl rfl rfl rfl qw1008 k_X10_periodOfSum ⟨rfl, rfl, Nat.le_of_ble_eq_true rfl, Nat.le_of_ble_eq_true rfl⟩ ⟨by decide, by decide⟩ hl.1 (Nat.le_of_ble_eq_true rfl) dL_periodOfSum_5 (fun H locs q ce hw hce hcv hcl => ?_)
    by_cases hk : t5.1 = 1
    · replace hf := ip hk hf
      have hcl : s.vm.findClass "java/lang/IndexOutOfBoundsException" = some ce.cls := by rw [hk] at hcl; exact hcl
      refine vx_catch (name := "java/lang/IndexOutOfBoundsException") hown [] ⟨0, 10, 13, 19⟩ [] (htab.trans rfl) (fun z hz => absurd hz List.not_mem_nil) (by decide) (by decide) (hts _ qw698) (xodd_args hX.2.2.2 _ (by decide)) hce hcv hcl ?_
      refine lv_astore (lv' := [(4, .ref q), (0, .ref (h 0)), (1, .int a1), (2, .int a2), (3, .ref ho)]) hx hb dL_periodOfSum_13 hl (by decide) rfl (fun ls hl => ?_)
      refine lv_iconst (v := 1) hx hb dL_periodOfSum_15 (by decide) ?_
      exact hret _ _ _ _ _ _ _ _ _ (by decide) (by decide) (Option.some.inj hf) dL_periodOfSum_16 hw
    replace hf := iq hk hf
    exact nn hf
  · replace hf := se_r hf
    refine xcallV (ws' := (wC g h now snap has hist ent u5.2 num col ++ [(ho, .inl (g.2.2.2.1, 1, .inr (.inl arr)))])) (st1 := [.int u5.1, .int 0, .ref ho]) (n := 35) E hw [.int a1, .int a2] [0, 1, 2, 3, 4, 5, 6, 7, 8, 9, 10, 11, 12, 13, 14, 15, 16, 17, 18, 19, 20, 21, 22, 23, 24, 25, 26, 27, 28, 29, 30, 31, 32, 33] (met_X10_periodOfSum l g h now snap has hist ent res num col a1 a2 u5 hv5) rfl (by decide) rfl rfl [35, 36, 37, 38, 39, 40, 41, 42, 43, 44, 45, 46, 47, 48, 49, 50, 51, 52, 53, 54, 55, 56, 57, 58, 59, 60, 61, 62, 63, 64, 65, 66, 67, 68, 34] rfl (by decide +kernel) rfl rfl rfl rfl qw1008 k_X10_periodOfSum ⟨rfl, rfl, Nat.le_of_ble_eq_true rfl, Nat.le_of_ble_eq_true rfl⟩ ⟨Nat.zero_le _, Nat.zero_le _⟩ hl.1 (Nat.le_of_ble_eq_true rfl) dL_periodOfSum_5 rfl (fun H locs hw => ?_)
    refine lv_i2l hx hb dL_periodOfSum_8 rfl ?_
    refine xlast (ws' := (wC g h now snap has hist ent u5.2 num col ++ [(ho, .inl (g.2.2.2.1, 1, .inr (.inl (vp_updL arr (0 : Int32).toNatClampNeg u5.1.toInt64))))])) E hw 34 rfl (by decide) dL_periodOfSum_9 rfl (fun H locs hw => ?_)
    refine lv_goto (tgt := 17) hx hb dL_periodOfSum_10 (by decide) ?_
    refine lv_iconst (v := 0) hx hb dL_periodOfSum_17 (by decide) ?_
    exact hret _ _ _ _ _ _ _ _ _ (by decide) (by decide) (Option.some.inj hf) dL_periodOfSum_18 hw
theorem k_L_shareOf : xKW yL_shareOf cL_shareOf 4 (some .int) [(0, 8, 11, 19)] 3 := ⟨qw1010, qw65, qw1011, by decide +kernel, by decide +kernel, by decide +kernel⟩
set_option maxHeartbeats 4000000 in
set_option maxRecDepth 100000 in
theorem met_L_shareOf (l : Launch) (hlT : l.stackTraces = false) (g : xG) (h : Nat → Nat) (ho : Nat) (now : SC) (snap : SC) (has : Int32) (hist : HC) (ent : EC) (res : RC) (num : NC) (col : CC) (arr : (Nat → UInt64)) (a1 : Int32) (out : Int32 × (Nat → UInt64)) (hf : f_L_shareOf now arr a1 = some out) : xMW l yL_shareOf (xCW yL_shareOf cL_shareOf 4 (some .int) [(0, 8, 11, 19)]) { frames := 8, cells := 1, slots := 6, locals := 144 } g (wC g h now snap has hist ent res num col ++ [(ho, .inl (g.2.2.2.2, 1, .inr (.inr (.inr (.inl arr)))))]) [.ref (h 0), .int a1, .ref ho] (some (.int out.1)) (wC g h now snap has hist ent res num col ++ [(ho, .inl (g.2.2.2.2, 1, .inr (.inr (.inr (.inl out.2)))))]) := by
  refine xofW (by decide) (Nat.le_of_ble_eq_true rfl) ?_
  intro p e s m below meth c A ls E hr hlocks htab hX hNc hw hl hpost
  have hx := E.1.1
  have hb := E.1.2.1
  have hown := E.1.2.2.2.1
  have hts := E.1.2.2.2.2
  generalize hZ : (MQ below (xPost g (wC g h now snap has hist ent res num col ++ [(ho, .inl (g.2.2.2.2, 1, .inr (.inr (.inr (.inl arr)))))]) (wC g h now snap has hist ent res num col ++ [(ho, .inl (g.2.2.2.2, 1, .inr (.inr (.inr (.inl out.2)))))]) s.heap.size (some (.int out.1))) [.ref (h 0), .int a1, .ref ho].toArray s 1 6 A) = ZZ
  have hret : ∀ (pc : Nat) (H : Heap) (locs : List Loc) (ls : Array Slot) (cells slots : Nat) (v : Int32) (carr : (Nat → UInt64)), cells ≤ 1 → slots ≤ 6 → (v, carr) = out → decode cL_shareOf pc = .ok (.ireturn, 1) → xW g A s.heap (wC g h now snap has hist ent res num col ++ [(ho, .inl (g.2.2.2.2, 1, .inr (.inr (.inr (.inl carr)))))]) H locs → W p l e { frames := 8, cells := 1, slots := 6, locals := 144 } s m [.ref (h 0), .int a1, .ref ho].toArray below meth c H locs cells slots ZZ (F0 m pc ls [.int v]) := by
    intro pc H locs ls cells slots v carr hc hs he hd hw
    subst he
    rw [← hZ]
    exact W.widen hc hs (W.iret hx hb hr (hpost H locs hw).1 (hpost H locs hw).2 hd hlocks)
  clear hpost
  refine lv_aload_n hx hb dL_shareOf_0 rfl (lv_at hl 2 rfl) ?_
  refine lv_iconst (v := 0) hx hb dL_shareOf_1 (by decide) ?_
  refine lv_aload_n hx hb dL_shareOf_2 rfl (lv_at hl 0 rfl) ?_
  refine lv_iload_n hx hb dL_shareOf_3 rfl (lv_at hl 1 rfl) ?_
  obtain ⟨v4, hv4, hf⟩ := ob_e hf
  rcases v4 with t4 | u4
  · replace hf := se_l hf
    refine xcallVX (ws' := (wC g h now snap has hist ent res num col ++ [(ho, .inl (g.2.2.2.2, 1, .inr (.inr (.inr (.inl arr)))))])) (n := 35) E hX hw [.int a1] [0, 1, 2, 3, 4, 5, 6, 7, 8, 9, 10, 11, 12, 13, 14, 15, 16, 17, 18, 19, 20, 21, 22, 23, 24, 25, 26, 27, 28, 29, 30, 31, 32, 33] (metx_X10_shareOf l hlT g h now snap has hist ent res num col a1 t4 hv4) rfl (by decide) rfl rfl [35, 36, 37, 38, 39, 40, 41, 42, 43, 44, 45, 46, 47, 48, 49, 50, 51, 52, 53, 54, 55, 56, 57, 58, 59, 60, 61, 62, 63, 64, 65, 66, 67, 68, 34] rfl (by decide +kernel) rfl rfl rfl rfl qw1012 k_X10_shareOf ⟨rfl, rfl, Nat.le_of_ble_eq_true rfl, Nat.le_of_ble_eq_true rfl⟩ ⟨by decide, by decide⟩ hl.1 (Nat.le_of_ble_eq_true rfl) dL_shareOf_4 (fun H locs q ce hw hce hcv hcl => ?_)
    by_cases hk : t4 = 1
    · replace hf := ip hk hf
      have hcl : s.vm.findClass "java/lang/IndexOutOfBoundsException" = some ce.cls := by rw [hk] at hcl; exact hcl
      refine vx_catch (name := "java/lang/IndexOutOfBoundsException") hown [] ⟨0, 8, 11, 19⟩ [] (htab.trans rfl) (fun z hz => absurd hz List.not_mem_nil) (by decide) (by decide) (hts _ qw698) (xodd_args hX.2.2.2 _ (by decide)) hce hcv hcl ?_
      refine lv_astore_n (lv' := [(3, .ref q), (0, .ref (h 0)), (1, .int a1), (2, .ref ho)]) hx hb dL_shareOf_11 rfl hl (by decide) rfl (fun ls hl => ?_)
      refine lv_iconst (v := 1) hx hb dL_shareOf_12 (by decide) ?_
      exact hret _ _ _ _ _ _ _ _ (by decide) (by decide) (Option.some.inj hf) dL_shareOf_13 hw
    replace hf := iq hk hf
    exact nn hf
  · replace hf := se_r hf
    refine xcallV (ws' := (wC g h now snap has hist ent res num col ++ [(ho, .inl (g.2.2.2.2, 1, .inr (.inr (.inr (.inl arr)))))])) (st1 := [.double u4, .int 0, .ref ho]) (n := 35) E hw [.int a1] [0, 1, 2, 3, 4, 5, 6, 7, 8, 9, 10, 11, 12, 13, 14, 15, 16, 17, 18, 19, 20, 21, 22, 23, 24, 25, 26, 27, 28, 29, 30, 31, 32, 33] (met_X10_shareOf l g h now snap has hist ent res num col a1 u4 hv4) rfl (by decide) rfl rfl [35, 36, 37, 38, 39, 40, 41, 42, 43, 44, 45, 46, 47, 48, 49, 50, 51, 52, 53, 54, 55, 56, 57, 58, 59, 60, 61, 62, 63, 64, 65, 66, 67, 68, 34] rfl (by decide +kernel) rfl rfl rfl rfl qw1012 k_X10_shareOf ⟨rfl, rfl, Nat.le_of_ble_eq_true rfl, Nat.le_of_ble_eq_true rfl⟩ ⟨Nat.zero_le _, Nat.zero_le _⟩ hl.1 (Nat.le_of_ble_eq_true rfl) dL_shareOf_4 rfl (fun H locs hw => ?_)
    refine xdast (ws' := (wC g h now snap has hist ent res num col ++ [(ho, .inl (g.2.2.2.2, 1, .inr (.inr (.inr (.inl (vf_upd arr (0 : Int32).toNatClampNeg u4))))))])) E hw 34 rfl (by decide) dL_shareOf_7 rfl (fun H locs hw => ?_)
    refine lv_goto (tgt := 14) hx hb dL_shareOf_8 (by decide) ?_
    refine lv_iconst (v := 0) hx hb dL_shareOf_14 (by decide) ?_
    exact hret _ _ _ _ _ _ _ _ (by decide) (by decide) (Option.some.inj hf) dL_shareOf_15 hw
