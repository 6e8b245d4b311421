theorem k_X10_longestChain : xKV yX10_longestChain cX10_longestChain 3 (some .int) 2 := ⟨qw980, qw981, qw66, qw982, by decide +kernel, by decide +kernel, by decide +kernel⟩
set_option maxHeartbeats 4000000 in
set_option maxRecDepth 100000 in
theorem met_X10_longestChain (l : Launch) (g : xG) (h : Nat → Nat) (now : SC) (snap : SC) (has : Int32) (hist : HC) (ent : EC) (res : RC) (num : NC) (col : CC) (a1 : Int32) (a2 : Int32) (out : Int32 × CC) (hf : f_X10_longestChain now col a1 a2 = some (Sum.inr out)) : xM l yX10_longestChain (xC yX10_longestChain cX10_longestChain 3 (some .int)) { frames := 4, cells := 0, slots := 0, locals := 103 } g (wC g h now snap has hist ent res num col) [.ref (h 0), .int a1, .int a2] (some (.int out.1)) (wC g h now snap has hist ent res num out.2) := by
  refine xof (by decide) (Nat.le_of_ble_eq_true rfl) ⟨rfl, rfl⟩ ?_
  intro p e s m below meth c A ls E hr hlocks hw hl hpost hAe
  have hx := E.1.1
  have hb := E.1.2.1
  have hown := E.1.2.2.2.1
  have hts := E.1.2.2.2.2
  generalize hZ : (MQ below (xPost g (wC g h now snap has hist ent res num col) (wC g h now snap has hist ent res num out.2) s.heap.size (some (.int out.1))) [.ref (h 0), .int a1, .int a2].toArray s 0 0 A) = ZZ
  have hret : ∀ (pc : Nat) (H : Heap) (locs : List Loc) (ls : Array Slot) (v : Int32) (ccol : CC), (v, ccol) = out → decode cX10_longestChain pc = .ok (.ireturn, 1) → xW g A s.heap (wC g h now snap has hist ent res num ccol) H locs → W p l e { frames := 4, cells := 0, slots := 0, locals := 103 } s m [.ref (h 0), .int a1, .int a2].toArray below meth c H locs 0 0 ZZ (F0 m pc ls [.int v]) := by
    intro pc H locs ls v ccol he hd hw
    subst he
    rw [← hZ]
    exact W.iret hx hb hr (hpost H locs hw).1 (hpost H locs hw).2 hd hlocks
  clear hpost
  refine lv_iload_n hx hb dX10_longestChain_0 rfl (lv_at hl 1 rfl) ?_
  refine lv_iload_n hx hb dX10_longestChain_1 rfl (lv_at hl 2 rfl) ?_
  obtain ⟨v2, hv2, hf⟩ := ob_e hf
  rcases v2 with t2 | u2
  · exact nlr hf
  · refine xcallS (ws' := (wC g h now snap has hist ent res num col)) (st1 := []) (n := 34) E hw [.int a1, .int a2] [] (met_X10_requireAccounts l g a1 a2 u2 hv2) rfl (by decide) rfl rfl [0, 1, 2, 3, 4, 5, 6, 7, 8, 9, 10, 11, 12, 13, 14, 15, 16, 17, 18, 19, 20, 21, 22, 23, 24, 25, 26, 27, 28, 29, 30, 31, 32, 33] rfl (by decide +kernel) rfl qw631 k_X10_requireAccounts ⟨rfl, rfl, Nat.le_of_ble_eq_true rfl, Nat.le_of_ble_eq_true rfl⟩ ⟨Nat.zero_le _, Nat.zero_le _⟩ hl.1 (Nat.le_of_ble_eq_true rfl) dX10_longestChain_2 rfl (fun H locs hw => ?_)
    refine lv_aload_n hx hb dX10_longestChain_5 rfl (lv_at hl 0 rfl) ?_
    refine lv_iload_n hx hb dX10_longestChain_6 rfl (lv_at hl 1 rfl) ?_
    refine lv_iload_n hx hb dX10_longestChain_7 rfl (lv_at hl 2 rfl) ?_
    obtain ⟨v8, hv8, hf⟩ := ob_e hf
    refine xcallV (ws' := (wC g h now snap has hist ent res num v8)) (st1 := []) (n := 34) E hw [.int a1, .int a2] [0, 1, 2, 3, 4, 5, 6, 7, 8, 9, 10, 11, 12, 13, 14, 15, 16, 17, 18, 19, 20, 21, 22, 23, 24, 25, 26, 27, 28, 29, 30, 31, 32, 33] (met_X10_formColumns l g h now snap has hist ent res num col a1 a2 v8 hv8) rfl (by decide) rfl rfl [34, 35, 36, 37, 38, 39, 40, 41, 42, 43, 44, 45, 46, 47, 48, 49, 50, 51, 52, 53, 54, 55, 56, 57, 58, 59, 60, 61, 62, 63, 64, 65, 66, 67] rfl (by decide +kernel) rfl rfl rfl rfl qw604 k_X10_formColumns ⟨rfl, rfl, Nat.le_of_ble_eq_true rfl, Nat.le_of_ble_eq_true rfl⟩ ⟨Nat.zero_le _, Nat.zero_le _⟩ hl.1 (Nat.le_of_ble_eq_true rfl) dX10_longestChain_8 rfl (fun H locs hw => ?_)
    refine lv_aload_n hx hb dX10_longestChain_11 rfl (lv_at hl 0 rfl) ?_
    refine xget (v := .ref (h 32)) E hw 0 rfl rfl 7 (by decide) inw10 qw253 rfl rfl dX10_longestChain_12 ?_
    refine xget (v := .int v8.2.2.1) E hw 32 rfl rfl 2 (by decide) inw1 qw235 rfl rfl dX10_longestChain_15 ?_
    exact hret _ _ _ _ _ _ (jr hf) dX10_longestChain_18 hw
set_option maxHeartbeats 4000000 in
set_option maxRecDepth 100000 in
theorem metx_X10_longestChain (l : Launch) (hlT : l.stackTraces = false) (g : xG) (h : Nat → Nat) (now : SC) (snap : SC) (has : Int32) (hist : HC) (ent : EC) (res : RC) (num : NC) (col : CC) (a1 : Int32) (a2 : Int32) (out : Nat × CC) (hf : f_X10_longestChain now col a1 a2 = some (Sum.inl out)) : xMX l yX10_longestChain (xC yX10_longestChain cX10_longestChain 3 (some .int)) { frames := 8, cells := 1, slots := 6, locals := 141 } g (wC g h now snap has hist ent res num col) [.ref (h 0), .int a1, .int a2] (xEx out.1) (wC g h now snap has hist ent res num out.2) := by
  refine xofX (by decide) (Nat.le_of_ble_eq_true rfl) ⟨rfl, rfl⟩ ?_
  intro p e s m below meth c A ls E hlocks htab hX hw hl hpost
  have hx := E.1.1
  have hb := E.1.2.1
  have hown := E.1.2.2.2.1
  have hts := E.1.2.2.2.2
  have hx9 : ∀ (H : Heap) (locs : List Loc) (kx : Nat) (ccol : CC), (kx, ccol) = out → xW g A s.heap (wC g h now snap has hist ent res num ccol) H locs → ∀ t : State, s.vm.Alike t.vm → H.size ≤ t.heap.size → (∀ q : Nat, q < H.size → t.heap[q]? = H[q]?) → xPostX g (wC g h now snap has hist ent res num col) (wC g h now snap has hist ent res num out.2) s.heap.size (xEx out.1) (xEx kx) s t := by
    intro H locs kx ccol he hw t h1 h2 h3
    subst he
    exact (hpost H locs hw).1 t h1 h2 h3
  have hx8 : ∀ (H : Heap) (locs : List Loc) (kx : Nat) (ccol : CC), (kx, ccol) = out → xW g A s.heap (wC g h now snap has hist ent res num ccol) H locs → ∀ z ∈ locs, A z.base := by
    intro H locs kx ccol he hw
    subst he
    exact (hpost H locs hw).2
  clear hpost
  generalize hZ : (vx_MQ below (fun _ _ _ _ => False) (xPostX g (wC g h now snap has hist ent res num col) (wC g h now snap has hist ent res num out.2) s.heap.size (xEx out.1)) [.ref (h 0), .int a1, .int a2].toArray s 1 6 A) = ZZ
  have hprop : ∀ (pc : Nat) (H : Heap) (locs : List Loc) (ls : Array Slot) (rest : List Value) (q : Nat) (ce : Cell) (kx : Nat) (ccol : CC), (kx, ccol) = out → xW g A s.heap (wC g h now snap has hist ent res num ccol) H locs → H[q]? = some ce → ce.vm = .none → s.vm.findClass (xEx kx) = some ce.cls → vx_W p l e { frames := 8, cells := 1, slots := 6, locals := 141 } s m [.ref (h 0), .int a1, .int a2].toArray below meth c H locs (0 + 1) (0 + 6) ZZ (F0 m pc ls rest) q := by
    intro pc H locs ls rest q ce kx ccol he hw hce hcv hcl
    rw [← hZ]
    exact vx_out (fun x hx => (htab x hx).elim) hlocks hce hcv hcl (fun t ht hW => hx9 H locs kx ccol he hw t hW (by rw [ht]; exact Nat.le_refl _) (fun q _ => by rw [ht])) (hx8 H locs kx ccol he hw) (Nat.le_refl _) (Nat.le_refl _)
  refine lv_iload_n hx hb dX10_longestChain_0 rfl (lv_at hl 1 rfl) ?_
  refine lv_iload_n hx hb dX10_longestChain_1 rfl (lv_at hl 2 rfl) ?_
  obtain ⟨v2, hv2, hf⟩ := ob_e hf
  rcases v2 with t2 | u2
  · refine xcallSX (ws' := (wC g h now snap has hist ent res num col)) (n := 34) E hX hw [.int a1, .int a2] [] (metx_X10_requireAccounts l hlT g a1 a2 t2 hv2) rfl (by decide) rfl rfl [0, 1, 2, 3, 4, 5, 6, 7, 8, 9, 10, 11, 12, 13, 14, 15, 16, 17, 18, 19, 20, 21, 22, 23, 24, 25, 26, 27, 28, 29, 30, 31, 32, 33] rfl (by decide +kernel) rfl qw631 k_X10_requireAccounts ⟨rfl, rfl, Nat.le_of_ble_eq_true rfl, Nat.le_of_ble_eq_true rfl⟩ ⟨by decide, by decide⟩ hl.1 (Nat.le_of_ble_eq_true rfl) dX10_longestChain_2 (fun H locs q ce hw hce hcv hcl => ?_)
    exact hprop _ _ _ _ _ _ _ _ _ (jl hf) hw hce hcv hcl
  · refine xcallS (ws' := (wC g h now snap has hist ent res num col)) (st1 := []) (n := 34) E hw [.int a1, .int a2] [] (met_X10_requireAccounts l g a1 a2 u2 hv2) rfl (by decide) rfl rfl [0, 1, 2, 3, 4, 5, 6, 7, 8, 9, 10, 11, 12, 13, 14, 15, 16, 17, 18, 19, 20, 21, 22, 23, 24, 25, 26, 27, 28, 29, 30, 31, 32, 33] rfl (by decide +kernel) rfl qw631 k_X10_requireAccounts ⟨rfl, rfl, Nat.le_of_ble_eq_true rfl, Nat.le_of_ble_eq_true rfl⟩ ⟨Nat.zero_le _, Nat.zero_le _⟩ hl.1 (Nat.le_of_ble_eq_true rfl) dX10_longestChain_2 rfl (fun H locs hw => ?_)
    refine lv_aload_n hx hb dX10_longestChain_5 rfl (lv_at hl 0 rfl) ?_
    refine lv_iload_n hx hb dX10_longestChain_6 rfl (lv_at hl 1 rfl) ?_
    refine lv_iload_n hx hb dX10_longestChain_7 rfl (lv_at hl 2 rfl) ?_
    obtain ⟨v8, hv8, hf⟩ := ob_e hf
    refine xcallV (ws' := (wC g h now snap has hist ent res num v8)) (st1 := []) (n := 34) E hw [.int a1, .int a2] [0, 1, 2, 3, 4, 5, 6, 7, 8, 9, 10, 11, 12, 13, 14, 15, 16, 17, 18, 19, 20, 21, 22, 23, 24, 25, 26, 27, 28, 29, 30, 31, 32, 33] (met_X10_formColumns l g h now snap has hist ent res num col a1 a2 v8 hv8) rfl (by decide) rfl rfl [34, 35, 36, 37, 38, 39, 40, 41, 42, 43, 44, 45, 46, 47, 48, 49, 50, 51, 52, 53, 54, 55, 56, 57, 58, 59, 60, 61, 62, 63, 64, 65, 66, 67] rfl (by decide +kernel) rfl rfl rfl rfl qw604 k_X10_formColumns ⟨rfl, rfl, Nat.le_of_ble_eq_true rfl, Nat.le_of_ble_eq_true rfl⟩ ⟨Nat.zero_le _, Nat.zero_le _⟩ hl.1 (Nat.le_of_ble_eq_true rfl) dX10_longestChain_8 rfl (fun H locs hw => ?_)
    refine lv_aload_n hx hb dX10_longestChain_11 rfl (lv_at hl 0 rfl) ?_
    refine xget (v := .ref (h 32)) E hw 0 rfl rfl 7 (by decide) inw10 qw253 rfl rfl dX10_longestChain_12 ?_
    refine xget (v := .int v8.2.2.1) E hw 32 rfl rfl 2 (by decide) inw1 qw235 rfl rfl dX10_longestChain_15 ?_
    exact nrl hf
theorem k_X10_sumDigit : xKV yX10_sumDigit cX10_sumDigit 4 (some .int) 3 := ⟨qw987, qw988, qw66, qw989, by decide +kernel, by decide +kernel, by decide +kernel⟩
set_option maxHeartbeats 4000000 in
set_option maxRecDepth 100000 in
theorem met_X10_sumDigit (l : Launch) (g : xG) (h : Nat → Nat) (now : SC) (snap : SC) (has : Int32) (hist : HC) (ent : EC) (res : RC) (num : NC) (col : CC) (a1 : Int32) (a2 : Int32) (a3 : Int32) (out : Int32 × CC) (hf : f_X10_sumDigit now col a1 a2 a3 = some (Sum.inr out)) : xM l yX10_sumDigit (xC yX10_sumDigit cX10_sumDigit 4 (some .int)) { frames := 4, cells := 0, slots := 0, locals := 103 } g (wC g h now snap has hist ent res num col) [.ref (h 0), .int a1, .int a2, .int a3] (some (.int out.1)) (wC g h now snap has hist ent res num out.2) := by
  refine xof (by decide) (Nat.le_of_ble_eq_true rfl) ⟨rfl, rfl⟩ ?_
  intro p e s m below meth c A ls E hr hlocks hw hl hpost hAe
  have hx := E.1.1
  have hb := E.1.2.1
  have hown := E.1.2.2.2.1
  have hts := E.1.2.2.2.2
  generalize hZ : (MQ below (xPost g (wC g h now snap has hist ent res num col) (wC g h now snap has hist ent res num out.2) s.heap.size (some (.int out.1))) [.ref (h 0), .int a1, .int a2, .int a3].toArray s 0 0 A) = ZZ
  have hret : ∀ (pc : Nat) (H : Heap) (locs : List Loc) (ls : Array Slot) (v : Int32) (ccol : CC), (v, ccol) = out → decode cX10_sumDigit pc = .ok (.ireturn, 1) → xW g A s.heap (wC g h now snap has hist ent res num ccol) H locs → W p l e { frames := 4, cells := 0, slots := 0, locals := 103 } s m [.ref (h 0), .int a1, .int a2, .int a3].toArray below meth c H locs 0 0 ZZ (F0 m pc ls [.int v]) := by
    intro pc H locs ls v ccol he hd hw
    subst he
    rw [← hZ]
    exact W.iret hx hb hr (hpost H locs hw).1 (hpost H locs hw).2 hd hlocks
  clear hpost
  have b26 : ∀ (H : Heap) (locs : List Loc) (ls : Array Slot) (col : CC), xW g A s.heap (wC g h now snap has hist ent res num col) H locs → lv_has ls 4 [] → f_X10_sumDigit_b26 now col = some (Sum.inr out) → W p l e { frames := 4, cells := 0, slots := 0, locals := 103 } s m [.ref (h 0), .int a1, .int a2, .int a3].toArray below meth c H locs 0 0 ZZ (F0 m 26 ls []) := by
    intro H locs ls col hw hl hf
    exact nlr hf
  refine lv_iload_n hx hb dX10_sumDigit_0 rfl (lv_at hl 1 rfl) ?_
  refine lv_iload_n hx hb dX10_sumDigit_1 rfl (lv_at hl 2 rfl) ?_
  obtain ⟨v2, hv2, hf⟩ := ob_e hf
  rcases v2 with t2 | u2
  · exact nlr hf
  · refine xcallS (ws' := (wC g h now snap has hist ent res num col)) (st1 := []) (n := 34) E hw [.int a1, .int a2] [] (met_X10_requireAccounts l g a1 a2 u2 hv2) rfl (by decide) rfl rfl [0, 1, 2, 3, 4, 5, 6, 7, 8, 9, 10, 11, 12, 13, 14, 15, 16, 17, 18, 19, 20, 21, 22, 23, 24, 25, 26, 27, 28, 29, 30, 31, 32, 33] rfl (by decide +kernel) rfl qw631 k_X10_requireAccounts ⟨rfl, rfl, Nat.le_of_ble_eq_true rfl, Nat.le_of_ble_eq_true rfl⟩ ⟨Nat.zero_le _, Nat.zero_le _⟩ hl.1 (Nat.le_of_ble_eq_true rfl) dX10_sumDigit_2 rfl (fun H locs hw => ?_)
    refine lv_aload_n hx hb dX10_sumDigit_5 rfl (lv_at hl 0 rfl) ?_
    refine lv_iload_n hx hb dX10_sumDigit_6 rfl (lv_at hl 1 rfl) ?_
    refine lv_iload_n hx hb dX10_sumDigit_7 rfl (lv_at hl 2 rfl) ?_
    obtain ⟨v8, hv8, hf⟩ := ob_e hf
    refine xcallV (ws' := (wC g h now snap has hist ent res num v8)) (st1 := []) (n := 34) E hw [.int a1, .int a2] [0, 1, 2, 3, 4, 5, 6, 7, 8, 9, 10, 11, 12, 13, 14, 15, 16, 17, 18, 19, 20, 21, 22, 23, 24, 25, 26, 27, 28, 29, 30, 31, 32, 33] (met_X10_formColumns l g h now snap has hist ent res num col a1 a2 v8 hv8) rfl (by decide) rfl rfl [34, 35, 36, 37, 38, 39, 40, 41, 42, 43, 44, 45, 46, 47, 48, 49, 50, 51, 52, 53, 54, 55, 56, 57, 58, 59, 60, 61, 62, 63, 64, 65, 66, 67] rfl (by decide +kernel) rfl rfl rfl rfl qw604 k_X10_formColumns ⟨rfl, rfl, Nat.le_of_ble_eq_true rfl, Nat.le_of_ble_eq_true rfl⟩ ⟨Nat.zero_le _, Nat.zero_le _⟩ hl.1 (Nat.le_of_ble_eq_true rfl) dX10_sumDigit_8 rfl (fun H locs hw => ?_)
    refine lv_iload_n hx hb dX10_sumDigit_11 rfl (lv_at hl 3 rfl) ?_
    refine lv_if_lt (tgt := 26) hx hb dX10_sumDigit_12 (by decide) (fun c12 => ?_) (fun c12 => ?_)
    · replace hf := ip c12 hf
      exact b26 _ _ _ v8 hw (lv_sub hl [] rfl) hf
    · replace hf := iq c12 hf
      refine lv_iload_n hx hb dX10_sumDigit_15 rfl (lv_at hl 3 rfl) ?_
      refine lv_aload_n hx hb dX10_sumDigit_16 rfl (lv_at hl 0 rfl) ?_
      refine xget (v := .ref (h 32)) E hw 0 rfl rfl 7 (by decide) inw10 qw253 rfl rfl dX10_sumDigit_17 ?_
      refine xget (v := .int v8.1) E hw 32 rfl rfl 0 (by decide) inw1 qw231 rfl rfl dX10_sumDigit_20 ?_
      refine lv_icmp_lt (tgt := 37) hx hb dX10_sumDigit_23 (by decide) (fun c23 => ?_) (fun c23 => ?_)
      · replace hf := ip c23 hf
        refine lv_aload_n hx hb dX10_sumDigit_37 rfl (lv_at hl 0 rfl) ?_
        refine xget (v := .ref (h 32)) E hw 0 rfl rfl 7 (by decide) inw10 qw253 rfl rfl dX10_sumDigit_38 ?_
        refine lv_iload_n hx hb dX10_sumDigit_41 rfl (lv_at hl 3 rfl) ?_
        obtain ⟨v42, hv42, hf⟩ := ob_e hf
        refine xcallV (ws' := (wC g h now snap has hist ent res num v8)) (st1 := [.int v42]) (n := 34) E hw [.int a3] [32, 33] (met_X1_digitAt l g h 32 v8 a3 v42 hv42) rfl (by decide) rfl rfl [0, 1, 2, 3, 4, 5, 6, 7, 8, 9, 10, 11, 12, 13, 14, 15, 16, 17, 18, 19, 20, 21, 22, 23, 24, 25, 26, 27, 28, 29, 30, 31, 34, 35] rfl (by decide +kernel) rfl rfl rfl rfl qw618 k_X1_digitAt ⟨rfl, rfl, Nat.le_of_ble_eq_true rfl, Nat.le_of_ble_eq_true rfl⟩ ⟨Nat.zero_le _, Nat.zero_le _⟩ hl.1 (Nat.le_of_ble_eq_true rfl) dX10_sumDigit_42 rfl (fun H locs hw => ?_)
        exact hret _ _ _ _ _ _ (jr hf) dX10_sumDigit_45 hw
      · replace hf := iq c23 hf
        exact b26 _ _ _ v8 hw (lv_sub hl [] rfl) hf
set_option maxHeartbeats 4000000 in
set_option maxRecDepth 100000 in
theorem metx_X10_sumDigit (l : Launch) (hlT : l.stackTraces = false) (g : xG) (h : Nat → Nat) (now : SC) (snap : SC) (has : Int32) (hist : HC) (ent : EC) (res : RC) (num : NC) (col : CC) (a1 : Int32) (a2 : Int32) (a3 : Int32) (out : Nat × CC) (hf : f_X10_sumDigit now col a1 a2 a3 = some (Sum.inl out)) : xMX l yX10_sumDigit (xC yX10_sumDigit cX10_sumDigit 4 (some .int)) { frames := 8, cells := 1, slots := 6, locals := 141 } g (wC g h now snap has hist ent res num col) [.ref (h 0), .int a1, .int a2, .int a3] (xEx out.1) (wC g h now snap has hist ent res num out.2) := by
  refine xofX (by decide) (Nat.le_of_ble_eq_true rfl) ⟨rfl, rfl⟩ ?_
  intro p e s m below meth c A ls E hlocks htab hX hw hl hpost
  have hx := E.1.1
  have hb := E.1.2.1
  have hown := E.1.2.2.2.1
  have hts := E.1.2.2.2.2
  have hx9 : ∀ (H : Heap) (locs : List Loc) (kx : Nat) (ccol : CC), (kx, ccol) = out → xW g A s.heap (wC g h now snap has hist ent res num ccol) H locs → ∀ t : State, s.vm.Alike t.vm → H.size ≤ t.heap.size → (∀ q : Nat, q < H.size → t.heap[q]? = H[q]?) → xPostX g (wC g h now snap has hist ent res num col) (wC g h now snap has hist ent res num out.2) s.heap.size (xEx out.1) (xEx kx) s t := by
    intro H locs kx ccol he hw t h1 h2 h3
    subst he
    exact (hpost H locs hw).1 t h1 h2 h3
  have hx8 : ∀ (H : Heap) (locs : List Loc) (kx : Nat) (ccol : CC), (kx, ccol) = out → xW g A s.heap (wC g h now snap has hist ent res num ccol) H locs → ∀ z ∈ locs, A z.base := by
    intro H locs kx ccol he hw
    subst he
    exact (hpost H locs hw).2
  clear hpost
  generalize hZ : (vx_MQ below (fun _ _ _ _ => False) (xPostX g (wC g h now snap has hist ent res num col) (wC g h now snap has hist ent res num out.2) s.heap.size (xEx out.1)) [.ref (h 0), .int a1, .int a2, .int a3].toArray s 1 6 A) = ZZ
  have hprop : ∀ (pc : Nat) (H : Heap) (locs : List Loc) (ls : Array Slot) (rest : List Value) (q : Nat) (ce : Cell) (kx : Nat) (ccol : CC), (kx, ccol) = out → xW g A s.heap (wC g h now snap has hist ent res num ccol) H locs → H[q]? = some ce → ce.vm = .none → s.vm.findClass (xEx kx) = some ce.cls → vx_W p l e { frames := 8, cells := 1, slots := 6, locals := 141 } s m [.ref (h 0), .int a1, .int a2, .int a3].toArray below meth c H locs (0 + 1) (0 + 6) ZZ (F0 m pc ls rest) q := by
    intro pc H locs ls rest q ce kx ccol he hw hce hcv hcl
    rw [← hZ]
    exact vx_out (fun x hx => (htab x hx).elim) hlocks hce hcv hcl (fun t ht hW => hx9 H locs kx ccol he hw t hW (by rw [ht]; exact Nat.le_refl _) (fun q _ => by rw [ht])) (hx8 H locs kx ccol he hw) (Nat.le_refl _) (Nat.le_refl _)
  have b26 : ∀ (H : Heap) (locs : List Loc) (ls : Array Slot) (col : CC), xW g A s.heap (wC g h now snap has hist ent res num col) H locs → lv_has ls 4 [] → f_X10_sumDigit_b26 now col = some (Sum.inl out) → W p l e { frames := 8, cells := 1, slots := 6, locals := 141 } s m [.ref (h 0), .int a1, .int a2, .int a3].toArray below meth c H locs 0 0 ZZ (F0 m 26 ls []) := by
    intro H locs ls col hw hl hf
    rw [← hZ]
    exact xthrowW (text := "no such column") hlT E hX htab hlocks hw (by decide) qw372 qw80 xat1 xbt1 xct1 (by decide) hl.1 dX10_sumDigit_26 dX10_sumDigit_29 dX10_sumDigit_30 dX10_sumDigit_33 dX10_sumDigit_36 ⟨by decide, Nat.le_of_ble_eq_true rfl, by decide, by decide⟩ (hx9 _ _ _ _ (jl hf) hw)
  refine lv_iload_n hx hb dX10_sumDigit_0 rfl (lv_at hl 1 rfl) ?_
  refine lv_iload_n hx hb dX10_sumDigit_1 rfl (lv_at hl 2 rfl) ?_
  obtain ⟨v2, hv2, hf⟩ := ob_e hf
  rcases v2 with t2 | u2
  · refine xcallSX (ws' := (wC g h now snap has hist ent res num col)) (n := 34) E hX hw [.int a1, .int a2] [] (metx_X10_requireAccounts l hlT g a1 a2 t2 hv2) rfl (by decide) rfl rfl [0, 1, 2, 3, 4, 5, 6, 7, 8, 9, 10, 11, 12, 13, 14, 15, 16, 17, 18, 19, 20, 21, 22, 23, 24, 25, 26, 27, 28, 29, 30, 31, 32, 33] rfl (by decide +kernel) rfl qw631 k_X10_requireAccounts ⟨rfl, rfl, Nat.le_of_ble_eq_true rfl, Nat.le_of_ble_eq_true rfl⟩ ⟨by decide, by decide⟩ hl.1 (Nat.le_of_ble_eq_true rfl) dX10_sumDigit_2 (fun H locs q ce hw hce hcv hcl => ?_)
    exact hprop _ _ _ _ _ _ _ _ _ (jl hf) hw hce hcv hcl
  · refine xcallS (ws' := (wC g h now snap has hist ent res num col)) (st1 := []) (n := 34) E hw [.int a1, .int a2] [] (met_X10_requireAccounts l g a1 a2 u2 hv2) rfl (by decide) rfl rfl [0, 1, 2, 3, 4, 5, 6, 7, 8, 9, 10, 11, 12, 13, 14, 15, 16, 17, 18, 19, 20, 21, 22, 23, 24, 25, 26, 27, 28, 29, 30, 31, 32, 33] rfl (by decide +kernel) rfl qw631 k_X10_requireAccounts ⟨rfl, rfl, Nat.le_of_ble_eq_true rfl, Nat.le_of_ble_eq_true rfl⟩ ⟨Nat.zero_le _, Nat.zero_le _⟩ hl.1 (Nat.le_of_ble_eq_true rfl) dX10_sumDigit_2 rfl (fun H locs hw => ?_)
    refine lv_aload_n hx hb dX10_sumDigit_5 rfl (lv_at hl 0 rfl) ?_
    refine lv_iload_n hx hb dX10_sumDigit_6 rfl (lv_at hl 1 rfl) ?_
    refine lv_iload_n hx hb dX10_sumDigit_7 rfl (lv_at hl 2 rfl) ?_
    obtain ⟨v8, hv8, hf⟩ := ob_e hf
    refine xcallV (ws' := (wC g h now snap has hist ent res num v8)) (st1 := []) (n := 34) E hw [.int a1, .int a2] [0, 1, 2, 3, 4, 5, 6, 7, 8, 9, 10, 11, 12, 13, 14, 15, 16, 17, 18, 19, 20, 21, 22, 23, 24, 25, 26, 27, 28, 29, 30, 31, 32, 33] (met_X10_formColumns l g h now snap has hist ent res num col a1 a2 v8 hv8) rfl (by decide) rfl rfl [34, 35, 36, 37, 38, 39, 40, 41, 42, 43, 44, 45, 46, 47, 48, 49, 50, 51, 52, 53, 54, 55, 56, 57, 58, 59, 60, 61, 62, 63, 64, 65, 66, 67] rfl (by decide +kernel) rfl rfl rfl rfl qw604 k_X10_formColumns ⟨rfl, rfl, Nat.le_of_ble_eq_true rfl, Nat.le_of_ble_eq_true rfl⟩ ⟨Nat.zero_le _, Nat.zero_le _⟩ hl.1 (Nat.le_of_ble_eq_true rfl) dX10_sumDigit_8 rfl (fun H locs hw => ?_)
    refine lv_iload_n hx hb dX10_sumDigit_11 rfl (lv_at hl 3 rfl) ?_
    refine lv_if_lt (tgt := 26) hx hb dX10_sumDigit_12 (by decide) (fun c12 => ?_) (fun c12 => ?_)
    · replace hf := ip c12 hf
      exact b26 _ _ _ v8 hw (lv_sub hl [] rfl) hf
    · replace hf := iq c12 hf
      refine lv_iload_n hx hb dX10_sumDigit_15 rfl (lv_at hl 3 rfl) ?_
      refine lv_aload_n hx hb dX10_sumDigit_16 rfl (lv_at hl 0 rfl) ?_
      refine xget (v := .ref (h 32)) E hw 0 rfl rfl 7 (by decide) inw10 qw253 rfl rfl dX10_sumDigit_17 ?_
      refine xget (v := .int v8.1) E hw 32 rfl rfl 0 (by decide) inw1 qw231 rfl rfl dX10_sumDigit_20 ?_
      refine lv_icmp_lt (tgt := 37) hx hb dX10_sumDigit_23 (by decide) (fun c23 => ?_) (fun c23 => ?_)
      · replace hf := ip c23 hf
        refine lv_aload_n hx hb dX10_sumDigit_37 rfl (lv_at hl 0 rfl) ?_
        refine xget (v := .ref (h 32)) E hw 0 rfl rfl 7 (by decide) inw10 qw253 rfl rfl dX10_sumDigit_38 ?_
        refine lv_iload_n hx hb dX10_sumDigit_41 rfl (lv_at hl 3 rfl) ?_
        obtain ⟨v42, hv42, hf⟩ := ob_e hf
        refine xcallV (ws' := (wC g h now snap has hist ent res num v8)) (st1 := [.int v42]) (n := 34) E hw [.int a3] [32, 33] (met_X1_digitAt l g h 32 v8 a3 v42 hv42) rfl (by decide) rfl rfl [0, 1, 2, 3, 4, 5, 6, 7, 8, 9, 10, 11, 12, 13, 14, 15, 16, 17, 18, 19, 20, 21, 22, 23, 24, 25, 26, 27, 28, 29, 30, 31, 34, 35] rfl (by decide +kernel) rfl rfl rfl rfl qw618 k_X1_digitAt ⟨rfl, rfl, Nat.le_of_ble_eq_true rfl, Nat.le_of_ble_eq_true rfl⟩ ⟨Nat.zero_le _, Nat.zero_le _⟩ hl.1 (Nat.le_of_ble_eq_true rfl) dX10_sumDigit_42 rfl (fun H locs hw => ?_)
        exact nrl hf
      · replace hf := iq c23 hf
        exact b26 _ _ _ v8 hw (lv_sub hl [] rfl) hf
theorem k_X10_sumByColumns : xKV yX10_sumByColumns cX10_sumByColumns 3 (some .long) 2 := ⟨qw994, qw995, qw66, qw996, by decide +kernel, by decide +kernel, by decide +kernel⟩
set_option maxHeartbeats 4000000 in
set_option maxRecDepth 100000 in
theorem met_X10_sumByColumns (l : Launch) (g : xG) (h : Nat → Nat) (now : SC) (snap : SC) (has : Int32) (hist : HC) (ent : EC) (res : RC) (num : NC) (col : CC) (a1 : Int32) (a2 : Int32) (out : Int64 × CC) (hf : f_X10_sumByColumns now col a1 a2 = some (Sum.inr out)) : xM l yX10_sumByColumns (xC yX10_sumByColumns cX10_sumByColumns 3 (some .long)) { frames := 4, cells := 0, slots := 0, locals := 103 } g (wC g h now snap has hist ent res num col) [.ref (h 0), .int a1, .int a2] (some (.long out.1)) (wC g h now snap has hist ent res num out.2) := by
  refine xof (by decide) (Nat.le_of_ble_eq_true rfl) ⟨rfl, rfl⟩ ?_
  intro p e s m below meth c A ls E hr hlocks hw hl hpost hAe
  have hx := E.1.1
  have hb := E.1.2.1
  have hown := E.1.2.2.2.1
  have hts := E.1.2.2.2.2
  generalize hZ : (MQ below (xPost g (wC g h now snap has hist ent res num col) (wC g h now snap has hist ent res num out.2) s.heap.size (some (.long out.1))) [.ref (h 0), .int a1, .int a2].toArray s 0 0 A) = ZZ
  have hret : ∀ (pc : Nat) (H : Heap) (locs : List Loc) (ls : Array Slot) (v : Int64) (ccol : CC), (v, ccol) = out → decode cX10_sumByColumns pc = .ok (.lreturn, 1) → xW g A s.heap (wC g h now snap has hist ent res num ccol) H locs → W p l e { frames := 4, cells := 0, slots := 0, locals := 103 } s m [.ref (h 0), .int a1, .int a2].toArray below meth c H locs 0 0 ZZ (F0 m pc ls [.long v]) := by
    intro pc H locs ls v ccol he hd hw
    subst he
    rw [← hZ]
    exact W.lret hx hb hr (hpost H locs hw).1 (hpost H locs hw).2 hd hlocks
  clear hpost
  refine lv_iload_n hx hb dX10_sumByColumns_0 rfl (lv_at hl 1 rfl) ?_
  refine lv_iload_n hx hb dX10_sumByColumns_1 rfl (lv_at hl 2 rfl) ?_
  obtain ⟨v2, hv2, hf⟩ := ob_e hf
  rcases v2 with t2 | u2
  · exact nlr hf
  · refine xcallS (ws' := (wC g h now snap has hist ent res num col)) (st1 := []) (n := 34) E hw [.int a1, .int a2] [] (met_X10_requireAccounts l g a1 a2 u2 hv2) rfl (by decide) rfl rfl [0, 1, 2, 3, 4, 5, 6, 7, 8, 9, 10, 11, 12, 13, 14, 15, 16, 17, 18, 19, 20, 21, 22, 23, 24, 25, 26, 27, 28, 29, 30, 31, 32, 33] rfl (by decide +kernel) rfl qw631 k_X10_requireAccounts ⟨rfl, rfl, Nat.le_of_ble_eq_true rfl, Nat.le_of_ble_eq_true rfl⟩ ⟨Nat.zero_le _, Nat.zero_le _⟩ hl.1 (Nat.le_of_ble_eq_true rfl) dX10_sumByColumns_2 rfl (fun H locs hw => ?_)
    refine lv_aload_n hx hb dX10_sumByColumns_5 rfl (lv_at hl 0 rfl) ?_
    refine lv_iload_n hx hb dX10_sumByColumns_6 rfl (lv_at hl 1 rfl) ?_
    refine lv_iload_n hx hb dX10_sumByColumns_7 rfl (lv_at hl 2 rfl) ?_
    obtain ⟨v8, hv8, hf⟩ := ob_e hf
    refine xcallV (ws' := (wC g h now snap has hist ent res num v8)) (st1 := []) (n := 34) E hw [.int a1, .int a2] [0, 1, 2, 3, 4, 5, 6, 7, 8, 9, 10, 11, 12, 13, 14, 15, 16, 17, 18, 19, 20, 21, 22, 23, 24, 25, 26, 27, 28, 29, 30, 31, 32, 33] (met_X10_formColumns l g h now snap has hist ent res num col a1 a2 v8 hv8) rfl (by decide) rfl rfl [34, 35, 36, 37, 38, 39, 40, 41, 42, 43, 44, 45, 46, 47, 48, 49, 50, 51, 52, 53, 54, 55, 56, 57, 58, 59, 60, 61, 62, 63, 64, 65, 66, 67] rfl (by decide +kernel) rfl rfl rfl rfl qw604 k_X10_formColumns ⟨rfl, rfl, Nat.le_of_ble_eq_true rfl, Nat.le_of_ble_eq_true rfl⟩ ⟨Nat.zero_le _, Nat.zero_le _⟩ hl.1 (Nat.le_of_ble_eq_true rfl) dX10_sumByColumns_8 rfl (fun H locs hw => ?_)
    refine lv_aload_n hx hb dX10_sumByColumns_11 rfl (lv_at hl 0 rfl) ?_
    refine xget (v := .ref (h 32)) E hw 0 rfl rfl 7 (by decide) inw10 qw253 rfl rfl dX10_sumByColumns_12 ?_
    refine lv_aload_n hx hb dX10_sumByColumns_15 rfl (lv_at hl 0 rfl) ?_
    refine xget (v := .ref (h 1)) E hw 0 rfl rfl 0 (by decide) inw10 qw246 rfl rfl dX10_sumByColumns_16 ?_
    refine xget (v := .int now.1) E hw 1 rfl rfl 0 (by decide) inw7 qw101 rfl rfl dX10_sumByColumns_19 ?_
    obtain ⟨v22, hv22, hf⟩ := ob_e hf
    refine xcallV (ws' := (wC g h now snap has hist ent res num v8)) (st1 := [.long v22]) (n := 34) E hw [.int now.1] [32, 33] (met_X1_total l g h 32 v8 now.1 v22 hv22) rfl (by decide) rfl rfl [0, 1, 2, 3, 4, 5, 6, 7, 8, 9, 10, 11, 12, 13, 14, 15, 16, 17, 18, 19, 20, 21, 22, 23, 24, 25, 26, 27, 28, 29, 30, 31, 34, 35] rfl (by decide +kernel) rfl rfl rfl rfl qw622 k_X1_total ⟨rfl, rfl, Nat.le_of_ble_eq_true rfl, Nat.le_of_ble_eq_true rfl⟩ ⟨Nat.zero_le _, Nat.zero_le _⟩ hl.1 (Nat.le_of_ble_eq_true rfl) dX10_sumByColumns_22 rfl (fun H locs hw => ?_)
    exact hret _ _ _ _ _ _ (jr hf) dX10_sumByColumns_25 hw
set_option maxHeartbeats 4000000 in
set_option maxRecDepth 100000 in
theorem metx_X10_sumByColumns (l : Launch) (hlT : l.stackTraces = false) (g : xG) (h : Nat → Nat) (now : SC) (snap : SC) (has : Int32) (hist : HC) (ent : EC) (res : RC) (num : NC) (col : CC) (a1 : Int32) (a2 : Int32) (out : Nat × CC) (hf : f_X10_sumByColumns now col a1 a2 = some (Sum.inl out)) : xMX l yX10_sumByColumns (xC yX10_sumByColumns cX10_sumByColumns 3 (some .long)) { frames := 8, cells := 1, slots := 6, locals := 141 } g (wC g h now snap has hist ent res num col) [.ref (h 0), .int a1, .int a2] (xEx out.1) (wC g h now snap has hist ent res num out.2) := by
  refine xofX (by decide) (Nat.le_of_ble_eq_true rfl) ⟨rfl, rfl⟩ ?_
  intro p e s m below meth c A ls E hlocks htab hX hw hl hpost
  have hx := E.1.1
  have hb := E.1.2.1
  have hown := E.1.2.2.2.1
  have hts := E.1.2.2.2.2
  have hx9 : ∀ (H : Heap) (locs : List Loc) (kx : Nat) (ccol : CC), (kx, ccol) = out → xW g A s.heap (wC g h now snap has hist ent res num ccol) H locs → ∀ t : State, s.vm.Alike t.vm → H.size ≤ t.heap.size → (∀ q : Nat, q < H.size → t.heap[q]? = H[q]?) → xPostX g (wC g h now snap has hist ent res num col) (wC g h now snap has hist ent res num out.2) s.heap.size (xEx out.1) (xEx kx) s t := by
    intro H locs kx ccol he hw t h1 h2 h3
    subst he
    exact (hpost H locs hw).1 t h1 h2 h3
  have hx8 : ∀ (H : Heap) (locs : List Loc) (kx : Nat) (ccol : CC), (kx, ccol) = out → xW g A s.heap (wC g h now snap has hist ent res num ccol) H locs → ∀ z ∈ locs, A z.base := by
    intro H locs kx ccol he hw
    subst he
    exact (hpost H locs hw).2
  clear hpost
  generalize hZ : (vx_MQ below (fun _ _ _ _ => False) (xPostX g (wC g h now snap has hist ent res num col) (wC g h now snap has hist ent res num out.2) s.heap.size (xEx out.1)) [.ref (h 0), .int a1, .int a2].toArray s 1 6 A) = ZZ
  have hprop : ∀ (pc : Nat) (H : Heap) (locs : List Loc) (ls : Array Slot) (rest : List Value) (q : Nat) (ce : Cell) (kx : Nat) (ccol : CC), (kx, ccol) = out → xW g A s.heap (wC g h now snap has hist ent res num ccol) H locs → H[q]? = some ce → ce.vm = .none → s.vm.findClass (xEx kx) = some ce.cls → vx_W p l e { frames := 8, cells := 1, slots := 6, locals := 141 } s m [.ref (h 0), .int a1, .int a2].toArray below meth c H locs (0 + 1) (0 + 6) ZZ (F0 m pc ls rest) q := by
    intro pc H locs ls rest q ce kx ccol he hw hce hcv hcl
    rw [← hZ]
    exact vx_out (fun x hx => (htab x hx).elim) hlocks hce hcv hcl (fun t ht hW => hx9 H locs kx ccol he hw t hW (by rw [ht]; exact Nat.le_refl _) (fun q _ => by rw [ht])) (hx8 H locs kx ccol he hw) (Nat.le_refl _) (Nat.le_refl _)
  refine lv_iload_n hx hb dX10_sumByColumns_0 rfl (lv_at hl 1 rfl) ?_
  refine lv_iload_n hx hb dX10_sumByColumns_1 rfl (lv_at hl 2 rfl) ?_
  obtain ⟨v2, hv2, hf⟩ := ob_e hf
  rcases v2 with t2 | u2
  · refine xcallSX (ws' := (wC g h now snap has hist ent res num col)) (n := 34) E hX hw [.int a1, .int a2] [] (metx_X10_requireAccounts l hlT g a1 a2 t2 hv2) rfl (by decide) rfl rfl [0, 1, 2, 3, 4, 5, 6, 7, 8, 9, 10, 11, 12, 13, 14, 15, 16, 17, 18, 19, 20, 21, 22, 23, 24, 25, 26, 27, 28, 29, 30, 31, 32, 33] rfl (by decide +kernel) rfl qw631 k_X10_requireAccounts ⟨rfl, rfl, Nat.le_of_ble_eq_true rfl, Nat.le_of_ble_eq_true rfl⟩ ⟨by decide, by decide⟩ hl.1 (Nat.le_of_ble_eq_true rfl) dX10_sumByColumns_2 (fun H locs q ce hw hce hcv hcl => ?_)
    exact hprop _ _ _ _ _ _ _ _ _ (jl hf) hw hce hcv hcl
  · refine xcallS (ws' := (wC g h now snap has hist ent res num col)) (st1 := []) (n := 34) E hw [.int a1, .int a2] [] (met_X10_requireAccounts l g a1 a2 u2 hv2) rfl (by decide) rfl rfl [0, 1, 2, 3, 4, 5, 6, 7, 8, 9, 10, 11, 12, 13, 14, 15, 16, 17, 18, 19, 20, 21, 22, 23, 24, 25, 26, 27, 28, 29, 30, 31, 32, 33] rfl (by decide +kernel) rfl qw631 k_X10_requireAccounts ⟨rfl, rfl, Nat.le_of_ble_eq_true rfl, Nat.le_of_ble_eq_true rfl⟩ ⟨Nat.zero_le _, Nat.zero_le _⟩ hl.1 (Nat.le_of_ble_eq_true rfl) dX10_sumByColumns_2 rfl (fun H locs hw => ?_)
    refine lv_aload_n hx hb dX10_sumByColumns_5 rfl (lv_at hl 0 rfl) ?_
    refine lv_iload_n hx hb dX10_sumByColumns_6 rfl (lv_at hl 1 rfl) ?_
    refine lv_iload_n hx hb dX10_sumByColumns_7 rfl (lv_at hl 2 rfl) ?_
    obtain ⟨v8, hv8, hf⟩ := ob_e hf
    refine xcallV (ws' := (wC g h now snap has hist ent res num v8)) (st1 := []) (n := 34) E hw [.int a1, .int a2] [0, 1, 2, 3, 4, 5, 6, 7, 8, 9, 10, 11, 12, 13, 14, 15, 16, 17, 18, 19, 20, 21, 22, 23, 24, 25, 26, 27, 28, 29, 30, 31, 32, 33] (met_X10_formColumns l g h now snap has hist ent res num col a1 a2 v8 hv8) rfl (by decide) rfl rfl [34, 35, 36, 37, 38, 39, 40, 41, 42, 43, 44, 45, 46, 47, 48, 49, 50, 51, 52, 53, 54, 55, 56, 57, 58, 59, 60, 61, 62, 63, 64, 65, 66, 67] rfl (by decide +kernel) rfl rfl rfl rfl qw604 k_X10_formColumns ⟨rfl, rfl, Nat.le_of_ble_eq_true rfl, Nat.le_of_ble_eq_true rfl⟩ ⟨Nat.zero_le _, Nat.zero_le _⟩ hl.1 (Nat.le_of_ble_eq_true rfl) dX10_sumByColumns_8 rfl (fun H locs hw => ?_)
    refine lv_aload_n hx hb dX10_sumByColumns_11 rfl (lv_at hl 0 rfl) ?_
    refine xget (v := .ref (h 32)) E hw 0 rfl rfl 7 (by decide) inw10 qw253 rfl rfl dX10_sumByColumns_12 ?_
    refine lv_aload_n hx hb dX10_sumByColumns_15 rfl (lv_at hl 0 rfl) ?_
    refine xget (v := .ref (h 1)) E hw 0 rfl rfl 0 (by decide) inw10 qw246 rfl rfl dX10_sumByColumns_16 ?_
    refine xget (v := .int now.1) E hw 1 rfl rfl 0 (by decide) inw7 qw101 rfl rfl dX10_sumByColumns_19 ?_
    obtain ⟨v22, hv22, hf⟩ := ob_e hf
    refine xcallV (ws' := (wC g h now snap has hist ent res num v8)) (st1 := [.long v22]) (n := 34) E hw [.int now.1] [32, 33] (met_X1_total l g h 32 v8 now.1 v22 hv22) rfl (by decide) rfl rfl [0, 1, 2, 3, 4, 5, 6, 7, 8, 9, 10, 11, 12, 13, 14, 15, 16, 17, 18, 19, 20, 21, 22, 23, 24, 25, 26, 27, 28, 29, 30, 31, 34, 35] rfl (by decide +kernel) rfl rfl rfl rfl qw622 k_X1_total ⟨rfl, rfl, Nat.le_of_ble_eq_true rfl, Nat.le_of_ble_eq_true rfl⟩ ⟨Nat.zero_le _, Nat.zero_le _⟩ hl.1 (Nat.le_of_ble_eq_true rfl) dX10_sumByColumns_22 rfl (fun H locs hw => ?_)
    exact nrl hf
theorem k_X10_readIn : xKV yX10_readIn cX10_readIn 8 (some .long) 2 := ⟨qw575, qw576, qw66, qw577, by decide +kernel, by decide +kernel, by decide +kernel⟩
set_option maxHeartbeats 4000000 in
set_option maxRecDepth 100000 in
theorem met_X10_readIn (l : Launch) (g : xG) (h : Nat → Nat) (now : SC) (snap : SC) (has : Int32) (hist : HC) (ent : EC) (res : RC) (num : NC) (col : CC) (a1 : Int32) (a2 : Int32) (out : Int64) (hf : f_X10_readIn now a1 a2 = some (Sum.inr out)) : xM l yX10_readIn (xC yX10_readIn cX10_readIn 8 (some .long)) { frames := 2, cells := 0, slots := 0, locals := 51 } g (wC g h now snap has hist ent res num col) [.ref (h 0), .int a1, .int a2] (some (.long out)) (wC g h now snap has hist ent res num col) := by
  refine xof (by decide) (Nat.le_of_ble_eq_true rfl) ⟨rfl, rfl⟩ ?_
  intro p e s m below meth c A ls E hr hlocks hw hl hpost hAe
  have hx := E.1.1
  have hb := E.1.2.1
  have hown := E.1.2.2.2.1
  have hts := E.1.2.2.2.2
  generalize hZ : (MQ below (xPost g (wC g h now snap has hist ent res num col) (wC g h now snap has hist ent res num col) s.heap.size (some (.long out))) [.ref (h 0), .int a1, .int a2].toArray s 0 0 A) = ZZ
  have hret : ∀ (pc : Nat) (H : Heap) (locs : List Loc) (ls : Array Slot) (v : Int64), v = out → decode cX10_readIn pc = .ok (.lreturn, 1) → xW g A s.heap (wC g h now snap has hist ent res num col) H locs → W p l e { frames := 2, cells := 0, slots := 0, locals := 51 } s m [.ref (h 0), .int a1, .int a2].toArray below meth c H locs 0 0 ZZ (F0 m pc ls [.long v]) := by
    intro pc H locs ls v he hd hw
    subst he
    rw [← hZ]
    exact W.lret hx hb hr (hpost H locs hw).1 (hpost H locs hw).2 hd hlocks
  clear hpost
  have b35 : ∀ n35 : Nat, ∀ (H : Heap) (locs : List Loc) (ls : Array Slot) (x2 : Int32) (x3 : Int32) (x4 : Int64) (x6 : Int32), xW g A s.heap (wC g h now snap has hist ent res num col) H locs → lv_has ls 8 [(0, .ref (h 0)), (2, .int x2), (3, .int x3), (4, .long x4), (6, .int x6)] → f_X10_readIn_b35 n35 now x2 x3 x4 x6 = some (Sum.inr out) → W p l e { frames := 2, cells := 0, slots := 0, locals := 51 } s m [.ref (h 0), .int a1, .int a2].toArray below meth c H locs 0 0 ZZ (F0 m 35 ls []) := by
    intro n35
    induction n35 with
    | zero =>
      intro H locs ls x2 x3 x4 x6 hw hl hf
      exact nn hf
    | succ n35 ih35 =>
      intro H locs ls x2 x3 x4 x6 hw hl hf
      refine lv_iload hx hb dX10_readIn_35 (lv_at hl 4 rfl) ?_
      refine lv_if_lt (tgt := 91) hx hb dX10_readIn_37 (by decide) (fun c37 => ?_) (fun c37 => ?_)
      · replace hf := ip c37 hf
        refine lv_lload hx hb dX10_readIn_91 (lv_at hl 3 rfl) ?_
        exact hret _ _ _ _ _ (jr hf) dX10_readIn_93 hw
      · replace hf := iq c37 hf
        refine lv_iload_n hx hb dX10_readIn_40 rfl (lv_at hl 2 rfl) ?_
        refine lv_aload_n hx hb dX10_readIn_41 rfl (lv_at hl 0 rfl) ?_
        refine xget (v := .ref (h 1)) E hw 0 rfl rfl 0 (by decide) inw10 qw246 rfl rfl dX10_readIn_42 ?_
        refine xget (v := .int now.1) E hw 1 rfl rfl 0 (by decide) inw7 qw101 rfl rfl dX10_readIn_45 ?_
        refine lv_iload hx hb dX10_readIn_48 (lv_at hl 4 rfl) ?_
        obtain ⟨v50, hv50, hf⟩ := ob_e hf
        refine xcallS (ws' := (wC g h now snap has hist ent res num col)) (st1 := [.int v50]) (n := 34) E hw [.int x3, .int now.1, .int x6] [] (met_X9_byDividing l g x3 now.1 x6 v50 hv50) rfl (by decide) rfl rfl [0, 1, 2, 3, 4, 5, 6, 7, 8, 9, 10, 11, 12, 13, 14, 15, 16, 17, 18, 19, 20, 21, 22, 23, 24, 25, 26, 27, 28, 29, 30, 31, 32, 33] rfl (by decide +kernel) rfl qw471 k_X9_byDividing ⟨rfl, rfl, Nat.le_of_ble_eq_true rfl, Nat.le_of_ble_eq_true rfl⟩ ⟨Nat.zero_le _, Nat.zero_le _⟩ hl.1 (Nat.le_of_ble_eq_true rfl) dX10_readIn_50 rfl (fun H locs hw => ?_)
        refine lv_istore (lv' := [(7, .int v50), (0, .ref (h 0)), (2, .int x2), (3, .int x3), (4, .long x4), (6, .int x6)]) hx hb dX10_readIn_53 hl (by decide) rfl (fun ls hl => ?_)
        refine lv_lload hx hb dX10_readIn_55 (lv_at hl 4 rfl) ?_
        refine lv_iload_n hx hb dX10_readIn_57 rfl (lv_at hl 2 rfl) ?_
        refine lv_i2l hx hb dX10_readIn_58 rfl ?_
        refine lv_lmul hx hb dX10_readIn_59 ?_
        refine lv_iload hx hb dX10_readIn_60 (lv_at hl 0 rfl) ?_
        refine lv_i2l hx hb dX10_readIn_62 rfl ?_
        refine lv_ladd hx hb dX10_readIn_63 ?_
        refine lv_lstore (lv' := [(4, .long ((x4 * x2.toInt64) + v50.toInt64)), (7, .int v50), (0, .ref (h 0)), (2, .int x2), (3, .int x3), (6, .int x6)]) hx hb dX10_readIn_64 hl (by decide) rfl (fun ls hl => ?_)
        refine lv_iload hx hb dX10_readIn_66 (lv_at hl 1 rfl) ?_
        refine lv_iload_n hx hb dX10_readIn_68 rfl (lv_at hl 3 rfl) ?_
        refine lv_icmp_ge (tgt := 81) hx hb dX10_readIn_69 (by decide) (fun c69 => ?_) (fun c69 => ?_)
        · replace hf := ip c69 hf
          refine lv_ldc2 hx hb hown (hts _ qw583) dX10_readIn_81 ?_
          exact hret _ _ _ _ _ (jr hf) dX10_readIn_84 hw
        · replace hf := iq c69 hf
          refine lv_lload hx hb dX10_readIn_72 (lv_at hl 0 rfl) ?_
          refine lv_ldc2 hx hb hown (hts _ qw582) dX10_readIn_74 ?_
          refine xlc_le (tgt := 85) hx hb dX10_readIn_77 dX10_readIn_78 (by decide) (fun c77 => ?_) (fun c77 => ?_)
          · replace hf := iq c77 hf
            refine lv_iinc (v := x6 + (-1)) (lv' := [(6, .int (x6 + (-1))), (4, .long ((x4 * x2.toInt64) + v50.toInt64)), (7, .int v50), (0, .ref (h 0)), (2, .int x2), (3, .int x3)]) hx hb dX10_readIn_85 hl (k := 5) rfl rfl (by decide) rfl (fun ls hl => ?_)
            refine lv_goto (tgt := 35) hx hb dX10_readIn_88 (by decide) ?_
            exact ih35 _ _ _ x2 x3 ((x4 * x2.toInt64) + v50.toInt64) (x6 + (-1)) hw (lv_sub hl [3, 4, 5, 1, 0] rfl) hf
          · replace hf := ip c77 hf
            refine lv_ldc2 hx hb hown (hts _ qw583) dX10_readIn_81 ?_
            exact hret _ _ _ _ _ (jr hf) dX10_readIn_84 hw
  refine lv_iload_n hx hb dX10_readIn_0 rfl (lv_at hl 1 rfl) ?_
  obtain ⟨v1, hv1, hf⟩ := ob_e hf
  rcases v1 with t1 | u1
  · exact nlr hf
  · refine xcallS (ws' := (wC g h now snap has hist ent res num col)) (st1 := []) (n := 34) E hw [.int a1] [] (met_X10_requireAccount l g a1 u1 hv1) rfl (by decide) rfl rfl [0, 1, 2, 3, 4, 5, 6, 7, 8, 9, 10, 11, 12, 13, 14, 15, 16, 17, 18, 19, 20, 21, 22, 23, 24, 25, 26, 27, 28, 29, 30, 31, 32, 33] rfl (by decide +kernel) rfl qw369 k_X10_requireAccount ⟨rfl, rfl, Nat.le_of_ble_eq_true rfl, Nat.le_of_ble_eq_true rfl⟩ ⟨Nat.zero_le _, Nat.zero_le _⟩ hl.1 (Nat.le_of_ble_eq_true rfl) dX10_readIn_1 rfl (fun H locs hw => ?_)
    refine lv_iload_n hx hb dX10_readIn_4 rfl (lv_at hl 2 rfl) ?_
    obtain ⟨v5, hv5, hf⟩ := ob_e hf
    rcases v5 with t5 | u5
    · exact nlr hf
    · refine xcallS (ws' := (wC g h now snap has hist ent res num col)) (st1 := []) (n := 34) E hw [.int a2] [] (met_X10_requireBase l g a2 u5 hv5) rfl (by decide) rfl rfl [0, 1, 2, 3, 4, 5, 6, 7, 8, 9, 10, 11, 12, 13, 14, 15, 16, 17, 18, 19, 20, 21, 22, 23, 24, 25, 26, 27, 28, 29, 30, 31, 32, 33] rfl (by decide +kernel) rfl qw578 k_X10_requireBase ⟨rfl, rfl, Nat.le_of_ble_eq_true rfl, Nat.le_of_ble_eq_true rfl⟩ ⟨Nat.zero_le _, Nat.zero_le _⟩ hl.1 (Nat.le_of_ble_eq_true rfl) dX10_readIn_5 rfl (fun H locs hw => ?_)
      refine lv_aload_n hx hb dX10_readIn_8 rfl (lv_at hl 0 rfl) ?_
      refine xget (v := .ref (h 1)) E hw 0 rfl rfl 0 (by decide) inw10 qw246 rfl rfl dX10_readIn_9 ?_
      refine lv_iload_n hx hb dX10_readIn_12 rfl (lv_at hl 1 rfl) ?_
      obtain ⟨v13, hv13, hf⟩ := ob_e hf
      refine xcallV (ws' := (wC g h now snap has hist ent res num col)) (st1 := [.int v13]) (n := 34) E hw [.int a1] [1, 2, 3] (met_X7_wholeOf l g h 1 now a1 v13 hv13) rfl (by decide) rfl rfl [0, 34, 35, 36, 4, 5, 6, 7, 8, 9, 10, 11, 12, 13, 14, 15, 16, 17, 18, 19, 20, 21, 22, 23, 24, 25, 26, 27, 28, 29, 30, 31, 32, 33] rfl (by decide +kernel) rfl rfl rfl rfl qw440 k_X7_wholeOf ⟨rfl, rfl, Nat.le_of_ble_eq_true rfl, Nat.le_of_ble_eq_true rfl⟩ ⟨Nat.zero_le _, Nat.zero_le _⟩ hl.1 (Nat.le_of_ble_eq_true rfl) dX10_readIn_13 rfl (fun H locs hw => ?_)
      refine lv_istore_n (lv' := [(3, .int v13), (0, .ref (h 0)), (1, .int a1), (2, .int a2)]) hx hb dX10_readIn_16 rfl hl (by decide) rfl (fun ls hl => ?_)
      refine lv_lconst (v := 0) hx hb dX10_readIn_17 (by decide) ?_
      refine lv_lstore (lv' := [(4, .long 0), (3, .int v13), (0, .ref (h 0)), (1, .int a1), (2, .int a2)]) hx hb dX10_readIn_18 hl (by decide) rfl (fun ls hl => ?_)
      refine lv_iload_n hx hb dX10_readIn_20 rfl (lv_at hl 1 rfl) ?_
      refine lv_aload_n hx hb dX10_readIn_21 rfl (lv_at hl 2 rfl) ?_
      refine xget (v := .ref (h 1)) E hw 0 rfl rfl 0 (by decide) inw10 qw246 rfl rfl dX10_readIn_22 ?_
      refine xget (v := .int now.1) E hw 1 rfl rfl 0 (by decide) inw7 qw101 rfl rfl dX10_readIn_25 ?_
      obtain ⟨v28, hv28, hf⟩ := ob_e hf
      refine xcallS (ws' := (wC g h now snap has hist ent res num col)) (st1 := [.int v28]) (n := 34) E hw [.int v13, .int now.1] [] (met_X9_count l g v13 now.1 v28 hv28) rfl (by decide) rfl rfl [0, 1, 2, 3, 4, 5, 6, 7, 8, 9, 10, 11, 12, 13, 14, 15, 16, 17, 18, 19, 20, 21, 22, 23, 24, 25, 26, 27, 28, 29, 30, 31, 32, 33] rfl (by decide +kernel) rfl qw444 k_X9_count ⟨rfl, rfl, Nat.le_of_ble_eq_true rfl, Nat.le_of_ble_eq_true rfl⟩ ⟨Nat.zero_le _, Nat.zero_le _⟩ hl.1 (Nat.le_of_ble_eq_true rfl) dX10_readIn_28 rfl (fun H locs hw => ?_)
      refine lv_iconst (v := 1) hx hb dX10_readIn_31 (by decide) ?_
      refine lv_isub hx hb dX10_readIn_32 ?_
      refine lv_istore (lv' := [(6, .int (v28 - 1)), (4, .long 0), (3, .int v13), (0, .ref (h 0)), (1, .int a1), (2, .int a2)]) hx hb dX10_readIn_33 hl (by decide) rfl (fun ls hl => ?_)
      exact b35 xfuel _ _ _ a2 v13 0 (v28 - 1) hw (lv_sub hl [3, 5, 2, 1, 0] rfl) hf
set_option maxHeartbeats 4000000 in
set_option maxRecDepth 100000 in
theorem metx_X10_readIn (l : Launch) (hlT : l.stackTraces = false) (g : xG) (h : Nat → Nat) (now : SC) (snap : SC) (has : Int32) (hist : HC) (ent : EC) (res : RC) (num : NC) (col : CC) (a1 : Int32) (a2 : Int32) (out : Nat) (hf : f_X10_readIn now a1 a2 = some (Sum.inl out)) : xMX l yX10_readIn (xC yX10_readIn cX10_readIn 8 (some .long)) { frames := 7, cells := 1, slots := 6, locals := 120 } g (wC g h now snap has hist ent res num col) [.ref (h 0), .int a1, .int a2] (xEx out) (wC g h now snap has hist ent res num col) := by
  refine xofX (by decide) (Nat.le_of_ble_eq_true rfl) ⟨rfl, rfl⟩ ?_
  intro p e s m below meth c A ls E hlocks htab hX hw hl hpost
  have hx := E.1.1
  have hb := E.1.2.1
  have hown := E.1.2.2.2.1
  have hts := E.1.2.2.2.2
  have hx9 : ∀ (H : Heap) (locs : List Loc) (kx : Nat), kx = out → xW g A s.heap (wC g h now snap has hist ent res num col) H locs → ∀ t : State, s.vm.Alike t.vm → H.size ≤ t.heap.size → (∀ q : Nat, q < H.size → t.heap[q]? = H[q]?) → xPostX g (wC g h now snap has hist ent res num col) (wC g h now snap has hist ent res num col) s.heap.size (xEx out) (xEx kx) s t := by
    intro H locs kx he hw t h1 h2 h3
    subst he
    exact (hpost H locs hw).1 t h1 h2 h3
  have hx8 : ∀ (H : Heap) (locs : List Loc) (kx : Nat), kx = out → xW g A s.heap (wC g h now snap has hist ent res num col) H locs → ∀ z ∈ locs, A z.base := by
    intro H locs kx he hw
    subst he
    exact (hpost H locs hw).2
  clear hpost
  generalize hZ : (vx_MQ below (fun _ _ _ _ => False) (xPostX g (wC g h now snap has hist ent res num col) (wC g h now snap has hist ent res num col) s.heap.size (xEx out)) [.ref (h 0), .int a1, .int a2].toArray s 1 6 A) = ZZ
  have hprop : ∀ (pc : Nat) (H : Heap) (locs : List Loc) (ls : Array Slot) (rest : List Value) (q : Nat) (ce : Cell) (kx : Nat), kx = out → xW g A s.heap (wC g h now snap has hist ent res num col) H locs → H[q]? = some ce → ce.vm = .none → s.vm.findClass (xEx kx) = some ce.cls → vx_W p l e { frames := 7, cells := 1, slots := 6, locals := 120 } s m [.ref (h 0), .int a1, .int a2].toArray below meth c H locs (0 + 1) (0 + 6) ZZ (F0 m pc ls rest) q := by
    intro pc H locs ls rest q ce kx he hw hce hcv hcl
    rw [← hZ]
    exact vx_out (fun x hx => (htab x hx).elim) hlocks hce hcv hcl (fun t ht hW => hx9 H locs kx he hw t hW (by rw [ht]; exact Nat.le_refl _) (fun q _ => by rw [ht])) (hx8 H locs kx he hw) (Nat.le_refl _) (Nat.le_refl _)
  have b35 : ∀ n35 : Nat, ∀ (H : Heap) (locs : List Loc) (ls : Array Slot) (x2 : Int32) (x3 : Int32) (x4 : Int64) (x6 : Int32), xW g A s.heap (wC g h now snap has hist ent res num col) H locs → lv_has ls 8 [(0, .ref (h 0)), (2, .int x2), (3, .int x3), (4, .long x4), (6, .int x6)] → f_X10_readIn_b35 n35 now x2 x3 x4 x6 = some (Sum.inl out) → W p l e { frames := 7, cells := 1, slots := 6, locals := 120 } s m [.ref (h 0), .int a1, .int a2].toArray below meth c H locs 0 0 ZZ (F0 m 35 ls []) := by
    intro n35
    induction n35 with
    | zero =>
      intro H locs ls x2 x3 x4 x6 hw hl hf
      exact nn hf
    | succ n35 ih35 =>
      intro H locs ls x2 x3 x4 x6 hw hl hf
      refine lv_iload hx hb dX10_readIn_35 (lv_at hl 4 rfl) ?_
      refine lv_if_lt (tgt := 91) hx hb dX10_readIn_37 (by decide) (fun c37 => ?_) (fun c37 => ?_)
      · replace hf := ip c37 hf
        refine lv_lload hx hb dX10_readIn_91 (lv_at hl 3 rfl) ?_
        exact nrl hf
      · replace hf := iq c37 hf
        refine lv_iload_n hx hb dX10_readIn_40 rfl (lv_at hl 2 rfl) ?_
        refine lv_aload_n hx hb dX10_readIn_41 rfl (lv_at hl 0 rfl) ?_
        refine xget (v := .ref (h 1)) E hw 0 rfl rfl 0 (by decide) inw10 qw246 rfl rfl dX10_readIn_42 ?_
        refine xget (v := .int now.1) E hw 1 rfl rfl 0 (by decide) inw7 qw101 rfl rfl dX10_readIn_45 ?_
        refine lv_iload hx hb dX10_readIn_48 (lv_at hl 4 rfl) ?_
        obtain ⟨v50, hv50, hf⟩ := ob_e hf
        refine xcallS (ws' := (wC g h now snap has hist ent res num col)) (st1 := [.int v50]) (n := 34) E hw [.int x3, .int now.1, .int x6] [] (met_X9_byDividing l g x3 now.1 x6 v50 hv50) rfl (by decide) rfl rfl [0, 1, 2, 3, 4, 5, 6, 7, 8, 9, 10, 11, 12, 13, 14, 15, 16, 17, 18, 19, 20, 21, 22, 23, 24, 25, 26, 27, 28, 29, 30, 31, 32, 33] rfl (by decide +kernel) rfl qw471 k_X9_byDividing ⟨rfl, rfl, Nat.le_of_ble_eq_true rfl, Nat.le_of_ble_eq_true rfl⟩ ⟨Nat.zero_le _, Nat.zero_le _⟩ hl.1 (Nat.le_of_ble_eq_true rfl) dX10_readIn_50 rfl (fun H locs hw => ?_)
        refine lv_istore (lv' := [(7, .int v50), (0, .ref (h 0)), (2, .int x2), (3, .int x3), (4, .long x4), (6, .int x6)]) hx hb dX10_readIn_53 hl (by decide) rfl (fun ls hl => ?_)
        refine lv_lload hx hb dX10_readIn_55 (lv_at hl 4 rfl) ?_
        refine lv_iload_n hx hb dX10_readIn_57 rfl (lv_at hl 2 rfl) ?_
        refine lv_i2l hx hb dX10_readIn_58 rfl ?_
        refine lv_lmul hx hb dX10_readIn_59 ?_
        refine lv_iload hx hb dX10_readIn_60 (lv_at hl 0 rfl) ?_
        refine lv_i2l hx hb dX10_readIn_62 rfl ?_
        refine lv_ladd hx hb dX10_readIn_63 ?_
        refine lv_lstore (lv' := [(4, .long ((x4 * x2.toInt64) + v50.toInt64)), (7, .int v50), (0, .ref (h 0)), (2, .int x2), (3, .int x3), (6, .int x6)]) hx hb dX10_readIn_64 hl (by decide) rfl (fun ls hl => ?_)
        refine lv_iload hx hb dX10_readIn_66 (lv_at hl 1 rfl) ?_
        refine lv_iload_n hx hb dX10_readIn_68 rfl (lv_at hl 3 rfl) ?_
        refine lv_icmp_ge (tgt := 81) hx hb dX10_readIn_69 (by decide) (fun c69 => ?_) (fun c69 => ?_)
        · replace hf := ip c69 hf
          refine lv_ldc2 hx hb hown (hts _ qw583) dX10_readIn_81 ?_
          exact nrl hf
        · replace hf := iq c69 hf
          refine lv_lload hx hb dX10_readIn_72 (lv_at hl 0 rfl) ?_
          refine lv_ldc2 hx hb hown (hts _ qw582) dX10_readIn_74 ?_
          refine xlc_le (tgt := 85) hx hb dX10_readIn_77 dX10_readIn_78 (by decide) (fun c77 => ?_) (fun c77 => ?_)
          · replace hf := iq c77 hf
            refine lv_iinc (v := x6 + (-1)) (lv' := [(6, .int (x6 + (-1))), (4, .long ((x4 * x2.toInt64) + v50.toInt64)), (7, .int v50), (0, .ref (h 0)), (2, .int x2), (3, .int x3)]) hx hb dX10_readIn_85 hl (k := 5) rfl rfl (by decide) rfl (fun ls hl => ?_)
            refine lv_goto (tgt := 35) hx hb dX10_readIn_88 (by decide) ?_
            exact ih35 _ _ _ x2 x3 ((x4 * x2.toInt64) + v50.toInt64) (x6 + (-1)) hw (lv_sub hl [3, 4, 5, 1, 0] rfl) hf
          · replace hf := ip c77 hf
            refine lv_ldc2 hx hb hown (hts _ qw583) dX10_readIn_81 ?_
            exact nrl hf
  refine lv_iload_n hx hb dX10_readIn_0 rfl (lv_at hl 1 rfl) ?_
  obtain ⟨v1, hv1, hf⟩ := ob_e hf
  rcases v1 with t1 | u1
  · refine xcallSX (ws' := (wC g h now snap has hist ent res num col)) (n := 34) E hX hw [.int a1] [] (metx_X10_requireAccount l hlT g a1 t1 hv1) rfl (by decide) rfl rfl [0, 1, 2, 3, 4, 5, 6, 7, 8, 9, 10, 11, 12, 13, 14, 15, 16, 17, 18, 19, 20, 21, 22, 23, 24, 25, 26, 27, 28, 29, 30, 31, 32, 33] rfl (by decide +kernel) rfl qw369 k_X10_requireAccount ⟨rfl, rfl, Nat.le_of_ble_eq_true rfl, Nat.le_of_ble_eq_true rfl⟩ ⟨by decide, by decide⟩ hl.1 (Nat.le_of_ble_eq_true rfl) dX10_readIn_1 (fun H locs q ce hw hce hcv hcl => ?_)
    exact hprop _ _ _ _ _ _ _ _ (jl hf) hw hce hcv hcl
  · refine xcallS (ws' := (wC g h now snap has hist ent res num col)) (st1 := []) (n := 34) E hw [.int a1] [] (met_X10_requireAccount l g a1 u1 hv1) rfl (by decide) rfl rfl [0, 1, 2, 3, 4, 5, 6, 7, 8, 9, 10, 11, 12, 13, 14, 15, 16, 17, 18, 19, 20, 21, 22, 23, 24, 25, 26, 27, 28, 29, 30, 31, 32, 33] rfl (by decide +kernel) rfl qw369 k_X10_requireAccount ⟨rfl, rfl, Nat.le_of_ble_eq_true rfl, Nat.le_of_ble_eq_true rfl⟩ ⟨Nat.zero_le _, Nat.zero_le _⟩ hl.1 (Nat.le_of_ble_eq_true rfl) dX10_readIn_1 rfl (fun H locs hw => ?_)
    refine lv_iload_n hx hb dX10_readIn_4 rfl (lv_at hl 2 rfl) ?_
    obtain ⟨v5, hv5, hf⟩ := ob_e hf
    rcases v5 with t5 | u5
    · refine xcallSX (ws' := (wC g h now snap has hist ent res num col)) (n := 34) E hX hw [.int a2] [] (metx_X10_requireBase l hlT g a2 t5 hv5) rfl (by decide) rfl rfl [0, 1, 2, 3, 4, 5, 6, 7, 8, 9, 10, 11, 12, 13, 14, 15, 16, 17, 18, 19, 20, 21, 22, 23, 24, 25, 26, 27, 28, 29, 30, 31, 32, 33] rfl (by decide +kernel) rfl qw578 k_X10_requireBase ⟨rfl, rfl, Nat.le_of_ble_eq_true rfl, Nat.le_of_ble_eq_true rfl⟩ ⟨by decide, by decide⟩ hl.1 (Nat.le_of_ble_eq_true rfl) dX10_readIn_5 (fun H locs q ce hw hce hcv hcl => ?_)
      exact hprop _ _ _ _ _ _ _ _ (jl hf) hw hce hcv hcl
    · refine xcallS (ws' := (wC g h now snap has hist ent res num col)) (st1 := []) (n := 34) E hw [.int a2] [] (met_X10_requireBase l g a2 u5 hv5) rfl (by decide) rfl rfl [0, 1, 2, 3, 4, 5, 6, 7, 8, 9, 10, 11, 12, 13, 14, 15, 16, 17, 18, 19, 20, 21, 22, 23, 24, 25, 26, 27, 28, 29, 30, 31, 32, 33] rfl (by decide +kernel) rfl qw578 k_X10_requireBase ⟨rfl, rfl, Nat.le_of_ble_eq_true rfl, Nat.le_of_ble_eq_true rfl⟩ ⟨Nat.zero_le _, Nat.zero_le _⟩ hl.1 (Nat.le_of_ble_eq_true rfl) dX10_readIn_5 rfl (fun H locs hw => ?_)
      refine lv_aload_n hx hb dX10_readIn_8 rfl (lv_at hl 0 rfl) ?_
      refine xget (v := .ref (h 1)) E hw 0 rfl rfl 0 (by decide) inw10 qw246 rfl rfl dX10_readIn_9 ?_
      refine lv_iload_n hx hb dX10_readIn_12 rfl (lv_at hl 1 rfl) ?_
      obtain ⟨v13, hv13, hf⟩ := ob_e hf
      refine xcallV (ws' := (wC g h now snap has hist ent res num col)) (st1 := [.int v13]) (n := 34) E hw [.int a1] [1, 2, 3] (met_X7_wholeOf l g h 1 now a1 v13 hv13) rfl (by decide) rfl rfl [0, 34, 35, 36, 4, 5, 6, 7, 8, 9, 10, 11, 12, 13, 14, 15, 16, 17, 18, 19, 20, 21, 22, 23, 24, 25, 26, 27, 28, 29, 30, 31, 32, 33] rfl (by decide +kernel) rfl rfl rfl rfl qw440 k_X7_wholeOf ⟨rfl, rfl, Nat.le_of_ble_eq_true rfl, Nat.le_of_ble_eq_true rfl⟩ ⟨Nat.zero_le _, Nat.zero_le _⟩ hl.1 (Nat.le_of_ble_eq_true rfl) dX10_readIn_13 rfl (fun H locs hw => ?_)
      refine lv_istore_n (lv' := [(3, .int v13), (0, .ref (h 0)), (1, .int a1), (2, .int a2)]) hx hb dX10_readIn_16 rfl hl (by decide) rfl (fun ls hl => ?_)
      refine lv_lconst (v := 0) hx hb dX10_readIn_17 (by decide) ?_
      refine lv_lstore (lv' := [(4, .long 0), (3, .int v13), (0, .ref (h 0)), (1, .int a1), (2, .int a2)]) hx hb dX10_readIn_18 hl (by decide) rfl (fun ls hl => ?_)
      refine lv_iload_n hx hb dX10_readIn_20 rfl (lv_at hl 1 rfl) ?_
      refine lv_aload_n hx hb dX10_readIn_21 rfl (lv_at hl 2 rfl) ?_
      refine xget (v := .ref (h 1)) E hw 0 rfl rfl 0 (by decide) inw10 qw246 rfl rfl dX10_readIn_22 ?_
      refine xget (v := .int now.1) E hw 1 rfl rfl 0 (by decide) inw7 qw101 rfl rfl dX10_readIn_25 ?_
      obtain ⟨v28, hv28, hf⟩ := ob_e hf
      refine xcallS (ws' := (wC g h now snap has hist ent res num col)) (st1 := [.int v28]) (n := 34) E hw [.int v13, .int now.1] [] (met_X9_count l g v13 now.1 v28 hv28) rfl (by decide) rfl rfl [0, 1, 2, 3, 4, 5, 6, 7, 8, 9, 10, 11, 12, 13, 14, 15, 16, 17, 18, 19, 20, 21, 22, 23, 24, 25, 26, 27, 28, 29, 30, 31, 32, 33] rfl (by decide +kernel) rfl qw444 k_X9_count ⟨rfl, rfl, Nat.le_of_ble_eq_true rfl, Nat.le_of_ble_eq_true rfl⟩ ⟨Nat.zero_le _, Nat.zero_le _⟩ hl.1 (Nat.le_of_ble_eq_true rfl) dX10_readIn_28 rfl (fun H locs hw => ?_)
      refine lv_iconst (v := 1) hx hb dX10_readIn_31 (by decide) ?_
      refine lv_isub hx hb dX10_readIn_32 ?_
      refine lv_istore (lv' := [(6, .int (v28 - 1)), (4, .long 0), (3, .int v13), (0, .ref (h 0)), (1, .int a1), (2, .int a2)]) hx hb dX10_readIn_33 hl (by decide) rfl (fun ls hl => ?_)
      exact b35 xfuel _ _ _ a2 v13 0 (v28 - 1) hw (lv_sub hl [3, 5, 2, 1, 0] rfl) hf
theorem k_X10_whyNoSum : xKV yX10_whyNoSum cX10_whyNoSum 3 (some .int) 2 := ⟨qw628, qw629, qw66, qw630, by decide +kernel, by decide +kernel, by decide +kernel⟩
set_option maxHeartbeats 4000000 in
set_option maxRecDepth 100000 in
theorem met_X10_whyNoSum (l : Launch) (g : xG) (h : Nat → Nat) (now : SC) (snap : SC) (has : Int32) (hist : HC) (ent : EC) (res : RC) (num : NC) (col : CC) (a1 : Int32) (a2 : Int32) (out : Int32 × RC) (hf : f_X10_whyNoSum now res a1 a2 = some (Sum.inr out)) : xM l yX10_whyNoSum (xC yX10_whyNoSum cX10_whyNoSum 3 (some .int)) { frames := 3, cells := 0, slots := 0, locals := 82 } g (wC g h now snap has hist ent res num col) [.ref (h 0), .int a1, .int a2] (some (.int out.1)) (wC g h now snap has hist ent out.2 num col) := by
  refine xof (by decide) (Nat.le_of_ble_eq_true rfl) ⟨rfl, rfl⟩ ?_
  intro p e s m below meth c A ls E hr hlocks hw hl hpost hAe
  have hx := E.1.1
  have hb := E.1.2.1
  have hown := E.1.2.2.2.1
  have hts := E.1.2.2.2.2
  generalize hZ : (MQ below (xPost g (wC g h now snap has hist ent res num col) (wC g h now snap has hist ent out.2 num col) s.heap.size (some (.int out.1))) [.ref (h 0), .int a1, .int a2].toArray s 0 0 A) = ZZ
  have hret : ∀ (pc : Nat) (H : Heap) (locs : List Loc) (ls : Array Slot) (v : Int32) (cres : RC), (v, cres) = out → decode cX10_whyNoSum pc = .ok (.ireturn, 1) → xW g A s.heap (wC g h now snap has hist ent cres num col) H locs → W p l e { frames := 3, cells := 0, slots := 0, locals := 82 } s m [.ref (h 0), .int a1, .int a2].toArray below meth c H locs 0 0 ZZ (F0 m pc ls [.int v]) := by
    intro pc H locs ls v cres he hd hw
    subst he
    rw [← hZ]
    exact W.iret hx hb hr (hpost H locs hw).1 (hpost H locs hw).2 hd hlocks
  clear hpost
  refine lv_iload_n hx hb dX10_whyNoSum_0 rfl (lv_at hl 1 rfl) ?_
  refine lv_iload_n hx hb dX10_whyNoSum_1 rfl (lv_at hl 2 rfl) ?_
  obtain ⟨v2, hv2, hf⟩ := ob_e hf
  rcases v2 with t2 | u2
  · exact nlr hf
  · refine xcallS (ws' := (wC g h now snap has hist ent res num col)) (st1 := []) (n := 34) E hw [.int a1, .int a2] [] (met_X10_requireAccounts l g a1 a2 u2 hv2) rfl (by decide) rfl rfl [0, 1, 2, 3, 4, 5, 6, 7, 8, 9, 10, 11, 12, 13, 14, 15, 16, 17, 18, 19, 20, 21, 22, 23, 24, 25, 26, 27, 28, 29, 30, 31, 32, 33] rfl (by decide +kernel) rfl qw631 k_X10_requireAccounts ⟨rfl, rfl, Nat.le_of_ble_eq_true rfl, Nat.le_of_ble_eq_true rfl⟩ ⟨Nat.zero_le _, Nat.zero_le _⟩ hl.1 (Nat.le_of_ble_eq_true rfl) dX10_whyNoSum_2 rfl (fun H locs hw => ?_)
    refine lv_aload_n hx hb dX10_whyNoSum_5 rfl (lv_at hl 0 rfl) ?_
    refine lv_iload_n hx hb dX10_whyNoSum_6 rfl (lv_at hl 1 rfl) ?_
    refine lv_iload_n hx hb dX10_whyNoSum_7 rfl (lv_at hl 2 rfl) ?_
    obtain ⟨v8, hv8, hf⟩ := ob_e hf
    refine xcallV (ws' := (wC g h now snap has hist ent v8 num col)) (st1 := []) (n := 34) E hw [.int a1, .int a2] [0, 1, 2, 3, 4, 5, 6, 7, 8, 9, 10, 11, 12, 13, 14, 15, 16, 17, 18, 19, 20, 21, 22, 23, 24, 25, 26, 27, 28, 29, 30, 31, 32, 33] (met_X10_formSum l g h now snap has hist ent res num col a1 a2 v8 hv8) rfl (by decide) rfl rfl [34, 35, 36, 37, 38, 39, 40, 41, 42, 43, 44, 45, 46, 47, 48, 49, 50, 51, 52, 53, 54, 55, 56, 57, 58, 59, 60, 61, 62, 63, 64, 65, 66, 67] rfl (by decide +kernel) rfl rfl rfl rfl qw634 k_X10_formSum ⟨rfl, rfl, Nat.le_of_ble_eq_true rfl, Nat.le_of_ble_eq_true rfl⟩ ⟨Nat.zero_le _, Nat.zero_le _⟩ hl.1 (Nat.le_of_ble_eq_true rfl) dX10_whyNoSum_8 rfl (fun H locs hw => ?_)
    refine lv_aload_n hx hb dX10_whyNoSum_11 rfl (lv_at hl 0 rfl) ?_
    refine xget (v := .ref (h 30)) E hw 0 rfl rfl 5 (by decide) inw10 qw251 rfl rfl dX10_whyNoSum_12 ?_
    refine xget (v := .long v8.1) E hw 30 rfl rfl 0 (by decide) inw6 qw179 rfl rfl dX10_whyNoSum_15 ?_
    refine lv_ldc2 hx hb hown (hts _ qw647) dX10_whyNoSum_18 ?_
    refine xlc_le (tgt := 27) hx hb dX10_whyNoSum_21 dX10_whyNoSum_22 (by decide) (fun c21 => ?_) (fun c21 => ?_)
    · replace hf := iq c21 hf
      refine lv_aload_n hx hb dX10_whyNoSum_27 rfl (lv_at hl 0 rfl) ?_
      refine xget (v := .ref (h 30)) E hw 0 rfl rfl 5 (by decide) inw10 qw251 rfl rfl dX10_whyNoSum_28 ?_
      refine xget (v := .long v8.2) E hw 30 rfl rfl 1 (by decide) inw6 qw183 rfl rfl dX10_whyNoSum_31 ?_
      refine lv_ldc2 hx hb hown (hts _ qw648) dX10_whyNoSum_34 ?_
      refine xlc_le (tgt := 45) hx hb dX10_whyNoSum_37 dX10_whyNoSum_38 (by decide) (fun c37 => ?_) (fun c37 => ?_)
      · replace hf := iq c37 hf
        refine lv_iconst (v := 0) hx hb dX10_whyNoSum_45 (by decide) ?_
        exact hret _ _ _ _ _ _ (jr hf) dX10_whyNoSum_46 hw
      · replace hf := ip c37 hf
        refine lv_iconst (v := 2) hx hb dX10_whyNoSum_41 (by decide) ?_
        refine lv_goto (tgt := 46) hx hb dX10_whyNoSum_42 (by decide) ?_
        exact hret _ _ _ _ _ _ (jr hf) dX10_whyNoSum_46 hw
    · replace hf := ip c21 hf
      refine lv_iconst (v := 1) hx hb dX10_whyNoSum_25 (by decide) ?_
      exact hret _ _ _ _ _ _ (jr hf) dX10_whyNoSum_26 hw
set_option maxHeartbeats 4000000 in
set_option maxRecDepth 100000 in
theorem metx_X10_whyNoSum (l : Launch) (hlT : l.stackTraces = false) (g : xG) (h : Nat → Nat) (now : SC) (snap : SC) (has : Int32) (hist : HC) (ent : EC) (res : RC) (num : NC) (col : CC) (a1 : Int32) (a2 : Int32) (out : Nat × RC) (hf : f_X10_whyNoSum now res a1 a2 = some (Sum.inl out)) : xMX l yX10_whyNoSum (xC yX10_whyNoSum cX10_whyNoSum 3 (some .int)) { frames := 8, cells := 1, slots := 6, locals := 141 } g (wC g h now snap has hist ent res num col) [.ref (h 0), .int a1, .int a2] (xEx out.1) (wC g h now snap has hist ent out.2 num col) := by
  refine xofX (by decide) (Nat.le_of_ble_eq_true rfl) ⟨rfl, rfl⟩ ?_
  intro p e s m below meth c A ls E hlocks htab hX hw hl hpost
  have hx := E.1.1
  have hb := E.1.2.1
  have hown := E.1.2.2.2.1
  have hts := E.1.2.2.2.2
  have hx9 : ∀ (H : Heap) (locs : List Loc) (kx : Nat) (cres : RC), (kx, cres) = out → xW g A s.heap (wC g h now snap has hist ent cres num col) H locs → ∀ t : State, s.vm.Alike t.vm → H.size ≤ t.heap.size → (∀ q : Nat, q < H.size → t.heap[q]? = H[q]?) → xPostX g (wC g h now snap has hist ent res num col) (wC g h now snap has hist ent out.2 num col) s.heap.size (xEx out.1) (xEx kx) s t := by
    intro H locs kx cres he hw t h1 h2 h3
    subst he
    exact (hpost H locs hw).1 t h1 h2 h3
  have hx8 : ∀ (H : Heap) (locs : List Loc) (kx : Nat) (cres : RC), (kx, cres) = out → xW g A s.heap (wC g h now snap has hist ent cres num col) H locs → ∀ z ∈ locs, A z.base := by
    intro H locs kx cres he hw
    subst he
    exact (hpost H locs hw).2
  clear hpost
  generalize hZ : (vx_MQ below (fun _ _ _ _ => False) (xPostX g (wC g h now snap has hist ent res num col) (wC g h now snap has hist ent out.2 num col) s.heap.size (xEx out.1)) [.ref (h 0), .int a1, .int a2].toArray s 1 6 A) = ZZ
  have hprop : ∀ (pc : Nat) (H : Heap) (locs : List Loc) (ls : Array Slot) (rest : List Value) (q : Nat) (ce : Cell) (kx : Nat) (cres : RC), (kx, cres) = out → xW g A s.heap (wC g h now snap has hist ent cres num col) H locs → H[q]? = some ce → ce.vm = .none → s.vm.findClass (xEx kx) = some ce.cls → vx_W p l e { frames := 8, cells := 1, slots := 6, locals := 141 } s m [.ref (h 0), .int a1, .int a2].toArray below meth c H locs (0 + 1) (0 + 6) ZZ (F0 m pc ls rest) q := by
    intro pc H locs ls rest q ce kx cres he hw hce hcv hcl
    rw [← hZ]
    exact vx_out (fun x hx => (htab x hx).elim) hlocks hce hcv hcl (fun t ht hW => hx9 H locs kx cres he hw t hW (by rw [ht]; exact Nat.le_refl _) (fun q _ => by rw [ht])) (hx8 H locs kx cres he hw) (Nat.le_refl _) (Nat.le_refl _)
  refine lv_iload_n hx hb dX10_whyNoSum_0 rfl (lv_at hl 1 rfl) ?_
  refine lv_iload_n hx hb dX10_whyNoSum_1 rfl (lv_at hl 2 rfl) ?_
  obtain ⟨v2, hv2, hf⟩ := ob_e hf
  rcases v2 with t2 | u2
  · refine xcallSX (ws' := (wC g h now snap has hist ent res num col)) (n := 34) E hX hw [.int a1, .int a2] [] (metx_X10_requireAccounts l hlT g a1 a2 t2 hv2) rfl (by decide) rfl rfl [0, 1, 2, 3, 4, 5, 6, 7, 8, 9, 10, 11, 12, 13, 14, 15, 16, 17, 18, 19, 20, 21, 22, 23, 24, 25, 26, 27, 28, 29, 30, 31, 32, 33] rfl (by decide +kernel) rfl qw631 k_X10_requireAccounts ⟨rfl, rfl, Nat.le_of_ble_eq_true rfl, Nat.le_of_ble_eq_true rfl⟩ ⟨by decide, by decide⟩ hl.1 (Nat.le_of_ble_eq_true rfl) dX10_whyNoSum_2 (fun H locs q ce hw hce hcv hcl => ?_)
    exact hprop _ _ _ _ _ _ _ _ _ (jl hf) hw hce hcv hcl
  · refine xcallS (ws' := (wC g h now snap has hist ent res num col)) (st1 := []) (n := 34) E hw [.int a1, .int a2] [] (met_X10_requireAccounts l g a1 a2 u2 hv2) rfl (by decide) rfl rfl [0, 1, 2, 3, 4, 5, 6, 7, 8, 9, 10, 11, 12, 13, 14, 15, 16, 17, 18, 19, 20, 21, 22, 23, 24, 25, 26, 27, 28, 29, 30, 31, 32, 33] rfl (by decide +kernel) rfl qw631 k_X10_requireAccounts ⟨rfl, rfl, Nat.le_of_ble_eq_true rfl, Nat.le_of_ble_eq_true rfl⟩ ⟨Nat.zero_le _, Nat.zero_le _⟩ hl.1 (Nat.le_of_ble_eq_true rfl) dX10_whyNoSum_2 rfl (fun H locs hw => ?_)
    refine lv_aload_n hx hb dX10_whyNoSum_5 rfl (lv_at hl 0 rfl) ?_
    refine lv_iload_n hx hb dX10_whyNoSum_6 rfl (lv_at hl 1 rfl) ?_
    refine lv_iload_n hx hb dX10_whyNoSum_7 rfl (lv_at hl 2 rfl) ?_
    obtain ⟨v8, hv8, hf⟩ := ob_e hf
    refine xcallV (ws' := (wC g h now snap has hist ent v8 num col)) (st1 := []) (n := 34) E hw [.int a1, .int a2] [0, 1, 2, 3, 4, 5, 6, 7, 8, 9, 10, 11, 12, 13, 14, 15, 16, 17, 18, 19, 20, 21, 22, 23, 24, 25, 26, 27, 28, 29, 30, 31, 32, 33] (met_X10_formSum l g h now snap has hist ent res num col a1 a2 v8 hv8) rfl (by decide) rfl rfl [34, 35, 36, 37, 38, 39, 40, 41, 42, 43, 44, 45, 46, 47, 48, 49, 50, 51, 52, 53, 54, 55, 56, 57, 58, 59, 60, 61, 62, 63, 64, 65, 66, 67] rfl (by decide +kernel) rfl rfl rfl rfl qw634 k_X10_formSum ⟨rfl, rfl, Nat.le_of_ble_eq_true rfl, Nat.le_of_ble_eq_true rfl⟩ ⟨Nat.zero_le _, Nat.zero_le _⟩ hl.1 (Nat.le_of_ble_eq_true rfl) dX10_whyNoSum_8 rfl (fun H locs hw => ?_)
    refine lv_aload_n hx hb dX10_whyNoSum_11 rfl (lv_at hl 0 rfl) ?_
    refine xget (v := .ref (h 30)) E hw 0 rfl rfl 5 (by decide) inw10 qw251 rfl rfl dX10_whyNoSum_12 ?_
    refine xget (v := .long v8.1) E hw 30 rfl rfl 0 (by decide) inw6 qw179 rfl rfl dX10_whyNoSum_15 ?_
    refine lv_ldc2 hx hb hown (hts _ qw647) dX10_whyNoSum_18 ?_
    refine xlc_le (tgt := 27) hx hb dX10_whyNoSum_21 dX10_whyNoSum_22 (by decide) (fun c21 => ?_) (fun c21 => ?_)
    · replace hf := iq c21 hf
      refine lv_aload_n hx hb dX10_whyNoSum_27 rfl (lv_at hl 0 rfl) ?_
      refine xget (v := .ref (h 30)) E hw 0 rfl rfl 5 (by decide) inw10 qw251 rfl rfl dX10_whyNoSum_28 ?_
      refine xget (v := .long v8.2) E hw 30 rfl rfl 1 (by decide) inw6 qw183 rfl rfl dX10_whyNoSum_31 ?_
      refine lv_ldc2 hx hb hown (hts _ qw648) dX10_whyNoSum_34 ?_
      refine xlc_le (tgt := 45) hx hb dX10_whyNoSum_37 dX10_whyNoSum_38 (by decide) (fun c37 => ?_) (fun c37 => ?_)
      · replace hf := iq c37 hf
        refine lv_iconst (v := 0) hx hb dX10_whyNoSum_45 (by decide) ?_
        exact nrl hf
      · replace hf := ip c37 hf
        refine lv_iconst (v := 2) hx hb dX10_whyNoSum_41 (by decide) ?_
        refine lv_goto (tgt := 46) hx hb dX10_whyNoSum_42 (by decide) ?_
        exact nrl hf
    · replace hf := ip c21 hf
      refine lv_iconst (v := 1) hx hb dX10_whyNoSum_25 (by decide) ?_
      exact nrl hf
theorem k_X10_periodOfSum : xKV yX10_periodOfSum cX10_periodOfSum 3 (some .int) 2 := ⟨qw650, qw651, qw66, qw652, by decide +kernel, by decide +kernel, by decide +kernel⟩
set_option maxHeartbeats 4000000 in
set_option maxRecDepth 100000 in
theorem met_X10_periodOfSum (l : Launch) (g : xG) (h : Nat → Nat) (now : SC) (snap : SC) (has : Int32) (hist : HC) (ent : EC) (res : RC) (num : NC) (col : CC) (a1 : Int32) (a2 : Int32) (out : Int32 × RC) (hf : f_X10_periodOfSum now res a1 a2 = some (Sum.inr out)) : xM l yX10_periodOfSum (xC yX10_periodOfSum cX10_periodOfSum 3 (some .int)) { frames := 4, cells := 0, slots := 0, locals := 104 } g (wC g h now snap has hist ent res num col) [.ref (h 0), .int a1, .int a2] (some (.int out.1)) (wC g h now snap has hist ent out.2 num col) := by
  refine xof (by decide) (Nat.le_of_ble_eq_true rfl) ⟨rfl, rfl⟩ ?_
  intro p e s m below meth c A ls E hr hlocks hw hl hpost hAe
  have hx := E.1.1
  have hb := E.1.2.1
  have hown := E.1.2.2.2.1
  have hts := E.1.2.2.2.2
  generalize hZ : (MQ below (xPost g (wC g h now snap has hist ent res num col) (wC g h now snap has hist ent out.2 num col) s.heap.size (some (.int out.1))) [.ref (h 0), .int a1, .int a2].toArray s 0 0 A) = ZZ
  have hret : ∀ (pc : Nat) (H : Heap) (locs : List Loc) (ls : Array Slot) (v : Int32) (cres : RC), (v, cres) = out → decode cX10_periodOfSum pc = .ok (.ireturn, 1) → xW g A s.heap (wC g h now snap has hist ent cres num col) H locs → W p l e { frames := 4, cells := 0, slots := 0, locals := 104 } s m [.ref (h 0), .int a1, .int a2].toArray below meth c H locs 0 0 ZZ (F0 m pc ls [.int v]) := by
    intro pc H locs ls v cres he hd hw
    subst he
    rw [← hZ]
    exact W.iret hx hb hr (hpost H locs hw).1 (hpost H locs hw).2 hd hlocks
  clear hpost
  refine lv_iload_n hx hb dX10_periodOfSum_0 rfl (lv_at hl 1 rfl) ?_
  refine lv_iload_n hx hb dX10_periodOfSum_1 rfl (lv_at hl 2 rfl) ?_
  obtain ⟨v2, hv2, hf⟩ := ob_e hf
  rcases v2 with t2 | u2
  · exact nlr hf
  · refine xcallS (ws' := (wC g h now snap has hist ent res num col)) (st1 := []) (n := 34) E hw [.int a1, .int a2] [] (met_X10_requireAccounts l g a1 a2 u2 hv2) rfl (by decide) rfl rfl [0, 1, 2, 3, 4, 5, 6, 7, 8, 9, 10, 11, 12, 13, 14, 15, 16, 17, 18, 19, 20, 21, 22, 23, 24, 25, 26, 27, 28, 29, 30, 31, 32, 33] rfl (by decide +kernel) rfl qw631 k_X10_requireAccounts ⟨rfl, rfl, Nat.le_of_ble_eq_true rfl, Nat.le_of_ble_eq_true rfl⟩ ⟨Nat.zero_le _, Nat.zero_le _⟩ hl.1 (Nat.le_of_ble_eq_true rfl) dX10_periodOfSum_2 rfl (fun H locs hw => ?_)
    refine lv_aload_n hx hb dX10_periodOfSum_5 rfl (lv_at hl 0 rfl) ?_
    refine lv_iload_n hx hb dX10_periodOfSum_6 rfl (lv_at hl 1 rfl) ?_
    refine lv_iload_n hx hb dX10_periodOfSum_7 rfl (lv_at hl 2 rfl) ?_
    obtain ⟨v8, hv8, hf⟩ := ob_e hf
    refine xcallV (ws' := (wC g h now snap has hist ent v8 num col)) (st1 := []) (n := 34) E hw [.int a1, .int a2] [0, 1, 2, 3, 4, 5, 6, 7, 8, 9, 10, 11, 12, 13, 14, 15, 16, 17, 18, 19, 20, 21, 22, 23, 24, 25, 26, 27, 28, 29, 30, 31, 32, 33] (met_X10_formSum l g h now snap has hist ent res num col a1 a2 v8 hv8) rfl (by decide) rfl rfl [34, 35, 36, 37, 38, 39, 40, 41, 42, 43, 44, 45, 46, 47, 48, 49, 50, 51, 52, 53, 54, 55, 56, 57, 58, 59, 60, 61, 62, 63, 64, 65, 66, 67] rfl (by decide +kernel) rfl rfl rfl rfl qw634 k_X10_formSum ⟨rfl, rfl, Nat.le_of_ble_eq_true rfl, Nat.le_of_ble_eq_true rfl⟩ ⟨Nat.zero_le _, Nat.zero_le _⟩ hl.1 (Nat.le_of_ble_eq_true rfl) dX10_periodOfSum_8 rfl (fun H locs hw => ?_)
    refine lv_aload_n hx hb dX10_periodOfSum_11 rfl (lv_at hl 0 rfl) ?_
    refine xget (v := .ref (h 30)) E hw 0 rfl rfl 5 (by decide) inw10 qw251 rfl rfl dX10_periodOfSum_12 ?_
    refine xget (v := .long v8.2) E hw 30 rfl rfl 1 (by decide) inw6 qw183 rfl rfl dX10_periodOfSum_15 ?_
    refine lv_aload_n hx hb dX10_periodOfSum_18 rfl (lv_at hl 0 rfl) ?_
    refine xget (v := .ref (h 1)) E hw 0 rfl rfl 0 (by decide) inw10 qw246 rfl rfl dX10_periodOfSum_19 ?_
    refine xget (v := .int now.1) E hw 1 rfl rfl 0 (by decide) inw7 qw101 rfl rfl dX10_periodOfSum_22 ?_
    obtain ⟨v25, hv25, hf⟩ := ob_e hf
    refine xcallS (ws' := (wC g h now snap has hist ent v8 num col)) (st1 := [.long v25]) (n := 34) E hw [.long v8.2, .int now.1] [] (met_X0_coprimePart l g v8.2 now.1 v25 hv25) rfl (by decide) rfl rfl [0, 1, 2, 3, 4, 5, 6, 7, 8, 9, 10, 11, 12, 13, 14, 15, 16, 17, 18, 19, 20, 21, 22, 23, 24, 25, 26, 27, 28, 29, 30, 31, 32, 33] rfl (by decide +kernel) rfl qw540 k_X0_coprimePart ⟨rfl, rfl, Nat.le_of_ble_eq_true rfl, Nat.le_of_ble_eq_true rfl⟩ ⟨Nat.zero_le _, Nat.zero_le _⟩ hl.1 (Nat.le_of_ble_eq_true rfl) dX10_periodOfSum_25 rfl (fun H locs hw => ?_)
    refine lv_aload_n hx hb dX10_periodOfSum_28 rfl (lv_at hl 0 rfl) ?_
    refine xget (v := .ref (h 1)) E hw 0 rfl rfl 0 (by decide) inw10 qw246 rfl rfl dX10_periodOfSum_29 ?_
    refine xget (v := .int now.1) E hw 1 rfl rfl 0 (by decide) inw7 qw101 rfl rfl dX10_periodOfSum_32 ?_
    obtain ⟨v35, hv35, hf⟩ := ob_e hf
    refine xcallS (ws' := (wC g h now snap has hist ent v8 num col)) (st1 := [.int v35]) (n := 34) E hw [.long v25, .int now.1] [] (met_X0_periodByFactors l g v25 now.1 v35 hv35) rfl (by decide) rfl rfl [0, 1, 2, 3, 4, 5, 6, 7, 8, 9, 10, 11, 12, 13, 14, 15, 16, 17, 18, 19, 20, 21, 22, 23, 24, 25, 26, 27, 28, 29, 30, 31, 32, 33] rfl (by decide +kernel) rfl qw653 k_X0_periodByFactors ⟨rfl, rfl, Nat.le_of_ble_eq_true rfl, Nat.le_of_ble_eq_true rfl⟩ ⟨Nat.zero_le _, Nat.zero_le _⟩ hl.1 (Nat.le_of_ble_eq_true rfl) dX10_periodOfSum_35 rfl (fun H locs hw => ?_)
    exact hret _ _ _ _ _ _ (jr hf) dX10_periodOfSum_38 hw
set_option maxHeartbeats 4000000 in
set_option maxRecDepth 100000 in
theorem metx_X10_periodOfSum (l : Launch) (hlT : l.stackTraces = false) (g : xG) (h : Nat → Nat) (now : SC) (snap : SC) (has : Int32) (hist : HC) (ent : EC) (res : RC) (num : NC) (col : CC) (a1 : Int32) (a2 : Int32) (out : Nat × RC) (hf : f_X10_periodOfSum now res a1 a2 = some (Sum.inl out)) : xMX l yX10_periodOfSum (xC yX10_periodOfSum cX10_periodOfSum 3 (some .int)) { frames := 8, cells := 1, slots := 6, locals := 141 } g (wC g h now snap has hist ent res num col) [.ref (h 0), .int a1, .int a2] (xEx out.1) (wC g h now snap has hist ent out.2 num col) := by
  refine xofX (by decide) (Nat.le_of_ble_eq_true rfl) ⟨rfl, rfl⟩ ?_
  intro p e s m below meth c A ls E hlocks htab hX hw hl hpost
  have hx := E.1.1
  have hb := E.1.2.1
  have hown := E.1.2.2.2.1
  have hts := E.1.2.2.2.2
  have hx9 : ∀ (H : Heap) (locs : List Loc) (kx : Nat) (cres : RC), (kx, cres) = out → xW g A s.heap (wC g h now snap has hist ent cres num col) H locs → ∀ t : State, s.vm.Alike t.vm → H.size ≤ t.heap.size → (∀ q : Nat, q < H.size → t.heap[q]? = H[q]?) → xPostX g (wC g h now snap has hist ent res num col) (wC g h now snap has hist ent out.2 num col) s.heap.size (xEx out.1) (xEx kx) s t := by
    intro H locs kx cres he hw t h1 h2 h3
    subst he
    exact (hpost H locs hw).1 t h1 h2 h3
  have hx8 : ∀ (H : Heap) (locs : List Loc) (kx : Nat) (cres : RC), (kx, cres) = out → xW g A s.heap (wC g h now snap has hist ent cres num col) H locs → ∀ z ∈ locs, A z.base := by
    intro H locs kx cres he hw
    subst he
    exact (hpost H locs hw).2
  clear hpost
  generalize hZ : (vx_MQ below (fun _ _ _ _ => False) (xPostX g (wC g h now snap has hist ent res num col) (wC g h now snap has hist ent out.2 num col) s.heap.size (xEx out.1)) [.ref (h 0), .int a1, .int a2].toArray s 1 6 A) = ZZ
  have hprop : ∀ (pc : Nat) (H : Heap) (locs : List Loc) (ls : Array Slot) (rest : List Value) (q : Nat) (ce : Cell) (kx : Nat) (cres : RC), (kx, cres) = out → xW g A s.heap (wC g h now snap has hist ent cres num col) H locs → H[q]? = some ce → ce.vm = .none → s.vm.findClass (xEx kx) = some ce.cls → vx_W p l e { frames := 8, cells := 1, slots := 6, locals := 141 } s m [.ref (h 0), .int a1, .int a2].toArray below meth c H locs (0 + 1) (0 + 6) ZZ (F0 m pc ls rest) q := by
    intro pc H locs ls rest q ce kx cres he hw hce hcv hcl
    rw [← hZ]
    exact vx_out (fun x hx => (htab x hx).elim) hlocks hce hcv hcl (fun t ht hW => hx9 H locs kx cres he hw t hW (by rw [ht]; exact Nat.le_refl _) (fun q _ => by rw [ht])) (hx8 H locs kx cres he hw) (Nat.le_refl _) (Nat.le_refl _)
  refine lv_iload_n hx hb dX10_periodOfSum_0 rfl (lv_at hl 1 rfl) ?_
  refine lv_iload_n hx hb dX10_periodOfSum_1 rfl (lv_at hl 2 rfl) ?_
  obtain ⟨v2, hv2, hf⟩ := ob_e hf
  rcases v2 with t2 | u2
  · refine xcallSX (ws' := (wC g h now snap has hist ent res num col)) (n := 34) E hX hw [.int a1, .int a2] [] (metx_X10_requireAccounts l hlT g a1 a2 t2 hv2) rfl (by decide) rfl rfl [0, 1, 2, 3, 4, 5, 6, 7, 8, 9, 10, 11, 12, 13, 14, 15, 16, 17, 18, 19, 20, 21, 22, 23, 24, 25, 26, 27, 28, 29, 30, 31, 32, 33] rfl (by decide +kernel) rfl qw631 k_X10_requireAccounts ⟨rfl, rfl, Nat.le_of_ble_eq_true rfl, Nat.le_of_ble_eq_true rfl⟩ ⟨by decide, by decide⟩ hl.1 (Nat.le_of_ble_eq_true rfl) dX10_periodOfSum_2 (fun H locs q ce hw hce hcv hcl => ?_)
    exact hprop _ _ _ _ _ _ _ _ _ (jl hf) hw hce hcv hcl
  · refine xcallS (ws' := (wC g h now snap has hist ent res num col)) (st1 := []) (n := 34) E hw [.int a1, .int a2] [] (met_X10_requireAccounts l g a1 a2 u2 hv2) rfl (by decide) rfl rfl [0, 1, 2, 3, 4, 5, 6, 7, 8, 9, 10, 11, 12, 13, 14, 15, 16, 17, 18, 19, 20, 21, 22, 23, 24, 25, 26, 27, 28, 29, 30, 31, 32, 33] rfl (by decide +kernel) rfl qw631 k_X10_requireAccounts ⟨rfl, rfl, Nat.le_of_ble_eq_true rfl, Nat.le_of_ble_eq_true rfl⟩ ⟨Nat.zero_le _, Nat.zero_le _⟩ hl.1 (Nat.le_of_ble_eq_true rfl) dX10_periodOfSum_2 rfl (fun H locs hw => ?_)
    refine lv_aload_n hx hb dX10_periodOfSum_5 rfl (lv_at hl 0 rfl) ?_
    refine lv_iload_n hx hb dX10_periodOfSum_6 rfl (lv_at hl 1 rfl) ?_
    refine lv_iload_n hx hb dX10_periodOfSum_7 rfl (lv_at hl 2 rfl) ?_
    obtain ⟨v8, hv8, hf⟩ := ob_e hf
    refine xcallV (ws' := (wC g h now snap has hist ent v8 num col)) (st1 := []) (n := 34) E hw [.int a1, .int a2] [0, 1, 2, 3, 4, 5, 6, 7, 8, 9, 10, 11, 12, 13, 14, 15, 16, 17, 18, 19, 20, 21, 22, 23, 24, 25, 26, 27, 28, 29, 30, 31, 32, 33] (met_X10_formSum l g h now snap has hist ent res num col a1 a2 v8 hv8) rfl (by decide) rfl rfl [34, 35, 36, 37, 38, 39, 40, 41, 42, 43, 44, 45, 46, 47, 48, 49, 50, 51, 52, 53, 54, 55, 56, 57, 58, 59, 60, 61, 62, 63, 64, 65, 66, 67] rfl (by decide +kernel) rfl rfl rfl rfl qw634 k_X10_formSum ⟨rfl, rfl, Nat.le_of_ble_eq_true rfl, Nat.le_of_ble_eq_true rfl⟩ ⟨Nat.zero_le _, Nat.zero_le _⟩ hl.1 (Nat.le_of_ble_eq_true rfl) dX10_periodOfSum_8 rfl (fun H locs hw => ?_)
    refine lv_aload_n hx hb dX10_periodOfSum_11 rfl (lv_at hl 0 rfl) ?_
    refine xget (v := .ref (h 30)) E hw 0 rfl rfl 5 (by decide) inw10 qw251 rfl rfl dX10_periodOfSum_12 ?_
    refine xget (v := .long v8.2) E hw 30 rfl rfl 1 (by decide) inw6 qw183 rfl rfl dX10_periodOfSum_15 ?_
    refine lv_aload_n hx hb dX10_periodOfSum_18 rfl (lv_at hl 0 rfl) ?_
    refine xget (v := .ref (h 1)) E hw 0 rfl rfl 0 (by decide) inw10 qw246 rfl rfl dX10_periodOfSum_19 ?_
    refine xget (v := .int now.1) E hw 1 rfl rfl 0 (by decide) inw7 qw101 rfl rfl dX10_periodOfSum_22 ?_
    obtain ⟨v25, hv25, hf⟩ := ob_e hf
    refine xcallS (ws' := (wC g h now snap has hist ent v8 num col)) (st1 := [.long v25]) (n := 34) E hw [.long v8.2, .int now.1] [] (met_X0_coprimePart l g v8.2 now.1 v25 hv25) rfl (by decide) rfl rfl [0, 1, 2, 3, 4, 5, 6, 7, 8, 9, 10, 11, 12, 13, 14, 15, 16, 17, 18, 19, 20, 21, 22, 23, 24, 25, 26, 27, 28, 29, 30, 31, 32, 33] rfl (by decide +kernel) rfl qw540 k_X0_coprimePart ⟨rfl, rfl, Nat.le_of_ble_eq_true rfl, Nat.le_of_ble_eq_true rfl⟩ ⟨Nat.zero_le _, Nat.zero_le _⟩ hl.1 (Nat.le_of_ble_eq_true rfl) dX10_periodOfSum_25 rfl (fun H locs hw => ?_)
    refine lv_aload_n hx hb dX10_periodOfSum_28 rfl (lv_at hl 0 rfl) ?_
    refine xget (v := .ref (h 1)) E hw 0 rfl rfl 0 (by decide) inw10 qw246 rfl rfl dX10_periodOfSum_29 ?_
    refine xget (v := .int now.1) E hw 1 rfl rfl 0 (by decide) inw7 qw101 rfl rfl dX10_periodOfSum_32 ?_
    obtain ⟨v35, hv35, hf⟩ := ob_e hf
    refine xcallS (ws' := (wC g h now snap has hist ent v8 num col)) (st1 := [.int v35]) (n := 34) E hw [.long v25, .int now.1] [] (met_X0_periodByFactors l g v25 now.1 v35 hv35) rfl (by decide) rfl rfl [0, 1, 2, 3, 4, 5, 6, 7, 8, 9, 10, 11, 12, 13, 14, 15, 16, 17, 18, 19, 20, 21, 22, 23, 24, 25, 26, 27, 28, 29, 30, 31, 32, 33] rfl (by decide +kernel) rfl qw653 k_X0_periodByFactors ⟨rfl, rfl, Nat.le_of_ble_eq_true rfl, Nat.le_of_ble_eq_true rfl⟩ ⟨Nat.zero_le _, Nat.zero_le _⟩ hl.1 (Nat.le_of_ble_eq_true rfl) dX10_periodOfSum_35 rfl (fun H locs hw => ?_)
    exact nrl hf
theorem k_X10_shareOf : xKV yX10_shareOf cX10_shareOf 5 (some .double) 1 := ⟨qw660, qw661, qw66, qw662, by decide +kernel, by decide +kernel, by decide +kernel⟩
set_option maxHeartbeats 4000000 in
set_option maxRecDepth 100000 in
theorem met_X10_shareOf (l : Launch) (g : xG) (h : Nat → Nat) (now : SC) (snap : SC) (has : Int32) (hist : HC) (ent : EC) (res : RC) (num : NC) (col : CC) (a1 : Int32) (out : UInt64) (hf : f_X10_shareOf now a1 = some (Sum.inr out)) : xM l yX10_shareOf (xC yX10_shareOf cX10_shareOf 5 (some .double)) { frames := 2, cells := 0, slots := 0, locals := 51 } g (wC g h now snap has hist ent res num col) [.ref (h 0), .int a1] (some (.double out)) (wC g h now snap has hist ent res num col) := by
  refine xof (by decide) (Nat.le_of_ble_eq_true rfl) ⟨rfl, rfl⟩ ?_
  intro p e s m below meth c A ls E hr hlocks hw hl hpost hAe
  have hx := E.1.1
  have hb := E.1.2.1
  have hown := E.1.2.2.2.1
  have hts := E.1.2.2.2.2
  generalize hZ : (MQ below (xPost g (wC g h now snap has hist ent res num col) (wC g h now snap has hist ent res num col) s.heap.size (some (.double out))) [.ref (h 0), .int a1].toArray s 0 0 A) = ZZ
  have hret : ∀ (pc : Nat) (H : Heap) (locs : List Loc) (ls : Array Slot) (v : UInt64), v = out → decode cX10_shareOf pc = .ok (.dreturn, 1) → xW g A s.heap (wC g h now snap has hist ent res num col) H locs → W p l e { frames := 2, cells := 0, slots := 0, locals := 51 } s m [.ref (h 0), .int a1].toArray below meth c H locs 0 0 ZZ (F0 m pc ls [.double v]) := by
    intro pc H locs ls v he hd hw
    subst he
    rw [← hZ]
    exact W.dret hx hb hr (hpost H locs hw).1 (hpost H locs hw).2 hd hlocks
  clear hpost
  have b9 : ∀ n9 : Nat, ∀ (H : Heap) (locs : List Loc) (ls : Array Slot) (x1 : Int32) (x2 : UInt64) (x4 : Int32), xW g A s.heap (wC g h now snap has hist ent res num col) H locs → lv_has ls 5 [(0, .ref (h 0)), (1, .int x1), (2, .double x2), (4, .int x4)] → f_X10_shareOf_b9 n9 now x1 x2 x4 = some (Sum.inr out) → W p l e { frames := 2, cells := 0, slots := 0, locals := 51 } s m [.ref (h 0), .int a1].toArray below meth c H locs 0 0 ZZ (F0 m 9 ls []) := by
    intro n9
    induction n9 with
    | zero =>
      intro H locs ls x1 x2 x4 hw hl hf
      exact nn hf
    | succ n9 ih9 =>
      intro H locs ls x1 x2 x4 hw hl hf
      refine lv_iload hx hb dX10_shareOf_9 (lv_at hl 3 rfl) ?_
      refine lv_bipush (v := 6) hx hb dX10_shareOf_11 (by decide) ?_
      refine lv_icmp_ge (tgt := 34) hx hb dX10_shareOf_13 (by decide) (fun c13 => ?_) (fun c13 => ?_)
      · replace hf := ip c13 hf
        refine lv_dload_n hx hb dX10_shareOf_34 rfl (lv_at hl 2 rfl) ?_
        refine lv_dconst0 hx hb dX10_shareOf_35 ?_
        refine lv_dcmp hx hb dX10_shareOf_36 ?_
        refine lv_if_le (tgt := 53) hx hb dX10_shareOf_37 (by decide) (fun c37 => ?_) (fun c37 => ?_)
        · replace hf := ip c37 hf
          refine lv_dconst0 hx hb dX10_shareOf_53 ?_
          exact hret _ _ _ _ _ (jr hf) dX10_shareOf_54 hw
        · replace hf := iq c37 hf
          refine lv_aload_n hx hb dX10_shareOf_40 rfl (lv_at hl 0 rfl) ?_
          refine xget (v := .ref (h 1)) E hw 0 rfl rfl 0 (by decide) inw10 qw246 rfl rfl dX10_shareOf_41 ?_
          refine lv_iload_n hx hb dX10_shareOf_44 rfl (lv_at hl 1 rfl) ?_
          obtain ⟨v45, hv45, hf⟩ := ob_e hf
          refine xcallV (ws' := (wC g h now snap has hist ent res num col)) (st1 := [.double v45]) (n := 34) E hw [.int x1] [1, 2, 3] (met_X7_asDouble l g h 1 now x1 v45 hv45) rfl (by decide) rfl rfl [0, 34, 35, 36, 4, 5, 6, 7, 8, 9, 10, 11, 12, 13, 14, 15, 16, 17, 18, 19, 20, 21, 22, 23, 24, 25, 26, 27, 28, 29, 30, 31, 32, 33] rfl (by decide +kernel) rfl rfl rfl rfl qw663 k_X7_asDouble ⟨rfl, rfl, Nat.le_of_ble_eq_true rfl, Nat.le_of_ble_eq_true rfl⟩ ⟨Nat.zero_le _, Nat.zero_le _⟩ hl.1 (Nat.le_of_ble_eq_true rfl) dX10_shareOf_45 rfl (fun H locs hw => ?_)
          refine lv_dload_n hx hb dX10_shareOf_48 rfl (lv_at hl 2 rfl) ?_
          obtain ⟨hz, hf⟩ := nz hf
          refine lv_ddiv hx hb dX10_shareOf_49 (xn64 hz) ?_
          refine lv_goto (tgt := 54) hx hb dX10_shareOf_50 (by decide) ?_
          exact hret _ _ _ _ _ (jr hf) dX10_shareOf_54 hw
      · replace hf := iq c13 hf
        refine lv_dload_n hx hb dX10_shareOf_16 rfl (lv_at hl 2 rfl) ?_
        refine lv_aload_n hx hb dX10_shareOf_17 rfl (lv_at hl 0 rfl) ?_
        refine xget (v := .ref (h 1)) E hw 0 rfl rfl 0 (by decide) inw10 qw246 rfl rfl dX10_shareOf_18 ?_
        refine lv_iload hx hb dX10_shareOf_21 (lv_at hl 3 rfl) ?_
        obtain ⟨v23, hv23, hf⟩ := ob_e hf
        refine xcallV (ws' := (wC g h now snap has hist ent res num col)) (st1 := [.double v23, .double x2]) (n := 34) E hw [.int x4] [1, 2, 3] (met_X7_asDouble l g h 1 now x4 v23 hv23) rfl (by decide) rfl rfl [0, 34, 35, 36, 4, 5, 6, 7, 8, 9, 10, 11, 12, 13, 14, 15, 16, 17, 18, 19, 20, 21, 22, 23, 24, 25, 26, 27, 28, 29, 30, 31, 32, 33] rfl (by decide +kernel) rfl rfl rfl rfl qw663 k_X7_asDouble ⟨rfl, rfl, Nat.le_of_ble_eq_true rfl, Nat.le_of_ble_eq_true rfl⟩ ⟨Nat.zero_le _, Nat.zero_le _⟩ hl.1 (Nat.le_of_ble_eq_true rfl) dX10_shareOf_23 rfl (fun H locs hw => ?_)
        obtain ⟨hz, hf⟩ := nz hf
        refine lv_dadd hx hb dX10_shareOf_26 (xn64 hz) ?_
        refine lv_dstore_n (lv' := [(2, .double (FP.dadd x2 v23)), (0, .ref (h 0)), (1, .int x1), (4, .int x4)]) hx hb dX10_shareOf_27 rfl hl (by decide) rfl (fun ls hl => ?_)
        refine lv_iinc (v := x4 + 1) (lv' := [(4, .int (x4 + 1)), (2, .double (FP.dadd x2 v23)), (0, .ref (h 0)), (1, .int x1)]) hx hb dX10_shareOf_28 hl (k := 3) rfl rfl (by decide) rfl (fun ls hl => ?_)
        refine lv_goto (tgt := 9) hx hb dX10_shareOf_31 (by decide) ?_
        exact ih9 _ _ _ x1 (FP.dadd x2 v23) (x4 + 1) hw (lv_sub hl [2, 3, 1, 0] rfl) hf
  refine lv_iload_n hx hb dX10_shareOf_0 rfl (lv_at hl 1 rfl) ?_
  obtain ⟨v1, hv1, hf⟩ := ob_e hf
  rcases v1 with t1 | u1
  · exact nlr hf
  · refine xcallS (ws' := (wC g h now snap has hist ent res num col)) (st1 := []) (n := 34) E hw [.int a1] [] (met_X10_requireAccount l g a1 u1 hv1) rfl (by decide) rfl rfl [0, 1, 2, 3, 4, 5, 6, 7, 8, 9, 10, 11, 12, 13, 14, 15, 16, 17, 18, 19, 20, 21, 22, 23, 24, 25, 26, 27, 28, 29, 30, 31, 32, 33] rfl (by decide +kernel) rfl qw369 k_X10_requireAccount ⟨rfl, rfl, Nat.le_of_ble_eq_true rfl, Nat.le_of_ble_eq_true rfl⟩ ⟨Nat.zero_le _, Nat.zero_le _⟩ hl.1 (Nat.le_of_ble_eq_true rfl) dX10_shareOf_1 rfl (fun H locs hw => ?_)
    refine lv_dconst0 hx hb dX10_shareOf_4 ?_
    refine lv_dstore_n (lv' := [(2, .double FP.dconst0), (0, .ref (h 0)), (1, .int a1)]) hx hb dX10_shareOf_5 rfl hl (by decide) rfl (fun ls hl => ?_)
    refine lv_iconst (v := 0) hx hb dX10_shareOf_6 (by decide) ?_
    refine lv_istore (lv' := [(4, .int 0), (2, .double FP.dconst0), (0, .ref (h 0)), (1, .int a1)]) hx hb dX10_shareOf_7 hl (by decide) rfl (fun ls hl => ?_)
    exact b9 xfuel _ _ _ a1 FP.dconst0 0 hw (lv_sub hl [2, 3, 1, 0] rfl) hf
set_option maxHeartbeats 4000000 in
set_option maxRecDepth 100000 in
theorem metx_X10_shareOf (l : Launch) (hlT : l.stackTraces = false) (g : xG) (h : Nat → Nat) (now : SC) (snap : SC) (has : Int32) (hist : HC) (ent : EC) (res : RC) (num : NC) (col : CC) (a1 : Int32) (out : Nat) (hf : f_X10_shareOf now a1 = some (Sum.inl out)) : xMX l yX10_shareOf (xC yX10_shareOf cX10_shareOf 5 (some .double)) { frames := 7, cells := 1, slots := 6, locals := 120 } g (wC g h now snap has hist ent res num col) [.ref (h 0), .int a1] (xEx out) (wC g h now snap has hist ent res num col) := by
  refine xofX (by decide) (Nat.le_of_ble_eq_true rfl) ⟨rfl, rfl⟩ ?_
  intro p e s m below meth c A ls E hlocks htab hX hw hl hpost
  have hx := E.1.1
  have hb := E.1.2.1
  have hown := E.1.2.2.2.1
  have hts := E.1.2.2.2.2
  have hx9 : ∀ (H : Heap) (locs : List Loc) (kx : Nat), kx = out → xW g A s.heap (wC g h now snap has hist ent res num col) H locs → ∀ t : State, s.vm.Alike t.vm → H.size ≤ t.heap.size → (∀ q : Nat, q < H.size → t.heap[q]? = H[q]?) → xPostX g (wC g h now snap has hist ent res num col) (wC g h now snap has hist ent res num col) s.heap.size (xEx out) (xEx kx) s t := by
    intro H locs kx he hw t h1 h2 h3
    subst he
    exact (hpost H locs hw).1 t h1 h2 h3
  have hx8 : ∀ (H : Heap) (locs : List Loc) (kx : Nat), kx = out → xW g A s.heap (wC g h now snap has hist ent res num col) H locs → ∀ z ∈ locs, A z.base := by
    intro H locs kx he hw
    subst he
    exact (hpost H locs hw).2
  clear hpost
  generalize hZ : (vx_MQ below (fun _ _ _ _ => False) (xPostX g (wC g h now snap has hist ent res num col) (wC g h now snap has hist ent res num col) s.heap.size (xEx out)) [.ref (h 0), .int a1].toArray s 1 6 A) = ZZ
  have hprop : ∀ (pc : Nat) (H : Heap) (locs : List Loc) (ls : Array Slot) (rest : List Value) (q : Nat) (ce : Cell) (kx : Nat), kx = out → xW g A s.heap (wC g h now snap has hist ent res num col) H locs → H[q]? = some ce → ce.vm = .none → s.vm.findClass (xEx kx) = some ce.cls → vx_W p l e { frames := 7, cells := 1, slots := 6, locals := 120 } s m [.ref (h 0), .int a1].toArray below meth c H locs (0 + 1) (0 + 6) ZZ (F0 m pc ls rest) q := by
    intro pc H locs ls rest q ce kx he hw hce hcv hcl
    rw [← hZ]
    exact vx_out (fun x hx => (htab x hx).elim) hlocks hce hcv hcl (fun t ht hW => hx9 H locs kx he hw t hW (by rw [ht]; exact Nat.le_refl _) (fun q _ => by rw [ht])) (hx8 H locs kx he hw) (Nat.le_refl _) (Nat.le_refl _)
  have b9 : ∀ n9 : Nat, ∀ (H : Heap) (locs : List Loc) (ls : Array Slot) (x1 : Int32) (x2 : UInt64) (x4 : Int32), xW g A s.heap (wC g h now snap has hist ent res num col) H locs → lv_has ls 5 [(0, .ref (h 0)), (1, .int x1), (2, .double x2), (4, .int x4)] → f_X10_shareOf_b9 n9 now x1 x2 x4 = some (Sum.inl out) → W p l e { frames := 7, cells := 1, slots := 6, locals := 120 } s m [.ref (h 0), .int a1].toArray below meth c H locs 0 0 ZZ (F0 m 9 ls []) := by
    intro n9
    induction n9 with
    | zero =>
      intro H locs ls x1 x2 x4 hw hl hf
      exact nn hf
    | succ n9 ih9 =>
      intro H locs ls x1 x2 x4 hw hl hf
      refine lv_iload hx hb dX10_shareOf_9 (lv_at hl 3 rfl) ?_
      refine lv_bipush (v := 6) hx hb dX10_shareOf_11 (by decide) ?_
      refine lv_icmp_ge (tgt := 34) hx hb dX10_shareOf_13 (by decide) (fun c13 => ?_) (fun c13 => ?_)
      · replace hf := ip c13 hf
        refine lv_dload_n hx hb dX10_shareOf_34 rfl (lv_at hl 2 rfl) ?_
        refine lv_dconst0 hx hb dX10_shareOf_35 ?_
        refine lv_dcmp hx hb dX10_shareOf_36 ?_
        refine lv_if_le (tgt := 53) hx hb dX10_shareOf_37 (by decide) (fun c37 => ?_) (fun c37 => ?_)
        · replace hf := ip c37 hf
          refine lv_dconst0 hx hb dX10_shareOf_53 ?_
          exact nrl hf
        · replace hf := iq c37 hf
          refine lv_aload_n hx hb dX10_shareOf_40 rfl (lv_at hl 0 rfl) ?_
          refine xget (v := .ref (h 1)) E hw 0 rfl rfl 0 (by decide) inw10 qw246 rfl rfl dX10_shareOf_41 ?_
          refine lv_iload_n hx hb dX10_shareOf_44 rfl (lv_at hl 1 rfl) ?_
          obtain ⟨v45, hv45, hf⟩ := ob_e hf
          refine xcallV (ws' := (wC g h now snap has hist ent res num col)) (st1 := [.double v45]) (n := 34) E hw [.int x1] [1, 2, 3] (met_X7_asDouble l g h 1 now x1 v45 hv45) rfl (by decide) rfl rfl [0, 34, 35, 36, 4, 5, 6, 7, 8, 9, 10, 11, 12, 13, 14, 15, 16, 17, 18, 19, 20, 21, 22, 23, 24, 25, 26, 27, 28, 29, 30, 31, 32, 33] rfl (by decide +kernel) rfl rfl rfl rfl qw663 k_X7_asDouble ⟨rfl, rfl, Nat.le_of_ble_eq_true rfl, Nat.le_of_ble_eq_true rfl⟩ ⟨Nat.zero_le _, Nat.zero_le _⟩ hl.1 (Nat.le_of_ble_eq_true rfl) dX10_shareOf_45 rfl (fun H locs hw => ?_)
          refine lv_dload_n hx hb dX10_shareOf_48 rfl (lv_at hl 2 rfl) ?_
          obtain ⟨hz, hf⟩ := nz hf
          refine lv_ddiv hx hb dX10_shareOf_49 (xn64 hz) ?_
          refine lv_goto (tgt := 54) hx hb dX10_shareOf_50 (by decide) ?_
          exact nrl hf
      · replace hf := iq c13 hf
        refine lv_dload_n hx hb dX10_shareOf_16 rfl (lv_at hl 2 rfl) ?_
        refine lv_aload_n hx hb dX10_shareOf_17 rfl (lv_at hl 0 rfl) ?_
        refine xget (v := .ref (h 1)) E hw 0 rfl rfl 0 (by decide) inw10 qw246 rfl rfl dX10_shareOf_18 ?_
        refine lv_iload hx hb dX10_shareOf_21 (lv_at hl 3 rfl) ?_
        obtain ⟨v23, hv23, hf⟩ := ob_e hf
        refine xcallV (ws' := (wC g h now snap has hist ent res num col)) (st1 := [.double v23, .double x2]) (n := 34) E hw [.int x4] [1, 2, 3] (met_X7_asDouble l g h 1 now x4 v23 hv23) rfl (by decide) rfl rfl [0, 34, 35, 36, 4, 5, 6, 7, 8, 9, 10, 11, 12, 13, 14, 15, 16, 17, 18, 19, 20, 21, 22, 23, 24, 25, 26, 27, 28, 29, 30, 31, 32, 33] rfl (by decide +kernel) rfl rfl rfl rfl qw663 k_X7_asDouble ⟨rfl, rfl, Nat.le_of_ble_eq_true rfl, Nat.le_of_ble_eq_true rfl⟩ ⟨Nat.zero_le _, Nat.zero_le _⟩ hl.1 (Nat.le_of_ble_eq_true rfl) dX10_shareOf_23 rfl (fun H locs hw => ?_)
        obtain ⟨hz, hf⟩ := nz hf
        refine lv_dadd hx hb dX10_shareOf_26 (xn64 hz) ?_
        refine lv_dstore_n (lv' := [(2, .double (FP.dadd x2 v23)), (0, .ref (h 0)), (1, .int x1), (4, .int x4)]) hx hb dX10_shareOf_27 rfl hl (by decide) rfl (fun ls hl => ?_)
        refine lv_iinc (v := x4 + 1) (lv' := [(4, .int (x4 + 1)), (2, .double (FP.dadd x2 v23)), (0, .ref (h 0)), (1, .int x1)]) hx hb dX10_shareOf_28 hl (k := 3) rfl rfl (by decide) rfl (fun ls hl => ?_)
        refine lv_goto (tgt := 9) hx hb dX10_shareOf_31 (by decide) ?_
        exact ih9 _ _ _ x1 (FP.dadd x2 v23) (x4 + 1) hw (lv_sub hl [2, 3, 1, 0] rfl) hf
  refine lv_iload_n hx hb dX10_shareOf_0 rfl (lv_at hl 1 rfl) ?_
  obtain ⟨v1, hv1, hf⟩ := ob_e hf
  rcases v1 with t1 | u1
  · refine xcallSX (ws' := (wC g h now snap has hist ent res num col)) (n := 34) E hX hw [.int a1] [] (metx_X10_requireAccount l hlT g a1 t1 hv1) rfl (by decide) rfl rfl [0, 1, 2, 3, 4, 5, 6, 7, 8, 9, 10, 11, 12, 13, 14, 15, 16, 17, 18, 19, 20, 21, 22, 23, 24, 25, 26, 27, 28, 29, 30, 31, 32, 33] rfl (by decide +kernel) rfl qw369 k_X10_requireAccount ⟨rfl, rfl, Nat.le_of_ble_eq_true rfl, Nat.le_of_ble_eq_true rfl⟩ ⟨by decide, by decide⟩ hl.1 (Nat.le_of_ble_eq_true rfl) dX10_shareOf_1 (fun H locs q ce hw hce hcv hcl => ?_)
    exact hprop _ _ _ _ _ _ _ _ (jl hf) hw hce hcv hcl
  · refine xcallS (ws' := (wC g h now snap has hist ent res num col)) (st1 := []) (n := 34) E hw [.int a1] [] (met_X10_requireAccount l g a1 u1 hv1) rfl (by decide) rfl rfl [0, 1, 2, 3, 4, 5, 6, 7, 8, 9, 10, 11, 12, 13, 14, 15, 16, 17, 18, 19, 20, 21, 22, 23, 24, 25, 26, 27, 28, 29, 30, 31, 32, 33] rfl (by decide +kernel) rfl qw369 k_X10_requireAccount ⟨rfl, rfl, Nat.le_of_ble_eq_true rfl, Nat.le_of_ble_eq_true rfl⟩ ⟨Nat.zero_le _, Nat.zero_le _⟩ hl.1 (Nat.le_of_ble_eq_true rfl) dX10_shareOf_1 rfl (fun H locs hw => ?_)
    refine lv_dconst0 hx hb dX10_shareOf_4 ?_
    refine lv_dstore_n (lv' := [(2, .double FP.dconst0), (0, .ref (h 0)), (1, .int a1)]) hx hb dX10_shareOf_5 rfl hl (by decide) rfl (fun ls hl => ?_)
    refine lv_iconst (v := 0) hx hb dX10_shareOf_6 (by decide) ?_
    refine lv_istore (lv' := [(4, .int 0), (2, .double FP.dconst0), (0, .ref (h 0)), (1, .int a1)]) hx hb dX10_shareOf_7 hl (by decide) rfl (fun ls hl => ?_)
    exact b9 xfuel _ _ _ a1 FP.dconst0 0 hw (lv_sub hl [2, 3, 1, 0] rfl) hf
