theorem k_Jxe99ae_isNaN_b9ae7 : xKS yJxe99ae_isNaN_b9ae7 cJxe99ae_isNaN_b9ae7 2 (some .boolean) 1 := ⟨qw1478, qw85, qw1479, by decide +kernel, by decide +kernel, by decide +kernel⟩
set_option maxHeartbeats 4000000 in
set_option maxRecDepth 100000 in
theorem met_Jxe99ae_isNaN_b9ae7 (l : Launch) (g : xG) (a0 : UInt64) (out : Int32) (hf : f_Jxe99ae_isNaN_b9ae7 a0 = some out) : xM l yJxe99ae_isNaN_b9ae7 (xC yJxe99ae_isNaN_b9ae7 cJxe99ae_isNaN_b9ae7 2 (some .boolean)) { frames := 0, cells := 0, slots := 0, locals := 0 } g ([] : va_W) [.double a0] (some (.int out)) ([] : va_W) := by
  refine xof (by decide) (Nat.le_of_ble_eq_true rfl) ⟨rfl, rfl⟩ ?_
  intro p e s m below meth c A ls E hr hlocks hw hl hpost hAe
  have hx := E.1.1
  have hb := E.1.2.1
  have hown := E.1.2.2.2.1
  have hts := E.1.2.2.2.2
  generalize hZ : (MQ below (xPost g ([] : va_W) ([] : va_W) s.heap.size (some (.int out))) [.double a0].toArray s 0 0 A) = ZZ
  have hret : ∀ (pc : Nat) (H : Heap) (locs : List Loc) (ls : Array Slot) (v : Int32), narrow .boolean (.int v) = .int v → v = out → decode cJxe99ae_isNaN_b9ae7 pc = .ok (.ireturn, 1) → xW g A s.heap ([] : va_W) H locs → W p l e { frames := 0, cells := 0, slots := 0, locals := 0 } s m [.double a0].toArray below meth c H locs 0 0 ZZ (F0 m pc ls [.int v]) := by
    intro pc H locs ls v hn he hd hw
    subst he
    rw [← hZ]
    exact W.zret hx hb hr hn (hpost H locs hw).1 (hpost H locs hw).2 hd hlocks
  clear hpost
  refine lv_dload_n hx hb dJxe99ae_isNaN_b9ae7_0 rfl (lv_at hl 0 rfl) ?_
  refine lv_dload_n hx hb dJxe99ae_isNaN_b9ae7_1 rfl (lv_at hl 0 rfl) ?_
  refine lv_dcmp hx hb dJxe99ae_isNaN_b9ae7_2 ?_
  refine lv_if_eq (tgt := 10) hx hb dJxe99ae_isNaN_b9ae7_3 (by decide) (fun c3 => ?_) (fun c3 => ?_)
  · replace hf := ip c3 hf
    refine lv_iconst (v := 0) hx hb dJxe99ae_isNaN_b9ae7_10 (by decide) ?_
    exact hret _ _ _ _ _ (by decide) (Option.some.inj hf) dJxe99ae_isNaN_b9ae7_11 hw
  · replace hf := iq c3 hf
    refine lv_iconst (v := 1) hx hb dJxe99ae_isNaN_b9ae7_6 (by decide) ?_
    refine lv_goto (tgt := 11) hx hb dJxe99ae_isNaN_b9ae7_7 (by decide) ?_
    exact hret _ _ _ _ _ (by decide) (Option.some.inj hf) dJxe99ae_isNaN_b9ae7_11 hw
theorem k_Jxe99ae_doubleToLongBits_ccdee : xKS yJxe99ae_doubleToLongBits_ccdee cJxe99ae_doubleToLongBits_ccdee 2 (some .long) 1 := ⟨qw1475, qw85, qw1476, by decide +kernel, by decide +kernel, by decide +kernel⟩
set_option maxHeartbeats 4000000 in
set_option maxRecDepth 100000 in
theorem met_Jxe99ae_doubleToLongBits_ccdee (l : Launch) (g : xG) (a0 : UInt64) (out : Int64) (hf : f_Jxe99ae_doubleToLongBits_ccdee a0 = some out) : xM l yJxe99ae_doubleToLongBits_ccdee (xC yJxe99ae_doubleToLongBits_ccdee cJxe99ae_doubleToLongBits_ccdee 2 (some .long)) { frames := 1, cells := 0, slots := 0, locals := 31 } g ([] : va_W) [.double a0] (some (.long out)) ([] : va_W) := by
  refine xof (by decide) (Nat.le_of_ble_eq_true rfl) ⟨rfl, rfl⟩ ?_
  intro p e s m below meth c A ls E hr hlocks hw hl hpost hAe
  have hx := E.1.1
  have hb := E.1.2.1
  have hown := E.1.2.2.2.1
  have hts := E.1.2.2.2.2
  generalize hZ : (MQ below (xPost g ([] : va_W) ([] : va_W) s.heap.size (some (.long out))) [.double a0].toArray s 0 0 A) = ZZ
  have hret : ∀ (pc : Nat) (H : Heap) (locs : List Loc) (ls : Array Slot) (v : Int64), v = out → decode cJxe99ae_doubleToLongBits_ccdee pc = .ok (.lreturn, 1) → xW g A s.heap ([] : va_W) H locs → W p l e { frames := 1, cells := 0, slots := 0, locals := 31 } s m [.double a0].toArray below meth c H locs 0 0 ZZ (F0 m pc ls [.long v]) := by
    intro pc H locs ls v he hd hw
    subst he
    rw [← hZ]
    exact W.lret hx hb hr (hpost H locs hw).1 (hpost H locs hw).2 hd hlocks
  clear hpost
  refine lv_dload_n hx hb dJxe99ae_doubleToLongBits_ccdee_0 rfl (lv_at hl 0 rfl) ?_
  obtain ⟨v1, hv1, hf⟩ := ob_e hf
  refine xcallS (ws' := ([] : va_W)) (st1 := [.int v1]) (n := 0) E hw [.double a0] [] (met_Jxe99ae_isNaN_b9ae7 l g a0 v1 hv1) rfl (by decide) rfl rfl [] rfl (by decide +kernel) rfl qw1477 k_Jxe99ae_isNaN_b9ae7 ⟨rfl, rfl, Nat.le_of_ble_eq_true rfl, Nat.le_of_ble_eq_true rfl⟩ ⟨Nat.zero_le _, Nat.zero_le _⟩ hl.1 (Nat.le_of_ble_eq_true rfl) dJxe99ae_doubleToLongBits_ccdee_1 rfl (fun H locs hw => ?_)
  refine lv_if_ne (tgt := 12) hx hb dJxe99ae_doubleToLongBits_ccdee_4 (by decide) (fun c4 => ?_) (fun c4 => ?_)
  · replace hf := iq c4 hf
    refine lv_ldc2 hx hb hown (hts _ qw1483) dJxe99ae_doubleToLongBits_ccdee_12 ?_
    exact hret _ _ _ _ _ (Option.some.inj hf) dJxe99ae_doubleToLongBits_ccdee_15 hw
  · replace hf := ip c4 hf
    refine lv_dload_n hx hb dJxe99ae_doubleToLongBits_ccdee_7 rfl (lv_at hl 0 rfl) ?_
    refine vn_d2l hx hb (E.1.2.2.1.trans hl.1.symm) hown (hts _ qw1480) (hts _ (List.mem_filter.mpr ⟨qw1482, by decide +kernel⟩)) (hts _ qw1481) (hts _ qw85) (Nat.le_of_ble_eq_true rfl) (Nat.le_of_ble_eq_true rfl) dJxe99ae_doubleToLongBits_ccdee_8 ?_
    exact hret _ _ _ _ _ (Option.some.inj hf) dJxe99ae_doubleToLongBits_ccdee_11 hw
theorem k_X11_digest : xKV yX11_digest cX11_digest 4 (some .long) 0 := ⟨qw1461, qw1462, qw74, qw1463, by decide +kernel, by decide +kernel, by decide +kernel⟩
set_option maxHeartbeats 4000000 in
set_option maxRecDepth 100000 in
theorem met_X11_digest (l : Launch) (g : xG) (h : Nat → Nat) (thrown : Int32) (ss : (Nat → Int32)) (states : (Nat → Int32)) (stateMany : Int32) (snapshot : (Nat → Int32)) (hasSnapshot : Int32) (text : (Nat → Int32)) (length : Int32) (at_ : Int32) (isWell : Int32) (rd : (Nat → Int32)) (readMany : Int32) (top : Int64) (bottom : Int64) (digit : (Nat → Int32)) (digitMany : Int32) (other : (Nat → Int32)) (otherMany : Int32) (column : (Nat → Int32)) (columnMany : Int32) (carryMany : Int32) (chainMost : Int32) (out : Int64 × Int32 × Int64 × Int64 × (Nat → Int32) × Int32 × (Nat → Int32) × Int32 × (Nat → Int32) × Int32 × Int32 × Int32) (hf : f_X11_digest thrown ss stateMany text length top bottom digit digitMany other otherMany column columnMany carryMany chainMost = some out) : xM l yX11_digest (xC yX11_digest cX11_digest 4 (some .long)) { frames := 5, cells := 0, slots := 0, locals := 127 } g (wM g h thrown ss states stateMany snapshot hasSnapshot text length at_ isWell rd readMany top bottom digit digitMany other otherMany column columnMany carryMany chainMost) [.ref (h 0)] (some (.long out.1)) (wM g h out.2.1 ss states stateMany snapshot hasSnapshot text length at_ isWell rd readMany out.2.2.1 out.2.2.2.1 out.2.2.2.2.1 out.2.2.2.2.2.1 out.2.2.2.2.2.2.1 out.2.2.2.2.2.2.2.1 out.2.2.2.2.2.2.2.2.1 out.2.2.2.2.2.2.2.2.2.1 out.2.2.2.2.2.2.2.2.2.2.1 out.2.2.2.2.2.2.2.2.2.2.2) := by
  refine xof (by decide) (Nat.le_of_ble_eq_true rfl) ⟨rfl, rfl⟩ ?_
  intro p e s m below meth c A ls E hr hlocks hw hl hpost hAe
  have hx := E.1.1
  have hb := E.1.2.1
  have hown := E.1.2.2.2.1
  have hts := E.1.2.2.2.2
  generalize hZ : (MQ below (xPost g (wM g h thrown ss states stateMany snapshot hasSnapshot text length at_ isWell rd readMany top bottom digit digitMany other otherMany column columnMany carryMany chainMost) (wM g h out.2.1 ss states stateMany snapshot hasSnapshot text length at_ isWell rd readMany out.2.2.1 out.2.2.2.1 out.2.2.2.2.1 out.2.2.2.2.2.1 out.2.2.2.2.2.2.1 out.2.2.2.2.2.2.2.1 out.2.2.2.2.2.2.2.2.1 out.2.2.2.2.2.2.2.2.2.1 out.2.2.2.2.2.2.2.2.2.2.1 out.2.2.2.2.2.2.2.2.2.2.2) s.heap.size (some (.long out.1))) [.ref (h 0)].toArray s 0 0 A) = ZZ
  have hret : ∀ (pc : Nat) (H : Heap) (locs : List Loc) (ls : Array Slot) (v : Int64) (cthrown : Int32) (ctop : Int64) (cbottom : Int64) (cdigit : (Nat → Int32)) (cdigitMany : Int32) (cother : (Nat → Int32)) (cotherMany : Int32) (ccolumn : (Nat → Int32)) (ccolumnMany : Int32) (ccarryMany : Int32) (cchainMost : Int32), (v, cthrown, ctop, cbottom, cdigit, cdigitMany, cother, cotherMany, ccolumn, ccolumnMany, ccarryMany, cchainMost) = out → decode cX11_digest pc = .ok (.lreturn, 1) → xW g A s.heap (wM g h cthrown ss states stateMany snapshot hasSnapshot text length at_ isWell rd readMany ctop cbottom cdigit cdigitMany cother cotherMany ccolumn ccolumnMany ccarryMany cchainMost) H locs → W p l e { frames := 5, cells := 0, slots := 0, locals := 127 } s m [.ref (h 0)].toArray below meth c H locs 0 0 ZZ (F0 m pc ls [.long v]) := by
    intro pc H locs ls v cthrown ctop cbottom cdigit cdigitMany cother cotherMany ccolumn ccolumnMany ccarryMany cchainMost he hd hw
    subst he
    rw [← hZ]
    exact W.lret hx hb hr (hpost H locs hw).1 (hpost H locs hw).2 hd hlocks
  clear hpost
  have b197 : ∀ n197 : Nat, ∀ (H : Heap) (locs : List Loc) (ls : Array Slot) (thrown : Int32) (top : Int64) (bottom : Int64) (digit : (Nat → Int32)) (digitMany : Int32) (other : (Nat → Int32)) (otherMany : Int32) (column : (Nat → Int32)) (columnMany : Int32) (carryMany : Int32) (chainMost : Int32) (x1 : Int64) (x3 : Int32), xW g A s.heap (wM g h thrown ss states stateMany snapshot hasSnapshot text length at_ isWell rd readMany top bottom digit digitMany other otherMany column columnMany carryMany chainMost) H locs → lv_has ls 4 [(0, .ref (h 0)), (1, .long x1), (3, .int x3)] → f_X11_digest_b197 n197 thrown ss stateMany text length top bottom digit digitMany other otherMany column columnMany carryMany chainMost x1 x3 = some out → W p l e { frames := 5, cells := 0, slots := 0, locals := 127 } s m [.ref (h 0)].toArray below meth c H locs 0 0 ZZ (F0 m 197 ls []) := by
    intro n197
    induction n197 with
    | zero =>
      intro H locs ls thrown top bottom digit digitMany other otherMany column columnMany carryMany chainMost x1 x3 hw hl hf
      exact nn hf
    | succ n197 ih197 =>
      intro H locs ls thrown top bottom digit digitMany other otherMany column columnMany carryMany chainMost x1 x3 hw hl hf
      refine lv_iload_n hx hb dX11_digest_197 rfl (lv_at hl 2 rfl) ?_
      refine lv_aload_n hx hb dX11_digest_198 rfl (lv_at hl 0 rfl) ?_
      refine xget (v := .int length) E hw 0 rfl rfl 7 (by decide) inw11 qw1026 rfl rfl dX11_digest_199 ?_
      refine lv_icmp_ge (tgt := 225) hx hb dX11_digest_202 (by decide) (fun c202 => ?_) (fun c202 => ?_)
      · replace hf := ip c202 hf
        refine lv_lload_n hx hb dX11_digest_225 rfl (lv_at hl 1 rfl) ?_
        exact hret _ _ _ _ _ _ _ _ _ _ _ _ _ _ _ _ (Option.some.inj hf) dX11_digest_226 hw
      · replace hf := iq c202 hf
        refine lv_ldc2 hx hb hown (hts _ qw1465) dX11_digest_205 ?_
        refine lv_lload_n hx hb dX11_digest_208 rfl (lv_at hl 1 rfl) ?_
        refine lv_lmul hx hb dX11_digest_209 ?_
        refine lv_aload_n hx hb dX11_digest_210 rfl (lv_at hl 0 rfl) ?_
        refine xget (v := .ref (h 4)) E hw 0 rfl rfl 6 (by decide) inw11 qw1025 rfl rfl dX11_digest_211 ?_
        refine lv_iload_n hx hb dX11_digest_214 rfl (lv_at hl 2 rfl) ?_
        obtain ⟨hz, hf⟩ := nz hf
        refine xiald E hw 4 rfl hz dX11_digest_215 ?_
        refine lv_i2l hx hb dX11_digest_216 rfl ?_
        refine lv_ladd hx hb dX11_digest_217 ?_
        refine lv_lstore_n (lv' := [(1, .long ((31 * x1) + ((text x3.toNatClampNeg).toInt64))), (0, .ref (h 0)), (3, .int x3)]) hx hb dX11_digest_218 rfl hl (by decide) rfl (fun ls hl => ?_)
        refine lv_iinc (v := x3 + 1) (lv' := [(3, .int (x3 + 1)), (1, .long ((31 * x1) + ((text x3.toNatClampNeg).toInt64))), (0, .ref (h 0))]) hx hb dX11_digest_219 hl (k := 2) rfl rfl (by decide) rfl (fun ls hl => ?_)
        refine lv_goto (tgt := 197) hx hb dX11_digest_222 (by decide) ?_
        exact ih197 _ _ _ thrown top bottom digit digitMany other otherMany column columnMany carryMany chainMost ((31 * x1) + ((text x3.toNatClampNeg).toInt64)) (x3 + 1) hw (lv_sub hl [2, 1, 0] rfl) hf
  have b182 : ∀ (H : Heap) (locs : List Loc) (ls : Array Slot) (thrown : Int32) (top : Int64) (bottom : Int64) (digit : (Nat → Int32)) (digitMany : Int32) (other : (Nat → Int32)) (otherMany : Int32) (column : (Nat → Int32)) (columnMany : Int32) (carryMany : Int32) (chainMost : Int32) (t0 : Int64), xW g A s.heap (wM g h thrown ss states stateMany snapshot hasSnapshot text length at_ isWell rd readMany top bottom digit digitMany other otherMany column columnMany carryMany chainMost) H locs → lv_has ls 4 [(0, .ref (h 0))] → f_X11_digest_b182 thrown ss stateMany text length top bottom digit digitMany other otherMany column columnMany carryMany chainMost t0 = some out → W p l e { frames := 5, cells := 0, slots := 0, locals := 127 } s m [.ref (h 0)].toArray below meth c H locs 0 0 ZZ (F0 m 182 ls [.long t0]) := by
    intro H locs ls thrown top bottom digit digitMany other otherMany column columnMany carryMany chainMost t0 hw hl hf
    refine lv_lstore_n (lv' := [(1, .long t0), (0, .ref (h 0))]) hx hb dX11_digest_182 rfl hl (by decide) rfl (fun ls hl => ?_)
    refine lv_ldc2 hx hb hown (hts _ qw1465) dX11_digest_183 ?_
    refine lv_lload_n hx hb dX11_digest_186 rfl (lv_at hl 0 rfl) ?_
    refine lv_lmul hx hb dX11_digest_187 ?_
    refine lv_aload_n hx hb dX11_digest_188 rfl (lv_at hl 1 rfl) ?_
    refine xget (v := .int length) E hw 0 rfl rfl 7 (by decide) inw11 qw1026 rfl rfl dX11_digest_189 ?_
    refine lv_i2l hx hb dX11_digest_192 rfl ?_
    refine lv_ladd hx hb dX11_digest_193 ?_
    refine lv_lstore_n (lv' := [(1, .long ((31 * t0) + length.toInt64)), (0, .ref (h 0))]) hx hb dX11_digest_194 rfl hl (by decide) rfl (fun ls hl => ?_)
    refine lv_iconst (v := 0) hx hb dX11_digest_195 (by decide) ?_
    refine lv_istore_n (lv' := [(3, .int 0), (1, .long ((31 * t0) + length.toInt64)), (0, .ref (h 0))]) hx hb dX11_digest_196 rfl hl (by decide) rfl (fun ls hl => ?_)
    exact b197 xfuel _ _ _ thrown top bottom digit digitMany other otherMany column columnMany carryMany chainMost ((31 * t0) + length.toInt64) 0 hw (lv_sub hl [2, 1, 0] rfl) hf
  have b140 : ∀ (H : Heap) (locs : List Loc) (ls : Array Slot) (thrown : Int32) (top : Int64) (bottom : Int64) (digit : (Nat → Int32)) (digitMany : Int32) (other : (Nat → Int32)) (otherMany : Int32) (column : (Nat → Int32)) (columnMany : Int32) (carryMany : Int32) (chainMost : Int32) (t0 : Int32) (t1 : Int64), xW g A s.heap (wM g h thrown ss states stateMany snapshot hasSnapshot text length at_ isWell rd readMany top bottom digit digitMany other otherMany column columnMany carryMany chainMost) H locs → lv_has ls 4 [(0, .ref (h 0))] → f_X11_digest_b140 thrown ss stateMany text length top bottom digit digitMany other otherMany column columnMany carryMany chainMost t0 t1 = some out → W p l e { frames := 5, cells := 0, slots := 0, locals := 127 } s m [.ref (h 0)].toArray below meth c H locs 0 0 ZZ (F0 m 140 ls [.int t0, .long t1]) := by
    intro H locs ls thrown top bottom digit digitMany other otherMany column columnMany carryMany chainMost t0 t1 hw hl hf
    refine lv_i2l hx hb dX11_digest_140 rfl ?_
    refine lv_ladd hx hb dX11_digest_141 ?_
    refine lv_lstore_n (lv' := [(1, .long (t1 + t0.toInt64)), (0, .ref (h 0))]) hx hb dX11_digest_142 rfl hl (by decide) rfl (fun ls hl => ?_)
    refine lv_aload_n hx hb dX11_digest_143 rfl (lv_at hl 1 rfl) ?_
    refine xget (v := .ref (h 1)) E hw 0 rfl rfl 1 (by decide) inw11 qw1020 rfl rfl dX11_digest_144 ?_
    refine lv_iconst (v := 1) hx hb dX11_digest_147 (by decide) ?_
    refine xiald E hw 1 rfl (by decide) dX11_digest_148 ?_
    refine lv_iconst (v := (-1)) hx hb dX11_digest_149 (by decide) ?_
    refine lv_icmp_ne (tgt := 157) hx hb dX11_digest_150 (by decide) (fun c150 => ?_) (fun c150 => ?_)
    · replace hf := iq c150 hf
      refine lv_ldc2 hx hb hown (hts _ qw1465) dX11_digest_157 ?_
      refine lv_ldc2 hx hb hown (hts _ qw1465) dX11_digest_160 ?_
      refine lv_lload_n hx hb dX11_digest_163 rfl (lv_at hl 0 rfl) ?_
      refine lv_lmul hx hb dX11_digest_164 ?_
      refine lv_aload_n hx hb dX11_digest_165 rfl (lv_at hl 1 rfl) ?_
      refine xget (v := .ref (h 1)) E hw 0 rfl rfl 1 (by decide) inw11 qw1020 rfl rfl dX11_digest_166 ?_
      refine lv_iconst (v := 1) hx hb dX11_digest_169 (by decide) ?_
      refine xiald E hw 1 rfl (by decide) dX11_digest_170 ?_
      refine lv_i2l hx hb dX11_digest_171 rfl ?_
      refine lv_ladd hx hb dX11_digest_172 ?_
      refine lv_lmul hx hb dX11_digest_173 ?_
      refine lv_aload_n hx hb dX11_digest_174 rfl (lv_at hl 1 rfl) ?_
      refine xget (v := .ref (h 1)) E hw 0 rfl rfl 1 (by decide) inw11 qw1020 rfl rfl dX11_digest_175 ?_
      refine lv_iconst (v := 2) hx hb dX11_digest_178 (by decide) ?_
      refine xiald E hw 1 rfl (by decide) dX11_digest_179 ?_
      refine lv_i2l hx hb dX11_digest_180 rfl ?_
      refine lv_ladd hx hb dX11_digest_181 ?_
      exact b182 _ _ _ thrown top bottom digit digitMany other otherMany column columnMany carryMany chainMost ((31 * ((31 * (t1 + t0.toInt64)) + ((ss (1 : Int32).toNatClampNeg).toInt64))) + ((ss (2 : Int32).toNatClampNeg).toInt64)) hw (lv_sub hl [1] rfl) hf
    · replace hf := ip c150 hf
      refine lv_lload_n hx hb dX11_digest_153 rfl (lv_at hl 0 rfl) ?_
      refine lv_goto (tgt := 182) hx hb dX11_digest_154 (by decide) ?_
      exact b182 _ _ _ thrown top bottom digit digitMany other otherMany column columnMany carryMany chainMost (t1 + t0.toInt64) hw (lv_sub hl [1] rfl) hf
  have b93 : ∀ n93 : Nat, ∀ (H : Heap) (locs : List Loc) (ls : Array Slot) (thrown : Int32) (top : Int64) (bottom : Int64) (digit : (Nat → Int32)) (digitMany : Int32) (other : (Nat → Int32)) (otherMany : Int32) (column : (Nat → Int32)) (columnMany : Int32) (carryMany : Int32) (chainMost : Int32) (x1 : Int64) (x3 : Int32), xW g A s.heap (wM g h thrown ss states stateMany snapshot hasSnapshot text length at_ isWell rd readMany top bottom digit digitMany other otherMany column columnMany carryMany chainMost) H locs → lv_has ls 4 [(0, .ref (h 0)), (1, .long x1), (3, .int x3)] → f_X11_digest_b93 n93 thrown ss stateMany text length top bottom digit digitMany other otherMany column columnMany carryMany chainMost x1 x3 = some out → W p l e { frames := 5, cells := 0, slots := 0, locals := 127 } s m [.ref (h 0)].toArray below meth c H locs 0 0 ZZ (F0 m 93 ls []) := by
    intro n93
    induction n93 with
    | zero =>
      intro H locs ls thrown top bottom digit digitMany other otherMany column columnMany carryMany chainMost x1 x3 hw hl hf
      exact nn hf
    | succ n93 ih93 =>
      intro H locs ls thrown top bottom digit digitMany other otherMany column columnMany carryMany chainMost x1 x3 hw hl hf
      refine lv_iload_n hx hb dX11_digest_93 rfl (lv_at hl 2 rfl) ?_
      refine lv_bipush (v := 6) hx hb dX11_digest_94 (by decide) ?_
      refine lv_icmp_ge (tgt := 120) hx hb dX11_digest_96 (by decide) (fun c96 => ?_) (fun c96 => ?_)
      · replace hf := ip c96 hf
        refine lv_ldc2 hx hb hown (hts _ qw1465) dX11_digest_120 ?_
        refine lv_lload_n hx hb dX11_digest_123 rfl (lv_at hl 1 rfl) ?_
        refine lv_lmul hx hb dX11_digest_124 ?_
        refine lv_aload_n hx hb dX11_digest_125 rfl (lv_at hl 0 rfl) ?_
        refine xget (v := .ref (h 1)) E hw 0 rfl rfl 1 (by decide) inw11 qw1020 rfl rfl dX11_digest_126 ?_
        refine lv_iconst (v := 1) hx hb dX11_digest_129 (by decide) ?_
        refine xiald E hw 1 rfl (by decide) dX11_digest_130 ?_
        refine lv_iconst (v := (-1)) hx hb dX11_digest_131 (by decide) ?_
        refine lv_icmp_ne (tgt := 139) hx hb dX11_digest_132 (by decide) (fun c132 => ?_) (fun c132 => ?_)
        · replace hf := iq c132 hf
          refine lv_iconst (v := 1) hx hb dX11_digest_139 (by decide) ?_
          exact b140 _ _ _ thrown top bottom digit digitMany other otherMany column columnMany carryMany chainMost 1 (31 * x1) hw (lv_sub hl [0] rfl) hf
        · replace hf := ip c132 hf
          refine lv_iconst (v := 0) hx hb dX11_digest_135 (by decide) ?_
          refine lv_goto (tgt := 140) hx hb dX11_digest_136 (by decide) ?_
          exact b140 _ _ _ thrown top bottom digit digitMany other otherMany column columnMany carryMany chainMost 0 (31 * x1) hw (lv_sub hl [0] rfl) hf
      · replace hf := iq c96 hf
        refine lv_ldc2 hx hb hown (hts _ qw1465) dX11_digest_99 ?_
        refine lv_lload_n hx hb dX11_digest_102 rfl (lv_at hl 1 rfl) ?_
        refine lv_lmul hx hb dX11_digest_103 ?_
        refine lv_aload_n hx hb dX11_digest_104 rfl (lv_at hl 0 rfl) ?_
        refine lv_iload_n hx hb dX11_digest_105 rfl (lv_at hl 2 rfl) ?_
        obtain ⟨v106, hv106, hf⟩ := ob_e hf
        refine xcallV (ws' := (wM g h thrown ss states stateMany snapshot hasSnapshot text length at_ isWell rd readMany top bottom digit digitMany other otherMany column columnMany carryMany chainMost)) (st1 := [.double v106, .long (31 * x1)]) (n := 9) E hw [.int x3] [0, 1, 2, 3, 4, 5, 6, 7, 8] (met_X11_share l g h thrown ss states stateMany snapshot hasSnapshot text length at_ isWell rd readMany top bottom digit digitMany other otherMany column columnMany carryMany chainMost x3 v106 hv106) rfl (by decide) rfl rfl [9, 10, 11, 12, 13, 14, 15, 16, 17] rfl (by decide +kernel) rfl rfl rfl rfl qw1452 k_X11_share ⟨rfl, rfl, Nat.le_of_ble_eq_true rfl, Nat.le_of_ble_eq_true rfl⟩ ⟨Nat.zero_le _, Nat.zero_le _⟩ hl.1 (Nat.le_of_ble_eq_true rfl) dX11_digest_106 rfl (fun H locs hw => ?_)
        obtain ⟨v109, hv109, hf⟩ := ob_e hf
        refine xcallS (ws' := (wM g h thrown ss states stateMany snapshot hasSnapshot text length at_ isWell rd readMany top bottom digit digitMany other otherMany column columnMany carryMany chainMost)) (st1 := [.long v109, .long (31 * x1)]) (n := 9) E hw [.double v106] [] (met_Jxe99ae_doubleToLongBits_ccdee l g v106 v109 hv109) rfl (by decide) rfl rfl [0, 1, 2, 3, 4, 5, 6, 7, 8] rfl (by decide +kernel) rfl qw1474 k_Jxe99ae_doubleToLongBits_ccdee ⟨rfl, rfl, Nat.le_of_ble_eq_true rfl, Nat.le_of_ble_eq_true rfl⟩ ⟨Nat.zero_le _, Nat.zero_le _⟩ hl.1 (Nat.le_of_ble_eq_true rfl) dX11_digest_109 rfl (fun H locs hw => ?_)
        refine lv_ladd hx hb dX11_digest_112 ?_
        refine lv_lstore_n (lv' := [(1, .long ((31 * x1) + v109)), (0, .ref (h 0)), (3, .int x3)]) hx hb dX11_digest_113 rfl hl (by decide) rfl (fun ls hl => ?_)
        refine lv_iinc (v := x3 + 1) (lv' := [(3, .int (x3 + 1)), (1, .long ((31 * x1) + v109)), (0, .ref (h 0))]) hx hb dX11_digest_114 hl (k := 2) rfl rfl (by decide) rfl (fun ls hl => ?_)
        refine lv_goto (tgt := 93) hx hb dX11_digest_117 (by decide) ?_
        exact ih93 _ _ _ thrown top bottom digit digitMany other otherMany column columnMany carryMany chainMost ((31 * x1) + v109) (x3 + 1) hw (lv_sub hl [2, 1, 0] rfl) hf
  have b66 : ∀ n66 : Nat, ∀ (H : Heap) (locs : List Loc) (ls : Array Slot) (thrown : Int32) (top : Int64) (bottom : Int64) (digit : (Nat → Int32)) (digitMany : Int32) (other : (Nat → Int32)) (otherMany : Int32) (column : (Nat → Int32)) (columnMany : Int32) (carryMany : Int32) (chainMost : Int32) (x1 : Int64) (x3 : Int32), xW g A s.heap (wM g h thrown ss states stateMany snapshot hasSnapshot text length at_ isWell rd readMany top bottom digit digitMany other otherMany column columnMany carryMany chainMost) H locs → lv_has ls 4 [(0, .ref (h 0)), (1, .long x1), (3, .int x3)] → f_X11_digest_b66 n66 thrown ss stateMany text length top bottom digit digitMany other otherMany column columnMany carryMany chainMost x1 x3 = some out → W p l e { frames := 5, cells := 0, slots := 0, locals := 127 } s m [.ref (h 0)].toArray below meth c H locs 0 0 ZZ (F0 m 66 ls []) := by
    intro n66
    induction n66 with
    | zero =>
      intro H locs ls thrown top bottom digit digitMany other otherMany column columnMany carryMany chainMost x1 x3 hw hl hf
      exact nn hf
    | succ n66 ih66 =>
      intro H locs ls thrown top bottom digit digitMany other otherMany column columnMany carryMany chainMost x1 x3 hw hl hf
      refine lv_iload_n hx hb dX11_digest_66 rfl (lv_at hl 2 rfl) ?_
      refine lv_bipush (v := 6) hx hb dX11_digest_67 (by decide) ?_
      refine lv_icmp_ge (tgt := 91) hx hb dX11_digest_69 (by decide) (fun c69 => ?_) (fun c69 => ?_)
      · replace hf := ip c69 hf
        refine lv_iconst (v := 0) hx hb dX11_digest_91 (by decide) ?_
        refine lv_istore_n (lv' := [(3, .int 0), (0, .ref (h 0)), (1, .long x1)]) hx hb dX11_digest_92 rfl hl (by decide) rfl (fun ls hl => ?_)
        exact b93 xfuel _ _ _ thrown top bottom digit digitMany other otherMany column columnMany carryMany chainMost x1 0 hw (lv_sub hl [1, 2, 0] rfl) hf
      · replace hf := iq c69 hf
        refine lv_aload_n hx hb dX11_digest_72 rfl (lv_at hl 0 rfl) ?_
        refine lv_lload_n hx hb dX11_digest_73 rfl (lv_at hl 1 rfl) ?_
        refine lv_iload_n hx hb dX11_digest_74 rfl (lv_at hl 2 rfl) ?_
        refine lv_iload_n hx hb dX11_digest_75 rfl (lv_at hl 2 rfl) ?_
        refine lv_iconst (v := 1) hx hb dX11_digest_76 (by decide) ?_
        refine lv_iadd hx hb dX11_digest_77 ?_
        refine lv_bipush (v := 6) hx hb dX11_digest_78 (by decide) ?_
        refine lv_irem hx hb dX11_digest_80 (by decide) ?_
        obtain ⟨v81, hv81, hf⟩ := ob_e hf
        refine xcallV (ws' := (wM g h thrown ss states stateMany snapshot hasSnapshot text length at_ isWell rd readMany v81.2.1 v81.2.2.1 v81.2.2.2.1 v81.2.2.2.2.1 v81.2.2.2.2.2.1 v81.2.2.2.2.2.2.1 v81.2.2.2.2.2.2.2.1 v81.2.2.2.2.2.2.2.2.1 v81.2.2.2.2.2.2.2.2.2.1 v81.2.2.2.2.2.2.2.2.2.2)) (st1 := [.long v81.1]) (n := 9) E hw [.long x1, .int x3, .int ((x3 + 1) - (x3 + 1) / 6 * 6)] [0, 1, 2, 3, 4, 5, 6, 7, 8] (met_X11_digestPair l g h thrown ss states stateMany snapshot hasSnapshot text length at_ isWell rd readMany top bottom digit digitMany other otherMany column columnMany carryMany chainMost x1 x3 ((x3 + 1) - (x3 + 1) / 6 * 6) v81 hv81) rfl (by decide) rfl rfl [9, 10, 11, 12, 13, 14, 15, 16, 17] rfl (by decide +kernel) rfl rfl rfl rfl qw1470 k_X11_digestPair ⟨rfl, rfl, Nat.le_of_ble_eq_true rfl, Nat.le_of_ble_eq_true rfl⟩ ⟨Nat.zero_le _, Nat.zero_le _⟩ hl.1 (Nat.le_of_ble_eq_true rfl) dX11_digest_81 rfl (fun H locs hw => ?_)
        refine lv_lstore_n (lv' := [(1, .long v81.1), (0, .ref (h 0)), (3, .int x3)]) hx hb dX11_digest_84 rfl hl (by decide) rfl (fun ls hl => ?_)
        refine lv_iinc (v := x3 + 1) (lv' := [(3, .int (x3 + 1)), (1, .long v81.1), (0, .ref (h 0))]) hx hb dX11_digest_85 hl (k := 2) rfl rfl (by decide) rfl (fun ls hl => ?_)
        refine lv_goto (tgt := 66) hx hb dX11_digest_88 (by decide) ?_
        exact ih66 _ _ _ thrown v81.2.1 v81.2.2.1 v81.2.2.2.1 v81.2.2.2.2.1 v81.2.2.2.2.2.1 v81.2.2.2.2.2.2.1 v81.2.2.2.2.2.2.2.1 v81.2.2.2.2.2.2.2.2.1 v81.2.2.2.2.2.2.2.2.2.1 v81.2.2.2.2.2.2.2.2.2.2 v81.1 (x3 + 1) hw (lv_sub hl [2, 1, 0] rfl) hf
  have b45 : ∀ n45 : Nat, ∀ (H : Heap) (locs : List Loc) (ls : Array Slot) (thrown : Int32) (top : Int64) (bottom : Int64) (digit : (Nat → Int32)) (digitMany : Int32) (other : (Nat → Int32)) (otherMany : Int32) (column : (Nat → Int32)) (columnMany : Int32) (carryMany : Int32) (chainMost : Int32) (x1 : Int64) (x3 : Int32), xW g A s.heap (wM g h thrown ss states stateMany snapshot hasSnapshot text length at_ isWell rd readMany top bottom digit digitMany other otherMany column columnMany carryMany chainMost) H locs → lv_has ls 4 [(0, .ref (h 0)), (1, .long x1), (3, .int x3)] → f_X11_digest_b45 n45 thrown ss stateMany text length top bottom digit digitMany other otherMany column columnMany carryMany chainMost x1 x3 = some out → W p l e { frames := 5, cells := 0, slots := 0, locals := 127 } s m [.ref (h 0)].toArray below meth c H locs 0 0 ZZ (F0 m 45 ls []) := by
    intro n45
    induction n45 with
    | zero =>
      intro H locs ls thrown top bottom digit digitMany other otherMany column columnMany carryMany chainMost x1 x3 hw hl hf
      exact nn hf
    | succ n45 ih45 =>
      intro H locs ls thrown top bottom digit digitMany other otherMany column columnMany carryMany chainMost x1 x3 hw hl hf
      refine lv_iload_n hx hb dX11_digest_45 rfl (lv_at hl 2 rfl) ?_
      refine lv_bipush (v := 6) hx hb dX11_digest_46 (by decide) ?_
      refine lv_icmp_ge (tgt := 64) hx hb dX11_digest_48 (by decide) (fun c48 => ?_) (fun c48 => ?_)
      · replace hf := ip c48 hf
        refine lv_iconst (v := 0) hx hb dX11_digest_64 (by decide) ?_
        refine lv_istore_n (lv' := [(3, .int 0), (0, .ref (h 0)), (1, .long x1)]) hx hb dX11_digest_65 rfl hl (by decide) rfl (fun ls hl => ?_)
        exact b66 xfuel _ _ _ thrown top bottom digit digitMany other otherMany column columnMany carryMany chainMost x1 0 hw (lv_sub hl [1, 2, 0] rfl) hf
      · replace hf := iq c48 hf
        refine lv_aload_n hx hb dX11_digest_51 rfl (lv_at hl 0 rfl) ?_
        refine lv_lload_n hx hb dX11_digest_52 rfl (lv_at hl 1 rfl) ?_
        refine lv_iload_n hx hb dX11_digest_53 rfl (lv_at hl 2 rfl) ?_
        obtain ⟨v54, hv54, hf⟩ := ob_e hf
        refine xcallV (ws' := (wM g h thrown ss states stateMany snapshot hasSnapshot text length at_ isWell rd readMany top bottom v54.2.1 v54.2.2 other otherMany column columnMany carryMany chainMost)) (st1 := [.long v54.1]) (n := 9) E hw [.long x1, .int x3] [0, 1, 2, 3, 4, 5, 6, 7, 8] (met_X11_digestAccount l g h thrown ss states stateMany snapshot hasSnapshot text length at_ isWell rd readMany top bottom digit digitMany other otherMany column columnMany carryMany chainMost x1 x3 v54 hv54) rfl (by decide) rfl rfl [9, 10, 11, 12, 13, 14, 15, 16, 17] rfl (by decide +kernel) rfl rfl rfl rfl qw1466 k_X11_digestAccount ⟨rfl, rfl, Nat.le_of_ble_eq_true rfl, Nat.le_of_ble_eq_true rfl⟩ ⟨Nat.zero_le _, Nat.zero_le _⟩ hl.1 (Nat.le_of_ble_eq_true rfl) dX11_digest_54 rfl (fun H locs hw => ?_)
        refine lv_lstore_n (lv' := [(1, .long v54.1), (0, .ref (h 0)), (3, .int x3)]) hx hb dX11_digest_57 rfl hl (by decide) rfl (fun ls hl => ?_)
        refine lv_iinc (v := x3 + 1) (lv' := [(3, .int (x3 + 1)), (1, .long v54.1), (0, .ref (h 0))]) hx hb dX11_digest_58 hl (k := 2) rfl rfl (by decide) rfl (fun ls hl => ?_)
        refine lv_goto (tgt := 45) hx hb dX11_digest_61 (by decide) ?_
        exact ih45 _ _ _ thrown top bottom v54.2.1 v54.2.2 other otherMany column columnMany carryMany chainMost v54.1 (x3 + 1) hw (lv_sub hl [2, 1, 0] rfl) hf
  refine lv_aload_n hx hb dX11_digest_0 rfl (lv_at hl 0 rfl) ?_
  refine lv_iconst (v := 0) hx hb dX11_digest_1 (by decide) ?_
  refine xput (ws' := (wM g h 0 ss states stateMany snapshot hasSnapshot text length at_ isWell rd readMany top bottom digit digitMany other otherMany column columnMany carryMany chainMost)) E hw 0 rfl rfl 0 (by decide) inw11 tyX11_ok nmX11 qw1019 rfl rfl rfl rfl (Nat.le_of_ble_eq_true rfl) dX11_digest_2 rfl (fun H locs hw => ?_)
  refine lv_ldc2 hx hb hown (hts _ qw1464) dX11_digest_5 ?_
  refine lv_lstore_n (lv' := [(1, .long 4513), (0, .ref (h 0))]) hx hb dX11_digest_8 rfl hl (by decide) rfl (fun ls hl => ?_)
  refine lv_ldc2 hx hb hown (hts _ qw1465) dX11_digest_9 ?_
  refine lv_ldc2 hx hb hown (hts _ qw1465) dX11_digest_12 ?_
  refine lv_ldc2 hx hb hown (hts _ qw1465) dX11_digest_15 ?_
  refine lv_lload_n hx hb dX11_digest_18 rfl (lv_at hl 0 rfl) ?_
  refine lv_lmul hx hb dX11_digest_19 ?_
  refine lv_aload_n hx hb dX11_digest_20 rfl (lv_at hl 1 rfl) ?_
  refine xget (v := .ref (h 1)) E hw 0 rfl rfl 1 (by decide) inw11 qw1020 rfl rfl dX11_digest_21 ?_
  refine lv_iconst (v := 0) hx hb dX11_digest_24 (by decide) ?_
  refine xiald E hw 1 rfl (by decide) dX11_digest_25 ?_
  refine lv_i2l hx hb dX11_digest_26 rfl ?_
  refine lv_ladd hx hb dX11_digest_27 ?_
  refine lv_lmul hx hb dX11_digest_28 ?_
  refine lv_aload_n hx hb dX11_digest_29 rfl (lv_at hl 1 rfl) ?_
  obtain ⟨v30, hv30, hf⟩ := ob_e hf
  refine xcallV (ws' := (wM g h 0 ss states stateMany snapshot hasSnapshot text length at_ isWell rd readMany top bottom digit digitMany other otherMany column columnMany carryMany chainMost)) (st1 := [.int v30, .long (31 * ((31 * 4513) + ((ss (0 : Int32).toNatClampNeg).toInt64))), .long 31]) (n := 9) E hw [] [0, 1, 2, 3, 4, 5, 6, 7, 8] (met_X11_greatest l g h 0 ss states stateMany snapshot hasSnapshot text length at_ isWell rd readMany top bottom digit digitMany other otherMany column columnMany carryMany chainMost v30 hv30) rfl (by decide) rfl rfl [9, 10, 11, 12, 13, 14, 15, 16, 17] rfl (by decide +kernel) rfl rfl rfl rfl qw1297 k_X11_greatest ⟨rfl, rfl, Nat.le_of_ble_eq_true rfl, Nat.le_of_ble_eq_true rfl⟩ ⟨Nat.zero_le _, Nat.zero_le _⟩ hl.1 (Nat.le_of_ble_eq_true rfl) dX11_digest_30 rfl (fun H locs hw => ?_)
  refine lv_i2l hx hb dX11_digest_33 rfl ?_
  refine lv_ladd hx hb dX11_digest_34 ?_
  refine lv_lmul hx hb dX11_digest_35 ?_
  refine lv_aload_n hx hb dX11_digest_36 rfl (lv_at hl 1 rfl) ?_
  refine xget (v := .int stateMany) E hw 0 rfl rfl 3 (by decide) inw11 qw1022 rfl rfl dX11_digest_37 ?_
  refine lv_i2l hx hb dX11_digest_40 rfl ?_
  refine lv_ladd hx hb dX11_digest_41 ?_
  refine lv_lstore_n (lv' := [(1, .long ((31 * ((31 * ((31 * 4513) + ((ss (0 : Int32).toNatClampNeg).toInt64))) + v30.toInt64)) + stateMany.toInt64)), (0, .ref (h 0))]) hx hb dX11_digest_42 rfl hl (by decide) rfl (fun ls hl => ?_)
  refine lv_iconst (v := 0) hx hb dX11_digest_43 (by decide) ?_
  refine lv_istore_n (lv' := [(3, .int 0), (1, .long ((31 * ((31 * ((31 * 4513) + ((ss (0 : Int32).toNatClampNeg).toInt64))) + v30.toInt64)) + stateMany.toInt64)), (0, .ref (h 0))]) hx hb dX11_digest_44 rfl hl (by decide) rfl (fun ls hl => ?_)
  exact b45 xfuel _ _ _ 0 top bottom digit digitMany other otherMany column columnMany carryMany chainMost ((31 * ((31 * ((31 * 4513) + ((ss (0 : Int32).toNatClampNeg).toInt64))) + v30.toInt64)) + stateMany.toInt64) 0 hw (lv_sub hl [2, 1, 0] rfl) hf
