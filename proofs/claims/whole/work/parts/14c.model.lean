theorem k_X11_tellsColumns : xKV yX11_tellsColumns cX11_tellsColumns 7 none 2 := ⟨qw1412, qw58, qw74, qw1413, by decide +kernel, by decide +kernel, by decide +kernel⟩
set_option maxHeartbeats 4000000 in
set_option maxRecDepth 100000 in
theorem met_X11_tellsColumns (l : Launch) (g : xG) (h : Nat → Nat) (thrown : Int32) (ss : (Nat → Int32)) (states : (Nat → Int32)) (stateMany : Int32) (snapshot : (Nat → Int32)) (hasSnapshot : Int32) (text : (Nat → Int32)) (length : Int32) (at_ : Int32) (isWell : Int32) (rd : (Nat → Int32)) (readMany : Int32) (top : Int64) (bottom : Int64) (digit : (Nat → Int32)) (digitMany : Int32) (other : (Nat → Int32)) (otherMany : Int32) (column : (Nat → Int32)) (columnMany : Int32) (carryMany : Int32) (chainMost : Int32) (a1 : Int32) (a2 : Int32) (out : (Nat → Int32) × Int32 × (Nat → Int32) × Int32 × (Nat → Int32) × Int32 × Int32 × Int32) (hf : f_X11_tellsColumns ss digit digitMany other otherMany column columnMany carryMany chainMost a1 a2 = some out) : xM l yX11_tellsColumns (xC yX11_tellsColumns cX11_tellsColumns 7 none) { frames := 3, cells := 0, slots := 0, locals := 64 } g (wM g h thrown ss states stateMany snapshot hasSnapshot text length at_ isWell rd readMany top bottom digit digitMany other otherMany column columnMany carryMany chainMost) [.ref (h 0), .int a1, .int a2] none (wM g h thrown ss states stateMany snapshot hasSnapshot text length at_ isWell rd readMany top bottom out.1 out.2.1 out.2.2.1 out.2.2.2.1 out.2.2.2.2.1 out.2.2.2.2.2.1 out.2.2.2.2.2.2.1 out.2.2.2.2.2.2.2) := by
  refine xof (by decide) (Nat.le_of_ble_eq_true rfl) ⟨rfl, rfl⟩ ?_
  intro p e s m below meth c A ls E hr hlocks hw hl hpost hAe
  have hx := E.1.1
  have hb := E.1.2.1
  have hown := E.1.2.2.2.1
  have hts := E.1.2.2.2.2
  generalize hZ : (MQ below (xPost g (wM g h thrown ss states stateMany snapshot hasSnapshot text length at_ isWell rd readMany top bottom digit digitMany other otherMany column columnMany carryMany chainMost) (wM g h thrown ss states stateMany snapshot hasSnapshot text length at_ isWell rd readMany top bottom out.1 out.2.1 out.2.2.1 out.2.2.2.1 out.2.2.2.2.1 out.2.2.2.2.2.1 out.2.2.2.2.2.2.1 out.2.2.2.2.2.2.2) s.heap.size none) [.ref (h 0), .int a1, .int a2].toArray s 0 0 A) = ZZ
  have hret : ∀ (pc : Nat) (H : Heap) (locs : List Loc) (ls : Array Slot) (cdigit : (Nat → Int32)) (cdigitMany : Int32) (cother : (Nat → Int32)) (cotherMany : Int32) (ccolumn : (Nat → Int32)) (ccolumnMany : Int32) (ccarryMany : Int32) (cchainMost : Int32), (cdigit, cdigitMany, cother, cotherMany, ccolumn, ccolumnMany, ccarryMany, cchainMost) = out → decode cX11_tellsColumns pc = .ok (.return_, 1) → xW g A s.heap (wM g h thrown ss states stateMany snapshot hasSnapshot text length at_ isWell rd readMany top bottom cdigit cdigitMany cother cotherMany ccolumn ccolumnMany ccarryMany cchainMost) H locs → W p l e { frames := 3, cells := 0, slots := 0, locals := 64 } s m [.ref (h 0), .int a1, .int a2].toArray below meth c H locs 0 0 ZZ (F0 m pc ls []) := by
    intro pc H locs ls cdigit cdigitMany cother cotherMany ccolumn ccolumnMany ccarryMany cchainMost he hd hw
    subst he
    rw [← hZ]
    exact W.vret hx hb hr (hpost H locs hw).1 (hpost H locs hw).2 hd hlocks
  clear hpost
  have b90 : ∀ n90 : Nat, ∀ (H : Heap) (locs : List Loc) (ls : Array Slot) (digit : (Nat → Int32)) (digitMany : Int32) (other : (Nat → Int32)) (otherMany : Int32) (column : (Nat → Int32)) (columnMany : Int32) (carryMany : Int32) (chainMost : Int32) (x3 : Int32) (x4 : Int32) (x5 : Int32), xW g A s.heap (wM g h thrown ss states stateMany snapshot hasSnapshot text length at_ isWell rd readMany top bottom digit digitMany other otherMany column columnMany carryMany chainMost) H locs → lv_has ls 7 [(0, .ref (h 0)), (3, .int x3), (4, .int x4), (5, .int x5)] → f_X11_tellsColumns_b90 n90 ss digit digitMany other otherMany column columnMany carryMany chainMost x3 x4 x5 = some out → W p l e { frames := 3, cells := 0, slots := 0, locals := 64 } s m [.ref (h 0), .int a1, .int a2].toArray below meth c H locs 0 0 ZZ (F0 m 90 ls []) := by
    intro n90
    induction n90 with
    | zero =>
      intro H locs ls digit digitMany other otherMany column columnMany carryMany chainMost x3 x4 x5 hw hl hf
      exact nn hf
    | succ n90 ih90 =>
      have b214 : ∀ (H : Heap) (locs : List Loc) (ls : Array Slot) (digit : (Nat → Int32)) (digitMany : Int32) (other : (Nat → Int32)) (otherMany : Int32) (column : (Nat → Int32)) (columnMany : Int32) (carryMany : Int32) (chainMost : Int32) (x3 : Int32) (x4 : Int32) (x5 : Int32) (t0 : Int32), xW g A s.heap (wM g h thrown ss states stateMany snapshot hasSnapshot text length at_ isWell rd readMany top bottom digit digitMany other otherMany column columnMany carryMany chainMost) H locs → lv_has ls 7 [(0, .ref (h 0)), (3, .int x3), (4, .int x4), (5, .int x5)] → f_X11_tellsColumns_b214 (f_X11_tellsColumns_b90 n90) ss digit digitMany other otherMany column columnMany carryMany chainMost x3 x4 x5 t0 = some out → W p l e { frames := 3, cells := 0, slots := 0, locals := 64 } s m [.ref (h 0), .int a1, .int a2].toArray below meth c H locs 0 0 ZZ (F0 m 214 ls [.int t0, .ref (h 0)]) := by
        intro H locs ls digit digitMany other otherMany column columnMany carryMany chainMost x3 x4 x5 t0 hw hl hf
        refine xput (ws' := (wM g h thrown ss states stateMany snapshot hasSnapshot text length at_ isWell rd readMany top bottom digit digitMany other otherMany column columnMany carryMany t0)) E hw 0 rfl rfl 21 (by decide) inw11 tyX11_ok nmX11 qw1040 rfl rfl rfl rfl (Nat.le_of_ble_eq_true rfl) dX11_tellsColumns_214 rfl (fun H locs hw => ?_)
        refine lv_iinc (v := x5 + 1) (lv' := [(5, .int (x5 + 1)), (0, .ref (h 0)), (3, .int x3), (4, .int x4)]) hx hb dX11_tellsColumns_217 hl (k := 3) rfl rfl (by decide) rfl (fun ls hl => ?_)
        refine lv_goto (tgt := 90) hx hb dX11_tellsColumns_220 (by decide) ?_
        exact ih90 _ _ _ digit digitMany other otherMany column columnMany carryMany t0 x3 x4 (x5 + 1) hw (lv_sub hl [1, 2, 3, 0] rfl) hf
      have b193 : ∀ (H : Heap) (locs : List Loc) (ls : Array Slot) (digit : (Nat → Int32)) (digitMany : Int32) (other : (Nat → Int32)) (otherMany : Int32) (column : (Nat → Int32)) (columnMany : Int32) (carryMany : Int32) (chainMost : Int32) (x3 : Int32) (x5 : Int32) (t0 : Int32), xW g A s.heap (wM g h thrown ss states stateMany snapshot hasSnapshot text length at_ isWell rd readMany top bottom digit digitMany other otherMany column columnMany carryMany chainMost) H locs → lv_has ls 7 [(0, .ref (h 0)), (3, .int x3), (5, .int x5)] → f_X11_tellsColumns_b193 (f_X11_tellsColumns_b90 n90) ss digit digitMany other otherMany column columnMany carryMany chainMost x3 x5 t0 = some out → W p l e { frames := 3, cells := 0, slots := 0, locals := 64 } s m [.ref (h 0), .int a1, .int a2].toArray below meth c H locs 0 0 ZZ (F0 m 193 ls [.int t0]) := by
        intro H locs ls digit digitMany other otherMany column columnMany carryMany chainMost x3 x5 t0 hw hl hf
        refine lv_istore (lv' := [(4, .int t0), (0, .ref (h 0)), (3, .int x3), (5, .int x5)]) hx hb dX11_tellsColumns_193 hl (by decide) rfl (fun ls hl => ?_)
        refine lv_aload_n hx hb dX11_tellsColumns_195 rfl (lv_at hl 1 rfl) ?_
        refine lv_iload hx hb dX11_tellsColumns_196 (lv_at hl 0 rfl) ?_
        refine lv_aload_n hx hb dX11_tellsColumns_198 rfl (lv_at hl 1 rfl) ?_
        refine xget (v := .int chainMost) E hw 0 rfl rfl 21 (by decide) inw11 qw1040 rfl rfl dX11_tellsColumns_199 ?_
        refine lv_icmp_le (tgt := 210) hx hb dX11_tellsColumns_202 (by decide) (fun c202 => ?_) (fun c202 => ?_)
        · replace hf := ip c202 hf
          refine lv_aload_n hx hb dX11_tellsColumns_210 rfl (lv_at hl 1 rfl) ?_
          refine xget (v := .int chainMost) E hw 0 rfl rfl 21 (by decide) inw11 qw1040 rfl rfl dX11_tellsColumns_211 ?_
          exact b214 _ _ _ digit digitMany other otherMany column columnMany carryMany chainMost x3 t0 x5 chainMost hw (lv_sub hl [1, 2, 0, 3] rfl) hf
        · replace hf := iq c202 hf
          refine lv_iload hx hb dX11_tellsColumns_205 (lv_at hl 0 rfl) ?_
          refine lv_goto (tgt := 214) hx hb dX11_tellsColumns_207 (by decide) ?_
          exact b214 _ _ _ digit digitMany other otherMany column columnMany carryMany chainMost x3 t0 x5 t0 hw (lv_sub hl [1, 2, 0, 3] rfl) hf
      have b139 : ∀ (H : Heap) (locs : List Loc) (ls : Array Slot) (digit : (Nat → Int32)) (digitMany : Int32) (other : (Nat → Int32)) (otherMany : Int32) (column : (Nat → Int32)) (columnMany : Int32) (carryMany : Int32) (chainMost : Int32) (x3 : Int32) (x4 : Int32) (x5 : Int32) (t0 : Int32) (t1 : Int32), xW g A s.heap (wM g h thrown ss states stateMany snapshot hasSnapshot text length at_ isWell rd readMany top bottom digit digitMany other otherMany column columnMany carryMany chainMost) H locs → lv_has ls 7 [(0, .ref (h 0)), (3, .int x3), (4, .int x4), (5, .int x5)] → f_X11_tellsColumns_b139 (f_X11_tellsColumns_b90 n90) ss digit digitMany other otherMany column columnMany carryMany chainMost x3 x4 x5 t0 t1 = some out → W p l e { frames := 3, cells := 0, slots := 0, locals := 64 } s m [.ref (h 0), .int a1, .int a2].toArray below meth c H locs 0 0 ZZ (F0 m 139 ls [.int t0, .int t1]) := by
        intro H locs ls digit digitMany other otherMany column columnMany carryMany chainMost x3 x4 x5 t0 t1 hw hl hf
        refine lv_iadd hx hb dX11_tellsColumns_139 ?_
        refine lv_iload_n hx hb dX11_tellsColumns_140 rfl (lv_at hl 1 rfl) ?_
        refine lv_iadd hx hb dX11_tellsColumns_141 ?_
        refine lv_istore (lv' := [(6, .int ((t1 + t0) + x3)), (0, .ref (h 0)), (3, .int x3), (4, .int x4), (5, .int x5)]) hx hb dX11_tellsColumns_142 hl (by decide) rfl (fun ls hl => ?_)
        refine lv_iload hx hb dX11_tellsColumns_144 (lv_at hl 0 rfl) ?_
        refine lv_aload_n hx hb dX11_tellsColumns_146 rfl (lv_at hl 1 rfl) ?_
        refine xget (v := .ref (h 1)) E hw 0 rfl rfl 1 (by decide) inw11 qw1020 rfl rfl dX11_tellsColumns_147 ?_
        refine lv_iconst (v := 0) hx hb dX11_tellsColumns_150 (by decide) ?_
        refine xiald E hw 1 rfl (by decide) dX11_tellsColumns_151 ?_
        obtain ⟨hz, hf⟩ := nz hf
        refine lv_idiv hx hb dX11_tellsColumns_152 hz ?_
        refine lv_istore_n (lv' := [(3, .int (((t1 + t0) + x3) / (ss (0 : Int32).toNatClampNeg))), (6, .int ((t1 + t0) + x3)), (0, .ref (h 0)), (4, .int x4), (5, .int x5)]) hx hb dX11_tellsColumns_153 rfl hl (by decide) rfl (fun ls hl => ?_)
        refine lv_aload_n hx hb dX11_tellsColumns_154 rfl (lv_at hl 2 rfl) ?_
        refine xget (v := .ref (h 8)) E hw 0 rfl rfl 18 (by decide) inw11 qw1037 rfl rfl dX11_tellsColumns_155 ?_
        refine lv_iload hx hb dX11_tellsColumns_158 (lv_at hl 4 rfl) ?_
        refine lv_iload hx hb dX11_tellsColumns_160 (lv_at hl 1 rfl) ?_
        refine lv_aload_n hx hb dX11_tellsColumns_162 rfl (lv_at hl 2 rfl) ?_
        refine xget (v := .ref (h 1)) E hw 0 rfl rfl 1 (by decide) inw11 qw1020 rfl rfl dX11_tellsColumns_163 ?_
        refine lv_iconst (v := 0) hx hb dX11_tellsColumns_166 (by decide) ?_
        refine xiald E hw 1 rfl (by decide) dX11_tellsColumns_167 ?_
        obtain ⟨hz, hf⟩ := nz hf
        refine lv_irem hx hb dX11_tellsColumns_168 hz ?_
        obtain ⟨hz, hf⟩ := nz hf
        refine xiast (ws' := (wM g h thrown ss states stateMany snapshot hasSnapshot text length at_ isWell rd readMany top bottom digit digitMany other otherMany (upd column x5.toNatClampNeg (((t1 + t0) + x3) - ((t1 + t0) + x3) / (ss (0 : Int32).toNatClampNeg) * (ss (0 : Int32).toNatClampNeg))) columnMany carryMany chainMost)) E hw 8 rfl hz dX11_tellsColumns_169 rfl (fun H locs hw => ?_)
        refine lv_aload_n hx hb dX11_tellsColumns_170 rfl (lv_at hl 2 rfl) ?_
        refine lv_dup hx hb dX11_tellsColumns_171 rfl ?_
        refine xget (v := .int carryMany) E hw 0 rfl rfl 20 (by decide) inw11 qw1039 rfl rfl dX11_tellsColumns_172 ?_
        refine lv_iload_n hx hb dX11_tellsColumns_175 rfl (lv_at hl 0 rfl) ?_
        refine lv_iadd hx hb dX11_tellsColumns_176 ?_
        refine xput (ws' := (wM g h thrown ss states stateMany snapshot hasSnapshot text length at_ isWell rd readMany top bottom digit digitMany other otherMany (upd column x5.toNatClampNeg (((t1 + t0) + x3) - ((t1 + t0) + x3) / (ss (0 : Int32).toNatClampNeg) * (ss (0 : Int32).toNatClampNeg))) columnMany (carryMany + (((t1 + t0) + x3) / (ss (0 : Int32).toNatClampNeg))) chainMost)) E hw 0 rfl rfl 20 (by decide) inw11 tyX11_ok nmX11 qw1039 rfl rfl rfl rfl (Nat.le_of_ble_eq_true rfl) dX11_tellsColumns_177 rfl (fun H locs hw => ?_)
        refine lv_iload_n hx hb dX11_tellsColumns_180 rfl (lv_at hl 0 rfl) ?_
        refine lv_iconst (v := 1) hx hb dX11_tellsColumns_181 (by decide) ?_
        refine lv_icmp_ne (tgt := 192) hx hb dX11_tellsColumns_182 (by decide) (fun c182 => ?_) (fun c182 => ?_)
        · replace hf := iq c182 hf
          refine lv_iconst (v := 0) hx hb dX11_tellsColumns_192 (by decide) ?_
          exact b193 _ _ _ digit digitMany other otherMany (upd column x5.toNatClampNeg (((t1 + t0) + x3) - ((t1 + t0) + x3) / (ss (0 : Int32).toNatClampNeg) * (ss (0 : Int32).toNatClampNeg))) columnMany (carryMany + (((t1 + t0) + x3) / (ss (0 : Int32).toNatClampNeg))) chainMost (((t1 + t0) + x3) / (ss (0 : Int32).toNatClampNeg)) x5 0 hw (lv_sub hl [2, 0, 4] rfl) hf
        · replace hf := ip c182 hf
          refine lv_iload hx hb dX11_tellsColumns_185 (lv_at hl 3 rfl) ?_
          refine lv_iconst (v := 1) hx hb dX11_tellsColumns_187 (by decide) ?_
          refine lv_iadd hx hb dX11_tellsColumns_188 ?_
          refine lv_goto (tgt := 193) hx hb dX11_tellsColumns_189 (by decide) ?_
          exact b193 _ _ _ digit digitMany other otherMany (upd column x5.toNatClampNeg (((t1 + t0) + x3) - ((t1 + t0) + x3) / (ss (0 : Int32).toNatClampNeg) * (ss (0 : Int32).toNatClampNeg))) columnMany (carryMany + (((t1 + t0) + x3) / (ss (0 : Int32).toNatClampNeg))) chainMost (((t1 + t0) + x3) / (ss (0 : Int32).toNatClampNeg)) x5 (x4 + 1) hw (lv_sub hl [2, 0, 4] rfl) hf
      have b119 : ∀ (H : Heap) (locs : List Loc) (ls : Array Slot) (digit : (Nat → Int32)) (digitMany : Int32) (other : (Nat → Int32)) (otherMany : Int32) (column : (Nat → Int32)) (columnMany : Int32) (carryMany : Int32) (chainMost : Int32) (x3 : Int32) (x4 : Int32) (x5 : Int32) (t0 : Int32), xW g A s.heap (wM g h thrown ss states stateMany snapshot hasSnapshot text length at_ isWell rd readMany top bottom digit digitMany other otherMany column columnMany carryMany chainMost) H locs → lv_has ls 7 [(0, .ref (h 0)), (3, .int x3), (4, .int x4), (5, .int x5)] → f_X11_tellsColumns_b119 (f_X11_tellsColumns_b90 n90) ss digit digitMany other otherMany column columnMany carryMany chainMost x3 x4 x5 t0 = some out → W p l e { frames := 3, cells := 0, slots := 0, locals := 64 } s m [.ref (h 0), .int a1, .int a2].toArray below meth c H locs 0 0 ZZ (F0 m 119 ls [.int t0]) := by
        intro H locs ls digit digitMany other otherMany column columnMany carryMany chainMost x3 x4 x5 t0 hw hl hf
        refine lv_iload hx hb dX11_tellsColumns_119 (lv_at hl 3 rfl) ?_
        refine lv_aload_n hx hb dX11_tellsColumns_121 rfl (lv_at hl 0 rfl) ?_
        refine xget (v := .int otherMany) E hw 0 rfl rfl 17 (by decide) inw11 qw1036 rfl rfl dX11_tellsColumns_122 ?_
        refine lv_icmp_ge (tgt := 138) hx hb dX11_tellsColumns_125 (by decide) (fun c125 => ?_) (fun c125 => ?_)
        · replace hf := ip c125 hf
          refine lv_iconst (v := 0) hx hb dX11_tellsColumns_138 (by decide) ?_
          exact b139 _ _ _ digit digitMany other otherMany column columnMany carryMany chainMost x3 x4 x5 0 t0 hw (lv_sub hl [0, 1, 2, 3] rfl) hf
        · replace hf := iq c125 hf
          refine lv_aload_n hx hb dX11_tellsColumns_128 rfl (lv_at hl 0 rfl) ?_
          refine xget (v := .ref (h 7)) E hw 0 rfl rfl 16 (by decide) inw11 qw1035 rfl rfl dX11_tellsColumns_129 ?_
          refine lv_iload hx hb dX11_tellsColumns_132 (lv_at hl 3 rfl) ?_
          obtain ⟨hz, hf⟩ := nz hf
          refine xiald E hw 7 rfl hz dX11_tellsColumns_134 ?_
          refine lv_goto (tgt := 139) hx hb dX11_tellsColumns_135 (by decide) ?_
          exact b139 _ _ _ digit digitMany other otherMany column columnMany carryMany chainMost x3 x4 x5 (other x5.toNatClampNeg) t0 hw (lv_sub hl [0, 1, 2, 3] rfl) hf
      intro H locs ls digit digitMany other otherMany column columnMany carryMany chainMost x3 x4 x5 hw hl hf
      refine lv_iload hx hb dX11_tellsColumns_90 (lv_at hl 3 rfl) ?_
      refine lv_aload_n hx hb dX11_tellsColumns_92 rfl (lv_at hl 0 rfl) ?_
      refine xget (v := .int columnMany) E hw 0 rfl rfl 19 (by decide) inw11 qw1038 rfl rfl dX11_tellsColumns_93 ?_
      refine lv_icmp_ge (tgt := 223) hx hb dX11_tellsColumns_96 (by decide) (fun c96 => ?_) (fun c96 => ?_)
      · replace hf := ip c96 hf
        refine lv_iload_n hx hb dX11_tellsColumns_223 rfl (lv_at hl 1 rfl) ?_
        refine lv_iconst (v := 1) hx hb dX11_tellsColumns_224 (by decide) ?_
        refine lv_icmp_ne (tgt := 248) hx hb dX11_tellsColumns_225 (by decide) (fun c225 => ?_) (fun c225 => ?_)
        · replace hf := iq c225 hf
          exact hret _ _ _ _ _ _ _ _ _ _ _ _ (Option.some.inj hf) dX11_tellsColumns_248 hw
        · replace hf := ip c225 hf
          refine lv_aload_n hx hb dX11_tellsColumns_228 rfl (lv_at hl 0 rfl) ?_
          refine xget (v := .ref (h 8)) E hw 0 rfl rfl 18 (by decide) inw11 qw1037 rfl rfl dX11_tellsColumns_229 ?_
          refine lv_aload_n hx hb dX11_tellsColumns_232 rfl (lv_at hl 0 rfl) ?_
          refine xget (v := .int columnMany) E hw 0 rfl rfl 19 (by decide) inw11 qw1038 rfl rfl dX11_tellsColumns_233 ?_
          refine lv_iconst (v := 1) hx hb dX11_tellsColumns_236 (by decide) ?_
          obtain ⟨hz, hf⟩ := nz hf
          refine xiast (ws' := (wM g h thrown ss states stateMany snapshot hasSnapshot text length at_ isWell rd readMany top bottom digit digitMany other otherMany (upd column columnMany.toNatClampNeg 1) columnMany carryMany chainMost)) E hw 8 rfl hz dX11_tellsColumns_237 rfl (fun H locs hw => ?_)
          refine lv_aload_n hx hb dX11_tellsColumns_238 rfl (lv_at hl 0 rfl) ?_
          refine lv_dup hx hb dX11_tellsColumns_239 rfl ?_
          refine xget (v := .int columnMany) E hw 0 rfl rfl 19 (by decide) inw11 qw1038 rfl rfl dX11_tellsColumns_240 ?_
          refine lv_iconst (v := 1) hx hb dX11_tellsColumns_243 (by decide) ?_
          refine lv_iadd hx hb dX11_tellsColumns_244 ?_
          refine xput (ws' := (wM g h thrown ss states stateMany snapshot hasSnapshot text length at_ isWell rd readMany top bottom digit digitMany other otherMany (upd column columnMany.toNatClampNeg 1) (columnMany + 1) carryMany chainMost)) E hw 0 rfl rfl 19 (by decide) inw11 tyX11_ok nmX11 qw1038 rfl rfl rfl rfl (Nat.le_of_ble_eq_true rfl) dX11_tellsColumns_245 rfl (fun H locs hw => ?_)
          exact hret _ _ _ _ _ _ _ _ _ _ _ _ (Option.some.inj hf) dX11_tellsColumns_248 hw
      · replace hf := iq c96 hf
        refine lv_iload hx hb dX11_tellsColumns_99 (lv_at hl 3 rfl) ?_
        refine lv_aload_n hx hb dX11_tellsColumns_101 rfl (lv_at hl 0 rfl) ?_
        refine xget (v := .int digitMany) E hw 0 rfl rfl 15 (by decide) inw11 qw1034 rfl rfl dX11_tellsColumns_102 ?_
        refine lv_icmp_ge (tgt := 118) hx hb dX11_tellsColumns_105 (by decide) (fun c105 => ?_) (fun c105 => ?_)
        · replace hf := ip c105 hf
          refine lv_iconst (v := 0) hx hb dX11_tellsColumns_118 (by decide) ?_
          exact b119 _ _ _ digit digitMany other otherMany column columnMany carryMany chainMost x3 x4 x5 0 hw (lv_sub hl [0, 1, 2, 3] rfl) hf
        · replace hf := iq c105 hf
          refine lv_aload_n hx hb dX11_tellsColumns_108 rfl (lv_at hl 0 rfl) ?_
          refine xget (v := .ref (h 6)) E hw 0 rfl rfl 14 (by decide) inw11 qw1033 rfl rfl dX11_tellsColumns_109 ?_
          refine lv_iload hx hb dX11_tellsColumns_112 (lv_at hl 3 rfl) ?_
          obtain ⟨hz, hf⟩ := nz hf
          refine xiald E hw 6 rfl hz dX11_tellsColumns_114 ?_
          refine lv_goto (tgt := 119) hx hb dX11_tellsColumns_115 (by decide) ?_
          exact b119 _ _ _ digit digitMany other otherMany column columnMany carryMany chainMost x3 x4 x5 (digit x5.toNatClampNeg) hw (lv_sub hl [0, 1, 2, 3] rfl) hf
  have b69 : ∀ (H : Heap) (locs : List Loc) (ls : Array Slot) (digit : (Nat → Int32)) (digitMany : Int32) (other : (Nat → Int32)) (otherMany : Int32) (column : (Nat → Int32)) (columnMany : Int32) (carryMany : Int32) (chainMost : Int32) (t0 : Int32), xW g A s.heap (wM g h thrown ss states stateMany snapshot hasSnapshot text length at_ isWell rd readMany top bottom digit digitMany other otherMany column columnMany carryMany chainMost) H locs → lv_has ls 7 [(0, .ref (h 0))] → f_X11_tellsColumns_b69 ss digit digitMany other otherMany column columnMany carryMany chainMost t0 = some out → W p l e { frames := 3, cells := 0, slots := 0, locals := 64 } s m [.ref (h 0), .int a1, .int a2].toArray below meth c H locs 0 0 ZZ (F0 m 69 ls [.int t0, .ref (h 0)]) := by
    intro H locs ls digit digitMany other otherMany column columnMany carryMany chainMost t0 hw hl hf
    refine xput (ws' := (wM g h thrown ss states stateMany snapshot hasSnapshot text length at_ isWell rd readMany top bottom digit digitMany other otherMany column t0 carryMany chainMost)) E hw 0 rfl rfl 19 (by decide) inw11 tyX11_ok nmX11 qw1038 rfl rfl rfl rfl (Nat.le_of_ble_eq_true rfl) dX11_tellsColumns_69 rfl (fun H locs hw => ?_)
    refine lv_aload_n hx hb dX11_tellsColumns_72 rfl (lv_at hl 0 rfl) ?_
    refine lv_iconst (v := 0) hx hb dX11_tellsColumns_73 (by decide) ?_
    refine xput (ws' := (wM g h thrown ss states stateMany snapshot hasSnapshot text length at_ isWell rd readMany top bottom digit digitMany other otherMany column t0 0 chainMost)) E hw 0 rfl rfl 20 (by decide) inw11 tyX11_ok nmX11 qw1039 rfl rfl rfl rfl (Nat.le_of_ble_eq_true rfl) dX11_tellsColumns_74 rfl (fun H locs hw => ?_)
    refine lv_aload_n hx hb dX11_tellsColumns_77 rfl (lv_at hl 0 rfl) ?_
    refine lv_iconst (v := 0) hx hb dX11_tellsColumns_78 (by decide) ?_
    refine xput (ws' := (wM g h thrown ss states stateMany snapshot hasSnapshot text length at_ isWell rd readMany top bottom digit digitMany other otherMany column t0 0 0)) E hw 0 rfl rfl 21 (by decide) inw11 tyX11_ok nmX11 qw1040 rfl rfl rfl rfl (Nat.le_of_ble_eq_true rfl) dX11_tellsColumns_79 rfl (fun H locs hw => ?_)
    refine lv_iconst (v := 0) hx hb dX11_tellsColumns_82 (by decide) ?_
    refine lv_istore_n (lv' := [(3, .int 0), (0, .ref (h 0))]) hx hb dX11_tellsColumns_83 rfl hl (by decide) rfl (fun ls hl => ?_)
    refine lv_iconst (v := 0) hx hb dX11_tellsColumns_84 (by decide) ?_
    refine lv_istore (lv' := [(4, .int 0), (3, .int 0), (0, .ref (h 0))]) hx hb dX11_tellsColumns_85 hl (by decide) rfl (fun ls hl => ?_)
    refine lv_iconst (v := 0) hx hb dX11_tellsColumns_87 (by decide) ?_
    refine lv_istore (lv' := [(5, .int 0), (4, .int 0), (3, .int 0), (0, .ref (h 0))]) hx hb dX11_tellsColumns_88 hl (by decide) rfl (fun ls hl => ?_)
    exact b90 xfuel _ _ _ digit digitMany other otherMany column t0 0 0 0 0 0 hw (lv_sub hl [3, 2, 1, 0] rfl) hf
  have b15 : ∀ n15 : Nat, ∀ (H : Heap) (locs : List Loc) (ls : Array Slot) (digit : (Nat → Int32)) (digitMany : Int32) (other : (Nat → Int32)) (otherMany : Int32) (column : (Nat → Int32)) (columnMany : Int32) (carryMany : Int32) (chainMost : Int32) (x1 : Int32) (x3 : Int32), xW g A s.heap (wM g h thrown ss states stateMany snapshot hasSnapshot text length at_ isWell rd readMany top bottom digit digitMany other otherMany column columnMany carryMany chainMost) H locs → lv_has ls 7 [(0, .ref (h 0)), (1, .int x1), (3, .int x3)] → f_X11_tellsColumns_b15 n15 ss digit digitMany other otherMany column columnMany carryMany chainMost x1 x3 = some out → W p l e { frames := 3, cells := 0, slots := 0, locals := 64 } s m [.ref (h 0), .int a1, .int a2].toArray below meth c H locs 0 0 ZZ (F0 m 15 ls []) := by
    intro n15
    induction n15 with
    | zero =>
      intro H locs ls digit digitMany other otherMany column columnMany carryMany chainMost x1 x3 hw hl hf
      exact nn hf
    | succ n15 ih15 =>
      intro H locs ls digit digitMany other otherMany column columnMany carryMany chainMost x1 x3 hw hl hf
      refine lv_iload_n hx hb dX11_tellsColumns_15 rfl (lv_at hl 2 rfl) ?_
      refine lv_aload_n hx hb dX11_tellsColumns_16 rfl (lv_at hl 0 rfl) ?_
      refine xget (v := .int digitMany) E hw 0 rfl rfl 15 (by decide) inw11 qw1034 rfl rfl dX11_tellsColumns_17 ?_
      refine lv_icmp_ge (tgt := 41) hx hb dX11_tellsColumns_20 (by decide) (fun c20 => ?_) (fun c20 => ?_)
      · replace hf := ip c20 hf
        refine lv_aload_n hx hb dX11_tellsColumns_41 rfl (lv_at hl 0 rfl) ?_
        refine lv_iload_n hx hb dX11_tellsColumns_42 rfl (lv_at hl 1 rfl) ?_
        obtain ⟨v43, hv43, hf⟩ := ob_e hf
        refine xcallV (ws' := (wM g h thrown ss states stateMany snapshot hasSnapshot text length at_ isWell rd readMany top bottom v43.1 v43.2 other otherMany column columnMany carryMany chainMost)) (st1 := []) (n := 9) E hw [.int x1] [0, 1, 2, 3, 4, 5, 6, 7, 8] (met_X11_tellsDigits l g h thrown ss states stateMany snapshot hasSnapshot text length at_ isWell rd readMany top bottom digit digitMany other otherMany column columnMany carryMany chainMost x1 v43 hv43) rfl (by decide) rfl rfl [9, 10, 11, 12, 13, 14, 15, 16, 17] rfl (by decide +kernel) rfl rfl rfl rfl qw1309 k_X11_tellsDigits ⟨rfl, rfl, Nat.le_of_ble_eq_true rfl, Nat.le_of_ble_eq_true rfl⟩ ⟨Nat.zero_le _, Nat.zero_le _⟩ hl.1 (Nat.le_of_ble_eq_true rfl) dX11_tellsColumns_43 rfl (fun H locs hw => ?_)
        refine lv_aload_n hx hb dX11_tellsColumns_46 rfl (lv_at hl 0 rfl) ?_
        refine lv_aload_n hx hb dX11_tellsColumns_47 rfl (lv_at hl 0 rfl) ?_
        refine xget (v := .int v43.2) E hw 0 rfl rfl 15 (by decide) inw11 qw1034 rfl rfl dX11_tellsColumns_48 ?_
        refine lv_aload_n hx hb dX11_tellsColumns_51 rfl (lv_at hl 0 rfl) ?_
        refine xget (v := .int otherMany) E hw 0 rfl rfl 17 (by decide) inw11 qw1036 rfl rfl dX11_tellsColumns_52 ?_
        refine lv_icmp_le (tgt := 65) hx hb dX11_tellsColumns_55 (by decide) (fun c55 => ?_) (fun c55 => ?_)
        · replace hf := ip c55 hf
          refine lv_aload_n hx hb dX11_tellsColumns_65 rfl (lv_at hl 0 rfl) ?_
          refine xget (v := .int otherMany) E hw 0 rfl rfl 17 (by decide) inw11 qw1036 rfl rfl dX11_tellsColumns_66 ?_
          exact b69 _ _ _ v43.1 v43.2 other otherMany column columnMany carryMany chainMost otherMany hw (lv_sub hl [0] rfl) hf
        · replace hf := iq c55 hf
          refine lv_aload_n hx hb dX11_tellsColumns_58 rfl (lv_at hl 0 rfl) ?_
          refine xget (v := .int v43.2) E hw 0 rfl rfl 15 (by decide) inw11 qw1034 rfl rfl dX11_tellsColumns_59 ?_
          refine lv_goto (tgt := 69) hx hb dX11_tellsColumns_62 (by decide) ?_
          exact b69 _ _ _ v43.1 v43.2 other otherMany column columnMany carryMany chainMost v43.2 hw (lv_sub hl [0] rfl) hf
      · replace hf := iq c20 hf
        refine lv_aload_n hx hb dX11_tellsColumns_23 rfl (lv_at hl 0 rfl) ?_
        refine xget (v := .ref (h 7)) E hw 0 rfl rfl 16 (by decide) inw11 qw1035 rfl rfl dX11_tellsColumns_24 ?_
        refine lv_iload_n hx hb dX11_tellsColumns_27 rfl (lv_at hl 2 rfl) ?_
        refine lv_aload_n hx hb dX11_tellsColumns_28 rfl (lv_at hl 0 rfl) ?_
        refine xget (v := .ref (h 6)) E hw 0 rfl rfl 14 (by decide) inw11 qw1033 rfl rfl dX11_tellsColumns_29 ?_
        refine lv_iload_n hx hb dX11_tellsColumns_32 rfl (lv_at hl 2 rfl) ?_
        obtain ⟨hz, hf⟩ := nz hf
        refine xiald E hw 6 rfl hz dX11_tellsColumns_33 ?_
        obtain ⟨hz, hf⟩ := nz hf
        refine xiast (ws' := (wM g h thrown ss states stateMany snapshot hasSnapshot text length at_ isWell rd readMany top bottom digit digitMany (upd other x3.toNatClampNeg (digit x3.toNatClampNeg)) otherMany column columnMany carryMany chainMost)) E hw 7 rfl hz dX11_tellsColumns_34 rfl (fun H locs hw => ?_)
        refine lv_iinc (v := x3 + 1) (lv' := [(3, .int (x3 + 1)), (0, .ref (h 0)), (1, .int x1)]) hx hb dX11_tellsColumns_35 hl (k := 2) rfl rfl (by decide) rfl (fun ls hl => ?_)
        refine lv_goto (tgt := 15) hx hb dX11_tellsColumns_38 (by decide) ?_
        exact ih15 _ _ _ digit digitMany (upd other x3.toNatClampNeg (digit x3.toNatClampNeg)) otherMany column columnMany carryMany chainMost x1 (x3 + 1) hw (lv_sub hl [1, 2, 0] rfl) hf
  refine lv_aload_n hx hb dX11_tellsColumns_0 rfl (lv_at hl 0 rfl) ?_
  refine lv_iload_n hx hb dX11_tellsColumns_1 rfl (lv_at hl 2 rfl) ?_
  obtain ⟨v2, hv2, hf⟩ := ob_e hf
  refine xcallV (ws' := (wM g h thrown ss states stateMany snapshot hasSnapshot text length at_ isWell rd readMany top bottom v2.1 v2.2 other otherMany column columnMany carryMany chainMost)) (st1 := []) (n := 9) E hw [.int a2] [0, 1, 2, 3, 4, 5, 6, 7, 8] (met_X11_tellsDigits l g h thrown ss states stateMany snapshot hasSnapshot text length at_ isWell rd readMany top bottom digit digitMany other otherMany column columnMany carryMany chainMost a2 v2 hv2) rfl (by decide) rfl rfl [9, 10, 11, 12, 13, 14, 15, 16, 17] rfl (by decide +kernel) rfl rfl rfl rfl qw1309 k_X11_tellsDigits ⟨rfl, rfl, Nat.le_of_ble_eq_true rfl, Nat.le_of_ble_eq_true rfl⟩ ⟨Nat.zero_le _, Nat.zero_le _⟩ hl.1 (Nat.le_of_ble_eq_true rfl) dX11_tellsColumns_2 rfl (fun H locs hw => ?_)
  refine lv_aload_n hx hb dX11_tellsColumns_5 rfl (lv_at hl 0 rfl) ?_
  refine lv_aload_n hx hb dX11_tellsColumns_6 rfl (lv_at hl 0 rfl) ?_
  refine xget (v := .int v2.2) E hw 0 rfl rfl 15 (by decide) inw11 qw1034 rfl rfl dX11_tellsColumns_7 ?_
  refine xput (ws' := (wM g h thrown ss states stateMany snapshot hasSnapshot text length at_ isWell rd readMany top bottom v2.1 v2.2 other v2.2 column columnMany carryMany chainMost)) E hw 0 rfl rfl 17 (by decide) inw11 tyX11_ok nmX11 qw1036 rfl rfl rfl rfl (Nat.le_of_ble_eq_true rfl) dX11_tellsColumns_10 rfl (fun H locs hw => ?_)
  refine lv_iconst (v := 0) hx hb dX11_tellsColumns_13 (by decide) ?_
  refine lv_istore_n (lv' := [(3, .int 0), (0, .ref (h 0)), (1, .int a1), (2, .int a2)]) hx hb dX11_tellsColumns_14 rfl hl (by decide) rfl (fun ls hl => ?_)
  exact b15 xfuel _ _ _ v2.1 v2.2 other v2.2 column columnMany carryMany chainMost a1 0 hw (lv_sub hl [1, 2, 0] rfl) hf
theorem k_X11_reads16 : xKV yX11_reads16 cX11_reads16 7 (some .long) 2 := ⟨qw1432, qw59, qw74, qw1433, by decide +kernel, by decide +kernel, by decide +kernel⟩
set_option maxHeartbeats 4000000 in
set_option maxRecDepth 100000 in
theorem met_X11_reads16 (l : Launch) (g : xG) (h : Nat → Nat) (thrown : Int32) (ss : (Nat → Int32)) (states : (Nat → Int32)) (stateMany : Int32) (snapshot : (Nat → Int32)) (hasSnapshot : Int32) (text : (Nat → Int32)) (length : Int32) (at_ : Int32) (isWell : Int32) (rd : (Nat → Int32)) (readMany : Int32) (top : Int64) (bottom : Int64) (digit : (Nat → Int32)) (digitMany : Int32) (other : (Nat → Int32)) (otherMany : Int32) (column : (Nat → Int32)) (columnMany : Int32) (carryMany : Int32) (chainMost : Int32) (a1 : Int32) (a2 : Int32) (out : Int64 × (Nat → Int32) × Int32) (hf : f_X11_reads16 ss digit digitMany a1 a2 = some out) : xM l yX11_reads16 (xC yX11_reads16 cX11_reads16 7 (some .long)) { frames := 3, cells := 0, slots := 0, locals := 64 } g (wM g h thrown ss states stateMany snapshot hasSnapshot text length at_ isWell rd readMany top bottom digit digitMany other otherMany column columnMany carryMany chainMost) [.ref (h 0), .int a1, .int a2] (some (.long out.1)) (wM g h thrown ss states stateMany snapshot hasSnapshot text length at_ isWell rd readMany top bottom out.2.1 out.2.2 other otherMany column columnMany carryMany chainMost) := by
  refine xof (by decide) (Nat.le_of_ble_eq_true rfl) ⟨rfl, rfl⟩ ?_
  intro p e s m below meth c A ls E hr hlocks hw hl hpost hAe
  have hx := E.1.1
  have hb := E.1.2.1
  have hown := E.1.2.2.2.1
  have hts := E.1.2.2.2.2
  generalize hZ : (MQ below (xPost g (wM g h thrown ss states stateMany snapshot hasSnapshot text length at_ isWell rd readMany top bottom digit digitMany other otherMany column columnMany carryMany chainMost) (wM g h thrown ss states stateMany snapshot hasSnapshot text length at_ isWell rd readMany top bottom out.2.1 out.2.2 other otherMany column columnMany carryMany chainMost) s.heap.size (some (.long out.1))) [.ref (h 0), .int a1, .int a2].toArray s 0 0 A) = ZZ
  have hret : ∀ (pc : Nat) (H : Heap) (locs : List Loc) (ls : Array Slot) (v : Int64) (cdigit : (Nat → Int32)) (cdigitMany : Int32), (v, cdigit, cdigitMany) = out → decode cX11_reads16 pc = .ok (.lreturn, 1) → xW g A s.heap (wM g h thrown ss states stateMany snapshot hasSnapshot text length at_ isWell rd readMany top bottom cdigit cdigitMany other otherMany column columnMany carryMany chainMost) H locs → W p l e { frames := 3, cells := 0, slots := 0, locals := 64 } s m [.ref (h 0), .int a1, .int a2].toArray below meth c H locs 0 0 ZZ (F0 m pc ls [.long v]) := by
    intro pc H locs ls v cdigit cdigitMany he hd hw
    subst he
    rw [← hZ]
    exact W.lret hx hb hr (hpost H locs hw).1 (hpost H locs hw).2 hd hlocks
  clear hpost
  have b74 : ∀ (H : Heap) (locs : List Loc) (ls : Array Slot) (digit : (Nat → Int32)) (digitMany : Int32) (x3 : Int64) (x5 : Int32), xW g A s.heap (wM g h thrown ss states stateMany snapshot hasSnapshot text length at_ isWell rd readMany top bottom digit digitMany other otherMany column columnMany carryMany chainMost) H locs → lv_has ls 7 [(3, .long x3), (5, .int x5)] → f_X11_reads16_b74 ss digit digitMany x3 x5 = some out → W p l e { frames := 3, cells := 0, slots := 0, locals := 64 } s m [.ref (h 0), .int a1, .int a2].toArray below meth c H locs 0 0 ZZ (F0 m 74 ls []) := by
    intro H locs ls digit digitMany x3 x5 hw hl hf
    refine lv_iload hx hb dX11_reads16_74 (lv_at hl 1 rfl) ?_
    refine lv_if_eq (tgt := 83) hx hb dX11_reads16_76 (by decide) (fun c76 => ?_) (fun c76 => ?_)
    · replace hf := ip c76 hf
      refine lv_ldc2 hx hb hown (hts _ qw1435) dX11_reads16_83 ?_
      exact hret _ _ _ _ _ _ _ (Option.some.inj hf) dX11_reads16_86 hw
    · replace hf := iq c76 hf
      refine lv_lload_n hx hb dX11_reads16_79 rfl (lv_at hl 0 rfl) ?_
      refine lv_goto (tgt := 86) hx hb dX11_reads16_80 (by decide) ?_
      exact hret _ _ _ _ _ _ _ (Option.some.inj hf) dX11_reads16_86 hw
  have b18 : ∀ n18 : Nat, ∀ (H : Heap) (locs : List Loc) (ls : Array Slot) (digit : (Nat → Int32)) (digitMany : Int32) (x2 : Int32) (x3 : Int64) (x5 : Int32) (x6 : Int32), xW g A s.heap (wM g h thrown ss states stateMany snapshot hasSnapshot text length at_ isWell rd readMany top bottom digit digitMany other otherMany column columnMany carryMany chainMost) H locs → lv_has ls 7 [(0, .ref (h 0)), (2, .int x2), (3, .long x3), (5, .int x5), (6, .int x6)] → f_X11_reads16_b18 n18 ss digit digitMany x2 x3 x5 x6 = some out → W p l e { frames := 3, cells := 0, slots := 0, locals := 64 } s m [.ref (h 0), .int a1, .int a2].toArray below meth c H locs 0 0 ZZ (F0 m 18 ls []) := by
    intro n18
    induction n18 with
    | zero =>
      intro H locs ls digit digitMany x2 x3 x5 x6 hw hl hf
      exact nn hf
    | succ n18 ih18 =>
      have b66 : ∀ (H : Heap) (locs : List Loc) (ls : Array Slot) (digit : (Nat → Int32)) (digitMany : Int32) (x2 : Int32) (x3 : Int64) (x6 : Int32) (t0 : Int32), xW g A s.heap (wM g h thrown ss states stateMany snapshot hasSnapshot text length at_ isWell rd readMany top bottom digit digitMany other otherMany column columnMany carryMany chainMost) H locs → lv_has ls 7 [(0, .ref (h 0)), (2, .int x2), (3, .long x3), (6, .int x6)] → f_X11_reads16_b66 (f_X11_reads16_b18 n18) ss digit digitMany x2 x3 x6 t0 = some out → W p l e { frames := 3, cells := 0, slots := 0, locals := 64 } s m [.ref (h 0), .int a1, .int a2].toArray below meth c H locs 0 0 ZZ (F0 m 66 ls [.int t0]) := by
        intro H locs ls digit digitMany x2 x3 x6 t0 hw hl hf
        refine lv_istore (lv' := [(5, .int t0), (0, .ref (h 0)), (2, .int x2), (3, .long x3), (6, .int x6)]) hx hb dX11_reads16_66 hl (by decide) rfl (fun ls hl => ?_)
        refine lv_iinc (v := x6 + (-1)) (lv' := [(6, .int (x6 + (-1))), (5, .int t0), (0, .ref (h 0)), (2, .int x2), (3, .long x3)]) hx hb dX11_reads16_68 hl (k := 4) rfl rfl (by decide) rfl (fun ls hl => ?_)
        refine lv_goto (tgt := 18) hx hb dX11_reads16_71 (by decide) ?_
        exact ih18 _ _ _ digit digitMany x2 x3 t0 (x6 + (-1)) hw (lv_sub hl [2, 3, 4, 1, 0] rfl) hf
      have b65 : ∀ (H : Heap) (locs : List Loc) (ls : Array Slot) (digit : (Nat → Int32)) (digitMany : Int32) (x2 : Int32) (x3 : Int64) (x6 : Int32), xW g A s.heap (wM g h thrown ss states stateMany snapshot hasSnapshot text length at_ isWell rd readMany top bottom digit digitMany other otherMany column columnMany carryMany chainMost) H locs → lv_has ls 7 [(0, .ref (h 0)), (2, .int x2), (3, .long x3), (6, .int x6)] → f_X11_reads16_b65 (f_X11_reads16_b18 n18) ss digit digitMany x2 x3 x6 = some out → W p l e { frames := 3, cells := 0, slots := 0, locals := 64 } s m [.ref (h 0), .int a1, .int a2].toArray below meth c H locs 0 0 ZZ (F0 m 65 ls []) := by
        intro H locs ls digit digitMany x2 x3 x6 hw hl hf
        refine lv_iconst (v := 0) hx hb dX11_reads16_65 (by decide) ?_
        exact b66 _ _ _ digit digitMany x2 x3 x6 0 hw (lv_sub hl [0, 1, 2, 3] rfl) hf
      intro H locs ls digit digitMany x2 x3 x5 x6 hw hl hf
      refine lv_iload hx hb dX11_reads16_18 (lv_at hl 4 rfl) ?_
      refine lv_if_lt (tgt := 74) hx hb dX11_reads16_20 (by decide) (fun c20 => ?_) (fun c20 => ?_)
      · replace hf := ip c20 hf
        exact b74 _ _ _ digit digitMany x3 x5 hw (lv_sub hl [2, 3] rfl) hf
      · replace hf := iq c20 hf
        refine lv_iload hx hb dX11_reads16_23 (lv_at hl 3 rfl) ?_
        refine lv_if_eq (tgt := 74) hx hb dX11_reads16_25 (by decide) (fun c25 => ?_) (fun c25 => ?_)
        · replace hf := ip c25 hf
          exact b74 _ _ _ digit digitMany x3 x5 hw (lv_sub hl [2, 3] rfl) hf
        · replace hf := iq c25 hf
          refine lv_lload_n hx hb dX11_reads16_28 rfl (lv_at hl 2 rfl) ?_
          refine lv_iload_n hx hb dX11_reads16_29 rfl (lv_at hl 1 rfl) ?_
          refine lv_i2l hx hb dX11_reads16_30 rfl ?_
          refine lv_lmul hx hb dX11_reads16_31 ?_
          refine lv_aload_n hx hb dX11_reads16_32 rfl (lv_at hl 0 rfl) ?_
          refine xget (v := .ref (h 6)) E hw 0 rfl rfl 14 (by decide) inw11 qw1033 rfl rfl dX11_reads16_33 ?_
          refine lv_iload hx hb dX11_reads16_36 (lv_at hl 4 rfl) ?_
          obtain ⟨hz, hf⟩ := nz hf
          refine xiald E hw 6 rfl hz dX11_reads16_38 ?_
          refine lv_i2l hx hb dX11_reads16_39 rfl ?_
          refine lv_ladd hx hb dX11_reads16_40 ?_
          refine lv_lstore_n (lv' := [(3, .long ((x3 * x2.toInt64) + ((digit x6.toNatClampNeg).toInt64))), (0, .ref (h 0)), (2, .int x2), (5, .int x5), (6, .int x6)]) hx hb dX11_reads16_41 rfl hl (by decide) rfl (fun ls hl => ?_)
          refine lv_aload_n hx hb dX11_reads16_42 rfl (lv_at hl 1 rfl) ?_
          refine xget (v := .ref (h 6)) E hw 0 rfl rfl 14 (by decide) inw11 qw1033 rfl rfl dX11_reads16_43 ?_
          refine lv_iload hx hb dX11_reads16_46 (lv_at hl 4 rfl) ?_
          obtain ⟨hz, hf⟩ := nz hf
          refine xiald E hw 6 rfl hz dX11_reads16_48 ?_
          refine lv_iload_n hx hb dX11_reads16_49 rfl (lv_at hl 2 rfl) ?_
          refine lv_icmp_ge (tgt := 65) hx hb dX11_reads16_50 (by decide) (fun c50 => ?_) (fun c50 => ?_)
          · replace hf := ip c50 hf
            exact b65 _ _ _ digit digitMany x2 ((x3 * x2.toInt64) + ((digit x6.toNatClampNeg).toInt64)) x6 hw (lv_sub hl [1, 2, 0, 4] rfl) hf
          · replace hf := iq c50 hf
            refine lv_lload_n hx hb dX11_reads16_53 rfl (lv_at hl 0 rfl) ?_
            refine lv_ldc2 hx hb hown (hts _ qw1434) dX11_reads16_54 ?_
            refine xlc_gt (tgt := 65) hx hb dX11_reads16_57 dX11_reads16_58 (by decide) (fun c57 => ?_) (fun c57 => ?_)
            · replace hf := ip c57 hf
              exact b65 _ _ _ digit digitMany x2 ((x3 * x2.toInt64) + ((digit x6.toNatClampNeg).toInt64)) x6 hw (lv_sub hl [1, 2, 0, 4] rfl) hf
            · replace hf := iq c57 hf
              refine lv_iconst (v := 1) hx hb dX11_reads16_61 (by decide) ?_
              refine lv_goto (tgt := 66) hx hb dX11_reads16_62 (by decide) ?_
              exact b66 _ _ _ digit digitMany x2 ((x3 * x2.toInt64) + ((digit x6.toNatClampNeg).toInt64)) x6 1 hw (lv_sub hl [1, 2, 0, 4] rfl) hf
  refine lv_lconst (v := 0) hx hb dX11_reads16_0 (by decide) ?_
  refine lv_lstore_n (lv' := [(3, .long 0), (0, .ref (h 0)), (1, .int a1), (2, .int a2)]) hx hb dX11_reads16_1 rfl hl (by decide) rfl (fun ls hl => ?_)
  refine lv_iconst (v := 1) hx hb dX11_reads16_2 (by decide) ?_
  refine lv_istore (lv' := [(5, .int 1), (3, .long 0), (0, .ref (h 0)), (1, .int a1), (2, .int a2)]) hx hb dX11_reads16_3 hl (by decide) rfl (fun ls hl => ?_)
  refine lv_aload_n hx hb dX11_reads16_5 rfl (lv_at hl 2 rfl) ?_
  refine lv_iload_n hx hb dX11_reads16_6 rfl (lv_at hl 3 rfl) ?_
  obtain ⟨v7, hv7, hf⟩ := ob_e hf
  refine xcallV (ws' := (wM g h thrown ss states stateMany snapshot hasSnapshot text length at_ isWell rd readMany top bottom v7.1 v7.2 other otherMany column columnMany carryMany chainMost)) (st1 := []) (n := 9) E hw [.int a1] [0, 1, 2, 3, 4, 5, 6, 7, 8] (met_X11_tellsDigits l g h thrown ss states stateMany snapshot hasSnapshot text length at_ isWell rd readMany top bottom digit digitMany other otherMany column columnMany carryMany chainMost a1 v7 hv7) rfl (by decide) rfl rfl [9, 10, 11, 12, 13, 14, 15, 16, 17] rfl (by decide +kernel) rfl rfl rfl rfl qw1309 k_X11_tellsDigits ⟨rfl, rfl, Nat.le_of_ble_eq_true rfl, Nat.le_of_ble_eq_true rfl⟩ ⟨Nat.zero_le _, Nat.zero_le _⟩ hl.1 (Nat.le_of_ble_eq_true rfl) dX11_reads16_7 rfl (fun H locs hw => ?_)
  refine lv_aload_n hx hb dX11_reads16_10 rfl (lv_at hl 2 rfl) ?_
  refine xget (v := .int v7.2) E hw 0 rfl rfl 15 (by decide) inw11 qw1034 rfl rfl dX11_reads16_11 ?_
  refine lv_iconst (v := 1) hx hb dX11_reads16_14 (by decide) ?_
  refine lv_isub hx hb dX11_reads16_15 ?_
  refine lv_istore (lv' := [(6, .int (v7.2 - 1)), (5, .int 1), (3, .long 0), (0, .ref (h 0)), (1, .int a1), (2, .int a2)]) hx hb dX11_reads16_16 hl (by decide) rfl (fun ls hl => ?_)
  exact b18 xfuel _ _ _ v7.1 v7.2 a2 0 1 (v7.2 - 1) hw (lv_sub hl [3, 5, 2, 1, 0] rfl) hf
theorem k_X11_sumPeriod : xKV yX11_sumPeriod cX11_sumPeriod 3 (some .int) 2 := ⟨qw1446, qw60, qw74, qw1447, by decide +kernel, by decide +kernel, by decide +kernel⟩
set_option maxHeartbeats 4000000 in
set_option maxRecDepth 100000 in
theorem met_X11_sumPeriod (l : Launch) (g : xG) (h : Nat → Nat) (thrown : Int32) (ss : (Nat → Int32)) (states : (Nat → Int32)) (stateMany : Int32) (snapshot : (Nat → Int32)) (hasSnapshot : Int32) (text : (Nat → Int32)) (length : Int32) (at_ : Int32) (isWell : Int32) (rd : (Nat → Int32)) (readMany : Int32) (top : Int64) (bottom : Int64) (digit : (Nat → Int32)) (digitMany : Int32) (other : (Nat → Int32)) (otherMany : Int32) (column : (Nat → Int32)) (columnMany : Int32) (carryMany : Int32) (chainMost : Int32) (a1 : Int32) (a2 : Int32) (out : Int32 × Int64 × Int64) (hf : f_X11_sumPeriod ss top bottom a1 a2 = some out) : xM l yX11_sumPeriod (xC yX11_sumPeriod cX11_sumPeriod 3 (some .int)) { frames := 3, cells := 0, slots := 0, locals := 78 } g (wM g h thrown ss states stateMany snapshot hasSnapshot text length at_ isWell rd readMany top bottom digit digitMany other otherMany column columnMany carryMany chainMost) [.ref (h 0), .int a1, .int a2] (some (.int out.1)) (wM g h thrown ss states stateMany snapshot hasSnapshot text length at_ isWell rd readMany out.2.1 out.2.2 digit digitMany other otherMany column columnMany carryMany chainMost) := by
  refine xof (by decide) (Nat.le_of_ble_eq_true rfl) ⟨rfl, rfl⟩ ?_
  intro p e s m below meth c A ls E hr hlocks hw hl hpost hAe
  have hx := E.1.1
  have hb := E.1.2.1
  have hown := E.1.2.2.2.1
  have hts := E.1.2.2.2.2
  generalize hZ : (MQ below (xPost g (wM g h thrown ss states stateMany snapshot hasSnapshot text length at_ isWell rd readMany top bottom digit digitMany other otherMany column columnMany carryMany chainMost) (wM g h thrown ss states stateMany snapshot hasSnapshot text length at_ isWell rd readMany out.2.1 out.2.2 digit digitMany other otherMany column columnMany carryMany chainMost) s.heap.size (some (.int out.1))) [.ref (h 0), .int a1, .int a2].toArray s 0 0 A) = ZZ
  have hret : ∀ (pc : Nat) (H : Heap) (locs : List Loc) (ls : Array Slot) (v : Int32) (ctop : Int64) (cbottom : Int64), (v, ctop, cbottom) = out → decode cX11_sumPeriod pc = .ok (.ireturn, 1) → xW g A s.heap (wM g h thrown ss states stateMany snapshot hasSnapshot text length at_ isWell rd readMany ctop cbottom digit digitMany other otherMany column columnMany carryMany chainMost) H locs → W p l e { frames := 3, cells := 0, slots := 0, locals := 78 } s m [.ref (h 0), .int a1, .int a2].toArray below meth c H locs 0 0 ZZ (F0 m pc ls [.int v]) := by
    intro pc H locs ls v ctop cbottom he hd hw
    subst he
    rw [← hZ]
    exact W.iret hx hb hr (hpost H locs hw).1 (hpost H locs hw).2 hd hlocks
  clear hpost
  refine lv_aload_n hx hb dX11_sumPeriod_0 rfl (lv_at hl 0 rfl) ?_
  refine lv_iload_n hx hb dX11_sumPeriod_1 rfl (lv_at hl 1 rfl) ?_
  refine lv_iload_n hx hb dX11_sumPeriod_2 rfl (lv_at hl 2 rfl) ?_
  refine lv_iconst (v := 1) hx hb dX11_sumPeriod_3 (by decide) ?_
  obtain ⟨v4, hv4, hf⟩ := ob_e hf
  refine xcallV (ws' := (wM g h thrown ss states stateMany snapshot hasSnapshot text length at_ isWell rd readMany v4.2.1 v4.2.2 digit digitMany other otherMany column columnMany carryMany chainMost)) (st1 := [.int v4.1]) (n := 9) E hw [.int a1, .int a2, .int 1] [0, 1, 2, 3, 4, 5, 6, 7, 8] (met_X11_makesSum l g h thrown ss states stateMany snapshot hasSnapshot text length at_ isWell rd readMany top bottom digit digitMany other otherMany column columnMany carryMany chainMost a1 a2 1 v4 hv4) rfl (by decide) rfl rfl [9, 10, 11, 12, 13, 14, 15, 16, 17] rfl (by decide +kernel) rfl rfl rfl rfl qw1140 k_X11_makesSum ⟨rfl, rfl, Nat.le_of_ble_eq_true rfl, Nat.le_of_ble_eq_true rfl⟩ ⟨Nat.zero_le _, Nat.zero_le _⟩ hl.1 (Nat.le_of_ble_eq_true rfl) dX11_sumPeriod_4 rfl (fun H locs hw => ?_)
  refine lv_pop hx hb dX11_sumPeriod_7 rfl ?_
  refine lv_aload_n hx hb dX11_sumPeriod_8 rfl (lv_at hl 0 rfl) ?_
  refine xget (v := .long v4.2.2) E hw 0 rfl rfl 13 (by decide) inw11 qw1032 rfl rfl dX11_sumPeriod_9 ?_
  refine lv_l2i hx hb dX11_sumPeriod_12 rfl ?_
  refine lv_aload_n hx hb dX11_sumPeriod_13 rfl (lv_at hl 0 rfl) ?_
  refine xget (v := .ref (h 1)) E hw 0 rfl rfl 1 (by decide) inw11 qw1020 rfl rfl dX11_sumPeriod_14 ?_
  refine lv_iconst (v := 0) hx hb dX11_sumPeriod_17 (by decide) ?_
  refine xiald E hw 1 rfl (by decide) dX11_sumPeriod_18 ?_
  obtain ⟨v19, hv19, hf⟩ := ob_e hf
  refine xcallS (ws' := (wM g h thrown ss states stateMany snapshot hasSnapshot text length at_ isWell rd readMany v4.2.1 v4.2.2 digit digitMany other otherMany column columnMany carryMany chainMost)) (st1 := [.int v19]) (n := 9) E hw [.int v4.2.2.toInt32, .int (ss (0 : Int32).toNatClampNeg)] [] (met_X11_periodOf l g v4.2.2.toInt32 (ss (0 : Int32).toNatClampNeg) v19 hv19) rfl (by decide) rfl rfl [0, 1, 2, 3, 4, 5, 6, 7, 8] rfl (by decide +kernel) rfl qw1360 k_X11_periodOf ⟨rfl, rfl, Nat.le_of_ble_eq_true rfl, Nat.le_of_ble_eq_true rfl⟩ ⟨Nat.zero_le _, Nat.zero_le _⟩ hl.1 (Nat.le_of_ble_eq_true rfl) dX11_sumPeriod_19 rfl (fun H locs hw => ?_)
  exact hret _ _ _ _ _ _ _ (Option.some.inj hf) dX11_sumPeriod_22 hw
theorem k_X11_setBase : xKV yX11_setBase cX11_setBase 3 (some .int) 1 := ⟨qw1091, qw1092, qw74, qw1093, by decide +kernel, by decide +kernel, by decide +kernel⟩
set_option maxHeartbeats 4000000 in
set_option maxRecDepth 100000 in
theorem met_X11_setBase (l : Launch) (g : xG) (h : Nat → Nat) (thrown : Int32) (ss : (Nat → Int32)) (states : (Nat → Int32)) (stateMany : Int32) (snapshot : (Nat → Int32)) (hasSnapshot : Int32) (text : (Nat → Int32)) (length : Int32) (at_ : Int32) (isWell : Int32) (rd : (Nat → Int32)) (readMany : Int32) (top : Int64) (bottom : Int64) (digit : (Nat → Int32)) (digitMany : Int32) (other : (Nat → Int32)) (otherMany : Int32) (column : (Nat → Int32)) (columnMany : Int32) (carryMany : Int32) (chainMost : Int32) (a1 : Int32) (out : Int32 × Int32 × (Nat → Int32) × (Nat → Int32) × Int32) (hf : f_X11_setBase thrown ss states stateMany a1 = some out) : xM l yX11_setBase (xC yX11_setBase cX11_setBase 3 (some .int)) { frames := 2, cells := 0, slots := 0, locals := 42 } g (wM g h thrown ss states stateMany snapshot hasSnapshot text length at_ isWell rd readMany top bottom digit digitMany other otherMany column columnMany carryMany chainMost) [.ref (h 0), .int a1] (some (.int out.1)) (wM g h out.2.1 out.2.2.1 out.2.2.2.1 out.2.2.2.2 snapshot hasSnapshot text length at_ isWell rd readMany top bottom digit digitMany other otherMany column columnMany carryMany chainMost) := by
  refine xof (by decide) (Nat.le_of_ble_eq_true rfl) ⟨rfl, rfl⟩ ?_
  intro p e s m below meth c A ls E hr hlocks hw hl hpost hAe
  have hx := E.1.1
  have hb := E.1.2.1
  have hown := E.1.2.2.2.1
  have hts := E.1.2.2.2.2
  generalize hZ : (MQ below (xPost g (wM g h thrown ss states stateMany snapshot hasSnapshot text length at_ isWell rd readMany top bottom digit digitMany other otherMany column columnMany carryMany chainMost) (wM g h out.2.1 out.2.2.1 out.2.2.2.1 out.2.2.2.2 snapshot hasSnapshot text length at_ isWell rd readMany top bottom digit digitMany other otherMany column columnMany carryMany chainMost) s.heap.size (some (.int out.1))) [.ref (h 0), .int a1].toArray s 0 0 A) = ZZ
  have hret : ∀ (pc : Nat) (H : Heap) (locs : List Loc) (ls : Array Slot) (v : Int32) (cthrown : Int32) (css : (Nat → Int32)) (cstates : (Nat → Int32)) (cstateMany : Int32), (v, cthrown, css, cstates, cstateMany) = out → decode cX11_setBase pc = .ok (.ireturn, 1) → xW g A s.heap (wM g h cthrown css cstates cstateMany snapshot hasSnapshot text length at_ isWell rd readMany top bottom digit digitMany other otherMany column columnMany carryMany chainMost) H locs → W p l e { frames := 2, cells := 0, slots := 0, locals := 42 } s m [.ref (h 0), .int a1].toArray below meth c H locs 0 0 ZZ (F0 m pc ls [.int v]) := by
    intro pc H locs ls v cthrown css cstates cstateMany he hd hw
    subst he
    rw [← hZ]
    exact W.iret hx hb hr (hpost H locs hw).1 (hpost H locs hw).2 hd hlocks
  clear hpost
  refine lv_aload_n hx hb dX11_setBase_0 rfl (lv_at hl 0 rfl) ?_
  refine lv_iconst (v := 0) hx hb dX11_setBase_1 (by decide) ?_
  refine xput (ws' := (wM g h 0 ss states stateMany snapshot hasSnapshot text length at_ isWell rd readMany top bottom digit digitMany other otherMany column columnMany carryMany chainMost)) E hw 0 rfl rfl 0 (by decide) inw11 tyX11_ok nmX11 qw1019 rfl rfl rfl rfl (Nat.le_of_ble_eq_true rfl) dX11_setBase_2 rfl (fun H locs hw => ?_)
  refine lv_iload_n hx hb dX11_setBase_5 rfl (lv_at hl 1 rfl) ?_
  obtain ⟨v6, hv6, hf⟩ := ob_e hf
  refine xcallS (ws' := (wM g h 0 ss states stateMany snapshot hasSnapshot text length at_ isWell rd readMany top bottom digit digitMany other otherMany column columnMany carryMany chainMost)) (st1 := [.int v6]) (n := 9) E hw [.int a1] [] (met_X11_isBase l g a1 v6 hv6) rfl (by decide) rfl rfl [0, 1, 2, 3, 4, 5, 6, 7, 8] rfl (by decide +kernel) rfl qw1094 k_X11_isBase ⟨rfl, rfl, Nat.le_of_ble_eq_true rfl, Nat.le_of_ble_eq_true rfl⟩ ⟨Nat.zero_le _, Nat.zero_le _⟩ hl.1 (Nat.le_of_ble_eq_true rfl) dX11_setBase_6 rfl (fun H locs hw => ?_)
  refine lv_if_ne (tgt := 18) hx hb dX11_setBase_9 (by decide) (fun c9 => ?_) (fun c9 => ?_)
  · replace hf := iq c9 hf
    refine lv_aload_n hx hb dX11_setBase_18 rfl (lv_at hl 0 rfl) ?_
    obtain ⟨v19, hv19, hf⟩ := ob_e hf
    refine xcallV (ws' := (wM g h 0 ss v19.1 v19.2 snapshot hasSnapshot text length at_ isWell rd readMany top bottom digit digitMany other otherMany column columnMany carryMany chainMost)) (st1 := []) (n := 9) E hw [] [0, 1, 2, 3, 4, 5, 6, 7, 8] (met_X11_records l g h 0 ss states stateMany snapshot hasSnapshot text length at_ isWell rd readMany top bottom digit digitMany other otherMany column columnMany carryMany chainMost v19 hv19) rfl (by decide) rfl rfl [9, 10, 11, 12, 13, 14, 15, 16, 17] rfl (by decide +kernel) rfl rfl rfl rfl qw1104 k_X11_records ⟨rfl, rfl, Nat.le_of_ble_eq_true rfl, Nat.le_of_ble_eq_true rfl⟩ ⟨Nat.zero_le _, Nat.zero_le _⟩ hl.1 (Nat.le_of_ble_eq_true rfl) dX11_setBase_19 rfl (fun H locs hw => ?_)
    refine lv_aload_n hx hb dX11_setBase_22 rfl (lv_at hl 0 rfl) ?_
    refine xget (v := .ref (h 1)) E hw 0 rfl rfl 1 (by decide) inw11 qw1020 rfl rfl dX11_setBase_23 ?_
    refine lv_iconst (v := 0) hx hb dX11_setBase_26 (by decide) ?_
    refine xiald E hw 1 rfl (by decide) dX11_setBase_27 ?_
    refine lv_istore_n (lv' := [(2, .int (ss (0 : Int32).toNatClampNeg)), (0, .ref (h 0)), (1, .int a1)]) hx hb dX11_setBase_28 rfl hl (by decide) rfl (fun ls hl => ?_)
    refine lv_aload_n hx hb dX11_setBase_29 rfl (lv_at hl 1 rfl) ?_
    refine xget (v := .ref (h 1)) E hw 0 rfl rfl 1 (by decide) inw11 qw1020 rfl rfl dX11_setBase_30 ?_
    refine lv_iconst (v := 0) hx hb dX11_setBase_33 (by decide) ?_
    refine lv_iload_n hx hb dX11_setBase_34 rfl (lv_at hl 2 rfl) ?_
    refine xiast (ws' := (wM g h 0 (upd ss (0 : Int32).toNatClampNeg a1) v19.1 v19.2 snapshot hasSnapshot text length at_ isWell rd readMany top bottom digit digitMany other otherMany column columnMany carryMany chainMost)) E hw 1 rfl (by decide) dX11_setBase_35 rfl (fun H locs hw => ?_)
    refine lv_iload_n hx hb dX11_setBase_36 rfl (lv_at hl 0 rfl) ?_
    exact hret _ _ _ _ _ _ _ _ _ (Option.some.inj hf) dX11_setBase_37 hw
  · replace hf := ip c9 hf
    refine lv_aload_n hx hb dX11_setBase_12 rfl (lv_at hl 0 rfl) ?_
    refine lv_iconst (v := 1) hx hb dX11_setBase_13 (by decide) ?_
    obtain ⟨v14, hv14, hf⟩ := ob_e hf
    refine xcallV (ws' := (wM g h v14.2 ss states stateMany snapshot hasSnapshot text length at_ isWell rd readMany top bottom digit digitMany other otherMany column columnMany carryMany chainMost)) (st1 := [.int v14.1]) (n := 9) E hw [.int 1] [0, 1, 2, 3, 4, 5, 6, 7, 8] (met_X11_fails l g h 0 ss states stateMany snapshot hasSnapshot text length at_ isWell rd readMany top bottom digit digitMany other otherMany column columnMany carryMany chainMost 1 v14 hv14) rfl (by decide) rfl rfl [9, 10, 11, 12, 13, 14, 15, 16, 17] rfl (by decide +kernel) rfl rfl rfl rfl qw1100 k_X11_fails ⟨rfl, rfl, Nat.le_of_ble_eq_true rfl, Nat.le_of_ble_eq_true rfl⟩ ⟨Nat.zero_le _, Nat.zero_le _⟩ hl.1 (Nat.le_of_ble_eq_true rfl) dX11_setBase_14 rfl (fun H locs hw => ?_)
    exact hret _ _ _ _ _ _ _ _ _ (Option.some.inj hf) dX11_setBase_17 hw
theorem k_X11_setFraction : xKV yX11_setFraction cX11_setFraction 4 (some .int) 3 := ⟨qw1109, qw1110, qw74, qw1111, by decide +kernel, by decide +kernel, by decide +kernel⟩
set_option maxHeartbeats 4000000 in
set_option maxRecDepth 100000 in
theorem met_X11_setFraction (l : Launch) (g : xG) (h : Nat → Nat) (thrown : Int32) (ss : (Nat → Int32)) (states : (Nat → Int32)) (stateMany : Int32) (snapshot : (Nat → Int32)) (hasSnapshot : Int32) (text : (Nat → Int32)) (length : Int32) (at_ : Int32) (isWell : Int32) (rd : (Nat → Int32)) (readMany : Int32) (top : Int64) (bottom : Int64) (digit : (Nat → Int32)) (digitMany : Int32) (other : (Nat → Int32)) (otherMany : Int32) (column : (Nat → Int32)) (columnMany : Int32) (carryMany : Int32) (chainMost : Int32) (a1 : Int32) (a2 : Int32) (a3 : Int32) (out : Int32 × Int32 × (Nat → Int32) × (Nat → Int32) × Int32 × Int64 × Int64) (hf : f_X11_setFraction thrown ss states stateMany top bottom a1 a2 a3 = some out) : xM l yX11_setFraction (xC yX11_setFraction cX11_setFraction 4 (some .int)) { frames := 2, cells := 0, slots := 0, locals := 55 } g (wM g h thrown ss states stateMany snapshot hasSnapshot text length at_ isWell rd readMany top bottom digit digitMany other otherMany column columnMany carryMany chainMost) [.ref (h 0), .int a1, .int a2, .int a3] (some (.int out.1)) (wM g h out.2.1 out.2.2.1 out.2.2.2.1 out.2.2.2.2.1 snapshot hasSnapshot text length at_ isWell rd readMany out.2.2.2.2.2.1 out.2.2.2.2.2.2 digit digitMany other otherMany column columnMany carryMany chainMost) := by
  refine xof (by decide) (Nat.le_of_ble_eq_true rfl) ⟨rfl, rfl⟩ ?_
  intro p e s m below meth c A ls E hr hlocks hw hl hpost hAe
  have hx := E.1.1
  have hb := E.1.2.1
  have hown := E.1.2.2.2.1
  have hts := E.1.2.2.2.2
  generalize hZ : (MQ below (xPost g (wM g h thrown ss states stateMany snapshot hasSnapshot text length at_ isWell rd readMany top bottom digit digitMany other otherMany column columnMany carryMany chainMost) (wM g h out.2.1 out.2.2.1 out.2.2.2.1 out.2.2.2.2.1 snapshot hasSnapshot text length at_ isWell rd readMany out.2.2.2.2.2.1 out.2.2.2.2.2.2 digit digitMany other otherMany column columnMany carryMany chainMost) s.heap.size (some (.int out.1))) [.ref (h 0), .int a1, .int a2, .int a3].toArray s 0 0 A) = ZZ
  have hret : ∀ (pc : Nat) (H : Heap) (locs : List Loc) (ls : Array Slot) (v : Int32) (cthrown : Int32) (css : (Nat → Int32)) (cstates : (Nat → Int32)) (cstateMany : Int32) (ctop : Int64) (cbottom : Int64), (v, cthrown, css, cstates, cstateMany, ctop, cbottom) = out → decode cX11_setFraction pc = .ok (.ireturn, 1) → xW g A s.heap (wM g h cthrown css cstates cstateMany snapshot hasSnapshot text length at_ isWell rd readMany ctop cbottom digit digitMany other otherMany column columnMany carryMany chainMost) H locs → W p l e { frames := 2, cells := 0, slots := 0, locals := 55 } s m [.ref (h 0), .int a1, .int a2, .int a3].toArray below meth c H locs 0 0 ZZ (F0 m pc ls [.int v]) := by
    intro pc H locs ls v cthrown css cstates cstateMany ctop cbottom he hd hw
    subst he
    rw [← hZ]
    exact W.iret hx hb hr (hpost H locs hw).1 (hpost H locs hw).2 hd hlocks
  clear hpost
  have b39 : ∀ (H : Heap) (locs : List Loc) (ls : Array Slot) (thrown : Int32) (ss : (Nat → Int32)) (states : (Nat → Int32)) (stateMany : Int32) (top : Int64) (bottom : Int64), xW g A s.heap (wM g h thrown ss states stateMany snapshot hasSnapshot text length at_ isWell rd readMany top bottom digit digitMany other otherMany column columnMany carryMany chainMost) H locs → lv_has ls 4 [(0, .ref (h 0))] → f_X11_setFraction_b39 thrown ss states stateMany top bottom = some out → W p l e { frames := 2, cells := 0, slots := 0, locals := 55 } s m [.ref (h 0), .int a1, .int a2, .int a3].toArray below meth c H locs 0 0 ZZ (F0 m 39 ls []) := by
    intro H locs ls thrown ss states stateMany top bottom hw hl hf
    refine lv_aload_n hx hb dX11_setFraction_39 rfl (lv_at hl 0 rfl) ?_
    refine lv_iconst (v := 2) hx hb dX11_setFraction_40 (by decide) ?_
    obtain ⟨v41, hv41, hf⟩ := ob_e hf
    refine xcallV (ws' := (wM g h v41.2 ss states stateMany snapshot hasSnapshot text length at_ isWell rd readMany top bottom digit digitMany other otherMany column columnMany carryMany chainMost)) (st1 := [.int v41.1]) (n := 9) E hw [.int 2] [0, 1, 2, 3, 4, 5, 6, 7, 8] (met_X11_fails l g h thrown ss states stateMany snapshot hasSnapshot text length at_ isWell rd readMany top bottom digit digitMany other otherMany column columnMany carryMany chainMost 2 v41 hv41) rfl (by decide) rfl rfl [9, 10, 11, 12, 13, 14, 15, 16, 17] rfl (by decide +kernel) rfl rfl rfl rfl qw1100 k_X11_fails ⟨rfl, rfl, Nat.le_of_ble_eq_true rfl, Nat.le_of_ble_eq_true rfl⟩ ⟨Nat.zero_le _, Nat.zero_le _⟩ hl.1 (Nat.le_of_ble_eq_true rfl) dX11_setFraction_41 rfl (fun H locs hw => ?_)
    exact hret _ _ _ _ _ _ _ _ _ _ _ (Option.some.inj hf) dX11_setFraction_44 hw
  refine lv_aload_n hx hb dX11_setFraction_0 rfl (lv_at hl 0 rfl) ?_
  refine lv_iconst (v := 0) hx hb dX11_setFraction_1 (by decide) ?_
  refine xput (ws' := (wM g h 0 ss states stateMany snapshot hasSnapshot text length at_ isWell rd readMany top bottom digit digitMany other otherMany column columnMany carryMany chainMost)) E hw 0 rfl rfl 0 (by decide) inw11 tyX11_ok nmX11 qw1019 rfl rfl rfl rfl (Nat.le_of_ble_eq_true rfl) dX11_setFraction_2 rfl (fun H locs hw => ?_)
  refine lv_iload_n hx hb dX11_setFraction_5 rfl (lv_at hl 1 rfl) ?_
  obtain ⟨v6, hv6, hf⟩ := ob_e hf
  refine xcallS (ws' := (wM g h 0 ss states stateMany snapshot hasSnapshot text length at_ isWell rd readMany top bottom digit digitMany other otherMany column columnMany carryMany chainMost)) (st1 := [.int v6]) (n := 9) E hw [.int a1] [] (met_X11_isAccount l g a1 v6 hv6) rfl (by decide) rfl rfl [0, 1, 2, 3, 4, 5, 6, 7, 8] rfl (by decide +kernel) rfl qw1112 k_X11_isAccount ⟨rfl, rfl, Nat.le_of_ble_eq_true rfl, Nat.le_of_ble_eq_true rfl⟩ ⟨Nat.zero_le _, Nat.zero_le _⟩ hl.1 (Nat.le_of_ble_eq_true rfl) dX11_setFraction_6 rfl (fun H locs hw => ?_)
  refine lv_if_ne (tgt := 18) hx hb dX11_setFraction_9 (by decide) (fun c9 => ?_) (fun c9 => ?_)
  · replace hf := iq c9 hf
    refine lv_iload_n hx hb dX11_setFraction_18 rfl (lv_at hl 2 rfl) ?_
    refine lv_iconst (v := 0) hx hb dX11_setFraction_19 (by decide) ?_
    refine lv_ldc hx hb hown (hts _ qw1115) dX11_setFraction_20 ?_
    obtain ⟨v22, hv22, hf⟩ := ob_e hf
    refine xcallS (ws' := (wM g h 0 ss states stateMany snapshot hasSnapshot text length at_ isWell rd readMany top bottom digit digitMany other otherMany column columnMany carryMany chainMost)) (st1 := [.int v22]) (n := 9) E hw [.int a2, .int 0, .int 999999999] [] (met_X11_in l g a2 0 999999999 v22 hv22) rfl (by decide) rfl rfl [0, 1, 2, 3, 4, 5, 6, 7, 8] rfl (by decide +kernel) rfl qw1097 k_X11_in ⟨rfl, rfl, Nat.le_of_ble_eq_true rfl, Nat.le_of_ble_eq_true rfl⟩ ⟨Nat.zero_le _, Nat.zero_le _⟩ hl.1 (Nat.le_of_ble_eq_true rfl) dX11_setFraction_22 rfl (fun H locs hw => ?_)
    refine lv_if_eq (tgt := 39) hx hb dX11_setFraction_25 (by decide) (fun c25 => ?_) (fun c25 => ?_)
    · replace hf := ip c25 hf
      exact b39 _ _ _ 0 ss states stateMany top bottom hw (lv_sub hl [0] rfl) hf
    · replace hf := iq c25 hf
      refine lv_iload_n hx hb dX11_setFraction_28 rfl (lv_at hl 3 rfl) ?_
      refine lv_iconst (v := 1) hx hb dX11_setFraction_29 (by decide) ?_
      refine lv_sipush (v := 999) hx hb dX11_setFraction_30 (by decide) ?_
      obtain ⟨v33, hv33, hf⟩ := ob_e hf
      refine xcallS (ws' := (wM g h 0 ss states stateMany snapshot hasSnapshot text length at_ isWell rd readMany top bottom digit digitMany other otherMany column columnMany carryMany chainMost)) (st1 := [.int v33]) (n := 9) E hw [.int a3, .int 1, .int 999] [] (met_X11_in l g a3 1 999 v33 hv33) rfl (by decide) rfl rfl [0, 1, 2, 3, 4, 5, 6, 7, 8] rfl (by decide +kernel) rfl qw1097 k_X11_in ⟨rfl, rfl, Nat.le_of_ble_eq_true rfl, Nat.le_of_ble_eq_true rfl⟩ ⟨Nat.zero_le _, Nat.zero_le _⟩ hl.1 (Nat.le_of_ble_eq_true rfl) dX11_setFraction_33 rfl (fun H locs hw => ?_)
      refine lv_if_ne (tgt := 45) hx hb dX11_setFraction_36 (by decide) (fun c36 => ?_) (fun c36 => ?_)
      · replace hf := iq c36 hf
        refine lv_aload_n hx hb dX11_setFraction_45 rfl (lv_at hl 0 rfl) ?_
        obtain ⟨v46, hv46, hf⟩ := ob_e hf
        refine xcallV (ws' := (wM g h 0 ss v46.1 v46.2 snapshot hasSnapshot text length at_ isWell rd readMany top bottom digit digitMany other otherMany column columnMany carryMany chainMost)) (st1 := []) (n := 9) E hw [] [0, 1, 2, 3, 4, 5, 6, 7, 8] (met_X11_records l g h 0 ss states stateMany snapshot hasSnapshot text length at_ isWell rd readMany top bottom digit digitMany other otherMany column columnMany carryMany chainMost v46 hv46) rfl (by decide) rfl rfl [9, 10, 11, 12, 13, 14, 15, 16, 17] rfl (by decide +kernel) rfl rfl rfl rfl qw1104 k_X11_records ⟨rfl, rfl, Nat.le_of_ble_eq_true rfl, Nat.le_of_ble_eq_true rfl⟩ ⟨Nat.zero_le _, Nat.zero_le _⟩ hl.1 (Nat.le_of_ble_eq_true rfl) dX11_setFraction_46 rfl (fun H locs hw => ?_)
        refine lv_aload_n hx hb dX11_setFraction_49 rfl (lv_at hl 0 rfl) ?_
        refine lv_iload_n hx hb dX11_setFraction_50 rfl (lv_at hl 2 rfl) ?_
        refine lv_i2l hx hb dX11_setFraction_51 rfl ?_
        refine lv_iload_n hx hb dX11_setFraction_52 rfl (lv_at hl 3 rfl) ?_
        refine lv_i2l hx hb dX11_setFraction_53 rfl ?_
        obtain ⟨v54, hv54, hf⟩ := ob_e hf
        refine xcallV (ws' := (wM g h 0 ss v46.1 v46.2 snapshot hasSnapshot text length at_ isWell rd readMany v54.2.1 v54.2.2 digit digitMany other otherMany column columnMany carryMany chainMost)) (st1 := [.int v54.1]) (n := 9) E hw [.long a2.toInt64, .long a3.toInt64] [0, 1, 2, 3, 4, 5, 6, 7, 8] (met_X11_makes l g h 0 ss v46.1 v46.2 snapshot hasSnapshot text length at_ isWell rd readMany top bottom digit digitMany other otherMany column columnMany carryMany chainMost a2.toInt64 a3.toInt64 v54 hv54) rfl (by decide) rfl rfl [9, 10, 11, 12, 13, 14, 15, 16, 17] rfl (by decide +kernel) rfl rfl rfl rfl qw1116 k_X11_makes ⟨rfl, rfl, Nat.le_of_ble_eq_true rfl, Nat.le_of_ble_eq_true rfl⟩ ⟨Nat.zero_le _, Nat.zero_le _⟩ hl.1 (Nat.le_of_ble_eq_true rfl) dX11_setFraction_54 rfl (fun H locs hw => ?_)
        refine lv_pop hx hb dX11_setFraction_57 rfl ?_
        refine lv_aload_n hx hb dX11_setFraction_58 rfl (lv_at hl 0 rfl) ?_
        refine lv_iload_n hx hb dX11_setFraction_59 rfl (lv_at hl 1 rfl) ?_
        obtain ⟨v60, hv60, hf⟩ := ob_e hf
        refine xcallV (ws' := (wM g h 0 v60 v46.1 v46.2 snapshot hasSnapshot text length at_ isWell rd readMany v54.2.1 v54.2.2 digit digitMany other otherMany column columnMany carryMany chainMost)) (st1 := []) (n := 9) E hw [.int a1] [0, 1, 2, 3, 4, 5, 6, 7, 8] (met_X11_puts l g h 0 ss v46.1 v46.2 snapshot hasSnapshot text length at_ isWell rd readMany v54.2.1 v54.2.2 digit digitMany other otherMany column columnMany carryMany chainMost a1 v60 hv60) rfl (by decide) rfl rfl [9, 10, 11, 12, 13, 14, 15, 16, 17] rfl (by decide +kernel) rfl rfl rfl rfl qw1125 k_X11_puts ⟨rfl, rfl, Nat.le_of_ble_eq_true rfl, Nat.le_of_ble_eq_true rfl⟩ ⟨Nat.zero_le _, Nat.zero_le _⟩ hl.1 (Nat.le_of_ble_eq_true rfl) dX11_setFraction_60 rfl (fun H locs hw => ?_)
        refine lv_aload_n hx hb dX11_setFraction_63 rfl (lv_at hl 0 rfl) ?_
        refine lv_iload_n hx hb dX11_setFraction_64 rfl (lv_at hl 1 rfl) ?_
        obtain ⟨v65, hv65, hf⟩ := ob_e hf
        refine xcallV (ws' := (wM g h 0 v60 v46.1 v46.2 snapshot hasSnapshot text length at_ isWell rd readMany v54.2.1 v54.2.2 digit digitMany other otherMany column columnMany carryMany chainMost)) (st1 := [.int v65]) (n := 9) E hw [.int a1] [0, 1, 2, 3, 4, 5, 6, 7, 8] (met_X11_down l g h 0 v60 v46.1 v46.2 snapshot hasSnapshot text length at_ isWell rd readMany v54.2.1 v54.2.2 digit digitMany other otherMany column columnMany carryMany chainMost a1 v65 hv65) rfl (by decide) rfl rfl [9, 10, 11, 12, 13, 14, 15, 16, 17] rfl (by decide +kernel) rfl rfl rfl rfl qw1129 k_X11_down ⟨rfl, rfl, Nat.le_of_ble_eq_true rfl, Nat.le_of_ble_eq_true rfl⟩ ⟨Nat.zero_le _, Nat.zero_le _⟩ hl.1 (Nat.le_of_ble_eq_true rfl) dX11_setFraction_65 rfl (fun H locs hw => ?_)
        exact hret _ _ _ _ _ _ _ _ _ _ _ (Option.some.inj hf) dX11_setFraction_68 hw
      · replace hf := ip c36 hf
        exact b39 _ _ _ 0 ss states stateMany top bottom hw (lv_sub hl [0] rfl) hf
  · replace hf := ip c9 hf
    refine lv_aload_n hx hb dX11_setFraction_12 rfl (lv_at hl 0 rfl) ?_
    refine lv_iconst (v := 1) hx hb dX11_setFraction_13 (by decide) ?_
    obtain ⟨v14, hv14, hf⟩ := ob_e hf
    refine xcallV (ws' := (wM g h v14.2 ss states stateMany snapshot hasSnapshot text length at_ isWell rd readMany top bottom digit digitMany other otherMany column columnMany carryMany chainMost)) (st1 := [.int v14.1]) (n := 9) E hw [.int 1] [0, 1, 2, 3, 4, 5, 6, 7, 8] (met_X11_fails l g h 0 ss states stateMany snapshot hasSnapshot text length at_ isWell rd readMany top bottom digit digitMany other otherMany column columnMany carryMany chainMost 1 v14 hv14) rfl (by decide) rfl rfl [9, 10, 11, 12, 13, 14, 15, 16, 17] rfl (by decide +kernel) rfl rfl rfl rfl qw1100 k_X11_fails ⟨rfl, rfl, Nat.le_of_ble_eq_true rfl, Nat.le_of_ble_eq_true rfl⟩ ⟨Nat.zero_le _, Nat.zero_le _⟩ hl.1 (Nat.le_of_ble_eq_true rfl) dX11_setFraction_14 rfl (fun H locs hw => ?_)
    exact hret _ _ _ _ _ _ _ _ _ _ _ (Option.some.inj hf) dX11_setFraction_17 hw
theorem k_X11_add : xKV yX11_add cX11_add 3 (some .int) 2 := ⟨qw1134, qw1135, qw74, qw1136, by decide +kernel, by decide +kernel, by decide +kernel⟩
set_option maxHeartbeats 4000000 in
set_option maxRecDepth 100000 in
theorem met_X11_add (l : Launch) (g : xG) (h : Nat → Nat) (thrown : Int32) (ss : (Nat → Int32)) (states : (Nat → Int32)) (stateMany : Int32) (snapshot : (Nat → Int32)) (hasSnapshot : Int32) (text : (Nat → Int32)) (length : Int32) (at_ : Int32) (isWell : Int32) (rd : (Nat → Int32)) (readMany : Int32) (top : Int64) (bottom : Int64) (digit : (Nat → Int32)) (digitMany : Int32) (other : (Nat → Int32)) (otherMany : Int32) (column : (Nat → Int32)) (columnMany : Int32) (carryMany : Int32) (chainMost : Int32) (a1 : Int32) (a2 : Int32) (out : Int32 × Int32 × (Nat → Int32) × (Nat → Int32) × Int32 × Int64 × Int64) (hf : f_X11_add thrown ss states stateMany top bottom a1 a2 = some out) : xM l yX11_add (xC yX11_add cX11_add 3 (some .int)) { frames := 3, cells := 0, slots := 0, locals := 78 } g (wM g h thrown ss states stateMany snapshot hasSnapshot text length at_ isWell rd readMany top bottom digit digitMany other otherMany column columnMany carryMany chainMost) [.ref (h 0), .int a1, .int a2] (some (.int out.1)) (wM g h out.2.1 out.2.2.1 out.2.2.2.1 out.2.2.2.2.1 snapshot hasSnapshot text length at_ isWell rd readMany out.2.2.2.2.2.1 out.2.2.2.2.2.2 digit digitMany other otherMany column columnMany carryMany chainMost) := by
  refine xof (by decide) (Nat.le_of_ble_eq_true rfl) ⟨rfl, rfl⟩ ?_
  intro p e s m below meth c A ls E hr hlocks hw hl hpost hAe
  have hx := E.1.1
  have hb := E.1.2.1
  have hown := E.1.2.2.2.1
  have hts := E.1.2.2.2.2
  generalize hZ : (MQ below (xPost g (wM g h thrown ss states stateMany snapshot hasSnapshot text length at_ isWell rd readMany top bottom digit digitMany other otherMany column columnMany carryMany chainMost) (wM g h out.2.1 out.2.2.1 out.2.2.2.1 out.2.2.2.2.1 snapshot hasSnapshot text length at_ isWell rd readMany out.2.2.2.2.2.1 out.2.2.2.2.2.2 digit digitMany other otherMany column columnMany carryMany chainMost) s.heap.size (some (.int out.1))) [.ref (h 0), .int a1, .int a2].toArray s 0 0 A) = ZZ
  have hret : ∀ (pc : Nat) (H : Heap) (locs : List Loc) (ls : Array Slot) (v : Int32) (cthrown : Int32) (css : (Nat → Int32)) (cstates : (Nat → Int32)) (cstateMany : Int32) (ctop : Int64) (cbottom : Int64), (v, cthrown, css, cstates, cstateMany, ctop, cbottom) = out → decode cX11_add pc = .ok (.ireturn, 1) → xW g A s.heap (wM g h cthrown css cstates cstateMany snapshot hasSnapshot text length at_ isWell rd readMany ctop cbottom digit digitMany other otherMany column columnMany carryMany chainMost) H locs → W p l e { frames := 3, cells := 0, slots := 0, locals := 78 } s m [.ref (h 0), .int a1, .int a2].toArray below meth c H locs 0 0 ZZ (F0 m pc ls [.int v]) := by
    intro pc H locs ls v cthrown css cstates cstateMany ctop cbottom he hd hw
    subst he
    rw [← hZ]
    exact W.iret hx hb hr (hpost H locs hw).1 (hpost H locs hw).2 hd hlocks
  clear hpost
  refine lv_aload_n hx hb dX11_add_0 rfl (lv_at hl 0 rfl) ?_
  refine lv_iconst (v := 0) hx hb dX11_add_1 (by decide) ?_
  refine xput (ws' := (wM g h 0 ss states stateMany snapshot hasSnapshot text length at_ isWell rd readMany top bottom digit digitMany other otherMany column columnMany carryMany chainMost)) E hw 0 rfl rfl 0 (by decide) inw11 tyX11_ok nmX11 qw1019 rfl rfl rfl rfl (Nat.le_of_ble_eq_true rfl) dX11_add_2 rfl (fun H locs hw => ?_)
  refine lv_iload_n hx hb dX11_add_5 rfl (lv_at hl 1 rfl) ?_
  refine lv_iload_n hx hb dX11_add_6 rfl (lv_at hl 2 rfl) ?_
  obtain ⟨v7, hv7, hf⟩ := ob_e hf
  refine xcallS (ws' := (wM g h 0 ss states stateMany snapshot hasSnapshot text length at_ isWell rd readMany top bottom digit digitMany other otherMany column columnMany carryMany chainMost)) (st1 := [.int v7]) (n := 9) E hw [.int a1, .int a2] [] (met_X11_areAccounts l g a1 a2 v7 hv7) rfl (by decide) rfl rfl [0, 1, 2, 3, 4, 5, 6, 7, 8] rfl (by decide +kernel) rfl qw1137 k_X11_areAccounts ⟨rfl, rfl, Nat.le_of_ble_eq_true rfl, Nat.le_of_ble_eq_true rfl⟩ ⟨Nat.zero_le _, Nat.zero_le _⟩ hl.1 (Nat.le_of_ble_eq_true rfl) dX11_add_7 rfl (fun H locs hw => ?_)
  refine lv_if_ne (tgt := 19) hx hb dX11_add_10 (by decide) (fun c10 => ?_) (fun c10 => ?_)
  · replace hf := iq c10 hf
    refine lv_aload_n hx hb dX11_add_19 rfl (lv_at hl 0 rfl) ?_
    refine lv_iload_n hx hb dX11_add_20 rfl (lv_at hl 1 rfl) ?_
    refine lv_iload_n hx hb dX11_add_21 rfl (lv_at hl 2 rfl) ?_
    refine lv_iconst (v := 1) hx hb dX11_add_22 (by decide) ?_
    obtain ⟨v23, hv23, hf⟩ := ob_e hf
    refine xcallV (ws' := (wM g h 0 ss states stateMany snapshot hasSnapshot text length at_ isWell rd readMany v23.2.1 v23.2.2 digit digitMany other otherMany column columnMany carryMany chainMost)) (st1 := [.int v23.1]) (n := 9) E hw [.int a1, .int a2, .int 1] [0, 1, 2, 3, 4, 5, 6, 7, 8] (met_X11_makesSum l g h 0 ss states stateMany snapshot hasSnapshot text length at_ isWell rd readMany top bottom digit digitMany other otherMany column columnMany carryMany chainMost a1 a2 1 v23 hv23) rfl (by decide) rfl rfl [9, 10, 11, 12, 13, 14, 15, 16, 17] rfl (by decide +kernel) rfl rfl rfl rfl qw1140 k_X11_makesSum ⟨rfl, rfl, Nat.le_of_ble_eq_true rfl, Nat.le_of_ble_eq_true rfl⟩ ⟨Nat.zero_le _, Nat.zero_le _⟩ hl.1 (Nat.le_of_ble_eq_true rfl) dX11_add_23 rfl (fun H locs hw => ?_)
    refine lv_if_le (tgt := 35) hx hb dX11_add_26 (by decide) (fun c26 => ?_) (fun c26 => ?_)
    · replace hf := ip c26 hf
      refine lv_aload_n hx hb dX11_add_35 rfl (lv_at hl 0 rfl) ?_
      obtain ⟨v36, hv36, hf⟩ := ob_e hf
      refine xcallV (ws' := (wM g h 0 ss v36.1 v36.2 snapshot hasSnapshot text length at_ isWell rd readMany v23.2.1 v23.2.2 digit digitMany other otherMany column columnMany carryMany chainMost)) (st1 := []) (n := 9) E hw [] [0, 1, 2, 3, 4, 5, 6, 7, 8] (met_X11_records l g h 0 ss states stateMany snapshot hasSnapshot text length at_ isWell rd readMany v23.2.1 v23.2.2 digit digitMany other otherMany column columnMany carryMany chainMost v36 hv36) rfl (by decide) rfl rfl [9, 10, 11, 12, 13, 14, 15, 16, 17] rfl (by decide +kernel) rfl rfl rfl rfl qw1104 k_X11_records ⟨rfl, rfl, Nat.le_of_ble_eq_true rfl, Nat.le_of_ble_eq_true rfl⟩ ⟨Nat.zero_le _, Nat.zero_le _⟩ hl.1 (Nat.le_of_ble_eq_true rfl) dX11_add_36 rfl (fun H locs hw => ?_)
      refine lv_aload_n hx hb dX11_add_39 rfl (lv_at hl 0 rfl) ?_
      refine lv_iload_n hx hb dX11_add_40 rfl (lv_at hl 1 rfl) ?_
      obtain ⟨v41, hv41, hf⟩ := ob_e hf
      refine xcallV (ws' := (wM g h 0 v41 v36.1 v36.2 snapshot hasSnapshot text length at_ isWell rd readMany v23.2.1 v23.2.2 digit digitMany other otherMany column columnMany carryMany chainMost)) (st1 := []) (n := 9) E hw [.int a1] [0, 1, 2, 3, 4, 5, 6, 7, 8] (met_X11_puts l g h 0 ss v36.1 v36.2 snapshot hasSnapshot text length at_ isWell rd readMany v23.2.1 v23.2.2 digit digitMany other otherMany column columnMany carryMany chainMost a1 v41 hv41) rfl (by decide) rfl rfl [9, 10, 11, 12, 13, 14, 15, 16, 17] rfl (by decide +kernel) rfl rfl rfl rfl qw1125 k_X11_puts ⟨rfl, rfl, Nat.le_of_ble_eq_true rfl, Nat.le_of_ble_eq_true rfl⟩ ⟨Nat.zero_le _, Nat.zero_le _⟩ hl.1 (Nat.le_of_ble_eq_true rfl) dX11_add_41 rfl (fun H locs hw => ?_)
      refine lv_aload_n hx hb dX11_add_44 rfl (lv_at hl 0 rfl) ?_
      refine lv_iload_n hx hb dX11_add_45 rfl (lv_at hl 1 rfl) ?_
      obtain ⟨v46, hv46, hf⟩ := ob_e hf
      refine xcallV (ws' := (wM g h 0 v41 v36.1 v36.2 snapshot hasSnapshot text length at_ isWell rd readMany v23.2.1 v23.2.2 digit digitMany other otherMany column columnMany carryMany chainMost)) (st1 := [.int v46]) (n := 9) E hw [.int a1] [0, 1, 2, 3, 4, 5, 6, 7, 8] (met_X11_up l g h 0 v41 v36.1 v36.2 snapshot hasSnapshot text length at_ isWell rd readMany v23.2.1 v23.2.2 digit digitMany other otherMany column columnMany carryMany chainMost a1 v46 hv46) rfl (by decide) rfl rfl [9, 10, 11, 12, 13, 14, 15, 16, 17] rfl (by decide +kernel) rfl rfl rfl rfl qw1144 k_X11_up ⟨rfl, rfl, Nat.le_of_ble_eq_true rfl, Nat.le_of_ble_eq_true rfl⟩ ⟨Nat.zero_le _, Nat.zero_le _⟩ hl.1 (Nat.le_of_ble_eq_true rfl) dX11_add_46 rfl (fun H locs hw => ?_)
      exact hret _ _ _ _ _ _ _ _ _ _ _ (Option.some.inj hf) dX11_add_49 hw
    · replace hf := iq c26 hf
      refine lv_aload_n hx hb dX11_add_29 rfl (lv_at hl 0 rfl) ?_
      refine lv_iconst (v := 2) hx hb dX11_add_30 (by decide) ?_
      obtain ⟨v31, hv31, hf⟩ := ob_e hf
      refine xcallV (ws' := (wM g h v31.2 ss states stateMany snapshot hasSnapshot text length at_ isWell rd readMany v23.2.1 v23.2.2 digit digitMany other otherMany column columnMany carryMany chainMost)) (st1 := [.int v31.1]) (n := 9) E hw [.int 2] [0, 1, 2, 3, 4, 5, 6, 7, 8] (met_X11_fails l g h 0 ss states stateMany snapshot hasSnapshot text length at_ isWell rd readMany v23.2.1 v23.2.2 digit digitMany other otherMany column columnMany carryMany chainMost 2 v31 hv31) rfl (by decide) rfl rfl [9, 10, 11, 12, 13, 14, 15, 16, 17] rfl (by decide +kernel) rfl rfl rfl rfl qw1100 k_X11_fails ⟨rfl, rfl, Nat.le_of_ble_eq_true rfl, Nat.le_of_ble_eq_true rfl⟩ ⟨Nat.zero_le _, Nat.zero_le _⟩ hl.1 (Nat.le_of_ble_eq_true rfl) dX11_add_31 rfl (fun H locs hw => ?_)
      exact hret _ _ _ _ _ _ _ _ _ _ _ (Option.some.inj hf) dX11_add_34 hw
  · replace hf := ip c10 hf
    refine lv_aload_n hx hb dX11_add_13 rfl (lv_at hl 0 rfl) ?_
    refine lv_iconst (v := 1) hx hb dX11_add_14 (by decide) ?_
    obtain ⟨v15, hv15, hf⟩ := ob_e hf
    refine xcallV (ws' := (wM g h v15.2 ss states stateMany snapshot hasSnapshot text length at_ isWell rd readMany top bottom digit digitMany other otherMany column columnMany carryMany chainMost)) (st1 := [.int v15.1]) (n := 9) E hw [.int 1] [0, 1, 2, 3, 4, 5, 6, 7, 8] (met_X11_fails l g h 0 ss states stateMany snapshot hasSnapshot text length at_ isWell rd readMany top bottom digit digitMany other otherMany column columnMany carryMany chainMost 1 v15 hv15) rfl (by decide) rfl rfl [9, 10, 11, 12, 13, 14, 15, 16, 17] rfl (by decide +kernel) rfl rfl rfl rfl qw1100 k_X11_fails ⟨rfl, rfl, Nat.le_of_ble_eq_true rfl, Nat.le_of_ble_eq_true rfl⟩ ⟨Nat.zero_le _, Nat.zero_le _⟩ hl.1 (Nat.le_of_ble_eq_true rfl) dX11_add_15 rfl (fun H locs hw => ?_)
    exact hret _ _ _ _ _ _ _ _ _ _ _ (Option.some.inj hf) dX11_add_18 hw
theorem k_X11_subtract : xKV yX11_subtract cX11_subtract 3 (some .int) 2 := ⟨qw1149, qw1150, qw74, qw1151, by decide +kernel, by decide +kernel, by decide +kernel⟩
set_option maxHeartbeats 4000000 in
set_option maxRecDepth 100000 in
theorem met_X11_subtract (l : Launch) (g : xG) (h : Nat → Nat) (thrown : Int32) (ss : (Nat → Int32)) (states : (Nat → Int32)) (stateMany : Int32) (snapshot : (Nat → Int32)) (hasSnapshot : Int32) (text : (Nat → Int32)) (length : Int32) (at_ : Int32) (isWell : Int32) (rd : (Nat → Int32)) (readMany : Int32) (top : Int64) (bottom : Int64) (digit : (Nat → Int32)) (digitMany : Int32) (other : (Nat → Int32)) (otherMany : Int32) (column : (Nat → Int32)) (columnMany : Int32) (carryMany : Int32) (chainMost : Int32) (a1 : Int32) (a2 : Int32) (out : Int32 × Int32 × (Nat → Int32) × (Nat → Int32) × Int32 × Int64 × Int64) (hf : f_X11_subtract thrown ss states stateMany top bottom a1 a2 = some out) : xM l yX11_subtract (xC yX11_subtract cX11_subtract 3 (some .int)) { frames := 3, cells := 0, slots := 0, locals := 78 } g (wM g h thrown ss states stateMany snapshot hasSnapshot text length at_ isWell rd readMany top bottom digit digitMany other otherMany column columnMany carryMany chainMost) [.ref (h 0), .int a1, .int a2] (some (.int out.1)) (wM g h out.2.1 out.2.2.1 out.2.2.2.1 out.2.2.2.2.1 snapshot hasSnapshot text length at_ isWell rd readMany out.2.2.2.2.2.1 out.2.2.2.2.2.2 digit digitMany other otherMany column columnMany carryMany chainMost) := by
  refine xof (by decide) (Nat.le_of_ble_eq_true rfl) ⟨rfl, rfl⟩ ?_
  intro p e s m below meth c A ls E hr hlocks hw hl hpost hAe
  have hx := E.1.1
  have hb := E.1.2.1
  have hown := E.1.2.2.2.1
  have hts := E.1.2.2.2.2
  generalize hZ : (MQ below (xPost g (wM g h thrown ss states stateMany snapshot hasSnapshot text length at_ isWell rd readMany top bottom digit digitMany other otherMany column columnMany carryMany chainMost) (wM g h out.2.1 out.2.2.1 out.2.2.2.1 out.2.2.2.2.1 snapshot hasSnapshot text length at_ isWell rd readMany out.2.2.2.2.2.1 out.2.2.2.2.2.2 digit digitMany other otherMany column columnMany carryMany chainMost) s.heap.size (some (.int out.1))) [.ref (h 0), .int a1, .int a2].toArray s 0 0 A) = ZZ
  have hret : ∀ (pc : Nat) (H : Heap) (locs : List Loc) (ls : Array Slot) (v : Int32) (cthrown : Int32) (css : (Nat → Int32)) (cstates : (Nat → Int32)) (cstateMany : Int32) (ctop : Int64) (cbottom : Int64), (v, cthrown, css, cstates, cstateMany, ctop, cbottom) = out → decode cX11_subtract pc = .ok (.ireturn, 1) → xW g A s.heap (wM g h cthrown css cstates cstateMany snapshot hasSnapshot text length at_ isWell rd readMany ctop cbottom digit digitMany other otherMany column columnMany carryMany chainMost) H locs → W p l e { frames := 3, cells := 0, slots := 0, locals := 78 } s m [.ref (h 0), .int a1, .int a2].toArray below meth c H locs 0 0 ZZ (F0 m pc ls [.int v]) := by
    intro pc H locs ls v cthrown css cstates cstateMany ctop cbottom he hd hw
    subst he
    rw [← hZ]
    exact W.iret hx hb hr (hpost H locs hw).1 (hpost H locs hw).2 hd hlocks
  clear hpost
  have b38 : ∀ (H : Heap) (locs : List Loc) (ls : Array Slot) (thrown : Int32) (ss : (Nat → Int32)) (states : (Nat → Int32)) (stateMany : Int32) (top : Int64) (bottom : Int64), xW g A s.heap (wM g h thrown ss states stateMany snapshot hasSnapshot text length at_ isWell rd readMany top bottom digit digitMany other otherMany column columnMany carryMany chainMost) H locs → lv_has ls 3 [(0, .ref (h 0))] → f_X11_subtract_b38 thrown ss states stateMany top bottom = some out → W p l e { frames := 3, cells := 0, slots := 0, locals := 78 } s m [.ref (h 0), .int a1, .int a2].toArray below meth c H locs 0 0 ZZ (F0 m 38 ls []) := by
    intro H locs ls thrown ss states stateMany top bottom hw hl hf
    refine lv_aload_n hx hb dX11_subtract_38 rfl (lv_at hl 0 rfl) ?_
    refine lv_iconst (v := 2) hx hb dX11_subtract_39 (by decide) ?_
    obtain ⟨v40, hv40, hf⟩ := ob_e hf
    refine xcallV (ws' := (wM g h v40.2 ss states stateMany snapshot hasSnapshot text length at_ isWell rd readMany top bottom digit digitMany other otherMany column columnMany carryMany chainMost)) (st1 := [.int v40.1]) (n := 9) E hw [.int 2] [0, 1, 2, 3, 4, 5, 6, 7, 8] (met_X11_fails l g h thrown ss states stateMany snapshot hasSnapshot text length at_ isWell rd readMany top bottom digit digitMany other otherMany column columnMany carryMany chainMost 2 v40 hv40) rfl (by decide) rfl rfl [9, 10, 11, 12, 13, 14, 15, 16, 17] rfl (by decide +kernel) rfl rfl rfl rfl qw1100 k_X11_fails ⟨rfl, rfl, Nat.le_of_ble_eq_true rfl, Nat.le_of_ble_eq_true rfl⟩ ⟨Nat.zero_le _, Nat.zero_le _⟩ hl.1 (Nat.le_of_ble_eq_true rfl) dX11_subtract_40 rfl (fun H locs hw => ?_)
    exact hret _ _ _ _ _ _ _ _ _ _ _ (Option.some.inj hf) dX11_subtract_43 hw
  refine lv_aload_n hx hb dX11_subtract_0 rfl (lv_at hl 0 rfl) ?_
  refine lv_iconst (v := 0) hx hb dX11_subtract_1 (by decide) ?_
  refine xput (ws' := (wM g h 0 ss states stateMany snapshot hasSnapshot text length at_ isWell rd readMany top bottom digit digitMany other otherMany column columnMany carryMany chainMost)) E hw 0 rfl rfl 0 (by decide) inw11 tyX11_ok nmX11 qw1019 rfl rfl rfl rfl (Nat.le_of_ble_eq_true rfl) dX11_subtract_2 rfl (fun H locs hw => ?_)
  refine lv_iload_n hx hb dX11_subtract_5 rfl (lv_at hl 1 rfl) ?_
  refine lv_iload_n hx hb dX11_subtract_6 rfl (lv_at hl 2 rfl) ?_
  obtain ⟨v7, hv7, hf⟩ := ob_e hf
  refine xcallS (ws' := (wM g h 0 ss states stateMany snapshot hasSnapshot text length at_ isWell rd readMany top bottom digit digitMany other otherMany column columnMany carryMany chainMost)) (st1 := [.int v7]) (n := 9) E hw [.int a1, .int a2] [] (met_X11_areAccounts l g a1 a2 v7 hv7) rfl (by decide) rfl rfl [0, 1, 2, 3, 4, 5, 6, 7, 8] rfl (by decide +kernel) rfl qw1137 k_X11_areAccounts ⟨rfl, rfl, Nat.le_of_ble_eq_true rfl, Nat.le_of_ble_eq_true rfl⟩ ⟨Nat.zero_le _, Nat.zero_le _⟩ hl.1 (Nat.le_of_ble_eq_true rfl) dX11_subtract_7 rfl (fun H locs hw => ?_)
  refine lv_if_ne (tgt := 19) hx hb dX11_subtract_10 (by decide) (fun c10 => ?_) (fun c10 => ?_)
  · replace hf := iq c10 hf
    refine lv_aload_n hx hb dX11_subtract_19 rfl (lv_at hl 0 rfl) ?_
    refine lv_iload_n hx hb dX11_subtract_20 rfl (lv_at hl 1 rfl) ?_
    refine lv_iload_n hx hb dX11_subtract_21 rfl (lv_at hl 2 rfl) ?_
    refine lv_iconst (v := (-1)) hx hb dX11_subtract_22 (by decide) ?_
    obtain ⟨v23, hv23, hf⟩ := ob_e hf
    refine xcallV (ws' := (wM g h 0 ss states stateMany snapshot hasSnapshot text length at_ isWell rd readMany v23.2.1 v23.2.2 digit digitMany other otherMany column columnMany carryMany chainMost)) (st1 := [.int v23.1]) (n := 9) E hw [.int a1, .int a2, .int (-1)] [0, 1, 2, 3, 4, 5, 6, 7, 8] (met_X11_makesSum l g h 0 ss states stateMany snapshot hasSnapshot text length at_ isWell rd readMany top bottom digit digitMany other otherMany column columnMany carryMany chainMost a1 a2 (-1) v23 hv23) rfl (by decide) rfl rfl [9, 10, 11, 12, 13, 14, 15, 16, 17] rfl (by decide +kernel) rfl rfl rfl rfl qw1140 k_X11_makesSum ⟨rfl, rfl, Nat.le_of_ble_eq_true rfl, Nat.le_of_ble_eq_true rfl⟩ ⟨Nat.zero_le _, Nat.zero_le _⟩ hl.1 (Nat.le_of_ble_eq_true rfl) dX11_subtract_23 rfl (fun H locs hw => ?_)
    refine lv_if_gt (tgt := 38) hx hb dX11_subtract_26 (by decide) (fun c26 => ?_) (fun c26 => ?_)
    · replace hf := ip c26 hf
      exact b38 _ _ _ 0 ss states stateMany v23.2.1 v23.2.2 hw (lv_sub hl [0] rfl) hf
    · replace hf := iq c26 hf
      refine lv_aload_n hx hb dX11_subtract_29 rfl (lv_at hl 0 rfl) ?_
      refine xget (v := .long v23.2.1) E hw 0 rfl rfl 12 (by decide) inw11 qw1031 rfl rfl dX11_subtract_30 ?_
      refine lv_lconst (v := 0) hx hb dX11_subtract_33 (by decide) ?_
      refine xlc_ge (tgt := 44) hx hb dX11_subtract_34 dX11_subtract_35 (by decide) (fun c34 => ?_) (fun c34 => ?_)
      · replace hf := iq c34 hf
        refine lv_aload_n hx hb dX11_subtract_44 rfl (lv_at hl 0 rfl) ?_
        obtain ⟨v45, hv45, hf⟩ := ob_e hf
        refine xcallV (ws' := (wM g h 0 ss v45.1 v45.2 snapshot hasSnapshot text length at_ isWell rd readMany v23.2.1 v23.2.2 digit digitMany other otherMany column columnMany carryMany chainMost)) (st1 := []) (n := 9) E hw [] [0, 1, 2, 3, 4, 5, 6, 7, 8] (met_X11_records l g h 0 ss states stateMany snapshot hasSnapshot text length at_ isWell rd readMany v23.2.1 v23.2.2 digit digitMany other otherMany column columnMany carryMany chainMost v45 hv45) rfl (by decide) rfl rfl [9, 10, 11, 12, 13, 14, 15, 16, 17] rfl (by decide +kernel) rfl rfl rfl rfl qw1104 k_X11_records ⟨rfl, rfl, Nat.le_of_ble_eq_true rfl, Nat.le_of_ble_eq_true rfl⟩ ⟨Nat.zero_le _, Nat.zero_le _⟩ hl.1 (Nat.le_of_ble_eq_true rfl) dX11_subtract_45 rfl (fun H locs hw => ?_)
        refine lv_aload_n hx hb dX11_subtract_48 rfl (lv_at hl 0 rfl) ?_
        refine lv_iload_n hx hb dX11_subtract_49 rfl (lv_at hl 1 rfl) ?_
        obtain ⟨v50, hv50, hf⟩ := ob_e hf
        refine xcallV (ws' := (wM g h 0 v50 v45.1 v45.2 snapshot hasSnapshot text length at_ isWell rd readMany v23.2.1 v23.2.2 digit digitMany other otherMany column columnMany carryMany chainMost)) (st1 := []) (n := 9) E hw [.int a1] [0, 1, 2, 3, 4, 5, 6, 7, 8] (met_X11_puts l g h 0 ss v45.1 v45.2 snapshot hasSnapshot text length at_ isWell rd readMany v23.2.1 v23.2.2 digit digitMany other otherMany column columnMany carryMany chainMost a1 v50 hv50) rfl (by decide) rfl rfl [9, 10, 11, 12, 13, 14, 15, 16, 17] rfl (by decide +kernel) rfl rfl rfl rfl qw1125 k_X11_puts ⟨rfl, rfl, Nat.le_of_ble_eq_true rfl, Nat.le_of_ble_eq_true rfl⟩ ⟨Nat.zero_le _, Nat.zero_le _⟩ hl.1 (Nat.le_of_ble_eq_true rfl) dX11_subtract_50 rfl (fun H locs hw => ?_)
        refine lv_aload_n hx hb dX11_subtract_53 rfl (lv_at hl 0 rfl) ?_
        refine lv_iload_n hx hb dX11_subtract_54 rfl (lv_at hl 1 rfl) ?_
        obtain ⟨v55, hv55, hf⟩ := ob_e hf
        refine xcallV (ws' := (wM g h 0 v50 v45.1 v45.2 snapshot hasSnapshot text length at_ isWell rd readMany v23.2.1 v23.2.2 digit digitMany other otherMany column columnMany carryMany chainMost)) (st1 := [.int v55]) (n := 9) E hw [.int a1] [0, 1, 2, 3, 4, 5, 6, 7, 8] (met_X11_up l g h 0 v50 v45.1 v45.2 snapshot hasSnapshot text length at_ isWell rd readMany v23.2.1 v23.2.2 digit digitMany other otherMany column columnMany carryMany chainMost a1 v55 hv55) rfl (by decide) rfl rfl [9, 10, 11, 12, 13, 14, 15, 16, 17] rfl (by decide +kernel) rfl rfl rfl rfl qw1144 k_X11_up ⟨rfl, rfl, Nat.le_of_ble_eq_true rfl, Nat.le_of_ble_eq_true rfl⟩ ⟨Nat.zero_le _, Nat.zero_le _⟩ hl.1 (Nat.le_of_ble_eq_true rfl) dX11_subtract_55 rfl (fun H locs hw => ?_)
        exact hret _ _ _ _ _ _ _ _ _ _ _ (Option.some.inj hf) dX11_subtract_58 hw
      · replace hf := ip c34 hf
        exact b38 _ _ _ 0 ss states stateMany v23.2.1 v23.2.2 hw (lv_sub hl [0] rfl) hf
  · replace hf := ip c10 hf
    refine lv_aload_n hx hb dX11_subtract_13 rfl (lv_at hl 0 rfl) ?_
    refine lv_iconst (v := 1) hx hb dX11_subtract_14 (by decide) ?_
    obtain ⟨v15, hv15, hf⟩ := ob_e hf
    refine xcallV (ws' := (wM g h v15.2 ss states stateMany snapshot hasSnapshot text length at_ isWell rd readMany top bottom digit digitMany other otherMany column columnMany carryMany chainMost)) (st1 := [.int v15.1]) (n := 9) E hw [.int 1] [0, 1, 2, 3, 4, 5, 6, 7, 8] (met_X11_fails l g h 0 ss states stateMany snapshot hasSnapshot text length at_ isWell rd readMany top bottom digit digitMany other otherMany column columnMany carryMany chainMost 1 v15 hv15) rfl (by decide) rfl rfl [9, 10, 11, 12, 13, 14, 15, 16, 17] rfl (by decide +kernel) rfl rfl rfl rfl qw1100 k_X11_fails ⟨rfl, rfl, Nat.le_of_ble_eq_true rfl, Nat.le_of_ble_eq_true rfl⟩ ⟨Nat.zero_le _, Nat.zero_le _⟩ hl.1 (Nat.le_of_ble_eq_true rfl) dX11_subtract_15 rfl (fun H locs hw => ?_)
    exact hret _ _ _ _ _ _ _ _ _ _ _ (Option.some.inj hf) dX11_subtract_18 hw
theorem k_X11_shift : xKV yX11_shift cX11_shift 3 (some .int) 2 := ⟨qw1153, qw1154, qw74, qw1155, by decide +kernel, by decide +kernel, by decide +kernel⟩
set_option maxHeartbeats 4000000 in
set_option maxRecDepth 100000 in
theorem met_X11_shift (l : Launch) (g : xG) (h : Nat → Nat) (thrown : Int32) (ss : (Nat → Int32)) (states : (Nat → Int32)) (stateMany : Int32) (snapshot : (Nat → Int32)) (hasSnapshot : Int32) (text : (Nat → Int32)) (length : Int32) (at_ : Int32) (isWell : Int32) (rd : (Nat → Int32)) (readMany : Int32) (top : Int64) (bottom : Int64) (digit : (Nat → Int32)) (digitMany : Int32) (other : (Nat → Int32)) (otherMany : Int32) (column : (Nat → Int32)) (columnMany : Int32) (carryMany : Int32) (chainMost : Int32) (a1 : Int32) (a2 : Int32) (out : Int32 × Int32 × (Nat → Int32) × (Nat → Int32) × Int32 × Int64 × Int64) (hf : f_X11_shift thrown ss states stateMany top bottom a1 a2 = some out) : xM l yX11_shift (xC yX11_shift cX11_shift 3 (some .int)) { frames := 3, cells := 0, slots := 0, locals := 77 } g (wM g h thrown ss states stateMany snapshot hasSnapshot text length at_ isWell rd readMany top bottom digit digitMany other otherMany column columnMany carryMany chainMost) [.ref (h 0), .int a1, .int a2] (some (.int out.1)) (wM g h out.2.1 out.2.2.1 out.2.2.2.1 out.2.2.2.2.1 snapshot hasSnapshot text length at_ isWell rd readMany out.2.2.2.2.2.1 out.2.2.2.2.2.2 digit digitMany other otherMany column columnMany carryMany chainMost) := by
  refine xof (by decide) (Nat.le_of_ble_eq_true rfl) ⟨rfl, rfl⟩ ?_
  intro p e s m below meth c A ls E hr hlocks hw hl hpost hAe
  have hx := E.1.1
  have hb := E.1.2.1
  have hown := E.1.2.2.2.1
  have hts := E.1.2.2.2.2
  generalize hZ : (MQ below (xPost g (wM g h thrown ss states stateMany snapshot hasSnapshot text length at_ isWell rd readMany top bottom digit digitMany other otherMany column columnMany carryMany chainMost) (wM g h out.2.1 out.2.2.1 out.2.2.2.1 out.2.2.2.2.1 snapshot hasSnapshot text length at_ isWell rd readMany out.2.2.2.2.2.1 out.2.2.2.2.2.2 digit digitMany other otherMany column columnMany carryMany chainMost) s.heap.size (some (.int out.1))) [.ref (h 0), .int a1, .int a2].toArray s 0 0 A) = ZZ
  have hret : ∀ (pc : Nat) (H : Heap) (locs : List Loc) (ls : Array Slot) (v : Int32) (cthrown : Int32) (css : (Nat → Int32)) (cstates : (Nat → Int32)) (cstateMany : Int32) (ctop : Int64) (cbottom : Int64), (v, cthrown, css, cstates, cstateMany, ctop, cbottom) = out → decode cX11_shift pc = .ok (.ireturn, 1) → xW g A s.heap (wM g h cthrown css cstates cstateMany snapshot hasSnapshot text length at_ isWell rd readMany ctop cbottom digit digitMany other otherMany column columnMany carryMany chainMost) H locs → W p l e { frames := 3, cells := 0, slots := 0, locals := 77 } s m [.ref (h 0), .int a1, .int a2].toArray below meth c H locs 0 0 ZZ (F0 m pc ls [.int v]) := by
    intro pc H locs ls v cthrown css cstates cstateMany ctop cbottom he hd hw
    subst he
    rw [← hZ]
    exact W.iret hx hb hr (hpost H locs hw).1 (hpost H locs hw).2 hd hlocks
  clear hpost
  refine lv_aload_n hx hb dX11_shift_0 rfl (lv_at hl 0 rfl) ?_
  refine lv_iconst (v := 0) hx hb dX11_shift_1 (by decide) ?_
  refine xput (ws' := (wM g h 0 ss states stateMany snapshot hasSnapshot text length at_ isWell rd readMany top bottom digit digitMany other otherMany column columnMany carryMany chainMost)) E hw 0 rfl rfl 0 (by decide) inw11 tyX11_ok nmX11 qw1019 rfl rfl rfl rfl (Nat.le_of_ble_eq_true rfl) dX11_shift_2 rfl (fun H locs hw => ?_)
  refine lv_iload_n hx hb dX11_shift_5 rfl (lv_at hl 1 rfl) ?_
  obtain ⟨v6, hv6, hf⟩ := ob_e hf
  refine xcallS (ws' := (wM g h 0 ss states stateMany snapshot hasSnapshot text length at_ isWell rd readMany top bottom digit digitMany other otherMany column columnMany carryMany chainMost)) (st1 := [.int v6]) (n := 9) E hw [.int a1] [] (met_X11_isAccount l g a1 v6 hv6) rfl (by decide) rfl rfl [0, 1, 2, 3, 4, 5, 6, 7, 8] rfl (by decide +kernel) rfl qw1112 k_X11_isAccount ⟨rfl, rfl, Nat.le_of_ble_eq_true rfl, Nat.le_of_ble_eq_true rfl⟩ ⟨Nat.zero_le _, Nat.zero_le _⟩ hl.1 (Nat.le_of_ble_eq_true rfl) dX11_shift_6 rfl (fun H locs hw => ?_)
  refine lv_if_ne (tgt := 18) hx hb dX11_shift_9 (by decide) (fun c9 => ?_) (fun c9 => ?_)
  · replace hf := iq c9 hf
    refine lv_iload_n hx hb dX11_shift_18 rfl (lv_at hl 2 rfl) ?_
    refine lv_bipush (v := (-3)) hx hb dX11_shift_19 (by decide) ?_
    refine lv_iconst (v := 3) hx hb dX11_shift_21 (by decide) ?_
    obtain ⟨v22, hv22, hf⟩ := ob_e hf
    refine xcallS (ws' := (wM g h 0 ss states stateMany snapshot hasSnapshot text length at_ isWell rd readMany top bottom digit digitMany other otherMany column columnMany carryMany chainMost)) (st1 := [.int v22]) (n := 9) E hw [.int a2, .int (-3), .int 3] [] (met_X11_in l g a2 (-3) 3 v22 hv22) rfl (by decide) rfl rfl [0, 1, 2, 3, 4, 5, 6, 7, 8] rfl (by decide +kernel) rfl qw1097 k_X11_in ⟨rfl, rfl, Nat.le_of_ble_eq_true rfl, Nat.le_of_ble_eq_true rfl⟩ ⟨Nat.zero_le _, Nat.zero_le _⟩ hl.1 (Nat.le_of_ble_eq_true rfl) dX11_shift_22 rfl (fun H locs hw => ?_)
    refine lv_if_ne (tgt := 34) hx hb dX11_shift_25 (by decide) (fun c25 => ?_) (fun c25 => ?_)
    · replace hf := iq c25 hf
      refine lv_aload_n hx hb dX11_shift_34 rfl (lv_at hl 0 rfl) ?_
      refine lv_iload_n hx hb dX11_shift_35 rfl (lv_at hl 1 rfl) ?_
      refine lv_iload_n hx hb dX11_shift_36 rfl (lv_at hl 2 rfl) ?_
      obtain ⟨v37, hv37, hf⟩ := ob_e hf
      refine xcallV (ws' := (wM g h 0 ss states stateMany snapshot hasSnapshot text length at_ isWell rd readMany v37.2.1 v37.2.2 digit digitMany other otherMany column columnMany carryMany chainMost)) (st1 := [.int v37.1]) (n := 9) E hw [.int a1, .int a2] [0, 1, 2, 3, 4, 5, 6, 7, 8] (met_X11_makesShift l g h 0 ss states stateMany snapshot hasSnapshot text length at_ isWell rd readMany top bottom digit digitMany other otherMany column columnMany carryMany chainMost a1 a2 v37 hv37) rfl (by decide) rfl rfl [9, 10, 11, 12, 13, 14, 15, 16, 17] rfl (by decide +kernel) rfl rfl rfl rfl qw1156 k_X11_makesShift ⟨rfl, rfl, Nat.le_of_ble_eq_true rfl, Nat.le_of_ble_eq_true rfl⟩ ⟨Nat.zero_le _, Nat.zero_le _⟩ hl.1 (Nat.le_of_ble_eq_true rfl) dX11_shift_37 rfl (fun H locs hw => ?_)
      refine lv_if_le (tgt := 49) hx hb dX11_shift_40 (by decide) (fun c40 => ?_) (fun c40 => ?_)
      · replace hf := ip c40 hf
        refine lv_aload_n hx hb dX11_shift_49 rfl (lv_at hl 0 rfl) ?_
        obtain ⟨v50, hv50, hf⟩ := ob_e hf
        refine xcallV (ws' := (wM g h 0 ss v50.1 v50.2 snapshot hasSnapshot text length at_ isWell rd readMany v37.2.1 v37.2.2 digit digitMany other otherMany column columnMany carryMany chainMost)) (st1 := []) (n := 9) E hw [] [0, 1, 2, 3, 4, 5, 6, 7, 8] (met_X11_records l g h 0 ss states stateMany snapshot hasSnapshot text length at_ isWell rd readMany v37.2.1 v37.2.2 digit digitMany other otherMany column columnMany carryMany chainMost v50 hv50) rfl (by decide) rfl rfl [9, 10, 11, 12, 13, 14, 15, 16, 17] rfl (by decide +kernel) rfl rfl rfl rfl qw1104 k_X11_records ⟨rfl, rfl, Nat.le_of_ble_eq_true rfl, Nat.le_of_ble_eq_true rfl⟩ ⟨Nat.zero_le _, Nat.zero_le _⟩ hl.1 (Nat.le_of_ble_eq_true rfl) dX11_shift_50 rfl (fun H locs hw => ?_)
        refine lv_aload_n hx hb dX11_shift_53 rfl (lv_at hl 0 rfl) ?_
        refine lv_iload_n hx hb dX11_shift_54 rfl (lv_at hl 1 rfl) ?_
        obtain ⟨v55, hv55, hf⟩ := ob_e hf
        refine xcallV (ws' := (wM g h 0 v55 v50.1 v50.2 snapshot hasSnapshot text length at_ isWell rd readMany v37.2.1 v37.2.2 digit digitMany other otherMany column columnMany carryMany chainMost)) (st1 := []) (n := 9) E hw [.int a1] [0, 1, 2, 3, 4, 5, 6, 7, 8] (met_X11_puts l g h 0 ss v50.1 v50.2 snapshot hasSnapshot text length at_ isWell rd readMany v37.2.1 v37.2.2 digit digitMany other otherMany column columnMany carryMany chainMost a1 v55 hv55) rfl (by decide) rfl rfl [9, 10, 11, 12, 13, 14, 15, 16, 17] rfl (by decide +kernel) rfl rfl rfl rfl qw1125 k_X11_puts ⟨rfl, rfl, Nat.le_of_ble_eq_true rfl, Nat.le_of_ble_eq_true rfl⟩ ⟨Nat.zero_le _, Nat.zero_le _⟩ hl.1 (Nat.le_of_ble_eq_true rfl) dX11_shift_55 rfl (fun H locs hw => ?_)
        refine lv_aload_n hx hb dX11_shift_58 rfl (lv_at hl 0 rfl) ?_
        refine lv_iload_n hx hb dX11_shift_59 rfl (lv_at hl 1 rfl) ?_
        obtain ⟨v60, hv60, hf⟩ := ob_e hf
        refine xcallV (ws' := (wM g h 0 v55 v50.1 v50.2 snapshot hasSnapshot text length at_ isWell rd readMany v37.2.1 v37.2.2 digit digitMany other otherMany column columnMany carryMany chainMost)) (st1 := [.int v60]) (n := 9) E hw [.int a1] [0, 1, 2, 3, 4, 5, 6, 7, 8] (met_X11_down l g h 0 v55 v50.1 v50.2 snapshot hasSnapshot text length at_ isWell rd readMany v37.2.1 v37.2.2 digit digitMany other otherMany column columnMany carryMany chainMost a1 v60 hv60) rfl (by decide) rfl rfl [9, 10, 11, 12, 13, 14, 15, 16, 17] rfl (by decide +kernel) rfl rfl rfl rfl qw1129 k_X11_down ⟨rfl, rfl, Nat.le_of_ble_eq_true rfl, Nat.le_of_ble_eq_true rfl⟩ ⟨Nat.zero_le _, Nat.zero_le _⟩ hl.1 (Nat.le_of_ble_eq_true rfl) dX11_shift_60 rfl (fun H locs hw => ?_)
        exact hret _ _ _ _ _ _ _ _ _ _ _ (Option.some.inj hf) dX11_shift_63 hw
      · replace hf := iq c40 hf
        refine lv_aload_n hx hb dX11_shift_43 rfl (lv_at hl 0 rfl) ?_
        refine lv_iconst (v := 3) hx hb dX11_shift_44 (by decide) ?_
        obtain ⟨v45, hv45, hf⟩ := ob_e hf
        refine xcallV (ws' := (wM g h v45.2 ss states stateMany snapshot hasSnapshot text length at_ isWell rd readMany v37.2.1 v37.2.2 digit digitMany other otherMany column columnMany carryMany chainMost)) (st1 := [.int v45.1]) (n := 9) E hw [.int 3] [0, 1, 2, 3, 4, 5, 6, 7, 8] (met_X11_fails l g h 0 ss states stateMany snapshot hasSnapshot text length at_ isWell rd readMany v37.2.1 v37.2.2 digit digitMany other otherMany column columnMany carryMany chainMost 3 v45 hv45) rfl (by decide) rfl rfl [9, 10, 11, 12, 13, 14, 15, 16, 17] rfl (by decide +kernel) rfl rfl rfl rfl qw1100 k_X11_fails ⟨rfl, rfl, Nat.le_of_ble_eq_true rfl, Nat.le_of_ble_eq_true rfl⟩ ⟨Nat.zero_le _, Nat.zero_le _⟩ hl.1 (Nat.le_of_ble_eq_true rfl) dX11_shift_45 rfl (fun H locs hw => ?_)
        exact hret _ _ _ _ _ _ _ _ _ _ _ (Option.some.inj hf) dX11_shift_48 hw
    · replace hf := ip c25 hf
      refine lv_aload_n hx hb dX11_shift_28 rfl (lv_at hl 0 rfl) ?_
      refine lv_iconst (v := 2) hx hb dX11_shift_29 (by decide) ?_
      obtain ⟨v30, hv30, hf⟩ := ob_e hf
      refine xcallV (ws' := (wM g h v30.2 ss states stateMany snapshot hasSnapshot text length at_ isWell rd readMany top bottom digit digitMany other otherMany column columnMany carryMany chainMost)) (st1 := [.int v30.1]) (n := 9) E hw [.int 2] [0, 1, 2, 3, 4, 5, 6, 7, 8] (met_X11_fails l g h 0 ss states stateMany snapshot hasSnapshot text length at_ isWell rd readMany top bottom digit digitMany other otherMany column columnMany carryMany chainMost 2 v30 hv30) rfl (by decide) rfl rfl [9, 10, 11, 12, 13, 14, 15, 16, 17] rfl (by decide +kernel) rfl rfl rfl rfl qw1100 k_X11_fails ⟨rfl, rfl, Nat.le_of_ble_eq_true rfl, Nat.le_of_ble_eq_true rfl⟩ ⟨Nat.zero_le _, Nat.zero_le _⟩ hl.1 (Nat.le_of_ble_eq_true rfl) dX11_shift_30 rfl (fun H locs hw => ?_)
      exact hret _ _ _ _ _ _ _ _ _ _ _ (Option.some.inj hf) dX11_shift_33 hw
  · replace hf := ip c9 hf
    refine lv_aload_n hx hb dX11_shift_12 rfl (lv_at hl 0 rfl) ?_
    refine lv_iconst (v := 1) hx hb dX11_shift_13 (by decide) ?_
    obtain ⟨v14, hv14, hf⟩ := ob_e hf
    refine xcallV (ws' := (wM g h v14.2 ss states stateMany snapshot hasSnapshot text length at_ isWell rd readMany top bottom digit digitMany other otherMany column columnMany carryMany chainMost)) (st1 := [.int v14.1]) (n := 9) E hw [.int 1] [0, 1, 2, 3, 4, 5, 6, 7, 8] (met_X11_fails l g h 0 ss states stateMany snapshot hasSnapshot text length at_ isWell rd readMany top bottom digit digitMany other otherMany column columnMany carryMany chainMost 1 v14 hv14) rfl (by decide) rfl rfl [9, 10, 11, 12, 13, 14, 15, 16, 17] rfl (by decide +kernel) rfl rfl rfl rfl qw1100 k_X11_fails ⟨rfl, rfl, Nat.le_of_ble_eq_true rfl, Nat.le_of_ble_eq_true rfl⟩ ⟨Nat.zero_le _, Nat.zero_le _⟩ hl.1 (Nat.le_of_ble_eq_true rfl) dX11_shift_14 rfl (fun H locs hw => ?_)
    exact hret _ _ _ _ _ _ _ _ _ _ _ (Option.some.inj hf) dX11_shift_17 hw
theorem k_X11_pay : xKV yX11_pay cX11_pay 4 (some .int) 3 := ⟨qw1165, qw1166, qw74, qw1167, by decide +kernel, by decide +kernel, by decide +kernel⟩
set_option maxHeartbeats 4000000 in
set_option maxRecDepth 100000 in
theorem met_X11_pay (l : Launch) (g : xG) (h : Nat → Nat) (thrown : Int32) (ss : (Nat → Int32)) (states : (Nat → Int32)) (stateMany : Int32) (snapshot : (Nat → Int32)) (hasSnapshot : Int32) (text : (Nat → Int32)) (length : Int32) (at_ : Int32) (isWell : Int32) (rd : (Nat → Int32)) (readMany : Int32) (top : Int64) (bottom : Int64) (digit : (Nat → Int32)) (digitMany : Int32) (other : (Nat → Int32)) (otherMany : Int32) (column : (Nat → Int32)) (columnMany : Int32) (carryMany : Int32) (chainMost : Int32) (a1 : Int32) (a2 : Int32) (a3 : Int32) (out : Int32 × Int32 × (Nat → Int32) × (Nat → Int32) × Int32 × Int64 × Int64) (hf : f_X11_pay thrown ss states stateMany top bottom a1 a2 a3 = some out) : xM l yX11_pay (xC yX11_pay cX11_pay 4 (some .int)) { frames := 3, cells := 0, slots := 0, locals := 77 } g (wM g h thrown ss states stateMany snapshot hasSnapshot text length at_ isWell rd readMany top bottom digit digitMany other otherMany column columnMany carryMany chainMost) [.ref (h 0), .int a1, .int a2, .int a3] (some (.int out.1)) (wM g h out.2.1 out.2.2.1 out.2.2.2.1 out.2.2.2.2.1 snapshot hasSnapshot text length at_ isWell rd readMany out.2.2.2.2.2.1 out.2.2.2.2.2.2 digit digitMany other otherMany column columnMany carryMany chainMost) := by
  refine xof (by decide) (Nat.le_of_ble_eq_true rfl) ⟨rfl, rfl⟩ ?_
  intro p e s m below meth c A ls E hr hlocks hw hl hpost hAe
  have hx := E.1.1
  have hb := E.1.2.1
  have hown := E.1.2.2.2.1
  have hts := E.1.2.2.2.2
  generalize hZ : (MQ below (xPost g (wM g h thrown ss states stateMany snapshot hasSnapshot text length at_ isWell rd readMany top bottom digit digitMany other otherMany column columnMany carryMany chainMost) (wM g h out.2.1 out.2.2.1 out.2.2.2.1 out.2.2.2.2.1 snapshot hasSnapshot text length at_ isWell rd readMany out.2.2.2.2.2.1 out.2.2.2.2.2.2 digit digitMany other otherMany column columnMany carryMany chainMost) s.heap.size (some (.int out.1))) [.ref (h 0), .int a1, .int a2, .int a3].toArray s 0 0 A) = ZZ
  have hret : ∀ (pc : Nat) (H : Heap) (locs : List Loc) (ls : Array Slot) (v : Int32) (cthrown : Int32) (css : (Nat → Int32)) (cstates : (Nat → Int32)) (cstateMany : Int32) (ctop : Int64) (cbottom : Int64), (v, cthrown, css, cstates, cstateMany, ctop, cbottom) = out → decode cX11_pay pc = .ok (.ireturn, 1) → xW g A s.heap (wM g h cthrown css cstates cstateMany snapshot hasSnapshot text length at_ isWell rd readMany ctop cbottom digit digitMany other otherMany column columnMany carryMany chainMost) H locs → W p l e { frames := 3, cells := 0, slots := 0, locals := 77 } s m [.ref (h 0), .int a1, .int a2, .int a3].toArray below meth c H locs 0 0 ZZ (F0 m pc ls [.int v]) := by
    intro pc H locs ls v cthrown css cstates cstateMany ctop cbottom he hd hw
    subst he
    rw [← hZ]
    exact W.iret hx hb hr (hpost H locs hw).1 (hpost H locs hw).2 hd hlocks
  clear hpost
  have b34 : ∀ (H : Heap) (locs : List Loc) (ls : Array Slot) (thrown : Int32) (ss : (Nat → Int32)) (states : (Nat → Int32)) (stateMany : Int32) (top : Int64) (bottom : Int64), xW g A s.heap (wM g h thrown ss states stateMany snapshot hasSnapshot text length at_ isWell rd readMany top bottom digit digitMany other otherMany column columnMany carryMany chainMost) H locs → lv_has ls 4 [(0, .ref (h 0))] → f_X11_pay_b34 thrown ss states stateMany top bottom = some out → W p l e { frames := 3, cells := 0, slots := 0, locals := 77 } s m [.ref (h 0), .int a1, .int a2, .int a3].toArray below meth c H locs 0 0 ZZ (F0 m 34 ls []) := by
    intro H locs ls thrown ss states stateMany top bottom hw hl hf
    refine lv_aload_n hx hb dX11_pay_34 rfl (lv_at hl 0 rfl) ?_
    refine lv_iconst (v := 2) hx hb dX11_pay_35 (by decide) ?_
    obtain ⟨v36, hv36, hf⟩ := ob_e hf
    refine xcallV (ws' := (wM g h v36.2 ss states stateMany snapshot hasSnapshot text length at_ isWell rd readMany top bottom digit digitMany other otherMany column columnMany carryMany chainMost)) (st1 := [.int v36.1]) (n := 9) E hw [.int 2] [0, 1, 2, 3, 4, 5, 6, 7, 8] (met_X11_fails l g h thrown ss states stateMany snapshot hasSnapshot text length at_ isWell rd readMany top bottom digit digitMany other otherMany column columnMany carryMany chainMost 2 v36 hv36) rfl (by decide) rfl rfl [9, 10, 11, 12, 13, 14, 15, 16, 17] rfl (by decide +kernel) rfl rfl rfl rfl qw1100 k_X11_fails ⟨rfl, rfl, Nat.le_of_ble_eq_true rfl, Nat.le_of_ble_eq_true rfl⟩ ⟨Nat.zero_le _, Nat.zero_le _⟩ hl.1 (Nat.le_of_ble_eq_true rfl) dX11_pay_36 rfl (fun H locs hw => ?_)
    exact hret _ _ _ _ _ _ _ _ _ _ _ (Option.some.inj hf) dX11_pay_39 hw
  have b58 : ∀ (H : Heap) (locs : List Loc) (ls : Array Slot) (thrown : Int32) (ss : (Nat → Int32)) (states : (Nat → Int32)) (stateMany : Int32) (top : Int64) (bottom : Int64), xW g A s.heap (wM g h thrown ss states stateMany snapshot hasSnapshot text length at_ isWell rd readMany top bottom digit digitMany other otherMany column columnMany carryMany chainMost) H locs → lv_has ls 4 [(0, .ref (h 0))] → f_X11_pay_b58 thrown ss states stateMany top bottom = some out → W p l e { frames := 3, cells := 0, slots := 0, locals := 77 } s m [.ref (h 0), .int a1, .int a2, .int a3].toArray below meth c H locs 0 0 ZZ (F0 m 58 ls []) := by
    intro H locs ls thrown ss states stateMany top bottom hw hl hf
    refine lv_aload_n hx hb dX11_pay_58 rfl (lv_at hl 0 rfl) ?_
    refine lv_iconst (v := 3) hx hb dX11_pay_59 (by decide) ?_
    obtain ⟨v60, hv60, hf⟩ := ob_e hf
    refine xcallV (ws' := (wM g h v60.2 ss states stateMany snapshot hasSnapshot text length at_ isWell rd readMany top bottom digit digitMany other otherMany column columnMany carryMany chainMost)) (st1 := [.int v60.1]) (n := 9) E hw [.int 3] [0, 1, 2, 3, 4, 5, 6, 7, 8] (met_X11_fails l g h thrown ss states stateMany snapshot hasSnapshot text length at_ isWell rd readMany top bottom digit digitMany other otherMany column columnMany carryMany chainMost 3 v60 hv60) rfl (by decide) rfl rfl [9, 10, 11, 12, 13, 14, 15, 16, 17] rfl (by decide +kernel) rfl rfl rfl rfl qw1100 k_X11_fails ⟨rfl, rfl, Nat.le_of_ble_eq_true rfl, Nat.le_of_ble_eq_true rfl⟩ ⟨Nat.zero_le _, Nat.zero_le _⟩ hl.1 (Nat.le_of_ble_eq_true rfl) dX11_pay_60 rfl (fun H locs hw => ?_)
    exact hret _ _ _ _ _ _ _ _ _ _ _ (Option.some.inj hf) dX11_pay_63 hw
  refine lv_aload_n hx hb dX11_pay_0 rfl (lv_at hl 0 rfl) ?_
  refine lv_iconst (v := 0) hx hb dX11_pay_1 (by decide) ?_
  refine xput (ws' := (wM g h 0 ss states stateMany snapshot hasSnapshot text length at_ isWell rd readMany top bottom digit digitMany other otherMany column columnMany carryMany chainMost)) E hw 0 rfl rfl 0 (by decide) inw11 tyX11_ok nmX11 qw1019 rfl rfl rfl rfl (Nat.le_of_ble_eq_true rfl) dX11_pay_2 rfl (fun H locs hw => ?_)
  refine lv_iload_n hx hb dX11_pay_5 rfl (lv_at hl 1 rfl) ?_
  refine lv_iload_n hx hb dX11_pay_6 rfl (lv_at hl 2 rfl) ?_
  obtain ⟨v7, hv7, hf⟩ := ob_e hf
  refine xcallS (ws' := (wM g h 0 ss states stateMany snapshot hasSnapshot text length at_ isWell rd readMany top bottom digit digitMany other otherMany column columnMany carryMany chainMost)) (st1 := [.int v7]) (n := 9) E hw [.int a1, .int a2] [] (met_X11_areAccounts l g a1 a2 v7 hv7) rfl (by decide) rfl rfl [0, 1, 2, 3, 4, 5, 6, 7, 8] rfl (by decide +kernel) rfl qw1137 k_X11_areAccounts ⟨rfl, rfl, Nat.le_of_ble_eq_true rfl, Nat.le_of_ble_eq_true rfl⟩ ⟨Nat.zero_le _, Nat.zero_le _⟩ hl.1 (Nat.le_of_ble_eq_true rfl) dX11_pay_7 rfl (fun H locs hw => ?_)
  refine lv_if_ne (tgt := 19) hx hb dX11_pay_10 (by decide) (fun c10 => ?_) (fun c10 => ?_)
  · replace hf := iq c10 hf
    refine lv_iload_n hx hb dX11_pay_19 rfl (lv_at hl 1 rfl) ?_
    refine lv_iload_n hx hb dX11_pay_20 rfl (lv_at hl 2 rfl) ?_
    refine lv_icmp_eq (tgt := 34) hx hb dX11_pay_21 (by decide) (fun c21 => ?_) (fun c21 => ?_)
    · replace hf := ip c21 hf
      exact b34 _ _ _ 0 ss states stateMany top bottom hw (lv_sub hl [0] rfl) hf
    · replace hf := iq c21 hf
      refine lv_iload_n hx hb dX11_pay_24 rfl (lv_at hl 3 rfl) ?_
      refine lv_iconst (v := 1) hx hb dX11_pay_25 (by decide) ?_
      refine lv_ldc hx hb hown (hts _ qw1168) dX11_pay_26 ?_
      obtain ⟨v28, hv28, hf⟩ := ob_e hf
      refine xcallS (ws' := (wM g h 0 ss states stateMany snapshot hasSnapshot text length at_ isWell rd readMany top bottom digit digitMany other otherMany column columnMany carryMany chainMost)) (st1 := [.int v28]) (n := 9) E hw [.int a3, .int 1, .int 999999] [] (met_X11_in l g a3 1 999999 v28 hv28) rfl (by decide) rfl rfl [0, 1, 2, 3, 4, 5, 6, 7, 8] rfl (by decide +kernel) rfl qw1097 k_X11_in ⟨rfl, rfl, Nat.le_of_ble_eq_true rfl, Nat.le_of_ble_eq_true rfl⟩ ⟨Nat.zero_le _, Nat.zero_le _⟩ hl.1 (Nat.le_of_ble_eq_true rfl) dX11_pay_28 rfl (fun H locs hw => ?_)
      refine lv_if_ne (tgt := 40) hx hb dX11_pay_31 (by decide) (fun c31 => ?_) (fun c31 => ?_)
      · replace hf := iq c31 hf
        refine lv_aload_n hx hb dX11_pay_40 rfl (lv_at hl 0 rfl) ?_
        refine lv_iload_n hx hb dX11_pay_41 rfl (lv_at hl 1 rfl) ?_
        obtain ⟨v42, hv42, hf⟩ := ob_e hf
        refine xcallV (ws' := (wM g h 0 ss states stateMany snapshot hasSnapshot text length at_ isWell rd readMany top bottom digit digitMany other otherMany column columnMany carryMany chainMost)) (st1 := [.int v42]) (n := 9) E hw [.int a1] [0, 1, 2, 3, 4, 5, 6, 7, 8] (met_X11_wholeOf l g h 0 ss states stateMany snapshot hasSnapshot text length at_ isWell rd readMany top bottom digit digitMany other otherMany column columnMany carryMany chainMost a1 v42 hv42) rfl (by decide) rfl rfl [9, 10, 11, 12, 13, 14, 15, 16, 17] rfl (by decide +kernel) rfl rfl rfl rfl qw1169 k_X11_wholeOf ⟨rfl, rfl, Nat.le_of_ble_eq_true rfl, Nat.le_of_ble_eq_true rfl⟩ ⟨Nat.zero_le _, Nat.zero_le _⟩ hl.1 (Nat.le_of_ble_eq_true rfl) dX11_pay_42 rfl (fun H locs hw => ?_)
        refine lv_iload_n hx hb dX11_pay_45 rfl (lv_at hl 3 rfl) ?_
        refine lv_icmp_lt (tgt := 58) hx hb dX11_pay_46 (by decide) (fun c46 => ?_) (fun c46 => ?_)
        · replace hf := ip c46 hf
          exact b58 _ _ _ 0 ss states stateMany top bottom hw (lv_sub hl [0] rfl) hf
        · replace hf := iq c46 hf
          refine lv_aload_n hx hb dX11_pay_49 rfl (lv_at hl 0 rfl) ?_
          refine lv_iload_n hx hb dX11_pay_50 rfl (lv_at hl 2 rfl) ?_
          refine lv_iload_n hx hb dX11_pay_51 rfl (lv_at hl 3 rfl) ?_
          obtain ⟨v52, hv52, hf⟩ := ob_e hf
          refine xcallV (ws' := (wM g h 0 ss states stateMany snapshot hasSnapshot text length at_ isWell rd readMany v52.2.1 v52.2.2 digit digitMany other otherMany column columnMany carryMany chainMost)) (st1 := [.int v52.1]) (n := 9) E hw [.int a2, .int a3] [0, 1, 2, 3, 4, 5, 6, 7, 8] (met_X11_makesMore l g h 0 ss states stateMany snapshot hasSnapshot text length at_ isWell rd readMany top bottom digit digitMany other otherMany column columnMany carryMany chainMost a2 a3 v52 hv52) rfl (by decide) rfl rfl [9, 10, 11, 12, 13, 14, 15, 16, 17] rfl (by decide +kernel) rfl rfl rfl rfl qw1173 k_X11_makesMore ⟨rfl, rfl, Nat.le_of_ble_eq_true rfl, Nat.le_of_ble_eq_true rfl⟩ ⟨Nat.zero_le _, Nat.zero_le _⟩ hl.1 (Nat.le_of_ble_eq_true rfl) dX11_pay_52 rfl (fun H locs hw => ?_)
          refine lv_if_le (tgt := 64) hx hb dX11_pay_55 (by decide) (fun c55 => ?_) (fun c55 => ?_)
          · replace hf := ip c55 hf
            refine lv_aload_n hx hb dX11_pay_64 rfl (lv_at hl 0 rfl) ?_
            obtain ⟨v65, hv65, hf⟩ := ob_e hf
            refine xcallV (ws' := (wM g h 0 ss v65.1 v65.2 snapshot hasSnapshot text length at_ isWell rd readMany v52.2.1 v52.2.2 digit digitMany other otherMany column columnMany carryMany chainMost)) (st1 := []) (n := 9) E hw [] [0, 1, 2, 3, 4, 5, 6, 7, 8] (met_X11_records l g h 0 ss states stateMany snapshot hasSnapshot text length at_ isWell rd readMany v52.2.1 v52.2.2 digit digitMany other otherMany column columnMany carryMany chainMost v65 hv65) rfl (by decide) rfl rfl [9, 10, 11, 12, 13, 14, 15, 16, 17] rfl (by decide +kernel) rfl rfl rfl rfl qw1104 k_X11_records ⟨rfl, rfl, Nat.le_of_ble_eq_true rfl, Nat.le_of_ble_eq_true rfl⟩ ⟨Nat.zero_le _, Nat.zero_le _⟩ hl.1 (Nat.le_of_ble_eq_true rfl) dX11_pay_65 rfl (fun H locs hw => ?_)
            refine lv_aload_n hx hb dX11_pay_68 rfl (lv_at hl 0 rfl) ?_
            refine lv_iload_n hx hb dX11_pay_69 rfl (lv_at hl 2 rfl) ?_
            obtain ⟨v70, hv70, hf⟩ := ob_e hf
            refine xcallV (ws' := (wM g h 0 v70 v65.1 v65.2 snapshot hasSnapshot text length at_ isWell rd readMany v52.2.1 v52.2.2 digit digitMany other otherMany column columnMany carryMany chainMost)) (st1 := []) (n := 9) E hw [.int a2] [0, 1, 2, 3, 4, 5, 6, 7, 8] (met_X11_puts l g h 0 ss v65.1 v65.2 snapshot hasSnapshot text length at_ isWell rd readMany v52.2.1 v52.2.2 digit digitMany other otherMany column columnMany carryMany chainMost a2 v70 hv70) rfl (by decide) rfl rfl [9, 10, 11, 12, 13, 14, 15, 16, 17] rfl (by decide +kernel) rfl rfl rfl rfl qw1125 k_X11_puts ⟨rfl, rfl, Nat.le_of_ble_eq_true rfl, Nat.le_of_ble_eq_true rfl⟩ ⟨Nat.zero_le _, Nat.zero_le _⟩ hl.1 (Nat.le_of_ble_eq_true rfl) dX11_pay_70 rfl (fun H locs hw => ?_)
            refine lv_aload_n hx hb dX11_pay_73 rfl (lv_at hl 0 rfl) ?_
            refine lv_iload_n hx hb dX11_pay_74 rfl (lv_at hl 1 rfl) ?_
            refine lv_iload_n hx hb dX11_pay_75 rfl (lv_at hl 3 rfl) ?_
            refine lv_ineg hx hb dX11_pay_76 ?_
            obtain ⟨v77, hv77, hf⟩ := ob_e hf
            refine xcallV (ws' := (wM g h 0 v70 v65.1 v65.2 snapshot hasSnapshot text length at_ isWell rd readMany v77.2.1 v77.2.2 digit digitMany other otherMany column columnMany carryMany chainMost)) (st1 := [.int v77.1]) (n := 9) E hw [.int a1, .int (-a3)] [0, 1, 2, 3, 4, 5, 6, 7, 8] (met_X11_makesMore l g h 0 v70 v65.1 v65.2 snapshot hasSnapshot text length at_ isWell rd readMany v52.2.1 v52.2.2 digit digitMany other otherMany column columnMany carryMany chainMost a1 (-a3) v77 hv77) rfl (by decide) rfl rfl [9, 10, 11, 12, 13, 14, 15, 16, 17] rfl (by decide +kernel) rfl rfl rfl rfl qw1173 k_X11_makesMore ⟨rfl, rfl, Nat.le_of_ble_eq_true rfl, Nat.le_of_ble_eq_true rfl⟩ ⟨Nat.zero_le _, Nat.zero_le _⟩ hl.1 (Nat.le_of_ble_eq_true rfl) dX11_pay_77 rfl (fun H locs hw => ?_)
            refine lv_pop hx hb dX11_pay_80 rfl ?_
            refine lv_aload_n hx hb dX11_pay_81 rfl (lv_at hl 0 rfl) ?_
            refine lv_iload_n hx hb dX11_pay_82 rfl (lv_at hl 1 rfl) ?_
            obtain ⟨v83, hv83, hf⟩ := ob_e hf
            refine xcallV (ws' := (wM g h 0 v83 v65.1 v65.2 snapshot hasSnapshot text length at_ isWell rd readMany v77.2.1 v77.2.2 digit digitMany other otherMany column columnMany carryMany chainMost)) (st1 := []) (n := 9) E hw [.int a1] [0, 1, 2, 3, 4, 5, 6, 7, 8] (met_X11_puts l g h 0 v70 v65.1 v65.2 snapshot hasSnapshot text length at_ isWell rd readMany v77.2.1 v77.2.2 digit digitMany other otherMany column columnMany carryMany chainMost a1 v83 hv83) rfl (by decide) rfl rfl [9, 10, 11, 12, 13, 14, 15, 16, 17] rfl (by decide +kernel) rfl rfl rfl rfl qw1125 k_X11_puts ⟨rfl, rfl, Nat.le_of_ble_eq_true rfl, Nat.le_of_ble_eq_true rfl⟩ ⟨Nat.zero_le _, Nat.zero_le _⟩ hl.1 (Nat.le_of_ble_eq_true rfl) dX11_pay_83 rfl (fun H locs hw => ?_)
            refine lv_aload_n hx hb dX11_pay_86 rfl (lv_at hl 0 rfl) ?_
            refine lv_iload_n hx hb dX11_pay_87 rfl (lv_at hl 1 rfl) ?_
            obtain ⟨v88, hv88, hf⟩ := ob_e hf
            refine xcallV (ws' := (wM g h 0 v83 v65.1 v65.2 snapshot hasSnapshot text length at_ isWell rd readMany v77.2.1 v77.2.2 digit digitMany other otherMany column columnMany carryMany chainMost)) (st1 := [.int v88]) (n := 9) E hw [.int a1] [0, 1, 2, 3, 4, 5, 6, 7, 8] (met_X11_up l g h 0 v83 v65.1 v65.2 snapshot hasSnapshot text length at_ isWell rd readMany v77.2.1 v77.2.2 digit digitMany other otherMany column columnMany carryMany chainMost a1 v88 hv88) rfl (by decide) rfl rfl [9, 10, 11, 12, 13, 14, 15, 16, 17] rfl (by decide +kernel) rfl rfl rfl rfl qw1144 k_X11_up ⟨rfl, rfl, Nat.le_of_ble_eq_true rfl, Nat.le_of_ble_eq_true rfl⟩ ⟨Nat.zero_le _, Nat.zero_le _⟩ hl.1 (Nat.le_of_ble_eq_true rfl) dX11_pay_88 rfl (fun H locs hw => ?_)
            exact hret _ _ _ _ _ _ _ _ _ _ _ (Option.some.inj hf) dX11_pay_91 hw
          · replace hf := iq c55 hf
            exact b58 _ _ _ 0 ss states stateMany v52.2.1 v52.2.2 hw (lv_sub hl [0] rfl) hf
      · replace hf := ip c31 hf
        exact b34 _ _ _ 0 ss states stateMany top bottom hw (lv_sub hl [0] rfl) hf
  · replace hf := ip c10 hf
    refine lv_aload_n hx hb dX11_pay_13 rfl (lv_at hl 0 rfl) ?_
    refine lv_iconst (v := 1) hx hb dX11_pay_14 (by decide) ?_
    obtain ⟨v15, hv15, hf⟩ := ob_e hf
    refine xcallV (ws' := (wM g h v15.2 ss states stateMany snapshot hasSnapshot text length at_ isWell rd readMany top bottom digit digitMany other otherMany column columnMany carryMany chainMost)) (st1 := [.int v15.1]) (n := 9) E hw [.int 1] [0, 1, 2, 3, 4, 5, 6, 7, 8] (met_X11_fails l g h 0 ss states stateMany snapshot hasSnapshot text length at_ isWell rd readMany top bottom digit digitMany other otherMany column columnMany carryMany chainMost 1 v15 hv15) rfl (by decide) rfl rfl [9, 10, 11, 12, 13, 14, 15, 16, 17] rfl (by decide +kernel) rfl rfl rfl rfl qw1100 k_X11_fails ⟨rfl, rfl, Nat.le_of_ble_eq_true rfl, Nat.le_of_ble_eq_true rfl⟩ ⟨Nat.zero_le _, Nat.zero_le _⟩ hl.1 (Nat.le_of_ble_eq_true rfl) dX11_pay_15 rfl (fun H locs hw => ?_)
    exact hret _ _ _ _ _ _ _ _ _ _ _ (Option.some.inj hf) dX11_pay_18 hw
theorem k_X11_append : xKV yX11_append cX11_append 2 (some .int) 1 := ⟨qw1178, qw1179, qw74, qw1180, by decide +kernel, by decide +kernel, by decide +kernel⟩
set_option maxHeartbeats 4000000 in
set_option maxRecDepth 100000 in
theorem met_X11_append (l : Launch) (g : xG) (h : Nat → Nat) (thrown : Int32) (ss : (Nat → Int32)) (states : (Nat → Int32)) (stateMany : Int32) (snapshot : (Nat → Int32)) (hasSnapshot : Int32) (text : (Nat → Int32)) (length : Int32) (at_ : Int32) (isWell : Int32) (rd : (Nat → Int32)) (readMany : Int32) (top : Int64) (bottom : Int64) (digit : (Nat → Int32)) (digitMany : Int32) (other : (Nat → Int32)) (otherMany : Int32) (column : (Nat → Int32)) (columnMany : Int32) (carryMany : Int32) (chainMost : Int32) (a1 : Int32) (out : Int32 × Int32 × (Nat → Int32) × Int32) (hf : f_X11_append thrown text length a1 = some out) : xM l yX11_append (xC yX11_append cX11_append 2 (some .int)) { frames := 1, cells := 0, slots := 0, locals := 22 } g (wM g h thrown ss states stateMany snapshot hasSnapshot text length at_ isWell rd readMany top bottom digit digitMany other otherMany column columnMany carryMany chainMost) [.ref (h 0), .int a1] (some (.int out.1)) (wM g h out.2.1 ss states stateMany snapshot hasSnapshot out.2.2.1 out.2.2.2 at_ isWell rd readMany top bottom digit digitMany other otherMany column columnMany carryMany chainMost) := by
  refine xof (by decide) (Nat.le_of_ble_eq_true rfl) ⟨rfl, rfl⟩ ?_
  intro p e s m below meth c A ls E hr hlocks hw hl hpost hAe
  have hx := E.1.1
  have hb := E.1.2.1
  have hown := E.1.2.2.2.1
  have hts := E.1.2.2.2.2
  generalize hZ : (MQ below (xPost g (wM g h thrown ss states stateMany snapshot hasSnapshot text length at_ isWell rd readMany top bottom digit digitMany other otherMany column columnMany carryMany chainMost) (wM g h out.2.1 ss states stateMany snapshot hasSnapshot out.2.2.1 out.2.2.2 at_ isWell rd readMany top bottom digit digitMany other otherMany column columnMany carryMany chainMost) s.heap.size (some (.int out.1))) [.ref (h 0), .int a1].toArray s 0 0 A) = ZZ
  have hret : ∀ (pc : Nat) (H : Heap) (locs : List Loc) (ls : Array Slot) (v : Int32) (cthrown : Int32) (ctext : (Nat → Int32)) (clength : Int32), (v, cthrown, ctext, clength) = out → decode cX11_append pc = .ok (.ireturn, 1) → xW g A s.heap (wM g h cthrown ss states stateMany snapshot hasSnapshot ctext clength at_ isWell rd readMany top bottom digit digitMany other otherMany column columnMany carryMany chainMost) H locs → W p l e { frames := 1, cells := 0, slots := 0, locals := 22 } s m [.ref (h 0), .int a1].toArray below meth c H locs 0 0 ZZ (F0 m pc ls [.int v]) := by
    intro pc H locs ls v cthrown ctext clength he hd hw
    subst he
    rw [← hZ]
    exact W.iret hx hb hr (hpost H locs hw).1 (hpost H locs hw).2 hd hlocks
  clear hpost
  refine lv_aload_n hx hb dX11_append_0 rfl (lv_at hl 0 rfl) ?_
  refine lv_iconst (v := 0) hx hb dX11_append_1 (by decide) ?_
  refine xput (ws' := (wM g h 0 ss states stateMany snapshot hasSnapshot text length at_ isWell rd readMany top bottom digit digitMany other otherMany column columnMany carryMany chainMost)) E hw 0 rfl rfl 0 (by decide) inw11 tyX11_ok nmX11 qw1019 rfl rfl rfl rfl (Nat.le_of_ble_eq_true rfl) dX11_append_2 rfl (fun H locs hw => ?_)
  refine lv_iload_n hx hb dX11_append_5 rfl (lv_at hl 1 rfl) ?_
  refine lv_bipush (v := 33) hx hb dX11_append_6 (by decide) ?_
  refine lv_bipush (v := 126) hx hb dX11_append_8 (by decide) ?_
  obtain ⟨v10, hv10, hf⟩ := ob_e hf
  refine xcallS (ws' := (wM g h 0 ss states stateMany snapshot hasSnapshot text length at_ isWell rd readMany top bottom digit digitMany other otherMany column columnMany carryMany chainMost)) (st1 := [.int v10]) (n := 9) E hw [.int a1, .int 33, .int 126] [] (met_X11_in l g a1 33 126 v10 hv10) rfl (by decide) rfl rfl [0, 1, 2, 3, 4, 5, 6, 7, 8] rfl (by decide +kernel) rfl qw1097 k_X11_in ⟨rfl, rfl, Nat.le_of_ble_eq_true rfl, Nat.le_of_ble_eq_true rfl⟩ ⟨Nat.zero_le _, Nat.zero_le _⟩ hl.1 (Nat.le_of_ble_eq_true rfl) dX11_append_10 rfl (fun H locs hw => ?_)
  refine lv_if_ne (tgt := 22) hx hb dX11_append_13 (by decide) (fun c13 => ?_) (fun c13 => ?_)
  · replace hf := iq c13 hf
    refine lv_aload_n hx hb dX11_append_22 rfl (lv_at hl 0 rfl) ?_
    refine xget (v := .int length) E hw 0 rfl rfl 7 (by decide) inw11 qw1026 rfl rfl dX11_append_23 ?_
    refine lv_bipush (v := 60) hx hb dX11_append_26 (by decide) ?_
    refine lv_icmp_ne (tgt := 37) hx hb dX11_append_28 (by decide) (fun c28 => ?_) (fun c28 => ?_)
    · replace hf := iq c28 hf
      refine lv_aload_n hx hb dX11_append_37 rfl (lv_at hl 0 rfl) ?_
      refine xget (v := .ref (h 4)) E hw 0 rfl rfl 6 (by decide) inw11 qw1025 rfl rfl dX11_append_38 ?_
      refine lv_aload_n hx hb dX11_append_41 rfl (lv_at hl 0 rfl) ?_
      refine xget (v := .int length) E hw 0 rfl rfl 7 (by decide) inw11 qw1026 rfl rfl dX11_append_42 ?_
      refine lv_iload_n hx hb dX11_append_45 rfl (lv_at hl 1 rfl) ?_
      obtain ⟨hz, hf⟩ := nz hf
      refine xiast (ws' := (wM g h 0 ss states stateMany snapshot hasSnapshot (upd text length.toNatClampNeg a1) length at_ isWell rd readMany top bottom digit digitMany other otherMany column columnMany carryMany chainMost)) E hw 4 rfl hz dX11_append_46 rfl (fun H locs hw => ?_)
      refine lv_aload_n hx hb dX11_append_47 rfl (lv_at hl 0 rfl) ?_
      refine lv_dup hx hb dX11_append_48 rfl ?_
      refine xget (v := .int length) E hw 0 rfl rfl 7 (by decide) inw11 qw1026 rfl rfl dX11_append_49 ?_
      refine lv_iconst (v := 1) hx hb dX11_append_52 (by decide) ?_
      refine lv_iadd hx hb dX11_append_53 ?_
      refine xput (ws' := (wM g h 0 ss states stateMany snapshot hasSnapshot (upd text length.toNatClampNeg a1) (length + 1) at_ isWell rd readMany top bottom digit digitMany other otherMany column columnMany carryMany chainMost)) E hw 0 rfl rfl 7 (by decide) inw11 tyX11_ok nmX11 qw1026 rfl rfl rfl rfl (Nat.le_of_ble_eq_true rfl) dX11_append_54 rfl (fun H locs hw => ?_)
      refine lv_aload_n hx hb dX11_append_57 rfl (lv_at hl 0 rfl) ?_
      refine xget (v := .int (length + 1)) E hw 0 rfl rfl 7 (by decide) inw11 qw1026 rfl rfl dX11_append_58 ?_
      exact hret _ _ _ _ _ _ _ _ (Option.some.inj hf) dX11_append_61 hw
    · replace hf := ip c28 hf
      refine lv_aload_n hx hb dX11_append_31 rfl (lv_at hl 0 rfl) ?_
      refine lv_iconst (v := 2) hx hb dX11_append_32 (by decide) ?_
      obtain ⟨v33, hv33, hf⟩ := ob_e hf
      refine xcallV (ws' := (wM g h v33.2 ss states stateMany snapshot hasSnapshot text length at_ isWell rd readMany top bottom digit digitMany other otherMany column columnMany carryMany chainMost)) (st1 := [.int v33.1]) (n := 9) E hw [.int 2] [0, 1, 2, 3, 4, 5, 6, 7, 8] (met_X11_fails l g h 0 ss states stateMany snapshot hasSnapshot text length at_ isWell rd readMany top bottom digit digitMany other otherMany column columnMany carryMany chainMost 2 v33 hv33) rfl (by decide) rfl rfl [9, 10, 11, 12, 13, 14, 15, 16, 17] rfl (by decide +kernel) rfl rfl rfl rfl qw1100 k_X11_fails ⟨rfl, rfl, Nat.le_of_ble_eq_true rfl, Nat.le_of_ble_eq_true rfl⟩ ⟨Nat.zero_le _, Nat.zero_le _⟩ hl.1 (Nat.le_of_ble_eq_true rfl) dX11_append_33 rfl (fun H locs hw => ?_)
      exact hret _ _ _ _ _ _ _ _ (Option.some.inj hf) dX11_append_36 hw
  · replace hf := ip c13 hf
    refine lv_aload_n hx hb dX11_append_16 rfl (lv_at hl 0 rfl) ?_
    refine lv_iconst (v := 1) hx hb dX11_append_17 (by decide) ?_
    obtain ⟨v18, hv18, hf⟩ := ob_e hf
    refine xcallV (ws' := (wM g h v18.2 ss states stateMany snapshot hasSnapshot text length at_ isWell rd readMany top bottom digit digitMany other otherMany column columnMany carryMany chainMost)) (st1 := [.int v18.1]) (n := 9) E hw [.int 1] [0, 1, 2, 3, 4, 5, 6, 7, 8] (met_X11_fails l g h 0 ss states stateMany snapshot hasSnapshot text length at_ isWell rd readMany top bottom digit digitMany other otherMany column columnMany carryMany chainMost 1 v18 hv18) rfl (by decide) rfl rfl [9, 10, 11, 12, 13, 14, 15, 16, 17] rfl (by decide +kernel) rfl rfl rfl rfl qw1100 k_X11_fails ⟨rfl, rfl, Nat.le_of_ble_eq_true rfl, Nat.le_of_ble_eq_true rfl⟩ ⟨Nat.zero_le _, Nat.zero_le _⟩ hl.1 (Nat.le_of_ble_eq_true rfl) dX11_append_18 rfl (fun H locs hw => ?_)
    exact hret _ _ _ _ _ _ _ _ (Option.some.inj hf) dX11_append_21 hw
theorem k_X11_clearBuffer : xKV yX11_clearBuffer cX11_clearBuffer 2 (some .int) 0 := ⟨qw1182, qw1183, qw74, qw1184, by decide +kernel, by decide +kernel, by decide +kernel⟩
set_option maxHeartbeats 4000000 in
set_option maxRecDepth 100000 in
theorem met_X11_clearBuffer (l : Launch) (g : xG) (h : Nat → Nat) (thrown : Int32) (ss : (Nat → Int32)) (states : (Nat → Int32)) (stateMany : Int32) (snapshot : (Nat → Int32)) (hasSnapshot : Int32) (text : (Nat → Int32)) (length : Int32) (at_ : Int32) (isWell : Int32) (rd : (Nat → Int32)) (readMany : Int32) (top : Int64) (bottom : Int64) (digit : (Nat → Int32)) (digitMany : Int32) (other : (Nat → Int32)) (otherMany : Int32) (column : (Nat → Int32)) (columnMany : Int32) (carryMany : Int32) (chainMost : Int32) (out : Int32 × Int32 × Int32) (hf : f_X11_clearBuffer thrown length = some out) : xM l yX11_clearBuffer (xC yX11_clearBuffer cX11_clearBuffer 2 (some .int)) { frames := 0, cells := 0, slots := 0, locals := 0 } g (wM g h thrown ss states stateMany snapshot hasSnapshot text length at_ isWell rd readMany top bottom digit digitMany other otherMany column columnMany carryMany chainMost) [.ref (h 0)] (some (.int out.1)) (wM g h out.2.1 ss states stateMany snapshot hasSnapshot text out.2.2 at_ isWell rd readMany top bottom digit digitMany other otherMany column columnMany carryMany chainMost) := by
  refine xof (by decide) (Nat.le_of_ble_eq_true rfl) ⟨rfl, rfl⟩ ?_
  intro p e s m below meth c A ls E hr hlocks hw hl hpost hAe
  have hx := E.1.1
  have hb := E.1.2.1
  have hown := E.1.2.2.2.1
  have hts := E.1.2.2.2.2
  generalize hZ : (MQ below (xPost g (wM g h thrown ss states stateMany snapshot hasSnapshot text length at_ isWell rd readMany top bottom digit digitMany other otherMany column columnMany carryMany chainMost) (wM g h out.2.1 ss states stateMany snapshot hasSnapshot text out.2.2 at_ isWell rd readMany top bottom digit digitMany other otherMany column columnMany carryMany chainMost) s.heap.size (some (.int out.1))) [.ref (h 0)].toArray s 0 0 A) = ZZ
  have hret : ∀ (pc : Nat) (H : Heap) (locs : List Loc) (ls : Array Slot) (v : Int32) (cthrown : Int32) (clength : Int32), (v, cthrown, clength) = out → decode cX11_clearBuffer pc = .ok (.ireturn, 1) → xW g A s.heap (wM g h cthrown ss states stateMany snapshot hasSnapshot text clength at_ isWell rd readMany top bottom digit digitMany other otherMany column columnMany carryMany chainMost) H locs → W p l e { frames := 0, cells := 0, slots := 0, locals := 0 } s m [.ref (h 0)].toArray below meth c H locs 0 0 ZZ (F0 m pc ls [.int v]) := by
    intro pc H locs ls v cthrown clength he hd hw
    subst he
    rw [← hZ]
    exact W.iret hx hb hr (hpost H locs hw).1 (hpost H locs hw).2 hd hlocks
  clear hpost
  refine lv_aload_n hx hb dX11_clearBuffer_0 rfl (lv_at hl 0 rfl) ?_
  refine lv_iconst (v := 0) hx hb dX11_clearBuffer_1 (by decide) ?_
  refine xput (ws' := (wM g h 0 ss states stateMany snapshot hasSnapshot text length at_ isWell rd readMany top bottom digit digitMany other otherMany column columnMany carryMany chainMost)) E hw 0 rfl rfl 0 (by decide) inw11 tyX11_ok nmX11 qw1019 rfl rfl rfl rfl (Nat.le_of_ble_eq_true rfl) dX11_clearBuffer_2 rfl (fun H locs hw => ?_)
  refine lv_aload_n hx hb dX11_clearBuffer_5 rfl (lv_at hl 0 rfl) ?_
  refine xget (v := .int length) E hw 0 rfl rfl 7 (by decide) inw11 qw1026 rfl rfl dX11_clearBuffer_6 ?_
  refine lv_istore_n (lv' := [(1, .int length), (0, .ref (h 0))]) hx hb dX11_clearBuffer_9 rfl hl (by decide) rfl (fun ls hl => ?_)
  refine lv_aload_n hx hb dX11_clearBuffer_10 rfl (lv_at hl 1 rfl) ?_
  refine lv_iconst (v := 0) hx hb dX11_clearBuffer_11 (by decide) ?_
  refine xput (ws' := (wM g h 0 ss states stateMany snapshot hasSnapshot text 0 at_ isWell rd readMany top bottom digit digitMany other otherMany column columnMany carryMany chainMost)) E hw 0 rfl rfl 7 (by decide) inw11 tyX11_ok nmX11 qw1026 rfl rfl rfl rfl (Nat.le_of_ble_eq_true rfl) dX11_clearBuffer_12 rfl (fun H locs hw => ?_)
  refine lv_iload_n hx hb dX11_clearBuffer_15 rfl (lv_at hl 0 rfl) ?_
  exact hret _ _ _ _ _ _ _ (Option.some.inj hf) dX11_clearBuffer_16 hw
theorem k_X11_signAt : xKV yX11_signAt cX11_signAt 1 (some .int) 0 := ⟨qw1199, qw35, qw74, qw1200, by decide +kernel, by decide +kernel, by decide +kernel⟩
set_option maxHeartbeats 4000000 in
set_option maxRecDepth 100000 in
theorem met_X11_signAt (l : Launch) (g : xG) (h : Nat → Nat) (thrown : Int32) (ss : (Nat → Int32)) (states : (Nat → Int32)) (stateMany : Int32) (snapshot : (Nat → Int32)) (hasSnapshot : Int32) (text : (Nat → Int32)) (length : Int32) (at_ : Int32) (isWell : Int32) (rd : (Nat → Int32)) (readMany : Int32) (top : Int64) (bottom : Int64) (digit : (Nat → Int32)) (digitMany : Int32) (other : (Nat → Int32)) (otherMany : Int32) (column : (Nat → Int32)) (columnMany : Int32) (carryMany : Int32) (chainMost : Int32) (out : Int32) (hf : f_X11_signAt text length at_ = some out) : xM l yX11_signAt (xC yX11_signAt cX11_signAt 1 (some .int)) { frames := 0, cells := 0, slots := 0, locals := 0 } g (wM g h thrown ss states stateMany snapshot hasSnapshot text length at_ isWell rd readMany top bottom digit digitMany other otherMany column columnMany carryMany chainMost) [.ref (h 0)] (some (.int out)) (wM g h thrown ss states stateMany snapshot hasSnapshot text length at_ isWell rd readMany top bottom digit digitMany other otherMany column columnMany carryMany chainMost) := by
  refine xof (by decide) (Nat.le_of_ble_eq_true rfl) ⟨rfl, rfl⟩ ?_
  intro p e s m below meth c A ls E hr hlocks hw hl hpost hAe
  have hx := E.1.1
  have hb := E.1.2.1
  have hown := E.1.2.2.2.1
  have hts := E.1.2.2.2.2
  generalize hZ : (MQ below (xPost g (wM g h thrown ss states stateMany snapshot hasSnapshot text length at_ isWell rd readMany top bottom digit digitMany other otherMany column columnMany carryMany chainMost) (wM g h thrown ss states stateMany snapshot hasSnapshot text length at_ isWell rd readMany top bottom digit digitMany other otherMany column columnMany carryMany chainMost) s.heap.size (some (.int out))) [.ref (h 0)].toArray s 0 0 A) = ZZ
  have hret : ∀ (pc : Nat) (H : Heap) (locs : List Loc) (ls : Array Slot) (v : Int32), v = out → decode cX11_signAt pc = .ok (.ireturn, 1) → xW g A s.heap (wM g h thrown ss states stateMany snapshot hasSnapshot text length at_ isWell rd readMany top bottom digit digitMany other otherMany column columnMany carryMany chainMost) H locs → W p l e { frames := 0, cells := 0, slots := 0, locals := 0 } s m [.ref (h 0)].toArray below meth c H locs 0 0 ZZ (F0 m pc ls [.int v]) := by
    intro pc H locs ls v he hd hw
    subst he
    rw [← hZ]
    exact W.iret hx hb hr (hpost H locs hw).1 (hpost H locs hw).2 hd hlocks
  clear hpost
  refine lv_aload_n hx hb dX11_signAt_0 rfl (lv_at hl 0 rfl) ?_
  refine xget (v := .int at_) E hw 0 rfl rfl 8 (by decide) inw11 qw1027 rfl rfl dX11_signAt_1 ?_
  refine lv_aload_n hx hb dX11_signAt_4 rfl (lv_at hl 0 rfl) ?_
  refine xget (v := .int length) E hw 0 rfl rfl 7 (by decide) inw11 qw1026 rfl rfl dX11_signAt_5 ?_
  refine lv_icmp_ge (tgt := 23) hx hb dX11_signAt_8 (by decide) (fun c8 => ?_) (fun c8 => ?_)
  · replace hf := ip c8 hf
    refine lv_iconst (v := 0) hx hb dX11_signAt_23 (by decide) ?_
    exact hret _ _ _ _ _ (Option.some.inj hf) dX11_signAt_24 hw
  · replace hf := iq c8 hf
    refine lv_aload_n hx hb dX11_signAt_11 rfl (lv_at hl 0 rfl) ?_
    refine xget (v := .ref (h 4)) E hw 0 rfl rfl 6 (by decide) inw11 qw1025 rfl rfl dX11_signAt_12 ?_
    refine lv_aload_n hx hb dX11_signAt_15 rfl (lv_at hl 0 rfl) ?_
    refine xget (v := .int at_) E hw 0 rfl rfl 8 (by decide) inw11 qw1027 rfl rfl dX11_signAt_16 ?_
    obtain ⟨hz, hf⟩ := nz hf
    refine xiald E hw 4 rfl hz dX11_signAt_19 ?_
    refine lv_goto (tgt := 24) hx hb dX11_signAt_20 (by decide) ?_
    exact hret _ _ _ _ _ (Option.some.inj hf) dX11_signAt_24 hw
theorem k_X11_takes : xKV yX11_takes cX11_takes 4 (some .int) 2 := ⟨qw1207, qw37, qw74, qw1208, by decide +kernel, by decide +kernel, by decide +kernel⟩
set_option maxHeartbeats 4000000 in
set_option maxRecDepth 100000 in
theorem met_X11_takes (l : Launch) (g : xG) (h : Nat → Nat) (thrown : Int32) (ss : (Nat → Int32)) (states : (Nat → Int32)) (stateMany : Int32) (snapshot : (Nat → Int32)) (hasSnapshot : Int32) (text : (Nat → Int32)) (length : Int32) (at_ : Int32) (isWell : Int32) (rd : (Nat → Int32)) (readMany : Int32) (top : Int64) (bottom : Int64) (digit : (Nat → Int32)) (digitMany : Int32) (other : (Nat → Int32)) (otherMany : Int32) (column : (Nat → Int32)) (columnMany : Int32) (carryMany : Int32) (chainMost : Int32) (a1 : Int32) (a2 : Int32) (out : Int32 × Int32 × Int32) (hf : f_X11_takes text length at_ isWell a1 a2 = some out) : xM l yX11_takes (xC yX11_takes cX11_takes 4 (some .int)) { frames := 1, cells := 0, slots := 0, locals := 22 } g (wM g h thrown ss states stateMany snapshot hasSnapshot text length at_ isWell rd readMany top bottom digit digitMany other otherMany column columnMany carryMany chainMost) [.ref (h 0), .int a1, .int a2] (some (.int out.1)) (wM g h thrown ss states stateMany snapshot hasSnapshot text length out.2.1 out.2.2 rd readMany top bottom digit digitMany other otherMany column columnMany carryMany chainMost) := by
  refine xof (by decide) (Nat.le_of_ble_eq_true rfl) ⟨rfl, rfl⟩ ?_
  intro p e s m below meth c A ls E hr hlocks hw hl hpost hAe
  have hx := E.1.1
  have hb := E.1.2.1
  have hown := E.1.2.2.2.1
  have hts := E.1.2.2.2.2
  generalize hZ : (MQ below (xPost g (wM g h thrown ss states stateMany snapshot hasSnapshot text length at_ isWell rd readMany top bottom digit digitMany other otherMany column columnMany carryMany chainMost) (wM g h thrown ss states stateMany snapshot hasSnapshot text length out.2.1 out.2.2 rd readMany top bottom digit digitMany other otherMany column columnMany carryMany chainMost) s.heap.size (some (.int out.1))) [.ref (h 0), .int a1, .int a2].toArray s 0 0 A) = ZZ
  have hret : ∀ (pc : Nat) (H : Heap) (locs : List Loc) (ls : Array Slot) (v : Int32) (cat_ : Int32) (cisWell : Int32), (v, cat_, cisWell) = out → decode cX11_takes pc = .ok (.ireturn, 1) → xW g A s.heap (wM g h thrown ss states stateMany snapshot hasSnapshot text length cat_ cisWell rd readMany top bottom digit digitMany other otherMany column columnMany carryMany chainMost) H locs → W p l e { frames := 1, cells := 0, slots := 0, locals := 22 } s m [.ref (h 0), .int a1, .int a2].toArray below meth c H locs 0 0 ZZ (F0 m pc ls [.int v]) := by
    intro pc H locs ls v cat_ cisWell he hd hw
    subst he
    rw [← hZ]
    exact W.iret hx hb hr (hpost H locs hw).1 (hpost H locs hw).2 hd hlocks
  clear hpost
  have b53 : ∀ (H : Heap) (locs : List Loc) (ls : Array Slot) (at_ : Int32) (isWell : Int32) (x3 : Int32) (t0 : Int32) (t1 : Int32), xW g A s.heap (wM g h thrown ss states stateMany snapshot hasSnapshot text length at_ isWell rd readMany top bottom digit digitMany other otherMany column columnMany carryMany chainMost) H locs → lv_has ls 4 [(3, .int x3)] → f_X11_takes_b53 text length at_ isWell x3 t0 t1 = some out → W p l e { frames := 1, cells := 0, slots := 0, locals := 22 } s m [.ref (h 0), .int a1, .int a2].toArray below meth c H locs 0 0 ZZ (F0 m 53 ls [.int t0, .int t1, .ref (h 0)]) := by
    intro H locs ls at_ isWell x3 t0 t1 hw hl hf
    refine lv_iadd hx hb dX11_takes_53 ?_
    refine xput (ws' := (wM g h thrown ss states stateMany snapshot hasSnapshot text length (t1 + t0) isWell rd readMany top bottom digit digitMany other otherMany column columnMany carryMany chainMost)) E hw 0 rfl rfl 8 (by decide) inw11 tyX11_ok nmX11 qw1027 rfl rfl rfl rfl (Nat.le_of_ble_eq_true rfl) dX11_takes_54 rfl (fun H locs hw => ?_)
    refine lv_iload_n hx hb dX11_takes_57 rfl (lv_at hl 0 rfl) ?_
    exact hret _ _ _ _ _ _ _ (Option.some.inj hf) dX11_takes_58 hw
  have b25 : ∀ (H : Heap) (locs : List Loc) (ls : Array Slot) (at_ : Int32) (isWell : Int32) (t0 : Int32), xW g A s.heap (wM g h thrown ss states stateMany snapshot hasSnapshot text length at_ isWell rd readMany top bottom digit digitMany other otherMany column columnMany carryMany chainMost) H locs → lv_has ls 4 [(0, .ref (h 0))] → f_X11_takes_b25 text length at_ isWell t0 = some out → W p l e { frames := 1, cells := 0, slots := 0, locals := 22 } s m [.ref (h 0), .int a1, .int a2].toArray below meth c H locs 0 0 ZZ (F0 m 25 ls [.int t0, .ref (h 0)]) := by
    intro H locs ls at_ isWell t0 hw hl hf
    obtain ⟨hz, hf⟩ := nz hf
    refine xput (ws' := (wM g h thrown ss states stateMany snapshot hasSnapshot text length at_ t0 rd readMany top bottom digit digitMany other otherMany column columnMany carryMany chainMost)) E hw 0 rfl rfl 9 (by decide) inw11 tyX11_ok nmX11 qw1028 rfl rfl (xbool hz).1 (xbool hz).2 (Nat.le_of_ble_eq_true rfl) dX11_takes_25 rfl (fun H locs hw => ?_)
    refine lv_aload_n hx hb dX11_takes_28 rfl (lv_at hl 0 rfl) ?_
    obtain ⟨v29, hv29, hf⟩ := ob_e hf
    refine xcallV (ws' := (wM g h thrown ss states stateMany snapshot hasSnapshot text length at_ t0 rd readMany top bottom digit digitMany other otherMany column columnMany carryMany chainMost)) (st1 := [.int v29]) (n := 9) E hw [] [0, 1, 2, 3, 4, 5, 6, 7, 8] (met_X11_signAt l g h thrown ss states stateMany snapshot hasSnapshot text length at_ t0 rd readMany top bottom digit digitMany other otherMany column columnMany carryMany chainMost v29 hv29) rfl (by decide) rfl rfl [9, 10, 11, 12, 13, 14, 15, 16, 17] rfl (by decide +kernel) rfl rfl rfl rfl qw1197 k_X11_signAt ⟨rfl, rfl, Nat.le_of_ble_eq_true rfl, Nat.le_of_ble_eq_true rfl⟩ ⟨Nat.zero_le _, Nat.zero_le _⟩ hl.1 (Nat.le_of_ble_eq_true rfl) dX11_takes_29 rfl (fun H locs hw => ?_)
    refine lv_bipush (v := 48) hx hb dX11_takes_32 (by decide) ?_
    refine lv_isub hx hb dX11_takes_34 ?_
    refine lv_istore_n (lv' := [(3, .int (v29 - 48)), (0, .ref (h 0))]) hx hb dX11_takes_35 rfl hl (by decide) rfl (fun ls hl => ?_)
    refine lv_aload_n hx hb dX11_takes_36 rfl (lv_at hl 1 rfl) ?_
    refine lv_dup hx hb dX11_takes_37 rfl ?_
    refine xget (v := .int at_) E hw 0 rfl rfl 8 (by decide) inw11 qw1027 rfl rfl dX11_takes_38 ?_
    refine lv_aload_n hx hb dX11_takes_41 rfl (lv_at hl 1 rfl) ?_
    refine xget (v := .int t0) E hw 0 rfl rfl 9 (by decide) inw11 qw1028 rfl rfl dX11_takes_42 ?_
    refine lv_if_eq (tgt := 52) hx hb dX11_takes_45 (by decide) (fun c45 => ?_) (fun c45 => ?_)
    · replace hf := ip c45 hf
      refine lv_iconst (v := 0) hx hb dX11_takes_52 (by decide) ?_
      exact b53 _ _ _ at_ t0 (v29 - 48) 0 at_ hw (lv_sub hl [0] rfl) hf
    · replace hf := iq c45 hf
      refine lv_iconst (v := 1) hx hb dX11_takes_48 (by decide) ?_
      refine lv_goto (tgt := 53) hx hb dX11_takes_49 (by decide) ?_
      exact b53 _ _ _ at_ t0 (v29 - 48) 1 at_ hw (lv_sub hl [0] rfl) hf
  have b24 : ∀ (H : Heap) (locs : List Loc) (ls : Array Slot) (at_ : Int32) (isWell : Int32), xW g A s.heap (wM g h thrown ss states stateMany snapshot hasSnapshot text length at_ isWell rd readMany top bottom digit digitMany other otherMany column columnMany carryMany chainMost) H locs → lv_has ls 4 [(0, .ref (h 0))] → f_X11_takes_b24 text length at_ isWell = some out → W p l e { frames := 1, cells := 0, slots := 0, locals := 22 } s m [.ref (h 0), .int a1, .int a2].toArray below meth c H locs 0 0 ZZ (F0 m 24 ls [.ref (h 0)]) := by
    intro H locs ls at_ isWell hw hl hf
    refine lv_iconst (v := 0) hx hb dX11_takes_24 (by decide) ?_
    exact b25 _ _ _ at_ isWell 0 hw (lv_sub hl [0] rfl) hf
  refine lv_aload_n hx hb dX11_takes_0 rfl (lv_at hl 0 rfl) ?_
  refine lv_aload_n hx hb dX11_takes_1 rfl (lv_at hl 0 rfl) ?_
  refine xget (v := .int isWell) E hw 0 rfl rfl 9 (by decide) inw11 qw1028 rfl rfl dX11_takes_2 ?_
  refine lv_if_eq (tgt := 24) hx hb dX11_takes_5 (by decide) (fun c5 => ?_) (fun c5 => ?_)
  · replace hf := ip c5 hf
    exact b24 _ _ _ at_ isWell hw (lv_sub hl [0] rfl) hf
  · replace hf := iq c5 hf
    refine lv_aload_n hx hb dX11_takes_8 rfl (lv_at hl 0 rfl) ?_
    obtain ⟨v9, hv9, hf⟩ := ob_e hf
    refine xcallV (ws' := (wM g h thrown ss states stateMany snapshot hasSnapshot text length at_ isWell rd readMany top bottom digit digitMany other otherMany column columnMany carryMany chainMost)) (st1 := [.int v9, .ref (h 0)]) (n := 9) E hw [] [0, 1, 2, 3, 4, 5, 6, 7, 8] (met_X11_signAt l g h thrown ss states stateMany snapshot hasSnapshot text length at_ isWell rd readMany top bottom digit digitMany other otherMany column columnMany carryMany chainMost v9 hv9) rfl (by decide) rfl rfl [9, 10, 11, 12, 13, 14, 15, 16, 17] rfl (by decide +kernel) rfl rfl rfl rfl qw1197 k_X11_signAt ⟨rfl, rfl, Nat.le_of_ble_eq_true rfl, Nat.le_of_ble_eq_true rfl⟩ ⟨Nat.zero_le _, Nat.zero_le _⟩ hl.1 (Nat.le_of_ble_eq_true rfl) dX11_takes_9 rfl (fun H locs hw => ?_)
    refine lv_iload_n hx hb dX11_takes_12 rfl (lv_at hl 1 rfl) ?_
    refine lv_iload_n hx hb dX11_takes_13 rfl (lv_at hl 2 rfl) ?_
    obtain ⟨v14, hv14, hf⟩ := ob_e hf
    refine xcallS (ws' := (wM g h thrown ss states stateMany snapshot hasSnapshot text length at_ isWell rd readMany top bottom digit digitMany other otherMany column columnMany carryMany chainMost)) (st1 := [.int v14, .ref (h 0)]) (n := 9) E hw [.int v9, .int a1, .int a2] [] (met_X11_in l g v9 a1 a2 v14 hv14) rfl (by decide) rfl rfl [0, 1, 2, 3, 4, 5, 6, 7, 8] rfl (by decide +kernel) rfl qw1097 k_X11_in ⟨rfl, rfl, Nat.le_of_ble_eq_true rfl, Nat.le_of_ble_eq_true rfl⟩ ⟨Nat.zero_le _, Nat.zero_le _⟩ hl.1 (Nat.le_of_ble_eq_true rfl) dX11_takes_14 rfl (fun H locs hw => ?_)
    refine lv_if_eq (tgt := 24) hx hb dX11_takes_17 (by decide) (fun c17 => ?_) (fun c17 => ?_)
    · replace hf := ip c17 hf
      exact b24 _ _ _ at_ isWell hw (lv_sub hl [0] rfl) hf
    · replace hf := iq c17 hf
      refine lv_iconst (v := 1) hx hb dX11_takes_20 (by decide) ?_
      refine lv_goto (tgt := 25) hx hb dX11_takes_21 (by decide) ?_
      exact b25 _ _ _ at_ isWell 1 hw (lv_sub hl [0] rfl) hf
theorem k_X11_value16 : xKV yX11_value16 cX11_value16 2 (some .int) 0 := ⟨qw1219, qw40, qw74, qw1220, by decide +kernel, by decide +kernel, by decide +kernel⟩
set_option maxHeartbeats 4000000 in
set_option maxRecDepth 100000 in
theorem met_X11_value16 (l : Launch) (g : xG) (h : Nat → Nat) (thrown : Int32) (ss : (Nat → Int32)) (states : (Nat → Int32)) (stateMany : Int32) (snapshot : (Nat → Int32)) (hasSnapshot : Int32) (text : (Nat → Int32)) (length : Int32) (at_ : Int32) (isWell : Int32) (rd : (Nat → Int32)) (readMany : Int32) (top : Int64) (bottom : Int64) (digit : (Nat → Int32)) (digitMany : Int32) (other : (Nat → Int32)) (otherMany : Int32) (column : (Nat → Int32)) (columnMany : Int32) (carryMany : Int32) (chainMost : Int32) (out : Int32) (hf : f_X11_value16 text length at_ = some out) : xM l yX11_value16 (xC yX11_value16 cX11_value16 2 (some .int)) { frames := 1, cells := 0, slots := 0, locals := 22 } g (wM g h thrown ss states stateMany snapshot hasSnapshot text length at_ isWell rd readMany top bottom digit digitMany other otherMany column columnMany carryMany chainMost) [.ref (h 0)] (some (.int out)) (wM g h thrown ss states stateMany snapshot hasSnapshot text length at_ isWell rd readMany top bottom digit digitMany other otherMany column columnMany carryMany chainMost) := by
  refine xof (by decide) (Nat.le_of_ble_eq_true rfl) ⟨rfl, rfl⟩ ?_
  intro p e s m below meth c A ls E hr hlocks hw hl hpost hAe
  have hx := E.1.1
  have hb := E.1.2.1
  have hown := E.1.2.2.2.1
  have hts := E.1.2.2.2.2
  generalize hZ : (MQ below (xPost g (wM g h thrown ss states stateMany snapshot hasSnapshot text length at_ isWell rd readMany top bottom digit digitMany other otherMany column columnMany carryMany chainMost) (wM g h thrown ss states stateMany snapshot hasSnapshot text length at_ isWell rd readMany top bottom digit digitMany other otherMany column columnMany carryMany chainMost) s.heap.size (some (.int out))) [.ref (h 0)].toArray s 0 0 A) = ZZ
  have hret : ∀ (pc : Nat) (H : Heap) (locs : List Loc) (ls : Array Slot) (v : Int32), v = out → decode cX11_value16 pc = .ok (.ireturn, 1) → xW g A s.heap (wM g h thrown ss states stateMany snapshot hasSnapshot text length at_ isWell rd readMany top bottom digit digitMany other otherMany column columnMany carryMany chainMost) H locs → W p l e { frames := 1, cells := 0, slots := 0, locals := 22 } s m [.ref (h 0)].toArray below meth c H locs 0 0 ZZ (F0 m pc ls [.int v]) := by
    intro pc H locs ls v he hd hw
    subst he
    rw [← hZ]
    exact W.iret hx hb hr (hpost H locs hw).1 (hpost H locs hw).2 hd hlocks
  clear hpost
  refine lv_aload_n hx hb dX11_value16_0 rfl (lv_at hl 0 rfl) ?_
  obtain ⟨v1, hv1, hf⟩ := ob_e hf
  refine xcallV (ws' := (wM g h thrown ss states stateMany snapshot hasSnapshot text length at_ isWell rd readMany top bottom digit digitMany other otherMany column columnMany carryMany chainMost)) (st1 := [.int v1]) (n := 9) E hw [] [0, 1, 2, 3, 4, 5, 6, 7, 8] (met_X11_signAt l g h thrown ss states stateMany snapshot hasSnapshot text length at_ isWell rd readMany top bottom digit digitMany other otherMany column columnMany carryMany chainMost v1 hv1) rfl (by decide) rfl rfl [9, 10, 11, 12, 13, 14, 15, 16, 17] rfl (by decide +kernel) rfl rfl rfl rfl qw1197 k_X11_signAt ⟨rfl, rfl, Nat.le_of_ble_eq_true rfl, Nat.le_of_ble_eq_true rfl⟩ ⟨Nat.zero_le _, Nat.zero_le _⟩ hl.1 (Nat.le_of_ble_eq_true rfl) dX11_value16_1 rfl (fun H locs hw => ?_)
  refine lv_istore_n (lv' := [(1, .int v1), (0, .ref (h 0))]) hx hb dX11_value16_4 rfl hl (by decide) rfl (fun ls hl => ?_)
  refine lv_iload_n hx hb dX11_value16_5 rfl (lv_at hl 0 rfl) ?_
  refine lv_bipush (v := 48) hx hb dX11_value16_6 (by decide) ?_
  refine lv_bipush (v := 57) hx hb dX11_value16_8 (by decide) ?_
  obtain ⟨v10, hv10, hf⟩ := ob_e hf
  refine xcallS (ws' := (wM g h thrown ss states stateMany snapshot hasSnapshot text length at_ isWell rd readMany top bottom digit digitMany other otherMany column columnMany carryMany chainMost)) (st1 := [.int v10]) (n := 9) E hw [.int v1, .int 48, .int 57] [] (met_X11_in l g v1 48 57 v10 hv10) rfl (by decide) rfl rfl [0, 1, 2, 3, 4, 5, 6, 7, 8] rfl (by decide +kernel) rfl qw1097 k_X11_in ⟨rfl, rfl, Nat.le_of_ble_eq_true rfl, Nat.le_of_ble_eq_true rfl⟩ ⟨Nat.zero_le _, Nat.zero_le _⟩ hl.1 (Nat.le_of_ble_eq_true rfl) dX11_value16_10 rfl (fun H locs hw => ?_)
  refine lv_if_eq (tgt := 23) hx hb dX11_value16_13 (by decide) (fun c13 => ?_) (fun c13 => ?_)
  · replace hf := ip c13 hf
    refine lv_iload_n hx hb dX11_value16_23 rfl (lv_at hl 0 rfl) ?_
    refine lv_bipush (v := 97) hx hb dX11_value16_24 (by decide) ?_
    refine lv_bipush (v := 102) hx hb dX11_value16_26 (by decide) ?_
    obtain ⟨v28, hv28, hf⟩ := ob_e hf
    refine xcallS (ws' := (wM g h thrown ss states stateMany snapshot hasSnapshot text length at_ isWell rd readMany top bottom digit digitMany other otherMany column columnMany carryMany chainMost)) (st1 := [.int v28]) (n := 9) E hw [.int v1, .int 97, .int 102] [] (met_X11_in l g v1 97 102 v28 hv28) rfl (by decide) rfl rfl [0, 1, 2, 3, 4, 5, 6, 7, 8] rfl (by decide +kernel) rfl qw1097 k_X11_in ⟨rfl, rfl, Nat.le_of_ble_eq_true rfl, Nat.le_of_ble_eq_true rfl⟩ ⟨Nat.zero_le _, Nat.zero_le _⟩ hl.1 (Nat.le_of_ble_eq_true rfl) dX11_value16_28 rfl (fun H locs hw => ?_)
    refine lv_if_eq (tgt := 44) hx hb dX11_value16_31 (by decide) (fun c31 => ?_) (fun c31 => ?_)
    · replace hf := ip c31 hf
      refine lv_iconst (v := (-1)) hx hb dX11_value16_44 (by decide) ?_
      exact hret _ _ _ _ _ (Option.some.inj hf) dX11_value16_45 hw
    · replace hf := iq c31 hf
      refine lv_iload_n hx hb dX11_value16_34 rfl (lv_at hl 0 rfl) ?_
      refine lv_bipush (v := 97) hx hb dX11_value16_35 (by decide) ?_
      refine lv_isub hx hb dX11_value16_37 ?_
      refine lv_bipush (v := 10) hx hb dX11_value16_38 (by decide) ?_
      refine lv_iadd hx hb dX11_value16_40 ?_
      refine lv_goto (tgt := 45) hx hb dX11_value16_41 (by decide) ?_
      exact hret _ _ _ _ _ (Option.some.inj hf) dX11_value16_45 hw
  · replace hf := iq c13 hf
    refine lv_iload_n hx hb dX11_value16_16 rfl (lv_at hl 0 rfl) ?_
    refine lv_bipush (v := 48) hx hb dX11_value16_17 (by decide) ?_
    refine lv_isub hx hb dX11_value16_19 ?_
    refine lv_goto (tgt := 45) hx hb dX11_value16_20 (by decide) ?_
    exact hret _ _ _ _ _ (Option.some.inj hf) dX11_value16_45 hw
