theorem k_X1_form : xKV yX1_form cX1_form 15 none 3 := ⟨qw644, qw645, qw20, qw646, by decide +kernel, by decide +kernel, by decide +kernel⟩
set_option maxHeartbeats 4000000 in
set_option maxRecDepth 100000 in
theorem met_X1_form (l : Launch) (g : xG) (h : Nat → Nat) (o : Nat) (col : CC) (a1 : Int32) (a2 : Int32) (a3 : Int32) (out : CC) (hf : f_X1_form col a1 a2 a3 = some out) : xM l yX1_form (xC yX1_form cX1_form 15 none) { frames := 2, cells := 0, slots := 0, locals := 47 } g (wD g h o col) [.ref (h o), .int a1, .int a2, .int a3] none (wD g h o out) := by
  refine xof (by decide) (Nat.le_of_ble_eq_true rfl) ⟨rfl, rfl⟩ ?_
  intro p e s m below meth c A ls E hr hlocks hw hl hpost hAe
  have hx := E.1.1
  have hb := E.1.2.1
  have hown := E.1.2.2.2.1
  have hts := E.1.2.2.2.2
  generalize hZ : (MQ below (xPost g (wD g h o col) (wD g h o out) s.heap.size none) [.ref (h o), .int a1, .int a2, .int a3].toArray s 0 0 A) = ZZ
  have hret : ∀ (pc : Nat) (H : Heap) (locs : List Loc) (ls : Array Slot) (ccol : CC), ccol = out → decode cX1_form pc = .ok (.return_, 1) → xW g A s.heap (wD g h o ccol) H locs → W p l e { frames := 2, cells := 0, slots := 0, locals := 47 } s m [.ref (h o), .int a1, .int a2, .int a3].toArray below meth c H locs 0 0 ZZ (F0 m pc ls []) := by
    intro pc H locs ls ccol he hd hw
    subst he
    rw [← hZ]
    exact W.vret hx hb hr (hpost H locs hw).1 (hpost H locs hw).2 hd hlocks
  clear hpost
  have b179 : ∀ (H : Heap) (locs : List Loc) (ls : Array Slot) (col : CC) (x4 : Int32) (x9 : Int64), xW g A s.heap (wD g h o col) H locs → lv_has ls 15 [(0, .ref (h o)), (4, .int x4), (9, .long x9)] → f_X1_form_b179 col x4 x9 = some out → W p l e { frames := 2, cells := 0, slots := 0, locals := 47 } s m [.ref (h o), .int a1, .int a2, .int a3].toArray below meth c H locs 0 0 ZZ (F0 m 179 ls []) := by
    intro H locs ls col x4 x9 hw hl hf
    refine lv_aload_n hx hb dX1_form_179 rfl (lv_at hl 0 rfl) ?_
    refine lv_iload hx hb dX1_form_180 (lv_at hl 1 rfl) ?_
    refine xput (ws' := (wD g h o (x4, col.2.1, col.2.2.1, col.2.2.2))) E hw 0 rfl rfl 0 (by decide) inw1 tyX1_ok nmX1 qw171 rfl rfl rfl rfl (Nat.le_of_ble_eq_true rfl) dX1_form_182 rfl (fun H locs hw => ?_)
    refine lv_lload hx hb dX1_form_185 (lv_at hl 2 rfl) ?_
    refine lv_lconst (v := 1) hx hb dX1_form_187 (by decide) ?_
    refine xlc_ne (tgt := 218) hx hb dX1_form_188 dX1_form_189 (by decide) (fun c188 => ?_) (fun c188 => ?_)
    · replace hf := iq c188 hf
      exact hret _ _ _ _ _ (Option.some.inj hf) dX1_form_218 hw
    · replace hf := ip c188 hf
      refine lv_iload hx hb dX1_form_192 (lv_at hl 1 rfl) ?_
      refine lv_aload_n hx hb dX1_form_194 rfl (lv_at hl 0 rfl) ?_
      refine xget (v := .ref (h (o + 1))) E hw 0 rfl rfl 3 (by decide) inw1 qw176 rfl rfl dX1_form_195 ?_
      refine xalen (v := 31) E hw 1 0 rfl rfl rfl dX1_form_198 ?_
      refine lv_icmp_ge (tgt := 218) hx hb dX1_form_199 (by decide) (fun c199 => ?_) (fun c199 => ?_)
      · replace hf := ip c199 hf
        exact hret _ _ _ _ _ (Option.some.inj hf) dX1_form_218 hw
      · replace hf := iq c199 hf
        refine lv_aload_n hx hb dX1_form_202 rfl (lv_at hl 0 rfl) ?_
        refine xget (v := .ref (h (o + 1))) E hw 0 rfl rfl 3 (by decide) inw1 qw176 rfl rfl dX1_form_203 ?_
        refine lv_iload hx hb dX1_form_206 (lv_at hl 1 rfl) ?_
        refine lv_iconst (v := 1) hx hb dX1_form_208 (by decide) ?_
        obtain ⟨hz, hf⟩ := nz hf
        refine xiast (ws' := (wD g h o (x4, col.2.1, col.2.2.1, (upd col.2.2.2 x4.toNatClampNeg 1)))) E hw 1 rfl hz dX1_form_209 rfl (fun H locs hw => ?_)
        refine lv_aload_n hx hb dX1_form_210 rfl (lv_at hl 0 rfl) ?_
        refine lv_iload hx hb dX1_form_211 (lv_at hl 1 rfl) ?_
        refine lv_iconst (v := 1) hx hb dX1_form_213 (by decide) ?_
        refine lv_iadd hx hb dX1_form_214 ?_
        refine xput (ws' := (wD g h o (x4 + 1, col.2.1, col.2.2.1, (upd col.2.2.2 x4.toNatClampNeg 1)))) E hw 0 rfl rfl 0 (by decide) inw1 tyX1_ok nmX1 qw171 rfl rfl rfl rfl (Nat.le_of_ble_eq_true rfl) dX1_form_215 rfl (fun H locs hw => ?_)
        exact hret _ _ _ _ _ (Option.some.inj hf) dX1_form_218 hw
  have b42 : ∀ n42 : Nat, ∀ (H : Heap) (locs : List Loc) (ls : Array Slot) (col : CC) (x3 : Int32) (x4 : Int32) (x5 : Int64) (x7 : Int64) (x9 : Int64) (x11 : Int32) (x12 : Int32), xW g A s.heap (wD g h o col) H locs → lv_has ls 15 [(0, .ref (h o)), (3, .int x3), (4, .int x4), (5, .long x5), (7, .long x7), (9, .long x9), (11, .int x11), (12, .int x12)] → f_X1_form_b42 n42 col x3 x4 x5 x7 x9 x11 x12 = some out → W p l e { frames := 2, cells := 0, slots := 0, locals := 47 } s m [.ref (h o), .int a1, .int a2, .int a3].toArray below meth c H locs 0 0 ZZ (F0 m 42 ls []) := by
    intro n42
    induction n42 with
    | zero =>
      intro H locs ls col x3 x4 x5 x7 x9 x11 x12 hw hl hf
      exact nn hf
    | succ n42 ih42 =>
      have b123 : ∀ (H : Heap) (locs : List Loc) (ls : Array Slot) (col : CC) (x3 : Int32) (x4 : Int32) (x5 : Int64) (x7 : Int64) (x9 : Int64) (x11 : Int32) (x12 : Int32) (x13 : Int64) (t0 : Int32) (t1 : Int32), xW g A s.heap (wD g h o col) H locs → lv_has ls 15 [(0, .ref (h o)), (3, .int x3), (4, .int x4), (5, .long x5), (7, .long x7), (9, .long x9), (11, .int x11), (12, .int x12), (13, .long x13)] → f_X1_form_b123 (f_X1_form_b42 n42) col x3 x4 x5 x7 x9 x11 x12 x13 t0 t1 = some out → W p l e { frames := 2, cells := 0, slots := 0, locals := 47 } s m [.ref (h o), .int a1, .int a2, .int a3].toArray below meth c H locs 0 0 ZZ (F0 m 123 ls [.int t0, .int t1, .ref (h o)]) := by
        intro H locs ls col x3 x4 x5 x7 x9 x11 x12 x13 t0 t1 hw hl hf
        refine lv_iadd hx hb dX1_form_123 ?_
        refine xput (ws' := (wD g h o (col.1, t1 + t0, col.2.2.1, col.2.2.2))) E hw 0 rfl rfl 1 (by decide) inw1 tyX1_ok nmX1 qw172 rfl rfl rfl rfl (Nat.le_of_ble_eq_true rfl) dX1_form_124 rfl (fun H locs hw => ?_)
        refine lv_aload_n hx hb dX1_form_127 rfl (lv_at hl 0 rfl) ?_
        refine lv_aload_n hx hb dX1_form_128 rfl (lv_at hl 0 rfl) ?_
        refine xget (v := .int col.2.2.1) E hw 0 rfl rfl 2 (by decide) inw1 qw174 rfl rfl dX1_form_129 ?_
        refine lv_iload hx hb dX1_form_132 (lv_at hl 6 rfl) ?_
        refine xmax E hl.1 qw648 qw292 qw30 qw293 ⟨Nat.le_of_ble_eq_true rfl, Nat.le_of_ble_eq_true rfl⟩ ⟨Nat.zero_le _, Nat.zero_le _⟩ dX1_form_134 ?_
        refine xput (ws' := (wD g h o (col.1, t1 + t0, if col.2.2.1 < x11 then x11 else col.2.2.1, col.2.2.2))) E hw 0 rfl rfl 2 (by decide) inw1 tyX1_ok nmX1 qw174 rfl rfl rfl rfl (Nat.le_of_ble_eq_true rfl) dX1_form_137 rfl (fun H locs hw => ?_)
        refine lv_aload_n hx hb dX1_form_140 rfl (lv_at hl 0 rfl) ?_
        refine xget (v := .ref (h (o + 1))) E hw 0 rfl rfl 3 (by decide) inw1 qw176 rfl rfl dX1_form_141 ?_
        refine lv_iload hx hb dX1_form_144 (lv_at hl 7 rfl) ?_
        refine lv_lload hx hb dX1_form_146 (lv_at hl 8 rfl) ?_
        refine lv_iload_n hx hb dX1_form_148 rfl (lv_at hl 1 rfl) ?_
        refine lv_i2l hx hb dX1_form_149 rfl ?_
        obtain ⟨v150, hv150, hf⟩ := ob_e hf
        refine xcallS (ws' := (wD g h o (col.1, t1 + t0, if col.2.2.1 < x11 then x11 else col.2.2.1, col.2.2.2))) (st1 := [.long v150, .int x12, .ref (h (o + 1))]) (n := 2) E hw [.long x13, .long x3.toInt64] [] (met_X5_left l g x13 x3.toInt64 v150 hv150) rfl (by decide) rfl rfl [0, 1] rfl (by decide +kernel) rfl qw649 k_X5_left ⟨rfl, rfl, Nat.le_of_ble_eq_true rfl, Nat.le_of_ble_eq_true rfl⟩ ⟨Nat.zero_le _, Nat.zero_le _⟩ hl.1 (Nat.le_of_ble_eq_true rfl) dX1_form_150 rfl (fun H locs hw => ?_)
        refine lv_l2i hx hb dX1_form_153 rfl ?_
        obtain ⟨hz, hf⟩ := nz hf
        refine xiast (ws' := (wD g h o (col.1, t1 + t0, if col.2.2.1 < x11 then x11 else col.2.2.1, (upd col.2.2.2 x12.toNatClampNeg v150.toInt32)))) E hw 1 rfl hz dX1_form_154 rfl (fun H locs hw => ?_)
        refine lv_lload hx hb dX1_form_155 (lv_at hl 3 rfl) ?_
        refine lv_iload_n hx hb dX1_form_157 rfl (lv_at hl 1 rfl) ?_
        refine lv_i2l hx hb dX1_form_158 rfl ?_
        obtain ⟨v159, hv159, hf⟩ := ob_e hf
        refine xcallS (ws' := (wD g h o (col.1, t1 + t0, if col.2.2.1 < x11 then x11 else col.2.2.1, (upd col.2.2.2 x12.toNatClampNeg v150.toInt32)))) (st1 := [.long v159]) (n := 2) E hw [.long x5, .long x3.toInt64] [] (met_X5_quotient l g x5 x3.toInt64 v159 hv159) rfl (by decide) rfl rfl [0, 1] rfl (by decide +kernel) rfl qw650 k_X5_quotient ⟨rfl, rfl, Nat.le_of_ble_eq_true rfl, Nat.le_of_ble_eq_true rfl⟩ ⟨Nat.zero_le _, Nat.zero_le _⟩ hl.1 (Nat.le_of_ble_eq_true rfl) dX1_form_159 rfl (fun H locs hw => ?_)
        refine lv_lstore (lv' := [(5, .long v159), (0, .ref (h o)), (3, .int x3), (4, .int x4), (7, .long x7), (9, .long x9), (11, .int x11), (12, .int x12), (13, .long x13)]) hx hb dX1_form_162 hl (by decide) rfl (fun ls hl => ?_)
        refine lv_lload hx hb dX1_form_164 (lv_at hl 4 rfl) ?_
        refine lv_iload_n hx hb dX1_form_166 rfl (lv_at hl 2 rfl) ?_
        refine lv_i2l hx hb dX1_form_167 rfl ?_
        obtain ⟨v168, hv168, hf⟩ := ob_e hf
        refine xcallS (ws' := (wD g h o (col.1, t1 + t0, if col.2.2.1 < x11 then x11 else col.2.2.1, (upd col.2.2.2 x12.toNatClampNeg v150.toInt32)))) (st1 := [.long v168]) (n := 2) E hw [.long x7, .long x3.toInt64] [] (met_X5_quotient l g x7 x3.toInt64 v168 hv168) rfl (by decide) rfl rfl [0, 1] rfl (by decide +kernel) rfl qw650 k_X5_quotient ⟨rfl, rfl, Nat.le_of_ble_eq_true rfl, Nat.le_of_ble_eq_true rfl⟩ ⟨Nat.zero_le _, Nat.zero_le _⟩ hl.1 (Nat.le_of_ble_eq_true rfl) dX1_form_168 rfl (fun H locs hw => ?_)
        refine lv_lstore (lv' := [(7, .long v168), (5, .long v159), (0, .ref (h o)), (3, .int x3), (4, .int x4), (9, .long x9), (11, .int x11), (12, .int x12), (13, .long x13)]) hx hb dX1_form_171 hl (by decide) rfl (fun ls hl => ?_)
        refine lv_iinc (v := x12 + 1) (lv' := [(12, .int (x12 + 1)), (7, .long v168), (5, .long v159), (0, .ref (h o)), (3, .int x3), (4, .int x4), (9, .long x9), (11, .int x11), (13, .long x13)]) hx hb dX1_form_173 hl (k := 7) rfl rfl (by decide) rfl (fun ls hl => ?_)
        refine lv_goto (tgt := 42) hx hb dX1_form_176 (by decide) ?_
        exact ih42 _ _ _ (col.1, t1 + t0, if col.2.2.1 < x11 then x11 else col.2.2.1, (upd col.2.2.2 x12.toNatClampNeg v150.toInt32)) x3 x4 v159 v168 x9 x11 (x12 + 1) hw (lv_sub hl [3, 4, 5, 2, 1, 6, 7, 0] rfl) hf
      have b106 : ∀ (H : Heap) (locs : List Loc) (ls : Array Slot) (col : CC) (x3 : Int32) (x4 : Int32) (x5 : Int64) (x7 : Int64) (x9 : Int64) (x12 : Int32) (x13 : Int64) (t0 : Int32), xW g A s.heap (wD g h o col) H locs → lv_has ls 15 [(0, .ref (h o)), (3, .int x3), (4, .int x4), (5, .long x5), (7, .long x7), (9, .long x9), (12, .int x12), (13, .long x13)] → f_X1_form_b106 (f_X1_form_b42 n42) col x3 x4 x5 x7 x9 x12 x13 t0 = some out → W p l e { frames := 2, cells := 0, slots := 0, locals := 47 } s m [.ref (h o), .int a1, .int a2, .int a3].toArray below meth c H locs 0 0 ZZ (F0 m 106 ls [.int t0]) := by
        intro H locs ls col x3 x4 x5 x7 x9 x12 x13 t0 hw hl hf
        refine lv_istore (lv' := [(11, .int t0), (0, .ref (h o)), (3, .int x3), (4, .int x4), (5, .long x5), (7, .long x7), (9, .long x9), (12, .int x12), (13, .long x13)]) hx hb dX1_form_106 hl (by decide) rfl (fun ls hl => ?_)
        refine lv_aload_n hx hb dX1_form_108 rfl (lv_at hl 1 rfl) ?_
        refine lv_dup hx hb dX1_form_109 rfl ?_
        refine xget (v := .int col.2.1) E hw 0 rfl rfl 1 (by decide) inw1 qw172 rfl rfl dX1_form_110 ?_
        refine lv_iload hx hb dX1_form_113 (lv_at hl 0 rfl) ?_
        refine lv_if_le (tgt := 122) hx hb dX1_form_115 (by decide) (fun c115 => ?_) (fun c115 => ?_)
        · replace hf := ip c115 hf
          refine lv_iconst (v := 0) hx hb dX1_form_122 (by decide) ?_
          exact b123 _ _ _ col x3 x4 x5 x7 x9 t0 x12 x13 0 col.2.1 hw (lv_sub hl [1, 2, 3, 4, 5, 6, 0, 7, 8] rfl) hf
        · replace hf := iq c115 hf
          refine lv_iconst (v := 1) hx hb dX1_form_118 (by decide) ?_
          refine lv_goto (tgt := 123) hx hb dX1_form_119 (by decide) ?_
          exact b123 _ _ _ col x3 x4 x5 x7 x9 t0 x12 x13 1 col.2.1 hw (lv_sub hl [1, 2, 3, 4, 5, 6, 0, 7, 8] rfl) hf
      have b89 : ∀ (H : Heap) (locs : List Loc) (ls : Array Slot) (col : CC) (x3 : Int32) (x4 : Int32) (x5 : Int64) (x7 : Int64) (x11 : Int32) (x12 : Int32) (x13 : Int64) (t0 : Int64), xW g A s.heap (wD g h o col) H locs → lv_has ls 15 [(0, .ref (h o)), (3, .int x3), (4, .int x4), (5, .long x5), (7, .long x7), (11, .int x11), (12, .int x12), (13, .long x13)] → f_X1_form_b89 (f_X1_form_b42 n42) col x3 x4 x5 x7 x11 x12 x13 t0 = some out → W p l e { frames := 2, cells := 0, slots := 0, locals := 47 } s m [.ref (h o), .int a1, .int a2, .int a3].toArray below meth c H locs 0 0 ZZ (F0 m 89 ls [.long t0]) := by
        intro H locs ls col x3 x4 x5 x7 x11 x12 x13 t0 hw hl hf
        refine lv_lstore (lv' := [(9, .long t0), (0, .ref (h o)), (3, .int x3), (4, .int x4), (5, .long x5), (7, .long x7), (11, .int x11), (12, .int x12), (13, .long x13)]) hx hb dX1_form_89 hl (by decide) rfl (fun ls hl => ?_)
        refine lv_lload hx hb dX1_form_91 (lv_at hl 0 rfl) ?_
        refine lv_lconst (v := 1) hx hb dX1_form_93 (by decide) ?_
        refine xlc_ne (tgt := 105) hx hb dX1_form_94 dX1_form_95 (by decide) (fun c94 => ?_) (fun c94 => ?_)
        · replace hf := iq c94 hf
          refine lv_iconst (v := 0) hx hb dX1_form_105 (by decide) ?_
          exact b106 _ _ _ col x3 x4 x5 x7 t0 x12 x13 0 hw (lv_sub hl [1, 2, 3, 4, 5, 0, 7, 8] rfl) hf
        · replace hf := ip c94 hf
          refine lv_iload hx hb dX1_form_98 (lv_at hl 6 rfl) ?_
          refine lv_iconst (v := 1) hx hb dX1_form_100 (by decide) ?_
          refine lv_iadd hx hb dX1_form_101 ?_
          refine lv_goto (tgt := 106) hx hb dX1_form_102 (by decide) ?_
          exact b106 _ _ _ col x3 x4 x5 x7 t0 x12 x13 (x11 + 1) hw (lv_sub hl [1, 2, 3, 4, 5, 0, 7, 8] rfl) hf
      intro H locs ls col x3 x4 x5 x7 x9 x11 x12 hw hl hf
      refine lv_iload hx hb dX1_form_42 (lv_at hl 7 rfl) ?_
      refine lv_iload hx hb dX1_form_44 (lv_at hl 2 rfl) ?_
      refine lv_icmp_ge (tgt := 179) hx hb dX1_form_46 (by decide) (fun c46 => ?_) (fun c46 => ?_)
      · replace hf := ip c46 hf
        exact b179 _ _ _ col x4 x9 hw (lv_sub hl [0, 2, 5] rfl) hf
      · replace hf := iq c46 hf
        refine lv_iload hx hb dX1_form_49 (lv_at hl 7 rfl) ?_
        refine lv_bipush (v := 30) hx hb dX1_form_51 (by decide) ?_
        refine lv_icmp_ge (tgt := 179) hx hb dX1_form_53 (by decide) (fun c53 => ?_) (fun c53 => ?_)
        · replace hf := ip c53 hf
          exact b179 _ _ _ col x4 x9 hw (lv_sub hl [0, 2, 5] rfl) hf
        · replace hf := iq c53 hf
          refine lv_lload hx hb dX1_form_56 (lv_at hl 3 rfl) ?_
          refine lv_iload_n hx hb dX1_form_58 rfl (lv_at hl 1 rfl) ?_
          refine lv_i2l hx hb dX1_form_59 rfl ?_
          obtain ⟨v60, hv60, hf⟩ := ob_e hf
          refine xcallS (ws' := (wD g h o col)) (st1 := [.long v60]) (n := 2) E hw [.long x5, .long x3.toInt64] [] (met_X5_left l g x5 x3.toInt64 v60 hv60) rfl (by decide) rfl rfl [0, 1] rfl (by decide +kernel) rfl qw649 k_X5_left ⟨rfl, rfl, Nat.le_of_ble_eq_true rfl, Nat.le_of_ble_eq_true rfl⟩ ⟨Nat.zero_le _, Nat.zero_le _⟩ hl.1 (Nat.le_of_ble_eq_true rfl) dX1_form_60 rfl (fun H locs hw => ?_)
          refine lv_lload hx hb dX1_form_63 (lv_at hl 4 rfl) ?_
          refine lv_iload_n hx hb dX1_form_65 rfl (lv_at hl 1 rfl) ?_
          refine lv_i2l hx hb dX1_form_66 rfl ?_
          obtain ⟨v67, hv67, hf⟩ := ob_e hf
          refine xcallS (ws' := (wD g h o col)) (st1 := [.long v67, .long v60]) (n := 2) E hw [.long x7, .long x3.toInt64] [] (met_X5_left l g x7 x3.toInt64 v67 hv67) rfl (by decide) rfl rfl [0, 1] rfl (by decide +kernel) rfl qw649 k_X5_left ⟨rfl, rfl, Nat.le_of_ble_eq_true rfl, Nat.le_of_ble_eq_true rfl⟩ ⟨Nat.zero_le _, Nat.zero_le _⟩ hl.1 (Nat.le_of_ble_eq_true rfl) dX1_form_67 rfl (fun H locs hw => ?_)
          refine lv_ladd hx hb dX1_form_70 ?_
          refine lv_lload hx hb dX1_form_71 (lv_at hl 5 rfl) ?_
          refine lv_ladd hx hb dX1_form_73 ?_
          refine lv_lstore (lv' := [(13, .long ((v60 + v67) + x9)), (0, .ref (h o)), (3, .int x3), (4, .int x4), (5, .long x5), (7, .long x7), (9, .long x9), (11, .int x11), (12, .int x12)]) hx hb dX1_form_74 hl (by decide) rfl (fun ls hl => ?_)
          refine lv_lload hx hb dX1_form_76 (lv_at hl 0 rfl) ?_
          refine lv_iload_n hx hb dX1_form_78 rfl (lv_at hl 2 rfl) ?_
          refine lv_i2l hx hb dX1_form_79 rfl ?_
          refine xlc_lt (tgt := 88) hx hb dX1_form_80 dX1_form_81 (by decide) (fun c80 => ?_) (fun c80 => ?_)
          · replace hf := ip c80 hf
            refine lv_lconst (v := 0) hx hb dX1_form_88 (by decide) ?_
            exact b89 _ _ _ col x3 x4 x5 x7 x11 x12 ((v60 + v67) + x9) 0 hw (lv_sub hl [1, 2, 3, 4, 5, 7, 8, 0] rfl) hf
          · replace hf := iq c80 hf
            refine lv_lconst (v := 1) hx hb dX1_form_84 (by decide) ?_
            refine lv_goto (tgt := 89) hx hb dX1_form_85 (by decide) ?_
            exact b89 _ _ _ col x3 x4 x5 x7 x11 x12 ((v60 + v67) + x9) 1 hw (lv_sub hl [1, 2, 3, 4, 5, 7, 8, 0] rfl) hf
  refine lv_iload_n hx hb dX1_form_0 rfl (lv_at hl 1 rfl) ?_
  refine lv_iload_n hx hb dX1_form_1 rfl (lv_at hl 3 rfl) ?_
  obtain ⟨v2, hv2, hf⟩ := ob_e hf
  refine xcallS (ws' := (wD g h o col)) (st1 := [.int v2]) (n := 2) E hw [.int a1, .int a3] [] (met_X9_count l g a1 a3 v2 hv2) rfl (by decide) rfl rfl [0, 1] rfl (by decide +kernel) rfl qw647 k_X9_count ⟨rfl, rfl, Nat.le_of_ble_eq_true rfl, Nat.le_of_ble_eq_true rfl⟩ ⟨Nat.zero_le _, Nat.zero_le _⟩ hl.1 (Nat.le_of_ble_eq_true rfl) dX1_form_2 rfl (fun H locs hw => ?_)
  refine lv_iload_n hx hb dX1_form_5 rfl (lv_at hl 2 rfl) ?_
  refine lv_iload_n hx hb dX1_form_6 rfl (lv_at hl 3 rfl) ?_
  obtain ⟨v7, hv7, hf⟩ := ob_e hf
  refine xcallS (ws' := (wD g h o col)) (st1 := [.int v7, .int v2]) (n := 2) E hw [.int a2, .int a3] [] (met_X9_count l g a2 a3 v7 hv7) rfl (by decide) rfl rfl [0, 1] rfl (by decide +kernel) rfl qw647 k_X9_count ⟨rfl, rfl, Nat.le_of_ble_eq_true rfl, Nat.le_of_ble_eq_true rfl⟩ ⟨Nat.zero_le _, Nat.zero_le _⟩ hl.1 (Nat.le_of_ble_eq_true rfl) dX1_form_7 rfl (fun H locs hw => ?_)
  refine xmax E hl.1 qw648 qw292 qw30 qw293 ⟨Nat.le_of_ble_eq_true rfl, Nat.le_of_ble_eq_true rfl⟩ ⟨Nat.zero_le _, Nat.zero_le _⟩ dX1_form_10 ?_
  refine lv_istore (lv' := [(4, .int (if v2 < v7 then v7 else v2)), (0, .ref (h o)), (1, .int a1), (2, .int a2), (3, .int a3)]) hx hb dX1_form_13 hl (by decide) rfl (fun ls hl => ?_)
  refine lv_iload_n hx hb dX1_form_15 rfl (lv_at hl 2 rfl) ?_
  refine lv_i2l hx hb dX1_form_16 rfl ?_
  refine lv_lstore (lv' := [(5, .long a1.toInt64), (4, .int (if v2 < v7 then v7 else v2)), (0, .ref (h o)), (1, .int a1), (2, .int a2), (3, .int a3)]) hx hb dX1_form_17 hl (by decide) rfl (fun ls hl => ?_)
  refine lv_iload_n hx hb dX1_form_19 rfl (lv_at hl 4 rfl) ?_
  refine lv_i2l hx hb dX1_form_20 rfl ?_
  refine lv_lstore (lv' := [(7, .long a2.toInt64), (5, .long a1.toInt64), (4, .int (if v2 < v7 then v7 else v2)), (0, .ref (h o)), (1, .int a1), (2, .int a2), (3, .int a3)]) hx hb dX1_form_21 hl (by decide) rfl (fun ls hl => ?_)
  refine lv_lconst (v := 0) hx hb dX1_form_23 (by decide) ?_
  refine lv_lstore (lv' := [(9, .long 0), (7, .long a2.toInt64), (5, .long a1.toInt64), (4, .int (if v2 < v7 then v7 else v2)), (0, .ref (h o)), (1, .int a1), (2, .int a2), (3, .int a3)]) hx hb dX1_form_24 hl (by decide) rfl (fun ls hl => ?_)
  refine lv_iconst (v := 0) hx hb dX1_form_26 (by decide) ?_
  refine lv_istore (lv' := [(11, .int 0), (9, .long 0), (7, .long a2.toInt64), (5, .long a1.toInt64), (4, .int (if v2 < v7 then v7 else v2)), (0, .ref (h o)), (1, .int a1), (2, .int a2), (3, .int a3)]) hx hb dX1_form_27 hl (by decide) rfl (fun ls hl => ?_)
  refine lv_aload_n hx hb dX1_form_29 rfl (lv_at hl 5 rfl) ?_
  refine lv_iconst (v := 0) hx hb dX1_form_30 (by decide) ?_
  refine xput (ws' := (wD g h o (col.1, 0, col.2.2.1, col.2.2.2))) E hw 0 rfl rfl 1 (by decide) inw1 tyX1_ok nmX1 qw172 rfl rfl rfl rfl (Nat.le_of_ble_eq_true rfl) dX1_form_31 rfl (fun H locs hw => ?_)
  refine lv_aload_n hx hb dX1_form_34 rfl (lv_at hl 5 rfl) ?_
  refine lv_iconst (v := 0) hx hb dX1_form_35 (by decide) ?_
  refine xput (ws' := (wD g h o (col.1, 0, 0, col.2.2.2))) E hw 0 rfl rfl 2 (by decide) inw1 tyX1_ok nmX1 qw174 rfl rfl rfl rfl (Nat.le_of_ble_eq_true rfl) dX1_form_36 rfl (fun H locs hw => ?_)
  refine lv_iconst (v := 0) hx hb dX1_form_39 (by decide) ?_
  refine lv_istore (lv' := [(12, .int 0), (11, .int 0), (9, .long 0), (7, .long a2.toInt64), (5, .long a1.toInt64), (4, .int (if v2 < v7 then v7 else v2)), (0, .ref (h o)), (1, .int a1), (2, .int a2), (3, .int a3)]) hx hb dX1_form_40 hl (by decide) rfl (fun ls hl => ?_)
  exact b42 xfuel _ _ _ (col.1, 0, 0, col.2.2.2) a3 (if v2 < v7 then v7 else v2) a1.toInt64 a2.toInt64 0 0 0 hw (lv_sub hl [6, 9, 5, 4, 3, 2, 1, 0] rfl) hf
theorem k_X1_digitAt : xKV yX1_digitAt cX1_digitAt 2 (some .int) 1 := ⟨qw660, qw661, qw20, qw662, by decide +kernel, by decide +kernel, by decide +kernel⟩
set_option maxHeartbeats 4000000 in
set_option maxRecDepth 100000 in
theorem met_X1_digitAt (l : Launch) (g : xG) (h : Nat → Nat) (o : Nat) (col : CC) (a1 : Int32) (out : Int32) (hf : f_X1_digitAt col a1 = some out) : xM l yX1_digitAt (xC yX1_digitAt cX1_digitAt 2 (some .int)) { frames := 0, cells := 0, slots := 0, locals := 0 } g (wD g h o col) [.ref (h o), .int a1] (some (.int out)) (wD g h o col) := by
  refine xof (by decide) (Nat.le_of_ble_eq_true rfl) ⟨rfl, rfl⟩ ?_
  intro p e s m below meth c A ls E hr hlocks hw hl hpost hAe
  have hx := E.1.1
  have hb := E.1.2.1
  have hown := E.1.2.2.2.1
  have hts := E.1.2.2.2.2
  generalize hZ : (MQ below (xPost g (wD g h o col) (wD g h o col) s.heap.size (some (.int out))) [.ref (h o), .int a1].toArray s 0 0 A) = ZZ
  have hret : ∀ (pc : Nat) (H : Heap) (locs : List Loc) (ls : Array Slot) (v : Int32), v = out → decode cX1_digitAt pc = .ok (.ireturn, 1) → xW g A s.heap (wD g h o col) H locs → W p l e { frames := 0, cells := 0, slots := 0, locals := 0 } s m [.ref (h o), .int a1].toArray below meth c H locs 0 0 ZZ (F0 m pc ls [.int v]) := by
    intro pc H locs ls v he hd hw
    subst he
    rw [← hZ]
    exact W.iret hx hb hr (hpost H locs hw).1 (hpost H locs hw).2 hd hlocks
  clear hpost
  refine lv_iload_n hx hb dX1_digitAt_0 rfl (lv_at hl 1 rfl) ?_
  refine lv_if_lt (tgt := 22) hx hb dX1_digitAt_1 (by decide) (fun c1 => ?_) (fun c1 => ?_)
  · replace hf := ip c1 hf
    refine lv_iconst (v := 0) hx hb dX1_digitAt_22 (by decide) ?_
    exact hret _ _ _ _ _ (Option.some.inj hf) dX1_digitAt_23 hw
  · replace hf := iq c1 hf
    refine lv_iload_n hx hb dX1_digitAt_4 rfl (lv_at hl 1 rfl) ?_
    refine lv_aload_n hx hb dX1_digitAt_5 rfl (lv_at hl 0 rfl) ?_
    refine xget (v := .ref (h (o + 1))) E hw 0 rfl rfl 3 (by decide) inw1 qw176 rfl rfl dX1_digitAt_6 ?_
    refine xalen (v := 31) E hw 1 0 rfl rfl rfl dX1_digitAt_9 ?_
    refine lv_icmp_ge (tgt := 22) hx hb dX1_digitAt_10 (by decide) (fun c10 => ?_) (fun c10 => ?_)
    · replace hf := ip c10 hf
      refine lv_iconst (v := 0) hx hb dX1_digitAt_22 (by decide) ?_
      exact hret _ _ _ _ _ (Option.some.inj hf) dX1_digitAt_23 hw
    · replace hf := iq c10 hf
      refine lv_aload_n hx hb dX1_digitAt_13 rfl (lv_at hl 0 rfl) ?_
      refine xget (v := .ref (h (o + 1))) E hw 0 rfl rfl 3 (by decide) inw1 qw176 rfl rfl dX1_digitAt_14 ?_
      refine lv_iload_n hx hb dX1_digitAt_17 rfl (lv_at hl 1 rfl) ?_
      obtain ⟨hz, hf⟩ := nz hf
      refine xiald E hw 1 rfl hz dX1_digitAt_18 ?_
      refine lv_goto (tgt := 23) hx hb dX1_digitAt_19 (by decide) ?_
      exact hret _ _ _ _ _ (Option.some.inj hf) dX1_digitAt_23 hw
theorem k_X1_total : xKV yX1_total cX1_total 5 (some .long) 1 := ⟨qw656, qw657, qw20, qw658, by decide +kernel, by decide +kernel, by decide +kernel⟩
set_option maxHeartbeats 4000000 in
set_option maxRecDepth 100000 in
theorem met_X1_total (l : Launch) (g : xG) (h : Nat → Nat) (o : Nat) (col : CC) (a1 : Int32) (out : Int64) (hf : f_X1_total col a1 = some out) : xM l yX1_total (xC yX1_total cX1_total 5 (some .long)) { frames := 1, cells := 0, slots := 0, locals := 21 } g (wD g h o col) [.ref (h o), .int a1] (some (.long out)) (wD g h o col) := by
  refine xof (by decide) (Nat.le_of_ble_eq_true rfl) ⟨rfl, rfl⟩ ?_
  intro p e s m below meth c A ls E hr hlocks hw hl hpost hAe
  have hx := E.1.1
  have hb := E.1.2.1
  have hown := E.1.2.2.2.1
  have hts := E.1.2.2.2.2
  generalize hZ : (MQ below (xPost g (wD g h o col) (wD g h o col) s.heap.size (some (.long out))) [.ref (h o), .int a1].toArray s 0 0 A) = ZZ
  have hret : ∀ (pc : Nat) (H : Heap) (locs : List Loc) (ls : Array Slot) (v : Int64), v = out → decode cX1_total pc = .ok (.lreturn, 1) → xW g A s.heap (wD g h o col) H locs → W p l e { frames := 1, cells := 0, slots := 0, locals := 21 } s m [.ref (h o), .int a1].toArray below meth c H locs 0 0 ZZ (F0 m pc ls [.long v]) := by
    intro pc H locs ls v he hd hw
    subst he
    rw [← hZ]
    exact W.lret hx hb hr (hpost H locs hw).1 (hpost H locs hw).2 hd hlocks
  clear hpost
  have b10 : ∀ n10 : Nat, ∀ (H : Heap) (locs : List Loc) (ls : Array Slot) (x1 : Int32) (x2 : Int64) (x4 : Int32), xW g A s.heap (wD g h o col) H locs → lv_has ls 5 [(0, .ref (h o)), (1, .int x1), (2, .long x2), (4, .int x4)] → f_X1_total_b10 n10 col x1 x2 x4 = some out → W p l e { frames := 1, cells := 0, slots := 0, locals := 21 } s m [.ref (h o), .int a1].toArray below meth c H locs 0 0 ZZ (F0 m 10 ls []) := by
    intro n10
    induction n10 with
    | zero =>
      intro H locs ls x1 x2 x4 hw hl hf
      exact nn hf
    | succ n10 ih10 =>
      intro H locs ls x1 x2 x4 hw hl hf
      refine lv_iload hx hb dX1_total_10 (lv_at hl 3 rfl) ?_
      refine lv_if_lt (tgt := 34) hx hb dX1_total_12 (by decide) (fun c12 => ?_) (fun c12 => ?_)
      · replace hf := ip c12 hf
        refine lv_lload_n hx hb dX1_total_34 rfl (lv_at hl 2 rfl) ?_
        exact hret _ _ _ _ _ (Option.some.inj hf) dX1_total_35 hw
      · replace hf := iq c12 hf
        refine lv_lload_n hx hb dX1_total_15 rfl (lv_at hl 2 rfl) ?_
        refine lv_iload_n hx hb dX1_total_16 rfl (lv_at hl 1 rfl) ?_
        refine lv_i2l hx hb dX1_total_17 rfl ?_
        refine lv_lmul hx hb dX1_total_18 ?_
        refine lv_aload_n hx hb dX1_total_19 rfl (lv_at hl 0 rfl) ?_
        refine lv_iload hx hb dX1_total_20 (lv_at hl 3 rfl) ?_
        obtain ⟨v22, hv22, hf⟩ := ob_e hf
        refine xcallV (ws' := (wD g h o col)) (st1 := [.int v22, .long (x2 * x1.toInt64)]) (n := 2) E hw [.int x4] [0, 1] (met_X1_digitAt l g h o col x4 v22 hv22) rfl (by decide) rfl rfl [2, 3] rfl (by decide +kernel) rfl rfl rfl rfl qw659 k_X1_digitAt ⟨rfl, rfl, Nat.le_of_ble_eq_true rfl, Nat.le_of_ble_eq_true rfl⟩ ⟨Nat.zero_le _, Nat.zero_le _⟩ hl.1 (Nat.le_of_ble_eq_true rfl) dX1_total_22 rfl (fun H locs hw => ?_)
        refine lv_i2l hx hb dX1_total_25 rfl ?_
        refine lv_ladd hx hb dX1_total_26 ?_
        refine lv_lstore_n (lv' := [(2, .long ((x2 * x1.toInt64) + v22.toInt64)), (0, .ref (h o)), (1, .int x1), (4, .int x4)]) hx hb dX1_total_27 rfl hl (by decide) rfl (fun ls hl => ?_)
        refine lv_iinc (v := x4 + (-1)) (lv' := [(4, .int (x4 + (-1))), (2, .long ((x2 * x1.toInt64) + v22.toInt64)), (0, .ref (h o)), (1, .int x1)]) hx hb dX1_total_28 hl (k := 3) rfl rfl (by decide) rfl (fun ls hl => ?_)
        refine lv_goto (tgt := 10) hx hb dX1_total_31 (by decide) ?_
        exact ih10 _ _ _ x1 ((x2 * x1.toInt64) + v22.toInt64) (x4 + (-1)) hw (lv_sub hl [2, 3, 1, 0] rfl) hf
  refine lv_lconst (v := 0) hx hb dX1_total_0 (by decide) ?_
  refine lv_lstore_n (lv' := [(2, .long 0), (0, .ref (h o)), (1, .int a1)]) hx hb dX1_total_1 rfl hl (by decide) rfl (fun ls hl => ?_)
  refine lv_aload_n hx hb dX1_total_2 rfl (lv_at hl 1 rfl) ?_
  refine xget (v := .int col.1) E hw 0 rfl rfl 0 (by decide) inw1 qw171 rfl rfl dX1_total_3 ?_
  refine lv_iconst (v := 1) hx hb dX1_total_6 (by decide) ?_
  refine lv_isub hx hb dX1_total_7 ?_
  refine lv_istore (lv' := [(4, .int (col.1 - 1)), (2, .long 0), (0, .ref (h o)), (1, .int a1)]) hx hb dX1_total_8 hl (by decide) rfl (fun ls hl => ?_)
  exact b10 xfuel _ _ _ a1 0 (col.1 - 1) hw (lv_sub hl [2, 3, 1, 0] rfl) hf
theorem k_X3_push : xKV yX3_push cX3_push 2 none 1 := ⟨qw463, qw464, qw15, qw465, by decide +kernel, by decide +kernel, by decide +kernel⟩
set_option maxHeartbeats 4000000 in
set_option maxRecDepth 100000 in
theorem met_X3_push (l : Launch) (g : xG) (h : Nat → Nat) (o : Nat) (o2 : Nat) (hist : HC) (x : SC) (out : HC) (hf : f_X3_push hist x = some out) : xM l yX3_push (xC yX3_push cX3_push 2 none) { frames := 1, cells := 0, slots := 0, locals := 29 } g (wH g h o hist ++ wS g h o2 x) [.ref (h o), .ref (h o2)] none (wH g h o out ++ wS g h o2 x) := by
  refine xof (by decide) (Nat.le_of_ble_eq_true rfl) ⟨rfl, rfl⟩ ?_
  intro p e s m below meth c A ls E hr hlocks hw hl hpost hAe
  have hx := E.1.1
  have hb := E.1.2.1
  have hown := E.1.2.2.2.1
  have hts := E.1.2.2.2.2
  generalize hZ : (MQ below (xPost g (wH g h o hist ++ wS g h o2 x) (wH g h o out ++ wS g h o2 x) s.heap.size none) [.ref (h o), .ref (h o2)].toArray s 0 0 A) = ZZ
  have hret : ∀ (pc : Nat) (H : Heap) (locs : List Loc) (ls : Array Slot) (chist : HC), chist = out → decode cX3_push pc = .ok (.return_, 1) → xW g A s.heap (wH g h o chist ++ wS g h o2 x) H locs → W p l e { frames := 1, cells := 0, slots := 0, locals := 29 } s m [.ref (h o), .ref (h o2)].toArray below meth c H locs 0 0 ZZ (F0 m pc ls []) := by
    intro pc H locs ls chist he hd hw
    subst he
    rw [← hZ]
    exact W.vret hx hb hr (hpost H locs hw).1 (hpost H locs hw).2 hd hlocks
  clear hpost
  have b63 : ∀ (H : Heap) (locs : List Loc) (ls : Array Slot) (hist : HC) (t0 : Int32), xW g A s.heap (wH g h o hist ++ wS g h o2 x) H locs → lv_has ls 2 [(0, .ref (h o))] → f_X3_push_b63 hist x t0 = some out → W p l e { frames := 1, cells := 0, slots := 0, locals := 29 } s m [.ref (h o), .ref (h o2)].toArray below meth c H locs 0 0 ZZ (F0 m 63 ls [.int t0, .ref (h o)]) := by
    intro H locs ls hist t0 hw hl hf
    refine xput (ws' := (wH g h o (hist.1, t0, hist.2.2) ++ wS g h o2 x)) E hw 0 rfl rfl 1 (by decide) inw3 tyX3_ok nmX3 qw76 rfl rfl rfl rfl (Nat.le_of_ble_eq_true rfl) dX3_push_63 rfl (fun H locs hw => ?_)
    refine lv_aload_n hx hb dX3_push_66 rfl (lv_at hl 0 rfl) ?_
    refine lv_aload_n hx hb dX3_push_67 rfl (lv_at hl 0 rfl) ?_
    refine xget (v := .int hist.1) E hw 0 rfl rfl 0 (by decide) inw3 qw74 rfl rfl dX3_push_68 ?_
    refine lv_iconst (v := 1) hx hb dX3_push_71 (by decide) ?_
    refine lv_iadd hx hb dX3_push_72 ?_
    refine lv_bipush (v := 6) hx hb dX3_push_73 (by decide) ?_
    refine xmin E hl.1 qw466 qw467 qw30 qw468 ⟨Nat.le_of_ble_eq_true rfl, Nat.le_of_ble_eq_true rfl⟩ ⟨Nat.zero_le _, Nat.zero_le _⟩ dX3_push_75 ?_
    refine xput (ws' := (wH g h o (if 6 < (hist.1 + 1) then 6 else (hist.1 + 1), t0, hist.2.2) ++ wS g h o2 x)) E hw 0 rfl rfl 0 (by decide) inw3 tyX3_ok nmX3 qw74 rfl rfl rfl rfl (Nat.le_of_ble_eq_true rfl) dX3_push_78 rfl (fun H locs hw => ?_)
    exact hret _ _ _ _ _ (Option.some.inj hf) dX3_push_81 hw
  have b41 : ∀ (H : Heap) (locs : List Loc) (ls : Array Slot) (hist : HC), xW g A s.heap (wH g h o hist ++ wS g h o2 x) H locs → lv_has ls 2 [(0, .ref (h o))] → f_X3_push_b41 hist x = some out → W p l e { frames := 1, cells := 0, slots := 0, locals := 29 } s m [.ref (h o), .ref (h o2)].toArray below meth c H locs 0 0 ZZ (F0 m 41 ls []) := by
    intro H locs ls hist hw hl hf
    refine lv_aload_n hx hb dX3_push_41 rfl (lv_at hl 0 rfl) ?_
    refine lv_aload_n hx hb dX3_push_42 rfl (lv_at hl 0 rfl) ?_
    refine xget (v := .int hist.2.1) E hw 0 rfl rfl 1 (by decide) inw3 qw76 rfl rfl dX3_push_43 ?_
    refine lv_iconst (v := 1) hx hb dX3_push_46 (by decide) ?_
    refine lv_iadd hx hb dX3_push_47 ?_
    refine lv_bipush (v := 6) hx hb dX3_push_48 (by decide) ?_
    refine lv_icmp_ge (tgt := 62) hx hb dX3_push_50 (by decide) (fun c50 => ?_) (fun c50 => ?_)
    · replace hf := ip c50 hf
      refine lv_iconst (v := 0) hx hb dX3_push_62 (by decide) ?_
      exact b63 _ _ _ hist 0 hw (lv_sub hl [0] rfl) hf
    · replace hf := iq c50 hf
      refine lv_aload_n hx hb dX3_push_53 rfl (lv_at hl 0 rfl) ?_
      refine xget (v := .int hist.2.1) E hw 0 rfl rfl 1 (by decide) inw3 qw76 rfl rfl dX3_push_54 ?_
      refine lv_iconst (v := 1) hx hb dX3_push_57 (by decide) ?_
      refine lv_iadd hx hb dX3_push_58 ?_
      refine lv_goto (tgt := 63) hx hb dX3_push_59 (by decide) ?_
      exact b63 _ _ _ hist (hist.2.1 + 1) hw (lv_sub hl [0] rfl) hf
  refine lv_aload_n hx hb dX3_push_0 rfl (lv_at hl 0 rfl) ?_
  refine xget (v := .int hist.2.1) E hw 0 rfl rfl 1 (by decide) inw3 qw76 rfl rfl dX3_push_1 ?_
  refine lv_if_lt (tgt := 41) hx hb dX3_push_4 (by decide) (fun c4 => ?_) (fun c4 => ?_)
  · replace hf := ip c4 hf
    exact b41 _ _ _ hist hw (lv_sub hl [0] rfl) hf
  · replace hf := iq c4 hf
    refine lv_aload_n hx hb dX3_push_7 rfl (lv_at hl 0 rfl) ?_
    refine xget (v := .int hist.2.1) E hw 0 rfl rfl 1 (by decide) inw3 qw76 rfl rfl dX3_push_8 ?_
    refine lv_bipush (v := 6) hx hb dX3_push_11 (by decide) ?_
    refine lv_icmp_ge (tgt := 41) hx hb dX3_push_13 (by decide) (fun c13 => ?_) (fun c13 => ?_)
    · replace hf := ip c13 hf
      exact b41 _ _ _ hist hw (lv_sub hl [0] rfl) hf
    · replace hf := iq c13 hf
      refine lv_aload_n hx hb dX3_push_16 rfl (lv_at hl 0 rfl) ?_
      refine xget (v := .ref (h (o + 1))) E hw 0 rfl rfl 2 (by decide) inw3 qw77 rfl rfl dX3_push_17 ?_
      refine lv_aload_n hx hb dX3_push_20 rfl (lv_at hl 0 rfl) ?_
      refine xget (v := .int hist.2.1) E hw 0 rfl rfl 1 (by decide) inw3 qw76 rfl rfl dX3_push_21 ?_
      by_cases hk : hist.2.1 = 0
      · have hf := ip hk hf
        refine xaald E hw 1 rfl (by rw [hk]; decide) (by rw [hk]) dX3_push_24 ?_
        refine lv_ifnull hx hb dX3_push_25 ?_
        refine lv_aload_n hx hb dX3_push_28 rfl (lv_at hl 0 rfl) ?_
        refine xget (v := .ref (h (o + 1))) E hw 0 rfl rfl 2 (by decide) inw3 qw77 rfl rfl dX3_push_29 ?_
        refine lv_aload_n hx hb dX3_push_32 rfl (lv_at hl 0 rfl) ?_
        refine xget (v := .int hist.2.1) E hw 0 rfl rfl 1 (by decide) inw3 qw76 rfl rfl dX3_push_33 ?_
        refine xaald E hw 1 rfl (by rw [hk]; decide) (by rw [hk]) dX3_push_36 ?_
        refine lv_aload_n hx hb dX3_push_37 rfl (lv_at hl 1 rfl) ?_
        obtain ⟨v38, hv38, hf⟩ := ob_e hf
        refine xcallV (ws' := (wH g h o (hist.1, hist.2.1, (rup hist.2.2 0 v38)) ++ wS g h o2 x)) (st1 := []) (n := 23) E hw [.ref (h o2)] [2, 3, 4, 20, 21, 22] (met_X7_takeFrom l g h (o + 2 + 3 * 0) o2 (hist.2.2 0) x v38 hv38) rfl (by decide) rfl rfl [0, 1, 23, 24, 25, 5, 6, 7, 8, 9, 10, 11, 12, 13, 14, 15, 16, 17, 18, 19, 26, 27, 28] rfl (by decide +kernel) rfl rfl rfl rfl qw294 k_X7_takeFrom ⟨rfl, rfl, Nat.le_of_ble_eq_true rfl, Nat.le_of_ble_eq_true rfl⟩ ⟨Nat.zero_le _, Nat.zero_le _⟩ hl.1 (Nat.le_of_ble_eq_true rfl) dX3_push_38 rfl (fun H locs hw => ?_)
        exact b41 _ _ _ (hist.1, hist.2.1, (rup hist.2.2 0 v38)) hw (lv_sub hl [0] rfl) hf
      replace hf := iq hk hf
      by_cases hk : hist.2.1 = 1
      · have hf := ip hk hf
        refine xaald E hw 1 rfl (by rw [hk]; decide) (by rw [hk]) dX3_push_24 ?_
        refine lv_ifnull hx hb dX3_push_25 ?_
        refine lv_aload_n hx hb dX3_push_28 rfl (lv_at hl 0 rfl) ?_
        refine xget (v := .ref (h (o + 1))) E hw 0 rfl rfl 2 (by decide) inw3 qw77 rfl rfl dX3_push_29 ?_
        refine lv_aload_n hx hb dX3_push_32 rfl (lv_at hl 0 rfl) ?_
        refine xget (v := .int hist.2.1) E hw 0 rfl rfl 1 (by decide) inw3 qw76 rfl rfl dX3_push_33 ?_
        refine xaald E hw 1 rfl (by rw [hk]; decide) (by rw [hk]) dX3_push_36 ?_
        refine lv_aload_n hx hb dX3_push_37 rfl (lv_at hl 1 rfl) ?_
        obtain ⟨v38, hv38, hf⟩ := ob_e hf
        refine xcallV (ws' := (wH g h o (hist.1, hist.2.1, (rup hist.2.2 1 v38)) ++ wS g h o2 x)) (st1 := []) (n := 23) E hw [.ref (h o2)] [5, 6, 7, 20, 21, 22] (met_X7_takeFrom l g h (o + 2 + 3 * 1) o2 (hist.2.2 1) x v38 hv38) rfl (by decide) rfl rfl [0, 1, 2, 3, 4, 23, 24, 25, 8, 9, 10, 11, 12, 13, 14, 15, 16, 17, 18, 19, 26, 27, 28] rfl (by decide +kernel) rfl rfl rfl rfl qw294 k_X7_takeFrom ⟨rfl, rfl, Nat.le_of_ble_eq_true rfl, Nat.le_of_ble_eq_true rfl⟩ ⟨Nat.zero_le _, Nat.zero_le _⟩ hl.1 (Nat.le_of_ble_eq_true rfl) dX3_push_38 rfl (fun H locs hw => ?_)
        exact b41 _ _ _ (hist.1, hist.2.1, (rup hist.2.2 1 v38)) hw (lv_sub hl [0] rfl) hf
      replace hf := iq hk hf
      by_cases hk : hist.2.1 = 2
      · have hf := ip hk hf
        refine xaald E hw 1 rfl (by rw [hk]; decide) (by rw [hk]) dX3_push_24 ?_
        refine lv_ifnull hx hb dX3_push_25 ?_
        refine lv_aload_n hx hb dX3_push_28 rfl (lv_at hl 0 rfl) ?_
        refine xget (v := .ref (h (o + 1))) E hw 0 rfl rfl 2 (by decide) inw3 qw77 rfl rfl dX3_push_29 ?_
        refine lv_aload_n hx hb dX3_push_32 rfl (lv_at hl 0 rfl) ?_
        refine xget (v := .int hist.2.1) E hw 0 rfl rfl 1 (by decide) inw3 qw76 rfl rfl dX3_push_33 ?_
        refine xaald E hw 1 rfl (by rw [hk]; decide) (by rw [hk]) dX3_push_36 ?_
        refine lv_aload_n hx hb dX3_push_37 rfl (lv_at hl 1 rfl) ?_
        obtain ⟨v38, hv38, hf⟩ := ob_e hf
        refine xcallV (ws' := (wH g h o (hist.1, hist.2.1, (rup hist.2.2 2 v38)) ++ wS g h o2 x)) (st1 := []) (n := 23) E hw [.ref (h o2)] [8, 9, 10, 20, 21, 22] (met_X7_takeFrom l g h (o + 2 + 3 * 2) o2 (hist.2.2 2) x v38 hv38) rfl (by decide) rfl rfl [0, 1, 2, 3, 4, 5, 6, 7, 23, 24, 25, 11, 12, 13, 14, 15, 16, 17, 18, 19, 26, 27, 28] rfl (by decide +kernel) rfl rfl rfl rfl qw294 k_X7_takeFrom ⟨rfl, rfl, Nat.le_of_ble_eq_true rfl, Nat.le_of_ble_eq_true rfl⟩ ⟨Nat.zero_le _, Nat.zero_le _⟩ hl.1 (Nat.le_of_ble_eq_true rfl) dX3_push_38 rfl (fun H locs hw => ?_)
        exact b41 _ _ _ (hist.1, hist.2.1, (rup hist.2.2 2 v38)) hw (lv_sub hl [0] rfl) hf
      replace hf := iq hk hf
      by_cases hk : hist.2.1 = 3
      · have hf := ip hk hf
        refine xaald E hw 1 rfl (by rw [hk]; decide) (by rw [hk]) dX3_push_24 ?_
        refine lv_ifnull hx hb dX3_push_25 ?_
        refine lv_aload_n hx hb dX3_push_28 rfl (lv_at hl 0 rfl) ?_
        refine xget (v := .ref (h (o + 1))) E hw 0 rfl rfl 2 (by decide) inw3 qw77 rfl rfl dX3_push_29 ?_
        refine lv_aload_n hx hb dX3_push_32 rfl (lv_at hl 0 rfl) ?_
        refine xget (v := .int hist.2.1) E hw 0 rfl rfl 1 (by decide) inw3 qw76 rfl rfl dX3_push_33 ?_
        refine xaald E hw 1 rfl (by rw [hk]; decide) (by rw [hk]) dX3_push_36 ?_
        refine lv_aload_n hx hb dX3_push_37 rfl (lv_at hl 1 rfl) ?_
        obtain ⟨v38, hv38, hf⟩ := ob_e hf
        refine xcallV (ws' := (wH g h o (hist.1, hist.2.1, (rup hist.2.2 3 v38)) ++ wS g h o2 x)) (st1 := []) (n := 23) E hw [.ref (h o2)] [11, 12, 13, 20, 21, 22] (met_X7_takeFrom l g h (o + 2 + 3 * 3) o2 (hist.2.2 3) x v38 hv38) rfl (by decide) rfl rfl [0, 1, 2, 3, 4, 5, 6, 7, 8, 9, 10, 23, 24, 25, 14, 15, 16, 17, 18, 19, 26, 27, 28] rfl (by decide +kernel) rfl rfl rfl rfl qw294 k_X7_takeFrom ⟨rfl, rfl, Nat.le_of_ble_eq_true rfl, Nat.le_of_ble_eq_true rfl⟩ ⟨Nat.zero_le _, Nat.zero_le _⟩ hl.1 (Nat.le_of_ble_eq_true rfl) dX3_push_38 rfl (fun H locs hw => ?_)
        exact b41 _ _ _ (hist.1, hist.2.1, (rup hist.2.2 3 v38)) hw (lv_sub hl [0] rfl) hf
      replace hf := iq hk hf
      by_cases hk : hist.2.1 = 4
      · have hf := ip hk hf
        refine xaald E hw 1 rfl (by rw [hk]; decide) (by rw [hk]) dX3_push_24 ?_
        refine lv_ifnull hx hb dX3_push_25 ?_
        refine lv_aload_n hx hb dX3_push_28 rfl (lv_at hl 0 rfl) ?_
        refine xget (v := .ref (h (o + 1))) E hw 0 rfl rfl 2 (by decide) inw3 qw77 rfl rfl dX3_push_29 ?_
        refine lv_aload_n hx hb dX3_push_32 rfl (lv_at hl 0 rfl) ?_
        refine xget (v := .int hist.2.1) E hw 0 rfl rfl 1 (by decide) inw3 qw76 rfl rfl dX3_push_33 ?_
        refine xaald E hw 1 rfl (by rw [hk]; decide) (by rw [hk]) dX3_push_36 ?_
        refine lv_aload_n hx hb dX3_push_37 rfl (lv_at hl 1 rfl) ?_
        obtain ⟨v38, hv38, hf⟩ := ob_e hf
        refine xcallV (ws' := (wH g h o (hist.1, hist.2.1, (rup hist.2.2 4 v38)) ++ wS g h o2 x)) (st1 := []) (n := 23) E hw [.ref (h o2)] [14, 15, 16, 20, 21, 22] (met_X7_takeFrom l g h (o + 2 + 3 * 4) o2 (hist.2.2 4) x v38 hv38) rfl (by decide) rfl rfl [0, 1, 2, 3, 4, 5, 6, 7, 8, 9, 10, 11, 12, 13, 23, 24, 25, 17, 18, 19, 26, 27, 28] rfl (by decide +kernel) rfl rfl rfl rfl qw294 k_X7_takeFrom ⟨rfl, rfl, Nat.le_of_ble_eq_true rfl, Nat.le_of_ble_eq_true rfl⟩ ⟨Nat.zero_le _, Nat.zero_le _⟩ hl.1 (Nat.le_of_ble_eq_true rfl) dX3_push_38 rfl (fun H locs hw => ?_)
        exact b41 _ _ _ (hist.1, hist.2.1, (rup hist.2.2 4 v38)) hw (lv_sub hl [0] rfl) hf
      replace hf := iq hk hf
      by_cases hk : hist.2.1 = 5
      · have hf := ip hk hf
        refine xaald E hw 1 rfl (by rw [hk]; decide) (by rw [hk]) dX3_push_24 ?_
        refine lv_ifnull hx hb dX3_push_25 ?_
        refine lv_aload_n hx hb dX3_push_28 rfl (lv_at hl 0 rfl) ?_
        refine xget (v := .ref (h (o + 1))) E hw 0 rfl rfl 2 (by decide) inw3 qw77 rfl rfl dX3_push_29 ?_
        refine lv_aload_n hx hb dX3_push_32 rfl (lv_at hl 0 rfl) ?_
        refine xget (v := .int hist.2.1) E hw 0 rfl rfl 1 (by decide) inw3 qw76 rfl rfl dX3_push_33 ?_
        refine xaald E hw 1 rfl (by rw [hk]; decide) (by rw [hk]) dX3_push_36 ?_
        refine lv_aload_n hx hb dX3_push_37 rfl (lv_at hl 1 rfl) ?_
        obtain ⟨v38, hv38, hf⟩ := ob_e hf
        refine xcallV (ws' := (wH g h o (hist.1, hist.2.1, (rup hist.2.2 5 v38)) ++ wS g h o2 x)) (st1 := []) (n := 23) E hw [.ref (h o2)] [17, 18, 19, 20, 21, 22] (met_X7_takeFrom l g h (o + 2 + 3 * 5) o2 (hist.2.2 5) x v38 hv38) rfl (by decide) rfl rfl [0, 1, 2, 3, 4, 5, 6, 7, 8, 9, 10, 11, 12, 13, 14, 15, 16, 23, 24, 25, 26, 27, 28] rfl (by decide +kernel) rfl rfl rfl rfl qw294 k_X7_takeFrom ⟨rfl, rfl, Nat.le_of_ble_eq_true rfl, Nat.le_of_ble_eq_true rfl⟩ ⟨Nat.zero_le _, Nat.zero_le _⟩ hl.1 (Nat.le_of_ble_eq_true rfl) dX3_push_38 rfl (fun H locs hw => ?_)
        exact b41 _ _ _ (hist.1, hist.2.1, (rup hist.2.2 5 v38)) hw (lv_sub hl [0] rfl) hf
      replace hf := iq hk hf
      exact nn hf
theorem k_X3_pop : xKV yX3_pop cX3_pop 2 none 1 := ⟨qw288, qw289, qw15, qw290, by decide +kernel, by decide +kernel, by decide +kernel⟩
set_option maxHeartbeats 4000000 in
set_option maxRecDepth 100000 in
theorem met_X3_pop (l : Launch) (g : xG) (h : Nat → Nat) (o : Nat) (o2 : Nat) (hist : HC) (x : SC) (out : HC × SC) (hf : f_X3_pop hist x = some out) : xM l yX3_pop (xC yX3_pop cX3_pop 2 none) { frames := 1, cells := 0, slots := 0, locals := 29 } g (wH g h o hist ++ wS g h o2 x) [.ref (h o), .ref (h o2)] none (wH g h o out.1 ++ wS g h o2 out.2) := by
  refine xof (by decide) (Nat.le_of_ble_eq_true rfl) ⟨rfl, rfl⟩ ?_
  intro p e s m below meth c A ls E hr hlocks hw hl hpost hAe
  have hx := E.1.1
  have hb := E.1.2.1
  have hown := E.1.2.2.2.1
  have hts := E.1.2.2.2.2
  generalize hZ : (MQ below (xPost g (wH g h o hist ++ wS g h o2 x) (wH g h o out.1 ++ wS g h o2 out.2) s.heap.size none) [.ref (h o), .ref (h o2)].toArray s 0 0 A) = ZZ
  have hret : ∀ (pc : Nat) (H : Heap) (locs : List Loc) (ls : Array Slot) (chist : HC) (cx : SC), (chist, cx) = out → decode cX3_pop pc = .ok (.return_, 1) → xW g A s.heap (wH g h o chist ++ wS g h o2 cx) H locs → W p l e { frames := 1, cells := 0, slots := 0, locals := 29 } s m [.ref (h o), .ref (h o2)].toArray below meth c H locs 0 0 ZZ (F0 m pc ls []) := by
    intro pc H locs ls chist cx he hd hw
    subst he
    rw [← hZ]
    exact W.vret hx hb hr (hpost H locs hw).1 (hpost H locs hw).2 hd hlocks
  clear hpost
  have b18 : ∀ (H : Heap) (locs : List Loc) (ls : Array Slot) (hist : HC) (x : SC) (t0 : Int32), xW g A s.heap (wH g h o hist ++ wS g h o2 x) H locs → lv_has ls 2 [(0, .ref (h o)), (1, .ref (h o2))] → f_X3_pop_b18 hist x t0 = some out → W p l e { frames := 1, cells := 0, slots := 0, locals := 29 } s m [.ref (h o), .ref (h o2)].toArray below meth c H locs 0 0 ZZ (F0 m 18 ls [.int t0, .ref (h o)]) := by
    intro H locs ls hist x t0 hw hl hf
    refine xput (ws' := (wH g h o (hist.1, t0, hist.2.2) ++ wS g h o2 x)) E hw 0 rfl rfl 1 (by decide) inw3 tyX3_ok nmX3 qw76 rfl rfl rfl rfl (Nat.le_of_ble_eq_true rfl) dX3_pop_18 rfl (fun H locs hw => ?_)
    refine lv_aload_n hx hb dX3_pop_21 rfl (lv_at hl 0 rfl) ?_
    refine lv_aload_n hx hb dX3_pop_22 rfl (lv_at hl 0 rfl) ?_
    refine xget (v := .int hist.1) E hw 0 rfl rfl 0 (by decide) inw3 qw74 rfl rfl dX3_pop_23 ?_
    refine lv_iconst (v := 1) hx hb dX3_pop_26 (by decide) ?_
    refine lv_isub hx hb dX3_pop_27 ?_
    refine lv_iconst (v := 0) hx hb dX3_pop_28 (by decide) ?_
    refine xmax E hl.1 qw291 qw292 qw30 qw293 ⟨Nat.le_of_ble_eq_true rfl, Nat.le_of_ble_eq_true rfl⟩ ⟨Nat.zero_le _, Nat.zero_le _⟩ dX3_pop_29 ?_
    refine xput (ws' := (wH g h o (if (hist.1 - 1) < 0 then 0 else (hist.1 - 1), t0, hist.2.2) ++ wS g h o2 x)) E hw 0 rfl rfl 0 (by decide) inw3 tyX3_ok nmX3 qw74 rfl rfl rfl rfl (Nat.le_of_ble_eq_true rfl) dX3_pop_32 rfl (fun H locs hw => ?_)
    refine lv_aload_n hx hb dX3_pop_35 rfl (lv_at hl 0 rfl) ?_
    refine xget (v := .int t0) E hw 0 rfl rfl 1 (by decide) inw3 qw76 rfl rfl dX3_pop_36 ?_
    refine lv_bipush (v := 6) hx hb dX3_pop_39 (by decide) ?_
    refine lv_icmp_ge (tgt := 69) hx hb dX3_pop_41 (by decide) (fun c41 => ?_) (fun c41 => ?_)
    · replace hf := ip c41 hf
      exact hret _ _ _ _ _ _ (Option.some.inj hf) dX3_pop_69 hw
    · replace hf := iq c41 hf
      refine lv_aload_n hx hb dX3_pop_44 rfl (lv_at hl 0 rfl) ?_
      refine xget (v := .ref (h (o + 1))) E hw 0 rfl rfl 2 (by decide) inw3 qw77 rfl rfl dX3_pop_45 ?_
      refine lv_aload_n hx hb dX3_pop_48 rfl (lv_at hl 0 rfl) ?_
      refine xget (v := .int t0) E hw 0 rfl rfl 1 (by decide) inw3 qw76 rfl rfl dX3_pop_49 ?_
      by_cases hk : t0 = 0
      · have hf := ip hk hf
        refine xaald E hw 1 rfl (by rw [hk]; decide) (by rw [hk]) dX3_pop_52 ?_
        refine lv_ifnull hx hb dX3_pop_53 ?_
        refine lv_aload_n hx hb dX3_pop_56 rfl (lv_at hl 1 rfl) ?_
        refine lv_aload_n hx hb dX3_pop_57 rfl (lv_at hl 0 rfl) ?_
        refine xget (v := .ref (h (o + 1))) E hw 0 rfl rfl 2 (by decide) inw3 qw77 rfl rfl dX3_pop_58 ?_
        refine lv_aload_n hx hb dX3_pop_61 rfl (lv_at hl 0 rfl) ?_
        refine xget (v := .int t0) E hw 0 rfl rfl 1 (by decide) inw3 qw76 rfl rfl dX3_pop_62 ?_
        refine xaald E hw 1 rfl (by rw [hk]; decide) (by rw [hk]) dX3_pop_65 ?_
        obtain ⟨v66, hv66, hf⟩ := ob_e hf
        refine xcallV (ws' := (wH g h o (if (hist.1 - 1) < 0 then 0 else (hist.1 - 1), t0, hist.2.2) ++ wS g h o2 v66)) (st1 := []) (n := 23) E hw [.ref (h (o + 2 + 3 * 0))] [20, 21, 22, 2, 3, 4] (met_X7_takeFrom l g h o2 (o + 2 + 3 * 0) x (hist.2.2 0) v66 hv66) rfl (by decide) rfl rfl [0, 1, 26, 27, 28, 5, 6, 7, 8, 9, 10, 11, 12, 13, 14, 15, 16, 17, 18, 19, 23, 24, 25] rfl (by decide +kernel) rfl rfl rfl rfl qw294 k_X7_takeFrom ⟨rfl, rfl, Nat.le_of_ble_eq_true rfl, Nat.le_of_ble_eq_true rfl⟩ ⟨Nat.zero_le _, Nat.zero_le _⟩ hl.1 (Nat.le_of_ble_eq_true rfl) dX3_pop_66 rfl (fun H locs hw => ?_)
        exact hret _ _ _ _ _ _ (Option.some.inj hf) dX3_pop_69 hw
      replace hf := iq hk hf
      by_cases hk : t0 = 1
      · have hf := ip hk hf
        refine xaald E hw 1 rfl (by rw [hk]; decide) (by rw [hk]) dX3_pop_52 ?_
        refine lv_ifnull hx hb dX3_pop_53 ?_
        refine lv_aload_n hx hb dX3_pop_56 rfl (lv_at hl 1 rfl) ?_
        refine lv_aload_n hx hb dX3_pop_57 rfl (lv_at hl 0 rfl) ?_
        refine xget (v := .ref (h (o + 1))) E hw 0 rfl rfl 2 (by decide) inw3 qw77 rfl rfl dX3_pop_58 ?_
        refine lv_aload_n hx hb dX3_pop_61 rfl (lv_at hl 0 rfl) ?_
        refine xget (v := .int t0) E hw 0 rfl rfl 1 (by decide) inw3 qw76 rfl rfl dX3_pop_62 ?_
        refine xaald E hw 1 rfl (by rw [hk]; decide) (by rw [hk]) dX3_pop_65 ?_
        obtain ⟨v66, hv66, hf⟩ := ob_e hf
        refine xcallV (ws' := (wH g h o (if (hist.1 - 1) < 0 then 0 else (hist.1 - 1), t0, hist.2.2) ++ wS g h o2 v66)) (st1 := []) (n := 23) E hw [.ref (h (o + 2 + 3 * 1))] [20, 21, 22, 5, 6, 7] (met_X7_takeFrom l g h o2 (o + 2 + 3 * 1) x (hist.2.2 1) v66 hv66) rfl (by decide) rfl rfl [0, 1, 2, 3, 4, 26, 27, 28, 8, 9, 10, 11, 12, 13, 14, 15, 16, 17, 18, 19, 23, 24, 25] rfl (by decide +kernel) rfl rfl rfl rfl qw294 k_X7_takeFrom ⟨rfl, rfl, Nat.le_of_ble_eq_true rfl, Nat.le_of_ble_eq_true rfl⟩ ⟨Nat.zero_le _, Nat.zero_le _⟩ hl.1 (Nat.le_of_ble_eq_true rfl) dX3_pop_66 rfl (fun H locs hw => ?_)
        exact hret _ _ _ _ _ _ (Option.some.inj hf) dX3_pop_69 hw
      replace hf := iq hk hf
      by_cases hk : t0 = 2
      · have hf := ip hk hf
        refine xaald E hw 1 rfl (by rw [hk]; decide) (by rw [hk]) dX3_pop_52 ?_
        refine lv_ifnull hx hb dX3_pop_53 ?_
        refine lv_aload_n hx hb dX3_pop_56 rfl (lv_at hl 1 rfl) ?_
        refine lv_aload_n hx hb dX3_pop_57 rfl (lv_at hl 0 rfl) ?_
        refine xget (v := .ref (h (o + 1))) E hw 0 rfl rfl 2 (by decide) inw3 qw77 rfl rfl dX3_pop_58 ?_
        refine lv_aload_n hx hb dX3_pop_61 rfl (lv_at hl 0 rfl) ?_
        refine xget (v := .int t0) E hw 0 rfl rfl 1 (by decide) inw3 qw76 rfl rfl dX3_pop_62 ?_
        refine xaald E hw 1 rfl (by rw [hk]; decide) (by rw [hk]) dX3_pop_65 ?_
        obtain ⟨v66, hv66, hf⟩ := ob_e hf
        refine xcallV (ws' := (wH g h o (if (hist.1 - 1) < 0 then 0 else (hist.1 - 1), t0, hist.2.2) ++ wS g h o2 v66)) (st1 := []) (n := 23) E hw [.ref (h (o + 2 + 3 * 2))] [20, 21, 22, 8, 9, 10] (met_X7_takeFrom l g h o2 (o + 2 + 3 * 2) x (hist.2.2 2) v66 hv66) rfl (by decide) rfl rfl [0, 1, 2, 3, 4, 5, 6, 7, 26, 27, 28, 11, 12, 13, 14, 15, 16, 17, 18, 19, 23, 24, 25] rfl (by decide +kernel) rfl rfl rfl rfl qw294 k_X7_takeFrom ⟨rfl, rfl, Nat.le_of_ble_eq_true rfl, Nat.le_of_ble_eq_true rfl⟩ ⟨Nat.zero_le _, Nat.zero_le _⟩ hl.1 (Nat.le_of_ble_eq_true rfl) dX3_pop_66 rfl (fun H locs hw => ?_)
        exact hret _ _ _ _ _ _ (Option.some.inj hf) dX3_pop_69 hw
      replace hf := iq hk hf
      by_cases hk : t0 = 3
      · have hf := ip hk hf
        refine xaald E hw 1 rfl (by rw [hk]; decide) (by rw [hk]) dX3_pop_52 ?_
        refine lv_ifnull hx hb dX3_pop_53 ?_
        refine lv_aload_n hx hb dX3_pop_56 rfl (lv_at hl 1 rfl) ?_
        refine lv_aload_n hx hb dX3_pop_57 rfl (lv_at hl 0 rfl) ?_
        refine xget (v := .ref (h (o + 1))) E hw 0 rfl rfl 2 (by decide) inw3 qw77 rfl rfl dX3_pop_58 ?_
        refine lv_aload_n hx hb dX3_pop_61 rfl (lv_at hl 0 rfl) ?_
        refine xget (v := .int t0) E hw 0 rfl rfl 1 (by decide) inw3 qw76 rfl rfl dX3_pop_62 ?_
        refine xaald E hw 1 rfl (by rw [hk]; decide) (by rw [hk]) dX3_pop_65 ?_
        obtain ⟨v66, hv66, hf⟩ := ob_e hf
        refine xcallV (ws' := (wH g h o (if (hist.1 - 1) < 0 then 0 else (hist.1 - 1), t0, hist.2.2) ++ wS g h o2 v66)) (st1 := []) (n := 23) E hw [.ref (h (o + 2 + 3 * 3))] [20, 21, 22, 11, 12, 13] (met_X7_takeFrom l g h o2 (o + 2 + 3 * 3) x (hist.2.2 3) v66 hv66) rfl (by decide) rfl rfl [0, 1, 2, 3, 4, 5, 6, 7, 8, 9, 10, 26, 27, 28, 14, 15, 16, 17, 18, 19, 23, 24, 25] rfl (by decide +kernel) rfl rfl rfl rfl qw294 k_X7_takeFrom ⟨rfl, rfl, Nat.le_of_ble_eq_true rfl, Nat.le_of_ble_eq_true rfl⟩ ⟨Nat.zero_le _, Nat.zero_le _⟩ hl.1 (Nat.le_of_ble_eq_true rfl) dX3_pop_66 rfl (fun H locs hw => ?_)
        exact hret _ _ _ _ _ _ (Option.some.inj hf) dX3_pop_69 hw
      replace hf := iq hk hf
      by_cases hk : t0 = 4
      · have hf := ip hk hf
        refine xaald E hw 1 rfl (by rw [hk]; decide) (by rw [hk]) dX3_pop_52 ?_
        refine lv_ifnull hx hb dX3_pop_53 ?_
        refine lv_aload_n hx hb dX3_pop_56 rfl (lv_at hl 1 rfl) ?_
        refine lv_aload_n hx hb dX3_pop_57 rfl (lv_at hl 0 rfl) ?_
        refine xget (v := .ref (h (o + 1))) E hw 0 rfl rfl 2 (by decide) inw3 qw77 rfl rfl dX3_pop_58 ?_
        refine lv_aload_n hx hb dX3_pop_61 rfl (lv_at hl 0 rfl) ?_
        refine xget (v := .int t0) E hw 0 rfl rfl 1 (by decide) inw3 qw76 rfl rfl dX3_pop_62 ?_
        refine xaald E hw 1 rfl (by rw [hk]; decide) (by rw [hk]) dX3_pop_65 ?_
        obtain ⟨v66, hv66, hf⟩ := ob_e hf
        refine xcallV (ws' := (wH g h o (if (hist.1 - 1) < 0 then 0 else (hist.1 - 1), t0, hist.2.2) ++ wS g h o2 v66)) (st1 := []) (n := 23) E hw [.ref (h (o + 2 + 3 * 4))] [20, 21, 22, 14, 15, 16] (met_X7_takeFrom l g h o2 (o + 2 + 3 * 4) x (hist.2.2 4) v66 hv66) rfl (by decide) rfl rfl [0, 1, 2, 3, 4, 5, 6, 7, 8, 9, 10, 11, 12, 13, 26, 27, 28, 17, 18, 19, 23, 24, 25] rfl (by decide +kernel) rfl rfl rfl rfl qw294 k_X7_takeFrom ⟨rfl, rfl, Nat.le_of_ble_eq_true rfl, Nat.le_of_ble_eq_true rfl⟩ ⟨Nat.zero_le _, Nat.zero_le _⟩ hl.1 (Nat.le_of_ble_eq_true rfl) dX3_pop_66 rfl (fun H locs hw => ?_)
        exact hret _ _ _ _ _ _ (Option.some.inj hf) dX3_pop_69 hw
      replace hf := iq hk hf
      by_cases hk : t0 = 5
      · have hf := ip hk hf
        refine xaald E hw 1 rfl (by rw [hk]; decide) (by rw [hk]) dX3_pop_52 ?_
        refine lv_ifnull hx hb dX3_pop_53 ?_
        refine lv_aload_n hx hb dX3_pop_56 rfl (lv_at hl 1 rfl) ?_
        refine lv_aload_n hx hb dX3_pop_57 rfl (lv_at hl 0 rfl) ?_
        refine xget (v := .ref (h (o + 1))) E hw 0 rfl rfl 2 (by decide) inw3 qw77 rfl rfl dX3_pop_58 ?_
        refine lv_aload_n hx hb dX3_pop_61 rfl (lv_at hl 0 rfl) ?_
        refine xget (v := .int t0) E hw 0 rfl rfl 1 (by decide) inw3 qw76 rfl rfl dX3_pop_62 ?_
        refine xaald E hw 1 rfl (by rw [hk]; decide) (by rw [hk]) dX3_pop_65 ?_
        obtain ⟨v66, hv66, hf⟩ := ob_e hf
        refine xcallV (ws' := (wH g h o (if (hist.1 - 1) < 0 then 0 else (hist.1 - 1), t0, hist.2.2) ++ wS g h o2 v66)) (st1 := []) (n := 23) E hw [.ref (h (o + 2 + 3 * 5))] [20, 21, 22, 17, 18, 19] (met_X7_takeFrom l g h o2 (o + 2 + 3 * 5) x (hist.2.2 5) v66 hv66) rfl (by decide) rfl rfl [0, 1, 2, 3, 4, 5, 6, 7, 8, 9, 10, 11, 12, 13, 14, 15, 16, 26, 27, 28, 23, 24, 25] rfl (by decide +kernel) rfl rfl rfl rfl qw294 k_X7_takeFrom ⟨rfl, rfl, Nat.le_of_ble_eq_true rfl, Nat.le_of_ble_eq_true rfl⟩ ⟨Nat.zero_le _, Nat.zero_le _⟩ hl.1 (Nat.le_of_ble_eq_true rfl) dX3_pop_66 rfl (fun H locs hw => ?_)
        exact hret _ _ _ _ _ _ (Option.some.inj hf) dX3_pop_69 hw
      replace hf := iq hk hf
      exact nn hf
  refine lv_aload_n hx hb dX3_pop_0 rfl (lv_at hl 0 rfl) ?_
  refine lv_aload_n hx hb dX3_pop_1 rfl (lv_at hl 0 rfl) ?_
  refine xget (v := .int hist.2.1) E hw 0 rfl rfl 1 (by decide) inw3 qw76 rfl rfl dX3_pop_2 ?_
  refine lv_if_le (tgt := 17) hx hb dX3_pop_5 (by decide) (fun c5 => ?_) (fun c5 => ?_)
  · replace hf := ip c5 hf
    refine lv_iconst (v := 5) hx hb dX3_pop_17 (by decide) ?_
    exact b18 _ _ _ hist x 5 hw (lv_sub hl [0, 1] rfl) hf
  · replace hf := iq c5 hf
    refine lv_aload_n hx hb dX3_pop_8 rfl (lv_at hl 0 rfl) ?_
    refine xget (v := .int hist.2.1) E hw 0 rfl rfl 1 (by decide) inw3 qw76 rfl rfl dX3_pop_9 ?_
    refine lv_iconst (v := 1) hx hb dX3_pop_12 (by decide) ?_
    refine lv_isub hx hb dX3_pop_13 ?_
    refine lv_goto (tgt := 18) hx hb dX3_pop_14 (by decide) ?_
    exact b18 _ _ _ hist x (hist.2.1 - 1) hw (lv_sub hl [0, 1] rfl) hf
