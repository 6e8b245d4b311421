theorem k_X1_form : xKV yX1_form cX1_form 15 none 3 := ⟨qw609, qw610, qw73, qw611, by decide +kernel, by decide +kernel, by decide +kernel⟩
set_option maxHeartbeats 4000000 in
set_option maxRecDepth 100000 in
theorem met_X1_form (l : Launch) (g : xG) (h : Nat → Nat) (o : Nat) (col : CC) (a1 : Int32) (a2 : Int32) (a3 : Int32) (out : CC) (hf : f_X1_form col a1 a2 a3 = some out) : xM l yX1_form (xC yX1_form cX1_form 15 none) { frames := 2, cells := 0, slots := 0, locals := 47 } g (wD g h o col) [.ref (h o), .int a1, .int a2, .int a3] none (wD g h o out) := by
  refine xof (by decide) (Nat.le_of_ble_eq_true rfl) ⟨rfl, rfl⟩ ?_
  intro p e s m below meth c A ls E hr hlocks hw hl hpost hAe
  have hx := E.1.1
  have hb := E.1.2.1
  have hown := E.1.2.2.2.1
  have hts := E.1.2.2.2.2
  generalize hZ : (MQ below (xPost g (wD g h o col) (wD g h o out) s.heap.size none) [.ref (h o), .int a1, .int a2, .int a3].toArray s 0 0 A) = ZZ
  have hret : ∀ (pc : Nat) (H : Heap) (locs : List Loc) (ls : Array Slot) (ccol : CC), ccol = out → decode cX1_form pc = .ok (.return_, 1) → xW g A s.heap (wD g h o ccol) H locs → W p l e { frames := 2, cells := 0, slots := 0, locals := 47 } s m [.ref (h o), .int a1, .int a2, .int a3].toArray below meth c H locs 0 0 ZZ (F0 m pc ls []) := by
    intro pc H locs ls ccol he hd hw
    subst he
    rw [← hZ]
    exact W.vret hx hb hr (hpost H locs hw).1 (hpost H locs hw).2 hd hlocks
  clear hpost
  have b179 : ∀ (H : Heap) (locs : List Loc) (ls : Array Slot) (col : CC) (x4 : Int32) (x9 : Int64), xW g A s.heap (wD g h o col) H locs → lv_has ls 15 [(0, .ref (h o)), (4, .int x4), (9, .long x9)] → f_X1_form_b179 col x4 x9 = some out → W p l e { frames := 2, cells := 0, slots := 0, locals := 47 } s m [.ref (h o), .int a1, .int a2, .int a3].toArray below meth c H locs 0 0 ZZ (F0 m 179 ls []) := by
    intro H locs ls col x4 x9 hw hl hf
    refine lv_aload_n hx hb dX1_form_179 rfl (lv_at hl 0 rfl) ?_
    refine lv_iload hx hb dX1_form_180 (lv_at hl 1 rfl) ?_
    refine xput (ws' := (wD g h o (x4, col.2.1, col.2.2.1, col.2.2.2))) E hw 0 rfl rfl 0 (by decide) inw1 tyX1_ok nmX1 qw230 rfl rfl rfl rfl (Nat.le_of_ble_eq_true rfl) dX1_form_182 rfl (fun H locs hw => ?_)
    refine lv_lload hx hb dX1_form_185 (lv_at hl 2 rfl) ?_
    refine lv_lconst (v := 1) hx hb dX1_form_187 (by decide) ?_
    refine xlc_ne (tgt := 218) hx hb dX1_form_188 dX1_form_189 (by decide) (fun c188 => ?_) (fun c188 => ?_)
    · replace hf := iq c188 hf
      exact hret _ _ _ _ _ (Option.some.inj hf) dX1_form_218 hw
    · replace hf := ip c188 hf
      refine lv_iload hx hb dX1_form_192 (lv_at hl 1 rfl) ?_
      refine lv_aload_n hx hb dX1_form_194 rfl (lv_at hl 0 rfl) ?_
      refine xget (v := .ref (h (o + 1))) E hw 0 rfl rfl 3 (by decide) inw1 qw236 rfl rfl dX1_form_195 ?_
      refine xalen (v := 31) E hw 1 0 rfl rfl rfl dX1_form_198 ?_
      refine lv_icmp_ge (tgt := 218) hx hb dX1_form_199 (by decide) (fun c199 => ?_) (fun c199 => ?_)
      · replace hf := ip c199 hf
        exact hret _ _ _ _ _ (Option.some.inj hf) dX1_form_218 hw
      · replace hf := iq c199 hf
        refine lv_aload_n hx hb dX1_form_202 rfl (lv_at hl 0 rfl) ?_
        refine xget (v := .ref (h (o + 1))) E hw 0 rfl rfl 3 (by decide) inw1 qw236 rfl rfl dX1_form_203 ?_
        refine lv_iload hx hb dX1_form_206 (lv_at hl 1 rfl) ?_
        refine lv_iconst (v := 1) hx hb dX1_form_208 (by decide) ?_
        obtain ⟨hz, hf⟩ := nz hf
        refine xiast (ws' := (wD g h o (x4, col.2.1, col.2.2.1, (upd col.2.2.2 x4.toNatClampNeg 1)))) E hw 1 rfl hz dX1_form_209 rfl (fun H locs hw => ?_)
        refine lv_aload_n hx hb dX1_form_210 rfl (lv_at hl 0 rfl) ?_
        refine lv_iload hx hb dX1_form_211 (lv_at hl 1 rfl) ?_
        refine lv_iconst (v := 1) hx hb dX1_form_213 (by decide) ?_
        refine lv_iadd hx hb dX1_form_214 ?_
        refine xput (ws' := (wD g h o (x4 + 1, col.2.1, col.2.2.1, (upd col.2.2.2 x4.toNatClampNeg 1)))) E hw 0 rfl rfl 0 (by decide) inw1 tyX1_ok nmX1 qw230 rfl rfl rfl rfl (Nat.le_of_ble_eq_true rfl) dX1_form_215 rfl (fun H locs hw => ?_)
        exact hret _ _ _ _ _ (Option.some.inj hf) dX1_form_218 hw
  have b42 : ∀ n42 : Nat, ∀ (H : Heap) (locs : List Loc) (ls : Array Slot) (col : CC) (x3 : Int32) (x4 : Int32) (x5 : Int64) (x7 : Int64) (x9 : Int64) (x11 : Int32) (x12 : Int32), xW g A s.heap (wD g h o col) H locs → lv_has ls 15 [(0, .ref (h o)), (3, .int x3), (4, .int x4), (5, .long x5), (7, .long x7), (9, .long x9), (11, .int x11), (12, .int x12)] → f_X1_form_b42 n42 col x3 x4 x5 x7 x9 x11 x12 = some out → W p l e { frames := 2, cells := 0, slots := 0, locals := 47 } s m [.ref (h o), .int a1, .int a2, .int a3].toArray below meth c H locs 0 0 ZZ (F0 m 42 ls []) := by
    intro n42
    induction n42 with
    | zero =>
      intro H locs ls col x3 x4 x5 x7 x9 x11 x12 hw hl hf
      exact nn hf
    | succ n42 ih42 =>
      have b123 : ∀ (H : Heap) (locs : List Loc) (ls : Array Slot) (col : CC) (x3 : Int32) (x4 : Int32) (x5 : Int64) (x7 : Int64) (x9 : Int64) (x11 : Int32) (x12 : Int32) (x13 : Int64) (t0 : Int32) (t1 : Int32), xW g A s.heap (wD g h o col) H locs → lv_has ls 15 [(0, .ref (h o)), (3, .int x3), (4, .int x4), (5, .long x5), (7, .long x7), (9, .long x9), (11, .int x11), (12, .int x12), (13, .long x13)] → f_X1_form_b123 (f_X1_form_b42 n42) col x3 x4 x5 x7 x9 x11 x12 x13 t0 t1 = some out → W p l e { frames := 2, cells := 0, slots := 0, locals := 47 } s m [.ref (h o), .int a1, .int a2, .int a3].toArray below meth c H locs 0 0 ZZ (F0 m 123 ls [.int t0, .int t1, .ref (h o)]) := by
        intro H locs ls col x3 x4 x5 x7 x9 x11 x12 x13 t0 t1 hw hl hf
        refine lv_iadd hx hb dX1_form_123 ?_
        refine xput (ws' := (wD g h o (col.1, t1 + t0, col.2.2.1, col.2.2.2))) E hw 0 rfl rfl 1 (by decide) inw1 tyX1_ok nmX1 qw232 rfl rfl rfl rfl (Nat.le_of_ble_eq_true rfl) dX1_form_124 rfl (fun H locs hw => ?_)
        refine lv_aload_n hx hb dX1_form_127 rfl (lv_at hl 0 rfl) ?_
        refine lv_aload_n hx hb dX1_form_128 rfl (lv_at hl 0 rfl) ?_
        refine xget (v := .int col.2.2.1) E hw 0 rfl rfl 2 (by decide) inw1 qw234 rfl rfl dX1_form_129 ?_
        refine lv_iload hx hb dX1_form_132 (lv_at hl 6 rfl) ?_
        refine xmax E hl.1 qw613 qw614 qw79 qw615 ⟨Nat.le_of_ble_eq_true rfl, Nat.le_of_ble_eq_true rfl⟩ ⟨Nat.zero_le _, Nat.zero_le _⟩ dX1_form_134 ?_
        refine xput (ws' := (wD g h o (col.1, t1 + t0, if col.2.2.1 < x11 then x11 else col.2.2.1, col.2.2.2))) E hw 0 rfl rfl 2 (by decide) inw1 tyX1_ok nmX1 qw234 rfl rfl rfl rfl (Nat.le_of_ble_eq_true rfl) dX1_form_137 rfl (fun H locs hw => ?_)
        refine lv_aload_n hx hb dX1_form_140 rfl (lv_at hl 0 rfl) ?_
        refine xget (v := .ref (h (o + 1))) E hw 0 rfl rfl 3 (by decide) inw1 qw236 rfl rfl dX1_form_141 ?_
        refine lv_iload hx hb dX1_form_144 (lv_at hl 7 rfl) ?_
        refine lv_lload hx hb dX1_form_146 (lv_at hl 8 rfl) ?_
        refine lv_iload_n hx hb dX1_form_148 rfl (lv_at hl 1 rfl) ?_
        refine lv_i2l hx hb dX1_form_149 rfl ?_
        obtain ⟨v150, hv150, hf⟩ := ob_e hf
        refine xcallS (ws' := (wD g h o (col.1, t1 + t0, if col.2.2.1 < x11 then x11 else col.2.2.1, col.2.2.2))) (st1 := [.long v150, .int x12, .ref (h (o + 1))]) (n := 2) E hw [.long x13, .long x3.toInt64] [] (met_X5_left l g x13 x3.toInt64 v150 hv150) rfl (by decide) rfl rfl [0, 1] rfl (by decide +kernel) rfl qw616 k_X5_left ⟨rfl, rfl, Nat.le_of_ble_eq_true rfl, Nat.le_of_ble_eq_true rfl⟩ ⟨Nat.zero_le _, Nat.zero_le _⟩ hl.1 (Nat.le_of_ble_eq_true rfl) dX1_form_150 rfl (fun H locs hw => ?_)
        refine lv_l2i hx hb dX1_form_153 rfl ?_
        obtain ⟨hz, hf⟩ := nz hf
        refine xiast (ws' := (wD g h o (col.1, t1 + t0, if col.2.2.1 < x11 then x11 else col.2.2.1, (upd col.2.2.2 x12.toNatClampNeg v150.toInt32)))) E hw 1 rfl hz dX1_form_154 rfl (fun H locs hw => ?_)
        refine lv_lload hx hb dX1_form_155 (lv_at hl 3 rfl) ?_
        refine lv_iload_n hx hb dX1_form_157 rfl (lv_at hl 1 rfl) ?_
        refine lv_i2l hx hb dX1_form_158 rfl ?_
        obtain ⟨v159, hv159, hf⟩ := ob_e hf
        refine xcallS (ws' := (wD g h o (col.1, t1 + t0, if col.2.2.1 < x11 then x11 else col.2.2.1, (upd col.2.2.2 x12.toNatClampNeg v150.toInt32)))) (st1 := [.long v159]) (n := 2) E hw [.long x5, .long x3.toInt64] [] (met_X5_quotient l g x5 x3.toInt64 v159 hv159) rfl (by decide) rfl rfl [0, 1] rfl (by decide +kernel) rfl qw617 k_X5_quotient ⟨rfl, rfl, Nat.le_of_ble_eq_true rfl, Nat.le_of_ble_eq_true rfl⟩ ⟨Nat.zero_le _, Nat.zero_le _⟩ hl.1 (Nat.le_of_ble_eq_true rfl) dX1_form_159 rfl (fun H locs hw => ?_)
        refine lv_lstore (lv' := [(5, .long v159), (0, .ref (h o)), (3, .int x3), (4, .int x4), (7, .long x7), (9, .long x9), (11, .int x11), (12, .int x12), (13, .long x13)]) hx hb dX1_form_162 hl (by decide) rfl (fun ls hl => ?_)
        refine lv_lload hx hb dX1_form_164 (lv_at hl 4 rfl) ?_
        refine lv_iload_n hx hb dX1_form_166 rfl (lv_at hl 2 rfl) ?_
        refine lv_i2l hx hb dX1_form_167 rfl ?_
        obtain ⟨v168, hv168, hf⟩ := ob_e hf
        refine xcallS (ws' := (wD g h o (col.1, t1 + t0, if col.2.2.1 < x11 then x11 else col.2.2.1, (upd col.2.2.2 x12.toNatClampNeg v150.toInt32)))) (st1 := [.long v168]) (n := 2) E hw [.long x7, .long x3.toInt64] [] (met_X5_quotient l g x7 x3.toInt64 v168 hv168) rfl (by decide) rfl rfl [0, 1] rfl (by decide +kernel) rfl qw617 k_X5_quotient ⟨rfl, rfl, Nat.le_of_ble_eq_true rfl, Nat.le_of_ble_eq_true rfl⟩ ⟨Nat.zero_le _, Nat.zero_le _⟩ hl.1 (Nat.le_of_ble_eq_true rfl) dX1_form_168 rfl (fun H locs hw => ?_)
        refine lv_lstore (lv' := [(7, .long v168), (5, .long v159), (0, .ref (h o)), (3, .int x3), (4, .int x4), (9, .long x9), (11, .int x11), (12, .int x12), (13, .long x13)]) hx hb dX1_form_171 hl (by decide) rfl (fun ls hl => ?_)
        refine lv_iinc (v := x12 + 1) (lv' := [(12, .int (x12 + 1)), (7, .long v168), (5, .long v159), (0, .ref (h o)), (3, .int x3), (4, .int x4), (9, .long x9), (11, .int x11), (13, .long x13)]) hx hb dX1_form_173 hl (k := 7) rfl rfl (by decide) rfl (fun ls hl => ?_)
        refine lv_goto (tgt := 42) hx hb dX1_form_176 (by decide) ?_
        exact ih42 _ _ _ (col.1, t1 + t0, if col.2.2.1 < x11 then x11 else col.2.2.1, (upd col.2.2.2 x12.toNatClampNeg v150.toInt32)) x3 x4 v159 v168 x9 x11 (x12 + 1) hw (lv_sub hl [3, 4, 5, 2, 1, 6, 7, 0] rfl) hf
      have b106 : ∀ (H : Heap) (locs : List Loc) (ls : Array Slot) (col : CC) (x3 : Int32) (x4 : Int32) (x5 : Int64) (x7 : Int64) (x9 : Int64) (x12 : Int32) (x13 : Int64) (t0 : Int32), xW g A s.heap (wD g h o col) H locs → lv_has ls 15 [(0, .ref (h o)), (3, .int x3), (4, .int x4), (5, .long x5), (7, .long x7), (9, .long x9), (12, .int x12), (13, .long x13)] → f_X1_form_b106 (f_X1_form_b42 n42) col x3 x4 x5 x7 x9 x12 x13 t0 = some out → W p l e { frames := 2, cells := 0, slots := 0, locals := 47 } s m [.ref (h o), .int a1, .int a2, .int a3].toArray below meth c H locs 0 0 ZZ (F0 m 106 ls [.int t0]) := by
        intro H locs ls col x3 x4 x5 x7 x9 x12 x13 t0 hw hl hf
        refine lv_istore (lv' := [(11, .int t0), (0, .ref (h o)), (3, .int x3), (4, .int x4), (5, .long x5), (7, .long x7), (9, .long x9), (12, .int x12), (13, .long x13)]) hx hb dX1_form_106 hl (by decide) rfl (fun ls hl => ?_)
        refine lv_aload_n hx hb dX1_form_108 rfl (lv_at hl 1 rfl) ?_
        refine lv_dup hx hb dX1_form_109 rfl ?_
        refine xget (v := .int col.2.1) E hw 0 rfl rfl 1 (by decide) inw1 qw232 rfl rfl dX1_form_110 ?_
        refine lv_iload hx hb dX1_form_113 (lv_at hl 0 rfl) ?_
        refine lv_if_le (tgt := 122) hx hb dX1_form_115 (by decide) (fun c115 => ?_) (fun c115 => ?_)
        · replace hf := ip c115 hf
          refine lv_iconst (v := 0) hx hb dX1_form_122 (by decide) ?_
          exact b123 _ _ _ col x3 x4 x5 x7 x9 t0 x12 x13 0 col.2.1 hw (lv_sub hl [1, 2, 3, 4, 5, 6, 0, 7, 8] rfl) hf
        · replace hf := iq c115 hf
          refine lv_iconst (v := 1) hx hb dX1_form_118 (by decide) ?_
          refine lv_goto (tgt := 123) hx hb dX1_form_119 (by decide) ?_
          exact b123 _ _ _ col x3 x4 x5 x7 x9 t0 x12 x13 1 col.2.1 hw (lv_sub hl [1, 2, 3, 4, 5, 6, 0, 7, 8] rfl) hf
      have b89 : ∀ (H : Heap) (locs : List Loc) (ls : Array Slot) (col : CC) (x3 : Int32) (x4 : Int32) (x5 : Int64) (x7 : Int64) (x11 : Int32) (x12 : Int32) (x13 : Int64) (t0 : Int64), xW g A s.heap (wD g h o col) H locs → lv_has ls 15 [(0, .ref (h o)), (3, .int x3), (4, .int x4), (5, .long x5), (7, .long x7), (11, .int x11), (12, .int x12), (13, .long x13)] → f_X1_form_b89 (f_X1_form_b42 n42) col x3 x4 x5 x7 x11 x12 x13 t0 = some out → W p l e { frames := 2, cells := 0, slots := 0, locals := 47 } s m [.ref (h o), .int a1, .int a2, .int a3].toArray below meth c H locs 0 0 ZZ (F0 m 89 ls [.long t0]) := by
        intro H locs ls col x3 x4 x5 x7 x11 x12 x13 t0 hw hl hf
        refine lv_lstore (lv' := [(9, .long t0), (0, .ref (h o)), (3, .int x3), (4, .int x4), (5, .long x5), (7, .long x7), (11, .int x11), (12, .int x12), (13, .long x13)]) hx hb dX1_form_89 hl (by decide) rfl (fun ls hl => ?_)
        refine lv_lload hx hb dX1_form_91 (lv_at hl 0 rfl) ?_
        refine lv_lconst (v := 1) hx hb dX1_form_93 (by decide) ?_
        refine xlc_ne (tgt := 105) hx hb dX1_form_94 dX1_form_95 (by decide) (fun c94 => ?_) (fun c94 => ?_)
        · replace hf := iq c94 hf
          refine lv_iconst (v := 0) hx hb dX1_form_105 (by decide) ?_
          exact b106 _ _ _ col x3 x4 x5 x7 t0 x12 x13 0 hw (lv_sub hl [1, 2, 3, 4, 5, 0, 7, 8] rfl) hf
        · replace hf := ip c94 hf
          refine lv_iload hx hb dX1_form_98 (lv_at hl 6 rfl) ?_
          refine lv_iconst (v := 1) hx hb dX1_form_100 (by decide) ?_
          refine lv_iadd hx hb dX1_form_101 ?_
          refine lv_goto (tgt := 106) hx hb dX1_form_102 (by decide) ?_
          exact b106 _ _ _ col x3 x4 x5 x7 t0 x12 x13 (x11 + 1) hw (lv_sub hl [1, 2, 3, 4, 5, 0, 7, 8] rfl) hf
      intro H locs ls col x3 x4 x5 x7 x9 x11 x12 hw hl hf
      refine lv_iload hx hb dX1_form_42 (lv_at hl 7 rfl) ?_
      refine lv_iload hx hb dX1_form_44 (lv_at hl 2 rfl) ?_
      refine lv_icmp_ge (tgt := 179) hx hb dX1_form_46 (by decide) (fun c46 => ?_) (fun c46 => ?_)
      · replace hf := ip c46 hf
        exact b179 _ _ _ col x4 x9 hw (lv_sub hl [0, 2, 5] rfl) hf
      · replace hf := iq c46 hf
        refine lv_iload hx hb dX1_form_49 (lv_at hl 7 rfl) ?_
        refine lv_bipush (v := 30) hx hb dX1_form_51 (by decide) ?_
        refine lv_icmp_ge (tgt := 179) hx hb dX1_form_53 (by decide) (fun c53 => ?_) (fun c53 => ?_)
        · replace hf := ip c53 hf
          exact b179 _ _ _ col x4 x9 hw (lv_sub hl [0, 2, 5] rfl) hf
        · replace hf := iq c53 hf
          refine lv_lload hx hb dX1_form_56 (lv_at hl 3 rfl) ?_
          refine lv_iload_n hx hb dX1_form_58 rfl (lv_at hl 1 rfl) ?_
          refine lv_i2l hx hb dX1_form_59 rfl ?_
          obtain ⟨v60, hv60, hf⟩ := ob_e hf
          refine xcallS (ws' := (wD g h o col)) (st1 := [.long v60]) (n := 2) E hw [.long x5, .long x3.toInt64] [] (met_X5_left l g x5 x3.toInt64 v60 hv60) rfl (by decide) rfl rfl [0, 1] rfl (by decide +kernel) rfl qw616 k_X5_left ⟨rfl, rfl, Nat.le_of_ble_eq_true rfl, Nat.le_of_ble_eq_true rfl⟩ ⟨Nat.zero_le _, Nat.zero_le _⟩ hl.1 (Nat.le_of_ble_eq_true rfl) dX1_form_60 rfl (fun H locs hw => ?_)
          refine lv_lload hx hb dX1_form_63 (lv_at hl 4 rfl) ?_
          refine lv_iload_n hx hb dX1_form_65 rfl (lv_at hl 1 rfl) ?_
          refine lv_i2l hx hb dX1_form_66 rfl ?_
          obtain ⟨v67, hv67, hf⟩ := ob_e hf
          refine xcallS (ws' := (wD g h o col)) (st1 := [.long v67, .long v60]) (n := 2) E hw [.long x7, .long x3.toInt64] [] (met_X5_left l g x7 x3.toInt64 v67 hv67) rfl (by decide) rfl rfl [0, 1] rfl (by decide +kernel) rfl qw616 k_X5_left ⟨rfl, rfl, Nat.le_of_ble_eq_true rfl, Nat.le_of_ble_eq_true rfl⟩ ⟨Nat.zero_le _, Nat.zero_le _⟩ hl.1 (Nat.le_of_ble_eq_true rfl) dX1_form_67 rfl (fun H locs hw => ?_)
          refine lv_ladd hx hb dX1_form_70 ?_
          refine lv_lload hx hb dX1_form_71 (lv_at hl 5 rfl) ?_
          refine lv_ladd hx hb dX1_form_73 ?_
          refine lv_lstore (lv' := [(13, .long ((v60 + v67) + x9)), (0, .ref (h o)), (3, .int x3), (4, .int x4), (5, .long x5), (7, .long x7), (9, .long x9), (11, .int x11), (12, .int x12)]) hx hb dX1_form_74 hl (by decide) rfl (fun ls hl => ?_)
          refine lv_lload hx hb dX1_form_76 (lv_at hl 0 rfl) ?_
          refine lv_iload_n hx hb dX1_form_78 rfl (lv_at hl 2 rfl) ?_
          refine lv_i2l hx hb dX1_form_79 rfl ?_
          refine xlc_lt (tgt := 88) hx hb dX1_form_80 dX1_form_81 (by decide) (fun c80 => ?_) (fun c80 => ?_)
          · replace hf := ip c80 hf
            refine lv_lconst (v := 0) hx hb dX1_form_88 (by decide) ?_
            exact b89 _ _ _ col x3 x4 x5 x7 x11 x12 ((v60 + v67) + x9) 0 hw (lv_sub hl [1, 2, 3, 4, 5, 7, 8, 0] rfl) hf
          · replace hf := iq c80 hf
            refine lv_lconst (v := 1) hx hb dX1_form_84 (by decide) ?_
            refine lv_goto (tgt := 89) hx hb dX1_form_85 (by decide) ?_
            exact b89 _ _ _ col x3 x4 x5 x7 x11 x12 ((v60 + v67) + x9) 1 hw (lv_sub hl [1, 2, 3, 4, 5, 7, 8, 0] rfl) hf
  refine lv_iload_n hx hb dX1_form_0 rfl (lv_at hl 1 rfl) ?_
  refine lv_iload_n hx hb dX1_form_1 rfl (lv_at hl 3 rfl) ?_
  obtain ⟨v2, hv2, hf⟩ := ob_e hf
  refine xcallS (ws' := (wD g h o col)) (st1 := [.int v2]) (n := 2) E hw [.int a1, .int a3] [] (met_X9_count l g a1 a3 v2 hv2) rfl (by decide) rfl rfl [0, 1] rfl (by decide +kernel) rfl qw612 k_X9_count ⟨rfl, rfl, Nat.le_of_ble_eq_true rfl, Nat.le_of_ble_eq_true rfl⟩ ⟨Nat.zero_le _, Nat.zero_le _⟩ hl.1 (Nat.le_of_ble_eq_true rfl) dX1_form_2 rfl (fun H locs hw => ?_)
  refine lv_iload_n hx hb dX1_form_5 rfl (lv_at hl 2 rfl) ?_
  refine lv_iload_n hx hb dX1_form_6 rfl (lv_at hl 3 rfl) ?_
  obtain ⟨v7, hv7, hf⟩ := ob_e hf
  refine xcallS (ws' := (wD g h o col)) (st1 := [.int v7, .int v2]) (n := 2) E hw [.int a2, .int a3] [] (met_X9_count l g a2 a3 v7 hv7) rfl (by decide) rfl rfl [0, 1] rfl (by decide +kernel) rfl qw612 k_X9_count ⟨rfl, rfl, Nat.le_of_ble_eq_true rfl, Nat.le_of_ble_eq_true rfl⟩ ⟨Nat.zero_le _, Nat.zero_le _⟩ hl.1 (Nat.le_of_ble_eq_true rfl) dX1_form_7 rfl (fun H locs hw => ?_)
  refine xmax E hl.1 qw613 qw614 qw79 qw615 ⟨Nat.le_of_ble_eq_true rfl, Nat.le_of_ble_eq_true rfl⟩ ⟨Nat.zero_le _, Nat.zero_le _⟩ dX1_form_10 ?_
  refine lv_istore (lv' := [(4, .int (if v2 < v7 then v7 else v2)), (0, .ref (h o)), (1, .int a1), (2, .int a2), (3, .int a3)]) hx hb dX1_form_13 hl (by decide) rfl (fun ls hl => ?_)
  refine lv_iload_n hx hb dX1_form_15 rfl (lv_at hl 2 rfl) ?_
  refine lv_i2l hx hb dX1_form_16 rfl ?_
  refine lv_lstore (lv' := [(5, .long a1.toInt64), (4, .int (if v2 < v7 then v7 else v2)), (0, .ref (h o)), (1, .int a1), (2, .int a2), (3, .int a3)]) hx hb dX1_form_17 hl (by decide) rfl (fun ls hl => ?_)
  refine lv_iload_n hx hb dX1_form_19 rfl (lv_at hl 4 rfl) ?_
  refine lv_i2l hx hb dX1_form_20 rfl ?_
  refine lv_lstore (lv' := [(7, .long a2.toInt64), (5, .long a1.toInt64), (4, .int (if v2 < v7 then v7 else v2)), (0, .ref (h o)), (1, .int a1), (2, .int a2), (3, .int a3)]) hx hb dX1_form_21 hl (by decide) rfl (fun ls hl => ?_)
  refine lv_lconst (v := 0) hx hb dX1_form_23 (by decide) ?_
  refine lv_lstore (lv' := [(9, .long 0), (7, .long a2.toInt64), (5, .long a1.toInt64), (4, .int (if v2 < v7 then v7 else v2)), (0, .ref (h o)), (1, .int a1), (2, .int a2), (3, .int a3)]) hx hb dX1_form_24 hl (by decide) rfl (fun ls hl => ?_)
  refine lv_iconst (v := 0) hx hb dX1_form_26 (by decide) ?_
  refine lv_istore (lv' := [(11, .int 0), (9, .long 0), (7, .long a2.toInt64), (5, .long a1.toInt64), (4, .int (if v2 < v7 then v7 else v2)), (0, .ref (h o)), (1, .int a1), (2, .int a2), (3, .int a3)]) hx hb dX1_form_27 hl (by decide) rfl (fun ls hl => ?_)
  refine lv_aload_n hx hb dX1_form_29 rfl (lv_at hl 5 rfl) ?_
  refine lv_iconst (v := 0) hx hb dX1_form_30 (by decide) ?_
  refine xput (ws' := (wD g h o (col.1, 0, col.2.2.1, col.2.2.2))) E hw 0 rfl rfl 1 (by decide) inw1 tyX1_ok nmX1 qw232 rfl rfl rfl rfl (Nat.le_of_ble_eq_true rfl) dX1_form_31 rfl (fun H locs hw => ?_)
  refine lv_aload_n hx hb dX1_form_34 rfl (lv_at hl 5 rfl) ?_
  refine lv_iconst (v := 0) hx hb dX1_form_35 (by decide) ?_
  refine xput (ws' := (wD g h o (col.1, 0, 0, col.2.2.2))) E hw 0 rfl rfl 2 (by decide) inw1 tyX1_ok nmX1 qw234 rfl rfl rfl rfl (Nat.le_of_ble_eq_true rfl) dX1_form_36 rfl (fun H locs hw => ?_)
  refine lv_iconst (v := 0) hx hb dX1_form_39 (by decide) ?_
  refine lv_istore (lv' := [(12, .int 0), (11, .int 0), (9, .long 0), (7, .long a2.toInt64), (5, .long a1.toInt64), (4, .int (if v2 < v7 then v7 else v2)), (0, .ref (h o)), (1, .int a1), (2, .int a2), (3, .int a3)]) hx hb dX1_form_40 hl (by decide) rfl (fun ls hl => ?_)
  exact b42 xfuel _ _ _ (col.1, 0, 0, col.2.2.2) a3 (if v2 < v7 then v7 else v2) a1.toInt64 a2.toInt64 0 0 0 hw (lv_sub hl [6, 9, 5, 4, 3, 2, 1, 0] rfl) hf
theorem k_X1_digitAt : xKV yX1_digitAt cX1_digitAt 2 (some .int) 1 := ⟨qw619, qw620, qw73, qw621, by decide +kernel, by decide +kernel, by decide +kernel⟩
set_option maxHeartbeats 4000000 in
set_option maxRecDepth 100000 in
theorem met_X1_digitAt (l : Launch) (g : xG) (h : Nat → Nat) (o : Nat) (col : CC) (a1 : Int32) (out : Int32) (hf : f_X1_digitAt col a1 = some out) : xM l yX1_digitAt (xC yX1_digitAt cX1_digitAt 2 (some .int)) { frames := 0, cells := 0, slots := 0, locals := 0 } g (wD g h o col) [.ref (h o), .int a1] (some (.int out)) (wD g h o col) := by
  refine xof (by decide) (Nat.le_of_ble_eq_true rfl) ⟨rfl, rfl⟩ ?_
  intro p e s m below meth c A ls E hr hlocks hw hl hpost hAe
  have hx := E.1.1
  have hb := E.1.2.1
  have hown := E.1.2.2.2.1
  have hts := E.1.2.2.2.2
  generalize hZ : (MQ below (xPost g (wD g h o col) (wD g h o col) s.heap.size (some (.int out))) [.ref (h o), .int a1].toArray s 0 0 A) = ZZ
  have hret : ∀ (pc : Nat) (H : Heap) (locs : List Loc) (ls : Array Slot) (v : Int32), v = out → decode cX1_digitAt pc = .ok (.ireturn, 1) → xW g A s.heap (wD g h o col) H locs → W p l e { frames := 0, cells := 0, slots := 0, locals := 0 } s m [.ref (h o), .int a1].toArray below meth c H locs 0 0 ZZ (F0 m pc ls [.int v]) := by
    intro pc H locs ls v he hd hw
    subst he
    rw [← hZ]
    exact W.iret hx hb hr (hpost H locs hw).1 (hpost H locs hw).2 hd hlocks
  clear hpost
  refine lv_iload_n hx hb dX1_digitAt_0 rfl (lv_at hl 1 rfl) ?_
  refine lv_if_lt (tgt := 22) hx hb dX1_digitAt_1 (by decide) (fun c1 => ?_) (fun c1 => ?_)
  · replace hf := ip c1 hf
    refine lv_iconst (v := 0) hx hb dX1_digitAt_22 (by decide) ?_
    exact hret _ _ _ _ _ (Option.some.inj hf) dX1_digitAt_23 hw
  · replace hf := iq c1 hf
    refine lv_iload_n hx hb dX1_digitAt_4 rfl (lv_at hl 1 rfl) ?_
    refine lv_aload_n hx hb dX1_digitAt_5 rfl (lv_at hl 0 rfl) ?_
    refine xget (v := .ref (h (o + 1))) E hw 0 rfl rfl 3 (by decide) inw1 qw236 rfl rfl dX1_digitAt_6 ?_
    refine xalen (v := 31) E hw 1 0 rfl rfl rfl dX1_digitAt_9 ?_
    refine lv_icmp_ge (tgt := 22) hx hb dX1_digitAt_10 (by decide) (fun c10 => ?_) (fun c10 => ?_)
    · replace hf := ip c10 hf
      refine lv_iconst (v := 0) hx hb dX1_digitAt_22 (by decide) ?_
      exact hret _ _ _ _ _ (Option.some.inj hf) dX1_digitAt_23 hw
    · replace hf := iq c10 hf
      refine lv_aload_n hx hb dX1_digitAt_13 rfl (lv_at hl 0 rfl) ?_
      refine xget (v := .ref (h (o + 1))) E hw 0 rfl rfl 3 (by decide) inw1 qw236 rfl rfl dX1_digitAt_14 ?_
      refine lv_iload_n hx hb dX1_digitAt_17 rfl (lv_at hl 1 rfl) ?_
      obtain ⟨hz, hf⟩ := nz hf
      refine xiald E hw 1 rfl hz dX1_digitAt_18 ?_
      refine lv_goto (tgt := 23) hx hb dX1_digitAt_19 (by decide) ?_
      exact hret _ _ _ _ _ (Option.some.inj hf) dX1_digitAt_23 hw
theorem k_X1_total : xKV yX1_total cX1_total 5 (some .long) 1 := ⟨qw623, qw624, qw73, qw625, by decide +kernel, by decide +kernel, by decide +kernel⟩
set_option maxHeartbeats 4000000 in
set_option maxRecDepth 100000 in
theorem met_X1_total (l : Launch) (g : xG) (h : Nat → Nat) (o : Nat) (col : CC) (a1 : Int32) (out : Int64) (hf : f_X1_total col a1 = some out) : xM l yX1_total (xC yX1_total cX1_total 5 (some .long)) { frames := 1, cells := 0, slots := 0, locals := 21 } g (wD g h o col) [.ref (h o), .int a1] (some (.long out)) (wD g h o col) := by
  refine xof (by decide) (Nat.le_of_ble_eq_true rfl) ⟨rfl, rfl⟩ ?_
  intro p e s m below meth c A ls E hr hlocks hw hl hpost hAe
  have hx := E.1.1
  have hb := E.1.2.1
  have hown := E.1.2.2.2.1
  have hts := E.1.2.2.2.2
  generalize hZ : (MQ below (xPost g (wD g h o col) (wD g h o col) s.heap.size (some (.long out))) [.ref (h o), .int a1].toArray s 0 0 A) = ZZ
  have hret : ∀ (pc : Nat) (H : Heap) (locs : List Loc) (ls : Array Slot) (v : Int64), v = out → decode cX1_total pc = .ok (.lreturn, 1) → xW g A s.heap (wD g h o col) H locs → W p l e { frames := 1, cells := 0, slots := 0, locals := 21 } s m [.ref (h o), .int a1].toArray below meth c H locs 0 0 ZZ (F0 m pc ls [.long v]) := by
    intro pc H locs ls v he hd hw
    subst he
    rw [← hZ]
    exact W.lret hx hb hr (hpost H locs hw).1 (hpost H locs hw).2 hd hlocks
  clear hpost
  have b10 : ∀ n10 : Nat, ∀ (H : Heap) (locs : List Loc) (ls : Array Slot) (x1 : Int32) (x2 : Int64) (x4 : Int32), xW g A s.heap (wD g h o col) H locs → lv_has ls 5 [(0, .ref (h o)), (1, .int x1), (2, .long x2), (4, .int x4)] → f_X1_total_b10 n10 col x1 x2 x4 = some out → W p l e { frames := 1, cells := 0, slots := 0, locals := 21 } s m [.ref (h o), .int a1].toArray below meth c H locs 0 0 ZZ (F0 m 10 ls []) := by
    intro n10
    induction n10 with
    | zero =>
      intro H locs ls x1 x2 x4 hw hl hf
      exact nn hf
    | succ n10 ih10 =>
      intro H locs ls x1 x2 x4 hw hl hf
      refine lv_iload hx hb dX1_total_10 (lv_at hl 3 rfl) ?_
      refine lv_if_lt (tgt := 34) hx hb dX1_total_12 (by decide) (fun c12 => ?_) (fun c12 => ?_)
      · replace hf := ip c12 hf
        refine lv_lload_n hx hb dX1_total_34 rfl (lv_at hl 2 rfl) ?_
        exact hret _ _ _ _ _ (Option.some.inj hf) dX1_total_35 hw
      · replace hf := iq c12 hf
        refine lv_lload_n hx hb dX1_total_15 rfl (lv_at hl 2 rfl) ?_
        refine lv_iload_n hx hb dX1_total_16 rfl (lv_at hl 1 rfl) ?_
        refine lv_i2l hx hb dX1_total_17 rfl ?_
        refine lv_lmul hx hb dX1_total_18 ?_
        refine lv_aload_n hx hb dX1_total_19 rfl (lv_at hl 0 rfl) ?_
        refine lv_iload hx hb dX1_total_20 (lv_at hl 3 rfl) ?_
        obtain ⟨v22, hv22, hf⟩ := ob_e hf
        refine xcallV (ws' := (wD g h o col)) (st1 := [.int v22, .long (x2 * x1.toInt64)]) (n := 2) E hw [.int x4] [0, 1] (met_X1_digitAt l g h o col x4 v22 hv22) rfl (by decide) rfl rfl [2, 3] rfl (by decide +kernel) rfl rfl rfl rfl qw626 k_X1_digitAt ⟨rfl, rfl, Nat.le_of_ble_eq_true rfl, Nat.le_of_ble_eq_true rfl⟩ ⟨Nat.zero_le _, Nat.zero_le _⟩ hl.1 (Nat.le_of_ble_eq_true rfl) dX1_total_22 rfl (fun H locs hw => ?_)
        refine lv_i2l hx hb dX1_total_25 rfl ?_
        refine lv_ladd hx hb dX1_total_26 ?_
        refine lv_lstore_n (lv' := [(2, .long ((x2 * x1.toInt64) + v22.toInt64)), (0, .ref (h o)), (1, .int x1), (4, .int x4)]) hx hb dX1_total_27 rfl hl (by decide) rfl (fun ls hl => ?_)
        refine lv_iinc (v := x4 + (-1)) (lv' := [(4, .int (x4 + (-1))), (2, .long ((x2 * x1.toInt64) + v22.toInt64)), (0, .ref (h o)), (1, .int x1)]) hx hb dX1_total_28 hl (k := 3) rfl rfl (by decide) rfl (fun ls hl => ?_)
        refine lv_goto (tgt := 10) hx hb dX1_total_31 (by decide) ?_
        exact ih10 _ _ _ x1 ((x2 * x1.toInt64) + v22.toInt64) (x4 + (-1)) hw (lv_sub hl [2, 3, 1, 0] rfl) hf
  refine lv_lconst (v := 0) hx hb dX1_total_0 (by decide) ?_
  refine lv_lstore_n (lv' := [(2, .long 0), (0, .ref (h o)), (1, .int a1)]) hx hb dX1_total_1 rfl hl (by decide) rfl (fun ls hl => ?_)
  refine lv_aload_n hx hb dX1_total_2 rfl (lv_at hl 1 rfl) ?_
  refine xget (v := .int col.1) E hw 0 rfl rfl 0 (by decide) inw1 qw230 rfl rfl dX1_total_3 ?_
  refine lv_iconst (v := 1) hx hb dX1_total_6 (by decide) ?_
  refine lv_isub hx hb dX1_total_7 ?_
  refine lv_istore (lv' := [(4, .int (col.1 - 1)), (2, .long 0), (0, .ref (h o)), (1, .int a1)]) hx hb dX1_total_8 hl (by decide) rfl (fun ls hl => ?_)
  exact b10 xfuel _ _ _ a1 0 (col.1 - 1) hw (lv_sub hl [2, 3, 1, 0] rfl) hf
theorem k_X2_put : xKV yX2_put cX2_put 2 none 1 := ⟨qw799, qw800, qw69, qw801, by decide +kernel, by decide +kernel, by decide +kernel⟩
set_option maxHeartbeats 4000000 in
set_option maxRecDepth 100000 in
theorem met_X2_put (l : Launch) (g : xG) (h : Nat → Nat) (o : Nat) (ent : EC) (a1 : Int32) (out : EC) (hf : f_X2_put ent a1 = some out) : xM l yX2_put (xC yX2_put cX2_put 2 none) { frames := 0, cells := 0, slots := 0, locals := 0 } g (wE g h o ent) [.ref (h o), .int a1] none (wE g h o out) := by
  refine xof (by decide) (Nat.le_of_ble_eq_true rfl) ⟨rfl, rfl⟩ ?_
  intro p e s m below meth c A ls E hr hlocks hw hl hpost hAe
  have hx := E.1.1
  have hb := E.1.2.1
  have hown := E.1.2.2.2.1
  have hts := E.1.2.2.2.2
  generalize hZ : (MQ below (xPost g (wE g h o ent) (wE g h o out) s.heap.size none) [.ref (h o), .int a1].toArray s 0 0 A) = ZZ
  have hret : ∀ (pc : Nat) (H : Heap) (locs : List Loc) (ls : Array Slot) (cent : EC), cent = out → decode cX2_put pc = .ok (.return_, 1) → xW g A s.heap (wE g h o cent) H locs → W p l e { frames := 0, cells := 0, slots := 0, locals := 0 } s m [.ref (h o), .int a1].toArray below meth c H locs 0 0 ZZ (F0 m pc ls []) := by
    intro pc H locs ls cent he hd hw
    subst he
    rw [← hZ]
    exact W.vret hx hb hr (hpost H locs hw).1 (hpost H locs hw).2 hd hlocks
  clear hpost
  refine lv_aload_n hx hb dX2_put_0 rfl (lv_at hl 0 rfl) ?_
  refine xget (v := .int ent.1) E hw 0 rfl rfl 0 (by decide) inw2 qw159 rfl rfl dX2_put_1 ?_
  refine lv_if_lt (tgt := 36) hx hb dX2_put_4 (by decide) (fun c4 => ?_) (fun c4 => ?_)
  · replace hf := ip c4 hf
    exact hret _ _ _ _ _ (Option.some.inj hf) dX2_put_36 hw
  · replace hf := iq c4 hf
    refine lv_aload_n hx hb dX2_put_7 rfl (lv_at hl 0 rfl) ?_
    refine xget (v := .int ent.1) E hw 0 rfl rfl 0 (by decide) inw2 qw159 rfl rfl dX2_put_8 ?_
    refine lv_bipush (v := 60) hx hb dX2_put_11 (by decide) ?_
    refine lv_icmp_ge (tgt := 36) hx hb dX2_put_13 (by decide) (fun c13 => ?_) (fun c13 => ?_)
    · replace hf := ip c13 hf
      exact hret _ _ _ _ _ (Option.some.inj hf) dX2_put_36 hw
    · replace hf := iq c13 hf
      refine lv_aload_n hx hb dX2_put_16 rfl (lv_at hl 0 rfl) ?_
      refine xget (v := .ref (h (o + 1))) E hw 0 rfl rfl 1 (by decide) inw2 qw161 rfl rfl dX2_put_17 ?_
      refine lv_aload_n hx hb dX2_put_20 rfl (lv_at hl 0 rfl) ?_
      refine xget (v := .int ent.1) E hw 0 rfl rfl 0 (by decide) inw2 qw159 rfl rfl dX2_put_21 ?_
      refine lv_iload_n hx hb dX2_put_24 rfl (lv_at hl 1 rfl) ?_
      obtain ⟨hz, hf⟩ := nz hf
      refine xiast (ws' := (wE g h o (ent.1, (upd ent.2.1 ent.1.toNatClampNeg a1), ent.2.2.1, ent.2.2.2))) E hw 1 rfl hz dX2_put_25 rfl (fun H locs hw => ?_)
      refine lv_aload_n hx hb dX2_put_26 rfl (lv_at hl 0 rfl) ?_
      refine lv_dup hx hb dX2_put_27 rfl ?_
      refine xget (v := .int ent.1) E hw 0 rfl rfl 0 (by decide) inw2 qw159 rfl rfl dX2_put_28 ?_
      refine lv_iconst (v := 1) hx hb dX2_put_31 (by decide) ?_
      refine lv_iadd hx hb dX2_put_32 ?_
      refine xput (ws' := (wE g h o (ent.1 + 1, (upd ent.2.1 ent.1.toNatClampNeg a1), ent.2.2.1, ent.2.2.2))) E hw 0 rfl rfl 0 (by decide) inw2 tyX2_ok nmX2 qw159 rfl rfl rfl rfl (Nat.le_of_ble_eq_true rfl) dX2_put_33 rfl (fun H locs hw => ?_)
      exact hret _ _ _ _ _ (Option.some.inj hf) dX2_put_36 hw
theorem k_X2_codeAt : xKV yX2_codeAt cX2_codeAt 2 (some .int) 1 := ⟨qw288, qw289, qw69, qw290, by decide +kernel, by decide +kernel, by decide +kernel⟩
set_option maxHeartbeats 4000000 in
set_option maxRecDepth 100000 in
theorem met_X2_codeAt (l : Launch) (g : xG) (h : Nat → Nat) (o : Nat) (ent : EC) (a1 : Int32) (out : Int32) (hf : f_X2_codeAt ent a1 = some out) : xM l yX2_codeAt (xC yX2_codeAt cX2_codeAt 2 (some .int)) { frames := 0, cells := 0, slots := 0, locals := 0 } g (wE g h o ent) [.ref (h o), .int a1] (some (.int out)) (wE g h o ent) := by
  refine xof (by decide) (Nat.le_of_ble_eq_true rfl) ⟨rfl, rfl⟩ ?_
  intro p e s m below meth c A ls E hr hlocks hw hl hpost hAe
  have hx := E.1.1
  have hb := E.1.2.1
  have hown := E.1.2.2.2.1
  have hts := E.1.2.2.2.2
  generalize hZ : (MQ below (xPost g (wE g h o ent) (wE g h o ent) s.heap.size (some (.int out))) [.ref (h o), .int a1].toArray s 0 0 A) = ZZ
  have hret : ∀ (pc : Nat) (H : Heap) (locs : List Loc) (ls : Array Slot) (v : Int32), v = out → decode cX2_codeAt pc = .ok (.ireturn, 1) → xW g A s.heap (wE g h o ent) H locs → W p l e { frames := 0, cells := 0, slots := 0, locals := 0 } s m [.ref (h o), .int a1].toArray below meth c H locs 0 0 ZZ (F0 m pc ls [.int v]) := by
    intro pc H locs ls v he hd hw
    subst he
    rw [← hZ]
    exact W.iret hx hb hr (hpost H locs hw).1 (hpost H locs hw).2 hd hlocks
  clear hpost
  refine lv_iload_n hx hb dX2_codeAt_0 rfl (lv_at hl 1 rfl) ?_
  refine lv_if_lt (tgt := 19) hx hb dX2_codeAt_1 (by decide) (fun c1 => ?_) (fun c1 => ?_)
  · replace hf := ip c1 hf
    refine lv_iconst (v := 0) hx hb dX2_codeAt_19 (by decide) ?_
    exact hret _ _ _ _ _ (Option.some.inj hf) dX2_codeAt_20 hw
  · replace hf := iq c1 hf
    refine lv_iload_n hx hb dX2_codeAt_4 rfl (lv_at hl 1 rfl) ?_
    refine lv_bipush (v := 60) hx hb dX2_codeAt_5 (by decide) ?_
    refine lv_icmp_ge (tgt := 19) hx hb dX2_codeAt_7 (by decide) (fun c7 => ?_) (fun c7 => ?_)
    · replace hf := ip c7 hf
      refine lv_iconst (v := 0) hx hb dX2_codeAt_19 (by decide) ?_
      exact hret _ _ _ _ _ (Option.some.inj hf) dX2_codeAt_20 hw
    · replace hf := iq c7 hf
      refine lv_aload_n hx hb dX2_codeAt_10 rfl (lv_at hl 0 rfl) ?_
      refine xget (v := .ref (h (o + 1))) E hw 0 rfl rfl 1 (by decide) inw2 qw161 rfl rfl dX2_codeAt_11 ?_
      refine lv_iload_n hx hb dX2_codeAt_14 rfl (lv_at hl 1 rfl) ?_
      obtain ⟨hz, hf⟩ := nz hf
      refine xiald E hw 1 rfl hz dX2_codeAt_15 ?_
      refine lv_goto (tgt := 20) hx hb dX2_codeAt_16 (by decide) ?_
      exact hret _ _ _ _ _ (Option.some.inj hf) dX2_codeAt_20 hw
theorem k_X2_errorIndex : xKV yX2_errorIndex cX2_errorIndex 2 (some .int) 0 := ⟨qw280, qw281, qw69, qw282, by decide +kernel, by decide +kernel, by decide +kernel⟩
set_option maxHeartbeats 4000000 in
set_option maxRecDepth 100000 in
theorem met_X2_errorIndex (l : Launch) (g : xG) (h : Nat → Nat) (o : Nat) (ent : EC) (out : Int32 × EC) (hf : f_X2_errorIndex ent = some out) : xM l yX2_errorIndex (xC yX2_errorIndex cX2_errorIndex 2 (some .int)) { frames := 4, cells := 0, slots := 0, locals := 86 } g (wE g h o ent) [.ref (h o)] (some (.int out.1)) (wE g h o out.2) := by
  refine xof (by decide) (Nat.le_of_ble_eq_true rfl) ⟨rfl, rfl⟩ ?_
  intro p e s m below meth c A ls E hr hlocks hw hl hpost hAe
  have hx := E.1.1
  have hb := E.1.2.1
  have hown := E.1.2.2.2.1
  have hts := E.1.2.2.2.2
  generalize hZ : (MQ below (xPost g (wE g h o ent) (wE g h o out.2) s.heap.size (some (.int out.1))) [.ref (h o)].toArray s 0 0 A) = ZZ
  have hret : ∀ (pc : Nat) (H : Heap) (locs : List Loc) (ls : Array Slot) (v : Int32) (cent : EC), (v, cent) = out → decode cX2_errorIndex pc = .ok (.ireturn, 1) → xW g A s.heap (wE g h o cent) H locs → W p l e { frames := 4, cells := 0, slots := 0, locals := 86 } s m [.ref (h o)].toArray below meth c H locs 0 0 ZZ (F0 m pc ls [.int v]) := by
    intro pc H locs ls v cent he hd hw
    subst he
    rw [← hZ]
    exact W.iret hx hb hr (hpost H locs hw).1 (hpost H locs hw).2 hd hlocks
  clear hpost
  have b9 : ∀ n9 : Nat, ∀ (H : Heap) (locs : List Loc) (ls : Array Slot) (ent : EC) (x1 : Int32), xW g A s.heap (wE g h o ent) H locs → lv_has ls 2 [(0, .ref (h o)), (1, .int x1)] → f_X2_errorIndex_b9 n9 ent x1 = some out → W p l e { frames := 4, cells := 0, slots := 0, locals := 86 } s m [.ref (h o)].toArray below meth c H locs 0 0 ZZ (F0 m 9 ls []) := by
    intro n9
    induction n9 with
    | zero =>
      intro H locs ls ent x1 hw hl hf
      exact nn hf
    | succ n9 ih9 =>
      intro H locs ls ent x1 hw hl hf
      refine lv_iload_n hx hb dX2_errorIndex_9 rfl (lv_at hl 1 rfl) ?_
      refine lv_aload_n hx hb dX2_errorIndex_10 rfl (lv_at hl 0 rfl) ?_
      refine xget (v := .int ent.1) E hw 0 rfl rfl 0 (by decide) inw2 qw159 rfl rfl dX2_errorIndex_11 ?_
      refine lv_icmp_ge (tgt := 40) hx hb dX2_errorIndex_14 (by decide) (fun c14 => ?_) (fun c14 => ?_)
      · replace hf := ip c14 hf
        refine lv_aload_n hx hb dX2_errorIndex_40 rfl (lv_at hl 0 rfl) ?_
        refine xget (v := .int ent.1) E hw 0 rfl rfl 0 (by decide) inw2 qw159 rfl rfl dX2_errorIndex_41 ?_
        exact hret _ _ _ _ _ _ (Option.some.inj hf) dX2_errorIndex_44 hw
      · replace hf := iq c14 hf
        refine lv_aload_n hx hb dX2_errorIndex_17 rfl (lv_at hl 0 rfl) ?_
        refine xget (v := .ref (h (o + 2))) E hw 0 rfl rfl 2 (by decide) inw2 qw162 rfl rfl dX2_errorIndex_18 ?_
        refine lv_aload_n hx hb dX2_errorIndex_21 rfl (lv_at hl 0 rfl) ?_
        refine lv_iload_n hx hb dX2_errorIndex_22 rfl (lv_at hl 1 rfl) ?_
        obtain ⟨v23, hv23, hf⟩ := ob_e hf
        refine xcallV (ws' := (wE g h o ent)) (st1 := [.int v23, .ref (h (o + 2))]) (n := 3) E hw [.int x1] [0, 1, 2] (met_X2_codeAt l g h o ent x1 v23 hv23) rfl (by decide) rfl rfl [3, 4, 5] rfl (by decide +kernel) rfl rfl rfl rfl qw287 k_X2_codeAt ⟨rfl, rfl, Nat.le_of_ble_eq_true rfl, Nat.le_of_ble_eq_true rfl⟩ ⟨Nat.zero_le _, Nat.zero_le _⟩ hl.1 (Nat.le_of_ble_eq_true rfl) dX2_errorIndex_23 rfl (fun H locs hw => ?_)
        obtain ⟨v26, hv26, hf⟩ := ob_e hf
        refine xcallV (ws' := (wE g h o (ent.1, ent.2.1, v26.2.1, v26.2.2))) (st1 := [.int v26.1]) (n := 3) E hw [.int v23] [2] (met_X8_take l g h (o + 2) ent.2.2 v23 v26 hv26) rfl (by decide) rfl rfl [0, 1, 3] rfl (by decide +kernel) rfl rfl rfl rfl qw291 k_X8_take ⟨rfl, rfl, Nat.le_of_ble_eq_true rfl, Nat.le_of_ble_eq_true rfl⟩ ⟨Nat.zero_le _, Nat.zero_le _⟩ hl.1 (Nat.le_of_ble_eq_true rfl) dX2_errorIndex_26 rfl (fun H locs hw => ?_)
        refine lv_if_ne (tgt := 34) hx hb dX2_errorIndex_29 (by decide) (fun c29 => ?_) (fun c29 => ?_)
        · replace hf := iq c29 hf
          refine lv_iinc (v := x1 + 1) (lv' := [(1, .int (x1 + 1)), (0, .ref (h o))]) hx hb dX2_errorIndex_34 hl (k := 1) rfl rfl (by decide) rfl (fun ls hl => ?_)
          refine lv_goto (tgt := 9) hx hb dX2_errorIndex_37 (by decide) ?_
          exact ih9 _ _ _ (ent.1, ent.2.1, v26.2.1, v26.2.2) (x1 + 1) hw (lv_sub hl [1, 0] rfl) hf
        · replace hf := ip c29 hf
          refine lv_iload_n hx hb dX2_errorIndex_32 rfl (lv_at hl 1 rfl) ?_
          exact hret _ _ _ _ _ _ (Option.some.inj hf) dX2_errorIndex_33 hw
  refine lv_aload_n hx hb dX2_errorIndex_0 rfl (lv_at hl 0 rfl) ?_
  refine xget (v := .ref (h (o + 2))) E hw 0 rfl rfl 2 (by decide) inw2 qw162 rfl rfl dX2_errorIndex_1 ?_
  obtain ⟨v4, hv4, hf⟩ := ob_e hf
  refine xcallV (ws' := (wE g h o (ent.1, ent.2.1, v4.1, v4.2))) (st1 := []) (n := 3) E hw [] [2] (met_X8_begin l g h (o + 2) ent.2.2 v4 hv4) rfl (by decide) rfl rfl [0, 1, 3] rfl (by decide +kernel) rfl rfl rfl rfl qw283 k_X8_begin ⟨rfl, rfl, Nat.le_of_ble_eq_true rfl, Nat.le_of_ble_eq_true rfl⟩ ⟨Nat.zero_le _, Nat.zero_le _⟩ hl.1 (Nat.le_of_ble_eq_true rfl) dX2_errorIndex_4 rfl (fun H locs hw => ?_)
  refine lv_iconst (v := 0) hx hb dX2_errorIndex_7 (by decide) ?_
  refine lv_istore_n (lv' := [(1, .int 0), (0, .ref (h o))]) hx hb dX2_errorIndex_8 rfl hl (by decide) rfl (fun ls hl => ?_)
  exact b9 xfuel _ _ _ (ent.1, ent.2.1, v4.1, v4.2) 0 hw (lv_sub hl [1, 0] rfl) hf
theorem k_X2_areComplete : xKV yX2_areComplete cX2_areComplete 1 (some .boolean) 0 := ⟨qw810, qw811, qw69, qw812, by decide +kernel, by decide +kernel, by decide +kernel⟩
set_option maxHeartbeats 4000000 in
set_option maxRecDepth 100000 in
theorem met_X2_areComplete (l : Launch) (g : xG) (h : Nat → Nat) (o : Nat) (ent : EC) (out : Int32 × EC) (hf : f_X2_areComplete ent = some out) : xM l yX2_areComplete (xC yX2_areComplete cX2_areComplete 1 (some .boolean)) { frames := 5, cells := 0, slots := 0, locals := 107 } g (wE g h o ent) [.ref (h o)] (some (.int out.1)) (wE g h o out.2) := by
  refine xof (by decide) (Nat.le_of_ble_eq_true rfl) ⟨rfl, rfl⟩ ?_
  intro p e s m below meth c A ls E hr hlocks hw hl hpost hAe
  have hx := E.1.1
  have hb := E.1.2.1
  have hown := E.1.2.2.2.1
  have hts := E.1.2.2.2.2
  generalize hZ : (MQ below (xPost g (wE g h o ent) (wE g h o out.2) s.heap.size (some (.int out.1))) [.ref (h o)].toArray s 0 0 A) = ZZ
  have hret : ∀ (pc : Nat) (H : Heap) (locs : List Loc) (ls : Array Slot) (v : Int32) (cent : EC), narrow .boolean (.int v) = .int v → (v, cent) = out → decode cX2_areComplete pc = .ok (.ireturn, 1) → xW g A s.heap (wE g h o cent) H locs → W p l e { frames := 5, cells := 0, slots := 0, locals := 107 } s m [.ref (h o)].toArray below meth c H locs 0 0 ZZ (F0 m pc ls [.int v]) := by
    intro pc H locs ls v cent hn he hd hw
    subst he
    rw [← hZ]
    exact W.zret hx hb hr hn (hpost H locs hw).1 (hpost H locs hw).2 hd hlocks
  clear hpost
  refine lv_aload_n hx hb dX2_areComplete_0 rfl (lv_at hl 0 rfl) ?_
  obtain ⟨v1, hv1, hf⟩ := ob_e hf
  refine xcallV (ws' := (wE g h o v1.2)) (st1 := [.int v1.1]) (n := 3) E hw [] [0, 1, 2] (met_X2_errorIndex l g h o ent v1 hv1) rfl (by decide) rfl rfl [3, 4, 5] rfl (by decide +kernel) rfl rfl rfl rfl qw813 k_X2_errorIndex ⟨rfl, rfl, Nat.le_of_ble_eq_true rfl, Nat.le_of_ble_eq_true rfl⟩ ⟨Nat.zero_le _, Nat.zero_le _⟩ hl.1 (Nat.le_of_ble_eq_true rfl) dX2_areComplete_1 rfl (fun H locs hw => ?_)
  refine lv_aload_n hx hb dX2_areComplete_4 rfl (lv_at hl 0 rfl) ?_
  refine xget (v := .int v1.2.1) E hw 0 rfl rfl 0 (by decide) inw2 qw159 rfl rfl dX2_areComplete_5 ?_
  refine lv_icmp_ne (tgt := 25) hx hb dX2_areComplete_8 (by decide) (fun c8 => ?_) (fun c8 => ?_)
  · replace hf := iq c8 hf
    refine lv_iconst (v := 0) hx hb dX2_areComplete_25 (by decide) ?_
    exact hret _ _ _ _ _ _ (by decide) (Option.some.inj hf) dX2_areComplete_26 hw
  · replace hf := ip c8 hf
    refine lv_aload_n hx hb dX2_areComplete_11 rfl (lv_at hl 0 rfl) ?_
    refine xget (v := .ref (h (o + 2))) E hw 0 rfl rfl 2 (by decide) inw2 qw162 rfl rfl dX2_areComplete_12 ?_
    obtain ⟨v15, hv15, hf⟩ := ob_e hf
    refine xcallV (ws' := (wE g h o v1.2)) (st1 := [.int v15]) (n := 3) E hw [] [2] (met_X8_mayEnd l g h (o + 2) v1.2.2.2 v15 hv15) rfl (by decide) rfl rfl [0, 1, 3] rfl (by decide +kernel) rfl rfl rfl rfl qw814 k_X8_mayEnd ⟨rfl, rfl, Nat.le_of_ble_eq_true rfl, Nat.le_of_ble_eq_true rfl⟩ ⟨Nat.zero_le _, Nat.zero_le _⟩ hl.1 (Nat.le_of_ble_eq_true rfl) dX2_areComplete_15 rfl (fun H locs hw => ?_)
    refine lv_if_eq (tgt := 25) hx hb dX2_areComplete_18 (by decide) (fun c18 => ?_) (fun c18 => ?_)
    · replace hf := ip c18 hf
      refine lv_iconst (v := 0) hx hb dX2_areComplete_25 (by decide) ?_
      exact hret _ _ _ _ _ _ (by decide) (Option.some.inj hf) dX2_areComplete_26 hw
    · replace hf := iq c18 hf
      refine lv_iconst (v := 1) hx hb dX2_areComplete_21 (by decide) ?_
      refine lv_goto (tgt := 26) hx hb dX2_areComplete_22 (by decide) ?_
      exact hret _ _ _ _ _ _ (by decide) (Option.some.inj hf) dX2_areComplete_26 hw
theorem k_X2_decimal : xKV yX2_decimal cX2_decimal 5 (some .int) 2 := ⟨qw832, qw833, qw69, qw834, by decide +kernel, by decide +kernel, by decide +kernel⟩
set_option maxHeartbeats 4000000 in
set_option maxRecDepth 100000 in
theorem met_X2_decimal (l : Launch) (g : xG) (h : Nat → Nat) (o : Nat) (ent : EC) (a1 : Int32) (a2 : Int32) (out : Int32) (hf : f_X2_decimal ent a1 a2 = some out) : xM l yX2_decimal (xC yX2_decimal cX2_decimal 5 (some .int)) { frames := 1, cells := 0, slots := 0, locals := 21 } g (wE g h o ent) [.ref (h o), .int a1, .int a2] (some (.int out)) (wE g h o ent) := by
  refine xof (by decide) (Nat.le_of_ble_eq_true rfl) ⟨rfl, rfl⟩ ?_
  intro p e s m below meth c A ls E hr hlocks hw hl hpost hAe
  have hx := E.1.1
  have hb := E.1.2.1
  have hown := E.1.2.2.2.1
  have hts := E.1.2.2.2.2
  generalize hZ : (MQ below (xPost g (wE g h o ent) (wE g h o ent) s.heap.size (some (.int out))) [.ref (h o), .int a1, .int a2].toArray s 0 0 A) = ZZ
  have hret : ∀ (pc : Nat) (H : Heap) (locs : List Loc) (ls : Array Slot) (v : Int32), v = out → decode cX2_decimal pc = .ok (.ireturn, 1) → xW g A s.heap (wE g h o ent) H locs → W p l e { frames := 1, cells := 0, slots := 0, locals := 21 } s m [.ref (h o), .int a1, .int a2].toArray below meth c H locs 0 0 ZZ (F0 m pc ls [.int v]) := by
    intro pc H locs ls v he hd hw
    subst he
    rw [← hZ]
    exact W.iret hx hb hr (hpost H locs hw).1 (hpost H locs hw).2 hd hlocks
  clear hpost
  have b5 : ∀ n5 : Nat, ∀ (H : Heap) (locs : List Loc) (ls : Array Slot) (x2 : Int32) (x3 : Int32) (x4 : Int32), xW g A s.heap (wE g h o ent) H locs → lv_has ls 5 [(0, .ref (h o)), (2, .int x2), (3, .int x3), (4, .int x4)] → f_X2_decimal_b5 n5 ent x2 x3 x4 = some out → W p l e { frames := 1, cells := 0, slots := 0, locals := 21 } s m [.ref (h o), .int a1, .int a2].toArray below meth c H locs 0 0 ZZ (F0 m 5 ls []) := by
    intro n5
    induction n5 with
    | zero =>
      intro H locs ls x2 x3 x4 hw hl hf
      exact nn hf
    | succ n5 ih5 =>
      intro H locs ls x2 x3 x4 hw hl hf
      refine lv_iload hx hb dX2_decimal_5 (lv_at hl 3 rfl) ?_
      refine lv_iload_n hx hb dX2_decimal_7 rfl (lv_at hl 1 rfl) ?_
      refine lv_icmp_ge (tgt := 32) hx hb dX2_decimal_8 (by decide) (fun c8 => ?_) (fun c8 => ?_)
      · replace hf := ip c8 hf
        refine lv_iload_n hx hb dX2_decimal_32 rfl (lv_at hl 2 rfl) ?_
        exact hret _ _ _ _ _ (Option.some.inj hf) dX2_decimal_33 hw
      · replace hf := iq c8 hf
        refine lv_bipush (v := 10) hx hb dX2_decimal_11 (by decide) ?_
        refine lv_iload_n hx hb dX2_decimal_13 rfl (lv_at hl 2 rfl) ?_
        refine lv_imul hx hb dX2_decimal_14 ?_
        refine lv_aload_n hx hb dX2_decimal_15 rfl (lv_at hl 0 rfl) ?_
        refine lv_iload hx hb dX2_decimal_16 (lv_at hl 3 rfl) ?_
        obtain ⟨v18, hv18, hf⟩ := ob_e hf
        refine xcallV (ws' := (wE g h o ent)) (st1 := [.int v18, .int (10 * x3)]) (n := 3) E hw [.int x4] [0, 1, 2] (met_X2_codeAt l g h o ent x4 v18 hv18) rfl (by decide) rfl rfl [3, 4, 5] rfl (by decide +kernel) rfl rfl rfl rfl qw287 k_X2_codeAt ⟨rfl, rfl, Nat.le_of_ble_eq_true rfl, Nat.le_of_ble_eq_true rfl⟩ ⟨Nat.zero_le _, Nat.zero_le _⟩ hl.1 (Nat.le_of_ble_eq_true rfl) dX2_decimal_18 rfl (fun H locs hw => ?_)
        refine lv_iadd hx hb dX2_decimal_21 ?_
        refine lv_bipush (v := 48) hx hb dX2_decimal_22 (by decide) ?_
        refine lv_isub hx hb dX2_decimal_24 ?_
        refine lv_istore_n (lv' := [(3, .int (((10 * x3) + v18) - 48)), (0, .ref (h o)), (2, .int x2), (4, .int x4)]) hx hb dX2_decimal_25 rfl hl (by decide) rfl (fun ls hl => ?_)
        refine lv_iinc (v := x4 + 1) (lv' := [(4, .int (x4 + 1)), (3, .int (((10 * x3) + v18) - 48)), (0, .ref (h o)), (2, .int x2)]) hx hb dX2_decimal_26 hl (k := 3) rfl rfl (by decide) rfl (fun ls hl => ?_)
        refine lv_goto (tgt := 5) hx hb dX2_decimal_29 (by decide) ?_
        exact ih5 _ _ _ x2 (((10 * x3) + v18) - 48) (x4 + 1) hw (lv_sub hl [2, 3, 1, 0] rfl) hf
  refine lv_iconst (v := 0) hx hb dX2_decimal_0 (by decide) ?_
  refine lv_istore_n (lv' := [(3, .int 0), (0, .ref (h o)), (1, .int a1), (2, .int a2)]) hx hb dX2_decimal_1 rfl hl (by decide) rfl (fun ls hl => ?_)
  refine lv_iload_n hx hb dX2_decimal_2 rfl (lv_at hl 2 rfl) ?_
  refine lv_istore (lv' := [(4, .int a1), (3, .int 0), (0, .ref (h o)), (1, .int a1), (2, .int a2)]) hx hb dX2_decimal_3 hl (by decide) rfl (fun ls hl => ?_)
  exact b5 xfuel _ _ _ a2 0 a1 hw (lv_sub hl [2, 4, 1, 0] rfl) hf
theorem k_X3_push : xKV yX3_push cX3_push 2 none 1 := ⟨qw688, qw689, qw68, qw690, by decide +kernel, by decide +kernel, by decide +kernel⟩
set_option maxHeartbeats 4000000 in
set_option maxRecDepth 100000 in
theorem met_X3_push (l : Launch) (g : xG) (h : Nat → Nat) (o : Nat) (o2 : Nat) (hist : HC) (x : SC) (out : HC) (hf : f_X3_push hist x = some out) : xM l yX3_push (xC yX3_push cX3_push 2 none) { frames := 1, cells := 0, slots := 0, locals := 29 } g (wH g h o hist ++ wS g h o2 x) [.ref (h o), .ref (h o2)] none (wH g h o out ++ wS g h o2 x) := by
  refine xof (by decide) (Nat.le_of_ble_eq_true rfl) ⟨rfl, rfl⟩ ?_
  intro p e s m below meth c A ls E hr hlocks hw hl hpost hAe
  have hx := E.1.1
  have hb := E.1.2.1
  have hown := E.1.2.2.2.1
  have hts := E.1.2.2.2.2
  generalize hZ : (MQ below (xPost g (wH g h o hist ++ wS g h o2 x) (wH g h o out ++ wS g h o2 x) s.heap.size none) [.ref (h o), .ref (h o2)].toArray s 0 0 A) = ZZ
  have hret : ∀ (pc : Nat) (H : Heap) (locs : List Loc) (ls : Array Slot) (chist : HC), chist = out → decode cX3_push pc = .ok (.return_, 1) → xW g A s.heap (wH g h o chist ++ wS g h o2 x) H locs → W p l e { frames := 1, cells := 0, slots := 0, locals := 29 } s m [.ref (h o), .ref (h o2)].toArray below meth c H locs 0 0 ZZ (F0 m pc ls []) := by
    intro pc H locs ls chist he hd hw
    subst he
    rw [← hZ]
    exact W.vret hx hb hr (hpost H locs hw).1 (hpost H locs hw).2 hd hlocks
  clear hpost
  have b63 : ∀ (H : Heap) (locs : List Loc) (ls : Array Slot) (hist : HC) (t0 : Int32), xW g A s.heap (wH g h o hist ++ wS g h o2 x) H locs → lv_has ls 2 [(0, .ref (h o))] → f_X3_push_b63 hist x t0 = some out → W p l e { frames := 1, cells := 0, slots := 0, locals := 29 } s m [.ref (h o), .ref (h o2)].toArray below meth c H locs 0 0 ZZ (F0 m 63 ls [.int t0, .ref (h o)]) := by
    intro H locs ls hist t0 hw hl hf
    refine xput (ws' := (wH g h o (hist.1, t0, hist.2.2) ++ wS g h o2 x)) E hw 0 rfl rfl 1 (by decide) inw3 tyX3_ok nmX3 qw131 rfl rfl rfl rfl (Nat.le_of_ble_eq_true rfl) dX3_push_63 rfl (fun H locs hw => ?_)
    refine lv_aload_n hx hb dX3_push_66 rfl (lv_at hl 0 rfl) ?_
    refine lv_aload_n hx hb dX3_push_67 rfl (lv_at hl 0 rfl) ?_
    refine xget (v := .int hist.1) E hw 0 rfl rfl 0 (by decide) inw3 qw129 rfl rfl dX3_push_68 ?_
    refine lv_iconst (v := 1) hx hb dX3_push_71 (by decide) ?_
    refine lv_iadd hx hb dX3_push_72 ?_
    refine lv_bipush (v := 6) hx hb dX3_push_73 (by decide) ?_
    refine xmin E hl.1 qw692 qw693 qw79 qw694 ⟨Nat.le_of_ble_eq_true rfl, Nat.le_of_ble_eq_true rfl⟩ ⟨Nat.zero_le _, Nat.zero_le _⟩ dX3_push_75 ?_
    refine xput (ws' := (wH g h o (if 6 < (hist.1 + 1) then 6 else (hist.1 + 1), t0, hist.2.2) ++ wS g h o2 x)) E hw 0 rfl rfl 0 (by decide) inw3 tyX3_ok nmX3 qw129 rfl rfl rfl rfl (Nat.le_of_ble_eq_true rfl) dX3_push_78 rfl (fun H locs hw => ?_)
    exact hret _ _ _ _ _ (Option.some.inj hf) dX3_push_81 hw
  have b41 : ∀ (H : Heap) (locs : List Loc) (ls : Array Slot) (hist : HC), xW g A s.heap (wH g h o hist ++ wS g h o2 x) H locs → lv_has ls 2 [(0, .ref (h o))] → f_X3_push_b41 hist x = some out → W p l e { frames := 1, cells := 0, slots := 0, locals := 29 } s m [.ref (h o), .ref (h o2)].toArray below meth c H locs 0 0 ZZ (F0 m 41 ls []) := by
    intro H locs ls hist hw hl hf
    refine lv_aload_n hx hb dX3_push_41 rfl (lv_at hl 0 rfl) ?_
    refine lv_aload_n hx hb dX3_push_42 rfl (lv_at hl 0 rfl) ?_
    refine xget (v := .int hist.2.1) E hw 0 rfl rfl 1 (by decide) inw3 qw131 rfl rfl dX3_push_43 ?_
    refine lv_iconst (v := 1) hx hb dX3_push_46 (by decide) ?_
    refine lv_iadd hx hb dX3_push_47 ?_
    refine lv_bipush (v := 6) hx hb dX3_push_48 (by decide) ?_
    refine lv_icmp_ge (tgt := 62) hx hb dX3_push_50 (by decide) (fun c50 => ?_) (fun c50 => ?_)
    · replace hf := ip c50 hf
      refine lv_iconst (v := 0) hx hb dX3_push_62 (by decide) ?_
      exact b63 _ _ _ hist 0 hw (lv_sub hl [0] rfl) hf
    · replace hf := iq c50 hf
      refine lv_aload_n hx hb dX3_push_53 rfl (lv_at hl 0 rfl) ?_
      refine xget (v := .int hist.2.1) E hw 0 rfl rfl 1 (by decide) inw3 qw131 rfl rfl dX3_push_54 ?_
      refine lv_iconst (v := 1) hx hb dX3_push_57 (by decide) ?_
      refine lv_iadd hx hb dX3_push_58 ?_
      refine lv_goto (tgt := 63) hx hb dX3_push_59 (by decide) ?_
      exact b63 _ _ _ hist (hist.2.1 + 1) hw (lv_sub hl [0] rfl) hf
  refine lv_aload_n hx hb dX3_push_0 rfl (lv_at hl 0 rfl) ?_
  refine xget (v := .int hist.2.1) E hw 0 rfl rfl 1 (by decide) inw3 qw131 rfl rfl dX3_push_1 ?_
  refine lv_if_lt (tgt := 41) hx hb dX3_push_4 (by decide) (fun c4 => ?_) (fun c4 => ?_)
  · replace hf := ip c4 hf
    exact b41 _ _ _ hist hw (lv_sub hl [0] rfl) hf
  · replace hf := iq c4 hf
    refine lv_aload_n hx hb dX3_push_7 rfl (lv_at hl 0 rfl) ?_
    refine xget (v := .int hist.2.1) E hw 0 rfl rfl 1 (by decide) inw3 qw131 rfl rfl dX3_push_8 ?_
    refine lv_bipush (v := 6) hx hb dX3_push_11 (by decide) ?_
    refine lv_icmp_ge (tgt := 41) hx hb dX3_push_13 (by decide) (fun c13 => ?_) (fun c13 => ?_)
    · replace hf := ip c13 hf
      exact b41 _ _ _ hist hw (lv_sub hl [0] rfl) hf
    · replace hf := iq c13 hf
      refine lv_aload_n hx hb dX3_push_16 rfl (lv_at hl 0 rfl) ?_
      refine xget (v := .ref (h (o + 1))) E hw 0 rfl rfl 2 (by decide) inw3 qw132 rfl rfl dX3_push_17 ?_
      refine lv_aload_n hx hb dX3_push_20 rfl (lv_at hl 0 rfl) ?_
      refine xget (v := .int hist.2.1) E hw 0 rfl rfl 1 (by decide) inw3 qw131 rfl rfl dX3_push_21 ?_
      by_cases hk : hist.2.1 = 0
      · have hf := ip hk hf
        refine xaald E hw 1 rfl (by rw [hk]; decide) (by rw [hk]) dX3_push_24 ?_
        refine lv_ifnull hx hb dX3_push_25 ?_
        refine lv_aload_n hx hb dX3_push_28 rfl (lv_at hl 0 rfl) ?_
        refine xget (v := .ref (h (o + 1))) E hw 0 rfl rfl 2 (by decide) inw3 qw132 rfl rfl dX3_push_29 ?_
        refine lv_aload_n hx hb dX3_push_32 rfl (lv_at hl 0 rfl) ?_
        refine xget (v := .int hist.2.1) E hw 0 rfl rfl 1 (by decide) inw3 qw131 rfl rfl dX3_push_33 ?_
        refine xaald E hw 1 rfl (by rw [hk]; decide) (by rw [hk]) dX3_push_36 ?_
        refine lv_aload_n hx hb dX3_push_37 rfl (lv_at hl 1 rfl) ?_
        obtain ⟨v38, hv38, hf⟩ := ob_e hf
        refine xcallV (ws' := (wH g h o (hist.1, hist.2.1, (rup hist.2.2 0 v38)) ++ wS g h o2 x)) (st1 := []) (n := 23) E hw [.ref (h o2)] [2, 3, 4, 20, 21, 22] (met_X7_takeFrom l g h (o + 2 + 3 * 0) o2 (hist.2.2 0) x v38 hv38) rfl (by decide) rfl rfl [0, 1, 23, 24, 25, 5, 6, 7, 8, 9, 10, 11, 12, 13, 14, 15, 16, 17, 18, 19, 26, 27, 28] rfl (by decide +kernel) rfl rfl rfl rfl qw691 k_X7_takeFrom ⟨rfl, rfl, Nat.le_of_ble_eq_true rfl, Nat.le_of_ble_eq_true rfl⟩ ⟨Nat.zero_le _, Nat.zero_le _⟩ hl.1 (Nat.le_of_ble_eq_true rfl) dX3_push_38 rfl (fun H locs hw => ?_)
        exact b41 _ _ _ (hist.1, hist.2.1, (rup hist.2.2 0 v38)) hw (lv_sub hl [0] rfl) hf
      replace hf := iq hk hf
      by_cases hk : hist.2.1 = 1
      · have hf := ip hk hf
        refine xaald E hw 1 rfl (by rw [hk]; decide) (by rw [hk]) dX3_push_24 ?_
        refine lv_ifnull hx hb dX3_push_25 ?_
        refine lv_aload_n hx hb dX3_push_28 rfl (lv_at hl 0 rfl) ?_
        refine xget (v := .ref (h (o + 1))) E hw 0 rfl rfl 2 (by decide) inw3 qw132 rfl rfl dX3_push_29 ?_
        refine lv_aload_n hx hb dX3_push_32 rfl (lv_at hl 0 rfl) ?_
        refine xget (v := .int hist.2.1) E hw 0 rfl rfl 1 (by decide) inw3 qw131 rfl rfl dX3_push_33 ?_
        refine xaald E hw 1 rfl (by rw [hk]; decide) (by rw [hk]) dX3_push_36 ?_
        refine lv_aload_n hx hb dX3_push_37 rfl (lv_at hl 1 rfl) ?_
        obtain ⟨v38, hv38, hf⟩ := ob_e hf
        refine xcallV (ws' := (wH g h o (hist.1, hist.2.1, (rup hist.2.2 1 v38)) ++ wS g h o2 x)) (st1 := []) (n := 23) E hw [.ref (h o2)] [5, 6, 7, 20, 21, 22] (met_X7_takeFrom l g h (o + 2 + 3 * 1) o2 (hist.2.2 1) x v38 hv38) rfl (by decide) rfl rfl [0, 1, 2, 3, 4, 23, 24, 25, 8, 9, 10, 11, 12, 13, 14, 15, 16, 17, 18, 19, 26, 27, 28] rfl (by decide +kernel) rfl rfl rfl rfl qw691 k_X7_takeFrom ⟨rfl, rfl, Nat.le_of_ble_eq_true rfl, Nat.le_of_ble_eq_true rfl⟩ ⟨Nat.zero_le _, Nat.zero_le _⟩ hl.1 (Nat.le_of_ble_eq_true rfl) dX3_push_38 rfl (fun H locs hw => ?_)
        exact b41 _ _ _ (hist.1, hist.2.1, (rup hist.2.2 1 v38)) hw (lv_sub hl [0] rfl) hf
      replace hf := iq hk hf
      by_cases hk : hist.2.1 = 2
      · have hf := ip hk hf
        refine xaald E hw 1 rfl (by rw [hk]; decide) (by rw [hk]) dX3_push_24 ?_
        refine lv_ifnull hx hb dX3_push_25 ?_
        refine lv_aload_n hx hb dX3_push_28 rfl (lv_at hl 0 rfl) ?_
        refine xget (v := .ref (h (o + 1))) E hw 0 rfl rfl 2 (by decide) inw3 qw132 rfl rfl dX3_push_29 ?_
        refine lv_aload_n hx hb dX3_push_32 rfl (lv_at hl 0 rfl) ?_
        refine xget (v := .int hist.2.1) E hw 0 rfl rfl 1 (by decide) inw3 qw131 rfl rfl dX3_push_33 ?_
        refine xaald E hw 1 rfl (by rw [hk]; decide) (by rw [hk]) dX3_push_36 ?_
        refine lv_aload_n hx hb dX3_push_37 rfl (lv_at hl 1 rfl) ?_
        obtain ⟨v38, hv38, hf⟩ := ob_e hf
        refine xcallV (ws' := (wH g h o (hist.1, hist.2.1, (rup hist.2.2 2 v38)) ++ wS g h o2 x)) (st1 := []) (n := 23) E hw [.ref (h o2)] [8, 9, 10, 20, 21, 22] (met_X7_takeFrom l g h (o + 2 + 3 * 2) o2 (hist.2.2 2) x v38 hv38) rfl (by decide) rfl rfl [0, 1, 2, 3, 4, 5, 6, 7, 23, 24, 25, 11, 12, 13, 14, 15, 16, 17, 18, 19, 26, 27, 28] rfl (by decide +kernel) rfl rfl rfl rfl qw691 k_X7_takeFrom ⟨rfl, rfl, Nat.le_of_ble_eq_true rfl, Nat.le_of_ble_eq_true rfl⟩ ⟨Nat.zero_le _, Nat.zero_le _⟩ hl.1 (Nat.le_of_ble_eq_true rfl) dX3_push_38 rfl (fun H locs hw => ?_)
        exact b41 _ _ _ (hist.1, hist.2.1, (rup hist.2.2 2 v38)) hw (lv_sub hl [0] rfl) hf
      replace hf := iq hk hf
      by_cases hk : hist.2.1 = 3
      · have hf := ip hk hf
        refine xaald E hw 1 rfl (by rw [hk]; decide) (by rw [hk]) dX3_push_24 ?_
        refine lv_ifnull hx hb dX3_push_25 ?_
        refine lv_aload_n hx hb dX3_push_28 rfl (lv_at hl 0 rfl) ?_
        refine xget (v := .ref (h (o + 1))) E hw 0 rfl rfl 2 (by decide) inw3 qw132 rfl rfl dX3_push_29 ?_
        refine lv_aload_n hx hb dX3_push_32 rfl (lv_at hl 0 rfl) ?_
        refine xget (v := .int hist.2.1) E hw 0 rfl rfl 1 (by decide) inw3 qw131 rfl rfl dX3_push_33 ?_
        refine xaald E hw 1 rfl (by rw [hk]; decide) (by rw [hk]) dX3_push_36 ?_
        refine lv_aload_n hx hb dX3_push_37 rfl (lv_at hl 1 rfl) ?_
        obtain ⟨v38, hv38, hf⟩ := ob_e hf
        refine xcallV (ws' := (wH g h o (hist.1, hist.2.1, (rup hist.2.2 3 v38)) ++ wS g h o2 x)) (st1 := []) (n := 23) E hw [.ref (h o2)] [11, 12, 13, 20, 21, 22] (met_X7_takeFrom l g h (o + 2 + 3 * 3) o2 (hist.2.2 3) x v38 hv38) rfl (by decide) rfl rfl [0, 1, 2, 3, 4, 5, 6, 7, 8, 9, 10, 23, 24, 25, 14, 15, 16, 17, 18, 19, 26, 27, 28] rfl (by decide +kernel) rfl rfl rfl rfl qw691 k_X7_takeFrom ⟨rfl, rfl, Nat.le_of_ble_eq_true rfl, Nat.le_of_ble_eq_true rfl⟩ ⟨Nat.zero_le _, Nat.zero_le _⟩ hl.1 (Nat.le_of_ble_eq_true rfl) dX3_push_38 rfl (fun H locs hw => ?_)
        exact b41 _ _ _ (hist.1, hist.2.1, (rup hist.2.2 3 v38)) hw (lv_sub hl [0] rfl) hf
      replace hf := iq hk hf
      by_cases hk : hist.2.1 = 4
      · have hf := ip hk hf
        refine xaald E hw 1 rfl (by rw [hk]; decide) (by rw [hk]) dX3_push_24 ?_
        refine lv_ifnull hx hb dX3_push_25 ?_
        refine lv_aload_n hx hb dX3_push_28 rfl (lv_at hl 0 rfl) ?_
        refine xget (v := .ref (h (o + 1))) E hw 0 rfl rfl 2 (by decide) inw3 qw132 rfl rfl dX3_push_29 ?_
        refine lv_aload_n hx hb dX3_push_32 rfl (lv_at hl 0 rfl) ?_
        refine xget (v := .int hist.2.1) E hw 0 rfl rfl 1 (by decide) inw3 qw131 rfl rfl dX3_push_33 ?_
        refine xaald E hw 1 rfl (by rw [hk]; decide) (by rw [hk]) dX3_push_36 ?_
        refine lv_aload_n hx hb dX3_push_37 rfl (lv_at hl 1 rfl) ?_
        obtain ⟨v38, hv38, hf⟩ := ob_e hf
        refine xcallV (ws' := (wH g h o (hist.1, hist.2.1, (rup hist.2.2 4 v38)) ++ wS g h o2 x)) (st1 := []) (n := 23) E hw [.ref (h o2)] [14, 15, 16, 20, 21, 22] (met_X7_takeFrom l g h (o + 2 + 3 * 4) o2 (hist.2.2 4) x v38 hv38) rfl (by decide) rfl rfl [0, 1, 2, 3, 4, 5, 6, 7, 8, 9, 10, 11, 12, 13, 23, 24, 25, 17, 18, 19, 26, 27, 28] rfl (by decide +kernel) rfl rfl rfl rfl qw691 k_X7_takeFrom ⟨rfl, rfl, Nat.le_of_ble_eq_true rfl, Nat.le_of_ble_eq_true rfl⟩ ⟨Nat.zero_le _, Nat.zero_le _⟩ hl.1 (Nat.le_of_ble_eq_true rfl) dX3_push_38 rfl (fun H locs hw => ?_)
        exact b41 _ _ _ (hist.1, hist.2.1, (rup hist.2.2 4 v38)) hw (lv_sub hl [0] rfl) hf
      replace hf := iq hk hf
      by_cases hk : hist.2.1 = 5
      · have hf := ip hk hf
        refine xaald E hw 1 rfl (by rw [hk]; decide) (by rw [hk]) dX3_push_24 ?_
        refine lv_ifnull hx hb dX3_push_25 ?_
        refine lv_aload_n hx hb dX3_push_28 rfl (lv_at hl 0 rfl) ?_
        refine xget (v := .ref (h (o + 1))) E hw 0 rfl rfl 2 (by decide) inw3 qw132 rfl rfl dX3_push_29 ?_
        refine lv_aload_n hx hb dX3_push_32 rfl (lv_at hl 0 rfl) ?_
        refine xget (v := .int hist.2.1) E hw 0 rfl rfl 1 (by decide) inw3 qw131 rfl rfl dX3_push_33 ?_
        refine xaald E hw 1 rfl (by rw [hk]; decide) (by rw [hk]) dX3_push_36 ?_
        refine lv_aload_n hx hb dX3_push_37 rfl (lv_at hl 1 rfl) ?_
        obtain ⟨v38, hv38, hf⟩ := ob_e hf
        refine xcallV (ws' := (wH g h o (hist.1, hist.2.1, (rup hist.2.2 5 v38)) ++ wS g h o2 x)) (st1 := []) (n := 23) E hw [.ref (h o2)] [17, 18, 19, 20, 21, 22] (met_X7_takeFrom l g h (o + 2 + 3 * 5) o2 (hist.2.2 5) x v38 hv38) rfl (by decide) rfl rfl [0, 1, 2, 3, 4, 5, 6, 7, 8, 9, 10, 11, 12, 13, 14, 15, 16, 23, 24, 25, 26, 27, 28] rfl (by decide +kernel) rfl rfl rfl rfl qw691 k_X7_takeFrom ⟨rfl, rfl, Nat.le_of_ble_eq_true rfl, Nat.le_of_ble_eq_true rfl⟩ ⟨Nat.zero_le _, Nat.zero_le _⟩ hl.1 (Nat.le_of_ble_eq_true rfl) dX3_push_38 rfl (fun H locs hw => ?_)
        exact b41 _ _ _ (hist.1, hist.2.1, (rup hist.2.2 5 v38)) hw (lv_sub hl [0] rfl) hf
      replace hf := iq hk hf
      exact nn hf
theorem k_X3_pop : xKV yX3_pop cX3_pop 2 none 1 := ⟨qw886, qw887, qw68, qw888, by decide +kernel, by decide +kernel, by decide +kernel⟩
set_option maxHeartbeats 4000000 in
set_option maxRecDepth 100000 in
theorem met_X3_pop (l : Launch) (g : xG) (h : Nat → Nat) (o : Nat) (o2 : Nat) (hist : HC) (x : SC) (out : HC × SC) (hf : f_X3_pop hist x = some out) : xM l yX3_pop (xC yX3_pop cX3_pop 2 none) { frames := 1, cells := 0, slots := 0, locals := 29 } g (wH g h o hist ++ wS g h o2 x) [.ref (h o), .ref (h o2)] none (wH g h o out.1 ++ wS g h o2 out.2) := by
  refine xof (by decide) (Nat.le_of_ble_eq_true rfl) ⟨rfl, rfl⟩ ?_
  intro p e s m below meth c A ls E hr hlocks hw hl hpost hAe
  have hx := E.1.1
  have hb := E.1.2.1
  have hown := E.1.2.2.2.1
  have hts := E.1.2.2.2.2
  generalize hZ : (MQ below (xPost g (wH g h o hist ++ wS g h o2 x) (wH g h o out.1 ++ wS g h o2 out.2) s.heap.size none) [.ref (h o), .ref (h o2)].toArray s 0 0 A) = ZZ
  have hret : ∀ (pc : Nat) (H : Heap) (locs : List Loc) (ls : Array Slot) (chist : HC) (cx : SC), (chist, cx) = out → decode cX3_pop pc = .ok (.return_, 1) → xW g A s.heap (wH g h o chist ++ wS g h o2 cx) H locs → W p l e { frames := 1, cells := 0, slots := 0, locals := 29 } s m [.ref (h o), .ref (h o2)].toArray below meth c H locs 0 0 ZZ (F0 m pc ls []) := by
    intro pc H locs ls chist cx he hd hw
    subst he
    rw [← hZ]
    exact W.vret hx hb hr (hpost H locs hw).1 (hpost H locs hw).2 hd hlocks
  clear hpost
  have b18 : ∀ (H : Heap) (locs : List Loc) (ls : Array Slot) (hist : HC) (x : SC) (t0 : Int32), xW g A s.heap (wH g h o hist ++ wS g h o2 x) H locs → lv_has ls 2 [(0, .ref (h o)), (1, .ref (h o2))] → f_X3_pop_b18 hist x t0 = some out → W p l e { frames := 1, cells := 0, slots := 0, locals := 29 } s m [.ref (h o), .ref (h o2)].toArray below meth c H locs 0 0 ZZ (F0 m 18 ls [.int t0, .ref (h o)]) := by
    intro H locs ls hist x t0 hw hl hf
    refine xput (ws' := (wH g h o (hist.1, t0, hist.2.2) ++ wS g h o2 x)) E hw 0 rfl rfl 1 (by decide) inw3 tyX3_ok nmX3 qw131 rfl rfl rfl rfl (Nat.le_of_ble_eq_true rfl) dX3_pop_18 rfl (fun H locs hw => ?_)
    refine lv_aload_n hx hb dX3_pop_21 rfl (lv_at hl 0 rfl) ?_
    refine lv_aload_n hx hb dX3_pop_22 rfl (lv_at hl 0 rfl) ?_
    refine xget (v := .int hist.1) E hw 0 rfl rfl 0 (by decide) inw3 qw129 rfl rfl dX3_pop_23 ?_
    refine lv_iconst (v := 1) hx hb dX3_pop_26 (by decide) ?_
    refine lv_isub hx hb dX3_pop_27 ?_
    refine lv_iconst (v := 0) hx hb dX3_pop_28 (by decide) ?_
    refine xmax E hl.1 qw889 qw614 qw79 qw615 ⟨Nat.le_of_ble_eq_true rfl, Nat.le_of_ble_eq_true rfl⟩ ⟨Nat.zero_le _, Nat.zero_le _⟩ dX3_pop_29 ?_
    refine xput (ws' := (wH g h o (if (hist.1 - 1) < 0 then 0 else (hist.1 - 1), t0, hist.2.2) ++ wS g h o2 x)) E hw 0 rfl rfl 0 (by decide) inw3 tyX3_ok nmX3 qw129 rfl rfl rfl rfl (Nat.le_of_ble_eq_true rfl) dX3_pop_32 rfl (fun H locs hw => ?_)
    refine lv_aload_n hx hb dX3_pop_35 rfl (lv_at hl 0 rfl) ?_
    refine xget (v := .int t0) E hw 0 rfl rfl 1 (by decide) inw3 qw131 rfl rfl dX3_pop_36 ?_
    refine lv_bipush (v := 6) hx hb dX3_pop_39 (by decide) ?_
    refine lv_icmp_ge (tgt := 69) hx hb dX3_pop_41 (by decide) (fun c41 => ?_) (fun c41 => ?_)
    · replace hf := ip c41 hf
      exact hret _ _ _ _ _ _ (Option.some.inj hf) dX3_pop_69 hw
    · replace hf := iq c41 hf
      refine lv_aload_n hx hb dX3_pop_44 rfl (lv_at hl 0 rfl) ?_
      refine xget (v := .ref (h (o + 1))) E hw 0 rfl rfl 2 (by decide) inw3 qw132 rfl rfl dX3_pop_45 ?_
      refine lv_aload_n hx hb dX3_pop_48 rfl (lv_at hl 0 rfl) ?_
      refine xget (v := .int t0) E hw 0 rfl rfl 1 (by decide) inw3 qw131 rfl rfl dX3_pop_49 ?_
      by_cases hk : t0 = 0
      · have hf := ip hk hf
        refine xaald E hw 1 rfl (by rw [hk]; decide) (by rw [hk]) dX3_pop_52 ?_
        refine lv_ifnull hx hb dX3_pop_53 ?_
        refine lv_aload_n hx hb dX3_pop_56 rfl (lv_at hl 1 rfl) ?_
        refine lv_aload_n hx hb dX3_pop_57 rfl (lv_at hl 0 rfl) ?_
        refine xget (v := .ref (h (o + 1))) E hw 0 rfl rfl 2 (by decide) inw3 qw132 rfl rfl dX3_pop_58 ?_
        refine lv_aload_n hx hb dX3_pop_61 rfl (lv_at hl 0 rfl) ?_
        refine xget (v := .int t0) E hw 0 rfl rfl 1 (by decide) inw3 qw131 rfl rfl dX3_pop_62 ?_
        refine xaald E hw 1 rfl (by rw [hk]; decide) (by rw [hk]) dX3_pop_65 ?_
        obtain ⟨v66, hv66, hf⟩ := ob_e hf
        refine xcallV (ws' := (wH g h o (if (hist.1 - 1) < 0 then 0 else (hist.1 - 1), t0, hist.2.2) ++ wS g h o2 v66)) (st1 := []) (n := 23) E hw [.ref (h (o + 2 + 3 * 0))] [20, 21, 22, 2, 3, 4] (met_X7_takeFrom l g h o2 (o + 2 + 3 * 0) x (hist.2.2 0) v66 hv66) rfl (by decide) rfl rfl [0, 1, 26, 27, 28, 5, 6, 7, 8, 9, 10, 11, 12, 13, 14, 15, 16, 17, 18, 19, 23, 24, 25] rfl (by decide +kernel) rfl rfl rfl rfl qw691 k_X7_takeFrom ⟨rfl, rfl, Nat.le_of_ble_eq_true rfl, Nat.le_of_ble_eq_true rfl⟩ ⟨Nat.zero_le _, Nat.zero_le _⟩ hl.1 (Nat.le_of_ble_eq_true rfl) dX3_pop_66 rfl (fun H locs hw => ?_)
        exact hret _ _ _ _ _ _ (Option.some.inj hf) dX3_pop_69 hw
      replace hf := iq hk hf
      by_cases hk : t0 = 1
      · have hf := ip hk hf
        refine xaald E hw 1 rfl (by rw [hk]; decide) (by rw [hk]) dX3_pop_52 ?_
        refine lv_ifnull hx hb dX3_pop_53 ?_
        refine lv_aload_n hx hb dX3_pop_56 rfl (lv_at hl 1 rfl) ?_
        refine lv_aload_n hx hb dX3_pop_57 rfl (lv_at hl 0 rfl) ?_
        refine xget (v := .ref (h (o + 1))) E hw 0 rfl rfl 2 (by decide) inw3 qw132 rfl rfl dX3_pop_58 ?_
        refine lv_aload_n hx hb dX3_pop_61 rfl (lv_at hl 0 rfl) ?_
        refine xget (v := .int t0) E hw 0 rfl rfl 1 (by decide) inw3 qw131 rfl rfl dX3_pop_62 ?_
        refine xaald E hw 1 rfl (by rw [hk]; decide) (by rw [hk]) dX3_pop_65 ?_
        obtain ⟨v66, hv66, hf⟩ := ob_e hf
        refine xcallV (ws' := (wH g h o (if (hist.1 - 1) < 0 then 0 else (hist.1 - 1), t0, hist.2.2) ++ wS g h o2 v66)) (st1 := []) (n := 23) E hw [.ref (h (o + 2 + 3 * 1))] [20, 21, 22, 5, 6, 7] (met_X7_takeFrom l g h o2 (o + 2 + 3 * 1) x (hist.2.2 1) v66 hv66) rfl (by decide) rfl rfl [0, 1, 2, 3, 4, 26, 27, 28, 8, 9, 10, 11, 12, 13, 14, 15, 16, 17, 18, 19, 23, 24, 25] rfl (by decide +kernel) rfl rfl rfl rfl qw691 k_X7_takeFrom ⟨rfl, rfl, Nat.le_of_ble_eq_true rfl, Nat.le_of_ble_eq_true rfl⟩ ⟨Nat.zero_le _, Nat.zero_le _⟩ hl.1 (Nat.le_of_ble_eq_true rfl) dX3_pop_66 rfl (fun H locs hw => ?_)
        exact hret _ _ _ _ _ _ (Option.some.inj hf) dX3_pop_69 hw
      replace hf := iq hk hf
      by_cases hk : t0 = 2
      · have hf := ip hk hf
        refine xaald E hw 1 rfl (by rw [hk]; decide) (by rw [hk]) dX3_pop_52 ?_
        refine lv_ifnull hx hb dX3_pop_53 ?_
        refine lv_aload_n hx hb dX3_pop_56 rfl (lv_at hl 1 rfl) ?_
        refine lv_aload_n hx hb dX3_pop_57 rfl (lv_at hl 0 rfl) ?_
        refine xget (v := .ref (h (o + 1))) E hw 0 rfl rfl 2 (by decide) inw3 qw132 rfl rfl dX3_pop_58 ?_
        refine lv_aload_n hx hb dX3_pop_61 rfl (lv_at hl 0 rfl) ?_
        refine xget (v := .int t0) E hw 0 rfl rfl 1 (by decide) inw3 qw131 rfl rfl dX3_pop_62 ?_
        refine xaald E hw 1 rfl (by rw [hk]; decide) (by rw [hk]) dX3_pop_65 ?_
        obtain ⟨v66, hv66, hf⟩ := ob_e hf
        refine xcallV (ws' := (wH g h o (if (hist.1 - 1) < 0 then 0 else (hist.1 - 1), t0, hist.2.2) ++ wS g h o2 v66)) (st1 := []) (n := 23) E hw [.ref (h (o + 2 + 3 * 2))] [20, 21, 22, 8, 9, 10] (met_X7_takeFrom l g h o2 (o + 2 + 3 * 2) x (hist.2.2 2) v66 hv66) rfl (by decide) rfl rfl [0, 1, 2, 3, 4, 5, 6, 7, 26, 27, 28, 11, 12, 13, 14, 15, 16, 17, 18, 19, 23, 24, 25] rfl (by decide +kernel) rfl rfl rfl rfl qw691 k_X7_takeFrom ⟨rfl, rfl, Nat.le_of_ble_eq_true rfl, Nat.le_of_ble_eq_true rfl⟩ ⟨Nat.zero_le _, Nat.zero_le _⟩ hl.1 (Nat.le_of_ble_eq_true rfl) dX3_pop_66 rfl (fun H locs hw => ?_)
        exact hret _ _ _ _ _ _ (Option.some.inj hf) dX3_pop_69 hw
      replace hf := iq hk hf
      by_cases hk : t0 = 3
      · have hf := ip hk hf
        refine xaald E hw 1 rfl (by rw [hk]; decide) (by rw [hk]) dX3_pop_52 ?_
        refine lv_ifnull hx hb dX3_pop_53 ?_
        refine lv_aload_n hx hb dX3_pop_56 rfl (lv_at hl 1 rfl) ?_
        refine lv_aload_n hx hb dX3_pop_57 rfl (lv_at hl 0 rfl) ?_
        refine xget (v := .ref (h (o + 1))) E hw 0 rfl rfl 2 (by decide) inw3 qw132 rfl rfl dX3_pop_58 ?_
        refine lv_aload_n hx hb dX3_pop_61 rfl (lv_at hl 0 rfl) ?_
        refine xget (v := .int t0) E hw 0 rfl rfl 1 (by decide) inw3 qw131 rfl rfl dX3_pop_62 ?_
        refine xaald E hw 1 rfl (by rw [hk]; decide) (by rw [hk]) dX3_pop_65 ?_
        obtain ⟨v66, hv66, hf⟩ := ob_e hf
        refine xcallV (ws' := (wH g h o (if (hist.1 - 1) < 0 then 0 else (hist.1 - 1), t0, hist.2.2) ++ wS g h o2 v66)) (st1 := []) (n := 23) E hw [.ref (h (o + 2 + 3 * 3))] [20, 21, 22, 11, 12, 13] (met_X7_takeFrom l g h o2 (o + 2 + 3 * 3) x (hist.2.2 3) v66 hv66) rfl (by decide) rfl rfl [0, 1, 2, 3, 4, 5, 6, 7, 8, 9, 10, 26, 27, 28, 14, 15, 16, 17, 18, 19, 23, 24, 25] rfl (by decide +kernel) rfl rfl rfl rfl qw691 k_X7_takeFrom ⟨rfl, rfl, Nat.le_of_ble_eq_true rfl, Nat.le_of_ble_eq_true rfl⟩ ⟨Nat.zero_le _, Nat.zero_le _⟩ hl.1 (Nat.le_of_ble_eq_true rfl) dX3_pop_66 rfl (fun H locs hw => ?_)
        exact hret _ _ _ _ _ _ (Option.some.inj hf) dX3_pop_69 hw
      replace hf := iq hk hf
      by_cases hk : t0 = 4
      · have hf := ip hk hf
        refine xaald E hw 1 rfl (by rw [hk]; decide) (by rw [hk]) dX3_pop_52 ?_
        refine lv_ifnull hx hb dX3_pop_53 ?_
        refine lv_aload_n hx hb dX3_pop_56 rfl (lv_at hl 1 rfl) ?_
        refine lv_aload_n hx hb dX3_pop_57 rfl (lv_at hl 0 rfl) ?_
        refine xget (v := .ref (h (o + 1))) E hw 0 rfl rfl 2 (by decide) inw3 qw132 rfl rfl dX3_pop_58 ?_
        refine lv_aload_n hx hb dX3_pop_61 rfl (lv_at hl 0 rfl) ?_
        refine xget (v := .int t0) E hw 0 rfl rfl 1 (by decide) inw3 qw131 rfl rfl dX3_pop_62 ?_
        refine xaald E hw 1 rfl (by rw [hk]; decide) (by rw [hk]) dX3_pop_65 ?_
        obtain ⟨v66, hv66, hf⟩ := ob_e hf
        refine xcallV (ws' := (wH g h o (if (hist.1 - 1) < 0 then 0 else (hist.1 - 1), t0, hist.2.2) ++ wS g h o2 v66)) (st1 := []) (n := 23) E hw [.ref (h (o + 2 + 3 * 4))] [20, 21, 22, 14, 15, 16] (met_X7_takeFrom l g h o2 (o + 2 + 3 * 4) x (hist.2.2 4) v66 hv66) rfl (by decide) rfl rfl [0, 1, 2, 3, 4, 5, 6, 7, 8, 9, 10, 11, 12, 13, 26, 27, 28, 17, 18, 19, 23, 24, 25] rfl (by decide +kernel) rfl rfl rfl rfl qw691 k_X7_takeFrom ⟨rfl, rfl, Nat.le_of_ble_eq_true rfl, Nat.le_of_ble_eq_true rfl⟩ ⟨Nat.zero_le _, Nat.zero_le _⟩ hl.1 (Nat.le_of_ble_eq_true rfl) dX3_pop_66 rfl (fun H locs hw => ?_)
        exact hret _ _ _ _ _ _ (Option.some.inj hf) dX3_pop_69 hw
      replace hf := iq hk hf
      by_cases hk : t0 = 5
      · have hf := ip hk hf
        refine xaald E hw 1 rfl (by rw [hk]; decide) (by rw [hk]) dX3_pop_52 ?_
        refine lv_ifnull hx hb dX3_pop_53 ?_
        refine lv_aload_n hx hb dX3_pop_56 rfl (lv_at hl 1 rfl) ?_
        refine lv_aload_n hx hb dX3_pop_57 rfl (lv_at hl 0 rfl) ?_
        refine xget (v := .ref (h (o + 1))) E hw 0 rfl rfl 2 (by decide) inw3 qw132 rfl rfl dX3_pop_58 ?_
        refine lv_aload_n hx hb dX3_pop_61 rfl (lv_at hl 0 rfl) ?_
        refine xget (v := .int t0) E hw 0 rfl rfl 1 (by decide) inw3 qw131 rfl rfl dX3_pop_62 ?_
        refine xaald E hw 1 rfl (by rw [hk]; decide) (by rw [hk]) dX3_pop_65 ?_
        obtain ⟨v66, hv66, hf⟩ := ob_e hf
        refine xcallV (ws' := (wH g h o (if (hist.1 - 1) < 0 then 0 else (hist.1 - 1), t0, hist.2.2) ++ wS g h o2 v66)) (st1 := []) (n := 23) E hw [.ref (h (o + 2 + 3 * 5))] [20, 21, 22, 17, 18, 19] (met_X7_takeFrom l g h o2 (o + 2 + 3 * 5) x (hist.2.2 5) v66 hv66) rfl (by decide) rfl rfl [0, 1, 2, 3, 4, 5, 6, 7, 8, 9, 10, 11, 12, 13, 14, 15, 16, 26, 27, 28, 23, 24, 25] rfl (by decide +kernel) rfl rfl rfl rfl qw691 k_X7_takeFrom ⟨rfl, rfl, Nat.le_of_ble_eq_true rfl, Nat.le_of_ble_eq_true rfl⟩ ⟨Nat.zero_le _, Nat.zero_le _⟩ hl.1 (Nat.le_of_ble_eq_true rfl) dX3_pop_66 rfl (fun H locs hw => ?_)
        exact hret _ _ _ _ _ _ (Option.some.inj hf) dX3_pop_69 hw
      replace hf := iq hk hf
      exact nn hf
  refine lv_aload_n hx hb dX3_pop_0 rfl (lv_at hl 0 rfl) ?_
  refine lv_aload_n hx hb dX3_pop_1 rfl (lv_at hl 0 rfl) ?_
  refine xget (v := .int hist.2.1) E hw 0 rfl rfl 1 (by decide) inw3 qw131 rfl rfl dX3_pop_2 ?_
  refine lv_if_le (tgt := 17) hx hb dX3_pop_5 (by decide) (fun c5 => ?_) (fun c5 => ?_)
  · replace hf := ip c5 hf
    refine lv_iconst (v := 5) hx hb dX3_pop_17 (by decide) ?_
    exact b18 _ _ _ hist x 5 hw (lv_sub hl [0, 1] rfl) hf
  · replace hf := iq c5 hf
    refine lv_aload_n hx hb dX3_pop_8 rfl (lv_at hl 0 rfl) ?_
    refine xget (v := .int hist.2.1) E hw 0 rfl rfl 1 (by decide) inw3 qw131 rfl rfl dX3_pop_9 ?_
    refine lv_iconst (v := 1) hx hb dX3_pop_12 (by decide) ?_
    refine lv_isub hx hb dX3_pop_13 ?_
    refine lv_goto (tgt := 18) hx hb dX3_pop_14 (by decide) ?_
    exact b18 _ _ _ hist x (hist.2.1 - 1) hw (lv_sub hl [0, 1] rfl) hf
theorem k_X4_begin : xKV yX4_begin cX4_begin 2 none 1 := ⟨qw840, qw841, qw72, qw842, by decide +kernel, by decide +kernel, by decide +kernel⟩
set_option maxHeartbeats 4000000 in
set_option maxRecDepth 100000 in
theorem met_X4_begin (l : Launch) (g : xG) (h : Nat → Nat) (o : Nat) (num : NC) (a1 : Int32) (out : NC) (hf : f_X4_begin num a1 = some out) : xM l yX4_begin (xC yX4_begin cX4_begin 2 none) { frames := 0, cells := 0, slots := 0, locals := 0 } g (wN h o num) [.ref (h o), .int a1] none (wN h o out) := by
  refine xof (by decide) (Nat.le_of_ble_eq_true rfl) ⟨rfl, rfl⟩ ?_
  intro p e s m below meth c A ls E hr hlocks hw hl hpost hAe
  have hx := E.1.1
  have hb := E.1.2.1
  have hown := E.1.2.2.2.1
  have hts := E.1.2.2.2.2
  generalize hZ : (MQ below (xPost g (wN h o num) (wN h o out) s.heap.size none) [.ref (h o), .int a1].toArray s 0 0 A) = ZZ
  have hret : ∀ (pc : Nat) (H : Heap) (locs : List Loc) (ls : Array Slot) (cnum : NC), cnum = out → decode cX4_begin pc = .ok (.return_, 1) → xW g A s.heap (wN h o cnum) H locs → W p l e { frames := 0, cells := 0, slots := 0, locals := 0 } s m [.ref (h o), .int a1].toArray below meth c H locs 0 0 ZZ (F0 m pc ls []) := by
    intro pc H locs ls cnum he hd hw
    subst he
    rw [← hZ]
    exact W.vret hx hb hr (hpost H locs hw).1 (hpost H locs hw).2 hd hlocks
  clear hpost
  refine lv_aload_n hx hb dX4_begin_0 rfl (lv_at hl 0 rfl) ?_
  refine lv_iload_n hx hb dX4_begin_1 rfl (lv_at hl 1 rfl) ?_
  refine xput (ws' := (wN h o (num.1, a1, num.2.2.1, num.2.2.2.1, num.2.2.2.2.1, num.2.2.2.2.2.1, num.2.2.2.2.2.2.1, num.2.2.2.2.2.2.2.1, num.2.2.2.2.2.2.2.2))) E hw 0 rfl rfl 1 (by decide) inw4 tyX4_ok nmX4 qw197 rfl rfl rfl rfl (Nat.le_of_ble_eq_true rfl) dX4_begin_2 rfl (fun H locs hw => ?_)
  refine lv_aload_n hx hb dX4_begin_5 rfl (lv_at hl 0 rfl) ?_
  refine lv_iconst (v := 0) hx hb dX4_begin_6 (by decide) ?_
  refine xput (ws' := (wN h o (0, a1, num.2.2.1, num.2.2.2.1, num.2.2.2.2.1, num.2.2.2.2.2.1, num.2.2.2.2.2.2.1, num.2.2.2.2.2.2.2.1, num.2.2.2.2.2.2.2.2))) E hw 0 rfl rfl 0 (by decide) inw4 tyX4_ok nmX4 qw195 rfl rfl (by decide) (by decide) (Nat.le_of_ble_eq_true rfl) dX4_begin_7 rfl (fun H locs hw => ?_)
  refine lv_aload_n hx hb dX4_begin_10 rfl (lv_at hl 0 rfl) ?_
  refine lv_iconst (v := 0) hx hb dX4_begin_11 (by decide) ?_
  refine xput (ws' := (wN h o (0, a1, 0, num.2.2.2.1, num.2.2.2.2.1, num.2.2.2.2.2.1, num.2.2.2.2.2.2.1, num.2.2.2.2.2.2.2.1, num.2.2.2.2.2.2.2.2))) E hw 0 rfl rfl 2 (by decide) inw4 tyX4_ok nmX4 qw198 rfl rfl (by decide) (by decide) (Nat.le_of_ble_eq_true rfl) dX4_begin_12 rfl (fun H locs hw => ?_)
  refine lv_aload_n hx hb dX4_begin_15 rfl (lv_at hl 0 rfl) ?_
  refine lv_iconst (v := 0) hx hb dX4_begin_16 (by decide) ?_
  refine xput (ws' := (wN h o (0, a1, 0, 0, num.2.2.2.2.1, num.2.2.2.2.2.1, num.2.2.2.2.2.2.1, num.2.2.2.2.2.2.2.1, num.2.2.2.2.2.2.2.2))) E hw 0 rfl rfl 3 (by decide) inw4 tyX4_ok nmX4 qw199 rfl rfl (by decide) (by decide) (Nat.le_of_ble_eq_true rfl) dX4_begin_17 rfl (fun H locs hw => ?_)
  refine lv_aload_n hx hb dX4_begin_20 rfl (lv_at hl 0 rfl) ?_
  refine lv_lconst (v := 0) hx hb dX4_begin_21 (by decide) ?_
  refine xput (ws' := (wN h o (0, a1, 0, 0, 0, num.2.2.2.2.2.1, num.2.2.2.2.2.2.1, num.2.2.2.2.2.2.2.1, num.2.2.2.2.2.2.2.2))) E hw 0 rfl rfl 4 (by decide) inw4 tyX4_ok nmX4 qw200 rfl rfl rfl rfl (Nat.le_of_ble_eq_true rfl) dX4_begin_22 rfl (fun H locs hw => ?_)
  refine lv_aload_n hx hb dX4_begin_25 rfl (lv_at hl 0 rfl) ?_
  refine lv_lconst (v := 0) hx hb dX4_begin_26 (by decide) ?_
  refine xput (ws' := (wN h o (0, a1, 0, 0, 0, 0, num.2.2.2.2.2.2.1, num.2.2.2.2.2.2.2.1, num.2.2.2.2.2.2.2.2))) E hw 0 rfl rfl 5 (by decide) inw4 tyX4_ok nmX4 qw201 rfl rfl rfl rfl (Nat.le_of_ble_eq_true rfl) dX4_begin_27 rfl (fun H locs hw => ?_)
  refine lv_aload_n hx hb dX4_begin_30 rfl (lv_at hl 0 rfl) ?_
  refine lv_lconst (v := 1) hx hb dX4_begin_31 (by decide) ?_
  refine xput (ws' := (wN h o (0, a1, 0, 0, 0, 0, 1, num.2.2.2.2.2.2.2.1, num.2.2.2.2.2.2.2.2))) E hw 0 rfl rfl 6 (by decide) inw4 tyX4_ok nmX4 qw202 rfl rfl rfl rfl (Nat.le_of_ble_eq_true rfl) dX4_begin_32 rfl (fun H locs hw => ?_)
  refine lv_aload_n hx hb dX4_begin_35 rfl (lv_at hl 0 rfl) ?_
  refine lv_lconst (v := 0) hx hb dX4_begin_36 (by decide) ?_
  refine xput (ws' := (wN h o (0, a1, 0, 0, 0, 0, 1, 0, num.2.2.2.2.2.2.2.2))) E hw 0 rfl rfl 7 (by decide) inw4 tyX4_ok nmX4 qw203 rfl rfl rfl rfl (Nat.le_of_ble_eq_true rfl) dX4_begin_37 rfl (fun H locs hw => ?_)
  refine lv_aload_n hx hb dX4_begin_40 rfl (lv_at hl 0 rfl) ?_
  refine lv_lconst (v := 1) hx hb dX4_begin_41 (by decide) ?_
  refine xput (ws' := (wN h o (0, a1, 0, 0, 0, 0, 1, 0, 1))) E hw 0 rfl rfl 8 (by decide) inw4 tyX4_ok nmX4 qw204 rfl rfl rfl rfl (Nat.le_of_ble_eq_true rfl) dX4_begin_42 rfl (fun H locs hw => ?_)
  exact hret _ _ _ _ _ (Option.some.inj hf) dX4_begin_45 hw
theorem k_X4_takeDigit : xKV yX4_takeDigit cX4_takeDigit 2 none 1 := ⟨qw850, qw20, qw72, qw851, by decide +kernel, by decide +kernel, by decide +kernel⟩
set_option maxHeartbeats 4000000 in
set_option maxRecDepth 100000 in
theorem met_X4_takeDigit (l : Launch) (g : xG) (h : Nat → Nat) (o : Nat) (num : NC) (a1 : Int32) (out : NC) (hf : f_X4_takeDigit num a1 = some out) : xM l yX4_takeDigit (xC yX4_takeDigit cX4_takeDigit 2 none) { frames := 0, cells := 0, slots := 0, locals := 0 } g (wN h o num) [.ref (h o), .int a1] none (wN h o out) := by
  refine xof (by decide) (Nat.le_of_ble_eq_true rfl) ⟨rfl, rfl⟩ ?_
  intro p e s m below meth c A ls E hr hlocks hw hl hpost hAe
  have hx := E.1.1
  have hb := E.1.2.1
  have hown := E.1.2.2.2.1
  have hts := E.1.2.2.2.2
  generalize hZ : (MQ below (xPost g (wN h o num) (wN h o out) s.heap.size none) [.ref (h o), .int a1].toArray s 0 0 A) = ZZ
  have hret : ∀ (pc : Nat) (H : Heap) (locs : List Loc) (ls : Array Slot) (cnum : NC), cnum = out → decode cX4_takeDigit pc = .ok (.return_, 1) → xW g A s.heap (wN h o cnum) H locs → W p l e { frames := 0, cells := 0, slots := 0, locals := 0 } s m [.ref (h o), .int a1].toArray below meth c H locs 0 0 ZZ (F0 m pc ls []) := by
    intro pc H locs ls cnum he hd hw
    subst he
    rw [← hZ]
    exact W.vret hx hb hr (hpost H locs hw).1 (hpost H locs hw).2 hd hlocks
  clear hpost
  have b21 : ∀ (H : Heap) (locs : List Loc) (ls : Array Slot) (num : NC) (x1 : Int32) (t0 : Int32), xW g A s.heap (wN h o num) H locs → lv_has ls 2 [(0, .ref (h o)), (1, .int x1)] → f_X4_takeDigit_b21 num x1 t0 = some out → W p l e { frames := 0, cells := 0, slots := 0, locals := 0 } s m [.ref (h o), .int a1].toArray below meth c H locs 0 0 ZZ (F0 m 21 ls [.int t0, .ref (h o)]) := by
    intro H locs ls num x1 t0 hw hl hf
    obtain ⟨hz, hf⟩ := nz hf
    refine xput (ws' := (wN h o (t0, num.2.1, num.2.2.1, num.2.2.2.1, num.2.2.2.2.1, num.2.2.2.2.2.1, num.2.2.2.2.2.2.1, num.2.2.2.2.2.2.2.1, num.2.2.2.2.2.2.2.2))) E hw 0 rfl rfl 0 (by decide) inw4 tyX4_ok nmX4 qw195 rfl rfl (xbool hz).1 (xbool hz).2 (Nat.le_of_ble_eq_true rfl) dX4_takeDigit_21 rfl (fun H locs hw => ?_)
    refine lv_aload_n hx hb dX4_takeDigit_24 rfl (lv_at hl 0 rfl) ?_
    refine xget (v := .int num.2.2.2.1) E hw 0 rfl rfl 3 (by decide) inw4 qw199 rfl rfl dX4_takeDigit_25 ?_
    refine lv_if_eq (tgt := 65) hx hb dX4_takeDigit_28 (by decide) (fun c28 => ?_) (fun c28 => ?_)
    · replace hf := ip c28 hf
      refine lv_aload_n hx hb dX4_takeDigit_65 rfl (lv_at hl 0 rfl) ?_
      refine xget (v := .int num.2.2.1) E hw 0 rfl rfl 2 (by decide) inw4 qw198 rfl rfl dX4_takeDigit_66 ?_
      refine lv_if_eq (tgt := 106) hx hb dX4_takeDigit_69 (by decide) (fun c69 => ?_) (fun c69 => ?_)
      · replace hf := ip c69 hf
        refine lv_aload_n hx hb dX4_takeDigit_106 rfl (lv_at hl 0 rfl) ?_
        refine lv_aload_n hx hb dX4_takeDigit_107 rfl (lv_at hl 0 rfl) ?_
        refine xget (v := .long num.2.2.2.2.1) E hw 0 rfl rfl 4 (by decide) inw4 qw200 rfl rfl dX4_takeDigit_108 ?_
        refine lv_aload_n hx hb dX4_takeDigit_111 rfl (lv_at hl 0 rfl) ?_
        refine xget (v := .int num.2.1) E hw 0 rfl rfl 1 (by decide) inw4 qw197 rfl rfl dX4_takeDigit_112 ?_
        refine lv_i2l hx hb dX4_takeDigit_115 rfl ?_
        refine lv_lmul hx hb dX4_takeDigit_116 ?_
        refine lv_iload_n hx hb dX4_takeDigit_117 rfl (lv_at hl 1 rfl) ?_
        refine lv_i2l hx hb dX4_takeDigit_118 rfl ?_
        refine lv_ladd hx hb dX4_takeDigit_119 ?_
        refine xput (ws' := (wN h o (t0, num.2.1, num.2.2.1, num.2.2.2.1, (num.2.2.2.2.1 * num.2.1.toInt64) + x1.toInt64, num.2.2.2.2.2.1, num.2.2.2.2.2.2.1, num.2.2.2.2.2.2.2.1, num.2.2.2.2.2.2.2.2))) E hw 0 rfl rfl 4 (by decide) inw4 tyX4_ok nmX4 qw200 rfl rfl rfl rfl (Nat.le_of_ble_eq_true rfl) dX4_takeDigit_120 rfl (fun H locs hw => ?_)
        exact hret _ _ _ _ _ (Option.some.inj hf) dX4_takeDigit_123 hw
      · replace hf := iq c69 hf
        refine lv_aload_n hx hb dX4_takeDigit_72 rfl (lv_at hl 0 rfl) ?_
        refine lv_aload_n hx hb dX4_takeDigit_73 rfl (lv_at hl 0 rfl) ?_
        refine xget (v := .long num.2.2.2.2.2.1) E hw 0 rfl rfl 5 (by decide) inw4 qw201 rfl rfl dX4_takeDigit_74 ?_
        refine lv_aload_n hx hb dX4_takeDigit_77 rfl (lv_at hl 0 rfl) ?_
        refine xget (v := .int num.2.1) E hw 0 rfl rfl 1 (by decide) inw4 qw197 rfl rfl dX4_takeDigit_78 ?_
        refine lv_i2l hx hb dX4_takeDigit_81 rfl ?_
        refine lv_lmul hx hb dX4_takeDigit_82 ?_
        refine lv_iload_n hx hb dX4_takeDigit_83 rfl (lv_at hl 1 rfl) ?_
        refine lv_i2l hx hb dX4_takeDigit_84 rfl ?_
        refine lv_ladd hx hb dX4_takeDigit_85 ?_
        refine xput (ws' := (wN h o (t0, num.2.1, num.2.2.1, num.2.2.2.1, num.2.2.2.2.1, (num.2.2.2.2.2.1 * num.2.1.toInt64) + x1.toInt64, num.2.2.2.2.2.2.1, num.2.2.2.2.2.2.2.1, num.2.2.2.2.2.2.2.2))) E hw 0 rfl rfl 5 (by decide) inw4 tyX4_ok nmX4 qw201 rfl rfl rfl rfl (Nat.le_of_ble_eq_true rfl) dX4_takeDigit_86 rfl (fun H locs hw => ?_)
        refine lv_aload_n hx hb dX4_takeDigit_89 rfl (lv_at hl 0 rfl) ?_
        refine lv_aload_n hx hb dX4_takeDigit_90 rfl (lv_at hl 0 rfl) ?_
        refine xget (v := .long num.2.2.2.2.2.2.1) E hw 0 rfl rfl 6 (by decide) inw4 qw202 rfl rfl dX4_takeDigit_91 ?_
        refine lv_aload_n hx hb dX4_takeDigit_94 rfl (lv_at hl 0 rfl) ?_
        refine xget (v := .int num.2.1) E hw 0 rfl rfl 1 (by decide) inw4 qw197 rfl rfl dX4_takeDigit_95 ?_
        refine lv_i2l hx hb dX4_takeDigit_98 rfl ?_
        refine lv_lmul hx hb dX4_takeDigit_99 ?_
        refine xput (ws' := (wN h o (t0, num.2.1, num.2.2.1, num.2.2.2.1, num.2.2.2.2.1, (num.2.2.2.2.2.1 * num.2.1.toInt64) + x1.toInt64, num.2.2.2.2.2.2.1 * num.2.1.toInt64, num.2.2.2.2.2.2.2.1, num.2.2.2.2.2.2.2.2))) E hw 0 rfl rfl 6 (by decide) inw4 tyX4_ok nmX4 qw202 rfl rfl rfl rfl (Nat.le_of_ble_eq_true rfl) dX4_takeDigit_100 rfl (fun H locs hw => ?_)
        refine lv_goto (tgt := 123) hx hb dX4_takeDigit_103 (by decide) ?_
        exact hret _ _ _ _ _ (Option.some.inj hf) dX4_takeDigit_123 hw
    · replace hf := iq c28 hf
      refine lv_aload_n hx hb dX4_takeDigit_31 rfl (lv_at hl 0 rfl) ?_
      refine lv_aload_n hx hb dX4_takeDigit_32 rfl (lv_at hl 0 rfl) ?_
      refine xget (v := .long num.2.2.2.2.2.2.2.1) E hw 0 rfl rfl 7 (by decide) inw4 qw203 rfl rfl dX4_takeDigit_33 ?_
      refine lv_aload_n hx hb dX4_takeDigit_36 rfl (lv_at hl 0 rfl) ?_
      refine xget (v := .int num.2.1) E hw 0 rfl rfl 1 (by decide) inw4 qw197 rfl rfl dX4_takeDigit_37 ?_
      refine lv_i2l hx hb dX4_takeDigit_40 rfl ?_
      refine lv_lmul hx hb dX4_takeDigit_41 ?_
      refine lv_iload_n hx hb dX4_takeDigit_42 rfl (lv_at hl 1 rfl) ?_
      refine lv_i2l hx hb dX4_takeDigit_43 rfl ?_
      refine lv_ladd hx hb dX4_takeDigit_44 ?_
      refine xput (ws' := (wN h o (t0, num.2.1, num.2.2.1, num.2.2.2.1, num.2.2.2.2.1, num.2.2.2.2.2.1, num.2.2.2.2.2.2.1, (num.2.2.2.2.2.2.2.1 * num.2.1.toInt64) + x1.toInt64, num.2.2.2.2.2.2.2.2))) E hw 0 rfl rfl 7 (by decide) inw4 tyX4_ok nmX4 qw203 rfl rfl rfl rfl (Nat.le_of_ble_eq_true rfl) dX4_takeDigit_45 rfl (fun H locs hw => ?_)
      refine lv_aload_n hx hb dX4_takeDigit_48 rfl (lv_at hl 0 rfl) ?_
      refine lv_aload_n hx hb dX4_takeDigit_49 rfl (lv_at hl 0 rfl) ?_
      refine xget (v := .long num.2.2.2.2.2.2.2.2) E hw 0 rfl rfl 8 (by decide) inw4 qw204 rfl rfl dX4_takeDigit_50 ?_
      refine lv_aload_n hx hb dX4_takeDigit_53 rfl (lv_at hl 0 rfl) ?_
      refine xget (v := .int num.2.1) E hw 0 rfl rfl 1 (by decide) inw4 qw197 rfl rfl dX4_takeDigit_54 ?_
      refine lv_i2l hx hb dX4_takeDigit_57 rfl ?_
      refine lv_lmul hx hb dX4_takeDigit_58 ?_
      refine xput (ws' := (wN h o (t0, num.2.1, num.2.2.1, num.2.2.2.1, num.2.2.2.2.1, num.2.2.2.2.2.1, num.2.2.2.2.2.2.1, (num.2.2.2.2.2.2.2.1 * num.2.1.toInt64) + x1.toInt64, num.2.2.2.2.2.2.2.2 * num.2.1.toInt64))) E hw 0 rfl rfl 8 (by decide) inw4 tyX4_ok nmX4 qw204 rfl rfl rfl rfl (Nat.le_of_ble_eq_true rfl) dX4_takeDigit_59 rfl (fun H locs hw => ?_)
      refine lv_goto (tgt := 123) hx hb dX4_takeDigit_62 (by decide) ?_
      exact hret _ _ _ _ _ (Option.some.inj hf) dX4_takeDigit_123 hw
  have b16 : ∀ (H : Heap) (locs : List Loc) (ls : Array Slot) (num : NC) (x1 : Int32), xW g A s.heap (wN h o num) H locs → lv_has ls 2 [(0, .ref (h o)), (1, .int x1)] → f_X4_takeDigit_b16 num x1 = some out → W p l e { frames := 0, cells := 0, slots := 0, locals := 0 } s m [.ref (h o), .int a1].toArray below meth c H locs 0 0 ZZ (F0 m 16 ls [.ref (h o)]) := by
    intro H locs ls num x1 hw hl hf
    refine lv_iconst (v := 1) hx hb dX4_takeDigit_16 (by decide) ?_
    refine lv_goto (tgt := 21) hx hb dX4_takeDigit_17 (by decide) ?_
    exact b21 _ _ _ num x1 1 hw (lv_sub hl [0, 1] rfl) hf
  refine lv_aload_n hx hb dX4_takeDigit_0 rfl (lv_at hl 0 rfl) ?_
  refine lv_aload_n hx hb dX4_takeDigit_1 rfl (lv_at hl 0 rfl) ?_
  refine xget (v := .int num.1) E hw 0 rfl rfl 0 (by decide) inw4 qw195 rfl rfl dX4_takeDigit_2 ?_
  refine lv_if_ne (tgt := 16) hx hb dX4_takeDigit_5 (by decide) (fun c5 => ?_) (fun c5 => ?_)
  · replace hf := iq c5 hf
    exact b16 _ _ _ num a1 hw (lv_sub hl [0, 1] rfl) hf
  · replace hf := ip c5 hf
    refine lv_iload_n hx hb dX4_takeDigit_8 rfl (lv_at hl 1 rfl) ?_
    refine lv_aload_n hx hb dX4_takeDigit_9 rfl (lv_at hl 0 rfl) ?_
    refine xget (v := .int num.2.1) E hw 0 rfl rfl 1 (by decide) inw4 qw197 rfl rfl dX4_takeDigit_10 ?_
    refine lv_icmp_lt (tgt := 20) hx hb dX4_takeDigit_13 (by decide) (fun c13 => ?_) (fun c13 => ?_)
    · replace hf := ip c13 hf
      refine lv_iconst (v := 0) hx hb dX4_takeDigit_20 (by decide) ?_
      exact b21 _ _ _ num a1 0 hw (lv_sub hl [0, 1] rfl) hf
    · replace hf := iq c13 hf
      exact b16 _ _ _ num a1 hw (lv_sub hl [0, 1] rfl) hf
theorem k_X4_take : xKV yX4_take cX4_take 2 none 1 := ⟨qw844, qw845, qw72, qw846, by decide +kernel, by decide +kernel, by decide +kernel⟩
set_option maxHeartbeats 4000000 in
set_option maxRecDepth 100000 in
theorem met_X4_take (l : Launch) (g : xG) (h : Nat → Nat) (o : Nat) (num : NC) (a1 : Int32) (out : NC) (hf : f_X4_take num a1 = some out) : xM l yX4_take (xC yX4_take cX4_take 2 none) { frames := 1, cells := 0, slots := 0, locals := 21 } g (wN h o num) [.ref (h o), .int a1] none (wN h o out) := by
  refine xof (by decide) (Nat.le_of_ble_eq_true rfl) ⟨rfl, rfl⟩ ?_
  intro p e s m below meth c A ls E hr hlocks hw hl hpost hAe
  have hx := E.1.1
  have hb := E.1.2.1
  have hown := E.1.2.2.2.1
  have hts := E.1.2.2.2.2
  generalize hZ : (MQ below (xPost g (wN h o num) (wN h o out) s.heap.size none) [.ref (h o), .int a1].toArray s 0 0 A) = ZZ
  have hret : ∀ (pc : Nat) (H : Heap) (locs : List Loc) (ls : Array Slot) (cnum : NC), cnum = out → decode cX4_take pc = .ok (.return_, 1) → xW g A s.heap (wN h o cnum) H locs → W p l e { frames := 1, cells := 0, slots := 0, locals := 21 } s m [.ref (h o), .int a1].toArray below meth c H locs 0 0 ZZ (F0 m pc ls []) := by
    intro pc H locs ls cnum he hd hw
    subst he
    rw [← hZ]
    exact W.vret hx hb hr (hpost H locs hw).1 (hpost H locs hw).2 hd hlocks
  clear hpost
  refine lv_iload_n hx hb dX4_take_0 rfl (lv_at hl 1 rfl) ?_
  refine lv_bipush (v := 46) hx hb dX4_take_1 (by decide) ?_
  refine lv_icmp_ne (tgt := 14) hx hb dX4_take_3 (by decide) (fun c3 => ?_) (fun c3 => ?_)
  · replace hf := iq c3 hf
    refine lv_iload_n hx hb dX4_take_14 rfl (lv_at hl 1 rfl) ?_
    refine lv_bipush (v := 40) hx hb dX4_take_15 (by decide) ?_
    refine lv_icmp_ne (tgt := 28) hx hb dX4_take_17 (by decide) (fun c17 => ?_) (fun c17 => ?_)
    · replace hf := iq c17 hf
      refine lv_iload_n hx hb dX4_take_28 rfl (lv_at hl 1 rfl) ?_
      refine lv_bipush (v := 41) hx hb dX4_take_29 (by decide) ?_
      refine lv_icmp_eq (tgt := 42) hx hb dX4_take_31 (by decide) (fun c31 => ?_) (fun c31 => ?_)
      · replace hf := ip c31 hf
        exact hret _ _ _ _ _ (Option.some.inj hf) dX4_take_42 hw
      · replace hf := iq c31 hf
        refine lv_aload_n hx hb dX4_take_34 rfl (lv_at hl 0 rfl) ?_
        refine lv_iload_n hx hb dX4_take_35 rfl (lv_at hl 1 rfl) ?_
        obtain ⟨v36, hv36, hf⟩ := ob_e hf
        refine xcallS (ws' := (wN h o num)) (st1 := [.int v36, .ref (h o)]) (n := 1) E hw [.int a1] [] (met_X8_digitOf l g a1 v36 hv36) rfl (by decide) rfl rfl [0] rfl (by decide +kernel) rfl qw847 k_X8_digitOf ⟨rfl, rfl, Nat.le_of_ble_eq_true rfl, Nat.le_of_ble_eq_true rfl⟩ ⟨Nat.zero_le _, Nat.zero_le _⟩ hl.1 (Nat.le_of_ble_eq_true rfl) dX4_take_36 rfl (fun H locs hw => ?_)
        obtain ⟨v39, hv39, hf⟩ := ob_e hf
        refine xcallV (ws' := (wN h o v39)) (st1 := []) (n := 1) E hw [.int v36] [0] (met_X4_takeDigit l g h o num v36 v39 hv39) rfl (by decide) rfl rfl [1] rfl (by decide +kernel) rfl rfl rfl rfl qw848 k_X4_takeDigit ⟨rfl, rfl, Nat.le_of_ble_eq_true rfl, Nat.le_of_ble_eq_true rfl⟩ ⟨Nat.zero_le _, Nat.zero_le _⟩ hl.1 (Nat.le_of_ble_eq_true rfl) dX4_take_39 rfl (fun H locs hw => ?_)
        exact hret _ _ _ _ _ (Option.some.inj hf) dX4_take_42 hw
    · replace hf := ip c17 hf
      refine lv_aload_n hx hb dX4_take_20 rfl (lv_at hl 0 rfl) ?_
      refine lv_iconst (v := 1) hx hb dX4_take_21 (by decide) ?_
      refine xput (ws' := (wN h o (num.1, num.2.1, num.2.2.1, 1, num.2.2.2.2.1, num.2.2.2.2.2.1, num.2.2.2.2.2.2.1, num.2.2.2.2.2.2.2.1, num.2.2.2.2.2.2.2.2))) E hw 0 rfl rfl 3 (by decide) inw4 tyX4_ok nmX4 qw199 rfl rfl (by decide) (by decide) (Nat.le_of_ble_eq_true rfl) dX4_take_22 rfl (fun H locs hw => ?_)
      refine lv_goto (tgt := 42) hx hb dX4_take_25 (by decide) ?_
      exact hret _ _ _ _ _ (Option.some.inj hf) dX4_take_42 hw
  · replace hf := ip c3 hf
    refine lv_aload_n hx hb dX4_take_6 rfl (lv_at hl 0 rfl) ?_
    refine lv_iconst (v := 1) hx hb dX4_take_7 (by decide) ?_
    refine xput (ws' := (wN h o (num.1, num.2.1, 1, num.2.2.2.1, num.2.2.2.2.1, num.2.2.2.2.2.1, num.2.2.2.2.2.2.1, num.2.2.2.2.2.2.2.1, num.2.2.2.2.2.2.2.2))) E hw 0 rfl rfl 2 (by decide) inw4 tyX4_ok nmX4 qw198 rfl rfl (by decide) (by decide) (Nat.le_of_ble_eq_true rfl) dX4_take_8 rfl (fun H locs hw => ?_)
    refine lv_goto (tgt := 42) hx hb dX4_take_11 (by decide) ?_
    exact hret _ _ _ _ _ (Option.some.inj hf) dX4_take_42 hw
theorem k_X4_putInto : xKV yX4_putInto cX4_putInto 4 none 1 := ⟨qw853, qw854, qw72, qw855, by decide +kernel, by decide +kernel, by decide +kernel⟩
set_option maxHeartbeats 4000000 in
set_option maxRecDepth 100000 in
theorem met_X4_putInto (l : Launch) (g : xG) (h : Nat → Nat) (o : Nat) (o2 : Nat) (num : NC) (r : RC) (out : RC) (hf : f_X4_putInto num r = some out) : xM l yX4_putInto (xC yX4_putInto cX4_putInto 4 none) { frames := 2, cells := 0, slots := 0, locals := 56 } g (wN h o num ++ wR h o2 r) [.ref (h o), .ref (h o2)] none (wN h o num ++ wR h o2 out) := by
  refine xof (by decide) (Nat.le_of_ble_eq_true rfl) ⟨rfl, rfl⟩ ?_
  intro p e s m below meth c A ls E hr hlocks hw hl hpost hAe
  have hx := E.1.1
  have hb := E.1.2.1
  have hown := E.1.2.2.2.1
  have hts := E.1.2.2.2.2
  generalize hZ : (MQ below (xPost g (wN h o num ++ wR h o2 r) (wN h o num ++ wR h o2 out) s.heap.size none) [.ref (h o), .ref (h o2)].toArray s 0 0 A) = ZZ
  have hret : ∀ (pc : Nat) (H : Heap) (locs : List Loc) (ls : Array Slot) (cr : RC), cr = out → decode cX4_putInto pc = .ok (.return_, 1) → xW g A s.heap (wN h o num ++ wR h o2 cr) H locs → W p l e { frames := 2, cells := 0, slots := 0, locals := 56 } s m [.ref (h o), .ref (h o2)].toArray below meth c H locs 0 0 ZZ (F0 m pc ls []) := by
    intro pc H locs ls cr he hd hw
    subst he
    rw [← hZ]
    exact W.vret hx hb hr (hpost H locs hw).1 (hpost H locs hw).2 hd hlocks
  clear hpost
  have b50 : ∀ (H : Heap) (locs : List Loc) (ls : Array Slot) (r : RC), xW g A s.heap (wN h o num ++ wR h o2 r) H locs → lv_has ls 4 [(0, .ref (h o)), (1, .ref (h o2))] → f_X4_putInto_b50 num r = some out → W p l e { frames := 2, cells := 0, slots := 0, locals := 56 } s m [.ref (h o), .ref (h o2)].toArray below meth c H locs 0 0 ZZ (F0 m 50 ls []) := by
    intro H locs ls r hw hl hf
    refine lv_aload_n hx hb dX4_putInto_50 rfl (lv_at hl 1 rfl) ?_
    refine xget (v := .long r.2) E hw 1 rfl rfl 1 (by decide) inw6 qw182 rfl rfl dX4_putInto_51 ?_
    refine lv_ldc2 hx hb hown (hts _ qw857) dX4_putInto_54 ?_
    refine xlc_gt (tgt := 83) hx hb dX4_putInto_57 dX4_putInto_58 (by decide) (fun c57 => ?_) (fun c57 => ?_)
    · replace hf := ip c57 hf
      exact hret _ _ _ _ _ (Option.some.inj hf) dX4_putInto_83 hw
    · replace hf := iq c57 hf
      refine lv_aload_n hx hb dX4_putInto_61 rfl (lv_at hl 1 rfl) ?_
      refine lv_aload_n hx hb dX4_putInto_62 rfl (lv_at hl 0 rfl) ?_
      refine xget (v := .long num.2.2.2.2.1) E hw 0 rfl rfl 4 (by decide) inw4 qw200 rfl rfl dX4_putInto_63 ?_
      refine lv_aload_n hx hb dX4_putInto_66 rfl (lv_at hl 1 rfl) ?_
      refine xget (v := .long r.2) E hw 1 rfl rfl 1 (by decide) inw6 qw182 rfl rfl dX4_putInto_67 ?_
      refine lv_lmul hx hb dX4_putInto_70 ?_
      refine lv_aload_n hx hb dX4_putInto_71 rfl (lv_at hl 1 rfl) ?_
      refine xget (v := .long r.1) E hw 1 rfl rfl 0 (by decide) inw6 qw178 rfl rfl dX4_putInto_72 ?_
      refine lv_ladd hx hb dX4_putInto_75 ?_
      refine lv_aload_n hx hb dX4_putInto_76 rfl (lv_at hl 1 rfl) ?_
      refine xget (v := .long r.2) E hw 1 rfl rfl 1 (by decide) inw6 qw182 rfl rfl dX4_putInto_77 ?_
      obtain ⟨v80, hv80, hf⟩ := ob_e hf
      refine xcallV (ws' := (wN h o num ++ wR h o2 v80)) (st1 := []) (n := 2) E hw [.long ((num.2.2.2.2.1 * r.2) + r.1), .long r.2] [1] (met_X6_put l g h o2 r ((num.2.2.2.2.1 * r.2) + r.1) r.2 v80 hv80) rfl (by decide) rfl rfl [0, 2] rfl (by decide +kernel) rfl rfl rfl rfl qw856 k_X6_put ⟨rfl, rfl, Nat.le_of_ble_eq_true rfl, Nat.le_of_ble_eq_true rfl⟩ ⟨Nat.zero_le _, Nat.zero_le _⟩ hl.1 (Nat.le_of_ble_eq_true rfl) dX4_putInto_80 rfl (fun H locs hw => ?_)
      exact hret _ _ _ _ _ (Option.some.inj hf) dX4_putInto_83 hw
  refine lv_aload_n hx hb dX4_putInto_0 rfl (lv_at hl 0 rfl) ?_
  refine xget (v := .int num.2.2.2.1) E hw 0 rfl rfl 3 (by decide) inw4 qw199 rfl rfl dX4_putInto_1 ?_
  refine lv_if_eq (tgt := 38) hx hb dX4_putInto_4 (by decide) (fun c4 => ?_) (fun c4 => ?_)
  · replace hf := ip c4 hf
    refine lv_aload_n hx hb dX4_putInto_38 rfl (lv_at hl 1 rfl) ?_
    refine lv_aload_n hx hb dX4_putInto_39 rfl (lv_at hl 0 rfl) ?_
    refine xget (v := .long num.2.2.2.2.2.1) E hw 0 rfl rfl 5 (by decide) inw4 qw201 rfl rfl dX4_putInto_40 ?_
    refine lv_aload_n hx hb dX4_putInto_43 rfl (lv_at hl 0 rfl) ?_
    refine xget (v := .long num.2.2.2.2.2.2.1) E hw 0 rfl rfl 6 (by decide) inw4 qw202 rfl rfl dX4_putInto_44 ?_
    obtain ⟨v47, hv47, hf⟩ := ob_e hf
    refine xcallV (ws' := (wN h o num ++ wR h o2 v47)) (st1 := []) (n := 2) E hw [.long num.2.2.2.2.2.1, .long num.2.2.2.2.2.2.1] [1] (met_X6_put l g h o2 r num.2.2.2.2.2.1 num.2.2.2.2.2.2.1 v47 hv47) rfl (by decide) rfl rfl [0, 2] rfl (by decide +kernel) rfl rfl rfl rfl qw856 k_X6_put ⟨rfl, rfl, Nat.le_of_ble_eq_true rfl, Nat.le_of_ble_eq_true rfl⟩ ⟨Nat.zero_le _, Nat.zero_le _⟩ hl.1 (Nat.le_of_ble_eq_true rfl) dX4_putInto_47 rfl (fun H locs hw => ?_)
    exact b50 _ _ _ v47 hw (lv_sub hl [0, 1] rfl) hf
  · replace hf := iq c4 hf
    refine lv_aload_n hx hb dX4_putInto_7 rfl (lv_at hl 0 rfl) ?_
    refine xget (v := .long num.2.2.2.2.2.2.2.2) E hw 0 rfl rfl 8 (by decide) inw4 qw204 rfl rfl dX4_putInto_8 ?_
    refine lv_lconst (v := 1) hx hb dX4_putInto_11 (by decide) ?_
    refine lv_lsub hx hb dX4_putInto_12 ?_
    refine lv_lstore_n (lv' := [(2, .long (num.2.2.2.2.2.2.2.2 - 1)), (0, .ref (h o)), (1, .ref (h o2))]) hx hb dX4_putInto_13 rfl hl (by decide) rfl (fun ls hl => ?_)
    refine lv_aload_n hx hb dX4_putInto_14 rfl (lv_at hl 2 rfl) ?_
    refine lv_aload_n hx hb dX4_putInto_15 rfl (lv_at hl 1 rfl) ?_
    refine xget (v := .long num.2.2.2.2.2.1) E hw 0 rfl rfl 5 (by decide) inw4 qw201 rfl rfl dX4_putInto_16 ?_
    refine lv_lload_n hx hb dX4_putInto_19 rfl (lv_at hl 0 rfl) ?_
    refine lv_lmul hx hb dX4_putInto_20 ?_
    refine lv_aload_n hx hb dX4_putInto_21 rfl (lv_at hl 1 rfl) ?_
    refine xget (v := .long num.2.2.2.2.2.2.2.1) E hw 0 rfl rfl 7 (by decide) inw4 qw203 rfl rfl dX4_putInto_22 ?_
    refine lv_ladd hx hb dX4_putInto_25 ?_
    refine lv_aload_n hx hb dX4_putInto_26 rfl (lv_at hl 1 rfl) ?_
    refine xget (v := .long num.2.2.2.2.2.2.1) E hw 0 rfl rfl 6 (by decide) inw4 qw202 rfl rfl dX4_putInto_27 ?_
    refine lv_lload_n hx hb dX4_putInto_30 rfl (lv_at hl 0 rfl) ?_
    refine lv_lmul hx hb dX4_putInto_31 ?_
    obtain ⟨v32, hv32, hf⟩ := ob_e hf
    refine xcallV (ws' := (wN h o num ++ wR h o2 v32)) (st1 := []) (n := 2) E hw [.long ((num.2.2.2.2.2.1 * (num.2.2.2.2.2.2.2.2 - 1)) + num.2.2.2.2.2.2.2.1), .long (num.2.2.2.2.2.2.1 * (num.2.2.2.2.2.2.2.2 - 1))] [1] (met_X6_put l g h o2 r ((num.2.2.2.2.2.1 * (num.2.2.2.2.2.2.2.2 - 1)) + num.2.2.2.2.2.2.2.1) (num.2.2.2.2.2.2.1 * (num.2.2.2.2.2.2.2.2 - 1)) v32 hv32) rfl (by decide) rfl rfl [0, 2] rfl (by decide +kernel) rfl rfl rfl rfl qw856 k_X6_put ⟨rfl, rfl, Nat.le_of_ble_eq_true rfl, Nat.le_of_ble_eq_true rfl⟩ ⟨Nat.zero_le _, Nat.zero_le _⟩ hl.1 (Nat.le_of_ble_eq_true rfl) dX4_putInto_32 rfl (fun H locs hw => ?_)
    refine lv_goto (tgt := 50) hx hb dX4_putInto_35 (by decide) ?_
    exact b50 _ _ _ v32 hw (lv_sub hl [1, 2] rfl) hf
