theorem k_X7_takeFrom : xKV yX7_takeFrom cX7_takeFrom 3 none 1 := ⟨qw295, qw296, qw14, qw297, by decide +kernel, by decide +kernel, by decide +kernel⟩
set_option maxHeartbeats 4000000 in
set_option maxRecDepth 100000 in
theorem met_X7_takeFrom (l : Launch) (g : xG) (h : Nat → Nat) (o : Nat) (o2 : Nat) (x : SC) (xo : SC) (out : SC) (hf : f_X7_takeFrom x xo = some out) : xM l yX7_takeFrom (xC yX7_takeFrom cX7_takeFrom 3 none) { frames := 0, cells := 0, slots := 0, locals := 0 } g (wS g h o x ++ wS g h o2 xo) [.ref (h o), .ref (h o2)] none (wS g h o out ++ wS g h o2 xo) := by
  refine xof (by decide) (Nat.le_of_ble_eq_true rfl) ⟨rfl, rfl⟩ ?_
  intro p e s m below meth c A ls E hr hlocks hw hl hpost hAe
  have hx := E.1.1
  have hb := E.1.2.1
  have hown := E.1.2.2.2.1
  have hts := E.1.2.2.2.2
  generalize hZ : (MQ below (xPost g (wS g h o x ++ wS g h o2 xo) (wS g h o out ++ wS g h o2 xo) s.heap.size none) [.ref (h o), .ref (h o2)].toArray s 0 0 A) = ZZ
  have hret : ∀ (pc : Nat) (H : Heap) (locs : List Loc) (ls : Array Slot) (cx : SC), cx = out → decode cX7_takeFrom pc = .ok (.return_, 1) → xW g A s.heap (wS g h o cx ++ wS g h o2 xo) H locs → W p l e { frames := 0, cells := 0, slots := 0, locals := 0 } s m [.ref (h o), .ref (h o2)].toArray below meth c H locs 0 0 ZZ (F0 m pc ls []) := by
    intro pc H locs ls cx he hd hw
    subst he
    rw [← hZ]
    exact W.vret hx hb hr (hpost H locs hw).1 (hpost H locs hw).2 hd hlocks
  clear hpost
  have b26 : ∀ n26 : Nat, ∀ (H : Heap) (locs : List Loc) (ls : Array Slot) (x : SC) (x2 : Int32), xW g A s.heap (wS g h o x ++ wS g h o2 xo) H locs → lv_has ls 3 [(0, .ref (h o)), (1, .ref (h o2)), (2, .int x2)] → f_X7_takeFrom_b26 n26 x xo x2 = some out → W p l e { frames := 0, cells := 0, slots := 0, locals := 0 } s m [.ref (h o), .ref (h o2)].toArray below meth c H locs 0 0 ZZ (F0 m 26 ls []) := by
    intro n26
    induction n26 with
    | zero =>
      intro H locs ls x x2 hw hl hf
      exact nn hf
    | succ n26 ih26 =>
      intro H locs ls x x2 hw hl hf
      refine lv_iload_n hx hb dX7_takeFrom_26 rfl (lv_at hl 2 rfl) ?_
      refine lv_bipush (v := 6) hx hb dX7_takeFrom_27 (by decide) ?_
      refine lv_icmp_ge (tgt := 62) hx hb dX7_takeFrom_29 (by decide) (fun c29 => ?_) (fun c29 => ?_)
      · replace hf := ip c29 hf
        exact hret _ _ _ _ _ (Option.some.inj hf) dX7_takeFrom_62 hw
      · replace hf := iq c29 hf
        refine lv_aload_n hx hb dX7_takeFrom_32 rfl (lv_at hl 0 rfl) ?_
        refine xget (v := .ref (h (o + 1))) E hw 0 rfl rfl 3 (by decide) inw7 qw51 rfl rfl dX7_takeFrom_33 ?_
        refine lv_iload_n hx hb dX7_takeFrom_36 rfl (lv_at hl 2 rfl) ?_
        refine lv_aload_n hx hb dX7_takeFrom_37 rfl (lv_at hl 1 rfl) ?_
        refine xget (v := .ref (h (o2 + 1))) E hw 3 rfl rfl 3 (by decide) inw7 qw51 rfl rfl dX7_takeFrom_38 ?_
        refine lv_iload_n hx hb dX7_takeFrom_41 rfl (lv_at hl 2 rfl) ?_
        obtain ⟨hz, hf⟩ := nz hf
        refine xiald E hw 4 rfl hz dX7_takeFrom_42 ?_
        obtain ⟨hz, hf⟩ := nz hf
        refine xiast (ws' := (wS g h o (x.1, x.2.1, x.2.2.1, (upd x.2.2.2.1 x2.toNatClampNeg (xo.2.2.2.1 x2.toNatClampNeg)), x.2.2.2.2) ++ wS g h o2 xo)) E hw 1 rfl hz dX7_takeFrom_43 rfl (fun H locs hw => ?_)
        refine lv_aload_n hx hb dX7_takeFrom_44 rfl (lv_at hl 0 rfl) ?_
        refine xget (v := .ref (h (o + 2))) E hw 0 rfl rfl 4 (by decide) inw7 qw52 rfl rfl dX7_takeFrom_45 ?_
        refine lv_iload_n hx hb dX7_takeFrom_48 rfl (lv_at hl 2 rfl) ?_
        refine lv_aload_n hx hb dX7_takeFrom_49 rfl (lv_at hl 1 rfl) ?_
        refine xget (v := .ref (h (o2 + 2))) E hw 3 rfl rfl 4 (by decide) inw7 qw52 rfl rfl dX7_takeFrom_50 ?_
        refine lv_iload_n hx hb dX7_takeFrom_53 rfl (lv_at hl 2 rfl) ?_
        obtain ⟨hz, hf⟩ := nz hf
        refine xiald E hw 5 rfl hz dX7_takeFrom_54 ?_
        obtain ⟨hz, hf⟩ := nz hf
        refine xiast (ws' := (wS g h o (x.1, x.2.1, x.2.2.1, (upd x.2.2.2.1 x2.toNatClampNeg (xo.2.2.2.1 x2.toNatClampNeg)), (upd x.2.2.2.2 x2.toNatClampNeg (xo.2.2.2.2 x2.toNatClampNeg))) ++ wS g h o2 xo)) E hw 2 rfl hz dX7_takeFrom_55 rfl (fun H locs hw => ?_)
        refine lv_iinc (v := x2 + 1) (lv' := [(2, .int (x2 + 1)), (0, .ref (h o)), (1, .ref (h o2))]) hx hb dX7_takeFrom_56 hl (k := 2) rfl rfl (by decide) rfl (fun ls hl => ?_)
        refine lv_goto (tgt := 26) hx hb dX7_takeFrom_59 (by decide) ?_
        exact ih26 _ _ _ (x.1, x.2.1, x.2.2.1, (upd x.2.2.2.1 x2.toNatClampNeg (xo.2.2.2.1 x2.toNatClampNeg)), (upd x.2.2.2.2 x2.toNatClampNeg (xo.2.2.2.2 x2.toNatClampNeg))) (x2 + 1) hw (lv_sub hl [1, 2, 0] rfl) hf
  refine lv_aload_n hx hb dX7_takeFrom_0 rfl (lv_at hl 0 rfl) ?_
  refine lv_aload_n hx hb dX7_takeFrom_1 rfl (lv_at hl 1 rfl) ?_
  refine xget (v := .int xo.1) E hw 3 rfl rfl 0 (by decide) inw7 qw45 rfl rfl dX7_takeFrom_2 ?_
  refine xput (ws' := (wS g h o (xo.1, x.2.1, x.2.2.1, x.2.2.2.1, x.2.2.2.2) ++ wS g h o2 xo)) E hw 0 rfl rfl 0 (by decide) inw7 tyX7_ok nmX7 qw45 rfl rfl rfl rfl (Nat.le_of_ble_eq_true rfl) dX7_takeFrom_5 rfl (fun H locs hw => ?_)
  refine lv_aload_n hx hb dX7_takeFrom_8 rfl (lv_at hl 0 rfl) ?_
  refine lv_aload_n hx hb dX7_takeFrom_9 rfl (lv_at hl 1 rfl) ?_
  refine xget (v := .int xo.2.1) E hw 3 rfl rfl 1 (by decide) inw7 qw47 rfl rfl dX7_takeFrom_10 ?_
  refine xput (ws' := (wS g h o (xo.1, xo.2.1, x.2.2.1, x.2.2.2.1, x.2.2.2.2) ++ wS g h o2 xo)) E hw 0 rfl rfl 1 (by decide) inw7 tyX7_ok nmX7 qw47 rfl rfl rfl rfl (Nat.le_of_ble_eq_true rfl) dX7_takeFrom_13 rfl (fun H locs hw => ?_)
  refine lv_aload_n hx hb dX7_takeFrom_16 rfl (lv_at hl 0 rfl) ?_
  refine lv_aload_n hx hb dX7_takeFrom_17 rfl (lv_at hl 1 rfl) ?_
  refine xget (v := .int xo.2.2.1) E hw 3 rfl rfl 2 (by decide) inw7 qw49 rfl rfl dX7_takeFrom_18 ?_
  refine xput (ws' := (wS g h o (xo.1, xo.2.1, xo.2.2.1, x.2.2.2.1, x.2.2.2.2) ++ wS g h o2 xo)) E hw 0 rfl rfl 2 (by decide) inw7 tyX7_ok nmX7 qw49 rfl rfl rfl rfl (Nat.le_of_ble_eq_true rfl) dX7_takeFrom_21 rfl (fun H locs hw => ?_)
  refine lv_iconst (v := 0) hx hb dX7_takeFrom_24 (by decide) ?_
  refine lv_istore_n (lv' := [(2, .int 0), (0, .ref (h o)), (1, .ref (h o2))]) hx hb dX7_takeFrom_25 rfl hl (by decide) rfl (fun ls hl => ?_)
  exact b26 xfuel _ _ _ (xo.1, xo.2.1, xo.2.2.1, x.2.2.2.1, x.2.2.2.2) 0 hw (lv_sub hl [1, 2, 0] rfl) hf
theorem k_X6_put : xKV yX6_put cX6_put 7 none 2 := ⟨qw478, qw479, qw18, qw480, by decide +kernel, by decide +kernel, by decide +kernel⟩
set_option maxHeartbeats 4000000 in
set_option maxRecDepth 100000 in
theorem met_X6_put (l : Launch) (g : xG) (h : Nat → Nat) (o : Nat) (r : RC) (a1 : Int64) (a2 : Int64) (out : RC) (hf : f_X6_put r a1 a2 = some out) : xM l yX6_put (xC yX6_put cX6_put 7 none) { frames := 1, cells := 0, slots := 0, locals := 30 } g (wR h o r) [.ref (h o), .long a1, .long a2] none (wR h o out) := by
  refine xof (by decide) (Nat.le_of_ble_eq_true rfl) ⟨rfl, rfl⟩ ?_
  intro p e s m below meth c A ls E hr hlocks hw hl hpost hAe
  have hx := E.1.1
  have hb := E.1.2.1
  have hown := E.1.2.2.2.1
  have hts := E.1.2.2.2.2
  generalize hZ : (MQ below (xPost g (wR h o r) (wR h o out) s.heap.size none) [.ref (h o), .long a1, .long a2].toArray s 0 0 A) = ZZ
  have hret : ∀ (pc : Nat) (H : Heap) (locs : List Loc) (ls : Array Slot) (cr : RC), cr = out → decode cX6_put pc = .ok (.return_, 1) → xW g A s.heap (wR h o cr) H locs → W p l e { frames := 1, cells := 0, slots := 0, locals := 30 } s m [.ref (h o), .long a1, .long a2].toArray below meth c H locs 0 0 ZZ (F0 m pc ls []) := by
    intro pc H locs ls cr he hd hw
    subst he
    rw [← hZ]
    exact W.vret hx hb hr (hpost H locs hw).1 (hpost H locs hw).2 hd hlocks
  clear hpost
  refine lv_lload_n hx hb dX6_put_0 rfl (lv_at hl 1 rfl) ?_
  refine xlabs E hl.1 qw481 qw482 qw30 qw483 ⟨Nat.le_of_ble_eq_true rfl, Nat.le_of_ble_eq_true rfl⟩ ⟨Nat.zero_le _, Nat.zero_le _⟩ dX6_put_1 ?_
  refine lv_lload_n hx hb dX6_put_4 rfl (lv_at hl 2 rfl) ?_
  obtain ⟨v5, hv5, hf⟩ := ob_e hf
  refine xcallS (ws' := (wR h o r)) (st1 := [.long v5]) (n := 1) E hw [.long (if 0 < a1 then a1 else -a1), .long a2] [] (met_X5_greatestCommon l g (if 0 < a1 then a1 else -a1) a2 v5 hv5) rfl (by decide) rfl rfl [0] rfl (by decide +kernel) rfl qw484 k_X5_greatestCommon ⟨rfl, rfl, Nat.le_of_ble_eq_true rfl, Nat.le_of_ble_eq_true rfl⟩ ⟨Nat.zero_le _, Nat.zero_le _⟩ hl.1 (Nat.le_of_ble_eq_true rfl) dX6_put_5 rfl (fun H locs hw => ?_)
  refine lv_lstore (lv' := [(5, .long v5), (0, .ref (h o)), (1, .long a1), (3, .long a2)]) hx hb dX6_put_8 hl (by decide) rfl (fun ls hl => ?_)
  refine lv_aload_n hx hb dX6_put_10 rfl (lv_at hl 1 rfl) ?_
  refine lv_lload_n hx hb dX6_put_11 rfl (lv_at hl 2 rfl) ?_
  refine lv_lload hx hb dX6_put_12 (lv_at hl 0 rfl) ?_
  obtain ⟨v14, hv14, hf⟩ := ob_e hf
  refine xcallS (ws' := (wR h o r)) (st1 := [.long v14, .ref (h o)]) (n := 1) E hw [.long a1, .long v5] [] (met_X5_quotient l g a1 v5 v14 hv14) rfl (by decide) rfl rfl [0] rfl (by decide +kernel) rfl qw485 k_X5_quotient ⟨rfl, rfl, Nat.le_of_ble_eq_true rfl, Nat.le_of_ble_eq_true rfl⟩ ⟨Nat.zero_le _, Nat.zero_le _⟩ hl.1 (Nat.le_of_ble_eq_true rfl) dX6_put_14 rfl (fun H locs hw => ?_)
  refine xput (ws' := (wR h o (v14, r.2))) E hw 0 rfl rfl 0 (by decide) inw6 tyX6_ok nmX6 qw120 rfl rfl rfl rfl (Nat.le_of_ble_eq_true rfl) dX6_put_17 rfl (fun H locs hw => ?_)
  refine lv_aload_n hx hb dX6_put_20 rfl (lv_at hl 1 rfl) ?_
  refine lv_lload_n hx hb dX6_put_21 rfl (lv_at hl 3 rfl) ?_
  refine lv_lload hx hb dX6_put_22 (lv_at hl 0 rfl) ?_
  obtain ⟨v24, hv24, hf⟩ := ob_e hf
  refine xcallS (ws' := (wR h o (v14, r.2))) (st1 := [.long v24, .ref (h o)]) (n := 1) E hw [.long a2, .long v5] [] (met_X5_quotient l g a2 v5 v24 hv24) rfl (by decide) rfl rfl [0] rfl (by decide +kernel) rfl qw485 k_X5_quotient ⟨rfl, rfl, Nat.le_of_ble_eq_true rfl, Nat.le_of_ble_eq_true rfl⟩ ⟨Nat.zero_le _, Nat.zero_le _⟩ hl.1 (Nat.le_of_ble_eq_true rfl) dX6_put_24 rfl (fun H locs hw => ?_)
  refine xput (ws' := (wR h o (v14, v24))) E hw 0 rfl rfl 1 (by decide) inw6 tyX6_ok nmX6 qw123 rfl rfl rfl rfl (Nat.le_of_ble_eq_true rfl) dX6_put_27 rfl (fun H locs hw => ?_)
  exact hret _ _ _ _ _ (Option.some.inj hf) dX6_put_30 hw
theorem k_X6_reasonAgainst : xKV yX6_reasonAgainst cX6_reasonAgainst 1 (some .int) 0 := ⟨qw516, qw517, qw18, qw518, by decide +kernel, by decide +kernel, by decide +kernel⟩
set_option maxHeartbeats 4000000 in
set_option maxRecDepth 100000 in
theorem met_X6_reasonAgainst (l : Launch) (g : xG) (h : Nat → Nat) (o : Nat) (r : RC) (out : Int32) (hf : f_X6_reasonAgainst r = some out) : xM l yX6_reasonAgainst (xC yX6_reasonAgainst cX6_reasonAgainst 1 (some .int)) { frames := 0, cells := 0, slots := 0, locals := 0 } g (wR h o r) [.ref (h o)] (some (.int out)) (wR h o r) := by
  refine xof (by decide) (Nat.le_of_ble_eq_true rfl) ⟨rfl, rfl⟩ ?_
  intro p e s m below meth c A ls E hr hlocks hw hl hpost hAe
  have hx := E.1.1
  have hb := E.1.2.1
  have hown := E.1.2.2.2.1
  have hts := E.1.2.2.2.2
  generalize hZ : (MQ below (xPost g (wR h o r) (wR h o r) s.heap.size (some (.int out))) [.ref (h o)].toArray s 0 0 A) = ZZ
  have hret : ∀ (pc : Nat) (H : Heap) (locs : List Loc) (ls : Array Slot) (v : Int32), v = out → decode cX6_reasonAgainst pc = .ok (.ireturn, 1) → xW g A s.heap (wR h o r) H locs → W p l e { frames := 0, cells := 0, slots := 0, locals := 0 } s m [.ref (h o)].toArray below meth c H locs 0 0 ZZ (F0 m pc ls [.int v]) := by
    intro pc H locs ls v he hd hw
    subst he
    rw [← hZ]
    exact W.iret hx hb hr (hpost H locs hw).1 (hpost H locs hw).2 hd hlocks
  clear hpost
  have b33 : ∀ (H : Heap) (locs : List Loc) (ls : Array Slot), xW g A s.heap (wR h o r) H locs → lv_has ls 1 [] → f_X6_reasonAgainst_b33 r = some out → W p l e { frames := 0, cells := 0, slots := 0, locals := 0 } s m [.ref (h o)].toArray below meth c H locs 0 0 ZZ (F0 m 33 ls []) := by
    intro H locs ls hw hl hf
    refine lv_iconst (v := 2) hx hb dX6_reasonAgainst_33 (by decide) ?_
    refine lv_goto (tgt := 38) hx hb dX6_reasonAgainst_34 (by decide) ?_
    exact hret _ _ _ _ _ (Option.some.inj hf) dX6_reasonAgainst_38 hw
  refine lv_aload_n hx hb dX6_reasonAgainst_0 rfl (lv_at hl 0 rfl) ?_
  refine xget (v := .long r.1) E hw 0 rfl rfl 0 (by decide) inw6 qw120 rfl rfl dX6_reasonAgainst_1 ?_
  refine lv_lconst (v := 0) hx hb dX6_reasonAgainst_4 (by decide) ?_
  refine xlc_ge (tgt := 11) hx hb dX6_reasonAgainst_5 dX6_reasonAgainst_6 (by decide) (fun c5 => ?_) (fun c5 => ?_)
  · replace hf := iq c5 hf
    refine lv_aload_n hx hb dX6_reasonAgainst_11 rfl (lv_at hl 0 rfl) ?_
    refine xget (v := .long r.1) E hw 0 rfl rfl 0 (by decide) inw6 qw120 rfl rfl dX6_reasonAgainst_12 ?_
    refine lv_ldc2 hx hb hown (hts _ qw519) dX6_reasonAgainst_15 ?_
    refine xlc_gt (tgt := 33) hx hb dX6_reasonAgainst_18 dX6_reasonAgainst_19 (by decide) (fun c18 => ?_) (fun c18 => ?_)
    · replace hf := ip c18 hf
      exact b33 _ _ _  hw (lv_sub hl [] rfl) hf
    · replace hf := iq c18 hf
      refine lv_aload_n hx hb dX6_reasonAgainst_22 rfl (lv_at hl 0 rfl) ?_
      refine xget (v := .long r.2) E hw 0 rfl rfl 1 (by decide) inw6 qw123 rfl rfl dX6_reasonAgainst_23 ?_
      refine lv_ldc2 hx hb hown (hts _ qw520) dX6_reasonAgainst_26 ?_
      refine xlc_le (tgt := 37) hx hb dX6_reasonAgainst_29 dX6_reasonAgainst_30 (by decide) (fun c29 => ?_) (fun c29 => ?_)
      · replace hf := iq c29 hf
        refine lv_iconst (v := 0) hx hb dX6_reasonAgainst_37 (by decide) ?_
        exact hret _ _ _ _ _ (Option.some.inj hf) dX6_reasonAgainst_38 hw
      · replace hf := ip c29 hf
        exact b33 _ _ _  hw (lv_sub hl [] rfl) hf
  · replace hf := ip c5 hf
    refine lv_iconst (v := 3) hx hb dX6_reasonAgainst_9 (by decide) ?_
    exact hret _ _ _ _ _ (Option.some.inj hf) dX6_reasonAgainst_10 hw
theorem k_X7_isAccount : xKS yX7_isAccount cX7_isAccount 1 (some .boolean) 1 := ⟨qw334, qw14, qw335, by decide +kernel, by decide +kernel, by decide +kernel⟩
set_option maxHeartbeats 4000000 in
set_option maxRecDepth 100000 in
theorem met_X7_isAccount (l : Launch) (g : xG) (a0 : Int32) (out : Int32) (hf : f_X7_isAccount a0 = some out) : xM l yX7_isAccount (xC yX7_isAccount cX7_isAccount 1 (some .boolean)) { frames := 0, cells := 0, slots := 0, locals := 0 } g ([] : va_W) [.int a0] (some (.int out)) ([] : va_W) := by
  refine xof (by decide) (Nat.le_of_ble_eq_true rfl) ⟨rfl, rfl⟩ ?_
  intro p e s m below meth c A ls E hr hlocks hw hl hpost hAe
  have hx := E.1.1
  have hb := E.1.2.1
  have hown := E.1.2.2.2.1
  have hts := E.1.2.2.2.2
  generalize hZ : (MQ below (xPost g ([] : va_W) ([] : va_W) s.heap.size (some (.int out))) [.int a0].toArray s 0 0 A) = ZZ
  have hret : ∀ (pc : Nat) (H : Heap) (locs : List Loc) (ls : Array Slot) (v : Int32), narrow .boolean (.int v) = .int v → v = out → decode cX7_isAccount pc = .ok (.ireturn, 1) → xW g A s.heap ([] : va_W) H locs → W p l e { frames := 0, cells := 0, slots := 0, locals := 0 } s m [.int a0].toArray below meth c H locs 0 0 ZZ (F0 m pc ls [.int v]) := by
    intro pc H locs ls v hn he hd hw
    subst he
    rw [← hZ]
    exact W.zret hx hb hr hn (hpost H locs hw).1 (hpost H locs hw).2 hd hlocks
  clear hpost
  refine lv_iload_n hx hb dX7_isAccount_0 rfl (lv_at hl 0 rfl) ?_
  refine lv_if_lt (tgt := 14) hx hb dX7_isAccount_1 (by decide) (fun c1 => ?_) (fun c1 => ?_)
  · replace hf := ip c1 hf
    refine lv_iconst (v := 0) hx hb dX7_isAccount_14 (by decide) ?_
    exact hret _ _ _ _ _ (by decide) (Option.some.inj hf) dX7_isAccount_15 hw
  · replace hf := iq c1 hf
    refine lv_iload_n hx hb dX7_isAccount_4 rfl (lv_at hl 0 rfl) ?_
    refine lv_bipush (v := 6) hx hb dX7_isAccount_5 (by decide) ?_
    refine lv_icmp_ge (tgt := 14) hx hb dX7_isAccount_7 (by decide) (fun c7 => ?_) (fun c7 => ?_)
    · replace hf := ip c7 hf
      refine lv_iconst (v := 0) hx hb dX7_isAccount_14 (by decide) ?_
      exact hret _ _ _ _ _ (by decide) (Option.some.inj hf) dX7_isAccount_15 hw
    · replace hf := iq c7 hf
      refine lv_iconst (v := 1) hx hb dX7_isAccount_10 (by decide) ?_
      refine lv_goto (tgt := 15) hx hb dX7_isAccount_11 (by decide) ?_
      exact hret _ _ _ _ _ (by decide) (Option.some.inj hf) dX7_isAccount_15 hw
theorem k_X7_store : xKV yX7_store cX7_store 3 none 2 := ⟨qw491, qw492, qw14, qw493, by decide +kernel, by decide +kernel, by decide +kernel⟩
set_option maxHeartbeats 4000000 in
set_option maxRecDepth 100000 in
theorem met_X7_store (l : Launch) (g : xG) (h : Nat → Nat) (o : Nat) (o2 : Nat) (x : SC) (r : RC) (a1 : Int32) (out : SC) (hf : f_X7_store x r a1 = some out) : xM l yX7_store (xC yX7_store cX7_store 3 none) { frames := 1, cells := 0, slots := 0, locals := 20 } g (wS g h o x ++ wR h o2 r) [.ref (h o), .int a1, .ref (h o2)] none (wS g h o out ++ wR h o2 r) := by
  refine xof (by decide) (Nat.le_of_ble_eq_true rfl) ⟨rfl, rfl⟩ ?_
  intro p e s m below meth c A ls E hr hlocks hw hl hpost hAe
  have hx := E.1.1
  have hb := E.1.2.1
  have hown := E.1.2.2.2.1
  have hts := E.1.2.2.2.2
  generalize hZ : (MQ below (xPost g (wS g h o x ++ wR h o2 r) (wS g h o out ++ wR h o2 r) s.heap.size none) [.ref (h o), .int a1, .ref (h o2)].toArray s 0 0 A) = ZZ
  have hret : ∀ (pc : Nat) (H : Heap) (locs : List Loc) (ls : Array Slot) (cx : SC), cx = out → decode cX7_store pc = .ok (.return_, 1) → xW g A s.heap (wS g h o cx ++ wR h o2 r) H locs → W p l e { frames := 1, cells := 0, slots := 0, locals := 20 } s m [.ref (h o), .int a1, .ref (h o2)].toArray below meth c H locs 0 0 ZZ (F0 m pc ls []) := by
    intro pc H locs ls cx he hd hw
    subst he
    rw [← hZ]
    exact W.vret hx hb hr (hpost H locs hw).1 (hpost H locs hw).2 hd hlocks
  clear hpost
  refine lv_iload_n hx hb dX7_store_0 rfl (lv_at hl 1 rfl) ?_
  obtain ⟨v1, hv1, hf⟩ := ob_e hf
  refine xcallS (ws' := (wS g h o x ++ wR h o2 r)) (st1 := [.int v1]) (n := 4) E hw [.int a1] [] (met_X7_isAccount l g a1 v1 hv1) rfl (by decide) rfl rfl [0, 1, 2, 3] rfl (by decide +kernel) rfl qw333 k_X7_isAccount ⟨rfl, rfl, Nat.le_of_ble_eq_true rfl, Nat.le_of_ble_eq_true rfl⟩ ⟨Nat.zero_le _, Nat.zero_le _⟩ hl.1 (Nat.le_of_ble_eq_true rfl) dX7_store_1 rfl (fun H locs hw => ?_)
  refine lv_if_eq (tgt := 29) hx hb dX7_store_4 (by decide) (fun c4 => ?_) (fun c4 => ?_)
  · replace hf := ip c4 hf
    exact hret _ _ _ _ _ (Option.some.inj hf) dX7_store_29 hw
  · replace hf := iq c4 hf
    refine lv_aload_n hx hb dX7_store_7 rfl (lv_at hl 0 rfl) ?_
    refine xget (v := .ref (h (o + 1))) E hw 0 rfl rfl 3 (by decide) inw7 qw51 rfl rfl dX7_store_8 ?_
    refine lv_iload_n hx hb dX7_store_11 rfl (lv_at hl 1 rfl) ?_
    refine lv_aload_n hx hb dX7_store_12 rfl (lv_at hl 2 rfl) ?_
    refine xget (v := .long r.1) E hw 3 rfl rfl 0 (by decide) inw6 qw121 rfl rfl dX7_store_13 ?_
    refine lv_l2i hx hb dX7_store_16 rfl ?_
    obtain ⟨hz, hf⟩ := nz hf
    refine xiast (ws' := (wS g h o (x.1, x.2.1, x.2.2.1, (upd x.2.2.2.1 a1.toNatClampNeg r.1.toInt32), x.2.2.2.2) ++ wR h o2 r)) E hw 1 rfl hz dX7_store_17 rfl (fun H locs hw => ?_)
    refine lv_aload_n hx hb dX7_store_18 rfl (lv_at hl 0 rfl) ?_
    refine xget (v := .ref (h (o + 2))) E hw 0 rfl rfl 4 (by decide) inw7 qw52 rfl rfl dX7_store_19 ?_
    refine lv_iload_n hx hb dX7_store_22 rfl (lv_at hl 1 rfl) ?_
    refine lv_aload_n hx hb dX7_store_23 rfl (lv_at hl 2 rfl) ?_
    refine xget (v := .long r.2) E hw 3 rfl rfl 1 (by decide) inw6 qw124 rfl rfl dX7_store_24 ?_
    refine lv_l2i hx hb dX7_store_27 rfl ?_
    obtain ⟨hz, hf⟩ := nz hf
    refine xiast (ws' := (wS g h o (x.1, x.2.1, x.2.2.1, (upd x.2.2.2.1 a1.toNatClampNeg r.1.toInt32), (upd x.2.2.2.2 a1.toNatClampNeg r.2.toInt32)) ++ wR h o2 r)) E hw 2 rfl hz dX7_store_28 rfl (fun H locs hw => ?_)
    exact hret _ _ _ _ _ (Option.some.inj hf) dX7_store_29 hw
theorem k_X7_numeratorOf : xKV yX7_numeratorOf cX7_numeratorOf 2 (some .int) 1 := ⟨qw330, qw331, qw14, qw332, by decide +kernel, by decide +kernel, by decide +kernel⟩
set_option maxHeartbeats 4000000 in
set_option maxRecDepth 100000 in
theorem met_X7_numeratorOf (l : Launch) (g : xG) (h : Nat → Nat) (o : Nat) (x : SC) (a1 : Int32) (out : Int32) (hf : f_X7_numeratorOf x a1 = some out) : xM l yX7_numeratorOf (xC yX7_numeratorOf cX7_numeratorOf 2 (some .int)) { frames := 1, cells := 0, slots := 0, locals := 20 } g (wS g h o x) [.ref (h o), .int a1] (some (.int out)) (wS g h o x) := by
  refine xof (by decide) (Nat.le_of_ble_eq_true rfl) ⟨rfl, rfl⟩ ?_
  intro p e s m below meth c A ls E hr hlocks hw hl hpost hAe
  have hx := E.1.1
  have hb := E.1.2.1
  have hown := E.1.2.2.2.1
  have hts := E.1.2.2.2.2
  generalize hZ : (MQ below (xPost g (wS g h o x) (wS g h o x) s.heap.size (some (.int out))) [.ref (h o), .int a1].toArray s 0 0 A) = ZZ
  have hret : ∀ (pc : Nat) (H : Heap) (locs : List Loc) (ls : Array Slot) (v : Int32), v = out → decode cX7_numeratorOf pc = .ok (.ireturn, 1) → xW g A s.heap (wS g h o x) H locs → W p l e { frames := 1, cells := 0, slots := 0, locals := 20 } s m [.ref (h o), .int a1].toArray below meth c H locs 0 0 ZZ (F0 m pc ls [.int v]) := by
    intro pc H locs ls v he hd hw
    subst he
    rw [← hZ]
    exact W.iret hx hb hr (hpost H locs hw).1 (hpost H locs hw).2 hd hlocks
  clear hpost
  refine lv_iload_n hx hb dX7_numeratorOf_0 rfl (lv_at hl 1 rfl) ?_
  obtain ⟨v1, hv1, hf⟩ := ob_e hf
  refine xcallS (ws' := (wS g h o x)) (st1 := [.int v1]) (n := 3) E hw [.int a1] [] (met_X7_isAccount l g a1 v1 hv1) rfl (by decide) rfl rfl [0, 1, 2] rfl (by decide +kernel) rfl qw333 k_X7_isAccount ⟨rfl, rfl, Nat.le_of_ble_eq_true rfl, Nat.le_of_ble_eq_true rfl⟩ ⟨Nat.zero_le _, Nat.zero_le _⟩ hl.1 (Nat.le_of_ble_eq_true rfl) dX7_numeratorOf_1 rfl (fun H locs hw => ?_)
  refine lv_if_eq (tgt := 16) hx hb dX7_numeratorOf_4 (by decide) (fun c4 => ?_) (fun c4 => ?_)
  · replace hf := ip c4 hf
    refine lv_iconst (v := 0) hx hb dX7_numeratorOf_16 (by decide) ?_
    exact hret _ _ _ _ _ (Option.some.inj hf) dX7_numeratorOf_17 hw
  · replace hf := iq c4 hf
    refine lv_aload_n hx hb dX7_numeratorOf_7 rfl (lv_at hl 0 rfl) ?_
    refine xget (v := .ref (h (o + 1))) E hw 0 rfl rfl 3 (by decide) inw7 qw51 rfl rfl dX7_numeratorOf_8 ?_
    refine lv_iload_n hx hb dX7_numeratorOf_11 rfl (lv_at hl 1 rfl) ?_
    obtain ⟨hz, hf⟩ := nz hf
    refine xiald E hw 1 rfl hz dX7_numeratorOf_12 ?_
    refine lv_goto (tgt := 17) hx hb dX7_numeratorOf_13 (by decide) ?_
    exact hret _ _ _ _ _ (Option.some.inj hf) dX7_numeratorOf_17 hw
theorem k_X7_denominatorOf : xKV yX7_denominatorOf cX7_denominatorOf 2 (some .int) 1 := ⟨qw341, qw342, qw14, qw343, by decide +kernel, by decide +kernel, by decide +kernel⟩
set_option maxHeartbeats 4000000 in
set_option maxRecDepth 100000 in
theorem met_X7_denominatorOf (l : Launch) (g : xG) (h : Nat → Nat) (o : Nat) (x : SC) (a1 : Int32) (out : Int32) (hf : f_X7_denominatorOf x a1 = some out) : xM l yX7_denominatorOf (xC yX7_denominatorOf cX7_denominatorOf 2 (some .int)) { frames := 1, cells := 0, slots := 0, locals := 20 } g (wS g h o x) [.ref (h o), .int a1] (some (.int out)) (wS g h o x) := by
  refine xof (by decide) (Nat.le_of_ble_eq_true rfl) ⟨rfl, rfl⟩ ?_
  intro p e s m below meth c A ls E hr hlocks hw hl hpost hAe
  have hx := E.1.1
  have hb := E.1.2.1
  have hown := E.1.2.2.2.1
  have hts := E.1.2.2.2.2
  generalize hZ : (MQ below (xPost g (wS g h o x) (wS g h o x) s.heap.size (some (.int out))) [.ref (h o), .int a1].toArray s 0 0 A) = ZZ
  have hret : ∀ (pc : Nat) (H : Heap) (locs : List Loc) (ls : Array Slot) (v : Int32), v = out → decode cX7_denominatorOf pc = .ok (.ireturn, 1) → xW g A s.heap (wS g h o x) H locs → W p l e { frames := 1, cells := 0, slots := 0, locals := 20 } s m [.ref (h o), .int a1].toArray below meth c H locs 0 0 ZZ (F0 m pc ls [.int v]) := by
    intro pc H locs ls v he hd hw
    subst he
    rw [← hZ]
    exact W.iret hx hb hr (hpost H locs hw).1 (hpost H locs hw).2 hd hlocks
  clear hpost
  refine lv_iload_n hx hb dX7_denominatorOf_0 rfl (lv_at hl 1 rfl) ?_
  obtain ⟨v1, hv1, hf⟩ := ob_e hf
  refine xcallS (ws' := (wS g h o x)) (st1 := [.int v1]) (n := 3) E hw [.int a1] [] (met_X7_isAccount l g a1 v1 hv1) rfl (by decide) rfl rfl [0, 1, 2] rfl (by decide +kernel) rfl qw333 k_X7_isAccount ⟨rfl, rfl, Nat.le_of_ble_eq_true rfl, Nat.le_of_ble_eq_true rfl⟩ ⟨Nat.zero_le _, Nat.zero_le _⟩ hl.1 (Nat.le_of_ble_eq_true rfl) dX7_denominatorOf_1 rfl (fun H locs hw => ?_)
  refine lv_if_eq (tgt := 16) hx hb dX7_denominatorOf_4 (by decide) (fun c4 => ?_) (fun c4 => ?_)
  · replace hf := ip c4 hf
    refine lv_iconst (v := 1) hx hb dX7_denominatorOf_16 (by decide) ?_
    exact hret _ _ _ _ _ (Option.some.inj hf) dX7_denominatorOf_17 hw
  · replace hf := iq c4 hf
    refine lv_aload_n hx hb dX7_denominatorOf_7 rfl (lv_at hl 0 rfl) ?_
    refine xget (v := .ref (h (o + 2))) E hw 0 rfl rfl 4 (by decide) inw7 qw52 rfl rfl dX7_denominatorOf_8 ?_
    refine lv_iload_n hx hb dX7_denominatorOf_11 rfl (lv_at hl 1 rfl) ?_
    obtain ⟨hz, hf⟩ := nz hf
    refine xiald E hw 2 rfl hz dX7_denominatorOf_12 ?_
    refine lv_goto (tgt := 17) hx hb dX7_denominatorOf_13 (by decide) ?_
    exact hret _ _ _ _ _ (Option.some.inj hf) dX7_denominatorOf_17 hw
theorem k_X7_wholeOf : xKV yX7_wholeOf cX7_wholeOf 2 (some .int) 1 := ⟨qw349, qw350, qw14, qw351, by decide +kernel, by decide +kernel, by decide +kernel⟩
set_option maxHeartbeats 4000000 in
set_option maxRecDepth 100000 in
theorem met_X7_wholeOf (l : Launch) (g : xG) (h : Nat → Nat) (o : Nat) (x : SC) (a1 : Int32) (out : Int32) (hf : f_X7_wholeOf x a1 = some out) : xM l yX7_wholeOf (xC yX7_wholeOf cX7_wholeOf 2 (some .int)) { frames := 1, cells := 0, slots := 0, locals := 20 } g (wS g h o x) [.ref (h o), .int a1] (some (.int out)) (wS g h o x) := by
  refine xof (by decide) (Nat.le_of_ble_eq_true rfl) ⟨rfl, rfl⟩ ?_
  intro p e s m below meth c A ls E hr hlocks hw hl hpost hAe
  have hx := E.1.1
  have hb := E.1.2.1
  have hown := E.1.2.2.2.1
  have hts := E.1.2.2.2.2
  generalize hZ : (MQ below (xPost g (wS g h o x) (wS g h o x) s.heap.size (some (.int out))) [.ref (h o), .int a1].toArray s 0 0 A) = ZZ
  have hret : ∀ (pc : Nat) (H : Heap) (locs : List Loc) (ls : Array Slot) (v : Int32), v = out → decode cX7_wholeOf pc = .ok (.ireturn, 1) → xW g A s.heap (wS g h o x) H locs → W p l e { frames := 1, cells := 0, slots := 0, locals := 20 } s m [.ref (h o), .int a1].toArray below meth c H locs 0 0 ZZ (F0 m pc ls [.int v]) := by
    intro pc H locs ls v he hd hw
    subst he
    rw [← hZ]
    exact W.iret hx hb hr (hpost H locs hw).1 (hpost H locs hw).2 hd hlocks
  clear hpost
  refine lv_iload_n hx hb dX7_wholeOf_0 rfl (lv_at hl 1 rfl) ?_
  obtain ⟨v1, hv1, hf⟩ := ob_e hf
  refine xcallS (ws' := (wS g h o x)) (st1 := [.int v1]) (n := 3) E hw [.int a1] [] (met_X7_isAccount l g a1 v1 hv1) rfl (by decide) rfl rfl [0, 1, 2] rfl (by decide +kernel) rfl qw333 k_X7_isAccount ⟨rfl, rfl, Nat.le_of_ble_eq_true rfl, Nat.le_of_ble_eq_true rfl⟩ ⟨Nat.zero_le _, Nat.zero_le _⟩ hl.1 (Nat.le_of_ble_eq_true rfl) dX7_wholeOf_1 rfl (fun H locs hw => ?_)
  refine lv_if_eq (tgt := 32) hx hb dX7_wholeOf_4 (by decide) (fun c4 => ?_) (fun c4 => ?_)
  · replace hf := ip c4 hf
    refine lv_iconst (v := 0) hx hb dX7_wholeOf_32 (by decide) ?_
    exact hret _ _ _ _ _ (Option.some.inj hf) dX7_wholeOf_33 hw
  · replace hf := iq c4 hf
    refine lv_aload_n hx hb dX7_wholeOf_7 rfl (lv_at hl 0 rfl) ?_
    refine xget (v := .ref (h (o + 2))) E hw 0 rfl rfl 4 (by decide) inw7 qw52 rfl rfl dX7_wholeOf_8 ?_
    refine lv_iload_n hx hb dX7_wholeOf_11 rfl (lv_at hl 1 rfl) ?_
    obtain ⟨hz, hf⟩ := nz hf
    refine xiald E hw 2 rfl hz dX7_wholeOf_12 ?_
    refine lv_if_le (tgt := 32) hx hb dX7_wholeOf_13 (by decide) (fun c13 => ?_) (fun c13 => ?_)
    · replace hf := ip c13 hf
      refine lv_iconst (v := 0) hx hb dX7_wholeOf_32 (by decide) ?_
      exact hret _ _ _ _ _ (Option.some.inj hf) dX7_wholeOf_33 hw
    · replace hf := iq c13 hf
      refine lv_aload_n hx hb dX7_wholeOf_16 rfl (lv_at hl 0 rfl) ?_
      refine xget (v := .ref (h (o + 1))) E hw 0 rfl rfl 3 (by decide) inw7 qw51 rfl rfl dX7_wholeOf_17 ?_
      refine lv_iload_n hx hb dX7_wholeOf_20 rfl (lv_at hl 1 rfl) ?_
      obtain ⟨hz, hf⟩ := nz hf
      refine xiald E hw 1 rfl hz dX7_wholeOf_21 ?_
      refine lv_aload_n hx hb dX7_wholeOf_22 rfl (lv_at hl 0 rfl) ?_
      refine xget (v := .ref (h (o + 2))) E hw 0 rfl rfl 4 (by decide) inw7 qw52 rfl rfl dX7_wholeOf_23 ?_
      refine lv_iload_n hx hb dX7_wholeOf_26 rfl (lv_at hl 1 rfl) ?_
      obtain ⟨hz, hf⟩ := nz hf
      refine xiald E hw 2 rfl hz dX7_wholeOf_27 ?_
      obtain ⟨hz, hf⟩ := nz hf
      refine lv_idiv hx hb dX7_wholeOf_28 hz ?_
      refine lv_goto (tgt := 33) hx hb dX7_wholeOf_29 (by decide) ?_
      exact hret _ _ _ _ _ (Option.some.inj hf) dX7_wholeOf_33 hw
theorem k_X7_restOf : xKV yX7_restOf cX7_restOf 2 (some .long) 1 := ⟨qw377, qw378, qw14, qw379, by decide +kernel, by decide +kernel, by decide +kernel⟩
set_option maxHeartbeats 4000000 in
set_option maxRecDepth 100000 in
theorem met_X7_restOf (l : Launch) (g : xG) (h : Nat → Nat) (o : Nat) (x : SC) (a1 : Int32) (out : Int64) (hf : f_X7_restOf x a1 = some out) : xM l yX7_restOf (xC yX7_restOf cX7_restOf 2 (some .long)) { frames := 1, cells := 0, slots := 0, locals := 20 } g (wS g h o x) [.ref (h o), .int a1] (some (.long out)) (wS g h o x) := by
  refine xof (by decide) (Nat.le_of_ble_eq_true rfl) ⟨rfl, rfl⟩ ?_
  intro p e s m below meth c A ls E hr hlocks hw hl hpost hAe
  have hx := E.1.1
  have hb := E.1.2.1
  have hown := E.1.2.2.2.1
  have hts := E.1.2.2.2.2
  generalize hZ : (MQ below (xPost g (wS g h o x) (wS g h o x) s.heap.size (some (.long out))) [.ref (h o), .int a1].toArray s 0 0 A) = ZZ
  have hret : ∀ (pc : Nat) (H : Heap) (locs : List Loc) (ls : Array Slot) (v : Int64), v = out → decode cX7_restOf pc = .ok (.lreturn, 1) → xW g A s.heap (wS g h o x) H locs → W p l e { frames := 1, cells := 0, slots := 0, locals := 20 } s m [.ref (h o), .int a1].toArray below meth c H locs 0 0 ZZ (F0 m pc ls [.long v]) := by
    intro pc H locs ls v he hd hw
    subst he
    rw [← hZ]
    exact W.lret hx hb hr (hpost H locs hw).1 (hpost H locs hw).2 hd hlocks
  clear hpost
  refine lv_iload_n hx hb dX7_restOf_0 rfl (lv_at hl 1 rfl) ?_
  obtain ⟨v1, hv1, hf⟩ := ob_e hf
  refine xcallS (ws' := (wS g h o x)) (st1 := [.int v1]) (n := 3) E hw [.int a1] [] (met_X7_isAccount l g a1 v1 hv1) rfl (by decide) rfl rfl [0, 1, 2] rfl (by decide +kernel) rfl qw333 k_X7_isAccount ⟨rfl, rfl, Nat.le_of_ble_eq_true rfl, Nat.le_of_ble_eq_true rfl⟩ ⟨Nat.zero_le _, Nat.zero_le _⟩ hl.1 (Nat.le_of_ble_eq_true rfl) dX7_restOf_1 rfl (fun H locs hw => ?_)
  refine lv_if_eq (tgt := 33) hx hb dX7_restOf_4 (by decide) (fun c4 => ?_) (fun c4 => ?_)
  · replace hf := ip c4 hf
    refine lv_lconst (v := 0) hx hb dX7_restOf_33 (by decide) ?_
    exact hret _ _ _ _ _ (Option.some.inj hf) dX7_restOf_34 hw
  · replace hf := iq c4 hf
    refine lv_aload_n hx hb dX7_restOf_7 rfl (lv_at hl 0 rfl) ?_
    refine xget (v := .ref (h (o + 2))) E hw 0 rfl rfl 4 (by decide) inw7 qw52 rfl rfl dX7_restOf_8 ?_
    refine lv_iload_n hx hb dX7_restOf_11 rfl (lv_at hl 1 rfl) ?_
    obtain ⟨hz, hf⟩ := nz hf
    refine xiald E hw 2 rfl hz dX7_restOf_12 ?_
    refine lv_if_le (tgt := 33) hx hb dX7_restOf_13 (by decide) (fun c13 => ?_) (fun c13 => ?_)
    · replace hf := ip c13 hf
      refine lv_lconst (v := 0) hx hb dX7_restOf_33 (by decide) ?_
      exact hret _ _ _ _ _ (Option.some.inj hf) dX7_restOf_34 hw
    · replace hf := iq c13 hf
      refine lv_aload_n hx hb dX7_restOf_16 rfl (lv_at hl 0 rfl) ?_
      refine xget (v := .ref (h (o + 1))) E hw 0 rfl rfl 3 (by decide) inw7 qw51 rfl rfl dX7_restOf_17 ?_
      refine lv_iload_n hx hb dX7_restOf_20 rfl (lv_at hl 1 rfl) ?_
      obtain ⟨hz, hf⟩ := nz hf
      refine xiald E hw 1 rfl hz dX7_restOf_21 ?_
      refine lv_aload_n hx hb dX7_restOf_22 rfl (lv_at hl 0 rfl) ?_
      refine xget (v := .ref (h (o + 2))) E hw 0 rfl rfl 4 (by decide) inw7 qw52 rfl rfl dX7_restOf_23 ?_
      refine lv_iload_n hx hb dX7_restOf_26 rfl (lv_at hl 1 rfl) ?_
      obtain ⟨hz, hf⟩ := nz hf
      refine xiald E hw 2 rfl hz dX7_restOf_27 ?_
      obtain ⟨hz, hf⟩ := nz hf
      refine lv_irem hx hb dX7_restOf_28 hz ?_
      refine lv_i2l hx hb dX7_restOf_29 rfl ?_
      refine lv_goto (tgt := 34) hx hb dX7_restOf_30 (by decide) ?_
      exact hret _ _ _ _ _ (Option.some.inj hf) dX7_restOf_34 hw
theorem k_X7_asDouble : xKV yX7_asDouble cX7_asDouble 2 (some .double) 1 := ⟨qw408, qw409, qw14, qw410, by decide +kernel, by decide +kernel, by decide +kernel⟩
set_option maxHeartbeats 4000000 in
set_option maxRecDepth 100000 in
theorem met_X7_asDouble (l : Launch) (g : xG) (h : Nat → Nat) (o : Nat) (x : SC) (a1 : Int32) (out : UInt64) (hf : f_X7_asDouble x a1 = some out) : xM l yX7_asDouble (xC yX7_asDouble cX7_asDouble 2 (some .double)) { frames := 1, cells := 0, slots := 0, locals := 20 } g (wS g h o x) [.ref (h o), .int a1] (some (.double out)) (wS g h o x) := by
  refine xof (by decide) (Nat.le_of_ble_eq_true rfl) ⟨rfl, rfl⟩ ?_
  intro p e s m below meth c A ls E hr hlocks hw hl hpost hAe
  have hx := E.1.1
  have hb := E.1.2.1
  have hown := E.1.2.2.2.1
  have hts := E.1.2.2.2.2
  generalize hZ : (MQ below (xPost g (wS g h o x) (wS g h o x) s.heap.size (some (.double out))) [.ref (h o), .int a1].toArray s 0 0 A) = ZZ
  have hret : ∀ (pc : Nat) (H : Heap) (locs : List Loc) (ls : Array Slot) (v : UInt64), v = out → decode cX7_asDouble pc = .ok (.dreturn, 1) → xW g A s.heap (wS g h o x) H locs → W p l e { frames := 1, cells := 0, slots := 0, locals := 20 } s m [.ref (h o), .int a1].toArray below meth c H locs 0 0 ZZ (F0 m pc ls [.double v]) := by
    intro pc H locs ls v he hd hw
    subst he
    rw [← hZ]
    exact W.dret hx hb hr (hpost H locs hw).1 (hpost H locs hw).2 hd hlocks
  clear hpost
  refine lv_iload_n hx hb dX7_asDouble_0 rfl (lv_at hl 1 rfl) ?_
  obtain ⟨v1, hv1, hf⟩ := ob_e hf
  refine xcallS (ws' := (wS g h o x)) (st1 := [.int v1]) (n := 3) E hw [.int a1] [] (met_X7_isAccount l g a1 v1 hv1) rfl (by decide) rfl rfl [0, 1, 2] rfl (by decide +kernel) rfl qw333 k_X7_isAccount ⟨rfl, rfl, Nat.le_of_ble_eq_true rfl, Nat.le_of_ble_eq_true rfl⟩ ⟨Nat.zero_le _, Nat.zero_le _⟩ hl.1 (Nat.le_of_ble_eq_true rfl) dX7_asDouble_1 rfl (fun H locs hw => ?_)
  refine lv_if_eq (tgt := 34) hx hb dX7_asDouble_4 (by decide) (fun c4 => ?_) (fun c4 => ?_)
  · replace hf := ip c4 hf
    refine lv_dconst0 hx hb dX7_asDouble_34 ?_
    exact hret _ _ _ _ _ (Option.some.inj hf) dX7_asDouble_35 hw
  · replace hf := iq c4 hf
    refine lv_aload_n hx hb dX7_asDouble_7 rfl (lv_at hl 0 rfl) ?_
    refine xget (v := .ref (h (o + 2))) E hw 0 rfl rfl 4 (by decide) inw7 qw52 rfl rfl dX7_asDouble_8 ?_
    refine lv_iload_n hx hb dX7_asDouble_11 rfl (lv_at hl 1 rfl) ?_
    obtain ⟨hz, hf⟩ := nz hf
    refine xiald E hw 2 rfl hz dX7_asDouble_12 ?_
    refine lv_if_le (tgt := 34) hx hb dX7_asDouble_13 (by decide) (fun c13 => ?_) (fun c13 => ?_)
    · replace hf := ip c13 hf
      refine lv_dconst0 hx hb dX7_asDouble_34 ?_
      exact hret _ _ _ _ _ (Option.some.inj hf) dX7_asDouble_35 hw
    · replace hf := iq c13 hf
      refine lv_aload_n hx hb dX7_asDouble_16 rfl (lv_at hl 0 rfl) ?_
      refine xget (v := .ref (h (o + 1))) E hw 0 rfl rfl 3 (by decide) inw7 qw51 rfl rfl dX7_asDouble_17 ?_
      refine lv_iload_n hx hb dX7_asDouble_20 rfl (lv_at hl 1 rfl) ?_
      obtain ⟨hz, hf⟩ := nz hf
      refine xiald E hw 1 rfl hz dX7_asDouble_21 ?_
      refine lv_i2d hx hb dX7_asDouble_22 ?_
      refine lv_aload_n hx hb dX7_asDouble_23 rfl (lv_at hl 0 rfl) ?_
      refine xget (v := .ref (h (o + 2))) E hw 0 rfl rfl 4 (by decide) inw7 qw52 rfl rfl dX7_asDouble_24 ?_
      refine lv_iload_n hx hb dX7_asDouble_27 rfl (lv_at hl 1 rfl) ?_
      obtain ⟨hz, hf⟩ := nz hf
      refine xiald E hw 2 rfl hz dX7_asDouble_28 ?_
      refine lv_i2d hx hb dX7_asDouble_29 ?_
      obtain ⟨hz, hf⟩ := nz hf
      refine lv_ddiv hx hb dX7_asDouble_30 (xn64 hz) ?_
      refine lv_goto (tgt := 35) hx hb dX7_asDouble_31 (by decide) ?_
      exact hret _ _ _ _ _ (Option.some.inj hf) dX7_asDouble_35 hw
