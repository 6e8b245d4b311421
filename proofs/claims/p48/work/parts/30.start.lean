/-! The law from its entry: what the Statement gives, the objects made, and then the loop. -/
theorem xarr {args : Array Value} {s : State} {ty : FieldType} (h : (Cond.arrayClass ty).before args s = true) : ∃ cA : ClassId, ArrOfT s cA ty ∧ s.vm.findClass ("[" ++ ty.toString) = some cA := by
  obtain ⟨c, k, comp, h1, h2, h3⟩ := Cond.arrayClass_spec h
  exact ⟨c, fun n z => ⟨fun k h => (by cases h), k, h2, comp, h3⟩, h1⟩
theorem xarrq {s : State} (h : va_AO "SixCounts$State" s) : ∃ cA : ClassId, ArrOfT s cA (.object "SixCounts$State") ∧ va_RA s cA (.object "SixCounts$State") := by
  obtain ⟨comp, c, k, h1, h2, h3, h4, h5⟩ := Cond.arrayOver_spec h
  exact ⟨c, fun n z => ⟨fun k h => (by cases h), k, h3, comp, h4⟩, k, comp, h3, h4, h1, h5⟩
theorem vp_ring {cA : ClassId} {f f' : Nat → Option Nat} (h : ∀ j, j < 6 → f j = f' j) : vp_cell cA (6, .inr (.inr (.inr (.inr f)))) = vp_cell cA (6, .inr (.inr (.inr (.inr f')))) := by
  show arrV cA 6 (fun j => va_rf (f j)) = arrV cA 6 (fun j => va_rf (f' j))
  unfold arrV
  have e : (fun j : Fin 6 => va_rf (f j.val)) = fun j : Fin 6 => va_rf (f' j.val) := funext fun j => by rw [h j.val j.isLt]
  rw [e]
theorem xring_set {g : xG} {A : Nat → Prop} {H0 H : Heap} {locs : List Loc} {ws : va_W} {k a : Nat} {f f' : Nat → Option Nat} (hw : xW g A H0 ws H locs) (hk : ws[k]? = some (a, .inl (g.2.2.1, 6, .inr (.inr (.inr (.inr f)))))) (h : ∀ j, j < 6 → f j = f' j) : xW g A H0 (ws.set k (a, .inl (g.2.2.1, 6, .inr (.inr (.inr (.inr f')))))) H locs := by
  have h1 : H[a]? = some (vp_cell g.2.2.1 (6, .inr (.inr (.inr (.inr f))))) := hw.1 k _ hk
  refine ⟨hw.1.set hw.2.1 hk ?_ (fun q _ => rfl), hw.2.1.set hk, hw.2.2⟩
  show H[a]? = some (vp_cell g.2.2.1 (6, .inr (.inr (.inr (.inr f')))))
  rw [h1, vp_ring h]
set_option maxHeartbeats 40000000 in
set_option maxRecDepth 100000 in
theorem whole_start_of {p : Program} {e : Env} {s : State} {m : MethodId} {below : List Frame} {meth : Method} {c : Code} (l : Launch) (hflags : l.flags = flags0) {b L : Nat} {xs : Nat → Int32} (hpure : law_run xs L = some 1) (hx : p.tables.exec = Jvm.exec) (hb : c.code = code) (hr : meth.sig.returnType = ret) (hml : c.maxLocals = 12) (hown : s.vm.findClass R_law = some m.cls) (hts0 : ∀ w ∈ lw_tbl, w.before #[Value.ref b] s = true) (hXs : va_X b L xs s s.heap) (hbl : b < s.heap.size) (hlocks : meth.locks = false) (hgv : (Jvm.Cond.and given_1 narrow_1).before #[Value.ref b] s = true) : W p l e room_1 s m #[Value.ref b] below meth c s.heap [] 0 0 (lw_Z below #[Value.ref b] s) (entryFrame m ([Value.ref b] : List Value).toArray 12) := by
  have hlT : l.stackTraces = false := by unfold Launch.stackTraces; rw [hflags]; decide
  have hts : ∀ w ∈ XW, w.before #[Value.ref b] s = true := fun w h => hts0 w (XW_tbl h)
  have hfl := flat_of_before _ hgv
  obtain ⟨c0, i0, n0⟩ := u_known (C := RX1) (T := TX1) (N := 4) hts inw1 (hts _ qw166)
  obtain ⟨c1, i1, n1⟩ := u_known (C := RX2) (T := TX2) (N := 3) hts inw2 (hts _ qw86)
  obtain ⟨c2, i2, n2⟩ := u_known (C := RX3) (T := TX3) (N := 3) hts inw3 (hts _ qw66)
  obtain ⟨c3, i3, n3⟩ := u_known (C := RX4) (T := TX4) (N := 9) hts inw4 (hts _ qw132)
  obtain ⟨c4, i4, n4⟩ := u_known (C := RX6) (T := TX6) (N := 2) hts inw6 (hts _ qw115)
  obtain ⟨c5, i5, n5⟩ := u_known (C := RX7) (T := TX7) (N := 5) hts inw7 (hts _ qw40)
  obtain ⟨c6, i6, n6⟩ := u_known (C := RX8) (T := TX8) (N := 2) hts inw8 (hts _ qw92)
  obtain ⟨c7, i7, n7⟩ := u_known (C := RX10) (T := TX10) (N := 8) hts inw10 (hts _ qw32)
  obtain ⟨dC, dI, hKc⟩ : ∃ (dC : Nat → ClassId) (dI : Nat → Nat → Nat), ∀ (k : Nat) (q : vw_C), vwCl[k]? = some q → u_Kn s q.1 q.2.1 q.2.2 (dC k) (dI k) := by
    refine ⟨fun k => [c0, c1, c2, c3, c4, c5, c6, c7].getD k c0, fun k => [i0, i1, i2, i3, i4, i5, i6, i7].getD k i0, ?_⟩
    intro k q hq
    match k, hq with
    | 0, hq => cases hq; exact n0
    | 1, hq => cases hq; exact n1
    | 2, hq => cases hq; exact n2
    | 3, hq => cases hq; exact n3
    | 4, hq => cases hq; exact n4
    | 5, hq => cases hq; exact n5
    | 6, hq => cases hq; exact n6
    | 7, hq => cases hq; exact n7
    | k + 8, hq => simp [vwCl] at hq
  obtain ⟨cI, hI1, hI2⟩ := xarr (hts _ qw64)
  have hAO : va_AO "SixCounts$State" s := va_AO.of (hts0 _ qw72)
  obtain ⟨cQ, hQ1, hQ2⟩ := xarrq hAO
  obtain ⟨g, hg⟩ : ∃ g : xG, g = ((dC, dI), cI, cQ, cI, cI) := ⟨_, rfl⟩
  have hK : xK g s := by
    rw [hg]
    refine ⟨hKc, fun k q hq => ?_⟩
    match k, hq with
    | 0, hq => cases hq; exact ⟨hI1, hI2⟩
    | 1, hq => cases hq; exact ⟨hQ1, hQ2⟩
    | k + 2, hq => simp [xT] at hq
  have hN : xN s := ⟨va_Nw.of rfl (hts0 _ qw87), va_Nw.of rfl (hts0 _ qw93), va_Nw.of rfl (hts0 _ qw116), va_Nw.of rfl (hts0 _ qw133), va_Nw.of rfl (hts0 _ qw167), hAO⟩
  have hbA : ∀ a : Nat, a < s.heap.size → ¬ (fun q : Nat => s.heap.size ≤ q) a := fun a h => Nat.not_le.mpr h
  have E : xE p m c cL_law 12 s #[Value.ref b] RL g (fun q : Nat => s.heap.size ≤ q) := ⟨⟨hx, hb, hml, hown, hts⟩, hK, fun q h => h⟩
  have hw : xW g (fun q : Nat => s.heap.size ≤ q) s.heap [] s.heap [] := ⟨fun k q h => by simp at h, ⟨fun i j p q h => by simp at h, fun k q h => by simp at h⟩, va_S.rf⟩
  have hl := lv_entry ([.ref b]) (n := 12) (Nat.le_of_ble_eq_true rfl)
  rw [lg_entry_eq]
  generalize (lg_sl ([.ref b]) ++ List.replicate (12 - (lg_sl ([.ref b])).length) Slot.unset).toArray = ls at hl ⊢
  have hl : lv_has ls 12 [(0, .ref b)] := hl
  refine xnew (fs := [.null, .null, .int 0, .null, .null, .null, .null, .null]) (ci := 7) E hw inw10 tyX10_ok qw31 qw32 qw13 rfl iX10_def (Nat.le_of_ble_eq_true rfl) (Nat.le_of_ble_eq_true rfl) dL_law_0 (fun q1 H hw => ?_)
  have hw : xW g _ s.heap [(q1, .inr (7, [.null, .null, .int 0, .null, .null, .null, .null, .null]))] H _ := hw
  refine lv_dup hx hb dL_law_3 rfl ?_
  refine xcallI (wr := []) E hN hw [0] [] (met_X10_init l g q1) rfl rfl rfl (by decide) (by decide) qw33 k_X10_init ⟨rfl, rfl, Nat.le_of_ble_eq_true rfl, Nat.le_of_ble_eq_true rfl⟩ ⟨Nat.le_of_ble_eq_true rfl, Nat.le_of_ble_eq_true rfl⟩ hl.1 (Nat.le_of_ble_eq_true rfl) dL_law_4 (fun w1 H locs hp hw => ?_)
  obtain ⟨q2, q3, q4, q5, q6, q7, q8, q9, q10, q11, q12, q13, q14, q15, q16, q17, q18, q19, q20, q21, q22, q23, q24, q25, q26, q27, q28, q29, q30, q31, q32, q33, q34, rfl⟩ := hp
  have hw : xW g _ s.heap [(q1, .inr (7, [.ref q2, .ref q5, .int 0, .ref q8, .ref q28, .ref q31, .ref q32, .ref q33])), (q2, .inr (5, [.int 6, .int 0, .int 0, .ref q3, .ref q4])), (q3, .inl (g.2.1, 6, .inl (fun _ => 0))), (q4, .inl (g.2.1, 6, .inl iDen)), (q5, .inr (5, [.int 6, .int 0, .int 0, .ref q6, .ref q7])), (q6, .inl (g.2.1, 6, .inl (fun _ => 0))), (q7, .inl (g.2.1, 6, .inl iDen)), (q8, .inr (2, [.int 0, .int 0, .ref q9])), (q9, .inl (g.2.2.1, 6, .inr (.inr (.inr (.inr (va_up (va_up (va_up (va_up (va_up (va_up (fun _ => none) (0 : Int32).toNatClampNeg (some q10)) (1 : Int32).toNatClampNeg (some q13)) (2 : Int32).toNatClampNeg (some q16)) (3 : Int32).toNatClampNeg (some q19)) (4 : Int32).toNatClampNeg (some q22)) (5 : Int32).toNatClampNeg (some q25))))))), (q10, .inr (5, [.int 6, .int 0, .int 0, .ref q11, .ref q12])), (q11, .inl (g.2.1, 6, .inl (fun _ => 0))), (q12, .inl (g.2.1, 6, .inl iDen)), (q13, .inr (5, [.int 6, .int 0, .int 0, .ref q14, .ref q15])), (q14, .inl (g.2.1, 6, .inl (fun _ => 0))), (q15, .inl (g.2.1, 6, .inl iDen)), (q16, .inr (5, [.int 6, .int 0, .int 0, .ref q17, .ref q18])), (q17, .inl (g.2.1, 6, .inl (fun _ => 0))), (q18, .inl (g.2.1, 6, .inl iDen)), (q19, .inr (5, [.int 6, .int 0, .int 0, .ref q20, .ref q21])), (q20, .inl (g.2.1, 6, .inl (fun _ => 0))), (q21, .inl (g.2.1, 6, .inl iDen)), (q22, .inr (5, [.int 6, .int 0, .int 0, .ref q23, .ref q24])), (q23, .inl (g.2.1, 6, .inl (fun _ => 0))), (q24, .inl (g.2.1, 6, .inl iDen)), (q25, .inr (5, [.int 6, .int 0, .int 0, .ref q26, .ref q27])), (q26, .inl (g.2.1, 6, .inl (fun _ => 0))), (q27, .inl (g.2.1, 6, .inl iDen)), (q28, .inr (1, [.int 0, .ref q29, .ref q30])), (q29, .inl (g.2.1, 60, .inl (fun _ => 0))), (q30, .inr (6, [.int 1, .int 0])), (q31, .inr (4, [.long 0, .long 1])), (q32, .inr (3, [.int 0, .int 6, .int 0, .int 0, .long 0, .long 0, .long 1, .long 0, .long 1])), (q33, .inr (0, [.int 0, .int 0, .int 0, .ref q34])), (q34, .inl (g.2.1, 31, .inl (fun _ => 0)))] H _ := hw
  refine lv_astore_n (lv' := [(1, .ref q1), (0, .ref b)]) hx hb dL_law_7 rfl hl (by decide) rfl (fun ls hl => ?_)
  have hw2 := xring_set (k := 8) (f' := (xring (fun k => [q1, q2, q3, q4, q5, q6, q7, q8, q9, q10, q11, q12, q13, q14, q15, q16, q17, q18, q19, q20, q21, q22, q23, q24, q25, q26, q27, q28, q29, q30, q31, q32, q33, q34].getD k 0) 7)) hw rfl (fun j hj => by
    match j, hj with
    | 0, _ => rfl
    | 1, _ => rfl
    | 2, _ => rfl
    | 3, _ => rfl
    | 4, _ => rfl
    | 5, _ => rfl
    | j + 6, hj => omega)
  have hw3 : xW g (fun q : Nat => s.heap.size ≤ q) s.heap [(q1, .inr (7, [.ref q2, .ref q5, .int 0, .ref q8, .ref q28, .ref q31, .ref q32, .ref q33])), (q2, .inr (5, [.int 6, .int 0, .int 0, .ref q3, .ref q4])), (q3, .inl (g.2.1, 6, .inl (fun _ => 0))), (q4, .inl (g.2.1, 6, .inl iDen)), (q5, .inr (5, [.int 6, .int 0, .int 0, .ref q6, .ref q7])), (q6, .inl (g.2.1, 6, .inl (fun _ => 0))), (q7, .inl (g.2.1, 6, .inl iDen)), (q8, .inr (2, [.int 0, .int 0, .ref q9])), (q9, .inl (g.2.2.1, 6, .inr (.inr (.inr (.inr (xring (fun k => [q1, q2, q3, q4, q5, q6, q7, q8, q9, q10, q11, q12, q13, q14, q15, q16, q17, q18, q19, q20, q21, q22, q23, q24, q25, q26, q27, q28, q29, q30, q31, q32, q33, q34].getD k 0) 7)))))), (q10, .inr (5, [.int 6, .int 0, .int 0, .ref q11, .ref q12])), (q11, .inl (g.2.1, 6, .inl (fun _ => 0))), (q12, .inl (g.2.1, 6, .inl iDen)), (q13, .inr (5, [.int 6, .int 0, .int 0, .ref q14, .ref q15])), (q14, .inl (g.2.1, 6, .inl (fun _ => 0))), (q15, .inl (g.2.1, 6, .inl iDen)), (q16, .inr (5, [.int 6, .int 0, .int 0, .ref q17, .ref q18])), (q17, .inl (g.2.1, 6, .inl (fun _ => 0))), (q18, .inl (g.2.1, 6, .inl iDen)), (q19, .inr (5, [.int 6, .int 0, .int 0, .ref q20, .ref q21])), (q20, .inl (g.2.1, 6, .inl (fun _ => 0))), (q21, .inl (g.2.1, 6, .inl iDen)), (q22, .inr (5, [.int 6, .int 0, .int 0, .ref q23, .ref q24])), (q23, .inl (g.2.1, 6, .inl (fun _ => 0))), (q24, .inl (g.2.1, 6, .inl iDen)), (q25, .inr (5, [.int 6, .int 0, .int 0, .ref q26, .ref q27])), (q26, .inl (g.2.1, 6, .inl (fun _ => 0))), (q27, .inl (g.2.1, 6, .inl iDen)), (q28, .inr (1, [.int 0, .ref q29, .ref q30])), (q29, .inl (g.2.1, 60, .inl (fun _ => 0))), (q30, .inr (6, [.int 1, .int 0])), (q31, .inr (4, [.long 0, .long 1])), (q32, .inr (3, [.int 0, .int 6, .int 0, .int 0, .long 0, .long 0, .long 1, .long 0, .long 1])), (q33, .inr (0, [.int 0, .int 0, .int 0, .ref q34])), (q34, .inl (g.2.1, 31, .inl (fun _ => 0)))] H _ := hw2
  have hw4 : xW g (fun q : Nat => s.heap.size ≤ q) s.heap (wC g (fun k => [q1, q2, q3, q4, q5, q6, q7, q8, q9, q10, q11, q12, q13, q14, q15, q16, q17, q18, q19, q20, q21, q22, q23, q24, q25, q26, q27, q28, q29, q30, q31, q32, q33, q34].getD k 0) (6, 0, 0, (fun _ => 0), iDen) (6, 0, 0, (fun _ => 0), iDen) 0 (0, 0, fun _ => (6, 0, 0, (fun _ => 0), iDen)) (0, (fun _ => 0), 1, 0) (0, 1) (0, 6, 0, 0, 0, 0, 1, 0, 1) (0, 0, 0, (fun _ => 0))) H _ := ⟨hw3.1.sub [0, 1, 2, 3, 4, 5, 6, 7, 8, 9, 10, 11, 12, 13, 14, 15, 16, 17, 18, 19, 20, 21, 22, 23, 24, 25, 26, 27, 28, 29, 30, 31, 32, 33] rfl, hw3.2.1.sub [0, 1, 2, 3, 4, 5, 6, 7, 8, 9, 10, 11, 12, 13, 14, 15, 16, 17, 18, 19, 20, 21, 22, 23, 24, 25, 26, 27, 28, 29, 30, 31, 32, 33] (by decide +kernel) rfl, hw3.2.2⟩
  exact law_body l g (fun k => [q1, q2, q3, q4, q5, q6, q7, q8, q9, q10, q11, q12, q13, q14, q15, q16, q17, q18, q19, q20, q21, q22, q23, q24, q25, q26, q27, q28, q29, q30, q31, q32, q33, q34].getD k 0) b L xs (6, 0, 0, (fun _ => 0), iDen) 0 (0, (fun _ => 0), 1, 0) (0, 6, 0, 0, 0, 0, 1, 0, 1) (0 + 1 + 33) (0 + 8 + 256) ⟨Nat.le_of_ble_eq_true rfl, Nat.le_of_ble_eq_true rfl⟩ E hr hlocks hXs hbl _ _ _ (6, 0, 0, (fun _ => 0), iDen) (0, 0, fun _ => (6, 0, 0, (fun _ => 0), iDen)) (0, 1) (0, 0, 0, (fun _ => 0)) hw4 (lv_sub hl [1, 0] rfl) hpure
