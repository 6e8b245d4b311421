/-! Methods that throw: what they need, what they come to, how they are called. -/
def xstr : List (Nat × String) := [(385, "no such account"), (259, "no such column"), (230, "place out of range"), (387, "base out of range"), (240, "no such place"), (76, "numerator out of range"), (81, "denominator out of range"), (392, "that is not possible"), (110, "digits out of range"), (115, "an account does not pay itself"), (118, "coins out of range"), (128, "code out of range"), (135, "the buffer is full"), (148, "the buffer is not complete entries"), (394, "it did not stop"), (168, "no state is saved"), (176, "there is no snapshot")]
def xnames : List String := ["java/lang/RuntimeException", "java/lang/Exception"]
/-- the words of a throw that a warming may not keep by itself -/
def xodd : List Cond := [.declares (Bundle.initS Bundle.tN), .declares (Bundle.initS "java/lang/RuntimeException"), .declares (Bundle.initS "java/lang/Exception"), .castable "java/lang/IndexOutOfBoundsException" "java/lang/IndexOutOfBoundsException", .castable "java/lang/IllegalArgumentException" "java/lang/IllegalArgumentException", .castable "java/lang/IllegalStateException" "java/lang/IllegalStateException"]
/-- the exceptions by their numbers -/
def xEx : Nat → String
  | 1 => "java/lang/IndexOutOfBoundsException"
  | 2 => "java/lang/IllegalArgumentException"
  | _ => "java/lang/IllegalStateException"
def xX (A : Nat → Prop) (U : State) (H : Heap) : Prop := vx_Zq Bundle.tN "UNASSIGNED_STACK" Bundle.steD A U H ∧ vx_Zq Bundle.tN "SUPPRESSED_SENTINEL" Bundle.listD A U H ∧ (∀ q ∈ xstr, ∃ a, vk_R RX10 q.1 q.2 a U) ∧ ∀ w ∈ xodd, w.before #[] U = true
theorem xodd_warm {s U : State} (hvm : s.vm.Alike U.vm) (h : ∀ w ∈ xodd, w.before #[] s = true) : ∀ w ∈ xodd, w.before #[] U = true := by
  intro w hw
  have h1 := h w hw
  have key : w.before #[] (s.setVm U.vm) = true → w.before #[] U = true := fun q => by
    have h2 : w.onTables = true := by
      simp only [xodd, List.mem_cons, List.not_mem_nil, or_false] at hw
      rcases hw with rfl | rfl | rfl | rfl | rfl | rfl <;> rfl
    have h3 := Cond.onTables_vm (A := #[]) (A' := #[]) (U := s) (U' := U) U.vm w h2
    rw [State.setVm_self] at h3
    rw [← h3]; exact q
  refine key ?_
  simp only [xodd, List.mem_cons, List.not_mem_nil, or_false] at hw
  rcases hw with rfl | rfl | rfl | rfl | rfl | rfl
  · rw [Cond.declares_setVm hvm]; exact h1
  · rw [Cond.declares_setVm hvm]; exact h1
  · rw [Cond.declares_setVm hvm]; exact h1
  · rw [Cond.castable_setVm hvm]; exact h1
  · rw [Cond.castable_setVm hvm]; exact h1
  · rw [Cond.castable_setVm hvm]; exact h1
theorem xodd_args {args : Array Value} {s : State} (h : ∀ w ∈ xodd, w.before #[] s = true) : ∀ w ∈ xodd, w.before args s = true := by
  intro w hw
  have h2 : w.onTables = true := by
    simp only [xodd, List.mem_cons, List.not_mem_nil, or_false] at hw
    rcases hw with rfl | rfl | rfl | rfl | rfl | rfl <;> rfl
  have h3 := Cond.onTables_vm (A := #[]) (A' := args) (U := s) (U' := s) s.vm w h2
  rw [State.setVm_self] at h3
  rw [← h3]; exact h w hw
theorem xX.to {A B : Nat → Prop} {s U : State} {H : Heap} {locs : List Loc} (h : xX A s s.heap) (hS : va_S A s.heap H locs) (hAB : ∀ q, B q → A q) (hW : s.WarmedH U.vm) : xX B U H := by
  obtain ⟨h1, h2, h3, h4⟩ := h
  refine ⟨((h1.kept hS.2.1).narrow hAB).moved hW.alike, ((h2.kept hS.2.1).narrow hAB).moved hW.alike, fun q hq => ?_, xodd_warm hW.alike h4⟩
  obtain ⟨a, ha⟩ := h3 q hq
  exact ⟨a, vk_R.warm hW ha⟩
def xPreX (g : xG) (ws : va_W) (sz : Nat) (av : List Value) : Array Value → State → Prop := va_Pc av (fun U => U.heap.size = sz ∧ va_P g.1 vwCl ws U.heap ∧ xK g U ∧ va_D (fun _ => True) ws ∧ xX (va_A ws sz) U U.heap)
def xPostX (g : xG) (ws w1 : va_W) (sz : Nat) (E : String) : String → State → State → Prop := fun E' st t => (E' = E ∧ va_P g.1 vwCl w1 t.heap) ∧ va_F (va_A ws sz) st t
/-- a contract: from the cells ws the method throws an E, and the cells hold w1 -/
def xMX (l : Launch) (y : MethodName) (wl : List Cond) (rm : Room) (g : xG) (ws : va_W) (av : List Value) (E : String) (w1 : va_W) : Prop := ∀ sz : Nat, vx_Met l y wl rm (xPreX g ws sz av) (fun _ _ _ _ => False) (xPostX g ws w1 sz E) 1 6 (va_A ws sz)
theorem xblindX {g : xG} {ws : va_W} {sz : Nat} {av : List Value} : FrameBlind (xPreX g ws sz av) := fun a U gf mk q => by
  obtain ⟨q0, q1, qP, qK, qD, qX⟩ := q
  refine ⟨q0, q1, qP, va_K.moved (u := U) (U := U.calling gf mk a) (Vm.Alike.refl U.vm) qK, qD, ?_⟩
  obtain ⟨h1, h2, h3, h4⟩ := qX
  refine ⟨h1.moved (u := U) (U := U.calling gf mk a) (Vm.Alike.refl U.vm), h2.moved (u := U) (U := U.calling gf mk a) (Vm.Alike.refl U.vm), fun q hq => ?_, xodd_warm (s := U) (U := U.calling gf mk a) (Vm.Alike.refl U.vm) h4⟩
  obtain ⟨a1, ha⟩ := h3 q hq
  exact ⟨a1, vk_R.same (u := U) (U := U.calling gf mk a) rfl ha⟩
section
variable {p : Program} {l : Launch} {e : Env} {R : Room} {s : State} {m : MethodId} {args : Array Value} {below : List Frame} {meth : Method} {c : Code} {H : Heap} {locs : List Loc} {cells slots : Nat} {Q : State → Prop}
variable {g : xG} {A : Nat → Prop} {ws wc w1 ws' : va_W} {cc bytes : ByteArray} {nL maxL pc index : Nat} {ret : Option FieldType} {rm : Room} {y : MethodName} {own : String} {ls : Array Slot}
theorem xpreX_of {T : State} {av : List Value} (hK : xK g s) (hX : xX A s s.heap) (hw : xW g A s.heap ws H locs) (hA : ∀ q, s.heap.size ≤ q → A q) (is : List Nat) (hn : va_nd is = true) (hC : is.map (fun i => ws[i]?) = wc.map some) (hU : T.heap = H) (hW : s.WarmedH T.vm) : xPreX g wc H.size av av.toArray T := by
  obtain ⟨h1, h2, h3, h4, h5⟩ := xpre_of (T := T) (av := av) hK hw is hn hC hU hW
  refine ⟨h1, h2, h3, h4, h5, ?_⟩
  rw [hU]
  exact hX.to hw.2.2 (va_free hw.2.1 hw.2.2 hA is hC) hW
theorem xbackX {st0 rest : List Value} {av : List Value} {E : String} (hw : xW g A s.heap ws H locs) (hA : ∀ q, s.heap.size ≤ q → A q) (is : List Nat) (hC : is.map (fun i => ws[i]?) = wc.map some) (ha : w1.map (fun q => q.1) = wc.map (fun q => q.1)) (sel : List Nat) {n : Nat} (hlen : ws.length = n) (hsel : xselok n is sel = true) (hw' : sel.map (fun i => (ws ++ w1)[i]?) = ws'.map some)
    (hr : vx_Run p l e R s m args below meth c H locs cells slots 1 6 (F0 m pc ls st0) rest (fun _ _ _ => False) (xPostX g wc w1 H.size E) (va_A wc H.size))
    (kx : ∀ (H1 : Heap) (locs1 : List Loc) (q : Nat) (ce : Cell), xW g A s.heap ws' H1 locs1 → H1[q]? = some ce → ce.vm = .none → s.vm.findClass E = some ce.cls → vx_W p l e R s m args below meth c H1 locs1 (cells + 1) (slots + 6) Q (F0 m pc ls rest) q) : W p l e R s m args below meth c H locs cells slots Q (F0 m pc ls st0) := by
  obtain ⟨hP, hD, hS⟩ := hw
  have hF : ∀ q, va_A wc H.size q → A q := va_free hD hS hA is hC
  intro T hT X
  rcases hr T hT X with ⟨v, st₀, t, T', L, h0, X', hL, e1, e2, hfalse, st⟩ | ⟨q, st₀, t, T', L, E', ce, h0, X', hL, e1, e2, ⟨⟨rfl, hb⟩, hz, hk⟩, hce, hcv, hcl, st⟩
  · exact hfalse.elim
  · rw [h0] at hz hk
    have hP1 : va_P g.1 vwCl w1 T'.heap := by rw [e1]; exact hb
    obtain ⟨j1, j2⟩ := xjoin hP hD is hC ha (xdich hlen hsel hw') (H1 := T'.heap) (fun q h1 h2 => by rw [e1]; exact hk q h1 h2) hP1
    obtain ⟨t2, a1, b1⟩ := kx T'.heap (locs ++ L) q ce ⟨j1, j2, ⟨Nat.le_trans hS.1 (by rw [e1]; exact hz), fun q h1 h2 => by rw [e1, hk q (Nat.lt_of_lt_of_le h1 hS.1) (fun z => h2 (hF q z))]; exact hS.2.1 q h1 h2, fun q hq => by
      rcases List.mem_append.mp hq with h | h
      · exact hS.2.2 q h
      · exact hF _ (hL q h)⟩⟩ (by rw [e1]; exact hce) hcv hcl T' rfl X'
    exact ⟨t2, st.trans a1, b1⟩
theorem xcallVX {st0 : List Value} {E : String} {b ci : Nat} {fs : List Value} {kc : vw_C} {rest : List Value} (Ev : xE p m c cc nL s args own g A) (hX : xX A s s.heap) (hw : xW g A s.heap ws H locs) (As : List Value) (is : List Nat)
    (hM : xMX l y (xC y bytes maxL ret) rm g wc (.ref b :: As) E w1) (hst : st0 = As.reverse ++ .ref b :: rest) (hn : va_nd is = true) (hC : is.map (fun i => ws[i]?) = wc.map some) (ha : w1.map (fun q => q.1) = wc.map (fun q => q.1)) (sel : List Nat) {n : Nat} (hlen : ws.length = n) (hsel : xselok n is sel = true) (hw' : sel.map (fun i => (ws ++ w1)[i]?) = ws'.map some) (hrecv : wc[0]? = some (b, .inr (ci, fs))) (hcl : vwCl[ci]? = some kc) (hyc : y.cls = kc.1)
    (q1 : Cond.methodLink own index y ∈ XW) (qs : xKV y bytes maxL ret As.length)
    (hR : rm.cells = 1 ∧ rm.slots = 6 ∧ rm.frames + 1 ≤ R.frames ∧ 8 + (maxL + 11) + rm.locals ≤ R.locals) (hf : cells + 1 ≤ R.cells ∧ slots + 6 ≤ R.slots) (hls : ls.size = nL) (hro : (rest.map fun v => v.category).sum ≤ 8) (hdg : decode cc pc = .ok (.invokevirtual index, 3))
    (kx : ∀ (H1 : Heap) (locs1 : List Loc) (q : Nat) (ce : Cell), xW g A s.heap ws' H1 locs1 → H1[q]? = some ce → ce.vm = .none → s.vm.findClass E = some ce.cls → vx_W p l e R s m args below meth c H1 locs1 (cells + 1) (slots + 6) Q (F0 m pc ls rest) q) : W p l e R s m args below meth c H locs cells slots Q (F0 m pc ls st0) := by
  subst hst
  obtain ⟨F, hK, hA⟩ := Ev
  obtain ⟨q2, q3, q4, q5, hd⟩ := qs
  have hts : ∀ w ∈ XW, w.before args s = true := F.2.2.2.2
  have cb : CallB R s args own index y bytes maxL ret (xC y bytes maxL ret) rm 1 6 As.length := ⟨hR.1, hR.2.1, hR.2.2.1, hR.2.2.2, xpay hts q5, List.mem_cons_self, hts _ q5, hts _ q4, ⟨hd.1, hd.2.1⟩, fun sig h => by
    have h2 := hd.2.2
    rw [h] at h2
    exact (Option.some.inj h2).symm, hts _ q1⟩
  have hPc : va_P g.1 vwCl wc H := fun k q h => by
    obtain ⟨i, -, h2⟩ := xat' hC h
    exact hw.1 i q h2
  have hrr := va_recv (a := b) (q0 := 0) (ci := ci) hK hPc hcl hrecv
  exact xbackX (av := .ref b :: As) hw hA is hC ha sel hlen hsel hw' (vx_runV (As := As) (rest := rest) F (hM H.size) ⟨cb, hts _ q2, hts _ q3⟩ ⟨xblindX, by rw [hyc]; exact hrr, fun U hU hW => xpreX_of hK hX hw hA is hn hC hU hW⟩ rfl rfl hls rfl (lv_room hro) hdg ⟨hf.1, hf.2⟩) kx
theorem xcallSX {st0 : List Value} {E : String} {rest : List Value} (Ev : xE p m c cc nL s args own g A) (hX : xX A s s.heap) (hw : xW g A s.heap ws H locs) (As : List Value) (is : List Nat)
    (hM : xMX l y (xC y bytes maxL ret) rm g wc As E w1) (hst : st0 = As.reverse ++ rest) (hn : va_nd is = true) (hC : is.map (fun i => ws[i]?) = wc.map some) (ha : w1.map (fun q => q.1) = wc.map (fun q => q.1)) (sel : List Nat) {n : Nat} (hlen : ws.length = n) (hsel : xselok n is sel = true) (hw' : sel.map (fun i => (ws ++ w1)[i]?) = ws'.map some)
    (q1 : Cond.methodLink own index y ∈ XW) (qs : xKS y bytes maxL ret As.length)
    (hR : rm.cells = 1 ∧ rm.slots = 6 ∧ rm.frames + 1 ≤ R.frames ∧ 8 + (maxL + 11) + rm.locals ≤ R.locals) (hf : cells + 1 ≤ R.cells ∧ slots + 6 ≤ R.slots) (hls : ls.size = nL) (hro : (rest.map fun v => v.category).sum ≤ 8) (hdg : decode cc pc = .ok (.invokestatic index, 3))
    (kx : ∀ (H1 : Heap) (locs1 : List Loc) (q : Nat) (ce : Cell), xW g A s.heap ws' H1 locs1 → H1[q]? = some ce → ce.vm = .none → s.vm.findClass E = some ce.cls → vx_W p l e R s m args below meth c H1 locs1 (cells + 1) (slots + 6) Q (F0 m pc ls rest) q) : W p l e R s m args below meth c H locs cells slots Q (F0 m pc ls st0) := by
  subst hst
  obtain ⟨F, hK, hA⟩ := Ev
  obtain ⟨q2, q4, q5, hd⟩ := qs
  have hts : ∀ w ∈ XW, w.before args s = true := F.2.2.2.2
  have cb : CallB R s args own index y bytes maxL ret (xC y bytes maxL ret) rm 1 6 As.length := ⟨hR.1, hR.2.1, hR.2.2.1, hR.2.2.2, xpay hts q5, List.mem_cons_self, hts _ q5, hts _ q4, ⟨hd.1, hd.2.1⟩, fun sig h => by
    have h2 := hd.2.2
    rw [h] at h2
    exact (Option.some.inj h2).symm, hts _ q1⟩
  exact xbackX (av := As) hw hA is hC ha sel hlen hsel hw' (vx_runS (As := As) (rest := rest) F (hM H.size) ⟨cb, hts _ q2⟩ ⟨xblindX, fun U hU hW => xpreX_of hK hX hw hA is hn hC hU hW⟩ rfl rfl hls rfl (lv_room hro) hdg ⟨hf.1, hf.2⟩) kx
/-- 'throw new E("text")' -/
theorem xthrow {text cls : String} {ik is ic : Nat} {rest : List Value} {XC : String → State → State → Prop} {Qc : Array Value → State → Outcome → State → Prop} (hl : l.stackTraces = false) (Ev : xE p m c cc nL s args RX10 g A) (hX : xX A s s.heap) (htab : ∀ x ∈ c.exceptionTable.toList, False) (hlocks : meth.locks = false) (hw : xW g A s.heap ws H locs)
    (hcls : Bundle.fit cls = true) (q1 : Cond.classLink RX10 ik cls ∈ XW) (q2 : Cond.initialized cls ∈ XW) (h1 : ∀ w ∈ (vx_atS RX10 ic cls xnames).filter goodWord, w ∈ XW) (h2 : ∀ w ∈ (vx_atS RX10 ic cls xnames).filter (fun w => !goodWord w), w ∈ xodd) (h3 : ∀ w ∈ Cond.classLink RX10 ik cls :: Cond.initialized cls :: vx_atS RX10 ic cls xnames, vx_ot w = true) (hs : (is, text) ∈ xstr) (hls : ls.size = nL)
    (d0 : decode cc pc = .ok (.new ik, 3)) (d3 : decode cc (pc + 3) = .ok (.dup, 1)) (d4 : decode cc (pc + 4) = .ok (.ldc is, 2)) (d6 : decode cc (pc + 6) = .ok (.invokespecial ic, 3)) (d9 : decode cc (pc + 9) = .ok (.athrow, 1))
    (hR : 5 < R.frames ∧ (rest.map fun v => v.category).sum + 82 ≤ R.locals ∧ 1 ≤ R.cells ∧ 6 ≤ R.slots)
    (hx : ∀ t : State, s.vm.Alike t.vm → H.size ≤ t.heap.size → (∀ q : Nat, q < H.size → t.heap[q]? = H[q]?) → XC cls s t) :
    W p l e R s m args below meth c H locs 0 0 (vx_MQ below Qc XC args s 1 6 A) (F0 m pc ls rest) := by
  obtain ⟨⟨hx0, hb, hml, hown, hts⟩, hK, hA⟩ := Ev
  obtain ⟨x1, x2, x3, x4⟩ := hX
  obtain ⟨sa, hsa⟩ := x3 _ hs
  have hn : ∀ n ∈ xnames, Bundle.fit n = true := by decide
  exact vx_throwS (names := xnames) hx0 hb hl hown hcls hn (hts _ q1) (hts _ q2) hsa (vx_hat (fun w h => hts _ (h1 w h)) h2 (xodd_args x4)) h3 x1 x2 hw.2.2 (hls.trans hml.symm) d0 d3 d4 d6 d9 (fun x hx => (htab x hx).elim) hR.1 hR.2.1 hR.2.2.1 hR.2.2.2 hlocks hx hw.2.2.2.2 (Nat.le_refl _) (Nat.le_refl _)
theorem xthrowW {text cls : String} {ik is ic : Nat} {rest : List Value} {XC : String → State → State → Prop} {Qc : Array Value → State → Outcome → State → Prop} (hl : l.stackTraces = false) (Ev : xE p m c cc nL s args RX10 g A) (hX : xX A s s.heap) (htab : ∀ x ∈ c.exceptionTable.toList, False) (hlocks : meth.locks = false) (hw : xW g A s.heap ws H locs)
    (hcls : Bundle.fit cls = true) (q1 : Cond.classLink RX10 ik cls ∈ XW) (q2 : Cond.initialized cls ∈ XW) (h1 : ∀ w ∈ (vx_atS RX10 ic cls xnames).filter goodWord, w ∈ XW) (h2 : ∀ w ∈ (vx_atS RX10 ic cls xnames).filter (fun w => !goodWord w), w ∈ xodd) (h3 : ∀ w ∈ Cond.classLink RX10 ik cls :: Cond.initialized cls :: vx_atS RX10 ic cls xnames, vx_ot w = true) (hs : (is, text) ∈ xstr) (hls : ls.size = nL)
    (d0 : decode cc pc = .ok (.new ik, 3)) (d3 : decode cc (pc + 3) = .ok (.dup, 1)) (d4 : decode cc (pc + 4) = .ok (.ldc_w is, 3)) (d6 : decode cc (pc + 7) = .ok (.invokespecial ic, 3)) (d9 : decode cc (pc + 10) = .ok (.athrow, 1))
    (hR : 5 < R.frames ∧ (rest.map fun v => v.category).sum + 82 ≤ R.locals ∧ 1 ≤ R.cells ∧ 6 ≤ R.slots)
    (hx : ∀ t : State, s.vm.Alike t.vm → H.size ≤ t.heap.size → (∀ q : Nat, q < H.size → t.heap[q]? = H[q]?) → XC cls s t) :
    W p l e R s m args below meth c H locs 0 0 (vx_MQ below Qc XC args s 1 6 A) (F0 m pc ls rest) := by
  obtain ⟨⟨hx0, hb, hml, hown, hts⟩, hK, hA⟩ := Ev
  obtain ⟨x1, x2, x3, x4⟩ := hX
  obtain ⟨sa, hsa⟩ := x3 _ hs
  have hn : ∀ n ∈ xnames, Bundle.fit n = true := by decide
  exact vx_throwSW (names := xnames) hx0 hb hl hown hcls hn (hts _ q1) (hts _ q2) hsa (vx_hat (fun w h => hts _ (h1 w h)) h2 (xodd_args x4)) h3 x1 x2 hw.2.2 (hls.trans hml.symm) d0 d3 d4 d6 d9 (fun x hx => (htab x hx).elim) hR.1 hR.2.1 hR.2.2.1 hR.2.2.2 hlocks hx hw.2.2.2.2 (Nat.le_refl _) (Nat.le_refl _)
end
/-- a method that throws, by its walk -/
theorem xofX {l : Launch} {y : MethodName} {cc : ByteArray} {maxL : Nat} {ret : Option FieldType} {rm : Room} {g : xG} {ws w1 : va_W} {av : List Value} {E : String} (hy : plainName y.cls = true) (hlen : (lg_sl av).length ≤ maxL) (hrm : rm.cells = 1 ∧ rm.slots = 6)
    (body : ∀ (p : Program) (e : Env) (s : State) (m : MethodId) (below : List Frame) (meth : Method) (c : Code) (A : Nat → Prop) (ls : Array Slot), xE p m c cc maxL s av.toArray y.cls g A → meth.locks = false → (∀ x ∈ c.exceptionTable.toList, False) → xX A s s.heap → xW g A s.heap ws s.heap [] → lv_has ls maxL (lv_args 0 av) →
      (∀ (H : Heap) (locs : List Loc), xW g A s.heap w1 H locs → (∀ t : State, s.vm.Alike t.vm → H.size ≤ t.heap.size → (∀ q : Nat, q < H.size → t.heap[q]? = H[q]?) → xPostX g ws w1 s.heap.size E E s t) ∧ ∀ q ∈ locs, A q.base) →
      W p l e rm s m av.toArray below meth c s.heap [] 0 0 (vx_MQ below (fun _ _ _ _ => False) (xPostX g ws w1 s.heap.size E) av.toArray s 1 6 A) (F0 m 0 ls [])) : xMX l y (xC y cc maxL ret) rm g ws av E w1 := by
  intro sz
  refine vx_ofW (cc := cc) (maxL := maxL) (ret := ret) hy rfl ?_
  intro p e s m args below meth c s₁ B hml htab hv
  obtain ⟨rfl, hsz, hP, hK, hD0, hX⟩ := hv
  subst hsz
  have hts := atoms_spec (ws := xC y cc maxL ret) B.pre
  have hD := hD0.self (sz := s.heap.size)
  have hl := lv_entry av (n := maxL) hlen
  rw [lg_entry_eq]
  generalize (lg_sl av ++ List.replicate (maxL - (lg_sl av).length) Slot.unset).toArray = ls at hl ⊢
  exact body p e s m below meth c _ ls ⟨⟨B.exec, B.bytes, hml, findClass_of_methodNamed B.named, fun w h => hts w (List.mem_cons_of_mem _ h)⟩, hK, fun q h => Or.inr h⟩ B.notSynchronized htab hX ⟨hP, hD, va_S.rf⟩ hl
    (fun H locs hw => ⟨fun t ht hz hk => ⟨⟨rfl, fun k q h => (hw.1 k q h).kept (hk q.1 (hw.1 k q h).lt)⟩, ⟨Nat.le_trans hw.2.2.1 hz, fun q h1 h2 => by rw [hk q (Nat.lt_of_lt_of_le h1 hw.2.2.1)]; exact hw.2.2.2.1 q h1 h2⟩⟩, hw.2.2.2.2⟩)
theorem nlr {α β : Type} {a : α} {b : β} {P : Prop} (h : (some (Sum.inl a) : Option (α ⊕ β)) = some (Sum.inr b)) : P := nomatch h
theorem nrl {α β : Type} {a : α} {b : β} {P : Prop} (h : (some (Sum.inr b) : Option (α ⊕ β)) = some (Sum.inl a)) : P := nomatch h
theorem jl {α β : Type} {a b : α} (h : (some (Sum.inl a) : Option (α ⊕ β)) = some (Sum.inl b)) : a = b := Sum.inl.inj (Option.some.inj h)
theorem jr {α β : Type} {a b : β} (h : (some (Sum.inr a) : Option (α ⊕ β)) = some (Sum.inr b)) : a = b := Sum.inr.inj (Option.some.inj h)
theorem xat1 : ∀ w ∈ (vx_atS RX10 242 "java/lang/IndexOutOfBoundsException" xnames).filter goodWord, w ∈ XW := by decide +kernel
theorem xat2 : ∀ w ∈ (vx_atS RX10 78 "java/lang/IllegalArgumentException" xnames).filter goodWord, w ∈ XW := by decide +kernel
theorem xat3 : ∀ w ∈ (vx_atS RX10 137 "java/lang/IllegalStateException" xnames).filter goodWord, w ∈ XW := by decide +kernel
theorem xbt1 : ∀ w ∈ (vx_atS RX10 242 "java/lang/IndexOutOfBoundsException" xnames).filter (fun w => !goodWord w), w ∈ xodd := by decide +kernel
theorem xbt2 : ∀ w ∈ (vx_atS RX10 78 "java/lang/IllegalArgumentException" xnames).filter (fun w => !goodWord w), w ∈ xodd := by decide +kernel
theorem xbt3 : ∀ w ∈ (vx_atS RX10 137 "java/lang/IllegalStateException" xnames).filter (fun w => !goodWord w), w ∈ xodd := by decide +kernel
theorem xct1 : ∀ w ∈ Cond.classLink RX10 238 "java/lang/IndexOutOfBoundsException" :: Cond.initialized "java/lang/IndexOutOfBoundsException" :: vx_atS RX10 242 "java/lang/IndexOutOfBoundsException" xnames, vx_ot w = true := by decide +kernel
theorem xct2 : ∀ w ∈ Cond.classLink RX10 74 "java/lang/IllegalArgumentException" :: Cond.initialized "java/lang/IllegalArgumentException" :: vx_atS RX10 78 "java/lang/IllegalArgumentException" xnames, vx_ot w = true := by decide +kernel
theorem xct3 : ∀ w ∈ Cond.classLink RX10 133 "java/lang/IllegalStateException" :: Cond.initialized "java/lang/IllegalStateException" :: vx_atS RX10 137 "java/lang/IllegalStateException" xnames, vx_ot w = true := by decide +kernel
