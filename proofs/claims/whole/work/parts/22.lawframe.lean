/-! The law's own helpers (they catch), and how the law calls them. -/
def xNc (U : State) : Prop := va_Nc "java/lang/IllegalArgumentException" "java/lang/IndexOutOfBoundsException" U ∧ va_Nc "java/lang/IllegalStateException" "java/lang/IndexOutOfBoundsException" U ∧ va_Nc "java/lang/IllegalStateException" "java/lang/IllegalArgumentException" U
theorem xNc.moved {u U : State} (hvm : u.vm.Alike U.vm) (h : xNc u) : xNc U := ⟨h.1.moved hvm, h.2.1.moved hvm, h.2.2.moved hvm⟩
def xPreW (g : xG) (ws : va_W) (sz : Nat) (av : List Value) : Array Value → State → Prop := va_Pc av (fun U => U.heap.size = sz ∧ va_P g.1 vwCl ws U.heap ∧ xK g U ∧ va_D (fun _ => True) ws ∧ xX (va_A ws sz) U U.heap ∧ xNc U)
def xMW (l : Launch) (y : MethodName) (wl : List Cond) (rm : Room) (g : xG) (ws : va_W) (av : List Value) (v : Option Value) (w1 : va_W) : Prop := ∀ sz : Nat, Met l y wl rm (xPreW g ws sz av) (xPost g ws w1 sz v) 1 6 (va_A ws sz)
theorem xblindW {g : xG} {ws : va_W} {sz : Nat} {av : List Value} : FrameBlind (xPreW g ws sz av) := fun a U gf mk q => by
  obtain ⟨q0, q1, qP, qK, qD, qX, qN⟩ := q
  obtain ⟨a1, a2, a3, a4, a5, a6⟩ := xblindX a U gf mk ⟨q0, q1, qP, qK, qD, qX⟩
  exact ⟨a1, a2, a3, a4, a5, a6, qN.moved (u := U) (U := U.calling gf mk a) (Vm.Alike.refl U.vm)⟩
abbrev xCW (y : MethodName) (cc : ByteArray) (maxL : Nat) (ret : Option FieldType) (hh : List (Nat × Nat × Nat × Nat)) : List Cond := Cond.codeWith y cc maxL ret hh :: XW
def xKW (y : MethodName) (bytes : ByteArray) (maxL : Nat) (ret : Option FieldType) (hh : List (Nat × Nat × Nat × Nat)) (n : Nat) : Prop := Cond.static y ∈ XW ∧ Cond.initialized y.cls ∈ XW ∧ Cond.codeWith y bytes maxL ret hh ∈ XW ∧ y.cls ≠ "java/lang/invoke/MethodHandle" ∧ y.cls ≠ "java/lang/invoke/VarHandle" ∧ (parseMethodDescriptor y.desc).map (fun d => d.parameters.length) = some n
section
variable {p : Program} {l : Launch} {e : Env} {R : Room} {s : State} {m : MethodId} {args : Array Value} {below : List Frame} {meth : Method} {c : Code} {H : Heap} {locs : List Loc} {cells slots mc ms : Nat} {Q : State → Prop}
variable {g : xG} {A : Nat → Prop} {ws wc w1 ws' : va_W} {cc bytes : ByteArray} {nL maxL pc index a : Nat} {ret : Option FieldType} {rm : Room} {y : MethodName} {own : String} {ls : Array Slot} {hh : List (Nat × Nat × Nat × Nat)} {rest : List Value}
theorem xpayW (hts : ∀ w ∈ XW, w.before args s = true) (hc : Cond.codeWith y bytes maxL ret hh ∈ XW) : ∀ w ∈ xCW y bytes maxL ret hh, ∀ (a' : Array Value) (U : State), s.WarmedH U.vm → w.before a' U = true := by
  intro w hw a' U hW
  rcases List.mem_cons.mp hw with h | h
  · subst h
    exact word_at hW (good_of_word (XW_good hc)) (hts _ hc)
  · exact word_at hW (good_of_word (XW_good h)) (hts _ h)
theorem xlast (E : xE p m c cc nL s args own g A) (hw : xW g A s.heap ws H locs) (q0 : Nat) {n : Nat} {f : Nat → Int64} (ha : ws[q0]? = some (a, .inl (g.2.2.2.1, n, .inr (.inl f)))) {i : Int32} {x : Int64} (hin : ¬ (i < 0 ∨ n ≤ i.toNatClampNeg)) (hdg : decode cc pc = .ok (.lastore, 1)) (hw' : ws.set q0 (a, .inl (g.2.2.2.1, n, .inr (.inl (vp_updL f i.toNatClampNeg x)))) = ws')
    (kk : ∀ (H1 : Heap) (locs1 : List Loc), xW g A s.heap ws' H1 locs1 → W p l e R s m args below meth c H1 locs1 cells slots Q (F0 m (pc + 1) ls rest)) : W p l e R s m args below meth c H locs cells slots Q (F0 m pc ls (.long x :: .int i :: .ref a :: rest)) :=
  va_last E.1.1 E.1.2.1 E.2.1 hw.1 hw.2.1 hw.2.2 q0 2 ha rfl hin hdg (fun H1 locs1 h1 h2 h3 => kk H1 locs1 (hw' ▸ ⟨h1, h2, h3⟩))
theorem xdast (E : xE p m c cc nL s args own g A) (hw : xW g A s.heap ws H locs) (q0 : Nat) {n : Nat} {f : Nat → UInt64} (ha : ws[q0]? = some (a, .inl (g.2.2.2.2, n, .inr (.inr (.inr (.inl f)))))) {i : Int32} {x : UInt64} (hin : ¬ (i < 0 ∨ n ≤ i.toNatClampNeg)) (hdg : decode cc pc = .ok (.dastore, 1)) (hw' : ws.set q0 (a, .inl (g.2.2.2.2, n, .inr (.inr (.inr (.inl (vf_upd f i.toNatClampNeg x)))))) = ws')
    (kk : ∀ (H1 : Heap) (locs1 : List Loc), xW g A s.heap ws' H1 locs1 → W p l e R s m args below meth c H1 locs1 cells slots Q (F0 m (pc + 1) ls rest)) : W p l e R s m args below meth c H locs cells slots Q (F0 m pc ls (.double x :: .int i :: .ref a :: rest)) :=
  va_dast E.1.1 E.1.2.1 E.2.1 hw.1 hw.2.1 hw.2.2 q0 3 ha rfl hin hdg (fun H1 locs1 h1 h2 h3 => kk H1 locs1 (hw' ▸ ⟨h1, h2, h3⟩))
theorem xlald (E : xE p m c cc nL s args own g A) (hw : xW g A s.heap ws H locs) (q0 : Nat) {n : Nat} {f : Nat → Int64} (ha : ws[q0]? = some (a, .inl (g.2.2.2.1, n, .inr (.inl f)))) {i : Int32} (hin : ¬ (i < 0 ∨ n ≤ i.toNatClampNeg)) (hdg : decode cc pc = .ok (.laload, 1))
    (kk : W p l e R s m args below meth c H locs cells slots Q (F0 m (pc + 1) ls (.long (f i.toNatClampNeg) :: rest))) : W p l e R s m args below meth c H locs cells slots Q (F0 m pc ls (.int i :: .ref a :: rest)) :=
  va_lald E.1.1 E.1.2.1 E.2.1 hw.1 q0 2 ha rfl hin hdg kk
theorem xdald (E : xE p m c cc nL s args own g A) (hw : xW g A s.heap ws H locs) (q0 : Nat) {n : Nat} {f : Nat → UInt64} (ha : ws[q0]? = some (a, .inl (g.2.2.2.2, n, .inr (.inr (.inr (.inl f)))))) {i : Int32} (hin : ¬ (i < 0 ∨ n ≤ i.toNatClampNeg)) (hdg : decode cc pc = .ok (.daload, 1))
    (kk : W p l e R s m args below meth c H locs cells slots Q (F0 m (pc + 1) ls (.double (f i.toNatClampNeg) :: rest))) : W p l e R s m args below meth c H locs cells slots Q (F0 m pc ls (.int i :: .ref a :: rest)) :=
  va_dald E.1.1 E.1.2.1 E.2.1 hw.1 q0 3 ha rfl hin hdg kk
/-- behind a call that may make cells -/
theorem xbackW {st0 : List Value} {av : List Value} {v : Option Value} (hw : xW g A s.heap ws H locs) (hA : ∀ q, s.heap.size ≤ q → A q) (is : List Nat) (hC : is.map (fun i => ws[i]?) = wc.map some) (ha : w1.map (fun q => q.1) = wc.map (fun q => q.1)) (sel : List Nat) {n : Nat} (hlen : ws.length = n) (hsel : xselok n is sel = true) (hw' : sel.map (fun i => (ws ++ w1)[i]?) = ws'.map some)
    (hr : va_Run p l e R s m args below meth c H locs cells slots mc ms (F0 m pc ls st0) rest (xPost g wc w1 H.size v av.toArray) (va_A wc H.size))
    (kk : ∀ (H1 : Heap) (locs1 : List Loc), xW g A s.heap ws' H1 locs1 → W p l e R s m args below meth c H1 locs1 (cells + mc) (slots + ms) Q (F0 m (pc + 3) ls (v.toList ++ rest))) : W p l e R s m args below meth c H locs cells slots Q (F0 m pc ls st0) := by
  obtain ⟨hP, hD, hS⟩ := hw
  have hF : ∀ q, va_A wc H.size q → A q := va_free hD hS hA is hC
  intro T hT X
  obtain ⟨v', st₀, t, T', L, h0, X', hL, e1, e2, ⟨⟨hv, hb⟩, hz, hk⟩, st⟩ := hr T hT X
  cases hv
  rw [h0] at hz hk
  have hP1 : va_P g.1 vwCl w1 T'.heap := by rw [e1]; exact hb
  obtain ⟨j1, j2⟩ := xjoin hP hD is hC ha (xdich hlen hsel hw') (H1 := T'.heap) (fun q h1 h2 => by rw [e1]; exact hk q h1 h2) hP1
  obtain ⟨t2, a1, b1⟩ := kk T'.heap (locs ++ L) ⟨j1, j2, ⟨Nat.le_trans hS.1 (by rw [e1]; exact hz), fun q h1 h2 => by rw [e1, hk q (Nat.lt_of_lt_of_le h1 hS.1) (fun z => h2 (hF q z))]; exact hS.2.1 q h1 h2, fun q hq => by
      rcases List.mem_append.mp hq with h | h
      · exact hS.2.2 q h
      · exact hF _ (hL q h)⟩⟩ T' rfl X'
  exact ⟨t2, st t2 a1, b1⟩
theorem xcallW {st0 st1 : List Value} {v : Option Value} (Ev : xE p m c cc nL s args own g A) (hX : xX A s s.heap) (hNc : xNc s) (hw : xW g A s.heap ws H locs) (As : List Value) (is : List Nat)
    (hM : xMW l y (xCW y bytes maxL ret hh) rm g wc As v w1) (hst : st0 = As.reverse ++ rest) (hn : va_nd is = true) (hC : is.map (fun i => ws[i]?) = wc.map some) (ha : w1.map (fun q => q.1) = wc.map (fun q => q.1)) (sel : List Nat) {n : Nat} (hlen : ws.length = n) (hsel : xselok n is sel = true) (hw' : sel.map (fun i => (ws ++ w1)[i]?) = ws'.map some)
    (q1 : Cond.methodLink own index y ∈ XW) (qs : xKW y bytes maxL ret hh As.length)
    (hR : rm.cells = 1 ∧ rm.slots = 6 ∧ rm.frames + 1 ≤ R.frames ∧ 8 + (maxL + 11) + rm.locals ≤ R.locals) (hf : cells + 1 ≤ R.cells ∧ slots + 6 ≤ R.slots) (hls : ls.size = nL) (hro : (rest.map fun v => v.category).sum ≤ 8) (hdg : decode cc pc = .ok (.invokestatic index, 3)) (hst1 : v.toList ++ rest = st1)
    (kk : ∀ (H1 : Heap) (locs1 : List Loc), xW g A s.heap ws' H1 locs1 → W p l e R s m args below meth c H1 locs1 (cells + 1) (slots + 6) Q (F0 m (pc + 3) ls st1)) : W p l e R s m args below meth c H locs cells slots Q (F0 m pc ls st0) := by
  subst hst hst1
  obtain ⟨F, hK, hA⟩ := Ev
  obtain ⟨q2, q4, q5, hd⟩ := qs
  have hts : ∀ w ∈ XW, w.before args s = true := F.2.2.2.2
  have cb : vx_CSW R s args own index y bytes maxL ret hh (xCW y bytes maxL ret hh) rm 1 6 As.length := ⟨⟨hR.1, hR.2.1, hR.2.2.1, hR.2.2.2, xpayW hts q5, List.mem_cons_self⟩, hts _ q5, hts _ q4, ⟨hd.1, hd.2.1⟩, fun sig h => by
    have h2 := hd.2.2
    rw [h] at h2
    exact (Option.some.inj h2).symm, hts _ q1, hts _ q2⟩
  exact xbackW (av := As) hw hA is hC ha sel hlen hsel hw' (vx_runSW (As := As) (rest := rest) F (hM H.size) cb ⟨xblindW, fun U hU hW => by
    obtain ⟨a1, a2, a3, a4, a5, a6⟩ := xpreX_of hK hX hw hA is hn hC hU hW (av := As)
    exact ⟨a1, a2, a3, a4, a5, a6, hNc.moved hW.alike⟩⟩ rfl rfl hls rfl (lv_room hro) hdg ⟨hf.1, hf.2⟩) kk
end
/-- a helper that catches, by its walk -/
theorem xofW {l : Launch} {y : MethodName} {cc : ByteArray} {maxL : Nat} {ret : Option FieldType} {rm : Room} {g : xG} {ws w1 : va_W} {av : List Value} {v : Option Value} {hh : List (Nat × Nat × Nat × Nat)} (hy : plainName y.cls = true) (hlen : (lg_sl av).length ≤ maxL)
    (body : ∀ (p : Program) (e : Env) (s : State) (m : MethodId) (below : List Frame) (meth : Method) (c : Code) (A : Nat → Prop) (ls : Array Slot), xE p m c cc maxL s av.toArray y.cls g A → meth.sig.returnType = ret → meth.locks = false → c.exceptionTable.toList = tableOf hh → xX A s s.heap → xNc s → xW g A s.heap ws s.heap [] → lv_has ls maxL (lv_args 0 av) →
      (∀ (H : Heap) (locs : List Loc), xW g A s.heap w1 H locs → (∀ t : State, t.heap = H → s.WarmedH t.vm → xPost g ws w1 s.heap.size v av.toArray s (.returned v) t) ∧ ∀ q ∈ locs, A q.base) →
      W p l e rm s m av.toArray below meth c s.heap [] 0 0 (MQ below (xPost g ws w1 s.heap.size v) av.toArray s 1 6 A) (F0 m 0 ls [])) : xMW l y (xCW y cc maxL ret hh) rm g ws av v w1 := by
  intro sz
  refine va_MetW (cc := cc) (maxL := maxL) (ret := ret) hy rfl ?_
  intro p e s m args below meth c s₁ B hml hv
  obtain ⟨rfl, hsz, hP, hK, hD0, hX, hNc⟩ := hv
  subst hsz
  have hts := atoms_spec (ws := xCW y cc maxL ret hh) B.pre
  have hD := hD0.self (sz := s.heap.size)
  have hl := lv_entry av (n := maxL) hlen
  rw [lg_entry_eq]
  generalize (lg_sl av ++ List.replicate (maxL - (lg_sl av).length) Slot.unset).toArray = ls at hl ⊢
  exact body p e s m below meth c _ ls ⟨⟨B.exec, B.bytes, hml, findClass_of_methodNamed B.named, fun w h => hts w (List.mem_cons_of_mem _ h)⟩, hK, fun q h => Or.inr h⟩ B.returns B.notSynchronized (vx_table (x := y) B (hts _ List.mem_cons_self)) hX hNc ⟨hP, hD, va_S.rf⟩ hl
    (fun H locs hw => ⟨fun t ht hW => ⟨⟨rfl, by rw [ht]; exact hw.1⟩, hw.2.2.F ht⟩, hw.2.2.2.2⟩)
