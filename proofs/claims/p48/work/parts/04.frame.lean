/-! The frame of every walk here: one list of words (XW), one list of array classes, contracts that name their outcome. -/
/-- class ids of the worlds' classes, of the arrays of int, of State, of long, of double -/
abbrev xG : Type := va_G × ClassId × ClassId × ClassId × ClassId
abbrev xT (g : xG) : List (ClassId × FieldType) := [(g.2.1, .int), (g.2.2.1, .object "SixCounts$State")]
abbrev xK (g : xG) (U : State) : Prop := va_K g.1 vwCl (xT g) U
def xW (g : xG) (A : Nat → Prop) (H0 : Heap) (ws : va_W) (H : Heap) (locs : List Loc) : Prop := va_P g.1 vwCl ws H ∧ va_D A ws ∧ va_S A H0 H locs
/-- where the cells of the world behind a call come from: k stays k, or is the callee's cell for the place k -/
def xselok (n : Nat) (is sel : List Nat) : Bool := decide (sel.length = n) && (List.range n).all (fun k => match sel[k]? with
  | some i => (decide (i = k) && decide (k ∉ is)) || (decide (n ≤ i) && decide (is[i - n]? = some k))
  | none => false)
theorem xat {ws wc : va_W} {is : List Nat} (hC : is.map (fun i => ws[i]?) = wc.map some) {j k : Nat} (h : is[j]? = some k) : ∃ q, ws[k]? = some q ∧ wc[j]? = some q := by
  have h1 : (is.map (fun i => ws[i]?))[j]? = (wc.map some)[j]? := by rw [hC]
  rw [List.getElem?_map, List.getElem?_map, h] at h1
  cases h2 : wc[j]? with
  | none => rw [h2] at h1; cases h1
  | some q => rw [h2] at h1; exact ⟨q, Option.some.inj h1, rfl⟩
theorem xat' {ws wc : va_W} {is : List Nat} (hC : is.map (fun i => ws[i]?) = wc.map some) {j : Nat} {q : Nat × va_E} (h : wc[j]? = some q) : ∃ k, is[j]? = some k ∧ ws[k]? = some q := by
  have h1 : (is.map (fun i => ws[i]?))[j]? = (wc.map some)[j]? := by rw [hC]
  rw [List.getElem?_map, List.getElem?_map, h] at h1
  cases h2 : is[j]? with
  | none => rw [h2] at h1; cases h1
  | some k => rw [h2] at h1; exact ⟨k, rfl, Option.some.inj h1⟩
theorem xadr {w1 wc : va_W} (h : w1.map (fun q => q.1) = wc.map (fun q => q.1)) {j : Nat} {q q0 : Nat × va_E} (h1 : w1[j]? = some q) (h0 : wc[j]? = some q0) : q.1 = q0.1 := by
  have h2 : (w1.map (fun q => q.1))[j]? = (wc.map (fun q => q.1))[j]? := by rw [h]
  rw [List.getElem?_map, List.getElem?_map, h1, h0] at h2
  exact Option.some.inj h2
theorem xlen {w1 wc ws : va_W} {is : List Nat} (h : w1.map (fun q => q.1) = wc.map (fun q => q.1)) (hC : is.map (fun i => ws[i]?) = wc.map some) : is.length = w1.length := by
  have h1 := congrArg List.length h
  have h2 := congrArg List.length hC
  rw [List.length_map, List.length_map] at h1 h2
  rw [h1, h2]
theorem xdich {ws w1 ws' : va_W} {n : Nat} {is sel : List Nat} (hn : ws.length = n) (hk : xselok n is sel = true) (hs : sel.map (fun i => (ws ++ w1)[i]?) = ws'.map some) (k : Nat) (q : Nat × va_E) (h : ws'[k]? = some q) : (∃ j : Nat, is[j]? = some k ∧ w1[j]? = some q) ∨ (k ∉ is ∧ ws[k]? = some q) := by
  obtain ⟨i, h1, h2⟩ := xat' hs h
  simp only [xselok, Bool.and_eq_true, decide_eq_true_eq, List.all_eq_true, List.mem_range] at hk
  obtain ⟨hl, hk⟩ := hk
  have hkn : k < n := by rw [← hl]; exact (List.getElem?_eq_some_iff.mp h1).1
  have h3 := hk k hkn
  rw [h1] at h3
  simp only [Bool.or_eq_true, Bool.and_eq_true, decide_eq_true_eq] at h3
  rcases h3 with ⟨h4, h5⟩ | ⟨h4, h5⟩
  · subst h4
    rw [List.getElem?_append_left (by omega)] at h2
    exact Or.inr ⟨h5, h2⟩
  · rw [List.getElem?_append_right (by omega), hn] at h2
    exact Or.inl ⟨_, h5, h2⟩
theorem xjoin {D : va_G} {cl : List vw_C} {A : Nat → Prop} {ws wc w1 ws' : va_W} {H H1 : Heap} (hP : va_P D cl ws H) (hD : va_D A ws) (is : List Nat) (hC : is.map (fun i => ws[i]?) = wc.map some) (ha : w1.map (fun q => q.1) = wc.map (fun q => q.1))
    (hx : ∀ (k : Nat) (q : Nat × va_E), ws'[k]? = some q → (∃ j : Nat, is[j]? = some k ∧ w1[j]? = some q) ∨ (k ∉ is ∧ ws[k]? = some q))
    (hk : ∀ q : Nat, q < H.size → ¬ va_A wc H.size q → H1[q]? = H[q]?) (hP1 : va_P D cl w1 H1) : va_P D cl ws' H1 ∧ va_D A ws' := by
  have key : ∀ (k : Nat) (q : Nat × va_E), ws'[k]? = some q → ∃ q0, ws[k]? = some q0 ∧ q0.1 = q.1 := by
    intro k q h
    rcases hx k q h with ⟨j, h1, h2⟩ | ⟨-, h2⟩
    · obtain ⟨q0, h3, h4⟩ := xat hC h1
      exact ⟨q0, h3, (xadr ha h2 h4).symm⟩
    · exact ⟨q, h2, rfl⟩
  refine ⟨fun k q h => ?_, fun i j p q hi hj e => ?_, fun k q h => ?_⟩
  · rcases hx k q h with ⟨j, h1, h2⟩ | ⟨h1, h2⟩
    · exact hP1 j q h2
    · have hlt := (hP k q h2).lt
      refine (hP k q h2).kept (hk q.1 hlt fun hz => ?_)
      rcases hz with ⟨j, e, hz⟩ | hz
      · obtain ⟨k2, h3, h4⟩ := xat' hC hz
        have h5 := hD.1 k k2 q (q.1, e) h2 h4 rfl
        subst h5
        exact h1 (List.mem_of_getElem? h3)
      · omega
  · obtain ⟨p0, h1, h2⟩ := key i p hi
    obtain ⟨q0, h3, h4⟩ := key j q hj
    exact hD.1 i j p0 q0 h1 h3 (h2.trans (e.trans h4.symm))
  · obtain ⟨q0, h1, h2⟩ := key k q h
    rw [← h2]
    exact hD.2 k q0 h1
/-- a contract: from the cells ws the method returns v, and the cells hold w1, at the same addresses -/
def xPre (g : xG) (ws : va_W) (sz : Nat) (av : List Value) : Array Value → State → Prop := va_Pc av (fun U => U.heap.size = sz ∧ va_P g.1 vwCl ws U.heap ∧ xK g U ∧ va_D (fun _ => True) ws)
def xPost (g : xG) (ws w1 : va_W) (sz : Nat) (v : Option Value) : Array Value → State → Outcome → State → Prop := fun _ st o t => (o = .returned v ∧ va_P g.1 vwCl w1 t.heap) ∧ va_F (va_A ws sz) st t
def xM (l : Launch) (y : MethodName) (wl : List Cond) (rm : Room) (g : xG) (ws : va_W) (av : List Value) (v : Option Value) (w1 : va_W) : Prop := ∀ sz : Nat, Met l y wl rm (xPre g ws sz av) (xPost g ws w1 sz v) 0 0 (va_A ws sz)
/-- the words of a method: its code, and the list that all have -/
abbrev xC (y : MethodName) (cc : ByteArray) (maxL : Nat) (ret : Option FieldType) : List Cond := Cond.code y cc maxL ret :: XW
/-- what a call needs of its callee's words -/
def xKV (y : MethodName) (bytes : ByteArray) (maxL : Nat) (ret : Option FieldType) (n : Nat) : Prop := Cond.instanceMethod y ∈ XW ∧ Cond.selects y.cls y y ∈ XW ∧ Cond.initialized y.cls ∈ XW ∧ Cond.code y bytes maxL ret ∈ XW ∧ y.cls ≠ "java/lang/invoke/MethodHandle" ∧ y.cls ≠ "java/lang/invoke/VarHandle" ∧ (parseMethodDescriptor y.desc).map (fun d => d.parameters.length) = some n
def xKS (y : MethodName) (bytes : ByteArray) (maxL : Nat) (ret : Option FieldType) (n : Nat) : Prop := Cond.static y ∈ XW ∧ Cond.initialized y.cls ∈ XW ∧ Cond.code y bytes maxL ret ∈ XW ∧ y.cls ≠ "java/lang/invoke/MethodHandle" ∧ y.cls ≠ "java/lang/invoke/VarHandle" ∧ (parseMethodDescriptor y.desc).map (fun d => d.parameters.length) = some n
theorem xgood_code {y : MethodName} {cc : ByteArray} {maxL : Nat} {ret : Option FieldType} : goodWord (Cond.code y cc maxL ret) = true := by simp [goodWord, Cond.onTables, Cond.keeps, Cond.steady]
section
variable {p : Program} {l : Launch} {e : Env} {R : Room} {s : State} {m : MethodId} {args : Array Value} {below : List Frame} {meth : Method} {c : Code} {H : Heap} {locs : List Loc} {cells slots : Nat} {Q : State → Prop}
variable {g : xG} {A : Nat → Prop} {ws wc w1 ws' : va_W} {cc bytes : ByteArray} {nL maxL pc index : Nat} {ret : Option FieldType} {rm : Room} {y : MethodName} {own : String} {ls : Array Slot}
/-- what a walk has at hand: the machine, its code, the words -/
def xE (p : Program) (m : MethodId) (c : Code) (cc : ByteArray) (nL : Nat) (s : State) (args : Array Value) (own : String) (g : xG) (A : Nat → Prop) : Prop :=
  CallFix p m c cc nL s args XW own ∧ xK g s ∧ ∀ q, s.heap.size ≤ q → A q
theorem xpay (hts : ∀ w ∈ XW, w.before args s = true) {y : MethodName} {bytes : ByteArray} {maxL : Nat} {ret : Option FieldType} (hc : Cond.code y bytes maxL ret ∈ XW) : ∀ w ∈ xC y bytes maxL ret, ∀ (a' : Array Value) (U : State), s.WarmedH U.vm → w.before a' U = true := by
  intro w hw a' U hW
  rcases List.mem_cons.mp hw with h | h
  · subst h
    exact word_at hW (good_of_word xgood_code) (hts _ hc)
  · exact word_at hW (good_of_word (XW_good h)) (hts _ h)
theorem xblind {sz : Nat} {av : List Value} : FrameBlind (xPre g ws sz av) := fun a U gf mk q => by
  obtain ⟨q0, q1, qP, qK, qD⟩ := q
  exact ⟨q0, q1, qP, va_K.moved (u := U) (U := U.calling gf mk a) (Vm.Alike.refl U.vm) qK, qD⟩
/-- behind a call: the same walk, over the world with the callee's cells as it left them -/
theorem xback {st0 rest : List Value} {av : List Value} {v : Option Value} {H0 : Heap} (hw : xW g A H0 ws H locs) (hA : ∀ q, H0.size ≤ q → A q) (is : List Nat) (hC : is.map (fun i => ws[i]?) = wc.map some) (ha : w1.map (fun q => q.1) = wc.map (fun q => q.1)) (sel : List Nat) {n : Nat} (hlen : ws.length = n) (hsel : xselok n is sel = true) (hw' : sel.map (fun i => (ws ++ w1)[i]?) = ws'.map some)
    (hr : va_Run p l e R s m args below meth c H locs cells slots 0 0 (F0 m pc ls st0) rest (xPost g wc w1 H.size v av.toArray) (va_A wc H.size))
    (kk : ∀ (H1 : Heap) (locs1 : List Loc), xW g A H0 ws' H1 locs1 → W p l e R s m args below meth c H1 locs1 cells slots Q (F0 m (pc + 3) ls (v.toList ++ rest))) : W p l e R s m args below meth c H locs cells slots Q (F0 m pc ls st0) := by
  obtain ⟨hP, hD, hS⟩ := hw
  have hF : ∀ q, va_A wc H.size q → A q := va_free hD hS hA is hC
  intro T hT X
  obtain ⟨v', st₀, t, T', L, h0, X', hL, e1, e2, ⟨⟨hv, hb⟩, hz, hk⟩, st⟩ := hr T hT X
  cases hv
  rw [h0] at hz hk
  have hP1 : va_P g.1 vwCl w1 T'.heap := by rw [e1]; exact hb
  obtain ⟨j1, j2⟩ := xjoin hP hD is hC ha (xdich hlen hsel hw') (H1 := T'.heap) (fun q h1 h2 => by rw [e1]; exact hk q h1 h2) hP1
  obtain ⟨t2, a1, b1⟩ := kk T'.heap (locs ++ L) ⟨j1, j2, ⟨Nat.le_trans hS.1 (by rw [e1]; exact hz), fun q h1 h2 => by rw [e1, hk q (Nat.lt_of_lt_of_le h1 hS.1) (fun z => h2 (hF q z))]; exact hS.2.1 q h1 h2, fun q hq => by
      rcases List.mem_append.mp hq with h | h
      · exact hS.2.2 q h
      · exact hF _ (hL q h)⟩⟩ T' rfl X'
  exact ⟨t2, st t2 a1, b1⟩
theorem xpre_of {T : State} {av : List Value} (hK : xK g s) {H0 : Heap} (hw : xW g A H0 ws H locs) (is : List Nat) (hn : va_nd is = true) (hC : is.map (fun i => ws[i]?) = wc.map some) (hU : T.heap = H) (hW : s.WarmedH T.vm) : xPre g wc H.size av av.toArray T := by
  have hs : is.filterMap (fun i => ws[i]?) = wc := by
    have h1 : ∀ (is : List Nat) (wc : va_W), is.map (fun i => ws[i]?) = wc.map some → is.filterMap (fun i => ws[i]?) = wc := by
      intro is
      induction is with
      | nil => intro wc h; cases wc with
        | nil => rfl
        | cons => cases h
      | cons i is ih => intro wc h; cases wc with
        | nil => cases h
        | cons q wc =>
          rw [List.map_cons, List.map_cons] at h
          rw [List.filterMap_cons, (List.cons.inj h).1, ih wc (List.cons.inj h).2]
    exact h1 is wc hC
  exact ⟨rfl, by rw [hU], by rw [hU]; exact hw.1.sub is hs, va_K.moved hW.alike hK, (hw.2.1.sub is hn hC).weaken (fun _ _ _ _ => trivial)⟩
/-- a virtual call by contract -/
theorem xcallV {st0 st1 : List Value} {v : Option Value} {b ci : Nat} {fs : List Value} {kc : vw_C} {rest : List Value} (E : xE p m c cc nL s args own g A) (hw : xW g A s.heap ws H locs) (As : List Value) (is : List Nat)
    (hM : xM l y (xC y bytes maxL ret) rm g wc (.ref b :: As) v w1) (hst : st0 = As.reverse ++ .ref b :: rest) (hn : va_nd is = true) (hC : is.map (fun i => ws[i]?) = wc.map some) (ha : w1.map (fun q => q.1) = wc.map (fun q => q.1)) (sel : List Nat) {n : Nat} (hlen : ws.length = n) (hsel : xselok n is sel = true) (hw' : sel.map (fun i => (ws ++ w1)[i]?) = ws'.map some) (hrecv : wc[0]? = some (b, .inr (ci, fs))) (hcl : vwCl[ci]? = some kc) (hyc : y.cls = kc.1)
    (q1 : Cond.methodLink own index y ∈ XW) (qs : xKV y bytes maxL ret As.length)
    (hR : rm.cells = 0 ∧ rm.slots = 0 ∧ rm.frames + 1 ≤ R.frames ∧ 8 + (maxL + 11) + rm.locals ≤ R.locals) (hf : cells ≤ R.cells ∧ slots ≤ R.slots) (hls : ls.size = nL) (hro : (rest.map fun v => v.category).sum ≤ 8) (hdg : decode cc pc = .ok (.invokevirtual index, 3)) (hst1 : v.toList ++ rest = st1)
    (kk : ∀ (H1 : Heap) (locs1 : List Loc), xW g A s.heap ws' H1 locs1 → W p l e R s m args below meth c H1 locs1 cells slots Q (F0 m (pc + 3) ls st1)) : W p l e R s m args below meth c H locs cells slots Q (F0 m pc ls st0) := by
  subst hst hst1
  obtain ⟨F, hK, hA⟩ := E
  obtain ⟨q2, q3, q4, q5, hd⟩ := qs
  have hts : ∀ w ∈ XW, w.before args s = true := F.2.2.2.2
  have cb : CallB R s args own index y bytes maxL ret (xC y bytes maxL ret) rm 0 0 As.length := ⟨hR.1, hR.2.1, hR.2.2.1, hR.2.2.2, xpay hts q5, List.mem_cons_self, hts _ q5, hts _ q4, ⟨hd.1, hd.2.1⟩, fun sig h => by
    have h2 := hd.2.2
    rw [h] at h2
    exact (Option.some.inj h2).symm, hts _ q1⟩
  have hP := hw.1
  have hrr := va_recv (a := b) (q0 := 0) (ci := ci) hK (hP.sub is (show is.filterMap (fun i => ws[i]?) = wc from (by
      have h1 : ∀ (is : List Nat) (wc : va_W), is.map (fun i => ws[i]?) = wc.map some → is.filterMap (fun i => ws[i]?) = wc := by
        intro is
        induction is with
        | nil => intro wc h; cases wc with
          | nil => rfl
          | cons => cases h
        | cons i is ih => intro wc h; cases wc with
          | nil => cases h
          | cons q wc =>
            rw [List.map_cons, List.map_cons] at h
            rw [List.filterMap_cons, (List.cons.inj h).1, ih wc (List.cons.inj h).2]
      exact h1 is wc hC))) hcl hrecv
  refine xback (av := .ref b :: As) hw hA is hC ha sel hlen hsel hw' (va_runV (As := As) (rest := rest) F (hM H.size) ⟨cb, hts _ q2, hts _ q3⟩ ⟨xblind, by rw [hyc]; exact hrr, fun U hU hW => xpre_of hK hw is hn hC hU hW⟩ rfl rfl hls rfl (lv_room hro) hdg ⟨hf.1, hf.2⟩) kk
/-- a static call by contract -/
theorem xcallS {st0 st1 : List Value} {v : Option Value} {rest : List Value} (E : xE p m c cc nL s args own g A) (hw : xW g A s.heap ws H locs) (As : List Value) (is : List Nat)
    (hM : xM l y (xC y bytes maxL ret) rm g wc As v w1) (hst : st0 = As.reverse ++ rest) (hn : va_nd is = true) (hC : is.map (fun i => ws[i]?) = wc.map some) (ha : w1.map (fun q => q.1) = wc.map (fun q => q.1)) (sel : List Nat) {n : Nat} (hlen : ws.length = n) (hsel : xselok n is sel = true) (hw' : sel.map (fun i => (ws ++ w1)[i]?) = ws'.map some)
    (q1 : Cond.methodLink own index y ∈ XW) (qs : xKS y bytes maxL ret As.length)
    (hR : rm.cells = 0 ∧ rm.slots = 0 ∧ rm.frames + 1 ≤ R.frames ∧ 8 + (maxL + 11) + rm.locals ≤ R.locals) (hf : cells ≤ R.cells ∧ slots ≤ R.slots) (hls : ls.size = nL) (hro : (rest.map fun v => v.category).sum ≤ 8) (hdg : decode cc pc = .ok (.invokestatic index, 3)) (hst1 : v.toList ++ rest = st1)
    (kk : ∀ (H1 : Heap) (locs1 : List Loc), xW g A s.heap ws' H1 locs1 → W p l e R s m args below meth c H1 locs1 cells slots Q (F0 m (pc + 3) ls st1)) : W p l e R s m args below meth c H locs cells slots Q (F0 m pc ls st0) := by
  subst hst hst1
  obtain ⟨F, hK, hA⟩ := E
  obtain ⟨q2, q4, q5, hd⟩ := qs
  have hts : ∀ w ∈ XW, w.before args s = true := F.2.2.2.2
  have cb : CallB R s args own index y bytes maxL ret (xC y bytes maxL ret) rm 0 0 As.length := ⟨hR.1, hR.2.1, hR.2.2.1, hR.2.2.2, xpay hts q5, List.mem_cons_self, hts _ q5, hts _ q4, ⟨hd.1, hd.2.1⟩, fun sig h => by
    have h2 := hd.2.2
    rw [h] at h2
    exact (Option.some.inj h2).symm, hts _ q1⟩
  exact xback (av := As) hw hA is hC ha sel hlen hsel hw' (va_runS (As := As) (rest := rest) F (hM H.size) ⟨cb, hts _ q2⟩ ⟨xblind, fun U hU hW => xpre_of hK hw is hn hC hU hW⟩ rfl rfl hls rfl (lv_room hro) hdg ⟨hf.1, hf.2⟩) kk
end
/-- a method by its walk: 'out' is what it comes to, Z what its end owes -/
theorem xof {l : Launch} {y : MethodName} {cc : ByteArray} {maxL : Nat} {ret : Option FieldType} {rm : Room} {g : xG} {ws w1 : va_W} {av : List Value} {v : Option Value} (hy : plainName y.cls = true) (hlen : (lg_sl av).length ≤ maxL) (hrm : rm.cells = 0 ∧ rm.slots = 0)
    (body : ∀ (p : Program) (e : Env) (s : State) (m : MethodId) (below : List Frame) (meth : Method) (c : Code) (A : Nat → Prop) (ls : Array Slot), xE p m c cc maxL s av.toArray y.cls g A → meth.sig.returnType = ret → meth.locks = false → xW g A s.heap ws s.heap [] → lv_has ls maxL (lv_args 0 av) →
      (∀ (H : Heap) (locs : List Loc), xW g A s.heap w1 H locs → (∀ t : State, t.heap = H → s.WarmedH t.vm → xPost g ws w1 s.heap.size v av.toArray s (.returned v) t) ∧ ∀ q ∈ locs, A q.base) →
      A = va_A ws s.heap.size → W p l e rm s m av.toArray below meth c s.heap [] 0 0 (MQ below (xPost g ws w1 s.heap.size v) av.toArray s 0 0 A) (F0 m 0 ls [])) : xM l y (xC y cc maxL ret) rm g ws av v w1 := by
  intro sz
  refine Met.ofW (cc := cc) (maxL := maxL) (ret := ret) hy rfl ?_
  intro p e s m args below meth c s₁ B hml hv
  obtain ⟨rfl, hsz, hP, hK, hD0⟩ := hv
  subst hsz
  have hts := atoms_spec (ws := xC y cc maxL ret) B.pre
  have hD := hD0.self (sz := s.heap.size)
  have hl := lv_entry av (n := maxL) hlen
  rw [lg_entry_eq]
  generalize (lg_sl av ++ List.replicate (maxL - (lg_sl av).length) Slot.unset).toArray = ls at hl ⊢
  exact body p e s m below meth c _ ls ⟨⟨B.exec, B.bytes, hml, findClass_of_methodNamed B.named, fun w h => hts w (List.mem_cons_of_mem _ h)⟩, hK, fun q h => Or.inr h⟩ B.returns B.notSynchronized ⟨hP, hD, va_S.rf⟩ hl
    (fun H locs hw => ⟨fun t ht hW => ⟨⟨rfl, by rw [ht]; exact hw.1⟩, hw.2.2.F ht⟩, hw.2.2.2.2⟩) rfl
