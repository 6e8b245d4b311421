/-! Constructors: what they need, what they come to, how they are called. -/
def xN (U : State) : Prop := va_Nw (.methodLinkNest RX10 32 yX2_init RX10) U ∧ va_Nw (.methodLinkNest RX2 21 yX8_init RX10) U ∧ va_Nw (.methodLinkNest RX10 39 yX6_init RX10) U ∧ va_Nw (.methodLinkNest RX10 46 yX4_init RX10) U ∧ va_Nw (.methodLinkNest RX10 53 yX1_init RX10) U ∧ va_AO "SixCounts$State" U
theorem xN.warm {s U : State} (hW : s.WarmedH U.vm) (h : xN s) : xN U := by
  obtain ⟨h1, h2, h3, h4, h5, h6⟩ := h
  exact ⟨va_Nw.warmM hW h1, va_Nw.warmM hW h2, va_Nw.warmM hW h3, va_Nw.warmM hW h4, va_Nw.warmM hW h5, va_AO.moved hW.alike h6⟩
def xPreI (g : xG) (ws : va_W) (sz : Nat) (av : List Value) : Array Value → State → Prop := va_Pc av (fun U => U.heap.size = sz ∧ va_P g.1 vwCl ws U.heap ∧ xK g U ∧ va_D (fun _ => True) ws ∧ xN U)
def xPostI (g : xG) (ws : va_W) (sz : Nat) (post : va_W → Prop) : Array Value → State → Outcome → State → Prop := fun _ st o t => (o = .returned none ∧ ∃ w1, post w1 ∧ va_P g.1 vwCl w1 t.heap ∧ va_D (va_A ws sz) w1) ∧ va_F (va_A ws sz) st t
/-- a constructor's contract: from the cells ws it comes to some cells of which 'post' holds -/
def xMI (l : Launch) (y : MethodName) (wl : List Cond) (rm : Room) (g : xG) (ws : va_W) (av : List Value) (mc ms : Nat) (post : va_W → Prop) : Prop := ∀ sz : Nat, Met l y wl rm (xPreI g ws sz av) (xPostI g ws sz post) mc ms (va_A ws sz)
theorem xblindI {g : xG} {ws : va_W} {sz : Nat} {av : List Value} : FrameBlind (xPreI g ws sz av) := fun a U gf mk q => by
  obtain ⟨q0, q1, qP, qK, qD, qN⟩ := q
  exact ⟨q0, q1, qP, va_K.moved (u := U) (U := U.calling gf mk a) (Vm.Alike.refl U.vm) qK, qD, qN⟩
section
variable {p : Program} {l : Launch} {e : Env} {R : Room} {s : State} {m : MethodId} {args : Array Value} {below : List Frame} {meth : Method} {c : Code} {H : Heap} {locs : List Loc} {cells slots : Nat} {Q : State → Prop}
variable {g : xG} {A : Nat → Prop} {ws wc wr ws' : va_W} {cc bytes : ByteArray} {nL maxL pc index a mc ms : Nat} {ret : Option FieldType} {rm : Room} {y : MethodName} {own : String} {ls : Array Slot} {rest : List Value}
theorem xputF (E : xE p m c cc nL s args own g A) (hw : xW g A s.heap ws H locs) (q0 : Nat) {ci : Nat} {fs : List Value} (he : ws[q0]? = some (a, .inr (ci, fs))) {ref C : String} {T : u_T} {N : Nat} (hc : vwCl[ci]? = some (C, T, N)) (k : Nat) (hk : k < N) (hin : ∀ w ∈ u_ws C T N, w ∈ XW)
    {ty0 : Nat → FieldType} (hty : ∀ k, k < N → parseFieldDescriptor (T k).2.2.1 = some (ty0 k)) (hnm : ∀ a, a < N → ∀ b, b < N → a ≠ b → (T a).2.1 ≠ (T b).2.1)
    (hq : Cond.fieldLink own index ref (T k).2.1 (T k).2.2.1 ∈ XW) (hr : (T k).1 = ref) (hfin : (T k).2.2.2 = true) (hin2 : meth.name = "<init>") (hdecl : (T k).1 = own) {v : Value} (hn : narrow (ty0 k) v = v) (hfit : fits (ty0 k) v = true) (hl : k < fs.length) (hdg : decode cc pc = .ok (.putfield index, 3)) (hw' : ws.set q0 (a, .inr (ci, fs.set k v)) = ws')
    (kk : ∀ (H1 : Heap) (locs1 : List Loc), xW g A s.heap ws' H1 locs1 → W p l e R s m args below meth c H1 locs1 cells slots Q (F0 m (pc + 3) ls rest)) : W p l e R s m args below meth c H locs cells slots Q (F0 m pc ls (v :: .ref a :: rest)) := by
  obtain ⟨⟨hx, hb, -, hown, hts⟩, hK, -⟩ := E
  exact va_putF hx hb hts hin ty0 hty hnm hown hK hw.1 hw.2.1 hw.2.2 q0 he hc k hk (hts _ hq) (fun x h => by rw [← hr]; exact h) hfin hin2 hdecl (hty k hk) hn hfit hl hdg (fun H1 locs1 h1 h2 h3 => kk H1 locs1 (hw' ▸ ⟨h1, h2, h3⟩))
theorem xnewa (E : xE p m c cc nL s args own g A) (hw : xW g A s.heap ws H locs) (harr : Cond.arrayClass .int ∈ XW) {n : Int32} {N : Nat} (hn : ¬ n < 0) (hN : n.toNatClampNeg = N) (hbytes : N * componentBytes .int ≤ 536870912) (hcells : cells + 1 ≤ R.cells) (hslots : slots + N ≤ R.slots) (hdg : decode cc pc = .ok (.newarray .int, 2))
    (kk : ∀ (q : Nat) (H1 : Heap), xW g A s.heap (ws ++ [(q, .inl (g.2.1, N, .inl (fun _ => 0)))]) H1 locs → W p l e R s m args below meth c H1 locs (cells + 1) (slots + N) Q (F0 m (pc + 2) ls (.ref q :: rest))) : W p l e R s m args below meth c H locs cells slots Q (F0 m pc ls (.int n :: rest)) := by
  obtain ⟨⟨hx, hb, -, hown, hts⟩, hK, hA⟩ := E
  refine va_newa (atype := .int) (ty := .int) (a0 := (N, .inl (fun _ => 0))) hx hb (hts _ harr) rfl hK hw.1 hw.2.1 hw.2.2 hA (fun _ => rfl) hn hN hbytes hcells hslots hdg (fun q cA H1 h1 h2 h3 h4 => ?_)
  have e1 : s.vm.findClass ("[" ++ FieldType.int.toString) = some g.2.1 := (hK.2 0 _ rfl).2
  have e2 : s.vm.findClass ("[" ++ FieldType.int.toString) = some cA := (h1.2 2 (cA, .int) rfl).2
  have e3 : g.2.1 = cA := Option.some.inj (e1.symm.trans e2)
  rw [← e3] at h2 h3
  exact kk q H1 ⟨h2, h3, h4⟩
theorem xnewq (E : xE p m c cc nL s args own g A) (hN9 : va_AO "SixCounts$State" s) (hw : xW g A s.heap ws H locs) (hcl : Cond.classLink own index "SixCounts$State" ∈ XW) {n : Int32} {N : Nat} (hn : ¬ n < 0) (hN : n.toNatClampNeg = N) (hbytes : N * 4 ≤ 536870912) (hcells : cells + 1 ≤ R.cells) (hslots : slots + N ≤ R.slots) (hdg : decode cc pc = .ok (.anewarray index, 3))
    (kk : ∀ (q : Nat) (H1 : Heap), xW g A s.heap (ws ++ [(q, .inl (g.2.2.1, N, .inr (.inr (.inr (.inr (fun _ => none))))))]) H1 locs → W p l e R s m args below meth c H1 locs (cells + 1) (slots + N) Q (F0 m (pc + 3) ls (.ref q :: rest))) : W p l e R s m args below meth c H locs cells slots Q (F0 m pc ls (.int n :: rest)) := by
  obtain ⟨⟨hx, hb, -, hown, hts⟩, hK, hA⟩ := E
  refine va_newq hx hb hown (hts _ hcl) hN9 hK hw.1 hw.2.1 hw.2.2 hA hn hN hbytes hcells hslots hdg (fun q cA H1 h1 h2 h3 h4 => ?_)
  obtain ⟨k1, c1, e1, e2, e3, e4⟩ := (hK.2 1 _ rfl).2
  obtain ⟨k2, c2, e5, e6, e7, e8⟩ := (h1.2 2 (cA, .object "SixCounts$State") rfl).2
  have e9 : g.2.2.1 = cA := Option.some.inj (e4.symm.trans e8)
  rw [← e9] at h2 h3
  exact kk q H1 ⟨h2, h3, h4⟩
theorem xnew (E : xE p m c cc nL s args own g A) (hw : xW g A s.heap ws H locs) {C : String} {T : u_T} {N ci : Nat} (hin : ∀ w ∈ u_ws C T N, w ∈ XW) {ty : Nat → FieldType} (hty : ∀ k, k < N → parseFieldDescriptor (T k).2.2.1 = some (ty k)) (hcl : Cond.classLink own index C ∈ XW) (hinst : Cond.instantiable C N ∈ XW) (hini : Cond.initialized C ∈ XW) (hc : vwCl[ci]? = some (C, T, N)) {fs : List Value} (hfs : ∀ j, j < N → defaultValue (ty j) = vp_V fs j) (hcells : cells + 1 ≤ R.cells) (hslots : slots + N ≤ R.slots) (hdg : decode cc pc = .ok (.new index, 3))
    (kk : ∀ (q : Nat) (H1 : Heap), xW g A s.heap (ws ++ [(q, .inr (ci, fs))]) H1 locs → W p l e R s m args below meth c H1 locs (cells + 1) (slots + N) Q (F0 m (pc + 3) ls (.ref q :: rest))) : W p l e R s m args below meth c H locs cells slots Q (F0 m pc ls rest) := by
  obtain ⟨⟨hx, hb, -, hown, hts⟩, hK, hA⟩ := E
  exact va_new hx hb hts hin ty hty hown (hts _ hcl) (hts _ hinst) (hts _ hini) hK hw.1 hw.2.1 hw.2.2 hA hc hfs hcells hslots hdg (fun q H1 h1 h2 h3 => kk q H1 ⟨h1, h2, h3⟩)
theorem xastq (E : xE p m c cc nL s args own g A) (hw : xW g A s.heap ws H locs) (q0 qk ci : Nat) {r : vw_C} {n v : Nat} {vs : List Value} {f : Nat → Option Nat} (ha : ws[q0]? = some (a, .inl (g.2.2.1, n, .inr (.inr (.inr (.inr f)))))) (hr : r.1 = "SixCounts$State") (hv : ws[qk]? = some (v, .inr (ci, vs))) (hc : vwCl[ci]? = some r) {i : Int32} (hin : ¬ (i < 0 ∨ n ≤ i.toNatClampNeg)) (hdg : decode cc pc = .ok (.aastore, 1)) (hw' : ws.set q0 (a, .inl (g.2.2.1, n, .inr (.inr (.inr (.inr (va_up f i.toNatClampNeg (some v))))))) = ws')
    (kk : ∀ (H1 : Heap) (locs1 : List Loc), xW g A s.heap ws' H1 locs1 → W p l e R s m args below meth c H1 locs1 cells slots Q (F0 m (pc + 1) ls rest)) : W p l e R s m args below meth c H locs cells slots Q (F0 m pc ls (.ref v :: .int i :: .ref a :: rest)) :=
  va_astq E.1.1 E.1.2.1 E.2.1 hw.1 hw.2.1 hw.2.2 q0 1 qk ci ha (by rw [hr]; rfl) hv hc hin hdg (fun H1 locs1 h1 h2 h3 => kk H1 locs1 (hw' ▸ ⟨h1, h2, h3⟩))
theorem xbackI {st0 : List Value} {av : List Value} {post : va_W → Prop} (hw : xW g A s.heap ws H locs) (hA : ∀ q, s.heap.size ≤ q → A q) (is isR : List Nat) (hC : is.map (fun i => ws[i]?) = wc.map some) (hR : isR.map (fun i => ws[i]?) = wr.map some) (hn : va_nd isR = true) (hdis : ∀ i ∈ isR, i ∉ is)
    (hr : va_Run p l e R s m args below meth c H locs cells slots mc ms (F0 m pc ls st0) rest (xPostI g wc H.size post av.toArray) (va_A wc H.size))
    (kk : ∀ (w1 : va_W) (H1 : Heap) (locs1 : List Loc), post w1 → xW g A s.heap (wr ++ w1) H1 locs1 → W p l e R s m args below meth c H1 locs1 (cells + mc) (slots + ms) Q (F0 m (pc + 3) ls rest)) : W p l e R s m args below meth c H locs cells slots Q (F0 m pc ls st0) := by
  obtain ⟨hP, hD, hS⟩ := hw
  have hF : ∀ q, va_A wc H.size q → A q := va_free hD hS hA is hC
  intro T hT X
  obtain ⟨v', st₀, t, T', L, h0, X', hL, e1, e2, ⟨⟨hv, w1, hp, hb, hD1⟩, hz, hk⟩, st⟩ := hr T hT X
  cases hv
  rw [h0] at hz hk
  have hP1 : va_P g.1 vwCl w1 T'.heap := by rw [e1]; exact hb
  obtain ⟨j1, j2⟩ := va_join hP hD is isR hC hR hn hdis (H1 := T'.heap) (fun q h1 h2 => by rw [e1]; exact hk q h1 h2) hF hP1 hD1
  obtain ⟨t2, a1, b1⟩ := kk w1 T'.heap (locs ++ L) hp ⟨j1, j2, ⟨Nat.le_trans hS.1 (by rw [e1]; exact hz), fun q h1 h2 => by rw [e1, hk q (Nat.lt_of_lt_of_le h1 hS.1) (fun z => h2 (hF q z))]; exact hS.2.1 q h1 h2, fun q hq => by
      rcases List.mem_append.mp hq with h | h
      · exact hS.2.2 q h
      · exact hF _ (hL q h)⟩⟩ T' rfl X'
  exact ⟨t2, st t2 a1, b1⟩
theorem xpreI_of {T : State} {av : List Value} (hK : xK g s) (hN : xN s) (hw : xW g A s.heap ws H locs) (is : List Nat) (hn : va_nd is = true) (hC : is.map (fun i => ws[i]?) = wc.map some) (hU : T.heap = H) (hW : s.WarmedH T.vm) : xPreI g wc H.size av av.toArray T := by
  obtain ⟨h1, h2, h3, h4, h5⟩ := xpre_of (T := T) (av := av) hK hw is hn hC hU hW
  exact ⟨h1, h2, h3, h4, h5, hN.warm hW⟩
/-- what a constructor's caller needs of its words -/
def xKI (y : MethodName) (bytes : ByteArray) (maxL : Nat) : Prop := Cond.instanceMethod y ∈ XW ∧ Cond.initialized y.cls ∈ XW ∧ Cond.code y bytes maxL none ∈ XW ∧ y.name = "<init>" ∧ y.cls ≠ "java/lang/invoke/MethodHandle" ∧ y.cls ≠ "java/lang/invoke/VarHandle" ∧ (parseMethodDescriptor y.desc).map (fun d => d.parameters.length) = some 0
theorem xcallI {b : Nat} {post : va_W → Prop} (Ev : xE p m c cc nL s args own g A) (hN : xN s) (hw : xW g A s.heap ws H locs) (is isR : List Nat)
    (hM : xMI l y (xC y bytes maxL none) rm g wc [.ref b] mc ms post) (hn : va_nd is = true) (hC : is.map (fun i => ws[i]?) = wc.map some) (hRr : isR.map (fun i => ws[i]?) = wr.map some) (hnR : va_nd isR = true) (hdis : ∀ i ∈ isR, i ∉ is)
    (q1 : Cond.methodLink own index y ∈ XW) (qs : xKI y bytes maxL)
    (hR : rm.cells = mc ∧ rm.slots = ms ∧ rm.frames + 1 ≤ R.frames ∧ 8 + (maxL + 11) + rm.locals ≤ R.locals) (hf : cells + mc ≤ R.cells ∧ slots + ms ≤ R.slots) (hls : ls.size = nL) (hro : (rest.map fun v => v.category).sum ≤ 8) (hdg : decode cc pc = .ok (.invokespecial index, 3))
    (kk : ∀ (w1 : va_W) (H1 : Heap) (locs1 : List Loc), post w1 → xW g A s.heap (wr ++ w1) H1 locs1 → W p l e R s m args below meth c H1 locs1 (cells + mc) (slots + ms) Q (F0 m (pc + 3) ls rest)) : W p l e R s m args below meth c H locs cells slots Q (F0 m pc ls (.ref b :: rest)) := by
  obtain ⟨F, hK, hA⟩ := Ev
  obtain ⟨q2, q4, q5, q6, hd⟩ := qs
  have hts : ∀ w ∈ XW, w.before args s = true := F.2.2.2.2
  have cb : CallB R s args own index y bytes maxL none (xC y bytes maxL none) rm mc ms 0 := ⟨hR.1, hR.2.1, hR.2.2.1, hR.2.2.2, xpay hts q5, List.mem_cons_self, hts _ q5, hts _ q4, ⟨hd.1, hd.2.1⟩, fun sig h => by
    have h2 := hd.2.2
    rw [h] at h2
    exact (Option.some.inj h2).symm, hts _ q1⟩
  exact xbackI (av := [.ref b]) hw hA is isR hC hRr hnR hdis (va_runI (As := []) (rest := rest) F (hM H.size) ⟨cb, q6, hts _ q2⟩ ⟨xblindI, fun U hU hW => xpreI_of hK hN hw is hn hC hU hW⟩ rfl rfl hls rfl (lv_room hro) hdg ⟨hf.1, hf.2⟩) kk
theorem xcallIN {b : Nat} {host : String} {post : va_W → Prop} (Ev : xE p m c cc nL s args own g A) (hN : xN s) (hw : xW g A s.heap ws H locs) (is isR : List Nat)
    (hM : xMI l y (xC y bytes maxL none) rm g wc [.ref b] mc ms post) (hn : va_nd is = true) (hC : is.map (fun i => ws[i]?) = wc.map some) (hRr : isR.map (fun i => ws[i]?) = wr.map some) (hnR : va_nd isR = true) (hdis : ∀ i ∈ isR, i ∉ is)
    (q1 : va_Nw (.methodLinkNest own index y host) s) (qs : xKI y bytes maxL)
    (hR : rm.cells = mc ∧ rm.slots = ms ∧ rm.frames + 1 ≤ R.frames ∧ 8 + (maxL + 11) + rm.locals ≤ R.locals) (hf : cells + mc ≤ R.cells ∧ slots + ms ≤ R.slots) (hls : ls.size = nL) (hro : (rest.map fun v => v.category).sum ≤ 8) (hdg : decode cc pc = .ok (.invokespecial index, 3))
    (kk : ∀ (w1 : va_W) (H1 : Heap) (locs1 : List Loc), post w1 → xW g A s.heap (wr ++ w1) H1 locs1 → W p l e R s m args below meth c H1 locs1 (cells + mc) (slots + ms) Q (F0 m (pc + 3) ls rest)) : W p l e R s m args below meth c H locs cells slots Q (F0 m pc ls (.ref b :: rest)) := by
  obtain ⟨F, hK, hA⟩ := Ev
  obtain ⟨q2, q4, q5, q6, hd⟩ := qs
  have hts : ∀ w ∈ XW, w.before args s = true := F.2.2.2.2
  have cb : va_CN R s args own index y host bytes maxL none (xC y bytes maxL none) rm mc ms 0 := ⟨⟨hR.1, hR.2.1, hR.2.2.1, hR.2.2.2, xpay hts q5, List.mem_cons_self⟩, hts _ q5, hts _ q4, ⟨hd.1, hd.2.1⟩, fun sig h => by
    have h2 := hd.2.2
    rw [h] at h2
    exact (Option.some.inj h2).symm, va_Nw.use rfl q1⟩
  exact xbackI (av := [.ref b]) hw hA is isR hC hRr hnR hdis (va_runIN (As := []) (rest := rest) F (hM H.size) ⟨cb, q6, hts _ q2⟩ ⟨xblindI, fun U hU hW => xpreI_of hK hN hw is hn hC hU hW⟩ rfl rfl hls rfl (lv_room hro) hdg ⟨hf.1, hf.2⟩) kk
end
/-- a constructor by its walk -/
theorem xofI {l : Launch} {y : MethodName} {cc : ByteArray} {maxL mc ms : Nat} {rm : Room} {g : xG} {ws : va_W} {av : List Value} {post : va_W → Prop} (hy : plainName y.cls = true) (hyn : y.name = "<init>") (hlen : (lg_sl av).length ≤ maxL)
    (body : ∀ (p : Program) (e : Env) (s : State) (m : MethodId) (below : List Frame) (meth : Method) (c : Code) (A : Nat → Prop) (ls : Array Slot), xE p m c cc maxL s av.toArray y.cls g A → xN s → meth.name = "<init>" → xW g A s.heap ws s.heap [] → lv_has ls maxL (lv_args 0 av) →
      (∀ (pc : Nat) (ls : Array Slot) (H : Heap) (locs : List Loc) (cells slots : Nat) (w1 : va_W), cells ≤ mc → slots ≤ ms → post w1 → xW g A s.heap w1 H locs → decode cc pc = .ok (.return_, 1) → W p l e rm s m av.toArray below meth c H locs cells slots (MQ below (xPostI g ws s.heap.size post) av.toArray s mc ms A) (F0 m pc ls [])) →
      W p l e rm s m av.toArray below meth c s.heap [] 0 0 (MQ below (xPostI g ws s.heap.size post) av.toArray s mc ms A) (F0 m 0 ls [])) : xMI l y (xC y cc maxL none) rm g ws av mc ms post := by
  intro sz
  refine Met.ofW (cc := cc) (maxL := maxL) (ret := none) hy rfl ?_
  intro p e s m args below meth c s₁ B hml hv
  obtain ⟨rfl, hsz, hP, hK, hD0, hN⟩ := hv
  subst hsz
  have hts := atoms_spec (ws := xC y cc maxL none) B.pre
  have hD := hD0.self (sz := s.heap.size)
  have hl := lv_entry av (n := maxL) hlen
  rw [lg_entry_eq]
  generalize (lg_sl av ++ List.replicate (maxL - (lg_sl av).length) Slot.unset).toArray = ls at hl ⊢
  have hmn : meth.name = "<init>" := by rw [← hyn]; exact (name_of_methodNamed B.named B.method).1
  exact body p e s m below meth c _ ls ⟨⟨B.exec, B.bytes, hml, findClass_of_methodNamed B.named, fun w h => hts w (List.mem_cons_of_mem _ h)⟩, hK, fun q h => Or.inr h⟩ hN hmn ⟨hP, hD, va_S.rf⟩ hl
    (fun pc ls H locs cells slots w1 h1 h2 hp hw hd => W.widen h1 h2 (W.vret B.exec B.bytes B.returns (fun t ht hW => ⟨⟨rfl, w1, hp, by rw [ht]; exact hw.1, hw.2.1⟩, hw.2.2.F ht⟩) hw.2.2.2.2 hd B.notSynchronized))
