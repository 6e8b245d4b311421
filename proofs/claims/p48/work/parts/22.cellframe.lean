/-! The law's own look at its script: a contract that has the script's cell as it was. -/
def xPreS (g : xG) (b L : Nat) (xs : Nat → Int32) (sz : Nat) (av : List Value) : Array Value → State → Prop := va_Pc av (fun U => U.heap.size = sz ∧ va_X b L xs U U.heap ∧ b < sz ∧ xK g U)
def xMS (l : Launch) (y : MethodName) (wl : List Cond) (rm : Room) (g : xG) (b L : Nat) (xs : Nat → Int32) (av : List Value) (v : Option Value) : Prop := ∀ sz : Nat, Met l y wl rm (xPreS g b L xs sz av) (xPost g [] [] sz v) 0 0 (va_A [] sz)
theorem xblindS {g : xG} {b L : Nat} {xs : Nat → Int32} {sz : Nat} {av : List Value} : FrameBlind (xPreS g b L xs sz av) := fun a U gf mk q => by
  obtain ⟨q0, q1, qX, qb, qK⟩ := q
  exact ⟨q0, q1, va_X.moved (u := U) (U := U.calling gf mk a) (Vm.Alike.refl U.vm) qX, qb, va_K.moved (u := U) (U := U.calling gf mk a) (Vm.Alike.refl U.vm) qK⟩
theorem xW_nil {g : xG} {A : Nat → Prop} {H : Heap} : xW g A H [] H [] := ⟨fun k q h => by simp at h, ⟨fun i j p q h => by simp at h, fun k q h => by simp at h⟩, va_S.rf⟩
theorem xofS {l : Launch} {y : MethodName} {cc : ByteArray} {maxL : Nat} {ret : Option FieldType} {rm : Room} {g : xG} {b L : Nat} {xs : Nat → Int32} {av : List Value} {v : Option Value} (hy : plainName y.cls = true) (hlen : (lg_sl av).length ≤ maxL) (hrm : rm.cells = 0 ∧ rm.slots = 0)
    (body : ∀ (p : Program) (e : Env) (s : State) (m : MethodId) (below : List Frame) (meth : Method) (c : Code) (A : Nat → Prop) (ls : Array Slot), xE p m c cc maxL s av.toArray y.cls g A → meth.sig.returnType = ret → meth.locks = false → xW g A s.heap [] s.heap [] → va_X b L xs s s.heap → b < s.heap.size → ¬ A b → lv_has ls maxL (lv_args 0 av) →
      (∀ (H : Heap) (locs : List Loc), xW g A s.heap [] H locs → (∀ t : State, t.heap = H → s.WarmedH t.vm → xPost g [] [] s.heap.size v av.toArray s (.returned v) t) ∧ ∀ q ∈ locs, A q.base) →
      W p l e rm s m av.toArray below meth c s.heap [] 0 0 (MQ below (xPost g [] [] s.heap.size v) av.toArray s 0 0 A) (F0 m 0 ls [])) : xMS l y (xC y cc maxL ret) rm g b L xs av v := by
  intro sz
  refine Met.ofW (cc := cc) (maxL := maxL) (ret := ret) hy rfl ?_
  intro p e s m args below meth c s₁ B hml hv
  obtain ⟨rfl, hsz, hX, hb, hK⟩ := hv
  subst hsz
  have hts := atoms_spec (ws := xC y cc maxL ret) B.pre
  have hl := lv_entry av (n := maxL) hlen
  rw [lg_entry_eq]
  generalize (lg_sl av ++ List.replicate (maxL - (lg_sl av).length) Slot.unset).toArray = ls at hl ⊢
  refine body p e s m below meth c _ ls ⟨⟨B.exec, B.bytes, hml, findClass_of_methodNamed B.named, fun w h => hts w (List.mem_cons_of_mem _ h)⟩, hK, fun q h => Or.inr h⟩ B.returns B.notSynchronized xW_nil hX hb ?_ hl
    (fun H locs hw => ⟨fun t ht hW => ⟨⟨rfl, by rw [ht]; exact hw.1⟩, hw.2.2.F ht⟩, hw.2.2.2.2⟩)
  intro h
  rcases h with ⟨k, e, h⟩ | h
  · simp at h
  · exact absurd hb (Nat.not_lt.mpr h)
section
variable {p : Program} {l : Launch} {e : Env} {R : Room} {s : State} {m : MethodId} {args : Array Value} {below : List Frame} {meth : Method} {c : Code} {H : Heap} {locs : List Loc} {cells slots : Nat} {Q : State → Prop}
variable {g : xG} {A : Nat → Prop} {ws : va_W} {cc bytes : ByteArray} {nL maxL pc index b L : Nat} {xs : Nat → Int32} {ret : Option FieldType} {rm : Room} {y : MethodName} {own : String} {ls : Array Slot}
theorem xcallScr {st0 st1 : List Value} {v : Option Value} {rest : List Value} (E : xE p m c cc nL s args own g A) (hw : xW g A s.heap ws H locs) (hXs : va_X b L xs s s.heap) (hbl : b < s.heap.size) (hbA : ¬ A b) (As : List Value)
    (hM : xMS l y (xC y bytes maxL ret) rm g b L xs As v) (hst : st0 = As.reverse ++ rest) {n : Nat} (hlen : ws.length = n)
    (q1 : Cond.methodLink own index y ∈ XW) (qs : xKS y bytes maxL ret As.length)
    (hR : rm.cells = 0 ∧ rm.slots = 0 ∧ rm.frames + 1 ≤ R.frames ∧ 8 + (maxL + 11) + rm.locals ≤ R.locals) (hf : cells ≤ R.cells ∧ slots ≤ R.slots) (hls : ls.size = nL) (hro : (rest.map fun v => v.category).sum ≤ 8) (hdg : decode cc pc = .ok (.invokestatic index, 3)) (hst1 : v.toList ++ rest = st1)
    (kk : ∀ (H1 : Heap) (locs1 : List Loc), xW g A s.heap ws H1 locs1 → W p l e R s m args below meth c H1 locs1 cells slots Q (F0 m (pc + 3) ls st1)) : W p l e R s m args below meth c H locs cells slots Q (F0 m pc ls st0) := by
  subst hst hst1
  obtain ⟨F, hK, hA⟩ := E
  obtain ⟨q2, q4, q5, hd⟩ := qs
  have hts : ∀ w ∈ XW, w.before args s = true := F.2.2.2.2
  have cb : CallB R s args own index y bytes maxL ret (xC y bytes maxL ret) rm 0 0 As.length := ⟨hR.1, hR.2.1, hR.2.2.1, hR.2.2.2, xpay hts q5, List.mem_cons_self, hts _ q5, hts _ q4, ⟨hd.1, hd.2.1⟩, fun sig h => by
    have h2 := hd.2.2
    rw [h] at h2
    exact (Option.some.inj h2).symm, hts _ q1⟩
  have hsel : xselok n [] (List.range n) = true := by
    simp [xselok]
    intro x hx
    rw [List.getElem?_range hx]
    exact decide_eq_true rfl
  have hid : (List.range n).map (fun i => (ws ++ [])[i]?) = ws.map some := by
    subst hlen
    apply List.ext_getElem?
    intro i
    rw [List.append_nil, List.getElem?_map, List.getElem?_map]
    by_cases h : i < ws.length
    · rw [List.getElem?_range h, List.getElem?_eq_getElem h, Option.map_some, Option.map_some]; exact congrArg some (List.getElem?_eq_getElem h)
    · rw [List.getElem?_eq_none (by simpa using h), List.getElem?_eq_none (by simpa using h)]; rfl
  exact xback (av := As) (wc := []) (w1 := []) hw hA [] rfl rfl (List.range n) hlen hsel hid (va_runS (As := As) (rest := rest) F (hM H.size) ⟨cb, hts _ q2⟩ ⟨xblindS, fun U hU hW => ⟨rfl, by rw [hU], (va_X.kept (hXs.moved hW.alike) (by rw [hU]; exact hw.2.2.2.1 b hbl hbA)), Nat.lt_of_lt_of_le hbl hw.2.2.1, va_K.moved hW.alike hK⟩⟩ rfl rfl hls rfl (lv_room hro) hdg ⟨hf.1, hf.2⟩) kk
end
