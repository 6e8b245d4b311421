/-! Rows of the heap over xW, branches over pure branches, the worlds' contents. -/
section
variable {p : Program} {l : Launch} {e : Env} {R : Room} {s : State} {m : MethodId} {args : Array Value} {below : List Frame} {meth : Method} {c : Code} {H : Heap} {locs : List Loc} {cells slots : Nat} {Q : State → Prop}
variable {g : xG} {A : Nat → Prop} {ws ws' : va_W} {cc : ByteArray} {nL pc index a : Nat} {own : String} {ls : Array Slot} {rest : List Value}
theorem xget (E : xE p m c cc nL s args own g A) (hw : xW g A s.heap ws H locs) (q0 : Nat) {ci : Nat} {fs : List Value} (he : ws[q0]? = some (a, .inr (ci, fs))) {ref C : String} {T : u_T} {N : Nat} (hc : vwCl[ci]? = some (C, T, N)) (k : Nat) (hk : k < N) (hin : ∀ w ∈ u_ws C T N, w ∈ XW)
    (hq : Cond.fieldLink own index ref (T k).2.1 (T k).2.2.1 ∈ XW) (hr : (T k).1 = ref) {v : Value} (hv : fs[k]? = some v) (hdg : decode cc pc = .ok (.getfield index, 3))
    (kk : W p l e R s m args below meth c H locs cells slots Q (F0 m (pc + 3) ls (v :: rest))) : W p l e R s m args below meth c H locs cells slots Q (F0 m pc ls (.ref a :: rest)) := by
  obtain ⟨⟨hx, hb, -, hown, hts⟩, hK, -⟩ := E
  exact va_get hx hb hts hin hown hK hw.1 q0 he hc k hk (hts _ hq) (fun x h => by rw [← hr]; exact h) hv hdg kk
theorem xput (E : xE p m c cc nL s args own g A) (hw : xW g A s.heap ws H locs) (q0 : Nat) {ci : Nat} {fs : List Value} (he : ws[q0]? = some (a, .inr (ci, fs))) {ref C : String} {T : u_T} {N : Nat} (hc : vwCl[ci]? = some (C, T, N)) (k : Nat) (hk : k < N) (hin : ∀ w ∈ u_ws C T N, w ∈ XW)
    {ty0 : Nat → FieldType} (hty : ∀ k, k < N → parseFieldDescriptor (T k).2.2.1 = some (ty0 k)) (hnm : ∀ a, a < N → ∀ b, b < N → a ≠ b → (T a).2.1 ≠ (T b).2.1)
    (hq : Cond.fieldLink own index ref (T k).2.1 (T k).2.2.1 ∈ XW) (hr : (T k).1 = ref) (hfin : (T k).2.2.2 = false) {v : Value} (hn : narrow (ty0 k) v = v) (hfit : fits (ty0 k) v = true) (hl : k < fs.length) (hdg : decode cc pc = .ok (.putfield index, 3)) (hw' : ws.set q0 (a, .inr (ci, fs.set k v)) = ws')
    (kk : ∀ (H1 : Heap) (locs1 : List Loc), xW g A s.heap ws' H1 locs1 → W p l e R s m args below meth c H1 locs1 cells slots Q (F0 m (pc + 3) ls rest)) : W p l e R s m args below meth c H locs cells slots Q (F0 m pc ls (v :: .ref a :: rest)) := by
  obtain ⟨⟨hx, hb, -, hown, hts⟩, hK, -⟩ := E
  exact va_put hx hb hts hin ty0 hty hnm hown hK hw.1 hw.2.1 hw.2.2 q0 he hc k hk (hts _ hq) (fun x h => by rw [← hr]; exact h) hfin (hty k hk) hn hfit hl hdg (fun H1 locs1 h1 h2 h3 => kk H1 locs1 (hw' ▸ ⟨h1, h2, h3⟩))
theorem xiald (E : xE p m c cc nL s args own g A) (hw : xW g A s.heap ws H locs) (q0 : Nat) {n : Nat} {f : Nat → Int32} (ha : ws[q0]? = some (a, .inl (g.2.1, n, .inl f))) {i : Int32} (hin : ¬ (i < 0 ∨ n ≤ i.toNatClampNeg)) (hdg : decode cc pc = .ok (.iaload, 1))
    (kk : W p l e R s m args below meth c H locs cells slots Q (F0 m (pc + 1) ls (.int (f i.toNatClampNeg) :: rest))) : W p l e R s m args below meth c H locs cells slots Q (F0 m pc ls (.int i :: .ref a :: rest)) :=
  va_iald E.1.1 E.1.2.1 E.2.1 hw.1 q0 0 ha rfl hin hdg kk
theorem xiast (E : xE p m c cc nL s args own g A) (hw : xW g A s.heap ws H locs) (q0 : Nat) {n : Nat} {f : Nat → Int32} (ha : ws[q0]? = some (a, .inl (g.2.1, n, .inl f))) {i : Int32} {x : Int32} (hin : ¬ (i < 0 ∨ n ≤ i.toNatClampNeg)) (hdg : decode cc pc = .ok (.iastore, 1)) (hw' : ws.set q0 (a, .inl (g.2.1, n, .inl (upd f i.toNatClampNeg x))) = ws')
    (kk : ∀ (H1 : Heap) (locs1 : List Loc), xW g A s.heap ws' H1 locs1 → W p l e R s m args below meth c H1 locs1 cells slots Q (F0 m (pc + 1) ls rest)) : W p l e R s m args below meth c H locs cells slots Q (F0 m pc ls (.int x :: .int i :: .ref a :: rest)) :=
  va_iast E.1.1 E.1.2.1 E.2.1 hw.1 hw.2.1 hw.2.2 q0 0 ha rfl hin hdg (fun H1 locs1 h1 h2 h3 => kk H1 locs1 (hw' ▸ ⟨h1, h2, h3⟩))
theorem xaald (E : xE p m c cc nL s args own g A) (hw : xW g A s.heap ws H locs) (q0 : Nat) {n : Nat} {f : Nat → Option Nat} (ha : ws[q0]? = some (a, .inl (g.2.2.1, n, .inr (.inr (.inr (.inr f)))))) {i : Int32} (hin : ¬ (i < 0 ∨ n ≤ i.toNatClampNeg)) {b : Nat} (hf : f i.toNatClampNeg = some b) (hdg : decode cc pc = .ok (.aaload, 1))
    (kk : W p l e R s m args below meth c H locs cells slots Q (F0 m (pc + 1) ls (.ref b :: rest))) : W p l e R s m args below meth c H locs cells slots Q (F0 m pc ls (.int i :: .ref a :: rest)) :=
  va_aldq E.1.1 E.1.2.1 E.2.1 hw.1 q0 1 ha rfl hin hdg (by rw [hf]; exact kk)
theorem xmax (E : xE p m c cc nL s args own g A) (hls : ls.size = nL) (q1 : Cond.methodLink own index Lib.Math.max.name ∈ XW) (q2 : Cond.static Lib.Math.max.name ∈ XW) (q3 : Cond.initialized "java/lang/Math" ∈ XW) (q4 : Cond.code Lib.Math.max.name Lib.Math.max.code 2 (some .int) ∈ XW) (hR : 1 ≤ R.frames ∧ (rest.map fun v => v.category).sum + 13 ≤ R.locals) (hf : cells ≤ R.cells ∧ slots ≤ R.slots) {x y : Int32} (hdg : decode cc pc = .ok (.invokestatic index, 3))
    (kk : W p l e R s m args below meth c H locs cells slots Q (F0 m (pc + 3) ls (.int (if x < y then y else x) :: rest))) : W p l e R s m args below meth c H locs cells slots Q (F0 m pc ls (.int y :: .int x :: rest)) :=
  have t := E.1.2.2.2.2
  va_mmax E.1.1 E.1.2.1 (E.1.2.2.1.trans hls.symm) E.1.2.2.2.1 (t _ q1) (t _ q2) (t _ q3) (t _ q4) hR.1 hR.2 hf.1 hf.2 hdg kk
theorem xmin (E : xE p m c cc nL s args own g A) (hls : ls.size = nL) (q1 : Cond.methodLink own index Lib.Math.min.name ∈ XW) (q2 : Cond.static Lib.Math.min.name ∈ XW) (q3 : Cond.initialized "java/lang/Math" ∈ XW) (q4 : Cond.code Lib.Math.min.name Lib.Math.min.code 2 (some .int) ∈ XW) (hR : 1 ≤ R.frames ∧ (rest.map fun v => v.category).sum + 13 ≤ R.locals) (hf : cells ≤ R.cells ∧ slots ≤ R.slots) {x y : Int32} (hdg : decode cc pc = .ok (.invokestatic index, 3))
    (kk : W p l e R s m args below meth c H locs cells slots Q (F0 m (pc + 3) ls (.int (if y < x then y else x) :: rest))) : W p l e R s m args below meth c H locs cells slots Q (F0 m pc ls (.int y :: .int x :: rest)) :=
  have t := E.1.2.2.2.2
  va_mmin E.1.1 E.1.2.1 (E.1.2.2.1.trans hls.symm) E.1.2.2.2.1 (t _ q1) (t _ q2) (t _ q3) (t _ q4) hR.1 hR.2 hf.1 hf.2 hdg kk
theorem xabs (E : xE p m c cc nL s args own g A) (hls : ls.size = nL) (q1 : Cond.methodLink own index Lib.Math.abs.name ∈ XW) (q2 : Cond.static Lib.Math.abs.name ∈ XW) (q3 : Cond.initialized "java/lang/Math" ∈ XW) (q4 : Cond.code Lib.Math.abs.name Lib.Math.abs.code 1 (some .int) ∈ XW) (hR : 1 ≤ R.frames ∧ (rest.map fun v => v.category).sum + 13 ≤ R.locals) (hf : cells ≤ R.cells ∧ slots ≤ R.slots) {x : Int32} (hdg : decode cc pc = .ok (.invokestatic index, 3))
    (kk : W p l e R s m args below meth c H locs cells slots Q (F0 m (pc + 3) ls (.int (if 0 ≤ x then x else 0 - x) :: rest))) : W p l e R s m args below meth c H locs cells slots Q (F0 m pc ls (.int x :: rest)) :=
  have t := E.1.2.2.2.2
  va_mabs E.1.1 E.1.2.1 (E.1.2.2.1.trans hls.symm) E.1.2.2.2.1 (t _ q1) (t _ q2) (t _ q3) (t _ q4) hR.1 hR.2 hf.1 hf.2 hdg kk
theorem xlabs (E : xE p m c cc nL s args own g A) (hls : ls.size = nL) (q1 : Cond.methodLink own index Lib.MathLoose.abs_long.x ∈ XW) (q2 : Cond.static Lib.MathLoose.abs_long.x ∈ XW) (q3 : Cond.initialized "java/lang/Math" ∈ XW) (q4 : Cond.code Lib.MathLoose.abs_long.x Lib.MathLoose.abs_long.code 2 (some .long) ∈ XW) (hR : 1 ≤ R.frames ∧ (rest.map fun v => v.category).sum + 13 ≤ R.locals) (hf : cells ≤ R.cells ∧ slots ≤ R.slots) {x : Int64} (hdg : decode cc pc = .ok (.invokestatic index, 3))
    (kk : W p l e R s m args below meth c H locs cells slots Q (F0 m (pc + 3) ls (.long (if 0 < x then x else -x) :: rest))) : W p l e R s m args below meth c H locs cells slots Q (F0 m pc ls (.long x :: rest)) :=
  have t := E.1.2.2.2.2
  va_mabs_long E.1.1 E.1.2.1 (E.1.2.2.1.trans hls.symm) E.1.2.2.2.1 (t _ q1) (t _ q2) (t _ q3) (t _ q4) hR.1 hR.2 hf.1 hf.2 hdg kk
theorem xalen (E : xE p m c cc nL s args own g A) (hw : xW g A s.heap ws H locs) (q0 t0 : Nat) {cA : ClassId} {x : vp_A} (ha : ws[q0]? = some (a, .inl (cA, x))) {ty : FieldType} (ht : (xT g)[t0]? = some (cA, ty)) {v : Int32} (hv : Int32.ofNat x.1 = v) (hdg : decode cc pc = .ok (.arraylength, 1))
    (kk : W p l e R s m args below meth c H locs cells slots Q (F0 m (pc + 1) ls (.int v :: rest))) : W p l e R s m args below meth c H locs cells slots Q (F0 m pc ls (.ref a :: rest)) :=
  va_alen E.1.1 E.1.2.1 E.2.1 hw.1 q0 t0 ha ht hv hdg kk
theorem xcmp_lt {x y : Int64} : lg_cmp x y < 0 ↔ x < y := by
  unfold lg_cmp
  by_cases h : x > y
  · rw [if_pos h]; exact ⟨fun q => absurd q (by decide), fun q => absurd q (by intro q; have := Int64.lt_iff_toInt_lt.mp q; have := Int64.lt_iff_toInt_lt.mp h; omega)⟩
  · rw [if_neg h]
    by_cases h2 : x = y
    · rw [if_pos h2]; exact ⟨fun q => absurd q (by decide), fun q => absurd q (by rw [h2]; intro q; have := Int64.lt_iff_toInt_lt.mp q; omega)⟩
    · rw [if_neg h2]
      refine ⟨fun _ => ?_, fun _ => by decide⟩
      rw [Int64.lt_iff_toInt_lt]
      have h3 : ¬ y.toInt < x.toInt := fun q => h (Int64.lt_iff_toInt_lt.mpr q)
      have h4 : ¬ x.toInt = y.toInt := fun q => h2 (Int64.toInt_inj.mp q)
      omega
theorem xcmp_gt {x y : Int64} : 0 < lg_cmp x y ↔ y < x := by
  unfold lg_cmp
  by_cases h : x > y
  · rw [if_pos h]; exact ⟨fun _ => h, fun _ => by decide⟩
  · rw [if_neg h]
    by_cases h2 : x = y
    · rw [if_pos h2]; exact ⟨fun q => absurd q (by decide), fun q => absurd q h⟩
    · rw [if_neg h2]; exact ⟨fun q => absurd q (by decide), fun q => absurd q h⟩
theorem xcmp_eq {x y : Int64} : lg_cmp x y = 0 ↔ x = y := by
  unfold lg_cmp
  by_cases h : x > y
  · rw [if_pos h]; exact ⟨fun q => absurd q (by decide), fun q => absurd h (by rw [q]; intro q; have := Int64.lt_iff_toInt_lt.mp q; omega)⟩
  · rw [if_neg h]
    by_cases h2 : x = y
    · rw [if_pos h2]; exact ⟨fun _ => h2, fun _ => rfl⟩
    · rw [if_neg h2]; exact ⟨fun q => absurd q (by decide), fun q => absurd q h2⟩
theorem xi32_le {a b : Int32} : a ≤ b ↔ ¬ b < a := by rw [Int32.le_iff_toInt_le, Int32.lt_iff_toInt_lt]; omega
theorem xlc_eq (hx : p.tables.exec = Jvm.exec) (hb : c.code = cc) {x y : Int64} {off : Int} {tgt : Nat} (d1 : decode cc pc = .ok (.lcmp, 1)) (d2 : decode cc (pc + 1) = .ok (.ifCond .eq off, 3)) (ht : ((pc + 1 : Nat) : Int) + off = (tgt : Int))
    (kt : x = y → W p l e R s m args below meth c H locs cells slots Q (F0 m tgt ls rest)) (kf : ¬ x = y → W p l e R s m args below meth c H locs cells slots Q (F0 m (pc + 1 + 3) ls rest)) : W p l e R s m args below meth c H locs cells slots Q (F0 m pc ls (.long y :: .long x :: rest)) :=
  W.lcmp hx hb d1 (lv_if_eq hx hb d2 ht (fun h => kt (xcmp_eq.mp h)) (fun h => kf (fun q => h (xcmp_eq.mpr q))))
theorem xlc_ne (hx : p.tables.exec = Jvm.exec) (hb : c.code = cc) {x y : Int64} {off : Int} {tgt : Nat} (d1 : decode cc pc = .ok (.lcmp, 1)) (d2 : decode cc (pc + 1) = .ok (.ifCond .ne off, 3)) (ht : ((pc + 1 : Nat) : Int) + off = (tgt : Int))
    (kt : ¬ x = y → W p l e R s m args below meth c H locs cells slots Q (F0 m tgt ls rest)) (kf : x = y → W p l e R s m args below meth c H locs cells slots Q (F0 m (pc + 1 + 3) ls rest)) : W p l e R s m args below meth c H locs cells slots Q (F0 m pc ls (.long y :: .long x :: rest)) :=
  W.lcmp hx hb d1 (lv_if_ne hx hb d2 ht (fun h => kt (fun q => h (xcmp_eq.mpr q))) (fun h => kf (xcmp_eq.mp h)))
theorem xlc_lt (hx : p.tables.exec = Jvm.exec) (hb : c.code = cc) {x y : Int64} {off : Int} {tgt : Nat} (d1 : decode cc pc = .ok (.lcmp, 1)) (d2 : decode cc (pc + 1) = .ok (.ifCond .lt off, 3)) (ht : ((pc + 1 : Nat) : Int) + off = (tgt : Int))
    (kt : x < y → W p l e R s m args below meth c H locs cells slots Q (F0 m tgt ls rest)) (kf : ¬ x < y → W p l e R s m args below meth c H locs cells slots Q (F0 m (pc + 1 + 3) ls rest)) : W p l e R s m args below meth c H locs cells slots Q (F0 m pc ls (.long y :: .long x :: rest)) :=
  W.lcmp hx hb d1 (lv_if_lt hx hb d2 ht (fun h => kt (xcmp_lt.mp h)) (fun h => kf (fun q => h (xcmp_lt.mpr q))))
theorem xlc_ge (hx : p.tables.exec = Jvm.exec) (hb : c.code = cc) {x y : Int64} {off : Int} {tgt : Nat} (d1 : decode cc pc = .ok (.lcmp, 1)) (d2 : decode cc (pc + 1) = .ok (.ifCond .ge off, 3)) (ht : ((pc + 1 : Nat) : Int) + off = (tgt : Int))
    (kt : ¬ x < y → W p l e R s m args below meth c H locs cells slots Q (F0 m tgt ls rest)) (kf : x < y → W p l e R s m args below meth c H locs cells slots Q (F0 m (pc + 1 + 3) ls rest)) : W p l e R s m args below meth c H locs cells slots Q (F0 m pc ls (.long y :: .long x :: rest)) :=
  W.lcmp hx hb d1 (lv_if_ge hx hb d2 ht (fun h => kt (fun q => xi32_le.mp h (xcmp_lt.mpr q))) (fun h => kf (Decidable.byContradiction fun q => h (xi32_le.mpr (fun z => q (xcmp_lt.mp z))))))
theorem xlc_gt (hx : p.tables.exec = Jvm.exec) (hb : c.code = cc) {x y : Int64} {off : Int} {tgt : Nat} (d1 : decode cc pc = .ok (.lcmp, 1)) (d2 : decode cc (pc + 1) = .ok (.ifCond .gt off, 3)) (ht : ((pc + 1 : Nat) : Int) + off = (tgt : Int))
    (kt : y < x → W p l e R s m args below meth c H locs cells slots Q (F0 m tgt ls rest)) (kf : ¬ y < x → W p l e R s m args below meth c H locs cells slots Q (F0 m (pc + 1 + 3) ls rest)) : W p l e R s m args below meth c H locs cells slots Q (F0 m pc ls (.long y :: .long x :: rest)) :=
  W.lcmp hx hb d1 (lv_if_gt hx hb d2 ht (fun h => kt (xcmp_gt.mp h)) (fun h => kf (fun q => h (xcmp_gt.mpr q))))
theorem xlc_le (hx : p.tables.exec = Jvm.exec) (hb : c.code = cc) {x y : Int64} {off : Int} {tgt : Nat} (d1 : decode cc pc = .ok (.lcmp, 1)) (d2 : decode cc (pc + 1) = .ok (.ifCond .le off, 3)) (ht : ((pc + 1 : Nat) : Int) + off = (tgt : Int))
    (kt : ¬ y < x → W p l e R s m args below meth c H locs cells slots Q (F0 m tgt ls rest)) (kf : y < x → W p l e R s m args below meth c H locs cells slots Q (F0 m (pc + 1 + 3) ls rest)) : W p l e R s m args below meth c H locs cells slots Q (F0 m pc ls (.long y :: .long x :: rest)) :=
  W.lcmp hx hb d1 (lv_if_le hx hb d2 ht (fun h => kt (fun q => xi32_le.mp h (xcmp_gt.mpr q))) (fun h => kf (Decidable.byContradiction fun q => h (xi32_le.mpr (fun z => q (xcmp_gt.mp z))))))
end
/-- pure: what a computed 'some' tells -/
theorem ip {α : Type} {c : Prop} [Decidable c] {a b : Option α} {o : α} (h : c) (hf : (if c then a else b) = some o) : a = some o := by rwa [if_pos h] at hf
theorem iq {α : Type} {c : Prop} [Decidable c] {a b : Option α} {o : α} (h : ¬ c) (hf : (if c then a else b) = some o) : b = some o := by rwa [if_neg h] at hf
theorem nz {α : Type} {c : Prop} [Decidable c] {b : Option α} {o : α} (hf : (if c then none else b) = some o) : ¬ c ∧ b = some o := by
  by_cases h : c
  · rw [if_pos h] at hf; cases hf
  · rw [if_neg h] at hf; exact ⟨h, hf⟩
theorem ob_e {α β : Type} {o : Option α} {k : α → Option β} {b : β} (h : o.bind k = some b) : ∃ a, o = some a ∧ k a = some b := by
  cases o with
  | none => cases h
  | some a => exact ⟨a, rfl, h⟩
theorem nn {α : Type} {o : α} {P : Prop} (h : (none : Option α) = some o) : P := nomatch h
theorem xbool {v : Int32} (h : ¬ ¬ (v = 0 ∨ v = 1)) : narrow .boolean (.int v) = .int v ∧ fits .boolean (.int v) = true := by
  rcases Decidable.not_not.mp h with h | h <;> subst h <;> exact ⟨by decide, by decide⟩
theorem xn64 {r : UInt64} (h : ¬ ¬ (r &&& 0x7fffffffffffffff ≤ 0x7ff0000000000000)) : vf_n64 r := (Decidable.not_not.mp h : r &&& 0x7fffffffffffffff ≤ 0x7ff0000000000000)
/-! the contents of the worlds -/
abbrev wS (g : xG) (h : Nat → Nat) (o : Nat) (x : SC) : va_W := [(h o, .inr (5, [.int x.1, .int x.2.1, .int x.2.2.1, .ref (h (o + 1)), .ref (h (o + 2))])), (h (o + 1), .inl (g.2.1, 6, .inl x.2.2.2.1)), (h (o + 2), .inl (g.2.1, 6, .inl x.2.2.2.2))]
abbrev wR (h : Nat → Nat) (o : Nat) (x : RC) : va_W := [(h o, .inr (4, [.long x.1, .long x.2]))]
abbrev wY (h : Nat → Nat) (o : Nat) (x : YC) : va_W := [(h o, .inr (6, [.int x.1, .int x.2]))]
abbrev wE (g : xG) (h : Nat → Nat) (o : Nat) (x : EC) : va_W := [(h o, .inr (1, [.int x.1, .ref (h (o + 1)), .ref (h (o + 2))])), (h (o + 1), .inl (g.2.1, 60, .inl x.2.1)), (h (o + 2), .inr (6, [.int x.2.2.1, .int x.2.2.2]))]
abbrev wN (h : Nat → Nat) (o : Nat) (x : NC) : va_W := [(h o, .inr (3, [.int x.1, .int x.2.1, .int x.2.2.1, .int x.2.2.2.1, .long x.2.2.2.2.1, .long x.2.2.2.2.2.1, .long x.2.2.2.2.2.2.1, .long x.2.2.2.2.2.2.2.1, .long x.2.2.2.2.2.2.2.2]))]
abbrev wD (g : xG) (h : Nat → Nat) (o : Nat) (x : CC) : va_W := [(h o, .inr (0, [.int x.1, .int x.2.1, .int x.2.2.1, .ref (h (o + 1))])), (h (o + 1), .inl (g.2.1, 31, .inl x.2.2.2))]
abbrev xring (h : Nat → Nat) (o : Nat) : Nat → Option Nat := fun j => some (h (o + 2 + 3 * j))
abbrev wH (g : xG) (h : Nat → Nat) (o : Nat) (x : HC) : va_W := (h o, .inr (2, [.int x.1, .int x.2.1, .ref (h (o + 1))])) :: (h (o + 1), .inl (g.2.2.1, 6, .inr (.inr (.inr (.inr (xring h o)))))) :: (wS g h (o + 2 + 3 * 0) (x.2.2 0) ++ (wS g h (o + 2 + 3 * 1) (x.2.2 1) ++ (wS g h (o + 2 + 3 * 2) (x.2.2 2) ++ (wS g h (o + 2 + 3 * 3) (x.2.2 3) ++ (wS g h (o + 2 + 3 * 4) (x.2.2 4) ++ wS g h (o + 2 + 3 * 5) (x.2.2 5))))))
abbrev wC (g : xG) (h : Nat → Nat) (now snap : SC) (has : Int32) (hist : HC) (ent : EC) (res : RC) (num : NC) (col : CC) : va_W := (h 0, .inr (7, [.ref (h 1), .ref (h 4), .int has, .ref (h 7), .ref (h 27), .ref (h 30), .ref (h 31), .ref (h 32)])) :: (wS g h 1 now ++ (wS g h 4 snap ++ (wH g h 7 hist ++ (wE g h 27 ent ++ (wR h 30 res ++ (wN h 31 num ++ wD g h 32 col))))))
abbrev wM (g : xG) (h : Nat → Nat) (thrown : Int32) (ss : Nat → Int32) (states : Nat → Int32) (stateMany : Int32) (snapshot : Nat → Int32) (hasSnapshot : Int32) (text : Nat → Int32) (length at_ isWell : Int32) (read : Nat → Int32) (readMany : Int32) (top bottom : Int64) (digit : Nat → Int32) (digitMany : Int32) (other : Nat → Int32) (otherMany : Int32) (column : Nat → Int32) (columnMany carryMany chainMost : Int32) : va_W :=
  [(h 0, .inr (8, [.int thrown, .ref (h 1), .ref (h 2), .int stateMany, .ref (h 3), .int hasSnapshot, .ref (h 4), .int length, .int at_, .int isWell, .ref (h 5), .int readMany, .long top, .long bottom, .ref (h 6), .int digitMany, .ref (h 7), .int otherMany, .ref (h 8), .int columnMany, .int carryMany, .int chainMost])),
   (h 1, .inl (g.2.1, 15, .inl ss)), (h 2, .inl (g.2.1, 90, .inl states)), (h 3, .inl (g.2.1, 15, .inl snapshot)), (h 4, .inl (g.2.1, 60, .inl text)), (h 5, .inl (g.2.1, 512, .inl read)), (h 6, .inl (g.2.1, 40, .inl digit)), (h 7, .inl (g.2.1, 40, .inl other)), (h 8, .inl (g.2.1, 41, .inl column))]
