set_option maxHeartbeats 40000000 in
set_option maxRecDepth 100000 in
theorem law_loop {p : Program} {e : Env} {s : State} {m : MethodId} {below : List Frame} {meth : Method} {c : Code} {A : Nat → Prop} (l : Launch) (hlT : l.stackTraces = false) (g : xG) (h hm : Nat → Nat) (ho hd b L : Nat) (xs : Nat → Int32) (E : xE p m c cL_law 9 s #[Value.ref b] RL g A) (hr : meth.sig.returnType = ret) (hlocks : meth.locks = false) (hX : xX A s s.heap) (hNc : xNc s) (hXs : va_X b L xs s s.heap) (hbl : b < s.heap.size) (hA : A = fun q => s.heap.size ≤ q) : ∀ n28 : Nat, ∀ (H : Heap) (locs : List Loc) (ls : Array Slot) (ce sl : Nat) (now : SC) (snap : SC) (has : Int32) (hist : HC) (ent : EC) (res : RC) (num : NC) (col : CC) (thrown : Int32) (ss : (Nat → Int32)) (states : (Nat → Int32)) (stateMany : Int32) (snapshot : (Nat → Int32)) (hasSnapshot : Int32) (text : (Nat → Int32)) (length : Int32) (at_ : Int32) (isWell : Int32) (rd : (Nat → Int32)) (readMany : Int32) (top : Int64) (bottom : Int64) (digit : (Nat → Int32)) (digitMany : Int32) (other : (Nat → Int32)) (otherMany : Int32) (column : (Nat → Int32)) (columnMany : Int32) (carryMany : Int32) (chainMost : Int32) (arr : (Nat → Int64)) (ard : (Nat → UInt64)) (x5 : Int32), ce + n28 ≤ 601024 ∧ sl + 6 * n28 ≤ 7293034 → xW g A s.heap (wC g h now snap has hist ent res num col ++ wM g hm thrown ss states stateMany snapshot hasSnapshot text length at_ isWell rd readMany top bottom digit digitMany other otherMany column columnMany carryMany chainMost ++ [(ho, .inl (g.2.2.2.1, 1, .inr (.inl arr)))] ++ [(hd, .inl (g.2.2.2.2, 1, .inr (.inr (.inr (.inl ard)))))]) H locs → lv_has ls 9 [(0, .ref b), (1, .ref (h 0)), (2, .ref (hm 0)), (3, .ref ho), (4, .ref hd), (5, .int x5)] → f_L_law_b28 n28 xs L now snap has hist ent res num col thrown ss states stateMany snapshot hasSnapshot text length at_ isWell rd readMany top bottom digit digitMany other otherMany column columnMany carryMany chainMost arr ard x5 = some 1 → W p l e room_1 s m #[Value.ref b] below meth c H locs ce sl (lw_Z below #[Value.ref b] s) (F0 m 28 ls []) := by
  have hx := E.1.1
  have hb := E.1.2.1
  have hown := E.1.2.2.2.1
  have hts := E.1.2.2.2.2
  have hbA : ¬ A b := by rw [hA]; exact Nat.not_le.mpr hbl
  subst hA
  intro n28
  induction n28 with
  | zero =>
    intro H locs ls ce sl now snap has hist ent res num col thrown ss states stateMany snapshot hasSnapshot text length at_ isWell rd readMany top bottom digit digitMany other otherMany column columnMany carryMany chainMost arr ard x5 hcs hw hl hf
    exact nn hf
  | succ n28 ih28 =>
    have b2616 : ∀ (H : Heap) (locs : List Loc) (ls : Array Slot) (ce sl : Nat) (now : SC) (snap : SC) (has : Int32) (hist : HC) (ent : EC) (res : RC) (num : NC) (col : CC) (thrown : Int32) (ss : (Nat → Int32)) (states : (Nat → Int32)) (stateMany : Int32) (snapshot : (Nat → Int32)) (hasSnapshot : Int32) (text : (Nat → Int32)) (length : Int32) (at_ : Int32) (isWell : Int32) (rd : (Nat → Int32)) (readMany : Int32) (top : Int64) (bottom : Int64) (digit : (Nat → Int32)) (digitMany : Int32) (other : (Nat → Int32)) (otherMany : Int32) (column : (Nat → Int32)) (columnMany : Int32) (carryMany : Int32) (chainMost : Int32) (arr : (Nat → Int64)) (ard : (Nat → UInt64)) (x5 : Int32), ce + n28 ≤ 601024 ∧ sl + 6 * n28 ≤ 7293034 → xW g (fun q : Nat => s.heap.size ≤ q) s.heap (wC g h now snap has hist ent res num col ++ wM g hm thrown ss states stateMany snapshot hasSnapshot text length at_ isWell rd readMany top bottom digit digitMany other otherMany column columnMany carryMany chainMost ++ [(ho, .inl (g.2.2.2.1, 1, .inr (.inl arr)))] ++ [(hd, .inl (g.2.2.2.2, 1, .inr (.inr (.inr (.inl ard)))))]) H locs → lv_has ls 9 [(0, .ref b), (1, .ref (h 0)), (2, .ref (hm 0)), (3, .ref ho), (4, .ref hd), (5, .int x5)] → f_L_law_b2616 (f_L_law_b28 n28) xs L now snap has hist ent res num col thrown ss states stateMany snapshot hasSnapshot text length at_ isWell rd readMany top bottom digit digitMany other otherMany column columnMany carryMany chainMost arr ard x5 = some 1 → W p l e room_1 s m #[Value.ref b] below meth c H locs ce sl (lw_Z below #[Value.ref b] s) (F0 m 2616 ls []) := by
      intro H locs ls ce sl now snap has hist ent res num col thrown ss states stateMany snapshot hasSnapshot text length at_ isWell rd readMany top bottom digit digitMany other otherMany column columnMany carryMany chainMost arr ard x5 hcs hw hl hf
      refine lv_iinc (v := x5 + 4) (lv' := [(5, .int (x5 + 4)), (0, .ref b), (1, .ref (h 0)), (2, .ref (hm 0)), (3, .ref ho), (4, .ref hd)]) hx hb dL_law_2616 hl (k := 5) rfl rfl (by decide) rfl (fun ls hl => ?_)
      refine lv_goto (tgt := 28) hx hb dL_law_2619 (by decide) ?_
      exact ih28 _ _ _ (ce + 0) (sl + 0) now snap has hist ent res num col thrown ss states stateMany snapshot hasSnapshot text length at_ isWell rd readMany top bottom digit digitMany other otherMany column columnMany carryMany chainMost arr ard (x5 + 4) (by omega) hw (lv_sub hl [1, 2, 3, 4, 5, 0] rfl) hf
    have b293 : ∀ (H : Heap) (locs : List Loc) (ls : Array Slot) (ce sl : Nat) (now : SC) (snap : SC) (has : Int32) (hist : HC) (ent : EC) (res : RC) (num : NC) (col : CC) (thrown : Int32) (ss : (Nat → Int32)) (states : (Nat → Int32)) (stateMany : Int32) (snapshot : (Nat → Int32)) (hasSnapshot : Int32) (text : (Nat → Int32)) (length : Int32) (at_ : Int32) (isWell : Int32) (rd : (Nat → Int32)) (readMany : Int32) (top : Int64) (bottom : Int64) (digit : (Nat → Int32)) (digitMany : Int32) (other : (Nat → Int32)) (otherMany : Int32) (column : (Nat → Int32)) (columnMany : Int32) (carryMany : Int32) (chainMost : Int32) (arr : (Nat → Int64)) (ard : (Nat → UInt64)) (x5 : Int32), ce + n28 ≤ 601024 ∧ sl + 6 * n28 ≤ 7293034 → xW g (fun q : Nat => s.heap.size ≤ q) s.heap (wC g h now snap has hist ent res num col ++ wM g hm thrown ss states stateMany snapshot hasSnapshot text length at_ isWell rd readMany top bottom digit digitMany other otherMany column columnMany carryMany chainMost ++ [(ho, .inl (g.2.2.2.1, 1, .inr (.inl arr)))] ++ [(hd, .inl (g.2.2.2.2, 1, .inr (.inr (.inr (.inl ard)))))]) H locs → lv_has ls 9 [(0, .ref b), (1, .ref (h 0)), (2, .ref (hm 0)), (3, .ref ho), (4, .ref hd), (5, .int x5)] → f_L_law_b293 (f_L_law_b28 n28) xs L now snap has hist ent res num col thrown ss states stateMany snapshot hasSnapshot text length at_ isWell rd readMany top bottom digit digitMany other otherMany column columnMany carryMany chainMost arr ard x5 = some 1 → W p l e room_1 s m #[Value.ref b] below meth c H locs ce sl (lw_Z below #[Value.ref b] s) (F0 m 293 ls []) := by
      intro H locs ls ce sl now snap has hist ent res num col thrown ss states stateMany snapshot hasSnapshot text length at_ isWell rd readMany top bottom digit digitMany other otherMany column columnMany carryMany chainMost arr ard x5 hcs hw hl hf
      refine lv_goto (tgt := 2616) hx hb dL_law_293 (by decide) ?_
      exact b2616 _ _ _ (ce + 0) (sl + 0) now snap has hist ent res num col thrown ss states stateMany snapshot hasSnapshot text length at_ isWell rd readMany top bottom digit digitMany other otherMany column columnMany carryMany chainMost arr ard x5 (by omega) hw (lv_sub hl [0, 1, 2, 3, 4, 5] rfl) hf
    have b373 : ∀ (H : Heap) (locs : List Loc) (ls : Array Slot) (ce sl : Nat) (now : SC) (snap : SC) (has : Int32) (hist : HC) (ent : EC) (res : RC) (num : NC) (col : CC) (thrown : Int32) (ss : (Nat → Int32)) (states : (Nat → Int32)) (stateMany : Int32) (snapshot : (Nat → Int32)) (hasSnapshot : Int32) (text : (Nat → Int32)) (length : Int32) (at_ : Int32) (isWell : Int32) (rd : (Nat → Int32)) (readMany : Int32) (top : Int64) (bottom : Int64) (digit : (Nat → Int32)) (digitMany : Int32) (other : (Nat → Int32)) (otherMany : Int32) (column : (Nat → Int32)) (columnMany : Int32) (carryMany : Int32) (chainMost : Int32) (arr : (Nat → Int64)) (ard : (Nat → UInt64)) (x5 : Int32), ce + n28 ≤ 601024 ∧ sl + 6 * n28 ≤ 7293034 → xW g (fun q : Nat => s.heap.size ≤ q) s.heap (wC g h now snap has hist ent res num col ++ wM g hm thrown ss states stateMany snapshot hasSnapshot text length at_ isWell rd readMany top bottom digit digitMany other otherMany column columnMany carryMany chainMost ++ [(ho, .inl (g.2.2.2.1, 1, .inr (.inl arr)))] ++ [(hd, .inl (g.2.2.2.2, 1, .inr (.inr (.inr (.inl ard)))))]) H locs → lv_has ls 9 [(0, .ref b), (1, .ref (h 0)), (2, .ref (hm 0)), (3, .ref ho), (4, .ref hd), (5, .int x5)] → f_L_law_b373 (f_L_law_b28 n28) xs L now snap has hist ent res num col thrown ss states stateMany snapshot hasSnapshot text length at_ isWell rd readMany top bottom digit digitMany other otherMany column columnMany carryMany chainMost arr ard x5 = some 1 → W p l e room_1 s m #[Value.ref b] below meth c H locs ce sl (lw_Z below #[Value.ref b] s) (F0 m 373 ls []) := by
      intro H locs ls ce sl now snap has hist ent res num col thrown ss states stateMany snapshot hasSnapshot text length at_ isWell rd readMany top bottom digit digitMany other otherMany column columnMany carryMany chainMost arr ard x5 hcs hw hl hf
      refine lv_goto (tgt := 2616) hx hb dL_law_373 (by decide) ?_
      exact b2616 _ _ _ (ce + 0) (sl + 0) now snap has hist ent res num col thrown ss states stateMany snapshot hasSnapshot text length at_ isWell rd readMany top bottom digit digitMany other otherMany column columnMany carryMany chainMost arr ard x5 (by omega) hw (lv_sub hl [0, 1, 2, 3, 4, 5] rfl) hf
    have b441 : ∀ (H : Heap) (locs : List Loc) (ls : Array Slot) (ce sl : Nat) (now : SC) (snap : SC) (has : Int32) (hist : HC) (ent : EC) (res : RC) (num : NC) (col : CC) (thrown : Int32) (ss : (Nat → Int32)) (states : (Nat → Int32)) (stateMany : Int32) (snapshot : (Nat → Int32)) (hasSnapshot : Int32) (text : (Nat → Int32)) (length : Int32) (at_ : Int32) (isWell : Int32) (rd : (Nat → Int32)) (readMany : Int32) (top : Int64) (bottom : Int64) (digit : (Nat → Int32)) (digitMany : Int32) (other : (Nat → Int32)) (otherMany : Int32) (column : (Nat → Int32)) (columnMany : Int32) (carryMany : Int32) (chainMost : Int32) (arr : (Nat → Int64)) (ard : (Nat → UInt64)) (x5 : Int32), ce + n28 ≤ 601024 ∧ sl + 6 * n28 ≤ 7293034 → xW g (fun q : Nat => s.heap.size ≤ q) s.heap (wC g h now snap has hist ent res num col ++ wM g hm thrown ss states stateMany snapshot hasSnapshot text length at_ isWell rd readMany top bottom digit digitMany other otherMany column columnMany carryMany chainMost ++ [(ho, .inl (g.2.2.2.1, 1, .inr (.inl arr)))] ++ [(hd, .inl (g.2.2.2.2, 1, .inr (.inr (.inr (.inl ard)))))]) H locs → lv_has ls 9 [(0, .ref b), (1, .ref (h 0)), (2, .ref (hm 0)), (3, .ref ho), (4, .ref hd), (5, .int x5)] → f_L_law_b441 (f_L_law_b28 n28) xs L now snap has hist ent res num col thrown ss states stateMany snapshot hasSnapshot text length at_ isWell rd readMany top bottom digit digitMany other otherMany column columnMany carryMany chainMost arr ard x5 = some 1 → W p l e room_1 s m #[Value.ref b] below meth c H locs ce sl (lw_Z below #[Value.ref b] s) (F0 m 441 ls []) := by
      intro H locs ls ce sl now snap has hist ent res num col thrown ss states stateMany snapshot hasSnapshot text length at_ isWell rd readMany top bottom digit digitMany other otherMany column columnMany carryMany chainMost arr ard x5 hcs hw hl hf
      refine lv_goto (tgt := 2616) hx hb dL_law_441 (by decide) ?_
      exact b2616 _ _ _ (ce + 0) (sl + 0) now snap has hist ent res num col thrown ss states stateMany snapshot hasSnapshot text length at_ isWell rd readMany top bottom digit digitMany other otherMany column columnMany carryMany chainMost arr ard x5 (by omega) hw (lv_sub hl [0, 1, 2, 3, 4, 5] rfl) hf
    have b509 : ∀ (H : Heap) (locs : List Loc) (ls : Array Slot) (ce sl : Nat) (now : SC) (snap : SC) (has : Int32) (hist : HC) (ent : EC) (res : RC) (num : NC) (col : CC) (thrown : Int32) (ss : (Nat → Int32)) (states : (Nat → Int32)) (stateMany : Int32) (snapshot : (Nat → Int32)) (hasSnapshot : Int32) (text : (Nat → Int32)) (length : Int32) (at_ : Int32) (isWell : Int32) (rd : (Nat → Int32)) (readMany : Int32) (top : Int64) (bottom : Int64) (digit : (Nat → Int32)) (digitMany : Int32) (other : (Nat → Int32)) (otherMany : Int32) (column : (Nat → Int32)) (columnMany : Int32) (carryMany : Int32) (chainMost : Int32) (arr : (Nat → Int64)) (ard : (Nat → UInt64)) (x5 : Int32), ce + n28 ≤ 601024 ∧ sl + 6 * n28 ≤ 7293034 → xW g (fun q : Nat => s.heap.size ≤ q) s.heap (wC g h now snap has hist ent res num col ++ wM g hm thrown ss states stateMany snapshot hasSnapshot text length at_ isWell rd readMany top bottom digit digitMany other otherMany column columnMany carryMany chainMost ++ [(ho, .inl (g.2.2.2.1, 1, .inr (.inl arr)))] ++ [(hd, .inl (g.2.2.2.2, 1, .inr (.inr (.inr (.inl ard)))))]) H locs → lv_has ls 9 [(0, .ref b), (1, .ref (h 0)), (2, .ref (hm 0)), (3, .ref ho), (4, .ref hd), (5, .int x5)] → f_L_law_b509 (f_L_law_b28 n28) xs L now snap has hist ent res num col thrown ss states stateMany snapshot hasSnapshot text length at_ isWell rd readMany top bottom digit digitMany other otherMany column columnMany carryMany chainMost arr ard x5 = some 1 → W p l e room_1 s m #[Value.ref b] below meth c H locs ce sl (lw_Z below #[Value.ref b] s) (F0 m 509 ls []) := by
      intro H locs ls ce sl now snap has hist ent res num col thrown ss states stateMany snapshot hasSnapshot text length at_ isWell rd readMany top bottom digit digitMany other otherMany column columnMany carryMany chainMost arr ard x5 hcs hw hl hf
      refine lv_goto (tgt := 2616) hx hb dL_law_509 (by decide) ?_
      exact b2616 _ _ _ (ce + 0) (sl + 0) now snap has hist ent res num col thrown ss states stateMany snapshot hasSnapshot text length at_ isWell rd readMany top bottom digit digitMany other otherMany column columnMany carryMany chainMost arr ard x5 (by omega) hw (lv_sub hl [0, 1, 2, 3, 4, 5] rfl) hf
    have b577 : ∀ (H : Heap) (locs : List Loc) (ls : Array Slot) (ce sl : Nat) (now : SC) (snap : SC) (has : Int32) (hist : HC) (ent : EC) (res : RC) (num : NC) (col : CC) (thrown : Int32) (ss : (Nat → Int32)) (states : (Nat → Int32)) (stateMany : Int32) (snapshot : (Nat → Int32)) (hasSnapshot : Int32) (text : (Nat → Int32)) (length : Int32) (at_ : Int32) (isWell : Int32) (rd : (Nat → Int32)) (readMany : Int32) (top : Int64) (bottom : Int64) (digit : (Nat → Int32)) (digitMany : Int32) (other : (Nat → Int32)) (otherMany : Int32) (column : (Nat → Int32)) (columnMany : Int32) (carryMany : Int32) (chainMost : Int32) (arr : (Nat → Int64)) (ard : (Nat → UInt64)) (x5 : Int32), ce + n28 ≤ 601024 ∧ sl + 6 * n28 ≤ 7293034 → xW g (fun q : Nat => s.heap.size ≤ q) s.heap (wC g h now snap has hist ent res num col ++ wM g hm thrown ss states stateMany snapshot hasSnapshot text length at_ isWell rd readMany top bottom digit digitMany other otherMany column columnMany carryMany chainMost ++ [(ho, .inl (g.2.2.2.1, 1, .inr (.inl arr)))] ++ [(hd, .inl (g.2.2.2.2, 1, .inr (.inr (.inr (.inl ard)))))]) H locs → lv_has ls 9 [(0, .ref b), (1, .ref (h 0)), (2, .ref (hm 0)), (3, .ref ho), (4, .ref hd), (5, .int x5)] → f_L_law_b577 (f_L_law_b28 n28) xs L now snap has hist ent res num col thrown ss states stateMany snapshot hasSnapshot text length at_ isWell rd readMany top bottom digit digitMany other otherMany column columnMany carryMany chainMost arr ard x5 = some 1 → W p l e room_1 s m #[Value.ref b] below meth c H locs ce sl (lw_Z below #[Value.ref b] s) (F0 m 577 ls []) := by
      intro H locs ls ce sl now snap has hist ent res num col thrown ss states stateMany snapshot hasSnapshot text length at_ isWell rd readMany top bottom digit digitMany other otherMany column columnMany carryMany chainMost arr ard x5 hcs hw hl hf
      refine lv_goto (tgt := 2616) hx hb dL_law_577 (by decide) ?_
      exact b2616 _ _ _ (ce + 0) (sl + 0) now snap has hist ent res num col thrown ss states stateMany snapshot hasSnapshot text length at_ isWell rd readMany top bottom digit digitMany other otherMany column columnMany carryMany chainMost arr ard x5 (by omega) hw (lv_sub hl [0, 1, 2, 3, 4, 5] rfl) hf
    have b657 : ∀ (H : Heap) (locs : List Loc) (ls : Array Slot) (ce sl : Nat) (now : SC) (snap : SC) (has : Int32) (hist : HC) (ent : EC) (res : RC) (num : NC) (col : CC) (thrown : Int32) (ss : (Nat → Int32)) (states : (Nat → Int32)) (stateMany : Int32) (snapshot : (Nat → Int32)) (hasSnapshot : Int32) (text : (Nat → Int32)) (length : Int32) (at_ : Int32) (isWell : Int32) (rd : (Nat → Int32)) (readMany : Int32) (top : Int64) (bottom : Int64) (digit : (Nat → Int32)) (digitMany : Int32) (other : (Nat → Int32)) (otherMany : Int32) (column : (Nat → Int32)) (columnMany : Int32) (carryMany : Int32) (chainMost : Int32) (arr : (Nat → Int64)) (ard : (Nat → UInt64)) (x5 : Int32), ce + n28 ≤ 601024 ∧ sl + 6 * n28 ≤ 7293034 → xW g (fun q : Nat => s.heap.size ≤ q) s.heap (wC g h now snap has hist ent res num col ++ wM g hm thrown ss states stateMany snapshot hasSnapshot text length at_ isWell rd readMany top bottom digit digitMany other otherMany column columnMany carryMany chainMost ++ [(ho, .inl (g.2.2.2.1, 1, .inr (.inl arr)))] ++ [(hd, .inl (g.2.2.2.2, 1, .inr (.inr (.inr (.inl ard)))))]) H locs → lv_has ls 9 [(0, .ref b), (1, .ref (h 0)), (2, .ref (hm 0)), (3, .ref ho), (4, .ref hd), (5, .int x5)] → f_L_law_b657 (f_L_law_b28 n28) xs L now snap has hist ent res num col thrown ss states stateMany snapshot hasSnapshot text length at_ isWell rd readMany top bottom digit digitMany other otherMany column columnMany carryMany chainMost arr ard x5 = some 1 → W p l e room_1 s m #[Value.ref b] below meth c H locs ce sl (lw_Z below #[Value.ref b] s) (F0 m 657 ls []) := by
      intro H locs ls ce sl now snap has hist ent res num col thrown ss states stateMany snapshot hasSnapshot text length at_ isWell rd readMany top bottom digit digitMany other otherMany column columnMany carryMany chainMost arr ard x5 hcs hw hl hf
      refine lv_goto (tgt := 2616) hx hb dL_law_657 (by decide) ?_
      exact b2616 _ _ _ (ce + 0) (sl + 0) now snap has hist ent res num col thrown ss states stateMany snapshot hasSnapshot text length at_ isWell rd readMany top bottom digit digitMany other otherMany column columnMany carryMany chainMost arr ard x5 (by omega) hw (lv_sub hl [0, 1, 2, 3, 4, 5] rfl) hf
    have b713 : ∀ (H : Heap) (locs : List Loc) (ls : Array Slot) (ce sl : Nat) (now : SC) (snap : SC) (has : Int32) (hist : HC) (ent : EC) (res : RC) (num : NC) (col : CC) (thrown : Int32) (ss : (Nat → Int32)) (states : (Nat → Int32)) (stateMany : Int32) (snapshot : (Nat → Int32)) (hasSnapshot : Int32) (text : (Nat → Int32)) (length : Int32) (at_ : Int32) (isWell : Int32) (rd : (Nat → Int32)) (readMany : Int32) (top : Int64) (bottom : Int64) (digit : (Nat → Int32)) (digitMany : Int32) (other : (Nat → Int32)) (otherMany : Int32) (column : (Nat → Int32)) (columnMany : Int32) (carryMany : Int32) (chainMost : Int32) (arr : (Nat → Int64)) (ard : (Nat → UInt64)) (x5 : Int32), ce + n28 ≤ 601024 ∧ sl + 6 * n28 ≤ 7293034 → xW g (fun q : Nat => s.heap.size ≤ q) s.heap (wC g h now snap has hist ent res num col ++ wM g hm thrown ss states stateMany snapshot hasSnapshot text length at_ isWell rd readMany top bottom digit digitMany other otherMany column columnMany carryMany chainMost ++ [(ho, .inl (g.2.2.2.1, 1, .inr (.inl arr)))] ++ [(hd, .inl (g.2.2.2.2, 1, .inr (.inr (.inr (.inl ard)))))]) H locs → lv_has ls 9 [(0, .ref b), (1, .ref (h 0)), (2, .ref (hm 0)), (3, .ref ho), (4, .ref hd), (5, .int x5)] → f_L_law_b713 (f_L_law_b28 n28) xs L now snap has hist ent res num col thrown ss states stateMany snapshot hasSnapshot text length at_ isWell rd readMany top bottom digit digitMany other otherMany column columnMany carryMany chainMost arr ard x5 = some 1 → W p l e room_1 s m #[Value.ref b] below meth c H locs ce sl (lw_Z below #[Value.ref b] s) (F0 m 713 ls []) := by
      intro H locs ls ce sl now snap has hist ent res num col thrown ss states stateMany snapshot hasSnapshot text length at_ isWell rd readMany top bottom digit digitMany other otherMany column columnMany carryMany chainMost arr ard x5 hcs hw hl hf
      refine lv_goto (tgt := 2616) hx hb dL_law_713 (by decide) ?_
      exact b2616 _ _ _ (ce + 0) (sl + 0) now snap has hist ent res num col thrown ss states stateMany snapshot hasSnapshot text length at_ isWell rd readMany top bottom digit digitMany other otherMany column columnMany carryMany chainMost arr ard x5 (by omega) hw (lv_sub hl [0, 1, 2, 3, 4, 5] rfl) hf
    have b783 : ∀ (H : Heap) (locs : List Loc) (ls : Array Slot) (ce sl : Nat) (now : SC) (snap : SC) (has : Int32) (hist : HC) (ent : EC) (res : RC) (num : NC) (col : CC) (thrown : Int32) (ss : (Nat → Int32)) (states : (Nat → Int32)) (stateMany : Int32) (snapshot : (Nat → Int32)) (hasSnapshot : Int32) (text : (Nat → Int32)) (length : Int32) (at_ : Int32) (isWell : Int32) (rd : (Nat → Int32)) (readMany : Int32) (top : Int64) (bottom : Int64) (digit : (Nat → Int32)) (digitMany : Int32) (other : (Nat → Int32)) (otherMany : Int32) (column : (Nat → Int32)) (columnMany : Int32) (carryMany : Int32) (chainMost : Int32) (arr : (Nat → Int64)) (ard : (Nat → UInt64)) (x5 : Int32), ce + n28 ≤ 601024 ∧ sl + 6 * n28 ≤ 7293034 → xW g (fun q : Nat => s.heap.size ≤ q) s.heap (wC g h now snap has hist ent res num col ++ wM g hm thrown ss states stateMany snapshot hasSnapshot text length at_ isWell rd readMany top bottom digit digitMany other otherMany column columnMany carryMany chainMost ++ [(ho, .inl (g.2.2.2.1, 1, .inr (.inl arr)))] ++ [(hd, .inl (g.2.2.2.2, 1, .inr (.inr (.inr (.inl ard)))))]) H locs → lv_has ls 9 [(0, .ref b), (1, .ref (h 0)), (2, .ref (hm 0)), (3, .ref ho), (4, .ref hd), (5, .int x5)] → f_L_law_b783 (f_L_law_b28 n28) xs L now snap has hist ent res num col thrown ss states stateMany snapshot hasSnapshot text length at_ isWell rd readMany top bottom digit digitMany other otherMany column columnMany carryMany chainMost arr ard x5 = some 1 → W p l e room_1 s m #[Value.ref b] below meth c H locs ce sl (lw_Z below #[Value.ref b] s) (F0 m 783 ls []) := by
      intro H locs ls ce sl now snap has hist ent res num col thrown ss states stateMany snapshot hasSnapshot text length at_ isWell rd readMany top bottom digit digitMany other otherMany column columnMany carryMany chainMost arr ard x5 hcs hw hl hf
      refine lv_goto (tgt := 2616) hx hb dL_law_783 (by decide) ?_
      exact b2616 _ _ _ (ce + 0) (sl + 0) now snap has hist ent res num col thrown ss states stateMany snapshot hasSnapshot text length at_ isWell rd readMany top bottom digit digitMany other otherMany column columnMany carryMany chainMost arr ard x5 (by omega) hw (lv_sub hl [0, 1, 2, 3, 4, 5] rfl) hf
    have b840 : ∀ (H : Heap) (locs : List Loc) (ls : Array Slot) (ce sl : Nat) (now : SC) (snap : SC) (has : Int32) (hist : HC) (ent : EC) (res : RC) (num : NC) (col : CC) (thrown : Int32) (ss : (Nat → Int32)) (states : (Nat → Int32)) (stateMany : Int32) (snapshot : (Nat → Int32)) (hasSnapshot : Int32) (text : (Nat → Int32)) (length : Int32) (at_ : Int32) (isWell : Int32) (rd : (Nat → Int32)) (readMany : Int32) (top : Int64) (bottom : Int64) (digit : (Nat → Int32)) (digitMany : Int32) (other : (Nat → Int32)) (otherMany : Int32) (column : (Nat → Int32)) (columnMany : Int32) (carryMany : Int32) (chainMost : Int32) (arr : (Nat → Int64)) (ard : (Nat → UInt64)) (x5 : Int32), ce + n28 ≤ 601024 ∧ sl + 6 * n28 ≤ 7293034 → xW g (fun q : Nat => s.heap.size ≤ q) s.heap (wC g h now snap has hist ent res num col ++ wM g hm thrown ss states stateMany snapshot hasSnapshot text length at_ isWell rd readMany top bottom digit digitMany other otherMany column columnMany carryMany chainMost ++ [(ho, .inl (g.2.2.2.1, 1, .inr (.inl arr)))] ++ [(hd, .inl (g.2.2.2.2, 1, .inr (.inr (.inr (.inl ard)))))]) H locs → lv_has ls 9 [(0, .ref b), (1, .ref (h 0)), (2, .ref (hm 0)), (3, .ref ho), (4, .ref hd), (5, .int x5)] → f_L_law_b840 (f_L_law_b28 n28) xs L now snap has hist ent res num col thrown ss states stateMany snapshot hasSnapshot text length at_ isWell rd readMany top bottom digit digitMany other otherMany column columnMany carryMany chainMost arr ard x5 = some 1 → W p l e room_1 s m #[Value.ref b] below meth c H locs ce sl (lw_Z below #[Value.ref b] s) (F0 m 840 ls []) := by
      intro H locs ls ce sl now snap has hist ent res num col thrown ss states stateMany snapshot hasSnapshot text length at_ isWell rd readMany top bottom digit digitMany other otherMany column columnMany carryMany chainMost arr ard x5 hcs hw hl hf
      refine lv_goto (tgt := 2616) hx hb dL_law_840 (by decide) ?_
      exact b2616 _ _ _ (ce + 0) (sl + 0) now snap has hist ent res num col thrown ss states stateMany snapshot hasSnapshot text length at_ isWell rd readMany top bottom digit digitMany other otherMany column columnMany carryMany chainMost arr ard x5 (by omega) hw (lv_sub hl [0, 1, 2, 3, 4, 5] rfl) hf
    have b884 : ∀ (H : Heap) (locs : List Loc) (ls : Array Slot) (ce sl : Nat) (now : SC) (snap : SC) (has : Int32) (hist : HC) (ent : EC) (res : RC) (num : NC) (col : CC) (thrown : Int32) (ss : (Nat → Int32)) (states : (Nat → Int32)) (stateMany : Int32) (snapshot : (Nat → Int32)) (hasSnapshot : Int32) (text : (Nat → Int32)) (length : Int32) (at_ : Int32) (isWell : Int32) (rd : (Nat → Int32)) (readMany : Int32) (top : Int64) (bottom : Int64) (digit : (Nat → Int32)) (digitMany : Int32) (other : (Nat → Int32)) (otherMany : Int32) (column : (Nat → Int32)) (columnMany : Int32) (carryMany : Int32) (chainMost : Int32) (arr : (Nat → Int64)) (ard : (Nat → UInt64)) (x5 : Int32), ce + n28 ≤ 601024 ∧ sl + 6 * n28 ≤ 7293034 → xW g (fun q : Nat => s.heap.size ≤ q) s.heap (wC g h now snap has hist ent res num col ++ wM g hm thrown ss states stateMany snapshot hasSnapshot text length at_ isWell rd readMany top bottom digit digitMany other otherMany column columnMany carryMany chainMost ++ [(ho, .inl (g.2.2.2.1, 1, .inr (.inl arr)))] ++ [(hd, .inl (g.2.2.2.2, 1, .inr (.inr (.inr (.inl ard)))))]) H locs → lv_has ls 9 [(0, .ref b), (1, .ref (h 0)), (2, .ref (hm 0)), (3, .ref ho), (4, .ref hd), (5, .int x5)] → f_L_law_b884 (f_L_law_b28 n28) xs L now snap has hist ent res num col thrown ss states stateMany snapshot hasSnapshot text length at_ isWell rd readMany top bottom digit digitMany other otherMany column columnMany carryMany chainMost arr ard x5 = some 1 → W p l e room_1 s m #[Value.ref b] below meth c H locs ce sl (lw_Z below #[Value.ref b] s) (F0 m 884 ls []) := by
      intro H locs ls ce sl now snap has hist ent res num col thrown ss states stateMany snapshot hasSnapshot text length at_ isWell rd readMany top bottom digit digitMany other otherMany column columnMany carryMany chainMost arr ard x5 hcs hw hl hf
      refine lv_goto (tgt := 2616) hx hb dL_law_884 (by decide) ?_
      exact b2616 _ _ _ (ce + 0) (sl + 0) now snap has hist ent res num col thrown ss states stateMany snapshot hasSnapshot text length at_ isWell rd readMany top bottom digit digitMany other otherMany column columnMany carryMany chainMost arr ard x5 (by omega) hw (lv_sub hl [0, 1, 2, 3, 4, 5] rfl) hf
    have b928 : ∀ (H : Heap) (locs : List Loc) (ls : Array Slot) (ce sl : Nat) (now : SC) (snap : SC) (has : Int32) (hist : HC) (ent : EC) (res : RC) (num : NC) (col : CC) (thrown : Int32) (ss : (Nat → Int32)) (states : (Nat → Int32)) (stateMany : Int32) (snapshot : (Nat → Int32)) (hasSnapshot : Int32) (text : (Nat → Int32)) (length : Int32) (at_ : Int32) (isWell : Int32) (rd : (Nat → Int32)) (readMany : Int32) (top : Int64) (bottom : Int64) (digit : (Nat → Int32)) (digitMany : Int32) (other : (Nat → Int32)) (otherMany : Int32) (column : (Nat → Int32)) (columnMany : Int32) (carryMany : Int32) (chainMost : Int32) (arr : (Nat → Int64)) (ard : (Nat → UInt64)) (x5 : Int32), ce + n28 ≤ 601024 ∧ sl + 6 * n28 ≤ 7293034 → xW g (fun q : Nat => s.heap.size ≤ q) s.heap (wC g h now snap has hist ent res num col ++ wM g hm thrown ss states stateMany snapshot hasSnapshot text length at_ isWell rd readMany top bottom digit digitMany other otherMany column columnMany carryMany chainMost ++ [(ho, .inl (g.2.2.2.1, 1, .inr (.inl arr)))] ++ [(hd, .inl (g.2.2.2.2, 1, .inr (.inr (.inr (.inl ard)))))]) H locs → lv_has ls 9 [(0, .ref b), (1, .ref (h 0)), (2, .ref (hm 0)), (3, .ref ho), (4, .ref hd), (5, .int x5)] → f_L_law_b928 (f_L_law_b28 n28) xs L now snap has hist ent res num col thrown ss states stateMany snapshot hasSnapshot text length at_ isWell rd readMany top bottom digit digitMany other otherMany column columnMany carryMany chainMost arr ard x5 = some 1 → W p l e room_1 s m #[Value.ref b] below meth c H locs ce sl (lw_Z below #[Value.ref b] s) (F0 m 928 ls []) := by
      intro H locs ls ce sl now snap has hist ent res num col thrown ss states stateMany snapshot hasSnapshot text length at_ isWell rd readMany top bottom digit digitMany other otherMany column columnMany carryMany chainMost arr ard x5 hcs hw hl hf
      refine lv_goto (tgt := 2616) hx hb dL_law_928 (by decide) ?_
      exact b2616 _ _ _ (ce + 0) (sl + 0) now snap has hist ent res num col thrown ss states stateMany snapshot hasSnapshot text length at_ isWell rd readMany top bottom digit digitMany other otherMany column columnMany carryMany chainMost arr ard x5 (by omega) hw (lv_sub hl [0, 1, 2, 3, 4, 5] rfl) hf
    have b985 : ∀ (H : Heap) (locs : List Loc) (ls : Array Slot) (ce sl : Nat) (now : SC) (snap : SC) (has : Int32) (hist : HC) (ent : EC) (res : RC) (num : NC) (col : CC) (thrown : Int32) (ss : (Nat → Int32)) (states : (Nat → Int32)) (stateMany : Int32) (snapshot : (Nat → Int32)) (hasSnapshot : Int32) (text : (Nat → Int32)) (length : Int32) (at_ : Int32) (isWell : Int32) (rd : (Nat → Int32)) (readMany : Int32) (top : Int64) (bottom : Int64) (digit : (Nat → Int32)) (digitMany : Int32) (other : (Nat → Int32)) (otherMany : Int32) (column : (Nat → Int32)) (columnMany : Int32) (carryMany : Int32) (chainMost : Int32) (arr : (Nat → Int64)) (ard : (Nat → UInt64)) (x5 : Int32), ce + n28 ≤ 601024 ∧ sl + 6 * n28 ≤ 7293034 → xW g (fun q : Nat => s.heap.size ≤ q) s.heap (wC g h now snap has hist ent res num col ++ wM g hm thrown ss states stateMany snapshot hasSnapshot text length at_ isWell rd readMany top bottom digit digitMany other otherMany column columnMany carryMany chainMost ++ [(ho, .inl (g.2.2.2.1, 1, .inr (.inl arr)))] ++ [(hd, .inl (g.2.2.2.2, 1, .inr (.inr (.inr (.inl ard)))))]) H locs → lv_has ls 9 [(0, .ref b), (1, .ref (h 0)), (2, .ref (hm 0)), (3, .ref ho), (4, .ref hd), (5, .int x5)] → f_L_law_b985 (f_L_law_b28 n28) xs L now snap has hist ent res num col thrown ss states stateMany snapshot hasSnapshot text length at_ isWell rd readMany top bottom digit digitMany other otherMany column columnMany carryMany chainMost arr ard x5 = some 1 → W p l e room_1 s m #[Value.ref b] below meth c H locs ce sl (lw_Z below #[Value.ref b] s) (F0 m 985 ls []) := by
      intro H locs ls ce sl now snap has hist ent res num col thrown ss states stateMany snapshot hasSnapshot text length at_ isWell rd readMany top bottom digit digitMany other otherMany column columnMany carryMany chainMost arr ard x5 hcs hw hl hf
      refine lv_goto (tgt := 2616) hx hb dL_law_985 (by decide) ?_
      exact b2616 _ _ _ (ce + 0) (sl + 0) now snap has hist ent res num col thrown ss states stateMany snapshot hasSnapshot text length at_ isWell rd readMany top bottom digit digitMany other otherMany column columnMany carryMany chainMost arr ard x5 (by omega) hw (lv_sub hl [0, 1, 2, 3, 4, 5] rfl) hf
    have b1067 : ∀ (H : Heap) (locs : List Loc) (ls : Array Slot) (ce sl : Nat) (now : SC) (snap : SC) (has : Int32) (hist : HC) (ent : EC) (res : RC) (num : NC) (col : CC) (thrown : Int32) (ss : (Nat → Int32)) (states : (Nat → Int32)) (stateMany : Int32) (snapshot : (Nat → Int32)) (hasSnapshot : Int32) (text : (Nat → Int32)) (length : Int32) (at_ : Int32) (isWell : Int32) (rd : (Nat → Int32)) (readMany : Int32) (top : Int64) (bottom : Int64) (digit : (Nat → Int32)) (digitMany : Int32) (other : (Nat → Int32)) (otherMany : Int32) (column : (Nat → Int32)) (columnMany : Int32) (carryMany : Int32) (chainMost : Int32) (arr : (Nat → Int64)) (ard : (Nat → UInt64)) (x5 : Int32), ce + n28 ≤ 601024 ∧ sl + 6 * n28 ≤ 7293034 → xW g (fun q : Nat => s.heap.size ≤ q) s.heap (wC g h now snap has hist ent res num col ++ wM g hm thrown ss states stateMany snapshot hasSnapshot text length at_ isWell rd readMany top bottom digit digitMany other otherMany column columnMany carryMany chainMost ++ [(ho, .inl (g.2.2.2.1, 1, .inr (.inl arr)))] ++ [(hd, .inl (g.2.2.2.2, 1, .inr (.inr (.inr (.inl ard)))))]) H locs → lv_has ls 9 [(0, .ref b), (1, .ref (h 0)), (2, .ref (hm 0)), (3, .ref ho), (4, .ref hd), (5, .int x5)] → f_L_law_b1067 (f_L_law_b28 n28) xs L now snap has hist ent res num col thrown ss states stateMany snapshot hasSnapshot text length at_ isWell rd readMany top bottom digit digitMany other otherMany column columnMany carryMany chainMost arr ard x5 = some 1 → W p l e room_1 s m #[Value.ref b] below meth c H locs ce sl (lw_Z below #[Value.ref b] s) (F0 m 1067 ls []) := by
      intro H locs ls ce sl now snap has hist ent res num col thrown ss states stateMany snapshot hasSnapshot text length at_ isWell rd readMany top bottom digit digitMany other otherMany column columnMany carryMany chainMost arr ard x5 hcs hw hl hf
      refine lv_goto (tgt := 2616) hx hb dL_law_1067 (by decide) ?_
      exact b2616 _ _ _ (ce + 0) (sl + 0) now snap has hist ent res num col thrown ss states stateMany snapshot hasSnapshot text length at_ isWell rd readMany top bottom digit digitMany other otherMany column columnMany carryMany chainMost arr ard x5 (by omega) hw (lv_sub hl [0, 1, 2, 3, 4, 5] rfl) hf
    have b1123 : ∀ (H : Heap) (locs : List Loc) (ls : Array Slot) (ce sl : Nat) (now : SC) (snap : SC) (has : Int32) (hist : HC) (ent : EC) (res : RC) (num : NC) (col : CC) (thrown : Int32) (ss : (Nat → Int32)) (states : (Nat → Int32)) (stateMany : Int32) (snapshot : (Nat → Int32)) (hasSnapshot : Int32) (text : (Nat → Int32)) (length : Int32) (at_ : Int32) (isWell : Int32) (rd : (Nat → Int32)) (readMany : Int32) (top : Int64) (bottom : Int64) (digit : (Nat → Int32)) (digitMany : Int32) (other : (Nat → Int32)) (otherMany : Int32) (column : (Nat → Int32)) (columnMany : Int32) (carryMany : Int32) (chainMost : Int32) (arr : (Nat → Int64)) (ard : (Nat → UInt64)) (x5 : Int32), ce + n28 ≤ 601024 ∧ sl + 6 * n28 ≤ 7293034 → xW g (fun q : Nat => s.heap.size ≤ q) s.heap (wC g h now snap has hist ent res num col ++ wM g hm thrown ss states stateMany snapshot hasSnapshot text length at_ isWell rd readMany top bottom digit digitMany other otherMany column columnMany carryMany chainMost ++ [(ho, .inl (g.2.2.2.1, 1, .inr (.inl arr)))] ++ [(hd, .inl (g.2.2.2.2, 1, .inr (.inr (.inr (.inl ard)))))]) H locs → lv_has ls 9 [(0, .ref b), (1, .ref (h 0)), (2, .ref (hm 0)), (3, .ref ho), (4, .ref hd), (5, .int x5)] → f_L_law_b1123 (f_L_law_b28 n28) xs L now snap has hist ent res num col thrown ss states stateMany snapshot hasSnapshot text length at_ isWell rd readMany top bottom digit digitMany other otherMany column columnMany carryMany chainMost arr ard x5 = some 1 → W p l e room_1 s m #[Value.ref b] below meth c H locs ce sl (lw_Z below #[Value.ref b] s) (F0 m 1123 ls []) := by
      intro H locs ls ce sl now snap has hist ent res num col thrown ss states stateMany snapshot hasSnapshot text length at_ isWell rd readMany top bottom digit digitMany other otherMany column columnMany carryMany chainMost arr ard x5 hcs hw hl hf
      refine lv_goto (tgt := 2616) hx hb dL_law_1123 (by decide) ?_
      exact b2616 _ _ _ (ce + 0) (sl + 0) now snap has hist ent res num col thrown ss states stateMany snapshot hasSnapshot text length at_ isWell rd readMany top bottom digit digitMany other otherMany column columnMany carryMany chainMost arr ard x5 (by omega) hw (lv_sub hl [0, 1, 2, 3, 4, 5] rfl) hf
    have b1179 : ∀ (H : Heap) (locs : List Loc) (ls : Array Slot) (ce sl : Nat) (now : SC) (snap : SC) (has : Int32) (hist : HC) (ent : EC) (res : RC) (num : NC) (col : CC) (thrown : Int32) (ss : (Nat → Int32)) (states : (Nat → Int32)) (stateMany : Int32) (snapshot : (Nat → Int32)) (hasSnapshot : Int32) (text : (Nat → Int32)) (length : Int32) (at_ : Int32) (isWell : Int32) (rd : (Nat → Int32)) (readMany : Int32) (top : Int64) (bottom : Int64) (digit : (Nat → Int32)) (digitMany : Int32) (other : (Nat → Int32)) (otherMany : Int32) (column : (Nat → Int32)) (columnMany : Int32) (carryMany : Int32) (chainMost : Int32) (arr : (Nat → Int64)) (ard : (Nat → UInt64)) (x5 : Int32), ce + n28 ≤ 601024 ∧ sl + 6 * n28 ≤ 7293034 → xW g (fun q : Nat => s.heap.size ≤ q) s.heap (wC g h now snap has hist ent res num col ++ wM g hm thrown ss states stateMany snapshot hasSnapshot text length at_ isWell rd readMany top bottom digit digitMany other otherMany column columnMany carryMany chainMost ++ [(ho, .inl (g.2.2.2.1, 1, .inr (.inl arr)))] ++ [(hd, .inl (g.2.2.2.2, 1, .inr (.inr (.inr (.inl ard)))))]) H locs → lv_has ls 9 [(0, .ref b), (1, .ref (h 0)), (2, .ref (hm 0)), (3, .ref ho), (4, .ref hd), (5, .int x5)] → f_L_law_b1179 (f_L_law_b28 n28) xs L now snap has hist ent res num col thrown ss states stateMany snapshot hasSnapshot text length at_ isWell rd readMany top bottom digit digitMany other otherMany column columnMany carryMany chainMost arr ard x5 = some 1 → W p l e room_1 s m #[Value.ref b] below meth c H locs ce sl (lw_Z below #[Value.ref b] s) (F0 m 1179 ls []) := by
      intro H locs ls ce sl now snap has hist ent res num col thrown ss states stateMany snapshot hasSnapshot text length at_ isWell rd readMany top bottom digit digitMany other otherMany column columnMany carryMany chainMost arr ard x5 hcs hw hl hf
      refine lv_goto (tgt := 2616) hx hb dL_law_1179 (by decide) ?_
      exact b2616 _ _ _ (ce + 0) (sl + 0) now snap has hist ent res num col thrown ss states stateMany snapshot hasSnapshot text length at_ isWell rd readMany top bottom digit digitMany other otherMany column columnMany carryMany chainMost arr ard x5 (by omega) hw (lv_sub hl [0, 1, 2, 3, 4, 5] rfl) hf
    have b1247 : ∀ (H : Heap) (locs : List Loc) (ls : Array Slot) (ce sl : Nat) (now : SC) (snap : SC) (has : Int32) (hist : HC) (ent : EC) (res : RC) (num : NC) (col : CC) (thrown : Int32) (ss : (Nat → Int32)) (states : (Nat → Int32)) (stateMany : Int32) (snapshot : (Nat → Int32)) (hasSnapshot : Int32) (text : (Nat → Int32)) (length : Int32) (at_ : Int32) (isWell : Int32) (rd : (Nat → Int32)) (readMany : Int32) (top : Int64) (bottom : Int64) (digit : (Nat → Int32)) (digitMany : Int32) (other : (Nat → Int32)) (otherMany : Int32) (column : (Nat → Int32)) (columnMany : Int32) (carryMany : Int32) (chainMost : Int32) (arr : (Nat → Int64)) (ard : (Nat → UInt64)) (x5 : Int32), ce + n28 ≤ 601024 ∧ sl + 6 * n28 ≤ 7293034 → xW g (fun q : Nat => s.heap.size ≤ q) s.heap (wC g h now snap has hist ent res num col ++ wM g hm thrown ss states stateMany snapshot hasSnapshot text length at_ isWell rd readMany top bottom digit digitMany other otherMany column columnMany carryMany chainMost ++ [(ho, .inl (g.2.2.2.1, 1, .inr (.inl arr)))] ++ [(hd, .inl (g.2.2.2.2, 1, .inr (.inr (.inr (.inl ard)))))]) H locs → lv_has ls 9 [(0, .ref b), (1, .ref (h 0)), (2, .ref (hm 0)), (3, .ref ho), (4, .ref hd), (5, .int x5)] → f_L_law_b1247 (f_L_law_b28 n28) xs L now snap has hist ent res num col thrown ss states stateMany snapshot hasSnapshot text length at_ isWell rd readMany top bottom digit digitMany other otherMany column columnMany carryMany chainMost arr ard x5 = some 1 → W p l e room_1 s m #[Value.ref b] below meth c H locs ce sl (lw_Z below #[Value.ref b] s) (F0 m 1247 ls []) := by
      intro H locs ls ce sl now snap has hist ent res num col thrown ss states stateMany snapshot hasSnapshot text length at_ isWell rd readMany top bottom digit digitMany other otherMany column columnMany carryMany chainMost arr ard x5 hcs hw hl hf
      refine lv_goto (tgt := 2616) hx hb dL_law_1247 (by decide) ?_
      exact b2616 _ _ _ (ce + 0) (sl + 0) now snap has hist ent res num col thrown ss states stateMany snapshot hasSnapshot text length at_ isWell rd readMany top bottom digit digitMany other otherMany column columnMany carryMany chainMost arr ard x5 (by omega) hw (lv_sub hl [0, 1, 2, 3, 4, 5] rfl) hf
    have b1316 : ∀ (H : Heap) (locs : List Loc) (ls : Array Slot) (ce sl : Nat) (now : SC) (snap : SC) (has : Int32) (hist : HC) (ent : EC) (res : RC) (num : NC) (col : CC) (thrown : Int32) (ss : (Nat → Int32)) (states : (Nat → Int32)) (stateMany : Int32) (snapshot : (Nat → Int32)) (hasSnapshot : Int32) (text : (Nat → Int32)) (length : Int32) (at_ : Int32) (isWell : Int32) (rd : (Nat → Int32)) (readMany : Int32) (top : Int64) (bottom : Int64) (digit : (Nat → Int32)) (digitMany : Int32) (other : (Nat → Int32)) (otherMany : Int32) (column : (Nat → Int32)) (columnMany : Int32) (carryMany : Int32) (chainMost : Int32) (arr : (Nat → Int64)) (ard : (Nat → UInt64)) (x5 : Int32), ce + n28 ≤ 601024 ∧ sl + 6 * n28 ≤ 7293034 → xW g (fun q : Nat => s.heap.size ≤ q) s.heap (wC g h now snap has hist ent res num col ++ wM g hm thrown ss states stateMany snapshot hasSnapshot text length at_ isWell rd readMany top bottom digit digitMany other otherMany column columnMany carryMany chainMost ++ [(ho, .inl (g.2.2.2.1, 1, .inr (.inl arr)))] ++ [(hd, .inl (g.2.2.2.2, 1, .inr (.inr (.inr (.inl ard)))))]) H locs → lv_has ls 9 [(0, .ref b), (1, .ref (h 0)), (2, .ref (hm 0)), (3, .ref ho), (4, .ref hd), (5, .int x5)] → f_L_law_b1316 (f_L_law_b28 n28) xs L now snap has hist ent res num col thrown ss states stateMany snapshot hasSnapshot text length at_ isWell rd readMany top bottom digit digitMany other otherMany column columnMany carryMany chainMost arr ard x5 = some 1 → W p l e room_1 s m #[Value.ref b] below meth c H locs ce sl (lw_Z below #[Value.ref b] s) (F0 m 1316 ls []) := by
      intro H locs ls ce sl now snap has hist ent res num col thrown ss states stateMany snapshot hasSnapshot text length at_ isWell rd readMany top bottom digit digitMany other otherMany column columnMany carryMany chainMost arr ard x5 hcs hw hl hf
      refine lv_goto (tgt := 2616) hx hb dL_law_1316 (by decide) ?_
      exact b2616 _ _ _ (ce + 0) (sl + 0) now snap has hist ent res num col thrown ss states stateMany snapshot hasSnapshot text length at_ isWell rd readMany top bottom digit digitMany other otherMany column columnMany carryMany chainMost arr ard x5 (by omega) hw (lv_sub hl [0, 1, 2, 3, 4, 5] rfl) hf
    have b1384 : ∀ (H : Heap) (locs : List Loc) (ls : Array Slot) (ce sl : Nat) (now : SC) (snap : SC) (has : Int32) (hist : HC) (ent : EC) (res : RC) (num : NC) (col : CC) (thrown : Int32) (ss : (Nat → Int32)) (states : (Nat → Int32)) (stateMany : Int32) (snapshot : (Nat → Int32)) (hasSnapshot : Int32) (text : (Nat → Int32)) (length : Int32) (at_ : Int32) (isWell : Int32) (rd : (Nat → Int32)) (readMany : Int32) (top : Int64) (bottom : Int64) (digit : (Nat → Int32)) (digitMany : Int32) (other : (Nat → Int32)) (otherMany : Int32) (column : (Nat → Int32)) (columnMany : Int32) (carryMany : Int32) (chainMost : Int32) (arr : (Nat → Int64)) (ard : (Nat → UInt64)) (x5 : Int32), ce + n28 ≤ 601024 ∧ sl + 6 * n28 ≤ 7293034 → xW g (fun q : Nat => s.heap.size ≤ q) s.heap (wC g h now snap has hist ent res num col ++ wM g hm thrown ss states stateMany snapshot hasSnapshot text length at_ isWell rd readMany top bottom digit digitMany other otherMany column columnMany carryMany chainMost ++ [(ho, .inl (g.2.2.2.1, 1, .inr (.inl arr)))] ++ [(hd, .inl (g.2.2.2.2, 1, .inr (.inr (.inr (.inl ard)))))]) H locs → lv_has ls 9 [(0, .ref b), (1, .ref (h 0)), (2, .ref (hm 0)), (3, .ref ho), (4, .ref hd), (5, .int x5)] → f_L_law_b1384 (f_L_law_b28 n28) xs L now snap has hist ent res num col thrown ss states stateMany snapshot hasSnapshot text length at_ isWell rd readMany top bottom digit digitMany other otherMany column columnMany carryMany chainMost arr ard x5 = some 1 → W p l e room_1 s m #[Value.ref b] below meth c H locs ce sl (lw_Z below #[Value.ref b] s) (F0 m 1384 ls []) := by
      intro H locs ls ce sl now snap has hist ent res num col thrown ss states stateMany snapshot hasSnapshot text length at_ isWell rd readMany top bottom digit digitMany other otherMany column columnMany carryMany chainMost arr ard x5 hcs hw hl hf
      refine lv_goto (tgt := 2616) hx hb dL_law_1384 (by decide) ?_
      exact b2616 _ _ _ (ce + 0) (sl + 0) now snap has hist ent res num col thrown ss states stateMany snapshot hasSnapshot text length at_ isWell rd readMany top bottom digit digitMany other otherMany column columnMany carryMany chainMost arr ard x5 (by omega) hw (lv_sub hl [0, 1, 2, 3, 4, 5] rfl) hf
    have b1452 : ∀ (H : Heap) (locs : List Loc) (ls : Array Slot) (ce sl : Nat) (now : SC) (snap : SC) (has : Int32) (hist : HC) (ent : EC) (res : RC) (num : NC) (col : CC) (thrown : Int32) (ss : (Nat → Int32)) (states : (Nat → Int32)) (stateMany : Int32) (snapshot : (Nat → Int32)) (hasSnapshot : Int32) (text : (Nat → Int32)) (length : Int32) (at_ : Int32) (isWell : Int32) (rd : (Nat → Int32)) (readMany : Int32) (top : Int64) (bottom : Int64) (digit : (Nat → Int32)) (digitMany : Int32) (other : (Nat → Int32)) (otherMany : Int32) (column : (Nat → Int32)) (columnMany : Int32) (carryMany : Int32) (chainMost : Int32) (arr : (Nat → Int64)) (ard : (Nat → UInt64)) (x5 : Int32), ce + n28 ≤ 601024 ∧ sl + 6 * n28 ≤ 7293034 → xW g (fun q : Nat => s.heap.size ≤ q) s.heap (wC g h now snap has hist ent res num col ++ wM g hm thrown ss states stateMany snapshot hasSnapshot text length at_ isWell rd readMany top bottom digit digitMany other otherMany column columnMany carryMany chainMost ++ [(ho, .inl (g.2.2.2.1, 1, .inr (.inl arr)))] ++ [(hd, .inl (g.2.2.2.2, 1, .inr (.inr (.inr (.inl ard)))))]) H locs → lv_has ls 9 [(0, .ref b), (1, .ref (h 0)), (2, .ref (hm 0)), (3, .ref ho), (4, .ref hd), (5, .int x5)] → f_L_law_b1452 (f_L_law_b28 n28) xs L now snap has hist ent res num col thrown ss states stateMany snapshot hasSnapshot text length at_ isWell rd readMany top bottom digit digitMany other otherMany column columnMany carryMany chainMost arr ard x5 = some 1 → W p l e room_1 s m #[Value.ref b] below meth c H locs ce sl (lw_Z below #[Value.ref b] s) (F0 m 1452 ls []) := by
      intro H locs ls ce sl now snap has hist ent res num col thrown ss states stateMany snapshot hasSnapshot text length at_ isWell rd readMany top bottom digit digitMany other otherMany column columnMany carryMany chainMost arr ard x5 hcs hw hl hf
      refine lv_goto (tgt := 2616) hx hb dL_law_1452 (by decide) ?_
      exact b2616 _ _ _ (ce + 0) (sl + 0) now snap has hist ent res num col thrown ss states stateMany snapshot hasSnapshot text length at_ isWell rd readMany top bottom digit digitMany other otherMany column columnMany carryMany chainMost arr ard x5 (by omega) hw (lv_sub hl [0, 1, 2, 3, 4, 5] rfl) hf
    have b1508 : ∀ (H : Heap) (locs : List Loc) (ls : Array Slot) (ce sl : Nat) (now : SC) (snap : SC) (has : Int32) (hist : HC) (ent : EC) (res : RC) (num : NC) (col : CC) (thrown : Int32) (ss : (Nat → Int32)) (states : (Nat → Int32)) (stateMany : Int32) (snapshot : (Nat → Int32)) (hasSnapshot : Int32) (text : (Nat → Int32)) (length : Int32) (at_ : Int32) (isWell : Int32) (rd : (Nat → Int32)) (readMany : Int32) (top : Int64) (bottom : Int64) (digit : (Nat → Int32)) (digitMany : Int32) (other : (Nat → Int32)) (otherMany : Int32) (column : (Nat → Int32)) (columnMany : Int32) (carryMany : Int32) (chainMost : Int32) (arr : (Nat → Int64)) (ard : (Nat → UInt64)) (x5 : Int32), ce + n28 ≤ 601024 ∧ sl + 6 * n28 ≤ 7293034 → xW g (fun q : Nat => s.heap.size ≤ q) s.heap (wC g h now snap has hist ent res num col ++ wM g hm thrown ss states stateMany snapshot hasSnapshot text length at_ isWell rd readMany top bottom digit digitMany other otherMany column columnMany carryMany chainMost ++ [(ho, .inl (g.2.2.2.1, 1, .inr (.inl arr)))] ++ [(hd, .inl (g.2.2.2.2, 1, .inr (.inr (.inr (.inl ard)))))]) H locs → lv_has ls 9 [(0, .ref b), (1, .ref (h 0)), (2, .ref (hm 0)), (3, .ref ho), (4, .ref hd), (5, .int x5)] → f_L_law_b1508 (f_L_law_b28 n28) xs L now snap has hist ent res num col thrown ss states stateMany snapshot hasSnapshot text length at_ isWell rd readMany top bottom digit digitMany other otherMany column columnMany carryMany chainMost arr ard x5 = some 1 → W p l e room_1 s m #[Value.ref b] below meth c H locs ce sl (lw_Z below #[Value.ref b] s) (F0 m 1508 ls []) := by
      intro H locs ls ce sl now snap has hist ent res num col thrown ss states stateMany snapshot hasSnapshot text length at_ isWell rd readMany top bottom digit digitMany other otherMany column columnMany carryMany chainMost arr ard x5 hcs hw hl hf
      refine lv_goto (tgt := 2616) hx hb dL_law_1508 (by decide) ?_
      exact b2616 _ _ _ (ce + 0) (sl + 0) now snap has hist ent res num col thrown ss states stateMany snapshot hasSnapshot text length at_ isWell rd readMany top bottom digit digitMany other otherMany column columnMany carryMany chainMost arr ard x5 (by omega) hw (lv_sub hl [0, 1, 2, 3, 4, 5] rfl) hf
    have b1564 : ∀ (H : Heap) (locs : List Loc) (ls : Array Slot) (ce sl : Nat) (now : SC) (snap : SC) (has : Int32) (hist : HC) (ent : EC) (res : RC) (num : NC) (col : CC) (thrown : Int32) (ss : (Nat → Int32)) (states : (Nat → Int32)) (stateMany : Int32) (snapshot : (Nat → Int32)) (hasSnapshot : Int32) (text : (Nat → Int32)) (length : Int32) (at_ : Int32) (isWell : Int32) (rd : (Nat → Int32)) (readMany : Int32) (top : Int64) (bottom : Int64) (digit : (Nat → Int32)) (digitMany : Int32) (other : (Nat → Int32)) (otherMany : Int32) (column : (Nat → Int32)) (columnMany : Int32) (carryMany : Int32) (chainMost : Int32) (arr : (Nat → Int64)) (ard : (Nat → UInt64)) (x5 : Int32), ce + n28 ≤ 601024 ∧ sl + 6 * n28 ≤ 7293034 → xW g (fun q : Nat => s.heap.size ≤ q) s.heap (wC g h now snap has hist ent res num col ++ wM g hm thrown ss states stateMany snapshot hasSnapshot text length at_ isWell rd readMany top bottom digit digitMany other otherMany column columnMany carryMany chainMost ++ [(ho, .inl (g.2.2.2.1, 1, .inr (.inl arr)))] ++ [(hd, .inl (g.2.2.2.2, 1, .inr (.inr (.inr (.inl ard)))))]) H locs → lv_has ls 9 [(0, .ref b), (1, .ref (h 0)), (2, .ref (hm 0)), (3, .ref ho), (4, .ref hd), (5, .int x5)] → f_L_law_b1564 (f_L_law_b28 n28) xs L now snap has hist ent res num col thrown ss states stateMany snapshot hasSnapshot text length at_ isWell rd readMany top bottom digit digitMany other otherMany column columnMany carryMany chainMost arr ard x5 = some 1 → W p l e room_1 s m #[Value.ref b] below meth c H locs ce sl (lw_Z below #[Value.ref b] s) (F0 m 1564 ls []) := by
      intro H locs ls ce sl now snap has hist ent res num col thrown ss states stateMany snapshot hasSnapshot text length at_ isWell rd readMany top bottom digit digitMany other otherMany column columnMany carryMany chainMost arr ard x5 hcs hw hl hf
      refine lv_goto (tgt := 2616) hx hb dL_law_1564 (by decide) ?_
      exact b2616 _ _ _ (ce + 0) (sl + 0) now snap has hist ent res num col thrown ss states stateMany snapshot hasSnapshot text length at_ isWell rd readMany top bottom digit digitMany other otherMany column columnMany carryMany chainMost arr ard x5 (by omega) hw (lv_sub hl [0, 1, 2, 3, 4, 5] rfl) hf
    have b1620 : ∀ (H : Heap) (locs : List Loc) (ls : Array Slot) (ce sl : Nat) (now : SC) (snap : SC) (has : Int32) (hist : HC) (ent : EC) (res : RC) (num : NC) (col : CC) (thrown : Int32) (ss : (Nat → Int32)) (states : (Nat → Int32)) (stateMany : Int32) (snapshot : (Nat → Int32)) (hasSnapshot : Int32) (text : (Nat → Int32)) (length : Int32) (at_ : Int32) (isWell : Int32) (rd : (Nat → Int32)) (readMany : Int32) (top : Int64) (bottom : Int64) (digit : (Nat → Int32)) (digitMany : Int32) (other : (Nat → Int32)) (otherMany : Int32) (column : (Nat → Int32)) (columnMany : Int32) (carryMany : Int32) (chainMost : Int32) (arr : (Nat → Int64)) (ard : (Nat → UInt64)) (x5 : Int32), ce + n28 ≤ 601024 ∧ sl + 6 * n28 ≤ 7293034 → xW g (fun q : Nat => s.heap.size ≤ q) s.heap (wC g h now snap has hist ent res num col ++ wM g hm thrown ss states stateMany snapshot hasSnapshot text length at_ isWell rd readMany top bottom digit digitMany other otherMany column columnMany carryMany chainMost ++ [(ho, .inl (g.2.2.2.1, 1, .inr (.inl arr)))] ++ [(hd, .inl (g.2.2.2.2, 1, .inr (.inr (.inr (.inl ard)))))]) H locs → lv_has ls 9 [(0, .ref b), (1, .ref (h 0)), (2, .ref (hm 0)), (3, .ref ho), (4, .ref hd), (5, .int x5)] → f_L_law_b1620 (f_L_law_b28 n28) xs L now snap has hist ent res num col thrown ss states stateMany snapshot hasSnapshot text length at_ isWell rd readMany top bottom digit digitMany other otherMany column columnMany carryMany chainMost arr ard x5 = some 1 → W p l e room_1 s m #[Value.ref b] below meth c H locs ce sl (lw_Z below #[Value.ref b] s) (F0 m 1620 ls []) := by
      intro H locs ls ce sl now snap has hist ent res num col thrown ss states stateMany snapshot hasSnapshot text length at_ isWell rd readMany top bottom digit digitMany other otherMany column columnMany carryMany chainMost arr ard x5 hcs hw hl hf
      refine lv_goto (tgt := 2616) hx hb dL_law_1620 (by decide) ?_
      exact b2616 _ _ _ (ce + 0) (sl + 0) now snap has hist ent res num col thrown ss states stateMany snapshot hasSnapshot text length at_ isWell rd readMany top bottom digit digitMany other otherMany column columnMany carryMany chainMost arr ard x5 (by omega) hw (lv_sub hl [0, 1, 2, 3, 4, 5] rfl) hf
    have b1676 : ∀ (H : Heap) (locs : List Loc) (ls : Array Slot) (ce sl : Nat) (now : SC) (snap : SC) (has : Int32) (hist : HC) (ent : EC) (res : RC) (num : NC) (col : CC) (thrown : Int32) (ss : (Nat → Int32)) (states : (Nat → Int32)) (stateMany : Int32) (snapshot : (Nat → Int32)) (hasSnapshot : Int32) (text : (Nat → Int32)) (length : Int32) (at_ : Int32) (isWell : Int32) (rd : (Nat → Int32)) (readMany : Int32) (top : Int64) (bottom : Int64) (digit : (Nat → Int32)) (digitMany : Int32) (other : (Nat → Int32)) (otherMany : Int32) (column : (Nat → Int32)) (columnMany : Int32) (carryMany : Int32) (chainMost : Int32) (arr : (Nat → Int64)) (ard : (Nat → UInt64)) (x5 : Int32), ce + n28 ≤ 601024 ∧ sl + 6 * n28 ≤ 7293034 → xW g (fun q : Nat => s.heap.size ≤ q) s.heap (wC g h now snap has hist ent res num col ++ wM g hm thrown ss states stateMany snapshot hasSnapshot text length at_ isWell rd readMany top bottom digit digitMany other otherMany column columnMany carryMany chainMost ++ [(ho, .inl (g.2.2.2.1, 1, .inr (.inl arr)))] ++ [(hd, .inl (g.2.2.2.2, 1, .inr (.inr (.inr (.inl ard)))))]) H locs → lv_has ls 9 [(0, .ref b), (1, .ref (h 0)), (2, .ref (hm 0)), (3, .ref ho), (4, .ref hd), (5, .int x5)] → f_L_law_b1676 (f_L_law_b28 n28) xs L now snap has hist ent res num col thrown ss states stateMany snapshot hasSnapshot text length at_ isWell rd readMany top bottom digit digitMany other otherMany column columnMany carryMany chainMost arr ard x5 = some 1 → W p l e room_1 s m #[Value.ref b] below meth c H locs ce sl (lw_Z below #[Value.ref b] s) (F0 m 1676 ls []) := by
      intro H locs ls ce sl now snap has hist ent res num col thrown ss states stateMany snapshot hasSnapshot text length at_ isWell rd readMany top bottom digit digitMany other otherMany column columnMany carryMany chainMost arr ard x5 hcs hw hl hf
      refine lv_goto (tgt := 2616) hx hb dL_law_1676 (by decide) ?_
      exact b2616 _ _ _ (ce + 0) (sl + 0) now snap has hist ent res num col thrown ss states stateMany snapshot hasSnapshot text length at_ isWell rd readMany top bottom digit digitMany other otherMany column columnMany carryMany chainMost arr ard x5 (by omega) hw (lv_sub hl [0, 1, 2, 3, 4, 5] rfl) hf
    have b1732 : ∀ (H : Heap) (locs : List Loc) (ls : Array Slot) (ce sl : Nat) (now : SC) (snap : SC) (has : Int32) (hist : HC) (ent : EC) (res : RC) (num : NC) (col : CC) (thrown : Int32) (ss : (Nat → Int32)) (states : (Nat → Int32)) (stateMany : Int32) (snapshot : (Nat → Int32)) (hasSnapshot : Int32) (text : (Nat → Int32)) (length : Int32) (at_ : Int32) (isWell : Int32) (rd : (Nat → Int32)) (readMany : Int32) (top : Int64) (bottom : Int64) (digit : (Nat → Int32)) (digitMany : Int32) (other : (Nat → Int32)) (otherMany : Int32) (column : (Nat → Int32)) (columnMany : Int32) (carryMany : Int32) (chainMost : Int32) (arr : (Nat → Int64)) (ard : (Nat → UInt64)) (x5 : Int32), ce + n28 ≤ 601024 ∧ sl + 6 * n28 ≤ 7293034 → xW g (fun q : Nat => s.heap.size ≤ q) s.heap (wC g h now snap has hist ent res num col ++ wM g hm thrown ss states stateMany snapshot hasSnapshot text length at_ isWell rd readMany top bottom digit digitMany other otherMany column columnMany carryMany chainMost ++ [(ho, .inl (g.2.2.2.1, 1, .inr (.inl arr)))] ++ [(hd, .inl (g.2.2.2.2, 1, .inr (.inr (.inr (.inl ard)))))]) H locs → lv_has ls 9 [(0, .ref b), (1, .ref (h 0)), (2, .ref (hm 0)), (3, .ref ho), (4, .ref hd), (5, .int x5)] → f_L_law_b1732 (f_L_law_b28 n28) xs L now snap has hist ent res num col thrown ss states stateMany snapshot hasSnapshot text length at_ isWell rd readMany top bottom digit digitMany other otherMany column columnMany carryMany chainMost arr ard x5 = some 1 → W p l e room_1 s m #[Value.ref b] below meth c H locs ce sl (lw_Z below #[Value.ref b] s) (F0 m 1732 ls []) := by
      intro H locs ls ce sl now snap has hist ent res num col thrown ss states stateMany snapshot hasSnapshot text length at_ isWell rd readMany top bottom digit digitMany other otherMany column columnMany carryMany chainMost arr ard x5 hcs hw hl hf
      refine lv_goto (tgt := 2616) hx hb dL_law_1732 (by decide) ?_
      exact b2616 _ _ _ (ce + 0) (sl + 0) now snap has hist ent res num col thrown ss states stateMany snapshot hasSnapshot text length at_ isWell rd readMany top bottom digit digitMany other otherMany column columnMany carryMany chainMost arr ard x5 (by omega) hw (lv_sub hl [0, 1, 2, 3, 4, 5] rfl) hf
    have b1788 : ∀ (H : Heap) (locs : List Loc) (ls : Array Slot) (ce sl : Nat) (now : SC) (snap : SC) (has : Int32) (hist : HC) (ent : EC) (res : RC) (num : NC) (col : CC) (thrown : Int32) (ss : (Nat → Int32)) (states : (Nat → Int32)) (stateMany : Int32) (snapshot : (Nat → Int32)) (hasSnapshot : Int32) (text : (Nat → Int32)) (length : Int32) (at_ : Int32) (isWell : Int32) (rd : (Nat → Int32)) (readMany : Int32) (top : Int64) (bottom : Int64) (digit : (Nat → Int32)) (digitMany : Int32) (other : (Nat → Int32)) (otherMany : Int32) (column : (Nat → Int32)) (columnMany : Int32) (carryMany : Int32) (chainMost : Int32) (arr : (Nat → Int64)) (ard : (Nat → UInt64)) (x5 : Int32), ce + n28 ≤ 601024 ∧ sl + 6 * n28 ≤ 7293034 → xW g (fun q : Nat => s.heap.size ≤ q) s.heap (wC g h now snap has hist ent res num col ++ wM g hm thrown ss states stateMany snapshot hasSnapshot text length at_ isWell rd readMany top bottom digit digitMany other otherMany column columnMany carryMany chainMost ++ [(ho, .inl (g.2.2.2.1, 1, .inr (.inl arr)))] ++ [(hd, .inl (g.2.2.2.2, 1, .inr (.inr (.inr (.inl ard)))))]) H locs → lv_has ls 9 [(0, .ref b), (1, .ref (h 0)), (2, .ref (hm 0)), (3, .ref ho), (4, .ref hd), (5, .int x5)] → f_L_law_b1788 (f_L_law_b28 n28) xs L now snap has hist ent res num col thrown ss states stateMany snapshot hasSnapshot text length at_ isWell rd readMany top bottom digit digitMany other otherMany column columnMany carryMany chainMost arr ard x5 = some 1 → W p l e room_1 s m #[Value.ref b] below meth c H locs ce sl (lw_Z below #[Value.ref b] s) (F0 m 1788 ls []) := by
      intro H locs ls ce sl now snap has hist ent res num col thrown ss states stateMany snapshot hasSnapshot text length at_ isWell rd readMany top bottom digit digitMany other otherMany column columnMany carryMany chainMost arr ard x5 hcs hw hl hf
      refine lv_goto (tgt := 2616) hx hb dL_law_1788 (by decide) ?_
      exact b2616 _ _ _ (ce + 0) (sl + 0) now snap has hist ent res num col thrown ss states stateMany snapshot hasSnapshot text length at_ isWell rd readMany top bottom digit digitMany other otherMany column columnMany carryMany chainMost arr ard x5 (by omega) hw (lv_sub hl [0, 1, 2, 3, 4, 5] rfl) hf
    have b1856 : ∀ (H : Heap) (locs : List Loc) (ls : Array Slot) (ce sl : Nat) (now : SC) (snap : SC) (has : Int32) (hist : HC) (ent : EC) (res : RC) (num : NC) (col : CC) (thrown : Int32) (ss : (Nat → Int32)) (states : (Nat → Int32)) (stateMany : Int32) (snapshot : (Nat → Int32)) (hasSnapshot : Int32) (text : (Nat → Int32)) (length : Int32) (at_ : Int32) (isWell : Int32) (rd : (Nat → Int32)) (readMany : Int32) (top : Int64) (bottom : Int64) (digit : (Nat → Int32)) (digitMany : Int32) (other : (Nat → Int32)) (otherMany : Int32) (column : (Nat → Int32)) (columnMany : Int32) (carryMany : Int32) (chainMost : Int32) (arr : (Nat → Int64)) (ard : (Nat → UInt64)) (x5 : Int32), ce + n28 ≤ 601024 ∧ sl + 6 * n28 ≤ 7293034 → xW g (fun q : Nat => s.heap.size ≤ q) s.heap (wC g h now snap has hist ent res num col ++ wM g hm thrown ss states stateMany snapshot hasSnapshot text length at_ isWell rd readMany top bottom digit digitMany other otherMany column columnMany carryMany chainMost ++ [(ho, .inl (g.2.2.2.1, 1, .inr (.inl arr)))] ++ [(hd, .inl (g.2.2.2.2, 1, .inr (.inr (.inr (.inl ard)))))]) H locs → lv_has ls 9 [(0, .ref b), (1, .ref (h 0)), (2, .ref (hm 0)), (3, .ref ho), (4, .ref hd), (5, .int x5)] → f_L_law_b1856 (f_L_law_b28 n28) xs L now snap has hist ent res num col thrown ss states stateMany snapshot hasSnapshot text length at_ isWell rd readMany top bottom digit digitMany other otherMany column columnMany carryMany chainMost arr ard x5 = some 1 → W p l e room_1 s m #[Value.ref b] below meth c H locs ce sl (lw_Z below #[Value.ref b] s) (F0 m 1856 ls []) := by
      intro H locs ls ce sl now snap has hist ent res num col thrown ss states stateMany snapshot hasSnapshot text length at_ isWell rd readMany top bottom digit digitMany other otherMany column columnMany carryMany chainMost arr ard x5 hcs hw hl hf
      refine lv_goto (tgt := 2616) hx hb dL_law_1856 (by decide) ?_
      exact b2616 _ _ _ (ce + 0) (sl + 0) now snap has hist ent res num col thrown ss states stateMany snapshot hasSnapshot text length at_ isWell rd readMany top bottom digit digitMany other otherMany column columnMany carryMany chainMost arr ard x5 (by omega) hw (lv_sub hl [0, 1, 2, 3, 4, 5] rfl) hf
    have b1912 : ∀ (H : Heap) (locs : List Loc) (ls : Array Slot) (ce sl : Nat) (now : SC) (snap : SC) (has : Int32) (hist : HC) (ent : EC) (res : RC) (num : NC) (col : CC) (thrown : Int32) (ss : (Nat → Int32)) (states : (Nat → Int32)) (stateMany : Int32) (snapshot : (Nat → Int32)) (hasSnapshot : Int32) (text : (Nat → Int32)) (length : Int32) (at_ : Int32) (isWell : Int32) (rd : (Nat → Int32)) (readMany : Int32) (top : Int64) (bottom : Int64) (digit : (Nat → Int32)) (digitMany : Int32) (other : (Nat → Int32)) (otherMany : Int32) (column : (Nat → Int32)) (columnMany : Int32) (carryMany : Int32) (chainMost : Int32) (arr : (Nat → Int64)) (ard : (Nat → UInt64)) (x5 : Int32), ce + n28 ≤ 601024 ∧ sl + 6 * n28 ≤ 7293034 → xW g (fun q : Nat => s.heap.size ≤ q) s.heap (wC g h now snap has hist ent res num col ++ wM g hm thrown ss states stateMany snapshot hasSnapshot text length at_ isWell rd readMany top bottom digit digitMany other otherMany column columnMany carryMany chainMost ++ [(ho, .inl (g.2.2.2.1, 1, .inr (.inl arr)))] ++ [(hd, .inl (g.2.2.2.2, 1, .inr (.inr (.inr (.inl ard)))))]) H locs → lv_has ls 9 [(0, .ref b), (1, .ref (h 0)), (2, .ref (hm 0)), (3, .ref ho), (4, .ref hd), (5, .int x5)] → f_L_law_b1912 (f_L_law_b28 n28) xs L now snap has hist ent res num col thrown ss states stateMany snapshot hasSnapshot text length at_ isWell rd readMany top bottom digit digitMany other otherMany column columnMany carryMany chainMost arr ard x5 = some 1 → W p l e room_1 s m #[Value.ref b] below meth c H locs ce sl (lw_Z below #[Value.ref b] s) (F0 m 1912 ls []) := by
      intro H locs ls ce sl now snap has hist ent res num col thrown ss states stateMany snapshot hasSnapshot text length at_ isWell rd readMany top bottom digit digitMany other otherMany column columnMany carryMany chainMost arr ard x5 hcs hw hl hf
      refine lv_goto (tgt := 2616) hx hb dL_law_1912 (by decide) ?_
      exact b2616 _ _ _ (ce + 0) (sl + 0) now snap has hist ent res num col thrown ss states stateMany snapshot hasSnapshot text length at_ isWell rd readMany top bottom digit digitMany other otherMany column columnMany carryMany chainMost arr ard x5 (by omega) hw (lv_sub hl [0, 1, 2, 3, 4, 5] rfl) hf
    have b1968 : ∀ (H : Heap) (locs : List Loc) (ls : Array Slot) (ce sl : Nat) (now : SC) (snap : SC) (has : Int32) (hist : HC) (ent : EC) (res : RC) (num : NC) (col : CC) (thrown : Int32) (ss : (Nat → Int32)) (states : (Nat → Int32)) (stateMany : Int32) (snapshot : (Nat → Int32)) (hasSnapshot : Int32) (text : (Nat → Int32)) (length : Int32) (at_ : Int32) (isWell : Int32) (rd : (Nat → Int32)) (readMany : Int32) (top : Int64) (bottom : Int64) (digit : (Nat → Int32)) (digitMany : Int32) (other : (Nat → Int32)) (otherMany : Int32) (column : (Nat → Int32)) (columnMany : Int32) (carryMany : Int32) (chainMost : Int32) (arr : (Nat → Int64)) (ard : (Nat → UInt64)) (x5 : Int32), ce + n28 ≤ 601024 ∧ sl + 6 * n28 ≤ 7293034 → xW g (fun q : Nat => s.heap.size ≤ q) s.heap (wC g h now snap has hist ent res num col ++ wM g hm thrown ss states stateMany snapshot hasSnapshot text length at_ isWell rd readMany top bottom digit digitMany other otherMany column columnMany carryMany chainMost ++ [(ho, .inl (g.2.2.2.1, 1, .inr (.inl arr)))] ++ [(hd, .inl (g.2.2.2.2, 1, .inr (.inr (.inr (.inl ard)))))]) H locs → lv_has ls 9 [(0, .ref b), (1, .ref (h 0)), (2, .ref (hm 0)), (3, .ref ho), (4, .ref hd), (5, .int x5)] → f_L_law_b1968 (f_L_law_b28 n28) xs L now snap has hist ent res num col thrown ss states stateMany snapshot hasSnapshot text length at_ isWell rd readMany top bottom digit digitMany other otherMany column columnMany carryMany chainMost arr ard x5 = some 1 → W p l e room_1 s m #[Value.ref b] below meth c H locs ce sl (lw_Z below #[Value.ref b] s) (F0 m 1968 ls []) := by
      intro H locs ls ce sl now snap has hist ent res num col thrown ss states stateMany snapshot hasSnapshot text length at_ isWell rd readMany top bottom digit digitMany other otherMany column columnMany carryMany chainMost arr ard x5 hcs hw hl hf
      refine lv_goto (tgt := 2616) hx hb dL_law_1968 (by decide) ?_
      exact b2616 _ _ _ (ce + 0) (sl + 0) now snap has hist ent res num col thrown ss states stateMany snapshot hasSnapshot text length at_ isWell rd readMany top bottom digit digitMany other otherMany column columnMany carryMany chainMost arr ard x5 (by omega) hw (lv_sub hl [0, 1, 2, 3, 4, 5] rfl) hf
    have b2036 : ∀ (H : Heap) (locs : List Loc) (ls : Array Slot) (ce sl : Nat) (now : SC) (snap : SC) (has : Int32) (hist : HC) (ent : EC) (res : RC) (num : NC) (col : CC) (thrown : Int32) (ss : (Nat → Int32)) (states : (Nat → Int32)) (stateMany : Int32) (snapshot : (Nat → Int32)) (hasSnapshot : Int32) (text : (Nat → Int32)) (length : Int32) (at_ : Int32) (isWell : Int32) (rd : (Nat → Int32)) (readMany : Int32) (top : Int64) (bottom : Int64) (digit : (Nat → Int32)) (digitMany : Int32) (other : (Nat → Int32)) (otherMany : Int32) (column : (Nat → Int32)) (columnMany : Int32) (carryMany : Int32) (chainMost : Int32) (arr : (Nat → Int64)) (ard : (Nat → UInt64)) (x5 : Int32), ce + n28 ≤ 601024 ∧ sl + 6 * n28 ≤ 7293034 → xW g (fun q : Nat => s.heap.size ≤ q) s.heap (wC g h now snap has hist ent res num col ++ wM g hm thrown ss states stateMany snapshot hasSnapshot text length at_ isWell rd readMany top bottom digit digitMany other otherMany column columnMany carryMany chainMost ++ [(ho, .inl (g.2.2.2.1, 1, .inr (.inl arr)))] ++ [(hd, .inl (g.2.2.2.2, 1, .inr (.inr (.inr (.inl ard)))))]) H locs → lv_has ls 9 [(0, .ref b), (1, .ref (h 0)), (2, .ref (hm 0)), (3, .ref ho), (4, .ref hd), (5, .int x5)] → f_L_law_b2036 (f_L_law_b28 n28) xs L now snap has hist ent res num col thrown ss states stateMany snapshot hasSnapshot text length at_ isWell rd readMany top bottom digit digitMany other otherMany column columnMany carryMany chainMost arr ard x5 = some 1 → W p l e room_1 s m #[Value.ref b] below meth c H locs ce sl (lw_Z below #[Value.ref b] s) (F0 m 2036 ls []) := by
      intro H locs ls ce sl now snap has hist ent res num col thrown ss states stateMany snapshot hasSnapshot text length at_ isWell rd readMany top bottom digit digitMany other otherMany column columnMany carryMany chainMost arr ard x5 hcs hw hl hf
      refine lv_goto (tgt := 2616) hx hb dL_law_2036 (by decide) ?_
      exact b2616 _ _ _ (ce + 0) (sl + 0) now snap has hist ent res num col thrown ss states stateMany snapshot hasSnapshot text length at_ isWell rd readMany top bottom digit digitMany other otherMany column columnMany carryMany chainMost arr ard x5 (by omega) hw (lv_sub hl [0, 1, 2, 3, 4, 5] rfl) hf
    have b2104 : ∀ (H : Heap) (locs : List Loc) (ls : Array Slot) (ce sl : Nat) (now : SC) (snap : SC) (has : Int32) (hist : HC) (ent : EC) (res : RC) (num : NC) (col : CC) (thrown : Int32) (ss : (Nat → Int32)) (states : (Nat → Int32)) (stateMany : Int32) (snapshot : (Nat → Int32)) (hasSnapshot : Int32) (text : (Nat → Int32)) (length : Int32) (at_ : Int32) (isWell : Int32) (rd : (Nat → Int32)) (readMany : Int32) (top : Int64) (bottom : Int64) (digit : (Nat → Int32)) (digitMany : Int32) (other : (Nat → Int32)) (otherMany : Int32) (column : (Nat → Int32)) (columnMany : Int32) (carryMany : Int32) (chainMost : Int32) (arr : (Nat → Int64)) (ard : (Nat → UInt64)) (x5 : Int32), ce + n28 ≤ 601024 ∧ sl + 6 * n28 ≤ 7293034 → xW g (fun q : Nat => s.heap.size ≤ q) s.heap (wC g h now snap has hist ent res num col ++ wM g hm thrown ss states stateMany snapshot hasSnapshot text length at_ isWell rd readMany top bottom digit digitMany other otherMany column columnMany carryMany chainMost ++ [(ho, .inl (g.2.2.2.1, 1, .inr (.inl arr)))] ++ [(hd, .inl (g.2.2.2.2, 1, .inr (.inr (.inr (.inl ard)))))]) H locs → lv_has ls 9 [(0, .ref b), (1, .ref (h 0)), (2, .ref (hm 0)), (3, .ref ho), (4, .ref hd), (5, .int x5)] → f_L_law_b2104 (f_L_law_b28 n28) xs L now snap has hist ent res num col thrown ss states stateMany snapshot hasSnapshot text length at_ isWell rd readMany top bottom digit digitMany other otherMany column columnMany carryMany chainMost arr ard x5 = some 1 → W p l e room_1 s m #[Value.ref b] below meth c H locs ce sl (lw_Z below #[Value.ref b] s) (F0 m 2104 ls []) := by
      intro H locs ls ce sl now snap has hist ent res num col thrown ss states stateMany snapshot hasSnapshot text length at_ isWell rd readMany top bottom digit digitMany other otherMany column columnMany carryMany chainMost arr ard x5 hcs hw hl hf
      refine lv_goto (tgt := 2616) hx hb dL_law_2104 (by decide) ?_
      exact b2616 _ _ _ (ce + 0) (sl + 0) now snap has hist ent res num col thrown ss states stateMany snapshot hasSnapshot text length at_ isWell rd readMany top bottom digit digitMany other otherMany column columnMany carryMany chainMost arr ard x5 (by omega) hw (lv_sub hl [0, 1, 2, 3, 4, 5] rfl) hf
    have b2172 : ∀ (H : Heap) (locs : List Loc) (ls : Array Slot) (ce sl : Nat) (now : SC) (snap : SC) (has : Int32) (hist : HC) (ent : EC) (res : RC) (num : NC) (col : CC) (thrown : Int32) (ss : (Nat → Int32)) (states : (Nat → Int32)) (stateMany : Int32) (snapshot : (Nat → Int32)) (hasSnapshot : Int32) (text : (Nat → Int32)) (length : Int32) (at_ : Int32) (isWell : Int32) (rd : (Nat → Int32)) (readMany : Int32) (top : Int64) (bottom : Int64) (digit : (Nat → Int32)) (digitMany : Int32) (other : (Nat → Int32)) (otherMany : Int32) (column : (Nat → Int32)) (columnMany : Int32) (carryMany : Int32) (chainMost : Int32) (arr : (Nat → Int64)) (ard : (Nat → UInt64)) (x5 : Int32), ce + n28 ≤ 601024 ∧ sl + 6 * n28 ≤ 7293034 → xW g (fun q : Nat => s.heap.size ≤ q) s.heap (wC g h now snap has hist ent res num col ++ wM g hm thrown ss states stateMany snapshot hasSnapshot text length at_ isWell rd readMany top bottom digit digitMany other otherMany column columnMany carryMany chainMost ++ [(ho, .inl (g.2.2.2.1, 1, .inr (.inl arr)))] ++ [(hd, .inl (g.2.2.2.2, 1, .inr (.inr (.inr (.inl ard)))))]) H locs → lv_has ls 9 [(0, .ref b), (1, .ref (h 0)), (2, .ref (hm 0)), (3, .ref ho), (4, .ref hd), (5, .int x5)] → f_L_law_b2172 (f_L_law_b28 n28) xs L now snap has hist ent res num col thrown ss states stateMany snapshot hasSnapshot text length at_ isWell rd readMany top bottom digit digitMany other otherMany column columnMany carryMany chainMost arr ard x5 = some 1 → W p l e room_1 s m #[Value.ref b] below meth c H locs ce sl (lw_Z below #[Value.ref b] s) (F0 m 2172 ls []) := by
      intro H locs ls ce sl now snap has hist ent res num col thrown ss states stateMany snapshot hasSnapshot text length at_ isWell rd readMany top bottom digit digitMany other otherMany column columnMany carryMany chainMost arr ard x5 hcs hw hl hf
      refine lv_goto (tgt := 2616) hx hb dL_law_2172 (by decide) ?_
      exact b2616 _ _ _ (ce + 0) (sl + 0) now snap has hist ent res num col thrown ss states stateMany snapshot hasSnapshot text length at_ isWell rd readMany top bottom digit digitMany other otherMany column columnMany carryMany chainMost arr ard x5 (by omega) hw (lv_sub hl [0, 1, 2, 3, 4, 5] rfl) hf
    have b2252 : ∀ (H : Heap) (locs : List Loc) (ls : Array Slot) (ce sl : Nat) (now : SC) (snap : SC) (has : Int32) (hist : HC) (ent : EC) (res : RC) (num : NC) (col : CC) (thrown : Int32) (ss : (Nat → Int32)) (states : (Nat → Int32)) (stateMany : Int32) (snapshot : (Nat → Int32)) (hasSnapshot : Int32) (text : (Nat → Int32)) (length : Int32) (at_ : Int32) (isWell : Int32) (rd : (Nat → Int32)) (readMany : Int32) (top : Int64) (bottom : Int64) (digit : (Nat → Int32)) (digitMany : Int32) (other : (Nat → Int32)) (otherMany : Int32) (column : (Nat → Int32)) (columnMany : Int32) (carryMany : Int32) (chainMost : Int32) (arr : (Nat → Int64)) (ard : (Nat → UInt64)) (x5 : Int32), ce + n28 ≤ 601024 ∧ sl + 6 * n28 ≤ 7293034 → xW g (fun q : Nat => s.heap.size ≤ q) s.heap (wC g h now snap has hist ent res num col ++ wM g hm thrown ss states stateMany snapshot hasSnapshot text length at_ isWell rd readMany top bottom digit digitMany other otherMany column columnMany carryMany chainMost ++ [(ho, .inl (g.2.2.2.1, 1, .inr (.inl arr)))] ++ [(hd, .inl (g.2.2.2.2, 1, .inr (.inr (.inr (.inl ard)))))]) H locs → lv_has ls 9 [(0, .ref b), (1, .ref (h 0)), (2, .ref (hm 0)), (3, .ref ho), (4, .ref hd), (5, .int x5)] → f_L_law_b2252 (f_L_law_b28 n28) xs L now snap has hist ent res num col thrown ss states stateMany snapshot hasSnapshot text length at_ isWell rd readMany top bottom digit digitMany other otherMany column columnMany carryMany chainMost arr ard x5 = some 1 → W p l e room_1 s m #[Value.ref b] below meth c H locs ce sl (lw_Z below #[Value.ref b] s) (F0 m 2252 ls []) := by
      intro H locs ls ce sl now snap has hist ent res num col thrown ss states stateMany snapshot hasSnapshot text length at_ isWell rd readMany top bottom digit digitMany other otherMany column columnMany carryMany chainMost arr ard x5 hcs hw hl hf
      refine lv_goto (tgt := 2616) hx hb dL_law_2252 (by decide) ?_
      exact b2616 _ _ _ (ce + 0) (sl + 0) now snap has hist ent res num col thrown ss states stateMany snapshot hasSnapshot text length at_ isWell rd readMany top bottom digit digitMany other otherMany column columnMany carryMany chainMost arr ard x5 (by omega) hw (lv_sub hl [0, 1, 2, 3, 4, 5] rfl) hf
    have b2319 : ∀ (H : Heap) (locs : List Loc) (ls : Array Slot) (ce sl : Nat) (now : SC) (snap : SC) (has : Int32) (hist : HC) (ent : EC) (res : RC) (num : NC) (col : CC) (thrown : Int32) (ss : (Nat → Int32)) (states : (Nat → Int32)) (stateMany : Int32) (snapshot : (Nat → Int32)) (hasSnapshot : Int32) (text : (Nat → Int32)) (length : Int32) (at_ : Int32) (isWell : Int32) (rd : (Nat → Int32)) (readMany : Int32) (top : Int64) (bottom : Int64) (digit : (Nat → Int32)) (digitMany : Int32) (other : (Nat → Int32)) (otherMany : Int32) (column : (Nat → Int32)) (columnMany : Int32) (carryMany : Int32) (chainMost : Int32) (arr : (Nat → Int64)) (ard : (Nat → UInt64)) (x5 : Int32), ce + n28 ≤ 601024 ∧ sl + 6 * n28 ≤ 7293034 → xW g (fun q : Nat => s.heap.size ≤ q) s.heap (wC g h now snap has hist ent res num col ++ wM g hm thrown ss states stateMany snapshot hasSnapshot text length at_ isWell rd readMany top bottom digit digitMany other otherMany column columnMany carryMany chainMost ++ [(ho, .inl (g.2.2.2.1, 1, .inr (.inl arr)))] ++ [(hd, .inl (g.2.2.2.2, 1, .inr (.inr (.inr (.inl ard)))))]) H locs → lv_has ls 9 [(0, .ref b), (1, .ref (h 0)), (2, .ref (hm 0)), (3, .ref ho), (4, .ref hd), (5, .int x5)] → f_L_law_b2319 (f_L_law_b28 n28) xs L now snap has hist ent res num col thrown ss states stateMany snapshot hasSnapshot text length at_ isWell rd readMany top bottom digit digitMany other otherMany column columnMany carryMany chainMost arr ard x5 = some 1 → W p l e room_1 s m #[Value.ref b] below meth c H locs ce sl (lw_Z below #[Value.ref b] s) (F0 m 2319 ls []) := by
      intro H locs ls ce sl now snap has hist ent res num col thrown ss states stateMany snapshot hasSnapshot text length at_ isWell rd readMany top bottom digit digitMany other otherMany column columnMany carryMany chainMost arr ard x5 hcs hw hl hf
      refine lv_goto (tgt := 2616) hx hb dL_law_2319 (by decide) ?_
      exact b2616 _ _ _ (ce + 0) (sl + 0) now snap has hist ent res num col thrown ss states stateMany snapshot hasSnapshot text length at_ isWell rd readMany top bottom digit digitMany other otherMany column columnMany carryMany chainMost arr ard x5 (by omega) hw (lv_sub hl [0, 1, 2, 3, 4, 5] rfl) hf
    have b2386 : ∀ (H : Heap) (locs : List Loc) (ls : Array Slot) (ce sl : Nat) (now : SC) (snap : SC) (has : Int32) (hist : HC) (ent : EC) (res : RC) (num : NC) (col : CC) (thrown : Int32) (ss : (Nat → Int32)) (states : (Nat → Int32)) (stateMany : Int32) (snapshot : (Nat → Int32)) (hasSnapshot : Int32) (text : (Nat → Int32)) (length : Int32) (at_ : Int32) (isWell : Int32) (rd : (Nat → Int32)) (readMany : Int32) (top : Int64) (bottom : Int64) (digit : (Nat → Int32)) (digitMany : Int32) (other : (Nat → Int32)) (otherMany : Int32) (column : (Nat → Int32)) (columnMany : Int32) (carryMany : Int32) (chainMost : Int32) (arr : (Nat → Int64)) (ard : (Nat → UInt64)) (x5 : Int32), ce + n28 ≤ 601024 ∧ sl + 6 * n28 ≤ 7293034 → xW g (fun q : Nat => s.heap.size ≤ q) s.heap (wC g h now snap has hist ent res num col ++ wM g hm thrown ss states stateMany snapshot hasSnapshot text length at_ isWell rd readMany top bottom digit digitMany other otherMany column columnMany carryMany chainMost ++ [(ho, .inl (g.2.2.2.1, 1, .inr (.inl arr)))] ++ [(hd, .inl (g.2.2.2.2, 1, .inr (.inr (.inr (.inl ard)))))]) H locs → lv_has ls 9 [(0, .ref b), (1, .ref (h 0)), (2, .ref (hm 0)), (3, .ref ho), (4, .ref hd), (5, .int x5)] → f_L_law_b2386 (f_L_law_b28 n28) xs L now snap has hist ent res num col thrown ss states stateMany snapshot hasSnapshot text length at_ isWell rd readMany top bottom digit digitMany other otherMany column columnMany carryMany chainMost arr ard x5 = some 1 → W p l e room_1 s m #[Value.ref b] below meth c H locs ce sl (lw_Z below #[Value.ref b] s) (F0 m 2386 ls []) := by
      intro H locs ls ce sl now snap has hist ent res num col thrown ss states stateMany snapshot hasSnapshot text length at_ isWell rd readMany top bottom digit digitMany other otherMany column columnMany carryMany chainMost arr ard x5 hcs hw hl hf
      refine lv_goto (tgt := 2616) hx hb dL_law_2386 (by decide) ?_
      exact b2616 _ _ _ (ce + 0) (sl + 0) now snap has hist ent res num col thrown ss states stateMany snapshot hasSnapshot text length at_ isWell rd readMany top bottom digit digitMany other otherMany column columnMany carryMany chainMost arr ard x5 (by omega) hw (lv_sub hl [0, 1, 2, 3, 4, 5] rfl) hf
    have b2454 : ∀ (H : Heap) (locs : List Loc) (ls : Array Slot) (ce sl : Nat) (now : SC) (snap : SC) (has : Int32) (hist : HC) (ent : EC) (res : RC) (num : NC) (col : CC) (thrown : Int32) (ss : (Nat → Int32)) (states : (Nat → Int32)) (stateMany : Int32) (snapshot : (Nat → Int32)) (hasSnapshot : Int32) (text : (Nat → Int32)) (length : Int32) (at_ : Int32) (isWell : Int32) (rd : (Nat → Int32)) (readMany : Int32) (top : Int64) (bottom : Int64) (digit : (Nat → Int32)) (digitMany : Int32) (other : (Nat → Int32)) (otherMany : Int32) (column : (Nat → Int32)) (columnMany : Int32) (carryMany : Int32) (chainMost : Int32) (arr : (Nat → Int64)) (ard : (Nat → UInt64)) (x5 : Int32), ce + n28 ≤ 601024 ∧ sl + 6 * n28 ≤ 7293034 → xW g (fun q : Nat => s.heap.size ≤ q) s.heap (wC g h now snap has hist ent res num col ++ wM g hm thrown ss states stateMany snapshot hasSnapshot text length at_ isWell rd readMany top bottom digit digitMany other otherMany column columnMany carryMany chainMost ++ [(ho, .inl (g.2.2.2.1, 1, .inr (.inl arr)))] ++ [(hd, .inl (g.2.2.2.2, 1, .inr (.inr (.inr (.inl ard)))))]) H locs → lv_has ls 9 [(0, .ref b), (1, .ref (h 0)), (2, .ref (hm 0)), (3, .ref ho), (4, .ref hd), (5, .int x5)] → f_L_law_b2454 (f_L_law_b28 n28) xs L now snap has hist ent res num col thrown ss states stateMany snapshot hasSnapshot text length at_ isWell rd readMany top bottom digit digitMany other otherMany column columnMany carryMany chainMost arr ard x5 = some 1 → W p l e room_1 s m #[Value.ref b] below meth c H locs ce sl (lw_Z below #[Value.ref b] s) (F0 m 2454 ls []) := by
      intro H locs ls ce sl now snap has hist ent res num col thrown ss states stateMany snapshot hasSnapshot text length at_ isWell rd readMany top bottom digit digitMany other otherMany column columnMany carryMany chainMost arr ard x5 hcs hw hl hf
      refine lv_goto (tgt := 2616) hx hb dL_law_2454 (by decide) ?_
      exact b2616 _ _ _ (ce + 0) (sl + 0) now snap has hist ent res num col thrown ss states stateMany snapshot hasSnapshot text length at_ isWell rd readMany top bottom digit digitMany other otherMany column columnMany carryMany chainMost arr ard x5 (by omega) hw (lv_sub hl [0, 1, 2, 3, 4, 5] rfl) hf
    have b2522 : ∀ (H : Heap) (locs : List Loc) (ls : Array Slot) (ce sl : Nat) (now : SC) (snap : SC) (has : Int32) (hist : HC) (ent : EC) (res : RC) (num : NC) (col : CC) (thrown : Int32) (ss : (Nat → Int32)) (states : (Nat → Int32)) (stateMany : Int32) (snapshot : (Nat → Int32)) (hasSnapshot : Int32) (text : (Nat → Int32)) (length : Int32) (at_ : Int32) (isWell : Int32) (rd : (Nat → Int32)) (readMany : Int32) (top : Int64) (bottom : Int64) (digit : (Nat → Int32)) (digitMany : Int32) (other : (Nat → Int32)) (otherMany : Int32) (column : (Nat → Int32)) (columnMany : Int32) (carryMany : Int32) (chainMost : Int32) (arr : (Nat → Int64)) (ard : (Nat → UInt64)) (x5 : Int32), ce + n28 ≤ 601024 ∧ sl + 6 * n28 ≤ 7293034 → xW g (fun q : Nat => s.heap.size ≤ q) s.heap (wC g h now snap has hist ent res num col ++ wM g hm thrown ss states stateMany snapshot hasSnapshot text length at_ isWell rd readMany top bottom digit digitMany other otherMany column columnMany carryMany chainMost ++ [(ho, .inl (g.2.2.2.1, 1, .inr (.inl arr)))] ++ [(hd, .inl (g.2.2.2.2, 1, .inr (.inr (.inr (.inl ard)))))]) H locs → lv_has ls 9 [(0, .ref b), (1, .ref (h 0)), (2, .ref (hm 0)), (3, .ref ho), (4, .ref hd), (5, .int x5)] → f_L_law_b2522 (f_L_law_b28 n28) xs L now snap has hist ent res num col thrown ss states stateMany snapshot hasSnapshot text length at_ isWell rd readMany top bottom digit digitMany other otherMany column columnMany carryMany chainMost arr ard x5 = some 1 → W p l e room_1 s m #[Value.ref b] below meth c H locs ce sl (lw_Z below #[Value.ref b] s) (F0 m 2522 ls []) := by
      intro H locs ls ce sl now snap has hist ent res num col thrown ss states stateMany snapshot hasSnapshot text length at_ isWell rd readMany top bottom digit digitMany other otherMany column columnMany carryMany chainMost arr ard x5 hcs hw hl hf
      refine lv_goto (tgt := 2616) hx hb dL_law_2522 (by decide) ?_
      exact b2616 _ _ _ (ce + 0) (sl + 0) now snap has hist ent res num col thrown ss states stateMany snapshot hasSnapshot text length at_ isWell rd readMany top bottom digit digitMany other otherMany column columnMany carryMany chainMost arr ard x5 (by omega) hw (lv_sub hl [0, 1, 2, 3, 4, 5] rfl) hf
    have b2599 : ∀ (H : Heap) (locs : List Loc) (ls : Array Slot) (ce sl : Nat) (now : SC) (snap : SC) (has : Int32) (hist : HC) (ent : EC) (res : RC) (num : NC) (col : CC) (thrown : Int32) (ss : (Nat → Int32)) (states : (Nat → Int32)) (stateMany : Int32) (snapshot : (Nat → Int32)) (hasSnapshot : Int32) (text : (Nat → Int32)) (length : Int32) (at_ : Int32) (isWell : Int32) (rd : (Nat → Int32)) (readMany : Int32) (top : Int64) (bottom : Int64) (digit : (Nat → Int32)) (digitMany : Int32) (other : (Nat → Int32)) (otherMany : Int32) (column : (Nat → Int32)) (columnMany : Int32) (carryMany : Int32) (chainMost : Int32) (arr : (Nat → Int64)) (ard : (Nat → UInt64)) (x5 : Int32), ce + n28 ≤ 601024 ∧ sl + 6 * n28 ≤ 7293034 → xW g (fun q : Nat => s.heap.size ≤ q) s.heap (wC g h now snap has hist ent res num col ++ wM g hm thrown ss states stateMany snapshot hasSnapshot text length at_ isWell rd readMany top bottom digit digitMany other otherMany column columnMany carryMany chainMost ++ [(ho, .inl (g.2.2.2.1, 1, .inr (.inl arr)))] ++ [(hd, .inl (g.2.2.2.2, 1, .inr (.inr (.inr (.inl ard)))))]) H locs → lv_has ls 9 [(0, .ref b), (1, .ref (h 0)), (2, .ref (hm 0)), (3, .ref ho), (4, .ref hd), (5, .int x5)] → f_L_law_b2599 (f_L_law_b28 n28) xs L now snap has hist ent res num col thrown ss states stateMany snapshot hasSnapshot text length at_ isWell rd readMany top bottom digit digitMany other otherMany column columnMany carryMany chainMost arr ard x5 = some 1 → W p l e room_1 s m #[Value.ref b] below meth c H locs ce sl (lw_Z below #[Value.ref b] s) (F0 m 2599 ls []) := by
      intro H locs ls ce sl now snap has hist ent res num col thrown ss states stateMany snapshot hasSnapshot text length at_ isWell rd readMany top bottom digit digitMany other otherMany column columnMany carryMany chainMost arr ard x5 hcs hw hl hf
      refine lv_goto (tgt := 2616) hx hb dL_law_2599 (by decide) ?_
      exact b2616 _ _ _ (ce + 0) (sl + 0) now snap has hist ent res num col thrown ss states stateMany snapshot hasSnapshot text length at_ isWell rd readMany top bottom digit digitMany other otherMany column columnMany carryMany chainMost arr ard x5 (by omega) hw (lv_sub hl [0, 1, 2, 3, 4, 5] rfl) hf
    intro H locs ls ce sl now snap has hist ent res num col thrown ss states stateMany snapshot hasSnapshot text length at_ isWell rd readMany top bottom digit digitMany other otherMany column columnMany carryMany chainMost arr ard x5 hcs hw hl hf
    refine lv_iload hx hb dL_law_28 (lv_at hl 5 rfl) ?_
    refine lv_aload_n hx hb dL_law_30 rfl (lv_at hl 0 rfl) ?_
    refine va_slen hx hb hXs hbl hbA hw.2.2 dL_law_31 ?_
    refine lv_iconst (v := 4) hx hb dL_law_32 (by decide) ?_
    refine lv_isub hx hb dL_law_33 ?_
    refine lv_icmp_gt (tgt := 2622) hx hb dL_law_34 (by decide) (fun c34 => ?_) (fun c34 => ?_)
    · replace hf := ip c34 hf
      refine lv_iconst (v := 1) hx hb dL_law_2622 (by decide) ?_
      refine va_forget (fun q hq => hw.2.2.2.2 q hq) ?_
      refine W.widen (k := 601024) (n := 7293034) (by omega) (by omega) ?_
      exact lw_ret (d0 := s.drawn) (Drawn.sameBut.refl s.drawn lw_cs) hx hb hr hlocks dL_law_2623
    · replace hf := iq c34 hf
      refine lv_aload_n hx hb dL_law_37 rfl (lv_at hl 0 rfl) ?_
      refine lv_iload hx hb dL_law_38 (lv_at hl 5 rfl) ?_
      obtain ⟨hz, hf⟩ := nz hf
      refine va_sld hx hb hXs hbl hbA hw.2.2 hz dL_law_40 ?_
      refine lv_bipush (v := 63) hx hb dL_law_41 (by decide) ?_
      refine lv_iand hx hb dL_law_43 ?_
      by_cases hd44 : ((xs x5.toNatClampNeg) &&& 63).toInt < 0 ∨ 44 < ((xs x5.toNatClampNeg) &&& 63).toInt
      · replace hf := ip hd44 hf
        refine lv_tableOut (tgt := 2616) hx hb dL_law_44 hd44 (by decide) ?_
        exact b2616 _ _ _ (ce + 0) (sl + 0) now snap has hist ent res num col thrown ss states stateMany snapshot hasSnapshot text length at_ isWell rd readMany top bottom digit digitMany other otherMany column columnMany carryMany chainMost arr ard x5 (by omega) hw (lv_sub hl [0, 1, 2, 3, 4, 5] rfl) hf
      replace hf := iq hd44 hf
      by_cases hk : ((xs x5.toNatClampNeg) &&& 63) = 0
      · replace hf := ip hk hf
        refine lv_tableIn (tgt := 240) (off := 196) hx hb dL_law_44 (by rw [hk]; decide) (by rw [hk]; decide) (by rw [hk]; rfl) (by decide) ?_
        refine lv_aload_n hx hb dL_law_240 rfl (lv_at hl 1 rfl) ?_
        refine lv_aload_n hx hb dL_law_241 rfl (lv_at hl 0 rfl) ?_
        refine lv_iload hx hb dL_law_242 (lv_at hl 5 rfl) ?_
        refine lv_iconst (v := 1) hx hb dL_law_244 (by decide) ?_
        refine lv_iadd hx hb dL_law_245 ?_
        obtain ⟨hz, hf⟩ := nz hf
        refine va_sld hx hb hXs hbl hbA hw.2.2 hz dL_law_246 ?_
        refine lv_aload_n hx hb dL_law_247 rfl (lv_at hl 3 rfl) ?_
        obtain ⟨v248, hv248, hf⟩ := ob_e hf
        refine xcallW (ws' := (wC g h v248.2.1 snap has v248.2.2.1 ent res num col ++ wM g hm thrown ss states stateMany snapshot hasSnapshot text length at_ isWell rd readMany top bottom digit digitMany other otherMany column columnMany carryMany chainMost ++ [(ho, .inl (g.2.2.2.1, 1, .inr (.inl v248.2.2.2)))] ++ [(hd, .inl (g.2.2.2.2, 1, .inr (.inr (.inr (.inl ard)))))])) (st1 := [.int v248.1]) (n := 45) E hX hNc hw [.ref (h 0), .int (xs (x5 + 1).toNatClampNeg), .ref ho] [0, 1, 2, 3, 4, 5, 6, 7, 8, 9, 10, 11, 12, 13, 14, 15, 16, 17, 18, 19, 20, 21, 22, 23, 24, 25, 26, 27, 28, 29, 30, 31, 32, 33, 43] (met_L_setBase l hlT g h ho now snap has hist ent res num col arr (xs (x5 + 1).toNatClampNeg) v248 hv248) rfl (by decide) rfl rfl [45, 46, 47, 48, 49, 50, 51, 52, 53, 54, 55, 56, 57, 58, 59, 60, 61, 62, 63, 64, 65, 66, 67, 68, 69, 70, 71, 72, 73, 74, 75, 76, 77, 78, 34, 35, 36, 37, 38, 39, 40, 41, 42, 79, 44] rfl (by decide +kernel) rfl qw679 k_L_setBase ⟨rfl, rfl, Nat.le_of_ble_eq_true rfl, Nat.le_of_ble_eq_true rfl⟩ ⟨by show _ ≤ 601024; omega, by show _ ≤ 7293034; omega⟩ hl.1 (Nat.le_of_ble_eq_true rfl) dL_law_248 rfl (fun H locs hw => ?_)
        refine lv_istore (lv' := [(6, .int v248.1), (0, .ref b), (1, .ref (h 0)), (2, .ref (hm 0)), (3, .ref ho), (4, .ref hd), (5, .int x5)]) hx hb dL_law_251 hl (by decide) rfl (fun ls hl => ?_)
        refine lv_aload_n hx hb dL_law_253 rfl (lv_at hl 3 rfl) ?_
        refine lv_aload_n hx hb dL_law_254 rfl (lv_at hl 1 rfl) ?_
        refine lv_iload hx hb dL_law_255 (lv_at hl 6 rfl) ?_
        refine lv_iconst (v := 1) hx hb dL_law_257 (by decide) ?_
        refine lv_iadd hx hb dL_law_258 ?_
        obtain ⟨hz, hf⟩ := nz hf
        refine va_sld hx hb hXs hbl hbA hw.2.2 hz dL_law_259 ?_
        obtain ⟨v260, hv260, hf⟩ := ob_e hf
        refine xcallV (ws' := (wC g h v248.2.1 snap has v248.2.2.1 ent res num col ++ wM g hm v260.2.1 v260.2.2.1 v260.2.2.2.1 v260.2.2.2.2 snapshot hasSnapshot text length at_ isWell rd readMany top bottom digit digitMany other otherMany column columnMany carryMany chainMost ++ [(ho, .inl (g.2.2.2.1, 1, .inr (.inl v248.2.2.2)))] ++ [(hd, .inl (g.2.2.2.2, 1, .inr (.inr (.inr (.inl ard)))))])) (st1 := [.int v260.1]) (n := 45) E hw [.int (xs (x5 + 1).toNatClampNeg)] [34, 35, 36, 37, 38, 39, 40, 41, 42] (met_X11_setBase l g hm thrown ss states stateMany snapshot hasSnapshot text length at_ isWell rd readMany top bottom digit digitMany other otherMany column columnMany carryMany chainMost (xs (x5 + 1).toNatClampNeg) v260 hv260) rfl (by decide) rfl rfl [0, 1, 2, 3, 4, 5, 6, 7, 8, 9, 10, 11, 12, 13, 14, 15, 16, 17, 18, 19, 20, 21, 22, 23, 24, 25, 26, 27, 28, 29, 30, 31, 32, 33, 45, 46, 47, 48, 49, 50, 51, 52, 53, 43, 44] rfl (by decide +kernel) rfl rfl rfl rfl qw1090 k_X11_setBase ⟨rfl, rfl, Nat.le_of_ble_eq_true rfl, Nat.le_of_ble_eq_true rfl⟩ ⟨by show _ ≤ 601024; omega, by show _ ≤ 7293034; omega⟩ hl.1 (Nat.le_of_ble_eq_true rfl) dL_law_260 rfl (fun H locs hw => ?_)
        refine lv_istore (lv' := [(7, .int v260.1), (6, .int v248.1), (0, .ref b), (1, .ref (h 0)), (2, .ref (hm 0)), (3, .ref ho), (4, .ref hd), (5, .int x5)]) hx hb dL_law_263 hl (by decide) rfl (fun ls hl => ?_)
        refine lv_aload_n hx hb dL_law_265 rfl (lv_at hl 4 rfl) ?_
        obtain ⟨v266, hv266, hf⟩ := ob_e hf
        refine xcallV (ws' := (wC g h v248.2.1 snap has v248.2.2.1 ent res num col ++ wM g hm v260.2.1 v260.2.2.1 v260.2.2.2.1 v260.2.2.2.2 snapshot hasSnapshot text length at_ isWell rd readMany top bottom digit digitMany other otherMany column columnMany carryMany chainMost ++ [(ho, .inl (g.2.2.2.1, 1, .inr (.inl v248.2.2.2)))] ++ [(hd, .inl (g.2.2.2.2, 1, .inr (.inr (.inr (.inl ard)))))])) (st1 := [.int v266]) (n := 45) E hw [] [34, 35, 36, 37, 38, 39, 40, 41, 42] (met_X11_thrown l g hm v260.2.1 v260.2.2.1 v260.2.2.2.1 v260.2.2.2.2 snapshot hasSnapshot text length at_ isWell rd readMany top bottom digit digitMany other otherMany column columnMany carryMany chainMost v266 hv266) rfl (by decide) rfl rfl [0, 1, 2, 3, 4, 5, 6, 7, 8, 9, 10, 11, 12, 13, 14, 15, 16, 17, 18, 19, 20, 21, 22, 23, 24, 25, 26, 27, 28, 29, 30, 31, 32, 33, 45, 46, 47, 48, 49, 50, 51, 52, 53, 43, 44] rfl (by decide +kernel) rfl rfl rfl rfl qw1086 k_X11_thrown ⟨rfl, rfl, Nat.le_of_ble_eq_true rfl, Nat.le_of_ble_eq_true rfl⟩ ⟨by show _ ≤ 601024; omega, by show _ ≤ 7293034; omega⟩ hl.1 (Nat.le_of_ble_eq_true rfl) dL_law_266 rfl (fun H locs hw => ?_)
        refine lv_iload hx hb dL_law_269 (lv_at hl 1 rfl) ?_
        refine lv_icmp_eq (tgt := 276) hx hb dL_law_271 (by decide) (fun c271 => ?_) (fun c271 => ?_)
        · replace hf := ip c271 hf
          refine lv_iload hx hb dL_law_276 (lv_at hl 1 rfl) ?_
          refine lv_if_ne (tgt := 293) hx hb dL_law_278 (by decide) (fun c278 => ?_) (fun c278 => ?_)
          · replace hf := iq c278 hf
            exact b293 _ _ _ (ce + 1) (sl + 6) v248.2.1 snap has v248.2.2.1 ent res num col v260.2.1 v260.2.2.1 v260.2.2.2.1 v260.2.2.2.2 snapshot hasSnapshot text length at_ isWell rd readMany top bottom digit digitMany other otherMany column columnMany carryMany chainMost v248.2.2.2 ard x5 (by omega) hw (lv_sub hl [2, 3, 4, 5, 6, 7] rfl) hf
          · replace hf := ip c278 hf
            refine lv_aload_n hx hb dL_law_281 rfl (lv_at hl 5 rfl) ?_
            refine lv_iconst (v := 0) hx hb dL_law_282 (by decide) ?_
            refine xlald E hw 43 rfl (by decide) dL_law_283 ?_
            refine lv_iload hx hb dL_law_284 (lv_at hl 0 rfl) ?_
            refine lv_i2l hx hb dL_law_286 rfl ?_
            refine xlc_eq (tgt := 293) hx hb dL_law_287 dL_law_288 (by decide) (fun c287 => ?_) (fun c287 => ?_)
            · replace hf := ip c287 hf
              exact b293 _ _ _ (ce + 1) (sl + 6) v248.2.1 snap has v248.2.2.1 ent res num col v260.2.1 v260.2.2.1 v260.2.2.2.1 v260.2.2.2.2 snapshot hasSnapshot text length at_ isWell rd readMany top bottom digit digitMany other otherMany column columnMany carryMany chainMost v248.2.2.2 ard x5 (by omega) hw (lv_sub hl [2, 3, 4, 5, 6, 7] rfl) hf
            · replace hf := iq c287 hf
              refine lv_iconst (v := 0) hx hb dL_law_291 (by decide) ?_
              exact absurd (Option.some.inj hf) (by decide)
        · replace hf := iq c271 hf
          refine lv_iconst (v := 0) hx hb dL_law_274 (by decide) ?_
          exact absurd (Option.some.inj hf) (by decide)
      replace hf := iq hk hf
      by_cases hk : ((xs x5.toNatClampNeg) &&& 63) = 1
      · replace hf := ip hk hf
        refine lv_tableIn (tgt := 296) (off := 252) hx hb dL_law_44 (by rw [hk]; decide) (by rw [hk]; decide) (by rw [hk]; rfl) (by decide) ?_
        refine lv_aload_n hx hb dL_law_296 rfl (lv_at hl 1 rfl) ?_
        refine lv_aload_n hx hb dL_law_297 rfl (lv_at hl 0 rfl) ?_
        refine lv_iload hx hb dL_law_298 (lv_at hl 5 rfl) ?_
        refine lv_iconst (v := 1) hx hb dL_law_300 (by decide) ?_
        refine lv_iadd hx hb dL_law_301 ?_
        obtain ⟨hz, hf⟩ := nz hf
        refine va_sld hx hb hXs hbl hbA hw.2.2 hz dL_law_302 ?_
        refine lv_aload_n hx hb dL_law_303 rfl (lv_at hl 0 rfl) ?_
        refine lv_iload hx hb dL_law_304 (lv_at hl 5 rfl) ?_
        refine lv_iconst (v := 2) hx hb dL_law_306 (by decide) ?_
        refine lv_iadd hx hb dL_law_307 ?_
        obtain ⟨hz, hf⟩ := nz hf
        refine va_sld hx hb hXs hbl hbA hw.2.2 hz dL_law_308 ?_
        refine lv_aload_n hx hb dL_law_309 rfl (lv_at hl 0 rfl) ?_
        refine lv_iload hx hb dL_law_310 (lv_at hl 5 rfl) ?_
        refine lv_iconst (v := 3) hx hb dL_law_312 (by decide) ?_
        refine lv_iadd hx hb dL_law_313 ?_
        obtain ⟨hz, hf⟩ := nz hf
        refine va_sld hx hb hXs hbl hbA hw.2.2 hz dL_law_314 ?_
        refine lv_aload_n hx hb dL_law_315 rfl (lv_at hl 3 rfl) ?_
        obtain ⟨v316, hv316, hf⟩ := ob_e hf
        refine xcallW (ws' := (wC g h v316.2.1 snap has v316.2.2.1 ent v316.2.2.2.1 num col ++ wM g hm thrown ss states stateMany snapshot hasSnapshot text length at_ isWell rd readMany top bottom digit digitMany other otherMany column columnMany carryMany chainMost ++ [(ho, .inl (g.2.2.2.1, 1, .inr (.inl v316.2.2.2.2)))] ++ [(hd, .inl (g.2.2.2.2, 1, .inr (.inr (.inr (.inl ard)))))])) (st1 := [.int v316.1]) (n := 45) E hX hNc hw [.ref (h 0), .int (xs (x5 + 1).toNatClampNeg), .int (xs (x5 + 2).toNatClampNeg), .int (xs (x5 + 3).toNatClampNeg), .ref ho] [0, 1, 2, 3, 4, 5, 6, 7, 8, 9, 10, 11, 12, 13, 14, 15, 16, 17, 18, 19, 20, 21, 22, 23, 24, 25, 26, 27, 28, 29, 30, 31, 32, 33, 43] (met_L_setFraction l hlT g h ho now snap has hist ent res num col arr (xs (x5 + 1).toNatClampNeg) (xs (x5 + 2).toNatClampNeg) (xs (x5 + 3).toNatClampNeg) v316 hv316) rfl (by decide) rfl rfl [45, 46, 47, 48, 49, 50, 51, 52, 53, 54, 55, 56, 57, 58, 59, 60, 61, 62, 63, 64, 65, 66, 67, 68, 69, 70, 71, 72, 73, 74, 75, 76, 77, 78, 34, 35, 36, 37, 38, 39, 40, 41, 42, 79, 44] rfl (by decide +kernel) rfl qw695 k_L_setFraction ⟨rfl, rfl, Nat.le_of_ble_eq_true rfl, Nat.le_of_ble_eq_true rfl⟩ ⟨by show _ ≤ 601024; omega, by show _ ≤ 7293034; omega⟩ hl.1 (Nat.le_of_ble_eq_true rfl) dL_law_316 rfl (fun H locs hw => ?_)
        refine lv_istore (lv' := [(6, .int v316.1), (0, .ref b), (1, .ref (h 0)), (2, .ref (hm 0)), (3, .ref ho), (4, .ref hd), (5, .int x5)]) hx hb dL_law_319 hl (by decide) rfl (fun ls hl => ?_)
        refine lv_aload_n hx hb dL_law_321 rfl (lv_at hl 3 rfl) ?_
        refine lv_aload_n hx hb dL_law_322 rfl (lv_at hl 1 rfl) ?_
        refine lv_iload hx hb dL_law_323 (lv_at hl 6 rfl) ?_
        refine lv_iconst (v := 1) hx hb dL_law_325 (by decide) ?_
        refine lv_iadd hx hb dL_law_326 ?_
        obtain ⟨hz, hf⟩ := nz hf
        refine va_sld hx hb hXs hbl hbA hw.2.2 hz dL_law_327 ?_
        refine lv_aload_n hx hb dL_law_328 rfl (lv_at hl 1 rfl) ?_
        refine lv_iload hx hb dL_law_329 (lv_at hl 6 rfl) ?_
        refine lv_iconst (v := 2) hx hb dL_law_331 (by decide) ?_
        refine lv_iadd hx hb dL_law_332 ?_
        obtain ⟨hz, hf⟩ := nz hf
        refine va_sld hx hb hXs hbl hbA hw.2.2 hz dL_law_333 ?_
        refine lv_aload_n hx hb dL_law_334 rfl (lv_at hl 1 rfl) ?_
        refine lv_iload hx hb dL_law_335 (lv_at hl 6 rfl) ?_
        refine lv_iconst (v := 3) hx hb dL_law_337 (by decide) ?_
        refine lv_iadd hx hb dL_law_338 ?_
        obtain ⟨hz, hf⟩ := nz hf
        refine va_sld hx hb hXs hbl hbA hw.2.2 hz dL_law_339 ?_
        obtain ⟨v340, hv340, hf⟩ := ob_e hf
        refine xcallV (ws' := (wC g h v316.2.1 snap has v316.2.2.1 ent v316.2.2.2.1 num col ++ wM g hm v340.2.1 v340.2.2.1 v340.2.2.2.1 v340.2.2.2.2.1 snapshot hasSnapshot text length at_ isWell rd readMany v340.2.2.2.2.2.1 v340.2.2.2.2.2.2 digit digitMany other otherMany column columnMany carryMany chainMost ++ [(ho, .inl (g.2.2.2.1, 1, .inr (.inl v316.2.2.2.2)))] ++ [(hd, .inl (g.2.2.2.2, 1, .inr (.inr (.inr (.inl ard)))))])) (st1 := [.int v340.1]) (n := 45) E hw [.int (xs (x5 + 1).toNatClampNeg), .int (xs (x5 + 2).toNatClampNeg), .int (xs (x5 + 3).toNatClampNeg)] [34, 35, 36, 37, 38, 39, 40, 41, 42] (met_X11_setFraction l g hm thrown ss states stateMany snapshot hasSnapshot text length at_ isWell rd readMany top bottom digit digitMany other otherMany column columnMany carryMany chainMost (xs (x5 + 1).toNatClampNeg) (xs (x5 + 2).toNatClampNeg) (xs (x5 + 3).toNatClampNeg) v340 hv340) rfl (by decide) rfl rfl [0, 1, 2, 3, 4, 5, 6, 7, 8, 9, 10, 11, 12, 13, 14, 15, 16, 17, 18, 19, 20, 21, 22, 23, 24, 25, 26, 27, 28, 29, 30, 31, 32, 33, 45, 46, 47, 48, 49, 50, 51, 52, 53, 43, 44] rfl (by decide +kernel) rfl rfl rfl rfl qw1108 k_X11_setFraction ⟨rfl, rfl, Nat.le_of_ble_eq_true rfl, Nat.le_of_ble_eq_true rfl⟩ ⟨by show _ ≤ 601024; omega, by show _ ≤ 7293034; omega⟩ hl.1 (Nat.le_of_ble_eq_true rfl) dL_law_340 rfl (fun H locs hw => ?_)
        refine lv_istore (lv' := [(7, .int v340.1), (6, .int v316.1), (0, .ref b), (1, .ref (h 0)), (2, .ref (hm 0)), (3, .ref ho), (4, .ref hd), (5, .int x5)]) hx hb dL_law_343 hl (by decide) rfl (fun ls hl => ?_)
        refine lv_aload_n hx hb dL_law_345 rfl (lv_at hl 4 rfl) ?_
        obtain ⟨v346, hv346, hf⟩ := ob_e hf
        refine xcallV (ws' := (wC g h v316.2.1 snap has v316.2.2.1 ent v316.2.2.2.1 num col ++ wM g hm v340.2.1 v340.2.2.1 v340.2.2.2.1 v340.2.2.2.2.1 snapshot hasSnapshot text length at_ isWell rd readMany v340.2.2.2.2.2.1 v340.2.2.2.2.2.2 digit digitMany other otherMany column columnMany carryMany chainMost ++ [(ho, .inl (g.2.2.2.1, 1, .inr (.inl v316.2.2.2.2)))] ++ [(hd, .inl (g.2.2.2.2, 1, .inr (.inr (.inr (.inl ard)))))])) (st1 := [.int v346]) (n := 45) E hw [] [34, 35, 36, 37, 38, 39, 40, 41, 42] (met_X11_thrown l g hm v340.2.1 v340.2.2.1 v340.2.2.2.1 v340.2.2.2.2.1 snapshot hasSnapshot text length at_ isWell rd readMany v340.2.2.2.2.2.1 v340.2.2.2.2.2.2 digit digitMany other otherMany column columnMany carryMany chainMost v346 hv346) rfl (by decide) rfl rfl [0, 1, 2, 3, 4, 5, 6, 7, 8, 9, 10, 11, 12, 13, 14, 15, 16, 17, 18, 19, 20, 21, 22, 23, 24, 25, 26, 27, 28, 29, 30, 31, 32, 33, 45, 46, 47, 48, 49, 50, 51, 52, 53, 43, 44] rfl (by decide +kernel) rfl rfl rfl rfl qw1086 k_X11_thrown ⟨rfl, rfl, Nat.le_of_ble_eq_true rfl, Nat.le_of_ble_eq_true rfl⟩ ⟨by show _ ≤ 601024; omega, by show _ ≤ 7293034; omega⟩ hl.1 (Nat.le_of_ble_eq_true rfl) dL_law_346 rfl (fun H locs hw => ?_)
        refine lv_iload hx hb dL_law_349 (lv_at hl 1 rfl) ?_
        refine lv_icmp_eq (tgt := 356) hx hb dL_law_351 (by decide) (fun c351 => ?_) (fun c351 => ?_)
        · replace hf := ip c351 hf
          refine lv_iload hx hb dL_law_356 (lv_at hl 1 rfl) ?_
          refine lv_if_ne (tgt := 373) hx hb dL_law_358 (by decide) (fun c358 => ?_) (fun c358 => ?_)
          · replace hf := iq c358 hf
            exact b373 _ _ _ (ce + 1) (sl + 6) v316.2.1 snap has v316.2.2.1 ent v316.2.2.2.1 num col v340.2.1 v340.2.2.1 v340.2.2.2.1 v340.2.2.2.2.1 snapshot hasSnapshot text length at_ isWell rd readMany v340.2.2.2.2.2.1 v340.2.2.2.2.2.2 digit digitMany other otherMany column columnMany carryMany chainMost v316.2.2.2.2 ard x5 (by omega) hw (lv_sub hl [2, 3, 4, 5, 6, 7] rfl) hf
          · replace hf := ip c358 hf
            refine lv_aload_n hx hb dL_law_361 rfl (lv_at hl 5 rfl) ?_
            refine lv_iconst (v := 0) hx hb dL_law_362 (by decide) ?_
            refine xlald E hw 43 rfl (by decide) dL_law_363 ?_
            refine lv_iload hx hb dL_law_364 (lv_at hl 0 rfl) ?_
            refine lv_i2l hx hb dL_law_366 rfl ?_
            refine xlc_eq (tgt := 373) hx hb dL_law_367 dL_law_368 (by decide) (fun c367 => ?_) (fun c367 => ?_)
            · replace hf := ip c367 hf
              exact b373 _ _ _ (ce + 1) (sl + 6) v316.2.1 snap has v316.2.2.1 ent v316.2.2.2.1 num col v340.2.1 v340.2.2.1 v340.2.2.2.1 v340.2.2.2.2.1 snapshot hasSnapshot text length at_ isWell rd readMany v340.2.2.2.2.2.1 v340.2.2.2.2.2.2 digit digitMany other otherMany column columnMany carryMany chainMost v316.2.2.2.2 ard x5 (by omega) hw (lv_sub hl [2, 3, 4, 5, 6, 7] rfl) hf
            · replace hf := iq c367 hf
              refine lv_iconst (v := 0) hx hb dL_law_371 (by decide) ?_
              exact absurd (Option.some.inj hf) (by decide)
        · replace hf := iq c351 hf
          refine lv_iconst (v := 0) hx hb dL_law_354 (by decide) ?_
          exact absurd (Option.some.inj hf) (by decide)
      replace hf := iq hk hf
      by_cases hk : ((xs x5.toNatClampNeg) &&& 63) = 2
      · replace hf := ip hk hf
        refine lv_tableIn (tgt := 376) (off := 332) hx hb dL_law_44 (by rw [hk]; decide) (by rw [hk]; decide) (by rw [hk]; rfl) (by decide) ?_
        refine lv_aload_n hx hb dL_law_376 rfl (lv_at hl 1 rfl) ?_
        refine lv_aload_n hx hb dL_law_377 rfl (lv_at hl 0 rfl) ?_
        refine lv_iload hx hb dL_law_378 (lv_at hl 5 rfl) ?_
        refine lv_iconst (v := 1) hx hb dL_law_380 (by decide) ?_
        refine lv_iadd hx hb dL_law_381 ?_
        obtain ⟨hz, hf⟩ := nz hf
        refine va_sld hx hb hXs hbl hbA hw.2.2 hz dL_law_382 ?_
        refine lv_aload_n hx hb dL_law_383 rfl (lv_at hl 0 rfl) ?_
        refine lv_iload hx hb dL_law_384 (lv_at hl 5 rfl) ?_
        refine lv_iconst (v := 2) hx hb dL_law_386 (by decide) ?_
        refine lv_iadd hx hb dL_law_387 ?_
        obtain ⟨hz, hf⟩ := nz hf
        refine va_sld hx hb hXs hbl hbA hw.2.2 hz dL_law_388 ?_
        refine lv_aload_n hx hb dL_law_389 rfl (lv_at hl 3 rfl) ?_
        obtain ⟨v390, hv390, hf⟩ := ob_e hf
        refine xcallW (ws' := (wC g h v390.2.1 snap has v390.2.2.1 ent v390.2.2.2.1 num col ++ wM g hm thrown ss states stateMany snapshot hasSnapshot text length at_ isWell rd readMany top bottom digit digitMany other otherMany column columnMany carryMany chainMost ++ [(ho, .inl (g.2.2.2.1, 1, .inr (.inl v390.2.2.2.2)))] ++ [(hd, .inl (g.2.2.2.2, 1, .inr (.inr (.inr (.inl ard)))))])) (st1 := [.int v390.1]) (n := 45) E hX hNc hw [.ref (h 0), .int (xs (x5 + 1).toNatClampNeg), .int (xs (x5 + 2).toNatClampNeg), .ref ho] [0, 1, 2, 3, 4, 5, 6, 7, 8, 9, 10, 11, 12, 13, 14, 15, 16, 17, 18, 19, 20, 21, 22, 23, 24, 25, 26, 27, 28, 29, 30, 31, 32, 33, 43] (met_L_add l hlT g h ho now snap has hist ent res num col arr (xs (x5 + 1).toNatClampNeg) (xs (x5 + 2).toNatClampNeg) v390 hv390) rfl (by decide) rfl rfl [45, 46, 47, 48, 49, 50, 51, 52, 53, 54, 55, 56, 57, 58, 59, 60, 61, 62, 63, 64, 65, 66, 67, 68, 69, 70, 71, 72, 73, 74, 75, 76, 77, 78, 34, 35, 36, 37, 38, 39, 40, 41, 42, 79, 44] rfl (by decide +kernel) rfl qw714 k_L_add ⟨rfl, rfl, Nat.le_of_ble_eq_true rfl, Nat.le_of_ble_eq_true rfl⟩ ⟨by show _ ≤ 601024; omega, by show _ ≤ 7293034; omega⟩ hl.1 (Nat.le_of_ble_eq_true rfl) dL_law_390 rfl (fun H locs hw => ?_)
        refine lv_istore (lv' := [(6, .int v390.1), (0, .ref b), (1, .ref (h 0)), (2, .ref (hm 0)), (3, .ref ho), (4, .ref hd), (5, .int x5)]) hx hb dL_law_393 hl (by decide) rfl (fun ls hl => ?_)
        refine lv_aload_n hx hb dL_law_395 rfl (lv_at hl 3 rfl) ?_
        refine lv_aload_n hx hb dL_law_396 rfl (lv_at hl 1 rfl) ?_
        refine lv_iload hx hb dL_law_397 (lv_at hl 6 rfl) ?_
        refine lv_iconst (v := 1) hx hb dL_law_399 (by decide) ?_
        refine lv_iadd hx hb dL_law_400 ?_
        obtain ⟨hz, hf⟩ := nz hf
        refine va_sld hx hb hXs hbl hbA hw.2.2 hz dL_law_401 ?_
        refine lv_aload_n hx hb dL_law_402 rfl (lv_at hl 1 rfl) ?_
        refine lv_iload hx hb dL_law_403 (lv_at hl 6 rfl) ?_
        refine lv_iconst (v := 2) hx hb dL_law_405 (by decide) ?_
        refine lv_iadd hx hb dL_law_406 ?_
        obtain ⟨hz, hf⟩ := nz hf
        refine va_sld hx hb hXs hbl hbA hw.2.2 hz dL_law_407 ?_
        obtain ⟨v408, hv408, hf⟩ := ob_e hf
        refine xcallV (ws' := (wC g h v390.2.1 snap has v390.2.2.1 ent v390.2.2.2.1 num col ++ wM g hm v408.2.1 v408.2.2.1 v408.2.2.2.1 v408.2.2.2.2.1 snapshot hasSnapshot text length at_ isWell rd readMany v408.2.2.2.2.2.1 v408.2.2.2.2.2.2 digit digitMany other otherMany column columnMany carryMany chainMost ++ [(ho, .inl (g.2.2.2.1, 1, .inr (.inl v390.2.2.2.2)))] ++ [(hd, .inl (g.2.2.2.2, 1, .inr (.inr (.inr (.inl ard)))))])) (st1 := [.int v408.1]) (n := 45) E hw [.int (xs (x5 + 1).toNatClampNeg), .int (xs (x5 + 2).toNatClampNeg)] [34, 35, 36, 37, 38, 39, 40, 41, 42] (met_X11_add l g hm thrown ss states stateMany snapshot hasSnapshot text length at_ isWell rd readMany top bottom digit digitMany other otherMany column columnMany carryMany chainMost (xs (x5 + 1).toNatClampNeg) (xs (x5 + 2).toNatClampNeg) v408 hv408) rfl (by decide) rfl rfl [0, 1, 2, 3, 4, 5, 6, 7, 8, 9, 10, 11, 12, 13, 14, 15, 16, 17, 18, 19, 20, 21, 22, 23, 24, 25, 26, 27, 28, 29, 30, 31, 32, 33, 45, 46, 47, 48, 49, 50, 51, 52, 53, 43, 44] rfl (by decide +kernel) rfl rfl rfl rfl qw1133 k_X11_add ⟨rfl, rfl, Nat.le_of_ble_eq_true rfl, Nat.le_of_ble_eq_true rfl⟩ ⟨by show _ ≤ 601024; omega, by show _ ≤ 7293034; omega⟩ hl.1 (Nat.le_of_ble_eq_true rfl) dL_law_408 rfl (fun H locs hw => ?_)
        refine lv_istore (lv' := [(7, .int v408.1), (6, .int v390.1), (0, .ref b), (1, .ref (h 0)), (2, .ref (hm 0)), (3, .ref ho), (4, .ref hd), (5, .int x5)]) hx hb dL_law_411 hl (by decide) rfl (fun ls hl => ?_)
        refine lv_aload_n hx hb dL_law_413 rfl (lv_at hl 4 rfl) ?_
        obtain ⟨v414, hv414, hf⟩ := ob_e hf
        refine xcallV (ws' := (wC g h v390.2.1 snap has v390.2.2.1 ent v390.2.2.2.1 num col ++ wM g hm v408.2.1 v408.2.2.1 v408.2.2.2.1 v408.2.2.2.2.1 snapshot hasSnapshot text length at_ isWell rd readMany v408.2.2.2.2.2.1 v408.2.2.2.2.2.2 digit digitMany other otherMany column columnMany carryMany chainMost ++ [(ho, .inl (g.2.2.2.1, 1, .inr (.inl v390.2.2.2.2)))] ++ [(hd, .inl (g.2.2.2.2, 1, .inr (.inr (.inr (.inl ard)))))])) (st1 := [.int v414]) (n := 45) E hw [] [34, 35, 36, 37, 38, 39, 40, 41, 42] (met_X11_thrown l g hm v408.2.1 v408.2.2.1 v408.2.2.2.1 v408.2.2.2.2.1 snapshot hasSnapshot text length at_ isWell rd readMany v408.2.2.2.2.2.1 v408.2.2.2.2.2.2 digit digitMany other otherMany column columnMany carryMany chainMost v414 hv414) rfl (by decide) rfl rfl [0, 1, 2, 3, 4, 5, 6, 7, 8, 9, 10, 11, 12, 13, 14, 15, 16, 17, 18, 19, 20, 21, 22, 23, 24, 25, 26, 27, 28, 29, 30, 31, 32, 33, 45, 46, 47, 48, 49, 50, 51, 52, 53, 43, 44] rfl (by decide +kernel) rfl rfl rfl rfl qw1086 k_X11_thrown ⟨rfl, rfl, Nat.le_of_ble_eq_true rfl, Nat.le_of_ble_eq_true rfl⟩ ⟨by show _ ≤ 601024; omega, by show _ ≤ 7293034; omega⟩ hl.1 (Nat.le_of_ble_eq_true rfl) dL_law_414 rfl (fun H locs hw => ?_)
        refine lv_iload hx hb dL_law_417 (lv_at hl 1 rfl) ?_
        refine lv_icmp_eq (tgt := 424) hx hb dL_law_419 (by decide) (fun c419 => ?_) (fun c419 => ?_)
        · replace hf := ip c419 hf
          refine lv_iload hx hb dL_law_424 (lv_at hl 1 rfl) ?_
          refine lv_if_ne (tgt := 441) hx hb dL_law_426 (by decide) (fun c426 => ?_) (fun c426 => ?_)
          · replace hf := iq c426 hf
            exact b441 _ _ _ (ce + 1) (sl + 6) v390.2.1 snap has v390.2.2.1 ent v390.2.2.2.1 num col v408.2.1 v408.2.2.1 v408.2.2.2.1 v408.2.2.2.2.1 snapshot hasSnapshot text length at_ isWell rd readMany v408.2.2.2.2.2.1 v408.2.2.2.2.2.2 digit digitMany other otherMany column columnMany carryMany chainMost v390.2.2.2.2 ard x5 (by omega) hw (lv_sub hl [2, 3, 4, 5, 6, 7] rfl) hf
          · replace hf := ip c426 hf
            refine lv_aload_n hx hb dL_law_429 rfl (lv_at hl 5 rfl) ?_
            refine lv_iconst (v := 0) hx hb dL_law_430 (by decide) ?_
            refine xlald E hw 43 rfl (by decide) dL_law_431 ?_
            refine lv_iload hx hb dL_law_432 (lv_at hl 0 rfl) ?_
            refine lv_i2l hx hb dL_law_434 rfl ?_
            refine xlc_eq (tgt := 441) hx hb dL_law_435 dL_law_436 (by decide) (fun c435 => ?_) (fun c435 => ?_)
            · replace hf := ip c435 hf
              exact b441 _ _ _ (ce + 1) (sl + 6) v390.2.1 snap has v390.2.2.1 ent v390.2.2.2.1 num col v408.2.1 v408.2.2.1 v408.2.2.2.1 v408.2.2.2.2.1 snapshot hasSnapshot text length at_ isWell rd readMany v408.2.2.2.2.2.1 v408.2.2.2.2.2.2 digit digitMany other otherMany column columnMany carryMany chainMost v390.2.2.2.2 ard x5 (by omega) hw (lv_sub hl [2, 3, 4, 5, 6, 7] rfl) hf
            · replace hf := iq c435 hf
              refine lv_iconst (v := 0) hx hb dL_law_439 (by decide) ?_
              exact absurd (Option.some.inj hf) (by decide)
        · replace hf := iq c419 hf
          refine lv_iconst (v := 0) hx hb dL_law_422 (by decide) ?_
          exact absurd (Option.some.inj hf) (by decide)
      replace hf := iq hk hf
      by_cases hk : ((xs x5.toNatClampNeg) &&& 63) = 3
      · replace hf := ip hk hf
        refine lv_tableIn (tgt := 444) (off := 400) hx hb dL_law_44 (by rw [hk]; decide) (by rw [hk]; decide) (by rw [hk]; rfl) (by decide) ?_
        refine lv_aload_n hx hb dL_law_444 rfl (lv_at hl 1 rfl) ?_
        refine lv_aload_n hx hb dL_law_445 rfl (lv_at hl 0 rfl) ?_
        refine lv_iload hx hb dL_law_446 (lv_at hl 5 rfl) ?_
        refine lv_iconst (v := 1) hx hb dL_law_448 (by decide) ?_
        refine lv_iadd hx hb dL_law_449 ?_
        obtain ⟨hz, hf⟩ := nz hf
        refine va_sld hx hb hXs hbl hbA hw.2.2 hz dL_law_450 ?_
        refine lv_aload_n hx hb dL_law_451 rfl (lv_at hl 0 rfl) ?_
        refine lv_iload hx hb dL_law_452 (lv_at hl 5 rfl) ?_
        refine lv_iconst (v := 2) hx hb dL_law_454 (by decide) ?_
        refine lv_iadd hx hb dL_law_455 ?_
        obtain ⟨hz, hf⟩ := nz hf
        refine va_sld hx hb hXs hbl hbA hw.2.2 hz dL_law_456 ?_
        refine lv_aload_n hx hb dL_law_457 rfl (lv_at hl 3 rfl) ?_
        obtain ⟨v458, hv458, hf⟩ := ob_e hf
        refine xcallW (ws' := (wC g h v458.2.1 snap has v458.2.2.1 ent v458.2.2.2.1 num col ++ wM g hm thrown ss states stateMany snapshot hasSnapshot text length at_ isWell rd readMany top bottom digit digitMany other otherMany column columnMany carryMany chainMost ++ [(ho, .inl (g.2.2.2.1, 1, .inr (.inl v458.2.2.2.2)))] ++ [(hd, .inl (g.2.2.2.2, 1, .inr (.inr (.inr (.inl ard)))))])) (st1 := [.int v458.1]) (n := 45) E hX hNc hw [.ref (h 0), .int (xs (x5 + 1).toNatClampNeg), .int (xs (x5 + 2).toNatClampNeg), .ref ho] [0, 1, 2, 3, 4, 5, 6, 7, 8, 9, 10, 11, 12, 13, 14, 15, 16, 17, 18, 19, 20, 21, 22, 23, 24, 25, 26, 27, 28, 29, 30, 31, 32, 33, 43] (met_L_subtract l hlT g h ho now snap has hist ent res num col arr (xs (x5 + 1).toNatClampNeg) (xs (x5 + 2).toNatClampNeg) v458 hv458) rfl (by decide) rfl rfl [45, 46, 47, 48, 49, 50, 51, 52, 53, 54, 55, 56, 57, 58, 59, 60, 61, 62, 63, 64, 65, 66, 67, 68, 69, 70, 71, 72, 73, 74, 75, 76, 77, 78, 34, 35, 36, 37, 38, 39, 40, 41, 42, 79, 44] rfl (by decide +kernel) rfl qw748 k_L_subtract ⟨rfl, rfl, Nat.le_of_ble_eq_true rfl, Nat.le_of_ble_eq_true rfl⟩ ⟨by show _ ≤ 601024; omega, by show _ ≤ 7293034; omega⟩ hl.1 (Nat.le_of_ble_eq_true rfl) dL_law_458 rfl (fun H locs hw => ?_)
        refine lv_istore (lv' := [(6, .int v458.1), (0, .ref b), (1, .ref (h 0)), (2, .ref (hm 0)), (3, .ref ho), (4, .ref hd), (5, .int x5)]) hx hb dL_law_461 hl (by decide) rfl (fun ls hl => ?_)
        refine lv_aload_n hx hb dL_law_463 rfl (lv_at hl 3 rfl) ?_
        refine lv_aload_n hx hb dL_law_464 rfl (lv_at hl 1 rfl) ?_
        refine lv_iload hx hb dL_law_465 (lv_at hl 6 rfl) ?_
        refine lv_iconst (v := 1) hx hb dL_law_467 (by decide) ?_
        refine lv_iadd hx hb dL_law_468 ?_
        obtain ⟨hz, hf⟩ := nz hf
        refine va_sld hx hb hXs hbl hbA hw.2.2 hz dL_law_469 ?_
        refine lv_aload_n hx hb dL_law_470 rfl (lv_at hl 1 rfl) ?_
        refine lv_iload hx hb dL_law_471 (lv_at hl 6 rfl) ?_
        refine lv_iconst (v := 2) hx hb dL_law_473 (by decide) ?_
        refine lv_iadd hx hb dL_law_474 ?_
        obtain ⟨hz, hf⟩ := nz hf
        refine va_sld hx hb hXs hbl hbA hw.2.2 hz dL_law_475 ?_
        obtain ⟨v476, hv476, hf⟩ := ob_e hf
        refine xcallV (ws' := (wC g h v458.2.1 snap has v458.2.2.1 ent v458.2.2.2.1 num col ++ wM g hm v476.2.1 v476.2.2.1 v476.2.2.2.1 v476.2.2.2.2.1 snapshot hasSnapshot text length at_ isWell rd readMany v476.2.2.2.2.2.1 v476.2.2.2.2.2.2 digit digitMany other otherMany column columnMany carryMany chainMost ++ [(ho, .inl (g.2.2.2.1, 1, .inr (.inl v458.2.2.2.2)))] ++ [(hd, .inl (g.2.2.2.2, 1, .inr (.inr (.inr (.inl ard)))))])) (st1 := [.int v476.1]) (n := 45) E hw [.int (xs (x5 + 1).toNatClampNeg), .int (xs (x5 + 2).toNatClampNeg)] [34, 35, 36, 37, 38, 39, 40, 41, 42] (met_X11_subtract l g hm thrown ss states stateMany snapshot hasSnapshot text length at_ isWell rd readMany top bottom digit digitMany other otherMany column columnMany carryMany chainMost (xs (x5 + 1).toNatClampNeg) (xs (x5 + 2).toNatClampNeg) v476 hv476) rfl (by decide) rfl rfl [0, 1, 2, 3, 4, 5, 6, 7, 8, 9, 10, 11, 12, 13, 14, 15, 16, 17, 18, 19, 20, 21, 22, 23, 24, 25, 26, 27, 28, 29, 30, 31, 32, 33, 45, 46, 47, 48, 49, 50, 51, 52, 53, 43, 44] rfl (by decide +kernel) rfl rfl rfl rfl qw1148 k_X11_subtract ⟨rfl, rfl, Nat.le_of_ble_eq_true rfl, Nat.le_of_ble_eq_true rfl⟩ ⟨by show _ ≤ 601024; omega, by show _ ≤ 7293034; omega⟩ hl.1 (Nat.le_of_ble_eq_true rfl) dL_law_476 rfl (fun H locs hw => ?_)
        refine lv_istore (lv' := [(7, .int v476.1), (6, .int v458.1), (0, .ref b), (1, .ref (h 0)), (2, .ref (hm 0)), (3, .ref ho), (4, .ref hd), (5, .int x5)]) hx hb dL_law_479 hl (by decide) rfl (fun ls hl => ?_)
        refine lv_aload_n hx hb dL_law_481 rfl (lv_at hl 4 rfl) ?_
        obtain ⟨v482, hv482, hf⟩ := ob_e hf
        refine xcallV (ws' := (wC g h v458.2.1 snap has v458.2.2.1 ent v458.2.2.2.1 num col ++ wM g hm v476.2.1 v476.2.2.1 v476.2.2.2.1 v476.2.2.2.2.1 snapshot hasSnapshot text length at_ isWell rd readMany v476.2.2.2.2.2.1 v476.2.2.2.2.2.2 digit digitMany other otherMany column columnMany carryMany chainMost ++ [(ho, .inl (g.2.2.2.1, 1, .inr (.inl v458.2.2.2.2)))] ++ [(hd, .inl (g.2.2.2.2, 1, .inr (.inr (.inr (.inl ard)))))])) (st1 := [.int v482]) (n := 45) E hw [] [34, 35, 36, 37, 38, 39, 40, 41, 42] (met_X11_thrown l g hm v476.2.1 v476.2.2.1 v476.2.2.2.1 v476.2.2.2.2.1 snapshot hasSnapshot text length at_ isWell rd readMany v476.2.2.2.2.2.1 v476.2.2.2.2.2.2 digit digitMany other otherMany column columnMany carryMany chainMost v482 hv482) rfl (by decide) rfl rfl [0, 1, 2, 3, 4, 5, 6, 7, 8, 9, 10, 11, 12, 13, 14, 15, 16, 17, 18, 19, 20, 21, 22, 23, 24, 25, 26, 27, 28, 29, 30, 31, 32, 33, 45, 46, 47, 48, 49, 50, 51, 52, 53, 43, 44] rfl (by decide +kernel) rfl rfl rfl rfl qw1086 k_X11_thrown ⟨rfl, rfl, Nat.le_of_ble_eq_true rfl, Nat.le_of_ble_eq_true rfl⟩ ⟨by show _ ≤ 601024; omega, by show _ ≤ 7293034; omega⟩ hl.1 (Nat.le_of_ble_eq_true rfl) dL_law_482 rfl (fun H locs hw => ?_)
        refine lv_iload hx hb dL_law_485 (lv_at hl 1 rfl) ?_
        refine lv_icmp_eq (tgt := 492) hx hb dL_law_487 (by decide) (fun c487 => ?_) (fun c487 => ?_)
        · replace hf := ip c487 hf
          refine lv_iload hx hb dL_law_492 (lv_at hl 1 rfl) ?_
          refine lv_if_ne (tgt := 509) hx hb dL_law_494 (by decide) (fun c494 => ?_) (fun c494 => ?_)
          · replace hf := iq c494 hf
            exact b509 _ _ _ (ce + 1) (sl + 6) v458.2.1 snap has v458.2.2.1 ent v458.2.2.2.1 num col v476.2.1 v476.2.2.1 v476.2.2.2.1 v476.2.2.2.2.1 snapshot hasSnapshot text length at_ isWell rd readMany v476.2.2.2.2.2.1 v476.2.2.2.2.2.2 digit digitMany other otherMany column columnMany carryMany chainMost v458.2.2.2.2 ard x5 (by omega) hw (lv_sub hl [2, 3, 4, 5, 6, 7] rfl) hf
          · replace hf := ip c494 hf
            refine lv_aload_n hx hb dL_law_497 rfl (lv_at hl 5 rfl) ?_
            refine lv_iconst (v := 0) hx hb dL_law_498 (by decide) ?_
            refine xlald E hw 43 rfl (by decide) dL_law_499 ?_
            refine lv_iload hx hb dL_law_500 (lv_at hl 0 rfl) ?_
            refine lv_i2l hx hb dL_law_502 rfl ?_
            refine xlc_eq (tgt := 509) hx hb dL_law_503 dL_law_504 (by decide) (fun c503 => ?_) (fun c503 => ?_)
            · replace hf := ip c503 hf
              exact b509 _ _ _ (ce + 1) (sl + 6) v458.2.1 snap has v458.2.2.1 ent v458.2.2.2.1 num col v476.2.1 v476.2.2.1 v476.2.2.2.1 v476.2.2.2.2.1 snapshot hasSnapshot text length at_ isWell rd readMany v476.2.2.2.2.2.1 v476.2.2.2.2.2.2 digit digitMany other otherMany column columnMany carryMany chainMost v458.2.2.2.2 ard x5 (by omega) hw (lv_sub hl [2, 3, 4, 5, 6, 7] rfl) hf
            · replace hf := iq c503 hf
              refine lv_iconst (v := 0) hx hb dL_law_507 (by decide) ?_
              exact absurd (Option.some.inj hf) (by decide)
        · replace hf := iq c487 hf
          refine lv_iconst (v := 0) hx hb dL_law_490 (by decide) ?_
          exact absurd (Option.some.inj hf) (by decide)
      replace hf := iq hk hf
      by_cases hk : ((xs x5.toNatClampNeg) &&& 63) = 4
      · replace hf := ip hk hf
        refine lv_tableIn (tgt := 512) (off := 468) hx hb dL_law_44 (by rw [hk]; decide) (by rw [hk]; decide) (by rw [hk]; rfl) (by decide) ?_
        refine lv_aload_n hx hb dL_law_512 rfl (lv_at hl 1 rfl) ?_
        refine lv_aload_n hx hb dL_law_513 rfl (lv_at hl 0 rfl) ?_
        refine lv_iload hx hb dL_law_514 (lv_at hl 5 rfl) ?_
        refine lv_iconst (v := 1) hx hb dL_law_516 (by decide) ?_
        refine lv_iadd hx hb dL_law_517 ?_
        obtain ⟨hz, hf⟩ := nz hf
        refine va_sld hx hb hXs hbl hbA hw.2.2 hz dL_law_518 ?_
        refine lv_aload_n hx hb dL_law_519 rfl (lv_at hl 0 rfl) ?_
        refine lv_iload hx hb dL_law_520 (lv_at hl 5 rfl) ?_
        refine lv_iconst (v := 2) hx hb dL_law_522 (by decide) ?_
        refine lv_iadd hx hb dL_law_523 ?_
        obtain ⟨hz, hf⟩ := nz hf
        refine va_sld hx hb hXs hbl hbA hw.2.2 hz dL_law_524 ?_
        refine lv_aload_n hx hb dL_law_525 rfl (lv_at hl 3 rfl) ?_
        obtain ⟨v526, hv526, hf⟩ := ob_e hf
        refine xcallW (ws' := (wC g h v526.2.1 snap has v526.2.2.1 ent v526.2.2.2.1 num col ++ wM g hm thrown ss states stateMany snapshot hasSnapshot text length at_ isWell rd readMany top bottom digit digitMany other otherMany column columnMany carryMany chainMost ++ [(ho, .inl (g.2.2.2.1, 1, .inr (.inl v526.2.2.2.2)))] ++ [(hd, .inl (g.2.2.2.2, 1, .inr (.inr (.inr (.inl ard)))))])) (st1 := [.int v526.1]) (n := 45) E hX hNc hw [.ref (h 0), .int (xs (x5 + 1).toNatClampNeg), .int (xs (x5 + 2).toNatClampNeg), .ref ho] [0, 1, 2, 3, 4, 5, 6, 7, 8, 9, 10, 11, 12, 13, 14, 15, 16, 17, 18, 19, 20, 21, 22, 23, 24, 25, 26, 27, 28, 29, 30, 31, 32, 33, 43] (met_L_shift l hlT g h ho now snap has hist ent res num col arr (xs (x5 + 1).toNatClampNeg) (xs (x5 + 2).toNatClampNeg) v526 hv526) rfl (by decide) rfl rfl [45, 46, 47, 48, 49, 50, 51, 52, 53, 54, 55, 56, 57, 58, 59, 60, 61, 62, 63, 64, 65, 66, 67, 68, 69, 70, 71, 72, 73, 74, 75, 76, 77, 78, 34, 35, 36, 37, 38, 39, 40, 41, 42, 79, 44] rfl (by decide +kernel) rfl qw759 k_L_shift ⟨rfl, rfl, Nat.le_of_ble_eq_true rfl, Nat.le_of_ble_eq_true rfl⟩ ⟨by show _ ≤ 601024; omega, by show _ ≤ 7293034; omega⟩ hl.1 (Nat.le_of_ble_eq_true rfl) dL_law_526 rfl (fun H locs hw => ?_)
        refine lv_istore (lv' := [(6, .int v526.1), (0, .ref b), (1, .ref (h 0)), (2, .ref (hm 0)), (3, .ref ho), (4, .ref hd), (5, .int x5)]) hx hb dL_law_529 hl (by decide) rfl (fun ls hl => ?_)
        refine lv_aload_n hx hb dL_law_531 rfl (lv_at hl 3 rfl) ?_
        refine lv_aload_n hx hb dL_law_532 rfl (lv_at hl 1 rfl) ?_
        refine lv_iload hx hb dL_law_533 (lv_at hl 6 rfl) ?_
        refine lv_iconst (v := 1) hx hb dL_law_535 (by decide) ?_
        refine lv_iadd hx hb dL_law_536 ?_
        obtain ⟨hz, hf⟩ := nz hf
        refine va_sld hx hb hXs hbl hbA hw.2.2 hz dL_law_537 ?_
        refine lv_aload_n hx hb dL_law_538 rfl (lv_at hl 1 rfl) ?_
        refine lv_iload hx hb dL_law_539 (lv_at hl 6 rfl) ?_
        refine lv_iconst (v := 2) hx hb dL_law_541 (by decide) ?_
        refine lv_iadd hx hb dL_law_542 ?_
        obtain ⟨hz, hf⟩ := nz hf
        refine va_sld hx hb hXs hbl hbA hw.2.2 hz dL_law_543 ?_
        obtain ⟨v544, hv544, hf⟩ := ob_e hf
        refine xcallV (ws' := (wC g h v526.2.1 snap has v526.2.2.1 ent v526.2.2.2.1 num col ++ wM g hm v544.2.1 v544.2.2.1 v544.2.2.2.1 v544.2.2.2.2.1 snapshot hasSnapshot text length at_ isWell rd readMany v544.2.2.2.2.2.1 v544.2.2.2.2.2.2 digit digitMany other otherMany column columnMany carryMany chainMost ++ [(ho, .inl (g.2.2.2.1, 1, .inr (.inl v526.2.2.2.2)))] ++ [(hd, .inl (g.2.2.2.2, 1, .inr (.inr (.inr (.inl ard)))))])) (st1 := [.int v544.1]) (n := 45) E hw [.int (xs (x5 + 1).toNatClampNeg), .int (xs (x5 + 2).toNatClampNeg)] [34, 35, 36, 37, 38, 39, 40, 41, 42] (met_X11_shift l g hm thrown ss states stateMany snapshot hasSnapshot text length at_ isWell rd readMany top bottom digit digitMany other otherMany column columnMany carryMany chainMost (xs (x5 + 1).toNatClampNeg) (xs (x5 + 2).toNatClampNeg) v544 hv544) rfl (by decide) rfl rfl [0, 1, 2, 3, 4, 5, 6, 7, 8, 9, 10, 11, 12, 13, 14, 15, 16, 17, 18, 19, 20, 21, 22, 23, 24, 25, 26, 27, 28, 29, 30, 31, 32, 33, 45, 46, 47, 48, 49, 50, 51, 52, 53, 43, 44] rfl (by decide +kernel) rfl rfl rfl rfl qw1152 k_X11_shift ⟨rfl, rfl, Nat.le_of_ble_eq_true rfl, Nat.le_of_ble_eq_true rfl⟩ ⟨by show _ ≤ 601024; omega, by show _ ≤ 7293034; omega⟩ hl.1 (Nat.le_of_ble_eq_true rfl) dL_law_544 rfl (fun H locs hw => ?_)
        refine lv_istore (lv' := [(7, .int v544.1), (6, .int v526.1), (0, .ref b), (1, .ref (h 0)), (2, .ref (hm 0)), (3, .ref ho), (4, .ref hd), (5, .int x5)]) hx hb dL_law_547 hl (by decide) rfl (fun ls hl => ?_)
        refine lv_aload_n hx hb dL_law_549 rfl (lv_at hl 4 rfl) ?_
        obtain ⟨v550, hv550, hf⟩ := ob_e hf
        refine xcallV (ws' := (wC g h v526.2.1 snap has v526.2.2.1 ent v526.2.2.2.1 num col ++ wM g hm v544.2.1 v544.2.2.1 v544.2.2.2.1 v544.2.2.2.2.1 snapshot hasSnapshot text length at_ isWell rd readMany v544.2.2.2.2.2.1 v544.2.2.2.2.2.2 digit digitMany other otherMany column columnMany carryMany chainMost ++ [(ho, .inl (g.2.2.2.1, 1, .inr (.inl v526.2.2.2.2)))] ++ [(hd, .inl (g.2.2.2.2, 1, .inr (.inr (.inr (.inl ard)))))])) (st1 := [.int v550]) (n := 45) E hw [] [34, 35, 36, 37, 38, 39, 40, 41, 42] (met_X11_thrown l g hm v544.2.1 v544.2.2.1 v544.2.2.2.1 v544.2.2.2.2.1 snapshot hasSnapshot text length at_ isWell rd readMany v544.2.2.2.2.2.1 v544.2.2.2.2.2.2 digit digitMany other otherMany column columnMany carryMany chainMost v550 hv550) rfl (by decide) rfl rfl [0, 1, 2, 3, 4, 5, 6, 7, 8, 9, 10, 11, 12, 13, 14, 15, 16, 17, 18, 19, 20, 21, 22, 23, 24, 25, 26, 27, 28, 29, 30, 31, 32, 33, 45, 46, 47, 48, 49, 50, 51, 52, 53, 43, 44] rfl (by decide +kernel) rfl rfl rfl rfl qw1086 k_X11_thrown ⟨rfl, rfl, Nat.le_of_ble_eq_true rfl, Nat.le_of_ble_eq_true rfl⟩ ⟨by show _ ≤ 601024; omega, by show _ ≤ 7293034; omega⟩ hl.1 (Nat.le_of_ble_eq_true rfl) dL_law_550 rfl (fun H locs hw => ?_)
        refine lv_iload hx hb dL_law_553 (lv_at hl 1 rfl) ?_
        refine lv_icmp_eq (tgt := 560) hx hb dL_law_555 (by decide) (fun c555 => ?_) (fun c555 => ?_)
        · replace hf := ip c555 hf
          refine lv_iload hx hb dL_law_560 (lv_at hl 1 rfl) ?_
          refine lv_if_ne (tgt := 577) hx hb dL_law_562 (by decide) (fun c562 => ?_) (fun c562 => ?_)
          · replace hf := iq c562 hf
            exact b577 _ _ _ (ce + 1) (sl + 6) v526.2.1 snap has v526.2.2.1 ent v526.2.2.2.1 num col v544.2.1 v544.2.2.1 v544.2.2.2.1 v544.2.2.2.2.1 snapshot hasSnapshot text length at_ isWell rd readMany v544.2.2.2.2.2.1 v544.2.2.2.2.2.2 digit digitMany other otherMany column columnMany carryMany chainMost v526.2.2.2.2 ard x5 (by omega) hw (lv_sub hl [2, 3, 4, 5, 6, 7] rfl) hf
          · replace hf := ip c562 hf
            refine lv_aload_n hx hb dL_law_565 rfl (lv_at hl 5 rfl) ?_
            refine lv_iconst (v := 0) hx hb dL_law_566 (by decide) ?_
            refine xlald E hw 43 rfl (by decide) dL_law_567 ?_
            refine lv_iload hx hb dL_law_568 (lv_at hl 0 rfl) ?_
            refine lv_i2l hx hb dL_law_570 rfl ?_
            refine xlc_eq (tgt := 577) hx hb dL_law_571 dL_law_572 (by decide) (fun c571 => ?_) (fun c571 => ?_)
            · replace hf := ip c571 hf
              exact b577 _ _ _ (ce + 1) (sl + 6) v526.2.1 snap has v526.2.2.1 ent v526.2.2.2.1 num col v544.2.1 v544.2.2.1 v544.2.2.2.1 v544.2.2.2.2.1 snapshot hasSnapshot text length at_ isWell rd readMany v544.2.2.2.2.2.1 v544.2.2.2.2.2.2 digit digitMany other otherMany column columnMany carryMany chainMost v526.2.2.2.2 ard x5 (by omega) hw (lv_sub hl [2, 3, 4, 5, 6, 7] rfl) hf
            · replace hf := iq c571 hf
              refine lv_iconst (v := 0) hx hb dL_law_575 (by decide) ?_
              exact absurd (Option.some.inj hf) (by decide)
        · replace hf := iq c555 hf
          refine lv_iconst (v := 0) hx hb dL_law_558 (by decide) ?_
          exact absurd (Option.some.inj hf) (by decide)
      replace hf := iq hk hf
      by_cases hk : ((xs x5.toNatClampNeg) &&& 63) = 5
      · replace hf := ip hk hf
        refine lv_tableIn (tgt := 580) (off := 536) hx hb dL_law_44 (by rw [hk]; decide) (by rw [hk]; decide) (by rw [hk]; rfl) (by decide) ?_
        refine lv_aload_n hx hb dL_law_580 rfl (lv_at hl 1 rfl) ?_
        refine lv_aload_n hx hb dL_law_581 rfl (lv_at hl 0 rfl) ?_
        refine lv_iload hx hb dL_law_582 (lv_at hl 5 rfl) ?_
        refine lv_iconst (v := 1) hx hb dL_law_584 (by decide) ?_
        refine lv_iadd hx hb dL_law_585 ?_
        obtain ⟨hz, hf⟩ := nz hf
        refine va_sld hx hb hXs hbl hbA hw.2.2 hz dL_law_586 ?_
        refine lv_aload_n hx hb dL_law_587 rfl (lv_at hl 0 rfl) ?_
        refine lv_iload hx hb dL_law_588 (lv_at hl 5 rfl) ?_
        refine lv_iconst (v := 2) hx hb dL_law_590 (by decide) ?_
        refine lv_iadd hx hb dL_law_591 ?_
        obtain ⟨hz, hf⟩ := nz hf
        refine va_sld hx hb hXs hbl hbA hw.2.2 hz dL_law_592 ?_
        refine lv_aload_n hx hb dL_law_593 rfl (lv_at hl 0 rfl) ?_
        refine lv_iload hx hb dL_law_594 (lv_at hl 5 rfl) ?_
        refine lv_iconst (v := 3) hx hb dL_law_596 (by decide) ?_
        refine lv_iadd hx hb dL_law_597 ?_
        obtain ⟨hz, hf⟩ := nz hf
        refine va_sld hx hb hXs hbl hbA hw.2.2 hz dL_law_598 ?_
        refine lv_aload_n hx hb dL_law_599 rfl (lv_at hl 3 rfl) ?_
        obtain ⟨v600, hv600, hf⟩ := ob_e hf
        refine xcallW (ws' := (wC g h v600.2.1 snap has v600.2.2.1 ent v600.2.2.2.1 num col ++ wM g hm thrown ss states stateMany snapshot hasSnapshot text length at_ isWell rd readMany top bottom digit digitMany other otherMany column columnMany carryMany chainMost ++ [(ho, .inl (g.2.2.2.1, 1, .inr (.inl v600.2.2.2.2)))] ++ [(hd, .inl (g.2.2.2.2, 1, .inr (.inr (.inr (.inl ard)))))])) (st1 := [.int v600.1]) (n := 45) E hX hNc hw [.ref (h 0), .int (xs (x5 + 1).toNatClampNeg), .int (xs (x5 + 2).toNatClampNeg), .int (xs (x5 + 3).toNatClampNeg), .ref ho] [0, 1, 2, 3, 4, 5, 6, 7, 8, 9, 10, 11, 12, 13, 14, 15, 16, 17, 18, 19, 20, 21, 22, 23, 24, 25, 26, 27, 28, 29, 30, 31, 32, 33, 43] (met_L_pay l hlT g h ho now snap has hist ent res num col arr (xs (x5 + 1).toNatClampNeg) (xs (x5 + 2).toNatClampNeg) (xs (x5 + 3).toNatClampNeg) v600 hv600) rfl (by decide) rfl rfl [45, 46, 47, 48, 49, 50, 51, 52, 53, 54, 55, 56, 57, 58, 59, 60, 61, 62, 63, 64, 65, 66, 67, 68, 69, 70, 71, 72, 73, 74, 75, 76, 77, 78, 34, 35, 36, 37, 38, 39, 40, 41, 42, 79, 44] rfl (by decide +kernel) rfl qw775 k_L_pay ⟨rfl, rfl, Nat.le_of_ble_eq_true rfl, Nat.le_of_ble_eq_true rfl⟩ ⟨by show _ ≤ 601024; omega, by show _ ≤ 7293034; omega⟩ hl.1 (Nat.le_of_ble_eq_true rfl) dL_law_600 rfl (fun H locs hw => ?_)
        refine lv_istore (lv' := [(6, .int v600.1), (0, .ref b), (1, .ref (h 0)), (2, .ref (hm 0)), (3, .ref ho), (4, .ref hd), (5, .int x5)]) hx hb dL_law_603 hl (by decide) rfl (fun ls hl => ?_)
        refine lv_aload_n hx hb dL_law_605 rfl (lv_at hl 3 rfl) ?_
        refine lv_aload_n hx hb dL_law_606 rfl (lv_at hl 1 rfl) ?_
        refine lv_iload hx hb dL_law_607 (lv_at hl 6 rfl) ?_
        refine lv_iconst (v := 1) hx hb dL_law_609 (by decide) ?_
        refine lv_iadd hx hb dL_law_610 ?_
        obtain ⟨hz, hf⟩ := nz hf
        refine va_sld hx hb hXs hbl hbA hw.2.2 hz dL_law_611 ?_
        refine lv_aload_n hx hb dL_law_612 rfl (lv_at hl 1 rfl) ?_
        refine lv_iload hx hb dL_law_613 (lv_at hl 6 rfl) ?_
        refine lv_iconst (v := 2) hx hb dL_law_615 (by decide) ?_
        refine lv_iadd hx hb dL_law_616 ?_
        obtain ⟨hz, hf⟩ := nz hf
        refine va_sld hx hb hXs hbl hbA hw.2.2 hz dL_law_617 ?_
        refine lv_aload_n hx hb dL_law_618 rfl (lv_at hl 1 rfl) ?_
        refine lv_iload hx hb dL_law_619 (lv_at hl 6 rfl) ?_
        refine lv_iconst (v := 3) hx hb dL_law_621 (by decide) ?_
        refine lv_iadd hx hb dL_law_622 ?_
        obtain ⟨hz, hf⟩ := nz hf
        refine va_sld hx hb hXs hbl hbA hw.2.2 hz dL_law_623 ?_
        obtain ⟨v624, hv624, hf⟩ := ob_e hf
        refine xcallV (ws' := (wC g h v600.2.1 snap has v600.2.2.1 ent v600.2.2.2.1 num col ++ wM g hm v624.2.1 v624.2.2.1 v624.2.2.2.1 v624.2.2.2.2.1 snapshot hasSnapshot text length at_ isWell rd readMany v624.2.2.2.2.2.1 v624.2.2.2.2.2.2 digit digitMany other otherMany column columnMany carryMany chainMost ++ [(ho, .inl (g.2.2.2.1, 1, .inr (.inl v600.2.2.2.2)))] ++ [(hd, .inl (g.2.2.2.2, 1, .inr (.inr (.inr (.inl ard)))))])) (st1 := [.int v624.1]) (n := 45) E hw [.int (xs (x5 + 1).toNatClampNeg), .int (xs (x5 + 2).toNatClampNeg), .int (xs (x5 + 3).toNatClampNeg)] [34, 35, 36, 37, 38, 39, 40, 41, 42] (met_X11_pay l g hm thrown ss states stateMany snapshot hasSnapshot text length at_ isWell rd readMany top bottom digit digitMany other otherMany column columnMany carryMany chainMost (xs (x5 + 1).toNatClampNeg) (xs (x5 + 2).toNatClampNeg) (xs (x5 + 3).toNatClampNeg) v624 hv624) rfl (by decide) rfl rfl [0, 1, 2, 3, 4, 5, 6, 7, 8, 9, 10, 11, 12, 13, 14, 15, 16, 17, 18, 19, 20, 21, 22, 23, 24, 25, 26, 27, 28, 29, 30, 31, 32, 33, 45, 46, 47, 48, 49, 50, 51, 52, 53, 43, 44] rfl (by decide +kernel) rfl rfl rfl rfl qw1164 k_X11_pay ⟨rfl, rfl, Nat.le_of_ble_eq_true rfl, Nat.le_of_ble_eq_true rfl⟩ ⟨by show _ ≤ 601024; omega, by show _ ≤ 7293034; omega⟩ hl.1 (Nat.le_of_ble_eq_true rfl) dL_law_624 rfl (fun H locs hw => ?_)
        refine lv_istore (lv' := [(7, .int v624.1), (6, .int v600.1), (0, .ref b), (1, .ref (h 0)), (2, .ref (hm 0)), (3, .ref ho), (4, .ref hd), (5, .int x5)]) hx hb dL_law_627 hl (by decide) rfl (fun ls hl => ?_)
        refine lv_aload_n hx hb dL_law_629 rfl (lv_at hl 4 rfl) ?_
        obtain ⟨v630, hv630, hf⟩ := ob_e hf
        refine xcallV (ws' := (wC g h v600.2.1 snap has v600.2.2.1 ent v600.2.2.2.1 num col ++ wM g hm v624.2.1 v624.2.2.1 v624.2.2.2.1 v624.2.2.2.2.1 snapshot hasSnapshot text length at_ isWell rd readMany v624.2.2.2.2.2.1 v624.2.2.2.2.2.2 digit digitMany other otherMany column columnMany carryMany chainMost ++ [(ho, .inl (g.2.2.2.1, 1, .inr (.inl v600.2.2.2.2)))] ++ [(hd, .inl (g.2.2.2.2, 1, .inr (.inr (.inr (.inl ard)))))])) (st1 := [.int v630]) (n := 45) E hw [] [34, 35, 36, 37, 38, 39, 40, 41, 42] (met_X11_thrown l g hm v624.2.1 v624.2.2.1 v624.2.2.2.1 v624.2.2.2.2.1 snapshot hasSnapshot text length at_ isWell rd readMany v624.2.2.2.2.2.1 v624.2.2.2.2.2.2 digit digitMany other otherMany column columnMany carryMany chainMost v630 hv630) rfl (by decide) rfl rfl [0, 1, 2, 3, 4, 5, 6, 7, 8, 9, 10, 11, 12, 13, 14, 15, 16, 17, 18, 19, 20, 21, 22, 23, 24, 25, 26, 27, 28, 29, 30, 31, 32, 33, 45, 46, 47, 48, 49, 50, 51, 52, 53, 43, 44] rfl (by decide +kernel) rfl rfl rfl rfl qw1086 k_X11_thrown ⟨rfl, rfl, Nat.le_of_ble_eq_true rfl, Nat.le_of_ble_eq_true rfl⟩ ⟨by show _ ≤ 601024; omega, by show _ ≤ 7293034; omega⟩ hl.1 (Nat.le_of_ble_eq_true rfl) dL_law_630 rfl (fun H locs hw => ?_)
        refine lv_iload hx hb dL_law_633 (lv_at hl 1 rfl) ?_
        refine lv_icmp_eq (tgt := 640) hx hb dL_law_635 (by decide) (fun c635 => ?_) (fun c635 => ?_)
        · replace hf := ip c635 hf
          refine lv_iload hx hb dL_law_640 (lv_at hl 1 rfl) ?_
          refine lv_if_ne (tgt := 657) hx hb dL_law_642 (by decide) (fun c642 => ?_) (fun c642 => ?_)
          · replace hf := iq c642 hf
            exact b657 _ _ _ (ce + 1) (sl + 6) v600.2.1 snap has v600.2.2.1 ent v600.2.2.2.1 num col v624.2.1 v624.2.2.1 v624.2.2.2.1 v624.2.2.2.2.1 snapshot hasSnapshot text length at_ isWell rd readMany v624.2.2.2.2.2.1 v624.2.2.2.2.2.2 digit digitMany other otherMany column columnMany carryMany chainMost v600.2.2.2.2 ard x5 (by omega) hw (lv_sub hl [2, 3, 4, 5, 6, 7] rfl) hf
          · replace hf := ip c642 hf
            refine lv_aload_n hx hb dL_law_645 rfl (lv_at hl 5 rfl) ?_
            refine lv_iconst (v := 0) hx hb dL_law_646 (by decide) ?_
            refine xlald E hw 43 rfl (by decide) dL_law_647 ?_
            refine lv_iload hx hb dL_law_648 (lv_at hl 0 rfl) ?_
            refine lv_i2l hx hb dL_law_650 rfl ?_
            refine xlc_eq (tgt := 657) hx hb dL_law_651 dL_law_652 (by decide) (fun c651 => ?_) (fun c651 => ?_)
            · replace hf := ip c651 hf
              exact b657 _ _ _ (ce + 1) (sl + 6) v600.2.1 snap has v600.2.2.1 ent v600.2.2.2.1 num col v624.2.1 v624.2.2.1 v624.2.2.2.1 v624.2.2.2.2.1 snapshot hasSnapshot text length at_ isWell rd readMany v624.2.2.2.2.2.1 v624.2.2.2.2.2.2 digit digitMany other otherMany column columnMany carryMany chainMost v600.2.2.2.2 ard x5 (by omega) hw (lv_sub hl [2, 3, 4, 5, 6, 7] rfl) hf
            · replace hf := iq c651 hf
              refine lv_iconst (v := 0) hx hb dL_law_655 (by decide) ?_
              exact absurd (Option.some.inj hf) (by decide)
        · replace hf := iq c635 hf
          refine lv_iconst (v := 0) hx hb dL_law_638 (by decide) ?_
          exact absurd (Option.some.inj hf) (by decide)
      replace hf := iq hk hf
      by_cases hk : ((xs x5.toNatClampNeg) &&& 63) = 6
      · replace hf := ip hk hf
        refine lv_tableIn (tgt := 660) (off := 616) hx hb dL_law_44 (by rw [hk]; decide) (by rw [hk]; decide) (by rw [hk]; rfl) (by decide) ?_
        refine lv_aload_n hx hb dL_law_660 rfl (lv_at hl 1 rfl) ?_
        refine lv_aload_n hx hb dL_law_661 rfl (lv_at hl 0 rfl) ?_
        refine lv_iload hx hb dL_law_662 (lv_at hl 5 rfl) ?_
        refine lv_iconst (v := 1) hx hb dL_law_664 (by decide) ?_
        refine lv_iadd hx hb dL_law_665 ?_
        obtain ⟨hz, hf⟩ := nz hf
        refine va_sld hx hb hXs hbl hbA hw.2.2 hz dL_law_666 ?_
        refine lv_aload_n hx hb dL_law_667 rfl (lv_at hl 3 rfl) ?_
        obtain ⟨v668, hv668, hf⟩ := ob_e hf
        refine xcallW (ws' := (wC g h now snap has hist v668.2.1 res num col ++ wM g hm thrown ss states stateMany snapshot hasSnapshot text length at_ isWell rd readMany top bottom digit digitMany other otherMany column columnMany carryMany chainMost ++ [(ho, .inl (g.2.2.2.1, 1, .inr (.inl v668.2.2)))] ++ [(hd, .inl (g.2.2.2.2, 1, .inr (.inr (.inr (.inl ard)))))])) (st1 := [.int v668.1]) (n := 45) E hX hNc hw [.ref (h 0), .int (xs (x5 + 1).toNatClampNeg), .ref ho] [0, 1, 2, 3, 4, 5, 6, 7, 8, 9, 10, 11, 12, 13, 14, 15, 16, 17, 18, 19, 20, 21, 22, 23, 24, 25, 26, 27, 28, 29, 30, 31, 32, 33, 43] (met_L_append l hlT g h ho now snap has hist ent res num col arr (xs (x5 + 1).toNatClampNeg) v668 hv668) rfl (by decide) rfl rfl [45, 46, 47, 48, 49, 50, 51, 52, 53, 54, 55, 56, 57, 58, 59, 60, 61, 62, 63, 64, 65, 66, 67, 68, 69, 70, 71, 72, 73, 74, 75, 76, 77, 78, 34, 35, 36, 37, 38, 39, 40, 41, 42, 79, 44] rfl (by decide +kernel) rfl qw789 k_L_append ⟨rfl, rfl, Nat.le_of_ble_eq_true rfl, Nat.le_of_ble_eq_true rfl⟩ ⟨by show _ ≤ 601024; omega, by show _ ≤ 7293034; omega⟩ hl.1 (Nat.le_of_ble_eq_true rfl) dL_law_668 rfl (fun H locs hw => ?_)
        refine lv_istore (lv' := [(6, .int v668.1), (0, .ref b), (1, .ref (h 0)), (2, .ref (hm 0)), (3, .ref ho), (4, .ref hd), (5, .int x5)]) hx hb dL_law_671 hl (by decide) rfl (fun ls hl => ?_)
        refine lv_aload_n hx hb dL_law_673 rfl (lv_at hl 3 rfl) ?_
        refine lv_aload_n hx hb dL_law_674 rfl (lv_at hl 1 rfl) ?_
        refine lv_iload hx hb dL_law_675 (lv_at hl 6 rfl) ?_
        refine lv_iconst (v := 1) hx hb dL_law_677 (by decide) ?_
        refine lv_iadd hx hb dL_law_678 ?_
        obtain ⟨hz, hf⟩ := nz hf
        refine va_sld hx hb hXs hbl hbA hw.2.2 hz dL_law_679 ?_
        obtain ⟨v680, hv680, hf⟩ := ob_e hf
        refine xcallV (ws' := (wC g h now snap has hist v668.2.1 res num col ++ wM g hm v680.2.1 ss states stateMany snapshot hasSnapshot v680.2.2.1 v680.2.2.2 at_ isWell rd readMany top bottom digit digitMany other otherMany column columnMany carryMany chainMost ++ [(ho, .inl (g.2.2.2.1, 1, .inr (.inl v668.2.2)))] ++ [(hd, .inl (g.2.2.2.2, 1, .inr (.inr (.inr (.inl ard)))))])) (st1 := [.int v680.1]) (n := 45) E hw [.int (xs (x5 + 1).toNatClampNeg)] [34, 35, 36, 37, 38, 39, 40, 41, 42] (met_X11_append l g hm thrown ss states stateMany snapshot hasSnapshot text length at_ isWell rd readMany top bottom digit digitMany other otherMany column columnMany carryMany chainMost (xs (x5 + 1).toNatClampNeg) v680 hv680) rfl (by decide) rfl rfl [0, 1, 2, 3, 4, 5, 6, 7, 8, 9, 10, 11, 12, 13, 14, 15, 16, 17, 18, 19, 20, 21, 22, 23, 24, 25, 26, 27, 28, 29, 30, 31, 32, 33, 45, 46, 47, 48, 49, 50, 51, 52, 53, 43, 44] rfl (by decide +kernel) rfl rfl rfl rfl qw1177 k_X11_append ⟨rfl, rfl, Nat.le_of_ble_eq_true rfl, Nat.le_of_ble_eq_true rfl⟩ ⟨by show _ ≤ 601024; omega, by show _ ≤ 7293034; omega⟩ hl.1 (Nat.le_of_ble_eq_true rfl) dL_law_680 rfl (fun H locs hw => ?_)
        refine lv_istore (lv' := [(7, .int v680.1), (6, .int v668.1), (0, .ref b), (1, .ref (h 0)), (2, .ref (hm 0)), (3, .ref ho), (4, .ref hd), (5, .int x5)]) hx hb dL_law_683 hl (by decide) rfl (fun ls hl => ?_)
        refine lv_aload_n hx hb dL_law_685 rfl (lv_at hl 4 rfl) ?_
        obtain ⟨v686, hv686, hf⟩ := ob_e hf
        refine xcallV (ws' := (wC g h now snap has hist v668.2.1 res num col ++ wM g hm v680.2.1 ss states stateMany snapshot hasSnapshot v680.2.2.1 v680.2.2.2 at_ isWell rd readMany top bottom digit digitMany other otherMany column columnMany carryMany chainMost ++ [(ho, .inl (g.2.2.2.1, 1, .inr (.inl v668.2.2)))] ++ [(hd, .inl (g.2.2.2.2, 1, .inr (.inr (.inr (.inl ard)))))])) (st1 := [.int v686]) (n := 45) E hw [] [34, 35, 36, 37, 38, 39, 40, 41, 42] (met_X11_thrown l g hm v680.2.1 ss states stateMany snapshot hasSnapshot v680.2.2.1 v680.2.2.2 at_ isWell rd readMany top bottom digit digitMany other otherMany column columnMany carryMany chainMost v686 hv686) rfl (by decide) rfl rfl [0, 1, 2, 3, 4, 5, 6, 7, 8, 9, 10, 11, 12, 13, 14, 15, 16, 17, 18, 19, 20, 21, 22, 23, 24, 25, 26, 27, 28, 29, 30, 31, 32, 33, 45, 46, 47, 48, 49, 50, 51, 52, 53, 43, 44] rfl (by decide +kernel) rfl rfl rfl rfl qw1086 k_X11_thrown ⟨rfl, rfl, Nat.le_of_ble_eq_true rfl, Nat.le_of_ble_eq_true rfl⟩ ⟨by show _ ≤ 601024; omega, by show _ ≤ 7293034; omega⟩ hl.1 (Nat.le_of_ble_eq_true rfl) dL_law_686 rfl (fun H locs hw => ?_)
        refine lv_iload hx hb dL_law_689 (lv_at hl 1 rfl) ?_
        refine lv_icmp_eq (tgt := 696) hx hb dL_law_691 (by decide) (fun c691 => ?_) (fun c691 => ?_)
        · replace hf := ip c691 hf
          refine lv_iload hx hb dL_law_696 (lv_at hl 1 rfl) ?_
          refine lv_if_ne (tgt := 713) hx hb dL_law_698 (by decide) (fun c698 => ?_) (fun c698 => ?_)
          · replace hf := iq c698 hf
            exact b713 _ _ _ (ce + 1) (sl + 6) now snap has hist v668.2.1 res num col v680.2.1 ss states stateMany snapshot hasSnapshot v680.2.2.1 v680.2.2.2 at_ isWell rd readMany top bottom digit digitMany other otherMany column columnMany carryMany chainMost v668.2.2 ard x5 (by omega) hw (lv_sub hl [2, 3, 4, 5, 6, 7] rfl) hf
          · replace hf := ip c698 hf
            refine lv_aload_n hx hb dL_law_701 rfl (lv_at hl 5 rfl) ?_
            refine lv_iconst (v := 0) hx hb dL_law_702 (by decide) ?_
            refine xlald E hw 43 rfl (by decide) dL_law_703 ?_
            refine lv_iload hx hb dL_law_704 (lv_at hl 0 rfl) ?_
            refine lv_i2l hx hb dL_law_706 rfl ?_
            refine xlc_eq (tgt := 713) hx hb dL_law_707 dL_law_708 (by decide) (fun c707 => ?_) (fun c707 => ?_)
            · replace hf := ip c707 hf
              exact b713 _ _ _ (ce + 1) (sl + 6) now snap has hist v668.2.1 res num col v680.2.1 ss states stateMany snapshot hasSnapshot v680.2.2.1 v680.2.2.2 at_ isWell rd readMany top bottom digit digitMany other otherMany column columnMany carryMany chainMost v668.2.2 ard x5 (by omega) hw (lv_sub hl [2, 3, 4, 5, 6, 7] rfl) hf
            · replace hf := iq c707 hf
              refine lv_iconst (v := 0) hx hb dL_law_711 (by decide) ?_
              exact absurd (Option.some.inj hf) (by decide)
        · replace hf := iq c691 hf
          refine lv_iconst (v := 0) hx hb dL_law_694 (by decide) ?_
          exact absurd (Option.some.inj hf) (by decide)
      replace hf := iq hk hf
      by_cases hk : ((xs x5.toNatClampNeg) &&& 63) = 7
      · replace hf := ip hk hf
        refine lv_tableIn (tgt := 716) (off := 672) hx hb dL_law_44 (by rw [hk]; decide) (by rw [hk]; decide) (by rw [hk]; rfl) (by decide) ?_
        refine lv_aload_n hx hb dL_law_716 rfl (lv_at hl 1 rfl) ?_
        obtain ⟨v717, hv717, hf⟩ := ob_e hf
        refine xcallV (ws' := (wC g h now snap has hist v717.2 res num col ++ wM g hm thrown ss states stateMany snapshot hasSnapshot text length at_ isWell rd readMany top bottom digit digitMany other otherMany column columnMany carryMany chainMost ++ [(ho, .inl (g.2.2.2.1, 1, .inr (.inl arr)))] ++ [(hd, .inl (g.2.2.2.2, 1, .inr (.inr (.inr (.inl ard)))))])) (st1 := [.int v717.1]) (n := 45) E hw [] [0, 1, 2, 3, 4, 5, 6, 7, 8, 9, 10, 11, 12, 13, 14, 15, 16, 17, 18, 19, 20, 21, 22, 23, 24, 25, 26, 27, 28, 29, 30, 31, 32, 33] (met_X10_clearBuffer l g h now snap has hist ent res num col v717 hv717) rfl (by decide) rfl rfl [45, 46, 47, 48, 49, 50, 51, 52, 53, 54, 55, 56, 57, 58, 59, 60, 61, 62, 63, 64, 65, 66, 67, 68, 69, 70, 71, 72, 73, 74, 75, 76, 77, 78, 34, 35, 36, 37, 38, 39, 40, 41, 42, 43, 44] rfl (by decide +kernel) rfl rfl rfl rfl qw271 k_X10_clearBuffer ⟨rfl, rfl, Nat.le_of_ble_eq_true rfl, Nat.le_of_ble_eq_true rfl⟩ ⟨by show _ ≤ 601024; omega, by show _ ≤ 7293034; omega⟩ hl.1 (Nat.le_of_ble_eq_true rfl) dL_law_717 rfl (fun H locs hw => ?_)
        refine lv_aload_n hx hb dL_law_720 rfl (lv_at hl 2 rfl) ?_
        obtain ⟨v721, hv721, hf⟩ := ob_e hf
        refine xcallV (ws' := (wC g h now snap has hist v717.2 res num col ++ wM g hm v721.2.1 ss states stateMany snapshot hasSnapshot text v721.2.2 at_ isWell rd readMany top bottom digit digitMany other otherMany column columnMany carryMany chainMost ++ [(ho, .inl (g.2.2.2.1, 1, .inr (.inl arr)))] ++ [(hd, .inl (g.2.2.2.2, 1, .inr (.inr (.inr (.inl ard)))))])) (st1 := [.int v721.1, .int v717.1]) (n := 45) E hw [] [34, 35, 36, 37, 38, 39, 40, 41, 42] (met_X11_clearBuffer l g hm thrown ss states stateMany snapshot hasSnapshot text length at_ isWell rd readMany top bottom digit digitMany other otherMany column columnMany carryMany chainMost v721 hv721) rfl (by decide) rfl rfl [0, 1, 2, 3, 4, 5, 6, 7, 8, 9, 10, 11, 12, 13, 14, 15, 16, 17, 18, 19, 20, 21, 22, 23, 24, 25, 26, 27, 28, 29, 30, 31, 32, 33, 45, 46, 47, 48, 49, 50, 51, 52, 53, 43, 44] rfl (by decide +kernel) rfl rfl rfl rfl qw1181 k_X11_clearBuffer ⟨rfl, rfl, Nat.le_of_ble_eq_true rfl, Nat.le_of_ble_eq_true rfl⟩ ⟨by show _ ≤ 601024; omega, by show _ ≤ 7293034; omega⟩ hl.1 (Nat.le_of_ble_eq_true rfl) dL_law_721 rfl (fun H locs hw => ?_)
        refine lv_icmp_eq (tgt := 2616) hx hb dL_law_724 (by decide) (fun c724 => ?_) (fun c724 => ?_)
        · replace hf := ip c724 hf
          exact b2616 _ _ _ (ce + 0) (sl + 0) now snap has hist v717.2 res num col v721.2.1 ss states stateMany snapshot hasSnapshot text v721.2.2 at_ isWell rd readMany top bottom digit digitMany other otherMany column columnMany carryMany chainMost arr ard x5 (by omega) hw (lv_sub hl [0, 1, 2, 3, 4, 5] rfl) hf
        · replace hf := iq c724 hf
          refine lv_iconst (v := 0) hx hb dL_law_727 (by decide) ?_
          exact absurd (Option.some.inj hf) (by decide)
      replace hf := iq hk hf
      by_cases hk : ((xs x5.toNatClampNeg) &&& 63) = 8
      · replace hf := ip hk hf
        refine lv_tableIn (tgt := 729) (off := 685) hx hb dL_law_44 (by rw [hk]; decide) (by rw [hk]; decide) (by rw [hk]; rfl) (by decide) ?_
        refine lv_aload_n hx hb dL_law_729 rfl (lv_at hl 1 rfl) ?_
        obtain ⟨v730, hv730, hf⟩ := ob_e hf
        refine xcallV (ws' := (wC g h now snap has hist v730.2 res num col ++ wM g hm thrown ss states stateMany snapshot hasSnapshot text length at_ isWell rd readMany top bottom digit digitMany other otherMany column columnMany carryMany chainMost ++ [(ho, .inl (g.2.2.2.1, 1, .inr (.inl arr)))] ++ [(hd, .inl (g.2.2.2.2, 1, .inr (.inr (.inr (.inl ard)))))])) (st1 := [.int v730.1]) (n := 45) E hw [] [0, 1, 2, 3, 4, 5, 6, 7, 8, 9, 10, 11, 12, 13, 14, 15, 16, 17, 18, 19, 20, 21, 22, 23, 24, 25, 26, 27, 28, 29, 30, 31, 32, 33] (met_X10_firstError l g h now snap has hist ent res num col v730 hv730) rfl (by decide) rfl rfl [45, 46, 47, 48, 49, 50, 51, 52, 53, 54, 55, 56, 57, 58, 59, 60, 61, 62, 63, 64, 65, 66, 67, 68, 69, 70, 71, 72, 73, 74, 75, 76, 77, 78, 34, 35, 36, 37, 38, 39, 40, 41, 42, 43, 44] rfl (by decide +kernel) rfl rfl rfl rfl qw275 k_X10_firstError ⟨rfl, rfl, Nat.le_of_ble_eq_true rfl, Nat.le_of_ble_eq_true rfl⟩ ⟨by show _ ≤ 601024; omega, by show _ ≤ 7293034; omega⟩ hl.1 (Nat.le_of_ble_eq_true rfl) dL_law_730 rfl (fun H locs hw => ?_)
        refine lv_aload_n hx hb dL_law_733 rfl (lv_at hl 2 rfl) ?_
        obtain ⟨v734, hv734, hf⟩ := ob_e hf
        refine xcallV (ws' := (wC g h now snap has hist v730.2 res num col ++ wM g hm v734.2.1 ss states stateMany snapshot hasSnapshot text length v734.2.2.1 v734.2.2.2.1 v734.2.2.2.2.1 v734.2.2.2.2.2 top bottom digit digitMany other otherMany column columnMany carryMany chainMost ++ [(ho, .inl (g.2.2.2.1, 1, .inr (.inl arr)))] ++ [(hd, .inl (g.2.2.2.2, 1, .inr (.inr (.inr (.inl ard)))))])) (st1 := [.int v734.1, .int v730.1]) (n := 45) E hw [] [34, 35, 36, 37, 38, 39, 40, 41, 42] (met_X11_firstError l g hm thrown ss states stateMany snapshot hasSnapshot text length at_ isWell rd readMany top bottom digit digitMany other otherMany column columnMany carryMany chainMost v734 hv734) rfl (by decide) rfl rfl [0, 1, 2, 3, 4, 5, 6, 7, 8, 9, 10, 11, 12, 13, 14, 15, 16, 17, 18, 19, 20, 21, 22, 23, 24, 25, 26, 27, 28, 29, 30, 31, 32, 33, 45, 46, 47, 48, 49, 50, 51, 52, 53, 43, 44] rfl (by decide +kernel) rfl rfl rfl rfl qw1185 k_X11_firstError ⟨rfl, rfl, Nat.le_of_ble_eq_true rfl, Nat.le_of_ble_eq_true rfl⟩ ⟨by show _ ≤ 601024; omega, by show _ ≤ 7293034; omega⟩ hl.1 (Nat.le_of_ble_eq_true rfl) dL_law_734 rfl (fun H locs hw => ?_)
        refine lv_icmp_eq (tgt := 2616) hx hb dL_law_737 (by decide) (fun c737 => ?_) (fun c737 => ?_)
        · replace hf := ip c737 hf
          exact b2616 _ _ _ (ce + 0) (sl + 0) now snap has hist v730.2 res num col v734.2.1 ss states stateMany snapshot hasSnapshot text length v734.2.2.1 v734.2.2.2.1 v734.2.2.2.2.1 v734.2.2.2.2.2 top bottom digit digitMany other otherMany column columnMany carryMany chainMost arr ard x5 (by omega) hw (lv_sub hl [0, 1, 2, 3, 4, 5] rfl) hf
        · replace hf := iq c737 hf
          refine lv_iconst (v := 0) hx hb dL_law_740 (by decide) ?_
          exact absurd (Option.some.inj hf) (by decide)
      replace hf := iq hk hf
      by_cases hk : ((xs x5.toNatClampNeg) &&& 63) = 9
      · replace hf := ip hk hf
        refine lv_tableIn (tgt := 742) (off := 698) hx hb dL_law_44 (by rw [hk]; decide) (by rw [hk]; decide) (by rw [hk]; rfl) (by decide) ?_
        refine lv_aload_n hx hb dL_law_742 rfl (lv_at hl 1 rfl) ?_
        refine lv_aload_n hx hb dL_law_743 rfl (lv_at hl 3 rfl) ?_
        obtain ⟨v744, hv744, hf⟩ := ob_e hf
        refine xcallW (ws' := (wC g h v744.2.1 snap has v744.2.2.1 v744.2.2.2.1 v744.2.2.2.2.1 v744.2.2.2.2.2.1 col ++ wM g hm thrown ss states stateMany snapshot hasSnapshot text length at_ isWell rd readMany top bottom digit digitMany other otherMany column columnMany carryMany chainMost ++ [(ho, .inl (g.2.2.2.1, 1, .inr (.inl v744.2.2.2.2.2.2)))] ++ [(hd, .inl (g.2.2.2.2, 1, .inr (.inr (.inr (.inl ard)))))])) (st1 := [.int v744.1]) (n := 45) E hX hNc hw [.ref (h 0), .ref ho] [0, 1, 2, 3, 4, 5, 6, 7, 8, 9, 10, 11, 12, 13, 14, 15, 16, 17, 18, 19, 20, 21, 22, 23, 24, 25, 26, 27, 28, 29, 30, 31, 32, 33, 43] (met_L_enter l hlT g h ho now snap has hist ent res num col arr v744 hv744) rfl (by decide) rfl rfl [45, 46, 47, 48, 49, 50, 51, 52, 53, 54, 55, 56, 57, 58, 59, 60, 61, 62, 63, 64, 65, 66, 67, 68, 69, 70, 71, 72, 73, 74, 75, 76, 77, 78, 34, 35, 36, 37, 38, 39, 40, 41, 42, 79, 44] rfl (by decide +kernel) rfl qw802 k_L_enter ⟨rfl, rfl, Nat.le_of_ble_eq_true rfl, Nat.le_of_ble_eq_true rfl⟩ ⟨by show _ ≤ 601024; omega, by show _ ≤ 7293034; omega⟩ hl.1 (Nat.le_of_ble_eq_true rfl) dL_law_744 rfl (fun H locs hw => ?_)
        refine lv_istore (lv' := [(6, .int v744.1), (0, .ref b), (1, .ref (h 0)), (2, .ref (hm 0)), (3, .ref ho), (4, .ref hd), (5, .int x5)]) hx hb dL_law_747 hl (by decide) rfl (fun ls hl => ?_)
        refine lv_aload_n hx hb dL_law_749 rfl (lv_at hl 3 rfl) ?_
        obtain ⟨v750, hv750, hf⟩ := ob_e hf
        refine xcallV (ws' := (wC g h v744.2.1 snap has v744.2.2.1 v744.2.2.2.1 v744.2.2.2.2.1 v744.2.2.2.2.2.1 col ++ wM g hm v750.2.1 v750.2.2.1 v750.2.2.2.1 v750.2.2.2.2.1 snapshot hasSnapshot text v750.2.2.2.2.2.1 v750.2.2.2.2.2.2.1 v750.2.2.2.2.2.2.2.1 v750.2.2.2.2.2.2.2.2.1 v750.2.2.2.2.2.2.2.2.2.1 v750.2.2.2.2.2.2.2.2.2.2.1 v750.2.2.2.2.2.2.2.2.2.2.2 digit digitMany other otherMany column columnMany carryMany chainMost ++ [(ho, .inl (g.2.2.2.1, 1, .inr (.inl v744.2.2.2.2.2.2)))] ++ [(hd, .inl (g.2.2.2.2, 1, .inr (.inr (.inr (.inl ard)))))])) (st1 := [.int v750.1]) (n := 45) E hw [] [34, 35, 36, 37, 38, 39, 40, 41, 42] (met_X11_enter l g hm thrown ss states stateMany snapshot hasSnapshot text length at_ isWell rd readMany top bottom digit digitMany other otherMany column columnMany carryMany chainMost v750 hv750) rfl (by decide) rfl rfl [0, 1, 2, 3, 4, 5, 6, 7, 8, 9, 10, 11, 12, 13, 14, 15, 16, 17, 18, 19, 20, 21, 22, 23, 24, 25, 26, 27, 28, 29, 30, 31, 32, 33, 45, 46, 47, 48, 49, 50, 51, 52, 53, 43, 44] rfl (by decide +kernel) rfl rfl rfl rfl qw1221 k_X11_enter ⟨rfl, rfl, Nat.le_of_ble_eq_true rfl, Nat.le_of_ble_eq_true rfl⟩ ⟨by show _ ≤ 601024; omega, by show _ ≤ 7293034; omega⟩ hl.1 (Nat.le_of_ble_eq_true rfl) dL_law_750 rfl (fun H locs hw => ?_)
        refine lv_istore (lv' := [(7, .int v750.1), (6, .int v744.1), (0, .ref b), (1, .ref (h 0)), (2, .ref (hm 0)), (3, .ref ho), (4, .ref hd), (5, .int x5)]) hx hb dL_law_753 hl (by decide) rfl (fun ls hl => ?_)
        refine lv_aload_n hx hb dL_law_755 rfl (lv_at hl 4 rfl) ?_
        obtain ⟨v756, hv756, hf⟩ := ob_e hf
        refine xcallV (ws' := (wC g h v744.2.1 snap has v744.2.2.1 v744.2.2.2.1 v744.2.2.2.2.1 v744.2.2.2.2.2.1 col ++ wM g hm v750.2.1 v750.2.2.1 v750.2.2.2.1 v750.2.2.2.2.1 snapshot hasSnapshot text v750.2.2.2.2.2.1 v750.2.2.2.2.2.2.1 v750.2.2.2.2.2.2.2.1 v750.2.2.2.2.2.2.2.2.1 v750.2.2.2.2.2.2.2.2.2.1 v750.2.2.2.2.2.2.2.2.2.2.1 v750.2.2.2.2.2.2.2.2.2.2.2 digit digitMany other otherMany column columnMany carryMany chainMost ++ [(ho, .inl (g.2.2.2.1, 1, .inr (.inl v744.2.2.2.2.2.2)))] ++ [(hd, .inl (g.2.2.2.2, 1, .inr (.inr (.inr (.inl ard)))))])) (st1 := [.int v756]) (n := 45) E hw [] [34, 35, 36, 37, 38, 39, 40, 41, 42] (met_X11_thrown l g hm v750.2.1 v750.2.2.1 v750.2.2.2.1 v750.2.2.2.2.1 snapshot hasSnapshot text v750.2.2.2.2.2.1 v750.2.2.2.2.2.2.1 v750.2.2.2.2.2.2.2.1 v750.2.2.2.2.2.2.2.2.1 v750.2.2.2.2.2.2.2.2.2.1 v750.2.2.2.2.2.2.2.2.2.2.1 v750.2.2.2.2.2.2.2.2.2.2.2 digit digitMany other otherMany column columnMany carryMany chainMost v756 hv756) rfl (by decide) rfl rfl [0, 1, 2, 3, 4, 5, 6, 7, 8, 9, 10, 11, 12, 13, 14, 15, 16, 17, 18, 19, 20, 21, 22, 23, 24, 25, 26, 27, 28, 29, 30, 31, 32, 33, 45, 46, 47, 48, 49, 50, 51, 52, 53, 43, 44] rfl (by decide +kernel) rfl rfl rfl rfl qw1086 k_X11_thrown ⟨rfl, rfl, Nat.le_of_ble_eq_true rfl, Nat.le_of_ble_eq_true rfl⟩ ⟨by show _ ≤ 601024; omega, by show _ ≤ 7293034; omega⟩ hl.1 (Nat.le_of_ble_eq_true rfl) dL_law_756 rfl (fun H locs hw => ?_)
        refine lv_iload hx hb dL_law_759 (lv_at hl 1 rfl) ?_
        refine lv_icmp_eq (tgt := 766) hx hb dL_law_761 (by decide) (fun c761 => ?_) (fun c761 => ?_)
        · replace hf := ip c761 hf
          refine lv_iload hx hb dL_law_766 (lv_at hl 1 rfl) ?_
          refine lv_if_ne (tgt := 783) hx hb dL_law_768 (by decide) (fun c768 => ?_) (fun c768 => ?_)
          · replace hf := iq c768 hf
            exact b783 _ _ _ (ce + 1) (sl + 6) v744.2.1 snap has v744.2.2.1 v744.2.2.2.1 v744.2.2.2.2.1 v744.2.2.2.2.2.1 col v750.2.1 v750.2.2.1 v750.2.2.2.1 v750.2.2.2.2.1 snapshot hasSnapshot text v750.2.2.2.2.2.1 v750.2.2.2.2.2.2.1 v750.2.2.2.2.2.2.2.1 v750.2.2.2.2.2.2.2.2.1 v750.2.2.2.2.2.2.2.2.2.1 v750.2.2.2.2.2.2.2.2.2.2.1 v750.2.2.2.2.2.2.2.2.2.2.2 digit digitMany other otherMany column columnMany carryMany chainMost v744.2.2.2.2.2.2 ard x5 (by omega) hw (lv_sub hl [2, 3, 4, 5, 6, 7] rfl) hf
          · replace hf := ip c768 hf
            refine lv_aload_n hx hb dL_law_771 rfl (lv_at hl 5 rfl) ?_
            refine lv_iconst (v := 0) hx hb dL_law_772 (by decide) ?_
            refine xlald E hw 43 rfl (by decide) dL_law_773 ?_
            refine lv_iload hx hb dL_law_774 (lv_at hl 0 rfl) ?_
            refine lv_i2l hx hb dL_law_776 rfl ?_
            refine xlc_eq (tgt := 783) hx hb dL_law_777 dL_law_778 (by decide) (fun c777 => ?_) (fun c777 => ?_)
            · replace hf := ip c777 hf
              exact b783 _ _ _ (ce + 1) (sl + 6) v744.2.1 snap has v744.2.2.1 v744.2.2.2.1 v744.2.2.2.2.1 v744.2.2.2.2.2.1 col v750.2.1 v750.2.2.1 v750.2.2.2.1 v750.2.2.2.2.1 snapshot hasSnapshot text v750.2.2.2.2.2.1 v750.2.2.2.2.2.2.1 v750.2.2.2.2.2.2.2.1 v750.2.2.2.2.2.2.2.2.1 v750.2.2.2.2.2.2.2.2.2.1 v750.2.2.2.2.2.2.2.2.2.2.1 v750.2.2.2.2.2.2.2.2.2.2.2 digit digitMany other otherMany column columnMany carryMany chainMost v744.2.2.2.2.2.2 ard x5 (by omega) hw (lv_sub hl [2, 3, 4, 5, 6, 7] rfl) hf
            · replace hf := iq c777 hf
              refine lv_iconst (v := 0) hx hb dL_law_781 (by decide) ?_
              exact absurd (Option.some.inj hf) (by decide)
        · replace hf := iq c761 hf
          refine lv_iconst (v := 0) hx hb dL_law_764 (by decide) ?_
          exact absurd (Option.some.inj hf) (by decide)
      replace hf := iq hk hf
      by_cases hk : ((xs x5.toNatClampNeg) &&& 63) = 10
      · replace hf := ip hk hf
        refine lv_tableIn (tgt := 786) (off := 742) hx hb dL_law_44 (by rw [hk]; decide) (by rw [hk]; decide) (by rw [hk]; rfl) (by decide) ?_
        refine lv_aload_n hx hb dL_law_786 rfl (lv_at hl 1 rfl) ?_
        obtain ⟨v787, hv787, hf⟩ := ob_e hf
        refine xcallV (ws' := (wC g h now snap has hist ent res num col ++ wM g hm thrown ss states stateMany snapshot hasSnapshot text length at_ isWell rd readMany top bottom digit digitMany other otherMany column columnMany carryMany chainMost ++ [(ho, .inl (g.2.2.2.1, 1, .inr (.inl arr)))] ++ [(hd, .inl (g.2.2.2.2, 1, .inr (.inr (.inr (.inl ard)))))])) (st1 := [.int v787]) (n := 45) E hw [] [0, 1, 2, 3, 4, 5, 6, 7, 8, 9, 10, 11, 12, 13, 14, 15, 16, 17, 18, 19, 20, 21, 22, 23, 24, 25, 26, 27, 28, 29, 30, 31, 32, 33] (met_X10_hasStopped l g h now snap has hist ent res num col v787 hv787) rfl (by decide) rfl rfl [45, 46, 47, 48, 49, 50, 51, 52, 53, 54, 55, 56, 57, 58, 59, 60, 61, 62, 63, 64, 65, 66, 67, 68, 69, 70, 71, 72, 73, 74, 75, 76, 77, 78, 34, 35, 36, 37, 38, 39, 40, 41, 42, 43, 44] rfl (by decide +kernel) rfl rfl rfl rfl qw312 k_X10_hasStopped ⟨rfl, rfl, Nat.le_of_ble_eq_true rfl, Nat.le_of_ble_eq_true rfl⟩ ⟨by show _ ≤ 601024; omega, by show _ ≤ 7293034; omega⟩ hl.1 (Nat.le_of_ble_eq_true rfl) dL_law_787 rfl (fun H locs hw => ?_)
        refine lv_aload_n hx hb dL_law_790 rfl (lv_at hl 2 rfl) ?_
        obtain ⟨v791, hv791, hf⟩ := ob_e hf
        refine xcallV (ws' := (wC g h now snap has hist ent res num col ++ wM g hm v791.2 ss states stateMany snapshot hasSnapshot text length at_ isWell rd readMany top bottom digit digitMany other otherMany column columnMany carryMany chainMost ++ [(ho, .inl (g.2.2.2.1, 1, .inr (.inl arr)))] ++ [(hd, .inl (g.2.2.2.2, 1, .inr (.inr (.inr (.inl ard)))))])) (st1 := [.int v791.1, .int v787]) (n := 45) E hw [] [34, 35, 36, 37, 38, 39, 40, 41, 42] (met_X11_hasStopped l g hm thrown ss states stateMany snapshot hasSnapshot text length at_ isWell rd readMany top bottom digit digitMany other otherMany column columnMany carryMany chainMost v791 hv791) rfl (by decide) rfl rfl [0, 1, 2, 3, 4, 5, 6, 7, 8, 9, 10, 11, 12, 13, 14, 15, 16, 17, 18, 19, 20, 21, 22, 23, 24, 25, 26, 27, 28, 29, 30, 31, 32, 33, 45, 46, 47, 48, 49, 50, 51, 52, 53, 43, 44] rfl (by decide +kernel) rfl rfl rfl rfl qw1241 k_X11_hasStopped ⟨rfl, rfl, Nat.le_of_ble_eq_true rfl, Nat.le_of_ble_eq_true rfl⟩ ⟨by show _ ≤ 601024; omega, by show _ ≤ 7293034; omega⟩ hl.1 (Nat.le_of_ble_eq_true rfl) dL_law_791 rfl (fun H locs hw => ?_)
        refine lv_icmp_eq (tgt := 2616) hx hb dL_law_794 (by decide) (fun c794 => ?_) (fun c794 => ?_)
        · replace hf := ip c794 hf
          exact b2616 _ _ _ (ce + 0) (sl + 0) now snap has hist ent res num col v791.2 ss states stateMany snapshot hasSnapshot text length at_ isWell rd readMany top bottom digit digitMany other otherMany column columnMany carryMany chainMost arr ard x5 (by omega) hw (lv_sub hl [0, 1, 2, 3, 4, 5] rfl) hf
        · replace hf := iq c794 hf
          refine lv_iconst (v := 0) hx hb dL_law_797 (by decide) ?_
          exact absurd (Option.some.inj hf) (by decide)
      replace hf := iq hk hf
      by_cases hk : ((xs x5.toNatClampNeg) &&& 63) = 11
      · replace hf := ip hk hf
        refine lv_tableIn (tgt := 799) (off := 755) hx hb dL_law_44 (by rw [hk]; decide) (by rw [hk]; decide) (by rw [hk]; rfl) (by decide) ?_
        refine lv_aload_n hx hb dL_law_799 rfl (lv_at hl 1 rfl) ?_
        refine lv_aload_n hx hb dL_law_800 rfl (lv_at hl 3 rfl) ?_
        obtain ⟨v801, hv801, hf⟩ := ob_e hf
        refine xcallW (ws' := (wC g h now snap has hist ent res num col ++ wM g hm thrown ss states stateMany snapshot hasSnapshot text length at_ isWell rd readMany top bottom digit digitMany other otherMany column columnMany carryMany chainMost ++ [(ho, .inl (g.2.2.2.1, 1, .inr (.inl v801.2)))] ++ [(hd, .inl (g.2.2.2.2, 1, .inr (.inr (.inr (.inl ard)))))])) (st1 := [.int v801.1]) (n := 45) E hX hNc hw [.ref (h 0), .ref ho] [0, 1, 2, 3, 4, 5, 6, 7, 8, 9, 10, 11, 12, 13, 14, 15, 16, 17, 18, 19, 20, 21, 22, 23, 24, 25, 26, 27, 28, 29, 30, 31, 32, 33, 43] (met_L_stoppedPart l hlT g h ho now snap has hist ent res num col arr v801 hv801) rfl (by decide) rfl rfl [45, 46, 47, 48, 49, 50, 51, 52, 53, 54, 55, 56, 57, 58, 59, 60, 61, 62, 63, 64, 65, 66, 67, 68, 69, 70, 71, 72, 73, 74, 75, 76, 77, 78, 34, 35, 36, 37, 38, 39, 40, 41, 42, 79, 44] rfl (by decide +kernel) rfl qw858 k_L_stoppedPart ⟨rfl, rfl, Nat.le_of_ble_eq_true rfl, Nat.le_of_ble_eq_true rfl⟩ ⟨by show _ ≤ 601024; omega, by show _ ≤ 7293034; omega⟩ hl.1 (Nat.le_of_ble_eq_true rfl) dL_law_801 rfl (fun H locs hw => ?_)
        refine lv_istore (lv' := [(6, .int v801.1), (0, .ref b), (1, .ref (h 0)), (2, .ref (hm 0)), (3, .ref ho), (4, .ref hd), (5, .int x5)]) hx hb dL_law_804 hl (by decide) rfl (fun ls hl => ?_)
        refine lv_aload_n hx hb dL_law_806 rfl (lv_at hl 3 rfl) ?_
        obtain ⟨v807, hv807, hf⟩ := ob_e hf
        refine xcallV (ws' := (wC g h now snap has hist ent res num col ++ wM g hm v807.2 ss states stateMany snapshot hasSnapshot text length at_ isWell rd readMany top bottom digit digitMany other otherMany column columnMany carryMany chainMost ++ [(ho, .inl (g.2.2.2.1, 1, .inr (.inl v801.2)))] ++ [(hd, .inl (g.2.2.2.2, 1, .inr (.inr (.inr (.inl ard)))))])) (st1 := [.int v807.1]) (n := 45) E hw [] [34, 35, 36, 37, 38, 39, 40, 41, 42] (met_X11_stoppedPart l g hm thrown ss states stateMany snapshot hasSnapshot text length at_ isWell rd readMany top bottom digit digitMany other otherMany column columnMany carryMany chainMost v807 hv807) rfl (by decide) rfl rfl [0, 1, 2, 3, 4, 5, 6, 7, 8, 9, 10, 11, 12, 13, 14, 15, 16, 17, 18, 19, 20, 21, 22, 23, 24, 25, 26, 27, 28, 29, 30, 31, 32, 33, 45, 46, 47, 48, 49, 50, 51, 52, 53, 43, 44] rfl (by decide +kernel) rfl rfl rfl rfl qw1245 k_X11_stoppedPart ⟨rfl, rfl, Nat.le_of_ble_eq_true rfl, Nat.le_of_ble_eq_true rfl⟩ ⟨by show _ ≤ 601024; omega, by show _ ≤ 7293034; omega⟩ hl.1 (Nat.le_of_ble_eq_true rfl) dL_law_807 rfl (fun H locs hw => ?_)
        refine lv_istore (lv' := [(7, .int v807.1), (6, .int v801.1), (0, .ref b), (1, .ref (h 0)), (2, .ref (hm 0)), (3, .ref ho), (4, .ref hd), (5, .int x5)]) hx hb dL_law_810 hl (by decide) rfl (fun ls hl => ?_)
        refine lv_aload_n hx hb dL_law_812 rfl (lv_at hl 4 rfl) ?_
        obtain ⟨v813, hv813, hf⟩ := ob_e hf
        refine xcallV (ws' := (wC g h now snap has hist ent res num col ++ wM g hm v807.2 ss states stateMany snapshot hasSnapshot text length at_ isWell rd readMany top bottom digit digitMany other otherMany column columnMany carryMany chainMost ++ [(ho, .inl (g.2.2.2.1, 1, .inr (.inl v801.2)))] ++ [(hd, .inl (g.2.2.2.2, 1, .inr (.inr (.inr (.inl ard)))))])) (st1 := [.int v813]) (n := 45) E hw [] [34, 35, 36, 37, 38, 39, 40, 41, 42] (met_X11_thrown l g hm v807.2 ss states stateMany snapshot hasSnapshot text length at_ isWell rd readMany top bottom digit digitMany other otherMany column columnMany carryMany chainMost v813 hv813) rfl (by decide) rfl rfl [0, 1, 2, 3, 4, 5, 6, 7, 8, 9, 10, 11, 12, 13, 14, 15, 16, 17, 18, 19, 20, 21, 22, 23, 24, 25, 26, 27, 28, 29, 30, 31, 32, 33, 45, 46, 47, 48, 49, 50, 51, 52, 53, 43, 44] rfl (by decide +kernel) rfl rfl rfl rfl qw1086 k_X11_thrown ⟨rfl, rfl, Nat.le_of_ble_eq_true rfl, Nat.le_of_ble_eq_true rfl⟩ ⟨by show _ ≤ 601024; omega, by show _ ≤ 7293034; omega⟩ hl.1 (Nat.le_of_ble_eq_true rfl) dL_law_813 rfl (fun H locs hw => ?_)
        refine lv_iload hx hb dL_law_816 (lv_at hl 1 rfl) ?_
        refine lv_icmp_eq (tgt := 823) hx hb dL_law_818 (by decide) (fun c818 => ?_) (fun c818 => ?_)
        · replace hf := ip c818 hf
          refine lv_iload hx hb dL_law_823 (lv_at hl 1 rfl) ?_
          refine lv_if_ne (tgt := 840) hx hb dL_law_825 (by decide) (fun c825 => ?_) (fun c825 => ?_)
          · replace hf := iq c825 hf
            exact b840 _ _ _ (ce + 1) (sl + 6) now snap has hist ent res num col v807.2 ss states stateMany snapshot hasSnapshot text length at_ isWell rd readMany top bottom digit digitMany other otherMany column columnMany carryMany chainMost v801.2 ard x5 (by omega) hw (lv_sub hl [2, 3, 4, 5, 6, 7] rfl) hf
          · replace hf := ip c825 hf
            refine lv_aload_n hx hb dL_law_828 rfl (lv_at hl 5 rfl) ?_
            refine lv_iconst (v := 0) hx hb dL_law_829 (by decide) ?_
            refine xlald E hw 43 rfl (by decide) dL_law_830 ?_
            refine lv_iload hx hb dL_law_831 (lv_at hl 0 rfl) ?_
            refine lv_i2l hx hb dL_law_833 rfl ?_
            refine xlc_eq (tgt := 840) hx hb dL_law_834 dL_law_835 (by decide) (fun c834 => ?_) (fun c834 => ?_)
            · replace hf := ip c834 hf
              exact b840 _ _ _ (ce + 1) (sl + 6) now snap has hist ent res num col v807.2 ss states stateMany snapshot hasSnapshot text length at_ isWell rd readMany top bottom digit digitMany other otherMany column columnMany carryMany chainMost v801.2 ard x5 (by omega) hw (lv_sub hl [2, 3, 4, 5, 6, 7] rfl) hf
            · replace hf := iq c834 hf
              refine lv_iconst (v := 0) hx hb dL_law_838 (by decide) ?_
              exact absurd (Option.some.inj hf) (by decide)
        · replace hf := iq c818 hf
          refine lv_iconst (v := 0) hx hb dL_law_821 (by decide) ?_
          exact absurd (Option.some.inj hf) (by decide)
      replace hf := iq hk hf
      by_cases hk : ((xs x5.toNatClampNeg) &&& 63) = 12
      · replace hf := ip hk hf
        refine lv_tableIn (tgt := 843) (off := 799) hx hb dL_law_44 (by rw [hk]; decide) (by rw [hk]; decide) (by rw [hk]; rfl) (by decide) ?_
        refine lv_aload_n hx hb dL_law_843 rfl (lv_at hl 1 rfl) ?_
        refine lv_aload_n hx hb dL_law_844 rfl (lv_at hl 3 rfl) ?_
        obtain ⟨v845, hv845, hf⟩ := ob_e hf
        refine xcallW (ws' := (wC g h now snap has hist ent res num col ++ wM g hm thrown ss states stateMany snapshot hasSnapshot text length at_ isWell rd readMany top bottom digit digitMany other otherMany column columnMany carryMany chainMost ++ [(ho, .inl (g.2.2.2.1, 1, .inr (.inl v845.2)))] ++ [(hd, .inl (g.2.2.2.2, 1, .inr (.inr (.inr (.inl ard)))))])) (st1 := [.int v845.1]) (n := 45) E hX hNc hw [.ref (h 0), .ref ho] [0, 1, 2, 3, 4, 5, 6, 7, 8, 9, 10, 11, 12, 13, 14, 15, 16, 17, 18, 19, 20, 21, 22, 23, 24, 25, 26, 27, 28, 29, 30, 31, 32, 33, 43] (met_L_whyStopped l hlT g h ho now snap has hist ent res num col arr v845 hv845) rfl (by decide) rfl rfl [45, 46, 47, 48, 49, 50, 51, 52, 53, 54, 55, 56, 57, 58, 59, 60, 61, 62, 63, 64, 65, 66, 67, 68, 69, 70, 71, 72, 73, 74, 75, 76, 77, 78, 34, 35, 36, 37, 38, 39, 40, 41, 42, 79, 44] rfl (by decide +kernel) rfl qw870 k_L_whyStopped ⟨rfl, rfl, Nat.le_of_ble_eq_true rfl, Nat.le_of_ble_eq_true rfl⟩ ⟨by show _ ≤ 601024; omega, by show _ ≤ 7293034; omega⟩ hl.1 (Nat.le_of_ble_eq_true rfl) dL_law_845 rfl (fun H locs hw => ?_)
        refine lv_istore (lv' := [(6, .int v845.1), (0, .ref b), (1, .ref (h 0)), (2, .ref (hm 0)), (3, .ref ho), (4, .ref hd), (5, .int x5)]) hx hb dL_law_848 hl (by decide) rfl (fun ls hl => ?_)
        refine lv_aload_n hx hb dL_law_850 rfl (lv_at hl 3 rfl) ?_
        obtain ⟨v851, hv851, hf⟩ := ob_e hf
        refine xcallV (ws' := (wC g h now snap has hist ent res num col ++ wM g hm v851.2 ss states stateMany snapshot hasSnapshot text length at_ isWell rd readMany top bottom digit digitMany other otherMany column columnMany carryMany chainMost ++ [(ho, .inl (g.2.2.2.1, 1, .inr (.inl v845.2)))] ++ [(hd, .inl (g.2.2.2.2, 1, .inr (.inr (.inr (.inl ard)))))])) (st1 := [.int v851.1]) (n := 45) E hw [] [34, 35, 36, 37, 38, 39, 40, 41, 42] (met_X11_whyStopped l g hm thrown ss states stateMany snapshot hasSnapshot text length at_ isWell rd readMany top bottom digit digitMany other otherMany column columnMany carryMany chainMost v851 hv851) rfl (by decide) rfl rfl [0, 1, 2, 3, 4, 5, 6, 7, 8, 9, 10, 11, 12, 13, 14, 15, 16, 17, 18, 19, 20, 21, 22, 23, 24, 25, 26, 27, 28, 29, 30, 31, 32, 33, 45, 46, 47, 48, 49, 50, 51, 52, 53, 43, 44] rfl (by decide +kernel) rfl rfl rfl rfl qw1249 k_X11_whyStopped ⟨rfl, rfl, Nat.le_of_ble_eq_true rfl, Nat.le_of_ble_eq_true rfl⟩ ⟨by show _ ≤ 601024; omega, by show _ ≤ 7293034; omega⟩ hl.1 (Nat.le_of_ble_eq_true rfl) dL_law_851 rfl (fun H locs hw => ?_)
        refine lv_istore (lv' := [(7, .int v851.1), (6, .int v845.1), (0, .ref b), (1, .ref (h 0)), (2, .ref (hm 0)), (3, .ref ho), (4, .ref hd), (5, .int x5)]) hx hb dL_law_854 hl (by decide) rfl (fun ls hl => ?_)
        refine lv_aload_n hx hb dL_law_856 rfl (lv_at hl 4 rfl) ?_
        obtain ⟨v857, hv857, hf⟩ := ob_e hf
        refine xcallV (ws' := (wC g h now snap has hist ent res num col ++ wM g hm v851.2 ss states stateMany snapshot hasSnapshot text length at_ isWell rd readMany top bottom digit digitMany other otherMany column columnMany carryMany chainMost ++ [(ho, .inl (g.2.2.2.1, 1, .inr (.inl v845.2)))] ++ [(hd, .inl (g.2.2.2.2, 1, .inr (.inr (.inr (.inl ard)))))])) (st1 := [.int v857]) (n := 45) E hw [] [34, 35, 36, 37, 38, 39, 40, 41, 42] (met_X11_thrown l g hm v851.2 ss states stateMany snapshot hasSnapshot text length at_ isWell rd readMany top bottom digit digitMany other otherMany column columnMany carryMany chainMost v857 hv857) rfl (by decide) rfl rfl [0, 1, 2, 3, 4, 5, 6, 7, 8, 9, 10, 11, 12, 13, 14, 15, 16, 17, 18, 19, 20, 21, 22, 23, 24, 25, 26, 27, 28, 29, 30, 31, 32, 33, 45, 46, 47, 48, 49, 50, 51, 52, 53, 43, 44] rfl (by decide +kernel) rfl rfl rfl rfl qw1086 k_X11_thrown ⟨rfl, rfl, Nat.le_of_ble_eq_true rfl, Nat.le_of_ble_eq_true rfl⟩ ⟨by show _ ≤ 601024; omega, by show _ ≤ 7293034; omega⟩ hl.1 (Nat.le_of_ble_eq_true rfl) dL_law_857 rfl (fun H locs hw => ?_)
        refine lv_iload hx hb dL_law_860 (lv_at hl 1 rfl) ?_
        refine lv_icmp_eq (tgt := 867) hx hb dL_law_862 (by decide) (fun c862 => ?_) (fun c862 => ?_)
        · replace hf := ip c862 hf
          refine lv_iload hx hb dL_law_867 (lv_at hl 1 rfl) ?_
          refine lv_if_ne (tgt := 884) hx hb dL_law_869 (by decide) (fun c869 => ?_) (fun c869 => ?_)
          · replace hf := iq c869 hf
            exact b884 _ _ _ (ce + 1) (sl + 6) now snap has hist ent res num col v851.2 ss states stateMany snapshot hasSnapshot text length at_ isWell rd readMany top bottom digit digitMany other otherMany column columnMany carryMany chainMost v845.2 ard x5 (by omega) hw (lv_sub hl [2, 3, 4, 5, 6, 7] rfl) hf
          · replace hf := ip c869 hf
            refine lv_aload_n hx hb dL_law_872 rfl (lv_at hl 5 rfl) ?_
            refine lv_iconst (v := 0) hx hb dL_law_873 (by decide) ?_
            refine xlald E hw 43 rfl (by decide) dL_law_874 ?_
            refine lv_iload hx hb dL_law_875 (lv_at hl 0 rfl) ?_
            refine lv_i2l hx hb dL_law_877 rfl ?_
            refine xlc_eq (tgt := 884) hx hb dL_law_878 dL_law_879 (by decide) (fun c878 => ?_) (fun c878 => ?_)
            · replace hf := ip c878 hf
              exact b884 _ _ _ (ce + 1) (sl + 6) now snap has hist ent res num col v851.2 ss states stateMany snapshot hasSnapshot text length at_ isWell rd readMany top bottom digit digitMany other otherMany column columnMany carryMany chainMost v845.2 ard x5 (by omega) hw (lv_sub hl [2, 3, 4, 5, 6, 7] rfl) hf
            · replace hf := iq c878 hf
              refine lv_iconst (v := 0) hx hb dL_law_882 (by decide) ?_
              exact absurd (Option.some.inj hf) (by decide)
        · replace hf := iq c862 hf
          refine lv_iconst (v := 0) hx hb dL_law_865 (by decide) ?_
          exact absurd (Option.some.inj hf) (by decide)
      replace hf := iq hk hf
      by_cases hk : ((xs x5.toNatClampNeg) &&& 63) = 13
      · replace hf := ip hk hf
        refine lv_tableIn (tgt := 887) (off := 843) hx hb dL_law_44 (by rw [hk]; decide) (by rw [hk]; decide) (by rw [hk]; rfl) (by decide) ?_
        refine lv_aload_n hx hb dL_law_887 rfl (lv_at hl 1 rfl) ?_
        refine lv_aload_n hx hb dL_law_888 rfl (lv_at hl 3 rfl) ?_
        obtain ⟨v889, hv889, hf⟩ := ob_e hf
        refine xcallW (ws' := (wC g h v889.2.1 snap has v889.2.2.1 ent res num col ++ wM g hm thrown ss states stateMany snapshot hasSnapshot text length at_ isWell rd readMany top bottom digit digitMany other otherMany column columnMany carryMany chainMost ++ [(ho, .inl (g.2.2.2.1, 1, .inr (.inl v889.2.2.2)))] ++ [(hd, .inl (g.2.2.2.2, 1, .inr (.inr (.inr (.inl ard)))))])) (st1 := [.int v889.1]) (n := 45) E hX hNc hw [.ref (h 0), .ref ho] [0, 1, 2, 3, 4, 5, 6, 7, 8, 9, 10, 11, 12, 13, 14, 15, 16, 17, 18, 19, 20, 21, 22, 23, 24, 25, 26, 27, 28, 29, 30, 31, 32, 33, 43] (met_L_undo l hlT g h ho now snap has hist ent res num col arr v889 hv889) rfl (by decide) rfl rfl [45, 46, 47, 48, 49, 50, 51, 52, 53, 54, 55, 56, 57, 58, 59, 60, 61, 62, 63, 64, 65, 66, 67, 68, 69, 70, 71, 72, 73, 74, 75, 76, 77, 78, 34, 35, 36, 37, 38, 39, 40, 41, 42, 79, 44] rfl (by decide +kernel) rfl qw877 k_L_undo ⟨rfl, rfl, Nat.le_of_ble_eq_true rfl, Nat.le_of_ble_eq_true rfl⟩ ⟨by show _ ≤ 601024; omega, by show _ ≤ 7293034; omega⟩ hl.1 (Nat.le_of_ble_eq_true rfl) dL_law_889 rfl (fun H locs hw => ?_)
        refine lv_istore (lv' := [(6, .int v889.1), (0, .ref b), (1, .ref (h 0)), (2, .ref (hm 0)), (3, .ref ho), (4, .ref hd), (5, .int x5)]) hx hb dL_law_892 hl (by decide) rfl (fun ls hl => ?_)
        refine lv_aload_n hx hb dL_law_894 rfl (lv_at hl 3 rfl) ?_
        obtain ⟨v895, hv895, hf⟩ := ob_e hf
        refine xcallV (ws' := (wC g h v889.2.1 snap has v889.2.2.1 ent res num col ++ wM g hm v895.2.1 v895.2.2.1 states v895.2.2.2 snapshot hasSnapshot text length at_ isWell rd readMany top bottom digit digitMany other otherMany column columnMany carryMany chainMost ++ [(ho, .inl (g.2.2.2.1, 1, .inr (.inl v889.2.2.2)))] ++ [(hd, .inl (g.2.2.2.2, 1, .inr (.inr (.inr (.inl ard)))))])) (st1 := [.int v895.1]) (n := 45) E hw [] [34, 35, 36, 37, 38, 39, 40, 41, 42] (met_X11_undo l g hm thrown ss states stateMany snapshot hasSnapshot text length at_ isWell rd readMany top bottom digit digitMany other otherMany column columnMany carryMany chainMost v895 hv895) rfl (by decide) rfl rfl [0, 1, 2, 3, 4, 5, 6, 7, 8, 9, 10, 11, 12, 13, 14, 15, 16, 17, 18, 19, 20, 21, 22, 23, 24, 25, 26, 27, 28, 29, 30, 31, 32, 33, 45, 46, 47, 48, 49, 50, 51, 52, 53, 43, 44] rfl (by decide +kernel) rfl rfl rfl rfl qw1253 k_X11_undo ⟨rfl, rfl, Nat.le_of_ble_eq_true rfl, Nat.le_of_ble_eq_true rfl⟩ ⟨by show _ ≤ 601024; omega, by show _ ≤ 7293034; omega⟩ hl.1 (Nat.le_of_ble_eq_true rfl) dL_law_895 rfl (fun H locs hw => ?_)
        refine lv_istore (lv' := [(7, .int v895.1), (6, .int v889.1), (0, .ref b), (1, .ref (h 0)), (2, .ref (hm 0)), (3, .ref ho), (4, .ref hd), (5, .int x5)]) hx hb dL_law_898 hl (by decide) rfl (fun ls hl => ?_)
        refine lv_aload_n hx hb dL_law_900 rfl (lv_at hl 4 rfl) ?_
        obtain ⟨v901, hv901, hf⟩ := ob_e hf
        refine xcallV (ws' := (wC g h v889.2.1 snap has v889.2.2.1 ent res num col ++ wM g hm v895.2.1 v895.2.2.1 states v895.2.2.2 snapshot hasSnapshot text length at_ isWell rd readMany top bottom digit digitMany other otherMany column columnMany carryMany chainMost ++ [(ho, .inl (g.2.2.2.1, 1, .inr (.inl v889.2.2.2)))] ++ [(hd, .inl (g.2.2.2.2, 1, .inr (.inr (.inr (.inl ard)))))])) (st1 := [.int v901]) (n := 45) E hw [] [34, 35, 36, 37, 38, 39, 40, 41, 42] (met_X11_thrown l g hm v895.2.1 v895.2.2.1 states v895.2.2.2 snapshot hasSnapshot text length at_ isWell rd readMany top bottom digit digitMany other otherMany column columnMany carryMany chainMost v901 hv901) rfl (by decide) rfl rfl [0, 1, 2, 3, 4, 5, 6, 7, 8, 9, 10, 11, 12, 13, 14, 15, 16, 17, 18, 19, 20, 21, 22, 23, 24, 25, 26, 27, 28, 29, 30, 31, 32, 33, 45, 46, 47, 48, 49, 50, 51, 52, 53, 43, 44] rfl (by decide +kernel) rfl rfl rfl rfl qw1086 k_X11_thrown ⟨rfl, rfl, Nat.le_of_ble_eq_true rfl, Nat.le_of_ble_eq_true rfl⟩ ⟨by show _ ≤ 601024; omega, by show _ ≤ 7293034; omega⟩ hl.1 (Nat.le_of_ble_eq_true rfl) dL_law_901 rfl (fun H locs hw => ?_)
        refine lv_iload hx hb dL_law_904 (lv_at hl 1 rfl) ?_
        refine lv_icmp_eq (tgt := 911) hx hb dL_law_906 (by decide) (fun c906 => ?_) (fun c906 => ?_)
        · replace hf := ip c906 hf
          refine lv_iload hx hb dL_law_911 (lv_at hl 1 rfl) ?_
          refine lv_if_ne (tgt := 928) hx hb dL_law_913 (by decide) (fun c913 => ?_) (fun c913 => ?_)
          · replace hf := iq c913 hf
            exact b928 _ _ _ (ce + 1) (sl + 6) v889.2.1 snap has v889.2.2.1 ent res num col v895.2.1 v895.2.2.1 states v895.2.2.2 snapshot hasSnapshot text length at_ isWell rd readMany top bottom digit digitMany other otherMany column columnMany carryMany chainMost v889.2.2.2 ard x5 (by omega) hw (lv_sub hl [2, 3, 4, 5, 6, 7] rfl) hf
          · replace hf := ip c913 hf
            refine lv_aload_n hx hb dL_law_916 rfl (lv_at hl 5 rfl) ?_
            refine lv_iconst (v := 0) hx hb dL_law_917 (by decide) ?_
            refine xlald E hw 43 rfl (by decide) dL_law_918 ?_
            refine lv_iload hx hb dL_law_919 (lv_at hl 0 rfl) ?_
            refine lv_i2l hx hb dL_law_921 rfl ?_
            refine xlc_eq (tgt := 928) hx hb dL_law_922 dL_law_923 (by decide) (fun c922 => ?_) (fun c922 => ?_)
            · replace hf := ip c922 hf
              exact b928 _ _ _ (ce + 1) (sl + 6) v889.2.1 snap has v889.2.2.1 ent res num col v895.2.1 v895.2.2.1 states v895.2.2.2 snapshot hasSnapshot text length at_ isWell rd readMany top bottom digit digitMany other otherMany column columnMany carryMany chainMost v889.2.2.2 ard x5 (by omega) hw (lv_sub hl [2, 3, 4, 5, 6, 7] rfl) hf
            · replace hf := iq c922 hf
              refine lv_iconst (v := 0) hx hb dL_law_926 (by decide) ?_
              exact absurd (Option.some.inj hf) (by decide)
        · replace hf := iq c906 hf
          refine lv_iconst (v := 0) hx hb dL_law_909 (by decide) ?_
          exact absurd (Option.some.inj hf) (by decide)
      replace hf := iq hk hf
      by_cases hk : ((xs x5.toNatClampNeg) &&& 63) = 14
      · replace hf := ip hk hf
        refine lv_tableIn (tgt := 931) (off := 887) hx hb dL_law_44 (by rw [hk]; decide) (by rw [hk]; decide) (by rw [hk]; rfl) (by decide) ?_
        refine lv_aload_n hx hb dL_law_931 rfl (lv_at hl 1 rfl) ?_
        obtain ⟨v932, hv932, hf⟩ := ob_e hf
        refine xcallV (ws' := (wC g h now v932.2.1 v932.2.2 hist ent res num col ++ wM g hm thrown ss states stateMany snapshot hasSnapshot text length at_ isWell rd readMany top bottom digit digitMany other otherMany column columnMany carryMany chainMost ++ [(ho, .inl (g.2.2.2.1, 1, .inr (.inl arr)))] ++ [(hd, .inl (g.2.2.2.2, 1, .inr (.inr (.inr (.inl ard)))))])) (st1 := [.int v932.1]) (n := 45) E hw [] [0, 1, 2, 3, 4, 5, 6, 7, 8, 9, 10, 11, 12, 13, 14, 15, 16, 17, 18, 19, 20, 21, 22, 23, 24, 25, 26, 27, 28, 29, 30, 31, 32, 33] (met_X10_keep l g h now snap has hist ent res num col v932 hv932) rfl (by decide) rfl rfl [45, 46, 47, 48, 49, 50, 51, 52, 53, 54, 55, 56, 57, 58, 59, 60, 61, 62, 63, 64, 65, 66, 67, 68, 69, 70, 71, 72, 73, 74, 75, 76, 77, 78, 34, 35, 36, 37, 38, 39, 40, 41, 42, 43, 44] rfl (by decide +kernel) rfl rfl rfl rfl qw316 k_X10_keep ⟨rfl, rfl, Nat.le_of_ble_eq_true rfl, Nat.le_of_ble_eq_true rfl⟩ ⟨by show _ ≤ 601024; omega, by show _ ≤ 7293034; omega⟩ hl.1 (Nat.le_of_ble_eq_true rfl) dL_law_932 rfl (fun H locs hw => ?_)
        refine lv_aload_n hx hb dL_law_935 rfl (lv_at hl 2 rfl) ?_
        obtain ⟨v936, hv936, hf⟩ := ob_e hf
        refine xcallV (ws' := (wC g h now v932.2.1 v932.2.2 hist ent res num col ++ wM g hm v936.2.1 ss states stateMany v936.2.2.1 v936.2.2.2 text length at_ isWell rd readMany top bottom digit digitMany other otherMany column columnMany carryMany chainMost ++ [(ho, .inl (g.2.2.2.1, 1, .inr (.inl arr)))] ++ [(hd, .inl (g.2.2.2.2, 1, .inr (.inr (.inr (.inl ard)))))])) (st1 := [.int v936.1, .int v932.1]) (n := 45) E hw [] [34, 35, 36, 37, 38, 39, 40, 41, 42] (met_X11_keep l g hm thrown ss states stateMany snapshot hasSnapshot text length at_ isWell rd readMany top bottom digit digitMany other otherMany column columnMany carryMany chainMost v936 hv936) rfl (by decide) rfl rfl [0, 1, 2, 3, 4, 5, 6, 7, 8, 9, 10, 11, 12, 13, 14, 15, 16, 17, 18, 19, 20, 21, 22, 23, 24, 25, 26, 27, 28, 29, 30, 31, 32, 33, 45, 46, 47, 48, 49, 50, 51, 52, 53, 43, 44] rfl (by decide +kernel) rfl rfl rfl rfl qw1257 k_X11_keep ⟨rfl, rfl, Nat.le_of_ble_eq_true rfl, Nat.le_of_ble_eq_true rfl⟩ ⟨by show _ ≤ 601024; omega, by show _ ≤ 7293034; omega⟩ hl.1 (Nat.le_of_ble_eq_true rfl) dL_law_936 rfl (fun H locs hw => ?_)
        refine lv_icmp_eq (tgt := 2616) hx hb dL_law_939 (by decide) (fun c939 => ?_) (fun c939 => ?_)
        · replace hf := ip c939 hf
          exact b2616 _ _ _ (ce + 0) (sl + 0) now v932.2.1 v932.2.2 hist ent res num col v936.2.1 ss states stateMany v936.2.2.1 v936.2.2.2 text length at_ isWell rd readMany top bottom digit digitMany other otherMany column columnMany carryMany chainMost arr ard x5 (by omega) hw (lv_sub hl [0, 1, 2, 3, 4, 5] rfl) hf
        · replace hf := iq c939 hf
          refine lv_iconst (v := 0) hx hb dL_law_942 (by decide) ?_
          exact absurd (Option.some.inj hf) (by decide)
      replace hf := iq hk hf
      by_cases hk : ((xs x5.toNatClampNeg) &&& 63) = 15
      · replace hf := ip hk hf
        refine lv_tableIn (tgt := 944) (off := 900) hx hb dL_law_44 (by rw [hk]; decide) (by rw [hk]; decide) (by rw [hk]; rfl) (by decide) ?_
        refine lv_aload_n hx hb dL_law_944 rfl (lv_at hl 1 rfl) ?_
        refine lv_aload_n hx hb dL_law_945 rfl (lv_at hl 3 rfl) ?_
        obtain ⟨v946, hv946, hf⟩ := ob_e hf
        refine xcallW (ws' := (wC g h v946.2.1 snap has v946.2.2.1 ent res num col ++ wM g hm thrown ss states stateMany snapshot hasSnapshot text length at_ isWell rd readMany top bottom digit digitMany other otherMany column columnMany carryMany chainMost ++ [(ho, .inl (g.2.2.2.1, 1, .inr (.inl v946.2.2.2)))] ++ [(hd, .inl (g.2.2.2.2, 1, .inr (.inr (.inr (.inl ard)))))])) (st1 := [.int v946.1]) (n := 45) E hX hNc hw [.ref (h 0), .ref ho] [0, 1, 2, 3, 4, 5, 6, 7, 8, 9, 10, 11, 12, 13, 14, 15, 16, 17, 18, 19, 20, 21, 22, 23, 24, 25, 26, 27, 28, 29, 30, 31, 32, 33, 43] (met_L_restore l hlT g h ho now snap has hist ent res num col arr v946 hv946) rfl (by decide) rfl rfl [45, 46, 47, 48, 49, 50, 51, 52, 53, 54, 55, 56, 57, 58, 59, 60, 61, 62, 63, 64, 65, 66, 67, 68, 69, 70, 71, 72, 73, 74, 75, 76, 77, 78, 34, 35, 36, 37, 38, 39, 40, 41, 42, 79, 44] rfl (by decide +kernel) rfl qw890 k_L_restore ⟨rfl, rfl, Nat.le_of_ble_eq_true rfl, Nat.le_of_ble_eq_true rfl⟩ ⟨by show _ ≤ 601024; omega, by show _ ≤ 7293034; omega⟩ hl.1 (Nat.le_of_ble_eq_true rfl) dL_law_946 rfl (fun H locs hw => ?_)
        refine lv_istore (lv' := [(6, .int v946.1), (0, .ref b), (1, .ref (h 0)), (2, .ref (hm 0)), (3, .ref ho), (4, .ref hd), (5, .int x5)]) hx hb dL_law_949 hl (by decide) rfl (fun ls hl => ?_)
        refine lv_aload_n hx hb dL_law_951 rfl (lv_at hl 3 rfl) ?_
        obtain ⟨v952, hv952, hf⟩ := ob_e hf
        refine xcallV (ws' := (wC g h v946.2.1 snap has v946.2.2.1 ent res num col ++ wM g hm v952.2.1 v952.2.2.1 v952.2.2.2.1 v952.2.2.2.2 snapshot hasSnapshot text length at_ isWell rd readMany top bottom digit digitMany other otherMany column columnMany carryMany chainMost ++ [(ho, .inl (g.2.2.2.1, 1, .inr (.inl v946.2.2.2)))] ++ [(hd, .inl (g.2.2.2.2, 1, .inr (.inr (.inr (.inl ard)))))])) (st1 := [.int v952.1]) (n := 45) E hw [] [34, 35, 36, 37, 38, 39, 40, 41, 42] (met_X11_restore l g hm thrown ss states stateMany snapshot hasSnapshot text length at_ isWell rd readMany top bottom digit digitMany other otherMany column columnMany carryMany chainMost v952 hv952) rfl (by decide) rfl rfl [0, 1, 2, 3, 4, 5, 6, 7, 8, 9, 10, 11, 12, 13, 14, 15, 16, 17, 18, 19, 20, 21, 22, 23, 24, 25, 26, 27, 28, 29, 30, 31, 32, 33, 45, 46, 47, 48, 49, 50, 51, 52, 53, 43, 44] rfl (by decide +kernel) rfl rfl rfl rfl qw1261 k_X11_restore ⟨rfl, rfl, Nat.le_of_ble_eq_true rfl, Nat.le_of_ble_eq_true rfl⟩ ⟨by show _ ≤ 601024; omega, by show _ ≤ 7293034; omega⟩ hl.1 (Nat.le_of_ble_eq_true rfl) dL_law_952 rfl (fun H locs hw => ?_)
        refine lv_istore (lv' := [(7, .int v952.1), (6, .int v946.1), (0, .ref b), (1, .ref (h 0)), (2, .ref (hm 0)), (3, .ref ho), (4, .ref hd), (5, .int x5)]) hx hb dL_law_955 hl (by decide) rfl (fun ls hl => ?_)
        refine lv_aload_n hx hb dL_law_957 rfl (lv_at hl 4 rfl) ?_
        obtain ⟨v958, hv958, hf⟩ := ob_e hf
        refine xcallV (ws' := (wC g h v946.2.1 snap has v946.2.2.1 ent res num col ++ wM g hm v952.2.1 v952.2.2.1 v952.2.2.2.1 v952.2.2.2.2 snapshot hasSnapshot text length at_ isWell rd readMany top bottom digit digitMany other otherMany column columnMany carryMany chainMost ++ [(ho, .inl (g.2.2.2.1, 1, .inr (.inl v946.2.2.2)))] ++ [(hd, .inl (g.2.2.2.2, 1, .inr (.inr (.inr (.inl ard)))))])) (st1 := [.int v958]) (n := 45) E hw [] [34, 35, 36, 37, 38, 39, 40, 41, 42] (met_X11_thrown l g hm v952.2.1 v952.2.2.1 v952.2.2.2.1 v952.2.2.2.2 snapshot hasSnapshot text length at_ isWell rd readMany top bottom digit digitMany other otherMany column columnMany carryMany chainMost v958 hv958) rfl (by decide) rfl rfl [0, 1, 2, 3, 4, 5, 6, 7, 8, 9, 10, 11, 12, 13, 14, 15, 16, 17, 18, 19, 20, 21, 22, 23, 24, 25, 26, 27, 28, 29, 30, 31, 32, 33, 45, 46, 47, 48, 49, 50, 51, 52, 53, 43, 44] rfl (by decide +kernel) rfl rfl rfl rfl qw1086 k_X11_thrown ⟨rfl, rfl, Nat.le_of_ble_eq_true rfl, Nat.le_of_ble_eq_true rfl⟩ ⟨by show _ ≤ 601024; omega, by show _ ≤ 7293034; omega⟩ hl.1 (Nat.le_of_ble_eq_true rfl) dL_law_958 rfl (fun H locs hw => ?_)
        refine lv_iload hx hb dL_law_961 (lv_at hl 1 rfl) ?_
        refine lv_icmp_eq (tgt := 968) hx hb dL_law_963 (by decide) (fun c963 => ?_) (fun c963 => ?_)
        · replace hf := ip c963 hf
          refine lv_iload hx hb dL_law_968 (lv_at hl 1 rfl) ?_
          refine lv_if_ne (tgt := 985) hx hb dL_law_970 (by decide) (fun c970 => ?_) (fun c970 => ?_)
          · replace hf := iq c970 hf
            exact b985 _ _ _ (ce + 1) (sl + 6) v946.2.1 snap has v946.2.2.1 ent res num col v952.2.1 v952.2.2.1 v952.2.2.2.1 v952.2.2.2.2 snapshot hasSnapshot text length at_ isWell rd readMany top bottom digit digitMany other otherMany column columnMany carryMany chainMost v946.2.2.2 ard x5 (by omega) hw (lv_sub hl [2, 3, 4, 5, 6, 7] rfl) hf
          · replace hf := ip c970 hf
            refine lv_aload_n hx hb dL_law_973 rfl (lv_at hl 5 rfl) ?_
            refine lv_iconst (v := 0) hx hb dL_law_974 (by decide) ?_
            refine xlald E hw 43 rfl (by decide) dL_law_975 ?_
            refine lv_iload hx hb dL_law_976 (lv_at hl 0 rfl) ?_
            refine lv_i2l hx hb dL_law_978 rfl ?_
            refine xlc_eq (tgt := 985) hx hb dL_law_979 dL_law_980 (by decide) (fun c979 => ?_) (fun c979 => ?_)
            · replace hf := ip c979 hf
              exact b985 _ _ _ (ce + 1) (sl + 6) v946.2.1 snap has v946.2.2.1 ent res num col v952.2.1 v952.2.2.1 v952.2.2.2.1 v952.2.2.2.2 snapshot hasSnapshot text length at_ isWell rd readMany top bottom digit digitMany other otherMany column columnMany carryMany chainMost v946.2.2.2 ard x5 (by omega) hw (lv_sub hl [2, 3, 4, 5, 6, 7] rfl) hf
            · replace hf := iq c979 hf
              refine lv_iconst (v := 0) hx hb dL_law_983 (by decide) ?_
              exact absurd (Option.some.inj hf) (by decide)
        · replace hf := iq c963 hf
          refine lv_iconst (v := 0) hx hb dL_law_966 (by decide) ?_
          exact absurd (Option.some.inj hf) (by decide)
      replace hf := iq hk hf
      by_cases hk : ((xs x5.toNatClampNeg) &&& 63) = 16
      · replace hf := ip hk hf
        refine lv_tableIn (tgt := 988) (off := 944) hx hb dL_law_44 (by rw [hk]; decide) (by rw [hk]; decide) (by rw [hk]; rfl) (by decide) ?_
        refine lv_aload_n hx hb dL_law_988 rfl (lv_at hl 1 rfl) ?_
        obtain ⟨v989, hv989, hf⟩ := ob_e hf
        refine xcallV (ws' := (wC g h now snap has hist ent res num col ++ wM g hm thrown ss states stateMany snapshot hasSnapshot text length at_ isWell rd readMany top bottom digit digitMany other otherMany column columnMany carryMany chainMost ++ [(ho, .inl (g.2.2.2.1, 1, .inr (.inl arr)))] ++ [(hd, .inl (g.2.2.2.2, 1, .inr (.inr (.inr (.inl ard)))))])) (st1 := [.int v989]) (n := 45) E hw [] [0, 1, 2, 3, 4, 5, 6, 7, 8, 9, 10, 11, 12, 13, 14, 15, 16, 17, 18, 19, 20, 21, 22, 23, 24, 25, 26, 27, 28, 29, 30, 31, 32, 33] (met_X10_savedStates l g h now snap has hist ent res num col v989 hv989) rfl (by decide) rfl rfl [45, 46, 47, 48, 49, 50, 51, 52, 53, 54, 55, 56, 57, 58, 59, 60, 61, 62, 63, 64, 65, 66, 67, 68, 69, 70, 71, 72, 73, 74, 75, 76, 77, 78, 34, 35, 36, 37, 38, 39, 40, 41, 42, 43, 44] rfl (by decide +kernel) rfl rfl rfl rfl qw324 k_X10_savedStates ⟨rfl, rfl, Nat.le_of_ble_eq_true rfl, Nat.le_of_ble_eq_true rfl⟩ ⟨by show _ ≤ 601024; omega, by show _ ≤ 7293034; omega⟩ hl.1 (Nat.le_of_ble_eq_true rfl) dL_law_989 rfl (fun H locs hw => ?_)
        refine lv_aload_n hx hb dL_law_992 rfl (lv_at hl 2 rfl) ?_
        obtain ⟨v993, hv993, hf⟩ := ob_e hf
        refine xcallV (ws' := (wC g h now snap has hist ent res num col ++ wM g hm v993.2 ss states stateMany snapshot hasSnapshot text length at_ isWell rd readMany top bottom digit digitMany other otherMany column columnMany carryMany chainMost ++ [(ho, .inl (g.2.2.2.1, 1, .inr (.inl arr)))] ++ [(hd, .inl (g.2.2.2.2, 1, .inr (.inr (.inr (.inl ard)))))])) (st1 := [.int v993.1, .int v989]) (n := 45) E hw [] [34, 35, 36, 37, 38, 39, 40, 41, 42] (met_X11_savedStates l g hm thrown ss states stateMany snapshot hasSnapshot text length at_ isWell rd readMany top bottom digit digitMany other otherMany column columnMany carryMany chainMost v993 hv993) rfl (by decide) rfl rfl [0, 1, 2, 3, 4, 5, 6, 7, 8, 9, 10, 11, 12, 13, 14, 15, 16, 17, 18, 19, 20, 21, 22, 23, 24, 25, 26, 27, 28, 29, 30, 31, 32, 33, 45, 46, 47, 48, 49, 50, 51, 52, 53, 43, 44] rfl (by decide +kernel) rfl rfl rfl rfl qw1265 k_X11_savedStates ⟨rfl, rfl, Nat.le_of_ble_eq_true rfl, Nat.le_of_ble_eq_true rfl⟩ ⟨by show _ ≤ 601024; omega, by show _ ≤ 7293034; omega⟩ hl.1 (Nat.le_of_ble_eq_true rfl) dL_law_993 rfl (fun H locs hw => ?_)
        refine lv_icmp_eq (tgt := 2616) hx hb dL_law_996 (by decide) (fun c996 => ?_) (fun c996 => ?_)
        · replace hf := ip c996 hf
          exact b2616 _ _ _ (ce + 0) (sl + 0) now snap has hist ent res num col v993.2 ss states stateMany snapshot hasSnapshot text length at_ isWell rd readMany top bottom digit digitMany other otherMany column columnMany carryMany chainMost arr ard x5 (by omega) hw (lv_sub hl [0, 1, 2, 3, 4, 5] rfl) hf
        · replace hf := iq c996 hf
          refine lv_iconst (v := 0) hx hb dL_law_999 (by decide) ?_
          exact absurd (Option.some.inj hf) (by decide)
      replace hf := iq hk hf
      by_cases hk : ((xs x5.toNatClampNeg) &&& 63) = 17
      · replace hf := ip hk hf
        refine lv_tableIn (tgt := 1001) (off := 957) hx hb dL_law_44 (by rw [hk]; decide) (by rw [hk]; decide) (by rw [hk]; rfl) (by decide) ?_
        refine lv_aload_n hx hb dL_law_1001 rfl (lv_at hl 1 rfl) ?_
        obtain ⟨v1002, hv1002, hf⟩ := ob_e hf
        refine xcallV (ws' := (wC g h now snap has hist ent res num col ++ wM g hm thrown ss states stateMany snapshot hasSnapshot text length at_ isWell rd readMany top bottom digit digitMany other otherMany column columnMany carryMany chainMost ++ [(ho, .inl (g.2.2.2.1, 1, .inr (.inl arr)))] ++ [(hd, .inl (g.2.2.2.2, 1, .inr (.inr (.inr (.inl ard)))))])) (st1 := [.int v1002]) (n := 45) E hw [] [0, 1, 2, 3, 4, 5, 6, 7, 8, 9, 10, 11, 12, 13, 14, 15, 16, 17, 18, 19, 20, 21, 22, 23, 24, 25, 26, 27, 28, 29, 30, 31, 32, 33] (met_X10_base l g h now snap has hist ent res num col v1002 hv1002) rfl (by decide) rfl rfl [45, 46, 47, 48, 49, 50, 51, 52, 53, 54, 55, 56, 57, 58, 59, 60, 61, 62, 63, 64, 65, 66, 67, 68, 69, 70, 71, 72, 73, 74, 75, 76, 77, 78, 34, 35, 36, 37, 38, 39, 40, 41, 42, 43, 44] rfl (by decide +kernel) rfl rfl rfl rfl qw328 k_X10_base ⟨rfl, rfl, Nat.le_of_ble_eq_true rfl, Nat.le_of_ble_eq_true rfl⟩ ⟨by show _ ≤ 601024; omega, by show _ ≤ 7293034; omega⟩ hl.1 (Nat.le_of_ble_eq_true rfl) dL_law_1002 rfl (fun H locs hw => ?_)
        refine lv_aload_n hx hb dL_law_1005 rfl (lv_at hl 2 rfl) ?_
        obtain ⟨v1006, hv1006, hf⟩ := ob_e hf
        refine xcallV (ws' := (wC g h now snap has hist ent res num col ++ wM g hm v1006.2 ss states stateMany snapshot hasSnapshot text length at_ isWell rd readMany top bottom digit digitMany other otherMany column columnMany carryMany chainMost ++ [(ho, .inl (g.2.2.2.1, 1, .inr (.inl arr)))] ++ [(hd, .inl (g.2.2.2.2, 1, .inr (.inr (.inr (.inl ard)))))])) (st1 := [.int v1006.1, .int v1002]) (n := 45) E hw [] [34, 35, 36, 37, 38, 39, 40, 41, 42] (met_X11_base l g hm thrown ss states stateMany snapshot hasSnapshot text length at_ isWell rd readMany top bottom digit digitMany other otherMany column columnMany carryMany chainMost v1006 hv1006) rfl (by decide) rfl rfl [0, 1, 2, 3, 4, 5, 6, 7, 8, 9, 10, 11, 12, 13, 14, 15, 16, 17, 18, 19, 20, 21, 22, 23, 24, 25, 26, 27, 28, 29, 30, 31, 32, 33, 45, 46, 47, 48, 49, 50, 51, 52, 53, 43, 44] rfl (by decide +kernel) rfl rfl rfl rfl qw1269 k_X11_base ⟨rfl, rfl, Nat.le_of_ble_eq_true rfl, Nat.le_of_ble_eq_true rfl⟩ ⟨by show _ ≤ 601024; omega, by show _ ≤ 7293034; omega⟩ hl.1 (Nat.le_of_ble_eq_true rfl) dL_law_1006 rfl (fun H locs hw => ?_)
        refine lv_icmp_eq (tgt := 2616) hx hb dL_law_1009 (by decide) (fun c1009 => ?_) (fun c1009 => ?_)
        · replace hf := ip c1009 hf
          exact b2616 _ _ _ (ce + 0) (sl + 0) now snap has hist ent res num col v1006.2 ss states stateMany snapshot hasSnapshot text length at_ isWell rd readMany top bottom digit digitMany other otherMany column columnMany carryMany chainMost arr ard x5 (by omega) hw (lv_sub hl [0, 1, 2, 3, 4, 5] rfl) hf
        · replace hf := iq c1009 hf
          refine lv_iconst (v := 0) hx hb dL_law_1012 (by decide) ?_
          exact absurd (Option.some.inj hf) (by decide)
      replace hf := iq hk hf
      by_cases hk : ((xs x5.toNatClampNeg) &&& 63) = 18
      · replace hf := ip hk hf
        refine lv_tableIn (tgt := 1014) (off := 970) hx hb dL_law_44 (by rw [hk]; decide) (by rw [hk]; decide) (by rw [hk]; rfl) (by decide) ?_
        refine lv_aload_n hx hb dL_law_1014 rfl (lv_at hl 1 rfl) ?_
        refine lv_aload_n hx hb dL_law_1015 rfl (lv_at hl 0 rfl) ?_
        refine lv_iload hx hb dL_law_1016 (lv_at hl 5 rfl) ?_
        refine lv_iconst (v := 1) hx hb dL_law_1018 (by decide) ?_
        refine lv_iadd hx hb dL_law_1019 ?_
        obtain ⟨hz, hf⟩ := nz hf
        refine va_sld hx hb hXs hbl hbA hw.2.2 hz dL_law_1020 ?_
        refine lv_aload_n hx hb dL_law_1021 rfl (lv_at hl 3 rfl) ?_
        obtain ⟨v1022, hv1022, hf⟩ := ob_e hf
        refine xcallW (ws' := (wC g h now snap has hist ent res num col ++ wM g hm thrown ss states stateMany snapshot hasSnapshot text length at_ isWell rd readMany top bottom digit digitMany other otherMany column columnMany carryMany chainMost ++ [(ho, .inl (g.2.2.2.1, 1, .inr (.inl v1022.2)))] ++ [(hd, .inl (g.2.2.2.2, 1, .inr (.inr (.inr (.inl ard)))))])) (st1 := [.int v1022.1]) (n := 45) E hX hNc hw [.ref (h 0), .int (xs (x5 + 1).toNatClampNeg), .ref ho] [0, 1, 2, 3, 4, 5, 6, 7, 8, 9, 10, 11, 12, 13, 14, 15, 16, 17, 18, 19, 20, 21, 22, 23, 24, 25, 26, 27, 28, 29, 30, 31, 32, 33, 43] (met_L_numerator l hlT g h ho now snap has hist ent res num col arr (xs (x5 + 1).toNatClampNeg) v1022 hv1022) rfl (by decide) rfl rfl [45, 46, 47, 48, 49, 50, 51, 52, 53, 54, 55, 56, 57, 58, 59, 60, 61, 62, 63, 64, 65, 66, 67, 68, 69, 70, 71, 72, 73, 74, 75, 76, 77, 78, 34, 35, 36, 37, 38, 39, 40, 41, 42, 79, 44] rfl (by decide +kernel) rfl qw898 k_L_numerator ⟨rfl, rfl, Nat.le_of_ble_eq_true rfl, Nat.le_of_ble_eq_true rfl⟩ ⟨by show _ ≤ 601024; omega, by show _ ≤ 7293034; omega⟩ hl.1 (Nat.le_of_ble_eq_true rfl) dL_law_1022 rfl (fun H locs hw => ?_)
        refine lv_istore (lv' := [(6, .int v1022.1), (0, .ref b), (1, .ref (h 0)), (2, .ref (hm 0)), (3, .ref ho), (4, .ref hd), (5, .int x5)]) hx hb dL_law_1025 hl (by decide) rfl (fun ls hl => ?_)
        refine lv_aload_n hx hb dL_law_1027 rfl (lv_at hl 3 rfl) ?_
        refine lv_aload_n hx hb dL_law_1028 rfl (lv_at hl 1 rfl) ?_
        refine lv_iload hx hb dL_law_1029 (lv_at hl 6 rfl) ?_
        refine lv_iconst (v := 1) hx hb dL_law_1031 (by decide) ?_
        refine lv_iadd hx hb dL_law_1032 ?_
        obtain ⟨hz, hf⟩ := nz hf
        refine va_sld hx hb hXs hbl hbA hw.2.2 hz dL_law_1033 ?_
        obtain ⟨v1034, hv1034, hf⟩ := ob_e hf
        refine xcallV (ws' := (wC g h now snap has hist ent res num col ++ wM g hm v1034.2 ss states stateMany snapshot hasSnapshot text length at_ isWell rd readMany top bottom digit digitMany other otherMany column columnMany carryMany chainMost ++ [(ho, .inl (g.2.2.2.1, 1, .inr (.inl v1022.2)))] ++ [(hd, .inl (g.2.2.2.2, 1, .inr (.inr (.inr (.inl ard)))))])) (st1 := [.int v1034.1]) (n := 45) E hw [.int (xs (x5 + 1).toNatClampNeg)] [34, 35, 36, 37, 38, 39, 40, 41, 42] (met_X11_numerator l g hm thrown ss states stateMany snapshot hasSnapshot text length at_ isWell rd readMany top bottom digit digitMany other otherMany column columnMany carryMany chainMost (xs (x5 + 1).toNatClampNeg) v1034 hv1034) rfl (by decide) rfl rfl [0, 1, 2, 3, 4, 5, 6, 7, 8, 9, 10, 11, 12, 13, 14, 15, 16, 17, 18, 19, 20, 21, 22, 23, 24, 25, 26, 27, 28, 29, 30, 31, 32, 33, 45, 46, 47, 48, 49, 50, 51, 52, 53, 43, 44] rfl (by decide +kernel) rfl rfl rfl rfl qw1273 k_X11_numerator ⟨rfl, rfl, Nat.le_of_ble_eq_true rfl, Nat.le_of_ble_eq_true rfl⟩ ⟨by show _ ≤ 601024; omega, by show _ ≤ 7293034; omega⟩ hl.1 (Nat.le_of_ble_eq_true rfl) dL_law_1034 rfl (fun H locs hw => ?_)
        refine lv_istore (lv' := [(7, .int v1034.1), (6, .int v1022.1), (0, .ref b), (1, .ref (h 0)), (2, .ref (hm 0)), (3, .ref ho), (4, .ref hd), (5, .int x5)]) hx hb dL_law_1037 hl (by decide) rfl (fun ls hl => ?_)
        refine lv_aload_n hx hb dL_law_1039 rfl (lv_at hl 4 rfl) ?_
        obtain ⟨v1040, hv1040, hf⟩ := ob_e hf
        refine xcallV (ws' := (wC g h now snap has hist ent res num col ++ wM g hm v1034.2 ss states stateMany snapshot hasSnapshot text length at_ isWell rd readMany top bottom digit digitMany other otherMany column columnMany carryMany chainMost ++ [(ho, .inl (g.2.2.2.1, 1, .inr (.inl v1022.2)))] ++ [(hd, .inl (g.2.2.2.2, 1, .inr (.inr (.inr (.inl ard)))))])) (st1 := [.int v1040]) (n := 45) E hw [] [34, 35, 36, 37, 38, 39, 40, 41, 42] (met_X11_thrown l g hm v1034.2 ss states stateMany snapshot hasSnapshot text length at_ isWell rd readMany top bottom digit digitMany other otherMany column columnMany carryMany chainMost v1040 hv1040) rfl (by decide) rfl rfl [0, 1, 2, 3, 4, 5, 6, 7, 8, 9, 10, 11, 12, 13, 14, 15, 16, 17, 18, 19, 20, 21, 22, 23, 24, 25, 26, 27, 28, 29, 30, 31, 32, 33, 45, 46, 47, 48, 49, 50, 51, 52, 53, 43, 44] rfl (by decide +kernel) rfl rfl rfl rfl qw1086 k_X11_thrown ⟨rfl, rfl, Nat.le_of_ble_eq_true rfl, Nat.le_of_ble_eq_true rfl⟩ ⟨by show _ ≤ 601024; omega, by show _ ≤ 7293034; omega⟩ hl.1 (Nat.le_of_ble_eq_true rfl) dL_law_1040 rfl (fun H locs hw => ?_)
        refine lv_iload hx hb dL_law_1043 (lv_at hl 1 rfl) ?_
        refine lv_icmp_eq (tgt := 1050) hx hb dL_law_1045 (by decide) (fun c1045 => ?_) (fun c1045 => ?_)
        · replace hf := ip c1045 hf
          refine lv_iload hx hb dL_law_1050 (lv_at hl 1 rfl) ?_
          refine lv_if_ne (tgt := 1067) hx hb dL_law_1052 (by decide) (fun c1052 => ?_) (fun c1052 => ?_)
          · replace hf := iq c1052 hf
            exact b1067 _ _ _ (ce + 1) (sl + 6) now snap has hist ent res num col v1034.2 ss states stateMany snapshot hasSnapshot text length at_ isWell rd readMany top bottom digit digitMany other otherMany column columnMany carryMany chainMost v1022.2 ard x5 (by omega) hw (lv_sub hl [2, 3, 4, 5, 6, 7] rfl) hf
          · replace hf := ip c1052 hf
            refine lv_aload_n hx hb dL_law_1055 rfl (lv_at hl 5 rfl) ?_
            refine lv_iconst (v := 0) hx hb dL_law_1056 (by decide) ?_
            refine xlald E hw 43 rfl (by decide) dL_law_1057 ?_
            refine lv_iload hx hb dL_law_1058 (lv_at hl 0 rfl) ?_
            refine lv_i2l hx hb dL_law_1060 rfl ?_
            refine xlc_eq (tgt := 1067) hx hb dL_law_1061 dL_law_1062 (by decide) (fun c1061 => ?_) (fun c1061 => ?_)
            · replace hf := ip c1061 hf
              exact b1067 _ _ _ (ce + 1) (sl + 6) now snap has hist ent res num col v1034.2 ss states stateMany snapshot hasSnapshot text length at_ isWell rd readMany top bottom digit digitMany other otherMany column columnMany carryMany chainMost v1022.2 ard x5 (by omega) hw (lv_sub hl [2, 3, 4, 5, 6, 7] rfl) hf
            · replace hf := iq c1061 hf
              refine lv_iconst (v := 0) hx hb dL_law_1065 (by decide) ?_
              exact absurd (Option.some.inj hf) (by decide)
        · replace hf := iq c1045 hf
          refine lv_iconst (v := 0) hx hb dL_law_1048 (by decide) ?_
          exact absurd (Option.some.inj hf) (by decide)
      replace hf := iq hk hf
      by_cases hk : ((xs x5.toNatClampNeg) &&& 63) = 19
      · replace hf := ip hk hf
        refine lv_tableIn (tgt := 1070) (off := 1026) hx hb dL_law_44 (by rw [hk]; decide) (by rw [hk]; decide) (by rw [hk]; rfl) (by decide) ?_
        refine lv_aload_n hx hb dL_law_1070 rfl (lv_at hl 1 rfl) ?_
        refine lv_aload_n hx hb dL_law_1071 rfl (lv_at hl 0 rfl) ?_
        refine lv_iload hx hb dL_law_1072 (lv_at hl 5 rfl) ?_
        refine lv_iconst (v := 1) hx hb dL_law_1074 (by decide) ?_
        refine lv_iadd hx hb dL_law_1075 ?_
        obtain ⟨hz, hf⟩ := nz hf
        refine va_sld hx hb hXs hbl hbA hw.2.2 hz dL_law_1076 ?_
        refine lv_aload_n hx hb dL_law_1077 rfl (lv_at hl 3 rfl) ?_
        obtain ⟨v1078, hv1078, hf⟩ := ob_e hf
        refine xcallW (ws' := (wC g h now snap has hist ent res num col ++ wM g hm thrown ss states stateMany snapshot hasSnapshot text length at_ isWell rd readMany top bottom digit digitMany other otherMany column columnMany carryMany chainMost ++ [(ho, .inl (g.2.2.2.1, 1, .inr (.inl v1078.2)))] ++ [(hd, .inl (g.2.2.2.2, 1, .inr (.inr (.inr (.inl ard)))))])) (st1 := [.int v1078.1]) (n := 45) E hX hNc hw [.ref (h 0), .int (xs (x5 + 1).toNatClampNeg), .ref ho] [0, 1, 2, 3, 4, 5, 6, 7, 8, 9, 10, 11, 12, 13, 14, 15, 16, 17, 18, 19, 20, 21, 22, 23, 24, 25, 26, 27, 28, 29, 30, 31, 32, 33, 43] (met_L_denominator l hlT g h ho now snap has hist ent res num col arr (xs (x5 + 1).toNatClampNeg) v1078 hv1078) rfl (by decide) rfl rfl [45, 46, 47, 48, 49, 50, 51, 52, 53, 54, 55, 56, 57, 58, 59, 60, 61, 62, 63, 64, 65, 66, 67, 68, 69, 70, 71, 72, 73, 74, 75, 76, 77, 78, 34, 35, 36, 37, 38, 39, 40, 41, 42, 79, 44] rfl (by decide +kernel) rfl qw902 k_L_denominator ⟨rfl, rfl, Nat.le_of_ble_eq_true rfl, Nat.le_of_ble_eq_true rfl⟩ ⟨by show _ ≤ 601024; omega, by show _ ≤ 7293034; omega⟩ hl.1 (Nat.le_of_ble_eq_true rfl) dL_law_1078 rfl (fun H locs hw => ?_)
        refine lv_istore (lv' := [(6, .int v1078.1), (0, .ref b), (1, .ref (h 0)), (2, .ref (hm 0)), (3, .ref ho), (4, .ref hd), (5, .int x5)]) hx hb dL_law_1081 hl (by decide) rfl (fun ls hl => ?_)
        refine lv_aload_n hx hb dL_law_1083 rfl (lv_at hl 3 rfl) ?_
        refine lv_aload_n hx hb dL_law_1084 rfl (lv_at hl 1 rfl) ?_
        refine lv_iload hx hb dL_law_1085 (lv_at hl 6 rfl) ?_
        refine lv_iconst (v := 1) hx hb dL_law_1087 (by decide) ?_
        refine lv_iadd hx hb dL_law_1088 ?_
        obtain ⟨hz, hf⟩ := nz hf
        refine va_sld hx hb hXs hbl hbA hw.2.2 hz dL_law_1089 ?_
        obtain ⟨v1090, hv1090, hf⟩ := ob_e hf
        refine xcallV (ws' := (wC g h now snap has hist ent res num col ++ wM g hm v1090.2 ss states stateMany snapshot hasSnapshot text length at_ isWell rd readMany top bottom digit digitMany other otherMany column columnMany carryMany chainMost ++ [(ho, .inl (g.2.2.2.1, 1, .inr (.inl v1078.2)))] ++ [(hd, .inl (g.2.2.2.2, 1, .inr (.inr (.inr (.inl ard)))))])) (st1 := [.int v1090.1]) (n := 45) E hw [.int (xs (x5 + 1).toNatClampNeg)] [34, 35, 36, 37, 38, 39, 40, 41, 42] (met_X11_denominator l g hm thrown ss states stateMany snapshot hasSnapshot text length at_ isWell rd readMany top bottom digit digitMany other otherMany column columnMany carryMany chainMost (xs (x5 + 1).toNatClampNeg) v1090 hv1090) rfl (by decide) rfl rfl [0, 1, 2, 3, 4, 5, 6, 7, 8, 9, 10, 11, 12, 13, 14, 15, 16, 17, 18, 19, 20, 21, 22, 23, 24, 25, 26, 27, 28, 29, 30, 31, 32, 33, 45, 46, 47, 48, 49, 50, 51, 52, 53, 43, 44] rfl (by decide +kernel) rfl rfl rfl rfl qw1277 k_X11_denominator ⟨rfl, rfl, Nat.le_of_ble_eq_true rfl, Nat.le_of_ble_eq_true rfl⟩ ⟨by show _ ≤ 601024; omega, by show _ ≤ 7293034; omega⟩ hl.1 (Nat.le_of_ble_eq_true rfl) dL_law_1090 rfl (fun H locs hw => ?_)
        refine lv_istore (lv' := [(7, .int v1090.1), (6, .int v1078.1), (0, .ref b), (1, .ref (h 0)), (2, .ref (hm 0)), (3, .ref ho), (4, .ref hd), (5, .int x5)]) hx hb dL_law_1093 hl (by decide) rfl (fun ls hl => ?_)
        refine lv_aload_n hx hb dL_law_1095 rfl (lv_at hl 4 rfl) ?_
        obtain ⟨v1096, hv1096, hf⟩ := ob_e hf
        refine xcallV (ws' := (wC g h now snap has hist ent res num col ++ wM g hm v1090.2 ss states stateMany snapshot hasSnapshot text length at_ isWell rd readMany top bottom digit digitMany other otherMany column columnMany carryMany chainMost ++ [(ho, .inl (g.2.2.2.1, 1, .inr (.inl v1078.2)))] ++ [(hd, .inl (g.2.2.2.2, 1, .inr (.inr (.inr (.inl ard)))))])) (st1 := [.int v1096]) (n := 45) E hw [] [34, 35, 36, 37, 38, 39, 40, 41, 42] (met_X11_thrown l g hm v1090.2 ss states stateMany snapshot hasSnapshot text length at_ isWell rd readMany top bottom digit digitMany other otherMany column columnMany carryMany chainMost v1096 hv1096) rfl (by decide) rfl rfl [0, 1, 2, 3, 4, 5, 6, 7, 8, 9, 10, 11, 12, 13, 14, 15, 16, 17, 18, 19, 20, 21, 22, 23, 24, 25, 26, 27, 28, 29, 30, 31, 32, 33, 45, 46, 47, 48, 49, 50, 51, 52, 53, 43, 44] rfl (by decide +kernel) rfl rfl rfl rfl qw1086 k_X11_thrown ⟨rfl, rfl, Nat.le_of_ble_eq_true rfl, Nat.le_of_ble_eq_true rfl⟩ ⟨by show _ ≤ 601024; omega, by show _ ≤ 7293034; omega⟩ hl.1 (Nat.le_of_ble_eq_true rfl) dL_law_1096 rfl (fun H locs hw => ?_)
        refine lv_iload hx hb dL_law_1099 (lv_at hl 1 rfl) ?_
        refine lv_icmp_eq (tgt := 1106) hx hb dL_law_1101 (by decide) (fun c1101 => ?_) (fun c1101 => ?_)
        · replace hf := ip c1101 hf
          refine lv_iload hx hb dL_law_1106 (lv_at hl 1 rfl) ?_
          refine lv_if_ne (tgt := 1123) hx hb dL_law_1108 (by decide) (fun c1108 => ?_) (fun c1108 => ?_)
          · replace hf := iq c1108 hf
            exact b1123 _ _ _ (ce + 1) (sl + 6) now snap has hist ent res num col v1090.2 ss states stateMany snapshot hasSnapshot text length at_ isWell rd readMany top bottom digit digitMany other otherMany column columnMany carryMany chainMost v1078.2 ard x5 (by omega) hw (lv_sub hl [2, 3, 4, 5, 6, 7] rfl) hf
          · replace hf := ip c1108 hf
            refine lv_aload_n hx hb dL_law_1111 rfl (lv_at hl 5 rfl) ?_
            refine lv_iconst (v := 0) hx hb dL_law_1112 (by decide) ?_
            refine xlald E hw 43 rfl (by decide) dL_law_1113 ?_
            refine lv_iload hx hb dL_law_1114 (lv_at hl 0 rfl) ?_
            refine lv_i2l hx hb dL_law_1116 rfl ?_
            refine xlc_eq (tgt := 1123) hx hb dL_law_1117 dL_law_1118 (by decide) (fun c1117 => ?_) (fun c1117 => ?_)
            · replace hf := ip c1117 hf
              exact b1123 _ _ _ (ce + 1) (sl + 6) now snap has hist ent res num col v1090.2 ss states stateMany snapshot hasSnapshot text length at_ isWell rd readMany top bottom digit digitMany other otherMany column columnMany carryMany chainMost v1078.2 ard x5 (by omega) hw (lv_sub hl [2, 3, 4, 5, 6, 7] rfl) hf
            · replace hf := iq c1117 hf
              refine lv_iconst (v := 0) hx hb dL_law_1121 (by decide) ?_
              exact absurd (Option.some.inj hf) (by decide)
        · replace hf := iq c1101 hf
          refine lv_iconst (v := 0) hx hb dL_law_1104 (by decide) ?_
          exact absurd (Option.some.inj hf) (by decide)
      replace hf := iq hk hf
      by_cases hk : ((xs x5.toNatClampNeg) &&& 63) = 20
      · replace hf := ip hk hf
        refine lv_tableIn (tgt := 1126) (off := 1082) hx hb dL_law_44 (by rw [hk]; decide) (by rw [hk]; decide) (by rw [hk]; rfl) (by decide) ?_
        refine lv_aload_n hx hb dL_law_1126 rfl (lv_at hl 1 rfl) ?_
        refine lv_aload_n hx hb dL_law_1127 rfl (lv_at hl 0 rfl) ?_
        refine lv_iload hx hb dL_law_1128 (lv_at hl 5 rfl) ?_
        refine lv_iconst (v := 1) hx hb dL_law_1130 (by decide) ?_
        refine lv_iadd hx hb dL_law_1131 ?_
        obtain ⟨hz, hf⟩ := nz hf
        refine va_sld hx hb hXs hbl hbA hw.2.2 hz dL_law_1132 ?_
        refine lv_aload_n hx hb dL_law_1133 rfl (lv_at hl 3 rfl) ?_
        obtain ⟨v1134, hv1134, hf⟩ := ob_e hf
        refine xcallW (ws' := (wC g h now snap has hist ent res num col ++ wM g hm thrown ss states stateMany snapshot hasSnapshot text length at_ isWell rd readMany top bottom digit digitMany other otherMany column columnMany carryMany chainMost ++ [(ho, .inl (g.2.2.2.1, 1, .inr (.inl v1134.2)))] ++ [(hd, .inl (g.2.2.2.2, 1, .inr (.inr (.inr (.inl ard)))))])) (st1 := [.int v1134.1]) (n := 45) E hX hNc hw [.ref (h 0), .int (xs (x5 + 1).toNatClampNeg), .ref ho] [0, 1, 2, 3, 4, 5, 6, 7, 8, 9, 10, 11, 12, 13, 14, 15, 16, 17, 18, 19, 20, 21, 22, 23, 24, 25, 26, 27, 28, 29, 30, 31, 32, 33, 43] (met_L_whole l hlT g h ho now snap has hist ent res num col arr (xs (x5 + 1).toNatClampNeg) v1134 hv1134) rfl (by decide) rfl rfl [45, 46, 47, 48, 49, 50, 51, 52, 53, 54, 55, 56, 57, 58, 59, 60, 61, 62, 63, 64, 65, 66, 67, 68, 69, 70, 71, 72, 73, 74, 75, 76, 77, 78, 34, 35, 36, 37, 38, 39, 40, 41, 42, 79, 44] rfl (by decide +kernel) rfl qw906 k_L_whole ⟨rfl, rfl, Nat.le_of_ble_eq_true rfl, Nat.le_of_ble_eq_true rfl⟩ ⟨by show _ ≤ 601024; omega, by show _ ≤ 7293034; omega⟩ hl.1 (Nat.le_of_ble_eq_true rfl) dL_law_1134 rfl (fun H locs hw => ?_)
        refine lv_istore (lv' := [(6, .int v1134.1), (0, .ref b), (1, .ref (h 0)), (2, .ref (hm 0)), (3, .ref ho), (4, .ref hd), (5, .int x5)]) hx hb dL_law_1137 hl (by decide) rfl (fun ls hl => ?_)
        refine lv_aload_n hx hb dL_law_1139 rfl (lv_at hl 3 rfl) ?_
        refine lv_aload_n hx hb dL_law_1140 rfl (lv_at hl 1 rfl) ?_
        refine lv_iload hx hb dL_law_1141 (lv_at hl 6 rfl) ?_
        refine lv_iconst (v := 1) hx hb dL_law_1143 (by decide) ?_
        refine lv_iadd hx hb dL_law_1144 ?_
        obtain ⟨hz, hf⟩ := nz hf
        refine va_sld hx hb hXs hbl hbA hw.2.2 hz dL_law_1145 ?_
        obtain ⟨v1146, hv1146, hf⟩ := ob_e hf
        refine xcallV (ws' := (wC g h now snap has hist ent res num col ++ wM g hm v1146.2 ss states stateMany snapshot hasSnapshot text length at_ isWell rd readMany top bottom digit digitMany other otherMany column columnMany carryMany chainMost ++ [(ho, .inl (g.2.2.2.1, 1, .inr (.inl v1134.2)))] ++ [(hd, .inl (g.2.2.2.2, 1, .inr (.inr (.inr (.inl ard)))))])) (st1 := [.int v1146.1]) (n := 45) E hw [.int (xs (x5 + 1).toNatClampNeg)] [34, 35, 36, 37, 38, 39, 40, 41, 42] (met_X11_whole l g hm thrown ss states stateMany snapshot hasSnapshot text length at_ isWell rd readMany top bottom digit digitMany other otherMany column columnMany carryMany chainMost (xs (x5 + 1).toNatClampNeg) v1146 hv1146) rfl (by decide) rfl rfl [0, 1, 2, 3, 4, 5, 6, 7, 8, 9, 10, 11, 12, 13, 14, 15, 16, 17, 18, 19, 20, 21, 22, 23, 24, 25, 26, 27, 28, 29, 30, 31, 32, 33, 45, 46, 47, 48, 49, 50, 51, 52, 53, 43, 44] rfl (by decide +kernel) rfl rfl rfl rfl qw1281 k_X11_whole ⟨rfl, rfl, Nat.le_of_ble_eq_true rfl, Nat.le_of_ble_eq_true rfl⟩ ⟨by show _ ≤ 601024; omega, by show _ ≤ 7293034; omega⟩ hl.1 (Nat.le_of_ble_eq_true rfl) dL_law_1146 rfl (fun H locs hw => ?_)
        refine lv_istore (lv' := [(7, .int v1146.1), (6, .int v1134.1), (0, .ref b), (1, .ref (h 0)), (2, .ref (hm 0)), (3, .ref ho), (4, .ref hd), (5, .int x5)]) hx hb dL_law_1149 hl (by decide) rfl (fun ls hl => ?_)
        refine lv_aload_n hx hb dL_law_1151 rfl (lv_at hl 4 rfl) ?_
        obtain ⟨v1152, hv1152, hf⟩ := ob_e hf
        refine xcallV (ws' := (wC g h now snap has hist ent res num col ++ wM g hm v1146.2 ss states stateMany snapshot hasSnapshot text length at_ isWell rd readMany top bottom digit digitMany other otherMany column columnMany carryMany chainMost ++ [(ho, .inl (g.2.2.2.1, 1, .inr (.inl v1134.2)))] ++ [(hd, .inl (g.2.2.2.2, 1, .inr (.inr (.inr (.inl ard)))))])) (st1 := [.int v1152]) (n := 45) E hw [] [34, 35, 36, 37, 38, 39, 40, 41, 42] (met_X11_thrown l g hm v1146.2 ss states stateMany snapshot hasSnapshot text length at_ isWell rd readMany top bottom digit digitMany other otherMany column columnMany carryMany chainMost v1152 hv1152) rfl (by decide) rfl rfl [0, 1, 2, 3, 4, 5, 6, 7, 8, 9, 10, 11, 12, 13, 14, 15, 16, 17, 18, 19, 20, 21, 22, 23, 24, 25, 26, 27, 28, 29, 30, 31, 32, 33, 45, 46, 47, 48, 49, 50, 51, 52, 53, 43, 44] rfl (by decide +kernel) rfl rfl rfl rfl qw1086 k_X11_thrown ⟨rfl, rfl, Nat.le_of_ble_eq_true rfl, Nat.le_of_ble_eq_true rfl⟩ ⟨by show _ ≤ 601024; omega, by show _ ≤ 7293034; omega⟩ hl.1 (Nat.le_of_ble_eq_true rfl) dL_law_1152 rfl (fun H locs hw => ?_)
        refine lv_iload hx hb dL_law_1155 (lv_at hl 1 rfl) ?_
        refine lv_icmp_eq (tgt := 1162) hx hb dL_law_1157 (by decide) (fun c1157 => ?_) (fun c1157 => ?_)
        · replace hf := ip c1157 hf
          refine lv_iload hx hb dL_law_1162 (lv_at hl 1 rfl) ?_
          refine lv_if_ne (tgt := 1179) hx hb dL_law_1164 (by decide) (fun c1164 => ?_) (fun c1164 => ?_)
          · replace hf := iq c1164 hf
            exact b1179 _ _ _ (ce + 1) (sl + 6) now snap has hist ent res num col v1146.2 ss states stateMany snapshot hasSnapshot text length at_ isWell rd readMany top bottom digit digitMany other otherMany column columnMany carryMany chainMost v1134.2 ard x5 (by omega) hw (lv_sub hl [2, 3, 4, 5, 6, 7] rfl) hf
          · replace hf := ip c1164 hf
            refine lv_aload_n hx hb dL_law_1167 rfl (lv_at hl 5 rfl) ?_
            refine lv_iconst (v := 0) hx hb dL_law_1168 (by decide) ?_
            refine xlald E hw 43 rfl (by decide) dL_law_1169 ?_
            refine lv_iload hx hb dL_law_1170 (lv_at hl 0 rfl) ?_
            refine lv_i2l hx hb dL_law_1172 rfl ?_
            refine xlc_eq (tgt := 1179) hx hb dL_law_1173 dL_law_1174 (by decide) (fun c1173 => ?_) (fun c1173 => ?_)
            · replace hf := ip c1173 hf
              exact b1179 _ _ _ (ce + 1) (sl + 6) now snap has hist ent res num col v1146.2 ss states stateMany snapshot hasSnapshot text length at_ isWell rd readMany top bottom digit digitMany other otherMany column columnMany carryMany chainMost v1134.2 ard x5 (by omega) hw (lv_sub hl [2, 3, 4, 5, 6, 7] rfl) hf
            · replace hf := iq c1173 hf
              refine lv_iconst (v := 0) hx hb dL_law_1177 (by decide) ?_
              exact absurd (Option.some.inj hf) (by decide)
        · replace hf := iq c1157 hf
          refine lv_iconst (v := 0) hx hb dL_law_1160 (by decide) ?_
          exact absurd (Option.some.inj hf) (by decide)
      replace hf := iq hk hf
      by_cases hk : ((xs x5.toNatClampNeg) &&& 63) = 21
      · replace hf := ip hk hf
        refine lv_tableIn (tgt := 1182) (off := 1138) hx hb dL_law_44 (by rw [hk]; decide) (by rw [hk]; decide) (by rw [hk]; rfl) (by decide) ?_
        refine lv_aload_n hx hb dL_law_1182 rfl (lv_at hl 1 rfl) ?_
        refine lv_aload_n hx hb dL_law_1183 rfl (lv_at hl 0 rfl) ?_
        refine lv_iload hx hb dL_law_1184 (lv_at hl 5 rfl) ?_
        refine lv_iconst (v := 1) hx hb dL_law_1186 (by decide) ?_
        refine lv_iadd hx hb dL_law_1187 ?_
        obtain ⟨hz, hf⟩ := nz hf
        refine va_sld hx hb hXs hbl hbA hw.2.2 hz dL_law_1188 ?_
        refine lv_aload_n hx hb dL_law_1189 rfl (lv_at hl 0 rfl) ?_
        refine lv_iload hx hb dL_law_1190 (lv_at hl 5 rfl) ?_
        refine lv_iconst (v := 2) hx hb dL_law_1192 (by decide) ?_
        refine lv_iadd hx hb dL_law_1193 ?_
        obtain ⟨hz, hf⟩ := nz hf
        refine va_sld hx hb hXs hbl hbA hw.2.2 hz dL_law_1194 ?_
        refine lv_aload_n hx hb dL_law_1195 rfl (lv_at hl 3 rfl) ?_
        obtain ⟨v1196, hv1196, hf⟩ := ob_e hf
        refine xcallW (ws' := (wC g h now snap has hist ent res num col ++ wM g hm thrown ss states stateMany snapshot hasSnapshot text length at_ isWell rd readMany top bottom digit digitMany other otherMany column columnMany carryMany chainMost ++ [(ho, .inl (g.2.2.2.1, 1, .inr (.inl v1196.2)))] ++ [(hd, .inl (g.2.2.2.2, 1, .inr (.inr (.inr (.inl ard)))))])) (st1 := [.int v1196.1]) (n := 45) E hX hNc hw [.ref (h 0), .int (xs (x5 + 1).toNatClampNeg), .int (xs (x5 + 2).toNatClampNeg), .ref ho] [0, 1, 2, 3, 4, 5, 6, 7, 8, 9, 10, 11, 12, 13, 14, 15, 16, 17, 18, 19, 20, 21, 22, 23, 24, 25, 26, 27, 28, 29, 30, 31, 32, 33, 43] (met_L_compare l hlT g h ho now snap has hist ent res num col arr (xs (x5 + 1).toNatClampNeg) (xs (x5 + 2).toNatClampNeg) v1196 hv1196) rfl (by decide) rfl rfl [45, 46, 47, 48, 49, 50, 51, 52, 53, 54, 55, 56, 57, 58, 59, 60, 61, 62, 63, 64, 65, 66, 67, 68, 69, 70, 71, 72, 73, 74, 75, 76, 77, 78, 34, 35, 36, 37, 38, 39, 40, 41, 42, 79, 44] rfl (by decide +kernel) rfl qw910 k_L_compare ⟨rfl, rfl, Nat.le_of_ble_eq_true rfl, Nat.le_of_ble_eq_true rfl⟩ ⟨by show _ ≤ 601024; omega, by show _ ≤ 7293034; omega⟩ hl.1 (Nat.le_of_ble_eq_true rfl) dL_law_1196 rfl (fun H locs hw => ?_)
        refine lv_istore (lv' := [(6, .int v1196.1), (0, .ref b), (1, .ref (h 0)), (2, .ref (hm 0)), (3, .ref ho), (4, .ref hd), (5, .int x5)]) hx hb dL_law_1199 hl (by decide) rfl (fun ls hl => ?_)
        refine lv_aload_n hx hb dL_law_1201 rfl (lv_at hl 3 rfl) ?_
        refine lv_aload_n hx hb dL_law_1202 rfl (lv_at hl 1 rfl) ?_
        refine lv_iload hx hb dL_law_1203 (lv_at hl 6 rfl) ?_
        refine lv_iconst (v := 1) hx hb dL_law_1205 (by decide) ?_
        refine lv_iadd hx hb dL_law_1206 ?_
        obtain ⟨hz, hf⟩ := nz hf
        refine va_sld hx hb hXs hbl hbA hw.2.2 hz dL_law_1207 ?_
        refine lv_aload_n hx hb dL_law_1208 rfl (lv_at hl 1 rfl) ?_
        refine lv_iload hx hb dL_law_1209 (lv_at hl 6 rfl) ?_
        refine lv_iconst (v := 2) hx hb dL_law_1211 (by decide) ?_
        refine lv_iadd hx hb dL_law_1212 ?_
        obtain ⟨hz, hf⟩ := nz hf
        refine va_sld hx hb hXs hbl hbA hw.2.2 hz dL_law_1213 ?_
        obtain ⟨v1214, hv1214, hf⟩ := ob_e hf
        refine xcallV (ws' := (wC g h now snap has hist ent res num col ++ wM g hm v1214.2 ss states stateMany snapshot hasSnapshot text length at_ isWell rd readMany top bottom digit digitMany other otherMany column columnMany carryMany chainMost ++ [(ho, .inl (g.2.2.2.1, 1, .inr (.inl v1196.2)))] ++ [(hd, .inl (g.2.2.2.2, 1, .inr (.inr (.inr (.inl ard)))))])) (st1 := [.int v1214.1]) (n := 45) E hw [.int (xs (x5 + 1).toNatClampNeg), .int (xs (x5 + 2).toNatClampNeg)] [34, 35, 36, 37, 38, 39, 40, 41, 42] (met_X11_compare l g hm thrown ss states stateMany snapshot hasSnapshot text length at_ isWell rd readMany top bottom digit digitMany other otherMany column columnMany carryMany chainMost (xs (x5 + 1).toNatClampNeg) (xs (x5 + 2).toNatClampNeg) v1214 hv1214) rfl (by decide) rfl rfl [0, 1, 2, 3, 4, 5, 6, 7, 8, 9, 10, 11, 12, 13, 14, 15, 16, 17, 18, 19, 20, 21, 22, 23, 24, 25, 26, 27, 28, 29, 30, 31, 32, 33, 45, 46, 47, 48, 49, 50, 51, 52, 53, 43, 44] rfl (by decide +kernel) rfl rfl rfl rfl qw1285 k_X11_compare ⟨rfl, rfl, Nat.le_of_ble_eq_true rfl, Nat.le_of_ble_eq_true rfl⟩ ⟨by show _ ≤ 601024; omega, by show _ ≤ 7293034; omega⟩ hl.1 (Nat.le_of_ble_eq_true rfl) dL_law_1214 rfl (fun H locs hw => ?_)
        refine lv_istore (lv' := [(7, .int v1214.1), (6, .int v1196.1), (0, .ref b), (1, .ref (h 0)), (2, .ref (hm 0)), (3, .ref ho), (4, .ref hd), (5, .int x5)]) hx hb dL_law_1217 hl (by decide) rfl (fun ls hl => ?_)
        refine lv_aload_n hx hb dL_law_1219 rfl (lv_at hl 4 rfl) ?_
        obtain ⟨v1220, hv1220, hf⟩ := ob_e hf
        refine xcallV (ws' := (wC g h now snap has hist ent res num col ++ wM g hm v1214.2 ss states stateMany snapshot hasSnapshot text length at_ isWell rd readMany top bottom digit digitMany other otherMany column columnMany carryMany chainMost ++ [(ho, .inl (g.2.2.2.1, 1, .inr (.inl v1196.2)))] ++ [(hd, .inl (g.2.2.2.2, 1, .inr (.inr (.inr (.inl ard)))))])) (st1 := [.int v1220]) (n := 45) E hw [] [34, 35, 36, 37, 38, 39, 40, 41, 42] (met_X11_thrown l g hm v1214.2 ss states stateMany snapshot hasSnapshot text length at_ isWell rd readMany top bottom digit digitMany other otherMany column columnMany carryMany chainMost v1220 hv1220) rfl (by decide) rfl rfl [0, 1, 2, 3, 4, 5, 6, 7, 8, 9, 10, 11, 12, 13, 14, 15, 16, 17, 18, 19, 20, 21, 22, 23, 24, 25, 26, 27, 28, 29, 30, 31, 32, 33, 45, 46, 47, 48, 49, 50, 51, 52, 53, 43, 44] rfl (by decide +kernel) rfl rfl rfl rfl qw1086 k_X11_thrown ⟨rfl, rfl, Nat.le_of_ble_eq_true rfl, Nat.le_of_ble_eq_true rfl⟩ ⟨by show _ ≤ 601024; omega, by show _ ≤ 7293034; omega⟩ hl.1 (Nat.le_of_ble_eq_true rfl) dL_law_1220 rfl (fun H locs hw => ?_)
        refine lv_iload hx hb dL_law_1223 (lv_at hl 1 rfl) ?_
        refine lv_icmp_eq (tgt := 1230) hx hb dL_law_1225 (by decide) (fun c1225 => ?_) (fun c1225 => ?_)
        · replace hf := ip c1225 hf
          refine lv_iload hx hb dL_law_1230 (lv_at hl 1 rfl) ?_
          refine lv_if_ne (tgt := 1247) hx hb dL_law_1232 (by decide) (fun c1232 => ?_) (fun c1232 => ?_)
          · replace hf := iq c1232 hf
            exact b1247 _ _ _ (ce + 1) (sl + 6) now snap has hist ent res num col v1214.2 ss states stateMany snapshot hasSnapshot text length at_ isWell rd readMany top bottom digit digitMany other otherMany column columnMany carryMany chainMost v1196.2 ard x5 (by omega) hw (lv_sub hl [2, 3, 4, 5, 6, 7] rfl) hf
          · replace hf := ip c1232 hf
            refine lv_aload_n hx hb dL_law_1235 rfl (lv_at hl 5 rfl) ?_
            refine lv_iconst (v := 0) hx hb dL_law_1236 (by decide) ?_
            refine xlald E hw 43 rfl (by decide) dL_law_1237 ?_
            refine lv_iload hx hb dL_law_1238 (lv_at hl 0 rfl) ?_
            refine lv_i2l hx hb dL_law_1240 rfl ?_
            refine xlc_eq (tgt := 1247) hx hb dL_law_1241 dL_law_1242 (by decide) (fun c1241 => ?_) (fun c1241 => ?_)
            · replace hf := ip c1241 hf
              exact b1247 _ _ _ (ce + 1) (sl + 6) now snap has hist ent res num col v1214.2 ss states stateMany snapshot hasSnapshot text length at_ isWell rd readMany top bottom digit digitMany other otherMany column columnMany carryMany chainMost v1196.2 ard x5 (by omega) hw (lv_sub hl [2, 3, 4, 5, 6, 7] rfl) hf
            · replace hf := iq c1241 hf
              refine lv_iconst (v := 0) hx hb dL_law_1245 (by decide) ?_
              exact absurd (Option.some.inj hf) (by decide)
        · replace hf := iq c1225 hf
          refine lv_iconst (v := 0) hx hb dL_law_1228 (by decide) ?_
          exact absurd (Option.some.inj hf) (by decide)
      replace hf := iq hk hf
      by_cases hk : ((xs x5.toNatClampNeg) &&& 63) = 22
      · replace hf := ip hk hf
        refine lv_tableIn (tgt := 1250) (off := 1206) hx hb dL_law_44 (by rw [hk]; decide) (by rw [hk]; decide) (by rw [hk]; rfl) (by decide) ?_
        refine lv_aload_n hx hb dL_law_1250 rfl (lv_at hl 1 rfl) ?_
        obtain ⟨v1251, hv1251, hf⟩ := ob_e hf
        refine xcallV (ws' := (wC g h now snap has hist ent res num col ++ wM g hm thrown ss states stateMany snapshot hasSnapshot text length at_ isWell rd readMany top bottom digit digitMany other otherMany column columnMany carryMany chainMost ++ [(ho, .inl (g.2.2.2.1, 1, .inr (.inl arr)))] ++ [(hd, .inl (g.2.2.2.2, 1, .inr (.inr (.inr (.inl ard)))))])) (st1 := [.int v1251]) (n := 45) E hw [] [0, 1, 2, 3, 4, 5, 6, 7, 8, 9, 10, 11, 12, 13, 14, 15, 16, 17, 18, 19, 20, 21, 22, 23, 24, 25, 26, 27, 28, 29, 30, 31, 32, 33] (met_X10_richest l g h now snap has hist ent res num col v1251 hv1251) rfl (by decide) rfl rfl [45, 46, 47, 48, 49, 50, 51, 52, 53, 54, 55, 56, 57, 58, 59, 60, 61, 62, 63, 64, 65, 66, 67, 68, 69, 70, 71, 72, 73, 74, 75, 76, 77, 78, 34, 35, 36, 37, 38, 39, 40, 41, 42, 43, 44] rfl (by decide +kernel) rfl rfl rfl rfl qw332 k_X10_richest ⟨rfl, rfl, Nat.le_of_ble_eq_true rfl, Nat.le_of_ble_eq_true rfl⟩ ⟨by show _ ≤ 601024; omega, by show _ ≤ 7293034; omega⟩ hl.1 (Nat.le_of_ble_eq_true rfl) dL_law_1251 rfl (fun H locs hw => ?_)
        refine lv_aload_n hx hb dL_law_1254 rfl (lv_at hl 2 rfl) ?_
        obtain ⟨v1255, hv1255, hf⟩ := ob_e hf
        refine xcallV (ws' := (wC g h now snap has hist ent res num col ++ wM g hm v1255.2 ss states stateMany snapshot hasSnapshot text length at_ isWell rd readMany top bottom digit digitMany other otherMany column columnMany carryMany chainMost ++ [(ho, .inl (g.2.2.2.1, 1, .inr (.inl arr)))] ++ [(hd, .inl (g.2.2.2.2, 1, .inr (.inr (.inr (.inl ard)))))])) (st1 := [.int v1255.1, .int v1251]) (n := 45) E hw [] [34, 35, 36, 37, 38, 39, 40, 41, 42] (met_X11_richest l g hm thrown ss states stateMany snapshot hasSnapshot text length at_ isWell rd readMany top bottom digit digitMany other otherMany column columnMany carryMany chainMost v1255 hv1255) rfl (by decide) rfl rfl [0, 1, 2, 3, 4, 5, 6, 7, 8, 9, 10, 11, 12, 13, 14, 15, 16, 17, 18, 19, 20, 21, 22, 23, 24, 25, 26, 27, 28, 29, 30, 31, 32, 33, 45, 46, 47, 48, 49, 50, 51, 52, 53, 43, 44] rfl (by decide +kernel) rfl rfl rfl rfl qw1293 k_X11_richest ⟨rfl, rfl, Nat.le_of_ble_eq_true rfl, Nat.le_of_ble_eq_true rfl⟩ ⟨by show _ ≤ 601024; omega, by show _ ≤ 7293034; omega⟩ hl.1 (Nat.le_of_ble_eq_true rfl) dL_law_1255 rfl (fun H locs hw => ?_)
        refine lv_icmp_eq (tgt := 2616) hx hb dL_law_1258 (by decide) (fun c1258 => ?_) (fun c1258 => ?_)
        · replace hf := ip c1258 hf
          exact b2616 _ _ _ (ce + 0) (sl + 0) now snap has hist ent res num col v1255.2 ss states stateMany snapshot hasSnapshot text length at_ isWell rd readMany top bottom digit digitMany other otherMany column columnMany carryMany chainMost arr ard x5 (by omega) hw (lv_sub hl [0, 1, 2, 3, 4, 5] rfl) hf
        · replace hf := iq c1258 hf
          refine lv_iconst (v := 0) hx hb dL_law_1261 (by decide) ?_
          exact absurd (Option.some.inj hf) (by decide)
      replace hf := iq hk hf
      by_cases hk : ((xs x5.toNatClampNeg) &&& 63) = 23
      · replace hf := ip hk hf
        refine lv_tableIn (tgt := 1263) (off := 1219) hx hb dL_law_44 (by rw [hk]; decide) (by rw [hk]; decide) (by rw [hk]; rfl) (by decide) ?_
        refine lv_aload_n hx hb dL_law_1263 rfl (lv_at hl 1 rfl) ?_
        refine lv_aload_n hx hb dL_law_1264 rfl (lv_at hl 0 rfl) ?_
        refine lv_iload hx hb dL_law_1265 (lv_at hl 5 rfl) ?_
        refine lv_iconst (v := 1) hx hb dL_law_1267 (by decide) ?_
        refine lv_iadd hx hb dL_law_1268 ?_
        obtain ⟨hz, hf⟩ := nz hf
        refine va_sld hx hb hXs hbl hbA hw.2.2 hz dL_law_1269 ?_
        refine lv_aload_n hx hb dL_law_1270 rfl (lv_at hl 3 rfl) ?_
        obtain ⟨v1271, hv1271, hf⟩ := ob_e hf
        refine xcallW (ws' := (wC g h now snap has hist ent res num col ++ wM g hm thrown ss states stateMany snapshot hasSnapshot text length at_ isWell rd readMany top bottom digit digitMany other otherMany column columnMany carryMany chainMost ++ [(ho, .inl (g.2.2.2.1, 1, .inr (.inl v1271.2)))] ++ [(hd, .inl (g.2.2.2.2, 1, .inr (.inr (.inr (.inl ard)))))])) (st1 := [.int v1271.1]) (n := 45) E hX hNc hw [.ref (h 0), .int (xs (x5 + 1).toNatClampNeg), .ref ho] [0, 1, 2, 3, 4, 5, 6, 7, 8, 9, 10, 11, 12, 13, 14, 15, 16, 17, 18, 19, 20, 21, 22, 23, 24, 25, 26, 27, 28, 29, 30, 31, 32, 33, 43] (met_L_wholeDigits l hlT g h ho now snap has hist ent res num col arr (xs (x5 + 1).toNatClampNeg) v1271 hv1271) rfl (by decide) rfl rfl [45, 46, 47, 48, 49, 50, 51, 52, 53, 54, 55, 56, 57, 58, 59, 60, 61, 62, 63, 64, 65, 66, 67, 68, 69, 70, 71, 72, 73, 74, 75, 76, 77, 78, 34, 35, 36, 37, 38, 39, 40, 41, 42, 79, 44] rfl (by decide +kernel) rfl qw917 k_L_wholeDigits ⟨rfl, rfl, Nat.le_of_ble_eq_true rfl, Nat.le_of_ble_eq_true rfl⟩ ⟨by show _ ≤ 601024; omega, by show _ ≤ 7293034; omega⟩ hl.1 (Nat.le_of_ble_eq_true rfl) dL_law_1271 rfl (fun H locs hw => ?_)
        refine lv_istore (lv' := [(6, .int v1271.1), (0, .ref b), (1, .ref (h 0)), (2, .ref (hm 0)), (3, .ref ho), (4, .ref hd), (5, .int x5)]) hx hb dL_law_1274 hl (by decide) rfl (fun ls hl => ?_)
        refine lv_aload_n hx hb dL_law_1276 rfl (lv_at hl 3 rfl) ?_
        refine lv_aload_n hx hb dL_law_1277 rfl (lv_at hl 1 rfl) ?_
        refine lv_iload hx hb dL_law_1278 (lv_at hl 6 rfl) ?_
        refine lv_iconst (v := 1) hx hb dL_law_1280 (by decide) ?_
        refine lv_iadd hx hb dL_law_1281 ?_
        obtain ⟨hz, hf⟩ := nz hf
        refine va_sld hx hb hXs hbl hbA hw.2.2 hz dL_law_1282 ?_
        obtain ⟨v1283, hv1283, hf⟩ := ob_e hf
        refine xcallV (ws' := (wC g h now snap has hist ent res num col ++ wM g hm v1283.2.1 ss states stateMany snapshot hasSnapshot text length at_ isWell rd readMany top bottom v1283.2.2.1 v1283.2.2.2 other otherMany column columnMany carryMany chainMost ++ [(ho, .inl (g.2.2.2.1, 1, .inr (.inl v1271.2)))] ++ [(hd, .inl (g.2.2.2.2, 1, .inr (.inr (.inr (.inl ard)))))])) (st1 := [.int v1283.1]) (n := 45) E hw [.int (xs (x5 + 1).toNatClampNeg)] [34, 35, 36, 37, 38, 39, 40, 41, 42] (met_X11_wholeDigits l g hm thrown ss states stateMany snapshot hasSnapshot text length at_ isWell rd readMany top bottom digit digitMany other otherMany column columnMany carryMany chainMost (xs (x5 + 1).toNatClampNeg) v1283 hv1283) rfl (by decide) rfl rfl [0, 1, 2, 3, 4, 5, 6, 7, 8, 9, 10, 11, 12, 13, 14, 15, 16, 17, 18, 19, 20, 21, 22, 23, 24, 25, 26, 27, 28, 29, 30, 31, 32, 33, 45, 46, 47, 48, 49, 50, 51, 52, 53, 43, 44] rfl (by decide +kernel) rfl rfl rfl rfl qw1301 k_X11_wholeDigits ⟨rfl, rfl, Nat.le_of_ble_eq_true rfl, Nat.le_of_ble_eq_true rfl⟩ ⟨by show _ ≤ 601024; omega, by show _ ≤ 7293034; omega⟩ hl.1 (Nat.le_of_ble_eq_true rfl) dL_law_1283 rfl (fun H locs hw => ?_)
        refine lv_istore (lv' := [(7, .int v1283.1), (6, .int v1271.1), (0, .ref b), (1, .ref (h 0)), (2, .ref (hm 0)), (3, .ref ho), (4, .ref hd), (5, .int x5)]) hx hb dL_law_1286 hl (by decide) rfl (fun ls hl => ?_)
        refine lv_aload_n hx hb dL_law_1288 rfl (lv_at hl 4 rfl) ?_
        obtain ⟨v1289, hv1289, hf⟩ := ob_e hf
        refine xcallV (ws' := (wC g h now snap has hist ent res num col ++ wM g hm v1283.2.1 ss states stateMany snapshot hasSnapshot text length at_ isWell rd readMany top bottom v1283.2.2.1 v1283.2.2.2 other otherMany column columnMany carryMany chainMost ++ [(ho, .inl (g.2.2.2.1, 1, .inr (.inl v1271.2)))] ++ [(hd, .inl (g.2.2.2.2, 1, .inr (.inr (.inr (.inl ard)))))])) (st1 := [.int v1289]) (n := 45) E hw [] [34, 35, 36, 37, 38, 39, 40, 41, 42] (met_X11_thrown l g hm v1283.2.1 ss states stateMany snapshot hasSnapshot text length at_ isWell rd readMany top bottom v1283.2.2.1 v1283.2.2.2 other otherMany column columnMany carryMany chainMost v1289 hv1289) rfl (by decide) rfl rfl [0, 1, 2, 3, 4, 5, 6, 7, 8, 9, 10, 11, 12, 13, 14, 15, 16, 17, 18, 19, 20, 21, 22, 23, 24, 25, 26, 27, 28, 29, 30, 31, 32, 33, 45, 46, 47, 48, 49, 50, 51, 52, 53, 43, 44] rfl (by decide +kernel) rfl rfl rfl rfl qw1086 k_X11_thrown ⟨rfl, rfl, Nat.le_of_ble_eq_true rfl, Nat.le_of_ble_eq_true rfl⟩ ⟨by show _ ≤ 601024; omega, by show _ ≤ 7293034; omega⟩ hl.1 (Nat.le_of_ble_eq_true rfl) dL_law_1289 rfl (fun H locs hw => ?_)
        refine lv_iload hx hb dL_law_1292 (lv_at hl 1 rfl) ?_
        refine lv_icmp_eq (tgt := 1299) hx hb dL_law_1294 (by decide) (fun c1294 => ?_) (fun c1294 => ?_)
        · replace hf := ip c1294 hf
          refine lv_iload hx hb dL_law_1299 (lv_at hl 1 rfl) ?_
          refine lv_if_ne (tgt := 1316) hx hb dL_law_1301 (by decide) (fun c1301 => ?_) (fun c1301 => ?_)
          · replace hf := iq c1301 hf
            exact b1316 _ _ _ (ce + 1) (sl + 6) now snap has hist ent res num col v1283.2.1 ss states stateMany snapshot hasSnapshot text length at_ isWell rd readMany top bottom v1283.2.2.1 v1283.2.2.2 other otherMany column columnMany carryMany chainMost v1271.2 ard x5 (by omega) hw (lv_sub hl [2, 3, 4, 5, 6, 7] rfl) hf
          · replace hf := ip c1301 hf
            refine lv_aload_n hx hb dL_law_1304 rfl (lv_at hl 5 rfl) ?_
            refine lv_iconst (v := 0) hx hb dL_law_1305 (by decide) ?_
            refine xlald E hw 43 rfl (by decide) dL_law_1306 ?_
            refine lv_iload hx hb dL_law_1307 (lv_at hl 0 rfl) ?_
            refine lv_i2l hx hb dL_law_1309 rfl ?_
            refine xlc_eq (tgt := 1316) hx hb dL_law_1310 dL_law_1311 (by decide) (fun c1310 => ?_) (fun c1310 => ?_)
            · replace hf := ip c1310 hf
              exact b1316 _ _ _ (ce + 1) (sl + 6) now snap has hist ent res num col v1283.2.1 ss states stateMany snapshot hasSnapshot text length at_ isWell rd readMany top bottom v1283.2.2.1 v1283.2.2.2 other otherMany column columnMany carryMany chainMost v1271.2 ard x5 (by omega) hw (lv_sub hl [2, 3, 4, 5, 6, 7] rfl) hf
            · replace hf := iq c1310 hf
              refine lv_iconst (v := 0) hx hb dL_law_1314 (by decide) ?_
              exact absurd (Option.some.inj hf) (by decide)
        · replace hf := iq c1294 hf
          refine lv_iconst (v := 0) hx hb dL_law_1297 (by decide) ?_
          exact absurd (Option.some.inj hf) (by decide)
      replace hf := iq hk hf
      by_cases hk : ((xs x5.toNatClampNeg) &&& 63) = 24
      · replace hf := ip hk hf
        refine lv_tableIn (tgt := 1319) (off := 1275) hx hb dL_law_44 (by rw [hk]; decide) (by rw [hk]; decide) (by rw [hk]; rfl) (by decide) ?_
        refine lv_aload_n hx hb dL_law_1319 rfl (lv_at hl 1 rfl) ?_
        refine lv_aload_n hx hb dL_law_1320 rfl (lv_at hl 0 rfl) ?_
        refine lv_iload hx hb dL_law_1321 (lv_at hl 5 rfl) ?_
        refine lv_iconst (v := 1) hx hb dL_law_1323 (by decide) ?_
        refine lv_iadd hx hb dL_law_1324 ?_
        obtain ⟨hz, hf⟩ := nz hf
        refine va_sld hx hb hXs hbl hbA hw.2.2 hz dL_law_1325 ?_
        refine lv_aload_n hx hb dL_law_1326 rfl (lv_at hl 0 rfl) ?_
        refine lv_iload hx hb dL_law_1327 (lv_at hl 5 rfl) ?_
        refine lv_iconst (v := 2) hx hb dL_law_1329 (by decide) ?_
        refine lv_iadd hx hb dL_law_1330 ?_
        obtain ⟨hz, hf⟩ := nz hf
        refine va_sld hx hb hXs hbl hbA hw.2.2 hz dL_law_1331 ?_
        refine lv_aload_n hx hb dL_law_1332 rfl (lv_at hl 3 rfl) ?_
        obtain ⟨v1333, hv1333, hf⟩ := ob_e hf
        refine xcallW (ws' := (wC g h now snap has hist ent res num col ++ wM g hm thrown ss states stateMany snapshot hasSnapshot text length at_ isWell rd readMany top bottom digit digitMany other otherMany column columnMany carryMany chainMost ++ [(ho, .inl (g.2.2.2.1, 1, .inr (.inl v1333.2)))] ++ [(hd, .inl (g.2.2.2.2, 1, .inr (.inr (.inr (.inl ard)))))])) (st1 := [.int v1333.1]) (n := 45) E hX hNc hw [.ref (h 0), .int (xs (x5 + 1).toNatClampNeg), .int (xs (x5 + 2).toNatClampNeg), .ref ho] [0, 1, 2, 3, 4, 5, 6, 7, 8, 9, 10, 11, 12, 13, 14, 15, 16, 17, 18, 19, 20, 21, 22, 23, 24, 25, 26, 27, 28, 29, 30, 31, 32, 33, 43] (met_L_wholeDigit l hlT g h ho now snap has hist ent res num col arr (xs (x5 + 1).toNatClampNeg) (xs (x5 + 2).toNatClampNeg) v1333 hv1333) rfl (by decide) rfl rfl [45, 46, 47, 48, 49, 50, 51, 52, 53, 54, 55, 56, 57, 58, 59, 60, 61, 62, 63, 64, 65, 66, 67, 68, 69, 70, 71, 72, 73, 74, 75, 76, 77, 78, 34, 35, 36, 37, 38, 39, 40, 41, 42, 79, 44] rfl (by decide +kernel) rfl qw921 k_L_wholeDigit ⟨rfl, rfl, Nat.le_of_ble_eq_true rfl, Nat.le_of_ble_eq_true rfl⟩ ⟨by show _ ≤ 601024; omega, by show _ ≤ 7293034; omega⟩ hl.1 (Nat.le_of_ble_eq_true rfl) dL_law_1333 rfl (fun H locs hw => ?_)
        refine lv_istore (lv' := [(6, .int v1333.1), (0, .ref b), (1, .ref (h 0)), (2, .ref (hm 0)), (3, .ref ho), (4, .ref hd), (5, .int x5)]) hx hb dL_law_1336 hl (by decide) rfl (fun ls hl => ?_)
        refine lv_aload_n hx hb dL_law_1338 rfl (lv_at hl 3 rfl) ?_
        refine lv_aload_n hx hb dL_law_1339 rfl (lv_at hl 1 rfl) ?_
        refine lv_iload hx hb dL_law_1340 (lv_at hl 6 rfl) ?_
        refine lv_iconst (v := 1) hx hb dL_law_1342 (by decide) ?_
        refine lv_iadd hx hb dL_law_1343 ?_
        obtain ⟨hz, hf⟩ := nz hf
        refine va_sld hx hb hXs hbl hbA hw.2.2 hz dL_law_1344 ?_
        refine lv_aload_n hx hb dL_law_1345 rfl (lv_at hl 1 rfl) ?_
        refine lv_iload hx hb dL_law_1346 (lv_at hl 6 rfl) ?_
        refine lv_iconst (v := 2) hx hb dL_law_1348 (by decide) ?_
        refine lv_iadd hx hb dL_law_1349 ?_
        obtain ⟨hz, hf⟩ := nz hf
        refine va_sld hx hb hXs hbl hbA hw.2.2 hz dL_law_1350 ?_
        obtain ⟨v1351, hv1351, hf⟩ := ob_e hf
        refine xcallV (ws' := (wC g h now snap has hist ent res num col ++ wM g hm v1351.2.1 ss states stateMany snapshot hasSnapshot text length at_ isWell rd readMany top bottom v1351.2.2.1 v1351.2.2.2 other otherMany column columnMany carryMany chainMost ++ [(ho, .inl (g.2.2.2.1, 1, .inr (.inl v1333.2)))] ++ [(hd, .inl (g.2.2.2.2, 1, .inr (.inr (.inr (.inl ard)))))])) (st1 := [.int v1351.1]) (n := 45) E hw [.int (xs (x5 + 1).toNatClampNeg), .int (xs (x5 + 2).toNatClampNeg)] [34, 35, 36, 37, 38, 39, 40, 41, 42] (met_X11_wholeDigit l g hm thrown ss states stateMany snapshot hasSnapshot text length at_ isWell rd readMany top bottom digit digitMany other otherMany column columnMany carryMany chainMost (xs (x5 + 1).toNatClampNeg) (xs (x5 + 2).toNatClampNeg) v1351 hv1351) rfl (by decide) rfl rfl [0, 1, 2, 3, 4, 5, 6, 7, 8, 9, 10, 11, 12, 13, 14, 15, 16, 17, 18, 19, 20, 21, 22, 23, 24, 25, 26, 27, 28, 29, 30, 31, 32, 33, 45, 46, 47, 48, 49, 50, 51, 52, 53, 43, 44] rfl (by decide +kernel) rfl rfl rfl rfl qw1313 k_X11_wholeDigit ⟨rfl, rfl, Nat.le_of_ble_eq_true rfl, Nat.le_of_ble_eq_true rfl⟩ ⟨by show _ ≤ 601024; omega, by show _ ≤ 7293034; omega⟩ hl.1 (Nat.le_of_ble_eq_true rfl) dL_law_1351 rfl (fun H locs hw => ?_)
        refine lv_istore (lv' := [(7, .int v1351.1), (6, .int v1333.1), (0, .ref b), (1, .ref (h 0)), (2, .ref (hm 0)), (3, .ref ho), (4, .ref hd), (5, .int x5)]) hx hb dL_law_1354 hl (by decide) rfl (fun ls hl => ?_)
        refine lv_aload_n hx hb dL_law_1356 rfl (lv_at hl 4 rfl) ?_
        obtain ⟨v1357, hv1357, hf⟩ := ob_e hf
        refine xcallV (ws' := (wC g h now snap has hist ent res num col ++ wM g hm v1351.2.1 ss states stateMany snapshot hasSnapshot text length at_ isWell rd readMany top bottom v1351.2.2.1 v1351.2.2.2 other otherMany column columnMany carryMany chainMost ++ [(ho, .inl (g.2.2.2.1, 1, .inr (.inl v1333.2)))] ++ [(hd, .inl (g.2.2.2.2, 1, .inr (.inr (.inr (.inl ard)))))])) (st1 := [.int v1357]) (n := 45) E hw [] [34, 35, 36, 37, 38, 39, 40, 41, 42] (met_X11_thrown l g hm v1351.2.1 ss states stateMany snapshot hasSnapshot text length at_ isWell rd readMany top bottom v1351.2.2.1 v1351.2.2.2 other otherMany column columnMany carryMany chainMost v1357 hv1357) rfl (by decide) rfl rfl [0, 1, 2, 3, 4, 5, 6, 7, 8, 9, 10, 11, 12, 13, 14, 15, 16, 17, 18, 19, 20, 21, 22, 23, 24, 25, 26, 27, 28, 29, 30, 31, 32, 33, 45, 46, 47, 48, 49, 50, 51, 52, 53, 43, 44] rfl (by decide +kernel) rfl rfl rfl rfl qw1086 k_X11_thrown ⟨rfl, rfl, Nat.le_of_ble_eq_true rfl, Nat.le_of_ble_eq_true rfl⟩ ⟨by show _ ≤ 601024; omega, by show _ ≤ 7293034; omega⟩ hl.1 (Nat.le_of_ble_eq_true rfl) dL_law_1357 rfl (fun H locs hw => ?_)
        refine lv_iload hx hb dL_law_1360 (lv_at hl 1 rfl) ?_
        refine lv_icmp_eq (tgt := 1367) hx hb dL_law_1362 (by decide) (fun c1362 => ?_) (fun c1362 => ?_)
        · replace hf := ip c1362 hf
          refine lv_iload hx hb dL_law_1367 (lv_at hl 1 rfl) ?_
          refine lv_if_ne (tgt := 1384) hx hb dL_law_1369 (by decide) (fun c1369 => ?_) (fun c1369 => ?_)
          · replace hf := iq c1369 hf
            exact b1384 _ _ _ (ce + 1) (sl + 6) now snap has hist ent res num col v1351.2.1 ss states stateMany snapshot hasSnapshot text length at_ isWell rd readMany top bottom v1351.2.2.1 v1351.2.2.2 other otherMany column columnMany carryMany chainMost v1333.2 ard x5 (by omega) hw (lv_sub hl [2, 3, 4, 5, 6, 7] rfl) hf
          · replace hf := ip c1369 hf
            refine lv_aload_n hx hb dL_law_1372 rfl (lv_at hl 5 rfl) ?_
            refine lv_iconst (v := 0) hx hb dL_law_1373 (by decide) ?_
            refine xlald E hw 43 rfl (by decide) dL_law_1374 ?_
            refine lv_iload hx hb dL_law_1375 (lv_at hl 0 rfl) ?_
            refine lv_i2l hx hb dL_law_1377 rfl ?_
            refine xlc_eq (tgt := 1384) hx hb dL_law_1378 dL_law_1379 (by decide) (fun c1378 => ?_) (fun c1378 => ?_)
            · replace hf := ip c1378 hf
              exact b1384 _ _ _ (ce + 1) (sl + 6) now snap has hist ent res num col v1351.2.1 ss states stateMany snapshot hasSnapshot text length at_ isWell rd readMany top bottom v1351.2.2.1 v1351.2.2.2 other otherMany column columnMany carryMany chainMost v1333.2 ard x5 (by omega) hw (lv_sub hl [2, 3, 4, 5, 6, 7] rfl) hf
            · replace hf := iq c1378 hf
              refine lv_iconst (v := 0) hx hb dL_law_1382 (by decide) ?_
              exact absurd (Option.some.inj hf) (by decide)
        · replace hf := iq c1362 hf
          refine lv_iconst (v := 0) hx hb dL_law_1365 (by decide) ?_
          exact absurd (Option.some.inj hf) (by decide)
      replace hf := iq hk hf
      by_cases hk : ((xs x5.toNatClampNeg) &&& 63) = 25
      · replace hf := ip hk hf
        refine lv_tableIn (tgt := 1387) (off := 1343) hx hb dL_law_44 (by rw [hk]; decide) (by rw [hk]; decide) (by rw [hk]; rfl) (by decide) ?_
        refine lv_aload_n hx hb dL_law_1387 rfl (lv_at hl 1 rfl) ?_
        refine lv_aload_n hx hb dL_law_1388 rfl (lv_at hl 0 rfl) ?_
        refine lv_iload hx hb dL_law_1389 (lv_at hl 5 rfl) ?_
        refine lv_iconst (v := 1) hx hb dL_law_1391 (by decide) ?_
        refine lv_iadd hx hb dL_law_1392 ?_
        obtain ⟨hz, hf⟩ := nz hf
        refine va_sld hx hb hXs hbl hbA hw.2.2 hz dL_law_1393 ?_
        refine lv_aload_n hx hb dL_law_1394 rfl (lv_at hl 0 rfl) ?_
        refine lv_iload hx hb dL_law_1395 (lv_at hl 5 rfl) ?_
        refine lv_iconst (v := 2) hx hb dL_law_1397 (by decide) ?_
        refine lv_iadd hx hb dL_law_1398 ?_
        obtain ⟨hz, hf⟩ := nz hf
        refine va_sld hx hb hXs hbl hbA hw.2.2 hz dL_law_1399 ?_
        refine lv_aload_n hx hb dL_law_1400 rfl (lv_at hl 3 rfl) ?_
        obtain ⟨v1401, hv1401, hf⟩ := ob_e hf
        refine xcallW (ws' := (wC g h now snap has hist ent res num col ++ wM g hm thrown ss states stateMany snapshot hasSnapshot text length at_ isWell rd readMany top bottom digit digitMany other otherMany column columnMany carryMany chainMost ++ [(ho, .inl (g.2.2.2.1, 1, .inr (.inl v1401.2)))] ++ [(hd, .inl (g.2.2.2.2, 1, .inr (.inr (.inr (.inl ard)))))])) (st1 := [.int v1401.1]) (n := 45) E hX hNc hw [.ref (h 0), .int (xs (x5 + 1).toNatClampNeg), .int (xs (x5 + 2).toNatClampNeg), .ref ho] [0, 1, 2, 3, 4, 5, 6, 7, 8, 9, 10, 11, 12, 13, 14, 15, 16, 17, 18, 19, 20, 21, 22, 23, 24, 25, 26, 27, 28, 29, 30, 31, 32, 33, 43] (met_L_wholeDigitByPowers l hlT g h ho now snap has hist ent res num col arr (xs (x5 + 1).toNatClampNeg) (xs (x5 + 2).toNatClampNeg) v1401 hv1401) rfl (by decide) rfl rfl [45, 46, 47, 48, 49, 50, 51, 52, 53, 54, 55, 56, 57, 58, 59, 60, 61, 62, 63, 64, 65, 66, 67, 68, 69, 70, 71, 72, 73, 74, 75, 76, 77, 78, 34, 35, 36, 37, 38, 39, 40, 41, 42, 79, 44] rfl (by decide +kernel) rfl qw925 k_L_wholeDigitByPowers ⟨rfl, rfl, Nat.le_of_ble_eq_true rfl, Nat.le_of_ble_eq_true rfl⟩ ⟨by show _ ≤ 601024; omega, by show _ ≤ 7293034; omega⟩ hl.1 (Nat.le_of_ble_eq_true rfl) dL_law_1401 rfl (fun H locs hw => ?_)
        refine lv_istore (lv' := [(6, .int v1401.1), (0, .ref b), (1, .ref (h 0)), (2, .ref (hm 0)), (3, .ref ho), (4, .ref hd), (5, .int x5)]) hx hb dL_law_1404 hl (by decide) rfl (fun ls hl => ?_)
        refine lv_aload_n hx hb dL_law_1406 rfl (lv_at hl 3 rfl) ?_
        refine lv_aload_n hx hb dL_law_1407 rfl (lv_at hl 1 rfl) ?_
        refine lv_iload hx hb dL_law_1408 (lv_at hl 6 rfl) ?_
        refine lv_iconst (v := 1) hx hb dL_law_1410 (by decide) ?_
        refine lv_iadd hx hb dL_law_1411 ?_
        obtain ⟨hz, hf⟩ := nz hf
        refine va_sld hx hb hXs hbl hbA hw.2.2 hz dL_law_1412 ?_
        refine lv_aload_n hx hb dL_law_1413 rfl (lv_at hl 1 rfl) ?_
        refine lv_iload hx hb dL_law_1414 (lv_at hl 6 rfl) ?_
        refine lv_iconst (v := 2) hx hb dL_law_1416 (by decide) ?_
        refine lv_iadd hx hb dL_law_1417 ?_
        obtain ⟨hz, hf⟩ := nz hf
        refine va_sld hx hb hXs hbl hbA hw.2.2 hz dL_law_1418 ?_
        obtain ⟨v1419, hv1419, hf⟩ := ob_e hf
        refine xcallV (ws' := (wC g h now snap has hist ent res num col ++ wM g hm v1419.2.1 ss states stateMany snapshot hasSnapshot text length at_ isWell rd readMany top bottom v1419.2.2.1 v1419.2.2.2 other otherMany column columnMany carryMany chainMost ++ [(ho, .inl (g.2.2.2.1, 1, .inr (.inl v1401.2)))] ++ [(hd, .inl (g.2.2.2.2, 1, .inr (.inr (.inr (.inl ard)))))])) (st1 := [.int v1419.1]) (n := 45) E hw [.int (xs (x5 + 1).toNatClampNeg), .int (xs (x5 + 2).toNatClampNeg)] [34, 35, 36, 37, 38, 39, 40, 41, 42] (met_X11_wholeDigitByPowers l g hm thrown ss states stateMany snapshot hasSnapshot text length at_ isWell rd readMany top bottom digit digitMany other otherMany column columnMany carryMany chainMost (xs (x5 + 1).toNatClampNeg) (xs (x5 + 2).toNatClampNeg) v1419 hv1419) rfl (by decide) rfl rfl [0, 1, 2, 3, 4, 5, 6, 7, 8, 9, 10, 11, 12, 13, 14, 15, 16, 17, 18, 19, 20, 21, 22, 23, 24, 25, 26, 27, 28, 29, 30, 31, 32, 33, 45, 46, 47, 48, 49, 50, 51, 52, 53, 43, 44] rfl (by decide +kernel) rfl rfl rfl rfl qw1321 k_X11_wholeDigitByPowers ⟨rfl, rfl, Nat.le_of_ble_eq_true rfl, Nat.le_of_ble_eq_true rfl⟩ ⟨by show _ ≤ 601024; omega, by show _ ≤ 7293034; omega⟩ hl.1 (Nat.le_of_ble_eq_true rfl) dL_law_1419 rfl (fun H locs hw => ?_)
        refine lv_istore (lv' := [(7, .int v1419.1), (6, .int v1401.1), (0, .ref b), (1, .ref (h 0)), (2, .ref (hm 0)), (3, .ref ho), (4, .ref hd), (5, .int x5)]) hx hb dL_law_1422 hl (by decide) rfl (fun ls hl => ?_)
        refine lv_aload_n hx hb dL_law_1424 rfl (lv_at hl 4 rfl) ?_
        obtain ⟨v1425, hv1425, hf⟩ := ob_e hf
        refine xcallV (ws' := (wC g h now snap has hist ent res num col ++ wM g hm v1419.2.1 ss states stateMany snapshot hasSnapshot text length at_ isWell rd readMany top bottom v1419.2.2.1 v1419.2.2.2 other otherMany column columnMany carryMany chainMost ++ [(ho, .inl (g.2.2.2.1, 1, .inr (.inl v1401.2)))] ++ [(hd, .inl (g.2.2.2.2, 1, .inr (.inr (.inr (.inl ard)))))])) (st1 := [.int v1425]) (n := 45) E hw [] [34, 35, 36, 37, 38, 39, 40, 41, 42] (met_X11_thrown l g hm v1419.2.1 ss states stateMany snapshot hasSnapshot text length at_ isWell rd readMany top bottom v1419.2.2.1 v1419.2.2.2 other otherMany column columnMany carryMany chainMost v1425 hv1425) rfl (by decide) rfl rfl [0, 1, 2, 3, 4, 5, 6, 7, 8, 9, 10, 11, 12, 13, 14, 15, 16, 17, 18, 19, 20, 21, 22, 23, 24, 25, 26, 27, 28, 29, 30, 31, 32, 33, 45, 46, 47, 48, 49, 50, 51, 52, 53, 43, 44] rfl (by decide +kernel) rfl rfl rfl rfl qw1086 k_X11_thrown ⟨rfl, rfl, Nat.le_of_ble_eq_true rfl, Nat.le_of_ble_eq_true rfl⟩ ⟨by show _ ≤ 601024; omega, by show _ ≤ 7293034; omega⟩ hl.1 (Nat.le_of_ble_eq_true rfl) dL_law_1425 rfl (fun H locs hw => ?_)
        refine lv_iload hx hb dL_law_1428 (lv_at hl 1 rfl) ?_
        refine lv_icmp_eq (tgt := 1435) hx hb dL_law_1430 (by decide) (fun c1430 => ?_) (fun c1430 => ?_)
        · replace hf := ip c1430 hf
          refine lv_iload hx hb dL_law_1435 (lv_at hl 1 rfl) ?_
          refine lv_if_ne (tgt := 1452) hx hb dL_law_1437 (by decide) (fun c1437 => ?_) (fun c1437 => ?_)
          · replace hf := iq c1437 hf
            exact b1452 _ _ _ (ce + 1) (sl + 6) now snap has hist ent res num col v1419.2.1 ss states stateMany snapshot hasSnapshot text length at_ isWell rd readMany top bottom v1419.2.2.1 v1419.2.2.2 other otherMany column columnMany carryMany chainMost v1401.2 ard x5 (by omega) hw (lv_sub hl [2, 3, 4, 5, 6, 7] rfl) hf
          · replace hf := ip c1437 hf
            refine lv_aload_n hx hb dL_law_1440 rfl (lv_at hl 5 rfl) ?_
            refine lv_iconst (v := 0) hx hb dL_law_1441 (by decide) ?_
            refine xlald E hw 43 rfl (by decide) dL_law_1442 ?_
            refine lv_iload hx hb dL_law_1443 (lv_at hl 0 rfl) ?_
            refine lv_i2l hx hb dL_law_1445 rfl ?_
            refine xlc_eq (tgt := 1452) hx hb dL_law_1446 dL_law_1447 (by decide) (fun c1446 => ?_) (fun c1446 => ?_)
            · replace hf := ip c1446 hf
              exact b1452 _ _ _ (ce + 1) (sl + 6) now snap has hist ent res num col v1419.2.1 ss states stateMany snapshot hasSnapshot text length at_ isWell rd readMany top bottom v1419.2.2.1 v1419.2.2.2 other otherMany column columnMany carryMany chainMost v1401.2 ard x5 (by omega) hw (lv_sub hl [2, 3, 4, 5, 6, 7] rfl) hf
            · replace hf := iq c1446 hf
              refine lv_iconst (v := 0) hx hb dL_law_1450 (by decide) ?_
              exact absurd (Option.some.inj hf) (by decide)
        · replace hf := iq c1430 hf
          refine lv_iconst (v := 0) hx hb dL_law_1433 (by decide) ?_
          exact absurd (Option.some.inj hf) (by decide)
      replace hf := iq hk hf
      by_cases hk : ((xs x5.toNatClampNeg) &&& 63) = 26
      · replace hf := ip hk hf
        refine lv_tableIn (tgt := 1455) (off := 1411) hx hb dL_law_44 (by rw [hk]; decide) (by rw [hk]; decide) (by rw [hk]; rfl) (by decide) ?_
        refine lv_aload_n hx hb dL_law_1455 rfl (lv_at hl 1 rfl) ?_
        refine lv_aload_n hx hb dL_law_1456 rfl (lv_at hl 0 rfl) ?_
        refine lv_iload hx hb dL_law_1457 (lv_at hl 5 rfl) ?_
        refine lv_iconst (v := 1) hx hb dL_law_1459 (by decide) ?_
        refine lv_iadd hx hb dL_law_1460 ?_
        obtain ⟨hz, hf⟩ := nz hf
        refine va_sld hx hb hXs hbl hbA hw.2.2 hz dL_law_1461 ?_
        refine lv_aload_n hx hb dL_law_1462 rfl (lv_at hl 3 rfl) ?_
        obtain ⟨v1463, hv1463, hf⟩ := ob_e hf
        refine xcallW (ws' := (wC g h now snap has hist ent res num col ++ wM g hm thrown ss states stateMany snapshot hasSnapshot text length at_ isWell rd readMany top bottom digit digitMany other otherMany column columnMany carryMany chainMost ++ [(ho, .inl (g.2.2.2.1, 1, .inr (.inl v1463.2)))] ++ [(hd, .inl (g.2.2.2.2, 1, .inr (.inr (.inr (.inl ard)))))])) (st1 := [.int v1463.1]) (n := 45) E hX hNc hw [.ref (h 0), .int (xs (x5 + 1).toNatClampNeg), .ref ho] [0, 1, 2, 3, 4, 5, 6, 7, 8, 9, 10, 11, 12, 13, 14, 15, 16, 17, 18, 19, 20, 21, 22, 23, 24, 25, 26, 27, 28, 29, 30, 31, 32, 33, 43] (met_L_digitSum l hlT g h ho now snap has hist ent res num col arr (xs (x5 + 1).toNatClampNeg) v1463 hv1463) rfl (by decide) rfl rfl [45, 46, 47, 48, 49, 50, 51, 52, 53, 54, 55, 56, 57, 58, 59, 60, 61, 62, 63, 64, 65, 66, 67, 68, 69, 70, 71, 72, 73, 74, 75, 76, 77, 78, 34, 35, 36, 37, 38, 39, 40, 41, 42, 79, 44] rfl (by decide +kernel) rfl qw929 k_L_digitSum ⟨rfl, rfl, Nat.le_of_ble_eq_true rfl, Nat.le_of_ble_eq_true rfl⟩ ⟨by show _ ≤ 601024; omega, by show _ ≤ 7293034; omega⟩ hl.1 (Nat.le_of_ble_eq_true rfl) dL_law_1463 rfl (fun H locs hw => ?_)
        refine lv_istore (lv' := [(6, .int v1463.1), (0, .ref b), (1, .ref (h 0)), (2, .ref (hm 0)), (3, .ref ho), (4, .ref hd), (5, .int x5)]) hx hb dL_law_1466 hl (by decide) rfl (fun ls hl => ?_)
        refine lv_aload_n hx hb dL_law_1468 rfl (lv_at hl 3 rfl) ?_
        refine lv_aload_n hx hb dL_law_1469 rfl (lv_at hl 1 rfl) ?_
        refine lv_iload hx hb dL_law_1470 (lv_at hl 6 rfl) ?_
        refine lv_iconst (v := 1) hx hb dL_law_1472 (by decide) ?_
        refine lv_iadd hx hb dL_law_1473 ?_
        obtain ⟨hz, hf⟩ := nz hf
        refine va_sld hx hb hXs hbl hbA hw.2.2 hz dL_law_1474 ?_
        obtain ⟨v1475, hv1475, hf⟩ := ob_e hf
        refine xcallV (ws' := (wC g h now snap has hist ent res num col ++ wM g hm v1475.2.1 ss states stateMany snapshot hasSnapshot text length at_ isWell rd readMany top bottom v1475.2.2.1 v1475.2.2.2 other otherMany column columnMany carryMany chainMost ++ [(ho, .inl (g.2.2.2.1, 1, .inr (.inl v1463.2)))] ++ [(hd, .inl (g.2.2.2.2, 1, .inr (.inr (.inr (.inl ard)))))])) (st1 := [.int v1475.1]) (n := 45) E hw [.int (xs (x5 + 1).toNatClampNeg)] [34, 35, 36, 37, 38, 39, 40, 41, 42] (met_X11_digitSum l g hm thrown ss states stateMany snapshot hasSnapshot text length at_ isWell rd readMany top bottom digit digitMany other otherMany column columnMany carryMany chainMost (xs (x5 + 1).toNatClampNeg) v1475 hv1475) rfl (by decide) rfl rfl [0, 1, 2, 3, 4, 5, 6, 7, 8, 9, 10, 11, 12, 13, 14, 15, 16, 17, 18, 19, 20, 21, 22, 23, 24, 25, 26, 27, 28, 29, 30, 31, 32, 33, 45, 46, 47, 48, 49, 50, 51, 52, 53, 43, 44] rfl (by decide +kernel) rfl rfl rfl rfl qw1325 k_X11_digitSum ⟨rfl, rfl, Nat.le_of_ble_eq_true rfl, Nat.le_of_ble_eq_true rfl⟩ ⟨by show _ ≤ 601024; omega, by show _ ≤ 7293034; omega⟩ hl.1 (Nat.le_of_ble_eq_true rfl) dL_law_1475 rfl (fun H locs hw => ?_)
        refine lv_istore (lv' := [(7, .int v1475.1), (6, .int v1463.1), (0, .ref b), (1, .ref (h 0)), (2, .ref (hm 0)), (3, .ref ho), (4, .ref hd), (5, .int x5)]) hx hb dL_law_1478 hl (by decide) rfl (fun ls hl => ?_)
        refine lv_aload_n hx hb dL_law_1480 rfl (lv_at hl 4 rfl) ?_
        obtain ⟨v1481, hv1481, hf⟩ := ob_e hf
        refine xcallV (ws' := (wC g h now snap has hist ent res num col ++ wM g hm v1475.2.1 ss states stateMany snapshot hasSnapshot text length at_ isWell rd readMany top bottom v1475.2.2.1 v1475.2.2.2 other otherMany column columnMany carryMany chainMost ++ [(ho, .inl (g.2.2.2.1, 1, .inr (.inl v1463.2)))] ++ [(hd, .inl (g.2.2.2.2, 1, .inr (.inr (.inr (.inl ard)))))])) (st1 := [.int v1481]) (n := 45) E hw [] [34, 35, 36, 37, 38, 39, 40, 41, 42] (met_X11_thrown l g hm v1475.2.1 ss states stateMany snapshot hasSnapshot text length at_ isWell rd readMany top bottom v1475.2.2.1 v1475.2.2.2 other otherMany column columnMany carryMany chainMost v1481 hv1481) rfl (by decide) rfl rfl [0, 1, 2, 3, 4, 5, 6, 7, 8, 9, 10, 11, 12, 13, 14, 15, 16, 17, 18, 19, 20, 21, 22, 23, 24, 25, 26, 27, 28, 29, 30, 31, 32, 33, 45, 46, 47, 48, 49, 50, 51, 52, 53, 43, 44] rfl (by decide +kernel) rfl rfl rfl rfl qw1086 k_X11_thrown ⟨rfl, rfl, Nat.le_of_ble_eq_true rfl, Nat.le_of_ble_eq_true rfl⟩ ⟨by show _ ≤ 601024; omega, by show _ ≤ 7293034; omega⟩ hl.1 (Nat.le_of_ble_eq_true rfl) dL_law_1481 rfl (fun H locs hw => ?_)
        refine lv_iload hx hb dL_law_1484 (lv_at hl 1 rfl) ?_
        refine lv_icmp_eq (tgt := 1491) hx hb dL_law_1486 (by decide) (fun c1486 => ?_) (fun c1486 => ?_)
        · replace hf := ip c1486 hf
          refine lv_iload hx hb dL_law_1491 (lv_at hl 1 rfl) ?_
          refine lv_if_ne (tgt := 1508) hx hb dL_law_1493 (by decide) (fun c1493 => ?_) (fun c1493 => ?_)
          · replace hf := iq c1493 hf
            exact b1508 _ _ _ (ce + 1) (sl + 6) now snap has hist ent res num col v1475.2.1 ss states stateMany snapshot hasSnapshot text length at_ isWell rd readMany top bottom v1475.2.2.1 v1475.2.2.2 other otherMany column columnMany carryMany chainMost v1463.2 ard x5 (by omega) hw (lv_sub hl [2, 3, 4, 5, 6, 7] rfl) hf
          · replace hf := ip c1493 hf
            refine lv_aload_n hx hb dL_law_1496 rfl (lv_at hl 5 rfl) ?_
            refine lv_iconst (v := 0) hx hb dL_law_1497 (by decide) ?_
            refine xlald E hw 43 rfl (by decide) dL_law_1498 ?_
            refine lv_iload hx hb dL_law_1499 (lv_at hl 0 rfl) ?_
            refine lv_i2l hx hb dL_law_1501 rfl ?_
            refine xlc_eq (tgt := 1508) hx hb dL_law_1502 dL_law_1503 (by decide) (fun c1502 => ?_) (fun c1502 => ?_)
            · replace hf := ip c1502 hf
              exact b1508 _ _ _ (ce + 1) (sl + 6) now snap has hist ent res num col v1475.2.1 ss states stateMany snapshot hasSnapshot text length at_ isWell rd readMany top bottom v1475.2.2.1 v1475.2.2.2 other otherMany column columnMany carryMany chainMost v1463.2 ard x5 (by omega) hw (lv_sub hl [2, 3, 4, 5, 6, 7] rfl) hf
            · replace hf := iq c1502 hf
              refine lv_iconst (v := 0) hx hb dL_law_1506 (by decide) ?_
              exact absurd (Option.some.inj hf) (by decide)
        · replace hf := iq c1486 hf
          refine lv_iconst (v := 0) hx hb dL_law_1489 (by decide) ?_
          exact absurd (Option.some.inj hf) (by decide)
      replace hf := iq hk hf
      by_cases hk : ((xs x5.toNatClampNeg) &&& 63) = 27
      · replace hf := ip hk hf
        refine lv_tableIn (tgt := 1511) (off := 1467) hx hb dL_law_44 (by rw [hk]; decide) (by rw [hk]; decide) (by rw [hk]; rfl) (by decide) ?_
        refine lv_aload_n hx hb dL_law_1511 rfl (lv_at hl 1 rfl) ?_
        refine lv_aload_n hx hb dL_law_1512 rfl (lv_at hl 0 rfl) ?_
        refine lv_iload hx hb dL_law_1513 (lv_at hl 5 rfl) ?_
        refine lv_iconst (v := 1) hx hb dL_law_1515 (by decide) ?_
        refine lv_iadd hx hb dL_law_1516 ?_
        obtain ⟨hz, hf⟩ := nz hf
        refine va_sld hx hb hXs hbl hbA hw.2.2 hz dL_law_1517 ?_
        refine lv_aload_n hx hb dL_law_1518 rfl (lv_at hl 3 rfl) ?_
        obtain ⟨v1519, hv1519, hf⟩ := ob_e hf
        refine xcallW (ws' := (wC g h now snap has hist ent res num col ++ wM g hm thrown ss states stateMany snapshot hasSnapshot text length at_ isWell rd readMany top bottom digit digitMany other otherMany column columnMany carryMany chainMost ++ [(ho, .inl (g.2.2.2.1, 1, .inr (.inl v1519.2)))] ++ [(hd, .inl (g.2.2.2.2, 1, .inr (.inr (.inr (.inl ard)))))])) (st1 := [.int v1519.1]) (n := 45) E hX hNc hw [.ref (h 0), .int (xs (x5 + 1).toNatClampNeg), .ref ho] [0, 1, 2, 3, 4, 5, 6, 7, 8, 9, 10, 11, 12, 13, 14, 15, 16, 17, 18, 19, 20, 21, 22, 23, 24, 25, 26, 27, 28, 29, 30, 31, 32, 33, 43] (met_L_leftByDigits l hlT g h ho now snap has hist ent res num col arr (xs (x5 + 1).toNatClampNeg) v1519 hv1519) rfl (by decide) rfl rfl [45, 46, 47, 48, 49, 50, 51, 52, 53, 54, 55, 56, 57, 58, 59, 60, 61, 62, 63, 64, 65, 66, 67, 68, 69, 70, 71, 72, 73, 74, 75, 76, 77, 78, 34, 35, 36, 37, 38, 39, 40, 41, 42, 79, 44] rfl (by decide +kernel) rfl qw933 k_L_leftByDigits ⟨rfl, rfl, Nat.le_of_ble_eq_true rfl, Nat.le_of_ble_eq_true rfl⟩ ⟨by show _ ≤ 601024; omega, by show _ ≤ 7293034; omega⟩ hl.1 (Nat.le_of_ble_eq_true rfl) dL_law_1519 rfl (fun H locs hw => ?_)
        refine lv_istore (lv' := [(6, .int v1519.1), (0, .ref b), (1, .ref (h 0)), (2, .ref (hm 0)), (3, .ref ho), (4, .ref hd), (5, .int x5)]) hx hb dL_law_1522 hl (by decide) rfl (fun ls hl => ?_)
        refine lv_aload_n hx hb dL_law_1524 rfl (lv_at hl 3 rfl) ?_
        refine lv_aload_n hx hb dL_law_1525 rfl (lv_at hl 1 rfl) ?_
        refine lv_iload hx hb dL_law_1526 (lv_at hl 6 rfl) ?_
        refine lv_iconst (v := 1) hx hb dL_law_1528 (by decide) ?_
        refine lv_iadd hx hb dL_law_1529 ?_
        obtain ⟨hz, hf⟩ := nz hf
        refine va_sld hx hb hXs hbl hbA hw.2.2 hz dL_law_1530 ?_
        obtain ⟨v1531, hv1531, hf⟩ := ob_e hf
        refine xcallV (ws' := (wC g h now snap has hist ent res num col ++ wM g hm v1531.2 ss states stateMany snapshot hasSnapshot text length at_ isWell rd readMany top bottom digit digitMany other otherMany column columnMany carryMany chainMost ++ [(ho, .inl (g.2.2.2.1, 1, .inr (.inl v1519.2)))] ++ [(hd, .inl (g.2.2.2.2, 1, .inr (.inr (.inr (.inl ard)))))])) (st1 := [.int v1531.1]) (n := 45) E hw [.int (xs (x5 + 1).toNatClampNeg)] [34, 35, 36, 37, 38, 39, 40, 41, 42] (met_X11_leftByDigits l g hm thrown ss states stateMany snapshot hasSnapshot text length at_ isWell rd readMany top bottom digit digitMany other otherMany column columnMany carryMany chainMost (xs (x5 + 1).toNatClampNeg) v1531 hv1531) rfl (by decide) rfl rfl [0, 1, 2, 3, 4, 5, 6, 7, 8, 9, 10, 11, 12, 13, 14, 15, 16, 17, 18, 19, 20, 21, 22, 23, 24, 25, 26, 27, 28, 29, 30, 31, 32, 33, 45, 46, 47, 48, 49, 50, 51, 52, 53, 43, 44] rfl (by decide +kernel) rfl rfl rfl rfl qw1333 k_X11_leftByDigits ⟨rfl, rfl, Nat.le_of_ble_eq_true rfl, Nat.le_of_ble_eq_true rfl⟩ ⟨by show _ ≤ 601024; omega, by show _ ≤ 7293034; omega⟩ hl.1 (Nat.le_of_ble_eq_true rfl) dL_law_1531 rfl (fun H locs hw => ?_)
        refine lv_istore (lv' := [(7, .int v1531.1), (6, .int v1519.1), (0, .ref b), (1, .ref (h 0)), (2, .ref (hm 0)), (3, .ref ho), (4, .ref hd), (5, .int x5)]) hx hb dL_law_1534 hl (by decide) rfl (fun ls hl => ?_)
        refine lv_aload_n hx hb dL_law_1536 rfl (lv_at hl 4 rfl) ?_
        obtain ⟨v1537, hv1537, hf⟩ := ob_e hf
        refine xcallV (ws' := (wC g h now snap has hist ent res num col ++ wM g hm v1531.2 ss states stateMany snapshot hasSnapshot text length at_ isWell rd readMany top bottom digit digitMany other otherMany column columnMany carryMany chainMost ++ [(ho, .inl (g.2.2.2.1, 1, .inr (.inl v1519.2)))] ++ [(hd, .inl (g.2.2.2.2, 1, .inr (.inr (.inr (.inl ard)))))])) (st1 := [.int v1537]) (n := 45) E hw [] [34, 35, 36, 37, 38, 39, 40, 41, 42] (met_X11_thrown l g hm v1531.2 ss states stateMany snapshot hasSnapshot text length at_ isWell rd readMany top bottom digit digitMany other otherMany column columnMany carryMany chainMost v1537 hv1537) rfl (by decide) rfl rfl [0, 1, 2, 3, 4, 5, 6, 7, 8, 9, 10, 11, 12, 13, 14, 15, 16, 17, 18, 19, 20, 21, 22, 23, 24, 25, 26, 27, 28, 29, 30, 31, 32, 33, 45, 46, 47, 48, 49, 50, 51, 52, 53, 43, 44] rfl (by decide +kernel) rfl rfl rfl rfl qw1086 k_X11_thrown ⟨rfl, rfl, Nat.le_of_ble_eq_true rfl, Nat.le_of_ble_eq_true rfl⟩ ⟨by show _ ≤ 601024; omega, by show _ ≤ 7293034; omega⟩ hl.1 (Nat.le_of_ble_eq_true rfl) dL_law_1537 rfl (fun H locs hw => ?_)
        refine lv_iload hx hb dL_law_1540 (lv_at hl 1 rfl) ?_
        refine lv_icmp_eq (tgt := 1547) hx hb dL_law_1542 (by decide) (fun c1542 => ?_) (fun c1542 => ?_)
        · replace hf := ip c1542 hf
          refine lv_iload hx hb dL_law_1547 (lv_at hl 1 rfl) ?_
          refine lv_if_ne (tgt := 1564) hx hb dL_law_1549 (by decide) (fun c1549 => ?_) (fun c1549 => ?_)
          · replace hf := iq c1549 hf
            exact b1564 _ _ _ (ce + 1) (sl + 6) now snap has hist ent res num col v1531.2 ss states stateMany snapshot hasSnapshot text length at_ isWell rd readMany top bottom digit digitMany other otherMany column columnMany carryMany chainMost v1519.2 ard x5 (by omega) hw (lv_sub hl [2, 3, 4, 5, 6, 7] rfl) hf
          · replace hf := ip c1549 hf
            refine lv_aload_n hx hb dL_law_1552 rfl (lv_at hl 5 rfl) ?_
            refine lv_iconst (v := 0) hx hb dL_law_1553 (by decide) ?_
            refine xlald E hw 43 rfl (by decide) dL_law_1554 ?_
            refine lv_iload hx hb dL_law_1555 (lv_at hl 0 rfl) ?_
            refine lv_i2l hx hb dL_law_1557 rfl ?_
            refine xlc_eq (tgt := 1564) hx hb dL_law_1558 dL_law_1559 (by decide) (fun c1558 => ?_) (fun c1558 => ?_)
            · replace hf := ip c1558 hf
              exact b1564 _ _ _ (ce + 1) (sl + 6) now snap has hist ent res num col v1531.2 ss states stateMany snapshot hasSnapshot text length at_ isWell rd readMany top bottom digit digitMany other otherMany column columnMany carryMany chainMost v1519.2 ard x5 (by omega) hw (lv_sub hl [2, 3, 4, 5, 6, 7] rfl) hf
            · replace hf := iq c1558 hf
              refine lv_iconst (v := 0) hx hb dL_law_1562 (by decide) ?_
              exact absurd (Option.some.inj hf) (by decide)
        · replace hf := iq c1542 hf
          refine lv_iconst (v := 0) hx hb dL_law_1545 (by decide) ?_
          exact absurd (Option.some.inj hf) (by decide)
      replace hf := iq hk hf
      by_cases hk : ((xs x5.toNatClampNeg) &&& 63) = 28
      · replace hf := ip hk hf
        refine lv_tableIn (tgt := 1567) (off := 1523) hx hb dL_law_44 (by rw [hk]; decide) (by rw [hk]; decide) (by rw [hk]; rfl) (by decide) ?_
        refine lv_aload_n hx hb dL_law_1567 rfl (lv_at hl 1 rfl) ?_
        refine lv_aload_n hx hb dL_law_1568 rfl (lv_at hl 0 rfl) ?_
        refine lv_iload hx hb dL_law_1569 (lv_at hl 5 rfl) ?_
        refine lv_iconst (v := 1) hx hb dL_law_1571 (by decide) ?_
        refine lv_iadd hx hb dL_law_1572 ?_
        obtain ⟨hz, hf⟩ := nz hf
        refine va_sld hx hb hXs hbl hbA hw.2.2 hz dL_law_1573 ?_
        refine lv_aload_n hx hb dL_law_1574 rfl (lv_at hl 3 rfl) ?_
        obtain ⟨v1575, hv1575, hf⟩ := ob_e hf
        refine xcallW (ws' := (wC g h now snap has hist ent res num col ++ wM g hm thrown ss states stateMany snapshot hasSnapshot text length at_ isWell rd readMany top bottom digit digitMany other otherMany column columnMany carryMany chainMost ++ [(ho, .inl (g.2.2.2.1, 1, .inr (.inl v1575.2)))] ++ [(hd, .inl (g.2.2.2.2, 1, .inr (.inr (.inr (.inl ard)))))])) (st1 := [.int v1575.1]) (n := 45) E hX hNc hw [.ref (h 0), .int (xs (x5 + 1).toNatClampNeg), .ref ho] [0, 1, 2, 3, 4, 5, 6, 7, 8, 9, 10, 11, 12, 13, 14, 15, 16, 17, 18, 19, 20, 21, 22, 23, 24, 25, 26, 27, 28, 29, 30, 31, 32, 33, 43] (met_L_leftByDividing l hlT g h ho now snap has hist ent res num col arr (xs (x5 + 1).toNatClampNeg) v1575 hv1575) rfl (by decide) rfl rfl [45, 46, 47, 48, 49, 50, 51, 52, 53, 54, 55, 56, 57, 58, 59, 60, 61, 62, 63, 64, 65, 66, 67, 68, 69, 70, 71, 72, 73, 74, 75, 76, 77, 78, 34, 35, 36, 37, 38, 39, 40, 41, 42, 79, 44] rfl (by decide +kernel) rfl qw937 k_L_leftByDividing ⟨rfl, rfl, Nat.le_of_ble_eq_true rfl, Nat.le_of_ble_eq_true rfl⟩ ⟨by show _ ≤ 601024; omega, by show _ ≤ 7293034; omega⟩ hl.1 (Nat.le_of_ble_eq_true rfl) dL_law_1575 rfl (fun H locs hw => ?_)
        refine lv_istore (lv' := [(6, .int v1575.1), (0, .ref b), (1, .ref (h 0)), (2, .ref (hm 0)), (3, .ref ho), (4, .ref hd), (5, .int x5)]) hx hb dL_law_1578 hl (by decide) rfl (fun ls hl => ?_)
        refine lv_aload_n hx hb dL_law_1580 rfl (lv_at hl 3 rfl) ?_
        refine lv_aload_n hx hb dL_law_1581 rfl (lv_at hl 1 rfl) ?_
        refine lv_iload hx hb dL_law_1582 (lv_at hl 6 rfl) ?_
        refine lv_iconst (v := 1) hx hb dL_law_1584 (by decide) ?_
        refine lv_iadd hx hb dL_law_1585 ?_
        obtain ⟨hz, hf⟩ := nz hf
        refine va_sld hx hb hXs hbl hbA hw.2.2 hz dL_law_1586 ?_
        obtain ⟨v1587, hv1587, hf⟩ := ob_e hf
        refine xcallV (ws' := (wC g h now snap has hist ent res num col ++ wM g hm v1587.2 ss states stateMany snapshot hasSnapshot text length at_ isWell rd readMany top bottom digit digitMany other otherMany column columnMany carryMany chainMost ++ [(ho, .inl (g.2.2.2.1, 1, .inr (.inl v1575.2)))] ++ [(hd, .inl (g.2.2.2.2, 1, .inr (.inr (.inr (.inl ard)))))])) (st1 := [.int v1587.1]) (n := 45) E hw [.int (xs (x5 + 1).toNatClampNeg)] [34, 35, 36, 37, 38, 39, 40, 41, 42] (met_X11_leftByDividing l g hm thrown ss states stateMany snapshot hasSnapshot text length at_ isWell rd readMany top bottom digit digitMany other otherMany column columnMany carryMany chainMost (xs (x5 + 1).toNatClampNeg) v1587 hv1587) rfl (by decide) rfl rfl [0, 1, 2, 3, 4, 5, 6, 7, 8, 9, 10, 11, 12, 13, 14, 15, 16, 17, 18, 19, 20, 21, 22, 23, 24, 25, 26, 27, 28, 29, 30, 31, 32, 33, 45, 46, 47, 48, 49, 50, 51, 52, 53, 43, 44] rfl (by decide +kernel) rfl rfl rfl rfl qw1341 k_X11_leftByDividing ⟨rfl, rfl, Nat.le_of_ble_eq_true rfl, Nat.le_of_ble_eq_true rfl⟩ ⟨by show _ ≤ 601024; omega, by show _ ≤ 7293034; omega⟩ hl.1 (Nat.le_of_ble_eq_true rfl) dL_law_1587 rfl (fun H locs hw => ?_)
        refine lv_istore (lv' := [(7, .int v1587.1), (6, .int v1575.1), (0, .ref b), (1, .ref (h 0)), (2, .ref (hm 0)), (3, .ref ho), (4, .ref hd), (5, .int x5)]) hx hb dL_law_1590 hl (by decide) rfl (fun ls hl => ?_)
        refine lv_aload_n hx hb dL_law_1592 rfl (lv_at hl 4 rfl) ?_
        obtain ⟨v1593, hv1593, hf⟩ := ob_e hf
        refine xcallV (ws' := (wC g h now snap has hist ent res num col ++ wM g hm v1587.2 ss states stateMany snapshot hasSnapshot text length at_ isWell rd readMany top bottom digit digitMany other otherMany column columnMany carryMany chainMost ++ [(ho, .inl (g.2.2.2.1, 1, .inr (.inl v1575.2)))] ++ [(hd, .inl (g.2.2.2.2, 1, .inr (.inr (.inr (.inl ard)))))])) (st1 := [.int v1593]) (n := 45) E hw [] [34, 35, 36, 37, 38, 39, 40, 41, 42] (met_X11_thrown l g hm v1587.2 ss states stateMany snapshot hasSnapshot text length at_ isWell rd readMany top bottom digit digitMany other otherMany column columnMany carryMany chainMost v1593 hv1593) rfl (by decide) rfl rfl [0, 1, 2, 3, 4, 5, 6, 7, 8, 9, 10, 11, 12, 13, 14, 15, 16, 17, 18, 19, 20, 21, 22, 23, 24, 25, 26, 27, 28, 29, 30, 31, 32, 33, 45, 46, 47, 48, 49, 50, 51, 52, 53, 43, 44] rfl (by decide +kernel) rfl rfl rfl rfl qw1086 k_X11_thrown ⟨rfl, rfl, Nat.le_of_ble_eq_true rfl, Nat.le_of_ble_eq_true rfl⟩ ⟨by show _ ≤ 601024; omega, by show _ ≤ 7293034; omega⟩ hl.1 (Nat.le_of_ble_eq_true rfl) dL_law_1593 rfl (fun H locs hw => ?_)
        refine lv_iload hx hb dL_law_1596 (lv_at hl 1 rfl) ?_
        refine lv_icmp_eq (tgt := 1603) hx hb dL_law_1598 (by decide) (fun c1598 => ?_) (fun c1598 => ?_)
        · replace hf := ip c1598 hf
          refine lv_iload hx hb dL_law_1603 (lv_at hl 1 rfl) ?_
          refine lv_if_ne (tgt := 1620) hx hb dL_law_1605 (by decide) (fun c1605 => ?_) (fun c1605 => ?_)
          · replace hf := iq c1605 hf
            exact b1620 _ _ _ (ce + 1) (sl + 6) now snap has hist ent res num col v1587.2 ss states stateMany snapshot hasSnapshot text length at_ isWell rd readMany top bottom digit digitMany other otherMany column columnMany carryMany chainMost v1575.2 ard x5 (by omega) hw (lv_sub hl [2, 3, 4, 5, 6, 7] rfl) hf
          · replace hf := ip c1605 hf
            refine lv_aload_n hx hb dL_law_1608 rfl (lv_at hl 5 rfl) ?_
            refine lv_iconst (v := 0) hx hb dL_law_1609 (by decide) ?_
            refine xlald E hw 43 rfl (by decide) dL_law_1610 ?_
            refine lv_iload hx hb dL_law_1611 (lv_at hl 0 rfl) ?_
            refine lv_i2l hx hb dL_law_1613 rfl ?_
            refine xlc_eq (tgt := 1620) hx hb dL_law_1614 dL_law_1615 (by decide) (fun c1614 => ?_) (fun c1614 => ?_)
            · replace hf := ip c1614 hf
              exact b1620 _ _ _ (ce + 1) (sl + 6) now snap has hist ent res num col v1587.2 ss states stateMany snapshot hasSnapshot text length at_ isWell rd readMany top bottom digit digitMany other otherMany column columnMany carryMany chainMost v1575.2 ard x5 (by omega) hw (lv_sub hl [2, 3, 4, 5, 6, 7] rfl) hf
            · replace hf := iq c1614 hf
              refine lv_iconst (v := 0) hx hb dL_law_1618 (by decide) ?_
              exact absurd (Option.some.inj hf) (by decide)
        · replace hf := iq c1598 hf
          refine lv_iconst (v := 0) hx hb dL_law_1601 (by decide) ?_
          exact absurd (Option.some.inj hf) (by decide)
      replace hf := iq hk hf
      by_cases hk : ((xs x5.toNatClampNeg) &&& 63) = 29
      · replace hf := ip hk hf
        refine lv_tableIn (tgt := 1623) (off := 1579) hx hb dL_law_44 (by rw [hk]; decide) (by rw [hk]; decide) (by rw [hk]; rfl) (by decide) ?_
        refine lv_aload_n hx hb dL_law_1623 rfl (lv_at hl 1 rfl) ?_
        refine lv_aload_n hx hb dL_law_1624 rfl (lv_at hl 0 rfl) ?_
        refine lv_iload hx hb dL_law_1625 (lv_at hl 5 rfl) ?_
        refine lv_iconst (v := 1) hx hb dL_law_1627 (by decide) ?_
        refine lv_iadd hx hb dL_law_1628 ?_
        obtain ⟨hz, hf⟩ := nz hf
        refine va_sld hx hb hXs hbl hbA hw.2.2 hz dL_law_1629 ?_
        refine lv_aload_n hx hb dL_law_1630 rfl (lv_at hl 3 rfl) ?_
        obtain ⟨v1631, hv1631, hf⟩ := ob_e hf
        refine xcallW (ws' := (wC g h now snap has hist ent res num col ++ wM g hm thrown ss states stateMany snapshot hasSnapshot text length at_ isWell rd readMany top bottom digit digitMany other otherMany column columnMany carryMany chainMost ++ [(ho, .inl (g.2.2.2.1, 1, .inr (.inl v1631.2)))] ++ [(hd, .inl (g.2.2.2.2, 1, .inr (.inr (.inr (.inl ard)))))])) (st1 := [.int v1631.1]) (n := 45) E hX hNc hw [.ref (h 0), .int (xs (x5 + 1).toNatClampNeg), .ref ho] [0, 1, 2, 3, 4, 5, 6, 7, 8, 9, 10, 11, 12, 13, 14, 15, 16, 17, 18, 19, 20, 21, 22, 23, 24, 25, 26, 27, 28, 29, 30, 31, 32, 33, 43] (met_L_headLength l hlT g h ho now snap has hist ent res num col arr (xs (x5 + 1).toNatClampNeg) v1631 hv1631) rfl (by decide) rfl rfl [45, 46, 47, 48, 49, 50, 51, 52, 53, 54, 55, 56, 57, 58, 59, 60, 61, 62, 63, 64, 65, 66, 67, 68, 69, 70, 71, 72, 73, 74, 75, 76, 77, 78, 34, 35, 36, 37, 38, 39, 40, 41, 42, 79, 44] rfl (by decide +kernel) rfl qw941 k_L_headLength ⟨rfl, rfl, Nat.le_of_ble_eq_true rfl, Nat.le_of_ble_eq_true rfl⟩ ⟨by show _ ≤ 601024; omega, by show _ ≤ 7293034; omega⟩ hl.1 (Nat.le_of_ble_eq_true rfl) dL_law_1631 rfl (fun H locs hw => ?_)
        refine lv_istore (lv' := [(6, .int v1631.1), (0, .ref b), (1, .ref (h 0)), (2, .ref (hm 0)), (3, .ref ho), (4, .ref hd), (5, .int x5)]) hx hb dL_law_1634 hl (by decide) rfl (fun ls hl => ?_)
        refine lv_aload_n hx hb dL_law_1636 rfl (lv_at hl 3 rfl) ?_
        refine lv_aload_n hx hb dL_law_1637 rfl (lv_at hl 1 rfl) ?_
        refine lv_iload hx hb dL_law_1638 (lv_at hl 6 rfl) ?_
        refine lv_iconst (v := 1) hx hb dL_law_1640 (by decide) ?_
        refine lv_iadd hx hb dL_law_1641 ?_
        obtain ⟨hz, hf⟩ := nz hf
        refine va_sld hx hb hXs hbl hbA hw.2.2 hz dL_law_1642 ?_
        obtain ⟨v1643, hv1643, hf⟩ := ob_e hf
        refine xcallV (ws' := (wC g h now snap has hist ent res num col ++ wM g hm v1643.2 ss states stateMany snapshot hasSnapshot text length at_ isWell rd readMany top bottom digit digitMany other otherMany column columnMany carryMany chainMost ++ [(ho, .inl (g.2.2.2.1, 1, .inr (.inl v1631.2)))] ++ [(hd, .inl (g.2.2.2.2, 1, .inr (.inr (.inr (.inl ard)))))])) (st1 := [.int v1643.1]) (n := 45) E hw [.int (xs (x5 + 1).toNatClampNeg)] [34, 35, 36, 37, 38, 39, 40, 41, 42] (met_X11_headLength l g hm thrown ss states stateMany snapshot hasSnapshot text length at_ isWell rd readMany top bottom digit digitMany other otherMany column columnMany carryMany chainMost (xs (x5 + 1).toNatClampNeg) v1643 hv1643) rfl (by decide) rfl rfl [0, 1, 2, 3, 4, 5, 6, 7, 8, 9, 10, 11, 12, 13, 14, 15, 16, 17, 18, 19, 20, 21, 22, 23, 24, 25, 26, 27, 28, 29, 30, 31, 32, 33, 45, 46, 47, 48, 49, 50, 51, 52, 53, 43, 44] rfl (by decide +kernel) rfl rfl rfl rfl qw1345 k_X11_headLength ⟨rfl, rfl, Nat.le_of_ble_eq_true rfl, Nat.le_of_ble_eq_true rfl⟩ ⟨by show _ ≤ 601024; omega, by show _ ≤ 7293034; omega⟩ hl.1 (Nat.le_of_ble_eq_true rfl) dL_law_1643 rfl (fun H locs hw => ?_)
        refine lv_istore (lv' := [(7, .int v1643.1), (6, .int v1631.1), (0, .ref b), (1, .ref (h 0)), (2, .ref (hm 0)), (3, .ref ho), (4, .ref hd), (5, .int x5)]) hx hb dL_law_1646 hl (by decide) rfl (fun ls hl => ?_)
        refine lv_aload_n hx hb dL_law_1648 rfl (lv_at hl 4 rfl) ?_
        obtain ⟨v1649, hv1649, hf⟩ := ob_e hf
        refine xcallV (ws' := (wC g h now snap has hist ent res num col ++ wM g hm v1643.2 ss states stateMany snapshot hasSnapshot text length at_ isWell rd readMany top bottom digit digitMany other otherMany column columnMany carryMany chainMost ++ [(ho, .inl (g.2.2.2.1, 1, .inr (.inl v1631.2)))] ++ [(hd, .inl (g.2.2.2.2, 1, .inr (.inr (.inr (.inl ard)))))])) (st1 := [.int v1649]) (n := 45) E hw [] [34, 35, 36, 37, 38, 39, 40, 41, 42] (met_X11_thrown l g hm v1643.2 ss states stateMany snapshot hasSnapshot text length at_ isWell rd readMany top bottom digit digitMany other otherMany column columnMany carryMany chainMost v1649 hv1649) rfl (by decide) rfl rfl [0, 1, 2, 3, 4, 5, 6, 7, 8, 9, 10, 11, 12, 13, 14, 15, 16, 17, 18, 19, 20, 21, 22, 23, 24, 25, 26, 27, 28, 29, 30, 31, 32, 33, 45, 46, 47, 48, 49, 50, 51, 52, 53, 43, 44] rfl (by decide +kernel) rfl rfl rfl rfl qw1086 k_X11_thrown ⟨rfl, rfl, Nat.le_of_ble_eq_true rfl, Nat.le_of_ble_eq_true rfl⟩ ⟨by show _ ≤ 601024; omega, by show _ ≤ 7293034; omega⟩ hl.1 (Nat.le_of_ble_eq_true rfl) dL_law_1649 rfl (fun H locs hw => ?_)
        refine lv_iload hx hb dL_law_1652 (lv_at hl 1 rfl) ?_
        refine lv_icmp_eq (tgt := 1659) hx hb dL_law_1654 (by decide) (fun c1654 => ?_) (fun c1654 => ?_)
        · replace hf := ip c1654 hf
          refine lv_iload hx hb dL_law_1659 (lv_at hl 1 rfl) ?_
          refine lv_if_ne (tgt := 1676) hx hb dL_law_1661 (by decide) (fun c1661 => ?_) (fun c1661 => ?_)
          · replace hf := iq c1661 hf
            exact b1676 _ _ _ (ce + 1) (sl + 6) now snap has hist ent res num col v1643.2 ss states stateMany snapshot hasSnapshot text length at_ isWell rd readMany top bottom digit digitMany other otherMany column columnMany carryMany chainMost v1631.2 ard x5 (by omega) hw (lv_sub hl [2, 3, 4, 5, 6, 7] rfl) hf
          · replace hf := ip c1661 hf
            refine lv_aload_n hx hb dL_law_1664 rfl (lv_at hl 5 rfl) ?_
            refine lv_iconst (v := 0) hx hb dL_law_1665 (by decide) ?_
            refine xlald E hw 43 rfl (by decide) dL_law_1666 ?_
            refine lv_iload hx hb dL_law_1667 (lv_at hl 0 rfl) ?_
            refine lv_i2l hx hb dL_law_1669 rfl ?_
            refine xlc_eq (tgt := 1676) hx hb dL_law_1670 dL_law_1671 (by decide) (fun c1670 => ?_) (fun c1670 => ?_)
            · replace hf := ip c1670 hf
              exact b1676 _ _ _ (ce + 1) (sl + 6) now snap has hist ent res num col v1643.2 ss states stateMany snapshot hasSnapshot text length at_ isWell rd readMany top bottom digit digitMany other otherMany column columnMany carryMany chainMost v1631.2 ard x5 (by omega) hw (lv_sub hl [2, 3, 4, 5, 6, 7] rfl) hf
            · replace hf := iq c1670 hf
              refine lv_iconst (v := 0) hx hb dL_law_1674 (by decide) ?_
              exact absurd (Option.some.inj hf) (by decide)
        · replace hf := iq c1654 hf
          refine lv_iconst (v := 0) hx hb dL_law_1657 (by decide) ?_
          exact absurd (Option.some.inj hf) (by decide)
      replace hf := iq hk hf
      by_cases hk : ((xs x5.toNatClampNeg) &&& 63) = 30
      · replace hf := ip hk hf
        refine lv_tableIn (tgt := 1679) (off := 1635) hx hb dL_law_44 (by rw [hk]; decide) (by rw [hk]; decide) (by rw [hk]; rfl) (by decide) ?_
        refine lv_aload_n hx hb dL_law_1679 rfl (lv_at hl 1 rfl) ?_
        refine lv_aload_n hx hb dL_law_1680 rfl (lv_at hl 0 rfl) ?_
        refine lv_iload hx hb dL_law_1681 (lv_at hl 5 rfl) ?_
        refine lv_iconst (v := 1) hx hb dL_law_1683 (by decide) ?_
        refine lv_iadd hx hb dL_law_1684 ?_
        obtain ⟨hz, hf⟩ := nz hf
        refine va_sld hx hb hXs hbl hbA hw.2.2 hz dL_law_1685 ?_
        refine lv_aload_n hx hb dL_law_1686 rfl (lv_at hl 3 rfl) ?_
        obtain ⟨v1687, hv1687, hf⟩ := ob_e hf
        refine xcallW (ws' := (wC g h now snap has hist ent res num col ++ wM g hm thrown ss states stateMany snapshot hasSnapshot text length at_ isWell rd readMany top bottom digit digitMany other otherMany column columnMany carryMany chainMost ++ [(ho, .inl (g.2.2.2.1, 1, .inr (.inl v1687.2)))] ++ [(hd, .inl (g.2.2.2.2, 1, .inr (.inr (.inr (.inl ard)))))])) (st1 := [.int v1687.1]) (n := 45) E hX hNc hw [.ref (h 0), .int (xs (x5 + 1).toNatClampNeg), .ref ho] [0, 1, 2, 3, 4, 5, 6, 7, 8, 9, 10, 11, 12, 13, 14, 15, 16, 17, 18, 19, 20, 21, 22, 23, 24, 25, 26, 27, 28, 29, 30, 31, 32, 33, 43] (met_L_periodLength l hlT g h ho now snap has hist ent res num col arr (xs (x5 + 1).toNatClampNeg) v1687 hv1687) rfl (by decide) rfl rfl [45, 46, 47, 48, 49, 50, 51, 52, 53, 54, 55, 56, 57, 58, 59, 60, 61, 62, 63, 64, 65, 66, 67, 68, 69, 70, 71, 72, 73, 74, 75, 76, 77, 78, 34, 35, 36, 37, 38, 39, 40, 41, 42, 79, 44] rfl (by decide +kernel) rfl qw945 k_L_periodLength ⟨rfl, rfl, Nat.le_of_ble_eq_true rfl, Nat.le_of_ble_eq_true rfl⟩ ⟨by show _ ≤ 601024; omega, by show _ ≤ 7293034; omega⟩ hl.1 (Nat.le_of_ble_eq_true rfl) dL_law_1687 rfl (fun H locs hw => ?_)
        refine lv_istore (lv' := [(6, .int v1687.1), (0, .ref b), (1, .ref (h 0)), (2, .ref (hm 0)), (3, .ref ho), (4, .ref hd), (5, .int x5)]) hx hb dL_law_1690 hl (by decide) rfl (fun ls hl => ?_)
        refine lv_aload_n hx hb dL_law_1692 rfl (lv_at hl 3 rfl) ?_
        refine lv_aload_n hx hb dL_law_1693 rfl (lv_at hl 1 rfl) ?_
        refine lv_iload hx hb dL_law_1694 (lv_at hl 6 rfl) ?_
        refine lv_iconst (v := 1) hx hb dL_law_1696 (by decide) ?_
        refine lv_iadd hx hb dL_law_1697 ?_
        obtain ⟨hz, hf⟩ := nz hf
        refine va_sld hx hb hXs hbl hbA hw.2.2 hz dL_law_1698 ?_
        obtain ⟨v1699, hv1699, hf⟩ := ob_e hf
        refine xcallV (ws' := (wC g h now snap has hist ent res num col ++ wM g hm v1699.2 ss states stateMany snapshot hasSnapshot text length at_ isWell rd readMany top bottom digit digitMany other otherMany column columnMany carryMany chainMost ++ [(ho, .inl (g.2.2.2.1, 1, .inr (.inl v1687.2)))] ++ [(hd, .inl (g.2.2.2.2, 1, .inr (.inr (.inr (.inl ard)))))])) (st1 := [.int v1699.1]) (n := 45) E hw [.int (xs (x5 + 1).toNatClampNeg)] [34, 35, 36, 37, 38, 39, 40, 41, 42] (met_X11_periodLength l g hm thrown ss states stateMany snapshot hasSnapshot text length at_ isWell rd readMany top bottom digit digitMany other otherMany column columnMany carryMany chainMost (xs (x5 + 1).toNatClampNeg) v1699 hv1699) rfl (by decide) rfl rfl [0, 1, 2, 3, 4, 5, 6, 7, 8, 9, 10, 11, 12, 13, 14, 15, 16, 17, 18, 19, 20, 21, 22, 23, 24, 25, 26, 27, 28, 29, 30, 31, 32, 33, 45, 46, 47, 48, 49, 50, 51, 52, 53, 43, 44] rfl (by decide +kernel) rfl rfl rfl rfl qw1352 k_X11_periodLength ⟨rfl, rfl, Nat.le_of_ble_eq_true rfl, Nat.le_of_ble_eq_true rfl⟩ ⟨by show _ ≤ 601024; omega, by show _ ≤ 7293034; omega⟩ hl.1 (Nat.le_of_ble_eq_true rfl) dL_law_1699 rfl (fun H locs hw => ?_)
        refine lv_istore (lv' := [(7, .int v1699.1), (6, .int v1687.1), (0, .ref b), (1, .ref (h 0)), (2, .ref (hm 0)), (3, .ref ho), (4, .ref hd), (5, .int x5)]) hx hb dL_law_1702 hl (by decide) rfl (fun ls hl => ?_)
        refine lv_aload_n hx hb dL_law_1704 rfl (lv_at hl 4 rfl) ?_
        obtain ⟨v1705, hv1705, hf⟩ := ob_e hf
        refine xcallV (ws' := (wC g h now snap has hist ent res num col ++ wM g hm v1699.2 ss states stateMany snapshot hasSnapshot text length at_ isWell rd readMany top bottom digit digitMany other otherMany column columnMany carryMany chainMost ++ [(ho, .inl (g.2.2.2.1, 1, .inr (.inl v1687.2)))] ++ [(hd, .inl (g.2.2.2.2, 1, .inr (.inr (.inr (.inl ard)))))])) (st1 := [.int v1705]) (n := 45) E hw [] [34, 35, 36, 37, 38, 39, 40, 41, 42] (met_X11_thrown l g hm v1699.2 ss states stateMany snapshot hasSnapshot text length at_ isWell rd readMany top bottom digit digitMany other otherMany column columnMany carryMany chainMost v1705 hv1705) rfl (by decide) rfl rfl [0, 1, 2, 3, 4, 5, 6, 7, 8, 9, 10, 11, 12, 13, 14, 15, 16, 17, 18, 19, 20, 21, 22, 23, 24, 25, 26, 27, 28, 29, 30, 31, 32, 33, 45, 46, 47, 48, 49, 50, 51, 52, 53, 43, 44] rfl (by decide +kernel) rfl rfl rfl rfl qw1086 k_X11_thrown ⟨rfl, rfl, Nat.le_of_ble_eq_true rfl, Nat.le_of_ble_eq_true rfl⟩ ⟨by show _ ≤ 601024; omega, by show _ ≤ 7293034; omega⟩ hl.1 (Nat.le_of_ble_eq_true rfl) dL_law_1705 rfl (fun H locs hw => ?_)
        refine lv_iload hx hb dL_law_1708 (lv_at hl 1 rfl) ?_
        refine lv_icmp_eq (tgt := 1715) hx hb dL_law_1710 (by decide) (fun c1710 => ?_) (fun c1710 => ?_)
        · replace hf := ip c1710 hf
          refine lv_iload hx hb dL_law_1715 (lv_at hl 1 rfl) ?_
          refine lv_if_ne (tgt := 1732) hx hb dL_law_1717 (by decide) (fun c1717 => ?_) (fun c1717 => ?_)
          · replace hf := iq c1717 hf
            exact b1732 _ _ _ (ce + 1) (sl + 6) now snap has hist ent res num col v1699.2 ss states stateMany snapshot hasSnapshot text length at_ isWell rd readMany top bottom digit digitMany other otherMany column columnMany carryMany chainMost v1687.2 ard x5 (by omega) hw (lv_sub hl [2, 3, 4, 5, 6, 7] rfl) hf
          · replace hf := ip c1717 hf
            refine lv_aload_n hx hb dL_law_1720 rfl (lv_at hl 5 rfl) ?_
            refine lv_iconst (v := 0) hx hb dL_law_1721 (by decide) ?_
            refine xlald E hw 43 rfl (by decide) dL_law_1722 ?_
            refine lv_iload hx hb dL_law_1723 (lv_at hl 0 rfl) ?_
            refine lv_i2l hx hb dL_law_1725 rfl ?_
            refine xlc_eq (tgt := 1732) hx hb dL_law_1726 dL_law_1727 (by decide) (fun c1726 => ?_) (fun c1726 => ?_)
            · replace hf := ip c1726 hf
              exact b1732 _ _ _ (ce + 1) (sl + 6) now snap has hist ent res num col v1699.2 ss states stateMany snapshot hasSnapshot text length at_ isWell rd readMany top bottom digit digitMany other otherMany column columnMany carryMany chainMost v1687.2 ard x5 (by omega) hw (lv_sub hl [2, 3, 4, 5, 6, 7] rfl) hf
            · replace hf := iq c1726 hf
              refine lv_iconst (v := 0) hx hb dL_law_1730 (by decide) ?_
              exact absurd (Option.some.inj hf) (by decide)
        · replace hf := iq c1710 hf
          refine lv_iconst (v := 0) hx hb dL_law_1713 (by decide) ?_
          exact absurd (Option.some.inj hf) (by decide)
      replace hf := iq hk hf
      by_cases hk : ((xs x5.toNatClampNeg) &&& 63) = 31
      · replace hf := ip hk hf
        refine lv_tableIn (tgt := 1735) (off := 1691) hx hb dL_law_44 (by rw [hk]; decide) (by rw [hk]; decide) (by rw [hk]; rfl) (by decide) ?_
        refine lv_aload_n hx hb dL_law_1735 rfl (lv_at hl 1 rfl) ?_
        refine lv_aload_n hx hb dL_law_1736 rfl (lv_at hl 0 rfl) ?_
        refine lv_iload hx hb dL_law_1737 (lv_at hl 5 rfl) ?_
        refine lv_iconst (v := 1) hx hb dL_law_1739 (by decide) ?_
        refine lv_iadd hx hb dL_law_1740 ?_
        obtain ⟨hz, hf⟩ := nz hf
        refine va_sld hx hb hXs hbl hbA hw.2.2 hz dL_law_1741 ?_
        refine lv_aload_n hx hb dL_law_1742 rfl (lv_at hl 3 rfl) ?_
        obtain ⟨v1743, hv1743, hf⟩ := ob_e hf
        refine xcallW (ws' := (wC g h now snap has hist ent res num col ++ wM g hm thrown ss states stateMany snapshot hasSnapshot text length at_ isWell rd readMany top bottom digit digitMany other otherMany column columnMany carryMany chainMost ++ [(ho, .inl (g.2.2.2.1, 1, .inr (.inl v1743.2)))] ++ [(hd, .inl (g.2.2.2.2, 1, .inr (.inr (.inr (.inl ard)))))])) (st1 := [.int v1743.1]) (n := 45) E hX hNc hw [.ref (h 0), .int (xs (x5 + 1).toNatClampNeg), .ref ho] [0, 1, 2, 3, 4, 5, 6, 7, 8, 9, 10, 11, 12, 13, 14, 15, 16, 17, 18, 19, 20, 21, 22, 23, 24, 25, 26, 27, 28, 29, 30, 31, 32, 33, 43] (met_L_periodByOrder l hlT g h ho now snap has hist ent res num col arr (xs (x5 + 1).toNatClampNeg) v1743 hv1743) rfl (by decide) rfl rfl [45, 46, 47, 48, 49, 50, 51, 52, 53, 54, 55, 56, 57, 58, 59, 60, 61, 62, 63, 64, 65, 66, 67, 68, 69, 70, 71, 72, 73, 74, 75, 76, 77, 78, 34, 35, 36, 37, 38, 39, 40, 41, 42, 79, 44] rfl (by decide +kernel) rfl qw949 k_L_periodByOrder ⟨rfl, rfl, Nat.le_of_ble_eq_true rfl, Nat.le_of_ble_eq_true rfl⟩ ⟨by show _ ≤ 601024; omega, by show _ ≤ 7293034; omega⟩ hl.1 (Nat.le_of_ble_eq_true rfl) dL_law_1743 rfl (fun H locs hw => ?_)
        refine lv_istore (lv' := [(6, .int v1743.1), (0, .ref b), (1, .ref (h 0)), (2, .ref (hm 0)), (3, .ref ho), (4, .ref hd), (5, .int x5)]) hx hb dL_law_1746 hl (by decide) rfl (fun ls hl => ?_)
        refine lv_aload_n hx hb dL_law_1748 rfl (lv_at hl 3 rfl) ?_
        refine lv_aload_n hx hb dL_law_1749 rfl (lv_at hl 1 rfl) ?_
        refine lv_iload hx hb dL_law_1750 (lv_at hl 6 rfl) ?_
        refine lv_iconst (v := 1) hx hb dL_law_1752 (by decide) ?_
        refine lv_iadd hx hb dL_law_1753 ?_
        obtain ⟨hz, hf⟩ := nz hf
        refine va_sld hx hb hXs hbl hbA hw.2.2 hz dL_law_1754 ?_
        obtain ⟨v1755, hv1755, hf⟩ := ob_e hf
        refine xcallV (ws' := (wC g h now snap has hist ent res num col ++ wM g hm v1755.2 ss states stateMany snapshot hasSnapshot text length at_ isWell rd readMany top bottom digit digitMany other otherMany column columnMany carryMany chainMost ++ [(ho, .inl (g.2.2.2.1, 1, .inr (.inl v1743.2)))] ++ [(hd, .inl (g.2.2.2.2, 1, .inr (.inr (.inr (.inl ard)))))])) (st1 := [.int v1755.1]) (n := 45) E hw [.int (xs (x5 + 1).toNatClampNeg)] [34, 35, 36, 37, 38, 39, 40, 41, 42] (met_X11_periodByOrder l g hm thrown ss states stateMany snapshot hasSnapshot text length at_ isWell rd readMany top bottom digit digitMany other otherMany column columnMany carryMany chainMost (xs (x5 + 1).toNatClampNeg) v1755 hv1755) rfl (by decide) rfl rfl [0, 1, 2, 3, 4, 5, 6, 7, 8, 9, 10, 11, 12, 13, 14, 15, 16, 17, 18, 19, 20, 21, 22, 23, 24, 25, 26, 27, 28, 29, 30, 31, 32, 33, 45, 46, 47, 48, 49, 50, 51, 52, 53, 43, 44] rfl (by decide +kernel) rfl rfl rfl rfl qw1363 k_X11_periodByOrder ⟨rfl, rfl, Nat.le_of_ble_eq_true rfl, Nat.le_of_ble_eq_true rfl⟩ ⟨by show _ ≤ 601024; omega, by show _ ≤ 7293034; omega⟩ hl.1 (Nat.le_of_ble_eq_true rfl) dL_law_1755 rfl (fun H locs hw => ?_)
        refine lv_istore (lv' := [(7, .int v1755.1), (6, .int v1743.1), (0, .ref b), (1, .ref (h 0)), (2, .ref (hm 0)), (3, .ref ho), (4, .ref hd), (5, .int x5)]) hx hb dL_law_1758 hl (by decide) rfl (fun ls hl => ?_)
        refine lv_aload_n hx hb dL_law_1760 rfl (lv_at hl 4 rfl) ?_
        obtain ⟨v1761, hv1761, hf⟩ := ob_e hf
        refine xcallV (ws' := (wC g h now snap has hist ent res num col ++ wM g hm v1755.2 ss states stateMany snapshot hasSnapshot text length at_ isWell rd readMany top bottom digit digitMany other otherMany column columnMany carryMany chainMost ++ [(ho, .inl (g.2.2.2.1, 1, .inr (.inl v1743.2)))] ++ [(hd, .inl (g.2.2.2.2, 1, .inr (.inr (.inr (.inl ard)))))])) (st1 := [.int v1761]) (n := 45) E hw [] [34, 35, 36, 37, 38, 39, 40, 41, 42] (met_X11_thrown l g hm v1755.2 ss states stateMany snapshot hasSnapshot text length at_ isWell rd readMany top bottom digit digitMany other otherMany column columnMany carryMany chainMost v1761 hv1761) rfl (by decide) rfl rfl [0, 1, 2, 3, 4, 5, 6, 7, 8, 9, 10, 11, 12, 13, 14, 15, 16, 17, 18, 19, 20, 21, 22, 23, 24, 25, 26, 27, 28, 29, 30, 31, 32, 33, 45, 46, 47, 48, 49, 50, 51, 52, 53, 43, 44] rfl (by decide +kernel) rfl rfl rfl rfl qw1086 k_X11_thrown ⟨rfl, rfl, Nat.le_of_ble_eq_true rfl, Nat.le_of_ble_eq_true rfl⟩ ⟨by show _ ≤ 601024; omega, by show _ ≤ 7293034; omega⟩ hl.1 (Nat.le_of_ble_eq_true rfl) dL_law_1761 rfl (fun H locs hw => ?_)
        refine lv_iload hx hb dL_law_1764 (lv_at hl 1 rfl) ?_
        refine lv_icmp_eq (tgt := 1771) hx hb dL_law_1766 (by decide) (fun c1766 => ?_) (fun c1766 => ?_)
        · replace hf := ip c1766 hf
          refine lv_iload hx hb dL_law_1771 (lv_at hl 1 rfl) ?_
          refine lv_if_ne (tgt := 1788) hx hb dL_law_1773 (by decide) (fun c1773 => ?_) (fun c1773 => ?_)
          · replace hf := iq c1773 hf
            exact b1788 _ _ _ (ce + 1) (sl + 6) now snap has hist ent res num col v1755.2 ss states stateMany snapshot hasSnapshot text length at_ isWell rd readMany top bottom digit digitMany other otherMany column columnMany carryMany chainMost v1743.2 ard x5 (by omega) hw (lv_sub hl [2, 3, 4, 5, 6, 7] rfl) hf
          · replace hf := ip c1773 hf
            refine lv_aload_n hx hb dL_law_1776 rfl (lv_at hl 5 rfl) ?_
            refine lv_iconst (v := 0) hx hb dL_law_1777 (by decide) ?_
            refine xlald E hw 43 rfl (by decide) dL_law_1778 ?_
            refine lv_iload hx hb dL_law_1779 (lv_at hl 0 rfl) ?_
            refine lv_i2l hx hb dL_law_1781 rfl ?_
            refine xlc_eq (tgt := 1788) hx hb dL_law_1782 dL_law_1783 (by decide) (fun c1782 => ?_) (fun c1782 => ?_)
            · replace hf := ip c1782 hf
              exact b1788 _ _ _ (ce + 1) (sl + 6) now snap has hist ent res num col v1755.2 ss states stateMany snapshot hasSnapshot text length at_ isWell rd readMany top bottom digit digitMany other otherMany column columnMany carryMany chainMost v1743.2 ard x5 (by omega) hw (lv_sub hl [2, 3, 4, 5, 6, 7] rfl) hf
            · replace hf := iq c1782 hf
              refine lv_iconst (v := 0) hx hb dL_law_1786 (by decide) ?_
              exact absurd (Option.some.inj hf) (by decide)
        · replace hf := iq c1766 hf
          refine lv_iconst (v := 0) hx hb dL_law_1769 (by decide) ?_
          exact absurd (Option.some.inj hf) (by decide)
      replace hf := iq hk hf
      by_cases hk : ((xs x5.toNatClampNeg) &&& 63) = 32
      · replace hf := ip hk hf
        refine lv_tableIn (tgt := 1791) (off := 1747) hx hb dL_law_44 (by rw [hk]; decide) (by rw [hk]; decide) (by rw [hk]; rfl) (by decide) ?_
        refine lv_aload_n hx hb dL_law_1791 rfl (lv_at hl 1 rfl) ?_
        refine lv_aload_n hx hb dL_law_1792 rfl (lv_at hl 0 rfl) ?_
        refine lv_iload hx hb dL_law_1793 (lv_at hl 5 rfl) ?_
        refine lv_iconst (v := 1) hx hb dL_law_1795 (by decide) ?_
        refine lv_iadd hx hb dL_law_1796 ?_
        obtain ⟨hz, hf⟩ := nz hf
        refine va_sld hx hb hXs hbl hbA hw.2.2 hz dL_law_1797 ?_
        refine lv_aload_n hx hb dL_law_1798 rfl (lv_at hl 0 rfl) ?_
        refine lv_iload hx hb dL_law_1799 (lv_at hl 5 rfl) ?_
        refine lv_iconst (v := 2) hx hb dL_law_1801 (by decide) ?_
        refine lv_iadd hx hb dL_law_1802 ?_
        obtain ⟨hz, hf⟩ := nz hf
        refine va_sld hx hb hXs hbl hbA hw.2.2 hz dL_law_1803 ?_
        refine lv_aload_n hx hb dL_law_1804 rfl (lv_at hl 3 rfl) ?_
        obtain ⟨v1805, hv1805, hf⟩ := ob_e hf
        refine xcallW (ws' := (wC g h now snap has hist ent res num col ++ wM g hm thrown ss states stateMany snapshot hasSnapshot text length at_ isWell rd readMany top bottom digit digitMany other otherMany column columnMany carryMany chainMost ++ [(ho, .inl (g.2.2.2.1, 1, .inr (.inl v1805.2)))] ++ [(hd, .inl (g.2.2.2.2, 1, .inr (.inr (.inr (.inl ard)))))])) (st1 := [.int v1805.1]) (n := 45) E hX hNc hw [.ref (h 0), .int (xs (x5 + 1).toNatClampNeg), .int (xs (x5 + 2).toNatClampNeg), .ref ho] [0, 1, 2, 3, 4, 5, 6, 7, 8, 9, 10, 11, 12, 13, 14, 15, 16, 17, 18, 19, 20, 21, 22, 23, 24, 25, 26, 27, 28, 29, 30, 31, 32, 33, 43] (met_L_digitBehind l hlT g h ho now snap has hist ent res num col arr (xs (x5 + 1).toNatClampNeg) (xs (x5 + 2).toNatClampNeg) v1805 hv1805) rfl (by decide) rfl rfl [45, 46, 47, 48, 49, 50, 51, 52, 53, 54, 55, 56, 57, 58, 59, 60, 61, 62, 63, 64, 65, 66, 67, 68, 69, 70, 71, 72, 73, 74, 75, 76, 77, 78, 34, 35, 36, 37, 38, 39, 40, 41, 42, 79, 44] rfl (by decide +kernel) rfl qw953 k_L_digitBehind ⟨rfl, rfl, Nat.le_of_ble_eq_true rfl, Nat.le_of_ble_eq_true rfl⟩ ⟨by show _ ≤ 601024; omega, by show _ ≤ 7293034; omega⟩ hl.1 (Nat.le_of_ble_eq_true rfl) dL_law_1805 rfl (fun H locs hw => ?_)
        refine lv_istore (lv' := [(6, .int v1805.1), (0, .ref b), (1, .ref (h 0)), (2, .ref (hm 0)), (3, .ref ho), (4, .ref hd), (5, .int x5)]) hx hb dL_law_1808 hl (by decide) rfl (fun ls hl => ?_)
        refine lv_aload_n hx hb dL_law_1810 rfl (lv_at hl 3 rfl) ?_
        refine lv_aload_n hx hb dL_law_1811 rfl (lv_at hl 1 rfl) ?_
        refine lv_iload hx hb dL_law_1812 (lv_at hl 6 rfl) ?_
        refine lv_iconst (v := 1) hx hb dL_law_1814 (by decide) ?_
        refine lv_iadd hx hb dL_law_1815 ?_
        obtain ⟨hz, hf⟩ := nz hf
        refine va_sld hx hb hXs hbl hbA hw.2.2 hz dL_law_1816 ?_
        refine lv_aload_n hx hb dL_law_1817 rfl (lv_at hl 1 rfl) ?_
        refine lv_iload hx hb dL_law_1818 (lv_at hl 6 rfl) ?_
        refine lv_iconst (v := 2) hx hb dL_law_1820 (by decide) ?_
        refine lv_iadd hx hb dL_law_1821 ?_
        obtain ⟨hz, hf⟩ := nz hf
        refine va_sld hx hb hXs hbl hbA hw.2.2 hz dL_law_1822 ?_
        obtain ⟨v1823, hv1823, hf⟩ := ob_e hf
        refine xcallV (ws' := (wC g h now snap has hist ent res num col ++ wM g hm v1823.2 ss states stateMany snapshot hasSnapshot text length at_ isWell rd readMany top bottom digit digitMany other otherMany column columnMany carryMany chainMost ++ [(ho, .inl (g.2.2.2.1, 1, .inr (.inl v1805.2)))] ++ [(hd, .inl (g.2.2.2.2, 1, .inr (.inr (.inr (.inl ard)))))])) (st1 := [.int v1823.1]) (n := 45) E hw [.int (xs (x5 + 1).toNatClampNeg), .int (xs (x5 + 2).toNatClampNeg)] [34, 35, 36, 37, 38, 39, 40, 41, 42] (met_X11_digitBehind l g hm thrown ss states stateMany snapshot hasSnapshot text length at_ isWell rd readMany top bottom digit digitMany other otherMany column columnMany carryMany chainMost (xs (x5 + 1).toNatClampNeg) (xs (x5 + 2).toNatClampNeg) v1823 hv1823) rfl (by decide) rfl rfl [0, 1, 2, 3, 4, 5, 6, 7, 8, 9, 10, 11, 12, 13, 14, 15, 16, 17, 18, 19, 20, 21, 22, 23, 24, 25, 26, 27, 28, 29, 30, 31, 32, 33, 45, 46, 47, 48, 49, 50, 51, 52, 53, 43, 44] rfl (by decide +kernel) rfl rfl rfl rfl qw1367 k_X11_digitBehind ⟨rfl, rfl, Nat.le_of_ble_eq_true rfl, Nat.le_of_ble_eq_true rfl⟩ ⟨by show _ ≤ 601024; omega, by show _ ≤ 7293034; omega⟩ hl.1 (Nat.le_of_ble_eq_true rfl) dL_law_1823 rfl (fun H locs hw => ?_)
        refine lv_istore (lv' := [(7, .int v1823.1), (6, .int v1805.1), (0, .ref b), (1, .ref (h 0)), (2, .ref (hm 0)), (3, .ref ho), (4, .ref hd), (5, .int x5)]) hx hb dL_law_1826 hl (by decide) rfl (fun ls hl => ?_)
        refine lv_aload_n hx hb dL_law_1828 rfl (lv_at hl 4 rfl) ?_
        obtain ⟨v1829, hv1829, hf⟩ := ob_e hf
        refine xcallV (ws' := (wC g h now snap has hist ent res num col ++ wM g hm v1823.2 ss states stateMany snapshot hasSnapshot text length at_ isWell rd readMany top bottom digit digitMany other otherMany column columnMany carryMany chainMost ++ [(ho, .inl (g.2.2.2.1, 1, .inr (.inl v1805.2)))] ++ [(hd, .inl (g.2.2.2.2, 1, .inr (.inr (.inr (.inl ard)))))])) (st1 := [.int v1829]) (n := 45) E hw [] [34, 35, 36, 37, 38, 39, 40, 41, 42] (met_X11_thrown l g hm v1823.2 ss states stateMany snapshot hasSnapshot text length at_ isWell rd readMany top bottom digit digitMany other otherMany column columnMany carryMany chainMost v1829 hv1829) rfl (by decide) rfl rfl [0, 1, 2, 3, 4, 5, 6, 7, 8, 9, 10, 11, 12, 13, 14, 15, 16, 17, 18, 19, 20, 21, 22, 23, 24, 25, 26, 27, 28, 29, 30, 31, 32, 33, 45, 46, 47, 48, 49, 50, 51, 52, 53, 43, 44] rfl (by decide +kernel) rfl rfl rfl rfl qw1086 k_X11_thrown ⟨rfl, rfl, Nat.le_of_ble_eq_true rfl, Nat.le_of_ble_eq_true rfl⟩ ⟨by show _ ≤ 601024; omega, by show _ ≤ 7293034; omega⟩ hl.1 (Nat.le_of_ble_eq_true rfl) dL_law_1829 rfl (fun H locs hw => ?_)
        refine lv_iload hx hb dL_law_1832 (lv_at hl 1 rfl) ?_
        refine lv_icmp_eq (tgt := 1839) hx hb dL_law_1834 (by decide) (fun c1834 => ?_) (fun c1834 => ?_)
        · replace hf := ip c1834 hf
          refine lv_iload hx hb dL_law_1839 (lv_at hl 1 rfl) ?_
          refine lv_if_ne (tgt := 1856) hx hb dL_law_1841 (by decide) (fun c1841 => ?_) (fun c1841 => ?_)
          · replace hf := iq c1841 hf
            exact b1856 _ _ _ (ce + 1) (sl + 6) now snap has hist ent res num col v1823.2 ss states stateMany snapshot hasSnapshot text length at_ isWell rd readMany top bottom digit digitMany other otherMany column columnMany carryMany chainMost v1805.2 ard x5 (by omega) hw (lv_sub hl [2, 3, 4, 5, 6, 7] rfl) hf
          · replace hf := ip c1841 hf
            refine lv_aload_n hx hb dL_law_1844 rfl (lv_at hl 5 rfl) ?_
            refine lv_iconst (v := 0) hx hb dL_law_1845 (by decide) ?_
            refine xlald E hw 43 rfl (by decide) dL_law_1846 ?_
            refine lv_iload hx hb dL_law_1847 (lv_at hl 0 rfl) ?_
            refine lv_i2l hx hb dL_law_1849 rfl ?_
            refine xlc_eq (tgt := 1856) hx hb dL_law_1850 dL_law_1851 (by decide) (fun c1850 => ?_) (fun c1850 => ?_)
            · replace hf := ip c1850 hf
              exact b1856 _ _ _ (ce + 1) (sl + 6) now snap has hist ent res num col v1823.2 ss states stateMany snapshot hasSnapshot text length at_ isWell rd readMany top bottom digit digitMany other otherMany column columnMany carryMany chainMost v1805.2 ard x5 (by omega) hw (lv_sub hl [2, 3, 4, 5, 6, 7] rfl) hf
            · replace hf := iq c1850 hf
              refine lv_iconst (v := 0) hx hb dL_law_1854 (by decide) ?_
              exact absurd (Option.some.inj hf) (by decide)
        · replace hf := iq c1834 hf
          refine lv_iconst (v := 0) hx hb dL_law_1837 (by decide) ?_
          exact absurd (Option.some.inj hf) (by decide)
      replace hf := iq hk hf
      by_cases hk : ((xs x5.toNatClampNeg) &&& 63) = 33
      · replace hf := ip hk hf
        refine lv_tableIn (tgt := 1859) (off := 1815) hx hb dL_law_44 (by rw [hk]; decide) (by rw [hk]; decide) (by rw [hk]; rfl) (by decide) ?_
        refine lv_aload_n hx hb dL_law_1859 rfl (lv_at hl 1 rfl) ?_
        refine lv_aload_n hx hb dL_law_1860 rfl (lv_at hl 0 rfl) ?_
        refine lv_iload hx hb dL_law_1861 (lv_at hl 5 rfl) ?_
        refine lv_iconst (v := 1) hx hb dL_law_1863 (by decide) ?_
        refine lv_iadd hx hb dL_law_1864 ?_
        obtain ⟨hz, hf⟩ := nz hf
        refine va_sld hx hb hXs hbl hbA hw.2.2 hz dL_law_1865 ?_
        refine lv_aload_n hx hb dL_law_1866 rfl (lv_at hl 3 rfl) ?_
        obtain ⟨v1867, hv1867, hf⟩ := ob_e hf
        refine xcallW (ws' := (wC g h now snap has hist ent res num col ++ wM g hm thrown ss states stateMany snapshot hasSnapshot text length at_ isWell rd readMany top bottom digit digitMany other otherMany column columnMany carryMany chainMost ++ [(ho, .inl (g.2.2.2.1, 1, .inr (.inl v1867.2)))] ++ [(hd, .inl (g.2.2.2.2, 1, .inr (.inr (.inr (.inl ard)))))])) (st1 := [.int v1867.1]) (n := 45) E hX hNc hw [.ref (h 0), .int (xs (x5 + 1).toNatClampNeg), .ref ho] [0, 1, 2, 3, 4, 5, 6, 7, 8, 9, 10, 11, 12, 13, 14, 15, 16, 17, 18, 19, 20, 21, 22, 23, 24, 25, 26, 27, 28, 29, 30, 31, 32, 33, 43] (met_L_shortestBase l hlT g h ho now snap has hist ent res num col arr (xs (x5 + 1).toNatClampNeg) v1867 hv1867) rfl (by decide) rfl rfl [45, 46, 47, 48, 49, 50, 51, 52, 53, 54, 55, 56, 57, 58, 59, 60, 61, 62, 63, 64, 65, 66, 67, 68, 69, 70, 71, 72, 73, 74, 75, 76, 77, 78, 34, 35, 36, 37, 38, 39, 40, 41, 42, 79, 44] rfl (by decide +kernel) rfl qw957 k_L_shortestBase ⟨rfl, rfl, Nat.le_of_ble_eq_true rfl, Nat.le_of_ble_eq_true rfl⟩ ⟨by show _ ≤ 601024; omega, by show _ ≤ 7293034; omega⟩ hl.1 (Nat.le_of_ble_eq_true rfl) dL_law_1867 rfl (fun H locs hw => ?_)
        refine lv_istore (lv' := [(6, .int v1867.1), (0, .ref b), (1, .ref (h 0)), (2, .ref (hm 0)), (3, .ref ho), (4, .ref hd), (5, .int x5)]) hx hb dL_law_1870 hl (by decide) rfl (fun ls hl => ?_)
        refine lv_aload_n hx hb dL_law_1872 rfl (lv_at hl 3 rfl) ?_
        refine lv_aload_n hx hb dL_law_1873 rfl (lv_at hl 1 rfl) ?_
        refine lv_iload hx hb dL_law_1874 (lv_at hl 6 rfl) ?_
        refine lv_iconst (v := 1) hx hb dL_law_1876 (by decide) ?_
        refine lv_iadd hx hb dL_law_1877 ?_
        obtain ⟨hz, hf⟩ := nz hf
        refine va_sld hx hb hXs hbl hbA hw.2.2 hz dL_law_1878 ?_
        obtain ⟨v1879, hv1879, hf⟩ := ob_e hf
        refine xcallV (ws' := (wC g h now snap has hist ent res num col ++ wM g hm v1879.2 ss states stateMany snapshot hasSnapshot text length at_ isWell rd readMany top bottom digit digitMany other otherMany column columnMany carryMany chainMost ++ [(ho, .inl (g.2.2.2.1, 1, .inr (.inl v1867.2)))] ++ [(hd, .inl (g.2.2.2.2, 1, .inr (.inr (.inr (.inl ard)))))])) (st1 := [.int v1879.1]) (n := 45) E hw [.int (xs (x5 + 1).toNatClampNeg)] [34, 35, 36, 37, 38, 39, 40, 41, 42] (met_X11_shortestBase l g hm thrown ss states stateMany snapshot hasSnapshot text length at_ isWell rd readMany top bottom digit digitMany other otherMany column columnMany carryMany chainMost (xs (x5 + 1).toNatClampNeg) v1879 hv1879) rfl (by decide) rfl rfl [0, 1, 2, 3, 4, 5, 6, 7, 8, 9, 10, 11, 12, 13, 14, 15, 16, 17, 18, 19, 20, 21, 22, 23, 24, 25, 26, 27, 28, 29, 30, 31, 32, 33, 45, 46, 47, 48, 49, 50, 51, 52, 53, 43, 44] rfl (by decide +kernel) rfl rfl rfl rfl qw1375 k_X11_shortestBase ⟨rfl, rfl, Nat.le_of_ble_eq_true rfl, Nat.le_of_ble_eq_true rfl⟩ ⟨by show _ ≤ 601024; omega, by show _ ≤ 7293034; omega⟩ hl.1 (Nat.le_of_ble_eq_true rfl) dL_law_1879 rfl (fun H locs hw => ?_)
        refine lv_istore (lv' := [(7, .int v1879.1), (6, .int v1867.1), (0, .ref b), (1, .ref (h 0)), (2, .ref (hm 0)), (3, .ref ho), (4, .ref hd), (5, .int x5)]) hx hb dL_law_1882 hl (by decide) rfl (fun ls hl => ?_)
        refine lv_aload_n hx hb dL_law_1884 rfl (lv_at hl 4 rfl) ?_
        obtain ⟨v1885, hv1885, hf⟩ := ob_e hf
        refine xcallV (ws' := (wC g h now snap has hist ent res num col ++ wM g hm v1879.2 ss states stateMany snapshot hasSnapshot text length at_ isWell rd readMany top bottom digit digitMany other otherMany column columnMany carryMany chainMost ++ [(ho, .inl (g.2.2.2.1, 1, .inr (.inl v1867.2)))] ++ [(hd, .inl (g.2.2.2.2, 1, .inr (.inr (.inr (.inl ard)))))])) (st1 := [.int v1885]) (n := 45) E hw [] [34, 35, 36, 37, 38, 39, 40, 41, 42] (met_X11_thrown l g hm v1879.2 ss states stateMany snapshot hasSnapshot text length at_ isWell rd readMany top bottom digit digitMany other otherMany column columnMany carryMany chainMost v1885 hv1885) rfl (by decide) rfl rfl [0, 1, 2, 3, 4, 5, 6, 7, 8, 9, 10, 11, 12, 13, 14, 15, 16, 17, 18, 19, 20, 21, 22, 23, 24, 25, 26, 27, 28, 29, 30, 31, 32, 33, 45, 46, 47, 48, 49, 50, 51, 52, 53, 43, 44] rfl (by decide +kernel) rfl rfl rfl rfl qw1086 k_X11_thrown ⟨rfl, rfl, Nat.le_of_ble_eq_true rfl, Nat.le_of_ble_eq_true rfl⟩ ⟨by show _ ≤ 601024; omega, by show _ ≤ 7293034; omega⟩ hl.1 (Nat.le_of_ble_eq_true rfl) dL_law_1885 rfl (fun H locs hw => ?_)
        refine lv_iload hx hb dL_law_1888 (lv_at hl 1 rfl) ?_
        refine lv_icmp_eq (tgt := 1895) hx hb dL_law_1890 (by decide) (fun c1890 => ?_) (fun c1890 => ?_)
        · replace hf := ip c1890 hf
          refine lv_iload hx hb dL_law_1895 (lv_at hl 1 rfl) ?_
          refine lv_if_ne (tgt := 1912) hx hb dL_law_1897 (by decide) (fun c1897 => ?_) (fun c1897 => ?_)
          · replace hf := iq c1897 hf
            exact b1912 _ _ _ (ce + 1) (sl + 6) now snap has hist ent res num col v1879.2 ss states stateMany snapshot hasSnapshot text length at_ isWell rd readMany top bottom digit digitMany other otherMany column columnMany carryMany chainMost v1867.2 ard x5 (by omega) hw (lv_sub hl [2, 3, 4, 5, 6, 7] rfl) hf
          · replace hf := ip c1897 hf
            refine lv_aload_n hx hb dL_law_1900 rfl (lv_at hl 5 rfl) ?_
            refine lv_iconst (v := 0) hx hb dL_law_1901 (by decide) ?_
            refine xlald E hw 43 rfl (by decide) dL_law_1902 ?_
            refine lv_iload hx hb dL_law_1903 (lv_at hl 0 rfl) ?_
            refine lv_i2l hx hb dL_law_1905 rfl ?_
            refine xlc_eq (tgt := 1912) hx hb dL_law_1906 dL_law_1907 (by decide) (fun c1906 => ?_) (fun c1906 => ?_)
            · replace hf := ip c1906 hf
              exact b1912 _ _ _ (ce + 1) (sl + 6) now snap has hist ent res num col v1879.2 ss states stateMany snapshot hasSnapshot text length at_ isWell rd readMany top bottom digit digitMany other otherMany column columnMany carryMany chainMost v1867.2 ard x5 (by omega) hw (lv_sub hl [2, 3, 4, 5, 6, 7] rfl) hf
            · replace hf := iq c1906 hf
              refine lv_iconst (v := 0) hx hb dL_law_1910 (by decide) ?_
              exact absurd (Option.some.inj hf) (by decide)
        · replace hf := iq c1890 hf
          refine lv_iconst (v := 0) hx hb dL_law_1893 (by decide) ?_
          exact absurd (Option.some.inj hf) (by decide)
      replace hf := iq hk hf
      by_cases hk : ((xs x5.toNatClampNeg) &&& 63) = 34
      · replace hf := ip hk hf
        refine lv_tableIn (tgt := 1915) (off := 1871) hx hb dL_law_44 (by rw [hk]; decide) (by rw [hk]; decide) (by rw [hk]; rfl) (by decide) ?_
        refine lv_aload_n hx hb dL_law_1915 rfl (lv_at hl 1 rfl) ?_
        refine lv_aload_n hx hb dL_law_1916 rfl (lv_at hl 0 rfl) ?_
        refine lv_iload hx hb dL_law_1917 (lv_at hl 5 rfl) ?_
        refine lv_iconst (v := 1) hx hb dL_law_1919 (by decide) ?_
        refine lv_iadd hx hb dL_law_1920 ?_
        obtain ⟨hz, hf⟩ := nz hf
        refine va_sld hx hb hXs hbl hbA hw.2.2 hz dL_law_1921 ?_
        refine lv_aload_n hx hb dL_law_1922 rfl (lv_at hl 3 rfl) ?_
        obtain ⟨v1923, hv1923, hf⟩ := ob_e hf
        refine xcallW (ws' := (wC g h now snap has hist ent res num col ++ wM g hm thrown ss states stateMany snapshot hasSnapshot text length at_ isWell rd readMany top bottom digit digitMany other otherMany column columnMany carryMany chainMost ++ [(ho, .inl (g.2.2.2.1, 1, .inr (.inl v1923.2)))] ++ [(hd, .inl (g.2.2.2.2, 1, .inr (.inr (.inr (.inl ard)))))])) (st1 := [.int v1923.1]) (n := 45) E hX hNc hw [.ref (h 0), .int (xs (x5 + 1).toNatClampNeg), .ref ho] [0, 1, 2, 3, 4, 5, 6, 7, 8, 9, 10, 11, 12, 13, 14, 15, 16, 17, 18, 19, 20, 21, 22, 23, 24, 25, 26, 27, 28, 29, 30, 31, 32, 33, 43] (met_L_writtenLength l hlT g h ho now snap has hist ent res num col arr (xs (x5 + 1).toNatClampNeg) v1923 hv1923) rfl (by decide) rfl rfl [45, 46, 47, 48, 49, 50, 51, 52, 53, 54, 55, 56, 57, 58, 59, 60, 61, 62, 63, 64, 65, 66, 67, 68, 69, 70, 71, 72, 73, 74, 75, 76, 77, 78, 34, 35, 36, 37, 38, 39, 40, 41, 42, 79, 44] rfl (by decide +kernel) rfl qw961 k_L_writtenLength ⟨rfl, rfl, Nat.le_of_ble_eq_true rfl, Nat.le_of_ble_eq_true rfl⟩ ⟨by show _ ≤ 601024; omega, by show _ ≤ 7293034; omega⟩ hl.1 (Nat.le_of_ble_eq_true rfl) dL_law_1923 rfl (fun H locs hw => ?_)
        refine lv_istore (lv' := [(6, .int v1923.1), (0, .ref b), (1, .ref (h 0)), (2, .ref (hm 0)), (3, .ref ho), (4, .ref hd), (5, .int x5)]) hx hb dL_law_1926 hl (by decide) rfl (fun ls hl => ?_)
        refine lv_aload_n hx hb dL_law_1928 rfl (lv_at hl 3 rfl) ?_
        refine lv_aload_n hx hb dL_law_1929 rfl (lv_at hl 1 rfl) ?_
        refine lv_iload hx hb dL_law_1930 (lv_at hl 6 rfl) ?_
        refine lv_iconst (v := 1) hx hb dL_law_1932 (by decide) ?_
        refine lv_iadd hx hb dL_law_1933 ?_
        obtain ⟨hz, hf⟩ := nz hf
        refine va_sld hx hb hXs hbl hbA hw.2.2 hz dL_law_1934 ?_
        obtain ⟨v1935, hv1935, hf⟩ := ob_e hf
        refine xcallV (ws' := (wC g h now snap has hist ent res num col ++ wM g hm v1935.2.1 ss states stateMany snapshot hasSnapshot text length at_ isWell rd readMany top bottom v1935.2.2.1 v1935.2.2.2 other otherMany column columnMany carryMany chainMost ++ [(ho, .inl (g.2.2.2.1, 1, .inr (.inl v1923.2)))] ++ [(hd, .inl (g.2.2.2.2, 1, .inr (.inr (.inr (.inl ard)))))])) (st1 := [.int v1935.1]) (n := 45) E hw [.int (xs (x5 + 1).toNatClampNeg)] [34, 35, 36, 37, 38, 39, 40, 41, 42] (met_X11_writtenLength l g hm thrown ss states stateMany snapshot hasSnapshot text length at_ isWell rd readMany top bottom digit digitMany other otherMany column columnMany carryMany chainMost (xs (x5 + 1).toNatClampNeg) v1935 hv1935) rfl (by decide) rfl rfl [0, 1, 2, 3, 4, 5, 6, 7, 8, 9, 10, 11, 12, 13, 14, 15, 16, 17, 18, 19, 20, 21, 22, 23, 24, 25, 26, 27, 28, 29, 30, 31, 32, 33, 45, 46, 47, 48, 49, 50, 51, 52, 53, 43, 44] rfl (by decide +kernel) rfl rfl rfl rfl qw1383 k_X11_writtenLength ⟨rfl, rfl, Nat.le_of_ble_eq_true rfl, Nat.le_of_ble_eq_true rfl⟩ ⟨by show _ ≤ 601024; omega, by show _ ≤ 7293034; omega⟩ hl.1 (Nat.le_of_ble_eq_true rfl) dL_law_1935 rfl (fun H locs hw => ?_)
        refine lv_istore (lv' := [(7, .int v1935.1), (6, .int v1923.1), (0, .ref b), (1, .ref (h 0)), (2, .ref (hm 0)), (3, .ref ho), (4, .ref hd), (5, .int x5)]) hx hb dL_law_1938 hl (by decide) rfl (fun ls hl => ?_)
        refine lv_aload_n hx hb dL_law_1940 rfl (lv_at hl 4 rfl) ?_
        obtain ⟨v1941, hv1941, hf⟩ := ob_e hf
        refine xcallV (ws' := (wC g h now snap has hist ent res num col ++ wM g hm v1935.2.1 ss states stateMany snapshot hasSnapshot text length at_ isWell rd readMany top bottom v1935.2.2.1 v1935.2.2.2 other otherMany column columnMany carryMany chainMost ++ [(ho, .inl (g.2.2.2.1, 1, .inr (.inl v1923.2)))] ++ [(hd, .inl (g.2.2.2.2, 1, .inr (.inr (.inr (.inl ard)))))])) (st1 := [.int v1941]) (n := 45) E hw [] [34, 35, 36, 37, 38, 39, 40, 41, 42] (met_X11_thrown l g hm v1935.2.1 ss states stateMany snapshot hasSnapshot text length at_ isWell rd readMany top bottom v1935.2.2.1 v1935.2.2.2 other otherMany column columnMany carryMany chainMost v1941 hv1941) rfl (by decide) rfl rfl [0, 1, 2, 3, 4, 5, 6, 7, 8, 9, 10, 11, 12, 13, 14, 15, 16, 17, 18, 19, 20, 21, 22, 23, 24, 25, 26, 27, 28, 29, 30, 31, 32, 33, 45, 46, 47, 48, 49, 50, 51, 52, 53, 43, 44] rfl (by decide +kernel) rfl rfl rfl rfl qw1086 k_X11_thrown ⟨rfl, rfl, Nat.le_of_ble_eq_true rfl, Nat.le_of_ble_eq_true rfl⟩ ⟨by show _ ≤ 601024; omega, by show _ ≤ 7293034; omega⟩ hl.1 (Nat.le_of_ble_eq_true rfl) dL_law_1941 rfl (fun H locs hw => ?_)
        refine lv_iload hx hb dL_law_1944 (lv_at hl 1 rfl) ?_
        refine lv_icmp_eq (tgt := 1951) hx hb dL_law_1946 (by decide) (fun c1946 => ?_) (fun c1946 => ?_)
        · replace hf := ip c1946 hf
          refine lv_iload hx hb dL_law_1951 (lv_at hl 1 rfl) ?_
          refine lv_if_ne (tgt := 1968) hx hb dL_law_1953 (by decide) (fun c1953 => ?_) (fun c1953 => ?_)
          · replace hf := iq c1953 hf
            exact b1968 _ _ _ (ce + 1) (sl + 6) now snap has hist ent res num col v1935.2.1 ss states stateMany snapshot hasSnapshot text length at_ isWell rd readMany top bottom v1935.2.2.1 v1935.2.2.2 other otherMany column columnMany carryMany chainMost v1923.2 ard x5 (by omega) hw (lv_sub hl [2, 3, 4, 5, 6, 7] rfl) hf
          · replace hf := ip c1953 hf
            refine lv_aload_n hx hb dL_law_1956 rfl (lv_at hl 5 rfl) ?_
            refine lv_iconst (v := 0) hx hb dL_law_1957 (by decide) ?_
            refine xlald E hw 43 rfl (by decide) dL_law_1958 ?_
            refine lv_iload hx hb dL_law_1959 (lv_at hl 0 rfl) ?_
            refine lv_i2l hx hb dL_law_1961 rfl ?_
            refine xlc_eq (tgt := 1968) hx hb dL_law_1962 dL_law_1963 (by decide) (fun c1962 => ?_) (fun c1962 => ?_)
            · replace hf := ip c1962 hf
              exact b1968 _ _ _ (ce + 1) (sl + 6) now snap has hist ent res num col v1935.2.1 ss states stateMany snapshot hasSnapshot text length at_ isWell rd readMany top bottom v1935.2.2.1 v1935.2.2.2 other otherMany column columnMany carryMany chainMost v1923.2 ard x5 (by omega) hw (lv_sub hl [2, 3, 4, 5, 6, 7] rfl) hf
            · replace hf := iq c1962 hf
              refine lv_iconst (v := 0) hx hb dL_law_1966 (by decide) ?_
              exact absurd (Option.some.inj hf) (by decide)
        · replace hf := iq c1946 hf
          refine lv_iconst (v := 0) hx hb dL_law_1949 (by decide) ?_
          exact absurd (Option.some.inj hf) (by decide)
      replace hf := iq hk hf
      by_cases hk : ((xs x5.toNatClampNeg) &&& 63) = 35
      · replace hf := ip hk hf
        refine lv_tableIn (tgt := 1971) (off := 1927) hx hb dL_law_44 (by rw [hk]; decide) (by rw [hk]; decide) (by rw [hk]; rfl) (by decide) ?_
        refine lv_aload_n hx hb dL_law_1971 rfl (lv_at hl 1 rfl) ?_
        refine lv_aload_n hx hb dL_law_1972 rfl (lv_at hl 0 rfl) ?_
        refine lv_iload hx hb dL_law_1973 (lv_at hl 5 rfl) ?_
        refine lv_iconst (v := 1) hx hb dL_law_1975 (by decide) ?_
        refine lv_iadd hx hb dL_law_1976 ?_
        obtain ⟨hz, hf⟩ := nz hf
        refine va_sld hx hb hXs hbl hbA hw.2.2 hz dL_law_1977 ?_
        refine lv_aload_n hx hb dL_law_1978 rfl (lv_at hl 0 rfl) ?_
        refine lv_iload hx hb dL_law_1979 (lv_at hl 5 rfl) ?_
        refine lv_iconst (v := 2) hx hb dL_law_1981 (by decide) ?_
        refine lv_iadd hx hb dL_law_1982 ?_
        obtain ⟨hz, hf⟩ := nz hf
        refine va_sld hx hb hXs hbl hbA hw.2.2 hz dL_law_1983 ?_
        refine lv_aload_n hx hb dL_law_1984 rfl (lv_at hl 3 rfl) ?_
        obtain ⟨v1985, hv1985, hf⟩ := ob_e hf
        refine xcallW (ws' := (wC g h now snap has hist ent res num col ++ wM g hm thrown ss states stateMany snapshot hasSnapshot text length at_ isWell rd readMany top bottom digit digitMany other otherMany column columnMany carryMany chainMost ++ [(ho, .inl (g.2.2.2.1, 1, .inr (.inl v1985.2)))] ++ [(hd, .inl (g.2.2.2.2, 1, .inr (.inr (.inr (.inl ard)))))])) (st1 := [.int v1985.1]) (n := 45) E hX hNc hw [.ref (h 0), .int (xs (x5 + 1).toNatClampNeg), .int (xs (x5 + 2).toNatClampNeg), .ref ho] [0, 1, 2, 3, 4, 5, 6, 7, 8, 9, 10, 11, 12, 13, 14, 15, 16, 17, 18, 19, 20, 21, 22, 23, 24, 25, 26, 27, 28, 29, 30, 31, 32, 33, 43] (met_L_writtenAt l hlT g h ho now snap has hist ent res num col arr (xs (x5 + 1).toNatClampNeg) (xs (x5 + 2).toNatClampNeg) v1985 hv1985) rfl (by decide) rfl rfl [45, 46, 47, 48, 49, 50, 51, 52, 53, 54, 55, 56, 57, 58, 59, 60, 61, 62, 63, 64, 65, 66, 67, 68, 69, 70, 71, 72, 73, 74, 75, 76, 77, 78, 34, 35, 36, 37, 38, 39, 40, 41, 42, 79, 44] rfl (by decide +kernel) rfl qw965 k_L_writtenAt ⟨rfl, rfl, Nat.le_of_ble_eq_true rfl, Nat.le_of_ble_eq_true rfl⟩ ⟨by show _ ≤ 601024; omega, by show _ ≤ 7293034; omega⟩ hl.1 (Nat.le_of_ble_eq_true rfl) dL_law_1985 rfl (fun H locs hw => ?_)
        refine lv_istore (lv' := [(6, .int v1985.1), (0, .ref b), (1, .ref (h 0)), (2, .ref (hm 0)), (3, .ref ho), (4, .ref hd), (5, .int x5)]) hx hb dL_law_1988 hl (by decide) rfl (fun ls hl => ?_)
        refine lv_aload_n hx hb dL_law_1990 rfl (lv_at hl 3 rfl) ?_
        refine lv_aload_n hx hb dL_law_1991 rfl (lv_at hl 1 rfl) ?_
        refine lv_iload hx hb dL_law_1992 (lv_at hl 6 rfl) ?_
        refine lv_iconst (v := 1) hx hb dL_law_1994 (by decide) ?_
        refine lv_iadd hx hb dL_law_1995 ?_
        obtain ⟨hz, hf⟩ := nz hf
        refine va_sld hx hb hXs hbl hbA hw.2.2 hz dL_law_1996 ?_
        refine lv_aload_n hx hb dL_law_1997 rfl (lv_at hl 1 rfl) ?_
        refine lv_iload hx hb dL_law_1998 (lv_at hl 6 rfl) ?_
        refine lv_iconst (v := 2) hx hb dL_law_2000 (by decide) ?_
        refine lv_iadd hx hb dL_law_2001 ?_
        obtain ⟨hz, hf⟩ := nz hf
        refine va_sld hx hb hXs hbl hbA hw.2.2 hz dL_law_2002 ?_
        obtain ⟨v2003, hv2003, hf⟩ := ob_e hf
        refine xcallV (ws' := (wC g h now snap has hist ent res num col ++ wM g hm v2003.2.1 ss states stateMany snapshot hasSnapshot text length at_ isWell rd readMany top bottom v2003.2.2.1 v2003.2.2.2 other otherMany column columnMany carryMany chainMost ++ [(ho, .inl (g.2.2.2.1, 1, .inr (.inl v1985.2)))] ++ [(hd, .inl (g.2.2.2.2, 1, .inr (.inr (.inr (.inl ard)))))])) (st1 := [.int v2003.1]) (n := 45) E hw [.int (xs (x5 + 1).toNatClampNeg), .int (xs (x5 + 2).toNatClampNeg)] [34, 35, 36, 37, 38, 39, 40, 41, 42] (met_X11_writtenAt l g hm thrown ss states stateMany snapshot hasSnapshot text length at_ isWell rd readMany top bottom digit digitMany other otherMany column columnMany carryMany chainMost (xs (x5 + 1).toNatClampNeg) (xs (x5 + 2).toNatClampNeg) v2003 hv2003) rfl (by decide) rfl rfl [0, 1, 2, 3, 4, 5, 6, 7, 8, 9, 10, 11, 12, 13, 14, 15, 16, 17, 18, 19, 20, 21, 22, 23, 24, 25, 26, 27, 28, 29, 30, 31, 32, 33, 45, 46, 47, 48, 49, 50, 51, 52, 53, 43, 44] rfl (by decide +kernel) rfl rfl rfl rfl qw1391 k_X11_writtenAt ⟨rfl, rfl, Nat.le_of_ble_eq_true rfl, Nat.le_of_ble_eq_true rfl⟩ ⟨by show _ ≤ 601024; omega, by show _ ≤ 7293034; omega⟩ hl.1 (Nat.le_of_ble_eq_true rfl) dL_law_2003 rfl (fun H locs hw => ?_)
        refine lv_istore (lv' := [(7, .int v2003.1), (6, .int v1985.1), (0, .ref b), (1, .ref (h 0)), (2, .ref (hm 0)), (3, .ref ho), (4, .ref hd), (5, .int x5)]) hx hb dL_law_2006 hl (by decide) rfl (fun ls hl => ?_)
        refine lv_aload_n hx hb dL_law_2008 rfl (lv_at hl 4 rfl) ?_
        obtain ⟨v2009, hv2009, hf⟩ := ob_e hf
        refine xcallV (ws' := (wC g h now snap has hist ent res num col ++ wM g hm v2003.2.1 ss states stateMany snapshot hasSnapshot text length at_ isWell rd readMany top bottom v2003.2.2.1 v2003.2.2.2 other otherMany column columnMany carryMany chainMost ++ [(ho, .inl (g.2.2.2.1, 1, .inr (.inl v1985.2)))] ++ [(hd, .inl (g.2.2.2.2, 1, .inr (.inr (.inr (.inl ard)))))])) (st1 := [.int v2009]) (n := 45) E hw [] [34, 35, 36, 37, 38, 39, 40, 41, 42] (met_X11_thrown l g hm v2003.2.1 ss states stateMany snapshot hasSnapshot text length at_ isWell rd readMany top bottom v2003.2.2.1 v2003.2.2.2 other otherMany column columnMany carryMany chainMost v2009 hv2009) rfl (by decide) rfl rfl [0, 1, 2, 3, 4, 5, 6, 7, 8, 9, 10, 11, 12, 13, 14, 15, 16, 17, 18, 19, 20, 21, 22, 23, 24, 25, 26, 27, 28, 29, 30, 31, 32, 33, 45, 46, 47, 48, 49, 50, 51, 52, 53, 43, 44] rfl (by decide +kernel) rfl rfl rfl rfl qw1086 k_X11_thrown ⟨rfl, rfl, Nat.le_of_ble_eq_true rfl, Nat.le_of_ble_eq_true rfl⟩ ⟨by show _ ≤ 601024; omega, by show _ ≤ 7293034; omega⟩ hl.1 (Nat.le_of_ble_eq_true rfl) dL_law_2009 rfl (fun H locs hw => ?_)
        refine lv_iload hx hb dL_law_2012 (lv_at hl 1 rfl) ?_
        refine lv_icmp_eq (tgt := 2019) hx hb dL_law_2014 (by decide) (fun c2014 => ?_) (fun c2014 => ?_)
        · replace hf := ip c2014 hf
          refine lv_iload hx hb dL_law_2019 (lv_at hl 1 rfl) ?_
          refine lv_if_ne (tgt := 2036) hx hb dL_law_2021 (by decide) (fun c2021 => ?_) (fun c2021 => ?_)
          · replace hf := iq c2021 hf
            exact b2036 _ _ _ (ce + 1) (sl + 6) now snap has hist ent res num col v2003.2.1 ss states stateMany snapshot hasSnapshot text length at_ isWell rd readMany top bottom v2003.2.2.1 v2003.2.2.2 other otherMany column columnMany carryMany chainMost v1985.2 ard x5 (by omega) hw (lv_sub hl [2, 3, 4, 5, 6, 7] rfl) hf
          · replace hf := ip c2021 hf
            refine lv_aload_n hx hb dL_law_2024 rfl (lv_at hl 5 rfl) ?_
            refine lv_iconst (v := 0) hx hb dL_law_2025 (by decide) ?_
            refine xlald E hw 43 rfl (by decide) dL_law_2026 ?_
            refine lv_iload hx hb dL_law_2027 (lv_at hl 0 rfl) ?_
            refine lv_i2l hx hb dL_law_2029 rfl ?_
            refine xlc_eq (tgt := 2036) hx hb dL_law_2030 dL_law_2031 (by decide) (fun c2030 => ?_) (fun c2030 => ?_)
            · replace hf := ip c2030 hf
              exact b2036 _ _ _ (ce + 1) (sl + 6) now snap has hist ent res num col v2003.2.1 ss states stateMany snapshot hasSnapshot text length at_ isWell rd readMany top bottom v2003.2.2.1 v2003.2.2.2 other otherMany column columnMany carryMany chainMost v1985.2 ard x5 (by omega) hw (lv_sub hl [2, 3, 4, 5, 6, 7] rfl) hf
            · replace hf := iq c2030 hf
              refine lv_iconst (v := 0) hx hb dL_law_2034 (by decide) ?_
              exact absurd (Option.some.inj hf) (by decide)
        · replace hf := iq c2014 hf
          refine lv_iconst (v := 0) hx hb dL_law_2017 (by decide) ?_
          exact absurd (Option.some.inj hf) (by decide)
      replace hf := iq hk hf
      by_cases hk : ((xs x5.toNatClampNeg) &&& 63) = 36
      · replace hf := ip hk hf
        refine lv_tableIn (tgt := 2039) (off := 1995) hx hb dL_law_44 (by rw [hk]; decide) (by rw [hk]; decide) (by rw [hk]; rfl) (by decide) ?_
        refine lv_aload_n hx hb dL_law_2039 rfl (lv_at hl 1 rfl) ?_
        refine lv_aload_n hx hb dL_law_2040 rfl (lv_at hl 0 rfl) ?_
        refine lv_iload hx hb dL_law_2041 (lv_at hl 5 rfl) ?_
        refine lv_iconst (v := 1) hx hb dL_law_2043 (by decide) ?_
        refine lv_iadd hx hb dL_law_2044 ?_
        obtain ⟨hz, hf⟩ := nz hf
        refine va_sld hx hb hXs hbl hbA hw.2.2 hz dL_law_2045 ?_
        refine lv_aload_n hx hb dL_law_2046 rfl (lv_at hl 0 rfl) ?_
        refine lv_iload hx hb dL_law_2047 (lv_at hl 5 rfl) ?_
        refine lv_iconst (v := 2) hx hb dL_law_2049 (by decide) ?_
        refine lv_iadd hx hb dL_law_2050 ?_
        obtain ⟨hz, hf⟩ := nz hf
        refine va_sld hx hb hXs hbl hbA hw.2.2 hz dL_law_2051 ?_
        refine lv_aload_n hx hb dL_law_2052 rfl (lv_at hl 3 rfl) ?_
        obtain ⟨v2053, hv2053, hf⟩ := ob_e hf
        refine xcallW (ws' := (wC g h now snap has hist ent res num v2053.2.1 ++ wM g hm thrown ss states stateMany snapshot hasSnapshot text length at_ isWell rd readMany top bottom digit digitMany other otherMany column columnMany carryMany chainMost ++ [(ho, .inl (g.2.2.2.1, 1, .inr (.inl v2053.2.2)))] ++ [(hd, .inl (g.2.2.2.2, 1, .inr (.inr (.inr (.inl ard)))))])) (st1 := [.int v2053.1]) (n := 45) E hX hNc hw [.ref (h 0), .int (xs (x5 + 1).toNatClampNeg), .int (xs (x5 + 2).toNatClampNeg), .ref ho] [0, 1, 2, 3, 4, 5, 6, 7, 8, 9, 10, 11, 12, 13, 14, 15, 16, 17, 18, 19, 20, 21, 22, 23, 24, 25, 26, 27, 28, 29, 30, 31, 32, 33, 43] (met_L_carries l hlT g h ho now snap has hist ent res num col arr (xs (x5 + 1).toNatClampNeg) (xs (x5 + 2).toNatClampNeg) v2053 hv2053) rfl (by decide) rfl rfl [45, 46, 47, 48, 49, 50, 51, 52, 53, 54, 55, 56, 57, 58, 59, 60, 61, 62, 63, 64, 65, 66, 67, 68, 69, 70, 71, 72, 73, 74, 75, 76, 77, 78, 34, 35, 36, 37, 38, 39, 40, 41, 42, 79, 44] rfl (by decide +kernel) rfl qw969 k_L_carries ⟨rfl, rfl, Nat.le_of_ble_eq_true rfl, Nat.le_of_ble_eq_true rfl⟩ ⟨by show _ ≤ 601024; omega, by show _ ≤ 7293034; omega⟩ hl.1 (Nat.le_of_ble_eq_true rfl) dL_law_2053 rfl (fun H locs hw => ?_)
        refine lv_istore (lv' := [(6, .int v2053.1), (0, .ref b), (1, .ref (h 0)), (2, .ref (hm 0)), (3, .ref ho), (4, .ref hd), (5, .int x5)]) hx hb dL_law_2056 hl (by decide) rfl (fun ls hl => ?_)
        refine lv_aload_n hx hb dL_law_2058 rfl (lv_at hl 3 rfl) ?_
        refine lv_aload_n hx hb dL_law_2059 rfl (lv_at hl 1 rfl) ?_
        refine lv_iload hx hb dL_law_2060 (lv_at hl 6 rfl) ?_
        refine lv_iconst (v := 1) hx hb dL_law_2062 (by decide) ?_
        refine lv_iadd hx hb dL_law_2063 ?_
        obtain ⟨hz, hf⟩ := nz hf
        refine va_sld hx hb hXs hbl hbA hw.2.2 hz dL_law_2064 ?_
        refine lv_aload_n hx hb dL_law_2065 rfl (lv_at hl 1 rfl) ?_
        refine lv_iload hx hb dL_law_2066 (lv_at hl 6 rfl) ?_
        refine lv_iconst (v := 2) hx hb dL_law_2068 (by decide) ?_
        refine lv_iadd hx hb dL_law_2069 ?_
        obtain ⟨hz, hf⟩ := nz hf
        refine va_sld hx hb hXs hbl hbA hw.2.2 hz dL_law_2070 ?_
        obtain ⟨v2071, hv2071, hf⟩ := ob_e hf
        refine xcallV (ws' := (wC g h now snap has hist ent res num v2053.2.1 ++ wM g hm v2071.2.1 ss states stateMany snapshot hasSnapshot text length at_ isWell rd readMany top bottom v2071.2.2.1 v2071.2.2.2.1 v2071.2.2.2.2.1 v2071.2.2.2.2.2.1 v2071.2.2.2.2.2.2.1 v2071.2.2.2.2.2.2.2.1 v2071.2.2.2.2.2.2.2.2.1 v2071.2.2.2.2.2.2.2.2.2 ++ [(ho, .inl (g.2.2.2.1, 1, .inr (.inl v2053.2.2)))] ++ [(hd, .inl (g.2.2.2.2, 1, .inr (.inr (.inr (.inl ard)))))])) (st1 := [.int v2071.1]) (n := 45) E hw [.int (xs (x5 + 1).toNatClampNeg), .int (xs (x5 + 2).toNatClampNeg)] [34, 35, 36, 37, 38, 39, 40, 41, 42] (met_X11_carries l g hm thrown ss states stateMany snapshot hasSnapshot text length at_ isWell rd readMany top bottom digit digitMany other otherMany column columnMany carryMany chainMost (xs (x5 + 1).toNatClampNeg) (xs (x5 + 2).toNatClampNeg) v2071 hv2071) rfl (by decide) rfl rfl [0, 1, 2, 3, 4, 5, 6, 7, 8, 9, 10, 11, 12, 13, 14, 15, 16, 17, 18, 19, 20, 21, 22, 23, 24, 25, 26, 27, 28, 29, 30, 31, 32, 33, 45, 46, 47, 48, 49, 50, 51, 52, 53, 43, 44] rfl (by decide +kernel) rfl rfl rfl rfl qw1402 k_X11_carries ⟨rfl, rfl, Nat.le_of_ble_eq_true rfl, Nat.le_of_ble_eq_true rfl⟩ ⟨by show _ ≤ 601024; omega, by show _ ≤ 7293034; omega⟩ hl.1 (Nat.le_of_ble_eq_true rfl) dL_law_2071 rfl (fun H locs hw => ?_)
        refine lv_istore (lv' := [(7, .int v2071.1), (6, .int v2053.1), (0, .ref b), (1, .ref (h 0)), (2, .ref (hm 0)), (3, .ref ho), (4, .ref hd), (5, .int x5)]) hx hb dL_law_2074 hl (by decide) rfl (fun ls hl => ?_)
        refine lv_aload_n hx hb dL_law_2076 rfl (lv_at hl 4 rfl) ?_
        obtain ⟨v2077, hv2077, hf⟩ := ob_e hf
        refine xcallV (ws' := (wC g h now snap has hist ent res num v2053.2.1 ++ wM g hm v2071.2.1 ss states stateMany snapshot hasSnapshot text length at_ isWell rd readMany top bottom v2071.2.2.1 v2071.2.2.2.1 v2071.2.2.2.2.1 v2071.2.2.2.2.2.1 v2071.2.2.2.2.2.2.1 v2071.2.2.2.2.2.2.2.1 v2071.2.2.2.2.2.2.2.2.1 v2071.2.2.2.2.2.2.2.2.2 ++ [(ho, .inl (g.2.2.2.1, 1, .inr (.inl v2053.2.2)))] ++ [(hd, .inl (g.2.2.2.2, 1, .inr (.inr (.inr (.inl ard)))))])) (st1 := [.int v2077]) (n := 45) E hw [] [34, 35, 36, 37, 38, 39, 40, 41, 42] (met_X11_thrown l g hm v2071.2.1 ss states stateMany snapshot hasSnapshot text length at_ isWell rd readMany top bottom v2071.2.2.1 v2071.2.2.2.1 v2071.2.2.2.2.1 v2071.2.2.2.2.2.1 v2071.2.2.2.2.2.2.1 v2071.2.2.2.2.2.2.2.1 v2071.2.2.2.2.2.2.2.2.1 v2071.2.2.2.2.2.2.2.2.2 v2077 hv2077) rfl (by decide) rfl rfl [0, 1, 2, 3, 4, 5, 6, 7, 8, 9, 10, 11, 12, 13, 14, 15, 16, 17, 18, 19, 20, 21, 22, 23, 24, 25, 26, 27, 28, 29, 30, 31, 32, 33, 45, 46, 47, 48, 49, 50, 51, 52, 53, 43, 44] rfl (by decide +kernel) rfl rfl rfl rfl qw1086 k_X11_thrown ⟨rfl, rfl, Nat.le_of_ble_eq_true rfl, Nat.le_of_ble_eq_true rfl⟩ ⟨by show _ ≤ 601024; omega, by show _ ≤ 7293034; omega⟩ hl.1 (Nat.le_of_ble_eq_true rfl) dL_law_2077 rfl (fun H locs hw => ?_)
        refine lv_iload hx hb dL_law_2080 (lv_at hl 1 rfl) ?_
        refine lv_icmp_eq (tgt := 2087) hx hb dL_law_2082 (by decide) (fun c2082 => ?_) (fun c2082 => ?_)
        · replace hf := ip c2082 hf
          refine lv_iload hx hb dL_law_2087 (lv_at hl 1 rfl) ?_
          refine lv_if_ne (tgt := 2104) hx hb dL_law_2089 (by decide) (fun c2089 => ?_) (fun c2089 => ?_)
          · replace hf := iq c2089 hf
            exact b2104 _ _ _ (ce + 1) (sl + 6) now snap has hist ent res num v2053.2.1 v2071.2.1 ss states stateMany snapshot hasSnapshot text length at_ isWell rd readMany top bottom v2071.2.2.1 v2071.2.2.2.1 v2071.2.2.2.2.1 v2071.2.2.2.2.2.1 v2071.2.2.2.2.2.2.1 v2071.2.2.2.2.2.2.2.1 v2071.2.2.2.2.2.2.2.2.1 v2071.2.2.2.2.2.2.2.2.2 v2053.2.2 ard x5 (by omega) hw (lv_sub hl [2, 3, 4, 5, 6, 7] rfl) hf
          · replace hf := ip c2089 hf
            refine lv_aload_n hx hb dL_law_2092 rfl (lv_at hl 5 rfl) ?_
            refine lv_iconst (v := 0) hx hb dL_law_2093 (by decide) ?_
            refine xlald E hw 43 rfl (by decide) dL_law_2094 ?_
            refine lv_iload hx hb dL_law_2095 (lv_at hl 0 rfl) ?_
            refine lv_i2l hx hb dL_law_2097 rfl ?_
            refine xlc_eq (tgt := 2104) hx hb dL_law_2098 dL_law_2099 (by decide) (fun c2098 => ?_) (fun c2098 => ?_)
            · replace hf := ip c2098 hf
              exact b2104 _ _ _ (ce + 1) (sl + 6) now snap has hist ent res num v2053.2.1 v2071.2.1 ss states stateMany snapshot hasSnapshot text length at_ isWell rd readMany top bottom v2071.2.2.1 v2071.2.2.2.1 v2071.2.2.2.2.1 v2071.2.2.2.2.2.1 v2071.2.2.2.2.2.2.1 v2071.2.2.2.2.2.2.2.1 v2071.2.2.2.2.2.2.2.2.1 v2071.2.2.2.2.2.2.2.2.2 v2053.2.2 ard x5 (by omega) hw (lv_sub hl [2, 3, 4, 5, 6, 7] rfl) hf
            · replace hf := iq c2098 hf
              refine lv_iconst (v := 0) hx hb dL_law_2102 (by decide) ?_
              exact absurd (Option.some.inj hf) (by decide)
        · replace hf := iq c2082 hf
          refine lv_iconst (v := 0) hx hb dL_law_2085 (by decide) ?_
          exact absurd (Option.some.inj hf) (by decide)
      replace hf := iq hk hf
      by_cases hk : ((xs x5.toNatClampNeg) &&& 63) = 37
      · replace hf := ip hk hf
        refine lv_tableIn (tgt := 2107) (off := 2063) hx hb dL_law_44 (by rw [hk]; decide) (by rw [hk]; decide) (by rw [hk]; rfl) (by decide) ?_
        refine lv_aload_n hx hb dL_law_2107 rfl (lv_at hl 1 rfl) ?_
        refine lv_aload_n hx hb dL_law_2108 rfl (lv_at hl 0 rfl) ?_
        refine lv_iload hx hb dL_law_2109 (lv_at hl 5 rfl) ?_
        refine lv_iconst (v := 1) hx hb dL_law_2111 (by decide) ?_
        refine lv_iadd hx hb dL_law_2112 ?_
        obtain ⟨hz, hf⟩ := nz hf
        refine va_sld hx hb hXs hbl hbA hw.2.2 hz dL_law_2113 ?_
        refine lv_aload_n hx hb dL_law_2114 rfl (lv_at hl 0 rfl) ?_
        refine lv_iload hx hb dL_law_2115 (lv_at hl 5 rfl) ?_
        refine lv_iconst (v := 2) hx hb dL_law_2117 (by decide) ?_
        refine lv_iadd hx hb dL_law_2118 ?_
        obtain ⟨hz, hf⟩ := nz hf
        refine va_sld hx hb hXs hbl hbA hw.2.2 hz dL_law_2119 ?_
        refine lv_aload_n hx hb dL_law_2120 rfl (lv_at hl 3 rfl) ?_
        obtain ⟨v2121, hv2121, hf⟩ := ob_e hf
        refine xcallW (ws' := (wC g h now snap has hist ent res num v2121.2.1 ++ wM g hm thrown ss states stateMany snapshot hasSnapshot text length at_ isWell rd readMany top bottom digit digitMany other otherMany column columnMany carryMany chainMost ++ [(ho, .inl (g.2.2.2.1, 1, .inr (.inl v2121.2.2)))] ++ [(hd, .inl (g.2.2.2.2, 1, .inr (.inr (.inr (.inl ard)))))])) (st1 := [.int v2121.1]) (n := 45) E hX hNc hw [.ref (h 0), .int (xs (x5 + 1).toNatClampNeg), .int (xs (x5 + 2).toNatClampNeg), .ref ho] [0, 1, 2, 3, 4, 5, 6, 7, 8, 9, 10, 11, 12, 13, 14, 15, 16, 17, 18, 19, 20, 21, 22, 23, 24, 25, 26, 27, 28, 29, 30, 31, 32, 33, 43] (met_L_longestChain l hlT g h ho now snap has hist ent res num col arr (xs (x5 + 1).toNatClampNeg) (xs (x5 + 2).toNatClampNeg) v2121 hv2121) rfl (by decide) rfl rfl [45, 46, 47, 48, 49, 50, 51, 52, 53, 54, 55, 56, 57, 58, 59, 60, 61, 62, 63, 64, 65, 66, 67, 68, 69, 70, 71, 72, 73, 74, 75, 76, 77, 78, 34, 35, 36, 37, 38, 39, 40, 41, 42, 79, 44] rfl (by decide +kernel) rfl qw976 k_L_longestChain ⟨rfl, rfl, Nat.le_of_ble_eq_true rfl, Nat.le_of_ble_eq_true rfl⟩ ⟨by show _ ≤ 601024; omega, by show _ ≤ 7293034; omega⟩ hl.1 (Nat.le_of_ble_eq_true rfl) dL_law_2121 rfl (fun H locs hw => ?_)
        refine lv_istore (lv' := [(6, .int v2121.1), (0, .ref b), (1, .ref (h 0)), (2, .ref (hm 0)), (3, .ref ho), (4, .ref hd), (5, .int x5)]) hx hb dL_law_2124 hl (by decide) rfl (fun ls hl => ?_)
        refine lv_aload_n hx hb dL_law_2126 rfl (lv_at hl 3 rfl) ?_
        refine lv_aload_n hx hb dL_law_2127 rfl (lv_at hl 1 rfl) ?_
        refine lv_iload hx hb dL_law_2128 (lv_at hl 6 rfl) ?_
        refine lv_iconst (v := 1) hx hb dL_law_2130 (by decide) ?_
        refine lv_iadd hx hb dL_law_2131 ?_
        obtain ⟨hz, hf⟩ := nz hf
        refine va_sld hx hb hXs hbl hbA hw.2.2 hz dL_law_2132 ?_
        refine lv_aload_n hx hb dL_law_2133 rfl (lv_at hl 1 rfl) ?_
        refine lv_iload hx hb dL_law_2134 (lv_at hl 6 rfl) ?_
        refine lv_iconst (v := 2) hx hb dL_law_2136 (by decide) ?_
        refine lv_iadd hx hb dL_law_2137 ?_
        obtain ⟨hz, hf⟩ := nz hf
        refine va_sld hx hb hXs hbl hbA hw.2.2 hz dL_law_2138 ?_
        obtain ⟨v2139, hv2139, hf⟩ := ob_e hf
        refine xcallV (ws' := (wC g h now snap has hist ent res num v2121.2.1 ++ wM g hm v2139.2.1 ss states stateMany snapshot hasSnapshot text length at_ isWell rd readMany top bottom v2139.2.2.1 v2139.2.2.2.1 v2139.2.2.2.2.1 v2139.2.2.2.2.2.1 v2139.2.2.2.2.2.2.1 v2139.2.2.2.2.2.2.2.1 v2139.2.2.2.2.2.2.2.2.1 v2139.2.2.2.2.2.2.2.2.2 ++ [(ho, .inl (g.2.2.2.1, 1, .inr (.inl v2121.2.2)))] ++ [(hd, .inl (g.2.2.2.2, 1, .inr (.inr (.inr (.inl ard)))))])) (st1 := [.int v2139.1]) (n := 45) E hw [.int (xs (x5 + 1).toNatClampNeg), .int (xs (x5 + 2).toNatClampNeg)] [34, 35, 36, 37, 38, 39, 40, 41, 42] (met_X11_longestChain l g hm thrown ss states stateMany snapshot hasSnapshot text length at_ isWell rd readMany top bottom digit digitMany other otherMany column columnMany carryMany chainMost (xs (x5 + 1).toNatClampNeg) (xs (x5 + 2).toNatClampNeg) v2139 hv2139) rfl (by decide) rfl rfl [0, 1, 2, 3, 4, 5, 6, 7, 8, 9, 10, 11, 12, 13, 14, 15, 16, 17, 18, 19, 20, 21, 22, 23, 24, 25, 26, 27, 28, 29, 30, 31, 32, 33, 45, 46, 47, 48, 49, 50, 51, 52, 53, 43, 44] rfl (by decide +kernel) rfl rfl rfl rfl qw1414 k_X11_longestChain ⟨rfl, rfl, Nat.le_of_ble_eq_true rfl, Nat.le_of_ble_eq_true rfl⟩ ⟨by show _ ≤ 601024; omega, by show _ ≤ 7293034; omega⟩ hl.1 (Nat.le_of_ble_eq_true rfl) dL_law_2139 rfl (fun H locs hw => ?_)
        refine lv_istore (lv' := [(7, .int v2139.1), (6, .int v2121.1), (0, .ref b), (1, .ref (h 0)), (2, .ref (hm 0)), (3, .ref ho), (4, .ref hd), (5, .int x5)]) hx hb dL_law_2142 hl (by decide) rfl (fun ls hl => ?_)
        refine lv_aload_n hx hb dL_law_2144 rfl (lv_at hl 4 rfl) ?_
        obtain ⟨v2145, hv2145, hf⟩ := ob_e hf
        refine xcallV (ws' := (wC g h now snap has hist ent res num v2121.2.1 ++ wM g hm v2139.2.1 ss states stateMany snapshot hasSnapshot text length at_ isWell rd readMany top bottom v2139.2.2.1 v2139.2.2.2.1 v2139.2.2.2.2.1 v2139.2.2.2.2.2.1 v2139.2.2.2.2.2.2.1 v2139.2.2.2.2.2.2.2.1 v2139.2.2.2.2.2.2.2.2.1 v2139.2.2.2.2.2.2.2.2.2 ++ [(ho, .inl (g.2.2.2.1, 1, .inr (.inl v2121.2.2)))] ++ [(hd, .inl (g.2.2.2.2, 1, .inr (.inr (.inr (.inl ard)))))])) (st1 := [.int v2145]) (n := 45) E hw [] [34, 35, 36, 37, 38, 39, 40, 41, 42] (met_X11_thrown l g hm v2139.2.1 ss states stateMany snapshot hasSnapshot text length at_ isWell rd readMany top bottom v2139.2.2.1 v2139.2.2.2.1 v2139.2.2.2.2.1 v2139.2.2.2.2.2.1 v2139.2.2.2.2.2.2.1 v2139.2.2.2.2.2.2.2.1 v2139.2.2.2.2.2.2.2.2.1 v2139.2.2.2.2.2.2.2.2.2 v2145 hv2145) rfl (by decide) rfl rfl [0, 1, 2, 3, 4, 5, 6, 7, 8, 9, 10, 11, 12, 13, 14, 15, 16, 17, 18, 19, 20, 21, 22, 23, 24, 25, 26, 27, 28, 29, 30, 31, 32, 33, 45, 46, 47, 48, 49, 50, 51, 52, 53, 43, 44] rfl (by decide +kernel) rfl rfl rfl rfl qw1086 k_X11_thrown ⟨rfl, rfl, Nat.le_of_ble_eq_true rfl, Nat.le_of_ble_eq_true rfl⟩ ⟨by show _ ≤ 601024; omega, by show _ ≤ 7293034; omega⟩ hl.1 (Nat.le_of_ble_eq_true rfl) dL_law_2145 rfl (fun H locs hw => ?_)
        refine lv_iload hx hb dL_law_2148 (lv_at hl 1 rfl) ?_
        refine lv_icmp_eq (tgt := 2155) hx hb dL_law_2150 (by decide) (fun c2150 => ?_) (fun c2150 => ?_)
        · replace hf := ip c2150 hf
          refine lv_iload hx hb dL_law_2155 (lv_at hl 1 rfl) ?_
          refine lv_if_ne (tgt := 2172) hx hb dL_law_2157 (by decide) (fun c2157 => ?_) (fun c2157 => ?_)
          · replace hf := iq c2157 hf
            exact b2172 _ _ _ (ce + 1) (sl + 6) now snap has hist ent res num v2121.2.1 v2139.2.1 ss states stateMany snapshot hasSnapshot text length at_ isWell rd readMany top bottom v2139.2.2.1 v2139.2.2.2.1 v2139.2.2.2.2.1 v2139.2.2.2.2.2.1 v2139.2.2.2.2.2.2.1 v2139.2.2.2.2.2.2.2.1 v2139.2.2.2.2.2.2.2.2.1 v2139.2.2.2.2.2.2.2.2.2 v2121.2.2 ard x5 (by omega) hw (lv_sub hl [2, 3, 4, 5, 6, 7] rfl) hf
          · replace hf := ip c2157 hf
            refine lv_aload_n hx hb dL_law_2160 rfl (lv_at hl 5 rfl) ?_
            refine lv_iconst (v := 0) hx hb dL_law_2161 (by decide) ?_
            refine xlald E hw 43 rfl (by decide) dL_law_2162 ?_
            refine lv_iload hx hb dL_law_2163 (lv_at hl 0 rfl) ?_
            refine lv_i2l hx hb dL_law_2165 rfl ?_
            refine xlc_eq (tgt := 2172) hx hb dL_law_2166 dL_law_2167 (by decide) (fun c2166 => ?_) (fun c2166 => ?_)
            · replace hf := ip c2166 hf
              exact b2172 _ _ _ (ce + 1) (sl + 6) now snap has hist ent res num v2121.2.1 v2139.2.1 ss states stateMany snapshot hasSnapshot text length at_ isWell rd readMany top bottom v2139.2.2.1 v2139.2.2.2.1 v2139.2.2.2.2.1 v2139.2.2.2.2.2.1 v2139.2.2.2.2.2.2.1 v2139.2.2.2.2.2.2.2.1 v2139.2.2.2.2.2.2.2.2.1 v2139.2.2.2.2.2.2.2.2.2 v2121.2.2 ard x5 (by omega) hw (lv_sub hl [2, 3, 4, 5, 6, 7] rfl) hf
            · replace hf := iq c2166 hf
              refine lv_iconst (v := 0) hx hb dL_law_2170 (by decide) ?_
              exact absurd (Option.some.inj hf) (by decide)
        · replace hf := iq c2150 hf
          refine lv_iconst (v := 0) hx hb dL_law_2153 (by decide) ?_
          exact absurd (Option.some.inj hf) (by decide)
      replace hf := iq hk hf
      by_cases hk : ((xs x5.toNatClampNeg) &&& 63) = 38
      · replace hf := ip hk hf
        refine lv_tableIn (tgt := 2175) (off := 2131) hx hb dL_law_44 (by rw [hk]; decide) (by rw [hk]; decide) (by rw [hk]; rfl) (by decide) ?_
        refine lv_aload_n hx hb dL_law_2175 rfl (lv_at hl 1 rfl) ?_
        refine lv_aload_n hx hb dL_law_2176 rfl (lv_at hl 0 rfl) ?_
        refine lv_iload hx hb dL_law_2177 (lv_at hl 5 rfl) ?_
        refine lv_iconst (v := 1) hx hb dL_law_2179 (by decide) ?_
        refine lv_iadd hx hb dL_law_2180 ?_
        obtain ⟨hz, hf⟩ := nz hf
        refine va_sld hx hb hXs hbl hbA hw.2.2 hz dL_law_2181 ?_
        refine lv_aload_n hx hb dL_law_2182 rfl (lv_at hl 0 rfl) ?_
        refine lv_iload hx hb dL_law_2183 (lv_at hl 5 rfl) ?_
        refine lv_iconst (v := 2) hx hb dL_law_2185 (by decide) ?_
        refine lv_iadd hx hb dL_law_2186 ?_
        obtain ⟨hz, hf⟩ := nz hf
        refine va_sld hx hb hXs hbl hbA hw.2.2 hz dL_law_2187 ?_
        refine lv_aload_n hx hb dL_law_2188 rfl (lv_at hl 0 rfl) ?_
        refine lv_iload hx hb dL_law_2189 (lv_at hl 5 rfl) ?_
        refine lv_iconst (v := 3) hx hb dL_law_2191 (by decide) ?_
        refine lv_iadd hx hb dL_law_2192 ?_
        obtain ⟨hz, hf⟩ := nz hf
        refine va_sld hx hb hXs hbl hbA hw.2.2 hz dL_law_2193 ?_
        refine lv_aload_n hx hb dL_law_2194 rfl (lv_at hl 3 rfl) ?_
        obtain ⟨v2195, hv2195, hf⟩ := ob_e hf
        refine xcallW (ws' := (wC g h now snap has hist ent res num v2195.2.1 ++ wM g hm thrown ss states stateMany snapshot hasSnapshot text length at_ isWell rd readMany top bottom digit digitMany other otherMany column columnMany carryMany chainMost ++ [(ho, .inl (g.2.2.2.1, 1, .inr (.inl v2195.2.2)))] ++ [(hd, .inl (g.2.2.2.2, 1, .inr (.inr (.inr (.inl ard)))))])) (st1 := [.int v2195.1]) (n := 45) E hX hNc hw [.ref (h 0), .int (xs (x5 + 1).toNatClampNeg), .int (xs (x5 + 2).toNatClampNeg), .int (xs (x5 + 3).toNatClampNeg), .ref ho] [0, 1, 2, 3, 4, 5, 6, 7, 8, 9, 10, 11, 12, 13, 14, 15, 16, 17, 18, 19, 20, 21, 22, 23, 24, 25, 26, 27, 28, 29, 30, 31, 32, 33, 43] (met_L_sumDigit l hlT g h ho now snap has hist ent res num col arr (xs (x5 + 1).toNatClampNeg) (xs (x5 + 2).toNatClampNeg) (xs (x5 + 3).toNatClampNeg) v2195 hv2195) rfl (by decide) rfl rfl [45, 46, 47, 48, 49, 50, 51, 52, 53, 54, 55, 56, 57, 58, 59, 60, 61, 62, 63, 64, 65, 66, 67, 68, 69, 70, 71, 72, 73, 74, 75, 76, 77, 78, 34, 35, 36, 37, 38, 39, 40, 41, 42, 79, 44] rfl (by decide +kernel) rfl qw983 k_L_sumDigit ⟨rfl, rfl, Nat.le_of_ble_eq_true rfl, Nat.le_of_ble_eq_true rfl⟩ ⟨by show _ ≤ 601024; omega, by show _ ≤ 7293034; omega⟩ hl.1 (Nat.le_of_ble_eq_true rfl) dL_law_2195 rfl (fun H locs hw => ?_)
        refine lv_istore (lv' := [(6, .int v2195.1), (0, .ref b), (1, .ref (h 0)), (2, .ref (hm 0)), (3, .ref ho), (4, .ref hd), (5, .int x5)]) hx hb dL_law_2198 hl (by decide) rfl (fun ls hl => ?_)
        refine lv_aload_n hx hb dL_law_2200 rfl (lv_at hl 3 rfl) ?_
        refine lv_aload_n hx hb dL_law_2201 rfl (lv_at hl 1 rfl) ?_
        refine lv_iload hx hb dL_law_2202 (lv_at hl 6 rfl) ?_
        refine lv_iconst (v := 1) hx hb dL_law_2204 (by decide) ?_
        refine lv_iadd hx hb dL_law_2205 ?_
        obtain ⟨hz, hf⟩ := nz hf
        refine va_sld hx hb hXs hbl hbA hw.2.2 hz dL_law_2206 ?_
        refine lv_aload_n hx hb dL_law_2207 rfl (lv_at hl 1 rfl) ?_
        refine lv_iload hx hb dL_law_2208 (lv_at hl 6 rfl) ?_
        refine lv_iconst (v := 2) hx hb dL_law_2210 (by decide) ?_
        refine lv_iadd hx hb dL_law_2211 ?_
        obtain ⟨hz, hf⟩ := nz hf
        refine va_sld hx hb hXs hbl hbA hw.2.2 hz dL_law_2212 ?_
        refine lv_aload_n hx hb dL_law_2213 rfl (lv_at hl 1 rfl) ?_
        refine lv_iload hx hb dL_law_2214 (lv_at hl 6 rfl) ?_
        refine lv_iconst (v := 3) hx hb dL_law_2216 (by decide) ?_
        refine lv_iadd hx hb dL_law_2217 ?_
        obtain ⟨hz, hf⟩ := nz hf
        refine va_sld hx hb hXs hbl hbA hw.2.2 hz dL_law_2218 ?_
        obtain ⟨v2219, hv2219, hf⟩ := ob_e hf
        refine xcallV (ws' := (wC g h now snap has hist ent res num v2195.2.1 ++ wM g hm v2219.2.1 ss states stateMany snapshot hasSnapshot text length at_ isWell rd readMany top bottom v2219.2.2.1 v2219.2.2.2.1 v2219.2.2.2.2.1 v2219.2.2.2.2.2.1 v2219.2.2.2.2.2.2.1 v2219.2.2.2.2.2.2.2.1 v2219.2.2.2.2.2.2.2.2.1 v2219.2.2.2.2.2.2.2.2.2 ++ [(ho, .inl (g.2.2.2.1, 1, .inr (.inl v2195.2.2)))] ++ [(hd, .inl (g.2.2.2.2, 1, .inr (.inr (.inr (.inl ard)))))])) (st1 := [.int v2219.1]) (n := 45) E hw [.int (xs (x5 + 1).toNatClampNeg), .int (xs (x5 + 2).toNatClampNeg), .int (xs (x5 + 3).toNatClampNeg)] [34, 35, 36, 37, 38, 39, 40, 41, 42] (met_X11_sumDigit l g hm thrown ss states stateMany snapshot hasSnapshot text length at_ isWell rd readMany top bottom digit digitMany other otherMany column columnMany carryMany chainMost (xs (x5 + 1).toNatClampNeg) (xs (x5 + 2).toNatClampNeg) (xs (x5 + 3).toNatClampNeg) v2219 hv2219) rfl (by decide) rfl rfl [0, 1, 2, 3, 4, 5, 6, 7, 8, 9, 10, 11, 12, 13, 14, 15, 16, 17, 18, 19, 20, 21, 22, 23, 24, 25, 26, 27, 28, 29, 30, 31, 32, 33, 45, 46, 47, 48, 49, 50, 51, 52, 53, 43, 44] rfl (by decide +kernel) rfl rfl rfl rfl qw1418 k_X11_sumDigit ⟨rfl, rfl, Nat.le_of_ble_eq_true rfl, Nat.le_of_ble_eq_true rfl⟩ ⟨by show _ ≤ 601024; omega, by show _ ≤ 7293034; omega⟩ hl.1 (Nat.le_of_ble_eq_true rfl) dL_law_2219 rfl (fun H locs hw => ?_)
        refine lv_istore (lv' := [(7, .int v2219.1), (6, .int v2195.1), (0, .ref b), (1, .ref (h 0)), (2, .ref (hm 0)), (3, .ref ho), (4, .ref hd), (5, .int x5)]) hx hb dL_law_2222 hl (by decide) rfl (fun ls hl => ?_)
        refine lv_aload_n hx hb dL_law_2224 rfl (lv_at hl 4 rfl) ?_
        obtain ⟨v2225, hv2225, hf⟩ := ob_e hf
        refine xcallV (ws' := (wC g h now snap has hist ent res num v2195.2.1 ++ wM g hm v2219.2.1 ss states stateMany snapshot hasSnapshot text length at_ isWell rd readMany top bottom v2219.2.2.1 v2219.2.2.2.1 v2219.2.2.2.2.1 v2219.2.2.2.2.2.1 v2219.2.2.2.2.2.2.1 v2219.2.2.2.2.2.2.2.1 v2219.2.2.2.2.2.2.2.2.1 v2219.2.2.2.2.2.2.2.2.2 ++ [(ho, .inl (g.2.2.2.1, 1, .inr (.inl v2195.2.2)))] ++ [(hd, .inl (g.2.2.2.2, 1, .inr (.inr (.inr (.inl ard)))))])) (st1 := [.int v2225]) (n := 45) E hw [] [34, 35, 36, 37, 38, 39, 40, 41, 42] (met_X11_thrown l g hm v2219.2.1 ss states stateMany snapshot hasSnapshot text length at_ isWell rd readMany top bottom v2219.2.2.1 v2219.2.2.2.1 v2219.2.2.2.2.1 v2219.2.2.2.2.2.1 v2219.2.2.2.2.2.2.1 v2219.2.2.2.2.2.2.2.1 v2219.2.2.2.2.2.2.2.2.1 v2219.2.2.2.2.2.2.2.2.2 v2225 hv2225) rfl (by decide) rfl rfl [0, 1, 2, 3, 4, 5, 6, 7, 8, 9, 10, 11, 12, 13, 14, 15, 16, 17, 18, 19, 20, 21, 22, 23, 24, 25, 26, 27, 28, 29, 30, 31, 32, 33, 45, 46, 47, 48, 49, 50, 51, 52, 53, 43, 44] rfl (by decide +kernel) rfl rfl rfl rfl qw1086 k_X11_thrown ⟨rfl, rfl, Nat.le_of_ble_eq_true rfl, Nat.le_of_ble_eq_true rfl⟩ ⟨by show _ ≤ 601024; omega, by show _ ≤ 7293034; omega⟩ hl.1 (Nat.le_of_ble_eq_true rfl) dL_law_2225 rfl (fun H locs hw => ?_)
        refine lv_iload hx hb dL_law_2228 (lv_at hl 1 rfl) ?_
        refine lv_icmp_eq (tgt := 2235) hx hb dL_law_2230 (by decide) (fun c2230 => ?_) (fun c2230 => ?_)
        · replace hf := ip c2230 hf
          refine lv_iload hx hb dL_law_2235 (lv_at hl 1 rfl) ?_
          refine lv_if_ne (tgt := 2252) hx hb dL_law_2237 (by decide) (fun c2237 => ?_) (fun c2237 => ?_)
          · replace hf := iq c2237 hf
            exact b2252 _ _ _ (ce + 1) (sl + 6) now snap has hist ent res num v2195.2.1 v2219.2.1 ss states stateMany snapshot hasSnapshot text length at_ isWell rd readMany top bottom v2219.2.2.1 v2219.2.2.2.1 v2219.2.2.2.2.1 v2219.2.2.2.2.2.1 v2219.2.2.2.2.2.2.1 v2219.2.2.2.2.2.2.2.1 v2219.2.2.2.2.2.2.2.2.1 v2219.2.2.2.2.2.2.2.2.2 v2195.2.2 ard x5 (by omega) hw (lv_sub hl [2, 3, 4, 5, 6, 7] rfl) hf
          · replace hf := ip c2237 hf
            refine lv_aload_n hx hb dL_law_2240 rfl (lv_at hl 5 rfl) ?_
            refine lv_iconst (v := 0) hx hb dL_law_2241 (by decide) ?_
            refine xlald E hw 43 rfl (by decide) dL_law_2242 ?_
            refine lv_iload hx hb dL_law_2243 (lv_at hl 0 rfl) ?_
            refine lv_i2l hx hb dL_law_2245 rfl ?_
            refine xlc_eq (tgt := 2252) hx hb dL_law_2246 dL_law_2247 (by decide) (fun c2246 => ?_) (fun c2246 => ?_)
            · replace hf := ip c2246 hf
              exact b2252 _ _ _ (ce + 1) (sl + 6) now snap has hist ent res num v2195.2.1 v2219.2.1 ss states stateMany snapshot hasSnapshot text length at_ isWell rd readMany top bottom v2219.2.2.1 v2219.2.2.2.1 v2219.2.2.2.2.1 v2219.2.2.2.2.2.1 v2219.2.2.2.2.2.2.1 v2219.2.2.2.2.2.2.2.1 v2219.2.2.2.2.2.2.2.2.1 v2219.2.2.2.2.2.2.2.2.2 v2195.2.2 ard x5 (by omega) hw (lv_sub hl [2, 3, 4, 5, 6, 7] rfl) hf
            · replace hf := iq c2246 hf
              refine lv_iconst (v := 0) hx hb dL_law_2250 (by decide) ?_
              exact absurd (Option.some.inj hf) (by decide)
        · replace hf := iq c2230 hf
          refine lv_iconst (v := 0) hx hb dL_law_2233 (by decide) ?_
          exact absurd (Option.some.inj hf) (by decide)
      replace hf := iq hk hf
      by_cases hk : ((xs x5.toNatClampNeg) &&& 63) = 39
      · replace hf := ip hk hf
        refine lv_tableIn (tgt := 2255) (off := 2211) hx hb dL_law_44 (by rw [hk]; decide) (by rw [hk]; decide) (by rw [hk]; rfl) (by decide) ?_
        refine lv_aload_n hx hb dL_law_2255 rfl (lv_at hl 1 rfl) ?_
        refine lv_aload_n hx hb dL_law_2256 rfl (lv_at hl 0 rfl) ?_
        refine lv_iload hx hb dL_law_2257 (lv_at hl 5 rfl) ?_
        refine lv_iconst (v := 1) hx hb dL_law_2259 (by decide) ?_
        refine lv_iadd hx hb dL_law_2260 ?_
        obtain ⟨hz, hf⟩ := nz hf
        refine va_sld hx hb hXs hbl hbA hw.2.2 hz dL_law_2261 ?_
        refine lv_aload_n hx hb dL_law_2262 rfl (lv_at hl 0 rfl) ?_
        refine lv_iload hx hb dL_law_2263 (lv_at hl 5 rfl) ?_
        refine lv_iconst (v := 2) hx hb dL_law_2265 (by decide) ?_
        refine lv_iadd hx hb dL_law_2266 ?_
        obtain ⟨hz, hf⟩ := nz hf
        refine va_sld hx hb hXs hbl hbA hw.2.2 hz dL_law_2267 ?_
        refine lv_aload_n hx hb dL_law_2268 rfl (lv_at hl 3 rfl) ?_
        obtain ⟨v2269, hv2269, hf⟩ := ob_e hf
        refine xcallW (ws' := (wC g h now snap has hist ent res num v2269.2.1 ++ wM g hm thrown ss states stateMany snapshot hasSnapshot text length at_ isWell rd readMany top bottom digit digitMany other otherMany column columnMany carryMany chainMost ++ [(ho, .inl (g.2.2.2.1, 1, .inr (.inl v2269.2.2)))] ++ [(hd, .inl (g.2.2.2.2, 1, .inr (.inr (.inr (.inl ard)))))])) (st1 := [.int v2269.1]) (n := 45) E hX hNc hw [.ref (h 0), .int (xs (x5 + 1).toNatClampNeg), .int (xs (x5 + 2).toNatClampNeg), .ref ho] [0, 1, 2, 3, 4, 5, 6, 7, 8, 9, 10, 11, 12, 13, 14, 15, 16, 17, 18, 19, 20, 21, 22, 23, 24, 25, 26, 27, 28, 29, 30, 31, 32, 33, 43] (met_L_sumByColumns l hlT g h ho now snap has hist ent res num col arr (xs (x5 + 1).toNatClampNeg) (xs (x5 + 2).toNatClampNeg) v2269 hv2269) rfl (by decide) rfl rfl [45, 46, 47, 48, 49, 50, 51, 52, 53, 54, 55, 56, 57, 58, 59, 60, 61, 62, 63, 64, 65, 66, 67, 68, 69, 70, 71, 72, 73, 74, 75, 76, 77, 78, 34, 35, 36, 37, 38, 39, 40, 41, 42, 79, 44] rfl (by decide +kernel) rfl qw990 k_L_sumByColumns ⟨rfl, rfl, Nat.le_of_ble_eq_true rfl, Nat.le_of_ble_eq_true rfl⟩ ⟨by show _ ≤ 601024; omega, by show _ ≤ 7293034; omega⟩ hl.1 (Nat.le_of_ble_eq_true rfl) dL_law_2269 rfl (fun H locs hw => ?_)
        refine lv_istore (lv' := [(6, .int v2269.1), (0, .ref b), (1, .ref (h 0)), (2, .ref (hm 0)), (3, .ref ho), (4, .ref hd), (5, .int x5)]) hx hb dL_law_2272 hl (by decide) rfl (fun ls hl => ?_)
        refine lv_aload_n hx hb dL_law_2274 rfl (lv_at hl 3 rfl) ?_
        refine lv_aload_n hx hb dL_law_2275 rfl (lv_at hl 1 rfl) ?_
        refine lv_iload hx hb dL_law_2276 (lv_at hl 6 rfl) ?_
        refine lv_iconst (v := 1) hx hb dL_law_2278 (by decide) ?_
        refine lv_iadd hx hb dL_law_2279 ?_
        obtain ⟨hz, hf⟩ := nz hf
        refine va_sld hx hb hXs hbl hbA hw.2.2 hz dL_law_2280 ?_
        refine lv_aload_n hx hb dL_law_2281 rfl (lv_at hl 1 rfl) ?_
        refine lv_iload hx hb dL_law_2282 (lv_at hl 6 rfl) ?_
        refine lv_iconst (v := 2) hx hb dL_law_2284 (by decide) ?_
        refine lv_iadd hx hb dL_law_2285 ?_
        obtain ⟨hz, hf⟩ := nz hf
        refine va_sld hx hb hXs hbl hbA hw.2.2 hz dL_law_2286 ?_
        obtain ⟨v2287, hv2287, hf⟩ := ob_e hf
        refine xcallV (ws' := (wC g h now snap has hist ent res num v2269.2.1 ++ wM g hm v2287.2 ss states stateMany snapshot hasSnapshot text length at_ isWell rd readMany top bottom digit digitMany other otherMany column columnMany carryMany chainMost ++ [(ho, .inl (g.2.2.2.1, 1, .inr (.inl v2269.2.2)))] ++ [(hd, .inl (g.2.2.2.2, 1, .inr (.inr (.inr (.inl ard)))))])) (st1 := [.long v2287.1]) (n := 45) E hw [.int (xs (x5 + 1).toNatClampNeg), .int (xs (x5 + 2).toNatClampNeg)] [34, 35, 36, 37, 38, 39, 40, 41, 42] (met_X11_sumByColumns l g hm thrown ss states stateMany snapshot hasSnapshot text length at_ isWell rd readMany top bottom digit digitMany other otherMany column columnMany carryMany chainMost (xs (x5 + 1).toNatClampNeg) (xs (x5 + 2).toNatClampNeg) v2287 hv2287) rfl (by decide) rfl rfl [0, 1, 2, 3, 4, 5, 6, 7, 8, 9, 10, 11, 12, 13, 14, 15, 16, 17, 18, 19, 20, 21, 22, 23, 24, 25, 26, 27, 28, 29, 30, 31, 32, 33, 45, 46, 47, 48, 49, 50, 51, 52, 53, 43, 44] rfl (by decide +kernel) rfl rfl rfl rfl qw1422 k_X11_sumByColumns ⟨rfl, rfl, Nat.le_of_ble_eq_true rfl, Nat.le_of_ble_eq_true rfl⟩ ⟨by show _ ≤ 601024; omega, by show _ ≤ 7293034; omega⟩ hl.1 (Nat.le_of_ble_eq_true rfl) dL_law_2287 rfl (fun H locs hw => ?_)
        refine lv_lstore (lv' := [(7, .long v2287.1), (6, .int v2269.1), (0, .ref b), (1, .ref (h 0)), (2, .ref (hm 0)), (3, .ref ho), (4, .ref hd), (5, .int x5)]) hx hb dL_law_2290 hl (by decide) rfl (fun ls hl => ?_)
        refine lv_aload_n hx hb dL_law_2292 rfl (lv_at hl 4 rfl) ?_
        obtain ⟨v2293, hv2293, hf⟩ := ob_e hf
        refine xcallV (ws' := (wC g h now snap has hist ent res num v2269.2.1 ++ wM g hm v2287.2 ss states stateMany snapshot hasSnapshot text length at_ isWell rd readMany top bottom digit digitMany other otherMany column columnMany carryMany chainMost ++ [(ho, .inl (g.2.2.2.1, 1, .inr (.inl v2269.2.2)))] ++ [(hd, .inl (g.2.2.2.2, 1, .inr (.inr (.inr (.inl ard)))))])) (st1 := [.int v2293]) (n := 45) E hw [] [34, 35, 36, 37, 38, 39, 40, 41, 42] (met_X11_thrown l g hm v2287.2 ss states stateMany snapshot hasSnapshot text length at_ isWell rd readMany top bottom digit digitMany other otherMany column columnMany carryMany chainMost v2293 hv2293) rfl (by decide) rfl rfl [0, 1, 2, 3, 4, 5, 6, 7, 8, 9, 10, 11, 12, 13, 14, 15, 16, 17, 18, 19, 20, 21, 22, 23, 24, 25, 26, 27, 28, 29, 30, 31, 32, 33, 45, 46, 47, 48, 49, 50, 51, 52, 53, 43, 44] rfl (by decide +kernel) rfl rfl rfl rfl qw1086 k_X11_thrown ⟨rfl, rfl, Nat.le_of_ble_eq_true rfl, Nat.le_of_ble_eq_true rfl⟩ ⟨by show _ ≤ 601024; omega, by show _ ≤ 7293034; omega⟩ hl.1 (Nat.le_of_ble_eq_true rfl) dL_law_2293 rfl (fun H locs hw => ?_)
        refine lv_iload hx hb dL_law_2296 (lv_at hl 1 rfl) ?_
        refine lv_icmp_eq (tgt := 2303) hx hb dL_law_2298 (by decide) (fun c2298 => ?_) (fun c2298 => ?_)
        · replace hf := ip c2298 hf
          refine lv_iload hx hb dL_law_2303 (lv_at hl 1 rfl) ?_
          refine lv_if_ne (tgt := 2319) hx hb dL_law_2305 (by decide) (fun c2305 => ?_) (fun c2305 => ?_)
          · replace hf := iq c2305 hf
            exact b2319 _ _ _ (ce + 1) (sl + 6) now snap has hist ent res num v2269.2.1 v2287.2 ss states stateMany snapshot hasSnapshot text length at_ isWell rd readMany top bottom digit digitMany other otherMany column columnMany carryMany chainMost v2269.2.2 ard x5 (by omega) hw (lv_sub hl [2, 3, 4, 5, 6, 7] rfl) hf
          · replace hf := ip c2305 hf
            refine lv_aload_n hx hb dL_law_2308 rfl (lv_at hl 5 rfl) ?_
            refine lv_iconst (v := 0) hx hb dL_law_2309 (by decide) ?_
            refine xlald E hw 43 rfl (by decide) dL_law_2310 ?_
            refine lv_lload hx hb dL_law_2311 (lv_at hl 0 rfl) ?_
            refine xlc_eq (tgt := 2319) hx hb dL_law_2313 dL_law_2314 (by decide) (fun c2313 => ?_) (fun c2313 => ?_)
            · replace hf := ip c2313 hf
              exact b2319 _ _ _ (ce + 1) (sl + 6) now snap has hist ent res num v2269.2.1 v2287.2 ss states stateMany snapshot hasSnapshot text length at_ isWell rd readMany top bottom digit digitMany other otherMany column columnMany carryMany chainMost v2269.2.2 ard x5 (by omega) hw (lv_sub hl [2, 3, 4, 5, 6, 7] rfl) hf
            · replace hf := iq c2313 hf
              refine lv_iconst (v := 0) hx hb dL_law_2317 (by decide) ?_
              exact absurd (Option.some.inj hf) (by decide)
        · replace hf := iq c2298 hf
          refine lv_iconst (v := 0) hx hb dL_law_2301 (by decide) ?_
          exact absurd (Option.some.inj hf) (by decide)
      replace hf := iq hk hf
      by_cases hk : ((xs x5.toNatClampNeg) &&& 63) = 40
      · replace hf := ip hk hf
        refine lv_tableIn (tgt := 2322) (off := 2278) hx hb dL_law_44 (by rw [hk]; decide) (by rw [hk]; decide) (by rw [hk]; rfl) (by decide) ?_
        refine lv_aload_n hx hb dL_law_2322 rfl (lv_at hl 1 rfl) ?_
        refine lv_aload_n hx hb dL_law_2323 rfl (lv_at hl 0 rfl) ?_
        refine lv_iload hx hb dL_law_2324 (lv_at hl 5 rfl) ?_
        refine lv_iconst (v := 1) hx hb dL_law_2326 (by decide) ?_
        refine lv_iadd hx hb dL_law_2327 ?_
        obtain ⟨hz, hf⟩ := nz hf
        refine va_sld hx hb hXs hbl hbA hw.2.2 hz dL_law_2328 ?_
        refine lv_aload_n hx hb dL_law_2329 rfl (lv_at hl 0 rfl) ?_
        refine lv_iload hx hb dL_law_2330 (lv_at hl 5 rfl) ?_
        refine lv_iconst (v := 2) hx hb dL_law_2332 (by decide) ?_
        refine lv_iadd hx hb dL_law_2333 ?_
        obtain ⟨hz, hf⟩ := nz hf
        refine va_sld hx hb hXs hbl hbA hw.2.2 hz dL_law_2334 ?_
        refine lv_aload_n hx hb dL_law_2335 rfl (lv_at hl 3 rfl) ?_
        obtain ⟨v2336, hv2336, hf⟩ := ob_e hf
        refine xcallW (ws' := (wC g h now snap has hist ent res num col ++ wM g hm thrown ss states stateMany snapshot hasSnapshot text length at_ isWell rd readMany top bottom digit digitMany other otherMany column columnMany carryMany chainMost ++ [(ho, .inl (g.2.2.2.1, 1, .inr (.inl v2336.2)))] ++ [(hd, .inl (g.2.2.2.2, 1, .inr (.inr (.inr (.inl ard)))))])) (st1 := [.int v2336.1]) (n := 45) E hX hNc hw [.ref (h 0), .int (xs (x5 + 1).toNatClampNeg), .int (xs (x5 + 2).toNatClampNeg), .ref ho] [0, 1, 2, 3, 4, 5, 6, 7, 8, 9, 10, 11, 12, 13, 14, 15, 16, 17, 18, 19, 20, 21, 22, 23, 24, 25, 26, 27, 28, 29, 30, 31, 32, 33, 43] (met_L_readIn l hlT g h ho now snap has hist ent res num col arr (xs (x5 + 1).toNatClampNeg) (xs (x5 + 2).toNatClampNeg) v2336 hv2336) rfl (by decide) rfl rfl [45, 46, 47, 48, 49, 50, 51, 52, 53, 54, 55, 56, 57, 58, 59, 60, 61, 62, 63, 64, 65, 66, 67, 68, 69, 70, 71, 72, 73, 74, 75, 76, 77, 78, 34, 35, 36, 37, 38, 39, 40, 41, 42, 79, 44] rfl (by decide +kernel) rfl qw997 k_L_readIn ⟨rfl, rfl, Nat.le_of_ble_eq_true rfl, Nat.le_of_ble_eq_true rfl⟩ ⟨by show _ ≤ 601024; omega, by show _ ≤ 7293034; omega⟩ hl.1 (Nat.le_of_ble_eq_true rfl) dL_law_2336 rfl (fun H locs hw => ?_)
        refine lv_istore (lv' := [(6, .int v2336.1), (0, .ref b), (1, .ref (h 0)), (2, .ref (hm 0)), (3, .ref ho), (4, .ref hd), (5, .int x5)]) hx hb dL_law_2339 hl (by decide) rfl (fun ls hl => ?_)
        refine lv_aload_n hx hb dL_law_2341 rfl (lv_at hl 3 rfl) ?_
        refine lv_aload_n hx hb dL_law_2342 rfl (lv_at hl 1 rfl) ?_
        refine lv_iload hx hb dL_law_2343 (lv_at hl 6 rfl) ?_
        refine lv_iconst (v := 1) hx hb dL_law_2345 (by decide) ?_
        refine lv_iadd hx hb dL_law_2346 ?_
        obtain ⟨hz, hf⟩ := nz hf
        refine va_sld hx hb hXs hbl hbA hw.2.2 hz dL_law_2347 ?_
        refine lv_aload_n hx hb dL_law_2348 rfl (lv_at hl 1 rfl) ?_
        refine lv_iload hx hb dL_law_2349 (lv_at hl 6 rfl) ?_
        refine lv_iconst (v := 2) hx hb dL_law_2351 (by decide) ?_
        refine lv_iadd hx hb dL_law_2352 ?_
        obtain ⟨hz, hf⟩ := nz hf
        refine va_sld hx hb hXs hbl hbA hw.2.2 hz dL_law_2353 ?_
        obtain ⟨v2354, hv2354, hf⟩ := ob_e hf
        refine xcallV (ws' := (wC g h now snap has hist ent res num col ++ wM g hm v2354.2.1 ss states stateMany snapshot hasSnapshot text length at_ isWell rd readMany top bottom v2354.2.2.1 v2354.2.2.2 other otherMany column columnMany carryMany chainMost ++ [(ho, .inl (g.2.2.2.1, 1, .inr (.inl v2336.2)))] ++ [(hd, .inl (g.2.2.2.2, 1, .inr (.inr (.inr (.inl ard)))))])) (st1 := [.long v2354.1]) (n := 45) E hw [.int (xs (x5 + 1).toNatClampNeg), .int (xs (x5 + 2).toNatClampNeg)] [34, 35, 36, 37, 38, 39, 40, 41, 42] (met_X11_readIn l g hm thrown ss states stateMany snapshot hasSnapshot text length at_ isWell rd readMany top bottom digit digitMany other otherMany column columnMany carryMany chainMost (xs (x5 + 1).toNatClampNeg) (xs (x5 + 2).toNatClampNeg) v2354 hv2354) rfl (by decide) rfl rfl [0, 1, 2, 3, 4, 5, 6, 7, 8, 9, 10, 11, 12, 13, 14, 15, 16, 17, 18, 19, 20, 21, 22, 23, 24, 25, 26, 27, 28, 29, 30, 31, 32, 33, 45, 46, 47, 48, 49, 50, 51, 52, 53, 43, 44] rfl (by decide +kernel) rfl rfl rfl rfl qw1426 k_X11_readIn ⟨rfl, rfl, Nat.le_of_ble_eq_true rfl, Nat.le_of_ble_eq_true rfl⟩ ⟨by show _ ≤ 601024; omega, by show _ ≤ 7293034; omega⟩ hl.1 (Nat.le_of_ble_eq_true rfl) dL_law_2354 rfl (fun H locs hw => ?_)
        refine lv_lstore (lv' := [(7, .long v2354.1), (6, .int v2336.1), (0, .ref b), (1, .ref (h 0)), (2, .ref (hm 0)), (3, .ref ho), (4, .ref hd), (5, .int x5)]) hx hb dL_law_2357 hl (by decide) rfl (fun ls hl => ?_)
        refine lv_aload_n hx hb dL_law_2359 rfl (lv_at hl 4 rfl) ?_
        obtain ⟨v2360, hv2360, hf⟩ := ob_e hf
        refine xcallV (ws' := (wC g h now snap has hist ent res num col ++ wM g hm v2354.2.1 ss states stateMany snapshot hasSnapshot text length at_ isWell rd readMany top bottom v2354.2.2.1 v2354.2.2.2 other otherMany column columnMany carryMany chainMost ++ [(ho, .inl (g.2.2.2.1, 1, .inr (.inl v2336.2)))] ++ [(hd, .inl (g.2.2.2.2, 1, .inr (.inr (.inr (.inl ard)))))])) (st1 := [.int v2360]) (n := 45) E hw [] [34, 35, 36, 37, 38, 39, 40, 41, 42] (met_X11_thrown l g hm v2354.2.1 ss states stateMany snapshot hasSnapshot text length at_ isWell rd readMany top bottom v2354.2.2.1 v2354.2.2.2 other otherMany column columnMany carryMany chainMost v2360 hv2360) rfl (by decide) rfl rfl [0, 1, 2, 3, 4, 5, 6, 7, 8, 9, 10, 11, 12, 13, 14, 15, 16, 17, 18, 19, 20, 21, 22, 23, 24, 25, 26, 27, 28, 29, 30, 31, 32, 33, 45, 46, 47, 48, 49, 50, 51, 52, 53, 43, 44] rfl (by decide +kernel) rfl rfl rfl rfl qw1086 k_X11_thrown ⟨rfl, rfl, Nat.le_of_ble_eq_true rfl, Nat.le_of_ble_eq_true rfl⟩ ⟨by show _ ≤ 601024; omega, by show _ ≤ 7293034; omega⟩ hl.1 (Nat.le_of_ble_eq_true rfl) dL_law_2360 rfl (fun H locs hw => ?_)
        refine lv_iload hx hb dL_law_2363 (lv_at hl 1 rfl) ?_
        refine lv_icmp_eq (tgt := 2370) hx hb dL_law_2365 (by decide) (fun c2365 => ?_) (fun c2365 => ?_)
        · replace hf := ip c2365 hf
          refine lv_iload hx hb dL_law_2370 (lv_at hl 1 rfl) ?_
          refine lv_if_ne (tgt := 2386) hx hb dL_law_2372 (by decide) (fun c2372 => ?_) (fun c2372 => ?_)
          · replace hf := iq c2372 hf
            exact b2386 _ _ _ (ce + 1) (sl + 6) now snap has hist ent res num col v2354.2.1 ss states stateMany snapshot hasSnapshot text length at_ isWell rd readMany top bottom v2354.2.2.1 v2354.2.2.2 other otherMany column columnMany carryMany chainMost v2336.2 ard x5 (by omega) hw (lv_sub hl [2, 3, 4, 5, 6, 7] rfl) hf
          · replace hf := ip c2372 hf
            refine lv_aload_n hx hb dL_law_2375 rfl (lv_at hl 5 rfl) ?_
            refine lv_iconst (v := 0) hx hb dL_law_2376 (by decide) ?_
            refine xlald E hw 43 rfl (by decide) dL_law_2377 ?_
            refine lv_lload hx hb dL_law_2378 (lv_at hl 0 rfl) ?_
            refine xlc_eq (tgt := 2386) hx hb dL_law_2380 dL_law_2381 (by decide) (fun c2380 => ?_) (fun c2380 => ?_)
            · replace hf := ip c2380 hf
              exact b2386 _ _ _ (ce + 1) (sl + 6) now snap has hist ent res num col v2354.2.1 ss states stateMany snapshot hasSnapshot text length at_ isWell rd readMany top bottom v2354.2.2.1 v2354.2.2.2 other otherMany column columnMany carryMany chainMost v2336.2 ard x5 (by omega) hw (lv_sub hl [2, 3, 4, 5, 6, 7] rfl) hf
            · replace hf := iq c2380 hf
              refine lv_iconst (v := 0) hx hb dL_law_2384 (by decide) ?_
              exact absurd (Option.some.inj hf) (by decide)
        · replace hf := iq c2365 hf
          refine lv_iconst (v := 0) hx hb dL_law_2368 (by decide) ?_
          exact absurd (Option.some.inj hf) (by decide)
      replace hf := iq hk hf
      by_cases hk : ((xs x5.toNatClampNeg) &&& 63) = 41
      · replace hf := ip hk hf
        refine lv_tableIn (tgt := 2389) (off := 2345) hx hb dL_law_44 (by rw [hk]; decide) (by rw [hk]; decide) (by rw [hk]; rfl) (by decide) ?_
        refine lv_aload_n hx hb dL_law_2389 rfl (lv_at hl 1 rfl) ?_
        refine lv_aload_n hx hb dL_law_2390 rfl (lv_at hl 0 rfl) ?_
        refine lv_iload hx hb dL_law_2391 (lv_at hl 5 rfl) ?_
        refine lv_iconst (v := 1) hx hb dL_law_2393 (by decide) ?_
        refine lv_iadd hx hb dL_law_2394 ?_
        obtain ⟨hz, hf⟩ := nz hf
        refine va_sld hx hb hXs hbl hbA hw.2.2 hz dL_law_2395 ?_
        refine lv_aload_n hx hb dL_law_2396 rfl (lv_at hl 0 rfl) ?_
        refine lv_iload hx hb dL_law_2397 (lv_at hl 5 rfl) ?_
        refine lv_iconst (v := 2) hx hb dL_law_2399 (by decide) ?_
        refine lv_iadd hx hb dL_law_2400 ?_
        obtain ⟨hz, hf⟩ := nz hf
        refine va_sld hx hb hXs hbl hbA hw.2.2 hz dL_law_2401 ?_
        refine lv_aload_n hx hb dL_law_2402 rfl (lv_at hl 3 rfl) ?_
        obtain ⟨v2403, hv2403, hf⟩ := ob_e hf
        refine xcallW (ws' := (wC g h now snap has hist ent v2403.2.1 num col ++ wM g hm thrown ss states stateMany snapshot hasSnapshot text length at_ isWell rd readMany top bottom digit digitMany other otherMany column columnMany carryMany chainMost ++ [(ho, .inl (g.2.2.2.1, 1, .inr (.inl v2403.2.2)))] ++ [(hd, .inl (g.2.2.2.2, 1, .inr (.inr (.inr (.inl ard)))))])) (st1 := [.int v2403.1]) (n := 45) E hX hNc hw [.ref (h 0), .int (xs (x5 + 1).toNatClampNeg), .int (xs (x5 + 2).toNatClampNeg), .ref ho] [0, 1, 2, 3, 4, 5, 6, 7, 8, 9, 10, 11, 12, 13, 14, 15, 16, 17, 18, 19, 20, 21, 22, 23, 24, 25, 26, 27, 28, 29, 30, 31, 32, 33, 43] (met_L_whyNoSum l hlT g h ho now snap has hist ent res num col arr (xs (x5 + 1).toNatClampNeg) (xs (x5 + 2).toNatClampNeg) v2403 hv2403) rfl (by decide) rfl rfl [45, 46, 47, 48, 49, 50, 51, 52, 53, 54, 55, 56, 57, 58, 59, 60, 61, 62, 63, 64, 65, 66, 67, 68, 69, 70, 71, 72, 73, 74, 75, 76, 77, 78, 34, 35, 36, 37, 38, 39, 40, 41, 42, 79, 44] rfl (by decide +kernel) rfl qw1001 k_L_whyNoSum ⟨rfl, rfl, Nat.le_of_ble_eq_true rfl, Nat.le_of_ble_eq_true rfl⟩ ⟨by show _ ≤ 601024; omega, by show _ ≤ 7293034; omega⟩ hl.1 (Nat.le_of_ble_eq_true rfl) dL_law_2403 rfl (fun H locs hw => ?_)
        refine lv_istore (lv' := [(6, .int v2403.1), (0, .ref b), (1, .ref (h 0)), (2, .ref (hm 0)), (3, .ref ho), (4, .ref hd), (5, .int x5)]) hx hb dL_law_2406 hl (by decide) rfl (fun ls hl => ?_)
        refine lv_aload_n hx hb dL_law_2408 rfl (lv_at hl 3 rfl) ?_
        refine lv_aload_n hx hb dL_law_2409 rfl (lv_at hl 1 rfl) ?_
        refine lv_iload hx hb dL_law_2410 (lv_at hl 6 rfl) ?_
        refine lv_iconst (v := 1) hx hb dL_law_2412 (by decide) ?_
        refine lv_iadd hx hb dL_law_2413 ?_
        obtain ⟨hz, hf⟩ := nz hf
        refine va_sld hx hb hXs hbl hbA hw.2.2 hz dL_law_2414 ?_
        refine lv_aload_n hx hb dL_law_2415 rfl (lv_at hl 1 rfl) ?_
        refine lv_iload hx hb dL_law_2416 (lv_at hl 6 rfl) ?_
        refine lv_iconst (v := 2) hx hb dL_law_2418 (by decide) ?_
        refine lv_iadd hx hb dL_law_2419 ?_
        obtain ⟨hz, hf⟩ := nz hf
        refine va_sld hx hb hXs hbl hbA hw.2.2 hz dL_law_2420 ?_
        obtain ⟨v2421, hv2421, hf⟩ := ob_e hf
        refine xcallV (ws' := (wC g h now snap has hist ent v2403.2.1 num col ++ wM g hm v2421.2.1 ss states stateMany snapshot hasSnapshot text length at_ isWell rd readMany v2421.2.2.1 v2421.2.2.2 digit digitMany other otherMany column columnMany carryMany chainMost ++ [(ho, .inl (g.2.2.2.1, 1, .inr (.inl v2403.2.2)))] ++ [(hd, .inl (g.2.2.2.2, 1, .inr (.inr (.inr (.inl ard)))))])) (st1 := [.int v2421.1]) (n := 45) E hw [.int (xs (x5 + 1).toNatClampNeg), .int (xs (x5 + 2).toNatClampNeg)] [34, 35, 36, 37, 38, 39, 40, 41, 42] (met_X11_whyNoSum l g hm thrown ss states stateMany snapshot hasSnapshot text length at_ isWell rd readMany top bottom digit digitMany other otherMany column columnMany carryMany chainMost (xs (x5 + 1).toNatClampNeg) (xs (x5 + 2).toNatClampNeg) v2421 hv2421) rfl (by decide) rfl rfl [0, 1, 2, 3, 4, 5, 6, 7, 8, 9, 10, 11, 12, 13, 14, 15, 16, 17, 18, 19, 20, 21, 22, 23, 24, 25, 26, 27, 28, 29, 30, 31, 32, 33, 45, 46, 47, 48, 49, 50, 51, 52, 53, 43, 44] rfl (by decide +kernel) rfl rfl rfl rfl qw1436 k_X11_whyNoSum ⟨rfl, rfl, Nat.le_of_ble_eq_true rfl, Nat.le_of_ble_eq_true rfl⟩ ⟨by show _ ≤ 601024; omega, by show _ ≤ 7293034; omega⟩ hl.1 (Nat.le_of_ble_eq_true rfl) dL_law_2421 rfl (fun H locs hw => ?_)
        refine lv_istore (lv' := [(7, .int v2421.1), (6, .int v2403.1), (0, .ref b), (1, .ref (h 0)), (2, .ref (hm 0)), (3, .ref ho), (4, .ref hd), (5, .int x5)]) hx hb dL_law_2424 hl (by decide) rfl (fun ls hl => ?_)
        refine lv_aload_n hx hb dL_law_2426 rfl (lv_at hl 4 rfl) ?_
        obtain ⟨v2427, hv2427, hf⟩ := ob_e hf
        refine xcallV (ws' := (wC g h now snap has hist ent v2403.2.1 num col ++ wM g hm v2421.2.1 ss states stateMany snapshot hasSnapshot text length at_ isWell rd readMany v2421.2.2.1 v2421.2.2.2 digit digitMany other otherMany column columnMany carryMany chainMost ++ [(ho, .inl (g.2.2.2.1, 1, .inr (.inl v2403.2.2)))] ++ [(hd, .inl (g.2.2.2.2, 1, .inr (.inr (.inr (.inl ard)))))])) (st1 := [.int v2427]) (n := 45) E hw [] [34, 35, 36, 37, 38, 39, 40, 41, 42] (met_X11_thrown l g hm v2421.2.1 ss states stateMany snapshot hasSnapshot text length at_ isWell rd readMany v2421.2.2.1 v2421.2.2.2 digit digitMany other otherMany column columnMany carryMany chainMost v2427 hv2427) rfl (by decide) rfl rfl [0, 1, 2, 3, 4, 5, 6, 7, 8, 9, 10, 11, 12, 13, 14, 15, 16, 17, 18, 19, 20, 21, 22, 23, 24, 25, 26, 27, 28, 29, 30, 31, 32, 33, 45, 46, 47, 48, 49, 50, 51, 52, 53, 43, 44] rfl (by decide +kernel) rfl rfl rfl rfl qw1086 k_X11_thrown ⟨rfl, rfl, Nat.le_of_ble_eq_true rfl, Nat.le_of_ble_eq_true rfl⟩ ⟨by show _ ≤ 601024; omega, by show _ ≤ 7293034; omega⟩ hl.1 (Nat.le_of_ble_eq_true rfl) dL_law_2427 rfl (fun H locs hw => ?_)
        refine lv_iload hx hb dL_law_2430 (lv_at hl 1 rfl) ?_
        refine lv_icmp_eq (tgt := 2437) hx hb dL_law_2432 (by decide) (fun c2432 => ?_) (fun c2432 => ?_)
        · replace hf := ip c2432 hf
          refine lv_iload hx hb dL_law_2437 (lv_at hl 1 rfl) ?_
          refine lv_if_ne (tgt := 2454) hx hb dL_law_2439 (by decide) (fun c2439 => ?_) (fun c2439 => ?_)
          · replace hf := iq c2439 hf
            exact b2454 _ _ _ (ce + 1) (sl + 6) now snap has hist ent v2403.2.1 num col v2421.2.1 ss states stateMany snapshot hasSnapshot text length at_ isWell rd readMany v2421.2.2.1 v2421.2.2.2 digit digitMany other otherMany column columnMany carryMany chainMost v2403.2.2 ard x5 (by omega) hw (lv_sub hl [2, 3, 4, 5, 6, 7] rfl) hf
          · replace hf := ip c2439 hf
            refine lv_aload_n hx hb dL_law_2442 rfl (lv_at hl 5 rfl) ?_
            refine lv_iconst (v := 0) hx hb dL_law_2443 (by decide) ?_
            refine xlald E hw 43 rfl (by decide) dL_law_2444 ?_
            refine lv_iload hx hb dL_law_2445 (lv_at hl 0 rfl) ?_
            refine lv_i2l hx hb dL_law_2447 rfl ?_
            refine xlc_eq (tgt := 2454) hx hb dL_law_2448 dL_law_2449 (by decide) (fun c2448 => ?_) (fun c2448 => ?_)
            · replace hf := ip c2448 hf
              exact b2454 _ _ _ (ce + 1) (sl + 6) now snap has hist ent v2403.2.1 num col v2421.2.1 ss states stateMany snapshot hasSnapshot text length at_ isWell rd readMany v2421.2.2.1 v2421.2.2.2 digit digitMany other otherMany column columnMany carryMany chainMost v2403.2.2 ard x5 (by omega) hw (lv_sub hl [2, 3, 4, 5, 6, 7] rfl) hf
            · replace hf := iq c2448 hf
              refine lv_iconst (v := 0) hx hb dL_law_2452 (by decide) ?_
              exact absurd (Option.some.inj hf) (by decide)
        · replace hf := iq c2432 hf
          refine lv_iconst (v := 0) hx hb dL_law_2435 (by decide) ?_
          exact absurd (Option.some.inj hf) (by decide)
      replace hf := iq hk hf
      by_cases hk : ((xs x5.toNatClampNeg) &&& 63) = 42
      · replace hf := ip hk hf
        refine lv_tableIn (tgt := 2457) (off := 2413) hx hb dL_law_44 (by rw [hk]; decide) (by rw [hk]; decide) (by rw [hk]; rfl) (by decide) ?_
        refine lv_aload_n hx hb dL_law_2457 rfl (lv_at hl 1 rfl) ?_
        refine lv_aload_n hx hb dL_law_2458 rfl (lv_at hl 0 rfl) ?_
        refine lv_iload hx hb dL_law_2459 (lv_at hl 5 rfl) ?_
        refine lv_iconst (v := 1) hx hb dL_law_2461 (by decide) ?_
        refine lv_iadd hx hb dL_law_2462 ?_
        obtain ⟨hz, hf⟩ := nz hf
        refine va_sld hx hb hXs hbl hbA hw.2.2 hz dL_law_2463 ?_
        refine lv_aload_n hx hb dL_law_2464 rfl (lv_at hl 0 rfl) ?_
        refine lv_iload hx hb dL_law_2465 (lv_at hl 5 rfl) ?_
        refine lv_iconst (v := 2) hx hb dL_law_2467 (by decide) ?_
        refine lv_iadd hx hb dL_law_2468 ?_
        obtain ⟨hz, hf⟩ := nz hf
        refine va_sld hx hb hXs hbl hbA hw.2.2 hz dL_law_2469 ?_
        refine lv_aload_n hx hb dL_law_2470 rfl (lv_at hl 3 rfl) ?_
        obtain ⟨v2471, hv2471, hf⟩ := ob_e hf
        refine xcallW (ws' := (wC g h now snap has hist ent v2471.2.1 num col ++ wM g hm thrown ss states stateMany snapshot hasSnapshot text length at_ isWell rd readMany top bottom digit digitMany other otherMany column columnMany carryMany chainMost ++ [(ho, .inl (g.2.2.2.1, 1, .inr (.inl v2471.2.2)))] ++ [(hd, .inl (g.2.2.2.2, 1, .inr (.inr (.inr (.inl ard)))))])) (st1 := [.int v2471.1]) (n := 45) E hX hNc hw [.ref (h 0), .int (xs (x5 + 1).toNatClampNeg), .int (xs (x5 + 2).toNatClampNeg), .ref ho] [0, 1, 2, 3, 4, 5, 6, 7, 8, 9, 10, 11, 12, 13, 14, 15, 16, 17, 18, 19, 20, 21, 22, 23, 24, 25, 26, 27, 28, 29, 30, 31, 32, 33, 43] (met_L_periodOfSum l hlT g h ho now snap has hist ent res num col arr (xs (x5 + 1).toNatClampNeg) (xs (x5 + 2).toNatClampNeg) v2471 hv2471) rfl (by decide) rfl rfl [45, 46, 47, 48, 49, 50, 51, 52, 53, 54, 55, 56, 57, 58, 59, 60, 61, 62, 63, 64, 65, 66, 67, 68, 69, 70, 71, 72, 73, 74, 75, 76, 77, 78, 34, 35, 36, 37, 38, 39, 40, 41, 42, 79, 44] rfl (by decide +kernel) rfl qw1005 k_L_periodOfSum ⟨rfl, rfl, Nat.le_of_ble_eq_true rfl, Nat.le_of_ble_eq_true rfl⟩ ⟨by show _ ≤ 601024; omega, by show _ ≤ 7293034; omega⟩ hl.1 (Nat.le_of_ble_eq_true rfl) dL_law_2471 rfl (fun H locs hw => ?_)
        refine lv_istore (lv' := [(6, .int v2471.1), (0, .ref b), (1, .ref (h 0)), (2, .ref (hm 0)), (3, .ref ho), (4, .ref hd), (5, .int x5)]) hx hb dL_law_2474 hl (by decide) rfl (fun ls hl => ?_)
        refine lv_aload_n hx hb dL_law_2476 rfl (lv_at hl 3 rfl) ?_
        refine lv_aload_n hx hb dL_law_2477 rfl (lv_at hl 1 rfl) ?_
        refine lv_iload hx hb dL_law_2478 (lv_at hl 6 rfl) ?_
        refine lv_iconst (v := 1) hx hb dL_law_2480 (by decide) ?_
        refine lv_iadd hx hb dL_law_2481 ?_
        obtain ⟨hz, hf⟩ := nz hf
        refine va_sld hx hb hXs hbl hbA hw.2.2 hz dL_law_2482 ?_
        refine lv_aload_n hx hb dL_law_2483 rfl (lv_at hl 1 rfl) ?_
        refine lv_iload hx hb dL_law_2484 (lv_at hl 6 rfl) ?_
        refine lv_iconst (v := 2) hx hb dL_law_2486 (by decide) ?_
        refine lv_iadd hx hb dL_law_2487 ?_
        obtain ⟨hz, hf⟩ := nz hf
        refine va_sld hx hb hXs hbl hbA hw.2.2 hz dL_law_2488 ?_
        obtain ⟨v2489, hv2489, hf⟩ := ob_e hf
        refine xcallV (ws' := (wC g h now snap has hist ent v2471.2.1 num col ++ wM g hm v2489.2.1 ss states stateMany snapshot hasSnapshot text length at_ isWell rd readMany v2489.2.2.1 v2489.2.2.2 digit digitMany other otherMany column columnMany carryMany chainMost ++ [(ho, .inl (g.2.2.2.1, 1, .inr (.inl v2471.2.2)))] ++ [(hd, .inl (g.2.2.2.2, 1, .inr (.inr (.inr (.inl ard)))))])) (st1 := [.int v2489.1]) (n := 45) E hw [.int (xs (x5 + 1).toNatClampNeg), .int (xs (x5 + 2).toNatClampNeg)] [34, 35, 36, 37, 38, 39, 40, 41, 42] (met_X11_periodOfSum l g hm thrown ss states stateMany snapshot hasSnapshot text length at_ isWell rd readMany top bottom digit digitMany other otherMany column columnMany carryMany chainMost (xs (x5 + 1).toNatClampNeg) (xs (x5 + 2).toNatClampNeg) v2489 hv2489) rfl (by decide) rfl rfl [0, 1, 2, 3, 4, 5, 6, 7, 8, 9, 10, 11, 12, 13, 14, 15, 16, 17, 18, 19, 20, 21, 22, 23, 24, 25, 26, 27, 28, 29, 30, 31, 32, 33, 45, 46, 47, 48, 49, 50, 51, 52, 53, 43, 44] rfl (by decide +kernel) rfl rfl rfl rfl qw1440 k_X11_periodOfSum ⟨rfl, rfl, Nat.le_of_ble_eq_true rfl, Nat.le_of_ble_eq_true rfl⟩ ⟨by show _ ≤ 601024; omega, by show _ ≤ 7293034; omega⟩ hl.1 (Nat.le_of_ble_eq_true rfl) dL_law_2489 rfl (fun H locs hw => ?_)
        refine lv_istore (lv' := [(7, .int v2489.1), (6, .int v2471.1), (0, .ref b), (1, .ref (h 0)), (2, .ref (hm 0)), (3, .ref ho), (4, .ref hd), (5, .int x5)]) hx hb dL_law_2492 hl (by decide) rfl (fun ls hl => ?_)
        refine lv_aload_n hx hb dL_law_2494 rfl (lv_at hl 4 rfl) ?_
        obtain ⟨v2495, hv2495, hf⟩ := ob_e hf
        refine xcallV (ws' := (wC g h now snap has hist ent v2471.2.1 num col ++ wM g hm v2489.2.1 ss states stateMany snapshot hasSnapshot text length at_ isWell rd readMany v2489.2.2.1 v2489.2.2.2 digit digitMany other otherMany column columnMany carryMany chainMost ++ [(ho, .inl (g.2.2.2.1, 1, .inr (.inl v2471.2.2)))] ++ [(hd, .inl (g.2.2.2.2, 1, .inr (.inr (.inr (.inl ard)))))])) (st1 := [.int v2495]) (n := 45) E hw [] [34, 35, 36, 37, 38, 39, 40, 41, 42] (met_X11_thrown l g hm v2489.2.1 ss states stateMany snapshot hasSnapshot text length at_ isWell rd readMany v2489.2.2.1 v2489.2.2.2 digit digitMany other otherMany column columnMany carryMany chainMost v2495 hv2495) rfl (by decide) rfl rfl [0, 1, 2, 3, 4, 5, 6, 7, 8, 9, 10, 11, 12, 13, 14, 15, 16, 17, 18, 19, 20, 21, 22, 23, 24, 25, 26, 27, 28, 29, 30, 31, 32, 33, 45, 46, 47, 48, 49, 50, 51, 52, 53, 43, 44] rfl (by decide +kernel) rfl rfl rfl rfl qw1086 k_X11_thrown ⟨rfl, rfl, Nat.le_of_ble_eq_true rfl, Nat.le_of_ble_eq_true rfl⟩ ⟨by show _ ≤ 601024; omega, by show _ ≤ 7293034; omega⟩ hl.1 (Nat.le_of_ble_eq_true rfl) dL_law_2495 rfl (fun H locs hw => ?_)
        refine lv_iload hx hb dL_law_2498 (lv_at hl 1 rfl) ?_
        refine lv_icmp_eq (tgt := 2505) hx hb dL_law_2500 (by decide) (fun c2500 => ?_) (fun c2500 => ?_)
        · replace hf := ip c2500 hf
          refine lv_iload hx hb dL_law_2505 (lv_at hl 1 rfl) ?_
          refine lv_if_ne (tgt := 2522) hx hb dL_law_2507 (by decide) (fun c2507 => ?_) (fun c2507 => ?_)
          · replace hf := iq c2507 hf
            exact b2522 _ _ _ (ce + 1) (sl + 6) now snap has hist ent v2471.2.1 num col v2489.2.1 ss states stateMany snapshot hasSnapshot text length at_ isWell rd readMany v2489.2.2.1 v2489.2.2.2 digit digitMany other otherMany column columnMany carryMany chainMost v2471.2.2 ard x5 (by omega) hw (lv_sub hl [2, 3, 4, 5, 6, 7] rfl) hf
          · replace hf := ip c2507 hf
            refine lv_aload_n hx hb dL_law_2510 rfl (lv_at hl 5 rfl) ?_
            refine lv_iconst (v := 0) hx hb dL_law_2511 (by decide) ?_
            refine xlald E hw 43 rfl (by decide) dL_law_2512 ?_
            refine lv_iload hx hb dL_law_2513 (lv_at hl 0 rfl) ?_
            refine lv_i2l hx hb dL_law_2515 rfl ?_
            refine xlc_eq (tgt := 2522) hx hb dL_law_2516 dL_law_2517 (by decide) (fun c2516 => ?_) (fun c2516 => ?_)
            · replace hf := ip c2516 hf
              exact b2522 _ _ _ (ce + 1) (sl + 6) now snap has hist ent v2471.2.1 num col v2489.2.1 ss states stateMany snapshot hasSnapshot text length at_ isWell rd readMany v2489.2.2.1 v2489.2.2.2 digit digitMany other otherMany column columnMany carryMany chainMost v2471.2.2 ard x5 (by omega) hw (lv_sub hl [2, 3, 4, 5, 6, 7] rfl) hf
            · replace hf := iq c2516 hf
              refine lv_iconst (v := 0) hx hb dL_law_2520 (by decide) ?_
              exact absurd (Option.some.inj hf) (by decide)
        · replace hf := iq c2500 hf
          refine lv_iconst (v := 0) hx hb dL_law_2503 (by decide) ?_
          exact absurd (Option.some.inj hf) (by decide)
      replace hf := iq hk hf
      by_cases hk : ((xs x5.toNatClampNeg) &&& 63) = 43
      · replace hf := ip hk hf
        refine lv_tableIn (tgt := 2525) (off := 2481) hx hb dL_law_44 (by rw [hk]; decide) (by rw [hk]; decide) (by rw [hk]; rfl) (by decide) ?_
        refine lv_aload_n hx hb dL_law_2525 rfl (lv_at hl 1 rfl) ?_
        refine lv_aload_n hx hb dL_law_2526 rfl (lv_at hl 0 rfl) ?_
        refine lv_iload hx hb dL_law_2527 (lv_at hl 5 rfl) ?_
        refine lv_iconst (v := 1) hx hb dL_law_2529 (by decide) ?_
        refine lv_iadd hx hb dL_law_2530 ?_
        obtain ⟨hz, hf⟩ := nz hf
        refine va_sld hx hb hXs hbl hbA hw.2.2 hz dL_law_2531 ?_
        refine lv_aload hx hb dL_law_2532 (lv_at hl 4 rfl) ?_
        obtain ⟨v2534, hv2534, hf⟩ := ob_e hf
        refine xcallW (ws' := (wC g h now snap has hist ent res num col ++ wM g hm thrown ss states stateMany snapshot hasSnapshot text length at_ isWell rd readMany top bottom digit digitMany other otherMany column columnMany carryMany chainMost ++ [(ho, .inl (g.2.2.2.1, 1, .inr (.inl arr)))] ++ [(hd, .inl (g.2.2.2.2, 1, .inr (.inr (.inr (.inl v2534.2)))))])) (st1 := [.int v2534.1]) (n := 45) E hX hNc hw [.ref (h 0), .int (xs (x5 + 1).toNatClampNeg), .ref hd] [0, 1, 2, 3, 4, 5, 6, 7, 8, 9, 10, 11, 12, 13, 14, 15, 16, 17, 18, 19, 20, 21, 22, 23, 24, 25, 26, 27, 28, 29, 30, 31, 32, 33, 44] (met_L_shareOf l hlT g h hd now snap has hist ent res num col ard (xs (x5 + 1).toNatClampNeg) v2534 hv2534) rfl (by decide) rfl rfl [45, 46, 47, 48, 49, 50, 51, 52, 53, 54, 55, 56, 57, 58, 59, 60, 61, 62, 63, 64, 65, 66, 67, 68, 69, 70, 71, 72, 73, 74, 75, 76, 77, 78, 34, 35, 36, 37, 38, 39, 40, 41, 42, 43, 79] rfl (by decide +kernel) rfl qw1009 k_L_shareOf ⟨rfl, rfl, Nat.le_of_ble_eq_true rfl, Nat.le_of_ble_eq_true rfl⟩ ⟨by show _ ≤ 601024; omega, by show _ ≤ 7293034; omega⟩ hl.1 (Nat.le_of_ble_eq_true rfl) dL_law_2534 rfl (fun H locs hw => ?_)
        refine lv_istore (lv' := [(6, .int v2534.1), (0, .ref b), (1, .ref (h 0)), (2, .ref (hm 0)), (3, .ref ho), (4, .ref hd), (5, .int x5)]) hx hb dL_law_2537 hl (by decide) rfl (fun ls hl => ?_)
        refine lv_aload_n hx hb dL_law_2539 rfl (lv_at hl 3 rfl) ?_
        refine lv_aload_n hx hb dL_law_2540 rfl (lv_at hl 1 rfl) ?_
        refine lv_iload hx hb dL_law_2541 (lv_at hl 6 rfl) ?_
        refine lv_iconst (v := 1) hx hb dL_law_2543 (by decide) ?_
        refine lv_iadd hx hb dL_law_2544 ?_
        obtain ⟨hz, hf⟩ := nz hf
        refine va_sld hx hb hXs hbl hbA hw.2.2 hz dL_law_2545 ?_
        obtain ⟨v2546, hv2546, hf⟩ := ob_e hf
        refine xcallV (ws' := (wC g h now snap has hist ent res num col ++ wM g hm v2546.2 ss states stateMany snapshot hasSnapshot text length at_ isWell rd readMany top bottom digit digitMany other otherMany column columnMany carryMany chainMost ++ [(ho, .inl (g.2.2.2.1, 1, .inr (.inl arr)))] ++ [(hd, .inl (g.2.2.2.2, 1, .inr (.inr (.inr (.inl v2534.2)))))])) (st1 := [.double v2546.1]) (n := 45) E hw [.int (xs (x5 + 1).toNatClampNeg)] [34, 35, 36, 37, 38, 39, 40, 41, 42] (met_X11_shareOf l g hm thrown ss states stateMany snapshot hasSnapshot text length at_ isWell rd readMany top bottom digit digitMany other otherMany column columnMany carryMany chainMost (xs (x5 + 1).toNatClampNeg) v2546 hv2546) rfl (by decide) rfl rfl [0, 1, 2, 3, 4, 5, 6, 7, 8, 9, 10, 11, 12, 13, 14, 15, 16, 17, 18, 19, 20, 21, 22, 23, 24, 25, 26, 27, 28, 29, 30, 31, 32, 33, 45, 46, 47, 48, 49, 50, 51, 52, 53, 43, 44] rfl (by decide +kernel) rfl rfl rfl rfl qw1448 k_X11_shareOf ⟨rfl, rfl, Nat.le_of_ble_eq_true rfl, Nat.le_of_ble_eq_true rfl⟩ ⟨by show _ ≤ 601024; omega, by show _ ≤ 7293034; omega⟩ hl.1 (Nat.le_of_ble_eq_true rfl) dL_law_2546 rfl (fun H locs hw => ?_)
        refine lv_dstore (lv' := [(7, .double v2546.1), (6, .int v2534.1), (0, .ref b), (1, .ref (h 0)), (2, .ref (hm 0)), (3, .ref ho), (4, .ref hd), (5, .int x5)]) hx hb dL_law_2549 hl (by decide) rfl (fun ls hl => ?_)
        refine lv_aload_n hx hb dL_law_2551 rfl (lv_at hl 4 rfl) ?_
        obtain ⟨v2552, hv2552, hf⟩ := ob_e hf
        refine xcallV (ws' := (wC g h now snap has hist ent res num col ++ wM g hm v2546.2 ss states stateMany snapshot hasSnapshot text length at_ isWell rd readMany top bottom digit digitMany other otherMany column columnMany carryMany chainMost ++ [(ho, .inl (g.2.2.2.1, 1, .inr (.inl arr)))] ++ [(hd, .inl (g.2.2.2.2, 1, .inr (.inr (.inr (.inl v2534.2)))))])) (st1 := [.int v2552]) (n := 45) E hw [] [34, 35, 36, 37, 38, 39, 40, 41, 42] (met_X11_thrown l g hm v2546.2 ss states stateMany snapshot hasSnapshot text length at_ isWell rd readMany top bottom digit digitMany other otherMany column columnMany carryMany chainMost v2552 hv2552) rfl (by decide) rfl rfl [0, 1, 2, 3, 4, 5, 6, 7, 8, 9, 10, 11, 12, 13, 14, 15, 16, 17, 18, 19, 20, 21, 22, 23, 24, 25, 26, 27, 28, 29, 30, 31, 32, 33, 45, 46, 47, 48, 49, 50, 51, 52, 53, 43, 44] rfl (by decide +kernel) rfl rfl rfl rfl qw1086 k_X11_thrown ⟨rfl, rfl, Nat.le_of_ble_eq_true rfl, Nat.le_of_ble_eq_true rfl⟩ ⟨by show _ ≤ 601024; omega, by show _ ≤ 7293034; omega⟩ hl.1 (Nat.le_of_ble_eq_true rfl) dL_law_2552 rfl (fun H locs hw => ?_)
        refine lv_iload hx hb dL_law_2555 (lv_at hl 1 rfl) ?_
        refine lv_icmp_eq (tgt := 2562) hx hb dL_law_2557 (by decide) (fun c2557 => ?_) (fun c2557 => ?_)
        · replace hf := ip c2557 hf
          refine lv_iload hx hb dL_law_2562 (lv_at hl 1 rfl) ?_
          refine lv_if_ne (tgt := 2599) hx hb dL_law_2564 (by decide) (fun c2564 => ?_) (fun c2564 => ?_)
          · replace hf := iq c2564 hf
            exact b2599 _ _ _ (ce + 1) (sl + 6) now snap has hist ent res num col v2546.2 ss states stateMany snapshot hasSnapshot text length at_ isWell rd readMany top bottom digit digitMany other otherMany column columnMany carryMany chainMost arr v2534.2 x5 (by omega) hw (lv_sub hl [2, 3, 4, 5, 6, 7] rfl) hf
          · replace hf := ip c2564 hf
            refine lv_aload hx hb dL_law_2567 (lv_at hl 6 rfl) ?_
            refine lv_iconst (v := 0) hx hb dL_law_2569 (by decide) ?_
            refine xdald E hw 44 rfl (by decide) dL_law_2570 ?_
            refine lv_dload hx hb dL_law_2571 (lv_at hl 0 rfl) ?_
            refine lv_dcmp hx hb dL_law_2573 ?_
            refine lv_if_eq (tgt := 2599) hx hb dL_law_2574 (by decide) (fun c2574 => ?_) (fun c2574 => ?_)
            · replace hf := ip c2574 hf
              exact b2599 _ _ _ (ce + 1) (sl + 6) now snap has hist ent res num col v2546.2 ss states stateMany snapshot hasSnapshot text length at_ isWell rd readMany top bottom digit digitMany other otherMany column columnMany carryMany chainMost arr v2534.2 x5 (by omega) hw (lv_sub hl [2, 3, 4, 5, 6, 7] rfl) hf
            · replace hf := iq c2574 hf
              refine lv_aload hx hb dL_law_2577 (lv_at hl 6 rfl) ?_
              refine lv_iconst (v := 0) hx hb dL_law_2579 (by decide) ?_
              refine xdald E hw 44 rfl (by decide) dL_law_2580 ?_
              refine lv_aload hx hb dL_law_2581 (lv_at hl 6 rfl) ?_
              refine lv_iconst (v := 0) hx hb dL_law_2583 (by decide) ?_
              refine xdald E hw 44 rfl (by decide) dL_law_2584 ?_
              refine lv_dcmp hx hb dL_law_2585 ?_
              refine lv_if_eq (tgt := 2597) hx hb dL_law_2586 (by decide) (fun c2586 => ?_) (fun c2586 => ?_)
              · replace hf := ip c2586 hf
                refine lv_iconst (v := 0) hx hb dL_law_2597 (by decide) ?_
                exact absurd (Option.some.inj hf) (by decide)
              · replace hf := iq c2586 hf
                refine lv_dload hx hb dL_law_2589 (lv_at hl 0 rfl) ?_
                refine lv_dload hx hb dL_law_2591 (lv_at hl 0 rfl) ?_
                refine lv_dcmp hx hb dL_law_2593 ?_
                refine lv_if_ne (tgt := 2599) hx hb dL_law_2594 (by decide) (fun c2594 => ?_) (fun c2594 => ?_)
                · replace hf := iq c2594 hf
                  exact b2599 _ _ _ (ce + 1) (sl + 6) now snap has hist ent res num col v2546.2 ss states stateMany snapshot hasSnapshot text length at_ isWell rd readMany top bottom digit digitMany other otherMany column columnMany carryMany chainMost arr v2534.2 x5 (by omega) hw (lv_sub hl [2, 3, 4, 5, 6, 7] rfl) hf
                · replace hf := ip c2594 hf
                  refine lv_iconst (v := 0) hx hb dL_law_2597 (by decide) ?_
                  exact absurd (Option.some.inj hf) (by decide)
        · replace hf := iq c2557 hf
          refine lv_iconst (v := 0) hx hb dL_law_2560 (by decide) ?_
          exact absurd (Option.some.inj hf) (by decide)
      replace hf := iq hk hf
      by_cases hk : ((xs x5.toNatClampNeg) &&& 63) = 44
      · replace hf := ip hk hf
        refine lv_tableIn (tgt := 2602) (off := 2558) hx hb dL_law_44 (by rw [hk]; decide) (by rw [hk]; decide) (by rw [hk]; rfl) (by decide) ?_
        refine lv_aload_n hx hb dL_law_2602 rfl (lv_at hl 1 rfl) ?_
        obtain ⟨v2603, hv2603, hf⟩ := ob_e hf
        refine xcallV (ws' := (wC g h now snap has hist ent v2603.2.1 num v2603.2.2 ++ wM g hm thrown ss states stateMany snapshot hasSnapshot text length at_ isWell rd readMany top bottom digit digitMany other otherMany column columnMany carryMany chainMost ++ [(ho, .inl (g.2.2.2.1, 1, .inr (.inl arr)))] ++ [(hd, .inl (g.2.2.2.2, 1, .inr (.inr (.inr (.inl ard)))))])) (st1 := [.long v2603.1]) (n := 45) E hw [] [0, 1, 2, 3, 4, 5, 6, 7, 8, 9, 10, 11, 12, 13, 14, 15, 16, 17, 18, 19, 20, 21, 22, 23, 24, 25, 26, 27, 28, 29, 30, 31, 32, 33] (met_X10_digest l g h now snap has hist ent res num col v2603 hv2603) rfl (by decide) rfl rfl [45, 46, 47, 48, 49, 50, 51, 52, 53, 54, 55, 56, 57, 58, 59, 60, 61, 62, 63, 64, 65, 66, 67, 68, 69, 70, 71, 72, 73, 74, 75, 76, 77, 78, 34, 35, 36, 37, 38, 39, 40, 41, 42, 43, 44] rfl (by decide +kernel) rfl rfl rfl rfl qw351 k_X10_digest ⟨rfl, rfl, Nat.le_of_ble_eq_true rfl, Nat.le_of_ble_eq_true rfl⟩ ⟨by show _ ≤ 601024; omega, by show _ ≤ 7293034; omega⟩ hl.1 (Nat.le_of_ble_eq_true rfl) dL_law_2603 rfl (fun H locs hw => ?_)
        refine lv_aload_n hx hb dL_law_2606 rfl (lv_at hl 2 rfl) ?_
        obtain ⟨v2607, hv2607, hf⟩ := ob_e hf
        refine xcallV (ws' := (wC g h now snap has hist ent v2603.2.1 num v2603.2.2 ++ wM g hm v2607.2.1 ss states stateMany snapshot hasSnapshot text length at_ isWell rd readMany v2607.2.2.1 v2607.2.2.2.1 v2607.2.2.2.2.1 v2607.2.2.2.2.2.1 v2607.2.2.2.2.2.2.1 v2607.2.2.2.2.2.2.2.1 v2607.2.2.2.2.2.2.2.2.1 v2607.2.2.2.2.2.2.2.2.2.1 v2607.2.2.2.2.2.2.2.2.2.2.1 v2607.2.2.2.2.2.2.2.2.2.2.2 ++ [(ho, .inl (g.2.2.2.1, 1, .inr (.inl arr)))] ++ [(hd, .inl (g.2.2.2.2, 1, .inr (.inr (.inr (.inl ard)))))])) (st1 := [.long v2607.1, .long v2603.1]) (n := 45) E hw [] [34, 35, 36, 37, 38, 39, 40, 41, 42] (met_X11_digest l g hm thrown ss states stateMany snapshot hasSnapshot text length at_ isWell rd readMany top bottom digit digitMany other otherMany column columnMany carryMany chainMost v2607 hv2607) rfl (by decide) rfl rfl [0, 1, 2, 3, 4, 5, 6, 7, 8, 9, 10, 11, 12, 13, 14, 15, 16, 17, 18, 19, 20, 21, 22, 23, 24, 25, 26, 27, 28, 29, 30, 31, 32, 33, 45, 46, 47, 48, 49, 50, 51, 52, 53, 43, 44] rfl (by decide +kernel) rfl rfl rfl rfl qw1460 k_X11_digest ⟨rfl, rfl, Nat.le_of_ble_eq_true rfl, Nat.le_of_ble_eq_true rfl⟩ ⟨by show _ ≤ 601024; omega, by show _ ≤ 7293034; omega⟩ hl.1 (Nat.le_of_ble_eq_true rfl) dL_law_2607 rfl (fun H locs hw => ?_)
        refine xlc_eq (tgt := 2616) hx hb dL_law_2610 dL_law_2611 (by decide) (fun c2610 => ?_) (fun c2610 => ?_)
        · replace hf := ip c2610 hf
          exact b2616 _ _ _ (ce + 0) (sl + 0) now snap has hist ent v2603.2.1 num v2603.2.2 v2607.2.1 ss states stateMany snapshot hasSnapshot text length at_ isWell rd readMany v2607.2.2.1 v2607.2.2.2.1 v2607.2.2.2.2.1 v2607.2.2.2.2.2.1 v2607.2.2.2.2.2.2.1 v2607.2.2.2.2.2.2.2.1 v2607.2.2.2.2.2.2.2.2.1 v2607.2.2.2.2.2.2.2.2.2.1 v2607.2.2.2.2.2.2.2.2.2.2.1 v2607.2.2.2.2.2.2.2.2.2.2.2 arr ard x5 (by omega) hw (lv_sub hl [0, 1, 2, 3, 4, 5] rfl) hf
        · replace hf := iq c2610 hf
          refine lv_iconst (v := 0) hx hb dL_law_2614 (by decide) ?_
          exact absurd (Option.some.inj hf) (by decide)
      replace hf := iq hk hf
      exact nn hf
