set_option maxHeartbeats 40000000 in
set_option maxRecDepth 100000 in
theorem law_body {p : Program} {e : Env} {s : State} {m : MethodId} {below : List Frame} {meth : Method} {c : Code} (l : Launch) (g : xG) (h : Nat → Nat) (b L : Nat) (xs : Nat → Int32) (snap : SC) (has : Int32) (ent : EC) (num : NC) (ce sl : Nat) (hcs : ce ≤ room_1.cells ∧ sl ≤ room_1.slots) (E : xE p m c cL_law 12 s #[Value.ref b] RL g (fun q : Nat => s.heap.size ≤ q)) (hr : meth.sig.returnType = ret) (hlocks : meth.locks = false) (hXs : va_X b L xs s s.heap) (hbl : b < s.heap.size) : ∀ (H : Heap) (locs : List Loc) (ls : Array Slot) (now : SC) (hist : HC) (res : RC) (col : CC), xW g (fun q : Nat => s.heap.size ≤ q) s.heap (wC g h now snap has hist ent res num col) H locs → lv_has ls 12 [(0, .ref b), (1, .ref (h 0))] → f_L_law_b8 xs L now hist res col = some 1 → W p l e room_1 s m #[Value.ref b] below meth c H locs ce sl (lw_Z below #[Value.ref b] s) (F0 m 8 ls []) := by
  have hx := E.1.1
  have hb := E.1.2.1
  have hown := E.1.2.2.2.1
  have hts := E.1.2.2.2.2
  have hbA : ¬ (fun q : Nat => s.heap.size ≤ q) b := Nat.not_le.mpr hbl
  have b82 : ∀ n82 : Nat, ∀ (H : Heap) (locs : List Loc) (ls : Array Slot) (now : SC) (hist : HC) (res : RC) (col : CC) (x2 : Int32), xW g (fun q : Nat => s.heap.size ≤ q) s.heap (wC g h now snap has hist ent res num col) H locs → lv_has ls 12 [(0, .ref b), (1, .ref (h 0)), (2, .int x2)] → f_L_law_b82 n82 xs L now hist res col x2 = some 1 → W p l e room_1 s m #[Value.ref b] below meth c H locs ce sl (lw_Z below #[Value.ref b] s) (F0 m 82 ls []) := by
    intro n82
    induction n82 with
    | zero =>
      intro H locs ls now hist res col x2 hw hl hf
      exact nn hf
    | succ n82 ih82 =>
      have b263 : ∀ (H : Heap) (locs : List Loc) (ls : Array Slot) (now : SC) (hist : HC) (res : RC) (col : CC) (x2 : Int32) (x3 : Int32) (x4 : Int32), xW g (fun q : Nat => s.heap.size ≤ q) s.heap (wC g h now snap has hist ent res num col) H locs → lv_has ls 12 [(0, .ref b), (1, .ref (h 0)), (2, .int x2), (3, .int x3), (4, .int x4)] → f_L_law_b263 (f_L_law_b82 n82) xs L now hist res col x2 x3 x4 = some 1 → W p l e room_1 s m #[Value.ref b] below meth c H locs ce sl (lw_Z below #[Value.ref b] s) (F0 m 263 ls []) := by
        intro H locs ls now hist res col x2 x3 x4 hw hl hf
        refine lv_aload_n hx hb dL_law_263 rfl (lv_at hl 1 rfl) ?_
        refine lv_iload_n hx hb dL_law_264 rfl (lv_at hl 3 rfl) ?_
        refine lv_iconst (v := 4) hx hb dL_law_265 (by decide) ?_
        refine lv_ishr hx hb dL_law_266 ?_
        refine lv_bipush (v := 6) hx hb dL_law_267 (by decide) ?_
        obtain ⟨v269, hv269, hf⟩ := ob_e hf
        refine xcallS (ws' := (wC g h now snap has hist ent res num col)) (st1 := [.int v269, .ref (h 0)]) (n := 34) E hw [.int (x3 >>> ((4 : Int32) &&& 31)), .int 6] [] (met_L_low l g (x3 >>> ((4 : Int32) &&& 31)) 6 v269 hv269) rfl (by decide) rfl rfl [0, 1, 2, 3, 4, 5, 6, 7, 8, 9, 10, 11, 12, 13, 14, 15, 16, 17, 18, 19, 20, 21, 22, 23, 24, 25, 26, 27, 28, 29, 30, 31, 32, 33] rfl (by decide +kernel) rfl qw414 k_L_low ⟨rfl, rfl, Nat.le_of_ble_eq_true rfl, Nat.le_of_ble_eq_true rfl⟩ hcs hl.1 (Nat.le_of_ble_eq_true rfl) dL_law_269 rfl (fun H locs hw => ?_)
        refine lv_iload hx hb dL_law_272 (lv_at hl 4 rfl) ?_
        refine lv_iconst (v := 3) hx hb dL_law_274 (by decide) ?_
        refine lv_ishr hx hb dL_law_275 ?_
        refine lv_bipush (v := 6) hx hb dL_law_276 (by decide) ?_
        obtain ⟨v278, hv278, hf⟩ := ob_e hf
        refine xcallS (ws' := (wC g h now snap has hist ent res num col)) (st1 := [.int v278, .int v269, .ref (h 0)]) (n := 34) E hw [.int (x4 >>> ((3 : Int32) &&& 31)), .int 6] [] (met_L_low l g (x4 >>> ((3 : Int32) &&& 31)) 6 v278 hv278) rfl (by decide) rfl rfl [0, 1, 2, 3, 4, 5, 6, 7, 8, 9, 10, 11, 12, 13, 14, 15, 16, 17, 18, 19, 20, 21, 22, 23, 24, 25, 26, 27, 28, 29, 30, 31, 32, 33] rfl (by decide +kernel) rfl qw414 k_L_low ⟨rfl, rfl, Nat.le_of_ble_eq_true rfl, Nat.le_of_ble_eq_true rfl⟩ hcs hl.1 (Nat.le_of_ble_eq_true rfl) dL_law_278 rfl (fun H locs hw => ?_)
        refine lv_iload hx hb dL_law_281 (lv_at hl 4 rfl) ?_
        refine lv_bipush (v := 30) hx hb dL_law_283 (by decide) ?_
        obtain ⟨v285, hv285, hf⟩ := ob_e hf
        refine xcallS (ws' := (wC g h now snap has hist ent res num col)) (st1 := [.int v285, .int v278, .int v269, .ref (h 0)]) (n := 34) E hw [.int x4, .int 30] [] (met_L_low l g x4 30 v285 hv285) rfl (by decide) rfl rfl [0, 1, 2, 3, 4, 5, 6, 7, 8, 9, 10, 11, 12, 13, 14, 15, 16, 17, 18, 19, 20, 21, 22, 23, 24, 25, 26, 27, 28, 29, 30, 31, 32, 33] rfl (by decide +kernel) rfl qw414 k_L_low ⟨rfl, rfl, Nat.le_of_ble_eq_true rfl, Nat.le_of_ble_eq_true rfl⟩ hcs hl.1 (Nat.le_of_ble_eq_true rfl) dL_law_285 rfl (fun H locs hw => ?_)
        obtain ⟨v288, hv288, hf⟩ := ob_e hf
        refine xcallS (ws' := (wC g h now snap has hist ent res num v288.2)) (st1 := [.int v288.1]) (n := 34) E hw [.ref (h 0), .int v269, .int v278, .int v285] [0, 1, 2, 3, 4, 5, 6, 7, 8, 9, 10, 11, 12, 13, 14, 15, 16, 17, 18, 19, 20, 21, 22, 23, 24, 25, 26, 27, 28, 29, 30, 31, 32, 33] (met_L_holds l g h now snap has hist ent res num col v269 v278 v285 v288 hv288) rfl (by decide) rfl rfl [34, 35, 36, 37, 38, 39, 40, 41, 42, 43, 44, 45, 46, 47, 48, 49, 50, 51, 52, 53, 54, 55, 56, 57, 58, 59, 60, 61, 62, 63, 64, 65, 66, 67] rfl (by decide +kernel) rfl qw562 k_L_holds ⟨rfl, rfl, Nat.le_of_ble_eq_true rfl, Nat.le_of_ble_eq_true rfl⟩ hcs hl.1 (Nat.le_of_ble_eq_true rfl) dL_law_288 rfl (fun H locs hw => ?_)
        refine lv_if_ne (tgt := 296) hx hb dL_law_291 (by decide) (fun c291 => ?_) (fun c291 => ?_)
        · replace hf := iq c291 hf
          refine lv_iinc (v := x2 + 1) (lv' := [(2, .int (x2 + 1)), (0, .ref b), (1, .ref (h 0)), (3, .int x3), (4, .int x4)]) hx hb dL_law_296 hl (k := 2) rfl rfl (by decide) rfl (fun ls hl => ?_)
          refine lv_goto (tgt := 82) hx hb dL_law_299 (by decide) ?_
          exact ih82 _ _ _ now hist res v288.2 (x2 + 1) hw (lv_sub hl [1, 2, 0] rfl) hf
        · replace hf := ip c291 hf
          refine lv_iconst (v := 0) hx hb dL_law_294 (by decide) ?_
          exact absurd (Option.some.inj hf) (by decide)
      have b200 : ∀ (H : Heap) (locs : List Loc) (ls : Array Slot) (now : SC) (hist : HC) (res : RC) (col : CC) (x2 : Int32) (x3 : Int32) (x4 : Int32) (x5 : Int64) (x8 : Int32) (x9 : Int64), xW g (fun q : Nat => s.heap.size ≤ q) s.heap (wC g h now snap has hist ent res num col) H locs → lv_has ls 12 [(0, .ref b), (1, .ref (h 0)), (2, .int x2), (3, .int x3), (4, .int x4), (5, .long x5), (8, .int x8), (9, .long x9)] → f_L_law_b200 (f_L_law_b82 n82) xs L now hist res col x2 x3 x4 x5 x8 x9 = some 1 → W p l e room_1 s m #[Value.ref b] below meth c H locs ce sl (lw_Z below #[Value.ref b] s) (F0 m 200 ls []) := by
        intro H locs ls now hist res col x2 x3 x4 x5 x8 x9 hw hl hf
        refine lv_iload hx hb dL_law_200 (lv_at hl 6 rfl) ?_
        refine lv_if_eq (tgt := 263) hx hb dL_law_202 (by decide) (fun c202 => ?_) (fun c202 => ?_)
        · replace hf := ip c202 hf
          exact b263 _ _ _ now hist res col x2 x3 x4 hw (lv_sub hl [0, 1, 2, 3, 4] rfl) hf
        · replace hf := iq c202 hf
          refine lv_iload_n hx hb dL_law_205 rfl (lv_at hl 3 rfl) ?_
          refine lv_bipush (v := 20) hx hb dL_law_206 (by decide) ?_
          refine lv_ishr hx hb dL_law_208 ?_
          refine lv_iconst (v := 1) hx hb dL_law_209 (by decide) ?_
          refine lv_iand hx hb dL_law_210 ?_
          refine lv_if_ne (tgt := 263) hx hb dL_law_211 (by decide) (fun c211 => ?_) (fun c211 => ?_)
          · replace hf := iq c211 hf
            exact b263 _ _ _ now hist res col x2 x3 x4 hw (lv_sub hl [0, 1, 2, 3, 4] rfl) hf
          · replace hf := ip c211 hf
            refine lv_aload_n hx hb dL_law_214 rfl (lv_at hl 1 rfl) ?_
            obtain ⟨v215, hv215, hf⟩ := ob_e hf
            refine xcallV (ws' := (wC g h now snap has hist ent res num col)) (st1 := [.int v215]) (n := 34) E hw [] [0, 1, 2, 3, 4, 5, 6, 7, 8, 9, 10, 11, 12, 13, 14, 15, 16, 17, 18, 19, 20, 21, 22, 23, 24, 25, 26, 27, 28, 29, 30, 31, 32, 33] (met_X10_savedStates l g h now snap has hist ent res num col v215 hv215) rfl (by decide) rfl rfl [34, 35, 36, 37, 38, 39, 40, 41, 42, 43, 44, 45, 46, 47, 48, 49, 50, 51, 52, 53, 54, 55, 56, 57, 58, 59, 60, 61, 62, 63, 64, 65, 66, 67] rfl (by decide +kernel) rfl rfl rfl rfl qw298 k_X10_savedStates ⟨rfl, rfl, Nat.le_of_ble_eq_true rfl, Nat.le_of_ble_eq_true rfl⟩ hcs hl.1 (Nat.le_of_ble_eq_true rfl) dL_law_215 rfl (fun H locs hw => ?_)
            refine lv_iconst (v := 1) hx hb dL_law_218 (by decide) ?_
            refine lv_isub hx hb dL_law_219 ?_
            refine lv_istore (lv' := [(11, .int (v215 - 1)), (0, .ref b), (1, .ref (h 0)), (2, .int x2), (3, .int x3), (4, .int x4), (5, .long x5), (8, .int x8), (9, .long x9)]) hx hb dL_law_220 hl (by decide) rfl (fun ls hl => ?_)
            refine lv_aload_n hx hb dL_law_222 rfl (lv_at hl 2 rfl) ?_
            obtain ⟨v223, hv223, hf⟩ := ob_e hf
            rcases v223 with t223 | u223
            · replace hf := se_l hf
              exact nn hf
            · replace hf := se_r hf
              refine xcallV (ws' := (wC g h u223.2.1 snap has u223.2.2 ent res num col)) (st1 := [.int u223.1]) (n := 34) E hw [] [0, 1, 2, 3, 4, 5, 6, 7, 8, 9, 10, 11, 12, 13, 14, 15, 16, 17, 18, 19, 20, 21, 22, 23, 24, 25, 26, 27, 28, 29, 30, 31, 32, 33] (met_X10_undo l g h now snap has hist ent res num col u223 hv223) rfl (by decide) rfl rfl [34, 35, 36, 37, 38, 39, 40, 41, 42, 43, 44, 45, 46, 47, 48, 49, 50, 51, 52, 53, 54, 55, 56, 57, 58, 59, 60, 61, 62, 63, 64, 65, 66, 67] rfl (by decide +kernel) rfl rfl rfl rfl qw215 k_X10_undo ⟨rfl, rfl, Nat.le_of_ble_eq_true rfl, Nat.le_of_ble_eq_true rfl⟩ hcs hl.1 (Nat.le_of_ble_eq_true rfl) dL_law_223 rfl (fun H locs hw => ?_)
              refine lv_iload hx hb dL_law_226 (lv_at hl 0 rfl) ?_
              refine lv_icmp_ne (tgt := 261) hx hb dL_law_228 (by decide) (fun c228 => ?_) (fun c228 => ?_)
              · replace hf := iq c228 hf
                refine lv_iconst (v := 0) hx hb dL_law_261 (by decide) ?_
                exact absurd (Option.some.inj hf) (by decide)
              · replace hf := ip c228 hf
                refine lv_aload_n hx hb dL_law_231 rfl (lv_at hl 2 rfl) ?_
                obtain ⟨v232, hv232, hf⟩ := ob_e hf
                refine xcallS (ws' := (wC g h u223.2.1 snap has u223.2.2 ent res num col)) (st1 := [.long v232]) (n := 34) E hw [.ref (h 0)] [0, 1, 2, 3, 4, 5, 6, 7, 8, 9, 10, 11, 12, 13, 14, 15, 16, 17, 18, 19, 20, 21, 22, 23, 24, 25, 26, 27, 28, 29, 30, 31, 32, 33] (met_L_told l g h u223.2.1 snap has u223.2.2 ent res num col v232 hv232) rfl (by decide) rfl rfl [34, 35, 36, 37, 38, 39, 40, 41, 42, 43, 44, 45, 46, 47, 48, 49, 50, 51, 52, 53, 54, 55, 56, 57, 58, 59, 60, 61, 62, 63, 64, 65, 66, 67] rfl (by decide +kernel) rfl qw418 k_L_told ⟨rfl, rfl, Nat.le_of_ble_eq_true rfl, Nat.le_of_ble_eq_true rfl⟩ hcs hl.1 (Nat.le_of_ble_eq_true rfl) dL_law_232 rfl (fun H locs hw => ?_)
                refine lv_lload hx hb dL_law_235 (lv_at hl 6 rfl) ?_
                refine xlc_ne (tgt := 261) hx hb dL_law_237 dL_law_238 (by decide) (fun c237 => ?_) (fun c237 => ?_)
                · replace hf := iq c237 hf
                  refine lv_iconst (v := 0) hx hb dL_law_261 (by decide) ?_
                  exact absurd (Option.some.inj hf) (by decide)
                · replace hf := ip c237 hf
                  refine lv_aload_n hx hb dL_law_241 rfl (lv_at hl 2 rfl) ?_
                  refine lv_iload_n hx hb dL_law_242 rfl (lv_at hl 4 rfl) ?_
                  refine lv_iload hx hb dL_law_243 (lv_at hl 5 rfl) ?_
                  obtain ⟨v245, hv245, hf⟩ := ob_e hf
                  refine xcallS (ws' := (wC g h v245.2.1 snap has v245.2.2.1 ent v245.2.2.2 num col)) (st1 := [.int v245.1]) (n := 34) E hw [.ref (h 0), .int x3, .int x4] [0, 1, 2, 3, 4, 5, 6, 7, 8, 9, 10, 11, 12, 13, 14, 15, 16, 17, 18, 19, 20, 21, 22, 23, 24, 25, 26, 27, 28, 29, 30, 31, 32, 33] (met_L_act l g h u223.2.1 snap has u223.2.2 ent res num col x3 x4 v245 hv245) rfl (by decide) rfl rfl [34, 35, 36, 37, 38, 39, 40, 41, 42, 43, 44, 45, 46, 47, 48, 49, 50, 51, 52, 53, 54, 55, 56, 57, 58, 59, 60, 61, 62, 63, 64, 65, 66, 67] rfl (by decide +kernel) rfl qw436 k_L_act ⟨rfl, rfl, Nat.le_of_ble_eq_true rfl, Nat.le_of_ble_eq_true rfl⟩ hcs hl.1 (Nat.le_of_ble_eq_true rfl) dL_law_245 rfl (fun H locs hw => ?_)
                  refine lv_if_eq (tgt := 261) hx hb dL_law_248 (by decide) (fun c248 => ?_) (fun c248 => ?_)
                  · replace hf := ip c248 hf
                    refine lv_iconst (v := 0) hx hb dL_law_261 (by decide) ?_
                    exact absurd (Option.some.inj hf) (by decide)
                  · replace hf := iq c248 hf
                    refine lv_aload_n hx hb dL_law_251 rfl (lv_at hl 2 rfl) ?_
                    obtain ⟨v252, hv252, hf⟩ := ob_e hf
                    refine xcallS (ws' := (wC g h v245.2.1 snap has v245.2.2.1 ent v245.2.2.2 num col)) (st1 := [.long v252]) (n := 34) E hw [.ref (h 0)] [0, 1, 2, 3, 4, 5, 6, 7, 8, 9, 10, 11, 12, 13, 14, 15, 16, 17, 18, 19, 20, 21, 22, 23, 24, 25, 26, 27, 28, 29, 30, 31, 32, 33] (met_L_told l g h v245.2.1 snap has v245.2.2.1 ent v245.2.2.2 num col v252 hv252) rfl (by decide) rfl rfl [34, 35, 36, 37, 38, 39, 40, 41, 42, 43, 44, 45, 46, 47, 48, 49, 50, 51, 52, 53, 54, 55, 56, 57, 58, 59, 60, 61, 62, 63, 64, 65, 66, 67] rfl (by decide +kernel) rfl qw418 k_L_told ⟨rfl, rfl, Nat.le_of_ble_eq_true rfl, Nat.le_of_ble_eq_true rfl⟩ hcs hl.1 (Nat.le_of_ble_eq_true rfl) dL_law_252 rfl (fun H locs hw => ?_)
                    refine lv_lload hx hb dL_law_255 (lv_at hl 8 rfl) ?_
                    refine xlc_eq (tgt := 263) hx hb dL_law_257 dL_law_258 (by decide) (fun c257 => ?_) (fun c257 => ?_)
                    · replace hf := ip c257 hf
                      exact b263 _ _ _ v245.2.1 v245.2.2.1 v245.2.2.2 col x2 x3 x4 hw (lv_sub hl [1, 2, 3, 4, 5] rfl) hf
                    · replace hf := iq c257 hf
                      refine lv_iconst (v := 0) hx hb dL_law_261 (by decide) ?_
                      exact absurd (Option.some.inj hf) (by decide)
      have b195 : ∀ (H : Heap) (locs : List Loc) (ls : Array Slot) (now : SC) (hist : HC) (res : RC) (col : CC) (x2 : Int32) (x3 : Int32) (x4 : Int32) (x5 : Int64) (x8 : Int32) (x9 : Int64) (t0 : Int32) (t1 : Int32), xW g (fun q : Nat => s.heap.size ≤ q) s.heap (wC g h now snap has hist ent res num col) H locs → lv_has ls 12 [(0, .ref b), (1, .ref (h 0)), (2, .int x2), (3, .int x3), (4, .int x4), (5, .long x5), (8, .int x8), (9, .long x9)] → f_L_law_b195 (f_L_law_b82 n82) xs L now hist res col x2 x3 x4 x5 x8 x9 t0 t1 = some 1 → W p l e room_1 s m #[Value.ref b] below meth c H locs ce sl (lw_Z below #[Value.ref b] s) (F0 m 195 ls [.int t0, .int t1]) := by
        intro H locs ls now hist res col x2 x3 x4 x5 x8 x9 t0 t1 hw hl hf
        refine lv_icmp_eq (tgt := 200) hx hb dL_law_195 (by decide) (fun c195 => ?_) (fun c195 => ?_)
        · replace hf := ip c195 hf
          exact b200 _ _ _ now hist res col x2 x3 x4 x5 x8 x9 hw (lv_sub hl [0, 1, 2, 3, 4, 5, 6, 7] rfl) hf
        · replace hf := iq c195 hf
          refine lv_iconst (v := 0) hx hb dL_law_198 (by decide) ?_
          exact absurd (Option.some.inj hf) (by decide)
      have b111 : ∀ (H : Heap) (locs : List Loc) (ls : Array Slot) (now : SC) (hist : HC) (res : RC) (col : CC) (x2 : Int32) (t0 : Int32), xW g (fun q : Nat => s.heap.size ≤ q) s.heap (wC g h now snap has hist ent res num col) H locs → lv_has ls 12 [(0, .ref b), (1, .ref (h 0)), (2, .int x2)] → f_L_law_b111 (f_L_law_b82 n82) xs L now hist res col x2 t0 = some 1 → W p l e room_1 s m #[Value.ref b] below meth c H locs ce sl (lw_Z below #[Value.ref b] s) (F0 m 111 ls [.int t0]) := by
        intro H locs ls now hist res col x2 t0 hw hl hf
        refine lv_istore_n (lv' := [(3, .int t0), (0, .ref b), (1, .ref (h 0)), (2, .int x2)]) hx hb dL_law_111 rfl hl (by decide) rfl (fun ls hl => ?_)
        refine lv_aload_n hx hb dL_law_112 rfl (lv_at hl 1 rfl) ?_
        refine lv_iconst (v := 2) hx hb dL_law_113 (by decide) ?_
        refine lv_iload_n hx hb dL_law_114 rfl (lv_at hl 3 rfl) ?_
        refine lv_imul hx hb dL_law_115 ?_
        refine lv_iconst (v := 1) hx hb dL_law_116 (by decide) ?_
        refine lv_iadd hx hb dL_law_117 ?_
        obtain ⟨v118, hv118, hf⟩ := ob_e hf
        refine xcallScr (st1 := [.int v118]) (n := 34) E hw hXs hbl hbA [.ref b, .int ((2 * x2) + 1)] (met_L_cell l g b L xs ((2 * x2) + 1) v118 hv118) rfl rfl qw411 k_L_cell ⟨rfl, rfl, Nat.le_of_ble_eq_true rfl, Nat.le_of_ble_eq_true rfl⟩ hcs hl.1 (Nat.le_of_ble_eq_true rfl) dL_law_118 rfl (fun H locs hw => ?_)
        refine lv_istore (lv' := [(4, .int v118), (3, .int t0), (0, .ref b), (1, .ref (h 0)), (2, .int x2)]) hx hb dL_law_121 hl (by decide) rfl (fun ls hl => ?_)
        refine lv_aload_n hx hb dL_law_123 rfl (lv_at hl 3 rfl) ?_
        obtain ⟨v124, hv124, hf⟩ := ob_e hf
        refine xcallS (ws' := (wC g h now snap has hist ent res num col)) (st1 := [.long v124]) (n := 34) E hw [.ref (h 0)] [0, 1, 2, 3, 4, 5, 6, 7, 8, 9, 10, 11, 12, 13, 14, 15, 16, 17, 18, 19, 20, 21, 22, 23, 24, 25, 26, 27, 28, 29, 30, 31, 32, 33] (met_L_told l g h now snap has hist ent res num col v124 hv124) rfl (by decide) rfl rfl [34, 35, 36, 37, 38, 39, 40, 41, 42, 43, 44, 45, 46, 47, 48, 49, 50, 51, 52, 53, 54, 55, 56, 57, 58, 59, 60, 61, 62, 63, 64, 65, 66, 67] rfl (by decide +kernel) rfl qw418 k_L_told ⟨rfl, rfl, Nat.le_of_ble_eq_true rfl, Nat.le_of_ble_eq_true rfl⟩ hcs hl.1 (Nat.le_of_ble_eq_true rfl) dL_law_124 rfl (fun H locs hw => ?_)
        refine lv_lstore (lv' := [(5, .long v124), (4, .int v118), (3, .int t0), (0, .ref b), (1, .ref (h 0)), (2, .int x2)]) hx hb dL_law_127 hl (by decide) rfl (fun ls hl => ?_)
        refine lv_aload_n hx hb dL_law_129 rfl (lv_at hl 4 rfl) ?_
        obtain ⟨v130, hv130, hf⟩ := ob_e hf
        refine xcallV (ws' := (wC g h now snap has hist ent res num col)) (st1 := [.int v130]) (n := 34) E hw [] [0, 1, 2, 3, 4, 5, 6, 7, 8, 9, 10, 11, 12, 13, 14, 15, 16, 17, 18, 19, 20, 21, 22, 23, 24, 25, 26, 27, 28, 29, 30, 31, 32, 33] (met_X10_savedStates l g h now snap has hist ent res num col v130 hv130) rfl (by decide) rfl rfl [34, 35, 36, 37, 38, 39, 40, 41, 42, 43, 44, 45, 46, 47, 48, 49, 50, 51, 52, 53, 54, 55, 56, 57, 58, 59, 60, 61, 62, 63, 64, 65, 66, 67] rfl (by decide +kernel) rfl rfl rfl rfl qw298 k_X10_savedStates ⟨rfl, rfl, Nat.le_of_ble_eq_true rfl, Nat.le_of_ble_eq_true rfl⟩ hcs hl.1 (Nat.le_of_ble_eq_true rfl) dL_law_130 rfl (fun H locs hw => ?_)
        refine lv_istore (lv' := [(7, .int v130), (5, .long v124), (4, .int v118), (3, .int t0), (0, .ref b), (1, .ref (h 0)), (2, .int x2)]) hx hb dL_law_133 hl (by decide) rfl (fun ls hl => ?_)
        refine lv_aload_n hx hb dL_law_135 rfl (lv_at hl 5 rfl) ?_
        refine lv_iload_n hx hb dL_law_136 rfl (lv_at hl 3 rfl) ?_
        refine lv_iload hx hb dL_law_137 (lv_at hl 2 rfl) ?_
        obtain ⟨v139, hv139, hf⟩ := ob_e hf
        refine xcallS (ws' := (wC g h v139.2.1 snap has v139.2.2.1 ent v139.2.2.2 num col)) (st1 := [.int v139.1]) (n := 34) E hw [.ref (h 0), .int t0, .int v118] [0, 1, 2, 3, 4, 5, 6, 7, 8, 9, 10, 11, 12, 13, 14, 15, 16, 17, 18, 19, 20, 21, 22, 23, 24, 25, 26, 27, 28, 29, 30, 31, 32, 33] (met_L_act l g h now snap has hist ent res num col t0 v118 v139 hv139) rfl (by decide) rfl rfl [34, 35, 36, 37, 38, 39, 40, 41, 42, 43, 44, 45, 46, 47, 48, 49, 50, 51, 52, 53, 54, 55, 56, 57, 58, 59, 60, 61, 62, 63, 64, 65, 66, 67] rfl (by decide +kernel) rfl qw436 k_L_act ⟨rfl, rfl, Nat.le_of_ble_eq_true rfl, Nat.le_of_ble_eq_true rfl⟩ hcs hl.1 (Nat.le_of_ble_eq_true rfl) dL_law_139 rfl (fun H locs hw => ?_)
        refine lv_istore (lv' := [(8, .int v139.1), (7, .int v130), (5, .long v124), (4, .int v118), (3, .int t0), (0, .ref b), (1, .ref (h 0)), (2, .int x2)]) hx hb dL_law_142 hl (by decide) rfl (fun ls hl => ?_)
        refine lv_aload_n hx hb dL_law_144 rfl (lv_at hl 6 rfl) ?_
        obtain ⟨v145, hv145, hf⟩ := ob_e hf
        refine xcallS (ws' := (wC g h v139.2.1 snap has v139.2.2.1 ent v139.2.2.2 num col)) (st1 := [.long v145]) (n := 34) E hw [.ref (h 0)] [0, 1, 2, 3, 4, 5, 6, 7, 8, 9, 10, 11, 12, 13, 14, 15, 16, 17, 18, 19, 20, 21, 22, 23, 24, 25, 26, 27, 28, 29, 30, 31, 32, 33] (met_L_told l g h v139.2.1 snap has v139.2.2.1 ent v139.2.2.2 num col v145 hv145) rfl (by decide) rfl rfl [34, 35, 36, 37, 38, 39, 40, 41, 42, 43, 44, 45, 46, 47, 48, 49, 50, 51, 52, 53, 54, 55, 56, 57, 58, 59, 60, 61, 62, 63, 64, 65, 66, 67] rfl (by decide +kernel) rfl qw418 k_L_told ⟨rfl, rfl, Nat.le_of_ble_eq_true rfl, Nat.le_of_ble_eq_true rfl⟩ hcs hl.1 (Nat.le_of_ble_eq_true rfl) dL_law_145 rfl (fun H locs hw => ?_)
        refine lv_lstore (lv' := [(9, .long v145), (8, .int v139.1), (7, .int v130), (5, .long v124), (4, .int v118), (3, .int t0), (0, .ref b), (1, .ref (h 0)), (2, .int x2)]) hx hb dL_law_148 hl (by decide) rfl (fun ls hl => ?_)
        refine lv_iload hx hb dL_law_150 (lv_at hl 1 rfl) ?_
        refine lv_if_ne (tgt := 175) hx hb dL_law_152 (by decide) (fun c152 => ?_) (fun c152 => ?_)
        · replace hf := iq c152 hf
          refine lv_aload_n hx hb dL_law_175 rfl (lv_at hl 7 rfl) ?_
          obtain ⟨v176, hv176, hf⟩ := ob_e hf
          refine xcallV (ws' := (wC g h v139.2.1 snap has v139.2.2.1 ent v139.2.2.2 num col)) (st1 := [.int v176]) (n := 34) E hw [] [0, 1, 2, 3, 4, 5, 6, 7, 8, 9, 10, 11, 12, 13, 14, 15, 16, 17, 18, 19, 20, 21, 22, 23, 24, 25, 26, 27, 28, 29, 30, 31, 32, 33] (met_X10_savedStates l g h v139.2.1 snap has v139.2.2.1 ent v139.2.2.2 num col v176 hv176) rfl (by decide) rfl rfl [34, 35, 36, 37, 38, 39, 40, 41, 42, 43, 44, 45, 46, 47, 48, 49, 50, 51, 52, 53, 54, 55, 56, 57, 58, 59, 60, 61, 62, 63, 64, 65, 66, 67] rfl (by decide +kernel) rfl rfl rfl rfl qw298 k_X10_savedStates ⟨rfl, rfl, Nat.le_of_ble_eq_true rfl, Nat.le_of_ble_eq_true rfl⟩ hcs hl.1 (Nat.le_of_ble_eq_true rfl) dL_law_176 rfl (fun H locs hw => ?_)
          refine lv_iload hx hb dL_law_179 (lv_at hl 2 rfl) ?_
          refine lv_bipush (v := 6) hx hb dL_law_181 (by decide) ?_
          refine lv_icmp_ge (tgt := 193) hx hb dL_law_183 (by decide) (fun c183 => ?_) (fun c183 => ?_)
          · replace hf := ip c183 hf
            refine lv_bipush (v := 6) hx hb dL_law_193 (by decide) ?_
            exact b195 _ _ _ v139.2.1 v139.2.2.1 v139.2.2.2 col x2 t0 v118 v124 v139.1 v145 6 v176 hw (lv_sub hl [6, 7, 8, 5, 4, 3, 1, 0] rfl) hf
          · replace hf := iq c183 hf
            refine lv_iload hx hb dL_law_186 (lv_at hl 2 rfl) ?_
            refine lv_iconst (v := 1) hx hb dL_law_188 (by decide) ?_
            refine lv_iadd hx hb dL_law_189 ?_
            refine lv_goto (tgt := 195) hx hb dL_law_190 (by decide) ?_
            exact b195 _ _ _ v139.2.1 v139.2.2.1 v139.2.2.2 col x2 t0 v118 v124 v139.1 v145 (v130 + 1) v176 hw (lv_sub hl [6, 7, 8, 5, 4, 3, 1, 0] rfl) hf
        · replace hf := ip c152 hf
          refine lv_lload hx hb dL_law_155 (lv_at hl 0 rfl) ?_
          refine lv_lload hx hb dL_law_157 (lv_at hl 3 rfl) ?_
          refine xlc_ne (tgt := 198) hx hb dL_law_159 dL_law_160 (by decide) (fun c159 => ?_) (fun c159 => ?_)
          · replace hf := iq c159 hf
            refine lv_iconst (v := 0) hx hb dL_law_198 (by decide) ?_
            exact absurd (Option.some.inj hf) (by decide)
          · replace hf := ip c159 hf
            refine lv_aload_n hx hb dL_law_163 rfl (lv_at hl 7 rfl) ?_
            obtain ⟨v164, hv164, hf⟩ := ob_e hf
            refine xcallV (ws' := (wC g h v139.2.1 snap has v139.2.2.1 ent v139.2.2.2 num col)) (st1 := [.int v164]) (n := 34) E hw [] [0, 1, 2, 3, 4, 5, 6, 7, 8, 9, 10, 11, 12, 13, 14, 15, 16, 17, 18, 19, 20, 21, 22, 23, 24, 25, 26, 27, 28, 29, 30, 31, 32, 33] (met_X10_savedStates l g h v139.2.1 snap has v139.2.2.1 ent v139.2.2.2 num col v164 hv164) rfl (by decide) rfl rfl [34, 35, 36, 37, 38, 39, 40, 41, 42, 43, 44, 45, 46, 47, 48, 49, 50, 51, 52, 53, 54, 55, 56, 57, 58, 59, 60, 61, 62, 63, 64, 65, 66, 67] rfl (by decide +kernel) rfl rfl rfl rfl qw298 k_X10_savedStates ⟨rfl, rfl, Nat.le_of_ble_eq_true rfl, Nat.le_of_ble_eq_true rfl⟩ hcs hl.1 (Nat.le_of_ble_eq_true rfl) dL_law_164 rfl (fun H locs hw => ?_)
            refine lv_iload hx hb dL_law_167 (lv_at hl 2 rfl) ?_
            refine lv_icmp_eq (tgt := 200) hx hb dL_law_169 (by decide) (fun c169 => ?_) (fun c169 => ?_)
            · replace hf := ip c169 hf
              exact b200 _ _ _ v139.2.1 v139.2.2.1 v139.2.2.2 col x2 t0 v118 v124 v139.1 v145 hw (lv_sub hl [6, 7, 8, 5, 4, 3, 1, 0] rfl) hf
            · replace hf := iq c169 hf
              refine lv_goto (tgt := 198) hx hb dL_law_172 (by decide) ?_
              refine lv_iconst (v := 0) hx hb dL_law_198 (by decide) ?_
              exact absurd (Option.some.inj hf) (by decide)
      intro H locs ls now hist res col x2 hw hl hf
      refine lv_iload_n hx hb dL_law_82 rfl (lv_at hl 2 rfl) ?_
      refine lv_bipush (v := 40) hx hb dL_law_83 (by decide) ?_
      refine lv_icmp_ge (tgt := 302) hx hb dL_law_85 (by decide) (fun c85 => ?_) (fun c85 => ?_)
      · replace hf := ip c85 hf
        refine lv_iconst (v := 1) hx hb dL_law_302 (by decide) ?_
        refine va_forget (fun q hq => hw.2.2.2.2 q hq) ?_
        refine W.widen (k := 600130) (n := 7301080) hcs.1 hcs.2 ?_
        exact lw_ret (d0 := s.drawn) (Drawn.sameBut.refl s.drawn lw_cs) hx hb hr hlocks dL_law_303
      · replace hf := iq c85 hf
        refine lv_aload_n hx hb dL_law_88 rfl (lv_at hl 0 rfl) ?_
        refine lv_iconst (v := 2) hx hb dL_law_89 (by decide) ?_
        refine lv_iload_n hx hb dL_law_90 rfl (lv_at hl 2 rfl) ?_
        refine lv_imul hx hb dL_law_91 ?_
        obtain ⟨v92, hv92, hf⟩ := ob_e hf
        refine xcallScr (st1 := [.int v92]) (n := 34) E hw hXs hbl hbA [.ref b, .int (2 * x2)] (met_L_cell l g b L xs (2 * x2) v92 hv92) rfl rfl qw411 k_L_cell ⟨rfl, rfl, Nat.le_of_ble_eq_true rfl, Nat.le_of_ble_eq_true rfl⟩ hcs hl.1 (Nat.le_of_ble_eq_true rfl) dL_law_92 rfl (fun H locs hw => ?_)
        refine lv_istore_n (lv' := [(3, .int v92), (0, .ref b), (1, .ref (h 0)), (2, .int x2)]) hx hb dL_law_95 rfl hl (by decide) rfl (fun ls hl => ?_)
        refine lv_iload_n hx hb dL_law_96 rfl (lv_at hl 3 rfl) ?_
        refine lv_iconst (v := 3) hx hb dL_law_97 (by decide) ?_
        refine lv_icmp_ge (tgt := 110) hx hb dL_law_98 (by decide) (fun c98 => ?_) (fun c98 => ?_)
        · replace hf := ip c98 hf
          refine lv_iload_n hx hb dL_law_110 rfl (lv_at hl 0 rfl) ?_
          exact b111 _ _ _ now hist res col x2 v92 hw (lv_sub hl [1, 2, 3] rfl) hf
        · replace hf := iq c98 hf
          refine lv_iload_n hx hb dL_law_101 rfl (lv_at hl 0 rfl) ?_
          refine lv_bipush (v := (-16)) hx hb dL_law_102 (by decide) ?_
          refine lv_iand hx hb dL_law_104 ?_
          refine lv_iconst (v := 2) hx hb dL_law_105 (by decide) ?_
          refine lv_ior hx hb dL_law_106 ?_
          refine lv_goto (tgt := 111) hx hb dL_law_107 (by decide) ?_
          exact b111 _ _ _ now hist res col x2 ((v92 &&& (-16)) ||| 2) hw (lv_sub hl [1, 2, 3] rfl) hf
  intro H locs ls now hist res col hw hl hf
  refine lv_aload_n hx hb dL_law_8 rfl (lv_at hl 1 rfl) ?_
  obtain ⟨v9, hv9, hf⟩ := ob_e hf
  refine xcallV (ws' := (wC g h now snap has hist ent res num col)) (st1 := [.int v9]) (n := 34) E hw [] [0, 1, 2, 3, 4, 5, 6, 7, 8, 9, 10, 11, 12, 13, 14, 15, 16, 17, 18, 19, 20, 21, 22, 23, 24, 25, 26, 27, 28, 29, 30, 31, 32, 33] (met_X10_savedStates l g h now snap has hist ent res num col v9 hv9) rfl (by decide) rfl rfl [34, 35, 36, 37, 38, 39, 40, 41, 42, 43, 44, 45, 46, 47, 48, 49, 50, 51, 52, 53, 54, 55, 56, 57, 58, 59, 60, 61, 62, 63, 64, 65, 66, 67] rfl (by decide +kernel) rfl rfl rfl rfl qw298 k_X10_savedStates ⟨rfl, rfl, Nat.le_of_ble_eq_true rfl, Nat.le_of_ble_eq_true rfl⟩ hcs hl.1 (Nat.le_of_ble_eq_true rfl) dL_law_9 rfl (fun H locs hw => ?_)
  refine lv_if_ne (tgt := 78) hx hb dL_law_12 (by decide) (fun c12 => ?_) (fun c12 => ?_)
  · replace hf := iq c12 hf
    refine lv_iconst (v := 0) hx hb dL_law_78 (by decide) ?_
    exact absurd (Option.some.inj hf) (by decide)
  · replace hf := ip c12 hf
    refine lv_aload_n hx hb dL_law_15 rfl (lv_at hl 1 rfl) ?_
    obtain ⟨v16, hv16, hf⟩ := ob_e hf
    refine xcallV (ws' := (wC g h now snap has hist ent res num col)) (st1 := [.int v16]) (n := 34) E hw [] [0, 1, 2, 3, 4, 5, 6, 7, 8, 9, 10, 11, 12, 13, 14, 15, 16, 17, 18, 19, 20, 21, 22, 23, 24, 25, 26, 27, 28, 29, 30, 31, 32, 33] (met_X10_base l g h now snap has hist ent res num col v16 hv16) rfl (by decide) rfl rfl [34, 35, 36, 37, 38, 39, 40, 41, 42, 43, 44, 45, 46, 47, 48, 49, 50, 51, 52, 53, 54, 55, 56, 57, 58, 59, 60, 61, 62, 63, 64, 65, 66, 67] rfl (by decide +kernel) rfl rfl rfl rfl qw302 k_X10_base ⟨rfl, rfl, Nat.le_of_ble_eq_true rfl, Nat.le_of_ble_eq_true rfl⟩ hcs hl.1 (Nat.le_of_ble_eq_true rfl) dL_law_16 rfl (fun H locs hw => ?_)
    refine lv_bipush (v := 6) hx hb dL_law_19 (by decide) ?_
    refine lv_icmp_ne (tgt := 78) hx hb dL_law_21 (by decide) (fun c21 => ?_) (fun c21 => ?_)
    · replace hf := iq c21 hf
      refine lv_iconst (v := 0) hx hb dL_law_78 (by decide) ?_
      exact absurd (Option.some.inj hf) (by decide)
    · replace hf := ip c21 hf
      refine lv_aload_n hx hb dL_law_24 rfl (lv_at hl 1 rfl) ?_
      refine lv_iconst (v := 5) hx hb dL_law_25 (by decide) ?_
      obtain ⟨v26, hv26, hf⟩ := ob_e hf
      rcases v26 with t26 | u26
      · replace hf := se_l hf
        exact nn hf
      · replace hf := se_r hf
        refine xcallV (ws' := (wC g h now snap has hist ent res num col)) (st1 := [.int u26]) (n := 34) E hw [.int 5] [0, 1, 2, 3, 4, 5, 6, 7, 8, 9, 10, 11, 12, 13, 14, 15, 16, 17, 18, 19, 20, 21, 22, 23, 24, 25, 26, 27, 28, 29, 30, 31, 32, 33] (met_X10_numerator l g h now snap has hist ent res num col 5 u26 hv26) rfl (by decide) rfl rfl [34, 35, 36, 37, 38, 39, 40, 41, 42, 43, 44, 45, 46, 47, 48, 49, 50, 51, 52, 53, 54, 55, 56, 57, 58, 59, 60, 61, 62, 63, 64, 65, 66, 67] rfl (by decide +kernel) rfl rfl rfl rfl qw306 k_X10_numerator ⟨rfl, rfl, Nat.le_of_ble_eq_true rfl, Nat.le_of_ble_eq_true rfl⟩ hcs hl.1 (Nat.le_of_ble_eq_true rfl) dL_law_26 rfl (fun H locs hw => ?_)
        refine lv_if_ne (tgt := 78) hx hb dL_law_29 (by decide) (fun c29 => ?_) (fun c29 => ?_)
        · replace hf := iq c29 hf
          refine lv_iconst (v := 0) hx hb dL_law_78 (by decide) ?_
          exact absurd (Option.some.inj hf) (by decide)
        · replace hf := ip c29 hf
          refine lv_aload_n hx hb dL_law_32 rfl (lv_at hl 1 rfl) ?_
          refine lv_iconst (v := 0) hx hb dL_law_33 (by decide) ?_
          obtain ⟨v34, hv34, hf⟩ := ob_e hf
          rcases v34 with t34 | u34
          · replace hf := se_l hf
            exact nn hf
          · replace hf := se_r hf
            refine xcallV (ws' := (wC g h now snap has hist ent res num col)) (st1 := [.int u34]) (n := 34) E hw [.int 0] [0, 1, 2, 3, 4, 5, 6, 7, 8, 9, 10, 11, 12, 13, 14, 15, 16, 17, 18, 19, 20, 21, 22, 23, 24, 25, 26, 27, 28, 29, 30, 31, 32, 33] (met_X10_denominator l g h now snap has hist ent res num col 0 u34 hv34) rfl (by decide) rfl rfl [34, 35, 36, 37, 38, 39, 40, 41, 42, 43, 44, 45, 46, 47, 48, 49, 50, 51, 52, 53, 54, 55, 56, 57, 58, 59, 60, 61, 62, 63, 64, 65, 66, 67] rfl (by decide +kernel) rfl rfl rfl rfl qw336 k_X10_denominator ⟨rfl, rfl, Nat.le_of_ble_eq_true rfl, Nat.le_of_ble_eq_true rfl⟩ hcs hl.1 (Nat.le_of_ble_eq_true rfl) dL_law_34 rfl (fun H locs hw => ?_)
            refine lv_iconst (v := 1) hx hb dL_law_37 (by decide) ?_
            refine lv_icmp_ne (tgt := 78) hx hb dL_law_38 (by decide) (fun c38 => ?_) (fun c38 => ?_)
            · replace hf := iq c38 hf
              refine lv_iconst (v := 0) hx hb dL_law_78 (by decide) ?_
              exact absurd (Option.some.inj hf) (by decide)
            · replace hf := ip c38 hf
              refine lv_aload_n hx hb dL_law_41 rfl (lv_at hl 1 rfl) ?_
              refine lv_iconst (v := 2) hx hb dL_law_42 (by decide) ?_
              obtain ⟨v43, hv43, hf⟩ := ob_e hf
              rcases v43 with t43 | u43
              · replace hf := se_l hf
                exact nn hf
              · replace hf := se_r hf
                refine xcallV (ws' := (wC g h now snap has hist ent res num col)) (st1 := [.int u43]) (n := 34) E hw [.int 2] [0, 1, 2, 3, 4, 5, 6, 7, 8, 9, 10, 11, 12, 13, 14, 15, 16, 17, 18, 19, 20, 21, 22, 23, 24, 25, 26, 27, 28, 29, 30, 31, 32, 33] (met_X10_wholeDigits l g h now snap has hist ent res num col 2 u43 hv43) rfl (by decide) rfl rfl [34, 35, 36, 37, 38, 39, 40, 41, 42, 43, 44, 45, 46, 47, 48, 49, 50, 51, 52, 53, 54, 55, 56, 57, 58, 59, 60, 61, 62, 63, 64, 65, 66, 67] rfl (by decide +kernel) rfl rfl rfl rfl qw344 k_X10_wholeDigits ⟨rfl, rfl, Nat.le_of_ble_eq_true rfl, Nat.le_of_ble_eq_true rfl⟩ hcs hl.1 (Nat.le_of_ble_eq_true rfl) dL_law_43 rfl (fun H locs hw => ?_)
                refine lv_iconst (v := 1) hx hb dL_law_46 (by decide) ?_
                refine lv_icmp_ne (tgt := 78) hx hb dL_law_47 (by decide) (fun c47 => ?_) (fun c47 => ?_)
                · replace hf := iq c47 hf
                  refine lv_iconst (v := 0) hx hb dL_law_78 (by decide) ?_
                  exact absurd (Option.some.inj hf) (by decide)
                · replace hf := ip c47 hf
                  refine lv_aload_n hx hb dL_law_50 rfl (lv_at hl 1 rfl) ?_
                  refine lv_iconst (v := 2) hx hb dL_law_51 (by decide) ?_
                  refine lv_iconst (v := 0) hx hb dL_law_52 (by decide) ?_
                  obtain ⟨v53, hv53, hf⟩ := ob_e hf
                  rcases v53 with t53 | u53
                  · replace hf := se_l hf
                    exact nn hf
                  · replace hf := se_r hf
                    refine xcallV (ws' := (wC g h now snap has hist ent res num col)) (st1 := [.int u53]) (n := 34) E hw [.int 2, .int 0] [0, 1, 2, 3, 4, 5, 6, 7, 8, 9, 10, 11, 12, 13, 14, 15, 16, 17, 18, 19, 20, 21, 22, 23, 24, 25, 26, 27, 28, 29, 30, 31, 32, 33] (met_X10_writtenAt l g h now snap has hist ent res num col 2 0 u53 hv53) rfl (by decide) rfl rfl [34, 35, 36, 37, 38, 39, 40, 41, 42, 43, 44, 45, 46, 47, 48, 49, 50, 51, 52, 53, 54, 55, 56, 57, 58, 59, 60, 61, 62, 63, 64, 65, 66, 67] rfl (by decide +kernel) rfl rfl rfl rfl qw358 k_X10_writtenAt ⟨rfl, rfl, Nat.le_of_ble_eq_true rfl, Nat.le_of_ble_eq_true rfl⟩ hcs hl.1 (Nat.le_of_ble_eq_true rfl) dL_law_53 rfl (fun H locs hw => ?_)
                    refine lv_bipush (v := 48) hx hb dL_law_56 (by decide) ?_
                    refine lv_icmp_ne (tgt := 78) hx hb dL_law_58 (by decide) (fun c58 => ?_) (fun c58 => ?_)
                    · replace hf := iq c58 hf
                      refine lv_iconst (v := 0) hx hb dL_law_78 (by decide) ?_
                      exact absurd (Option.some.inj hf) (by decide)
                    · replace hf := ip c58 hf
                      refine lv_aload_n hx hb dL_law_61 rfl (lv_at hl 1 rfl) ?_
                      obtain ⟨v62, hv62, hf⟩ := ob_e hf
                      refine xcallV (ws' := (wC g h now snap has hist ent res num col)) (st1 := [.int v62]) (n := 34) E hw [] [0, 1, 2, 3, 4, 5, 6, 7, 8, 9, 10, 11, 12, 13, 14, 15, 16, 17, 18, 19, 20, 21, 22, 23, 24, 25, 26, 27, 28, 29, 30, 31, 32, 33] (met_X10_hasStopped l g h now snap has hist ent res num col v62 hv62) rfl (by decide) rfl rfl [34, 35, 36, 37, 38, 39, 40, 41, 42, 43, 44, 45, 46, 47, 48, 49, 50, 51, 52, 53, 54, 55, 56, 57, 58, 59, 60, 61, 62, 63, 64, 65, 66, 67] rfl (by decide +kernel) rfl rfl rfl rfl qw211 k_X10_hasStopped ⟨rfl, rfl, Nat.le_of_ble_eq_true rfl, Nat.le_of_ble_eq_true rfl⟩ hcs hl.1 (Nat.le_of_ble_eq_true rfl) dL_law_62 rfl (fun H locs hw => ?_)
                      refine lv_if_ne (tgt := 78) hx hb dL_law_65 (by decide) (fun c65 => ?_) (fun c65 => ?_)
                      · replace hf := iq c65 hf
                        refine lv_iconst (v := 0) hx hb dL_law_78 (by decide) ?_
                        exact absurd (Option.some.inj hf) (by decide)
                      · replace hf := ip c65 hf
                        refine lv_aload_n hx hb dL_law_68 rfl (lv_at hl 1 rfl) ?_
                        refine lv_iconst (v := 1) hx hb dL_law_69 (by decide) ?_
                        obtain ⟨v70, hv70, hf⟩ := ob_e hf
                        rcases v70 with t70 | u70
                        · replace hf := se_l hf
                          exact nn hf
                        · replace hf := se_r hf
                          refine xcallV (ws' := (wC g h now snap has hist ent res num col)) (st1 := [.double u70]) (n := 34) E hw [.int 1] [0, 1, 2, 3, 4, 5, 6, 7, 8, 9, 10, 11, 12, 13, 14, 15, 16, 17, 18, 19, 20, 21, 22, 23, 24, 25, 26, 27, 28, 29, 30, 31, 32, 33] (met_X10_shareOf l g h now snap has hist ent res num col 1 u70 hv70) rfl (by decide) rfl rfl [34, 35, 36, 37, 38, 39, 40, 41, 42, 43, 44, 45, 46, 47, 48, 49, 50, 51, 52, 53, 54, 55, 56, 57, 58, 59, 60, 61, 62, 63, 64, 65, 66, 67] rfl (by decide +kernel) rfl rfl rfl rfl qw403 k_X10_shareOf ⟨rfl, rfl, Nat.le_of_ble_eq_true rfl, Nat.le_of_ble_eq_true rfl⟩ hcs hl.1 (Nat.le_of_ble_eq_true rfl) dL_law_70 rfl (fun H locs hw => ?_)
                          refine lv_dconst0 hx hb dL_law_73 ?_
                          refine lv_dcmp hx hb dL_law_74 ?_
                          refine lv_if_eq (tgt := 80) hx hb dL_law_75 (by decide) (fun c75 => ?_) (fun c75 => ?_)
                          · replace hf := ip c75 hf
                            refine lv_iconst (v := 0) hx hb dL_law_80 (by decide) ?_
                            refine lv_istore_n (lv' := [(2, .int 0), (0, .ref b), (1, .ref (h 0))]) hx hb dL_law_81 rfl hl (by decide) rfl (fun ls hl => ?_)
                            exact b82 xfuel _ _ _ now hist res col 0 hw (lv_sub hl [1, 2, 0] rfl) hf
                          · replace hf := iq c75 hf
                            refine lv_iconst (v := 0) hx hb dL_law_78 (by decide) ?_
                            exact absurd (Option.some.inj hf) (by decide)
