abbrev rmMo_weigh : Room := { frames := 1, cells := 0, slots := 0, locals := 23 }
set_option maxHeartbeats 4000000 in
set_option maxRecDepth 100000 in
theorem kMo_weigh (l : Launch) (D : va_G) (cI cZ cO cG : ClassId) (a_self : Nat) (a_block : Nat) (a_tape : Nat) (a_map : Nat) (a_places : Nat) (a_symbol : Nat) (a_lengths : Nat) (a_taken : Nat) (a_codes : Nat) (a_list : Nat) (a_weights : Nat) (a_whole : Nat) (a_row : Nat) (a_readMap : Nat) (a_readTaken : Nat) (a_readLengths : Nat) (a_readCodes : Nat) (a_foundBlock : Nat) (m_signs : Int32) (m_bits : Int32) (m_faultAt : Int32) (m_isDone : Int32) (m_n : Int32) (m_symbols : Int32) (m_groups : Int32) (m_tables : Int32) (m_lays : Int32) (m_laid : Int32) (m_read : Int32) (m_wrong : Int32) (m_readMany : Int32) (m_readTables : Int32) (m_readGroups : Int32) (m_found : Int32) (m_symbol : Nat → Int32) (m_lengths : Nat → Int32) (m_taken : Nat → Int32) (m_weights : Nat → Int32) (m_whole : Nat → Int32) (x1 : Int32) (x2 : Int32) {m_lengths' : Nat → Int32} {m_weights' : Nat → Int32} {m_whole' : Nat → Int32} (hF : fMo_weigh m_n m_symbols m_groups m_symbol m_lengths m_taken m_weights m_whole x1 x2 = some (m_lengths', m_weights', m_whole')) : CT l yX9_weigh wsX9_weigh rmMo_weigh D (tysG cI cZ cO cG) [.ref a_self, .int x1, .int x2] [ob a_self 9 [Value.int m_signs, Value.ref a_block, Value.ref a_tape, Value.int m_bits, Value.int m_faultAt, Value.int m_isDone, Value.int m_n, Value.ref a_map, Value.ref a_places, Value.int m_symbols, Value.ref a_symbol, Value.int m_groups, Value.int m_tables, Value.ref a_lengths, Value.ref a_taken, Value.ref a_codes, Value.ref a_list, Value.ref a_weights, Value.ref a_whole, Value.int m_lays, Value.int m_laid, Value.ref a_row, Value.int m_read, Value.int m_wrong, Value.int m_readMany, Value.ref a_readMap, Value.int m_readTables, Value.int m_readGroups, Value.ref a_readTaken, Value.ref a_readLengths, Value.ref a_readCodes, Value.int m_found, Value.ref a_foundBlock], ia cI a_symbol 301 m_symbol, ia cI a_lengths 3870 m_lengths, ia cI a_taken 155 m_taken, ia cI a_weights 516 m_weights, ia cI a_whole 516 m_whole] none [ob a_self 9 [Value.int m_signs, Value.ref a_block, Value.ref a_tape, Value.int m_bits, Value.int m_faultAt, Value.int m_isDone, Value.int m_n, Value.ref a_map, Value.ref a_places, Value.int m_symbols, Value.ref a_symbol, Value.int m_groups, Value.int m_tables, Value.ref a_lengths, Value.ref a_taken, Value.ref a_codes, Value.ref a_list, Value.ref a_weights, Value.ref a_whole, Value.int m_lays, Value.int m_laid, Value.ref a_row, Value.int m_read, Value.int m_wrong, Value.int m_readMany, Value.ref a_readMap, Value.int m_readTables, Value.int m_readGroups, Value.ref a_readTaken, Value.ref a_readLengths, Value.ref a_readCodes, Value.int m_found, Value.ref a_foundBlock], ia cI a_symbol 301 m_symbol, ia cI a_lengths 3870 m_lengths', ia cI a_taken 155 m_taken, ia cI a_weights 516 m_weights', ia cI a_whole 516 m_whole'] := by
  refine CT.of (cc := cX9_weigh) (maxL := 7) (ret := none) (by decide) rfl (Nat.le_of_ble_eq_true rfl) ?_
  intro p e s m below meth c A ls hx hb hr hml hts hown hlocks hK hA hP hD hS hl
  generalize hargs : ([.ref a_self, .int x1, .int x2] : List Value).toArray = args at hts ⊢
  generalize hQ : MQ below (ctQ D none [ob a_self 9 [Value.int m_signs, Value.ref a_block, Value.ref a_tape, Value.int m_bits, Value.int m_faultAt, Value.int m_isDone, Value.int m_n, Value.ref a_map, Value.ref a_places, Value.int m_symbols, Value.ref a_symbol, Value.int m_groups, Value.int m_tables, Value.ref a_lengths, Value.ref a_taken, Value.ref a_codes, Value.ref a_list, Value.ref a_weights, Value.ref a_whole, Value.int m_lays, Value.int m_laid, Value.ref a_row, Value.int m_read, Value.int m_wrong, Value.int m_readMany, Value.ref a_readMap, Value.int m_readTables, Value.int m_readGroups, Value.ref a_readTaken, Value.ref a_readLengths, Value.ref a_readCodes, Value.int m_found, Value.ref a_foundBlock], ia cI a_symbol 301 m_symbol, ia cI a_lengths 3870 m_lengths', ia cI a_taken 155 m_taken, ia cI a_weights 516 m_weights', ia cI a_whole 516 m_whole'] A) args s 0 0 A = Q
  have hl : lv_has ls 7 [(0, .ref a_self), (1, .int x1), (2, .int x2)] := hl
  have hW : WS D A s [ob a_self 9 [Value.int m_signs, Value.ref a_block, Value.ref a_tape, Value.int m_bits, Value.int m_faultAt, Value.int m_isDone, Value.int m_n, Value.ref a_map, Value.ref a_places, Value.int m_symbols, Value.ref a_symbol, Value.int m_groups, Value.int m_tables, Value.ref a_lengths, Value.ref a_taken, Value.ref a_codes, Value.ref a_list, Value.ref a_weights, Value.ref a_whole, Value.int m_lays, Value.int m_laid, Value.ref a_row, Value.int m_read, Value.int m_wrong, Value.int m_readMany, Value.ref a_readMap, Value.int m_readTables, Value.int m_readGroups, Value.ref a_readTaken, Value.ref a_readLengths, Value.ref a_readCodes, Value.int m_found, Value.ref a_foundBlock], ia cI a_symbol 301 m_symbol, ia cI a_lengths 3870 m_lengths, ia cI a_taken 155 m_taken, ia cI a_weights 516 m_weights, ia cI a_whole 516 m_whole] s.heap [] := ⟨hP, hD, hS⟩
  clear hP hD hS
  unfold fMo_weigh at hF
  have hw0 := hts (Cond.fieldLink RX9 106 "MoveFrontsModel" "n" "I") (by decide +kernel)
  have hw1 := hts (Cond.fieldLink RX9 45 "MoveFrontsModel" "whole" "[I") (by decide +kernel)
  have hw2 := hts (Cond.fieldLink RX9 30 "MoveFrontsModel" "lengths" "[I") (by decide +kernel)
  have hw3 := hts (Cond.fieldLink RX9 42 "MoveFrontsModel" "weights" "[I") (by decide +kernel)
  have hw4 := hts (Cond.fieldLink RX9 89 "MoveFrontsModel" "groups" "I") (by decide +kernel)
  have hw5 := hts (Cond.fieldLink RX9 33 "MoveFrontsModel" "taken" "[I") (by decide +kernel)
  have hw6 := hts (Cond.fieldLink RX9 27 "MoveFrontsModel" "symbol" "[I") (by decide +kernel)
  have hi9 : ∀ w ∈ u_ws RX9 TX9 33, w ∈ wsX9_weigh := by decide +kernel
  refine lv_aload_n hx hb dX9_weigh_0 rfl (lv_at hl 0 rfl) ?_
  refine va_get (D := D) (ci := 9) (v := .int m_n) (C := RX9) (T := TX9) (N := 33) hx hb hts hi9 hown hK.1 hW.1 0 rfl rfl 6 (by decide) hw0 (fun _ h9 => h9) rfl dX9_weigh_1 ?_
  refine lv_iconst (v := 2) hx hb dX9_weigh_4 (by decide) ?_
  refine lv_iadd hx hb dX9_weigh_5 ?_
  refine lv_istore_n (lv' := [(3, .int (m_n + (2 : Int32))), (0, .ref a_self), (1, .int x1), (2, .int x2)]) hx hb dX9_weigh_6 rfl hl (by decide) rfl (fun ls hl => ?_)
  refine lv_iconst (v := 0) hx hb dX9_weigh_7 (by decide) ?_
  refine lv_istore (lv' := [(4, .int (0 : Int32)), (3, .int (m_n + (2 : Int32))), (0, .ref a_self), (1, .int x1), (2, .int x2)]) hx hb dX9_weigh_8 hl (by decide) rfl (fun ls hl => ?_)
  obtain ⟨m_weights_10ze, m_whole_10ze, hI, hF⟩ := bd2_some hF
  obtain ⟨nn, hI⟩ := itrO_some hI
  have hX10 : ∀ (m_weights_10z : Nat → Int32) (m_whole_10z : Nat → Int32), (m_weights_10z, m_whole_10z) = (m_weights_10ze, m_whole_10ze) → ∀ (H : Heap) (locs : List Loc), WS D A s [ob a_self 9 [Value.int m_signs, Value.ref a_block, Value.ref a_tape, Value.int m_bits, Value.int m_faultAt, Value.int m_isDone, Value.int m_n, Value.ref a_map, Value.ref a_places, Value.int m_symbols, Value.ref a_symbol, Value.int m_groups, Value.int m_tables, Value.ref a_lengths, Value.ref a_taken, Value.ref a_codes, Value.ref a_list, Value.ref a_weights, Value.ref a_whole, Value.int m_lays, Value.int m_laid, Value.ref a_row, Value.int m_read, Value.int m_wrong, Value.int m_readMany, Value.ref a_readMap, Value.int m_readTables, Value.int m_readGroups, Value.ref a_readTaken, Value.ref a_readLengths, Value.ref a_readCodes, Value.int m_found, Value.ref a_foundBlock], ia cI a_symbol 301 m_symbol, ia cI a_lengths 3870 m_lengths, ia cI a_taken 155 m_taken, ia cI a_weights 516 m_weights_10z, ia cI a_whole 516 m_whole_10z] H locs → ∀ ls : Array Slot, lv_has ls 7 [(0, .ref a_self), (1, .int x1), (2, .int x2), (3, .int (m_n + (2 : Int32)))] → W p l e (headSpec wsX9_weigh rmMo_weigh).room s m args below meth c H locs 0 0 Q (F0 m 38 ls []) := by
    intro m_weights_10z m_whole_10z he H locs hW ls hl
    obtain ⟨hz0, hy0⟩ := Prod.mk.inj he
    subst hz0
    subst hy0
    refine lv_iconst (v := 0) hx hb dX9_weigh_38 (by decide) ?_
    refine lv_istore (lv' := [(4, .int (0 : Int32)), (0, .ref a_self), (1, .int x1), (2, .int x2), (3, .int (m_n + (2 : Int32)))]) hx hb dX9_weigh_39 hl (by decide) rfl (fun ls hl => ?_)
    obtain ⟨m_weights_41ze, hI, hF⟩ := bd1_some hF
    obtain ⟨nn, hI⟩ := itrO_some hI
    have hX41 : ∀ (m_weights_41z : Nat → Int32), m_weights_41z = m_weights_41ze → ∀ (H : Heap) (locs : List Loc), WS D A s [ob a_self 9 [Value.int m_signs, Value.ref a_block, Value.ref a_tape, Value.int m_bits, Value.int m_faultAt, Value.int m_isDone, Value.int m_n, Value.ref a_map, Value.ref a_places, Value.int m_symbols, Value.ref a_symbol, Value.int m_groups, Value.int m_tables, Value.ref a_lengths, Value.ref a_taken, Value.ref a_codes, Value.ref a_list, Value.ref a_weights, Value.ref a_whole, Value.int m_lays, Value.int m_laid, Value.ref a_row, Value.int m_read, Value.int m_wrong, Value.int m_readMany, Value.ref a_readMap, Value.int m_readTables, Value.int m_readGroups, Value.ref a_readTaken, Value.ref a_readLengths, Value.ref a_readCodes, Value.int m_found, Value.ref a_foundBlock], ia cI a_symbol 301 m_symbol, ia cI a_lengths 3870 m_lengths, ia cI a_taken 155 m_taken, ia cI a_weights 516 m_weights_41z, ia cI a_whole 516 m_whole_10z] H locs → ∀ ls : Array Slot, lv_has ls 7 [(0, .ref a_self), (1, .int x1), (2, .int x2), (3, .int (m_n + (2 : Int32)))] → W p l e (headSpec wsX9_weigh rmMo_weigh).room s m args below meth c H locs 0 0 Q (F0 m 112 ls []) := by
      intro m_weights_41z he H locs hW ls hl
      subst he
      refine lv_iconst (v := 0) hx hb dX9_weigh_112 (by decide) ?_
      refine lv_istore (lv' := [(4, .int (0 : Int32)), (0, .ref a_self), (1, .int x1), (2, .int x2), (3, .int (m_n + (2 : Int32)))]) hx hb dX9_weigh_113 hl (by decide) rfl (fun ls hl => ?_)
      obtain ⟨m_weights_115ze, hI, hF⟩ := bd1_some hF
      obtain ⟨nn, hI⟩ := itrO_some hI
      have hX115 : ∀ (m_weights_115z : Nat → Int32), m_weights_115z = m_weights_115ze → ∀ (H : Heap) (locs : List Loc), WS D A s [ob a_self 9 [Value.int m_signs, Value.ref a_block, Value.ref a_tape, Value.int m_bits, Value.int m_faultAt, Value.int m_isDone, Value.int m_n, Value.ref a_map, Value.ref a_places, Value.int m_symbols, Value.ref a_symbol, Value.int m_groups, Value.int m_tables, Value.ref a_lengths, Value.ref a_taken, Value.ref a_codes, Value.ref a_list, Value.ref a_weights, Value.ref a_whole, Value.int m_lays, Value.int m_laid, Value.ref a_row, Value.int m_read, Value.int m_wrong, Value.int m_readMany, Value.ref a_readMap, Value.int m_readTables, Value.int m_readGroups, Value.ref a_readTaken, Value.ref a_readLengths, Value.ref a_readCodes, Value.int m_found, Value.ref a_foundBlock], ia cI a_symbol 301 m_symbol, ia cI a_lengths 3870 m_lengths, ia cI a_taken 155 m_taken, ia cI a_weights 516 m_weights_115z, ia cI a_whole 516 m_whole_10z] H locs → ∀ ls : Array Slot, lv_has ls 7 [(0, .ref a_self), (1, .int x1), (2, .int x2), (3, .int (m_n + (2 : Int32)))] → W p l e (headSpec wsX9_weigh rmMo_weigh).room s m args below meth c H locs 0 0 Q (F0 m 155 ls []) := by
        intro m_weights_115z he H locs hW ls hl
        subst he
        refine lv_iconst (v := 1) hx hb dX9_weigh_155 (by decide) ?_
        refine lv_istore (lv' := [(4, .int (1 : Int32)), (0, .ref a_self), (1, .int x1), (2, .int x2), (3, .int (m_n + (2 : Int32)))]) hx hb dX9_weigh_156 hl (by decide) rfl (fun ls hl => ?_)
        obtain ⟨m_weights_158ze, m_whole_158ze, hI, hF⟩ := bd2_some hF
        obtain ⟨nn, hI⟩ := itrO_some hI
        have hX158 : ∀ (m_weights_158z : Nat → Int32) (m_whole_158z : Nat → Int32), (m_weights_158z, m_whole_158z) = (m_weights_158ze, m_whole_158ze) → ∀ (H : Heap) (locs : List Loc), WS D A s [ob a_self 9 [Value.int m_signs, Value.ref a_block, Value.ref a_tape, Value.int m_bits, Value.int m_faultAt, Value.int m_isDone, Value.int m_n, Value.ref a_map, Value.ref a_places, Value.int m_symbols, Value.ref a_symbol, Value.int m_groups, Value.int m_tables, Value.ref a_lengths, Value.ref a_taken, Value.ref a_codes, Value.ref a_list, Value.ref a_weights, Value.ref a_whole, Value.int m_lays, Value.int m_laid, Value.ref a_row, Value.int m_read, Value.int m_wrong, Value.int m_readMany, Value.ref a_readMap, Value.int m_readTables, Value.int m_readGroups, Value.ref a_readTaken, Value.ref a_readLengths, Value.ref a_readCodes, Value.int m_found, Value.ref a_foundBlock], ia cI a_symbol 301 m_symbol, ia cI a_lengths 3870 m_lengths, ia cI a_taken 155 m_taken, ia cI a_weights 516 m_weights_158z, ia cI a_whole 516 m_whole_158z] H locs → ∀ ls : Array Slot, lv_has ls 7 [(0, .ref a_self), (1, .int x1), (2, .int x2)] → W p l e (headSpec wsX9_weigh rmMo_weigh).room s m args below meth c H locs 0 0 Q (F0 m 236 ls []) := by
          intro m_weights_158z m_whole_158z he H locs hW ls hl
          obtain ⟨hz0, hy0⟩ := Prod.mk.inj he
          subst hz0
          subst hy0
          refine lv_iconst (v := 0) hx hb dX9_weigh_236 (by decide) ?_
          refine lv_istore (lv' := [(4, .int (0 : Int32)), (0, .ref a_self), (1, .int x1), (2, .int x2)]) hx hb dX9_weigh_237 hl (by decide) rfl (fun ls hl => ?_)
          obtain ⟨m_lengths_239ze, hI, hF⟩ := bd1_some hF
          obtain ⟨nn, hI⟩ := itrO_some hI
          have hX239 : ∀ (m_lengths_239z : Nat → Int32), m_lengths_239z = m_lengths_239ze → ∀ (H : Heap) (locs : List Loc), WS D A s [ob a_self 9 [Value.int m_signs, Value.ref a_block, Value.ref a_tape, Value.int m_bits, Value.int m_faultAt, Value.int m_isDone, Value.int m_n, Value.ref a_map, Value.ref a_places, Value.int m_symbols, Value.ref a_symbol, Value.int m_groups, Value.int m_tables, Value.ref a_lengths, Value.ref a_taken, Value.ref a_codes, Value.ref a_list, Value.ref a_weights, Value.ref a_whole, Value.int m_lays, Value.int m_laid, Value.ref a_row, Value.int m_read, Value.int m_wrong, Value.int m_readMany, Value.ref a_readMap, Value.int m_readTables, Value.int m_readGroups, Value.ref a_readTaken, Value.ref a_readLengths, Value.ref a_readCodes, Value.int m_found, Value.ref a_foundBlock], ia cI a_symbol 301 m_symbol, ia cI a_lengths 3870 m_lengths_239z, ia cI a_taken 155 m_taken, ia cI a_weights 516 m_weights_158z, ia cI a_whole 516 m_whole_158z] H locs → ∀ ls : Array Slot, lv_has ls 7 [] → W p l e (headSpec wsX9_weigh rmMo_weigh).room s m args below meth c H locs 0 0 Q (F0 m 308 ls []) := by
            intro m_lengths_239z he H locs hW ls hl
            subst he
            cases hF
            subst hQ
            exact ct_vret hx hb hr hlocks hW.1 hW.2.2 dX9_weigh_308
          have hL239 : ∀ (n239 : Nat) (x4_239 : Int32) (m_lengths_239 : Nat → Int32), itr (un2 (fMo_weigh_L239 m_n x1 x2 m_whole_158z)) n239 (x4_239, m_lengths_239) = some m_lengths_239ze → ∀ (H : Heap) (locs : List Loc), WS D A s [ob a_self 9 [Value.int m_signs, Value.ref a_block, Value.ref a_tape, Value.int m_bits, Value.int m_faultAt, Value.int m_isDone, Value.int m_n, Value.ref a_map, Value.ref a_places, Value.int m_symbols, Value.ref a_symbol, Value.int m_groups, Value.int m_tables, Value.ref a_lengths, Value.ref a_taken, Value.ref a_codes, Value.ref a_list, Value.ref a_weights, Value.ref a_whole, Value.int m_lays, Value.int m_laid, Value.ref a_row, Value.int m_read, Value.int m_wrong, Value.int m_readMany, Value.ref a_readMap, Value.int m_readTables, Value.int m_readGroups, Value.ref a_readTaken, Value.ref a_readLengths, Value.ref a_readCodes, Value.int m_found, Value.ref a_foundBlock], ia cI a_symbol 301 m_symbol, ia cI a_lengths 3870 m_lengths_239, ia cI a_taken 155 m_taken, ia cI a_weights 516 m_weights_158z, ia cI a_whole 516 m_whole_158z] H locs → ∀ ls : Array Slot, lv_has ls 7 [(0, .ref a_self), (1, .int x1), (2, .int x2), (4, .int x4_239)] → W p l e (headSpec wsX9_weigh rmMo_weigh).room s m args below meth c H locs 0 0 Q (F0 m 239 ls []) := by
            intro n239
            induction n239 with
            | zero => intro x4_239 m_lengths_239 hI; cases hI
            | succ n239 ih239 =>
              intro x4_239 m_lengths_239 hI H locs hW ls hl
              obtain ⟨sr239, hF, hN239⟩ := itr_succ hI
              have hF : fMo_weigh_L239 m_n x1 x2 m_whole_158z x4_239 m_lengths_239 = some sr239 := hF
              unfold fMo_weigh_L239 at hF
              refine lv_iload hx hb dX9_weigh_239 (lv_at hl 3 rfl) ?_
              refine lv_aload_n hx hb dX9_weigh_241 rfl (lv_at hl 0 rfl) ?_
              refine va_get (D := D) (ci := 9) (v := .int m_n) (C := RX9) (T := TX9) (N := 33) hx hb hts hi9 hown hK.1 hW.1 0 rfl rfl 6 (by decide) hw0 (fun _ h9 => h9) rfl dX9_weigh_242 ?_
              refine lv_iconst (v := 2) hx hb dX9_weigh_245 (by decide) ?_
              refine lv_iadd hx hb dX9_weigh_246 ?_
              refine lv_icmp_ge (tgt := 308) hx hb dX9_weigh_247 (by decide) (fun c247 => ?_) (fun c247 => ?_)
              · rw [if_pos c247] at hF
                cases hF
                exact hX239 _ (itr_out hN239) _ _ hW _ (lv_sub hl [] rfl)
              · rw [if_neg c247] at hF
                refine lv_iconst (v := 0) hx hb dX9_weigh_250 (by decide) ?_
                refine lv_istore (lv' := [(5, .int (0 : Int32)), (0, .ref a_self), (1, .int x1), (2, .int x2), (4, .int x4_239)]) hx hb dX9_weigh_251 hl (by decide) rfl (fun ls hl => ?_)
                refine lv_aload_n hx hb dX9_weigh_253 rfl (lv_at hl 1 rfl) ?_
                refine va_get (D := D) (ci := 9) (v := .ref a_whole) (C := RX9) (T := TX9) (N := 33) hx hb hts hi9 hown hK.1 hW.1 0 rfl rfl 18 (by decide) hw1 (fun _ h9 => h9) rfl dX9_weigh_254 ?_
                refine lv_iload hx hb dX9_weigh_257 (lv_at hl 4 rfl) ?_
                obtain ⟨g259, hF⟩ := gdI_some hF
                refine va_iald hx hb hK.1 hW.1 5 0 rfl rfl g259 dX9_weigh_259 ?_
                refine lv_istore (lv' := [(6, .int (m_whole_158z x4_239.toNatClampNeg)), (5, .int (0 : Int32)), (0, .ref a_self), (1, .int x1), (2, .int x2), (4, .int x4_239)]) hx hb dX9_weigh_260 hl (by decide) rfl (fun ls hl => ?_)
                obtain ⟨x5_262ze, hI, hF⟩ := bd1_some hF
                obtain ⟨nn, hI⟩ := itrO_some hI
                have hX262 : ∀ (x5_262z : Int32), x5_262z = x5_262ze → ∀ (H : Heap) (locs : List Loc), WS D A s [ob a_self 9 [Value.int m_signs, Value.ref a_block, Value.ref a_tape, Value.int m_bits, Value.int m_faultAt, Value.int m_isDone, Value.int m_n, Value.ref a_map, Value.ref a_places, Value.int m_symbols, Value.ref a_symbol, Value.int m_groups, Value.int m_tables, Value.ref a_lengths, Value.ref a_taken, Value.ref a_codes, Value.ref a_list, Value.ref a_weights, Value.ref a_whole, Value.int m_lays, Value.int m_laid, Value.ref a_row, Value.int m_read, Value.int m_wrong, Value.int m_readMany, Value.ref a_readMap, Value.int m_readTables, Value.int m_readGroups, Value.ref a_readTaken, Value.ref a_readLengths, Value.ref a_readCodes, Value.int m_found, Value.ref a_foundBlock], ia cI a_symbol 301 m_symbol, ia cI a_lengths 3870 m_lengths_239, ia cI a_taken 155 m_taken, ia cI a_weights 516 m_weights_158z, ia cI a_whole 516 m_whole_158z] H locs → ∀ ls : Array Slot, lv_has ls 7 [(0, .ref a_self), (1, .int x1), (2, .int x2), (4, .int x4_239), (5, .int x5_262z)] → W p l e (headSpec wsX9_weigh rmMo_weigh).room s m args below meth c H locs 0 0 Q (F0 m 283 ls []) := by
                  intro x5_262z he H locs hW ls hl
                  subst he
                  refine lv_aload_n hx hb dX9_weigh_283 rfl (lv_at hl 0 rfl) ?_
                  refine va_get (D := D) (ci := 9) (v := .ref a_lengths) (C := RX9) (T := TX9) (N := 33) hx hb hts hi9 hown hK.1 hW.1 0 rfl rfl 13 (by decide) hw2 (fun _ h9 => h9) rfl dX9_weigh_284 ?_
                  refine lv_sipush (v := 258) hx hb dX9_weigh_287 (by decide) ?_
                  refine lv_iconst (v := 3) hx hb dX9_weigh_290 (by decide) ?_
                  refine lv_iload_n hx hb dX9_weigh_291 rfl (lv_at hl 1 rfl) ?_
                  refine lv_imul hx hb dX9_weigh_292 ?_
                  refine lv_iload_n hx hb dX9_weigh_293 rfl (lv_at hl 2 rfl) ?_
                  refine lv_iadd hx hb dX9_weigh_294 ?_
                  refine lv_imul hx hb dX9_weigh_295 ?_
                  refine lv_iload hx hb dX9_weigh_296 (lv_at hl 3 rfl) ?_
                  refine lv_iadd hx hb dX9_weigh_298 ?_
                  refine lv_iload hx hb dX9_weigh_299 (lv_at hl 4 rfl) ?_
                  obtain ⟨g301, hF⟩ := gdI_some hF
                  refine va_iast hx hb hK.1 hW.1 hW.2.1 hW.2.2 2 0 rfl rfl g301 dX9_weigh_301 (fun H locs hP hD hS => ?_)
                  have hW : WS D A s [ob a_self 9 [Value.int m_signs, Value.ref a_block, Value.ref a_tape, Value.int m_bits, Value.int m_faultAt, Value.int m_isDone, Value.int m_n, Value.ref a_map, Value.ref a_places, Value.int m_symbols, Value.ref a_symbol, Value.int m_groups, Value.int m_tables, Value.ref a_lengths, Value.ref a_taken, Value.ref a_codes, Value.ref a_list, Value.ref a_weights, Value.ref a_whole, Value.int m_lays, Value.int m_laid, Value.ref a_row, Value.int m_read, Value.int m_wrong, Value.int m_readMany, Value.ref a_readMap, Value.int m_readTables, Value.int m_readGroups, Value.ref a_readTaken, Value.ref a_readLengths, Value.ref a_readCodes, Value.int m_found, Value.ref a_foundBlock], ia cI a_symbol 301 m_symbol, ia cI a_lengths 3870 (upd m_lengths_239 (((258 : Int32) * (((3 : Int32) * x1) + x2)) + x4_239).toNatClampNeg x5_262z), ia cI a_taken 155 m_taken, ia cI a_weights 516 m_weights_158z, ia cI a_whole 516 m_whole_158z] H locs := ⟨hP, hD, hS⟩
                  refine lv_iinc (v := (x4_239 + 1)) (lv' := [(4, .int (x4_239 + 1)), (0, .ref a_self), (1, .int x1), (2, .int x2), (5, .int x5_262z)]) hx hb dX9_weigh_302 hl (k := 3) rfl rfl (by decide) rfl (fun ls hl => ?_)
                  refine lv_goto (tgt := 239) hx hb dX9_weigh_305 (by decide) ?_
                  cases hF
                  exact ih239 _ _ (itr_in hN239) _ _ hW _ (lv_sub hl [1, 2, 3, 0] rfl)
                have hL262 : ∀ (n262 : Nat) (x5_262 : Int32) (x6_262 : Int32), itr (un2 (fMo_weigh_L262 m_whole_158z)) n262 (x5_262, x6_262) = some x5_262ze → ∀ (H : Heap) (locs : List Loc), WS D A s [ob a_self 9 [Value.int m_signs, Value.ref a_block, Value.ref a_tape, Value.int m_bits, Value.int m_faultAt, Value.int m_isDone, Value.int m_n, Value.ref a_map, Value.ref a_places, Value.int m_symbols, Value.ref a_symbol, Value.int m_groups, Value.int m_tables, Value.ref a_lengths, Value.ref a_taken, Value.ref a_codes, Value.ref a_list, Value.ref a_weights, Value.ref a_whole, Value.int m_lays, Value.int m_laid, Value.ref a_row, Value.int m_read, Value.int m_wrong, Value.int m_readMany, Value.ref a_readMap, Value.int m_readTables, Value.int m_readGroups, Value.ref a_readTaken, Value.ref a_readLengths, Value.ref a_readCodes, Value.int m_found, Value.ref a_foundBlock], ia cI a_symbol 301 m_symbol, ia cI a_lengths 3870 m_lengths_239, ia cI a_taken 155 m_taken, ia cI a_weights 516 m_weights_158z, ia cI a_whole 516 m_whole_158z] H locs → ∀ ls : Array Slot, lv_has ls 7 [(0, .ref a_self), (1, .int x1), (2, .int x2), (4, .int x4_239), (5, .int x5_262), (6, .int x6_262)] → W p l e (headSpec wsX9_weigh rmMo_weigh).room s m args below meth c H locs 0 0 Q (F0 m 262 ls []) := by
                  intro n262
                  induction n262 with
                  | zero => intro x5_262 x6_262 hI; cases hI
                  | succ n262 ih262 =>
                    intro x5_262 x6_262 hI H locs hW ls hl
                    obtain ⟨sr262, hF, hN262⟩ := itr_succ hI
                    have hF : fMo_weigh_L262 m_whole_158z x5_262 x6_262 = some sr262 := hF
                    unfold fMo_weigh_L262 at hF
                    refine lv_iload hx hb dX9_weigh_262 (lv_at hl 5 rfl) ?_
                    refine lv_iconst (v := (-1)) hx hb dX9_weigh_264 (by decide) ?_
                    refine lv_icmp_eq (tgt := 283) hx hb dX9_weigh_265 (by decide) (fun c265 => ?_) (fun c265 => ?_)
                    · rw [if_pos c265] at hF
                      cases hF
                      exact hX262 _ (itr_out hN262) _ _ hW _ (lv_sub hl [0, 1, 2, 3, 4] rfl)
                    · rw [if_neg c265] at hF
                      refine lv_iinc (v := (x5_262 + 1)) (lv' := [(5, .int (x5_262 + 1)), (0, .ref a_self), (1, .int x1), (2, .int x2), (4, .int x4_239), (6, .int x6_262)]) hx hb dX9_weigh_268 hl (k := 4) rfl rfl (by decide) rfl (fun ls hl => ?_)
                      refine lv_aload_n hx hb dX9_weigh_271 rfl (lv_at hl 1 rfl) ?_
                      refine va_get (D := D) (ci := 9) (v := .ref a_whole) (C := RX9) (T := TX9) (N := 33) hx hb hts hi9 hown hK.1 hW.1 0 rfl rfl 18 (by decide) hw1 (fun _ h9 => h9) rfl dX9_weigh_272 ?_
                      refine lv_iload hx hb dX9_weigh_275 (lv_at hl 5 rfl) ?_
                      obtain ⟨g277, hF⟩ := gdI_some hF
                      refine va_iald hx hb hK.1 hW.1 5 0 rfl rfl g277 dX9_weigh_277 ?_
                      refine lv_istore (lv' := [(6, .int (m_whole_158z x6_262.toNatClampNeg)), (5, .int (x5_262 + 1)), (0, .ref a_self), (1, .int x1), (2, .int x2), (4, .int x4_239)]) hx hb dX9_weigh_278 hl (by decide) rfl (fun ls hl => ?_)
                      refine lv_goto (tgt := 262) hx hb dX9_weigh_280 (by decide) ?_
                      cases hF
                      exact ih262 _ _ (itr_in hN262) _ _ hW _ (lv_sub hl [2, 3, 4, 5, 1, 0] rfl)
                exact hL262 nn _ _ hI _ _ hW _ (lv_sub hl [2, 3, 4, 5, 1, 0] rfl)
          exact hL239 nn _ _ hI _ _ hW _ (lv_sub hl [1, 2, 3, 0] rfl)
        have hL158 : ∀ (n158 : Nat) (x3_158 : Int32) (x4_158 : Int32) (m_weights_158 : Nat → Int32) (m_whole_158 : Nat → Int32), itr (un4 (fMo_weigh_L158 m_n)) n158 (x3_158, x4_158, m_weights_158, m_whole_158) = some (m_weights_158ze, m_whole_158ze) → ∀ (H : Heap) (locs : List Loc), WS D A s [ob a_self 9 [Value.int m_signs, Value.ref a_block, Value.ref a_tape, Value.int m_bits, Value.int m_faultAt, Value.int m_isDone, Value.int m_n, Value.ref a_map, Value.ref a_places, Value.int m_symbols, Value.ref a_symbol, Value.int m_groups, Value.int m_tables, Value.ref a_lengths, Value.ref a_taken, Value.ref a_codes, Value.ref a_list, Value.ref a_weights, Value.ref a_whole, Value.int m_lays, Value.int m_laid, Value.ref a_row, Value.int m_read, Value.int m_wrong, Value.int m_readMany, Value.ref a_readMap, Value.int m_readTables, Value.int m_readGroups, Value.ref a_readTaken, Value.ref a_readLengths, Value.ref a_readCodes, Value.int m_found, Value.ref a_foundBlock], ia cI a_symbol 301 m_symbol, ia cI a_lengths 3870 m_lengths, ia cI a_taken 155 m_taken, ia cI a_weights 516 m_weights_158, ia cI a_whole 516 m_whole_158] H locs → ∀ ls : Array Slot, lv_has ls 7 [(0, .ref a_self), (1, .int x1), (2, .int x2), (3, .int x3_158), (4, .int x4_158)] → W p l e (headSpec wsX9_weigh rmMo_weigh).room s m args below meth c H locs 0 0 Q (F0 m 158 ls []) := by
          intro n158
          induction n158 with
          | zero => intro x3_158 x4_158 m_weights_158 m_whole_158 hI; cases hI
          | succ n158 ih158 =>
            intro x3_158 x4_158 m_weights_158 m_whole_158 hI H locs hW ls hl
            obtain ⟨sr158, hF, hN158⟩ := itr_succ hI
            have hF : fMo_weigh_L158 m_n x3_158 x4_158 m_weights_158 m_whole_158 = some sr158 := hF
            unfold fMo_weigh_L158 at hF
            refine lv_iload hx hb dX9_weigh_158 (lv_at hl 4 rfl) ?_
            refine lv_aload_n hx hb dX9_weigh_160 rfl (lv_at hl 0 rfl) ?_
            refine va_get (D := D) (ci := 9) (v := .int m_n) (C := RX9) (T := TX9) (N := 33) hx hb hts hi9 hown hK.1 hW.1 0 rfl rfl 6 (by decide) hw0 (fun _ h9 => h9) rfl dX9_weigh_161 ?_
            refine lv_iconst (v := 2) hx hb dX9_weigh_164 (by decide) ?_
            refine lv_iadd hx hb dX9_weigh_165 ?_
            refine lv_icmp_ge (tgt := 236) hx hb dX9_weigh_166 (by decide) (fun c166 => ?_) (fun c166 => ?_)
            · rw [if_pos c166] at hF
              cases hF
              exact hX158 _ _ (itr_out hN158) _ _ hW _ (lv_sub hl [0, 1, 2] rfl)
            · rw [if_neg c166] at hF
              refine lv_aload_n hx hb dX9_weigh_169 rfl (lv_at hl 0 rfl) ?_
              refine lv_iload_n hx hb dX9_weigh_170 rfl (lv_at hl 3 rfl) ?_
              obtain ⟨r_171, e171, hF⟩ := bd1_some hF
              refine ctV (wn := [ob a_self 9 [Value.int m_signs, Value.ref a_block, Value.ref a_tape, Value.int m_bits, Value.int m_faultAt, Value.int m_isDone, Value.int m_n, Value.ref a_map, Value.ref a_places, Value.int m_symbols, Value.ref a_symbol, Value.int m_groups, Value.int m_tables, Value.ref a_lengths, Value.ref a_taken, Value.ref a_codes, Value.ref a_list, Value.ref a_weights, Value.ref a_whole, Value.int m_lays, Value.int m_laid, Value.ref a_row, Value.int m_read, Value.int m_wrong, Value.int m_readMany, Value.ref a_readMap, Value.int m_readTables, Value.int m_readGroups, Value.ref a_readTaken, Value.ref a_readLengths, Value.ref a_readCodes, Value.int m_found, Value.ref a_foundBlock], ia cI a_symbol 301 m_symbol, ia cI a_lengths 3870 m_lengths, ia cI a_taken 155 m_taken, ia cI a_weights 516 m_weights_158, ia cI a_whole 516 m_whole_158]) (r := (RX9, TX9, 33)) (As := [.int x3_158]) (rest := []) hx hb hml hown hts hK hW hA hl.1 (kMo_light l D cI cZ cO cG a_self a_block a_tape a_map a_places a_symbol a_lengths a_taken a_codes a_list a_weights a_whole a_row a_readMap a_readTaken a_readLengths a_readCodes a_foundBlock m_signs m_bits m_faultAt m_isDone m_n m_symbols m_groups m_tables m_lays m_laid m_read m_wrong m_readMany m_readTables m_readGroups m_found m_weights_158 m_whole_158 x3_158 e171) (cwV 1 hts gX9_weigh_X9_light rfl rfl rfl (by decide +kernel) ⟨Nat.le_of_ble_eq_true rfl, Nat.le_of_ble_eq_true rfl⟩) 9 0 rfl rfl [0, 4, 5] [1, 2, 3] 6 rfl rfl rfl rfl [ia cI a_symbol 301 m_symbol, ia cI a_lengths 3870 m_lengths, ia cI a_taken 155 m_taken] rfl rfl rfl rfl rfl (Nat.le_of_ble_eq_true rfl) rfl ⟨Nat.zero_le _, Nat.zero_le _⟩ dX9_weigh_171 (fun H locs hW => ?_)
              refine lv_istore (lv' := [(5, .int r_171), (0, .ref a_self), (1, .int x1), (2, .int x2), (3, .int x3_158), (4, .int x4_158)]) hx hb dX9_weigh_174 hl (by decide) rfl (fun ls hl => ?_)
              refine lv_aload_n hx hb dX9_weigh_176 rfl (lv_at hl 1 rfl) ?_
              refine va_get (D := D) (ci := 9) (v := .ref a_whole) (C := RX9) (T := TX9) (N := 33) hx hb hts hi9 hown hK.1 hW.1 0 rfl rfl 18 (by decide) hw1 (fun _ h9 => h9) rfl dX9_weigh_177 ?_
              refine lv_iload hx hb dX9_weigh_180 (lv_at hl 0 rfl) ?_
              refine lv_iload_n hx hb dX9_weigh_182 rfl (lv_at hl 4 rfl) ?_
              obtain ⟨g183, hF⟩ := gdI_some hF
              refine va_iast hx hb hK.1 hW.1 hW.2.1 hW.2.2 5 0 rfl rfl g183 dX9_weigh_183 (fun H locs hP hD hS => ?_)
              have hW : WS D A s [ob a_self 9 [Value.int m_signs, Value.ref a_block, Value.ref a_tape, Value.int m_bits, Value.int m_faultAt, Value.int m_isDone, Value.int m_n, Value.ref a_map, Value.ref a_places, Value.int m_symbols, Value.ref a_symbol, Value.int m_groups, Value.int m_tables, Value.ref a_lengths, Value.ref a_taken, Value.ref a_codes, Value.ref a_list, Value.ref a_weights, Value.ref a_whole, Value.int m_lays, Value.int m_laid, Value.ref a_row, Value.int m_read, Value.int m_wrong, Value.int m_readMany, Value.ref a_readMap, Value.int m_readTables, Value.int m_readGroups, Value.ref a_readTaken, Value.ref a_readLengths, Value.ref a_readCodes, Value.int m_found, Value.ref a_foundBlock], ia cI a_symbol 301 m_symbol, ia cI a_lengths 3870 m_lengths, ia cI a_taken 155 m_taken, ia cI a_weights 516 m_weights_158, ia cI a_whole 516 (upd m_whole_158 r_171.toNatClampNeg x3_158)] H locs := ⟨hP, hD, hS⟩
              refine lv_aload_n hx hb dX9_weigh_184 rfl (lv_at hl 1 rfl) ?_
              refine lv_iload_n hx hb dX9_weigh_185 rfl (lv_at hl 4 rfl) ?_
              obtain ⟨r_186, e186, hF⟩ := bd1_some hF
              refine ctV (wn := [ob a_self 9 [Value.int m_signs, Value.ref a_block, Value.ref a_tape, Value.int m_bits, Value.int m_faultAt, Value.int m_isDone, Value.int m_n, Value.ref a_map, Value.ref a_places, Value.int m_symbols, Value.ref a_symbol, Value.int m_groups, Value.int m_tables, Value.ref a_lengths, Value.ref a_taken, Value.ref a_codes, Value.ref a_list, Value.ref a_weights, Value.ref a_whole, Value.int m_lays, Value.int m_laid, Value.ref a_row, Value.int m_read, Value.int m_wrong, Value.int m_readMany, Value.ref a_readMap, Value.int m_readTables, Value.int m_readGroups, Value.ref a_readTaken, Value.ref a_readLengths, Value.ref a_readCodes, Value.int m_found, Value.ref a_foundBlock], ia cI a_symbol 301 m_symbol, ia cI a_lengths 3870 m_lengths, ia cI a_taken 155 m_taken, ia cI a_weights 516 m_weights_158, ia cI a_whole 516 (upd m_whole_158 r_171.toNatClampNeg x3_158)]) (r := (RX9, TX9, 33)) (As := [.int x3_158]) (rest := []) hx hb hml hown hts hK hW hA hl.1 (kMo_light l D cI cZ cO cG a_self a_block a_tape a_map a_places a_symbol a_lengths a_taken a_codes a_list a_weights a_whole a_row a_readMap a_readTaken a_readLengths a_readCodes a_foundBlock m_signs m_bits m_faultAt m_isDone m_n m_symbols m_groups m_tables m_lays m_laid m_read m_wrong m_readMany m_readTables m_readGroups m_found m_weights_158 (upd m_whole_158 r_171.toNatClampNeg x3_158) x3_158 e186) (cwV 1 hts gX9_weigh_X9_light rfl rfl rfl (by decide +kernel) ⟨Nat.le_of_ble_eq_true rfl, Nat.le_of_ble_eq_true rfl⟩) 9 0 rfl rfl [0, 4, 5] [1, 2, 3] 6 rfl rfl rfl rfl [ia cI a_symbol 301 m_symbol, ia cI a_lengths 3870 m_lengths, ia cI a_taken 155 m_taken] rfl rfl rfl rfl rfl (Nat.le_of_ble_eq_true rfl) rfl ⟨Nat.zero_le _, Nat.zero_le _⟩ dX9_weigh_186 (fun H locs hW => ?_)
              refine lv_istore (lv' := [(6, .int r_186), (5, .int r_171), (0, .ref a_self), (1, .int x1), (2, .int x2), (3, .int x3_158), (4, .int x4_158)]) hx hb dX9_weigh_189 hl (by decide) rfl (fun ls hl => ?_)
              refine lv_aload_n hx hb dX9_weigh_191 rfl (lv_at hl 2 rfl) ?_
              refine va_get (D := D) (ci := 9) (v := .ref a_whole) (C := RX9) (T := TX9) (N := 33) hx hb hts hi9 hown hK.1 hW.1 0 rfl rfl 18 (by decide) hw1 (fun _ h9 => h9) rfl dX9_weigh_192 ?_
              refine lv_iload hx hb dX9_weigh_195 (lv_at hl 0 rfl) ?_
              refine lv_iload_n hx hb dX9_weigh_197 rfl (lv_at hl 5 rfl) ?_
              obtain ⟨g198, hF⟩ := gdI_some hF
              refine va_iast hx hb hK.1 hW.1 hW.2.1 hW.2.2 5 0 rfl rfl g198 dX9_weigh_198 (fun H locs hP hD hS => ?_)
              have hW : WS D A s [ob a_self 9 [Value.int m_signs, Value.ref a_block, Value.ref a_tape, Value.int m_bits, Value.int m_faultAt, Value.int m_isDone, Value.int m_n, Value.ref a_map, Value.ref a_places, Value.int m_symbols, Value.ref a_symbol, Value.int m_groups, Value.int m_tables, Value.ref a_lengths, Value.ref a_taken, Value.ref a_codes, Value.ref a_list, Value.ref a_weights, Value.ref a_whole, Value.int m_lays, Value.int m_laid, Value.ref a_row, Value.int m_read, Value.int m_wrong, Value.int m_readMany, Value.ref a_readMap, Value.int m_readTables, Value.int m_readGroups, Value.ref a_readTaken, Value.ref a_readLengths, Value.ref a_readCodes, Value.int m_found, Value.ref a_foundBlock], ia cI a_symbol 301 m_symbol, ia cI a_lengths 3870 m_lengths, ia cI a_taken 155 m_taken, ia cI a_weights 516 m_weights_158, ia cI a_whole 516 (upd (upd m_whole_158 r_171.toNatClampNeg x3_158) r_186.toNatClampNeg x3_158)] H locs := ⟨hP, hD, hS⟩
              refine lv_aload_n hx hb dX9_weigh_199 rfl (lv_at hl 2 rfl) ?_
              refine va_get (D := D) (ci := 9) (v := .ref a_weights) (C := RX9) (T := TX9) (N := 33) hx hb hts hi9 hown hK.1 hW.1 0 rfl rfl 17 (by decide) hw3 (fun _ h9 => h9) rfl dX9_weigh_200 ?_
              refine lv_iload_n hx hb dX9_weigh_203 rfl (lv_at hl 5 rfl) ?_
              refine lv_aload_n hx hb dX9_weigh_204 rfl (lv_at hl 2 rfl) ?_
              refine va_get (D := D) (ci := 9) (v := .ref a_weights) (C := RX9) (T := TX9) (N := 33) hx hb hts hi9 hown hK.1 hW.1 0 rfl rfl 17 (by decide) hw3 (fun _ h9 => h9) rfl dX9_weigh_205 ?_
              refine lv_iload hx hb dX9_weigh_208 (lv_at hl 1 rfl) ?_
              obtain ⟨g210, hF⟩ := gdI_some hF
              refine va_iald hx hb hK.1 hW.1 4 0 rfl rfl g210 dX9_weigh_210 ?_
              refine lv_aload_n hx hb dX9_weigh_211 rfl (lv_at hl 2 rfl) ?_
              refine va_get (D := D) (ci := 9) (v := .ref a_weights) (C := RX9) (T := TX9) (N := 33) hx hb hts hi9 hown hK.1 hW.1 0 rfl rfl 17 (by decide) hw3 (fun _ h9 => h9) rfl dX9_weigh_212 ?_
              refine lv_iload hx hb dX9_weigh_215 (lv_at hl 0 rfl) ?_
              obtain ⟨g217, hF⟩ := gdI_some hF
              refine va_iald hx hb hK.1 hW.1 4 0 rfl rfl g217 dX9_weigh_217 ?_
              refine lv_iadd hx hb dX9_weigh_218 ?_
              obtain ⟨g219, hF⟩ := gdI_some hF
              refine va_iast hx hb hK.1 hW.1 hW.2.1 hW.2.2 4 0 rfl rfl g219 dX9_weigh_219 (fun H locs hP hD hS => ?_)
              have hW : WS D A s [ob a_self 9 [Value.int m_signs, Value.ref a_block, Value.ref a_tape, Value.int m_bits, Value.int m_faultAt, Value.int m_isDone, Value.int m_n, Value.ref a_map, Value.ref a_places, Value.int m_symbols, Value.ref a_symbol, Value.int m_groups, Value.int m_tables, Value.ref a_lengths, Value.ref a_taken, Value.ref a_codes, Value.ref a_list, Value.ref a_weights, Value.ref a_whole, Value.int m_lays, Value.int m_laid, Value.ref a_row, Value.int m_read, Value.int m_wrong, Value.int m_readMany, Value.ref a_readMap, Value.int m_readTables, Value.int m_readGroups, Value.ref a_readTaken, Value.ref a_readLengths, Value.ref a_readCodes, Value.int m_found, Value.ref a_foundBlock], ia cI a_symbol 301 m_symbol, ia cI a_lengths 3870 m_lengths, ia cI a_taken 155 m_taken, ia cI a_weights 516 (upd m_weights_158 x3_158.toNatClampNeg ((m_weights_158 r_171.toNatClampNeg) + (m_weights_158 r_186.toNatClampNeg))), ia cI a_whole 516 (upd (upd m_whole_158 r_171.toNatClampNeg x3_158) r_186.toNatClampNeg x3_158)] H locs := ⟨hP, hD, hS⟩
              refine lv_aload_n hx hb dX9_weigh_220 rfl (lv_at hl 2 rfl) ?_
              refine va_get (D := D) (ci := 9) (v := .ref a_whole) (C := RX9) (T := TX9) (N := 33) hx hb hts hi9 hown hK.1 hW.1 0 rfl rfl 18 (by decide) hw1 (fun _ h9 => h9) rfl dX9_weigh_221 ?_
              refine lv_iload_n hx hb dX9_weigh_224 rfl (lv_at hl 5 rfl) ?_
              refine lv_iconst (v := (-1)) hx hb dX9_weigh_225 (by decide) ?_
              obtain ⟨g226, hF⟩ := gdI_some hF
              refine va_iast hx hb hK.1 hW.1 hW.2.1 hW.2.2 5 0 rfl rfl g226 dX9_weigh_226 (fun H locs hP hD hS => ?_)
              have hW : WS D A s [ob a_self 9 [Value.int m_signs, Value.ref a_block, Value.ref a_tape, Value.int m_bits, Value.int m_faultAt, Value.int m_isDone, Value.int m_n, Value.ref a_map, Value.ref a_places, Value.int m_symbols, Value.ref a_symbol, Value.int m_groups, Value.int m_tables, Value.ref a_lengths, Value.ref a_taken, Value.ref a_codes, Value.ref a_list, Value.ref a_weights, Value.ref a_whole, Value.int m_lays, Value.int m_laid, Value.ref a_row, Value.int m_read, Value.int m_wrong, Value.int m_readMany, Value.ref a_readMap, Value.int m_readTables, Value.int m_readGroups, Value.ref a_readTaken, Value.ref a_readLengths, Value.ref a_readCodes, Value.int m_found, Value.ref a_foundBlock], ia cI a_symbol 301 m_symbol, ia cI a_lengths 3870 m_lengths, ia cI a_taken 155 m_taken, ia cI a_weights 516 (upd m_weights_158 x3_158.toNatClampNeg ((m_weights_158 r_171.toNatClampNeg) + (m_weights_158 r_186.toNatClampNeg))), ia cI a_whole 516 (upd (upd (upd m_whole_158 r_171.toNatClampNeg x3_158) r_186.toNatClampNeg x3_158) x3_158.toNatClampNeg (-1 : Int32))] H locs := ⟨hP, hD, hS⟩
              refine lv_iinc (v := (x3_158 + 1)) (lv' := [(3, .int (x3_158 + 1)), (6, .int r_186), (5, .int r_171), (0, .ref a_self), (1, .int x1), (2, .int x2), (4, .int x4_158)]) hx hb dX9_weigh_227 hl (k := 5) rfl rfl (by decide) rfl (fun ls hl => ?_)
              refine lv_iinc (v := (x4_158 + 1)) (lv' := [(4, .int (x4_158 + 1)), (3, .int (x3_158 + 1)), (6, .int r_186), (5, .int r_171), (0, .ref a_self), (1, .int x1), (2, .int x2)]) hx hb dX9_weigh_230 hl (k := 6) rfl rfl (by decide) rfl (fun ls hl => ?_)
              refine lv_goto (tgt := 158) hx hb dX9_weigh_233 (by decide) ?_
              cases hF
              exact ih158 _ _ _ _ (itr_in hN158) _ _ hW _ (lv_sub hl [4, 5, 6, 1, 0] rfl)
        exact hL158 nn _ _ _ _ hI _ _ hW _ (lv_sub hl [1, 2, 3, 4, 0] rfl)
      have hL115 : ∀ (n115 : Nat) (x4_115 : Int32) (m_weights_115 : Nat → Int32), itr (un2 (fMo_weigh_L115 m_n)) n115 (x4_115, m_weights_115) = some m_weights_115ze → ∀ (H : Heap) (locs : List Loc), WS D A s [ob a_self 9 [Value.int m_signs, Value.ref a_block, Value.ref a_tape, Value.int m_bits, Value.int m_faultAt, Value.int m_isDone, Value.int m_n, Value.ref a_map, Value.ref a_places, Value.int m_symbols, Value.ref a_symbol, Value.int m_groups, Value.int m_tables, Value.ref a_lengths, Value.ref a_taken, Value.ref a_codes, Value.ref a_list, Value.ref a_weights, Value.ref a_whole, Value.int m_lays, Value.int m_laid, Value.ref a_row, Value.int m_read, Value.int m_wrong, Value.int m_readMany, Value.ref a_readMap, Value.int m_readTables, Value.int m_readGroups, Value.ref a_readTaken, Value.ref a_readLengths, Value.ref a_readCodes, Value.int m_found, Value.ref a_foundBlock], ia cI a_symbol 301 m_symbol, ia cI a_lengths 3870 m_lengths, ia cI a_taken 155 m_taken, ia cI a_weights 516 m_weights_115, ia cI a_whole 516 m_whole_10z] H locs → ∀ ls : Array Slot, lv_has ls 7 [(0, .ref a_self), (1, .int x1), (2, .int x2), (3, .int (m_n + (2 : Int32))), (4, .int x4_115)] → W p l e (headSpec wsX9_weigh rmMo_weigh).room s m args below meth c H locs 0 0 Q (F0 m 115 ls []) := by
        intro n115
        induction n115 with
        | zero => intro x4_115 m_weights_115 hI; cases hI
        | succ n115 ih115 =>
          intro x4_115 m_weights_115 hI H locs hW ls hl
          obtain ⟨sr115, hF, hN115⟩ := itr_succ hI
          have hF : fMo_weigh_L115 m_n x4_115 m_weights_115 = some sr115 := hF
          unfold fMo_weigh_L115 at hF
          refine lv_iload hx hb dX9_weigh_115 (lv_at hl 4 rfl) ?_
          refine lv_iload_n hx hb dX9_weigh_117 rfl (lv_at hl 3 rfl) ?_
          refine lv_icmp_ge (tgt := 155) hx hb dX9_weigh_118 (by decide) (fun c118 => ?_) (fun c118 => ?_)
          · rw [if_pos c118] at hF
            cases hF
            exact hX115 _ (itr_out hN115) _ _ hW _ (lv_sub hl [0, 1, 2, 3] rfl)
          · rw [if_neg c118] at hF
            refine lv_aload_n hx hb dX9_weigh_121 rfl (lv_at hl 0 rfl) ?_
            refine va_get (D := D) (ci := 9) (v := .ref a_weights) (C := RX9) (T := TX9) (N := 33) hx hb hts hi9 hown hK.1 hW.1 0 rfl rfl 17 (by decide) hw3 (fun _ h9 => h9) rfl dX9_weigh_122 ?_
            refine lv_iload hx hb dX9_weigh_125 (lv_at hl 4 rfl) ?_
            refine lv_aload_n hx hb dX9_weigh_127 rfl (lv_at hl 0 rfl) ?_
            refine va_get (D := D) (ci := 9) (v := .ref a_weights) (C := RX9) (T := TX9) (N := 33) hx hb hts hi9 hown hK.1 hW.1 0 rfl rfl 17 (by decide) hw3 (fun _ h9 => h9) rfl dX9_weigh_128 ?_
            refine lv_iload hx hb dX9_weigh_131 (lv_at hl 4 rfl) ?_
            obtain ⟨g133, hF⟩ := gdI_some hF
            refine va_iald hx hb hK.1 hW.1 4 0 rfl rfl g133 dX9_weigh_133 ?_
            refine lv_if_ne (tgt := 141) hx hb dX9_weigh_134 (by decide) (fun c134 => ?_) (fun c134 => ?_)
            · rw [if_neg c134] at hF
              refine lv_aload_n hx hb dX9_weigh_141 rfl (lv_at hl 0 rfl) ?_
              refine va_get (D := D) (ci := 9) (v := .ref a_weights) (C := RX9) (T := TX9) (N := 33) hx hb hts hi9 hown hK.1 hW.1 0 rfl rfl 17 (by decide) hw3 (fun _ h9 => h9) rfl dX9_weigh_142 ?_
              refine lv_iload hx hb dX9_weigh_145 (lv_at hl 4 rfl) ?_
              obtain ⟨g147, hF⟩ := gdI_some hF
              refine va_iald hx hb hK.1 hW.1 4 0 rfl rfl g147 dX9_weigh_147 ?_
              obtain ⟨g148, hF⟩ := gdI_some hF
              refine va_iast hx hb hK.1 hW.1 hW.2.1 hW.2.2 4 0 rfl rfl g148 dX9_weigh_148 (fun H locs hP hD hS => ?_)
              have hW : WS D A s [ob a_self 9 [Value.int m_signs, Value.ref a_block, Value.ref a_tape, Value.int m_bits, Value.int m_faultAt, Value.int m_isDone, Value.int m_n, Value.ref a_map, Value.ref a_places, Value.int m_symbols, Value.ref a_symbol, Value.int m_groups, Value.int m_tables, Value.ref a_lengths, Value.ref a_taken, Value.ref a_codes, Value.ref a_list, Value.ref a_weights, Value.ref a_whole, Value.int m_lays, Value.int m_laid, Value.ref a_row, Value.int m_read, Value.int m_wrong, Value.int m_readMany, Value.ref a_readMap, Value.int m_readTables, Value.int m_readGroups, Value.ref a_readTaken, Value.ref a_readLengths, Value.ref a_readCodes, Value.int m_found, Value.ref a_foundBlock], ia cI a_symbol 301 m_symbol, ia cI a_lengths 3870 m_lengths, ia cI a_taken 155 m_taken, ia cI a_weights 516 (upd m_weights_115 x4_115.toNatClampNeg (m_weights_115 x4_115.toNatClampNeg)), ia cI a_whole 516 m_whole_10z] H locs := ⟨hP, hD, hS⟩
              refine lv_iinc (v := (x4_115 + 1)) (lv' := [(4, .int (x4_115 + 1)), (0, .ref a_self), (1, .int x1), (2, .int x2), (3, .int (m_n + (2 : Int32)))]) hx hb dX9_weigh_149 hl (k := 4) rfl rfl (by decide) rfl (fun ls hl => ?_)
              refine lv_goto (tgt := 115) hx hb dX9_weigh_152 (by decide) ?_
              cases hF
              exact ih115 _ _ (itr_in hN115) _ _ hW _ (lv_sub hl [1, 2, 3, 4, 0] rfl)
            · rw [if_pos c134] at hF
              refine lv_iconst (v := 1) hx hb dX9_weigh_137 (by decide) ?_
              refine lv_goto (tgt := 148) hx hb dX9_weigh_138 (by decide) ?_
              obtain ⟨g148, hF⟩ := gdI_some hF
              refine va_iast hx hb hK.1 hW.1 hW.2.1 hW.2.2 4 0 rfl rfl g148 dX9_weigh_148 (fun H locs hP hD hS => ?_)
              have hW : WS D A s [ob a_self 9 [Value.int m_signs, Value.ref a_block, Value.ref a_tape, Value.int m_bits, Value.int m_faultAt, Value.int m_isDone, Value.int m_n, Value.ref a_map, Value.ref a_places, Value.int m_symbols, Value.ref a_symbol, Value.int m_groups, Value.int m_tables, Value.ref a_lengths, Value.ref a_taken, Value.ref a_codes, Value.ref a_list, Value.ref a_weights, Value.ref a_whole, Value.int m_lays, Value.int m_laid, Value.ref a_row, Value.int m_read, Value.int m_wrong, Value.int m_readMany, Value.ref a_readMap, Value.int m_readTables, Value.int m_readGroups, Value.ref a_readTaken, Value.ref a_readLengths, Value.ref a_readCodes, Value.int m_found, Value.ref a_foundBlock], ia cI a_symbol 301 m_symbol, ia cI a_lengths 3870 m_lengths, ia cI a_taken 155 m_taken, ia cI a_weights 516 (upd m_weights_115 x4_115.toNatClampNeg (1 : Int32)), ia cI a_whole 516 m_whole_10z] H locs := ⟨hP, hD, hS⟩
              refine lv_iinc (v := (x4_115 + 1)) (lv' := [(4, .int (x4_115 + 1)), (0, .ref a_self), (1, .int x1), (2, .int x2), (3, .int (m_n + (2 : Int32)))]) hx hb dX9_weigh_149 hl (k := 4) rfl rfl (by decide) rfl (fun ls hl => ?_)
              refine lv_goto (tgt := 115) hx hb dX9_weigh_152 (by decide) ?_
              cases hF
              exact ih115 _ _ (itr_in hN115) _ _ hW _ (lv_sub hl [1, 2, 3, 4, 0] rfl)
      exact hL115 nn _ _ hI _ _ hW _ (lv_sub hl [1, 2, 3, 4, 0] rfl)
    have hL41 : ∀ (n41 : Nat) (x4_41 : Int32) (m_weights_41 : Nat → Int32), itr (un2 (fMo_weigh_L41 m_symbols m_groups m_symbol m_taken x1 x2)) n41 (x4_41, m_weights_41) = some m_weights_41ze → ∀ (H : Heap) (locs : List Loc), WS D A s [ob a_self 9 [Value.int m_signs, Value.ref a_block, Value.ref a_tape, Value.int m_bits, Value.int m_faultAt, Value.int m_isDone, Value.int m_n, Value.ref a_map, Value.ref a_places, Value.int m_symbols, Value.ref a_symbol, Value.int m_groups, Value.int m_tables, Value.ref a_lengths, Value.ref a_taken, Value.ref a_codes, Value.ref a_list, Value.ref a_weights, Value.ref a_whole, Value.int m_lays, Value.int m_laid, Value.ref a_row, Value.int m_read, Value.int m_wrong, Value.int m_readMany, Value.ref a_readMap, Value.int m_readTables, Value.int m_readGroups, Value.ref a_readTaken, Value.ref a_readLengths, Value.ref a_readCodes, Value.int m_found, Value.ref a_foundBlock], ia cI a_symbol 301 m_symbol, ia cI a_lengths 3870 m_lengths, ia cI a_taken 155 m_taken, ia cI a_weights 516 m_weights_41, ia cI a_whole 516 m_whole_10z] H locs → ∀ ls : Array Slot, lv_has ls 7 [(0, .ref a_self), (1, .int x1), (2, .int x2), (3, .int (m_n + (2 : Int32))), (4, .int x4_41)] → W p l e (headSpec wsX9_weigh rmMo_weigh).room s m args below meth c H locs 0 0 Q (F0 m 41 ls []) := by
      intro n41
      induction n41 with
      | zero => intro x4_41 m_weights_41 hI; cases hI
      | succ n41 ih41 =>
        intro x4_41 m_weights_41 hI H locs hW ls hl
        obtain ⟨sr41, hF, hN41⟩ := itr_succ hI
        have hF : fMo_weigh_L41 m_symbols m_groups m_symbol m_taken x1 x2 x4_41 m_weights_41 = some sr41 := hF
        unfold fMo_weigh_L41 at hF
        refine lv_iload hx hb dX9_weigh_41 (lv_at hl 4 rfl) ?_
        refine lv_aload_n hx hb dX9_weigh_43 rfl (lv_at hl 0 rfl) ?_
        refine va_get (D := D) (ci := 9) (v := .int m_groups) (C := RX9) (T := TX9) (N := 33) hx hb hts hi9 hown hK.1 hW.1 0 rfl rfl 11 (by decide) hw4 (fun _ h9 => h9) rfl dX9_weigh_44 ?_
        refine lv_icmp_ge (tgt := 112) hx hb dX9_weigh_47 (by decide) (fun c47 => ?_) (fun c47 => ?_)
        · rw [if_pos c47] at hF
          cases hF
          exact hX41 _ (itr_out hN41) _ _ hW _ (lv_sub hl [0, 1, 2, 3] rfl)
        · rw [if_neg c47] at hF
          refine lv_bipush (v := 10) hx hb dX9_weigh_50 (by decide) ?_
          refine lv_iload hx hb dX9_weigh_52 (lv_at hl 4 rfl) ?_
          refine lv_imul hx hb dX9_weigh_54 ?_
          refine lv_istore (lv' := [(5, .int ((10 : Int32) * x4_41)), (0, .ref a_self), (1, .int x1), (2, .int x2), (3, .int (m_n + (2 : Int32))), (4, .int x4_41)]) hx hb dX9_weigh_55 hl (by decide) rfl (fun ls hl => ?_)
          obtain ⟨m_weights_57ze, hI, hF⟩ := bd1_some hF
          obtain ⟨nn, hI⟩ := itrO_some hI
          have hX57 : ∀ (m_weights_57z : Nat → Int32), m_weights_57z = m_weights_57ze → ∀ (H : Heap) (locs : List Loc), WS D A s [ob a_self 9 [Value.int m_signs, Value.ref a_block, Value.ref a_tape, Value.int m_bits, Value.int m_faultAt, Value.int m_isDone, Value.int m_n, Value.ref a_map, Value.ref a_places, Value.int m_symbols, Value.ref a_symbol, Value.int m_groups, Value.int m_tables, Value.ref a_lengths, Value.ref a_taken, Value.ref a_codes, Value.ref a_list, Value.ref a_weights, Value.ref a_whole, Value.int m_lays, Value.int m_laid, Value.ref a_row, Value.int m_read, Value.int m_wrong, Value.int m_readMany, Value.ref a_readMap, Value.int m_readTables, Value.int m_readGroups, Value.ref a_readTaken, Value.ref a_readLengths, Value.ref a_readCodes, Value.int m_found, Value.ref a_foundBlock], ia cI a_symbol 301 m_symbol, ia cI a_lengths 3870 m_lengths, ia cI a_taken 155 m_taken, ia cI a_weights 516 m_weights_57z, ia cI a_whole 516 m_whole_10z] H locs → ∀ ls : Array Slot, lv_has ls 7 [(0, .ref a_self), (1, .int x1), (2, .int x2), (3, .int (m_n + (2 : Int32))), (4, .int x4_41)] → W p l e (headSpec wsX9_weigh rmMo_weigh).room s m args below meth c H locs 0 0 Q (F0 m 106 ls []) := by
            intro m_weights_57z he H locs hW ls hl
            subst he
            refine lv_iinc (v := (x4_41 + 1)) (lv' := [(4, .int (x4_41 + 1)), (0, .ref a_self), (1, .int x1), (2, .int x2), (3, .int (m_n + (2 : Int32)))]) hx hb dX9_weigh_106 hl (k := 4) rfl rfl (by decide) rfl (fun ls hl => ?_)
            refine lv_goto (tgt := 41) hx hb dX9_weigh_109 (by decide) ?_
            cases hF
            exact ih41 _ _ (itr_in hN41) _ _ hW _ (lv_sub hl [1, 2, 3, 4, 0] rfl)
          have hL57 : ∀ (n57 : Nat) (x5_57 : Int32) (m_weights_57 : Nat → Int32), itr (un2 (fMo_weigh_L57 m_symbols m_symbol m_taken x1 x2 x4_41)) n57 (x5_57, m_weights_57) = some m_weights_57ze → ∀ (H : Heap) (locs : List Loc), WS D A s [ob a_self 9 [Value.int m_signs, Value.ref a_block, Value.ref a_tape, Value.int m_bits, Value.int m_faultAt, Value.int m_isDone, Value.int m_n, Value.ref a_map, Value.ref a_places, Value.int m_symbols, Value.ref a_symbol, Value.int m_groups, Value.int m_tables, Value.ref a_lengths, Value.ref a_taken, Value.ref a_codes, Value.ref a_list, Value.ref a_weights, Value.ref a_whole, Value.int m_lays, Value.int m_laid, Value.ref a_row, Value.int m_read, Value.int m_wrong, Value.int m_readMany, Value.ref a_readMap, Value.int m_readTables, Value.int m_readGroups, Value.ref a_readTaken, Value.ref a_readLengths, Value.ref a_readCodes, Value.int m_found, Value.ref a_foundBlock], ia cI a_symbol 301 m_symbol, ia cI a_lengths 3870 m_lengths, ia cI a_taken 155 m_taken, ia cI a_weights 516 m_weights_57, ia cI a_whole 516 m_whole_10z] H locs → ∀ ls : Array Slot, lv_has ls 7 [(0, .ref a_self), (1, .int x1), (2, .int x2), (3, .int (m_n + (2 : Int32))), (4, .int x4_41), (5, .int x5_57)] → W p l e (headSpec wsX9_weigh rmMo_weigh).room s m args below meth c H locs 0 0 Q (F0 m 57 ls []) := by
            intro n57
            induction n57 with
            | zero => intro x5_57 m_weights_57 hI; cases hI
            | succ n57 ih57 =>
              intro x5_57 m_weights_57 hI H locs hW ls hl
              obtain ⟨sr57, hF, hN57⟩ := itr_succ hI
              have hF : fMo_weigh_L57 m_symbols m_symbol m_taken x1 x2 x4_41 x5_57 m_weights_57 = some sr57 := hF
              unfold fMo_weigh_L57 at hF
              refine lv_iload hx hb dX9_weigh_57 (lv_at hl 5 rfl) ?_
              refine lv_aload_n hx hb dX9_weigh_59 rfl (lv_at hl 0 rfl) ?_
              refine lv_iload hx hb dX9_weigh_60 (lv_at hl 4 rfl) ?_
              obtain ⟨r_62, e62, hF⟩ := bd1_some hF
              refine ctV (wn := [ob a_self 9 [Value.int m_signs, Value.ref a_block, Value.ref a_tape, Value.int m_bits, Value.int m_faultAt, Value.int m_isDone, Value.int m_n, Value.ref a_map, Value.ref a_places, Value.int m_symbols, Value.ref a_symbol, Value.int m_groups, Value.int m_tables, Value.ref a_lengths, Value.ref a_taken, Value.ref a_codes, Value.ref a_list, Value.ref a_weights, Value.ref a_whole, Value.int m_lays, Value.int m_laid, Value.ref a_row, Value.int m_read, Value.int m_wrong, Value.int m_readMany, Value.ref a_readMap, Value.int m_readTables, Value.int m_readGroups, Value.ref a_readTaken, Value.ref a_readLengths, Value.ref a_readCodes, Value.int m_found, Value.ref a_foundBlock], ia cI a_symbol 301 m_symbol, ia cI a_lengths 3870 m_lengths, ia cI a_taken 155 m_taken, ia cI a_weights 516 m_weights_57, ia cI a_whole 516 m_whole_10z]) (r := (RX9, TX9, 33)) (As := [.int x4_41]) (rest := [.int x5_57]) hx hb hml hown hts hK hW hA hl.1 (kMo_groupEnd l D cI cZ cO cG a_self a_block a_tape a_map a_places a_symbol a_lengths a_taken a_codes a_list a_weights a_whole a_row a_readMap a_readTaken a_readLengths a_readCodes a_foundBlock m_signs m_bits m_faultAt m_isDone m_n m_symbols m_groups m_tables m_lays m_laid m_read m_wrong m_readMany m_readTables m_readGroups m_found x4_41 e62) (cwV 1 hts gX9_weigh_X9_groupEnd rfl rfl rfl (by decide +kernel) ⟨Nat.le_of_ble_eq_true rfl, Nat.le_of_ble_eq_true rfl⟩) 9 0 rfl rfl [0] [1, 2, 3, 4, 5] 6 rfl rfl rfl rfl [ia cI a_symbol 301 m_symbol, ia cI a_lengths 3870 m_lengths, ia cI a_taken 155 m_taken, ia cI a_weights 516 m_weights_57, ia cI a_whole 516 m_whole_10z] rfl rfl rfl rfl rfl (Nat.le_of_ble_eq_true rfl) rfl ⟨Nat.zero_le _, Nat.zero_le _⟩ dX9_weigh_62 (fun H locs hW => ?_)
              refine lv_icmp_ge (tgt := 106) hx hb dX9_weigh_65 (by decide) (fun c65 => ?_) (fun c65 => ?_)
              · rw [if_pos c65] at hF
                cases hF
                exact hX57 _ (itr_out hN57) _ _ hW _ (lv_sub hl [0, 1, 2, 3, 4] rfl)
              · rw [if_neg c65] at hF
                refine lv_aload_n hx hb dX9_weigh_68 rfl (lv_at hl 0 rfl) ?_
                refine va_get (D := D) (ci := 9) (v := .ref a_taken) (C := RX9) (T := TX9) (N := 33) hx hb hts hi9 hown hK.1 hW.1 0 rfl rfl 14 (by decide) hw5 (fun _ h9 => h9) rfl dX9_weigh_69 ?_
                refine lv_bipush (v := 31) hx hb dX9_weigh_72 (by decide) ?_
                refine lv_iload_n hx hb dX9_weigh_74 rfl (lv_at hl 1 rfl) ?_
                refine lv_imul hx hb dX9_weigh_75 ?_
                refine lv_iload hx hb dX9_weigh_76 (lv_at hl 4 rfl) ?_
                refine lv_iadd hx hb dX9_weigh_78 ?_
                obtain ⟨g79, hF⟩ := gdI_some hF
                refine va_iald hx hb hK.1 hW.1 3 0 rfl rfl g79 dX9_weigh_79 ?_
                refine lv_iload_n hx hb dX9_weigh_80 rfl (lv_at hl 2 rfl) ?_
                refine lv_icmp_ne (tgt := 106) hx hb dX9_weigh_81 (by decide) (fun c81 => ?_) (fun c81 => ?_)
                · rw [if_neg c81] at hF
                  cases hF
                  exact hX57 _ (itr_out hN57) _ _ hW _ (lv_sub hl [0, 1, 2, 3, 4] rfl)
                · rw [if_pos c81] at hF
                  refine lv_aload_n hx hb dX9_weigh_84 rfl (lv_at hl 0 rfl) ?_
                  refine va_get (D := D) (ci := 9) (v := .ref a_weights) (C := RX9) (T := TX9) (N := 33) hx hb hts hi9 hown hK.1 hW.1 0 rfl rfl 17 (by decide) hw3 (fun _ h9 => h9) rfl dX9_weigh_85 ?_
                  refine lv_aload_n hx hb dX9_weigh_88 rfl (lv_at hl 0 rfl) ?_
                  refine va_get (D := D) (ci := 9) (v := .ref a_symbol) (C := RX9) (T := TX9) (N := 33) hx hb hts hi9 hown hK.1 hW.1 0 rfl rfl 10 (by decide) hw6 (fun _ h9 => h9) rfl dX9_weigh_89 ?_
                  refine lv_iload hx hb dX9_weigh_92 (lv_at hl 5 rfl) ?_
                  obtain ⟨g94, hF⟩ := gdI_some hF
                  refine va_iald hx hb hK.1 hW.1 1 0 rfl rfl g94 dX9_weigh_94 ?_
                  refine lv_dup2_11 hx hb dX9_weigh_95 rfl rfl ?_
                  obtain ⟨g96, hF⟩ := gdI_some hF
                  refine va_iald hx hb hK.1 hW.1 4 0 rfl rfl g96 dX9_weigh_96 ?_
                  refine lv_iconst (v := 1) hx hb dX9_weigh_97 (by decide) ?_
                  refine lv_iadd hx hb dX9_weigh_98 ?_
                  obtain ⟨g99, hF⟩ := gdI_some hF
                  refine va_iast hx hb hK.1 hW.1 hW.2.1 hW.2.2 4 0 rfl rfl g99 dX9_weigh_99 (fun H locs hP hD hS => ?_)
                  have hW : WS D A s [ob a_self 9 [Value.int m_signs, Value.ref a_block, Value.ref a_tape, Value.int m_bits, Value.int m_faultAt, Value.int m_isDone, Value.int m_n, Value.ref a_map, Value.ref a_places, Value.int m_symbols, Value.ref a_symbol, Value.int m_groups, Value.int m_tables, Value.ref a_lengths, Value.ref a_taken, Value.ref a_codes, Value.ref a_list, Value.ref a_weights, Value.ref a_whole, Value.int m_lays, Value.int m_laid, Value.ref a_row, Value.int m_read, Value.int m_wrong, Value.int m_readMany, Value.ref a_readMap, Value.int m_readTables, Value.int m_readGroups, Value.ref a_readTaken, Value.ref a_readLengths, Value.ref a_readCodes, Value.int m_found, Value.ref a_foundBlock], ia cI a_symbol 301 m_symbol, ia cI a_lengths 3870 m_lengths, ia cI a_taken 155 m_taken, ia cI a_weights 516 (upd m_weights_57 (m_symbol x5_57.toNatClampNeg).toNatClampNeg ((m_weights_57 (m_symbol x5_57.toNatClampNeg).toNatClampNeg) + (1 : Int32))), ia cI a_whole 516 m_whole_10z] H locs := ⟨hP, hD, hS⟩
                  refine lv_iinc (v := (x5_57 + 1)) (lv' := [(5, .int (x5_57 + 1)), (0, .ref a_self), (1, .int x1), (2, .int x2), (3, .int (m_n + (2 : Int32))), (4, .int x4_41)]) hx hb dX9_weigh_100 hl (k := 5) rfl rfl (by decide) rfl (fun ls hl => ?_)
                  refine lv_goto (tgt := 57) hx hb dX9_weigh_103 (by decide) ?_
                  cases hF
                  exact ih57 _ _ (itr_in hN57) _ _ hW _ (lv_sub hl [1, 2, 3, 4, 5, 0] rfl)
          exact hL57 nn _ _ hI _ _ hW _ (lv_sub hl [1, 2, 3, 4, 5, 0] rfl)
    exact hL41 nn _ _ hI _ _ hW _ (lv_sub hl [1, 2, 3, 4, 0] rfl)
  have hL10 : ∀ (n10 : Nat) (x4_10 : Int32) (m_weights_10 : Nat → Int32) (m_whole_10 : Nat → Int32), itr (un3 (fMo_weigh_L10 m_n)) n10 (x4_10, m_weights_10, m_whole_10) = some (m_weights_10ze, m_whole_10ze) → ∀ (H : Heap) (locs : List Loc), WS D A s [ob a_self 9 [Value.int m_signs, Value.ref a_block, Value.ref a_tape, Value.int m_bits, Value.int m_faultAt, Value.int m_isDone, Value.int m_n, Value.ref a_map, Value.ref a_places, Value.int m_symbols, Value.ref a_symbol, Value.int m_groups, Value.int m_tables, Value.ref a_lengths, Value.ref a_taken, Value.ref a_codes, Value.ref a_list, Value.ref a_weights, Value.ref a_whole, Value.int m_lays, Value.int m_laid, Value.ref a_row, Value.int m_read, Value.int m_wrong, Value.int m_readMany, Value.ref a_readMap, Value.int m_readTables, Value.int m_readGroups, Value.ref a_readTaken, Value.ref a_readLengths, Value.ref a_readCodes, Value.int m_found, Value.ref a_foundBlock], ia cI a_symbol 301 m_symbol, ia cI a_lengths 3870 m_lengths, ia cI a_taken 155 m_taken, ia cI a_weights 516 m_weights_10, ia cI a_whole 516 m_whole_10] H locs → ∀ ls : Array Slot, lv_has ls 7 [(0, .ref a_self), (1, .int x1), (2, .int x2), (3, .int (m_n + (2 : Int32))), (4, .int x4_10)] → W p l e (headSpec wsX9_weigh rmMo_weigh).room s m args below meth c H locs 0 0 Q (F0 m 10 ls []) := by
    intro n10
    induction n10 with
    | zero => intro x4_10 m_weights_10 m_whole_10 hI; cases hI
    | succ n10 ih10 =>
      intro x4_10 m_weights_10 m_whole_10 hI H locs hW ls hl
      obtain ⟨sr10, hF, hN10⟩ := itr_succ hI
      have hF : fMo_weigh_L10 m_n x4_10 m_weights_10 m_whole_10 = some sr10 := hF
      unfold fMo_weigh_L10 at hF
      refine lv_iload hx hb dX9_weigh_10 (lv_at hl 4 rfl) ?_
      refine lv_iload_n hx hb dX9_weigh_12 rfl (lv_at hl 3 rfl) ?_
      refine lv_icmp_ge (tgt := 38) hx hb dX9_weigh_13 (by decide) (fun c13 => ?_) (fun c13 => ?_)
      · rw [if_pos c13] at hF
        cases hF
        exact hX10 _ _ (itr_out hN10) _ _ hW _ (lv_sub hl [0, 1, 2, 3] rfl)
      · rw [if_neg c13] at hF
        refine lv_aload_n hx hb dX9_weigh_16 rfl (lv_at hl 0 rfl) ?_
        refine va_get (D := D) (ci := 9) (v := .ref a_weights) (C := RX9) (T := TX9) (N := 33) hx hb hts hi9 hown hK.1 hW.1 0 rfl rfl 17 (by decide) hw3 (fun _ h9 => h9) rfl dX9_weigh_17 ?_
        refine lv_iload hx hb dX9_weigh_20 (lv_at hl 4 rfl) ?_
        refine lv_iconst (v := 0) hx hb dX9_weigh_22 (by decide) ?_
        obtain ⟨g23, hF⟩ := gdI_some hF
        refine va_iast hx hb hK.1 hW.1 hW.2.1 hW.2.2 4 0 rfl rfl g23 dX9_weigh_23 (fun H locs hP hD hS => ?_)
        have hW : WS D A s [ob a_self 9 [Value.int m_signs, Value.ref a_block, Value.ref a_tape, Value.int m_bits, Value.int m_faultAt, Value.int m_isDone, Value.int m_n, Value.ref a_map, Value.ref a_places, Value.int m_symbols, Value.ref a_symbol, Value.int m_groups, Value.int m_tables, Value.ref a_lengths, Value.ref a_taken, Value.ref a_codes, Value.ref a_list, Value.ref a_weights, Value.ref a_whole, Value.int m_lays, Value.int m_laid, Value.ref a_row, Value.int m_read, Value.int m_wrong, Value.int m_readMany, Value.ref a_readMap, Value.int m_readTables, Value.int m_readGroups, Value.ref a_readTaken, Value.ref a_readLengths, Value.ref a_readCodes, Value.int m_found, Value.ref a_foundBlock], ia cI a_symbol 301 m_symbol, ia cI a_lengths 3870 m_lengths, ia cI a_taken 155 m_taken, ia cI a_weights 516 (upd m_weights_10 x4_10.toNatClampNeg (0 : Int32)), ia cI a_whole 516 m_whole_10] H locs := ⟨hP, hD, hS⟩
        refine lv_aload_n hx hb dX9_weigh_24 rfl (lv_at hl 0 rfl) ?_
        refine va_get (D := D) (ci := 9) (v := .ref a_whole) (C := RX9) (T := TX9) (N := 33) hx hb hts hi9 hown hK.1 hW.1 0 rfl rfl 18 (by decide) hw1 (fun _ h9 => h9) rfl dX9_weigh_25 ?_
        refine lv_iload hx hb dX9_weigh_28 (lv_at hl 4 rfl) ?_
        refine lv_iconst (v := (-1)) hx hb dX9_weigh_30 (by decide) ?_
        obtain ⟨g31, hF⟩ := gdI_some hF
        refine va_iast hx hb hK.1 hW.1 hW.2.1 hW.2.2 5 0 rfl rfl g31 dX9_weigh_31 (fun H locs hP hD hS => ?_)
        have hW : WS D A s [ob a_self 9 [Value.int m_signs, Value.ref a_block, Value.ref a_tape, Value.int m_bits, Value.int m_faultAt, Value.int m_isDone, Value.int m_n, Value.ref a_map, Value.ref a_places, Value.int m_symbols, Value.ref a_symbol, Value.int m_groups, Value.int m_tables, Value.ref a_lengths, Value.ref a_taken, Value.ref a_codes, Value.ref a_list, Value.ref a_weights, Value.ref a_whole, Value.int m_lays, Value.int m_laid, Value.ref a_row, Value.int m_read, Value.int m_wrong, Value.int m_readMany, Value.ref a_readMap, Value.int m_readTables, Value.int m_readGroups, Value.ref a_readTaken, Value.ref a_readLengths, Value.ref a_readCodes, Value.int m_found, Value.ref a_foundBlock], ia cI a_symbol 301 m_symbol, ia cI a_lengths 3870 m_lengths, ia cI a_taken 155 m_taken, ia cI a_weights 516 (upd m_weights_10 x4_10.toNatClampNeg (0 : Int32)), ia cI a_whole 516 (upd m_whole_10 x4_10.toNatClampNeg (-1 : Int32))] H locs := ⟨hP, hD, hS⟩
        refine lv_iinc (v := (x4_10 + 1)) (lv' := [(4, .int (x4_10 + 1)), (0, .ref a_self), (1, .int x1), (2, .int x2), (3, .int (m_n + (2 : Int32)))]) hx hb dX9_weigh_32 hl (k := 4) rfl rfl (by decide) rfl (fun ls hl => ?_)
        refine lv_goto (tgt := 10) hx hb dX9_weigh_35 (by decide) ?_
        cases hF
        exact ih10 _ _ _ (itr_in hN10) _ _ hW _ (lv_sub hl [1, 2, 3, 4, 0] rfl)
  exact hL10 nn _ _ _ hI _ _ hW _ (lv_sub hl [2, 3, 4, 1, 0] rfl)
