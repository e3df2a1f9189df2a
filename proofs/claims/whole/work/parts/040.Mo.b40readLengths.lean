abbrev rmMo_readLengths : Room := { frames := 1, cells := 0, slots := 0, locals := 28 }
set_option maxHeartbeats 4000000 in
set_option maxRecDepth 100000 in
theorem kMo_readLengths (l : Launch) (D : va_G) (cI cZ cO cG : ClassId) (a_self : Nat) (a_block : Nat) (a_tape : Nat) (a_map : Nat) (a_places : Nat) (a_symbol : Nat) (a_lengths : Nat) (a_taken : Nat) (a_codes : Nat) (a_list : Nat) (a_weights : Nat) (a_whole : Nat) (a_row : Nat) (a_readMap : Nat) (a_readTaken : Nat) (a_readLengths : Nat) (a_readCodes : Nat) (a_foundBlock : Nat) (m_signs : Int32) (m_bits : Int32) (m_faultAt : Int32) (m_isDone : Int32) (m_n : Int32) (m_symbols : Int32) (m_groups : Int32) (m_tables : Int32) (m_lays : Int32) (m_laid : Int32) (m_read : Int32) (m_wrong : Int32) (m_readMany : Int32) (m_readTables : Int32) (m_readGroups : Int32) (m_found : Int32) (m_tape : Nat → Int32) (m_readLengths : Nat → Int32) (m_readCodes : Nat → Int32) (x1 : Int32) {m_read' : Int32} {m_wrong' : Int32} {m_readLengths' : Nat → Int32} {m_readCodes' : Nat → Int32} (hF : fMo_readLengths m_bits m_read m_wrong m_readMany m_tape m_readLengths m_readCodes x1 = some (m_read', m_wrong', m_readLengths', m_readCodes')) : CT l yX9_readLengths wsX9_readLengths rmMo_readLengths D (tysG cI cZ cO cG) [.ref a_self, .int x1] [ob a_self 9 [Value.int m_signs, Value.ref a_block, Value.ref a_tape, Value.int m_bits, Value.int m_faultAt, Value.int m_isDone, Value.int m_n, Value.ref a_map, Value.ref a_places, Value.int m_symbols, Value.ref a_symbol, Value.int m_groups, Value.int m_tables, Value.ref a_lengths, Value.ref a_taken, Value.ref a_codes, Value.ref a_list, Value.ref a_weights, Value.ref a_whole, Value.int m_lays, Value.int m_laid, Value.ref a_row, Value.int m_read, Value.int m_wrong, Value.int m_readMany, Value.ref a_readMap, Value.int m_readTables, Value.int m_readGroups, Value.ref a_readTaken, Value.ref a_readLengths, Value.ref a_readCodes, Value.int m_found, Value.ref a_foundBlock], ia cZ a_tape 1500 m_tape, ia cI a_readLengths 774 m_readLengths, ia cI a_readCodes 774 m_readCodes] none [ob a_self 9 [Value.int m_signs, Value.ref a_block, Value.ref a_tape, Value.int m_bits, Value.int m_faultAt, Value.int m_isDone, Value.int m_n, Value.ref a_map, Value.ref a_places, Value.int m_symbols, Value.ref a_symbol, Value.int m_groups, Value.int m_tables, Value.ref a_lengths, Value.ref a_taken, Value.ref a_codes, Value.ref a_list, Value.ref a_weights, Value.ref a_whole, Value.int m_lays, Value.int m_laid, Value.ref a_row, Value.int m_read', Value.int m_wrong', Value.int m_readMany, Value.ref a_readMap, Value.int m_readTables, Value.int m_readGroups, Value.ref a_readTaken, Value.ref a_readLengths, Value.ref a_readCodes, Value.int m_found, Value.ref a_foundBlock], ia cZ a_tape 1500 m_tape, ia cI a_readLengths 774 m_readLengths', ia cI a_readCodes 774 m_readCodes'] := by
  refine CT.of (cc := cX9_readLengths) (maxL := 6) (ret := none) (by decide) rfl (Nat.le_of_ble_eq_true rfl) ?_
  intro p e s m below meth c A ls hx hb hr hml hts hown hlocks hK hA hP hD hS hl
  generalize hargs : ([.ref a_self, .int x1] : List Value).toArray = args at hts ⊢
  generalize hQ : MQ below (ctQ D none [ob a_self 9 [Value.int m_signs, Value.ref a_block, Value.ref a_tape, Value.int m_bits, Value.int m_faultAt, Value.int m_isDone, Value.int m_n, Value.ref a_map, Value.ref a_places, Value.int m_symbols, Value.ref a_symbol, Value.int m_groups, Value.int m_tables, Value.ref a_lengths, Value.ref a_taken, Value.ref a_codes, Value.ref a_list, Value.ref a_weights, Value.ref a_whole, Value.int m_lays, Value.int m_laid, Value.ref a_row, Value.int m_read', Value.int m_wrong', Value.int m_readMany, Value.ref a_readMap, Value.int m_readTables, Value.int m_readGroups, Value.ref a_readTaken, Value.ref a_readLengths, Value.ref a_readCodes, Value.int m_found, Value.ref a_foundBlock], ia cZ a_tape 1500 m_tape, ia cI a_readLengths 774 m_readLengths', ia cI a_readCodes 774 m_readCodes'] A) args s 0 0 A = Q
  have hl : lv_has ls 6 [(0, .ref a_self), (1, .int x1)] := hl
  have hW : WS D A s [ob a_self 9 [Value.int m_signs, Value.ref a_block, Value.ref a_tape, Value.int m_bits, Value.int m_faultAt, Value.int m_isDone, Value.int m_n, Value.ref a_map, Value.ref a_places, Value.int m_symbols, Value.ref a_symbol, Value.int m_groups, Value.int m_tables, Value.ref a_lengths, Value.ref a_taken, Value.ref a_codes, Value.ref a_list, Value.ref a_weights, Value.ref a_whole, Value.int m_lays, Value.int m_laid, Value.ref a_row, Value.int m_read, Value.int m_wrong, Value.int m_readMany, Value.ref a_readMap, Value.int m_readTables, Value.int m_readGroups, Value.ref a_readTaken, Value.ref a_readLengths, Value.ref a_readCodes, Value.int m_found, Value.ref a_foundBlock], ia cZ a_tape 1500 m_tape, ia cI a_readLengths 774 m_readLengths, ia cI a_readCodes 774 m_readCodes] s.heap [] := ⟨hP, hD, hS⟩
  clear hP hD hS
  unfold fMo_readLengths at hF
  have hw0 := hts (Cond.fieldLink RX9 164 "MoveFrontsModel" "wrong" "I") (by decide +kernel)
  have hw1 := hts (Cond.fieldLink RX9 57 "MoveFrontsModel" "readLengths" "[I") (by decide +kernel)
  have hw2 := hts (Cond.fieldLink RX9 60 "MoveFrontsModel" "readCodes" "[I") (by decide +kernel)
  have hw3 := hts (Cond.fieldLink RX9 170 "MoveFrontsModel" "readMany" "I") (by decide +kernel)
  have hw4 := hts (Cond.constantLong RX9 186 1048576) (by decide +kernel)
  have hi9 : ∀ w ∈ u_ws RX9 TX9 33, w ∈ wsX9_readLengths := by decide +kernel
  have hJ199 : ∀ (m_read_199 : Int32) (m_wrong_199 : Int32) (m_readLengths_199 : Nat → Int32) (m_readCodes_199 : Nat → Int32) (t1_199 : Int32), fMo_readLengths_J199 m_readMany x1 m_read_199 m_wrong_199 m_readLengths_199 m_readCodes_199 t1_199 = some (m_read', m_wrong', m_readLengths', m_readCodes') → ∀ (H : Heap) (locs : List Loc), WS D A s [ob a_self 9 [Value.int m_signs, Value.ref a_block, Value.ref a_tape, Value.int m_bits, Value.int m_faultAt, Value.int m_isDone, Value.int m_n, Value.ref a_map, Value.ref a_places, Value.int m_symbols, Value.ref a_symbol, Value.int m_groups, Value.int m_tables, Value.ref a_lengths, Value.ref a_taken, Value.ref a_codes, Value.ref a_list, Value.ref a_weights, Value.ref a_whole, Value.int m_lays, Value.int m_laid, Value.ref a_row, Value.int m_read_199, Value.int m_wrong_199, Value.int m_readMany, Value.ref a_readMap, Value.int m_readTables, Value.int m_readGroups, Value.ref a_readTaken, Value.ref a_readLengths, Value.ref a_readCodes, Value.int m_found, Value.ref a_foundBlock], ia cZ a_tape 1500 m_tape, ia cI a_readLengths 774 m_readLengths_199, ia cI a_readCodes 774 m_readCodes_199] H locs → ∀ ls : Array Slot, lv_has ls 6 [(0, .ref a_self), (1, .int x1)] → W p l e (headSpec wsX9_readLengths rmMo_readLengths).room s m args below meth c H locs 0 0 Q (F0 m 199 ls [.int t1_199, .ref a_self]) := by
    intro m_read_199 m_wrong_199 m_readLengths_199 m_readCodes_199 t1_199 hF H locs hW ls hl
    unfold fMo_readLengths_J199 at hF
    refine lv_bipush (v := 6) hx hb dX9_readLengths_199 (by decide) ?_
    obtain ⟨m_wrong_201, e201, hF⟩ := bd1_some hF
    refine ctV (wn := [ob a_self 9 [Value.int m_signs, Value.ref a_block, Value.ref a_tape, Value.int m_bits, Value.int m_faultAt, Value.int m_isDone, Value.int m_n, Value.ref a_map, Value.ref a_places, Value.int m_symbols, Value.ref a_symbol, Value.int m_groups, Value.int m_tables, Value.ref a_lengths, Value.ref a_taken, Value.ref a_codes, Value.ref a_list, Value.ref a_weights, Value.ref a_whole, Value.int m_lays, Value.int m_laid, Value.ref a_row, Value.int m_read_199, Value.int m_wrong_201, Value.int m_readMany, Value.ref a_readMap, Value.int m_readTables, Value.int m_readGroups, Value.ref a_readTaken, Value.ref a_readLengths, Value.ref a_readCodes, Value.int m_found, Value.ref a_foundBlock], ia cZ a_tape 1500 m_tape, ia cI a_readLengths 774 m_readLengths_199, ia cI a_readCodes 774 m_readCodes_199]) (r := (RX9, TX9, 33)) (As := [.int t1_199, .int (6 : Int32)]) (rest := []) hx hb hml hown hts hK hW hA hl.1 (kMo_fails l D cI cZ cO cG a_self a_block a_tape a_map a_places a_symbol a_lengths a_taken a_codes a_list a_weights a_whole a_row a_readMap a_readTaken a_readLengths a_readCodes a_foundBlock m_signs m_bits m_faultAt m_isDone m_n m_symbols m_groups m_tables m_lays m_laid m_read_199 m_wrong_199 m_readMany m_readTables m_readGroups m_found t1_199 (6 : Int32) e201) (cwV 2 hts gX9_readLengths_X9_fails rfl rfl rfl (by decide +kernel) ⟨Nat.le_of_ble_eq_true rfl, Nat.le_of_ble_eq_true rfl⟩) 9 0 rfl rfl [0] [1, 2, 3] 4 rfl rfl rfl rfl [ia cZ a_tape 1500 m_tape, ia cI a_readLengths 774 m_readLengths_199, ia cI a_readCodes 774 m_readCodes_199] rfl rfl rfl rfl rfl (Nat.le_of_ble_eq_true rfl) rfl ⟨Nat.zero_le _, Nat.zero_le _⟩ dX9_readLengths_201 (fun H locs hW => ?_)
    refine lv_aload_n hx hb dX9_readLengths_204 rfl (lv_at hl 0 rfl) ?_
    refine va_get (D := D) (ci := 9) (v := .int m_wrong_201) (C := RX9) (T := TX9) (N := 33) hx hb hts hi9 hown hK.1 hW.1 0 rfl rfl 23 (by decide) hw0 (fun _ h9 => h9) rfl dX9_readLengths_205 ?_
    refine lv_if_ne (tgt := 238) hx hb dX9_readLengths_208 (by decide) (fun c208 => ?_) (fun c208 => ?_)
    · rw [if_neg c208] at hF
      cases hF
      subst hQ
      exact ct_vret hx hb hr hlocks hW.1 hW.2.2 dX9_readLengths_238
    · rw [if_pos c208] at hF
      refine lv_aload_n hx hb dX9_readLengths_211 rfl (lv_at hl 0 rfl) ?_
      refine va_get (D := D) (ci := 9) (v := .ref a_readLengths) (C := RX9) (T := TX9) (N := 33) hx hb hts hi9 hown hK.1 hW.1 0 rfl rfl 29 (by decide) hw1 (fun _ h9 => h9) rfl dX9_readLengths_212 ?_
      refine lv_sipush (v := 258) hx hb dX9_readLengths_215 (by decide) ?_
      refine lv_iload_n hx hb dX9_readLengths_218 rfl (lv_at hl 1 rfl) ?_
      refine lv_imul hx hb dX9_readLengths_219 ?_
      refine lv_aload_n hx hb dX9_readLengths_220 rfl (lv_at hl 0 rfl) ?_
      refine va_get (D := D) (ci := 9) (v := .ref a_readCodes) (C := RX9) (T := TX9) (N := 33) hx hb hts hi9 hown hK.1 hW.1 0 rfl rfl 30 (by decide) hw2 (fun _ h9 => h9) rfl dX9_readLengths_221 ?_
      refine lv_sipush (v := 258) hx hb dX9_readLengths_224 (by decide) ?_
      refine lv_iload_n hx hb dX9_readLengths_227 rfl (lv_at hl 1 rfl) ?_
      refine lv_imul hx hb dX9_readLengths_228 ?_
      refine lv_aload_n hx hb dX9_readLengths_229 rfl (lv_at hl 0 rfl) ?_
      refine va_get (D := D) (ci := 9) (v := .int m_readMany) (C := RX9) (T := TX9) (N := 33) hx hb hts hi9 hown hK.1 hW.1 0 rfl rfl 24 (by decide) hw3 (fun _ h9 => h9) rfl dX9_readLengths_230 ?_
      refine lv_iconst (v := 2) hx hb dX9_readLengths_233 (by decide) ?_
      refine lv_iadd hx hb dX9_readLengths_234 ?_
      obtain ⟨m_p2_235, e235, hF⟩ := bd1_some hF
      refine ctS (wn := [ob a_self 9 [Value.int m_signs, Value.ref a_block, Value.ref a_tape, Value.int m_bits, Value.int m_faultAt, Value.int m_isDone, Value.int m_n, Value.ref a_map, Value.ref a_places, Value.int m_symbols, Value.ref a_symbol, Value.int m_groups, Value.int m_tables, Value.ref a_lengths, Value.ref a_taken, Value.ref a_codes, Value.ref a_list, Value.ref a_weights, Value.ref a_whole, Value.int m_lays, Value.int m_laid, Value.ref a_row, Value.int m_read_199, Value.int m_wrong_201, Value.int m_readMany, Value.ref a_readMap, Value.int m_readTables, Value.int m_readGroups, Value.ref a_readTaken, Value.ref a_readLengths, Value.ref a_readCodes, Value.int m_found, Value.ref a_foundBlock], ia cZ a_tape 1500 m_tape, ia cI a_readLengths 774 m_readLengths_199, ia cI a_readCodes 774 m_p2_235]) (As := [.ref a_readLengths, .int ((258 : Int32) * x1), .ref a_readCodes, .int ((258 : Int32) * x1), .int (m_readMany + (2 : Int32))]) (rest := []) hx hb hml hown hts hK hW hA hl.1 (kMo_findCodes l D cI cZ cO cG a_readLengths a_readCodes 774 774 m_readLengths_199 m_readCodes_199 ((258 : Int32) * x1) ((258 : Int32) * x1) (m_readMany + (2 : Int32)) e235) (va_cwS 5 hts gX9_readLengths_X9_findCodes rfl rfl rfl (by decide +kernel) ⟨Nat.le_of_ble_eq_true rfl, Nat.le_of_ble_eq_true rfl⟩) [2, 3] [0, 1] 4 rfl rfl rfl rfl [ob a_self 9 [Value.int m_signs, Value.ref a_block, Value.ref a_tape, Value.int m_bits, Value.int m_faultAt, Value.int m_isDone, Value.int m_n, Value.ref a_map, Value.ref a_places, Value.int m_symbols, Value.ref a_symbol, Value.int m_groups, Value.int m_tables, Value.ref a_lengths, Value.ref a_taken, Value.ref a_codes, Value.ref a_list, Value.ref a_weights, Value.ref a_whole, Value.int m_lays, Value.int m_laid, Value.ref a_row, Value.int m_read_199, Value.int m_wrong_201, Value.int m_readMany, Value.ref a_readMap, Value.int m_readTables, Value.int m_readGroups, Value.ref a_readTaken, Value.ref a_readLengths, Value.ref a_readCodes, Value.int m_found, Value.ref a_foundBlock], ia cZ a_tape 1500 m_tape] rfl rfl rfl rfl rfl (Nat.le_of_ble_eq_true rfl) rfl ⟨Nat.zero_le _, Nat.zero_le _⟩ dX9_readLengths_235 (fun H locs hW => ?_)
      cases hF
      subst hQ
      exact ct_vret hx hb hr hlocks hW.1 hW.2.2 dX9_readLengths_238
  have hJ22 : ∀ (x2_22 : Int32) (m_read_22 : Int32) (m_wrong_22 : Int32) (m_readLengths_22 : Nat → Int32) (m_readCodes_22 : Nat → Int32) (t1_22 : Int32), fMo_readLengths_J22 m_bits m_readMany m_tape x1 x2_22 m_read_22 m_wrong_22 m_readLengths_22 m_readCodes_22 t1_22 = some (m_read', m_wrong', m_readLengths', m_readCodes') → ∀ (H : Heap) (locs : List Loc), WS D A s [ob a_self 9 [Value.int m_signs, Value.ref a_block, Value.ref a_tape, Value.int m_bits, Value.int m_faultAt, Value.int m_isDone, Value.int m_n, Value.ref a_map, Value.ref a_places, Value.int m_symbols, Value.ref a_symbol, Value.int m_groups, Value.int m_tables, Value.ref a_lengths, Value.ref a_taken, Value.ref a_codes, Value.ref a_list, Value.ref a_weights, Value.ref a_whole, Value.int m_lays, Value.int m_laid, Value.ref a_row, Value.int m_read_22, Value.int m_wrong_22, Value.int m_readMany, Value.ref a_readMap, Value.int m_readTables, Value.int m_readGroups, Value.ref a_readTaken, Value.ref a_readLengths, Value.ref a_readCodes, Value.int m_found, Value.ref a_foundBlock], ia cZ a_tape 1500 m_tape, ia cI a_readLengths 774 m_readLengths_22, ia cI a_readCodes 774 m_readCodes_22] H locs → ∀ ls : Array Slot, lv_has ls 6 [(0, .ref a_self), (1, .int x1), (2, .int x2_22)] → W p l e (headSpec wsX9_readLengths rmMo_readLengths).room s m args below meth c H locs 0 0 Q (F0 m 22 ls [.int t1_22, .ref a_self]) := by
    intro x2_22 m_read_22 m_wrong_22 m_readLengths_22 m_readCodes_22 t1_22 hF H locs hW ls hl
    unfold fMo_readLengths_J22 at hF
    refine lv_iconst (v := 5) hx hb dX9_readLengths_22 (by decide) ?_
    obtain ⟨m_wrong_23, e23, hF⟩ := bd1_some hF
    refine ctV (wn := [ob a_self 9 [Value.int m_signs, Value.ref a_block, Value.ref a_tape, Value.int m_bits, Value.int m_faultAt, Value.int m_isDone, Value.int m_n, Value.ref a_map, Value.ref a_places, Value.int m_symbols, Value.ref a_symbol, Value.int m_groups, Value.int m_tables, Value.ref a_lengths, Value.ref a_taken, Value.ref a_codes, Value.ref a_list, Value.ref a_weights, Value.ref a_whole, Value.int m_lays, Value.int m_laid, Value.ref a_row, Value.int m_read_22, Value.int m_wrong_23, Value.int m_readMany, Value.ref a_readMap, Value.int m_readTables, Value.int m_readGroups, Value.ref a_readTaken, Value.ref a_readLengths, Value.ref a_readCodes, Value.int m_found, Value.ref a_foundBlock], ia cZ a_tape 1500 m_tape, ia cI a_readLengths 774 m_readLengths_22, ia cI a_readCodes 774 m_readCodes_22]) (r := (RX9, TX9, 33)) (As := [.int t1_22, .int (5 : Int32)]) (rest := []) hx hb hml hown hts hK hW hA hl.1 (kMo_fails l D cI cZ cO cG a_self a_block a_tape a_map a_places a_symbol a_lengths a_taken a_codes a_list a_weights a_whole a_row a_readMap a_readTaken a_readLengths a_readCodes a_foundBlock m_signs m_bits m_faultAt m_isDone m_n m_symbols m_groups m_tables m_lays m_laid m_read_22 m_wrong_22 m_readMany m_readTables m_readGroups m_found t1_22 (5 : Int32) e23) (cwV 2 hts gX9_readLengths_X9_fails rfl rfl rfl (by decide +kernel) ⟨Nat.le_of_ble_eq_true rfl, Nat.le_of_ble_eq_true rfl⟩) 9 0 rfl rfl [0] [1, 2, 3] 4 rfl rfl rfl rfl [ia cZ a_tape 1500 m_tape, ia cI a_readLengths 774 m_readLengths_22, ia cI a_readCodes 774 m_readCodes_22] rfl rfl rfl rfl rfl (Nat.le_of_ble_eq_true rfl) rfl ⟨Nat.zero_le _, Nat.zero_le _⟩ dX9_readLengths_23 (fun H locs hW => ?_)
    refine lv_iconst (v := 0) hx hb dX9_readLengths_26 (by decide) ?_
    refine lv_istore_n (lv' := [(3, .int (0 : Int32)), (0, .ref a_self), (1, .int x1), (2, .int x2_22)]) hx hb dX9_readLengths_27 rfl hl (by decide) rfl (fun ls hl => ?_)
    obtain ⟨m_read_28ze, m_wrong_28ze, m_readLengths_28ze, hI, hF⟩ := bd3_some hF
    obtain ⟨nn, hI⟩ := itrO_some hI
    have hX28 : ∀ (m_read_28z : Int32) (m_wrong_28z : Int32) (m_readLengths_28z : Nat → Int32), (m_read_28z, m_wrong_28z, m_readLengths_28z) = (m_read_28ze, m_wrong_28ze, m_readLengths_28ze) → ∀ (H : Heap) (locs : List Loc), WS D A s [ob a_self 9 [Value.int m_signs, Value.ref a_block, Value.ref a_tape, Value.int m_bits, Value.int m_faultAt, Value.int m_isDone, Value.int m_n, Value.ref a_map, Value.ref a_places, Value.int m_symbols, Value.ref a_symbol, Value.int m_groups, Value.int m_tables, Value.ref a_lengths, Value.ref a_taken, Value.ref a_codes, Value.ref a_list, Value.ref a_weights, Value.ref a_whole, Value.int m_lays, Value.int m_laid, Value.ref a_row, Value.int m_read_28z, Value.int m_wrong_28z, Value.int m_readMany, Value.ref a_readMap, Value.int m_readTables, Value.int m_readGroups, Value.ref a_readTaken, Value.ref a_readLengths, Value.ref a_readCodes, Value.int m_found, Value.ref a_foundBlock], ia cZ a_tape 1500 m_tape, ia cI a_readLengths 774 m_readLengths_28z, ia cI a_readCodes 774 m_readCodes_22] H locs → ∀ ls : Array Slot, lv_has ls 6 [(0, .ref a_self), (1, .int x1)] → W p l e (headSpec wsX9_readLengths rmMo_readLengths).room s m args below meth c H locs 0 0 Q (F0 m 135 ls []) := by
      intro m_read_28z m_wrong_28z m_readLengths_28z he H locs hW ls hl
      obtain ⟨hz0, hy0⟩ := Prod.mk.inj he
      obtain ⟨hz1, hy1⟩ := Prod.mk.inj hy0
      subst hz0
      subst hz1
      subst hy1
      refine lv_lconst (v := 0) hx hb dX9_readLengths_135 (by decide) ?_
      refine lv_lstore_n (lv' := [(3, .long (0 : Int64)), (0, .ref a_self), (1, .int x1)]) hx hb dX9_readLengths_136 rfl hl (by decide) rfl (fun ls hl => ?_)
      refine lv_iconst (v := 0) hx hb dX9_readLengths_137 (by decide) ?_
      refine lv_istore (lv' := [(5, .int (0 : Int32)), (3, .long (0 : Int64)), (0, .ref a_self), (1, .int x1)]) hx hb dX9_readLengths_138 hl (by decide) rfl (fun ls hl => ?_)
      obtain ⟨x3_140ze, hI, hF⟩ := bd1_some hF
      obtain ⟨nn, hI⟩ := itrO_some hI
      have hX140 : ∀ (x3_140z : Int64), x3_140z = x3_140ze → ∀ (H : Heap) (locs : List Loc), WS D A s [ob a_self 9 [Value.int m_signs, Value.ref a_block, Value.ref a_tape, Value.int m_bits, Value.int m_faultAt, Value.int m_isDone, Value.int m_n, Value.ref a_map, Value.ref a_places, Value.int m_symbols, Value.ref a_symbol, Value.int m_groups, Value.int m_tables, Value.ref a_lengths, Value.ref a_taken, Value.ref a_codes, Value.ref a_list, Value.ref a_weights, Value.ref a_whole, Value.int m_lays, Value.int m_laid, Value.ref a_row, Value.int m_read_28z, Value.int m_wrong_28z, Value.int m_readMany, Value.ref a_readMap, Value.int m_readTables, Value.int m_readGroups, Value.ref a_readTaken, Value.ref a_readLengths, Value.ref a_readCodes, Value.int m_found, Value.ref a_foundBlock], ia cZ a_tape 1500 m_tape, ia cI a_readLengths 774 m_readLengths_28z, ia cI a_readCodes 774 m_readCodes_22] H locs → ∀ ls : Array Slot, lv_has ls 6 [(0, .ref a_self), (1, .int x1), (3, .long x3_140z)] → W p l e (headSpec wsX9_readLengths rmMo_readLengths).room s m args below meth c H locs 0 0 Q (F0 m 185 ls []) := by
        intro x3_140z he H locs hW ls hl
        subst he
        refine lv_aload_n hx hb dX9_readLengths_185 rfl (lv_at hl 0 rfl) ?_
        refine lv_lload_n hx hb dX9_readLengths_186 rfl (lv_at hl 2 rfl) ?_
        refine lv_ldc2 (v := 1048576) hx hb hown hw4 dX9_readLengths_187 ?_
        refine W.lcmp hx hb dX9_readLengths_190 ?_
        refine lv_if_le (tgt := 198) hx hb dX9_readLengths_191 (by decide) (fun c191 => ?_) (fun c191 => ?_)
        · rw [if_pos c191] at hF
          refine lv_iconst (v := 0) hx hb dX9_readLengths_198 (by decide) ?_
          exact hJ199 _ _ _ _ _ hF _ _ hW _ (lv_sub hl [0, 1] rfl)
        · rw [if_neg c191] at hF
          refine lv_iconst (v := 1) hx hb dX9_readLengths_194 (by decide) ?_
          refine lv_goto (tgt := 199) hx hb dX9_readLengths_195 (by decide) ?_
          exact hJ199 _ _ _ _ _ hF _ _ hW _ (lv_sub hl [0, 1] rfl)
      have hL140 : ∀ (n140 : Nat) (x3_140 : Int64) (x5_140 : Int32), itr (un2 (fMo_readLengths_L140 m_readMany x1 m_wrong_28z m_readLengths_28z)) n140 (x3_140, x5_140) = some x3_140ze → ∀ (H : Heap) (locs : List Loc), WS D A s [ob a_self 9 [Value.int m_signs, Value.ref a_block, Value.ref a_tape, Value.int m_bits, Value.int m_faultAt, Value.int m_isDone, Value.int m_n, Value.ref a_map, Value.ref a_places, Value.int m_symbols, Value.ref a_symbol, Value.int m_groups, Value.int m_tables, Value.ref a_lengths, Value.ref a_taken, Value.ref a_codes, Value.ref a_list, Value.ref a_weights, Value.ref a_whole, Value.int m_lays, Value.int m_laid, Value.ref a_row, Value.int m_read_28z, Value.int m_wrong_28z, Value.int m_readMany, Value.ref a_readMap, Value.int m_readTables, Value.int m_readGroups, Value.ref a_readTaken, Value.ref a_readLengths, Value.ref a_readCodes, Value.int m_found, Value.ref a_foundBlock], ia cZ a_tape 1500 m_tape, ia cI a_readLengths 774 m_readLengths_28z, ia cI a_readCodes 774 m_readCodes_22] H locs → ∀ ls : Array Slot, lv_has ls 6 [(0, .ref a_self), (1, .int x1), (3, .long x3_140), (5, .int x5_140)] → W p l e (headSpec wsX9_readLengths rmMo_readLengths).room s m args below meth c H locs 0 0 Q (F0 m 140 ls []) := by
        intro n140
        induction n140 with
        | zero => intro x3_140 x5_140 hI; cases hI
        | succ n140 ih140 =>
          intro x3_140 x5_140 hI H locs hW ls hl
          obtain ⟨sr140, hF, hN140⟩ := itr_succ hI
          have hF : fMo_readLengths_L140 m_readMany x1 m_wrong_28z m_readLengths_28z x3_140 x5_140 = some sr140 := hF
          unfold fMo_readLengths_L140 at hF
          refine lv_iload hx hb dX9_readLengths_140 (lv_at hl 3 rfl) ?_
          refine lv_aload_n hx hb dX9_readLengths_142 rfl (lv_at hl 0 rfl) ?_
          refine va_get (D := D) (ci := 9) (v := .int m_readMany) (C := RX9) (T := TX9) (N := 33) hx hb hts hi9 hown hK.1 hW.1 0 rfl rfl 24 (by decide) hw3 (fun _ h9 => h9) rfl dX9_readLengths_143 ?_
          refine lv_iconst (v := 2) hx hb dX9_readLengths_146 (by decide) ?_
          refine lv_iadd hx hb dX9_readLengths_147 ?_
          refine lv_icmp_ge (tgt := 185) hx hb dX9_readLengths_148 (by decide) (fun c148 => ?_) (fun c148 => ?_)
          · rw [if_pos c148] at hF
            cases hF
            exact hX140 _ (itr_out hN140) _ _ hW _ (lv_sub hl [0, 1, 2] rfl)
          · rw [if_neg c148] at hF
            refine lv_aload_n hx hb dX9_readLengths_151 rfl (lv_at hl 0 rfl) ?_
            refine va_get (D := D) (ci := 9) (v := .int m_wrong_28z) (C := RX9) (T := TX9) (N := 33) hx hb hts hi9 hown hK.1 hW.1 0 rfl rfl 23 (by decide) hw0 (fun _ h9 => h9) rfl dX9_readLengths_152 ?_
            refine lv_if_ne (tgt := 185) hx hb dX9_readLengths_155 (by decide) (fun c155 => ?_) (fun c155 => ?_)
            · rw [if_neg c155] at hF
              cases hF
              exact hX140 _ (itr_out hN140) _ _ hW _ (lv_sub hl [0, 1, 2] rfl)
            · rw [if_pos c155] at hF
              refine lv_lload_n hx hb dX9_readLengths_158 rfl (lv_at hl 2 rfl) ?_
              refine lv_lconst (v := 1) hx hb dX9_readLengths_159 (by decide) ?_
              refine lv_bipush (v := 20) hx hb dX9_readLengths_160 (by decide) ?_
              refine lv_aload_n hx hb dX9_readLengths_162 rfl (lv_at hl 0 rfl) ?_
              refine va_get (D := D) (ci := 9) (v := .ref a_readLengths) (C := RX9) (T := TX9) (N := 33) hx hb hts hi9 hown hK.1 hW.1 0 rfl rfl 29 (by decide) hw1 (fun _ h9 => h9) rfl dX9_readLengths_163 ?_
              refine lv_sipush (v := 258) hx hb dX9_readLengths_166 (by decide) ?_
              refine lv_iload_n hx hb dX9_readLengths_169 rfl (lv_at hl 1 rfl) ?_
              refine lv_imul hx hb dX9_readLengths_170 ?_
              refine lv_iload hx hb dX9_readLengths_171 (lv_at hl 3 rfl) ?_
              refine lv_iadd hx hb dX9_readLengths_173 ?_
              obtain ⟨g174, hF⟩ := gdI_some hF
              refine va_iald hx hb hK.1 hW.1 2 0 rfl rfl g174 dX9_readLengths_174 ?_
              refine lv_isub hx hb dX9_readLengths_175 ?_
              refine lv_lshl (v := ((1 : Int64) <<< (((20 : Int32) - (m_readLengths_28z (((258 : Int32) * x1) + x5_140).toNatClampNeg)).toInt64 &&& 63))) hx hb dX9_readLengths_176 rfl ?_
              refine lv_ladd hx hb dX9_readLengths_177 ?_
              refine lv_lstore_n (lv' := [(3, .long (x3_140 + ((1 : Int64) <<< (((20 : Int32) - (m_readLengths_28z (((258 : Int32) * x1) + x5_140).toNatClampNeg)).toInt64 &&& 63)))), (0, .ref a_self), (1, .int x1), (5, .int x5_140)]) hx hb dX9_readLengths_178 rfl hl (by decide) rfl (fun ls hl => ?_)
              refine lv_iinc (v := (x5_140 + 1)) (lv' := [(5, .int (x5_140 + 1)), (3, .long (x3_140 + ((1 : Int64) <<< (((20 : Int32) - (m_readLengths_28z (((258 : Int32) * x1) + x5_140).toNatClampNeg)).toInt64 &&& 63)))), (0, .ref a_self), (1, .int x1)]) hx hb dX9_readLengths_179 hl (k := 3) rfl rfl (by decide) rfl (fun ls hl => ?_)
              refine lv_goto (tgt := 140) hx hb dX9_readLengths_182 (by decide) ?_
              cases hF
              exact ih140 _ _ (itr_in hN140) _ _ hW _ (lv_sub hl [2, 3, 1, 0] rfl)
      exact hL140 nn _ _ hI _ _ hW _ (lv_sub hl [2, 3, 1, 0] rfl)
    have hL28 : ∀ (n28 : Nat) (x2_28 : Int32) (x3_28 : Int32) (m_read_28 : Int32) (m_wrong_28 : Int32) (m_readLengths_28 : Nat → Int32), itr (un5 (fMo_readLengths_L28 m_bits m_readMany m_tape x1)) n28 (x2_28, x3_28, m_read_28, m_wrong_28, m_readLengths_28) = some (m_read_28ze, m_wrong_28ze, m_readLengths_28ze) → ∀ (H : Heap) (locs : List Loc), WS D A s [ob a_self 9 [Value.int m_signs, Value.ref a_block, Value.ref a_tape, Value.int m_bits, Value.int m_faultAt, Value.int m_isDone, Value.int m_n, Value.ref a_map, Value.ref a_places, Value.int m_symbols, Value.ref a_symbol, Value.int m_groups, Value.int m_tables, Value.ref a_lengths, Value.ref a_taken, Value.ref a_codes, Value.ref a_list, Value.ref a_weights, Value.ref a_whole, Value.int m_lays, Value.int m_laid, Value.ref a_row, Value.int m_read_28, Value.int m_wrong_28, Value.int m_readMany, Value.ref a_readMap, Value.int m_readTables, Value.int m_readGroups, Value.ref a_readTaken, Value.ref a_readLengths, Value.ref a_readCodes, Value.int m_found, Value.ref a_foundBlock], ia cZ a_tape 1500 m_tape, ia cI a_readLengths 774 m_readLengths_28, ia cI a_readCodes 774 m_readCodes_22] H locs → ∀ ls : Array Slot, lv_has ls 6 [(0, .ref a_self), (1, .int x1), (2, .int x2_28), (3, .int x3_28)] → W p l e (headSpec wsX9_readLengths rmMo_readLengths).room s m args below meth c H locs 0 0 Q (F0 m 28 ls []) := by
      intro n28
      induction n28 with
      | zero => intro x2_28 x3_28 m_read_28 m_wrong_28 m_readLengths_28 hI; cases hI
      | succ n28 ih28 =>
        intro x2_28 x3_28 m_read_28 m_wrong_28 m_readLengths_28 hI H locs hW ls hl
        obtain ⟨sr28, hF, hN28⟩ := itr_succ hI
        have hF : fMo_readLengths_L28 m_bits m_readMany m_tape x1 x2_28 x3_28 m_read_28 m_wrong_28 m_readLengths_28 = some sr28 := hF
        unfold fMo_readLengths_L28 at hF
        refine lv_iload_n hx hb dX9_readLengths_28 rfl (lv_at hl 3 rfl) ?_
        refine lv_aload_n hx hb dX9_readLengths_29 rfl (lv_at hl 0 rfl) ?_
        refine va_get (D := D) (ci := 9) (v := .int m_readMany) (C := RX9) (T := TX9) (N := 33) hx hb hts hi9 hown hK.1 hW.1 0 rfl rfl 24 (by decide) hw3 (fun _ h9 => h9) rfl dX9_readLengths_30 ?_
        refine lv_iconst (v := 2) hx hb dX9_readLengths_33 (by decide) ?_
        refine lv_iadd hx hb dX9_readLengths_34 ?_
        refine lv_icmp_ge (tgt := 135) hx hb dX9_readLengths_35 (by decide) (fun c35 => ?_) (fun c35 => ?_)
        · rw [if_pos c35] at hF
          cases hF
          exact hX28 _ _ _ (itr_out hN28) _ _ hW _ (lv_sub hl [0, 1] rfl)
        · rw [if_neg c35] at hF
          refine lv_aload_n hx hb dX9_readLengths_38 rfl (lv_at hl 0 rfl) ?_
          refine va_get (D := D) (ci := 9) (v := .int m_wrong_28) (C := RX9) (T := TX9) (N := 33) hx hb hts hi9 hown hK.1 hW.1 0 rfl rfl 23 (by decide) hw0 (fun _ h9 => h9) rfl dX9_readLengths_39 ?_
          refine lv_if_ne (tgt := 135) hx hb dX9_readLengths_42 (by decide) (fun c42 => ?_) (fun c42 => ?_)
          · rw [if_neg c42] at hF
            cases hF
            exact hX28 _ _ _ (itr_out hN28) _ _ hW _ (lv_sub hl [0, 1] rfl)
          · rw [if_pos c42] at hF
            obtain ⟨x2_45ze, m_read_45ze, m_wrong_45ze, hI, hF⟩ := bd3_some hF
            obtain ⟨nn, hI⟩ := itrO_some hI
            have hX45 : ∀ (x2_45z : Int32) (m_read_45z : Int32) (m_wrong_45z : Int32), (x2_45z, m_read_45z, m_wrong_45z) = (x2_45ze, m_read_45ze, m_wrong_45ze) → ∀ (H : Heap) (locs : List Loc), WS D A s [ob a_self 9 [Value.int m_signs, Value.ref a_block, Value.ref a_tape, Value.int m_bits, Value.int m_faultAt, Value.int m_isDone, Value.int m_n, Value.ref a_map, Value.ref a_places, Value.int m_symbols, Value.ref a_symbol, Value.int m_groups, Value.int m_tables, Value.ref a_lengths, Value.ref a_taken, Value.ref a_codes, Value.ref a_list, Value.ref a_weights, Value.ref a_whole, Value.int m_lays, Value.int m_laid, Value.ref a_row, Value.int m_read_45z, Value.int m_wrong_45z, Value.int m_readMany, Value.ref a_readMap, Value.int m_readTables, Value.int m_readGroups, Value.ref a_readTaken, Value.ref a_readLengths, Value.ref a_readCodes, Value.int m_found, Value.ref a_foundBlock], ia cZ a_tape 1500 m_tape, ia cI a_readLengths 774 m_readLengths_28, ia cI a_readCodes 774 m_readCodes_22] H locs → ∀ ls : Array Slot, lv_has ls 6 [(0, .ref a_self), (1, .int x1), (2, .int x2_45z), (3, .int x3_28)] → W p l e (headSpec wsX9_readLengths rmMo_readLengths).room s m args below meth c H locs 0 0 Q (F0 m 116 ls []) := by
              intro x2_45z m_read_45z m_wrong_45z he H locs hW ls hl
              obtain ⟨hz0, hy0⟩ := Prod.mk.inj he
              obtain ⟨hz1, hy1⟩ := Prod.mk.inj hy0
              subst hz0
              subst hz1
              subst hy1
              refine lv_aload_n hx hb dX9_readLengths_116 rfl (lv_at hl 0 rfl) ?_
              refine va_get (D := D) (ci := 9) (v := .ref a_readLengths) (C := RX9) (T := TX9) (N := 33) hx hb hts hi9 hown hK.1 hW.1 0 rfl rfl 29 (by decide) hw1 (fun _ h9 => h9) rfl dX9_readLengths_117 ?_
              refine lv_sipush (v := 258) hx hb dX9_readLengths_120 (by decide) ?_
              refine lv_iload_n hx hb dX9_readLengths_123 rfl (lv_at hl 1 rfl) ?_
              refine lv_imul hx hb dX9_readLengths_124 ?_
              refine lv_iload_n hx hb dX9_readLengths_125 rfl (lv_at hl 3 rfl) ?_
              refine lv_iadd hx hb dX9_readLengths_126 ?_
              refine lv_iload_n hx hb dX9_readLengths_127 rfl (lv_at hl 2 rfl) ?_
              obtain ⟨g128, hF⟩ := gdI_some hF
              refine va_iast hx hb hK.1 hW.1 hW.2.1 hW.2.2 2 0 rfl rfl g128 dX9_readLengths_128 (fun H locs hP hD hS => ?_)
              have hW : WS D A s [ob a_self 9 [Value.int m_signs, Value.ref a_block, Value.ref a_tape, Value.int m_bits, Value.int m_faultAt, Value.int m_isDone, Value.int m_n, Value.ref a_map, Value.ref a_places, Value.int m_symbols, Value.ref a_symbol, Value.int m_groups, Value.int m_tables, Value.ref a_lengths, Value.ref a_taken, Value.ref a_codes, Value.ref a_list, Value.ref a_weights, Value.ref a_whole, Value.int m_lays, Value.int m_laid, Value.ref a_row, Value.int m_read_45z, Value.int m_wrong_45z, Value.int m_readMany, Value.ref a_readMap, Value.int m_readTables, Value.int m_readGroups, Value.ref a_readTaken, Value.ref a_readLengths, Value.ref a_readCodes, Value.int m_found, Value.ref a_foundBlock], ia cZ a_tape 1500 m_tape, ia cI a_readLengths 774 (upd m_readLengths_28 (((258 : Int32) * x1) + x3_28).toNatClampNeg x2_45z), ia cI a_readCodes 774 m_readCodes_22] H locs := ⟨hP, hD, hS⟩
              refine lv_iinc (v := (x3_28 + 1)) (lv' := [(3, .int (x3_28 + 1)), (0, .ref a_self), (1, .int x1), (2, .int x2_45z)]) hx hb dX9_readLengths_129 hl (k := 3) rfl rfl (by decide) rfl (fun ls hl => ?_)
              refine lv_goto (tgt := 28) hx hb dX9_readLengths_132 (by decide) ?_
              cases hF
              exact ih28 _ _ _ _ _ (itr_in hN28) _ _ hW _ (lv_sub hl [1, 2, 3, 0] rfl)
            have hL45 : ∀ (n45 : Nat) (x2_45 : Int32) (m_read_45 : Int32) (m_wrong_45 : Int32), itr (un3 (fMo_readLengths_L45 m_bits m_tape)) n45 (x2_45, m_read_45, m_wrong_45) = some (x2_45ze, m_read_45ze, m_wrong_45ze) → ∀ (H : Heap) (locs : List Loc), WS D A s [ob a_self 9 [Value.int m_signs, Value.ref a_block, Value.ref a_tape, Value.int m_bits, Value.int m_faultAt, Value.int m_isDone, Value.int m_n, Value.ref a_map, Value.ref a_places, Value.int m_symbols, Value.ref a_symbol, Value.int m_groups, Value.int m_tables, Value.ref a_lengths, Value.ref a_taken, Value.ref a_codes, Value.ref a_list, Value.ref a_weights, Value.ref a_whole, Value.int m_lays, Value.int m_laid, Value.ref a_row, Value.int m_read_45, Value.int m_wrong_45, Value.int m_readMany, Value.ref a_readMap, Value.int m_readTables, Value.int m_readGroups, Value.ref a_readTaken, Value.ref a_readLengths, Value.ref a_readCodes, Value.int m_found, Value.ref a_foundBlock], ia cZ a_tape 1500 m_tape, ia cI a_readLengths 774 m_readLengths_28, ia cI a_readCodes 774 m_readCodes_22] H locs → ∀ ls : Array Slot, lv_has ls 6 [(0, .ref a_self), (1, .int x1), (2, .int x2_45), (3, .int x3_28)] → W p l e (headSpec wsX9_readLengths rmMo_readLengths).room s m args below meth c H locs 0 0 Q (F0 m 45 ls []) := by
              intro n45
              induction n45 with
              | zero => intro x2_45 m_read_45 m_wrong_45 hI; cases hI
              | succ n45 ih45 =>
                intro x2_45 m_read_45 m_wrong_45 hI H locs hW ls hl
                obtain ⟨sr45, hF, hN45⟩ := itr_succ hI
                have hF : fMo_readLengths_L45 m_bits m_tape x2_45 m_read_45 m_wrong_45 = some sr45 := hF
                unfold fMo_readLengths_L45 at hF
                have hJ91 : ∀ (m_read_91 : Int32) (m_wrong_91 : Int32) (t0_91 : Int32) (t1_91 : Int32), fMo_readLengths_J91 m_read_91 m_wrong_91 t0_91 t1_91 = some sr45 → ∀ (H : Heap) (locs : List Loc), WS D A s [ob a_self 9 [Value.int m_signs, Value.ref a_block, Value.ref a_tape, Value.int m_bits, Value.int m_faultAt, Value.int m_isDone, Value.int m_n, Value.ref a_map, Value.ref a_places, Value.int m_symbols, Value.ref a_symbol, Value.int m_groups, Value.int m_tables, Value.ref a_lengths, Value.ref a_taken, Value.ref a_codes, Value.ref a_list, Value.ref a_weights, Value.ref a_whole, Value.int m_lays, Value.int m_laid, Value.ref a_row, Value.int m_read_91, Value.int m_wrong_91, Value.int m_readMany, Value.ref a_readMap, Value.int m_readTables, Value.int m_readGroups, Value.ref a_readTaken, Value.ref a_readLengths, Value.ref a_readCodes, Value.int m_found, Value.ref a_foundBlock], ia cZ a_tape 1500 m_tape, ia cI a_readLengths 774 m_readLengths_28, ia cI a_readCodes 774 m_readCodes_22] H locs → ∀ ls : Array Slot, lv_has ls 6 [(0, .ref a_self), (1, .int x1), (3, .int x3_28)] → W p l e (headSpec wsX9_readLengths rmMo_readLengths).room s m args below meth c H locs 0 0 Q (F0 m 91 ls [.int t1_91, .int t0_91]) := by
                  intro m_read_91 m_wrong_91 t0_91 t1_91 hF H locs hW ls hl
                  unfold fMo_readLengths_J91 at hF
                  refine lv_iadd hx hb dX9_readLengths_91 ?_
                  refine lv_istore_n (lv' := [(2, .int (t0_91 + t1_91)), (0, .ref a_self), (1, .int x1), (3, .int x3_28)]) hx hb dX9_readLengths_92 rfl hl (by decide) rfl (fun ls hl => ?_)
                  refine lv_aload_n hx hb dX9_readLengths_93 rfl (lv_at hl 1 rfl) ?_
                  refine lv_iload_n hx hb dX9_readLengths_94 rfl (lv_at hl 0 rfl) ?_
                  refine lv_iconst (v := 1) hx hb dX9_readLengths_95 (by decide) ?_
                  refine lv_bipush (v := 20) hx hb dX9_readLengths_96 (by decide) ?_
                  obtain ⟨r_98, e98, hF⟩ := bd1_some hF
                  refine ctS (wn := [ob a_self 9 [Value.int m_signs, Value.ref a_block, Value.ref a_tape, Value.int m_bits, Value.int m_faultAt, Value.int m_isDone, Value.int m_n, Value.ref a_map, Value.ref a_places, Value.int m_symbols, Value.ref a_symbol, Value.int m_groups, Value.int m_tables, Value.ref a_lengths, Value.ref a_taken, Value.ref a_codes, Value.ref a_list, Value.ref a_weights, Value.ref a_whole, Value.int m_lays, Value.int m_laid, Value.ref a_row, Value.int m_read_91, Value.int m_wrong_91, Value.int m_readMany, Value.ref a_readMap, Value.int m_readTables, Value.int m_readGroups, Value.ref a_readTaken, Value.ref a_readLengths, Value.ref a_readCodes, Value.int m_found, Value.ref a_foundBlock], ia cZ a_tape 1500 m_tape, ia cI a_readLengths 774 m_readLengths_28, ia cI a_readCodes 774 m_readCodes_22]) (As := [.int (t0_91 + t1_91), .int (1 : Int32), .int (20 : Int32)]) (rest := [.ref a_self]) hx hb hml hown hts hK hW hA hl.1 (kMo_within l D cI cZ cO cG (t0_91 + t1_91) (1 : Int32) (20 : Int32) e98) (va_cwS 3 hts gX9_readLengths_X9_within rfl rfl rfl (by decide +kernel) ⟨Nat.le_of_ble_eq_true rfl, Nat.le_of_ble_eq_true rfl⟩) [] [0, 1, 2, 3] 4 rfl rfl rfl rfl [ob a_self 9 [Value.int m_signs, Value.ref a_block, Value.ref a_tape, Value.int m_bits, Value.int m_faultAt, Value.int m_isDone, Value.int m_n, Value.ref a_map, Value.ref a_places, Value.int m_symbols, Value.ref a_symbol, Value.int m_groups, Value.int m_tables, Value.ref a_lengths, Value.ref a_taken, Value.ref a_codes, Value.ref a_list, Value.ref a_weights, Value.ref a_whole, Value.int m_lays, Value.int m_laid, Value.ref a_row, Value.int m_read_91, Value.int m_wrong_91, Value.int m_readMany, Value.ref a_readMap, Value.int m_readTables, Value.int m_readGroups, Value.ref a_readTaken, Value.ref a_readLengths, Value.ref a_readCodes, Value.int m_found, Value.ref a_foundBlock], ia cZ a_tape 1500 m_tape, ia cI a_readLengths 774 m_readLengths_28, ia cI a_readCodes 774 m_readCodes_22] rfl rfl rfl rfl rfl (Nat.le_of_ble_eq_true rfl) rfl ⟨Nat.zero_le _, Nat.zero_le _⟩ dX9_readLengths_98 (fun H locs hW => ?_)
                  refine lv_if_ne (tgt := 108) hx hb dX9_readLengths_101 (by decide) (fun c101 => ?_) (fun c101 => ?_)
                  · rw [if_neg c101] at hF
                    refine lv_iconst (v := 0) hx hb dX9_readLengths_108 (by decide) ?_
                    refine lv_iconst (v := 5) hx hb dX9_readLengths_109 (by decide) ?_
                    obtain ⟨m_wrong_110, e110, hF⟩ := bd1_some hF
                    refine ctV (wn := [ob a_self 9 [Value.int m_signs, Value.ref a_block, Value.ref a_tape, Value.int m_bits, Value.int m_faultAt, Value.int m_isDone, Value.int m_n, Value.ref a_map, Value.ref a_places, Value.int m_symbols, Value.ref a_symbol, Value.int m_groups, Value.int m_tables, Value.ref a_lengths, Value.ref a_taken, Value.ref a_codes, Value.ref a_list, Value.ref a_weights, Value.ref a_whole, Value.int m_lays, Value.int m_laid, Value.ref a_row, Value.int m_read_91, Value.int m_wrong_110, Value.int m_readMany, Value.ref a_readMap, Value.int m_readTables, Value.int m_readGroups, Value.ref a_readTaken, Value.ref a_readLengths, Value.ref a_readCodes, Value.int m_found, Value.ref a_foundBlock], ia cZ a_tape 1500 m_tape, ia cI a_readLengths 774 m_readLengths_28, ia cI a_readCodes 774 m_readCodes_22]) (r := (RX9, TX9, 33)) (As := [.int (0 : Int32), .int (5 : Int32)]) (rest := []) hx hb hml hown hts hK hW hA hl.1 (kMo_fails l D cI cZ cO cG a_self a_block a_tape a_map a_places a_symbol a_lengths a_taken a_codes a_list a_weights a_whole a_row a_readMap a_readTaken a_readLengths a_readCodes a_foundBlock m_signs m_bits m_faultAt m_isDone m_n m_symbols m_groups m_tables m_lays m_laid m_read_91 m_wrong_91 m_readMany m_readTables m_readGroups m_found (0 : Int32) (5 : Int32) e110) (cwV 2 hts gX9_readLengths_X9_fails rfl rfl rfl (by decide +kernel) ⟨Nat.le_of_ble_eq_true rfl, Nat.le_of_ble_eq_true rfl⟩) 9 0 rfl rfl [0] [1, 2, 3] 4 rfl rfl rfl rfl [ia cZ a_tape 1500 m_tape, ia cI a_readLengths 774 m_readLengths_28, ia cI a_readCodes 774 m_readCodes_22] rfl rfl rfl rfl rfl (Nat.le_of_ble_eq_true rfl) rfl ⟨Nat.zero_le _, Nat.zero_le _⟩ dX9_readLengths_110 (fun H locs hW => ?_)
                    refine lv_goto (tgt := 45) hx hb dX9_readLengths_113 (by decide) ?_
                    cases hF
                    exact ih45 _ _ _ (itr_in hN45) _ _ hW _ (lv_sub hl [1, 2, 0, 3] rfl)
                  · rw [if_pos c101] at hF
                    refine lv_iconst (v := 1) hx hb dX9_readLengths_104 (by decide) ?_
                    refine lv_goto (tgt := 109) hx hb dX9_readLengths_105 (by decide) ?_
                    refine lv_iconst (v := 5) hx hb dX9_readLengths_109 (by decide) ?_
                    obtain ⟨m_wrong_110, e110, hF⟩ := bd1_some hF
                    refine ctV (wn := [ob a_self 9 [Value.int m_signs, Value.ref a_block, Value.ref a_tape, Value.int m_bits, Value.int m_faultAt, Value.int m_isDone, Value.int m_n, Value.ref a_map, Value.ref a_places, Value.int m_symbols, Value.ref a_symbol, Value.int m_groups, Value.int m_tables, Value.ref a_lengths, Value.ref a_taken, Value.ref a_codes, Value.ref a_list, Value.ref a_weights, Value.ref a_whole, Value.int m_lays, Value.int m_laid, Value.ref a_row, Value.int m_read_91, Value.int m_wrong_110, Value.int m_readMany, Value.ref a_readMap, Value.int m_readTables, Value.int m_readGroups, Value.ref a_readTaken, Value.ref a_readLengths, Value.ref a_readCodes, Value.int m_found, Value.ref a_foundBlock], ia cZ a_tape 1500 m_tape, ia cI a_readLengths 774 m_readLengths_28, ia cI a_readCodes 774 m_readCodes_22]) (r := (RX9, TX9, 33)) (As := [.int (1 : Int32), .int (5 : Int32)]) (rest := []) hx hb hml hown hts hK hW hA hl.1 (kMo_fails l D cI cZ cO cG a_self a_block a_tape a_map a_places a_symbol a_lengths a_taken a_codes a_list a_weights a_whole a_row a_readMap a_readTaken a_readLengths a_readCodes a_foundBlock m_signs m_bits m_faultAt m_isDone m_n m_symbols m_groups m_tables m_lays m_laid m_read_91 m_wrong_91 m_readMany m_readTables m_readGroups m_found (1 : Int32) (5 : Int32) e110) (cwV 2 hts gX9_readLengths_X9_fails rfl rfl rfl (by decide +kernel) ⟨Nat.le_of_ble_eq_true rfl, Nat.le_of_ble_eq_true rfl⟩) 9 0 rfl rfl [0] [1, 2, 3] 4 rfl rfl rfl rfl [ia cZ a_tape 1500 m_tape, ia cI a_readLengths 774 m_readLengths_28, ia cI a_readCodes 774 m_readCodes_22] rfl rfl rfl rfl rfl (Nat.le_of_ble_eq_true rfl) rfl ⟨Nat.zero_le _, Nat.zero_le _⟩ dX9_readLengths_110 (fun H locs hW => ?_)
                    refine lv_goto (tgt := 45) hx hb dX9_readLengths_113 (by decide) ?_
                    cases hF
                    exact ih45 _ _ _ (itr_in hN45) _ _ hW _ (lv_sub hl [1, 2, 0, 3] rfl)
                refine lv_aload_n hx hb dX9_readLengths_45 rfl (lv_at hl 0 rfl) ?_
                refine va_get (D := D) (ci := 9) (v := .int m_wrong_45) (C := RX9) (T := TX9) (N := 33) hx hb hts hi9 hown hK.1 hW.1 0 rfl rfl 23 (by decide) hw0 (fun _ h9 => h9) rfl dX9_readLengths_46 ?_
                refine lv_if_ne (tgt := 116) hx hb dX9_readLengths_49 (by decide) (fun c49 => ?_) (fun c49 => ?_)
                · rw [if_neg c49] at hF
                  cases hF
                  exact hX45 _ _ _ (itr_out hN45) _ _ hW _ (lv_sub hl [0, 1, 2, 3] rfl)
                · rw [if_pos c49] at hF
                  refine lv_aload_n hx hb dX9_readLengths_52 rfl (lv_at hl 0 rfl) ?_
                  refine lv_iconst (v := 1) hx hb dX9_readLengths_53 (by decide) ?_
                  obtain ⟨r_54, m_read_54, m_wrong_54, e54, hF⟩ := bd3_some hF
                  refine ctV (wn := [ob a_self 9 [Value.int m_signs, Value.ref a_block, Value.ref a_tape, Value.int m_bits, Value.int m_faultAt, Value.int m_isDone, Value.int m_n, Value.ref a_map, Value.ref a_places, Value.int m_symbols, Value.ref a_symbol, Value.int m_groups, Value.int m_tables, Value.ref a_lengths, Value.ref a_taken, Value.ref a_codes, Value.ref a_list, Value.ref a_weights, Value.ref a_whole, Value.int m_lays, Value.int m_laid, Value.ref a_row, Value.int m_read_54, Value.int m_wrong_54, Value.int m_readMany, Value.ref a_readMap, Value.int m_readTables, Value.int m_readGroups, Value.ref a_readTaken, Value.ref a_readLengths, Value.ref a_readCodes, Value.int m_found, Value.ref a_foundBlock], ia cZ a_tape 1500 m_tape, ia cI a_readLengths 774 m_readLengths_28, ia cI a_readCodes 774 m_readCodes_22]) (r := (RX9, TX9, 33)) (As := [.int (1 : Int32)]) (rest := []) hx hb hml hown hts hK hW hA hl.1 (kMo_take l D cI cZ cO cG a_self a_block a_tape a_map a_places a_symbol a_lengths a_taken a_codes a_list a_weights a_whole a_row a_readMap a_readTaken a_readLengths a_readCodes a_foundBlock m_signs m_bits m_faultAt m_isDone m_n m_symbols m_groups m_tables m_lays m_laid m_read_45 m_wrong_45 m_readMany m_readTables m_readGroups m_found m_tape (1 : Int32) e54) (cwV 1 hts gX9_readLengths_X9_take rfl rfl rfl (by decide +kernel) ⟨Nat.le_of_ble_eq_true rfl, Nat.le_of_ble_eq_true rfl⟩) 9 0 rfl rfl [0, 1] [2, 3] 4 rfl rfl rfl rfl [ia cI a_readLengths 774 m_readLengths_28, ia cI a_readCodes 774 m_readCodes_22] rfl rfl rfl rfl rfl (Nat.le_of_ble_eq_true rfl) rfl ⟨Nat.zero_le _, Nat.zero_le _⟩ dX9_readLengths_54 (fun H locs hW => ?_)
                  refine lv_iconst (v := 1) hx hb dX9_readLengths_57 (by decide) ?_
                  refine lv_icmp_ne (tgt := 116) hx hb dX9_readLengths_58 (by decide) (fun c58 => ?_) (fun c58 => ?_)
                  · rw [if_neg c58] at hF
                    cases hF
                    exact hX45 _ _ _ (itr_out hN45) _ _ hW _ (lv_sub hl [0, 1, 2, 3] rfl)
                  · rw [if_pos c58] at hF
                    refine lv_aload_n hx hb dX9_readLengths_61 rfl (lv_at hl 0 rfl) ?_
                    refine lv_iconst (v := 1) hx hb dX9_readLengths_62 (by decide) ?_
                    obtain ⟨r_63, m_read_63, m_wrong_63, e63, hF⟩ := bd3_some hF
                    refine ctV (wn := [ob a_self 9 [Value.int m_signs, Value.ref a_block, Value.ref a_tape, Value.int m_bits, Value.int m_faultAt, Value.int m_isDone, Value.int m_n, Value.ref a_map, Value.ref a_places, Value.int m_symbols, Value.ref a_symbol, Value.int m_groups, Value.int m_tables, Value.ref a_lengths, Value.ref a_taken, Value.ref a_codes, Value.ref a_list, Value.ref a_weights, Value.ref a_whole, Value.int m_lays, Value.int m_laid, Value.ref a_row, Value.int m_read_63, Value.int m_wrong_63, Value.int m_readMany, Value.ref a_readMap, Value.int m_readTables, Value.int m_readGroups, Value.ref a_readTaken, Value.ref a_readLengths, Value.ref a_readCodes, Value.int m_found, Value.ref a_foundBlock], ia cZ a_tape 1500 m_tape, ia cI a_readLengths 774 m_readLengths_28, ia cI a_readCodes 774 m_readCodes_22]) (r := (RX9, TX9, 33)) (As := [.int (1 : Int32)]) (rest := []) hx hb hml hown hts hK hW hA hl.1 (kMo_take l D cI cZ cO cG a_self a_block a_tape a_map a_places a_symbol a_lengths a_taken a_codes a_list a_weights a_whole a_row a_readMap a_readTaken a_readLengths a_readCodes a_foundBlock m_signs m_bits m_faultAt m_isDone m_n m_symbols m_groups m_tables m_lays m_laid m_read_54 m_wrong_54 m_readMany m_readTables m_readGroups m_found m_tape (1 : Int32) e63) (cwV 1 hts gX9_readLengths_X9_take rfl rfl rfl (by decide +kernel) ⟨Nat.le_of_ble_eq_true rfl, Nat.le_of_ble_eq_true rfl⟩) 9 0 rfl rfl [0, 1] [2, 3] 4 rfl rfl rfl rfl [ia cI a_readLengths 774 m_readLengths_28, ia cI a_readCodes 774 m_readCodes_22] rfl rfl rfl rfl rfl (Nat.le_of_ble_eq_true rfl) rfl ⟨Nat.zero_le _, Nat.zero_le _⟩ dX9_readLengths_63 (fun H locs hW => ?_)
                    refine lv_istore (lv' := [(4, .int r_63), (0, .ref a_self), (1, .int x1), (2, .int x2_45), (3, .int x3_28)]) hx hb dX9_readLengths_66 hl (by decide) rfl (fun ls hl => ?_)
                    refine lv_iload_n hx hb dX9_readLengths_68 rfl (lv_at hl 3 rfl) ?_
                    refine lv_aload_n hx hb dX9_readLengths_69 rfl (lv_at hl 1 rfl) ?_
                    refine va_get (D := D) (ci := 9) (v := .int m_wrong_63) (C := RX9) (T := TX9) (N := 33) hx hb hts hi9 hown hK.1 hW.1 0 rfl rfl 23 (by decide) hw0 (fun _ h9 => h9) rfl dX9_readLengths_70 ?_
                    refine lv_if_le (tgt := 80) hx hb dX9_readLengths_73 (by decide) (fun c73 => ?_) (fun c73 => ?_)
                    · rw [if_pos c73] at hF
                      refine lv_iload hx hb dX9_readLengths_80 (lv_at hl 0 rfl) ?_
                      refine lv_iconst (v := 1) hx hb dX9_readLengths_82 (by decide) ?_
                      refine lv_icmp_ne (tgt := 90) hx hb dX9_readLengths_83 (by decide) (fun c83 => ?_) (fun c83 => ?_)
                      · rw [if_neg c83] at hF
                        refine lv_iconst (v := 1) hx hb dX9_readLengths_90 (by decide) ?_
                        exact hJ91 _ _ _ _ hF _ _ hW _ (lv_sub hl [1, 2, 4] rfl)
                      · rw [if_pos c83] at hF
                        refine lv_iconst (v := (-1)) hx hb dX9_readLengths_86 (by decide) ?_
                        refine lv_goto (tgt := 91) hx hb dX9_readLengths_87 (by decide) ?_
                        exact hJ91 _ _ _ _ hF _ _ hW _ (lv_sub hl [1, 2, 4] rfl)
                    · rw [if_neg c73] at hF
                      refine lv_iconst (v := 0) hx hb dX9_readLengths_76 (by decide) ?_
                      refine lv_goto (tgt := 91) hx hb dX9_readLengths_77 (by decide) ?_
                      exact hJ91 _ _ _ _ hF _ _ hW _ (lv_sub hl [1, 2, 4] rfl)
            exact hL45 nn _ _ _ hI _ _ hW _ (lv_sub hl [0, 1, 2, 3] rfl)
    exact hL28 nn _ _ _ _ _ hI _ _ hW _ (lv_sub hl [1, 2, 3, 0] rfl)
  refine lv_aload_n hx hb dX9_readLengths_0 rfl (lv_at hl 0 rfl) ?_
  refine lv_iconst (v := 5) hx hb dX9_readLengths_1 (by decide) ?_
  obtain ⟨r_2, m_read_2, m_wrong_2, e2, hF⟩ := bd3_some hF
  refine ctV (wn := [ob a_self 9 [Value.int m_signs, Value.ref a_block, Value.ref a_tape, Value.int m_bits, Value.int m_faultAt, Value.int m_isDone, Value.int m_n, Value.ref a_map, Value.ref a_places, Value.int m_symbols, Value.ref a_symbol, Value.int m_groups, Value.int m_tables, Value.ref a_lengths, Value.ref a_taken, Value.ref a_codes, Value.ref a_list, Value.ref a_weights, Value.ref a_whole, Value.int m_lays, Value.int m_laid, Value.ref a_row, Value.int m_read_2, Value.int m_wrong_2, Value.int m_readMany, Value.ref a_readMap, Value.int m_readTables, Value.int m_readGroups, Value.ref a_readTaken, Value.ref a_readLengths, Value.ref a_readCodes, Value.int m_found, Value.ref a_foundBlock], ia cZ a_tape 1500 m_tape, ia cI a_readLengths 774 m_readLengths, ia cI a_readCodes 774 m_readCodes]) (r := (RX9, TX9, 33)) (As := [.int (5 : Int32)]) (rest := []) hx hb hml hown hts hK hW hA hl.1 (kMo_take l D cI cZ cO cG a_self a_block a_tape a_map a_places a_symbol a_lengths a_taken a_codes a_list a_weights a_whole a_row a_readMap a_readTaken a_readLengths a_readCodes a_foundBlock m_signs m_bits m_faultAt m_isDone m_n m_symbols m_groups m_tables m_lays m_laid m_read m_wrong m_readMany m_readTables m_readGroups m_found m_tape (5 : Int32) e2) (cwV 1 hts gX9_readLengths_X9_take rfl rfl rfl (by decide +kernel) ⟨Nat.le_of_ble_eq_true rfl, Nat.le_of_ble_eq_true rfl⟩) 9 0 rfl rfl [0, 1] [2, 3] 4 rfl rfl rfl rfl [ia cI a_readLengths 774 m_readLengths, ia cI a_readCodes 774 m_readCodes] rfl rfl rfl rfl rfl (Nat.le_of_ble_eq_true rfl) rfl ⟨Nat.zero_le _, Nat.zero_le _⟩ dX9_readLengths_2 (fun H locs hW => ?_)
  refine lv_istore_n (lv' := [(2, .int r_2), (0, .ref a_self), (1, .int x1)]) hx hb dX9_readLengths_5 rfl hl (by decide) rfl (fun ls hl => ?_)
  refine lv_aload_n hx hb dX9_readLengths_6 rfl (lv_at hl 1 rfl) ?_
  refine lv_iload_n hx hb dX9_readLengths_7 rfl (lv_at hl 0 rfl) ?_
  refine lv_iconst (v := 1) hx hb dX9_readLengths_8 (by decide) ?_
  refine lv_bipush (v := 20) hx hb dX9_readLengths_9 (by decide) ?_
  obtain ⟨r_11, e11, hF⟩ := bd1_some hF
  refine ctS (wn := [ob a_self 9 [Value.int m_signs, Value.ref a_block, Value.ref a_tape, Value.int m_bits, Value.int m_faultAt, Value.int m_isDone, Value.int m_n, Value.ref a_map, Value.ref a_places, Value.int m_symbols, Value.ref a_symbol, Value.int m_groups, Value.int m_tables, Value.ref a_lengths, Value.ref a_taken, Value.ref a_codes, Value.ref a_list, Value.ref a_weights, Value.ref a_whole, Value.int m_lays, Value.int m_laid, Value.ref a_row, Value.int m_read_2, Value.int m_wrong_2, Value.int m_readMany, Value.ref a_readMap, Value.int m_readTables, Value.int m_readGroups, Value.ref a_readTaken, Value.ref a_readLengths, Value.ref a_readCodes, Value.int m_found, Value.ref a_foundBlock], ia cZ a_tape 1500 m_tape, ia cI a_readLengths 774 m_readLengths, ia cI a_readCodes 774 m_readCodes]) (As := [.int r_2, .int (1 : Int32), .int (20 : Int32)]) (rest := [.ref a_self]) hx hb hml hown hts hK hW hA hl.1 (kMo_within l D cI cZ cO cG r_2 (1 : Int32) (20 : Int32) e11) (va_cwS 3 hts gX9_readLengths_X9_within rfl rfl rfl (by decide +kernel) ⟨Nat.le_of_ble_eq_true rfl, Nat.le_of_ble_eq_true rfl⟩) [] [0, 1, 2, 3] 4 rfl rfl rfl rfl [ob a_self 9 [Value.int m_signs, Value.ref a_block, Value.ref a_tape, Value.int m_bits, Value.int m_faultAt, Value.int m_isDone, Value.int m_n, Value.ref a_map, Value.ref a_places, Value.int m_symbols, Value.ref a_symbol, Value.int m_groups, Value.int m_tables, Value.ref a_lengths, Value.ref a_taken, Value.ref a_codes, Value.ref a_list, Value.ref a_weights, Value.ref a_whole, Value.int m_lays, Value.int m_laid, Value.ref a_row, Value.int m_read_2, Value.int m_wrong_2, Value.int m_readMany, Value.ref a_readMap, Value.int m_readTables, Value.int m_readGroups, Value.ref a_readTaken, Value.ref a_readLengths, Value.ref a_readCodes, Value.int m_found, Value.ref a_foundBlock], ia cZ a_tape 1500 m_tape, ia cI a_readLengths 774 m_readLengths, ia cI a_readCodes 774 m_readCodes] rfl rfl rfl rfl rfl (Nat.le_of_ble_eq_true rfl) rfl ⟨Nat.zero_le _, Nat.zero_le _⟩ dX9_readLengths_11 (fun H locs hW => ?_)
  refine lv_if_ne (tgt := 21) hx hb dX9_readLengths_14 (by decide) (fun c14 => ?_) (fun c14 => ?_)
  · rw [if_neg c14] at hF
    refine lv_iconst (v := 0) hx hb dX9_readLengths_21 (by decide) ?_
    exact hJ22 _ _ _ _ _ _ hF _ _ hW _ (lv_sub hl [1, 2, 0] rfl)
  · rw [if_pos c14] at hF
    refine lv_iconst (v := 1) hx hb dX9_readLengths_17 (by decide) ?_
    refine lv_goto (tgt := 22) hx hb dX9_readLengths_18 (by decide) ?_
    exact hJ22 _ _ _ _ _ _ hF _ _ hW _ (lv_sub hl [1, 2, 0] rfl)
