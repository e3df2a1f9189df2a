abbrev rmMo_cost : Room := { frames := 3, cells := 0, slots := 0, locals := 72 }
set_option maxHeartbeats 4000000 in
set_option maxRecDepth 100000 in
theorem kMo_cost (l : Launch) (D : va_G) (cI cZ cO cG : ClassId) (a_self : Nat) (a_block : Nat) (a_tape : Nat) (a_map : Nat) (a_places : Nat) (a_symbol : Nat) (a_lengths : Nat) (a_taken : Nat) (a_codes : Nat) (a_list : Nat) (a_weights : Nat) (a_whole : Nat) (a_row : Nat) (a_readMap : Nat) (a_readTaken : Nat) (a_readLengths : Nat) (a_readCodes : Nat) (a_foundBlock : Nat) (m_signs : Int32) (m_bits : Int32) (m_faultAt : Int32) (m_isDone : Int32) (m_n : Int32) (m_symbols : Int32) (m_groups : Int32) (m_tables : Int32) (m_lays : Int32) (m_laid : Int32) (m_read : Int32) (m_wrong : Int32) (m_readMany : Int32) (m_readTables : Int32) (m_readGroups : Int32) (m_found : Int32) (m_block : Nat → Int32) (m_tape : Nat → Int32) (m_map : Nat → Int32) (m_places : Nat → Int32) (m_symbol : Nat → Int32) (m_lengths : Nat → Int32) (m_taken : Nat → Int32) (m_codes : Nat → Int32) (m_list : Nat → Int32) (m_weights : Nat → Int32) (m_whole : Nat → Int32) (m_row : Nat → Int32) {rv : Int32} {m_isDone' : Int32} {m_n' : Int32} {m_symbols' : Int32} {m_groups' : Int32} {m_tables' : Int32} {m_lays' : Int32} {m_laid' : Int32} {m_tape' : Nat → Int32} {m_map' : Nat → Int32} {m_places' : Nat → Int32} {m_symbol' : Nat → Int32} {m_lengths' : Nat → Int32} {m_taken' : Nat → Int32} {m_codes' : Nat → Int32} {m_list' : Nat → Int32} {m_weights' : Nat → Int32} {m_whole' : Nat → Int32} {m_row' : Nat → Int32} (hF : fMo_cost m_signs m_isDone m_n m_symbols m_groups m_tables m_lays m_laid m_block m_tape m_map m_places m_symbol m_lengths m_taken m_codes m_list m_weights m_whole m_row = some (rv, m_isDone', m_n', m_symbols', m_groups', m_tables', m_lays', m_laid', m_tape', m_map', m_places', m_symbol', m_lengths', m_taken', m_codes', m_list', m_weights', m_whole', m_row')) : CT l yX9_cost wsX9_cost rmMo_cost D (tysG cI cZ cO cG) [.ref a_self] [ob a_self 9 [Value.int m_signs, Value.ref a_block, Value.ref a_tape, Value.int m_bits, Value.int m_faultAt, Value.int m_isDone, Value.int m_n, Value.ref a_map, Value.ref a_places, Value.int m_symbols, Value.ref a_symbol, Value.int m_groups, Value.int m_tables, Value.ref a_lengths, Value.ref a_taken, Value.ref a_codes, Value.ref a_list, Value.ref a_weights, Value.ref a_whole, Value.int m_lays, Value.int m_laid, Value.ref a_row, Value.int m_read, Value.int m_wrong, Value.int m_readMany, Value.ref a_readMap, Value.int m_readTables, Value.int m_readGroups, Value.ref a_readTaken, Value.ref a_readLengths, Value.ref a_readCodes, Value.int m_found, Value.ref a_foundBlock], ia cI a_block 300 m_block, ia cZ a_tape 1500 m_tape, ia cI a_map 256 m_map, ia cI a_places 300 m_places, ia cI a_symbol 301 m_symbol, ia cI a_lengths 3870 m_lengths, ia cI a_taken 155 m_taken, ia cI a_codes 774 m_codes, ia cI a_list 256 m_list, ia cI a_weights 516 m_weights, ia cI a_whole 516 m_whole, ia cI a_row 3 m_row] (some (.int rv)) [ob a_self 9 [Value.int m_signs, Value.ref a_block, Value.ref a_tape, Value.int m_bits, Value.int m_faultAt, Value.int m_isDone', Value.int m_n', Value.ref a_map, Value.ref a_places, Value.int m_symbols', Value.ref a_symbol, Value.int m_groups', Value.int m_tables', Value.ref a_lengths, Value.ref a_taken, Value.ref a_codes, Value.ref a_list, Value.ref a_weights, Value.ref a_whole, Value.int m_lays', Value.int m_laid', Value.ref a_row, Value.int m_read, Value.int m_wrong, Value.int m_readMany, Value.ref a_readMap, Value.int m_readTables, Value.int m_readGroups, Value.ref a_readTaken, Value.ref a_readLengths, Value.ref a_readCodes, Value.int m_found, Value.ref a_foundBlock], ia cI a_block 300 m_block, ia cZ a_tape 1500 m_tape', ia cI a_map 256 m_map', ia cI a_places 300 m_places', ia cI a_symbol 301 m_symbol', ia cI a_lengths 3870 m_lengths', ia cI a_taken 155 m_taken', ia cI a_codes 774 m_codes', ia cI a_list 256 m_list', ia cI a_weights 516 m_weights', ia cI a_whole 516 m_whole', ia cI a_row 3 m_row'] := by
  refine CT.of (cc := cX9_cost) (maxL := 1) (ret := (some .int)) (by decide) rfl (Nat.le_of_ble_eq_true rfl) ?_
  intro p e s m below meth c A ls hx hb hr hml hts hown hlocks hK hA hP hD hS hl
  generalize hargs : ([.ref a_self] : List Value).toArray = args at hts ⊢
  generalize hQ : MQ below (ctQ D (some (.int rv)) [ob a_self 9 [Value.int m_signs, Value.ref a_block, Value.ref a_tape, Value.int m_bits, Value.int m_faultAt, Value.int m_isDone', Value.int m_n', Value.ref a_map, Value.ref a_places, Value.int m_symbols', Value.ref a_symbol, Value.int m_groups', Value.int m_tables', Value.ref a_lengths, Value.ref a_taken, Value.ref a_codes, Value.ref a_list, Value.ref a_weights, Value.ref a_whole, Value.int m_lays', Value.int m_laid', Value.ref a_row, Value.int m_read, Value.int m_wrong, Value.int m_readMany, Value.ref a_readMap, Value.int m_readTables, Value.int m_readGroups, Value.ref a_readTaken, Value.ref a_readLengths, Value.ref a_readCodes, Value.int m_found, Value.ref a_foundBlock], ia cI a_block 300 m_block, ia cZ a_tape 1500 m_tape', ia cI a_map 256 m_map', ia cI a_places 300 m_places', ia cI a_symbol 301 m_symbol', ia cI a_lengths 3870 m_lengths', ia cI a_taken 155 m_taken', ia cI a_codes 774 m_codes', ia cI a_list 256 m_list', ia cI a_weights 516 m_weights', ia cI a_whole 516 m_whole', ia cI a_row 3 m_row'] A) args s 0 0 A = Q
  have hl : lv_has ls 1 [(0, .ref a_self)] := hl
  have hW : WS D A s [ob a_self 9 [Value.int m_signs, Value.ref a_block, Value.ref a_tape, Value.int m_bits, Value.int m_faultAt, Value.int m_isDone, Value.int m_n, Value.ref a_map, Value.ref a_places, Value.int m_symbols, Value.ref a_symbol, Value.int m_groups, Value.int m_tables, Value.ref a_lengths, Value.ref a_taken, Value.ref a_codes, Value.ref a_list, Value.ref a_weights, Value.ref a_whole, Value.int m_lays, Value.int m_laid, Value.ref a_row, Value.int m_read, Value.int m_wrong, Value.int m_readMany, Value.ref a_readMap, Value.int m_readTables, Value.int m_readGroups, Value.ref a_readTaken, Value.ref a_readLengths, Value.ref a_readCodes, Value.int m_found, Value.ref a_foundBlock], ia cI a_block 300 m_block, ia cZ a_tape 1500 m_tape, ia cI a_map 256 m_map, ia cI a_places 300 m_places, ia cI a_symbol 301 m_symbol, ia cI a_lengths 3870 m_lengths, ia cI a_taken 155 m_taken, ia cI a_codes 774 m_codes, ia cI a_list 256 m_list, ia cI a_weights 516 m_weights, ia cI a_whole 516 m_whole, ia cI a_row 3 m_row] s.heap [] := ⟨hP, hD, hS⟩
  clear hP hD hS
  unfold fMo_cost at hF
  have hw0 := hts (Cond.fieldLink RX9 70 "MoveFrontsModel" "signs" "I") (by decide +kernel)
  have hw1 := hts (Cond.fieldLink RX9 148 "MoveFrontsModel" "laid" "I") (by decide +kernel)
  have hi9 : ∀ w ∈ u_ws RX9 TX9 33, w ∈ wsX9_cost := by decide +kernel
  refine lv_aload_n hx hb dX9_cost_0 rfl (lv_at hl 0 rfl) ?_
  refine va_get (D := D) (ci := 9) (v := .int m_signs) (C := RX9) (T := TX9) (N := 33) hx hb hts hi9 hown hK.1 hW.1 0 rfl rfl 0 (by decide) hw0 (fun _ h9 => h9) rfl dX9_cost_1 ?_
  refine lv_if_ne (tgt := 10) hx hb dX9_cost_4 (by decide) (fun c4 => ?_) (fun c4 => ?_)
  · rw [if_neg c4] at hF
    refine lv_aload_n hx hb dX9_cost_10 rfl (lv_at hl 0 rfl) ?_
    obtain ⟨m_isDone_11, m_n_11, m_symbols_11, m_groups_11, m_tables_11, m_map_11, m_places_11, m_symbol_11, m_lengths_11, m_taken_11, m_codes_11, m_list_11, m_weights_11, m_whole_11, e11, hF⟩ := bd14_some hF
    refine ctV (wn := [ob a_self 9 [Value.int m_signs, Value.ref a_block, Value.ref a_tape, Value.int m_bits, Value.int m_faultAt, Value.int m_isDone_11, Value.int m_n_11, Value.ref a_map, Value.ref a_places, Value.int m_symbols_11, Value.ref a_symbol, Value.int m_groups_11, Value.int m_tables_11, Value.ref a_lengths, Value.ref a_taken, Value.ref a_codes, Value.ref a_list, Value.ref a_weights, Value.ref a_whole, Value.int m_lays, Value.int m_laid, Value.ref a_row, Value.int m_read, Value.int m_wrong, Value.int m_readMany, Value.ref a_readMap, Value.int m_readTables, Value.int m_readGroups, Value.ref a_readTaken, Value.ref a_readLengths, Value.ref a_readCodes, Value.int m_found, Value.ref a_foundBlock], ia cI a_block 300 m_block, ia cZ a_tape 1500 m_tape, ia cI a_map 256 m_map_11, ia cI a_places 300 m_places_11, ia cI a_symbol 301 m_symbol_11, ia cI a_lengths 3870 m_lengths_11, ia cI a_taken 155 m_taken_11, ia cI a_codes 774 m_codes_11, ia cI a_list 256 m_list_11, ia cI a_weights 516 m_weights_11, ia cI a_whole 516 m_whole_11, ia cI a_row 3 m_row]) (r := (RX9, TX9, 33)) (As := []) (rest := []) hx hb hml hown hts hK hW hA hl.1 (kMo_work l D cI cZ cO cG a_self a_block a_tape a_map a_places a_symbol a_lengths a_taken a_codes a_list a_weights a_whole a_row a_readMap a_readTaken a_readLengths a_readCodes a_foundBlock m_signs m_bits m_faultAt m_isDone m_n m_symbols m_groups m_tables m_lays m_laid m_read m_wrong m_readMany m_readTables m_readGroups m_found m_block m_map m_places m_symbol m_lengths m_taken m_codes m_list m_weights m_whole e11) (cwV 0 hts gX9_cost_X9_work rfl rfl rfl (by decide +kernel) ⟨Nat.le_of_ble_eq_true rfl, Nat.le_of_ble_eq_true rfl⟩) 9 0 rfl rfl [0, 1, 3, 4, 5, 6, 7, 8, 9, 10, 11] [2, 12] 13 rfl rfl rfl rfl [ia cZ a_tape 1500 m_tape, ia cI a_row 3 m_row] rfl rfl rfl rfl rfl (Nat.le_of_ble_eq_true rfl) rfl ⟨Nat.zero_le _, Nat.zero_le _⟩ dX9_cost_11 (fun H locs hW => ?_)
    refine lv_aload_n hx hb dX9_cost_14 rfl (lv_at hl 0 rfl) ?_
    refine lv_iconst (v := 0) hx hb dX9_cost_15 (by decide) ?_
    obtain ⟨m_lays_16, m_laid_16, m_tape_16, m_row_16, e16, hF⟩ := bd4_some hF
    refine ctV (wn := [ob a_self 9 [Value.int m_signs, Value.ref a_block, Value.ref a_tape, Value.int m_bits, Value.int m_faultAt, Value.int m_isDone_11, Value.int m_n_11, Value.ref a_map, Value.ref a_places, Value.int m_symbols_11, Value.ref a_symbol, Value.int m_groups_11, Value.int m_tables_11, Value.ref a_lengths, Value.ref a_taken, Value.ref a_codes, Value.ref a_list, Value.ref a_weights, Value.ref a_whole, Value.int m_lays_16, Value.int m_laid_16, Value.ref a_row, Value.int m_read, Value.int m_wrong, Value.int m_readMany, Value.ref a_readMap, Value.int m_readTables, Value.int m_readGroups, Value.ref a_readTaken, Value.ref a_readLengths, Value.ref a_readCodes, Value.int m_found, Value.ref a_foundBlock], ia cI a_block 300 m_block, ia cZ a_tape 1500 m_tape_16, ia cI a_map 256 m_map_11, ia cI a_places 300 m_places_11, ia cI a_symbol 301 m_symbol_11, ia cI a_lengths 3870 m_lengths_11, ia cI a_taken 155 m_taken_11, ia cI a_codes 774 m_codes_11, ia cI a_list 256 m_list_11, ia cI a_weights 516 m_weights_11, ia cI a_whole 516 m_whole_11, ia cI a_row 3 m_row_16]) (r := (RX9, TX9, 33)) (As := [.int (0 : Int32)]) (rest := []) hx hb hml hown hts hK hW hA hl.1 (kMo_lay l D cI cZ cO cG a_self a_block a_tape a_map a_places a_symbol a_lengths a_taken a_codes a_list a_weights a_whole a_row a_readMap a_readTaken a_readLengths a_readCodes a_foundBlock m_signs m_bits m_faultAt m_isDone_11 m_n_11 m_symbols_11 m_groups_11 m_tables_11 m_lays m_laid m_read m_wrong m_readMany m_readTables m_readGroups m_found m_tape m_map_11 m_symbol_11 m_lengths_11 m_taken_11 m_codes_11 m_row (0 : Int32) e16) (cwV 1 hts gX9_cost_X9_lay rfl rfl rfl (by decide +kernel) ⟨Nat.le_of_ble_eq_true rfl, Nat.le_of_ble_eq_true rfl⟩) 9 0 rfl rfl [0, 2, 3, 5, 6, 7, 8, 12] [1, 4, 9, 10, 11] 13 rfl rfl rfl rfl [ia cI a_block 300 m_block, ia cI a_places 300 m_places_11, ia cI a_list 256 m_list_11, ia cI a_weights 516 m_weights_11, ia cI a_whole 516 m_whole_11] rfl rfl rfl rfl rfl (Nat.le_of_ble_eq_true rfl) rfl ⟨Nat.zero_le _, Nat.zero_le _⟩ dX9_cost_16 (fun H locs hW => ?_)
    refine lv_aload_n hx hb dX9_cost_19 rfl (lv_at hl 0 rfl) ?_
    refine va_get (D := D) (ci := 9) (v := .int m_laid_16) (C := RX9) (T := TX9) (N := 33) hx hb hts hi9 hown hK.1 hW.1 0 rfl rfl 20 (by decide) hw1 (fun _ h9 => h9) rfl dX9_cost_20 ?_
    cases hF
    subst hQ
    exact ct_iret hx hb hr hlocks hW.1 hW.2.2 dX9_cost_23
  · rw [if_pos c4] at hF
    refine lv_bipush (v := (-3)) hx hb dX9_cost_7 (by decide) ?_
    cases hF
    subst hQ
    exact ct_iret hx hb hr hlocks hW.1 hW.2.2 dX9_cost_9
abbrev rmMo_write : Room := { frames := 3, cells := 0, slots := 0, locals := 72 }
set_option maxHeartbeats 4000000 in
set_option maxRecDepth 100000 in
theorem kMo_write (l : Launch) (D : va_G) (cI cZ cO cG : ClassId) (a_self : Nat) (a_block : Nat) (a_tape : Nat) (a_map : Nat) (a_places : Nat) (a_symbol : Nat) (a_lengths : Nat) (a_taken : Nat) (a_codes : Nat) (a_list : Nat) (a_weights : Nat) (a_whole : Nat) (a_row : Nat) (a_readMap : Nat) (a_readTaken : Nat) (a_readLengths : Nat) (a_readCodes : Nat) (a_foundBlock : Nat) (m_signs : Int32) (m_bits : Int32) (m_faultAt : Int32) (m_isDone : Int32) (m_n : Int32) (m_symbols : Int32) (m_groups : Int32) (m_tables : Int32) (m_lays : Int32) (m_laid : Int32) (m_read : Int32) (m_wrong : Int32) (m_readMany : Int32) (m_readTables : Int32) (m_readGroups : Int32) (m_found : Int32) (m_block : Nat → Int32) (m_tape : Nat → Int32) (m_map : Nat → Int32) (m_places : Nat → Int32) (m_symbol : Nat → Int32) (m_lengths : Nat → Int32) (m_taken : Nat → Int32) (m_codes : Nat → Int32) (m_list : Nat → Int32) (m_weights : Nat → Int32) (m_whole : Nat → Int32) (m_row : Nat → Int32) {rv : Int32} {m_bits' : Int32} {m_isDone' : Int32} {m_n' : Int32} {m_symbols' : Int32} {m_groups' : Int32} {m_tables' : Int32} {m_lays' : Int32} {m_laid' : Int32} {m_tape' : Nat → Int32} {m_map' : Nat → Int32} {m_places' : Nat → Int32} {m_symbol' : Nat → Int32} {m_lengths' : Nat → Int32} {m_taken' : Nat → Int32} {m_codes' : Nat → Int32} {m_list' : Nat → Int32} {m_weights' : Nat → Int32} {m_whole' : Nat → Int32} {m_row' : Nat → Int32} (hF : fMo_write m_signs m_bits m_isDone m_n m_symbols m_groups m_tables m_lays m_laid m_block m_tape m_map m_places m_symbol m_lengths m_taken m_codes m_list m_weights m_whole m_row = some (rv, m_bits', m_isDone', m_n', m_symbols', m_groups', m_tables', m_lays', m_laid', m_tape', m_map', m_places', m_symbol', m_lengths', m_taken', m_codes', m_list', m_weights', m_whole', m_row')) : CT l yX9_write wsX9_write rmMo_write D (tysG cI cZ cO cG) [.ref a_self] [ob a_self 9 [Value.int m_signs, Value.ref a_block, Value.ref a_tape, Value.int m_bits, Value.int m_faultAt, Value.int m_isDone, Value.int m_n, Value.ref a_map, Value.ref a_places, Value.int m_symbols, Value.ref a_symbol, Value.int m_groups, Value.int m_tables, Value.ref a_lengths, Value.ref a_taken, Value.ref a_codes, Value.ref a_list, Value.ref a_weights, Value.ref a_whole, Value.int m_lays, Value.int m_laid, Value.ref a_row, Value.int m_read, Value.int m_wrong, Value.int m_readMany, Value.ref a_readMap, Value.int m_readTables, Value.int m_readGroups, Value.ref a_readTaken, Value.ref a_readLengths, Value.ref a_readCodes, Value.int m_found, Value.ref a_foundBlock], ia cI a_block 300 m_block, ia cZ a_tape 1500 m_tape, ia cI a_map 256 m_map, ia cI a_places 300 m_places, ia cI a_symbol 301 m_symbol, ia cI a_lengths 3870 m_lengths, ia cI a_taken 155 m_taken, ia cI a_codes 774 m_codes, ia cI a_list 256 m_list, ia cI a_weights 516 m_weights, ia cI a_whole 516 m_whole, ia cI a_row 3 m_row] (some (.int rv)) [ob a_self 9 [Value.int m_signs, Value.ref a_block, Value.ref a_tape, Value.int m_bits', Value.int m_faultAt, Value.int m_isDone', Value.int m_n', Value.ref a_map, Value.ref a_places, Value.int m_symbols', Value.ref a_symbol, Value.int m_groups', Value.int m_tables', Value.ref a_lengths, Value.ref a_taken, Value.ref a_codes, Value.ref a_list, Value.ref a_weights, Value.ref a_whole, Value.int m_lays', Value.int m_laid', Value.ref a_row, Value.int m_read, Value.int m_wrong, Value.int m_readMany, Value.ref a_readMap, Value.int m_readTables, Value.int m_readGroups, Value.ref a_readTaken, Value.ref a_readLengths, Value.ref a_readCodes, Value.int m_found, Value.ref a_foundBlock], ia cI a_block 300 m_block, ia cZ a_tape 1500 m_tape', ia cI a_map 256 m_map', ia cI a_places 300 m_places', ia cI a_symbol 301 m_symbol', ia cI a_lengths 3870 m_lengths', ia cI a_taken 155 m_taken', ia cI a_codes 774 m_codes', ia cI a_list 256 m_list', ia cI a_weights 516 m_weights', ia cI a_whole 516 m_whole', ia cI a_row 3 m_row'] := by
  refine CT.of (cc := cX9_write) (maxL := 1) (ret := (some .int)) (by decide) rfl (Nat.le_of_ble_eq_true rfl) ?_
  intro p e s m below meth c A ls hx hb hr hml hts hown hlocks hK hA hP hD hS hl
  generalize hargs : ([.ref a_self] : List Value).toArray = args at hts ⊢
  generalize hQ : MQ below (ctQ D (some (.int rv)) [ob a_self 9 [Value.int m_signs, Value.ref a_block, Value.ref a_tape, Value.int m_bits', Value.int m_faultAt, Value.int m_isDone', Value.int m_n', Value.ref a_map, Value.ref a_places, Value.int m_symbols', Value.ref a_symbol, Value.int m_groups', Value.int m_tables', Value.ref a_lengths, Value.ref a_taken, Value.ref a_codes, Value.ref a_list, Value.ref a_weights, Value.ref a_whole, Value.int m_lays', Value.int m_laid', Value.ref a_row, Value.int m_read, Value.int m_wrong, Value.int m_readMany, Value.ref a_readMap, Value.int m_readTables, Value.int m_readGroups, Value.ref a_readTaken, Value.ref a_readLengths, Value.ref a_readCodes, Value.int m_found, Value.ref a_foundBlock], ia cI a_block 300 m_block, ia cZ a_tape 1500 m_tape', ia cI a_map 256 m_map', ia cI a_places 300 m_places', ia cI a_symbol 301 m_symbol', ia cI a_lengths 3870 m_lengths', ia cI a_taken 155 m_taken', ia cI a_codes 774 m_codes', ia cI a_list 256 m_list', ia cI a_weights 516 m_weights', ia cI a_whole 516 m_whole', ia cI a_row 3 m_row'] A) args s 0 0 A = Q
  have hl : lv_has ls 1 [(0, .ref a_self)] := hl
  have hW : WS D A s [ob a_self 9 [Value.int m_signs, Value.ref a_block, Value.ref a_tape, Value.int m_bits, Value.int m_faultAt, Value.int m_isDone, Value.int m_n, Value.ref a_map, Value.ref a_places, Value.int m_symbols, Value.ref a_symbol, Value.int m_groups, Value.int m_tables, Value.ref a_lengths, Value.ref a_taken, Value.ref a_codes, Value.ref a_list, Value.ref a_weights, Value.ref a_whole, Value.int m_lays, Value.int m_laid, Value.ref a_row, Value.int m_read, Value.int m_wrong, Value.int m_readMany, Value.ref a_readMap, Value.int m_readTables, Value.int m_readGroups, Value.ref a_readTaken, Value.ref a_readLengths, Value.ref a_readCodes, Value.int m_found, Value.ref a_foundBlock], ia cI a_block 300 m_block, ia cZ a_tape 1500 m_tape, ia cI a_map 256 m_map, ia cI a_places 300 m_places, ia cI a_symbol 301 m_symbol, ia cI a_lengths 3870 m_lengths, ia cI a_taken 155 m_taken, ia cI a_codes 774 m_codes, ia cI a_list 256 m_list, ia cI a_weights 516 m_weights, ia cI a_whole 516 m_whole, ia cI a_row 3 m_row] s.heap [] := ⟨hP, hD, hS⟩
  clear hP hD hS
  unfold fMo_write at hF
  have hw0 := hts (Cond.fieldLink RX9 70 "MoveFrontsModel" "signs" "I") (by decide +kernel)
  have hw1 := hts (Cond.fieldLink RX9 148 "MoveFrontsModel" "laid" "I") (by decide +kernel)
  have hw2 := hts (Cond.fieldLink RX9 138 "MoveFrontsModel" "bits" "I") (by decide +kernel)
  have hi9 : ∀ w ∈ u_ws RX9 TX9 33, w ∈ wsX9_write := by decide +kernel
  refine lv_aload_n hx hb dX9_write_0 rfl (lv_at hl 0 rfl) ?_
  refine va_get (D := D) (ci := 9) (v := .int m_signs) (C := RX9) (T := TX9) (N := 33) hx hb hts hi9 hown hK.1 hW.1 0 rfl rfl 0 (by decide) hw0 (fun _ h9 => h9) rfl dX9_write_1 ?_
  refine lv_if_ne (tgt := 10) hx hb dX9_write_4 (by decide) (fun c4 => ?_) (fun c4 => ?_)
  · rw [if_neg c4] at hF
    refine lv_aload_n hx hb dX9_write_10 rfl (lv_at hl 0 rfl) ?_
    obtain ⟨m_isDone_11, m_n_11, m_symbols_11, m_groups_11, m_tables_11, m_map_11, m_places_11, m_symbol_11, m_lengths_11, m_taken_11, m_codes_11, m_list_11, m_weights_11, m_whole_11, e11, hF⟩ := bd14_some hF
    refine ctV (wn := [ob a_self 9 [Value.int m_signs, Value.ref a_block, Value.ref a_tape, Value.int m_bits, Value.int m_faultAt, Value.int m_isDone_11, Value.int m_n_11, Value.ref a_map, Value.ref a_places, Value.int m_symbols_11, Value.ref a_symbol, Value.int m_groups_11, Value.int m_tables_11, Value.ref a_lengths, Value.ref a_taken, Value.ref a_codes, Value.ref a_list, Value.ref a_weights, Value.ref a_whole, Value.int m_lays, Value.int m_laid, Value.ref a_row, Value.int m_read, Value.int m_wrong, Value.int m_readMany, Value.ref a_readMap, Value.int m_readTables, Value.int m_readGroups, Value.ref a_readTaken, Value.ref a_readLengths, Value.ref a_readCodes, Value.int m_found, Value.ref a_foundBlock], ia cI a_block 300 m_block, ia cZ a_tape 1500 m_tape, ia cI a_map 256 m_map_11, ia cI a_places 300 m_places_11, ia cI a_symbol 301 m_symbol_11, ia cI a_lengths 3870 m_lengths_11, ia cI a_taken 155 m_taken_11, ia cI a_codes 774 m_codes_11, ia cI a_list 256 m_list_11, ia cI a_weights 516 m_weights_11, ia cI a_whole 516 m_whole_11, ia cI a_row 3 m_row]) (r := (RX9, TX9, 33)) (As := []) (rest := []) hx hb hml hown hts hK hW hA hl.1 (kMo_work l D cI cZ cO cG a_self a_block a_tape a_map a_places a_symbol a_lengths a_taken a_codes a_list a_weights a_whole a_row a_readMap a_readTaken a_readLengths a_readCodes a_foundBlock m_signs m_bits m_faultAt m_isDone m_n m_symbols m_groups m_tables m_lays m_laid m_read m_wrong m_readMany m_readTables m_readGroups m_found m_block m_map m_places m_symbol m_lengths m_taken m_codes m_list m_weights m_whole e11) (cwV 0 hts gX9_write_X9_work rfl rfl rfl (by decide +kernel) ⟨Nat.le_of_ble_eq_true rfl, Nat.le_of_ble_eq_true rfl⟩) 9 0 rfl rfl [0, 1, 3, 4, 5, 6, 7, 8, 9, 10, 11] [2, 12] 13 rfl rfl rfl rfl [ia cZ a_tape 1500 m_tape, ia cI a_row 3 m_row] rfl rfl rfl rfl rfl (Nat.le_of_ble_eq_true rfl) rfl ⟨Nat.zero_le _, Nat.zero_le _⟩ dX9_write_11 (fun H locs hW => ?_)
    refine lv_aload_n hx hb dX9_write_14 rfl (lv_at hl 0 rfl) ?_
    refine lv_iconst (v := 0) hx hb dX9_write_15 (by decide) ?_
    obtain ⟨m_lays_16, m_laid_16, m_tape_16, m_row_16, e16, hF⟩ := bd4_some hF
    refine ctV (wn := [ob a_self 9 [Value.int m_signs, Value.ref a_block, Value.ref a_tape, Value.int m_bits, Value.int m_faultAt, Value.int m_isDone_11, Value.int m_n_11, Value.ref a_map, Value.ref a_places, Value.int m_symbols_11, Value.ref a_symbol, Value.int m_groups_11, Value.int m_tables_11, Value.ref a_lengths, Value.ref a_taken, Value.ref a_codes, Value.ref a_list, Value.ref a_weights, Value.ref a_whole, Value.int m_lays_16, Value.int m_laid_16, Value.ref a_row, Value.int m_read, Value.int m_wrong, Value.int m_readMany, Value.ref a_readMap, Value.int m_readTables, Value.int m_readGroups, Value.ref a_readTaken, Value.ref a_readLengths, Value.ref a_readCodes, Value.int m_found, Value.ref a_foundBlock], ia cI a_block 300 m_block, ia cZ a_tape 1500 m_tape_16, ia cI a_map 256 m_map_11, ia cI a_places 300 m_places_11, ia cI a_symbol 301 m_symbol_11, ia cI a_lengths 3870 m_lengths_11, ia cI a_taken 155 m_taken_11, ia cI a_codes 774 m_codes_11, ia cI a_list 256 m_list_11, ia cI a_weights 516 m_weights_11, ia cI a_whole 516 m_whole_11, ia cI a_row 3 m_row_16]) (r := (RX9, TX9, 33)) (As := [.int (0 : Int32)]) (rest := []) hx hb hml hown hts hK hW hA hl.1 (kMo_lay l D cI cZ cO cG a_self a_block a_tape a_map a_places a_symbol a_lengths a_taken a_codes a_list a_weights a_whole a_row a_readMap a_readTaken a_readLengths a_readCodes a_foundBlock m_signs m_bits m_faultAt m_isDone_11 m_n_11 m_symbols_11 m_groups_11 m_tables_11 m_lays m_laid m_read m_wrong m_readMany m_readTables m_readGroups m_found m_tape m_map_11 m_symbol_11 m_lengths_11 m_taken_11 m_codes_11 m_row (0 : Int32) e16) (cwV 1 hts gX9_write_X9_lay rfl rfl rfl (by decide +kernel) ⟨Nat.le_of_ble_eq_true rfl, Nat.le_of_ble_eq_true rfl⟩) 9 0 rfl rfl [0, 2, 3, 5, 6, 7, 8, 12] [1, 4, 9, 10, 11] 13 rfl rfl rfl rfl [ia cI a_block 300 m_block, ia cI a_places 300 m_places_11, ia cI a_list 256 m_list_11, ia cI a_weights 516 m_weights_11, ia cI a_whole 516 m_whole_11] rfl rfl rfl rfl rfl (Nat.le_of_ble_eq_true rfl) rfl ⟨Nat.zero_le _, Nat.zero_le _⟩ dX9_write_16 (fun H locs hW => ?_)
    refine lv_aload_n hx hb dX9_write_19 rfl (lv_at hl 0 rfl) ?_
    refine va_get (D := D) (ci := 9) (v := .int m_laid_16) (C := RX9) (T := TX9) (N := 33) hx hb hts hi9 hown hK.1 hW.1 0 rfl rfl 20 (by decide) hw1 (fun _ h9 => h9) rfl dX9_write_20 ?_
    refine lv_sipush (v := 1500) hx hb dX9_write_23 (by decide) ?_
    refine lv_icmp_le (tgt := 32) hx hb dX9_write_26 (by decide) (fun c26 => ?_) (fun c26 => ?_)
    · rw [if_pos c26] at hF
      refine lv_aload_n hx hb dX9_write_32 rfl (lv_at hl 0 rfl) ?_
      refine lv_iconst (v := 1) hx hb dX9_write_33 (by decide) ?_
      obtain ⟨m_lays_34, m_laid_34, m_tape_34, m_row_34, e34, hF⟩ := bd4_some hF
      refine ctV (wn := [ob a_self 9 [Value.int m_signs, Value.ref a_block, Value.ref a_tape, Value.int m_bits, Value.int m_faultAt, Value.int m_isDone_11, Value.int m_n_11, Value.ref a_map, Value.ref a_places, Value.int m_symbols_11, Value.ref a_symbol, Value.int m_groups_11, Value.int m_tables_11, Value.ref a_lengths, Value.ref a_taken, Value.ref a_codes, Value.ref a_list, Value.ref a_weights, Value.ref a_whole, Value.int m_lays_34, Value.int m_laid_34, Value.ref a_row, Value.int m_read, Value.int m_wrong, Value.int m_readMany, Value.ref a_readMap, Value.int m_readTables, Value.int m_readGroups, Value.ref a_readTaken, Value.ref a_readLengths, Value.ref a_readCodes, Value.int m_found, Value.ref a_foundBlock], ia cI a_block 300 m_block, ia cZ a_tape 1500 m_tape_34, ia cI a_map 256 m_map_11, ia cI a_places 300 m_places_11, ia cI a_symbol 301 m_symbol_11, ia cI a_lengths 3870 m_lengths_11, ia cI a_taken 155 m_taken_11, ia cI a_codes 774 m_codes_11, ia cI a_list 256 m_list_11, ia cI a_weights 516 m_weights_11, ia cI a_whole 516 m_whole_11, ia cI a_row 3 m_row_34]) (r := (RX9, TX9, 33)) (As := [.int (1 : Int32)]) (rest := []) hx hb hml hown hts hK hW hA hl.1 (kMo_lay l D cI cZ cO cG a_self a_block a_tape a_map a_places a_symbol a_lengths a_taken a_codes a_list a_weights a_whole a_row a_readMap a_readTaken a_readLengths a_readCodes a_foundBlock m_signs m_bits m_faultAt m_isDone_11 m_n_11 m_symbols_11 m_groups_11 m_tables_11 m_lays_16 m_laid_16 m_read m_wrong m_readMany m_readTables m_readGroups m_found m_tape_16 m_map_11 m_symbol_11 m_lengths_11 m_taken_11 m_codes_11 m_row_16 (1 : Int32) e34) (cwV 1 hts gX9_write_X9_lay rfl rfl rfl (by decide +kernel) ⟨Nat.le_of_ble_eq_true rfl, Nat.le_of_ble_eq_true rfl⟩) 9 0 rfl rfl [0, 2, 3, 5, 6, 7, 8, 12] [1, 4, 9, 10, 11] 13 rfl rfl rfl rfl [ia cI a_block 300 m_block, ia cI a_places 300 m_places_11, ia cI a_list 256 m_list_11, ia cI a_weights 516 m_weights_11, ia cI a_whole 516 m_whole_11] rfl rfl rfl rfl rfl (Nat.le_of_ble_eq_true rfl) rfl ⟨Nat.zero_le _, Nat.zero_le _⟩ dX9_write_34 (fun H locs hW => ?_)
      refine lv_aload_n hx hb dX9_write_37 rfl (lv_at hl 0 rfl) ?_
      refine lv_aload_n hx hb dX9_write_38 rfl (lv_at hl 0 rfl) ?_
      refine va_get (D := D) (ci := 9) (v := .int m_laid_34) (C := RX9) (T := TX9) (N := 33) hx hb hts hi9 hown hK.1 hW.1 0 rfl rfl 20 (by decide) hw1 (fun _ h9 => h9) rfl dX9_write_39 ?_
      refine va_put (D := D) (ci := 9) (v := .int m_laid_34) (ty := .int) (C := RX9) (T := TX9) (N := 33) hx hb hts hi9 tyX9 tyX9_ok nmX9 hown hK.1 hW.1 hW.2.1 hW.2.2 0 rfl rfl 3 (by decide) hw2 (fun _ h9 => h9) rfl (by decide +kernel) rfl rfl (Nat.le_of_ble_eq_true rfl) dX9_write_42 (fun H locs hP hD hS => ?_)
      have hW : WS D A s [ob a_self 9 [Value.int m_signs, Value.ref a_block, Value.ref a_tape, Value.int m_laid_34, Value.int m_faultAt, Value.int m_isDone_11, Value.int m_n_11, Value.ref a_map, Value.ref a_places, Value.int m_symbols_11, Value.ref a_symbol, Value.int m_groups_11, Value.int m_tables_11, Value.ref a_lengths, Value.ref a_taken, Value.ref a_codes, Value.ref a_list, Value.ref a_weights, Value.ref a_whole, Value.int m_lays_34, Value.int m_laid_34, Value.ref a_row, Value.int m_read, Value.int m_wrong, Value.int m_readMany, Value.ref a_readMap, Value.int m_readTables, Value.int m_readGroups, Value.ref a_readTaken, Value.ref a_readLengths, Value.ref a_readCodes, Value.int m_found, Value.ref a_foundBlock], ia cI a_block 300 m_block, ia cZ a_tape 1500 m_tape_34, ia cI a_map 256 m_map_11, ia cI a_places 300 m_places_11, ia cI a_symbol 301 m_symbol_11, ia cI a_lengths 3870 m_lengths_11, ia cI a_taken 155 m_taken_11, ia cI a_codes 774 m_codes_11, ia cI a_list 256 m_list_11, ia cI a_weights 516 m_weights_11, ia cI a_whole 516 m_whole_11, ia cI a_row 3 m_row_34] H locs := ⟨hP, hD, hS⟩
      refine lv_aload_n hx hb dX9_write_45 rfl (lv_at hl 0 rfl) ?_
      refine va_get (D := D) (ci := 9) (v := .int m_laid_34) (C := RX9) (T := TX9) (N := 33) hx hb hts hi9 hown hK.1 hW.1 0 rfl rfl 3 (by decide) hw2 (fun _ h9 => h9) rfl dX9_write_46 ?_
      cases hF
      subst hQ
      exact ct_iret hx hb hr hlocks hW.1 hW.2.2 dX9_write_49
    · rw [if_neg c26] at hF
      refine lv_bipush (v := (-4)) hx hb dX9_write_29 (by decide) ?_
      cases hF
      subst hQ
      exact ct_iret hx hb hr hlocks hW.1 hW.2.2 dX9_write_31
  · rw [if_pos c4] at hF
    refine lv_bipush (v := (-3)) hx hb dX9_write_7 (by decide) ?_
    cases hF
    subst hQ
    exact ct_iret hx hb hr hlocks hW.1 hW.2.2 dX9_write_9
abbrev rmMo_more : Room := { frames := 0, cells := 0, slots := 0, locals := 0 }
set_option maxHeartbeats 4000000 in
set_option maxRecDepth 100000 in
theorem kMo_more (l : Launch) (D : va_G) (cI cZ cO cG : ClassId) (a_self : Nat) (a_block : Nat) (a_tape : Nat) (a_map : Nat) (a_places : Nat) (a_symbol : Nat) (a_lengths : Nat) (a_taken : Nat) (a_codes : Nat) (a_list : Nat) (a_weights : Nat) (a_whole : Nat) (a_row : Nat) (a_readMap : Nat) (a_readTaken : Nat) (a_readLengths : Nat) (a_readCodes : Nat) (a_foundBlock : Nat) (m_signs : Int32) (m_bits : Int32) (m_faultAt : Int32) (m_isDone : Int32) (m_n : Int32) (m_symbols : Int32) (m_groups : Int32) (m_tables : Int32) (m_lays : Int32) (m_laid : Int32) (m_read : Int32) (m_wrong : Int32) (m_readMany : Int32) (m_readTables : Int32) (m_readGroups : Int32) (m_found : Int32) (m_tape : Nat → Int32) (x1 : Int32) {rv : Int32} {m_bits' : Int32} {m_tape' : Nat → Int32} (hF : fMo_more m_bits m_tape x1 = some (rv, m_bits', m_tape')) : CT l yX9_more wsX9_more rmMo_more D (tysG cI cZ cO cG) [.ref a_self, .int x1] [ob a_self 9 [Value.int m_signs, Value.ref a_block, Value.ref a_tape, Value.int m_bits, Value.int m_faultAt, Value.int m_isDone, Value.int m_n, Value.ref a_map, Value.ref a_places, Value.int m_symbols, Value.ref a_symbol, Value.int m_groups, Value.int m_tables, Value.ref a_lengths, Value.ref a_taken, Value.ref a_codes, Value.ref a_list, Value.ref a_weights, Value.ref a_whole, Value.int m_lays, Value.int m_laid, Value.ref a_row, Value.int m_read, Value.int m_wrong, Value.int m_readMany, Value.ref a_readMap, Value.int m_readTables, Value.int m_readGroups, Value.ref a_readTaken, Value.ref a_readLengths, Value.ref a_readCodes, Value.int m_found, Value.ref a_foundBlock], ia cZ a_tape 1500 m_tape] (some (.int rv)) [ob a_self 9 [Value.int m_signs, Value.ref a_block, Value.ref a_tape, Value.int m_bits', Value.int m_faultAt, Value.int m_isDone, Value.int m_n, Value.ref a_map, Value.ref a_places, Value.int m_symbols, Value.ref a_symbol, Value.int m_groups, Value.int m_tables, Value.ref a_lengths, Value.ref a_taken, Value.ref a_codes, Value.ref a_list, Value.ref a_weights, Value.ref a_whole, Value.int m_lays, Value.int m_laid, Value.ref a_row, Value.int m_read, Value.int m_wrong, Value.int m_readMany, Value.ref a_readMap, Value.int m_readTables, Value.int m_readGroups, Value.ref a_readTaken, Value.ref a_readLengths, Value.ref a_readCodes, Value.int m_found, Value.ref a_foundBlock], ia cZ a_tape 1500 m_tape'] := by
  refine CT.of (cc := cX9_more) (maxL := 2) (ret := (some .int)) (by decide) rfl (Nat.le_of_ble_eq_true rfl) ?_
  intro p e s m below meth c A ls hx hb hr hml hts hown hlocks hK hA hP hD hS hl
  generalize hargs : ([.ref a_self, .int x1] : List Value).toArray = args at hts ⊢
  generalize hQ : MQ below (ctQ D (some (.int rv)) [ob a_self 9 [Value.int m_signs, Value.ref a_block, Value.ref a_tape, Value.int m_bits', Value.int m_faultAt, Value.int m_isDone, Value.int m_n, Value.ref a_map, Value.ref a_places, Value.int m_symbols, Value.ref a_symbol, Value.int m_groups, Value.int m_tables, Value.ref a_lengths, Value.ref a_taken, Value.ref a_codes, Value.ref a_list, Value.ref a_weights, Value.ref a_whole, Value.int m_lays, Value.int m_laid, Value.ref a_row, Value.int m_read, Value.int m_wrong, Value.int m_readMany, Value.ref a_readMap, Value.int m_readTables, Value.int m_readGroups, Value.ref a_readTaken, Value.ref a_readLengths, Value.ref a_readCodes, Value.int m_found, Value.ref a_foundBlock], ia cZ a_tape 1500 m_tape'] A) args s 0 0 A = Q
  have hl : lv_has ls 2 [(0, .ref a_self), (1, .int x1)] := hl
  have hW : WS D A s [ob a_self 9 [Value.int m_signs, Value.ref a_block, Value.ref a_tape, Value.int m_bits, Value.int m_faultAt, Value.int m_isDone, Value.int m_n, Value.ref a_map, Value.ref a_places, Value.int m_symbols, Value.ref a_symbol, Value.int m_groups, Value.int m_tables, Value.ref a_lengths, Value.ref a_taken, Value.ref a_codes, Value.ref a_list, Value.ref a_weights, Value.ref a_whole, Value.int m_lays, Value.int m_laid, Value.ref a_row, Value.int m_read, Value.int m_wrong, Value.int m_readMany, Value.ref a_readMap, Value.int m_readTables, Value.int m_readGroups, Value.ref a_readTaken, Value.ref a_readLengths, Value.ref a_readCodes, Value.int m_found, Value.ref a_foundBlock], ia cZ a_tape 1500 m_tape] s.heap [] := ⟨hP, hD, hS⟩
  clear hP hD hS
  unfold fMo_more at hF
  have hw0 := hts (Cond.fieldLink RX9 138 "MoveFrontsModel" "bits" "I") (by decide +kernel)
  have hw1 := hts (Cond.fieldLink RX9 13 "MoveFrontsModel" "tape" "[Z") (by decide +kernel)
  have hi9 : ∀ w ∈ u_ws RX9 TX9 33, w ∈ wsX9_more := by decide +kernel
  refine lv_aload_n hx hb dX9_more_0 rfl (lv_at hl 0 rfl) ?_
  refine va_get (D := D) (ci := 9) (v := .int m_bits) (C := RX9) (T := TX9) (N := 33) hx hb hts hi9 hown hK.1 hW.1 0 rfl rfl 3 (by decide) hw0 (fun _ h9 => h9) rfl dX9_more_1 ?_
  refine lv_sipush (v := 1500) hx hb dX9_more_4 (by decide) ?_
  refine lv_icmp_ne (tgt := 13) hx hb dX9_more_7 (by decide) (fun c7 => ?_) (fun c7 => ?_)
  · rw [if_neg c7] at hF
    refine lv_aload_n hx hb dX9_more_13 rfl (lv_at hl 0 rfl) ?_
    refine va_get (D := D) (ci := 9) (v := .ref a_tape) (C := RX9) (T := TX9) (N := 33) hx hb hts hi9 hown hK.1 hW.1 0 rfl rfl 2 (by decide) hw1 (fun _ h9 => h9) rfl dX9_more_14 ?_
    refine lv_aload_n hx hb dX9_more_17 rfl (lv_at hl 0 rfl) ?_
    refine va_get (D := D) (ci := 9) (v := .int m_bits) (C := RX9) (T := TX9) (N := 33) hx hb hts hi9 hown hK.1 hW.1 0 rfl rfl 3 (by decide) hw0 (fun _ h9 => h9) rfl dX9_more_18 ?_
    refine lv_iload_n hx hb dX9_more_21 rfl (lv_at hl 1 rfl) ?_
    obtain ⟨g22, hF⟩ := gdI_some hF
    refine va_zast hx hb hK.1 hW.1 hW.2.1 hW.2.2 1 1 rfl rfl g22 dX9_more_22 (fun H locs hP hD hS => ?_)
    have hW : WS D A s [ob a_self 9 [Value.int m_signs, Value.ref a_block, Value.ref a_tape, Value.int m_bits, Value.int m_faultAt, Value.int m_isDone, Value.int m_n, Value.ref a_map, Value.ref a_places, Value.int m_symbols, Value.ref a_symbol, Value.int m_groups, Value.int m_tables, Value.ref a_lengths, Value.ref a_taken, Value.ref a_codes, Value.ref a_list, Value.ref a_weights, Value.ref a_whole, Value.int m_lays, Value.int m_laid, Value.ref a_row, Value.int m_read, Value.int m_wrong, Value.int m_readMany, Value.ref a_readMap, Value.int m_readTables, Value.int m_readGroups, Value.ref a_readTaken, Value.ref a_readLengths, Value.ref a_readCodes, Value.int m_found, Value.ref a_foundBlock], ia cZ a_tape 1500 (upd m_tape m_bits.toNatClampNeg (vp_nar .boolean x1))] H locs := ⟨hP, hD, hS⟩
    refine lv_aload_n hx hb dX9_more_23 rfl (lv_at hl 0 rfl) ?_
    refine lv_dup hx hb dX9_more_24 rfl ?_
    refine va_get (D := D) (ci := 9) (v := .int m_bits) (C := RX9) (T := TX9) (N := 33) hx hb hts hi9 hown hK.1 hW.1 0 rfl rfl 3 (by decide) hw0 (fun _ h9 => h9) rfl dX9_more_25 ?_
    refine lv_iconst (v := 1) hx hb dX9_more_28 (by decide) ?_
    refine lv_iadd hx hb dX9_more_29 ?_
    refine va_put (D := D) (ci := 9) (v := .int (m_bits + (1 : Int32))) (ty := .int) (C := RX9) (T := TX9) (N := 33) hx hb hts hi9 tyX9 tyX9_ok nmX9 hown hK.1 hW.1 hW.2.1 hW.2.2 0 rfl rfl 3 (by decide) hw0 (fun _ h9 => h9) rfl (by decide +kernel) rfl rfl (Nat.le_of_ble_eq_true rfl) dX9_more_30 (fun H locs hP hD hS => ?_)
    have hW : WS D A s [ob a_self 9 [Value.int m_signs, Value.ref a_block, Value.ref a_tape, Value.int (m_bits + (1 : Int32)), Value.int m_faultAt, Value.int m_isDone, Value.int m_n, Value.ref a_map, Value.ref a_places, Value.int m_symbols, Value.ref a_symbol, Value.int m_groups, Value.int m_tables, Value.ref a_lengths, Value.ref a_taken, Value.ref a_codes, Value.ref a_list, Value.ref a_weights, Value.ref a_whole, Value.int m_lays, Value.int m_laid, Value.ref a_row, Value.int m_read, Value.int m_wrong, Value.int m_readMany, Value.ref a_readMap, Value.int m_readTables, Value.int m_readGroups, Value.ref a_readTaken, Value.ref a_readLengths, Value.ref a_readCodes, Value.int m_found, Value.ref a_foundBlock], ia cZ a_tape 1500 (upd m_tape m_bits.toNatClampNeg (vp_nar .boolean x1))] H locs := ⟨hP, hD, hS⟩
    refine lv_aload_n hx hb dX9_more_33 rfl (lv_at hl 0 rfl) ?_
    refine va_get (D := D) (ci := 9) (v := .int (m_bits + (1 : Int32))) (C := RX9) (T := TX9) (N := 33) hx hb hts hi9 hown hK.1 hW.1 0 rfl rfl 3 (by decide) hw0 (fun _ h9 => h9) rfl dX9_more_34 ?_
    cases hF
    subst hQ
    exact ct_iret hx hb hr hlocks hW.1 hW.2.2 dX9_more_37
  · rw [if_pos c7] at hF
    refine lv_bipush (v := (-4)) hx hb dX9_more_10 (by decide) ?_
    cases hF
    subst hQ
    exact ct_iret hx hb hr hlocks hW.1 hW.2.2 dX9_more_12
abbrev rmMo_cut : Room := { frames := 1, cells := 0, slots := 0, locals := 22 }
set_option maxHeartbeats 4000000 in
set_option maxRecDepth 100000 in
theorem kMo_cut (l : Launch) (D : va_G) (cI cZ cO cG : ClassId) (a_self : Nat) (a_block : Nat) (a_tape : Nat) (a_map : Nat) (a_places : Nat) (a_symbol : Nat) (a_lengths : Nat) (a_taken : Nat) (a_codes : Nat) (a_list : Nat) (a_weights : Nat) (a_whole : Nat) (a_row : Nat) (a_readMap : Nat) (a_readTaken : Nat) (a_readLengths : Nat) (a_readCodes : Nat) (a_foundBlock : Nat) (m_signs : Int32) (m_bits : Int32) (m_faultAt : Int32) (m_isDone : Int32) (m_n : Int32) (m_symbols : Int32) (m_groups : Int32) (m_tables : Int32) (m_lays : Int32) (m_laid : Int32) (m_read : Int32) (m_wrong : Int32) (m_readMany : Int32) (m_readTables : Int32) (m_readGroups : Int32) (m_found : Int32) (x1 : Int32) {rv : Int32} {m_bits' : Int32} (hF : fMo_cut m_bits x1 = some (rv, m_bits')) : CT l yX9_cut wsX9_cut rmMo_cut D (tysG cI cZ cO cG) [.ref a_self, .int x1] [ob a_self 9 [Value.int m_signs, Value.ref a_block, Value.ref a_tape, Value.int m_bits, Value.int m_faultAt, Value.int m_isDone, Value.int m_n, Value.ref a_map, Value.ref a_places, Value.int m_symbols, Value.ref a_symbol, Value.int m_groups, Value.int m_tables, Value.ref a_lengths, Value.ref a_taken, Value.ref a_codes, Value.ref a_list, Value.ref a_weights, Value.ref a_whole, Value.int m_lays, Value.int m_laid, Value.ref a_row, Value.int m_read, Value.int m_wrong, Value.int m_readMany, Value.ref a_readMap, Value.int m_readTables, Value.int m_readGroups, Value.ref a_readTaken, Value.ref a_readLengths, Value.ref a_readCodes, Value.int m_found, Value.ref a_foundBlock]] (some (.int rv)) [ob a_self 9 [Value.int m_signs, Value.ref a_block, Value.ref a_tape, Value.int m_bits', Value.int m_faultAt, Value.int m_isDone, Value.int m_n, Value.ref a_map, Value.ref a_places, Value.int m_symbols, Value.ref a_symbol, Value.int m_groups, Value.int m_tables, Value.ref a_lengths, Value.ref a_taken, Value.ref a_codes, Value.ref a_list, Value.ref a_weights, Value.ref a_whole, Value.int m_lays, Value.int m_laid, Value.ref a_row, Value.int m_read, Value.int m_wrong, Value.int m_readMany, Value.ref a_readMap, Value.int m_readTables, Value.int m_readGroups, Value.ref a_readTaken, Value.ref a_readLengths, Value.ref a_readCodes, Value.int m_found, Value.ref a_foundBlock]] := by
  refine CT.of (cc := cX9_cut) (maxL := 3) (ret := (some .int)) (by decide) rfl (Nat.le_of_ble_eq_true rfl) ?_
  intro p e s m below meth c A ls hx hb hr hml hts hown hlocks hK hA hP hD hS hl
  generalize hargs : ([.ref a_self, .int x1] : List Value).toArray = args at hts ⊢
  generalize hQ : MQ below (ctQ D (some (.int rv)) [ob a_self 9 [Value.int m_signs, Value.ref a_block, Value.ref a_tape, Value.int m_bits', Value.int m_faultAt, Value.int m_isDone, Value.int m_n, Value.ref a_map, Value.ref a_places, Value.int m_symbols, Value.ref a_symbol, Value.int m_groups, Value.int m_tables, Value.ref a_lengths, Value.ref a_taken, Value.ref a_codes, Value.ref a_list, Value.ref a_weights, Value.ref a_whole, Value.int m_lays, Value.int m_laid, Value.ref a_row, Value.int m_read, Value.int m_wrong, Value.int m_readMany, Value.ref a_readMap, Value.int m_readTables, Value.int m_readGroups, Value.ref a_readTaken, Value.ref a_readLengths, Value.ref a_readCodes, Value.int m_found, Value.ref a_foundBlock]] A) args s 0 0 A = Q
  have hl : lv_has ls 3 [(0, .ref a_self), (1, .int x1)] := hl
  have hW : WS D A s [ob a_self 9 [Value.int m_signs, Value.ref a_block, Value.ref a_tape, Value.int m_bits, Value.int m_faultAt, Value.int m_isDone, Value.int m_n, Value.ref a_map, Value.ref a_places, Value.int m_symbols, Value.ref a_symbol, Value.int m_groups, Value.int m_tables, Value.ref a_lengths, Value.ref a_taken, Value.ref a_codes, Value.ref a_list, Value.ref a_weights, Value.ref a_whole, Value.int m_lays, Value.int m_laid, Value.ref a_row, Value.int m_read, Value.int m_wrong, Value.int m_readMany, Value.ref a_readMap, Value.int m_readTables, Value.int m_readGroups, Value.ref a_readTaken, Value.ref a_readLengths, Value.ref a_readCodes, Value.int m_found, Value.ref a_foundBlock]] s.heap [] := ⟨hP, hD, hS⟩
  clear hP hD hS
  unfold fMo_cut at hF
  have hw0 := hts (Cond.fieldLink RX9 138 "MoveFrontsModel" "bits" "I") (by decide +kernel)
  have hi9 : ∀ w ∈ u_ws RX9 TX9 33, w ∈ wsX9_cut := by decide +kernel
  refine lv_iload_n hx hb dX9_cut_0 rfl (lv_at hl 1 rfl) ?_
  refine lv_iconst (v := 0) hx hb dX9_cut_1 (by decide) ?_
  refine lv_aload_n hx hb dX9_cut_2 rfl (lv_at hl 0 rfl) ?_
  refine va_get (D := D) (ci := 9) (v := .int m_bits) (C := RX9) (T := TX9) (N := 33) hx hb hts hi9 hown hK.1 hW.1 0 rfl rfl 3 (by decide) hw0 (fun _ h9 => h9) rfl dX9_cut_3 ?_
  obtain ⟨r_6, e6, hF⟩ := bd1_some hF
  refine ctS (wn := [ob a_self 9 [Value.int m_signs, Value.ref a_block, Value.ref a_tape, Value.int m_bits, Value.int m_faultAt, Value.int m_isDone, Value.int m_n, Value.ref a_map, Value.ref a_places, Value.int m_symbols, Value.ref a_symbol, Value.int m_groups, Value.int m_tables, Value.ref a_lengths, Value.ref a_taken, Value.ref a_codes, Value.ref a_list, Value.ref a_weights, Value.ref a_whole, Value.int m_lays, Value.int m_laid, Value.ref a_row, Value.int m_read, Value.int m_wrong, Value.int m_readMany, Value.ref a_readMap, Value.int m_readTables, Value.int m_readGroups, Value.ref a_readTaken, Value.ref a_readLengths, Value.ref a_readCodes, Value.int m_found, Value.ref a_foundBlock]]) (As := [.int x1, .int (0 : Int32), .int m_bits]) (rest := []) hx hb hml hown hts hK hW hA hl.1 (kMo_within l D cI cZ cO cG x1 (0 : Int32) m_bits e6) (va_cwS 3 hts gX9_cut_X9_within rfl rfl rfl (by decide +kernel) ⟨Nat.le_of_ble_eq_true rfl, Nat.le_of_ble_eq_true rfl⟩) [] [0] 1 rfl rfl rfl rfl [ob a_self 9 [Value.int m_signs, Value.ref a_block, Value.ref a_tape, Value.int m_bits, Value.int m_faultAt, Value.int m_isDone, Value.int m_n, Value.ref a_map, Value.ref a_places, Value.int m_symbols, Value.ref a_symbol, Value.int m_groups, Value.int m_tables, Value.ref a_lengths, Value.ref a_taken, Value.ref a_codes, Value.ref a_list, Value.ref a_weights, Value.ref a_whole, Value.int m_lays, Value.int m_laid, Value.ref a_row, Value.int m_read, Value.int m_wrong, Value.int m_readMany, Value.ref a_readMap, Value.int m_readTables, Value.int m_readGroups, Value.ref a_readTaken, Value.ref a_readLengths, Value.ref a_readCodes, Value.int m_found, Value.ref a_foundBlock]] rfl rfl rfl rfl rfl (Nat.le_of_ble_eq_true rfl) rfl ⟨Nat.zero_le _, Nat.zero_le _⟩ dX9_cut_6 (fun H locs hW => ?_)
  refine lv_if_ne (tgt := 15) hx hb dX9_cut_9 (by decide) (fun c9 => ?_) (fun c9 => ?_)
  · rw [if_neg c9] at hF
    refine lv_aload_n hx hb dX9_cut_15 rfl (lv_at hl 0 rfl) ?_
    refine va_get (D := D) (ci := 9) (v := .int m_bits) (C := RX9) (T := TX9) (N := 33) hx hb hts hi9 hown hK.1 hW.1 0 rfl rfl 3 (by decide) hw0 (fun _ h9 => h9) rfl dX9_cut_16 ?_
    refine lv_iload_n hx hb dX9_cut_19 rfl (lv_at hl 1 rfl) ?_
    refine lv_isub hx hb dX9_cut_20 ?_
    refine lv_istore_n (lv' := [(2, .int (m_bits - x1)), (0, .ref a_self), (1, .int x1)]) hx hb dX9_cut_21 rfl hl (by decide) rfl (fun ls hl => ?_)
    refine lv_aload_n hx hb dX9_cut_22 rfl (lv_at hl 1 rfl) ?_
    refine lv_iload_n hx hb dX9_cut_23 rfl (lv_at hl 2 rfl) ?_
    refine va_put (D := D) (ci := 9) (v := .int x1) (ty := .int) (C := RX9) (T := TX9) (N := 33) hx hb hts hi9 tyX9 tyX9_ok nmX9 hown hK.1 hW.1 hW.2.1 hW.2.2 0 rfl rfl 3 (by decide) hw0 (fun _ h9 => h9) rfl (by decide +kernel) rfl rfl (Nat.le_of_ble_eq_true rfl) dX9_cut_24 (fun H locs hP hD hS => ?_)
    have hW : WS D A s [ob a_self 9 [Value.int m_signs, Value.ref a_block, Value.ref a_tape, Value.int x1, Value.int m_faultAt, Value.int m_isDone, Value.int m_n, Value.ref a_map, Value.ref a_places, Value.int m_symbols, Value.ref a_symbol, Value.int m_groups, Value.int m_tables, Value.ref a_lengths, Value.ref a_taken, Value.ref a_codes, Value.ref a_list, Value.ref a_weights, Value.ref a_whole, Value.int m_lays, Value.int m_laid, Value.ref a_row, Value.int m_read, Value.int m_wrong, Value.int m_readMany, Value.ref a_readMap, Value.int m_readTables, Value.int m_readGroups, Value.ref a_readTaken, Value.ref a_readLengths, Value.ref a_readCodes, Value.int m_found, Value.ref a_foundBlock]] H locs := ⟨hP, hD, hS⟩
    refine lv_iload_n hx hb dX9_cut_27 rfl (lv_at hl 0 rfl) ?_
    cases hF
    subst hQ
    exact ct_iret hx hb hr hlocks hW.1 hW.2.2 dX9_cut_28
  · rw [if_pos c9] at hF
    refine lv_bipush (v := (-2)) hx hb dX9_cut_12 (by decide) ?_
    cases hF
    subst hQ
    exact ct_iret hx hb hr hlocks hW.1 hW.2.2 dX9_cut_14
abbrev rmMo_flip : Room := { frames := 1, cells := 0, slots := 0, locals := 22 }
set_option maxHeartbeats 4000000 in
set_option maxRecDepth 100000 in
theorem kMo_flip (l : Launch) (D : va_G) (cI cZ cO cG : ClassId) (a_self : Nat) (a_block : Nat) (a_tape : Nat) (a_map : Nat) (a_places : Nat) (a_symbol : Nat) (a_lengths : Nat) (a_taken : Nat) (a_codes : Nat) (a_list : Nat) (a_weights : Nat) (a_whole : Nat) (a_row : Nat) (a_readMap : Nat) (a_readTaken : Nat) (a_readLengths : Nat) (a_readCodes : Nat) (a_foundBlock : Nat) (m_signs : Int32) (m_bits : Int32) (m_faultAt : Int32) (m_isDone : Int32) (m_n : Int32) (m_symbols : Int32) (m_groups : Int32) (m_tables : Int32) (m_lays : Int32) (m_laid : Int32) (m_read : Int32) (m_wrong : Int32) (m_readMany : Int32) (m_readTables : Int32) (m_readGroups : Int32) (m_found : Int32) (m_tape : Nat → Int32) (x1 : Int32) {rv : Int32} {m_tape' : Nat → Int32} (hF : fMo_flip m_bits m_tape x1 = some (rv, m_tape')) : CT l yX9_flip wsX9_flip rmMo_flip D (tysG cI cZ cO cG) [.ref a_self, .int x1] [ob a_self 9 [Value.int m_signs, Value.ref a_block, Value.ref a_tape, Value.int m_bits, Value.int m_faultAt, Value.int m_isDone, Value.int m_n, Value.ref a_map, Value.ref a_places, Value.int m_symbols, Value.ref a_symbol, Value.int m_groups, Value.int m_tables, Value.ref a_lengths, Value.ref a_taken, Value.ref a_codes, Value.ref a_list, Value.ref a_weights, Value.ref a_whole, Value.int m_lays, Value.int m_laid, Value.ref a_row, Value.int m_read, Value.int m_wrong, Value.int m_readMany, Value.ref a_readMap, Value.int m_readTables, Value.int m_readGroups, Value.ref a_readTaken, Value.ref a_readLengths, Value.ref a_readCodes, Value.int m_found, Value.ref a_foundBlock], ia cZ a_tape 1500 m_tape] (some (.int rv)) [ob a_self 9 [Value.int m_signs, Value.ref a_block, Value.ref a_tape, Value.int m_bits, Value.int m_faultAt, Value.int m_isDone, Value.int m_n, Value.ref a_map, Value.ref a_places, Value.int m_symbols, Value.ref a_symbol, Value.int m_groups, Value.int m_tables, Value.ref a_lengths, Value.ref a_taken, Value.ref a_codes, Value.ref a_list, Value.ref a_weights, Value.ref a_whole, Value.int m_lays, Value.int m_laid, Value.ref a_row, Value.int m_read, Value.int m_wrong, Value.int m_readMany, Value.ref a_readMap, Value.int m_readTables, Value.int m_readGroups, Value.ref a_readTaken, Value.ref a_readLengths, Value.ref a_readCodes, Value.int m_found, Value.ref a_foundBlock], ia cZ a_tape 1500 m_tape'] := by
  refine CT.of (cc := cX9_flip) (maxL := 2) (ret := (some .int)) (by decide) rfl (Nat.le_of_ble_eq_true rfl) ?_
  intro p e s m below meth c A ls hx hb hr hml hts hown hlocks hK hA hP hD hS hl
  generalize hargs : ([.ref a_self, .int x1] : List Value).toArray = args at hts ⊢
  generalize hQ : MQ below (ctQ D (some (.int rv)) [ob a_self 9 [Value.int m_signs, Value.ref a_block, Value.ref a_tape, Value.int m_bits, Value.int m_faultAt, Value.int m_isDone, Value.int m_n, Value.ref a_map, Value.ref a_places, Value.int m_symbols, Value.ref a_symbol, Value.int m_groups, Value.int m_tables, Value.ref a_lengths, Value.ref a_taken, Value.ref a_codes, Value.ref a_list, Value.ref a_weights, Value.ref a_whole, Value.int m_lays, Value.int m_laid, Value.ref a_row, Value.int m_read, Value.int m_wrong, Value.int m_readMany, Value.ref a_readMap, Value.int m_readTables, Value.int m_readGroups, Value.ref a_readTaken, Value.ref a_readLengths, Value.ref a_readCodes, Value.int m_found, Value.ref a_foundBlock], ia cZ a_tape 1500 m_tape'] A) args s 0 0 A = Q
  have hl : lv_has ls 2 [(0, .ref a_self), (1, .int x1)] := hl
  have hW : WS D A s [ob a_self 9 [Value.int m_signs, Value.ref a_block, Value.ref a_tape, Value.int m_bits, Value.int m_faultAt, Value.int m_isDone, Value.int m_n, Value.ref a_map, Value.ref a_places, Value.int m_symbols, Value.ref a_symbol, Value.int m_groups, Value.int m_tables, Value.ref a_lengths, Value.ref a_taken, Value.ref a_codes, Value.ref a_list, Value.ref a_weights, Value.ref a_whole, Value.int m_lays, Value.int m_laid, Value.ref a_row, Value.int m_read, Value.int m_wrong, Value.int m_readMany, Value.ref a_readMap, Value.int m_readTables, Value.int m_readGroups, Value.ref a_readTaken, Value.ref a_readLengths, Value.ref a_readCodes, Value.int m_found, Value.ref a_foundBlock], ia cZ a_tape 1500 m_tape] s.heap [] := ⟨hP, hD, hS⟩
  clear hP hD hS
  unfold fMo_flip at hF
  have hw0 := hts (Cond.fieldLink RX9 13 "MoveFrontsModel" "tape" "[Z") (by decide +kernel)
  have hw1 := hts (Cond.fieldLink RX9 138 "MoveFrontsModel" "bits" "I") (by decide +kernel)
  have hi9 : ∀ w ∈ u_ws RX9 TX9 33, w ∈ wsX9_flip := by decide +kernel
  have hJ35 : ∀ (m_tape_35 : Nat → Int32) (t1_35 : Int32) (t2_35 : Int32), fMo_flip_J35 x1 m_tape_35 t1_35 t2_35 = some (rv, m_tape') → ∀ (H : Heap) (locs : List Loc), WS D A s [ob a_self 9 [Value.int m_signs, Value.ref a_block, Value.ref a_tape, Value.int m_bits, Value.int m_faultAt, Value.int m_isDone, Value.int m_n, Value.ref a_map, Value.ref a_places, Value.int m_symbols, Value.ref a_symbol, Value.int m_groups, Value.int m_tables, Value.ref a_lengths, Value.ref a_taken, Value.ref a_codes, Value.ref a_list, Value.ref a_weights, Value.ref a_whole, Value.int m_lays, Value.int m_laid, Value.ref a_row, Value.int m_read, Value.int m_wrong, Value.int m_readMany, Value.ref a_readMap, Value.int m_readTables, Value.int m_readGroups, Value.ref a_readTaken, Value.ref a_readLengths, Value.ref a_readCodes, Value.int m_found, Value.ref a_foundBlock], ia cZ a_tape 1500 m_tape_35] H locs → ∀ ls : Array Slot, lv_has ls 2 [(0, .ref a_self), (1, .int x1)] → W p l e (headSpec wsX9_flip rmMo_flip).room s m args below meth c H locs 0 0 Q (F0 m 35 ls [.int t2_35, .int t1_35, .ref a_tape]) := by
    intro m_tape_35 t1_35 t2_35 hF H locs hW ls hl
    unfold fMo_flip_J35 at hF
    obtain ⟨g35, hF⟩ := gdI_some hF
    refine va_zast hx hb hK.1 hW.1 hW.2.1 hW.2.2 1 1 rfl rfl g35 dX9_flip_35 (fun H locs hP hD hS => ?_)
    have hW : WS D A s [ob a_self 9 [Value.int m_signs, Value.ref a_block, Value.ref a_tape, Value.int m_bits, Value.int m_faultAt, Value.int m_isDone, Value.int m_n, Value.ref a_map, Value.ref a_places, Value.int m_symbols, Value.ref a_symbol, Value.int m_groups, Value.int m_tables, Value.ref a_lengths, Value.ref a_taken, Value.ref a_codes, Value.ref a_list, Value.ref a_weights, Value.ref a_whole, Value.int m_lays, Value.int m_laid, Value.ref a_row, Value.int m_read, Value.int m_wrong, Value.int m_readMany, Value.ref a_readMap, Value.int m_readTables, Value.int m_readGroups, Value.ref a_readTaken, Value.ref a_readLengths, Value.ref a_readCodes, Value.int m_found, Value.ref a_foundBlock], ia cZ a_tape 1500 (upd m_tape_35 t1_35.toNatClampNeg (vp_nar .boolean t2_35))] H locs := ⟨hP, hD, hS⟩
    refine lv_aload_n hx hb dX9_flip_36 rfl (lv_at hl 0 rfl) ?_
    refine va_get (D := D) (ci := 9) (v := .ref a_tape) (C := RX9) (T := TX9) (N := 33) hx hb hts hi9 hown hK.1 hW.1 0 rfl rfl 2 (by decide) hw0 (fun _ h9 => h9) rfl dX9_flip_37 ?_
    refine lv_iload_n hx hb dX9_flip_40 rfl (lv_at hl 1 rfl) ?_
    obtain ⟨g41, hF⟩ := gdI_some hF
    refine va_zald hx hb hK.1 hW.1 1 1 rfl rfl g41 dX9_flip_41 ?_
    refine lv_if_eq (tgt := 49) hx hb dX9_flip_42 (by decide) (fun c42 => ?_) (fun c42 => ?_)
    · rw [if_pos c42] at hF
      refine lv_iconst (v := 0) hx hb dX9_flip_49 (by decide) ?_
      cases hF
      subst hQ
      exact ct_iret hx hb hr hlocks hW.1 hW.2.2 dX9_flip_50
    · rw [if_neg c42] at hF
      refine lv_iconst (v := 1) hx hb dX9_flip_45 (by decide) ?_
      refine lv_goto (tgt := 50) hx hb dX9_flip_46 (by decide) ?_
      cases hF
      subst hQ
      exact ct_iret hx hb hr hlocks hW.1 hW.2.2 dX9_flip_50
  refine lv_iload_n hx hb dX9_flip_0 rfl (lv_at hl 1 rfl) ?_
  refine lv_iconst (v := 0) hx hb dX9_flip_1 (by decide) ?_
  refine lv_aload_n hx hb dX9_flip_2 rfl (lv_at hl 0 rfl) ?_
  refine va_get (D := D) (ci := 9) (v := .int m_bits) (C := RX9) (T := TX9) (N := 33) hx hb hts hi9 hown hK.1 hW.1 0 rfl rfl 3 (by decide) hw1 (fun _ h9 => h9) rfl dX9_flip_3 ?_
  refine lv_iconst (v := 1) hx hb dX9_flip_6 (by decide) ?_
  refine lv_isub hx hb dX9_flip_7 ?_
  obtain ⟨r_8, e8, hF⟩ := bd1_some hF
  refine ctS (wn := [ob a_self 9 [Value.int m_signs, Value.ref a_block, Value.ref a_tape, Value.int m_bits, Value.int m_faultAt, Value.int m_isDone, Value.int m_n, Value.ref a_map, Value.ref a_places, Value.int m_symbols, Value.ref a_symbol, Value.int m_groups, Value.int m_tables, Value.ref a_lengths, Value.ref a_taken, Value.ref a_codes, Value.ref a_list, Value.ref a_weights, Value.ref a_whole, Value.int m_lays, Value.int m_laid, Value.ref a_row, Value.int m_read, Value.int m_wrong, Value.int m_readMany, Value.ref a_readMap, Value.int m_readTables, Value.int m_readGroups, Value.ref a_readTaken, Value.ref a_readLengths, Value.ref a_readCodes, Value.int m_found, Value.ref a_foundBlock], ia cZ a_tape 1500 m_tape]) (As := [.int x1, .int (0 : Int32), .int (m_bits - (1 : Int32))]) (rest := []) hx hb hml hown hts hK hW hA hl.1 (kMo_within l D cI cZ cO cG x1 (0 : Int32) (m_bits - (1 : Int32)) e8) (va_cwS 3 hts gX9_flip_X9_within rfl rfl rfl (by decide +kernel) ⟨Nat.le_of_ble_eq_true rfl, Nat.le_of_ble_eq_true rfl⟩) [] [0, 1] 2 rfl rfl rfl rfl [ob a_self 9 [Value.int m_signs, Value.ref a_block, Value.ref a_tape, Value.int m_bits, Value.int m_faultAt, Value.int m_isDone, Value.int m_n, Value.ref a_map, Value.ref a_places, Value.int m_symbols, Value.ref a_symbol, Value.int m_groups, Value.int m_tables, Value.ref a_lengths, Value.ref a_taken, Value.ref a_codes, Value.ref a_list, Value.ref a_weights, Value.ref a_whole, Value.int m_lays, Value.int m_laid, Value.ref a_row, Value.int m_read, Value.int m_wrong, Value.int m_readMany, Value.ref a_readMap, Value.int m_readTables, Value.int m_readGroups, Value.ref a_readTaken, Value.ref a_readLengths, Value.ref a_readCodes, Value.int m_found, Value.ref a_foundBlock], ia cZ a_tape 1500 m_tape] rfl rfl rfl rfl rfl (Nat.le_of_ble_eq_true rfl) rfl ⟨Nat.zero_le _, Nat.zero_le _⟩ dX9_flip_8 (fun H locs hW => ?_)
  refine lv_if_ne (tgt := 16) hx hb dX9_flip_11 (by decide) (fun c11 => ?_) (fun c11 => ?_)
  · rw [if_neg c11] at hF
    refine lv_aload_n hx hb dX9_flip_16 rfl (lv_at hl 0 rfl) ?_
    refine va_get (D := D) (ci := 9) (v := .ref a_tape) (C := RX9) (T := TX9) (N := 33) hx hb hts hi9 hown hK.1 hW.1 0 rfl rfl 2 (by decide) hw0 (fun _ h9 => h9) rfl dX9_flip_17 ?_
    refine lv_iload_n hx hb dX9_flip_20 rfl (lv_at hl 1 rfl) ?_
    refine lv_aload_n hx hb dX9_flip_21 rfl (lv_at hl 0 rfl) ?_
    refine va_get (D := D) (ci := 9) (v := .ref a_tape) (C := RX9) (T := TX9) (N := 33) hx hb hts hi9 hown hK.1 hW.1 0 rfl rfl 2 (by decide) hw0 (fun _ h9 => h9) rfl dX9_flip_22 ?_
    refine lv_iload_n hx hb dX9_flip_25 rfl (lv_at hl 1 rfl) ?_
    obtain ⟨g26, hF⟩ := gdI_some hF
    refine va_zald hx hb hK.1 hW.1 1 1 rfl rfl g26 dX9_flip_26 ?_
    refine lv_if_ne (tgt := 34) hx hb dX9_flip_27 (by decide) (fun c27 => ?_) (fun c27 => ?_)
    · rw [if_neg c27] at hF
      refine lv_iconst (v := 0) hx hb dX9_flip_34 (by decide) ?_
      exact hJ35 _ _ _ hF _ _ hW _ (lv_sub hl [0, 1] rfl)
    · rw [if_pos c27] at hF
      refine lv_iconst (v := 1) hx hb dX9_flip_30 (by decide) ?_
      refine lv_goto (tgt := 35) hx hb dX9_flip_31 (by decide) ?_
      exact hJ35 _ _ _ hF _ _ hW _ (lv_sub hl [0, 1] rfl)
  · rw [if_pos c11] at hF
    refine lv_iconst (v := (-1)) hx hb dX9_flip_14 (by decide) ?_
    cases hF
    subst hQ
    exact ct_iret hx hb hr hlocks hW.1 hW.2.2 dX9_flip_15
abbrev rmMo_bit : Room := { frames := 1, cells := 0, slots := 0, locals := 22 }
set_option maxHeartbeats 4000000 in
set_option maxRecDepth 100000 in
theorem kMo_bit (l : Launch) (D : va_G) (cI cZ cO cG : ClassId) (a_self : Nat) (a_block : Nat) (a_tape : Nat) (a_map : Nat) (a_places : Nat) (a_symbol : Nat) (a_lengths : Nat) (a_taken : Nat) (a_codes : Nat) (a_list : Nat) (a_weights : Nat) (a_whole : Nat) (a_row : Nat) (a_readMap : Nat) (a_readTaken : Nat) (a_readLengths : Nat) (a_readCodes : Nat) (a_foundBlock : Nat) (m_signs : Int32) (m_bits : Int32) (m_faultAt : Int32) (m_isDone : Int32) (m_n : Int32) (m_symbols : Int32) (m_groups : Int32) (m_tables : Int32) (m_lays : Int32) (m_laid : Int32) (m_read : Int32) (m_wrong : Int32) (m_readMany : Int32) (m_readTables : Int32) (m_readGroups : Int32) (m_found : Int32) (m_tape : Nat → Int32) (x1 : Int32) {rv : Int32} (hF : fMo_bit m_bits m_tape x1 = some rv) : CT l yX9_bit wsX9_bit rmMo_bit D (tysG cI cZ cO cG) [.ref a_self, .int x1] [ob a_self 9 [Value.int m_signs, Value.ref a_block, Value.ref a_tape, Value.int m_bits, Value.int m_faultAt, Value.int m_isDone, Value.int m_n, Value.ref a_map, Value.ref a_places, Value.int m_symbols, Value.ref a_symbol, Value.int m_groups, Value.int m_tables, Value.ref a_lengths, Value.ref a_taken, Value.ref a_codes, Value.ref a_list, Value.ref a_weights, Value.ref a_whole, Value.int m_lays, Value.int m_laid, Value.ref a_row, Value.int m_read, Value.int m_wrong, Value.int m_readMany, Value.ref a_readMap, Value.int m_readTables, Value.int m_readGroups, Value.ref a_readTaken, Value.ref a_readLengths, Value.ref a_readCodes, Value.int m_found, Value.ref a_foundBlock], ia cZ a_tape 1500 m_tape] (some (.int rv)) [ob a_self 9 [Value.int m_signs, Value.ref a_block, Value.ref a_tape, Value.int m_bits, Value.int m_faultAt, Value.int m_isDone, Value.int m_n, Value.ref a_map, Value.ref a_places, Value.int m_symbols, Value.ref a_symbol, Value.int m_groups, Value.int m_tables, Value.ref a_lengths, Value.ref a_taken, Value.ref a_codes, Value.ref a_list, Value.ref a_weights, Value.ref a_whole, Value.int m_lays, Value.int m_laid, Value.ref a_row, Value.int m_read, Value.int m_wrong, Value.int m_readMany, Value.ref a_readMap, Value.int m_readTables, Value.int m_readGroups, Value.ref a_readTaken, Value.ref a_readLengths, Value.ref a_readCodes, Value.int m_found, Value.ref a_foundBlock], ia cZ a_tape 1500 m_tape] := by
  refine CT.of (cc := cX9_bit) (maxL := 2) (ret := (some .int)) (by decide) rfl (Nat.le_of_ble_eq_true rfl) ?_
  intro p e s m below meth c A ls hx hb hr hml hts hown hlocks hK hA hP hD hS hl
  generalize hargs : ([.ref a_self, .int x1] : List Value).toArray = args at hts ⊢
  generalize hQ : MQ below (ctQ D (some (.int rv)) [ob a_self 9 [Value.int m_signs, Value.ref a_block, Value.ref a_tape, Value.int m_bits, Value.int m_faultAt, Value.int m_isDone, Value.int m_n, Value.ref a_map, Value.ref a_places, Value.int m_symbols, Value.ref a_symbol, Value.int m_groups, Value.int m_tables, Value.ref a_lengths, Value.ref a_taken, Value.ref a_codes, Value.ref a_list, Value.ref a_weights, Value.ref a_whole, Value.int m_lays, Value.int m_laid, Value.ref a_row, Value.int m_read, Value.int m_wrong, Value.int m_readMany, Value.ref a_readMap, Value.int m_readTables, Value.int m_readGroups, Value.ref a_readTaken, Value.ref a_readLengths, Value.ref a_readCodes, Value.int m_found, Value.ref a_foundBlock], ia cZ a_tape 1500 m_tape] A) args s 0 0 A = Q
  have hl : lv_has ls 2 [(0, .ref a_self), (1, .int x1)] := hl
  have hW : WS D A s [ob a_self 9 [Value.int m_signs, Value.ref a_block, Value.ref a_tape, Value.int m_bits, Value.int m_faultAt, Value.int m_isDone, Value.int m_n, Value.ref a_map, Value.ref a_places, Value.int m_symbols, Value.ref a_symbol, Value.int m_groups, Value.int m_tables, Value.ref a_lengths, Value.ref a_taken, Value.ref a_codes, Value.ref a_list, Value.ref a_weights, Value.ref a_whole, Value.int m_lays, Value.int m_laid, Value.ref a_row, Value.int m_read, Value.int m_wrong, Value.int m_readMany, Value.ref a_readMap, Value.int m_readTables, Value.int m_readGroups, Value.ref a_readTaken, Value.ref a_readLengths, Value.ref a_readCodes, Value.int m_found, Value.ref a_foundBlock], ia cZ a_tape 1500 m_tape] s.heap [] := ⟨hP, hD, hS⟩
  clear hP hD hS
  unfold fMo_bit at hF
  have hw0 := hts (Cond.fieldLink RX9 138 "MoveFrontsModel" "bits" "I") (by decide +kernel)
  have hw1 := hts (Cond.fieldLink RX9 13 "MoveFrontsModel" "tape" "[Z") (by decide +kernel)
  have hi9 : ∀ w ∈ u_ws RX9 TX9 33, w ∈ wsX9_bit := by decide +kernel
  refine lv_iload_n hx hb dX9_bit_0 rfl (lv_at hl 1 rfl) ?_
  refine lv_iconst (v := 0) hx hb dX9_bit_1 (by decide) ?_
  refine lv_aload_n hx hb dX9_bit_2 rfl (lv_at hl 0 rfl) ?_
  refine va_get (D := D) (ci := 9) (v := .int m_bits) (C := RX9) (T := TX9) (N := 33) hx hb hts hi9 hown hK.1 hW.1 0 rfl rfl 3 (by decide) hw0 (fun _ h9 => h9) rfl dX9_bit_3 ?_
  refine lv_iconst (v := 1) hx hb dX9_bit_6 (by decide) ?_
  refine lv_isub hx hb dX9_bit_7 ?_
  obtain ⟨r_8, e8, hF⟩ := bd1_some hF
  refine ctS (wn := [ob a_self 9 [Value.int m_signs, Value.ref a_block, Value.ref a_tape, Value.int m_bits, Value.int m_faultAt, Value.int m_isDone, Value.int m_n, Value.ref a_map, Value.ref a_places, Value.int m_symbols, Value.ref a_symbol, Value.int m_groups, Value.int m_tables, Value.ref a_lengths, Value.ref a_taken, Value.ref a_codes, Value.ref a_list, Value.ref a_weights, Value.ref a_whole, Value.int m_lays, Value.int m_laid, Value.ref a_row, Value.int m_read, Value.int m_wrong, Value.int m_readMany, Value.ref a_readMap, Value.int m_readTables, Value.int m_readGroups, Value.ref a_readTaken, Value.ref a_readLengths, Value.ref a_readCodes, Value.int m_found, Value.ref a_foundBlock], ia cZ a_tape 1500 m_tape]) (As := [.int x1, .int (0 : Int32), .int (m_bits - (1 : Int32))]) (rest := []) hx hb hml hown hts hK hW hA hl.1 (kMo_within l D cI cZ cO cG x1 (0 : Int32) (m_bits - (1 : Int32)) e8) (va_cwS 3 hts gX9_bit_X9_within rfl rfl rfl (by decide +kernel) ⟨Nat.le_of_ble_eq_true rfl, Nat.le_of_ble_eq_true rfl⟩) [] [0, 1] 2 rfl rfl rfl rfl [ob a_self 9 [Value.int m_signs, Value.ref a_block, Value.ref a_tape, Value.int m_bits, Value.int m_faultAt, Value.int m_isDone, Value.int m_n, Value.ref a_map, Value.ref a_places, Value.int m_symbols, Value.ref a_symbol, Value.int m_groups, Value.int m_tables, Value.ref a_lengths, Value.ref a_taken, Value.ref a_codes, Value.ref a_list, Value.ref a_weights, Value.ref a_whole, Value.int m_lays, Value.int m_laid, Value.ref a_row, Value.int m_read, Value.int m_wrong, Value.int m_readMany, Value.ref a_readMap, Value.int m_readTables, Value.int m_readGroups, Value.ref a_readTaken, Value.ref a_readLengths, Value.ref a_readCodes, Value.int m_found, Value.ref a_foundBlock], ia cZ a_tape 1500 m_tape] rfl rfl rfl rfl rfl (Nat.le_of_ble_eq_true rfl) rfl ⟨Nat.zero_le _, Nat.zero_le _⟩ dX9_bit_8 (fun H locs hW => ?_)
  refine lv_if_ne (tgt := 18) hx hb dX9_bit_11 (by decide) (fun c11 => ?_) (fun c11 => ?_)
  · rw [if_neg c11] at hF
    refine lv_aload_n hx hb dX9_bit_18 rfl (lv_at hl 0 rfl) ?_
    refine va_get (D := D) (ci := 9) (v := .ref a_tape) (C := RX9) (T := TX9) (N := 33) hx hb hts hi9 hown hK.1 hW.1 0 rfl rfl 2 (by decide) hw1 (fun _ h9 => h9) rfl dX9_bit_19 ?_
    refine lv_iload_n hx hb dX9_bit_22 rfl (lv_at hl 1 rfl) ?_
    obtain ⟨g23, hF⟩ := gdI_some hF
    refine va_zald hx hb hK.1 hW.1 1 1 rfl rfl g23 dX9_bit_23 ?_
    refine lv_if_eq (tgt := 31) hx hb dX9_bit_24 (by decide) (fun c24 => ?_) (fun c24 => ?_)
    · rw [if_pos c24] at hF
      refine lv_iconst (v := 0) hx hb dX9_bit_31 (by decide) ?_
      cases hF
      subst hQ
      exact ct_iret hx hb hr hlocks hW.1 hW.2.2 dX9_bit_32
    · rw [if_neg c24] at hF
      refine lv_iconst (v := 1) hx hb dX9_bit_27 (by decide) ?_
      refine lv_goto (tgt := 32) hx hb dX9_bit_28 (by decide) ?_
      cases hF
      subst hQ
      exact ct_iret hx hb hr hlocks hW.1 hW.2.2 dX9_bit_32
  · rw [if_pos c11] at hF
    refine lv_iconst (v := (-1)) hx hb dX9_bit_14 (by decide) ?_
    refine lv_goto (tgt := 32) hx hb dX9_bit_15 (by decide) ?_
    cases hF
    subst hQ
    exact ct_iret hx hb hr hlocks hW.1 hW.2.2 dX9_bit_32
abbrev rmMo_take : Room := { frames := 0, cells := 0, slots := 0, locals := 0 }
set_option maxHeartbeats 4000000 in
set_option maxRecDepth 100000 in
theorem kMo_take (l : Launch) (D : va_G) (cI cZ cO cG : ClassId) (a_self : Nat) (a_block : Nat) (a_tape : Nat) (a_map : Nat) (a_places : Nat) (a_symbol : Nat) (a_lengths : Nat) (a_taken : Nat) (a_codes : Nat) (a_list : Nat) (a_weights : Nat) (a_whole : Nat) (a_row : Nat) (a_readMap : Nat) (a_readTaken : Nat) (a_readLengths : Nat) (a_readCodes : Nat) (a_foundBlock : Nat) (m_signs : Int32) (m_bits : Int32) (m_faultAt : Int32) (m_isDone : Int32) (m_n : Int32) (m_symbols : Int32) (m_groups : Int32) (m_tables : Int32) (m_lays : Int32) (m_laid : Int32) (m_read : Int32) (m_wrong : Int32) (m_readMany : Int32) (m_readTables : Int32) (m_readGroups : Int32) (m_found : Int32) (m_tape : Nat → Int32) (x1 : Int32) {rv : Int32} {m_read' : Int32} {m_wrong' : Int32} (hF : fMo_take m_bits m_read m_wrong m_tape x1 = some (rv, m_read', m_wrong')) : CT l yX9_take wsX9_take rmMo_take D (tysG cI cZ cO cG) [.ref a_self, .int x1] [ob a_self 9 [Value.int m_signs, Value.ref a_block, Value.ref a_tape, Value.int m_bits, Value.int m_faultAt, Value.int m_isDone, Value.int m_n, Value.ref a_map, Value.ref a_places, Value.int m_symbols, Value.ref a_symbol, Value.int m_groups, Value.int m_tables, Value.ref a_lengths, Value.ref a_taken, Value.ref a_codes, Value.ref a_list, Value.ref a_weights, Value.ref a_whole, Value.int m_lays, Value.int m_laid, Value.ref a_row, Value.int m_read, Value.int m_wrong, Value.int m_readMany, Value.ref a_readMap, Value.int m_readTables, Value.int m_readGroups, Value.ref a_readTaken, Value.ref a_readLengths, Value.ref a_readCodes, Value.int m_found, Value.ref a_foundBlock], ia cZ a_tape 1500 m_tape] (some (.int rv)) [ob a_self 9 [Value.int m_signs, Value.ref a_block, Value.ref a_tape, Value.int m_bits, Value.int m_faultAt, Value.int m_isDone, Value.int m_n, Value.ref a_map, Value.ref a_places, Value.int m_symbols, Value.ref a_symbol, Value.int m_groups, Value.int m_tables, Value.ref a_lengths, Value.ref a_taken, Value.ref a_codes, Value.ref a_list, Value.ref a_weights, Value.ref a_whole, Value.int m_lays, Value.int m_laid, Value.ref a_row, Value.int m_read', Value.int m_wrong', Value.int m_readMany, Value.ref a_readMap, Value.int m_readTables, Value.int m_readGroups, Value.ref a_readTaken, Value.ref a_readLengths, Value.ref a_readCodes, Value.int m_found, Value.ref a_foundBlock], ia cZ a_tape 1500 m_tape] := by
  refine CT.of (cc := cX9_take) (maxL := 4) (ret := (some .int)) (by decide) rfl (Nat.le_of_ble_eq_true rfl) ?_
  intro p e s m below meth c A ls hx hb hr hml hts hown hlocks hK hA hP hD hS hl
  generalize hargs : ([.ref a_self, .int x1] : List Value).toArray = args at hts ⊢
  generalize hQ : MQ below (ctQ D (some (.int rv)) [ob a_self 9 [Value.int m_signs, Value.ref a_block, Value.ref a_tape, Value.int m_bits, Value.int m_faultAt, Value.int m_isDone, Value.int m_n, Value.ref a_map, Value.ref a_places, Value.int m_symbols, Value.ref a_symbol, Value.int m_groups, Value.int m_tables, Value.ref a_lengths, Value.ref a_taken, Value.ref a_codes, Value.ref a_list, Value.ref a_weights, Value.ref a_whole, Value.int m_lays, Value.int m_laid, Value.ref a_row, Value.int m_read', Value.int m_wrong', Value.int m_readMany, Value.ref a_readMap, Value.int m_readTables, Value.int m_readGroups, Value.ref a_readTaken, Value.ref a_readLengths, Value.ref a_readCodes, Value.int m_found, Value.ref a_foundBlock], ia cZ a_tape 1500 m_tape] A) args s 0 0 A = Q
  have hl : lv_has ls 4 [(0, .ref a_self), (1, .int x1)] := hl
  have hW : WS D A s [ob a_self 9 [Value.int m_signs, Value.ref a_block, Value.ref a_tape, Value.int m_bits, Value.int m_faultAt, Value.int m_isDone, Value.int m_n, Value.ref a_map, Value.ref a_places, Value.int m_symbols, Value.ref a_symbol, Value.int m_groups, Value.int m_tables, Value.ref a_lengths, Value.ref a_taken, Value.ref a_codes, Value.ref a_list, Value.ref a_weights, Value.ref a_whole, Value.int m_lays, Value.int m_laid, Value.ref a_row, Value.int m_read, Value.int m_wrong, Value.int m_readMany, Value.ref a_readMap, Value.int m_readTables, Value.int m_readGroups, Value.ref a_readTaken, Value.ref a_readLengths, Value.ref a_readCodes, Value.int m_found, Value.ref a_foundBlock], ia cZ a_tape 1500 m_tape] s.heap [] := ⟨hP, hD, hS⟩
  clear hP hD hS
  unfold fMo_take at hF
  have hw0 := hts (Cond.fieldLink RX9 167 "MoveFrontsModel" "read" "I") (by decide +kernel)
  have hw1 := hts (Cond.fieldLink RX9 164 "MoveFrontsModel" "wrong" "I") (by decide +kernel)
  have hw2 := hts (Cond.fieldLink RX9 138 "MoveFrontsModel" "bits" "I") (by decide +kernel)
  have hw3 := hts (Cond.fieldLink RX9 13 "MoveFrontsModel" "tape" "[Z") (by decide +kernel)
  have hi9 : ∀ w ∈ u_ws RX9 TX9 33, w ∈ wsX9_take := by decide +kernel
  refine lv_iconst (v := 0) hx hb dX9_take_0 (by decide) ?_
  refine lv_istore_n (lv' := [(2, .int (0 : Int32)), (0, .ref a_self), (1, .int x1)]) hx hb dX9_take_1 rfl hl (by decide) rfl (fun ls hl => ?_)
  refine lv_iconst (v := 0) hx hb dX9_take_2 (by decide) ?_
  refine lv_istore_n (lv' := [(3, .int (0 : Int32)), (2, .int (0 : Int32)), (0, .ref a_self), (1, .int x1)]) hx hb dX9_take_3 rfl hl (by decide) rfl (fun ls hl => ?_)
  obtain ⟨q4, hI, hq4⟩ := bs_some hF
  obtain ⟨nn, hI⟩ := itrO_some hI
  have hX4 : ∀ (x2_4z : Int32) (m_read_4z : Int32) (m_wrong_4z : Int32), (.inl (x2_4z, m_read_4z, m_wrong_4z)) = q4 → ∀ (H : Heap) (locs : List Loc), WS D A s [ob a_self 9 [Value.int m_signs, Value.ref a_block, Value.ref a_tape, Value.int m_bits, Value.int m_faultAt, Value.int m_isDone, Value.int m_n, Value.ref a_map, Value.ref a_places, Value.int m_symbols, Value.ref a_symbol, Value.int m_groups, Value.int m_tables, Value.ref a_lengths, Value.ref a_taken, Value.ref a_codes, Value.ref a_list, Value.ref a_weights, Value.ref a_whole, Value.int m_lays, Value.int m_laid, Value.ref a_row, Value.int m_read_4z, Value.int m_wrong_4z, Value.int m_readMany, Value.ref a_readMap, Value.int m_readTables, Value.int m_readGroups, Value.ref a_readTaken, Value.ref a_readLengths, Value.ref a_readCodes, Value.int m_found, Value.ref a_foundBlock], ia cZ a_tape 1500 m_tape] H locs → ∀ ls : Array Slot, lv_has ls 4 [(2, .int x2_4z)] → W p l e (headSpec wsX9_take rmMo_take).room s m args below meth c H locs 0 0 Q (F0 m 72 ls []) := by
    intro x2_4z m_read_4z m_wrong_4z he H locs hW ls hl
    subst he
    have hF := bs_inl hq4
    rw [un3_eq] at hF
    refine lv_iload_n hx hb dX9_take_72 rfl (lv_at hl 0 rfl) ?_
    cases hF
    subst hQ
    exact ct_iret hx hb hr hlocks hW.1 hW.2.2 dX9_take_73
  have hL4 : ∀ (n4 : Nat) (x2_4 : Int32) (x3_4 : Int32) (m_read_4 : Int32) (m_wrong_4 : Int32), itr (un4 (fMo_take_L4 m_bits m_tape x1)) n4 (x2_4, x3_4, m_read_4, m_wrong_4) = some q4 → ∀ (H : Heap) (locs : List Loc), WS D A s [ob a_self 9 [Value.int m_signs, Value.ref a_block, Value.ref a_tape, Value.int m_bits, Value.int m_faultAt, Value.int m_isDone, Value.int m_n, Value.ref a_map, Value.ref a_places, Value.int m_symbols, Value.ref a_symbol, Value.int m_groups, Value.int m_tables, Value.ref a_lengths, Value.ref a_taken, Value.ref a_codes, Value.ref a_list, Value.ref a_weights, Value.ref a_whole, Value.int m_lays, Value.int m_laid, Value.ref a_row, Value.int m_read_4, Value.int m_wrong_4, Value.int m_readMany, Value.ref a_readMap, Value.int m_readTables, Value.int m_readGroups, Value.ref a_readTaken, Value.ref a_readLengths, Value.ref a_readCodes, Value.int m_found, Value.ref a_foundBlock], ia cZ a_tape 1500 m_tape] H locs → ∀ ls : Array Slot, lv_has ls 4 [(0, .ref a_self), (1, .int x1), (2, .int x2_4), (3, .int x3_4)] → W p l e (headSpec wsX9_take rmMo_take).room s m args below meth c H locs 0 0 Q (F0 m 4 ls []) := by
    intro n4
    induction n4 with
    | zero => intro x2_4 x3_4 m_read_4 m_wrong_4 hI; cases hI
    | succ n4 ih4 =>
      intro x2_4 x3_4 m_read_4 m_wrong_4 hI H locs hW ls hl
      obtain ⟨sr4, hF, hN4⟩ := itr_succ hI
      have hF : fMo_take_L4 m_bits m_tape x1 x2_4 x3_4 m_read_4 m_wrong_4 = some sr4 := hF
      unfold fMo_take_L4 at hF
      have hJ54 : ∀ (x3_54 : Int32) (m_read_54 : Int32) (m_wrong_54 : Int32) (t0_54 : Int32) (t1_54 : Int32), fMo_take_J54 x3_54 m_read_54 m_wrong_54 t0_54 t1_54 = some sr4 → ∀ (H : Heap) (locs : List Loc), WS D A s [ob a_self 9 [Value.int m_signs, Value.ref a_block, Value.ref a_tape, Value.int m_bits, Value.int m_faultAt, Value.int m_isDone, Value.int m_n, Value.ref a_map, Value.ref a_places, Value.int m_symbols, Value.ref a_symbol, Value.int m_groups, Value.int m_tables, Value.ref a_lengths, Value.ref a_taken, Value.ref a_codes, Value.ref a_list, Value.ref a_weights, Value.ref a_whole, Value.int m_lays, Value.int m_laid, Value.ref a_row, Value.int m_read_54, Value.int m_wrong_54, Value.int m_readMany, Value.ref a_readMap, Value.int m_readTables, Value.int m_readGroups, Value.ref a_readTaken, Value.ref a_readLengths, Value.ref a_readCodes, Value.int m_found, Value.ref a_foundBlock], ia cZ a_tape 1500 m_tape] H locs → ∀ ls : Array Slot, lv_has ls 4 [(0, .ref a_self), (1, .int x1), (3, .int x3_54)] → W p l e (headSpec wsX9_take rmMo_take).room s m args below meth c H locs 0 0 Q (F0 m 54 ls [.int t1_54, .int t0_54]) := by
        intro x3_54 m_read_54 m_wrong_54 t0_54 t1_54 hF H locs hW ls hl
        unfold fMo_take_J54 at hF
        refine lv_iadd hx hb dX9_take_54 ?_
        refine lv_istore_n (lv' := [(2, .int (t0_54 + t1_54)), (0, .ref a_self), (1, .int x1), (3, .int x3_54)]) hx hb dX9_take_55 rfl hl (by decide) rfl (fun ls hl => ?_)
        refine lv_aload_n hx hb dX9_take_56 rfl (lv_at hl 1 rfl) ?_
        refine lv_dup hx hb dX9_take_57 rfl ?_
        refine va_get (D := D) (ci := 9) (v := .int m_read_54) (C := RX9) (T := TX9) (N := 33) hx hb hts hi9 hown hK.1 hW.1 0 rfl rfl 22 (by decide) hw0 (fun _ h9 => h9) rfl dX9_take_58 ?_
        refine lv_iconst (v := 1) hx hb dX9_take_61 (by decide) ?_
        refine lv_iadd hx hb dX9_take_62 ?_
        refine va_put (D := D) (ci := 9) (v := .int (m_read_54 + (1 : Int32))) (ty := .int) (C := RX9) (T := TX9) (N := 33) hx hb hts hi9 tyX9 tyX9_ok nmX9 hown hK.1 hW.1 hW.2.1 hW.2.2 0 rfl rfl 22 (by decide) hw0 (fun _ h9 => h9) rfl (by decide +kernel) rfl rfl (Nat.le_of_ble_eq_true rfl) dX9_take_63 (fun H locs hP hD hS => ?_)
        have hW : WS D A s [ob a_self 9 [Value.int m_signs, Value.ref a_block, Value.ref a_tape, Value.int m_bits, Value.int m_faultAt, Value.int m_isDone, Value.int m_n, Value.ref a_map, Value.ref a_places, Value.int m_symbols, Value.ref a_symbol, Value.int m_groups, Value.int m_tables, Value.ref a_lengths, Value.ref a_taken, Value.ref a_codes, Value.ref a_list, Value.ref a_weights, Value.ref a_whole, Value.int m_lays, Value.int m_laid, Value.ref a_row, Value.int (m_read_54 + (1 : Int32)), Value.int m_wrong_54, Value.int m_readMany, Value.ref a_readMap, Value.int m_readTables, Value.int m_readGroups, Value.ref a_readTaken, Value.ref a_readLengths, Value.ref a_readCodes, Value.int m_found, Value.ref a_foundBlock], ia cZ a_tape 1500 m_tape] H locs := ⟨hP, hD, hS⟩
        refine lv_iinc (v := (x3_54 + 1)) (lv' := [(3, .int (x3_54 + 1)), (2, .int (t0_54 + t1_54)), (0, .ref a_self), (1, .int x1)]) hx hb dX9_take_66 hl (k := 3) rfl rfl (by decide) rfl (fun ls hl => ?_)
        refine lv_goto (tgt := 4) hx hb dX9_take_69 (by decide) ?_
        cases hF
        exact ih4 _ _ _ _ (itr_in hN4) _ _ hW _ (lv_sub hl [2, 3, 1, 0] rfl)
      refine lv_iload_n hx hb dX9_take_4 rfl (lv_at hl 3 rfl) ?_
      refine lv_iload_n hx hb dX9_take_5 rfl (lv_at hl 1 rfl) ?_
      refine lv_icmp_ge (tgt := 72) hx hb dX9_take_6 (by decide) (fun c6 => ?_) (fun c6 => ?_)
      · rw [if_pos c6] at hF
        cases hF
        exact hX4 _ _ _ (itr_out hN4) _ _ hW _ (lv_sub hl [2] rfl)
      · rw [if_neg c6] at hF
        refine lv_aload_n hx hb dX9_take_9 rfl (lv_at hl 0 rfl) ?_
        refine va_get (D := D) (ci := 9) (v := .int m_wrong_4) (C := RX9) (T := TX9) (N := 33) hx hb hts hi9 hown hK.1 hW.1 0 rfl rfl 23 (by decide) hw1 (fun _ h9 => h9) rfl dX9_take_10 ?_
        refine lv_if_ne (tgt := 72) hx hb dX9_take_13 (by decide) (fun c13 => ?_) (fun c13 => ?_)
        · rw [if_neg c13] at hF
          cases hF
          exact hX4 _ _ _ (itr_out hN4) _ _ hW _ (lv_sub hl [2] rfl)
        · rw [if_pos c13] at hF
          refine lv_aload_n hx hb dX9_take_16 rfl (lv_at hl 0 rfl) ?_
          refine va_get (D := D) (ci := 9) (v := .int m_read_4) (C := RX9) (T := TX9) (N := 33) hx hb hts hi9 hown hK.1 hW.1 0 rfl rfl 22 (by decide) hw0 (fun _ h9 => h9) rfl dX9_take_17 ?_
          refine lv_aload_n hx hb dX9_take_20 rfl (lv_at hl 0 rfl) ?_
          refine va_get (D := D) (ci := 9) (v := .int m_bits) (C := RX9) (T := TX9) (N := 33) hx hb hts hi9 hown hK.1 hW.1 0 rfl rfl 3 (by decide) hw2 (fun _ h9 => h9) rfl dX9_take_21 ?_
          refine lv_icmp_ne (tgt := 34) hx hb dX9_take_24 (by decide) (fun c24 => ?_) (fun c24 => ?_)
          · rw [if_neg c24] at hF
            refine lv_iconst (v := 2) hx hb dX9_take_34 (by decide) ?_
            refine lv_iload_n hx hb dX9_take_35 rfl (lv_at hl 2 rfl) ?_
            refine lv_imul hx hb dX9_take_36 ?_
            refine lv_aload_n hx hb dX9_take_37 rfl (lv_at hl 0 rfl) ?_
            refine va_get (D := D) (ci := 9) (v := .ref a_tape) (C := RX9) (T := TX9) (N := 33) hx hb hts hi9 hown hK.1 hW.1 0 rfl rfl 2 (by decide) hw3 (fun _ h9 => h9) rfl dX9_take_38 ?_
            refine lv_aload_n hx hb dX9_take_41 rfl (lv_at hl 0 rfl) ?_
            refine va_get (D := D) (ci := 9) (v := .int m_read_4) (C := RX9) (T := TX9) (N := 33) hx hb hts hi9 hown hK.1 hW.1 0 rfl rfl 22 (by decide) hw0 (fun _ h9 => h9) rfl dX9_take_42 ?_
            obtain ⟨g45, hF⟩ := gdI_some hF
            refine va_zald hx hb hK.1 hW.1 1 1 rfl rfl g45 dX9_take_45 ?_
            refine lv_if_eq (tgt := 53) hx hb dX9_take_46 (by decide) (fun c46 => ?_) (fun c46 => ?_)
            · rw [if_pos c46] at hF
              refine lv_iconst (v := 0) hx hb dX9_take_53 (by decide) ?_
              exact hJ54 _ _ _ _ _ hF _ _ hW _ (lv_sub hl [0, 1, 3] rfl)
            · rw [if_neg c46] at hF
              refine lv_iconst (v := 1) hx hb dX9_take_49 (by decide) ?_
              refine lv_goto (tgt := 54) hx hb dX9_take_50 (by decide) ?_
              exact hJ54 _ _ _ _ _ hF _ _ hW _ (lv_sub hl [0, 1, 3] rfl)
          · rw [if_pos c24] at hF
            refine lv_aload_n hx hb dX9_take_27 rfl (lv_at hl 0 rfl) ?_
            refine lv_iconst (v := 1) hx hb dX9_take_28 (by decide) ?_
            refine va_put (D := D) (ci := 9) (v := .int (1 : Int32)) (ty := .int) (C := RX9) (T := TX9) (N := 33) hx hb hts hi9 tyX9 tyX9_ok nmX9 hown hK.1 hW.1 hW.2.1 hW.2.2 0 rfl rfl 23 (by decide) hw1 (fun _ h9 => h9) rfl (by decide +kernel) rfl rfl (Nat.le_of_ble_eq_true rfl) dX9_take_29 (fun H locs hP hD hS => ?_)
            have hW : WS D A s [ob a_self 9 [Value.int m_signs, Value.ref a_block, Value.ref a_tape, Value.int m_bits, Value.int m_faultAt, Value.int m_isDone, Value.int m_n, Value.ref a_map, Value.ref a_places, Value.int m_symbols, Value.ref a_symbol, Value.int m_groups, Value.int m_tables, Value.ref a_lengths, Value.ref a_taken, Value.ref a_codes, Value.ref a_list, Value.ref a_weights, Value.ref a_whole, Value.int m_lays, Value.int m_laid, Value.ref a_row, Value.int m_read_4, Value.int (1 : Int32), Value.int m_readMany, Value.ref a_readMap, Value.int m_readTables, Value.int m_readGroups, Value.ref a_readTaken, Value.ref a_readLengths, Value.ref a_readCodes, Value.int m_found, Value.ref a_foundBlock], ia cZ a_tape 1500 m_tape] H locs := ⟨hP, hD, hS⟩
            refine lv_iconst (v := 0) hx hb dX9_take_32 (by decide) ?_
            cases hF
            have hq0 := itr_out hN4
            subst hq0
            have hF := bs_inr hq4
            cases hF
            subst hQ
            exact ct_iret hx hb hr hlocks hW.1 hW.2.2 dX9_take_33
  exact hL4 nn _ _ _ _ hI _ _ hW _ (lv_sub hl [2, 3, 1, 0] rfl)
abbrev rmMo_fails : Room := { frames := 0, cells := 0, slots := 0, locals := 0 }
set_option maxHeartbeats 4000000 in
set_option maxRecDepth 100000 in
theorem kMo_fails (l : Launch) (D : va_G) (cI cZ cO cG : ClassId) (a_self : Nat) (a_block : Nat) (a_tape : Nat) (a_map : Nat) (a_places : Nat) (a_symbol : Nat) (a_lengths : Nat) (a_taken : Nat) (a_codes : Nat) (a_list : Nat) (a_weights : Nat) (a_whole : Nat) (a_row : Nat) (a_readMap : Nat) (a_readTaken : Nat) (a_readLengths : Nat) (a_readCodes : Nat) (a_foundBlock : Nat) (m_signs : Int32) (m_bits : Int32) (m_faultAt : Int32) (m_isDone : Int32) (m_n : Int32) (m_symbols : Int32) (m_groups : Int32) (m_tables : Int32) (m_lays : Int32) (m_laid : Int32) (m_read : Int32) (m_wrong : Int32) (m_readMany : Int32) (m_readTables : Int32) (m_readGroups : Int32) (m_found : Int32) (x1 : Int32) (x2 : Int32) {m_wrong' : Int32} (hF : fMo_fails m_wrong x1 x2 = some m_wrong') : CT l yX9_fails wsX9_fails rmMo_fails D (tysG cI cZ cO cG) [.ref a_self, .int x1, .int x2] [ob a_self 9 [Value.int m_signs, Value.ref a_block, Value.ref a_tape, Value.int m_bits, Value.int m_faultAt, Value.int m_isDone, Value.int m_n, Value.ref a_map, Value.ref a_places, Value.int m_symbols, Value.ref a_symbol, Value.int m_groups, Value.int m_tables, Value.ref a_lengths, Value.ref a_taken, Value.ref a_codes, Value.ref a_list, Value.ref a_weights, Value.ref a_whole, Value.int m_lays, Value.int m_laid, Value.ref a_row, Value.int m_read, Value.int m_wrong, Value.int m_readMany, Value.ref a_readMap, Value.int m_readTables, Value.int m_readGroups, Value.ref a_readTaken, Value.ref a_readLengths, Value.ref a_readCodes, Value.int m_found, Value.ref a_foundBlock]] none [ob a_self 9 [Value.int m_signs, Value.ref a_block, Value.ref a_tape, Value.int m_bits, Value.int m_faultAt, Value.int m_isDone, Value.int m_n, Value.ref a_map, Value.ref a_places, Value.int m_symbols, Value.ref a_symbol, Value.int m_groups, Value.int m_tables, Value.ref a_lengths, Value.ref a_taken, Value.ref a_codes, Value.ref a_list, Value.ref a_weights, Value.ref a_whole, Value.int m_lays, Value.int m_laid, Value.ref a_row, Value.int m_read, Value.int m_wrong', Value.int m_readMany, Value.ref a_readMap, Value.int m_readTables, Value.int m_readGroups, Value.ref a_readTaken, Value.ref a_readLengths, Value.ref a_readCodes, Value.int m_found, Value.ref a_foundBlock]] := by
  refine CT.of (cc := cX9_fails) (maxL := 3) (ret := none) (by decide) rfl (Nat.le_of_ble_eq_true rfl) ?_
  intro p e s m below meth c A ls hx hb hr hml hts hown hlocks hK hA hP hD hS hl
  generalize hargs : ([.ref a_self, .int x1, .int x2] : List Value).toArray = args at hts ⊢
  generalize hQ : MQ below (ctQ D none [ob a_self 9 [Value.int m_signs, Value.ref a_block, Value.ref a_tape, Value.int m_bits, Value.int m_faultAt, Value.int m_isDone, Value.int m_n, Value.ref a_map, Value.ref a_places, Value.int m_symbols, Value.ref a_symbol, Value.int m_groups, Value.int m_tables, Value.ref a_lengths, Value.ref a_taken, Value.ref a_codes, Value.ref a_list, Value.ref a_weights, Value.ref a_whole, Value.int m_lays, Value.int m_laid, Value.ref a_row, Value.int m_read, Value.int m_wrong', Value.int m_readMany, Value.ref a_readMap, Value.int m_readTables, Value.int m_readGroups, Value.ref a_readTaken, Value.ref a_readLengths, Value.ref a_readCodes, Value.int m_found, Value.ref a_foundBlock]] A) args s 0 0 A = Q
  have hl : lv_has ls 3 [(0, .ref a_self), (1, .int x1), (2, .int x2)] := hl
  have hW : WS D A s [ob a_self 9 [Value.int m_signs, Value.ref a_block, Value.ref a_tape, Value.int m_bits, Value.int m_faultAt, Value.int m_isDone, Value.int m_n, Value.ref a_map, Value.ref a_places, Value.int m_symbols, Value.ref a_symbol, Value.int m_groups, Value.int m_tables, Value.ref a_lengths, Value.ref a_taken, Value.ref a_codes, Value.ref a_list, Value.ref a_weights, Value.ref a_whole, Value.int m_lays, Value.int m_laid, Value.ref a_row, Value.int m_read, Value.int m_wrong, Value.int m_readMany, Value.ref a_readMap, Value.int m_readTables, Value.int m_readGroups, Value.ref a_readTaken, Value.ref a_readLengths, Value.ref a_readCodes, Value.int m_found, Value.ref a_foundBlock]] s.heap [] := ⟨hP, hD, hS⟩
  clear hP hD hS
  unfold fMo_fails at hF
  have hw0 := hts (Cond.fieldLink RX9 164 "MoveFrontsModel" "wrong" "I") (by decide +kernel)
  have hi9 : ∀ w ∈ u_ws RX9 TX9 33, w ∈ wsX9_fails := by decide +kernel
  refine lv_aload_n hx hb dX9_fails_0 rfl (lv_at hl 0 rfl) ?_
  refine lv_aload_n hx hb dX9_fails_1 rfl (lv_at hl 0 rfl) ?_
  refine va_get (D := D) (ci := 9) (v := .int m_wrong) (C := RX9) (T := TX9) (N := 33) hx hb hts hi9 hown hK.1 hW.1 0 rfl rfl 23 (by decide) hw0 (fun _ h9 => h9) rfl dX9_fails_2 ?_
  refine lv_if_ne (tgt := 16) hx hb dX9_fails_5 (by decide) (fun c5 => ?_) (fun c5 => ?_)
  · rw [if_neg c5] at hF
    refine lv_aload_n hx hb dX9_fails_16 rfl (lv_at hl 0 rfl) ?_
    refine va_get (D := D) (ci := 9) (v := .int m_wrong) (C := RX9) (T := TX9) (N := 33) hx hb hts hi9 hown hK.1 hW.1 0 rfl rfl 23 (by decide) hw0 (fun _ h9 => h9) rfl dX9_fails_17 ?_
    refine va_put (D := D) (ci := 9) (v := .int m_wrong) (ty := .int) (C := RX9) (T := TX9) (N := 33) hx hb hts hi9 tyX9 tyX9_ok nmX9 hown hK.1 hW.1 hW.2.1 hW.2.2 0 rfl rfl 23 (by decide) hw0 (fun _ h9 => h9) rfl (by decide +kernel) rfl rfl (Nat.le_of_ble_eq_true rfl) dX9_fails_20 (fun H locs hP hD hS => ?_)
    have hW : WS D A s [ob a_self 9 [Value.int m_signs, Value.ref a_block, Value.ref a_tape, Value.int m_bits, Value.int m_faultAt, Value.int m_isDone, Value.int m_n, Value.ref a_map, Value.ref a_places, Value.int m_symbols, Value.ref a_symbol, Value.int m_groups, Value.int m_tables, Value.ref a_lengths, Value.ref a_taken, Value.ref a_codes, Value.ref a_list, Value.ref a_weights, Value.ref a_whole, Value.int m_lays, Value.int m_laid, Value.ref a_row, Value.int m_read, Value.int m_wrong, Value.int m_readMany, Value.ref a_readMap, Value.int m_readTables, Value.int m_readGroups, Value.ref a_readTaken, Value.ref a_readLengths, Value.ref a_readCodes, Value.int m_found, Value.ref a_foundBlock]] H locs := ⟨hP, hD, hS⟩
    cases hF
    subst hQ
    exact ct_vret hx hb hr hlocks hW.1 hW.2.2 dX9_fails_23
  · rw [if_pos c5] at hF
    refine lv_iload_n hx hb dX9_fails_8 rfl (lv_at hl 1 rfl) ?_
    refine lv_if_eq (tgt := 16) hx hb dX9_fails_9 (by decide) (fun c9 => ?_) (fun c9 => ?_)
    · rw [if_pos c9] at hF
      refine lv_aload_n hx hb dX9_fails_16 rfl (lv_at hl 0 rfl) ?_
      refine va_get (D := D) (ci := 9) (v := .int m_wrong) (C := RX9) (T := TX9) (N := 33) hx hb hts hi9 hown hK.1 hW.1 0 rfl rfl 23 (by decide) hw0 (fun _ h9 => h9) rfl dX9_fails_17 ?_
      refine va_put (D := D) (ci := 9) (v := .int m_wrong) (ty := .int) (C := RX9) (T := TX9) (N := 33) hx hb hts hi9 tyX9 tyX9_ok nmX9 hown hK.1 hW.1 hW.2.1 hW.2.2 0 rfl rfl 23 (by decide) hw0 (fun _ h9 => h9) rfl (by decide +kernel) rfl rfl (Nat.le_of_ble_eq_true rfl) dX9_fails_20 (fun H locs hP hD hS => ?_)
      have hW : WS D A s [ob a_self 9 [Value.int m_signs, Value.ref a_block, Value.ref a_tape, Value.int m_bits, Value.int m_faultAt, Value.int m_isDone, Value.int m_n, Value.ref a_map, Value.ref a_places, Value.int m_symbols, Value.ref a_symbol, Value.int m_groups, Value.int m_tables, Value.ref a_lengths, Value.ref a_taken, Value.ref a_codes, Value.ref a_list, Value.ref a_weights, Value.ref a_whole, Value.int m_lays, Value.int m_laid, Value.ref a_row, Value.int m_read, Value.int m_wrong, Value.int m_readMany, Value.ref a_readMap, Value.int m_readTables, Value.int m_readGroups, Value.ref a_readTaken, Value.ref a_readLengths, Value.ref a_readCodes, Value.int m_found, Value.ref a_foundBlock]] H locs := ⟨hP, hD, hS⟩
      cases hF
      subst hQ
      exact ct_vret hx hb hr hlocks hW.1 hW.2.2 dX9_fails_23
    · rw [if_neg c9] at hF
      refine lv_iload_n hx hb dX9_fails_12 rfl (lv_at hl 2 rfl) ?_
      refine lv_goto (tgt := 20) hx hb dX9_fails_13 (by decide) ?_
      refine va_put (D := D) (ci := 9) (v := .int x2) (ty := .int) (C := RX9) (T := TX9) (N := 33) hx hb hts hi9 tyX9 tyX9_ok nmX9 hown hK.1 hW.1 hW.2.1 hW.2.2 0 rfl rfl 23 (by decide) hw0 (fun _ h9 => h9) rfl (by decide +kernel) rfl rfl (Nat.le_of_ble_eq_true rfl) dX9_fails_20 (fun H locs hP hD hS => ?_)
      have hW : WS D A s [ob a_self 9 [Value.int m_signs, Value.ref a_block, Value.ref a_tape, Value.int m_bits, Value.int m_faultAt, Value.int m_isDone, Value.int m_n, Value.ref a_map, Value.ref a_places, Value.int m_symbols, Value.ref a_symbol, Value.int m_groups, Value.int m_tables, Value.ref a_lengths, Value.ref a_taken, Value.ref a_codes, Value.ref a_list, Value.ref a_weights, Value.ref a_whole, Value.int m_lays, Value.int m_laid, Value.ref a_row, Value.int m_read, Value.int x2, Value.int m_readMany, Value.ref a_readMap, Value.int m_readTables, Value.int m_readGroups, Value.ref a_readTaken, Value.ref a_readLengths, Value.ref a_readCodes, Value.int m_found, Value.ref a_foundBlock]] H locs := ⟨hP, hD, hS⟩
      cases hF
      subst hQ
      exact ct_vret hx hb hr hlocks hW.1 hW.2.2 dX9_fails_23
abbrev rmMo_readSigns : Room := { frames := 1, cells := 0, slots := 0, locals := 23 }
set_option maxHeartbeats 4000000 in
set_option maxRecDepth 100000 in
theorem kMo_readSigns (l : Launch) (D : va_G) (cI cZ cO cG : ClassId) (a_self : Nat) (a_block : Nat) (a_tape : Nat) (a_map : Nat) (a_places : Nat) (a_symbol : Nat) (a_lengths : Nat) (a_taken : Nat) (a_codes : Nat) (a_list : Nat) (a_weights : Nat) (a_whole : Nat) (a_row : Nat) (a_readMap : Nat) (a_readTaken : Nat) (a_readLengths : Nat) (a_readCodes : Nat) (a_foundBlock : Nat) (m_signs : Int32) (m_bits : Int32) (m_faultAt : Int32) (m_isDone : Int32) (m_n : Int32) (m_symbols : Int32) (m_groups : Int32) (m_tables : Int32) (m_lays : Int32) (m_laid : Int32) (m_read : Int32) (m_wrong : Int32) (m_readMany : Int32) (m_readTables : Int32) (m_readGroups : Int32) (m_found : Int32) (m_tape : Nat → Int32) (m_readMap : Nat → Int32) {m_read' : Int32} {m_wrong' : Int32} {m_readMany' : Int32} {m_readMap' : Nat → Int32} (hF : fMo_readSigns m_bits m_read m_wrong m_tape m_readMap = some (m_read', m_wrong', m_readMany', m_readMap')) : CT l yX9_readSigns wsX9_readSigns rmMo_readSigns D (tysG cI cZ cO cG) [.ref a_self] [ob a_self 9 [Value.int m_signs, Value.ref a_block, Value.ref a_tape, Value.int m_bits, Value.int m_faultAt, Value.int m_isDone, Value.int m_n, Value.ref a_map, Value.ref a_places, Value.int m_symbols, Value.ref a_symbol, Value.int m_groups, Value.int m_tables, Value.ref a_lengths, Value.ref a_taken, Value.ref a_codes, Value.ref a_list, Value.ref a_weights, Value.ref a_whole, Value.int m_lays, Value.int m_laid, Value.ref a_row, Value.int m_read, Value.int m_wrong, Value.int m_readMany, Value.ref a_readMap, Value.int m_readTables, Value.int m_readGroups, Value.ref a_readTaken, Value.ref a_readLengths, Value.ref a_readCodes, Value.int m_found, Value.ref a_foundBlock], ia cZ a_tape 1500 m_tape, ia cI a_readMap 256 m_readMap] none [ob a_self 9 [Value.int m_signs, Value.ref a_block, Value.ref a_tape, Value.int m_bits, Value.int m_faultAt, Value.int m_isDone, Value.int m_n, Value.ref a_map, Value.ref a_places, Value.int m_symbols, Value.ref a_symbol, Value.int m_groups, Value.int m_tables, Value.ref a_lengths, Value.ref a_taken, Value.ref a_codes, Value.ref a_list, Value.ref a_weights, Value.ref a_whole, Value.int m_lays, Value.int m_laid, Value.ref a_row, Value.int m_read', Value.int m_wrong', Value.int m_readMany', Value.ref a_readMap, Value.int m_readTables, Value.int m_readGroups, Value.ref a_readTaken, Value.ref a_readLengths, Value.ref a_readCodes, Value.int m_found, Value.ref a_foundBlock], ia cZ a_tape 1500 m_tape, ia cI a_readMap 256 m_readMap'] := by
  refine CT.of (cc := cX9_readSigns) (maxL := 5) (ret := none) (by decide) rfl (Nat.le_of_ble_eq_true rfl) ?_
  intro p e s m below meth c A ls hx hb hr hml hts hown hlocks hK hA hP hD hS hl
  generalize hargs : ([.ref a_self] : List Value).toArray = args at hts ⊢
  generalize hQ : MQ below (ctQ D none [ob a_self 9 [Value.int m_signs, Value.ref a_block, Value.ref a_tape, Value.int m_bits, Value.int m_faultAt, Value.int m_isDone, Value.int m_n, Value.ref a_map, Value.ref a_places, Value.int m_symbols, Value.ref a_symbol, Value.int m_groups, Value.int m_tables, Value.ref a_lengths, Value.ref a_taken, Value.ref a_codes, Value.ref a_list, Value.ref a_weights, Value.ref a_whole, Value.int m_lays, Value.int m_laid, Value.ref a_row, Value.int m_read', Value.int m_wrong', Value.int m_readMany', Value.ref a_readMap, Value.int m_readTables, Value.int m_readGroups, Value.ref a_readTaken, Value.ref a_readLengths, Value.ref a_readCodes, Value.int m_found, Value.ref a_foundBlock], ia cZ a_tape 1500 m_tape, ia cI a_readMap 256 m_readMap'] A) args s 0 0 A = Q
  have hl : lv_has ls 5 [(0, .ref a_self)] := hl
  have hW : WS D A s [ob a_self 9 [Value.int m_signs, Value.ref a_block, Value.ref a_tape, Value.int m_bits, Value.int m_faultAt, Value.int m_isDone, Value.int m_n, Value.ref a_map, Value.ref a_places, Value.int m_symbols, Value.ref a_symbol, Value.int m_groups, Value.int m_tables, Value.ref a_lengths, Value.ref a_taken, Value.ref a_codes, Value.ref a_list, Value.ref a_weights, Value.ref a_whole, Value.int m_lays, Value.int m_laid, Value.ref a_row, Value.int m_read, Value.int m_wrong, Value.int m_readMany, Value.ref a_readMap, Value.int m_readTables, Value.int m_readGroups, Value.ref a_readTaken, Value.ref a_readLengths, Value.ref a_readCodes, Value.int m_found, Value.ref a_foundBlock], ia cZ a_tape 1500 m_tape, ia cI a_readMap 256 m_readMap] s.heap [] := ⟨hP, hD, hS⟩
  clear hP hD hS
  unfold fMo_readSigns at hF
  have hw0 := hts (Cond.fieldLink RX9 51 "MoveFrontsModel" "readMap" "[I") (by decide +kernel)
  have hw1 := hts (Cond.fieldLink RX9 170 "MoveFrontsModel" "readMany" "I") (by decide +kernel)
  have hw2 := hts (Cond.fieldLink RX9 164 "MoveFrontsModel" "wrong" "I") (by decide +kernel)
  have hi9 : ∀ w ∈ u_ws RX9 TX9 33, w ∈ wsX9_readSigns := by decide +kernel
  have hJ22 : ∀ (x1_22 : Int32) (m_read_22 : Int32) (m_wrong_22 : Int32) (m_readMany_22 : Int32) (m_readMap_22 : Nat → Int32) (t1_22 : Int32), fMo_readSigns_J22 m_bits m_tape x1_22 m_read_22 m_wrong_22 m_readMany_22 m_readMap_22 t1_22 = some (m_read', m_wrong', m_readMany', m_readMap') → ∀ (H : Heap) (locs : List Loc), WS D A s [ob a_self 9 [Value.int m_signs, Value.ref a_block, Value.ref a_tape, Value.int m_bits, Value.int m_faultAt, Value.int m_isDone, Value.int m_n, Value.ref a_map, Value.ref a_places, Value.int m_symbols, Value.ref a_symbol, Value.int m_groups, Value.int m_tables, Value.ref a_lengths, Value.ref a_taken, Value.ref a_codes, Value.ref a_list, Value.ref a_weights, Value.ref a_whole, Value.int m_lays, Value.int m_laid, Value.ref a_row, Value.int m_read_22, Value.int m_wrong_22, Value.int m_readMany_22, Value.ref a_readMap, Value.int m_readTables, Value.int m_readGroups, Value.ref a_readTaken, Value.ref a_readLengths, Value.ref a_readCodes, Value.int m_found, Value.ref a_foundBlock], ia cZ a_tape 1500 m_tape, ia cI a_readMap 256 m_readMap_22] H locs → ∀ ls : Array Slot, lv_has ls 5 [(0, .ref a_self), (1, .int x1_22)] → W p l e (headSpec wsX9_readSigns rmMo_readSigns).room s m args below meth c H locs 0 0 Q (F0 m 22 ls [.int t1_22, .ref a_self]) := by
    intro x1_22 m_read_22 m_wrong_22 m_readMany_22 m_readMap_22 t1_22 hF H locs hW ls hl
    unfold fMo_readSigns_J22 at hF
    refine lv_iconst (v := 2) hx hb dX9_readSigns_22 (by decide) ?_
    obtain ⟨m_wrong_23, e23, hF⟩ := bd1_some hF
    refine ctV (wn := [ob a_self 9 [Value.int m_signs, Value.ref a_block, Value.ref a_tape, Value.int m_bits, Value.int m_faultAt, Value.int m_isDone, Value.int m_n, Value.ref a_map, Value.ref a_places, Value.int m_symbols, Value.ref a_symbol, Value.int m_groups, Value.int m_tables, Value.ref a_lengths, Value.ref a_taken, Value.ref a_codes, Value.ref a_list, Value.ref a_weights, Value.ref a_whole, Value.int m_lays, Value.int m_laid, Value.ref a_row, Value.int m_read_22, Value.int m_wrong_23, Value.int m_readMany_22, Value.ref a_readMap, Value.int m_readTables, Value.int m_readGroups, Value.ref a_readTaken, Value.ref a_readLengths, Value.ref a_readCodes, Value.int m_found, Value.ref a_foundBlock], ia cZ a_tape 1500 m_tape, ia cI a_readMap 256 m_readMap_22]) (r := (RX9, TX9, 33)) (As := [.int t1_22, .int (2 : Int32)]) (rest := []) hx hb hml hown hts hK hW hA hl.1 (kMo_fails l D cI cZ cO cG a_self a_block a_tape a_map a_places a_symbol a_lengths a_taken a_codes a_list a_weights a_whole a_row a_readMap a_readTaken a_readLengths a_readCodes a_foundBlock m_signs m_bits m_faultAt m_isDone m_n m_symbols m_groups m_tables m_lays m_laid m_read_22 m_wrong_22 m_readMany_22 m_readTables m_readGroups m_found t1_22 (2 : Int32) e23) (cwV 2 hts gX9_readSigns_X9_fails rfl rfl rfl (by decide +kernel) ⟨Nat.le_of_ble_eq_true rfl, Nat.le_of_ble_eq_true rfl⟩) 9 0 rfl rfl [0] [1, 2] 3 rfl rfl rfl rfl [ia cZ a_tape 1500 m_tape, ia cI a_readMap 256 m_readMap_22] rfl rfl rfl rfl rfl (Nat.le_of_ble_eq_true rfl) rfl ⟨Nat.zero_le _, Nat.zero_le _⟩ dX9_readSigns_23 (fun H locs hW => ?_)
    refine lv_iconst (v := 0) hx hb dX9_readSigns_26 (by decide) ?_
    refine lv_istore_n (lv' := [(2, .int (0 : Int32)), (0, .ref a_self), (1, .int x1_22)]) hx hb dX9_readSigns_27 rfl hl (by decide) rfl (fun ls hl => ?_)
    obtain ⟨m_read_28ze, m_wrong_28ze, m_readMany_28ze, m_readMap_28ze, hI, hF⟩ := bd4_some hF
    obtain ⟨nn, hI⟩ := itrO_some hI
    have hX28 : ∀ (m_read_28z : Int32) (m_wrong_28z : Int32) (m_readMany_28z : Int32) (m_readMap_28z : Nat → Int32), (m_read_28z, m_wrong_28z, m_readMany_28z, m_readMap_28z) = (m_read_28ze, m_wrong_28ze, m_readMany_28ze, m_readMap_28ze) → ∀ (H : Heap) (locs : List Loc), WS D A s [ob a_self 9 [Value.int m_signs, Value.ref a_block, Value.ref a_tape, Value.int m_bits, Value.int m_faultAt, Value.int m_isDone, Value.int m_n, Value.ref a_map, Value.ref a_places, Value.int m_symbols, Value.ref a_symbol, Value.int m_groups, Value.int m_tables, Value.ref a_lengths, Value.ref a_taken, Value.ref a_codes, Value.ref a_list, Value.ref a_weights, Value.ref a_whole, Value.int m_lays, Value.int m_laid, Value.ref a_row, Value.int m_read_28z, Value.int m_wrong_28z, Value.int m_readMany_28z, Value.ref a_readMap, Value.int m_readTables, Value.int m_readGroups, Value.ref a_readTaken, Value.ref a_readLengths, Value.ref a_readCodes, Value.int m_found, Value.ref a_foundBlock], ia cZ a_tape 1500 m_tape, ia cI a_readMap 256 m_readMap_28z] H locs → ∀ ls : Array Slot, lv_has ls 5 [] → W p l e (headSpec wsX9_readSigns rmMo_readSigns).room s m args below meth c H locs 0 0 Q (F0 m 135 ls []) := by
      intro m_read_28z m_wrong_28z m_readMany_28z m_readMap_28z he H locs hW ls hl
      obtain ⟨hz0, hy0⟩ := Prod.mk.inj he
      obtain ⟨hz1, hy1⟩ := Prod.mk.inj hy0
      obtain ⟨hz2, hy2⟩ := Prod.mk.inj hy1
      subst hz0
      subst hz1
      subst hz2
      subst hy2
      cases hF
      subst hQ
      exact ct_vret hx hb hr hlocks hW.1 hW.2.2 dX9_readSigns_135
    have hL28 : ∀ (n28 : Nat) (x2_28 : Int32) (m_read_28 : Int32) (m_wrong_28 : Int32) (m_readMany_28 : Int32) (m_readMap_28 : Nat → Int32), itr (un5 (fMo_readSigns_L28 m_bits m_tape x1_22)) n28 (x2_28, m_read_28, m_wrong_28, m_readMany_28, m_readMap_28) = some (m_read_28ze, m_wrong_28ze, m_readMany_28ze, m_readMap_28ze) → ∀ (H : Heap) (locs : List Loc), WS D A s [ob a_self 9 [Value.int m_signs, Value.ref a_block, Value.ref a_tape, Value.int m_bits, Value.int m_faultAt, Value.int m_isDone, Value.int m_n, Value.ref a_map, Value.ref a_places, Value.int m_symbols, Value.ref a_symbol, Value.int m_groups, Value.int m_tables, Value.ref a_lengths, Value.ref a_taken, Value.ref a_codes, Value.ref a_list, Value.ref a_weights, Value.ref a_whole, Value.int m_lays, Value.int m_laid, Value.ref a_row, Value.int m_read_28, Value.int m_wrong_28, Value.int m_readMany_28, Value.ref a_readMap, Value.int m_readTables, Value.int m_readGroups, Value.ref a_readTaken, Value.ref a_readLengths, Value.ref a_readCodes, Value.int m_found, Value.ref a_foundBlock], ia cZ a_tape 1500 m_tape, ia cI a_readMap 256 m_readMap_28] H locs → ∀ ls : Array Slot, lv_has ls 5 [(0, .ref a_self), (1, .int x1_22), (2, .int x2_28)] → W p l e (headSpec wsX9_readSigns rmMo_readSigns).room s m args below meth c H locs 0 0 Q (F0 m 28 ls []) := by
      intro n28
      induction n28 with
      | zero => intro x2_28 m_read_28 m_wrong_28 m_readMany_28 m_readMap_28 hI; cases hI
      | succ n28 ih28 =>
        intro x2_28 m_read_28 m_wrong_28 m_readMany_28 m_readMap_28 hI H locs hW ls hl
        obtain ⟨sr28, hF, hN28⟩ := itr_succ hI
        have hF : fMo_readSigns_L28 m_bits m_tape x1_22 x2_28 m_read_28 m_wrong_28 m_readMany_28 m_readMap_28 = some sr28 := hF
        unfold fMo_readSigns_L28 at hF
        have hJ70 : ∀ (x2_70 : Int32) (x3_70 : Int32) (m_read_70 : Int32) (m_wrong_70 : Int32) (m_readMany_70 : Int32) (m_readMap_70 : Nat → Int32) (t1_70 : Int32), fMo_readSigns_J70 x2_70 x3_70 m_read_70 m_wrong_70 m_readMany_70 m_readMap_70 t1_70 = some sr28 → ∀ (H : Heap) (locs : List Loc), WS D A s [ob a_self 9 [Value.int m_signs, Value.ref a_block, Value.ref a_tape, Value.int m_bits, Value.int m_faultAt, Value.int m_isDone, Value.int m_n, Value.ref a_map, Value.ref a_places, Value.int m_symbols, Value.ref a_symbol, Value.int m_groups, Value.int m_tables, Value.ref a_lengths, Value.ref a_taken, Value.ref a_codes, Value.ref a_list, Value.ref a_weights, Value.ref a_whole, Value.int m_lays, Value.int m_laid, Value.ref a_row, Value.int m_read_70, Value.int m_wrong_70, Value.int m_readMany_70, Value.ref a_readMap, Value.int m_readTables, Value.int m_readGroups, Value.ref a_readTaken, Value.ref a_readLengths, Value.ref a_readCodes, Value.int m_found, Value.ref a_foundBlock], ia cZ a_tape 1500 m_tape, ia cI a_readMap 256 m_readMap_70] H locs → ∀ ls : Array Slot, lv_has ls 5 [(0, .ref a_self), (1, .int x1_22), (2, .int x2_70), (3, .int x3_70)] → W p l e (headSpec wsX9_readSigns rmMo_readSigns).room s m args below meth c H locs 0 0 Q (F0 m 70 ls [.int t1_70, .ref a_self]) := by
          intro x2_70 x3_70 m_read_70 m_wrong_70 m_readMany_70 m_readMap_70 t1_70 hF H locs hW ls hl
          unfold fMo_readSigns_J70 at hF
          refine lv_iconst (v := 2) hx hb dX9_readSigns_70 (by decide) ?_
          obtain ⟨m_wrong_71, e71, hF⟩ := bd1_some hF
          refine ctV (wn := [ob a_self 9 [Value.int m_signs, Value.ref a_block, Value.ref a_tape, Value.int m_bits, Value.int m_faultAt, Value.int m_isDone, Value.int m_n, Value.ref a_map, Value.ref a_places, Value.int m_symbols, Value.ref a_symbol, Value.int m_groups, Value.int m_tables, Value.ref a_lengths, Value.ref a_taken, Value.ref a_codes, Value.ref a_list, Value.ref a_weights, Value.ref a_whole, Value.int m_lays, Value.int m_laid, Value.ref a_row, Value.int m_read_70, Value.int m_wrong_71, Value.int m_readMany_70, Value.ref a_readMap, Value.int m_readTables, Value.int m_readGroups, Value.ref a_readTaken, Value.ref a_readLengths, Value.ref a_readCodes, Value.int m_found, Value.ref a_foundBlock], ia cZ a_tape 1500 m_tape, ia cI a_readMap 256 m_readMap_70]) (r := (RX9, TX9, 33)) (As := [.int t1_70, .int (2 : Int32)]) (rest := []) hx hb hml hown hts hK hW hA hl.1 (kMo_fails l D cI cZ cO cG a_self a_block a_tape a_map a_places a_symbol a_lengths a_taken a_codes a_list a_weights a_whole a_row a_readMap a_readTaken a_readLengths a_readCodes a_foundBlock m_signs m_bits m_faultAt m_isDone m_n m_symbols m_groups m_tables m_lays m_laid m_read_70 m_wrong_70 m_readMany_70 m_readTables m_readGroups m_found t1_70 (2 : Int32) e71) (cwV 2 hts gX9_readSigns_X9_fails rfl rfl rfl (by decide +kernel) ⟨Nat.le_of_ble_eq_true rfl, Nat.le_of_ble_eq_true rfl⟩) 9 0 rfl rfl [0] [1, 2] 3 rfl rfl rfl rfl [ia cZ a_tape 1500 m_tape, ia cI a_readMap 256 m_readMap_70] rfl rfl rfl rfl rfl (Nat.le_of_ble_eq_true rfl) rfl ⟨Nat.zero_le _, Nat.zero_le _⟩ dX9_readSigns_71 (fun H locs hW => ?_)
          refine lv_iconst (v := 0) hx hb dX9_readSigns_74 (by decide) ?_
          refine lv_istore (lv' := [(4, .int (0 : Int32)), (0, .ref a_self), (1, .int x1_22), (2, .int x2_70), (3, .int x3_70)]) hx hb dX9_readSigns_75 hl (by decide) rfl (fun ls hl => ?_)
          obtain ⟨m_readMany_77ze, m_readMap_77ze, hI, hF⟩ := bd2_some hF
          obtain ⟨nn, hI⟩ := itrO_some hI
          have hX77 : ∀ (m_readMany_77z : Int32) (m_readMap_77z : Nat → Int32), (m_readMany_77z, m_readMap_77z) = (m_readMany_77ze, m_readMap_77ze) → ∀ (H : Heap) (locs : List Loc), WS D A s [ob a_self 9 [Value.int m_signs, Value.ref a_block, Value.ref a_tape, Value.int m_bits, Value.int m_faultAt, Value.int m_isDone, Value.int m_n, Value.ref a_map, Value.ref a_places, Value.int m_symbols, Value.ref a_symbol, Value.int m_groups, Value.int m_tables, Value.ref a_lengths, Value.ref a_taken, Value.ref a_codes, Value.ref a_list, Value.ref a_weights, Value.ref a_whole, Value.int m_lays, Value.int m_laid, Value.ref a_row, Value.int m_read_70, Value.int m_wrong_71, Value.int m_readMany_77z, Value.ref a_readMap, Value.int m_readTables, Value.int m_readGroups, Value.ref a_readTaken, Value.ref a_readLengths, Value.ref a_readCodes, Value.int m_found, Value.ref a_foundBlock], ia cZ a_tape 1500 m_tape, ia cI a_readMap 256 m_readMap_77z] H locs → ∀ ls : Array Slot, lv_has ls 5 [(0, .ref a_self), (1, .int x1_22), (2, .int x2_70)] → W p l e (headSpec wsX9_readSigns rmMo_readSigns).room s m args below meth c H locs 0 0 Q (F0 m 129 ls []) := by
            intro m_readMany_77z m_readMap_77z he H locs hW ls hl
            obtain ⟨hz0, hy0⟩ := Prod.mk.inj he
            subst hz0
            subst hy0
            refine lv_iinc (v := (x2_70 + 1)) (lv' := [(2, .int (x2_70 + 1)), (0, .ref a_self), (1, .int x1_22)]) hx hb dX9_readSigns_129 hl (k := 2) rfl rfl (by decide) rfl (fun ls hl => ?_)
            refine lv_goto (tgt := 28) hx hb dX9_readSigns_132 (by decide) ?_
            cases hF
            exact ih28 _ _ _ _ _ (itr_in hN28) _ _ hW _ (lv_sub hl [1, 2, 0] rfl)
          have hL77 : ∀ (n77 : Nat) (x4_77 : Int32) (m_readMany_77 : Int32) (m_readMap_77 : Nat → Int32), itr (un3 (fMo_readSigns_L77 x2_70 x3_70)) n77 (x4_77, m_readMany_77, m_readMap_77) = some (m_readMany_77ze, m_readMap_77ze) → ∀ (H : Heap) (locs : List Loc), WS D A s [ob a_self 9 [Value.int m_signs, Value.ref a_block, Value.ref a_tape, Value.int m_bits, Value.int m_faultAt, Value.int m_isDone, Value.int m_n, Value.ref a_map, Value.ref a_places, Value.int m_symbols, Value.ref a_symbol, Value.int m_groups, Value.int m_tables, Value.ref a_lengths, Value.ref a_taken, Value.ref a_codes, Value.ref a_list, Value.ref a_weights, Value.ref a_whole, Value.int m_lays, Value.int m_laid, Value.ref a_row, Value.int m_read_70, Value.int m_wrong_71, Value.int m_readMany_77, Value.ref a_readMap, Value.int m_readTables, Value.int m_readGroups, Value.ref a_readTaken, Value.ref a_readLengths, Value.ref a_readCodes, Value.int m_found, Value.ref a_foundBlock], ia cZ a_tape 1500 m_tape, ia cI a_readMap 256 m_readMap_77] H locs → ∀ ls : Array Slot, lv_has ls 5 [(0, .ref a_self), (1, .int x1_22), (2, .int x2_70), (3, .int x3_70), (4, .int x4_77)] → W p l e (headSpec wsX9_readSigns rmMo_readSigns).room s m args below meth c H locs 0 0 Q (F0 m 77 ls []) := by
            intro n77
            induction n77 with
            | zero => intro x4_77 m_readMany_77 m_readMap_77 hI; cases hI
            | succ n77 ih77 =>
              intro x4_77 m_readMany_77 m_readMap_77 hI H locs hW ls hl
              obtain ⟨sr77, hF, hN77⟩ := itr_succ hI
              have hF : fMo_readSigns_L77 x2_70 x3_70 x4_77 m_readMany_77 m_readMap_77 = some sr77 := hF
              unfold fMo_readSigns_L77 at hF
              refine lv_iload hx hb dX9_readSigns_77 (lv_at hl 4 rfl) ?_
              refine lv_bipush (v := 16) hx hb dX9_readSigns_79 (by decide) ?_
              refine lv_icmp_ge (tgt := 129) hx hb dX9_readSigns_81 (by decide) (fun c81 => ?_) (fun c81 => ?_)
              · rw [if_pos c81] at hF
                cases hF
                exact hX77 _ _ (itr_out hN77) _ _ hW _ (lv_sub hl [0, 1, 2] rfl)
              · rw [if_neg c81] at hF
                refine lv_iload_n hx hb dX9_readSigns_84 rfl (lv_at hl 3 rfl) ?_
                refine lv_bipush (v := 15) hx hb dX9_readSigns_85 (by decide) ?_
                refine lv_iload hx hb dX9_readSigns_87 (lv_at hl 4 rfl) ?_
                refine lv_isub hx hb dX9_readSigns_89 ?_
                refine lv_ishr hx hb dX9_readSigns_90 ?_
                refine lv_iconst (v := 1) hx hb dX9_readSigns_91 (by decide) ?_
                refine lv_iand hx hb dX9_readSigns_92 ?_
                refine lv_iconst (v := 1) hx hb dX9_readSigns_93 (by decide) ?_
                refine lv_icmp_ne (tgt := 123) hx hb dX9_readSigns_94 (by decide) (fun c94 => ?_) (fun c94 => ?_)
                · rw [if_neg c94] at hF
                  refine lv_iinc (v := (x4_77 + 1)) (lv' := [(4, .int (x4_77 + 1)), (0, .ref a_self), (1, .int x1_22), (2, .int x2_70), (3, .int x3_70)]) hx hb dX9_readSigns_123 hl (k := 4) rfl rfl (by decide) rfl (fun ls hl => ?_)
                  refine lv_goto (tgt := 77) hx hb dX9_readSigns_126 (by decide) ?_
                  cases hF
                  exact ih77 _ _ _ (itr_in hN77) _ _ hW _ (lv_sub hl [1, 2, 3, 4, 0] rfl)
                · rw [if_pos c94] at hF
                  refine lv_aload_n hx hb dX9_readSigns_97 rfl (lv_at hl 0 rfl) ?_
                  refine va_get (D := D) (ci := 9) (v := .ref a_readMap) (C := RX9) (T := TX9) (N := 33) hx hb hts hi9 hown hK.1 hW.1 0 rfl rfl 25 (by decide) hw0 (fun _ h9 => h9) rfl dX9_readSigns_98 ?_
                  refine lv_aload_n hx hb dX9_readSigns_101 rfl (lv_at hl 0 rfl) ?_
                  refine va_get (D := D) (ci := 9) (v := .int m_readMany_77) (C := RX9) (T := TX9) (N := 33) hx hb hts hi9 hown hK.1 hW.1 0 rfl rfl 24 (by decide) hw1 (fun _ h9 => h9) rfl dX9_readSigns_102 ?_
                  refine lv_bipush (v := 16) hx hb dX9_readSigns_105 (by decide) ?_
                  refine lv_iload_n hx hb dX9_readSigns_107 rfl (lv_at hl 2 rfl) ?_
                  refine lv_imul hx hb dX9_readSigns_108 ?_
                  refine lv_iload hx hb dX9_readSigns_109 (lv_at hl 4 rfl) ?_
                  refine lv_iadd hx hb dX9_readSigns_111 ?_
                  obtain ⟨g112, hF⟩ := gdI_some hF
                  refine va_iast hx hb hK.1 hW.1 hW.2.1 hW.2.2 2 0 rfl rfl g112 dX9_readSigns_112 (fun H locs hP hD hS => ?_)
                  have hW : WS D A s [ob a_self 9 [Value.int m_signs, Value.ref a_block, Value.ref a_tape, Value.int m_bits, Value.int m_faultAt, Value.int m_isDone, Value.int m_n, Value.ref a_map, Value.ref a_places, Value.int m_symbols, Value.ref a_symbol, Value.int m_groups, Value.int m_tables, Value.ref a_lengths, Value.ref a_taken, Value.ref a_codes, Value.ref a_list, Value.ref a_weights, Value.ref a_whole, Value.int m_lays, Value.int m_laid, Value.ref a_row, Value.int m_read_70, Value.int m_wrong_71, Value.int m_readMany_77, Value.ref a_readMap, Value.int m_readTables, Value.int m_readGroups, Value.ref a_readTaken, Value.ref a_readLengths, Value.ref a_readCodes, Value.int m_found, Value.ref a_foundBlock], ia cZ a_tape 1500 m_tape, ia cI a_readMap 256 (upd m_readMap_77 m_readMany_77.toNatClampNeg (((16 : Int32) * x2_70) + x4_77))] H locs := ⟨hP, hD, hS⟩
                  refine lv_aload_n hx hb dX9_readSigns_113 rfl (lv_at hl 0 rfl) ?_
                  refine lv_dup hx hb dX9_readSigns_114 rfl ?_
                  refine va_get (D := D) (ci := 9) (v := .int m_readMany_77) (C := RX9) (T := TX9) (N := 33) hx hb hts hi9 hown hK.1 hW.1 0 rfl rfl 24 (by decide) hw1 (fun _ h9 => h9) rfl dX9_readSigns_115 ?_
                  refine lv_iconst (v := 1) hx hb dX9_readSigns_118 (by decide) ?_
                  refine lv_iadd hx hb dX9_readSigns_119 ?_
                  refine va_put (D := D) (ci := 9) (v := .int (m_readMany_77 + (1 : Int32))) (ty := .int) (C := RX9) (T := TX9) (N := 33) hx hb hts hi9 tyX9 tyX9_ok nmX9 hown hK.1 hW.1 hW.2.1 hW.2.2 0 rfl rfl 24 (by decide) hw1 (fun _ h9 => h9) rfl (by decide +kernel) rfl rfl (Nat.le_of_ble_eq_true rfl) dX9_readSigns_120 (fun H locs hP hD hS => ?_)
                  have hW : WS D A s [ob a_self 9 [Value.int m_signs, Value.ref a_block, Value.ref a_tape, Value.int m_bits, Value.int m_faultAt, Value.int m_isDone, Value.int m_n, Value.ref a_map, Value.ref a_places, Value.int m_symbols, Value.ref a_symbol, Value.int m_groups, Value.int m_tables, Value.ref a_lengths, Value.ref a_taken, Value.ref a_codes, Value.ref a_list, Value.ref a_weights, Value.ref a_whole, Value.int m_lays, Value.int m_laid, Value.ref a_row, Value.int m_read_70, Value.int m_wrong_71, Value.int (m_readMany_77 + (1 : Int32)), Value.ref a_readMap, Value.int m_readTables, Value.int m_readGroups, Value.ref a_readTaken, Value.ref a_readLengths, Value.ref a_readCodes, Value.int m_found, Value.ref a_foundBlock], ia cZ a_tape 1500 m_tape, ia cI a_readMap 256 (upd m_readMap_77 m_readMany_77.toNatClampNeg (((16 : Int32) * x2_70) + x4_77))] H locs := ⟨hP, hD, hS⟩
                  refine lv_iinc (v := (x4_77 + 1)) (lv' := [(4, .int (x4_77 + 1)), (0, .ref a_self), (1, .int x1_22), (2, .int x2_70), (3, .int x3_70)]) hx hb dX9_readSigns_123 hl (k := 4) rfl rfl (by decide) rfl (fun ls hl => ?_)
                  refine lv_goto (tgt := 77) hx hb dX9_readSigns_126 (by decide) ?_
                  cases hF
                  exact ih77 _ _ _ (itr_in hN77) _ _ hW _ (lv_sub hl [1, 2, 3, 4, 0] rfl)
          exact hL77 nn _ _ _ hI _ _ hW _ (lv_sub hl [1, 2, 3, 4, 0] rfl)
        refine lv_iload_n hx hb dX9_readSigns_28 rfl (lv_at hl 2 rfl) ?_
        refine lv_bipush (v := 16) hx hb dX9_readSigns_29 (by decide) ?_
        refine lv_icmp_ge (tgt := 135) hx hb dX9_readSigns_31 (by decide) (fun c31 => ?_) (fun c31 => ?_)
        · rw [if_pos c31] at hF
          cases hF
          exact hX28 _ _ _ _ (itr_out hN28) _ _ hW _ (lv_sub hl [] rfl)
        · rw [if_neg c31] at hF
          refine lv_aload_n hx hb dX9_readSigns_34 rfl (lv_at hl 0 rfl) ?_
          refine va_get (D := D) (ci := 9) (v := .int m_wrong_28) (C := RX9) (T := TX9) (N := 33) hx hb hts hi9 hown hK.1 hW.1 0 rfl rfl 23 (by decide) hw2 (fun _ h9 => h9) rfl dX9_readSigns_35 ?_
          refine lv_if_ne (tgt := 135) hx hb dX9_readSigns_38 (by decide) (fun c38 => ?_) (fun c38 => ?_)
          · rw [if_neg c38] at hF
            cases hF
            exact hX28 _ _ _ _ (itr_out hN28) _ _ hW _ (lv_sub hl [] rfl)
          · rw [if_pos c38] at hF
            refine lv_iload_n hx hb dX9_readSigns_41 rfl (lv_at hl 1 rfl) ?_
            refine lv_bipush (v := 15) hx hb dX9_readSigns_42 (by decide) ?_
            refine lv_iload_n hx hb dX9_readSigns_44 rfl (lv_at hl 2 rfl) ?_
            refine lv_isub hx hb dX9_readSigns_45 ?_
            refine lv_ishr hx hb dX9_readSigns_46 ?_
            refine lv_iconst (v := 1) hx hb dX9_readSigns_47 (by decide) ?_
            refine lv_iand hx hb dX9_readSigns_48 ?_
            refine lv_iconst (v := 1) hx hb dX9_readSigns_49 (by decide) ?_
            refine lv_icmp_ne (tgt := 129) hx hb dX9_readSigns_50 (by decide) (fun c50 => ?_) (fun c50 => ?_)
            · rw [if_neg c50] at hF
              refine lv_iinc (v := (x2_28 + 1)) (lv' := [(2, .int (x2_28 + 1)), (0, .ref a_self), (1, .int x1_22)]) hx hb dX9_readSigns_129 hl (k := 2) rfl rfl (by decide) rfl (fun ls hl => ?_)
              refine lv_goto (tgt := 28) hx hb dX9_readSigns_132 (by decide) ?_
              cases hF
              exact ih28 _ _ _ _ _ (itr_in hN28) _ _ hW _ (lv_sub hl [1, 2, 0] rfl)
            · rw [if_pos c50] at hF
              refine lv_aload_n hx hb dX9_readSigns_53 rfl (lv_at hl 0 rfl) ?_
              refine lv_bipush (v := 16) hx hb dX9_readSigns_54 (by decide) ?_
              obtain ⟨r_56, m_read_56, m_wrong_56, e56, hF⟩ := bd3_some hF
              refine ctV (wn := [ob a_self 9 [Value.int m_signs, Value.ref a_block, Value.ref a_tape, Value.int m_bits, Value.int m_faultAt, Value.int m_isDone, Value.int m_n, Value.ref a_map, Value.ref a_places, Value.int m_symbols, Value.ref a_symbol, Value.int m_groups, Value.int m_tables, Value.ref a_lengths, Value.ref a_taken, Value.ref a_codes, Value.ref a_list, Value.ref a_weights, Value.ref a_whole, Value.int m_lays, Value.int m_laid, Value.ref a_row, Value.int m_read_56, Value.int m_wrong_56, Value.int m_readMany_28, Value.ref a_readMap, Value.int m_readTables, Value.int m_readGroups, Value.ref a_readTaken, Value.ref a_readLengths, Value.ref a_readCodes, Value.int m_found, Value.ref a_foundBlock], ia cZ a_tape 1500 m_tape, ia cI a_readMap 256 m_readMap_28]) (r := (RX9, TX9, 33)) (As := [.int (16 : Int32)]) (rest := []) hx hb hml hown hts hK hW hA hl.1 (kMo_take l D cI cZ cO cG a_self a_block a_tape a_map a_places a_symbol a_lengths a_taken a_codes a_list a_weights a_whole a_row a_readMap a_readTaken a_readLengths a_readCodes a_foundBlock m_signs m_bits m_faultAt m_isDone m_n m_symbols m_groups m_tables m_lays m_laid m_read_28 m_wrong_28 m_readMany_28 m_readTables m_readGroups m_found m_tape (16 : Int32) e56) (cwV 1 hts gX9_readSigns_X9_take rfl rfl rfl (by decide +kernel) ⟨Nat.le_of_ble_eq_true rfl, Nat.le_of_ble_eq_true rfl⟩) 9 0 rfl rfl [0, 1] [2] 3 rfl rfl rfl rfl [ia cI a_readMap 256 m_readMap_28] rfl rfl rfl rfl rfl (Nat.le_of_ble_eq_true rfl) rfl ⟨Nat.zero_le _, Nat.zero_le _⟩ dX9_readSigns_56 (fun H locs hW => ?_)
              refine lv_istore_n (lv' := [(3, .int r_56), (0, .ref a_self), (1, .int x1_22), (2, .int x2_28)]) hx hb dX9_readSigns_59 rfl hl (by decide) rfl (fun ls hl => ?_)
              refine lv_aload_n hx hb dX9_readSigns_60 rfl (lv_at hl 1 rfl) ?_
              refine lv_iload_n hx hb dX9_readSigns_61 rfl (lv_at hl 0 rfl) ?_
              refine lv_if_ne (tgt := 69) hx hb dX9_readSigns_62 (by decide) (fun c62 => ?_) (fun c62 => ?_)
              · rw [if_neg c62] at hF
                refine lv_iconst (v := 0) hx hb dX9_readSigns_69 (by decide) ?_
                exact hJ70 _ _ _ _ _ _ _ hF _ _ hW _ (lv_sub hl [1, 2, 3, 0] rfl)
              · rw [if_pos c62] at hF
                refine lv_iconst (v := 1) hx hb dX9_readSigns_65 (by decide) ?_
                refine lv_goto (tgt := 70) hx hb dX9_readSigns_66 (by decide) ?_
                exact hJ70 _ _ _ _ _ _ _ hF _ _ hW _ (lv_sub hl [1, 2, 3, 0] rfl)
    exact hL28 nn _ _ _ _ _ hI _ _ hW _ (lv_sub hl [1, 2, 0] rfl)
  refine lv_aload_n hx hb dX9_readSigns_0 rfl (lv_at hl 0 rfl) ?_
  refine lv_iconst (v := 0) hx hb dX9_readSigns_1 (by decide) ?_
  refine va_put (D := D) (ci := 9) (v := .int (0 : Int32)) (ty := .int) (C := RX9) (T := TX9) (N := 33) hx hb hts hi9 tyX9 tyX9_ok nmX9 hown hK.1 hW.1 hW.2.1 hW.2.2 0 rfl rfl 24 (by decide) hw1 (fun _ h9 => h9) rfl (by decide +kernel) rfl rfl (Nat.le_of_ble_eq_true rfl) dX9_readSigns_2 (fun H locs hP hD hS => ?_)
  have hW : WS D A s [ob a_self 9 [Value.int m_signs, Value.ref a_block, Value.ref a_tape, Value.int m_bits, Value.int m_faultAt, Value.int m_isDone, Value.int m_n, Value.ref a_map, Value.ref a_places, Value.int m_symbols, Value.ref a_symbol, Value.int m_groups, Value.int m_tables, Value.ref a_lengths, Value.ref a_taken, Value.ref a_codes, Value.ref a_list, Value.ref a_weights, Value.ref a_whole, Value.int m_lays, Value.int m_laid, Value.ref a_row, Value.int m_read, Value.int m_wrong, Value.int (0 : Int32), Value.ref a_readMap, Value.int m_readTables, Value.int m_readGroups, Value.ref a_readTaken, Value.ref a_readLengths, Value.ref a_readCodes, Value.int m_found, Value.ref a_foundBlock], ia cZ a_tape 1500 m_tape, ia cI a_readMap 256 m_readMap] H locs := ⟨hP, hD, hS⟩
  refine lv_aload_n hx hb dX9_readSigns_5 rfl (lv_at hl 0 rfl) ?_
  refine lv_bipush (v := 16) hx hb dX9_readSigns_6 (by decide) ?_
  obtain ⟨r_8, m_read_8, m_wrong_8, e8, hF⟩ := bd3_some hF
  refine ctV (wn := [ob a_self 9 [Value.int m_signs, Value.ref a_block, Value.ref a_tape, Value.int m_bits, Value.int m_faultAt, Value.int m_isDone, Value.int m_n, Value.ref a_map, Value.ref a_places, Value.int m_symbols, Value.ref a_symbol, Value.int m_groups, Value.int m_tables, Value.ref a_lengths, Value.ref a_taken, Value.ref a_codes, Value.ref a_list, Value.ref a_weights, Value.ref a_whole, Value.int m_lays, Value.int m_laid, Value.ref a_row, Value.int m_read_8, Value.int m_wrong_8, Value.int (0 : Int32), Value.ref a_readMap, Value.int m_readTables, Value.int m_readGroups, Value.ref a_readTaken, Value.ref a_readLengths, Value.ref a_readCodes, Value.int m_found, Value.ref a_foundBlock], ia cZ a_tape 1500 m_tape, ia cI a_readMap 256 m_readMap]) (r := (RX9, TX9, 33)) (As := [.int (16 : Int32)]) (rest := []) hx hb hml hown hts hK hW hA hl.1 (kMo_take l D cI cZ cO cG a_self a_block a_tape a_map a_places a_symbol a_lengths a_taken a_codes a_list a_weights a_whole a_row a_readMap a_readTaken a_readLengths a_readCodes a_foundBlock m_signs m_bits m_faultAt m_isDone m_n m_symbols m_groups m_tables m_lays m_laid m_read m_wrong (0 : Int32) m_readTables m_readGroups m_found m_tape (16 : Int32) e8) (cwV 1 hts gX9_readSigns_X9_take rfl rfl rfl (by decide +kernel) ⟨Nat.le_of_ble_eq_true rfl, Nat.le_of_ble_eq_true rfl⟩) 9 0 rfl rfl [0, 1] [2] 3 rfl rfl rfl rfl [ia cI a_readMap 256 m_readMap] rfl rfl rfl rfl rfl (Nat.le_of_ble_eq_true rfl) rfl ⟨Nat.zero_le _, Nat.zero_le _⟩ dX9_readSigns_8 (fun H locs hW => ?_)
  refine lv_istore_n (lv' := [(1, .int r_8), (0, .ref a_self)]) hx hb dX9_readSigns_11 rfl hl (by decide) rfl (fun ls hl => ?_)
  refine lv_aload_n hx hb dX9_readSigns_12 rfl (lv_at hl 1 rfl) ?_
  refine lv_iload_n hx hb dX9_readSigns_13 rfl (lv_at hl 0 rfl) ?_
  refine lv_if_ne (tgt := 21) hx hb dX9_readSigns_14 (by decide) (fun c14 => ?_) (fun c14 => ?_)
  · rw [if_neg c14] at hF
    refine lv_iconst (v := 0) hx hb dX9_readSigns_21 (by decide) ?_
    exact hJ22 _ _ _ _ _ _ hF _ _ hW _ (lv_sub hl [1, 0] rfl)
  · rw [if_pos c14] at hF
    refine lv_iconst (v := 1) hx hb dX9_readSigns_17 (by decide) ?_
    refine lv_goto (tgt := 22) hx hb dX9_readSigns_18 (by decide) ?_
    exact hJ22 _ _ _ _ _ _ hF _ _ hW _ (lv_sub hl [1, 0] rfl)
abbrev rmMo_readTaken : Room := { frames := 1, cells := 0, slots := 0, locals := 24 }
set_option maxHeartbeats 4000000 in
set_option maxRecDepth 100000 in
theorem kMo_readTaken (l : Launch) (D : va_G) (cI cZ cO cG : ClassId) (a_self : Nat) (a_block : Nat) (a_tape : Nat) (a_map : Nat) (a_places : Nat) (a_symbol : Nat) (a_lengths : Nat) (a_taken : Nat) (a_codes : Nat) (a_list : Nat) (a_weights : Nat) (a_whole : Nat) (a_row : Nat) (a_readMap : Nat) (a_readTaken : Nat) (a_readLengths : Nat) (a_readCodes : Nat) (a_foundBlock : Nat) (m_signs : Int32) (m_bits : Int32) (m_faultAt : Int32) (m_isDone : Int32) (m_n : Int32) (m_symbols : Int32) (m_groups : Int32) (m_tables : Int32) (m_lays : Int32) (m_laid : Int32) (m_read : Int32) (m_wrong : Int32) (m_readMany : Int32) (m_readTables : Int32) (m_readGroups : Int32) (m_found : Int32) (m_tape : Nat → Int32) (m_row : Nat → Int32) (m_readTaken : Nat → Int32) {m_read' : Int32} {m_wrong' : Int32} {m_readTables' : Int32} {m_readGroups' : Int32} {m_row' : Nat → Int32} {m_readTaken' : Nat → Int32} (hF : fMo_readTaken m_bits m_read m_wrong m_tape m_row m_readTaken = some (m_read', m_wrong', m_readTables', m_readGroups', m_row', m_readTaken')) : CT l yX9_readTaken wsX9_readTaken rmMo_readTaken D (tysG cI cZ cO cG) [.ref a_self] [ob a_self 9 [Value.int m_signs, Value.ref a_block, Value.ref a_tape, Value.int m_bits, Value.int m_faultAt, Value.int m_isDone, Value.int m_n, Value.ref a_map, Value.ref a_places, Value.int m_symbols, Value.ref a_symbol, Value.int m_groups, Value.int m_tables, Value.ref a_lengths, Value.ref a_taken, Value.ref a_codes, Value.ref a_list, Value.ref a_weights, Value.ref a_whole, Value.int m_lays, Value.int m_laid, Value.ref a_row, Value.int m_read, Value.int m_wrong, Value.int m_readMany, Value.ref a_readMap, Value.int m_readTables, Value.int m_readGroups, Value.ref a_readTaken, Value.ref a_readLengths, Value.ref a_readCodes, Value.int m_found, Value.ref a_foundBlock], ia cZ a_tape 1500 m_tape, ia cI a_row 3 m_row, ia cI a_readTaken 31 m_readTaken] none [ob a_self 9 [Value.int m_signs, Value.ref a_block, Value.ref a_tape, Value.int m_bits, Value.int m_faultAt, Value.int m_isDone, Value.int m_n, Value.ref a_map, Value.ref a_places, Value.int m_symbols, Value.ref a_symbol, Value.int m_groups, Value.int m_tables, Value.ref a_lengths, Value.ref a_taken, Value.ref a_codes, Value.ref a_list, Value.ref a_weights, Value.ref a_whole, Value.int m_lays, Value.int m_laid, Value.ref a_row, Value.int m_read', Value.int m_wrong', Value.int m_readMany, Value.ref a_readMap, Value.int m_readTables', Value.int m_readGroups', Value.ref a_readTaken, Value.ref a_readLengths, Value.ref a_readCodes, Value.int m_found, Value.ref a_foundBlock], ia cZ a_tape 1500 m_tape, ia cI a_row 3 m_row', ia cI a_readTaken 31 m_readTaken'] := by
  refine CT.of (cc := cX9_readTaken) (maxL := 3) (ret := none) (by decide) rfl (Nat.le_of_ble_eq_true rfl) ?_
  intro p e s m below meth c A ls hx hb hr hml hts hown hlocks hK hA hP hD hS hl
  generalize hargs : ([.ref a_self] : List Value).toArray = args at hts ⊢
  generalize hQ : MQ below (ctQ D none [ob a_self 9 [Value.int m_signs, Value.ref a_block, Value.ref a_tape, Value.int m_bits, Value.int m_faultAt, Value.int m_isDone, Value.int m_n, Value.ref a_map, Value.ref a_places, Value.int m_symbols, Value.ref a_symbol, Value.int m_groups, Value.int m_tables, Value.ref a_lengths, Value.ref a_taken, Value.ref a_codes, Value.ref a_list, Value.ref a_weights, Value.ref a_whole, Value.int m_lays, Value.int m_laid, Value.ref a_row, Value.int m_read', Value.int m_wrong', Value.int m_readMany, Value.ref a_readMap, Value.int m_readTables', Value.int m_readGroups', Value.ref a_readTaken, Value.ref a_readLengths, Value.ref a_readCodes, Value.int m_found, Value.ref a_foundBlock], ia cZ a_tape 1500 m_tape, ia cI a_row 3 m_row', ia cI a_readTaken 31 m_readTaken'] A) args s 0 0 A = Q
  have hl : lv_has ls 3 [(0, .ref a_self)] := hl
  have hW : WS D A s [ob a_self 9 [Value.int m_signs, Value.ref a_block, Value.ref a_tape, Value.int m_bits, Value.int m_faultAt, Value.int m_isDone, Value.int m_n, Value.ref a_map, Value.ref a_places, Value.int m_symbols, Value.ref a_symbol, Value.int m_groups, Value.int m_tables, Value.ref a_lengths, Value.ref a_taken, Value.ref a_codes, Value.ref a_list, Value.ref a_weights, Value.ref a_whole, Value.int m_lays, Value.int m_laid, Value.ref a_row, Value.int m_read, Value.int m_wrong, Value.int m_readMany, Value.ref a_readMap, Value.int m_readTables, Value.int m_readGroups, Value.ref a_readTaken, Value.ref a_readLengths, Value.ref a_readCodes, Value.int m_found, Value.ref a_foundBlock], ia cZ a_tape 1500 m_tape, ia cI a_row 3 m_row, ia cI a_readTaken 31 m_readTaken] s.heap [] := ⟨hP, hD, hS⟩
  clear hP hD hS
  unfold fMo_readTaken at hF
  have hw0 := hts (Cond.fieldLink RX9 183 "MoveFrontsModel" "readGroups" "I") (by decide +kernel)
  have hw1 := hts (Cond.fieldLink RX9 164 "MoveFrontsModel" "wrong" "I") (by decide +kernel)
  have hw2 := hts (Cond.fieldLink RX9 54 "MoveFrontsModel" "readTaken" "[I") (by decide +kernel)
  have hw3 := hts (Cond.fieldLink RX9 48 "MoveFrontsModel" "row" "[I") (by decide +kernel)
  have hw4 := hts (Cond.fieldLink RX9 180 "MoveFrontsModel" "readTables" "I") (by decide +kernel)
  have hi9 : ∀ w ∈ u_ws RX9 TX9 33, w ∈ wsX9_readTaken := by decide +kernel
  have hJ38 : ∀ (m_read_38 : Int32) (m_wrong_38 : Int32) (m_readTables_38 : Int32) (m_readGroups_38 : Int32) (m_row_38 : Nat → Int32) (m_readTaken_38 : Nat → Int32) (t1_38 : Int32), fMo_readTaken_J38 m_bits m_tape m_read_38 m_wrong_38 m_readTables_38 m_readGroups_38 m_row_38 m_readTaken_38 t1_38 = some (m_read', m_wrong', m_readTables', m_readGroups', m_row', m_readTaken') → ∀ (H : Heap) (locs : List Loc), WS D A s [ob a_self 9 [Value.int m_signs, Value.ref a_block, Value.ref a_tape, Value.int m_bits, Value.int m_faultAt, Value.int m_isDone, Value.int m_n, Value.ref a_map, Value.ref a_places, Value.int m_symbols, Value.ref a_symbol, Value.int m_groups, Value.int m_tables, Value.ref a_lengths, Value.ref a_taken, Value.ref a_codes, Value.ref a_list, Value.ref a_weights, Value.ref a_whole, Value.int m_lays, Value.int m_laid, Value.ref a_row, Value.int m_read_38, Value.int m_wrong_38, Value.int m_readMany, Value.ref a_readMap, Value.int m_readTables_38, Value.int m_readGroups_38, Value.ref a_readTaken, Value.ref a_readLengths, Value.ref a_readCodes, Value.int m_found, Value.ref a_foundBlock], ia cZ a_tape 1500 m_tape, ia cI a_row 3 m_row_38, ia cI a_readTaken 31 m_readTaken_38] H locs → ∀ ls : Array Slot, lv_has ls 3 [(0, .ref a_self)] → W p l e (headSpec wsX9_readTaken rmMo_readTaken).room s m args below meth c H locs 0 0 Q (F0 m 38 ls [.int t1_38, .ref a_self]) := by
    intro m_read_38 m_wrong_38 m_readTables_38 m_readGroups_38 m_row_38 m_readTaken_38 t1_38 hF H locs hW ls hl
    unfold fMo_readTaken_J38 at hF
    refine lv_iconst (v := 3) hx hb dX9_readTaken_38 (by decide) ?_
    obtain ⟨m_wrong_39, e39, hF⟩ := bd1_some hF
    refine ctV (wn := [ob a_self 9 [Value.int m_signs, Value.ref a_block, Value.ref a_tape, Value.int m_bits, Value.int m_faultAt, Value.int m_isDone, Value.int m_n, Value.ref a_map, Value.ref a_places, Value.int m_symbols, Value.ref a_symbol, Value.int m_groups, Value.int m_tables, Value.ref a_lengths, Value.ref a_taken, Value.ref a_codes, Value.ref a_list, Value.ref a_weights, Value.ref a_whole, Value.int m_lays, Value.int m_laid, Value.ref a_row, Value.int m_read_38, Value.int m_wrong_39, Value.int m_readMany, Value.ref a_readMap, Value.int m_readTables_38, Value.int m_readGroups_38, Value.ref a_readTaken, Value.ref a_readLengths, Value.ref a_readCodes, Value.int m_found, Value.ref a_foundBlock], ia cZ a_tape 1500 m_tape, ia cI a_row 3 m_row_38, ia cI a_readTaken 31 m_readTaken_38]) (r := (RX9, TX9, 33)) (As := [.int t1_38, .int (3 : Int32)]) (rest := []) hx hb hml hown hts hK hW hA hl.1 (kMo_fails l D cI cZ cO cG a_self a_block a_tape a_map a_places a_symbol a_lengths a_taken a_codes a_list a_weights a_whole a_row a_readMap a_readTaken a_readLengths a_readCodes a_foundBlock m_signs m_bits m_faultAt m_isDone m_n m_symbols m_groups m_tables m_lays m_laid m_read_38 m_wrong_38 m_readMany m_readTables_38 m_readGroups_38 m_found t1_38 (3 : Int32) e39) (cwV 2 hts gX9_readTaken_X9_fails rfl rfl rfl (by decide +kernel) ⟨Nat.le_of_ble_eq_true rfl, Nat.le_of_ble_eq_true rfl⟩) 9 0 rfl rfl [0] [1, 2, 3] 4 rfl rfl rfl rfl [ia cZ a_tape 1500 m_tape, ia cI a_row 3 m_row_38, ia cI a_readTaken 31 m_readTaken_38] rfl rfl rfl rfl rfl (Nat.le_of_ble_eq_true rfl) rfl ⟨Nat.zero_le _, Nat.zero_le _⟩ dX9_readTaken_39 (fun H locs hW => ?_)
    refine lv_iconst (v := 0) hx hb dX9_readTaken_42 (by decide) ?_
    refine lv_istore_n (lv' := [(1, .int (0 : Int32)), (0, .ref a_self)]) hx hb dX9_readTaken_43 rfl hl (by decide) rfl (fun ls hl => ?_)
    obtain ⟨m_row_44ze, hI, hF⟩ := bd1_some hF
    obtain ⟨nn, hI⟩ := itrO_some hI
    have hX44 : ∀ (m_row_44z : Nat → Int32), m_row_44z = m_row_44ze → ∀ (H : Heap) (locs : List Loc), WS D A s [ob a_self 9 [Value.int m_signs, Value.ref a_block, Value.ref a_tape, Value.int m_bits, Value.int m_faultAt, Value.int m_isDone, Value.int m_n, Value.ref a_map, Value.ref a_places, Value.int m_symbols, Value.ref a_symbol, Value.int m_groups, Value.int m_tables, Value.ref a_lengths, Value.ref a_taken, Value.ref a_codes, Value.ref a_list, Value.ref a_weights, Value.ref a_whole, Value.int m_lays, Value.int m_laid, Value.ref a_row, Value.int m_read_38, Value.int m_wrong_39, Value.int m_readMany, Value.ref a_readMap, Value.int m_readTables_38, Value.int m_readGroups_38, Value.ref a_readTaken, Value.ref a_readLengths, Value.ref a_readCodes, Value.int m_found, Value.ref a_foundBlock], ia cZ a_tape 1500 m_tape, ia cI a_row 3 m_row_44z, ia cI a_readTaken 31 m_readTaken_38] H locs → ∀ ls : Array Slot, lv_has ls 3 [(0, .ref a_self)] → W p l e (headSpec wsX9_readTaken rmMo_readTaken).room s m args below meth c H locs 0 0 Q (F0 m 62 ls []) := by
      intro m_row_44z he H locs hW ls hl
      subst he
      refine lv_iconst (v := 0) hx hb dX9_readTaken_62 (by decide) ?_
      refine lv_istore_n (lv' := [(1, .int (0 : Int32)), (0, .ref a_self)]) hx hb dX9_readTaken_63 rfl hl (by decide) rfl (fun ls hl => ?_)
      obtain ⟨m_read_64ze, m_wrong_64ze, m_row_64ze, m_readTaken_64ze, hI, hF⟩ := bd4_some hF
      obtain ⟨nn, hI⟩ := itrO_some hI
      have hX64 : ∀ (m_read_64z : Int32) (m_wrong_64z : Int32) (m_row_64z : Nat → Int32) (m_readTaken_64z : Nat → Int32), (m_read_64z, m_wrong_64z, m_row_64z, m_readTaken_64z) = (m_read_64ze, m_wrong_64ze, m_row_64ze, m_readTaken_64ze) → ∀ (H : Heap) (locs : List Loc), WS D A s [ob a_self 9 [Value.int m_signs, Value.ref a_block, Value.ref a_tape, Value.int m_bits, Value.int m_faultAt, Value.int m_isDone, Value.int m_n, Value.ref a_map, Value.ref a_places, Value.int m_symbols, Value.ref a_symbol, Value.int m_groups, Value.int m_tables, Value.ref a_lengths, Value.ref a_taken, Value.ref a_codes, Value.ref a_list, Value.ref a_weights, Value.ref a_whole, Value.int m_lays, Value.int m_laid, Value.ref a_row, Value.int m_read_64z, Value.int m_wrong_64z, Value.int m_readMany, Value.ref a_readMap, Value.int m_readTables_38, Value.int m_readGroups_38, Value.ref a_readTaken, Value.ref a_readLengths, Value.ref a_readCodes, Value.int m_found, Value.ref a_foundBlock], ia cZ a_tape 1500 m_tape, ia cI a_row 3 m_row_64z, ia cI a_readTaken 31 m_readTaken_64z] H locs → ∀ ls : Array Slot, lv_has ls 3 [] → W p l e (headSpec wsX9_readTaken rmMo_readTaken).room s m args below meth c H locs 0 0 Q (F0 m 149 ls []) := by
        intro m_read_64z m_wrong_64z m_row_64z m_readTaken_64z he H locs hW ls hl
        obtain ⟨hz0, hy0⟩ := Prod.mk.inj he
        obtain ⟨hz1, hy1⟩ := Prod.mk.inj hy0
        obtain ⟨hz2, hy2⟩ := Prod.mk.inj hy1
        subst hz0
        subst hz1
        subst hz2
        subst hy2
        cases hF
        subst hQ
        exact ct_vret hx hb hr hlocks hW.1 hW.2.2 dX9_readTaken_149
      have hL64 : ∀ (n64 : Nat) (x1_64 : Int32) (m_read_64 : Int32) (m_wrong_64 : Int32) (m_row_64 : Nat → Int32) (m_readTaken_64 : Nat → Int32), itr (un5 (fMo_readTaken_L64 m_bits m_tape m_readTables_38 m_readGroups_38)) n64 (x1_64, m_read_64, m_wrong_64, m_row_64, m_readTaken_64) = some (m_read_64ze, m_wrong_64ze, m_row_64ze, m_readTaken_64ze) → ∀ (H : Heap) (locs : List Loc), WS D A s [ob a_self 9 [Value.int m_signs, Value.ref a_block, Value.ref a_tape, Value.int m_bits, Value.int m_faultAt, Value.int m_isDone, Value.int m_n, Value.ref a_map, Value.ref a_places, Value.int m_symbols, Value.ref a_symbol, Value.int m_groups, Value.int m_tables, Value.ref a_lengths, Value.ref a_taken, Value.ref a_codes, Value.ref a_list, Value.ref a_weights, Value.ref a_whole, Value.int m_lays, Value.int m_laid, Value.ref a_row, Value.int m_read_64, Value.int m_wrong_64, Value.int m_readMany, Value.ref a_readMap, Value.int m_readTables_38, Value.int m_readGroups_38, Value.ref a_readTaken, Value.ref a_readLengths, Value.ref a_readCodes, Value.int m_found, Value.ref a_foundBlock], ia cZ a_tape 1500 m_tape, ia cI a_row 3 m_row_64, ia cI a_readTaken 31 m_readTaken_64] H locs → ∀ ls : Array Slot, lv_has ls 3 [(0, .ref a_self), (1, .int x1_64)] → W p l e (headSpec wsX9_readTaken rmMo_readTaken).room s m args below meth c H locs 0 0 Q (F0 m 64 ls []) := by
        intro n64
        induction n64 with
        | zero => intro x1_64 m_read_64 m_wrong_64 m_row_64 m_readTaken_64 hI; cases hI
        | succ n64 ih64 =>
          intro x1_64 m_read_64 m_wrong_64 m_row_64 m_readTaken_64 hI H locs hW ls hl
          obtain ⟨sr64, hF, hN64⟩ := itr_succ hI
          have hF : fMo_readTaken_L64 m_bits m_tape m_readTables_38 m_readGroups_38 x1_64 m_read_64 m_wrong_64 m_row_64 m_readTaken_64 = some sr64 := hF
          unfold fMo_readTaken_L64 at hF
          refine lv_iload_n hx hb dX9_readTaken_64 rfl (lv_at hl 1 rfl) ?_
          refine lv_aload_n hx hb dX9_readTaken_65 rfl (lv_at hl 0 rfl) ?_
          refine va_get (D := D) (ci := 9) (v := .int m_readGroups_38) (C := RX9) (T := TX9) (N := 33) hx hb hts hi9 hown hK.1 hW.1 0 rfl rfl 27 (by decide) hw0 (fun _ h9 => h9) rfl dX9_readTaken_66 ?_
          refine lv_icmp_ge (tgt := 149) hx hb dX9_readTaken_69 (by decide) (fun c69 => ?_) (fun c69 => ?_)
          · rw [if_pos c69] at hF
            cases hF
            exact hX64 _ _ _ _ (itr_out hN64) _ _ hW _ (lv_sub hl [] rfl)
          · rw [if_neg c69] at hF
            refine lv_aload_n hx hb dX9_readTaken_72 rfl (lv_at hl 0 rfl) ?_
            refine va_get (D := D) (ci := 9) (v := .int m_wrong_64) (C := RX9) (T := TX9) (N := 33) hx hb hts hi9 hown hK.1 hW.1 0 rfl rfl 23 (by decide) hw1 (fun _ h9 => h9) rfl dX9_readTaken_73 ?_
            refine lv_if_ne (tgt := 149) hx hb dX9_readTaken_76 (by decide) (fun c76 => ?_) (fun c76 => ?_)
            · rw [if_neg c76] at hF
              cases hF
              exact hX64 _ _ _ _ (itr_out hN64) _ _ hW _ (lv_sub hl [] rfl)
            · rw [if_pos c76] at hF
              refine lv_iconst (v := 0) hx hb dX9_readTaken_79 (by decide) ?_
              refine lv_istore_n (lv' := [(2, .int (0 : Int32)), (0, .ref a_self), (1, .int x1_64)]) hx hb dX9_readTaken_80 rfl hl (by decide) rfl (fun ls hl => ?_)
              obtain ⟨x2_81ze, m_read_81ze, m_wrong_81ze, hI, hF⟩ := bd3_some hF
              obtain ⟨nn, hI⟩ := itrO_some hI
              have hX81 : ∀ (x2_81z : Int32) (m_read_81z : Int32) (m_wrong_81z : Int32), (x2_81z, m_read_81z, m_wrong_81z) = (x2_81ze, m_read_81ze, m_wrong_81ze) → ∀ (H : Heap) (locs : List Loc), WS D A s [ob a_self 9 [Value.int m_signs, Value.ref a_block, Value.ref a_tape, Value.int m_bits, Value.int m_faultAt, Value.int m_isDone, Value.int m_n, Value.ref a_map, Value.ref a_places, Value.int m_symbols, Value.ref a_symbol, Value.int m_groups, Value.int m_tables, Value.ref a_lengths, Value.ref a_taken, Value.ref a_codes, Value.ref a_list, Value.ref a_weights, Value.ref a_whole, Value.int m_lays, Value.int m_laid, Value.ref a_row, Value.int m_read_81z, Value.int m_wrong_81z, Value.int m_readMany, Value.ref a_readMap, Value.int m_readTables_38, Value.int m_readGroups_38, Value.ref a_readTaken, Value.ref a_readLengths, Value.ref a_readCodes, Value.int m_found, Value.ref a_foundBlock], ia cZ a_tape 1500 m_tape, ia cI a_row 3 m_row_64, ia cI a_readTaken 31 m_readTaken_64] H locs → ∀ ls : Array Slot, lv_has ls 3 [(0, .ref a_self), (1, .int x1_64), (2, .int x2_81z)] → W p l e (headSpec wsX9_readTaken rmMo_readTaken).room s m args below meth c H locs 0 0 Q (F0 m 121 ls []) := by
                intro x2_81z m_read_81z m_wrong_81z he H locs hW ls hl
                obtain ⟨hz0, hy0⟩ := Prod.mk.inj he
                obtain ⟨hz1, hy1⟩ := Prod.mk.inj hy0
                subst hz0
                subst hz1
                subst hy1
                refine lv_aload_n hx hb dX9_readTaken_121 rfl (lv_at hl 0 rfl) ?_
                refine va_get (D := D) (ci := 9) (v := .int m_wrong_81z) (C := RX9) (T := TX9) (N := 33) hx hb hts hi9 hown hK.1 hW.1 0 rfl rfl 23 (by decide) hw1 (fun _ h9 => h9) rfl dX9_readTaken_122 ?_
                refine lv_if_ne (tgt := 143) hx hb dX9_readTaken_125 (by decide) (fun c125 => ?_) (fun c125 => ?_)
                · rw [if_neg c125] at hF
                  refine lv_iinc (v := (x1_64 + 1)) (lv' := [(1, .int (x1_64 + 1)), (0, .ref a_self), (2, .int x2_81z)]) hx hb dX9_readTaken_143 hl (k := 1) rfl rfl (by decide) rfl (fun ls hl => ?_)
                  refine lv_goto (tgt := 64) hx hb dX9_readTaken_146 (by decide) ?_
                  cases hF
                  exact ih64 _ _ _ _ _ (itr_in hN64) _ _ hW _ (lv_sub hl [1, 0] rfl)
                · rw [if_pos c125] at hF
                  refine lv_aload_n hx hb dX9_readTaken_128 rfl (lv_at hl 0 rfl) ?_
                  refine va_get (D := D) (ci := 9) (v := .ref a_readTaken) (C := RX9) (T := TX9) (N := 33) hx hb hts hi9 hown hK.1 hW.1 0 rfl rfl 28 (by decide) hw2 (fun _ h9 => h9) rfl dX9_readTaken_129 ?_
                  refine lv_iload_n hx hb dX9_readTaken_132 rfl (lv_at hl 1 rfl) ?_
                  refine lv_aload_n hx hb dX9_readTaken_133 rfl (lv_at hl 0 rfl) ?_
                  refine lv_aload_n hx hb dX9_readTaken_134 rfl (lv_at hl 0 rfl) ?_
                  refine va_get (D := D) (ci := 9) (v := .ref a_row) (C := RX9) (T := TX9) (N := 33) hx hb hts hi9 hown hK.1 hW.1 0 rfl rfl 21 (by decide) hw3 (fun _ h9 => h9) rfl dX9_readTaken_135 ?_
                  refine lv_iload_n hx hb dX9_readTaken_138 rfl (lv_at hl 2 rfl) ?_
                  obtain ⟨r_139, m_p1_139, e139, hF⟩ := bd2_some hF
                  refine ctV (wn := [ob a_self 9 [Value.int m_signs, Value.ref a_block, Value.ref a_tape, Value.int m_bits, Value.int m_faultAt, Value.int m_isDone, Value.int m_n, Value.ref a_map, Value.ref a_places, Value.int m_symbols, Value.ref a_symbol, Value.int m_groups, Value.int m_tables, Value.ref a_lengths, Value.ref a_taken, Value.ref a_codes, Value.ref a_list, Value.ref a_weights, Value.ref a_whole, Value.int m_lays, Value.int m_laid, Value.ref a_row, Value.int m_read_81z, Value.int m_wrong_81z, Value.int m_readMany, Value.ref a_readMap, Value.int m_readTables_38, Value.int m_readGroups_38, Value.ref a_readTaken, Value.ref a_readLengths, Value.ref a_readCodes, Value.int m_found, Value.ref a_foundBlock], ia cZ a_tape 1500 m_tape, ia cI a_row 3 m_p1_139, ia cI a_readTaken 31 m_readTaken_64]) (r := (RX9, TX9, 33)) (As := [.ref a_row, .int x2_81z]) (rest := [.int x1_64, .ref a_readTaken]) hx hb hml hown hts hK hW hA hl.1 (kMo_toFront l D cI cZ cO cG a_row a_self 3 m_row_64 x2_81z e139) (cwV 2 hts gX9_readTaken_X9_toFront rfl rfl rfl (by decide +kernel) ⟨Nat.le_of_ble_eq_true rfl, Nat.le_of_ble_eq_true rfl⟩) 9 0 rfl rfl [2] [0, 1, 3] 4 rfl rfl rfl rfl [ob a_self 9 [Value.int m_signs, Value.ref a_block, Value.ref a_tape, Value.int m_bits, Value.int m_faultAt, Value.int m_isDone, Value.int m_n, Value.ref a_map, Value.ref a_places, Value.int m_symbols, Value.ref a_symbol, Value.int m_groups, Value.int m_tables, Value.ref a_lengths, Value.ref a_taken, Value.ref a_codes, Value.ref a_list, Value.ref a_weights, Value.ref a_whole, Value.int m_lays, Value.int m_laid, Value.ref a_row, Value.int m_read_81z, Value.int m_wrong_81z, Value.int m_readMany, Value.ref a_readMap, Value.int m_readTables_38, Value.int m_readGroups_38, Value.ref a_readTaken, Value.ref a_readLengths, Value.ref a_readCodes, Value.int m_found, Value.ref a_foundBlock], ia cZ a_tape 1500 m_tape, ia cI a_readTaken 31 m_readTaken_64] rfl rfl rfl rfl rfl (Nat.le_of_ble_eq_true rfl) rfl ⟨Nat.zero_le _, Nat.zero_le _⟩ dX9_readTaken_139 (fun H locs hW => ?_)
                  obtain ⟨g142, hF⟩ := gdI_some hF
                  refine va_iast hx hb hK.1 hW.1 hW.2.1 hW.2.2 3 0 rfl rfl g142 dX9_readTaken_142 (fun H locs hP hD hS => ?_)
                  have hW : WS D A s [ob a_self 9 [Value.int m_signs, Value.ref a_block, Value.ref a_tape, Value.int m_bits, Value.int m_faultAt, Value.int m_isDone, Value.int m_n, Value.ref a_map, Value.ref a_places, Value.int m_symbols, Value.ref a_symbol, Value.int m_groups, Value.int m_tables, Value.ref a_lengths, Value.ref a_taken, Value.ref a_codes, Value.ref a_list, Value.ref a_weights, Value.ref a_whole, Value.int m_lays, Value.int m_laid, Value.ref a_row, Value.int m_read_81z, Value.int m_wrong_81z, Value.int m_readMany, Value.ref a_readMap, Value.int m_readTables_38, Value.int m_readGroups_38, Value.ref a_readTaken, Value.ref a_readLengths, Value.ref a_readCodes, Value.int m_found, Value.ref a_foundBlock], ia cZ a_tape 1500 m_tape, ia cI a_row 3 m_p1_139, ia cI a_readTaken 31 (upd m_readTaken_64 x1_64.toNatClampNeg r_139)] H locs := ⟨hP, hD, hS⟩
                  refine lv_iinc (v := (x1_64 + 1)) (lv' := [(1, .int (x1_64 + 1)), (0, .ref a_self), (2, .int x2_81z)]) hx hb dX9_readTaken_143 hl (k := 1) rfl rfl (by decide) rfl (fun ls hl => ?_)
                  refine lv_goto (tgt := 64) hx hb dX9_readTaken_146 (by decide) ?_
                  cases hF
                  exact ih64 _ _ _ _ _ (itr_in hN64) _ _ hW _ (lv_sub hl [1, 0] rfl)
              have hL81 : ∀ (n81 : Nat) (x2_81 : Int32) (m_read_81 : Int32) (m_wrong_81 : Int32), itr (un3 (fMo_readTaken_L81 m_bits m_tape m_readTables_38)) n81 (x2_81, m_read_81, m_wrong_81) = some (x2_81ze, m_read_81ze, m_wrong_81ze) → ∀ (H : Heap) (locs : List Loc), WS D A s [ob a_self 9 [Value.int m_signs, Value.ref a_block, Value.ref a_tape, Value.int m_bits, Value.int m_faultAt, Value.int m_isDone, Value.int m_n, Value.ref a_map, Value.ref a_places, Value.int m_symbols, Value.ref a_symbol, Value.int m_groups, Value.int m_tables, Value.ref a_lengths, Value.ref a_taken, Value.ref a_codes, Value.ref a_list, Value.ref a_weights, Value.ref a_whole, Value.int m_lays, Value.int m_laid, Value.ref a_row, Value.int m_read_81, Value.int m_wrong_81, Value.int m_readMany, Value.ref a_readMap, Value.int m_readTables_38, Value.int m_readGroups_38, Value.ref a_readTaken, Value.ref a_readLengths, Value.ref a_readCodes, Value.int m_found, Value.ref a_foundBlock], ia cZ a_tape 1500 m_tape, ia cI a_row 3 m_row_64, ia cI a_readTaken 31 m_readTaken_64] H locs → ∀ ls : Array Slot, lv_has ls 3 [(0, .ref a_self), (1, .int x1_64), (2, .int x2_81)] → W p l e (headSpec wsX9_readTaken rmMo_readTaken).room s m args below meth c H locs 0 0 Q (F0 m 81 ls []) := by
                intro n81
                induction n81 with
                | zero => intro x2_81 m_read_81 m_wrong_81 hI; cases hI
                | succ n81 ih81 =>
                  intro x2_81 m_read_81 m_wrong_81 hI H locs hW ls hl
                  obtain ⟨sr81, hF, hN81⟩ := itr_succ hI
                  have hF : fMo_readTaken_L81 m_bits m_tape m_readTables_38 x2_81 m_read_81 m_wrong_81 = some sr81 := hF
                  unfold fMo_readTaken_L81 at hF
                  refine lv_aload_n hx hb dX9_readTaken_81 rfl (lv_at hl 0 rfl) ?_
                  refine lv_iconst (v := 1) hx hb dX9_readTaken_82 (by decide) ?_
                  obtain ⟨r_83, m_read_83, m_wrong_83, e83, hF⟩ := bd3_some hF
                  refine ctV (wn := [ob a_self 9 [Value.int m_signs, Value.ref a_block, Value.ref a_tape, Value.int m_bits, Value.int m_faultAt, Value.int m_isDone, Value.int m_n, Value.ref a_map, Value.ref a_places, Value.int m_symbols, Value.ref a_symbol, Value.int m_groups, Value.int m_tables, Value.ref a_lengths, Value.ref a_taken, Value.ref a_codes, Value.ref a_list, Value.ref a_weights, Value.ref a_whole, Value.int m_lays, Value.int m_laid, Value.ref a_row, Value.int m_read_83, Value.int m_wrong_83, Value.int m_readMany, Value.ref a_readMap, Value.int m_readTables_38, Value.int m_readGroups_38, Value.ref a_readTaken, Value.ref a_readLengths, Value.ref a_readCodes, Value.int m_found, Value.ref a_foundBlock], ia cZ a_tape 1500 m_tape, ia cI a_row 3 m_row_64, ia cI a_readTaken 31 m_readTaken_64]) (r := (RX9, TX9, 33)) (As := [.int (1 : Int32)]) (rest := []) hx hb hml hown hts hK hW hA hl.1 (kMo_take l D cI cZ cO cG a_self a_block a_tape a_map a_places a_symbol a_lengths a_taken a_codes a_list a_weights a_whole a_row a_readMap a_readTaken a_readLengths a_readCodes a_foundBlock m_signs m_bits m_faultAt m_isDone m_n m_symbols m_groups m_tables m_lays m_laid m_read_81 m_wrong_81 m_readMany m_readTables_38 m_readGroups_38 m_found m_tape (1 : Int32) e83) (cwV 1 hts gX9_readTaken_X9_take rfl rfl rfl (by decide +kernel) ⟨Nat.le_of_ble_eq_true rfl, Nat.le_of_ble_eq_true rfl⟩) 9 0 rfl rfl [0, 1] [2, 3] 4 rfl rfl rfl rfl [ia cI a_row 3 m_row_64, ia cI a_readTaken 31 m_readTaken_64] rfl rfl rfl rfl rfl (Nat.le_of_ble_eq_true rfl) rfl ⟨Nat.zero_le _, Nat.zero_le _⟩ dX9_readTaken_83 (fun H locs hW => ?_)
                  refine lv_iconst (v := 1) hx hb dX9_readTaken_86 (by decide) ?_
                  refine lv_icmp_ne (tgt := 121) hx hb dX9_readTaken_87 (by decide) (fun c87 => ?_) (fun c87 => ?_)
                  · rw [if_neg c87] at hF
                    cases hF
                    exact hX81 _ _ _ (itr_out hN81) _ _ hW _ (lv_sub hl [0, 1, 2] rfl)
                  · rw [if_pos c87] at hF
                    refine lv_aload_n hx hb dX9_readTaken_90 rfl (lv_at hl 0 rfl) ?_
                    refine va_get (D := D) (ci := 9) (v := .int m_wrong_83) (C := RX9) (T := TX9) (N := 33) hx hb hts hi9 hown hK.1 hW.1 0 rfl rfl 23 (by decide) hw1 (fun _ h9 => h9) rfl dX9_readTaken_91 ?_
                    refine lv_if_ne (tgt := 121) hx hb dX9_readTaken_94 (by decide) (fun c94 => ?_) (fun c94 => ?_)
                    · rw [if_neg c94] at hF
                      cases hF
                      exact hX81 _ _ _ (itr_out hN81) _ _ hW _ (lv_sub hl [0, 1, 2] rfl)
                    · rw [if_pos c94] at hF
                      refine lv_iinc (v := (x2_81 + 1)) (lv' := [(2, .int (x2_81 + 1)), (0, .ref a_self), (1, .int x1_64)]) hx hb dX9_readTaken_97 hl (k := 2) rfl rfl (by decide) rfl (fun ls hl => ?_)
                      refine lv_aload_n hx hb dX9_readTaken_100 rfl (lv_at hl 1 rfl) ?_
                      refine lv_iload_n hx hb dX9_readTaken_101 rfl (lv_at hl 0 rfl) ?_
                      refine lv_aload_n hx hb dX9_readTaken_102 rfl (lv_at hl 1 rfl) ?_
                      refine va_get (D := D) (ci := 9) (v := .int m_readTables_38) (C := RX9) (T := TX9) (N := 33) hx hb hts hi9 hown hK.1 hW.1 0 rfl rfl 26 (by decide) hw4 (fun _ h9 => h9) rfl dX9_readTaken_103 ?_
                      refine lv_icmp_ne (tgt := 113) hx hb dX9_readTaken_106 (by decide) (fun c106 => ?_) (fun c106 => ?_)
                      · rw [if_neg c106] at hF
                        refine lv_iconst (v := 0) hx hb dX9_readTaken_113 (by decide) ?_
                        refine lv_iconst (v := 4) hx hb dX9_readTaken_114 (by decide) ?_
                        obtain ⟨m_wrong_115, e115, hF⟩ := bd1_some hF
                        refine ctV (wn := [ob a_self 9 [Value.int m_signs, Value.ref a_block, Value.ref a_tape, Value.int m_bits, Value.int m_faultAt, Value.int m_isDone, Value.int m_n, Value.ref a_map, Value.ref a_places, Value.int m_symbols, Value.ref a_symbol, Value.int m_groups, Value.int m_tables, Value.ref a_lengths, Value.ref a_taken, Value.ref a_codes, Value.ref a_list, Value.ref a_weights, Value.ref a_whole, Value.int m_lays, Value.int m_laid, Value.ref a_row, Value.int m_read_83, Value.int m_wrong_115, Value.int m_readMany, Value.ref a_readMap, Value.int m_readTables_38, Value.int m_readGroups_38, Value.ref a_readTaken, Value.ref a_readLengths, Value.ref a_readCodes, Value.int m_found, Value.ref a_foundBlock], ia cZ a_tape 1500 m_tape, ia cI a_row 3 m_row_64, ia cI a_readTaken 31 m_readTaken_64]) (r := (RX9, TX9, 33)) (As := [.int (0 : Int32), .int (4 : Int32)]) (rest := []) hx hb hml hown hts hK hW hA hl.1 (kMo_fails l D cI cZ cO cG a_self a_block a_tape a_map a_places a_symbol a_lengths a_taken a_codes a_list a_weights a_whole a_row a_readMap a_readTaken a_readLengths a_readCodes a_foundBlock m_signs m_bits m_faultAt m_isDone m_n m_symbols m_groups m_tables m_lays m_laid m_read_83 m_wrong_83 m_readMany m_readTables_38 m_readGroups_38 m_found (0 : Int32) (4 : Int32) e115) (cwV 2 hts gX9_readTaken_X9_fails rfl rfl rfl (by decide +kernel) ⟨Nat.le_of_ble_eq_true rfl, Nat.le_of_ble_eq_true rfl⟩) 9 0 rfl rfl [0] [1, 2, 3] 4 rfl rfl rfl rfl [ia cZ a_tape 1500 m_tape, ia cI a_row 3 m_row_64, ia cI a_readTaken 31 m_readTaken_64] rfl rfl rfl rfl rfl (Nat.le_of_ble_eq_true rfl) rfl ⟨Nat.zero_le _, Nat.zero_le _⟩ dX9_readTaken_115 (fun H locs hW => ?_)
                        refine lv_goto (tgt := 81) hx hb dX9_readTaken_118 (by decide) ?_
                        cases hF
                        exact ih81 _ _ _ (itr_in hN81) _ _ hW _ (lv_sub hl [1, 2, 0] rfl)
                      · rw [if_pos c106] at hF
                        refine lv_iconst (v := 1) hx hb dX9_readTaken_109 (by decide) ?_
                        refine lv_goto (tgt := 114) hx hb dX9_readTaken_110 (by decide) ?_
                        refine lv_iconst (v := 4) hx hb dX9_readTaken_114 (by decide) ?_
                        obtain ⟨m_wrong_115, e115, hF⟩ := bd1_some hF
                        refine ctV (wn := [ob a_self 9 [Value.int m_signs, Value.ref a_block, Value.ref a_tape, Value.int m_bits, Value.int m_faultAt, Value.int m_isDone, Value.int m_n, Value.ref a_map, Value.ref a_places, Value.int m_symbols, Value.ref a_symbol, Value.int m_groups, Value.int m_tables, Value.ref a_lengths, Value.ref a_taken, Value.ref a_codes, Value.ref a_list, Value.ref a_weights, Value.ref a_whole, Value.int m_lays, Value.int m_laid, Value.ref a_row, Value.int m_read_83, Value.int m_wrong_115, Value.int m_readMany, Value.ref a_readMap, Value.int m_readTables_38, Value.int m_readGroups_38, Value.ref a_readTaken, Value.ref a_readLengths, Value.ref a_readCodes, Value.int m_found, Value.ref a_foundBlock], ia cZ a_tape 1500 m_tape, ia cI a_row 3 m_row_64, ia cI a_readTaken 31 m_readTaken_64]) (r := (RX9, TX9, 33)) (As := [.int (1 : Int32), .int (4 : Int32)]) (rest := []) hx hb hml hown hts hK hW hA hl.1 (kMo_fails l D cI cZ cO cG a_self a_block a_tape a_map a_places a_symbol a_lengths a_taken a_codes a_list a_weights a_whole a_row a_readMap a_readTaken a_readLengths a_readCodes a_foundBlock m_signs m_bits m_faultAt m_isDone m_n m_symbols m_groups m_tables m_lays m_laid m_read_83 m_wrong_83 m_readMany m_readTables_38 m_readGroups_38 m_found (1 : Int32) (4 : Int32) e115) (cwV 2 hts gX9_readTaken_X9_fails rfl rfl rfl (by decide +kernel) ⟨Nat.le_of_ble_eq_true rfl, Nat.le_of_ble_eq_true rfl⟩) 9 0 rfl rfl [0] [1, 2, 3] 4 rfl rfl rfl rfl [ia cZ a_tape 1500 m_tape, ia cI a_row 3 m_row_64, ia cI a_readTaken 31 m_readTaken_64] rfl rfl rfl rfl rfl (Nat.le_of_ble_eq_true rfl) rfl ⟨Nat.zero_le _, Nat.zero_le _⟩ dX9_readTaken_115 (fun H locs hW => ?_)
                        refine lv_goto (tgt := 81) hx hb dX9_readTaken_118 (by decide) ?_
                        cases hF
                        exact ih81 _ _ _ (itr_in hN81) _ _ hW _ (lv_sub hl [1, 2, 0] rfl)
              exact hL81 nn _ _ _ hI _ _ hW _ (lv_sub hl [1, 2, 0] rfl)
      exact hL64 nn _ _ _ _ _ hI _ _ hW _ (lv_sub hl [1, 0] rfl)
    have hL44 : ∀ (n44 : Nat) (x1_44 : Int32) (m_row_44 : Nat → Int32), itr (un2 (fMo_readTaken_L44)) n44 (x1_44, m_row_44) = some m_row_44ze → ∀ (H : Heap) (locs : List Loc), WS D A s [ob a_self 9 [Value.int m_signs, Value.ref a_block, Value.ref a_tape, Value.int m_bits, Value.int m_faultAt, Value.int m_isDone, Value.int m_n, Value.ref a_map, Value.ref a_places, Value.int m_symbols, Value.ref a_symbol, Value.int m_groups, Value.int m_tables, Value.ref a_lengths, Value.ref a_taken, Value.ref a_codes, Value.ref a_list, Value.ref a_weights, Value.ref a_whole, Value.int m_lays, Value.int m_laid, Value.ref a_row, Value.int m_read_38, Value.int m_wrong_39, Value.int m_readMany, Value.ref a_readMap, Value.int m_readTables_38, Value.int m_readGroups_38, Value.ref a_readTaken, Value.ref a_readLengths, Value.ref a_readCodes, Value.int m_found, Value.ref a_foundBlock], ia cZ a_tape 1500 m_tape, ia cI a_row 3 m_row_44, ia cI a_readTaken 31 m_readTaken_38] H locs → ∀ ls : Array Slot, lv_has ls 3 [(0, .ref a_self), (1, .int x1_44)] → W p l e (headSpec wsX9_readTaken rmMo_readTaken).room s m args below meth c H locs 0 0 Q (F0 m 44 ls []) := by
      intro n44
      induction n44 with
      | zero => intro x1_44 m_row_44 hI; cases hI
      | succ n44 ih44 =>
        intro x1_44 m_row_44 hI H locs hW ls hl
        obtain ⟨sr44, hF, hN44⟩ := itr_succ hI
        have hF : fMo_readTaken_L44 x1_44 m_row_44 = some sr44 := hF
        unfold fMo_readTaken_L44 at hF
        refine lv_iload_n hx hb dX9_readTaken_44 rfl (lv_at hl 1 rfl) ?_
        refine lv_iconst (v := 3) hx hb dX9_readTaken_45 (by decide) ?_
        refine lv_icmp_ge (tgt := 62) hx hb dX9_readTaken_46 (by decide) (fun c46 => ?_) (fun c46 => ?_)
        · rw [if_pos c46] at hF
          cases hF
          exact hX44 _ (itr_out hN44) _ _ hW _ (lv_sub hl [0] rfl)
        · rw [if_neg c46] at hF
          refine lv_aload_n hx hb dX9_readTaken_49 rfl (lv_at hl 0 rfl) ?_
          refine va_get (D := D) (ci := 9) (v := .ref a_row) (C := RX9) (T := TX9) (N := 33) hx hb hts hi9 hown hK.1 hW.1 0 rfl rfl 21 (by decide) hw3 (fun _ h9 => h9) rfl dX9_readTaken_50 ?_
          refine lv_iload_n hx hb dX9_readTaken_53 rfl (lv_at hl 1 rfl) ?_
          refine lv_iload_n hx hb dX9_readTaken_54 rfl (lv_at hl 1 rfl) ?_
          obtain ⟨g55, hF⟩ := gdI_some hF
          refine va_iast hx hb hK.1 hW.1 hW.2.1 hW.2.2 2 0 rfl rfl g55 dX9_readTaken_55 (fun H locs hP hD hS => ?_)
          have hW : WS D A s [ob a_self 9 [Value.int m_signs, Value.ref a_block, Value.ref a_tape, Value.int m_bits, Value.int m_faultAt, Value.int m_isDone, Value.int m_n, Value.ref a_map, Value.ref a_places, Value.int m_symbols, Value.ref a_symbol, Value.int m_groups, Value.int m_tables, Value.ref a_lengths, Value.ref a_taken, Value.ref a_codes, Value.ref a_list, Value.ref a_weights, Value.ref a_whole, Value.int m_lays, Value.int m_laid, Value.ref a_row, Value.int m_read_38, Value.int m_wrong_39, Value.int m_readMany, Value.ref a_readMap, Value.int m_readTables_38, Value.int m_readGroups_38, Value.ref a_readTaken, Value.ref a_readLengths, Value.ref a_readCodes, Value.int m_found, Value.ref a_foundBlock], ia cZ a_tape 1500 m_tape, ia cI a_row 3 (upd m_row_44 x1_44.toNatClampNeg x1_44), ia cI a_readTaken 31 m_readTaken_38] H locs := ⟨hP, hD, hS⟩
          refine lv_iinc (v := (x1_44 + 1)) (lv' := [(1, .int (x1_44 + 1)), (0, .ref a_self)]) hx hb dX9_readTaken_56 hl (k := 1) rfl rfl (by decide) rfl (fun ls hl => ?_)
          refine lv_goto (tgt := 44) hx hb dX9_readTaken_59 (by decide) ?_
          cases hF
          exact ih44 _ _ (itr_in hN44) _ _ hW _ (lv_sub hl [1, 0] rfl)
    exact hL44 nn _ _ hI _ _ hW _ (lv_sub hl [1, 0] rfl)
  have hJ33 : ∀ (m_read_33 : Int32) (m_wrong_33 : Int32) (m_readTables_33 : Int32) (m_readGroups_33 : Int32) (m_row_33 : Nat → Int32) (m_readTaken_33 : Nat → Int32), fMo_readTaken_J33 m_bits m_tape m_read_33 m_wrong_33 m_readTables_33 m_readGroups_33 m_row_33 m_readTaken_33 = some (m_read', m_wrong', m_readTables', m_readGroups', m_row', m_readTaken') → ∀ (H : Heap) (locs : List Loc), WS D A s [ob a_self 9 [Value.int m_signs, Value.ref a_block, Value.ref a_tape, Value.int m_bits, Value.int m_faultAt, Value.int m_isDone, Value.int m_n, Value.ref a_map, Value.ref a_places, Value.int m_symbols, Value.ref a_symbol, Value.int m_groups, Value.int m_tables, Value.ref a_lengths, Value.ref a_taken, Value.ref a_codes, Value.ref a_list, Value.ref a_weights, Value.ref a_whole, Value.int m_lays, Value.int m_laid, Value.ref a_row, Value.int m_read_33, Value.int m_wrong_33, Value.int m_readMany, Value.ref a_readMap, Value.int m_readTables_33, Value.int m_readGroups_33, Value.ref a_readTaken, Value.ref a_readLengths, Value.ref a_readCodes, Value.int m_found, Value.ref a_foundBlock], ia cZ a_tape 1500 m_tape, ia cI a_row 3 m_row_33, ia cI a_readTaken 31 m_readTaken_33] H locs → ∀ ls : Array Slot, lv_has ls 3 [(0, .ref a_self)] → W p l e (headSpec wsX9_readTaken rmMo_readTaken).room s m args below meth c H locs 0 0 Q (F0 m 33 ls [.ref a_self]) := by
    intro m_read_33 m_wrong_33 m_readTables_33 m_readGroups_33 m_row_33 m_readTaken_33 hF H locs hW ls hl
    unfold fMo_readTaken_J33 at hF
    refine lv_iconst (v := 1) hx hb dX9_readTaken_33 (by decide) ?_
    refine lv_goto (tgt := 38) hx hb dX9_readTaken_34 (by decide) ?_
    exact hJ38 _ _ _ _ _ _ _ hF _ _ hW _ (lv_sub hl [0] rfl)
  refine lv_aload_n hx hb dX9_readTaken_0 rfl (lv_at hl 0 rfl) ?_
  refine lv_aload_n hx hb dX9_readTaken_1 rfl (lv_at hl 0 rfl) ?_
  refine lv_iconst (v := 2) hx hb dX9_readTaken_2 (by decide) ?_
  obtain ⟨r_3, m_read_3, m_wrong_3, e3, hF⟩ := bd3_some hF
  refine ctV (wn := [ob a_self 9 [Value.int m_signs, Value.ref a_block, Value.ref a_tape, Value.int m_bits, Value.int m_faultAt, Value.int m_isDone, Value.int m_n, Value.ref a_map, Value.ref a_places, Value.int m_symbols, Value.ref a_symbol, Value.int m_groups, Value.int m_tables, Value.ref a_lengths, Value.ref a_taken, Value.ref a_codes, Value.ref a_list, Value.ref a_weights, Value.ref a_whole, Value.int m_lays, Value.int m_laid, Value.ref a_row, Value.int m_read_3, Value.int m_wrong_3, Value.int m_readMany, Value.ref a_readMap, Value.int m_readTables, Value.int m_readGroups, Value.ref a_readTaken, Value.ref a_readLengths, Value.ref a_readCodes, Value.int m_found, Value.ref a_foundBlock], ia cZ a_tape 1500 m_tape, ia cI a_row 3 m_row, ia cI a_readTaken 31 m_readTaken]) (r := (RX9, TX9, 33)) (As := [.int (2 : Int32)]) (rest := [.ref a_self]) hx hb hml hown hts hK hW hA hl.1 (kMo_take l D cI cZ cO cG a_self a_block a_tape a_map a_places a_symbol a_lengths a_taken a_codes a_list a_weights a_whole a_row a_readMap a_readTaken a_readLengths a_readCodes a_foundBlock m_signs m_bits m_faultAt m_isDone m_n m_symbols m_groups m_tables m_lays m_laid m_read m_wrong m_readMany m_readTables m_readGroups m_found m_tape (2 : Int32) e3) (cwV 1 hts gX9_readTaken_X9_take rfl rfl rfl (by decide +kernel) ⟨Nat.le_of_ble_eq_true rfl, Nat.le_of_ble_eq_true rfl⟩) 9 0 rfl rfl [0, 1] [2, 3] 4 rfl rfl rfl rfl [ia cI a_row 3 m_row, ia cI a_readTaken 31 m_readTaken] rfl rfl rfl rfl rfl (Nat.le_of_ble_eq_true rfl) rfl ⟨Nat.zero_le _, Nat.zero_le _⟩ dX9_readTaken_3 (fun H locs hW => ?_)
  refine va_put (D := D) (ci := 9) (v := .int r_3) (ty := .int) (C := RX9) (T := TX9) (N := 33) hx hb hts hi9 tyX9 tyX9_ok nmX9 hown hK.1 hW.1 hW.2.1 hW.2.2 0 rfl rfl 26 (by decide) hw4 (fun _ h9 => h9) rfl (by decide +kernel) rfl rfl (Nat.le_of_ble_eq_true rfl) dX9_readTaken_6 (fun H locs hP hD hS => ?_)
  have hW : WS D A s [ob a_self 9 [Value.int m_signs, Value.ref a_block, Value.ref a_tape, Value.int m_bits, Value.int m_faultAt, Value.int m_isDone, Value.int m_n, Value.ref a_map, Value.ref a_places, Value.int m_symbols, Value.ref a_symbol, Value.int m_groups, Value.int m_tables, Value.ref a_lengths, Value.ref a_taken, Value.ref a_codes, Value.ref a_list, Value.ref a_weights, Value.ref a_whole, Value.int m_lays, Value.int m_laid, Value.ref a_row, Value.int m_read_3, Value.int m_wrong_3, Value.int m_readMany, Value.ref a_readMap, Value.int r_3, Value.int m_readGroups, Value.ref a_readTaken, Value.ref a_readLengths, Value.ref a_readCodes, Value.int m_found, Value.ref a_foundBlock], ia cZ a_tape 1500 m_tape, ia cI a_row 3 m_row, ia cI a_readTaken 31 m_readTaken] H locs := ⟨hP, hD, hS⟩
  refine lv_aload_n hx hb dX9_readTaken_9 rfl (lv_at hl 0 rfl) ?_
  refine lv_aload_n hx hb dX9_readTaken_10 rfl (lv_at hl 0 rfl) ?_
  refine lv_iconst (v := 5) hx hb dX9_readTaken_11 (by decide) ?_
  obtain ⟨r_12, m_read_12, m_wrong_12, e12, hF⟩ := bd3_some hF
  refine ctV (wn := [ob a_self 9 [Value.int m_signs, Value.ref a_block, Value.ref a_tape, Value.int m_bits, Value.int m_faultAt, Value.int m_isDone, Value.int m_n, Value.ref a_map, Value.ref a_places, Value.int m_symbols, Value.ref a_symbol, Value.int m_groups, Value.int m_tables, Value.ref a_lengths, Value.ref a_taken, Value.ref a_codes, Value.ref a_list, Value.ref a_weights, Value.ref a_whole, Value.int m_lays, Value.int m_laid, Value.ref a_row, Value.int m_read_12, Value.int m_wrong_12, Value.int m_readMany, Value.ref a_readMap, Value.int r_3, Value.int m_readGroups, Value.ref a_readTaken, Value.ref a_readLengths, Value.ref a_readCodes, Value.int m_found, Value.ref a_foundBlock], ia cZ a_tape 1500 m_tape, ia cI a_row 3 m_row, ia cI a_readTaken 31 m_readTaken]) (r := (RX9, TX9, 33)) (As := [.int (5 : Int32)]) (rest := [.ref a_self]) hx hb hml hown hts hK hW hA hl.1 (kMo_take l D cI cZ cO cG a_self a_block a_tape a_map a_places a_symbol a_lengths a_taken a_codes a_list a_weights a_whole a_row a_readMap a_readTaken a_readLengths a_readCodes a_foundBlock m_signs m_bits m_faultAt m_isDone m_n m_symbols m_groups m_tables m_lays m_laid m_read_3 m_wrong_3 m_readMany r_3 m_readGroups m_found m_tape (5 : Int32) e12) (cwV 1 hts gX9_readTaken_X9_take rfl rfl rfl (by decide +kernel) ⟨Nat.le_of_ble_eq_true rfl, Nat.le_of_ble_eq_true rfl⟩) 9 0 rfl rfl [0, 1] [2, 3] 4 rfl rfl rfl rfl [ia cI a_row 3 m_row, ia cI a_readTaken 31 m_readTaken] rfl rfl rfl rfl rfl (Nat.le_of_ble_eq_true rfl) rfl ⟨Nat.zero_le _, Nat.zero_le _⟩ dX9_readTaken_12 (fun H locs hW => ?_)
  refine va_put (D := D) (ci := 9) (v := .int r_12) (ty := .int) (C := RX9) (T := TX9) (N := 33) hx hb hts hi9 tyX9 tyX9_ok nmX9 hown hK.1 hW.1 hW.2.1 hW.2.2 0 rfl rfl 27 (by decide) hw0 (fun _ h9 => h9) rfl (by decide +kernel) rfl rfl (Nat.le_of_ble_eq_true rfl) dX9_readTaken_15 (fun H locs hP hD hS => ?_)
  have hW : WS D A s [ob a_self 9 [Value.int m_signs, Value.ref a_block, Value.ref a_tape, Value.int m_bits, Value.int m_faultAt, Value.int m_isDone, Value.int m_n, Value.ref a_map, Value.ref a_places, Value.int m_symbols, Value.ref a_symbol, Value.int m_groups, Value.int m_tables, Value.ref a_lengths, Value.ref a_taken, Value.ref a_codes, Value.ref a_list, Value.ref a_weights, Value.ref a_whole, Value.int m_lays, Value.int m_laid, Value.ref a_row, Value.int m_read_12, Value.int m_wrong_12, Value.int m_readMany, Value.ref a_readMap, Value.int r_3, Value.int r_12, Value.ref a_readTaken, Value.ref a_readLengths, Value.ref a_readCodes, Value.int m_found, Value.ref a_foundBlock], ia cZ a_tape 1500 m_tape, ia cI a_row 3 m_row, ia cI a_readTaken 31 m_readTaken] H locs := ⟨hP, hD, hS⟩
  refine lv_aload_n hx hb dX9_readTaken_18 rfl (lv_at hl 0 rfl) ?_
  refine lv_aload_n hx hb dX9_readTaken_19 rfl (lv_at hl 0 rfl) ?_
  refine va_get (D := D) (ci := 9) (v := .int r_3) (C := RX9) (T := TX9) (N := 33) hx hb hts hi9 hown hK.1 hW.1 0 rfl rfl 26 (by decide) hw4 (fun _ h9 => h9) rfl dX9_readTaken_20 ?_
  refine lv_if_eq (tgt := 33) hx hb dX9_readTaken_23 (by decide) (fun c23 => ?_) (fun c23 => ?_)
  · rw [if_pos c23] at hF
    exact hJ33 _ _ _ _ _ _ hF _ _ hW _ (lv_sub hl [0] rfl)
  · rw [if_neg c23] at hF
    refine lv_aload_n hx hb dX9_readTaken_26 rfl (lv_at hl 0 rfl) ?_
    refine va_get (D := D) (ci := 9) (v := .int r_12) (C := RX9) (T := TX9) (N := 33) hx hb hts hi9 hown hK.1 hW.1 0 rfl rfl 27 (by decide) hw0 (fun _ h9 => h9) rfl dX9_readTaken_27 ?_
    refine lv_if_ne (tgt := 37) hx hb dX9_readTaken_30 (by decide) (fun c30 => ?_) (fun c30 => ?_)
    · rw [if_neg c30] at hF
      refine lv_iconst (v := 0) hx hb dX9_readTaken_37 (by decide) ?_
      exact hJ38 _ _ _ _ _ _ _ hF _ _ hW _ (lv_sub hl [0] rfl)
    · rw [if_pos c30] at hF
      exact hJ33 _ _ _ _ _ _ hF _ _ hW _ (lv_sub hl [0] rfl)
