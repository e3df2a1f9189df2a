abbrev rmMo_lay : Room := { frames := 2, cells := 0, slots := 0, locals := 46 }
set_option maxHeartbeats 4000000 in
set_option maxRecDepth 100000 in
theorem kMo_lay (l : Launch) (D : va_G) (cI cZ cO cG : ClassId) (a_self : Nat) (a_block : Nat) (a_tape : Nat) (a_map : Nat) (a_places : Nat) (a_symbol : Nat) (a_lengths : Nat) (a_taken : Nat) (a_codes : Nat) (a_list : Nat) (a_weights : Nat) (a_whole : Nat) (a_row : Nat) (a_readMap : Nat) (a_readTaken : Nat) (a_readLengths : Nat) (a_readCodes : Nat) (a_foundBlock : Nat) (m_signs : Int32) (m_bits : Int32) (m_faultAt : Int32) (m_isDone : Int32) (m_n : Int32) (m_symbols : Int32) (m_groups : Int32) (m_tables : Int32) (m_lays : Int32) (m_laid : Int32) (m_read : Int32) (m_wrong : Int32) (m_readMany : Int32) (m_readTables : Int32) (m_readGroups : Int32) (m_found : Int32) (m_tape : Nat → Int32) (m_map : Nat → Int32) (m_symbol : Nat → Int32) (m_lengths : Nat → Int32) (m_taken : Nat → Int32) (m_codes : Nat → Int32) (m_row : Nat → Int32) (x1 : Int32) {m_lays' : Int32} {m_laid' : Int32} {m_tape' : Nat → Int32} {m_row' : Nat → Int32} (hF : fMo_lay m_n m_symbols m_groups m_tables m_tape m_map m_symbol m_lengths m_taken m_codes m_row x1 = some (m_lays', m_laid', m_tape', m_row')) : CT l yX9_lay wsX9_lay rmMo_lay D (tysG cI cZ cO cG) [.ref a_self, .int x1] [ob a_self 9 [Value.int m_signs, Value.ref a_block, Value.ref a_tape, Value.int m_bits, Value.int m_faultAt, Value.int m_isDone, Value.int m_n, Value.ref a_map, Value.ref a_places, Value.int m_symbols, Value.ref a_symbol, Value.int m_groups, Value.int m_tables, Value.ref a_lengths, Value.ref a_taken, Value.ref a_codes, Value.ref a_list, Value.ref a_weights, Value.ref a_whole, Value.int m_lays, Value.int m_laid, Value.ref a_row, Value.int m_read, Value.int m_wrong, Value.int m_readMany, Value.ref a_readMap, Value.int m_readTables, Value.int m_readGroups, Value.ref a_readTaken, Value.ref a_readLengths, Value.ref a_readCodes, Value.int m_found, Value.ref a_foundBlock], ia cZ a_tape 1500 m_tape, ia cI a_map 256 m_map, ia cI a_symbol 301 m_symbol, ia cI a_lengths 3870 m_lengths, ia cI a_taken 155 m_taken, ia cI a_codes 774 m_codes, ia cI a_row 3 m_row] none [ob a_self 9 [Value.int m_signs, Value.ref a_block, Value.ref a_tape, Value.int m_bits, Value.int m_faultAt, Value.int m_isDone, Value.int m_n, Value.ref a_map, Value.ref a_places, Value.int m_symbols, Value.ref a_symbol, Value.int m_groups, Value.int m_tables, Value.ref a_lengths, Value.ref a_taken, Value.ref a_codes, Value.ref a_list, Value.ref a_weights, Value.ref a_whole, Value.int m_lays', Value.int m_laid', Value.ref a_row, Value.int m_read, Value.int m_wrong, Value.int m_readMany, Value.ref a_readMap, Value.int m_readTables, Value.int m_readGroups, Value.ref a_readTaken, Value.ref a_readLengths, Value.ref a_readCodes, Value.int m_found, Value.ref a_foundBlock], ia cZ a_tape 1500 m_tape', ia cI a_map 256 m_map, ia cI a_symbol 301 m_symbol, ia cI a_lengths 3870 m_lengths, ia cI a_taken 155 m_taken, ia cI a_codes 774 m_codes, ia cI a_row 3 m_row'] := by
  refine CT.of (cc := cX9_lay) (maxL := 6) (ret := none) (by decide) rfl (Nat.le_of_ble_eq_true rfl) ?_
  intro p e s m below meth c A ls hx hb hr hml hts hown hlocks hK hA hP hD hS hl
  generalize hargs : ([.ref a_self, .int x1] : List Value).toArray = args at hts ⊢
  generalize hQ : MQ below (ctQ D none [ob a_self 9 [Value.int m_signs, Value.ref a_block, Value.ref a_tape, Value.int m_bits, Value.int m_faultAt, Value.int m_isDone, Value.int m_n, Value.ref a_map, Value.ref a_places, Value.int m_symbols, Value.ref a_symbol, Value.int m_groups, Value.int m_tables, Value.ref a_lengths, Value.ref a_taken, Value.ref a_codes, Value.ref a_list, Value.ref a_weights, Value.ref a_whole, Value.int m_lays', Value.int m_laid', Value.ref a_row, Value.int m_read, Value.int m_wrong, Value.int m_readMany, Value.ref a_readMap, Value.int m_readTables, Value.int m_readGroups, Value.ref a_readTaken, Value.ref a_readLengths, Value.ref a_readCodes, Value.int m_found, Value.ref a_foundBlock], ia cZ a_tape 1500 m_tape', ia cI a_map 256 m_map, ia cI a_symbol 301 m_symbol, ia cI a_lengths 3870 m_lengths, ia cI a_taken 155 m_taken, ia cI a_codes 774 m_codes, ia cI a_row 3 m_row'] A) args s 0 0 A = Q
  have hl : lv_has ls 6 [(0, .ref a_self), (1, .int x1)] := hl
  have hW : WS D A s [ob a_self 9 [Value.int m_signs, Value.ref a_block, Value.ref a_tape, Value.int m_bits, Value.int m_faultAt, Value.int m_isDone, Value.int m_n, Value.ref a_map, Value.ref a_places, Value.int m_symbols, Value.ref a_symbol, Value.int m_groups, Value.int m_tables, Value.ref a_lengths, Value.ref a_taken, Value.ref a_codes, Value.ref a_list, Value.ref a_weights, Value.ref a_whole, Value.int m_lays, Value.int m_laid, Value.ref a_row, Value.int m_read, Value.int m_wrong, Value.int m_readMany, Value.ref a_readMap, Value.int m_readTables, Value.int m_readGroups, Value.ref a_readTaken, Value.ref a_readLengths, Value.ref a_readCodes, Value.int m_found, Value.ref a_foundBlock], ia cZ a_tape 1500 m_tape, ia cI a_map 256 m_map, ia cI a_symbol 301 m_symbol, ia cI a_lengths 3870 m_lengths, ia cI a_taken 155 m_taken, ia cI a_codes 774 m_codes, ia cI a_row 3 m_row] s.heap [] := ⟨hP, hD, hS⟩
  clear hP hD hS
  unfold fMo_lay at hF
  have hw0 := hts (Cond.fieldLink RX9 145 "MoveFrontsModel" "lays" "Z") (by decide +kernel)
  have hw1 := hts (Cond.fieldLink RX9 148 "MoveFrontsModel" "laid" "I") (by decide +kernel)
  have hw2 := hts (Cond.fieldLink RX9 92 "MoveFrontsModel" "tables" "I") (by decide +kernel)
  have hw3 := hts (Cond.fieldLink RX9 89 "MoveFrontsModel" "groups" "I") (by decide +kernel)
  have hw4 := hts (Cond.fieldLink RX9 86 "MoveFrontsModel" "symbols" "I") (by decide +kernel)
  have hw5 := hts (Cond.fieldLink RX9 33 "MoveFrontsModel" "taken" "[I") (by decide +kernel)
  have hw6 := hts (Cond.fieldLink RX9 36 "MoveFrontsModel" "codes" "[I") (by decide +kernel)
  have hw7 := hts (Cond.fieldLink RX9 27 "MoveFrontsModel" "symbol" "[I") (by decide +kernel)
  have hw8 := hts (Cond.fieldLink RX9 30 "MoveFrontsModel" "lengths" "[I") (by decide +kernel)
  have hw9 := hts (Cond.fieldLink RX9 48 "MoveFrontsModel" "row" "[I") (by decide +kernel)
  have hi9 : ∀ w ∈ u_ws RX9 TX9 33, w ∈ wsX9_lay := by decide +kernel
  refine lv_aload_n hx hb dX9_lay_0 rfl (lv_at hl 0 rfl) ?_
  refine lv_iload_n hx hb dX9_lay_1 rfl (lv_at hl 1 rfl) ?_
  obtain ⟨g2, hF⟩ := gdB_some hF
  refine va_put (D := D) (ci := 9) (v := .int x1) (ty := .boolean) (C := RX9) (T := TX9) (N := 33) hx hb hts hi9 tyX9 tyX9_ok nmX9 hown hK.1 hW.1 hW.2.1 hW.2.2 0 rfl rfl 19 (by decide) hw0 (fun _ h9 => h9) rfl (by decide +kernel) (gdB_n g2) (gdB_f g2) (Nat.le_of_ble_eq_true rfl) dX9_lay_2 (fun H locs hP hD hS => ?_)
  have hW : WS D A s [ob a_self 9 [Value.int m_signs, Value.ref a_block, Value.ref a_tape, Value.int m_bits, Value.int m_faultAt, Value.int m_isDone, Value.int m_n, Value.ref a_map, Value.ref a_places, Value.int m_symbols, Value.ref a_symbol, Value.int m_groups, Value.int m_tables, Value.ref a_lengths, Value.ref a_taken, Value.ref a_codes, Value.ref a_list, Value.ref a_weights, Value.ref a_whole, Value.int x1, Value.int m_laid, Value.ref a_row, Value.int m_read, Value.int m_wrong, Value.int m_readMany, Value.ref a_readMap, Value.int m_readTables, Value.int m_readGroups, Value.ref a_readTaken, Value.ref a_readLengths, Value.ref a_readCodes, Value.int m_found, Value.ref a_foundBlock], ia cZ a_tape 1500 m_tape, ia cI a_map 256 m_map, ia cI a_symbol 301 m_symbol, ia cI a_lengths 3870 m_lengths, ia cI a_taken 155 m_taken, ia cI a_codes 774 m_codes, ia cI a_row 3 m_row] H locs := ⟨hP, hD, hS⟩
  refine lv_aload_n hx hb dX9_lay_5 rfl (lv_at hl 0 rfl) ?_
  refine lv_iconst (v := 0) hx hb dX9_lay_6 (by decide) ?_
  refine va_put (D := D) (ci := 9) (v := .int (0 : Int32)) (ty := .int) (C := RX9) (T := TX9) (N := 33) hx hb hts hi9 tyX9 tyX9_ok nmX9 hown hK.1 hW.1 hW.2.1 hW.2.2 0 rfl rfl 20 (by decide) hw1 (fun _ h9 => h9) rfl (by decide +kernel) rfl rfl (Nat.le_of_ble_eq_true rfl) dX9_lay_7 (fun H locs hP hD hS => ?_)
  have hW : WS D A s [ob a_self 9 [Value.int m_signs, Value.ref a_block, Value.ref a_tape, Value.int m_bits, Value.int m_faultAt, Value.int m_isDone, Value.int m_n, Value.ref a_map, Value.ref a_places, Value.int m_symbols, Value.ref a_symbol, Value.int m_groups, Value.int m_tables, Value.ref a_lengths, Value.ref a_taken, Value.ref a_codes, Value.ref a_list, Value.ref a_weights, Value.ref a_whole, Value.int x1, Value.int (0 : Int32), Value.ref a_row, Value.int m_read, Value.int m_wrong, Value.int m_readMany, Value.ref a_readMap, Value.int m_readTables, Value.int m_readGroups, Value.ref a_readTaken, Value.ref a_readLengths, Value.ref a_readCodes, Value.int m_found, Value.ref a_foundBlock], ia cZ a_tape 1500 m_tape, ia cI a_map 256 m_map, ia cI a_symbol 301 m_symbol, ia cI a_lengths 3870 m_lengths, ia cI a_taken 155 m_taken, ia cI a_codes 774 m_codes, ia cI a_row 3 m_row] H locs := ⟨hP, hD, hS⟩
  refine lv_iconst (v := 0) hx hb dX9_lay_10 (by decide) ?_
  refine lv_istore_n (lv' := [(2, .int (0 : Int32)), (0, .ref a_self), (1, .int x1)]) hx hb dX9_lay_11 rfl hl (by decide) rfl (fun ls hl => ?_)
  refine lv_iconst (v := 0) hx hb dX9_lay_12 (by decide) ?_
  refine lv_istore_n (lv' := [(3, .int (0 : Int32)), (2, .int (0 : Int32)), (0, .ref a_self), (1, .int x1)]) hx hb dX9_lay_13 rfl hl (by decide) rfl (fun ls hl => ?_)
  obtain ⟨x2_14ze, hI, hF⟩ := bd1_some hF
  obtain ⟨nn, hI⟩ := itrO_some hI
  have hX14 : ∀ (x2_14z : Int32), x2_14z = x2_14ze → ∀ (H : Heap) (locs : List Loc), WS D A s [ob a_self 9 [Value.int m_signs, Value.ref a_block, Value.ref a_tape, Value.int m_bits, Value.int m_faultAt, Value.int m_isDone, Value.int m_n, Value.ref a_map, Value.ref a_places, Value.int m_symbols, Value.ref a_symbol, Value.int m_groups, Value.int m_tables, Value.ref a_lengths, Value.ref a_taken, Value.ref a_codes, Value.ref a_list, Value.ref a_weights, Value.ref a_whole, Value.int x1, Value.int (0 : Int32), Value.ref a_row, Value.int m_read, Value.int m_wrong, Value.int m_readMany, Value.ref a_readMap, Value.int m_readTables, Value.int m_readGroups, Value.ref a_readTaken, Value.ref a_readLengths, Value.ref a_readCodes, Value.int m_found, Value.ref a_foundBlock], ia cZ a_tape 1500 m_tape, ia cI a_map 256 m_map, ia cI a_symbol 301 m_symbol, ia cI a_lengths 3870 m_lengths, ia cI a_taken 155 m_taken, ia cI a_codes 774 m_codes, ia cI a_row 3 m_row] H locs → ∀ ls : Array Slot, lv_has ls 6 [(0, .ref a_self), (2, .int x2_14z)] → W p l e (headSpec wsX9_lay rmMo_lay).room s m args below meth c H locs 0 0 Q (F0 m 44 ls []) := by
    intro x2_14z he H locs hW ls hl
    subst he
    refine lv_aload_n hx hb dX9_lay_44 rfl (lv_at hl 0 rfl) ?_
    refine lv_iload_n hx hb dX9_lay_45 rfl (lv_at hl 1 rfl) ?_
    refine lv_bipush (v := 16) hx hb dX9_lay_46 (by decide) ?_
    obtain ⟨m_laid_48, m_tape_48, e48, hF⟩ := bd2_some hF
    refine ctV (wn := [ob a_self 9 [Value.int m_signs, Value.ref a_block, Value.ref a_tape, Value.int m_bits, Value.int m_faultAt, Value.int m_isDone, Value.int m_n, Value.ref a_map, Value.ref a_places, Value.int m_symbols, Value.ref a_symbol, Value.int m_groups, Value.int m_tables, Value.ref a_lengths, Value.ref a_taken, Value.ref a_codes, Value.ref a_list, Value.ref a_weights, Value.ref a_whole, Value.int x1, Value.int m_laid_48, Value.ref a_row, Value.int m_read, Value.int m_wrong, Value.int m_readMany, Value.ref a_readMap, Value.int m_readTables, Value.int m_readGroups, Value.ref a_readTaken, Value.ref a_readLengths, Value.ref a_readCodes, Value.int m_found, Value.ref a_foundBlock], ia cZ a_tape 1500 m_tape_48, ia cI a_map 256 m_map, ia cI a_symbol 301 m_symbol, ia cI a_lengths 3870 m_lengths, ia cI a_taken 155 m_taken, ia cI a_codes 774 m_codes, ia cI a_row 3 m_row]) (r := (RX9, TX9, 33)) (As := [.int x2_14z, .int (16 : Int32)]) (rest := []) hx hb hml hown hts hK hW hA hl.1 (kMo_put l D cI cZ cO cG a_self a_block a_tape a_map a_places a_symbol a_lengths a_taken a_codes a_list a_weights a_whole a_row a_readMap a_readTaken a_readLengths a_readCodes a_foundBlock m_signs m_bits m_faultAt m_isDone m_n m_symbols m_groups m_tables x1 (0 : Int32) m_read m_wrong m_readMany m_readTables m_readGroups m_found m_tape x2_14z (16 : Int32) e48) (cwV 2 hts gX9_lay_X9_put rfl rfl rfl (by decide +kernel) ⟨Nat.le_of_ble_eq_true rfl, Nat.le_of_ble_eq_true rfl⟩) 9 0 rfl rfl [0, 1] [2, 3, 4, 5, 6, 7] 8 rfl rfl rfl rfl [ia cI a_map 256 m_map, ia cI a_symbol 301 m_symbol, ia cI a_lengths 3870 m_lengths, ia cI a_taken 155 m_taken, ia cI a_codes 774 m_codes, ia cI a_row 3 m_row] rfl rfl rfl rfl rfl (Nat.le_of_ble_eq_true rfl) rfl ⟨Nat.zero_le _, Nat.zero_le _⟩ dX9_lay_48 (fun H locs hW => ?_)
    refine lv_iconst (v := 0) hx hb dX9_lay_51 (by decide) ?_
    refine lv_istore_n (lv' := [(3, .int (0 : Int32)), (0, .ref a_self), (2, .int x2_14z)]) hx hb dX9_lay_52 rfl hl (by decide) rfl (fun ls hl => ?_)
    obtain ⟨m_laid_53ze, m_tape_53ze, hI, hF⟩ := bd2_some hF
    obtain ⟨nn, hI⟩ := itrO_some hI
    have hX53 : ∀ (m_laid_53z : Int32) (m_tape_53z : Nat → Int32), (m_laid_53z, m_tape_53z) = (m_laid_53ze, m_tape_53ze) → ∀ (H : Heap) (locs : List Loc), WS D A s [ob a_self 9 [Value.int m_signs, Value.ref a_block, Value.ref a_tape, Value.int m_bits, Value.int m_faultAt, Value.int m_isDone, Value.int m_n, Value.ref a_map, Value.ref a_places, Value.int m_symbols, Value.ref a_symbol, Value.int m_groups, Value.int m_tables, Value.ref a_lengths, Value.ref a_taken, Value.ref a_codes, Value.ref a_list, Value.ref a_weights, Value.ref a_whole, Value.int x1, Value.int m_laid_53z, Value.ref a_row, Value.int m_read, Value.int m_wrong, Value.int m_readMany, Value.ref a_readMap, Value.int m_readTables, Value.int m_readGroups, Value.ref a_readTaken, Value.ref a_readLengths, Value.ref a_readCodes, Value.int m_found, Value.ref a_foundBlock], ia cZ a_tape 1500 m_tape_53z, ia cI a_map 256 m_map, ia cI a_symbol 301 m_symbol, ia cI a_lengths 3870 m_lengths, ia cI a_taken 155 m_taken, ia cI a_codes 774 m_codes, ia cI a_row 3 m_row] H locs → ∀ ls : Array Slot, lv_has ls 6 [(0, .ref a_self)] → W p l e (headSpec wsX9_lay rmMo_lay).room s m args below meth c H locs 0 0 Q (F0 m 84 ls []) := by
      intro m_laid_53z m_tape_53z he H locs hW ls hl
      obtain ⟨hz0, hy0⟩ := Prod.mk.inj he
      subst hz0
      subst hy0
      refine lv_aload_n hx hb dX9_lay_84 rfl (lv_at hl 0 rfl) ?_
      refine lv_aload_n hx hb dX9_lay_85 rfl (lv_at hl 0 rfl) ?_
      refine va_get (D := D) (ci := 9) (v := .int m_tables) (C := RX9) (T := TX9) (N := 33) hx hb hts hi9 hown hK.1 hW.1 0 rfl rfl 12 (by decide) hw2 (fun _ h9 => h9) rfl dX9_lay_86 ?_
      refine lv_iconst (v := 2) hx hb dX9_lay_89 (by decide) ?_
      obtain ⟨m_laid_90, m_tape_90, e90, hF⟩ := bd2_some hF
      refine ctV (wn := [ob a_self 9 [Value.int m_signs, Value.ref a_block, Value.ref a_tape, Value.int m_bits, Value.int m_faultAt, Value.int m_isDone, Value.int m_n, Value.ref a_map, Value.ref a_places, Value.int m_symbols, Value.ref a_symbol, Value.int m_groups, Value.int m_tables, Value.ref a_lengths, Value.ref a_taken, Value.ref a_codes, Value.ref a_list, Value.ref a_weights, Value.ref a_whole, Value.int x1, Value.int m_laid_90, Value.ref a_row, Value.int m_read, Value.int m_wrong, Value.int m_readMany, Value.ref a_readMap, Value.int m_readTables, Value.int m_readGroups, Value.ref a_readTaken, Value.ref a_readLengths, Value.ref a_readCodes, Value.int m_found, Value.ref a_foundBlock], ia cZ a_tape 1500 m_tape_90, ia cI a_map 256 m_map, ia cI a_symbol 301 m_symbol, ia cI a_lengths 3870 m_lengths, ia cI a_taken 155 m_taken, ia cI a_codes 774 m_codes, ia cI a_row 3 m_row]) (r := (RX9, TX9, 33)) (As := [.int m_tables, .int (2 : Int32)]) (rest := []) hx hb hml hown hts hK hW hA hl.1 (kMo_put l D cI cZ cO cG a_self a_block a_tape a_map a_places a_symbol a_lengths a_taken a_codes a_list a_weights a_whole a_row a_readMap a_readTaken a_readLengths a_readCodes a_foundBlock m_signs m_bits m_faultAt m_isDone m_n m_symbols m_groups m_tables x1 m_laid_53z m_read m_wrong m_readMany m_readTables m_readGroups m_found m_tape_53z m_tables (2 : Int32) e90) (cwV 2 hts gX9_lay_X9_put rfl rfl rfl (by decide +kernel) ⟨Nat.le_of_ble_eq_true rfl, Nat.le_of_ble_eq_true rfl⟩) 9 0 rfl rfl [0, 1] [2, 3, 4, 5, 6, 7] 8 rfl rfl rfl rfl [ia cI a_map 256 m_map, ia cI a_symbol 301 m_symbol, ia cI a_lengths 3870 m_lengths, ia cI a_taken 155 m_taken, ia cI a_codes 774 m_codes, ia cI a_row 3 m_row] rfl rfl rfl rfl rfl (Nat.le_of_ble_eq_true rfl) rfl ⟨Nat.zero_le _, Nat.zero_le _⟩ dX9_lay_90 (fun H locs hW => ?_)
      refine lv_aload_n hx hb dX9_lay_93 rfl (lv_at hl 0 rfl) ?_
      refine lv_aload_n hx hb dX9_lay_94 rfl (lv_at hl 0 rfl) ?_
      refine va_get (D := D) (ci := 9) (v := .int m_groups) (C := RX9) (T := TX9) (N := 33) hx hb hts hi9 hown hK.1 hW.1 0 rfl rfl 11 (by decide) hw3 (fun _ h9 => h9) rfl dX9_lay_95 ?_
      refine lv_iconst (v := 5) hx hb dX9_lay_98 (by decide) ?_
      obtain ⟨m_laid_99, m_tape_99, e99, hF⟩ := bd2_some hF
      refine ctV (wn := [ob a_self 9 [Value.int m_signs, Value.ref a_block, Value.ref a_tape, Value.int m_bits, Value.int m_faultAt, Value.int m_isDone, Value.int m_n, Value.ref a_map, Value.ref a_places, Value.int m_symbols, Value.ref a_symbol, Value.int m_groups, Value.int m_tables, Value.ref a_lengths, Value.ref a_taken, Value.ref a_codes, Value.ref a_list, Value.ref a_weights, Value.ref a_whole, Value.int x1, Value.int m_laid_99, Value.ref a_row, Value.int m_read, Value.int m_wrong, Value.int m_readMany, Value.ref a_readMap, Value.int m_readTables, Value.int m_readGroups, Value.ref a_readTaken, Value.ref a_readLengths, Value.ref a_readCodes, Value.int m_found, Value.ref a_foundBlock], ia cZ a_tape 1500 m_tape_99, ia cI a_map 256 m_map, ia cI a_symbol 301 m_symbol, ia cI a_lengths 3870 m_lengths, ia cI a_taken 155 m_taken, ia cI a_codes 774 m_codes, ia cI a_row 3 m_row]) (r := (RX9, TX9, 33)) (As := [.int m_groups, .int (5 : Int32)]) (rest := []) hx hb hml hown hts hK hW hA hl.1 (kMo_put l D cI cZ cO cG a_self a_block a_tape a_map a_places a_symbol a_lengths a_taken a_codes a_list a_weights a_whole a_row a_readMap a_readTaken a_readLengths a_readCodes a_foundBlock m_signs m_bits m_faultAt m_isDone m_n m_symbols m_groups m_tables x1 m_laid_90 m_read m_wrong m_readMany m_readTables m_readGroups m_found m_tape_90 m_groups (5 : Int32) e99) (cwV 2 hts gX9_lay_X9_put rfl rfl rfl (by decide +kernel) ⟨Nat.le_of_ble_eq_true rfl, Nat.le_of_ble_eq_true rfl⟩) 9 0 rfl rfl [0, 1] [2, 3, 4, 5, 6, 7] 8 rfl rfl rfl rfl [ia cI a_map 256 m_map, ia cI a_symbol 301 m_symbol, ia cI a_lengths 3870 m_lengths, ia cI a_taken 155 m_taken, ia cI a_codes 774 m_codes, ia cI a_row 3 m_row] rfl rfl rfl rfl rfl (Nat.le_of_ble_eq_true rfl) rfl ⟨Nat.zero_le _, Nat.zero_le _⟩ dX9_lay_99 (fun H locs hW => ?_)
      refine lv_iconst (v := 0) hx hb dX9_lay_102 (by decide) ?_
      refine lv_istore_n (lv' := [(3, .int (0 : Int32)), (0, .ref a_self)]) hx hb dX9_lay_103 rfl hl (by decide) rfl (fun ls hl => ?_)
      obtain ⟨m_row_104ze, hI, hF⟩ := bd1_some hF
      obtain ⟨nn, hI⟩ := itrO_some hI
      have hX104 : ∀ (m_row_104z : Nat → Int32), m_row_104z = m_row_104ze → ∀ (H : Heap) (locs : List Loc), WS D A s [ob a_self 9 [Value.int m_signs, Value.ref a_block, Value.ref a_tape, Value.int m_bits, Value.int m_faultAt, Value.int m_isDone, Value.int m_n, Value.ref a_map, Value.ref a_places, Value.int m_symbols, Value.ref a_symbol, Value.int m_groups, Value.int m_tables, Value.ref a_lengths, Value.ref a_taken, Value.ref a_codes, Value.ref a_list, Value.ref a_weights, Value.ref a_whole, Value.int x1, Value.int m_laid_99, Value.ref a_row, Value.int m_read, Value.int m_wrong, Value.int m_readMany, Value.ref a_readMap, Value.int m_readTables, Value.int m_readGroups, Value.ref a_readTaken, Value.ref a_readLengths, Value.ref a_readCodes, Value.int m_found, Value.ref a_foundBlock], ia cZ a_tape 1500 m_tape_99, ia cI a_map 256 m_map, ia cI a_symbol 301 m_symbol, ia cI a_lengths 3870 m_lengths, ia cI a_taken 155 m_taken, ia cI a_codes 774 m_codes, ia cI a_row 3 m_row_104z] H locs → ∀ ls : Array Slot, lv_has ls 6 [(0, .ref a_self)] → W p l e (headSpec wsX9_lay rmMo_lay).room s m args below meth c H locs 0 0 Q (F0 m 125 ls []) := by
        intro m_row_104z he H locs hW ls hl
        subst he
        refine lv_iconst (v := 0) hx hb dX9_lay_125 (by decide) ?_
        refine lv_istore_n (lv' := [(3, .int (0 : Int32)), (0, .ref a_self)]) hx hb dX9_lay_126 rfl hl (by decide) rfl (fun ls hl => ?_)
        obtain ⟨m_laid_127ze, m_tape_127ze, m_row_127ze, hI, hF⟩ := bd3_some hF
        obtain ⟨nn, hI⟩ := itrO_some hI
        have hX127 : ∀ (m_laid_127z : Int32) (m_tape_127z : Nat → Int32) (m_row_127z : Nat → Int32), (m_laid_127z, m_tape_127z, m_row_127z) = (m_laid_127ze, m_tape_127ze, m_row_127ze) → ∀ (H : Heap) (locs : List Loc), WS D A s [ob a_self 9 [Value.int m_signs, Value.ref a_block, Value.ref a_tape, Value.int m_bits, Value.int m_faultAt, Value.int m_isDone, Value.int m_n, Value.ref a_map, Value.ref a_places, Value.int m_symbols, Value.ref a_symbol, Value.int m_groups, Value.int m_tables, Value.ref a_lengths, Value.ref a_taken, Value.ref a_codes, Value.ref a_list, Value.ref a_weights, Value.ref a_whole, Value.int x1, Value.int m_laid_127z, Value.ref a_row, Value.int m_read, Value.int m_wrong, Value.int m_readMany, Value.ref a_readMap, Value.int m_readTables, Value.int m_readGroups, Value.ref a_readTaken, Value.ref a_readLengths, Value.ref a_readCodes, Value.int m_found, Value.ref a_foundBlock], ia cZ a_tape 1500 m_tape_127z, ia cI a_map 256 m_map, ia cI a_symbol 301 m_symbol, ia cI a_lengths 3870 m_lengths, ia cI a_taken 155 m_taken, ia cI a_codes 774 m_codes, ia cI a_row 3 m_row_127z] H locs → ∀ ls : Array Slot, lv_has ls 6 [(0, .ref a_self)] → W p l e (headSpec wsX9_lay rmMo_lay).room s m args below meth c H locs 0 0 Q (F0 m 193 ls []) := by
          intro m_laid_127z m_tape_127z m_row_127z he H locs hW ls hl
          obtain ⟨hz0, hy0⟩ := Prod.mk.inj he
          obtain ⟨hz1, hy1⟩ := Prod.mk.inj hy0
          subst hz0
          subst hz1
          subst hy1
          refine lv_iconst (v := 0) hx hb dX9_lay_193 (by decide) ?_
          refine lv_istore_n (lv' := [(3, .int (0 : Int32)), (0, .ref a_self)]) hx hb dX9_lay_194 rfl hl (by decide) rfl (fun ls hl => ?_)
          obtain ⟨m_laid_195ze, m_tape_195ze, hI, hF⟩ := bd2_some hF
          obtain ⟨nn, hI⟩ := itrO_some hI
          have hX195 : ∀ (m_laid_195z : Int32) (m_tape_195z : Nat → Int32), (m_laid_195z, m_tape_195z) = (m_laid_195ze, m_tape_195ze) → ∀ (H : Heap) (locs : List Loc), WS D A s [ob a_self 9 [Value.int m_signs, Value.ref a_block, Value.ref a_tape, Value.int m_bits, Value.int m_faultAt, Value.int m_isDone, Value.int m_n, Value.ref a_map, Value.ref a_places, Value.int m_symbols, Value.ref a_symbol, Value.int m_groups, Value.int m_tables, Value.ref a_lengths, Value.ref a_taken, Value.ref a_codes, Value.ref a_list, Value.ref a_weights, Value.ref a_whole, Value.int x1, Value.int m_laid_195z, Value.ref a_row, Value.int m_read, Value.int m_wrong, Value.int m_readMany, Value.ref a_readMap, Value.int m_readTables, Value.int m_readGroups, Value.ref a_readTaken, Value.ref a_readLengths, Value.ref a_readCodes, Value.int m_found, Value.ref a_foundBlock], ia cZ a_tape 1500 m_tape_195z, ia cI a_map 256 m_map, ia cI a_symbol 301 m_symbol, ia cI a_lengths 3870 m_lengths, ia cI a_taken 155 m_taken, ia cI a_codes 774 m_codes, ia cI a_row 3 m_row_127z] H locs → ∀ ls : Array Slot, lv_has ls 6 [(0, .ref a_self)] → W p l e (headSpec wsX9_lay rmMo_lay).room s m args below meth c H locs 0 0 Q (F0 m 221 ls []) := by
            intro m_laid_195z m_tape_195z he H locs hW ls hl
            obtain ⟨hz0, hy0⟩ := Prod.mk.inj he
            subst hz0
            subst hy0
            refine lv_iconst (v := 0) hx hb dX9_lay_221 (by decide) ?_
            refine lv_istore_n (lv' := [(3, .int (0 : Int32)), (0, .ref a_self)]) hx hb dX9_lay_222 rfl hl (by decide) rfl (fun ls hl => ?_)
            obtain ⟨m_laid_223ze, m_tape_223ze, hI, hF⟩ := bd2_some hF
            obtain ⟨nn, hI⟩ := itrO_some hI
            have hX223 : ∀ (m_laid_223z : Int32) (m_tape_223z : Nat → Int32), (m_laid_223z, m_tape_223z) = (m_laid_223ze, m_tape_223ze) → ∀ (H : Heap) (locs : List Loc), WS D A s [ob a_self 9 [Value.int m_signs, Value.ref a_block, Value.ref a_tape, Value.int m_bits, Value.int m_faultAt, Value.int m_isDone, Value.int m_n, Value.ref a_map, Value.ref a_places, Value.int m_symbols, Value.ref a_symbol, Value.int m_groups, Value.int m_tables, Value.ref a_lengths, Value.ref a_taken, Value.ref a_codes, Value.ref a_list, Value.ref a_weights, Value.ref a_whole, Value.int x1, Value.int m_laid_223z, Value.ref a_row, Value.int m_read, Value.int m_wrong, Value.int m_readMany, Value.ref a_readMap, Value.int m_readTables, Value.int m_readGroups, Value.ref a_readTaken, Value.ref a_readLengths, Value.ref a_readCodes, Value.int m_found, Value.ref a_foundBlock], ia cZ a_tape 1500 m_tape_223z, ia cI a_map 256 m_map, ia cI a_symbol 301 m_symbol, ia cI a_lengths 3870 m_lengths, ia cI a_taken 155 m_taken, ia cI a_codes 774 m_codes, ia cI a_row 3 m_row_127z] H locs → ∀ ls : Array Slot, lv_has ls 6 [] → W p l e (headSpec wsX9_lay rmMo_lay).room s m args below meth c H locs 0 0 Q (F0 m 294 ls []) := by
              intro m_laid_223z m_tape_223z he H locs hW ls hl
              obtain ⟨hz0, hy0⟩ := Prod.mk.inj he
              subst hz0
              subst hy0
              cases hF
              subst hQ
              exact ct_vret hx hb hr hlocks hW.1 hW.2.2 dX9_lay_294
            have hL223 : ∀ (n223 : Nat) (x3_223 : Int32) (m_laid_223 : Int32) (m_tape_223 : Nat → Int32), itr (un3 (fMo_lay_L223 m_symbols m_symbol m_lengths m_taken m_codes x1)) n223 (x3_223, m_laid_223, m_tape_223) = some (m_laid_223ze, m_tape_223ze) → ∀ (H : Heap) (locs : List Loc), WS D A s [ob a_self 9 [Value.int m_signs, Value.ref a_block, Value.ref a_tape, Value.int m_bits, Value.int m_faultAt, Value.int m_isDone, Value.int m_n, Value.ref a_map, Value.ref a_places, Value.int m_symbols, Value.ref a_symbol, Value.int m_groups, Value.int m_tables, Value.ref a_lengths, Value.ref a_taken, Value.ref a_codes, Value.ref a_list, Value.ref a_weights, Value.ref a_whole, Value.int x1, Value.int m_laid_223, Value.ref a_row, Value.int m_read, Value.int m_wrong, Value.int m_readMany, Value.ref a_readMap, Value.int m_readTables, Value.int m_readGroups, Value.ref a_readTaken, Value.ref a_readLengths, Value.ref a_readCodes, Value.int m_found, Value.ref a_foundBlock], ia cZ a_tape 1500 m_tape_223, ia cI a_map 256 m_map, ia cI a_symbol 301 m_symbol, ia cI a_lengths 3870 m_lengths, ia cI a_taken 155 m_taken, ia cI a_codes 774 m_codes, ia cI a_row 3 m_row_127z] H locs → ∀ ls : Array Slot, lv_has ls 6 [(0, .ref a_self), (3, .int x3_223)] → W p l e (headSpec wsX9_lay rmMo_lay).room s m args below meth c H locs 0 0 Q (F0 m 223 ls []) := by
              intro n223
              induction n223 with
              | zero => intro x3_223 m_laid_223 m_tape_223 hI; cases hI
              | succ n223 ih223 =>
                intro x3_223 m_laid_223 m_tape_223 hI H locs hW ls hl
                obtain ⟨sr223, hF, hN223⟩ := itr_succ hI
                have hF : fMo_lay_L223 m_symbols m_symbol m_lengths m_taken m_codes x1 x3_223 m_laid_223 m_tape_223 = some sr223 := hF
                unfold fMo_lay_L223 at hF
                refine lv_iload_n hx hb dX9_lay_223 rfl (lv_at hl 1 rfl) ?_
                refine lv_aload_n hx hb dX9_lay_224 rfl (lv_at hl 0 rfl) ?_
                refine va_get (D := D) (ci := 9) (v := .int m_symbols) (C := RX9) (T := TX9) (N := 33) hx hb hts hi9 hown hK.1 hW.1 0 rfl rfl 9 (by decide) hw4 (fun _ h9 => h9) rfl dX9_lay_225 ?_
                refine lv_icmp_ge (tgt := 294) hx hb dX9_lay_228 (by decide) (fun c228 => ?_) (fun c228 => ?_)
                · rw [if_pos c228] at hF
                  cases hF
                  exact hX223 _ _ (itr_out hN223) _ _ hW _ (lv_sub hl [] rfl)
                · rw [if_neg c228] at hF
                  refine lv_aload_n hx hb dX9_lay_231 rfl (lv_at hl 0 rfl) ?_
                  refine va_get (D := D) (ci := 9) (v := .ref a_taken) (C := RX9) (T := TX9) (N := 33) hx hb hts hi9 hown hK.1 hW.1 0 rfl rfl 14 (by decide) hw5 (fun _ h9 => h9) rfl dX9_lay_232 ?_
                  refine lv_bipush (v := 124) hx hb dX9_lay_235 (by decide) ?_
                  refine lv_iload_n hx hb dX9_lay_237 rfl (lv_at hl 1 rfl) ?_
                  refine lv_bipush (v := 10) hx hb dX9_lay_238 (by decide) ?_
                  refine lv_idiv hx hb dX9_lay_240 (by decide) ?_
                  refine lv_iadd hx hb dX9_lay_241 ?_
                  obtain ⟨g242, hF⟩ := gdI_some hF
                  refine va_iald hx hb hK.1 hW.1 5 0 rfl rfl g242 dX9_lay_242 ?_
                  refine lv_istore (lv' := [(4, .int (m_taken ((124 : Int32) + (x3_223 / (10 : Int32))).toNatClampNeg)), (0, .ref a_self), (3, .int x3_223)]) hx hb dX9_lay_243 hl (by decide) rfl (fun ls hl => ?_)
                  refine lv_aload_n hx hb dX9_lay_245 rfl (lv_at hl 1 rfl) ?_
                  refine lv_aload_n hx hb dX9_lay_246 rfl (lv_at hl 1 rfl) ?_
                  refine va_get (D := D) (ci := 9) (v := .ref a_codes) (C := RX9) (T := TX9) (N := 33) hx hb hts hi9 hown hK.1 hW.1 0 rfl rfl 15 (by decide) hw6 (fun _ h9 => h9) rfl dX9_lay_247 ?_
                  refine lv_sipush (v := 258) hx hb dX9_lay_250 (by decide) ?_
                  refine lv_iload hx hb dX9_lay_253 (lv_at hl 0 rfl) ?_
                  refine lv_imul hx hb dX9_lay_255 ?_
                  refine lv_aload_n hx hb dX9_lay_256 rfl (lv_at hl 1 rfl) ?_
                  refine va_get (D := D) (ci := 9) (v := .ref a_symbol) (C := RX9) (T := TX9) (N := 33) hx hb hts hi9 hown hK.1 hW.1 0 rfl rfl 10 (by decide) hw7 (fun _ h9 => h9) rfl dX9_lay_257 ?_
                  refine lv_iload_n hx hb dX9_lay_260 rfl (lv_at hl 2 rfl) ?_
                  obtain ⟨g261, hF⟩ := gdI_some hF
                  refine va_iald hx hb hK.1 hW.1 3 0 rfl rfl g261 dX9_lay_261 ?_
                  refine lv_iadd hx hb dX9_lay_262 ?_
                  obtain ⟨g263, hF⟩ := gdI_some hF
                  refine va_iald hx hb hK.1 hW.1 6 0 rfl rfl g263 dX9_lay_263 ?_
                  refine lv_aload_n hx hb dX9_lay_264 rfl (lv_at hl 1 rfl) ?_
                  refine va_get (D := D) (ci := 9) (v := .ref a_lengths) (C := RX9) (T := TX9) (N := 33) hx hb hts hi9 hown hK.1 hW.1 0 rfl rfl 13 (by decide) hw8 (fun _ h9 => h9) rfl dX9_lay_265 ?_
                  refine lv_sipush (v := 258) hx hb dX9_lay_268 (by decide) ?_
                  refine lv_bipush (v := 12) hx hb dX9_lay_271 (by decide) ?_
                  refine lv_iload hx hb dX9_lay_273 (lv_at hl 0 rfl) ?_
                  refine lv_iadd hx hb dX9_lay_275 ?_
                  refine lv_imul hx hb dX9_lay_276 ?_
                  refine lv_aload_n hx hb dX9_lay_277 rfl (lv_at hl 1 rfl) ?_
                  refine va_get (D := D) (ci := 9) (v := .ref a_symbol) (C := RX9) (T := TX9) (N := 33) hx hb hts hi9 hown hK.1 hW.1 0 rfl rfl 10 (by decide) hw7 (fun _ h9 => h9) rfl dX9_lay_278 ?_
                  refine lv_iload_n hx hb dX9_lay_281 rfl (lv_at hl 2 rfl) ?_
                  obtain ⟨g282, hF⟩ := gdI_some hF
                  refine va_iald hx hb hK.1 hW.1 3 0 rfl rfl g282 dX9_lay_282 ?_
                  refine lv_iadd hx hb dX9_lay_283 ?_
                  obtain ⟨g284, hF⟩ := gdI_some hF
                  refine va_iald hx hb hK.1 hW.1 4 0 rfl rfl g284 dX9_lay_284 ?_
                  obtain ⟨m_laid_285, m_tape_285, e285, hF⟩ := bd2_some hF
                  refine ctV (wn := [ob a_self 9 [Value.int m_signs, Value.ref a_block, Value.ref a_tape, Value.int m_bits, Value.int m_faultAt, Value.int m_isDone, Value.int m_n, Value.ref a_map, Value.ref a_places, Value.int m_symbols, Value.ref a_symbol, Value.int m_groups, Value.int m_tables, Value.ref a_lengths, Value.ref a_taken, Value.ref a_codes, Value.ref a_list, Value.ref a_weights, Value.ref a_whole, Value.int x1, Value.int m_laid_285, Value.ref a_row, Value.int m_read, Value.int m_wrong, Value.int m_readMany, Value.ref a_readMap, Value.int m_readTables, Value.int m_readGroups, Value.ref a_readTaken, Value.ref a_readLengths, Value.ref a_readCodes, Value.int m_found, Value.ref a_foundBlock], ia cZ a_tape 1500 m_tape_285, ia cI a_map 256 m_map, ia cI a_symbol 301 m_symbol, ia cI a_lengths 3870 m_lengths, ia cI a_taken 155 m_taken, ia cI a_codes 774 m_codes, ia cI a_row 3 m_row_127z]) (r := (RX9, TX9, 33)) (As := [.int (m_codes (((258 : Int32) * (m_taken ((124 : Int32) + (x3_223 / (10 : Int32))).toNatClampNeg)) + (m_symbol x3_223.toNatClampNeg)).toNatClampNeg), .int (m_lengths (((258 : Int32) * ((12 : Int32) + (m_taken ((124 : Int32) + (x3_223 / (10 : Int32))).toNatClampNeg))) + (m_symbol x3_223.toNatClampNeg)).toNatClampNeg)]) (rest := []) hx hb hml hown hts hK hW hA hl.1 (kMo_put l D cI cZ cO cG a_self a_block a_tape a_map a_places a_symbol a_lengths a_taken a_codes a_list a_weights a_whole a_row a_readMap a_readTaken a_readLengths a_readCodes a_foundBlock m_signs m_bits m_faultAt m_isDone m_n m_symbols m_groups m_tables x1 m_laid_223 m_read m_wrong m_readMany m_readTables m_readGroups m_found m_tape_223 (m_codes (((258 : Int32) * (m_taken ((124 : Int32) + (x3_223 / (10 : Int32))).toNatClampNeg)) + (m_symbol x3_223.toNatClampNeg)).toNatClampNeg) (m_lengths (((258 : Int32) * ((12 : Int32) + (m_taken ((124 : Int32) + (x3_223 / (10 : Int32))).toNatClampNeg))) + (m_symbol x3_223.toNatClampNeg)).toNatClampNeg) e285) (cwV 2 hts gX9_lay_X9_put rfl rfl rfl (by decide +kernel) ⟨Nat.le_of_ble_eq_true rfl, Nat.le_of_ble_eq_true rfl⟩) 9 0 rfl rfl [0, 1] [2, 3, 4, 5, 6, 7] 8 rfl rfl rfl rfl [ia cI a_map 256 m_map, ia cI a_symbol 301 m_symbol, ia cI a_lengths 3870 m_lengths, ia cI a_taken 155 m_taken, ia cI a_codes 774 m_codes, ia cI a_row 3 m_row_127z] rfl rfl rfl rfl rfl (Nat.le_of_ble_eq_true rfl) rfl ⟨Nat.zero_le _, Nat.zero_le _⟩ dX9_lay_285 (fun H locs hW => ?_)
                  refine lv_iinc (v := (x3_223 + 1)) (lv' := [(3, .int (x3_223 + 1)), (4, .int (m_taken ((124 : Int32) + (x3_223 / (10 : Int32))).toNatClampNeg)), (0, .ref a_self)]) hx hb dX9_lay_288 hl (k := 2) rfl rfl (by decide) rfl (fun ls hl => ?_)
                  refine lv_goto (tgt := 223) hx hb dX9_lay_291 (by decide) ?_
                  cases hF
                  exact ih223 _ _ _ (itr_in hN223) _ _ hW _ (lv_sub hl [2, 0] rfl)
            exact hL223 nn _ _ _ hI _ _ hW _ (lv_sub hl [1, 0] rfl)
          have hL195 : ∀ (n195 : Nat) (x3_195 : Int32) (m_laid_195 : Int32) (m_tape_195 : Nat → Int32), itr (un3 (fMo_lay_L195 m_n m_tables m_lengths x1)) n195 (x3_195, m_laid_195, m_tape_195) = some (m_laid_195ze, m_tape_195ze) → ∀ (H : Heap) (locs : List Loc), WS D A s [ob a_self 9 [Value.int m_signs, Value.ref a_block, Value.ref a_tape, Value.int m_bits, Value.int m_faultAt, Value.int m_isDone, Value.int m_n, Value.ref a_map, Value.ref a_places, Value.int m_symbols, Value.ref a_symbol, Value.int m_groups, Value.int m_tables, Value.ref a_lengths, Value.ref a_taken, Value.ref a_codes, Value.ref a_list, Value.ref a_weights, Value.ref a_whole, Value.int x1, Value.int m_laid_195, Value.ref a_row, Value.int m_read, Value.int m_wrong, Value.int m_readMany, Value.ref a_readMap, Value.int m_readTables, Value.int m_readGroups, Value.ref a_readTaken, Value.ref a_readLengths, Value.ref a_readCodes, Value.int m_found, Value.ref a_foundBlock], ia cZ a_tape 1500 m_tape_195, ia cI a_map 256 m_map, ia cI a_symbol 301 m_symbol, ia cI a_lengths 3870 m_lengths, ia cI a_taken 155 m_taken, ia cI a_codes 774 m_codes, ia cI a_row 3 m_row_127z] H locs → ∀ ls : Array Slot, lv_has ls 6 [(0, .ref a_self), (3, .int x3_195)] → W p l e (headSpec wsX9_lay rmMo_lay).room s m args below meth c H locs 0 0 Q (F0 m 195 ls []) := by
            intro n195
            induction n195 with
            | zero => intro x3_195 m_laid_195 m_tape_195 hI; cases hI
            | succ n195 ih195 =>
              intro x3_195 m_laid_195 m_tape_195 hI H locs hW ls hl
              obtain ⟨sr195, hF, hN195⟩ := itr_succ hI
              have hF : fMo_lay_L195 m_n m_tables m_lengths x1 x3_195 m_laid_195 m_tape_195 = some sr195 := hF
              unfold fMo_lay_L195 at hF
              refine lv_iload_n hx hb dX9_lay_195 rfl (lv_at hl 1 rfl) ?_
              refine lv_aload_n hx hb dX9_lay_196 rfl (lv_at hl 0 rfl) ?_
              refine va_get (D := D) (ci := 9) (v := .int m_tables) (C := RX9) (T := TX9) (N := 33) hx hb hts hi9 hown hK.1 hW.1 0 rfl rfl 12 (by decide) hw2 (fun _ h9 => h9) rfl dX9_lay_197 ?_
              refine lv_icmp_ge (tgt := 221) hx hb dX9_lay_200 (by decide) (fun c200 => ?_) (fun c200 => ?_)
              · rw [if_pos c200] at hF
                cases hF
                exact hX195 _ _ (itr_out hN195) _ _ hW _ (lv_sub hl [0] rfl)
              · rw [if_neg c200] at hF
                refine lv_aload_n hx hb dX9_lay_203 rfl (lv_at hl 0 rfl) ?_
                refine lv_sipush (v := 258) hx hb dX9_lay_204 (by decide) ?_
                refine lv_bipush (v := 12) hx hb dX9_lay_207 (by decide) ?_
                refine lv_iload_n hx hb dX9_lay_209 rfl (lv_at hl 1 rfl) ?_
                refine lv_iadd hx hb dX9_lay_210 ?_
                refine lv_imul hx hb dX9_lay_211 ?_
                obtain ⟨m_laid_212, m_tape_212, e212, hF⟩ := bd2_some hF
                refine ctV (wn := [ob a_self 9 [Value.int m_signs, Value.ref a_block, Value.ref a_tape, Value.int m_bits, Value.int m_faultAt, Value.int m_isDone, Value.int m_n, Value.ref a_map, Value.ref a_places, Value.int m_symbols, Value.ref a_symbol, Value.int m_groups, Value.int m_tables, Value.ref a_lengths, Value.ref a_taken, Value.ref a_codes, Value.ref a_list, Value.ref a_weights, Value.ref a_whole, Value.int x1, Value.int m_laid_212, Value.ref a_row, Value.int m_read, Value.int m_wrong, Value.int m_readMany, Value.ref a_readMap, Value.int m_readTables, Value.int m_readGroups, Value.ref a_readTaken, Value.ref a_readLengths, Value.ref a_readCodes, Value.int m_found, Value.ref a_foundBlock], ia cZ a_tape 1500 m_tape_212, ia cI a_map 256 m_map, ia cI a_symbol 301 m_symbol, ia cI a_lengths 3870 m_lengths, ia cI a_taken 155 m_taken, ia cI a_codes 774 m_codes, ia cI a_row 3 m_row_127z]) (r := (RX9, TX9, 33)) (As := [.int ((258 : Int32) * ((12 : Int32) + x3_195))]) (rest := []) hx hb hml hown hts hK hW hA hl.1 (kMo_layLengths l D cI cZ cO cG a_self a_block a_tape a_map a_places a_symbol a_lengths a_taken a_codes a_list a_weights a_whole a_row a_readMap a_readTaken a_readLengths a_readCodes a_foundBlock m_signs m_bits m_faultAt m_isDone m_n m_symbols m_groups m_tables x1 m_laid_195 m_read m_wrong m_readMany m_readTables m_readGroups m_found m_tape_195 m_lengths ((258 : Int32) * ((12 : Int32) + x3_195)) e212) (cwV 1 hts gX9_lay_X9_layLengths rfl rfl rfl (by decide +kernel) ⟨Nat.le_of_ble_eq_true rfl, Nat.le_of_ble_eq_true rfl⟩) 9 0 rfl rfl [0, 1, 4] [2, 3, 5, 6, 7] 8 rfl rfl rfl rfl [ia cI a_map 256 m_map, ia cI a_symbol 301 m_symbol, ia cI a_taken 155 m_taken, ia cI a_codes 774 m_codes, ia cI a_row 3 m_row_127z] rfl rfl rfl rfl rfl (Nat.le_of_ble_eq_true rfl) rfl ⟨Nat.zero_le _, Nat.zero_le _⟩ dX9_lay_212 (fun H locs hW => ?_)
                refine lv_iinc (v := (x3_195 + 1)) (lv' := [(3, .int (x3_195 + 1)), (0, .ref a_self)]) hx hb dX9_lay_215 hl (k := 1) rfl rfl (by decide) rfl (fun ls hl => ?_)
                refine lv_goto (tgt := 195) hx hb dX9_lay_218 (by decide) ?_
                cases hF
                exact ih195 _ _ _ (itr_in hN195) _ _ hW _ (lv_sub hl [1, 0] rfl)
          exact hL195 nn _ _ _ hI _ _ hW _ (lv_sub hl [1, 0] rfl)
        have hL127 : ∀ (n127 : Nat) (x3_127 : Int32) (m_laid_127 : Int32) (m_tape_127 : Nat → Int32) (m_row_127 : Nat → Int32), itr (un4 (fMo_lay_L127 m_groups m_taken x1)) n127 (x3_127, m_laid_127, m_tape_127, m_row_127) = some (m_laid_127ze, m_tape_127ze, m_row_127ze) → ∀ (H : Heap) (locs : List Loc), WS D A s [ob a_self 9 [Value.int m_signs, Value.ref a_block, Value.ref a_tape, Value.int m_bits, Value.int m_faultAt, Value.int m_isDone, Value.int m_n, Value.ref a_map, Value.ref a_places, Value.int m_symbols, Value.ref a_symbol, Value.int m_groups, Value.int m_tables, Value.ref a_lengths, Value.ref a_taken, Value.ref a_codes, Value.ref a_list, Value.ref a_weights, Value.ref a_whole, Value.int x1, Value.int m_laid_127, Value.ref a_row, Value.int m_read, Value.int m_wrong, Value.int m_readMany, Value.ref a_readMap, Value.int m_readTables, Value.int m_readGroups, Value.ref a_readTaken, Value.ref a_readLengths, Value.ref a_readCodes, Value.int m_found, Value.ref a_foundBlock], ia cZ a_tape 1500 m_tape_127, ia cI a_map 256 m_map, ia cI a_symbol 301 m_symbol, ia cI a_lengths 3870 m_lengths, ia cI a_taken 155 m_taken, ia cI a_codes 774 m_codes, ia cI a_row 3 m_row_127] H locs → ∀ ls : Array Slot, lv_has ls 6 [(0, .ref a_self), (3, .int x3_127)] → W p l e (headSpec wsX9_lay rmMo_lay).room s m args below meth c H locs 0 0 Q (F0 m 127 ls []) := by
          intro n127
          induction n127 with
          | zero => intro x3_127 m_laid_127 m_tape_127 m_row_127 hI; cases hI
          | succ n127 ih127 =>
            intro x3_127 m_laid_127 m_tape_127 m_row_127 hI H locs hW ls hl
            obtain ⟨sr127, hF, hN127⟩ := itr_succ hI
            have hF : fMo_lay_L127 m_groups m_taken x1 x3_127 m_laid_127 m_tape_127 m_row_127 = some sr127 := hF
            unfold fMo_lay_L127 at hF
            refine lv_iload_n hx hb dX9_lay_127 rfl (lv_at hl 1 rfl) ?_
            refine lv_aload_n hx hb dX9_lay_128 rfl (lv_at hl 0 rfl) ?_
            refine va_get (D := D) (ci := 9) (v := .int m_groups) (C := RX9) (T := TX9) (N := 33) hx hb hts hi9 hown hK.1 hW.1 0 rfl rfl 11 (by decide) hw3 (fun _ h9 => h9) rfl dX9_lay_129 ?_
            refine lv_icmp_ge (tgt := 193) hx hb dX9_lay_132 (by decide) (fun c132 => ?_) (fun c132 => ?_)
            · rw [if_pos c132] at hF
              cases hF
              exact hX127 _ _ _ (itr_out hN127) _ _ hW _ (lv_sub hl [0] rfl)
            · rw [if_neg c132] at hF
              refine lv_iconst (v := 0) hx hb dX9_lay_135 (by decide) ?_
              refine lv_istore (lv' := [(4, .int (0 : Int32)), (0, .ref a_self), (3, .int x3_127)]) hx hb dX9_lay_136 hl (by decide) rfl (fun ls hl => ?_)
              obtain ⟨x4_138ze, m_laid_138ze, m_tape_138ze, hI, hF⟩ := bd3_some hF
              obtain ⟨nn, hI⟩ := itrO_some hI
              have hX138 : ∀ (x4_138z : Int32) (m_laid_138z : Int32) (m_tape_138z : Nat → Int32), (x4_138z, m_laid_138z, m_tape_138z) = (x4_138ze, m_laid_138ze, m_tape_138ze) → ∀ (H : Heap) (locs : List Loc), WS D A s [ob a_self 9 [Value.int m_signs, Value.ref a_block, Value.ref a_tape, Value.int m_bits, Value.int m_faultAt, Value.int m_isDone, Value.int m_n, Value.ref a_map, Value.ref a_places, Value.int m_symbols, Value.ref a_symbol, Value.int m_groups, Value.int m_tables, Value.ref a_lengths, Value.ref a_taken, Value.ref a_codes, Value.ref a_list, Value.ref a_weights, Value.ref a_whole, Value.int x1, Value.int m_laid_138z, Value.ref a_row, Value.int m_read, Value.int m_wrong, Value.int m_readMany, Value.ref a_readMap, Value.int m_readTables, Value.int m_readGroups, Value.ref a_readTaken, Value.ref a_readLengths, Value.ref a_readCodes, Value.int m_found, Value.ref a_foundBlock], ia cZ a_tape 1500 m_tape_138z, ia cI a_map 256 m_map, ia cI a_symbol 301 m_symbol, ia cI a_lengths 3870 m_lengths, ia cI a_taken 155 m_taken, ia cI a_codes 774 m_codes, ia cI a_row 3 m_row_127] H locs → ∀ ls : Array Slot, lv_has ls 6 [(0, .ref a_self), (3, .int x3_127), (4, .int x4_138z)] → W p l e (headSpec wsX9_lay rmMo_lay).room s m args below meth c H locs 0 0 Q (F0 m 169 ls []) := by
                intro x4_138z m_laid_138z m_tape_138z he H locs hW ls hl
                obtain ⟨hz0, hy0⟩ := Prod.mk.inj he
                obtain ⟨hz1, hy1⟩ := Prod.mk.inj hy0
                subst hz0
                subst hz1
                subst hy1
                refine lv_aload_n hx hb dX9_lay_169 rfl (lv_at hl 0 rfl) ?_
                refine lv_iconst (v := 0) hx hb dX9_lay_170 (by decide) ?_
                refine lv_iconst (v := 1) hx hb dX9_lay_171 (by decide) ?_
                obtain ⟨m_laid_172, m_tape_172, e172, hF⟩ := bd2_some hF
                refine ctV (wn := [ob a_self 9 [Value.int m_signs, Value.ref a_block, Value.ref a_tape, Value.int m_bits, Value.int m_faultAt, Value.int m_isDone, Value.int m_n, Value.ref a_map, Value.ref a_places, Value.int m_symbols, Value.ref a_symbol, Value.int m_groups, Value.int m_tables, Value.ref a_lengths, Value.ref a_taken, Value.ref a_codes, Value.ref a_list, Value.ref a_weights, Value.ref a_whole, Value.int x1, Value.int m_laid_172, Value.ref a_row, Value.int m_read, Value.int m_wrong, Value.int m_readMany, Value.ref a_readMap, Value.int m_readTables, Value.int m_readGroups, Value.ref a_readTaken, Value.ref a_readLengths, Value.ref a_readCodes, Value.int m_found, Value.ref a_foundBlock], ia cZ a_tape 1500 m_tape_172, ia cI a_map 256 m_map, ia cI a_symbol 301 m_symbol, ia cI a_lengths 3870 m_lengths, ia cI a_taken 155 m_taken, ia cI a_codes 774 m_codes, ia cI a_row 3 m_row_127]) (r := (RX9, TX9, 33)) (As := [.int (0 : Int32), .int (1 : Int32)]) (rest := []) hx hb hml hown hts hK hW hA hl.1 (kMo_put l D cI cZ cO cG a_self a_block a_tape a_map a_places a_symbol a_lengths a_taken a_codes a_list a_weights a_whole a_row a_readMap a_readTaken a_readLengths a_readCodes a_foundBlock m_signs m_bits m_faultAt m_isDone m_n m_symbols m_groups m_tables x1 m_laid_138z m_read m_wrong m_readMany m_readTables m_readGroups m_found m_tape_138z (0 : Int32) (1 : Int32) e172) (cwV 2 hts gX9_lay_X9_put rfl rfl rfl (by decide +kernel) ⟨Nat.le_of_ble_eq_true rfl, Nat.le_of_ble_eq_true rfl⟩) 9 0 rfl rfl [0, 1] [2, 3, 4, 5, 6, 7] 8 rfl rfl rfl rfl [ia cI a_map 256 m_map, ia cI a_symbol 301 m_symbol, ia cI a_lengths 3870 m_lengths, ia cI a_taken 155 m_taken, ia cI a_codes 774 m_codes, ia cI a_row 3 m_row_127] rfl rfl rfl rfl rfl (Nat.le_of_ble_eq_true rfl) rfl ⟨Nat.zero_le _, Nat.zero_le _⟩ dX9_lay_172 (fun H locs hW => ?_)
                refine lv_aload_n hx hb dX9_lay_175 rfl (lv_at hl 0 rfl) ?_
                refine lv_aload_n hx hb dX9_lay_176 rfl (lv_at hl 0 rfl) ?_
                refine va_get (D := D) (ci := 9) (v := .ref a_row) (C := RX9) (T := TX9) (N := 33) hx hb hts hi9 hown hK.1 hW.1 0 rfl rfl 21 (by decide) hw9 (fun _ h9 => h9) rfl dX9_lay_177 ?_
                refine lv_iload hx hb dX9_lay_180 (lv_at hl 2 rfl) ?_
                obtain ⟨r_182, m_p1_182, e182, hF⟩ := bd2_some hF
                refine ctV (wn := [ob a_self 9 [Value.int m_signs, Value.ref a_block, Value.ref a_tape, Value.int m_bits, Value.int m_faultAt, Value.int m_isDone, Value.int m_n, Value.ref a_map, Value.ref a_places, Value.int m_symbols, Value.ref a_symbol, Value.int m_groups, Value.int m_tables, Value.ref a_lengths, Value.ref a_taken, Value.ref a_codes, Value.ref a_list, Value.ref a_weights, Value.ref a_whole, Value.int x1, Value.int m_laid_172, Value.ref a_row, Value.int m_read, Value.int m_wrong, Value.int m_readMany, Value.ref a_readMap, Value.int m_readTables, Value.int m_readGroups, Value.ref a_readTaken, Value.ref a_readLengths, Value.ref a_readCodes, Value.int m_found, Value.ref a_foundBlock], ia cZ a_tape 1500 m_tape_172, ia cI a_map 256 m_map, ia cI a_symbol 301 m_symbol, ia cI a_lengths 3870 m_lengths, ia cI a_taken 155 m_taken, ia cI a_codes 774 m_codes, ia cI a_row 3 m_p1_182]) (r := (RX9, TX9, 33)) (As := [.ref a_row, .int x4_138z]) (rest := []) hx hb hml hown hts hK hW hA hl.1 (kMo_toFront l D cI cZ cO cG a_row a_self 3 m_row_127 x4_138z e182) (cwV 2 hts gX9_lay_X9_toFront rfl rfl rfl (by decide +kernel) ⟨Nat.le_of_ble_eq_true rfl, Nat.le_of_ble_eq_true rfl⟩) 9 0 rfl rfl [7] [0, 1, 2, 3, 4, 5, 6] 8 rfl rfl rfl rfl [ob a_self 9 [Value.int m_signs, Value.ref a_block, Value.ref a_tape, Value.int m_bits, Value.int m_faultAt, Value.int m_isDone, Value.int m_n, Value.ref a_map, Value.ref a_places, Value.int m_symbols, Value.ref a_symbol, Value.int m_groups, Value.int m_tables, Value.ref a_lengths, Value.ref a_taken, Value.ref a_codes, Value.ref a_list, Value.ref a_weights, Value.ref a_whole, Value.int x1, Value.int m_laid_172, Value.ref a_row, Value.int m_read, Value.int m_wrong, Value.int m_readMany, Value.ref a_readMap, Value.int m_readTables, Value.int m_readGroups, Value.ref a_readTaken, Value.ref a_readLengths, Value.ref a_readCodes, Value.int m_found, Value.ref a_foundBlock], ia cZ a_tape 1500 m_tape_172, ia cI a_map 256 m_map, ia cI a_symbol 301 m_symbol, ia cI a_lengths 3870 m_lengths, ia cI a_taken 155 m_taken, ia cI a_codes 774 m_codes] rfl rfl rfl rfl rfl (Nat.le_of_ble_eq_true rfl) rfl ⟨Nat.zero_le _, Nat.zero_le _⟩ dX9_lay_182 (fun H locs hW => ?_)
                refine lv_istore (lv' := [(5, .int r_182), (0, .ref a_self), (3, .int x3_127), (4, .int x4_138z)]) hx hb dX9_lay_185 hl (by decide) rfl (fun ls hl => ?_)
                refine lv_iinc (v := (x3_127 + 1)) (lv' := [(3, .int (x3_127 + 1)), (5, .int r_182), (0, .ref a_self), (4, .int x4_138z)]) hx hb dX9_lay_187 hl (k := 2) rfl rfl (by decide) rfl (fun ls hl => ?_)
                refine lv_goto (tgt := 127) hx hb dX9_lay_190 (by decide) ?_
                cases hF
                exact ih127 _ _ _ _ (itr_in hN127) _ _ hW _ (lv_sub hl [2, 0] rfl)
              have hL138 : ∀ (n138 : Nat) (x4_138 : Int32) (m_laid_138 : Int32) (m_tape_138 : Nat → Int32), itr (un3 (fMo_lay_L138 m_taken x1 x3_127 m_row_127)) n138 (x4_138, m_laid_138, m_tape_138) = some (x4_138ze, m_laid_138ze, m_tape_138ze) → ∀ (H : Heap) (locs : List Loc), WS D A s [ob a_self 9 [Value.int m_signs, Value.ref a_block, Value.ref a_tape, Value.int m_bits, Value.int m_faultAt, Value.int m_isDone, Value.int m_n, Value.ref a_map, Value.ref a_places, Value.int m_symbols, Value.ref a_symbol, Value.int m_groups, Value.int m_tables, Value.ref a_lengths, Value.ref a_taken, Value.ref a_codes, Value.ref a_list, Value.ref a_weights, Value.ref a_whole, Value.int x1, Value.int m_laid_138, Value.ref a_row, Value.int m_read, Value.int m_wrong, Value.int m_readMany, Value.ref a_readMap, Value.int m_readTables, Value.int m_readGroups, Value.ref a_readTaken, Value.ref a_readLengths, Value.ref a_readCodes, Value.int m_found, Value.ref a_foundBlock], ia cZ a_tape 1500 m_tape_138, ia cI a_map 256 m_map, ia cI a_symbol 301 m_symbol, ia cI a_lengths 3870 m_lengths, ia cI a_taken 155 m_taken, ia cI a_codes 774 m_codes, ia cI a_row 3 m_row_127] H locs → ∀ ls : Array Slot, lv_has ls 6 [(0, .ref a_self), (3, .int x3_127), (4, .int x4_138)] → W p l e (headSpec wsX9_lay rmMo_lay).room s m args below meth c H locs 0 0 Q (F0 m 138 ls []) := by
                intro n138
                induction n138 with
                | zero => intro x4_138 m_laid_138 m_tape_138 hI; cases hI
                | succ n138 ih138 =>
                  intro x4_138 m_laid_138 m_tape_138 hI H locs hW ls hl
                  obtain ⟨sr138, hF, hN138⟩ := itr_succ hI
                  have hF : fMo_lay_L138 m_taken x1 x3_127 m_row_127 x4_138 m_laid_138 m_tape_138 = some sr138 := hF
                  unfold fMo_lay_L138 at hF
                  refine lv_aload_n hx hb dX9_lay_138 rfl (lv_at hl 0 rfl) ?_
                  refine va_get (D := D) (ci := 9) (v := .ref a_row) (C := RX9) (T := TX9) (N := 33) hx hb hts hi9 hown hK.1 hW.1 0 rfl rfl 21 (by decide) hw9 (fun _ h9 => h9) rfl dX9_lay_139 ?_
                  refine lv_iload hx hb dX9_lay_142 (lv_at hl 2 rfl) ?_
                  obtain ⟨g144, hF⟩ := gdI_some hF
                  refine va_iald hx hb hK.1 hW.1 7 0 rfl rfl g144 dX9_lay_144 ?_
                  refine lv_aload_n hx hb dX9_lay_145 rfl (lv_at hl 0 rfl) ?_
                  refine va_get (D := D) (ci := 9) (v := .ref a_taken) (C := RX9) (T := TX9) (N := 33) hx hb hts hi9 hown hK.1 hW.1 0 rfl rfl 14 (by decide) hw5 (fun _ h9 => h9) rfl dX9_lay_146 ?_
                  refine lv_bipush (v := 124) hx hb dX9_lay_149 (by decide) ?_
                  refine lv_iload_n hx hb dX9_lay_151 rfl (lv_at hl 1 rfl) ?_
                  refine lv_iadd hx hb dX9_lay_152 ?_
                  obtain ⟨g153, hF⟩ := gdI_some hF
                  refine va_iald hx hb hK.1 hW.1 5 0 rfl rfl g153 dX9_lay_153 ?_
                  refine lv_icmp_eq (tgt := 169) hx hb dX9_lay_154 (by decide) (fun c154 => ?_) (fun c154 => ?_)
                  · rw [if_pos c154] at hF
                    cases hF
                    exact hX138 _ _ _ (itr_out hN138) _ _ hW _ (lv_sub hl [0, 1, 2] rfl)
                  · rw [if_neg c154] at hF
                    refine lv_iinc (v := (x4_138 + 1)) (lv' := [(4, .int (x4_138 + 1)), (0, .ref a_self), (3, .int x3_127)]) hx hb dX9_lay_157 hl (k := 2) rfl rfl (by decide) rfl (fun ls hl => ?_)
                    refine lv_aload_n hx hb dX9_lay_160 rfl (lv_at hl 1 rfl) ?_
                    refine lv_iconst (v := 1) hx hb dX9_lay_161 (by decide) ?_
                    refine lv_iconst (v := 1) hx hb dX9_lay_162 (by decide) ?_
                    obtain ⟨m_laid_163, m_tape_163, e163, hF⟩ := bd2_some hF
                    refine ctV (wn := [ob a_self 9 [Value.int m_signs, Value.ref a_block, Value.ref a_tape, Value.int m_bits, Value.int m_faultAt, Value.int m_isDone, Value.int m_n, Value.ref a_map, Value.ref a_places, Value.int m_symbols, Value.ref a_symbol, Value.int m_groups, Value.int m_tables, Value.ref a_lengths, Value.ref a_taken, Value.ref a_codes, Value.ref a_list, Value.ref a_weights, Value.ref a_whole, Value.int x1, Value.int m_laid_163, Value.ref a_row, Value.int m_read, Value.int m_wrong, Value.int m_readMany, Value.ref a_readMap, Value.int m_readTables, Value.int m_readGroups, Value.ref a_readTaken, Value.ref a_readLengths, Value.ref a_readCodes, Value.int m_found, Value.ref a_foundBlock], ia cZ a_tape 1500 m_tape_163, ia cI a_map 256 m_map, ia cI a_symbol 301 m_symbol, ia cI a_lengths 3870 m_lengths, ia cI a_taken 155 m_taken, ia cI a_codes 774 m_codes, ia cI a_row 3 m_row_127]) (r := (RX9, TX9, 33)) (As := [.int (1 : Int32), .int (1 : Int32)]) (rest := []) hx hb hml hown hts hK hW hA hl.1 (kMo_put l D cI cZ cO cG a_self a_block a_tape a_map a_places a_symbol a_lengths a_taken a_codes a_list a_weights a_whole a_row a_readMap a_readTaken a_readLengths a_readCodes a_foundBlock m_signs m_bits m_faultAt m_isDone m_n m_symbols m_groups m_tables x1 m_laid_138 m_read m_wrong m_readMany m_readTables m_readGroups m_found m_tape_138 (1 : Int32) (1 : Int32) e163) (cwV 2 hts gX9_lay_X9_put rfl rfl rfl (by decide +kernel) ⟨Nat.le_of_ble_eq_true rfl, Nat.le_of_ble_eq_true rfl⟩) 9 0 rfl rfl [0, 1] [2, 3, 4, 5, 6, 7] 8 rfl rfl rfl rfl [ia cI a_map 256 m_map, ia cI a_symbol 301 m_symbol, ia cI a_lengths 3870 m_lengths, ia cI a_taken 155 m_taken, ia cI a_codes 774 m_codes, ia cI a_row 3 m_row_127] rfl rfl rfl rfl rfl (Nat.le_of_ble_eq_true rfl) rfl ⟨Nat.zero_le _, Nat.zero_le _⟩ dX9_lay_163 (fun H locs hW => ?_)
                    refine lv_goto (tgt := 138) hx hb dX9_lay_166 (by decide) ?_
                    cases hF
                    exact ih138 _ _ _ (itr_in hN138) _ _ hW _ (lv_sub hl [1, 2, 0] rfl)
              exact hL138 nn _ _ _ hI _ _ hW _ (lv_sub hl [1, 2, 0] rfl)
        exact hL127 nn _ _ _ _ hI _ _ hW _ (lv_sub hl [1, 0] rfl)
      have hL104 : ∀ (n104 : Nat) (x3_104 : Int32) (m_row_104 : Nat → Int32), itr (un2 (fMo_lay_L104 m_tables)) n104 (x3_104, m_row_104) = some m_row_104ze → ∀ (H : Heap) (locs : List Loc), WS D A s [ob a_self 9 [Value.int m_signs, Value.ref a_block, Value.ref a_tape, Value.int m_bits, Value.int m_faultAt, Value.int m_isDone, Value.int m_n, Value.ref a_map, Value.ref a_places, Value.int m_symbols, Value.ref a_symbol, Value.int m_groups, Value.int m_tables, Value.ref a_lengths, Value.ref a_taken, Value.ref a_codes, Value.ref a_list, Value.ref a_weights, Value.ref a_whole, Value.int x1, Value.int m_laid_99, Value.ref a_row, Value.int m_read, Value.int m_wrong, Value.int m_readMany, Value.ref a_readMap, Value.int m_readTables, Value.int m_readGroups, Value.ref a_readTaken, Value.ref a_readLengths, Value.ref a_readCodes, Value.int m_found, Value.ref a_foundBlock], ia cZ a_tape 1500 m_tape_99, ia cI a_map 256 m_map, ia cI a_symbol 301 m_symbol, ia cI a_lengths 3870 m_lengths, ia cI a_taken 155 m_taken, ia cI a_codes 774 m_codes, ia cI a_row 3 m_row_104] H locs → ∀ ls : Array Slot, lv_has ls 6 [(0, .ref a_self), (3, .int x3_104)] → W p l e (headSpec wsX9_lay rmMo_lay).room s m args below meth c H locs 0 0 Q (F0 m 104 ls []) := by
        intro n104
        induction n104 with
        | zero => intro x3_104 m_row_104 hI; cases hI
        | succ n104 ih104 =>
          intro x3_104 m_row_104 hI H locs hW ls hl
          obtain ⟨sr104, hF, hN104⟩ := itr_succ hI
          have hF : fMo_lay_L104 m_tables x3_104 m_row_104 = some sr104 := hF
          unfold fMo_lay_L104 at hF
          refine lv_iload_n hx hb dX9_lay_104 rfl (lv_at hl 1 rfl) ?_
          refine lv_aload_n hx hb dX9_lay_105 rfl (lv_at hl 0 rfl) ?_
          refine va_get (D := D) (ci := 9) (v := .int m_tables) (C := RX9) (T := TX9) (N := 33) hx hb hts hi9 hown hK.1 hW.1 0 rfl rfl 12 (by decide) hw2 (fun _ h9 => h9) rfl dX9_lay_106 ?_
          refine lv_icmp_ge (tgt := 125) hx hb dX9_lay_109 (by decide) (fun c109 => ?_) (fun c109 => ?_)
          · rw [if_pos c109] at hF
            cases hF
            exact hX104 _ (itr_out hN104) _ _ hW _ (lv_sub hl [0] rfl)
          · rw [if_neg c109] at hF
            refine lv_aload_n hx hb dX9_lay_112 rfl (lv_at hl 0 rfl) ?_
            refine va_get (D := D) (ci := 9) (v := .ref a_row) (C := RX9) (T := TX9) (N := 33) hx hb hts hi9 hown hK.1 hW.1 0 rfl rfl 21 (by decide) hw9 (fun _ h9 => h9) rfl dX9_lay_113 ?_
            refine lv_iload_n hx hb dX9_lay_116 rfl (lv_at hl 1 rfl) ?_
            refine lv_iload_n hx hb dX9_lay_117 rfl (lv_at hl 1 rfl) ?_
            obtain ⟨g118, hF⟩ := gdI_some hF
            refine va_iast hx hb hK.1 hW.1 hW.2.1 hW.2.2 7 0 rfl rfl g118 dX9_lay_118 (fun H locs hP hD hS => ?_)
            have hW : WS D A s [ob a_self 9 [Value.int m_signs, Value.ref a_block, Value.ref a_tape, Value.int m_bits, Value.int m_faultAt, Value.int m_isDone, Value.int m_n, Value.ref a_map, Value.ref a_places, Value.int m_symbols, Value.ref a_symbol, Value.int m_groups, Value.int m_tables, Value.ref a_lengths, Value.ref a_taken, Value.ref a_codes, Value.ref a_list, Value.ref a_weights, Value.ref a_whole, Value.int x1, Value.int m_laid_99, Value.ref a_row, Value.int m_read, Value.int m_wrong, Value.int m_readMany, Value.ref a_readMap, Value.int m_readTables, Value.int m_readGroups, Value.ref a_readTaken, Value.ref a_readLengths, Value.ref a_readCodes, Value.int m_found, Value.ref a_foundBlock], ia cZ a_tape 1500 m_tape_99, ia cI a_map 256 m_map, ia cI a_symbol 301 m_symbol, ia cI a_lengths 3870 m_lengths, ia cI a_taken 155 m_taken, ia cI a_codes 774 m_codes, ia cI a_row 3 (upd m_row_104 x3_104.toNatClampNeg x3_104)] H locs := ⟨hP, hD, hS⟩
            refine lv_iinc (v := (x3_104 + 1)) (lv' := [(3, .int (x3_104 + 1)), (0, .ref a_self)]) hx hb dX9_lay_119 hl (k := 1) rfl rfl (by decide) rfl (fun ls hl => ?_)
            refine lv_goto (tgt := 104) hx hb dX9_lay_122 (by decide) ?_
            cases hF
            exact ih104 _ _ (itr_in hN104) _ _ hW _ (lv_sub hl [1, 0] rfl)
      exact hL104 nn _ _ hI _ _ hW _ (lv_sub hl [1, 0] rfl)
    have hL53 : ∀ (n53 : Nat) (x3_53 : Int32) (m_laid_53 : Int32) (m_tape_53 : Nat → Int32), itr (un3 (fMo_lay_L53 m_n m_map x1)) n53 (x3_53, m_laid_53, m_tape_53) = some (m_laid_53ze, m_tape_53ze) → ∀ (H : Heap) (locs : List Loc), WS D A s [ob a_self 9 [Value.int m_signs, Value.ref a_block, Value.ref a_tape, Value.int m_bits, Value.int m_faultAt, Value.int m_isDone, Value.int m_n, Value.ref a_map, Value.ref a_places, Value.int m_symbols, Value.ref a_symbol, Value.int m_groups, Value.int m_tables, Value.ref a_lengths, Value.ref a_taken, Value.ref a_codes, Value.ref a_list, Value.ref a_weights, Value.ref a_whole, Value.int x1, Value.int m_laid_53, Value.ref a_row, Value.int m_read, Value.int m_wrong, Value.int m_readMany, Value.ref a_readMap, Value.int m_readTables, Value.int m_readGroups, Value.ref a_readTaken, Value.ref a_readLengths, Value.ref a_readCodes, Value.int m_found, Value.ref a_foundBlock], ia cZ a_tape 1500 m_tape_53, ia cI a_map 256 m_map, ia cI a_symbol 301 m_symbol, ia cI a_lengths 3870 m_lengths, ia cI a_taken 155 m_taken, ia cI a_codes 774 m_codes, ia cI a_row 3 m_row] H locs → ∀ ls : Array Slot, lv_has ls 6 [(0, .ref a_self), (3, .int x3_53)] → W p l e (headSpec wsX9_lay rmMo_lay).room s m args below meth c H locs 0 0 Q (F0 m 53 ls []) := by
      intro n53
      induction n53 with
      | zero => intro x3_53 m_laid_53 m_tape_53 hI; cases hI
      | succ n53 ih53 =>
        intro x3_53 m_laid_53 m_tape_53 hI H locs hW ls hl
        obtain ⟨sr53, hF, hN53⟩ := itr_succ hI
        have hF : fMo_lay_L53 m_n m_map x1 x3_53 m_laid_53 m_tape_53 = some sr53 := hF
        unfold fMo_lay_L53 at hF
        refine lv_iload_n hx hb dX9_lay_53 rfl (lv_at hl 1 rfl) ?_
        refine lv_bipush (v := 16) hx hb dX9_lay_54 (by decide) ?_
        refine lv_icmp_ge (tgt := 84) hx hb dX9_lay_56 (by decide) (fun c56 => ?_) (fun c56 => ?_)
        · rw [if_pos c56] at hF
          cases hF
          exact hX53 _ _ (itr_out hN53) _ _ hW _ (lv_sub hl [0] rfl)
        · rw [if_neg c56] at hF
          refine lv_aload_n hx hb dX9_lay_59 rfl (lv_at hl 0 rfl) ?_
          refine lv_iload_n hx hb dX9_lay_60 rfl (lv_at hl 1 rfl) ?_
          obtain ⟨r_61, e61, hF⟩ := bd1_some hF
          refine ctV (wn := [ob a_self 9 [Value.int m_signs, Value.ref a_block, Value.ref a_tape, Value.int m_bits, Value.int m_faultAt, Value.int m_isDone, Value.int m_n, Value.ref a_map, Value.ref a_places, Value.int m_symbols, Value.ref a_symbol, Value.int m_groups, Value.int m_tables, Value.ref a_lengths, Value.ref a_taken, Value.ref a_codes, Value.ref a_list, Value.ref a_weights, Value.ref a_whole, Value.int x1, Value.int m_laid_53, Value.ref a_row, Value.int m_read, Value.int m_wrong, Value.int m_readMany, Value.ref a_readMap, Value.int m_readTables, Value.int m_readGroups, Value.ref a_readTaken, Value.ref a_readLengths, Value.ref a_readCodes, Value.int m_found, Value.ref a_foundBlock], ia cZ a_tape 1500 m_tape_53, ia cI a_map 256 m_map, ia cI a_symbol 301 m_symbol, ia cI a_lengths 3870 m_lengths, ia cI a_taken 155 m_taken, ia cI a_codes 774 m_codes, ia cI a_row 3 m_row]) (r := (RX9, TX9, 33)) (As := [.int x3_53]) (rest := []) hx hb hml hown hts hK hW hA hl.1 (kMo_marks l D cI cZ cO cG a_self a_block a_tape a_map a_places a_symbol a_lengths a_taken a_codes a_list a_weights a_whole a_row a_readMap a_readTaken a_readLengths a_readCodes a_foundBlock m_signs m_bits m_faultAt m_isDone m_n m_symbols m_groups m_tables x1 m_laid_53 m_read m_wrong m_readMany m_readTables m_readGroups m_found m_map x3_53 e61) (cwV 1 hts gX9_lay_X9_marks rfl rfl rfl (by decide +kernel) ⟨Nat.le_of_ble_eq_true rfl, Nat.le_of_ble_eq_true rfl⟩) 9 0 rfl rfl [0, 2] [1, 3, 4, 5, 6, 7] 8 rfl rfl rfl rfl [ia cZ a_tape 1500 m_tape_53, ia cI a_symbol 301 m_symbol, ia cI a_lengths 3870 m_lengths, ia cI a_taken 155 m_taken, ia cI a_codes 774 m_codes, ia cI a_row 3 m_row] rfl rfl rfl rfl rfl (Nat.le_of_ble_eq_true rfl) rfl ⟨Nat.zero_le _, Nat.zero_le _⟩ dX9_lay_61 (fun H locs hW => ?_)
          refine lv_if_le (tgt := 78) hx hb dX9_lay_64 (by decide) (fun c64 => ?_) (fun c64 => ?_)
          · rw [if_pos c64] at hF
            refine lv_iinc (v := (x3_53 + 1)) (lv' := [(3, .int (x3_53 + 1)), (0, .ref a_self)]) hx hb dX9_lay_78 hl (k := 1) rfl rfl (by decide) rfl (fun ls hl => ?_)
            refine lv_goto (tgt := 53) hx hb dX9_lay_81 (by decide) ?_
            cases hF
            exact ih53 _ _ _ (itr_in hN53) _ _ hW _ (lv_sub hl [1, 0] rfl)
          · rw [if_neg c64] at hF
            refine lv_aload_n hx hb dX9_lay_67 rfl (lv_at hl 0 rfl) ?_
            refine lv_aload_n hx hb dX9_lay_68 rfl (lv_at hl 0 rfl) ?_
            refine lv_iload_n hx hb dX9_lay_69 rfl (lv_at hl 1 rfl) ?_
            obtain ⟨r_70, e70, hF⟩ := bd1_some hF
            refine ctV (wn := [ob a_self 9 [Value.int m_signs, Value.ref a_block, Value.ref a_tape, Value.int m_bits, Value.int m_faultAt, Value.int m_isDone, Value.int m_n, Value.ref a_map, Value.ref a_places, Value.int m_symbols, Value.ref a_symbol, Value.int m_groups, Value.int m_tables, Value.ref a_lengths, Value.ref a_taken, Value.ref a_codes, Value.ref a_list, Value.ref a_weights, Value.ref a_whole, Value.int x1, Value.int m_laid_53, Value.ref a_row, Value.int m_read, Value.int m_wrong, Value.int m_readMany, Value.ref a_readMap, Value.int m_readTables, Value.int m_readGroups, Value.ref a_readTaken, Value.ref a_readLengths, Value.ref a_readCodes, Value.int m_found, Value.ref a_foundBlock], ia cZ a_tape 1500 m_tape_53, ia cI a_map 256 m_map, ia cI a_symbol 301 m_symbol, ia cI a_lengths 3870 m_lengths, ia cI a_taken 155 m_taken, ia cI a_codes 774 m_codes, ia cI a_row 3 m_row]) (r := (RX9, TX9, 33)) (As := [.int x3_53]) (rest := [.ref a_self]) hx hb hml hown hts hK hW hA hl.1 (kMo_marks l D cI cZ cO cG a_self a_block a_tape a_map a_places a_symbol a_lengths a_taken a_codes a_list a_weights a_whole a_row a_readMap a_readTaken a_readLengths a_readCodes a_foundBlock m_signs m_bits m_faultAt m_isDone m_n m_symbols m_groups m_tables x1 m_laid_53 m_read m_wrong m_readMany m_readTables m_readGroups m_found m_map x3_53 e70) (cwV 1 hts gX9_lay_X9_marks rfl rfl rfl (by decide +kernel) ⟨Nat.le_of_ble_eq_true rfl, Nat.le_of_ble_eq_true rfl⟩) 9 0 rfl rfl [0, 2] [1, 3, 4, 5, 6, 7] 8 rfl rfl rfl rfl [ia cZ a_tape 1500 m_tape_53, ia cI a_symbol 301 m_symbol, ia cI a_lengths 3870 m_lengths, ia cI a_taken 155 m_taken, ia cI a_codes 774 m_codes, ia cI a_row 3 m_row] rfl rfl rfl rfl rfl (Nat.le_of_ble_eq_true rfl) rfl ⟨Nat.zero_le _, Nat.zero_le _⟩ dX9_lay_70 (fun H locs hW => ?_)
            refine lv_bipush (v := 16) hx hb dX9_lay_73 (by decide) ?_
            obtain ⟨m_laid_75, m_tape_75, e75, hF⟩ := bd2_some hF
            refine ctV (wn := [ob a_self 9 [Value.int m_signs, Value.ref a_block, Value.ref a_tape, Value.int m_bits, Value.int m_faultAt, Value.int m_isDone, Value.int m_n, Value.ref a_map, Value.ref a_places, Value.int m_symbols, Value.ref a_symbol, Value.int m_groups, Value.int m_tables, Value.ref a_lengths, Value.ref a_taken, Value.ref a_codes, Value.ref a_list, Value.ref a_weights, Value.ref a_whole, Value.int x1, Value.int m_laid_75, Value.ref a_row, Value.int m_read, Value.int m_wrong, Value.int m_readMany, Value.ref a_readMap, Value.int m_readTables, Value.int m_readGroups, Value.ref a_readTaken, Value.ref a_readLengths, Value.ref a_readCodes, Value.int m_found, Value.ref a_foundBlock], ia cZ a_tape 1500 m_tape_75, ia cI a_map 256 m_map, ia cI a_symbol 301 m_symbol, ia cI a_lengths 3870 m_lengths, ia cI a_taken 155 m_taken, ia cI a_codes 774 m_codes, ia cI a_row 3 m_row]) (r := (RX9, TX9, 33)) (As := [.int r_70, .int (16 : Int32)]) (rest := []) hx hb hml hown hts hK hW hA hl.1 (kMo_put l D cI cZ cO cG a_self a_block a_tape a_map a_places a_symbol a_lengths a_taken a_codes a_list a_weights a_whole a_row a_readMap a_readTaken a_readLengths a_readCodes a_foundBlock m_signs m_bits m_faultAt m_isDone m_n m_symbols m_groups m_tables x1 m_laid_53 m_read m_wrong m_readMany m_readTables m_readGroups m_found m_tape_53 r_70 (16 : Int32) e75) (cwV 2 hts gX9_lay_X9_put rfl rfl rfl (by decide +kernel) ⟨Nat.le_of_ble_eq_true rfl, Nat.le_of_ble_eq_true rfl⟩) 9 0 rfl rfl [0, 1] [2, 3, 4, 5, 6, 7] 8 rfl rfl rfl rfl [ia cI a_map 256 m_map, ia cI a_symbol 301 m_symbol, ia cI a_lengths 3870 m_lengths, ia cI a_taken 155 m_taken, ia cI a_codes 774 m_codes, ia cI a_row 3 m_row] rfl rfl rfl rfl rfl (Nat.le_of_ble_eq_true rfl) rfl ⟨Nat.zero_le _, Nat.zero_le _⟩ dX9_lay_75 (fun H locs hW => ?_)
            refine lv_iinc (v := (x3_53 + 1)) (lv' := [(3, .int (x3_53 + 1)), (0, .ref a_self)]) hx hb dX9_lay_78 hl (k := 1) rfl rfl (by decide) rfl (fun ls hl => ?_)
            refine lv_goto (tgt := 53) hx hb dX9_lay_81 (by decide) ?_
            cases hF
            exact ih53 _ _ _ (itr_in hN53) _ _ hW _ (lv_sub hl [1, 0] rfl)
    exact hL53 nn _ _ _ hI _ _ hW _ (lv_sub hl [1, 0] rfl)
  have hL14 : ∀ (n14 : Nat) (x2_14 : Int32) (x3_14 : Int32), itr (un2 (fMo_lay_L14 m_n m_map)) n14 (x2_14, x3_14) = some x2_14ze → ∀ (H : Heap) (locs : List Loc), WS D A s [ob a_self 9 [Value.int m_signs, Value.ref a_block, Value.ref a_tape, Value.int m_bits, Value.int m_faultAt, Value.int m_isDone, Value.int m_n, Value.ref a_map, Value.ref a_places, Value.int m_symbols, Value.ref a_symbol, Value.int m_groups, Value.int m_tables, Value.ref a_lengths, Value.ref a_taken, Value.ref a_codes, Value.ref a_list, Value.ref a_weights, Value.ref a_whole, Value.int x1, Value.int (0 : Int32), Value.ref a_row, Value.int m_read, Value.int m_wrong, Value.int m_readMany, Value.ref a_readMap, Value.int m_readTables, Value.int m_readGroups, Value.ref a_readTaken, Value.ref a_readLengths, Value.ref a_readCodes, Value.int m_found, Value.ref a_foundBlock], ia cZ a_tape 1500 m_tape, ia cI a_map 256 m_map, ia cI a_symbol 301 m_symbol, ia cI a_lengths 3870 m_lengths, ia cI a_taken 155 m_taken, ia cI a_codes 774 m_codes, ia cI a_row 3 m_row] H locs → ∀ ls : Array Slot, lv_has ls 6 [(0, .ref a_self), (2, .int x2_14), (3, .int x3_14)] → W p l e (headSpec wsX9_lay rmMo_lay).room s m args below meth c H locs 0 0 Q (F0 m 14 ls []) := by
    intro n14
    induction n14 with
    | zero => intro x2_14 x3_14 hI; cases hI
    | succ n14 ih14 =>
      intro x2_14 x3_14 hI H locs hW ls hl
      obtain ⟨sr14, hF, hN14⟩ := itr_succ hI
      have hF : fMo_lay_L14 m_n m_map x2_14 x3_14 = some sr14 := hF
      unfold fMo_lay_L14 at hF
      refine lv_iload_n hx hb dX9_lay_14 rfl (lv_at hl 2 rfl) ?_
      refine lv_bipush (v := 16) hx hb dX9_lay_15 (by decide) ?_
      refine lv_icmp_ge (tgt := 44) hx hb dX9_lay_17 (by decide) (fun c17 => ?_) (fun c17 => ?_)
      · rw [if_pos c17] at hF
        cases hF
        exact hX14 _ (itr_out hN14) _ _ hW _ (lv_sub hl [0, 1] rfl)
      · rw [if_neg c17] at hF
        refine lv_iconst (v := 2) hx hb dX9_lay_20 (by decide) ?_
        refine lv_iload_n hx hb dX9_lay_21 rfl (lv_at hl 1 rfl) ?_
        refine lv_imul hx hb dX9_lay_22 ?_
        refine lv_aload_n hx hb dX9_lay_23 rfl (lv_at hl 0 rfl) ?_
        refine lv_iload_n hx hb dX9_lay_24 rfl (lv_at hl 2 rfl) ?_
        obtain ⟨r_25, e25, hF⟩ := bd1_some hF
        refine ctV (wn := [ob a_self 9 [Value.int m_signs, Value.ref a_block, Value.ref a_tape, Value.int m_bits, Value.int m_faultAt, Value.int m_isDone, Value.int m_n, Value.ref a_map, Value.ref a_places, Value.int m_symbols, Value.ref a_symbol, Value.int m_groups, Value.int m_tables, Value.ref a_lengths, Value.ref a_taken, Value.ref a_codes, Value.ref a_list, Value.ref a_weights, Value.ref a_whole, Value.int x1, Value.int (0 : Int32), Value.ref a_row, Value.int m_read, Value.int m_wrong, Value.int m_readMany, Value.ref a_readMap, Value.int m_readTables, Value.int m_readGroups, Value.ref a_readTaken, Value.ref a_readLengths, Value.ref a_readCodes, Value.int m_found, Value.ref a_foundBlock], ia cZ a_tape 1500 m_tape, ia cI a_map 256 m_map, ia cI a_symbol 301 m_symbol, ia cI a_lengths 3870 m_lengths, ia cI a_taken 155 m_taken, ia cI a_codes 774 m_codes, ia cI a_row 3 m_row]) (r := (RX9, TX9, 33)) (As := [.int x3_14]) (rest := [.int ((2 : Int32) * x2_14)]) hx hb hml hown hts hK hW hA hl.1 (kMo_marks l D cI cZ cO cG a_self a_block a_tape a_map a_places a_symbol a_lengths a_taken a_codes a_list a_weights a_whole a_row a_readMap a_readTaken a_readLengths a_readCodes a_foundBlock m_signs m_bits m_faultAt m_isDone m_n m_symbols m_groups m_tables x1 (0 : Int32) m_read m_wrong m_readMany m_readTables m_readGroups m_found m_map x3_14 e25) (cwV 1 hts gX9_lay_X9_marks rfl rfl rfl (by decide +kernel) ⟨Nat.le_of_ble_eq_true rfl, Nat.le_of_ble_eq_true rfl⟩) 9 0 rfl rfl [0, 2] [1, 3, 4, 5, 6, 7] 8 rfl rfl rfl rfl [ia cZ a_tape 1500 m_tape, ia cI a_symbol 301 m_symbol, ia cI a_lengths 3870 m_lengths, ia cI a_taken 155 m_taken, ia cI a_codes 774 m_codes, ia cI a_row 3 m_row] rfl rfl rfl rfl rfl (Nat.le_of_ble_eq_true rfl) rfl ⟨Nat.zero_le _, Nat.zero_le _⟩ dX9_lay_25 (fun H locs hW => ?_)
        refine lv_if_le (tgt := 35) hx hb dX9_lay_28 (by decide) (fun c28 => ?_) (fun c28 => ?_)
        · rw [if_pos c28] at hF
          refine lv_iconst (v := 0) hx hb dX9_lay_35 (by decide) ?_
          refine lv_iadd hx hb dX9_lay_36 ?_
          refine lv_istore_n (lv' := [(2, .int (((2 : Int32) * x2_14) + (0 : Int32))), (0, .ref a_self), (3, .int x3_14)]) hx hb dX9_lay_37 rfl hl (by decide) rfl (fun ls hl => ?_)
          refine lv_iinc (v := (x3_14 + 1)) (lv' := [(3, .int (x3_14 + 1)), (2, .int (((2 : Int32) * x2_14) + (0 : Int32))), (0, .ref a_self)]) hx hb dX9_lay_38 hl (k := 2) rfl rfl (by decide) rfl (fun ls hl => ?_)
          refine lv_goto (tgt := 14) hx hb dX9_lay_41 (by decide) ?_
          cases hF
          exact ih14 _ _ (itr_in hN14) _ _ hW _ (lv_sub hl [2, 1, 0] rfl)
        · rw [if_neg c28] at hF
          refine lv_iconst (v := 1) hx hb dX9_lay_31 (by decide) ?_
          refine lv_goto (tgt := 36) hx hb dX9_lay_32 (by decide) ?_
          refine lv_iadd hx hb dX9_lay_36 ?_
          refine lv_istore_n (lv' := [(2, .int (((2 : Int32) * x2_14) + (1 : Int32))), (0, .ref a_self), (3, .int x3_14)]) hx hb dX9_lay_37 rfl hl (by decide) rfl (fun ls hl => ?_)
          refine lv_iinc (v := (x3_14 + 1)) (lv' := [(3, .int (x3_14 + 1)), (2, .int (((2 : Int32) * x2_14) + (1 : Int32))), (0, .ref a_self)]) hx hb dX9_lay_38 hl (k := 2) rfl rfl (by decide) rfl (fun ls hl => ?_)
          refine lv_goto (tgt := 14) hx hb dX9_lay_41 (by decide) ?_
          cases hF
          exact ih14 _ _ (itr_in hN14) _ _ hW _ (lv_sub hl [2, 1, 0] rfl)
  exact hL14 nn _ _ hI _ _ hW _ (lv_sub hl [2, 1, 0] rfl)
