abbrev rmMo_readBlock : Room := { frames := 2, cells := 0, slots := 0, locals := 49 }
set_option maxHeartbeats 4000000 in
set_option maxRecDepth 100000 in
theorem kMo_readBlock (l : Launch) (D : va_G) (cI cZ cO cG : ClassId) (a_self : Nat) (a_block : Nat) (a_tape : Nat) (a_map : Nat) (a_places : Nat) (a_symbol : Nat) (a_lengths : Nat) (a_taken : Nat) (a_codes : Nat) (a_list : Nat) (a_weights : Nat) (a_whole : Nat) (a_row : Nat) (a_readMap : Nat) (a_readTaken : Nat) (a_readLengths : Nat) (a_readCodes : Nat) (a_foundBlock : Nat) (m_signs : Int32) (m_bits : Int32) (m_faultAt : Int32) (m_isDone : Int32) (m_n : Int32) (m_symbols : Int32) (m_groups : Int32) (m_tables : Int32) (m_lays : Int32) (m_laid : Int32) (m_read : Int32) (m_wrong : Int32) (m_readMany : Int32) (m_readTables : Int32) (m_readGroups : Int32) (m_found : Int32) (m_tape : Nat → Int32) (m_list : Nat → Int32) (m_readMap : Nat → Int32) (m_readTaken : Nat → Int32) (m_readLengths : Nat → Int32) (m_readCodes : Nat → Int32) (m_foundBlock : Nat → Int32) {m_read' : Int32} {m_wrong' : Int32} {m_found' : Int32} {m_list' : Nat → Int32} {m_foundBlock' : Nat → Int32} (hF : fMo_readBlock m_bits m_read m_wrong m_readMany m_readGroups m_tape m_list m_readMap m_readTaken m_readLengths m_readCodes m_foundBlock = some (m_read', m_wrong', m_found', m_list', m_foundBlock')) : CT l yX9_readBlock wsX9_readBlock rmMo_readBlock D (tysG cI cZ cO cG) [.ref a_self] [ob a_self 9 [Value.int m_signs, Value.ref a_block, Value.ref a_tape, Value.int m_bits, Value.int m_faultAt, Value.int m_isDone, Value.int m_n, Value.ref a_map, Value.ref a_places, Value.int m_symbols, Value.ref a_symbol, Value.int m_groups, Value.int m_tables, Value.ref a_lengths, Value.ref a_taken, Value.ref a_codes, Value.ref a_list, Value.ref a_weights, Value.ref a_whole, Value.int m_lays, Value.int m_laid, Value.ref a_row, Value.int m_read, Value.int m_wrong, Value.int m_readMany, Value.ref a_readMap, Value.int m_readTables, Value.int m_readGroups, Value.ref a_readTaken, Value.ref a_readLengths, Value.ref a_readCodes, Value.int m_found, Value.ref a_foundBlock], ia cZ a_tape 1500 m_tape, ia cI a_list 256 m_list, ia cI a_readMap 256 m_readMap, ia cI a_readTaken 31 m_readTaken, ia cI a_readLengths 774 m_readLengths, ia cI a_readCodes 774 m_readCodes, ia cI a_foundBlock 300 m_foundBlock] none [ob a_self 9 [Value.int m_signs, Value.ref a_block, Value.ref a_tape, Value.int m_bits, Value.int m_faultAt, Value.int m_isDone, Value.int m_n, Value.ref a_map, Value.ref a_places, Value.int m_symbols, Value.ref a_symbol, Value.int m_groups, Value.int m_tables, Value.ref a_lengths, Value.ref a_taken, Value.ref a_codes, Value.ref a_list, Value.ref a_weights, Value.ref a_whole, Value.int m_lays, Value.int m_laid, Value.ref a_row, Value.int m_read', Value.int m_wrong', Value.int m_readMany, Value.ref a_readMap, Value.int m_readTables, Value.int m_readGroups, Value.ref a_readTaken, Value.ref a_readLengths, Value.ref a_readCodes, Value.int m_found', Value.ref a_foundBlock], ia cZ a_tape 1500 m_tape, ia cI a_list 256 m_list', ia cI a_readMap 256 m_readMap, ia cI a_readTaken 31 m_readTaken, ia cI a_readLengths 774 m_readLengths, ia cI a_readCodes 774 m_readCodes, ia cI a_foundBlock 300 m_foundBlock'] := by
  refine CT.of (cc := cX9_readBlock) (maxL := 7) (ret := none) (by decide) rfl (Nat.le_of_ble_eq_true rfl) ?_
  intro p e s m below meth c A ls hx hb hr hml hts hown hlocks hK hA hP hD hS hl
  generalize hargs : ([.ref a_self] : List Value).toArray = args at hts ⊢
  generalize hQ : MQ below (ctQ D none [ob a_self 9 [Value.int m_signs, Value.ref a_block, Value.ref a_tape, Value.int m_bits, Value.int m_faultAt, Value.int m_isDone, Value.int m_n, Value.ref a_map, Value.ref a_places, Value.int m_symbols, Value.ref a_symbol, Value.int m_groups, Value.int m_tables, Value.ref a_lengths, Value.ref a_taken, Value.ref a_codes, Value.ref a_list, Value.ref a_weights, Value.ref a_whole, Value.int m_lays, Value.int m_laid, Value.ref a_row, Value.int m_read', Value.int m_wrong', Value.int m_readMany, Value.ref a_readMap, Value.int m_readTables, Value.int m_readGroups, Value.ref a_readTaken, Value.ref a_readLengths, Value.ref a_readCodes, Value.int m_found', Value.ref a_foundBlock], ia cZ a_tape 1500 m_tape, ia cI a_list 256 m_list', ia cI a_readMap 256 m_readMap, ia cI a_readTaken 31 m_readTaken, ia cI a_readLengths 774 m_readLengths, ia cI a_readCodes 774 m_readCodes, ia cI a_foundBlock 300 m_foundBlock'] A) args s 0 0 A = Q
  have hl : lv_has ls 7 [(0, .ref a_self)] := hl
  have hW : WS D A s [ob a_self 9 [Value.int m_signs, Value.ref a_block, Value.ref a_tape, Value.int m_bits, Value.int m_faultAt, Value.int m_isDone, Value.int m_n, Value.ref a_map, Value.ref a_places, Value.int m_symbols, Value.ref a_symbol, Value.int m_groups, Value.int m_tables, Value.ref a_lengths, Value.ref a_taken, Value.ref a_codes, Value.ref a_list, Value.ref a_weights, Value.ref a_whole, Value.int m_lays, Value.int m_laid, Value.ref a_row, Value.int m_read, Value.int m_wrong, Value.int m_readMany, Value.ref a_readMap, Value.int m_readTables, Value.int m_readGroups, Value.ref a_readTaken, Value.ref a_readLengths, Value.ref a_readCodes, Value.int m_found, Value.ref a_foundBlock], ia cZ a_tape 1500 m_tape, ia cI a_list 256 m_list, ia cI a_readMap 256 m_readMap, ia cI a_readTaken 31 m_readTaken, ia cI a_readLengths 774 m_readLengths, ia cI a_readCodes 774 m_readCodes, ia cI a_foundBlock 300 m_foundBlock] s.heap [] := ⟨hP, hD, hS⟩
  clear hP hD hS
  unfold fMo_readBlock at hF
  have hw0 := hts (Cond.fieldLink RX9 183 "MoveFrontsModel" "readGroups" "I") (by decide +kernel)
  have hw1 := hts (Cond.fieldLink RX9 167 "MoveFrontsModel" "read" "I") (by decide +kernel)
  have hw2 := hts (Cond.fieldLink RX9 138 "MoveFrontsModel" "bits" "I") (by decide +kernel)
  have hw3 := hts (Cond.fieldLink RX9 188 "MoveFrontsModel" "found" "I") (by decide +kernel)
  have hw4 := hts (Cond.fieldLink RX9 164 "MoveFrontsModel" "wrong" "I") (by decide +kernel)
  have hw5 := hts (Cond.fieldLink RX9 63 "MoveFrontsModel" "foundBlock" "[I") (by decide +kernel)
  have hw6 := hts (Cond.fieldLink RX9 39 "MoveFrontsModel" "list" "[I") (by decide +kernel)
  have hw7 := hts (Cond.fieldLink RX9 170 "MoveFrontsModel" "readMany" "I") (by decide +kernel)
  have hw8 := hts (Cond.fieldLink RX9 54 "MoveFrontsModel" "readTaken" "[I") (by decide +kernel)
  have hw9 := hts (Cond.fieldLink RX9 51 "MoveFrontsModel" "readMap" "[I") (by decide +kernel)
  have hi9 : ∀ w ∈ u_ws RX9 TX9 33, w ∈ wsX9_readBlock := by decide +kernel
  have hJ357 : ∀ (m_read_357 : Int32) (m_wrong_357 : Int32) (m_found_357 : Int32) (m_list_357 : Nat → Int32) (m_foundBlock_357 : Nat → Int32), fMo_readBlock_J357 m_read_357 m_wrong_357 m_found_357 m_list_357 m_foundBlock_357 = some (m_read', m_wrong', m_found', m_list', m_foundBlock') → ∀ (H : Heap) (locs : List Loc), WS D A s [ob a_self 9 [Value.int m_signs, Value.ref a_block, Value.ref a_tape, Value.int m_bits, Value.int m_faultAt, Value.int m_isDone, Value.int m_n, Value.ref a_map, Value.ref a_places, Value.int m_symbols, Value.ref a_symbol, Value.int m_groups, Value.int m_tables, Value.ref a_lengths, Value.ref a_taken, Value.ref a_codes, Value.ref a_list, Value.ref a_weights, Value.ref a_whole, Value.int m_lays, Value.int m_laid, Value.ref a_row, Value.int m_read_357, Value.int m_wrong_357, Value.int m_readMany, Value.ref a_readMap, Value.int m_readTables, Value.int m_readGroups, Value.ref a_readTaken, Value.ref a_readLengths, Value.ref a_readCodes, Value.int m_found_357, Value.ref a_foundBlock], ia cZ a_tape 1500 m_tape, ia cI a_list 256 m_list_357, ia cI a_readMap 256 m_readMap, ia cI a_readTaken 31 m_readTaken, ia cI a_readLengths 774 m_readLengths, ia cI a_readCodes 774 m_readCodes, ia cI a_foundBlock 300 m_foundBlock_357] H locs → ∀ ls : Array Slot, lv_has ls 7 [] → W p l e (headSpec wsX9_readBlock rmMo_readBlock).room s m args below meth c H locs 0 0 Q (F0 m 357 ls [.ref a_self]) := by
    intro m_read_357 m_wrong_357 m_found_357 m_list_357 m_foundBlock_357 hF H locs hW ls hl
    unfold fMo_readBlock_J357 at hF
    refine lv_iconst (v := 1) hx hb dX9_readBlock_357 (by decide) ?_
    refine lv_goto (tgt := 362) hx hb dX9_readBlock_358 (by decide) ?_
    refine lv_bipush (v := 10) hx hb dX9_readBlock_362 (by decide) ?_
    obtain ⟨m_wrong_364, e364, hF⟩ := bd1_some hF
    refine ctV (wn := [ob a_self 9 [Value.int m_signs, Value.ref a_block, Value.ref a_tape, Value.int m_bits, Value.int m_faultAt, Value.int m_isDone, Value.int m_n, Value.ref a_map, Value.ref a_places, Value.int m_symbols, Value.ref a_symbol, Value.int m_groups, Value.int m_tables, Value.ref a_lengths, Value.ref a_taken, Value.ref a_codes, Value.ref a_list, Value.ref a_weights, Value.ref a_whole, Value.int m_lays, Value.int m_laid, Value.ref a_row, Value.int m_read_357, Value.int m_wrong_364, Value.int m_readMany, Value.ref a_readMap, Value.int m_readTables, Value.int m_readGroups, Value.ref a_readTaken, Value.ref a_readLengths, Value.ref a_readCodes, Value.int m_found_357, Value.ref a_foundBlock], ia cZ a_tape 1500 m_tape, ia cI a_list 256 m_list_357, ia cI a_readMap 256 m_readMap, ia cI a_readTaken 31 m_readTaken, ia cI a_readLengths 774 m_readLengths, ia cI a_readCodes 774 m_readCodes, ia cI a_foundBlock 300 m_foundBlock_357]) (r := (RX9, TX9, 33)) (As := [.int (1 : Int32), .int (10 : Int32)]) (rest := []) hx hb hml hown hts hK hW hA hl.1 (kMo_fails l D cI cZ cO cG a_self a_block a_tape a_map a_places a_symbol a_lengths a_taken a_codes a_list a_weights a_whole a_row a_readMap a_readTaken a_readLengths a_readCodes a_foundBlock m_signs m_bits m_faultAt m_isDone m_n m_symbols m_groups m_tables m_lays m_laid m_read_357 m_wrong_357 m_readMany m_readTables m_readGroups m_found_357 (1 : Int32) (10 : Int32) e364) (cwV 2 hts gX9_readBlock_X9_fails rfl rfl rfl (by decide +kernel) ⟨Nat.le_of_ble_eq_true rfl, Nat.le_of_ble_eq_true rfl⟩) 9 0 rfl rfl [0] [1, 2, 3, 4, 5, 6, 7] 8 rfl rfl rfl rfl [ia cZ a_tape 1500 m_tape, ia cI a_list 256 m_list_357, ia cI a_readMap 256 m_readMap, ia cI a_readTaken 31 m_readTaken, ia cI a_readLengths 774 m_readLengths, ia cI a_readCodes 774 m_readCodes, ia cI a_foundBlock 300 m_foundBlock_357] rfl rfl rfl rfl rfl (Nat.le_of_ble_eq_true rfl) rfl ⟨Nat.zero_le _, Nat.zero_le _⟩ dX9_readBlock_364 (fun H locs hW => ?_)
    cases hF
    subst hQ
    exact ct_vret hx hb hr hlocks hW.1 hW.2.2 dX9_readBlock_367
  have hJ325 : ∀ (x4_325 : Int32) (m_read_325 : Int32) (m_wrong_325 : Int32) (m_found_325 : Int32) (m_list_325 : Nat → Int32) (m_foundBlock_325 : Nat → Int32) (t1_325 : Int32), fMo_readBlock_J325 m_bits m_readGroups x4_325 m_read_325 m_wrong_325 m_found_325 m_list_325 m_foundBlock_325 t1_325 = some (m_read', m_wrong', m_found', m_list', m_foundBlock') → ∀ (H : Heap) (locs : List Loc), WS D A s [ob a_self 9 [Value.int m_signs, Value.ref a_block, Value.ref a_tape, Value.int m_bits, Value.int m_faultAt, Value.int m_isDone, Value.int m_n, Value.ref a_map, Value.ref a_places, Value.int m_symbols, Value.ref a_symbol, Value.int m_groups, Value.int m_tables, Value.ref a_lengths, Value.ref a_taken, Value.ref a_codes, Value.ref a_list, Value.ref a_weights, Value.ref a_whole, Value.int m_lays, Value.int m_laid, Value.ref a_row, Value.int m_read_325, Value.int m_wrong_325, Value.int m_readMany, Value.ref a_readMap, Value.int m_readTables, Value.int m_readGroups, Value.ref a_readTaken, Value.ref a_readLengths, Value.ref a_readCodes, Value.int m_found_325, Value.ref a_foundBlock], ia cZ a_tape 1500 m_tape, ia cI a_list 256 m_list_325, ia cI a_readMap 256 m_readMap, ia cI a_readTaken 31 m_readTaken, ia cI a_readLengths 774 m_readLengths, ia cI a_readCodes 774 m_readCodes, ia cI a_foundBlock 300 m_foundBlock_325] H locs → ∀ ls : Array Slot, lv_has ls 7 [(0, .ref a_self), (4, .int x4_325)] → W p l e (headSpec wsX9_readBlock rmMo_readBlock).room s m args below meth c H locs 0 0 Q (F0 m 325 ls [.int t1_325, .ref a_self]) := by
    intro x4_325 m_read_325 m_wrong_325 m_found_325 m_list_325 m_foundBlock_325 t1_325 hF H locs hW ls hl
    unfold fMo_readBlock_J325 at hF
    refine lv_bipush (v := 9) hx hb dX9_readBlock_325 (by decide) ?_
    obtain ⟨m_wrong_327, e327, hF⟩ := bd1_some hF
    refine ctV (wn := [ob a_self 9 [Value.int m_signs, Value.ref a_block, Value.ref a_tape, Value.int m_bits, Value.int m_faultAt, Value.int m_isDone, Value.int m_n, Value.ref a_map, Value.ref a_places, Value.int m_symbols, Value.ref a_symbol, Value.int m_groups, Value.int m_tables, Value.ref a_lengths, Value.ref a_taken, Value.ref a_codes, Value.ref a_list, Value.ref a_weights, Value.ref a_whole, Value.int m_lays, Value.int m_laid, Value.ref a_row, Value.int m_read_325, Value.int m_wrong_327, Value.int m_readMany, Value.ref a_readMap, Value.int m_readTables, Value.int m_readGroups, Value.ref a_readTaken, Value.ref a_readLengths, Value.ref a_readCodes, Value.int m_found_325, Value.ref a_foundBlock], ia cZ a_tape 1500 m_tape, ia cI a_list 256 m_list_325, ia cI a_readMap 256 m_readMap, ia cI a_readTaken 31 m_readTaken, ia cI a_readLengths 774 m_readLengths, ia cI a_readCodes 774 m_readCodes, ia cI a_foundBlock 300 m_foundBlock_325]) (r := (RX9, TX9, 33)) (As := [.int t1_325, .int (9 : Int32)]) (rest := []) hx hb hml hown hts hK hW hA hl.1 (kMo_fails l D cI cZ cO cG a_self a_block a_tape a_map a_places a_symbol a_lengths a_taken a_codes a_list a_weights a_whole a_row a_readMap a_readTaken a_readLengths a_readCodes a_foundBlock m_signs m_bits m_faultAt m_isDone m_n m_symbols m_groups m_tables m_lays m_laid m_read_325 m_wrong_325 m_readMany m_readTables m_readGroups m_found_325 t1_325 (9 : Int32) e327) (cwV 2 hts gX9_readBlock_X9_fails rfl rfl rfl (by decide +kernel) ⟨Nat.le_of_ble_eq_true rfl, Nat.le_of_ble_eq_true rfl⟩) 9 0 rfl rfl [0] [1, 2, 3, 4, 5, 6, 7] 8 rfl rfl rfl rfl [ia cZ a_tape 1500 m_tape, ia cI a_list 256 m_list_325, ia cI a_readMap 256 m_readMap, ia cI a_readTaken 31 m_readTaken, ia cI a_readLengths 774 m_readLengths, ia cI a_readCodes 774 m_readCodes, ia cI a_foundBlock 300 m_foundBlock_325] rfl rfl rfl rfl rfl (Nat.le_of_ble_eq_true rfl) rfl ⟨Nat.zero_le _, Nat.zero_le _⟩ dX9_readBlock_327 (fun H locs hW => ?_)
    refine lv_aload_n hx hb dX9_readBlock_330 rfl (lv_at hl 0 rfl) ?_
    refine lv_iload hx hb dX9_readBlock_331 (lv_at hl 1 rfl) ?_
    refine lv_bipush (v := 9) hx hb dX9_readBlock_333 (by decide) ?_
    refine lv_iadd hx hb dX9_readBlock_335 ?_
    refine lv_bipush (v := 10) hx hb dX9_readBlock_336 (by decide) ?_
    refine lv_idiv hx hb dX9_readBlock_338 (by decide) ?_
    refine lv_aload_n hx hb dX9_readBlock_339 rfl (lv_at hl 0 rfl) ?_
    refine va_get (D := D) (ci := 9) (v := .int m_readGroups) (C := RX9) (T := TX9) (N := 33) hx hb hts hi9 hown hK.1 hW.1 0 rfl rfl 27 (by decide) hw0 (fun _ h9 => h9) rfl dX9_readBlock_340 ?_
    refine lv_icmp_lt (tgt := 357) hx hb dX9_readBlock_343 (by decide) (fun c343 => ?_) (fun c343 => ?_)
    · rw [if_pos c343] at hF
      exact hJ357 _ _ _ _ _ hF _ _ hW _ (lv_sub hl [] rfl)
    · rw [if_neg c343] at hF
      refine lv_aload_n hx hb dX9_readBlock_346 rfl (lv_at hl 0 rfl) ?_
      refine va_get (D := D) (ci := 9) (v := .int m_read_325) (C := RX9) (T := TX9) (N := 33) hx hb hts hi9 hown hK.1 hW.1 0 rfl rfl 22 (by decide) hw1 (fun _ h9 => h9) rfl dX9_readBlock_347 ?_
      refine lv_aload_n hx hb dX9_readBlock_350 rfl (lv_at hl 0 rfl) ?_
      refine va_get (D := D) (ci := 9) (v := .int m_bits) (C := RX9) (T := TX9) (N := 33) hx hb hts hi9 hown hK.1 hW.1 0 rfl rfl 3 (by decide) hw2 (fun _ h9 => h9) rfl dX9_readBlock_351 ?_
      refine lv_icmp_ge (tgt := 361) hx hb dX9_readBlock_354 (by decide) (fun c354 => ?_) (fun c354 => ?_)
      · rw [if_pos c354] at hF
        refine lv_iconst (v := 0) hx hb dX9_readBlock_361 (by decide) ?_
        refine lv_bipush (v := 10) hx hb dX9_readBlock_362 (by decide) ?_
        obtain ⟨m_wrong_364, e364, hF⟩ := bd1_some hF
        refine ctV (wn := [ob a_self 9 [Value.int m_signs, Value.ref a_block, Value.ref a_tape, Value.int m_bits, Value.int m_faultAt, Value.int m_isDone, Value.int m_n, Value.ref a_map, Value.ref a_places, Value.int m_symbols, Value.ref a_symbol, Value.int m_groups, Value.int m_tables, Value.ref a_lengths, Value.ref a_taken, Value.ref a_codes, Value.ref a_list, Value.ref a_weights, Value.ref a_whole, Value.int m_lays, Value.int m_laid, Value.ref a_row, Value.int m_read_325, Value.int m_wrong_364, Value.int m_readMany, Value.ref a_readMap, Value.int m_readTables, Value.int m_readGroups, Value.ref a_readTaken, Value.ref a_readLengths, Value.ref a_readCodes, Value.int m_found_325, Value.ref a_foundBlock], ia cZ a_tape 1500 m_tape, ia cI a_list 256 m_list_325, ia cI a_readMap 256 m_readMap, ia cI a_readTaken 31 m_readTaken, ia cI a_readLengths 774 m_readLengths, ia cI a_readCodes 774 m_readCodes, ia cI a_foundBlock 300 m_foundBlock_325]) (r := (RX9, TX9, 33)) (As := [.int (0 : Int32), .int (10 : Int32)]) (rest := []) hx hb hml hown hts hK hW hA hl.1 (kMo_fails l D cI cZ cO cG a_self a_block a_tape a_map a_places a_symbol a_lengths a_taken a_codes a_list a_weights a_whole a_row a_readMap a_readTaken a_readLengths a_readCodes a_foundBlock m_signs m_bits m_faultAt m_isDone m_n m_symbols m_groups m_tables m_lays m_laid m_read_325 m_wrong_327 m_readMany m_readTables m_readGroups m_found_325 (0 : Int32) (10 : Int32) e364) (cwV 2 hts gX9_readBlock_X9_fails rfl rfl rfl (by decide +kernel) ⟨Nat.le_of_ble_eq_true rfl, Nat.le_of_ble_eq_true rfl⟩) 9 0 rfl rfl [0] [1, 2, 3, 4, 5, 6, 7] 8 rfl rfl rfl rfl [ia cZ a_tape 1500 m_tape, ia cI a_list 256 m_list_325, ia cI a_readMap 256 m_readMap, ia cI a_readTaken 31 m_readTaken, ia cI a_readLengths 774 m_readLengths, ia cI a_readCodes 774 m_readCodes, ia cI a_foundBlock 300 m_foundBlock_325] rfl rfl rfl rfl rfl (Nat.le_of_ble_eq_true rfl) rfl ⟨Nat.zero_le _, Nat.zero_le _⟩ dX9_readBlock_364 (fun H locs hW => ?_)
        cases hF
        subst hQ
        exact ct_vret hx hb hr hlocks hW.1 hW.2.2 dX9_readBlock_367
      · rw [if_neg c354] at hF
        exact hJ357 _ _ _ _ _ hF _ _ hW _ (lv_sub hl [] rfl)
  refine lv_iconst (v := 0) hx hb dX9_readBlock_0 (by decide) ?_
  refine lv_istore_n (lv' := [(1, .int (0 : Int32)), (0, .ref a_self)]) hx hb dX9_readBlock_1 rfl hl (by decide) rfl (fun ls hl => ?_)
  obtain ⟨m_list_2ze, hI, hF⟩ := bd1_some hF
  obtain ⟨nn, hI⟩ := itrO_some hI
  have hX2 : ∀ (m_list_2z : Nat → Int32), m_list_2z = m_list_2ze → ∀ (H : Heap) (locs : List Loc), WS D A s [ob a_self 9 [Value.int m_signs, Value.ref a_block, Value.ref a_tape, Value.int m_bits, Value.int m_faultAt, Value.int m_isDone, Value.int m_n, Value.ref a_map, Value.ref a_places, Value.int m_symbols, Value.ref a_symbol, Value.int m_groups, Value.int m_tables, Value.ref a_lengths, Value.ref a_taken, Value.ref a_codes, Value.ref a_list, Value.ref a_weights, Value.ref a_whole, Value.int m_lays, Value.int m_laid, Value.ref a_row, Value.int m_read, Value.int m_wrong, Value.int m_readMany, Value.ref a_readMap, Value.int m_readTables, Value.int m_readGroups, Value.ref a_readTaken, Value.ref a_readLengths, Value.ref a_readCodes, Value.int m_found, Value.ref a_foundBlock], ia cZ a_tape 1500 m_tape, ia cI a_list 256 m_list_2z, ia cI a_readMap 256 m_readMap, ia cI a_readTaken 31 m_readTaken, ia cI a_readLengths 774 m_readLengths, ia cI a_readCodes 774 m_readCodes, ia cI a_foundBlock 300 m_foundBlock] H locs → ∀ ls : Array Slot, lv_has ls 7 [(0, .ref a_self)] → W p l e (headSpec wsX9_readBlock rmMo_readBlock).room s m args below meth c H locs 0 0 Q (F0 m 28 ls []) := by
    intro m_list_2z he H locs hW ls hl
    subst he
    refine lv_aload_n hx hb dX9_readBlock_28 rfl (lv_at hl 0 rfl) ?_
    refine lv_iconst (v := 0) hx hb dX9_readBlock_29 (by decide) ?_
    refine va_put (D := D) (ci := 9) (v := .int (0 : Int32)) (ty := .int) (C := RX9) (T := TX9) (N := 33) hx hb hts hi9 tyX9 tyX9_ok nmX9 hown hK.1 hW.1 hW.2.1 hW.2.2 0 rfl rfl 31 (by decide) hw3 (fun _ h9 => h9) rfl (by decide +kernel) rfl rfl (Nat.le_of_ble_eq_true rfl) dX9_readBlock_30 (fun H locs hP hD hS => ?_)
    have hW : WS D A s [ob a_self 9 [Value.int m_signs, Value.ref a_block, Value.ref a_tape, Value.int m_bits, Value.int m_faultAt, Value.int m_isDone, Value.int m_n, Value.ref a_map, Value.ref a_places, Value.int m_symbols, Value.ref a_symbol, Value.int m_groups, Value.int m_tables, Value.ref a_lengths, Value.ref a_taken, Value.ref a_codes, Value.ref a_list, Value.ref a_weights, Value.ref a_whole, Value.int m_lays, Value.int m_laid, Value.ref a_row, Value.int m_read, Value.int m_wrong, Value.int m_readMany, Value.ref a_readMap, Value.int m_readTables, Value.int m_readGroups, Value.ref a_readTaken, Value.ref a_readLengths, Value.ref a_readCodes, Value.int (0 : Int32), Value.ref a_foundBlock], ia cZ a_tape 1500 m_tape, ia cI a_list 256 m_list_2z, ia cI a_readMap 256 m_readMap, ia cI a_readTaken 31 m_readTaken, ia cI a_readLengths 774 m_readLengths, ia cI a_readCodes 774 m_readCodes, ia cI a_foundBlock 300 m_foundBlock] H locs := ⟨hP, hD, hS⟩
    refine lv_iconst (v := 0) hx hb dX9_readBlock_33 (by decide) ?_
    refine lv_istore_n (lv' := [(1, .int (0 : Int32)), (0, .ref a_self)]) hx hb dX9_readBlock_34 rfl hl (by decide) rfl (fun ls hl => ?_)
    refine lv_iconst (v := 1) hx hb dX9_readBlock_35 (by decide) ?_
    refine lv_istore_n (lv' := [(2, .int (1 : Int32)), (1, .int (0 : Int32)), (0, .ref a_self)]) hx hb dX9_readBlock_36 rfl hl (by decide) rfl (fun ls hl => ?_)
    refine lv_iconst (v := 0) hx hb dX9_readBlock_37 (by decide) ?_
    refine lv_istore_n (lv' := [(3, .int (0 : Int32)), (2, .int (1 : Int32)), (1, .int (0 : Int32)), (0, .ref a_self)]) hx hb dX9_readBlock_38 rfl hl (by decide) rfl (fun ls hl => ?_)
    refine lv_iconst (v := 0) hx hb dX9_readBlock_39 (by decide) ?_
    refine lv_istore (lv' := [(4, .int (0 : Int32)), (3, .int (0 : Int32)), (2, .int (1 : Int32)), (1, .int (0 : Int32)), (0, .ref a_self)]) hx hb dX9_readBlock_40 hl (by decide) rfl (fun ls hl => ?_)
    obtain ⟨q42, hI, hq42⟩ := bs_some hF
    obtain ⟨nn, hI⟩ := itrO_some hI
    have hX42 : ∀ (x4_42z : Int32) (m_read_42z : Int32) (m_wrong_42z : Int32) (m_found_42z : Int32) (m_list_42z : Nat → Int32) (m_foundBlock_42z : Nat → Int32), (.inl (x4_42z, m_read_42z, m_wrong_42z, m_found_42z, m_list_42z, m_foundBlock_42z)) = q42 → ∀ (H : Heap) (locs : List Loc), WS D A s [ob a_self 9 [Value.int m_signs, Value.ref a_block, Value.ref a_tape, Value.int m_bits, Value.int m_faultAt, Value.int m_isDone, Value.int m_n, Value.ref a_map, Value.ref a_places, Value.int m_symbols, Value.ref a_symbol, Value.int m_groups, Value.int m_tables, Value.ref a_lengths, Value.ref a_taken, Value.ref a_codes, Value.ref a_list, Value.ref a_weights, Value.ref a_whole, Value.int m_lays, Value.int m_laid, Value.ref a_row, Value.int m_read_42z, Value.int m_wrong_42z, Value.int m_readMany, Value.ref a_readMap, Value.int m_readTables, Value.int m_readGroups, Value.ref a_readTaken, Value.ref a_readLengths, Value.ref a_readCodes, Value.int m_found_42z, Value.ref a_foundBlock], ia cZ a_tape 1500 m_tape, ia cI a_list 256 m_list_42z, ia cI a_readMap 256 m_readMap, ia cI a_readTaken 31 m_readTaken, ia cI a_readLengths 774 m_readLengths, ia cI a_readCodes 774 m_readCodes, ia cI a_foundBlock 300 m_foundBlock_42z] H locs → ∀ ls : Array Slot, lv_has ls 7 [(0, .ref a_self), (4, .int x4_42z)] → W p l e (headSpec wsX9_readBlock rmMo_readBlock).room s m args below meth c H locs 0 0 Q (F0 m 312 ls []) := by
      intro x4_42z m_read_42z m_wrong_42z m_found_42z m_list_42z m_foundBlock_42z he H locs hW ls hl
      subst he
      have hF := bs_inl hq42
      rw [un6_eq] at hF
      refine lv_aload_n hx hb dX9_readBlock_312 rfl (lv_at hl 0 rfl) ?_
      refine lv_aload_n hx hb dX9_readBlock_313 rfl (lv_at hl 0 rfl) ?_
      refine va_get (D := D) (ci := 9) (v := .int m_found_42z) (C := RX9) (T := TX9) (N := 33) hx hb hts hi9 hown hK.1 hW.1 0 rfl rfl 31 (by decide) hw3 (fun _ h9 => h9) rfl dX9_readBlock_314 ?_
      refine lv_if_ne (tgt := 324) hx hb dX9_readBlock_317 (by decide) (fun c317 => ?_) (fun c317 => ?_)
      · rw [if_neg c317] at hF
        refine lv_iconst (v := 0) hx hb dX9_readBlock_324 (by decide) ?_
        exact hJ325 _ _ _ _ _ _ _ hF _ _ hW _ (lv_sub hl [0, 1] rfl)
      · rw [if_pos c317] at hF
        refine lv_iconst (v := 1) hx hb dX9_readBlock_320 (by decide) ?_
        refine lv_goto (tgt := 325) hx hb dX9_readBlock_321 (by decide) ?_
        exact hJ325 _ _ _ _ _ _ _ hF _ _ hW _ (lv_sub hl [0, 1] rfl)
    have hL42 : ∀ (n42 : Nat) (x1_42 : Int32) (x2_42 : Int32) (x3_42 : Int32) (x4_42 : Int32) (m_read_42 : Int32) (m_wrong_42 : Int32) (m_found_42 : Int32) (m_list_42 : Nat → Int32) (m_foundBlock_42 : Nat → Int32), itr (un9 (fMo_readBlock_L42 m_bits m_readMany m_readGroups m_tape m_readTaken m_readLengths m_readCodes)) n42 (x1_42, x2_42, x3_42, x4_42, m_read_42, m_wrong_42, m_found_42, m_list_42, m_foundBlock_42) = some q42 → ∀ (H : Heap) (locs : List Loc), WS D A s [ob a_self 9 [Value.int m_signs, Value.ref a_block, Value.ref a_tape, Value.int m_bits, Value.int m_faultAt, Value.int m_isDone, Value.int m_n, Value.ref a_map, Value.ref a_places, Value.int m_symbols, Value.ref a_symbol, Value.int m_groups, Value.int m_tables, Value.ref a_lengths, Value.ref a_taken, Value.ref a_codes, Value.ref a_list, Value.ref a_weights, Value.ref a_whole, Value.int m_lays, Value.int m_laid, Value.ref a_row, Value.int m_read_42, Value.int m_wrong_42, Value.int m_readMany, Value.ref a_readMap, Value.int m_readTables, Value.int m_readGroups, Value.ref a_readTaken, Value.ref a_readLengths, Value.ref a_readCodes, Value.int m_found_42, Value.ref a_foundBlock], ia cZ a_tape 1500 m_tape, ia cI a_list 256 m_list_42, ia cI a_readMap 256 m_readMap, ia cI a_readTaken 31 m_readTaken, ia cI a_readLengths 774 m_readLengths, ia cI a_readCodes 774 m_readCodes, ia cI a_foundBlock 300 m_foundBlock_42] H locs → ∀ ls : Array Slot, lv_has ls 7 [(0, .ref a_self), (1, .int x1_42), (2, .int x2_42), (3, .int x3_42), (4, .int x4_42)] → W p l e (headSpec wsX9_readBlock rmMo_readBlock).room s m args below meth c H locs 0 0 Q (F0 m 42 ls []) := by
      intro n42
      induction n42 with
      | zero => intro x1_42 x2_42 x3_42 x4_42 m_read_42 m_wrong_42 m_found_42 m_list_42 m_foundBlock_42 hI; cases hI
      | succ n42 ih42 =>
        intro x1_42 x2_42 x3_42 x4_42 m_read_42 m_wrong_42 m_found_42 m_list_42 m_foundBlock_42 hI H locs hW ls hl
        obtain ⟨sr42, hF, hN42⟩ := itr_succ hI
        have hF : fMo_readBlock_L42 m_bits m_readMany m_readGroups m_tape m_readTaken m_readLengths m_readCodes x1_42 x2_42 x3_42 x4_42 m_read_42 m_wrong_42 m_found_42 m_list_42 m_foundBlock_42 = some sr42 := hF
        unfold fMo_readBlock_L42 at hF
        have hJ266 : ∀ (x1_266 : Int32) (x2_266 : Int32) (x4_266 : Int32) (x5_266 : Int32) (m_read_266 : Int32) (m_wrong_266 : Int32) (m_found_266 : Int32) (m_list_266 : Nat → Int32) (m_foundBlock_266 : Nat → Int32) (t0_266 : Int32), fMo_readBlock_J266 x1_266 x2_266 x4_266 x5_266 m_read_266 m_wrong_266 m_found_266 m_list_266 m_foundBlock_266 t0_266 = some sr42 → ∀ (H : Heap) (locs : List Loc), WS D A s [ob a_self 9 [Value.int m_signs, Value.ref a_block, Value.ref a_tape, Value.int m_bits, Value.int m_faultAt, Value.int m_isDone, Value.int m_n, Value.ref a_map, Value.ref a_places, Value.int m_symbols, Value.ref a_symbol, Value.int m_groups, Value.int m_tables, Value.ref a_lengths, Value.ref a_taken, Value.ref a_codes, Value.ref a_list, Value.ref a_weights, Value.ref a_whole, Value.int m_lays, Value.int m_laid, Value.ref a_row, Value.int m_read_266, Value.int m_wrong_266, Value.int m_readMany, Value.ref a_readMap, Value.int m_readTables, Value.int m_readGroups, Value.ref a_readTaken, Value.ref a_readLengths, Value.ref a_readCodes, Value.int m_found_266, Value.ref a_foundBlock], ia cZ a_tape 1500 m_tape, ia cI a_list 256 m_list_266, ia cI a_readMap 256 m_readMap, ia cI a_readTaken 31 m_readTaken, ia cI a_readLengths 774 m_readLengths, ia cI a_readCodes 774 m_readCodes, ia cI a_foundBlock 300 m_foundBlock_266] H locs → ∀ ls : Array Slot, lv_has ls 7 [(0, .ref a_self), (1, .int x1_266), (2, .int x2_266), (4, .int x4_266), (5, .int x5_266)] → W p l e (headSpec wsX9_readBlock rmMo_readBlock).room s m args below meth c H locs 0 0 Q (F0 m 266 ls [.int t0_266]) := by
          intro x1_266 x2_266 x4_266 x5_266 m_read_266 m_wrong_266 m_found_266 m_list_266 m_foundBlock_266 t0_266 hF H locs hW ls hl
          unfold fMo_readBlock_J266 at hF
          refine lv_istore_n (lv' := [(3, .int t0_266), (0, .ref a_self), (1, .int x1_266), (2, .int x2_266), (4, .int x4_266), (5, .int x5_266)]) hx hb dX9_readBlock_266 rfl hl (by decide) rfl (fun ls hl => ?_)
          refine lv_iload_n hx hb dX9_readBlock_267 rfl (lv_at hl 0 rfl) ?_
          refine lv_if_ne (tgt := 309) hx hb dX9_readBlock_268 (by decide) (fun c268 => ?_) (fun c268 => ?_)
          · rw [if_neg c268] at hF
            refine lv_goto (tgt := 42) hx hb dX9_readBlock_309 (by decide) ?_
            cases hF
            exact ih42 _ _ _ _ _ _ _ _ _ (itr_in hN42) _ _ hW _ (lv_sub hl [1, 2, 3, 0, 4] rfl)
          · rw [if_pos c268] at hF
            refine lv_aload_n hx hb dX9_readBlock_271 rfl (lv_at hl 1 rfl) ?_
            refine va_get (D := D) (ci := 9) (v := .int m_wrong_266) (C := RX9) (T := TX9) (N := 33) hx hb hts hi9 hown hK.1 hW.1 0 rfl rfl 23 (by decide) hw4 (fun _ h9 => h9) rfl dX9_readBlock_272 ?_
            refine lv_if_ne (tgt := 309) hx hb dX9_readBlock_275 (by decide) (fun c275 => ?_) (fun c275 => ?_)
            · rw [if_neg c275] at hF
              refine lv_goto (tgt := 42) hx hb dX9_readBlock_309 (by decide) ?_
              cases hF
              exact ih42 _ _ _ _ _ _ _ _ _ (itr_in hN42) _ _ hW _ (lv_sub hl [1, 2, 3, 0, 4] rfl)
            · rw [if_pos c275] at hF
              refine lv_aload_n hx hb dX9_readBlock_278 rfl (lv_at hl 1 rfl) ?_
              refine va_get (D := D) (ci := 9) (v := .ref a_foundBlock) (C := RX9) (T := TX9) (N := 33) hx hb hts hi9 hown hK.1 hW.1 0 rfl rfl 32 (by decide) hw5 (fun _ h9 => h9) rfl dX9_readBlock_279 ?_
              refine lv_aload_n hx hb dX9_readBlock_282 rfl (lv_at hl 1 rfl) ?_
              refine va_get (D := D) (ci := 9) (v := .int m_found_266) (C := RX9) (T := TX9) (N := 33) hx hb hts hi9 hown hK.1 hW.1 0 rfl rfl 31 (by decide) hw3 (fun _ h9 => h9) rfl dX9_readBlock_283 ?_
              refine lv_aload_n hx hb dX9_readBlock_286 rfl (lv_at hl 1 rfl) ?_
              refine lv_aload_n hx hb dX9_readBlock_287 rfl (lv_at hl 1 rfl) ?_
              refine va_get (D := D) (ci := 9) (v := .ref a_list) (C := RX9) (T := TX9) (N := 33) hx hb hts hi9 hown hK.1 hW.1 0 rfl rfl 16 (by decide) hw6 (fun _ h9 => h9) rfl dX9_readBlock_288 ?_
              refine lv_iload hx hb dX9_readBlock_291 (lv_at hl 5 rfl) ?_
              refine lv_iconst (v := 1) hx hb dX9_readBlock_293 (by decide) ?_
              refine lv_isub hx hb dX9_readBlock_294 ?_
              obtain ⟨r_295, m_p1_295, e295, hF⟩ := bd2_some hF
              refine ctV (wn := [ob a_self 9 [Value.int m_signs, Value.ref a_block, Value.ref a_tape, Value.int m_bits, Value.int m_faultAt, Value.int m_isDone, Value.int m_n, Value.ref a_map, Value.ref a_places, Value.int m_symbols, Value.ref a_symbol, Value.int m_groups, Value.int m_tables, Value.ref a_lengths, Value.ref a_taken, Value.ref a_codes, Value.ref a_list, Value.ref a_weights, Value.ref a_whole, Value.int m_lays, Value.int m_laid, Value.ref a_row, Value.int m_read_266, Value.int m_wrong_266, Value.int m_readMany, Value.ref a_readMap, Value.int m_readTables, Value.int m_readGroups, Value.ref a_readTaken, Value.ref a_readLengths, Value.ref a_readCodes, Value.int m_found_266, Value.ref a_foundBlock], ia cZ a_tape 1500 m_tape, ia cI a_list 256 m_p1_295, ia cI a_readMap 256 m_readMap, ia cI a_readTaken 31 m_readTaken, ia cI a_readLengths 774 m_readLengths, ia cI a_readCodes 774 m_readCodes, ia cI a_foundBlock 300 m_foundBlock_266]) (r := (RX9, TX9, 33)) (As := [.ref a_list, .int (x5_266 - (1 : Int32))]) (rest := [.int m_found_266, .ref a_foundBlock]) hx hb hml hown hts hK hW hA hl.1 (kMo_toFront l D cI cZ cO cG a_list a_self 256 m_list_266 (x5_266 - (1 : Int32)) e295) (cwV 2 hts gX9_readBlock_X9_toFront rfl rfl rfl (by decide +kernel) ⟨Nat.le_of_ble_eq_true rfl, Nat.le_of_ble_eq_true rfl⟩) 9 0 rfl rfl [2] [0, 1, 3, 4, 5, 6, 7] 8 rfl rfl rfl rfl [ob a_self 9 [Value.int m_signs, Value.ref a_block, Value.ref a_tape, Value.int m_bits, Value.int m_faultAt, Value.int m_isDone, Value.int m_n, Value.ref a_map, Value.ref a_places, Value.int m_symbols, Value.ref a_symbol, Value.int m_groups, Value.int m_tables, Value.ref a_lengths, Value.ref a_taken, Value.ref a_codes, Value.ref a_list, Value.ref a_weights, Value.ref a_whole, Value.int m_lays, Value.int m_laid, Value.ref a_row, Value.int m_read_266, Value.int m_wrong_266, Value.int m_readMany, Value.ref a_readMap, Value.int m_readTables, Value.int m_readGroups, Value.ref a_readTaken, Value.ref a_readLengths, Value.ref a_readCodes, Value.int m_found_266, Value.ref a_foundBlock], ia cZ a_tape 1500 m_tape, ia cI a_readMap 256 m_readMap, ia cI a_readTaken 31 m_readTaken, ia cI a_readLengths 774 m_readLengths, ia cI a_readCodes 774 m_readCodes, ia cI a_foundBlock 300 m_foundBlock_266] rfl rfl rfl rfl rfl (Nat.le_of_ble_eq_true rfl) rfl ⟨Nat.zero_le _, Nat.zero_le _⟩ dX9_readBlock_295 (fun H locs hW => ?_)
              obtain ⟨g298, hF⟩ := gdI_some hF
              refine va_iast hx hb hK.1 hW.1 hW.2.1 hW.2.2 7 0 rfl rfl g298 dX9_readBlock_298 (fun H locs hP hD hS => ?_)
              have hW : WS D A s [ob a_self 9 [Value.int m_signs, Value.ref a_block, Value.ref a_tape, Value.int m_bits, Value.int m_faultAt, Value.int m_isDone, Value.int m_n, Value.ref a_map, Value.ref a_places, Value.int m_symbols, Value.ref a_symbol, Value.int m_groups, Value.int m_tables, Value.ref a_lengths, Value.ref a_taken, Value.ref a_codes, Value.ref a_list, Value.ref a_weights, Value.ref a_whole, Value.int m_lays, Value.int m_laid, Value.ref a_row, Value.int m_read_266, Value.int m_wrong_266, Value.int m_readMany, Value.ref a_readMap, Value.int m_readTables, Value.int m_readGroups, Value.ref a_readTaken, Value.ref a_readLengths, Value.ref a_readCodes, Value.int m_found_266, Value.ref a_foundBlock], ia cZ a_tape 1500 m_tape, ia cI a_list 256 m_p1_295, ia cI a_readMap 256 m_readMap, ia cI a_readTaken 31 m_readTaken, ia cI a_readLengths 774 m_readLengths, ia cI a_readCodes 774 m_readCodes, ia cI a_foundBlock 300 (upd m_foundBlock_266 m_found_266.toNatClampNeg r_295)] H locs := ⟨hP, hD, hS⟩
              refine lv_aload_n hx hb dX9_readBlock_299 rfl (lv_at hl 1 rfl) ?_
              refine lv_dup hx hb dX9_readBlock_300 rfl ?_
              refine va_get (D := D) (ci := 9) (v := .int m_found_266) (C := RX9) (T := TX9) (N := 33) hx hb hts hi9 hown hK.1 hW.1 0 rfl rfl 31 (by decide) hw3 (fun _ h9 => h9) rfl dX9_readBlock_301 ?_
              refine lv_iconst (v := 1) hx hb dX9_readBlock_304 (by decide) ?_
              refine lv_iadd hx hb dX9_readBlock_305 ?_
              refine va_put (D := D) (ci := 9) (v := .int (m_found_266 + (1 : Int32))) (ty := .int) (C := RX9) (T := TX9) (N := 33) hx hb hts hi9 tyX9 tyX9_ok nmX9 hown hK.1 hW.1 hW.2.1 hW.2.2 0 rfl rfl 31 (by decide) hw3 (fun _ h9 => h9) rfl (by decide +kernel) rfl rfl (Nat.le_of_ble_eq_true rfl) dX9_readBlock_306 (fun H locs hP hD hS => ?_)
              have hW : WS D A s [ob a_self 9 [Value.int m_signs, Value.ref a_block, Value.ref a_tape, Value.int m_bits, Value.int m_faultAt, Value.int m_isDone, Value.int m_n, Value.ref a_map, Value.ref a_places, Value.int m_symbols, Value.ref a_symbol, Value.int m_groups, Value.int m_tables, Value.ref a_lengths, Value.ref a_taken, Value.ref a_codes, Value.ref a_list, Value.ref a_weights, Value.ref a_whole, Value.int m_lays, Value.int m_laid, Value.ref a_row, Value.int m_read_266, Value.int m_wrong_266, Value.int m_readMany, Value.ref a_readMap, Value.int m_readTables, Value.int m_readGroups, Value.ref a_readTaken, Value.ref a_readLengths, Value.ref a_readCodes, Value.int (m_found_266 + (1 : Int32)), Value.ref a_foundBlock], ia cZ a_tape 1500 m_tape, ia cI a_list 256 m_p1_295, ia cI a_readMap 256 m_readMap, ia cI a_readTaken 31 m_readTaken, ia cI a_readLengths 774 m_readLengths, ia cI a_readCodes 774 m_readCodes, ia cI a_foundBlock 300 (upd m_foundBlock_266 m_found_266.toNatClampNeg r_295)] H locs := ⟨hP, hD, hS⟩
              refine lv_goto (tgt := 42) hx hb dX9_readBlock_309 (by decide) ?_
              cases hF
              exact ih42 _ _ _ _ _ _ _ _ _ (itr_in hN42) _ _ hW _ (lv_sub hl [1, 2, 3, 0, 4] rfl)
        have hJ194 : ∀ (x1_194 : Int32) (x4_194 : Int32) (x5_194 : Int32) (m_read_194 : Int32) (m_wrong_194 : Int32) (m_found_194 : Int32) (m_list_194 : Nat → Int32) (m_foundBlock_194 : Nat → Int32) (t1_194 : Int32), fMo_readBlock_J194 m_readMany x1_194 x4_194 x5_194 m_read_194 m_wrong_194 m_found_194 m_list_194 m_foundBlock_194 t1_194 = some sr42 → ∀ (H : Heap) (locs : List Loc), WS D A s [ob a_self 9 [Value.int m_signs, Value.ref a_block, Value.ref a_tape, Value.int m_bits, Value.int m_faultAt, Value.int m_isDone, Value.int m_n, Value.ref a_map, Value.ref a_places, Value.int m_symbols, Value.ref a_symbol, Value.int m_groups, Value.int m_tables, Value.ref a_lengths, Value.ref a_taken, Value.ref a_codes, Value.ref a_list, Value.ref a_weights, Value.ref a_whole, Value.int m_lays, Value.int m_laid, Value.ref a_row, Value.int m_read_194, Value.int m_wrong_194, Value.int m_readMany, Value.ref a_readMap, Value.int m_readTables, Value.int m_readGroups, Value.ref a_readTaken, Value.ref a_readLengths, Value.ref a_readCodes, Value.int m_found_194, Value.ref a_foundBlock], ia cZ a_tape 1500 m_tape, ia cI a_list 256 m_list_194, ia cI a_readMap 256 m_readMap, ia cI a_readTaken 31 m_readTaken, ia cI a_readLengths 774 m_readLengths, ia cI a_readCodes 774 m_readCodes, ia cI a_foundBlock 300 m_foundBlock_194] H locs → ∀ ls : Array Slot, lv_has ls 7 [(0, .ref a_self), (1, .int x1_194), (4, .int x4_194), (5, .int x5_194)] → W p l e (headSpec wsX9_readBlock rmMo_readBlock).room s m args below meth c H locs 0 0 Q (F0 m 194 ls [.int t1_194, .ref a_self]) := by
          intro x1_194 x4_194 x5_194 m_read_194 m_wrong_194 m_found_194 m_list_194 m_foundBlock_194 t1_194 hF H locs hW ls hl
          unfold fMo_readBlock_J194 at hF
          refine lv_bipush (v := 8) hx hb dX9_readBlock_194 (by decide) ?_
          obtain ⟨m_wrong_196, e196, hF⟩ := bd1_some hF
          refine ctV (wn := [ob a_self 9 [Value.int m_signs, Value.ref a_block, Value.ref a_tape, Value.int m_bits, Value.int m_faultAt, Value.int m_isDone, Value.int m_n, Value.ref a_map, Value.ref a_places, Value.int m_symbols, Value.ref a_symbol, Value.int m_groups, Value.int m_tables, Value.ref a_lengths, Value.ref a_taken, Value.ref a_codes, Value.ref a_list, Value.ref a_weights, Value.ref a_whole, Value.int m_lays, Value.int m_laid, Value.ref a_row, Value.int m_read_194, Value.int m_wrong_196, Value.int m_readMany, Value.ref a_readMap, Value.int m_readTables, Value.int m_readGroups, Value.ref a_readTaken, Value.ref a_readLengths, Value.ref a_readCodes, Value.int m_found_194, Value.ref a_foundBlock], ia cZ a_tape 1500 m_tape, ia cI a_list 256 m_list_194, ia cI a_readMap 256 m_readMap, ia cI a_readTaken 31 m_readTaken, ia cI a_readLengths 774 m_readLengths, ia cI a_readCodes 774 m_readCodes, ia cI a_foundBlock 300 m_foundBlock_194]) (r := (RX9, TX9, 33)) (As := [.int t1_194, .int (8 : Int32)]) (rest := []) hx hb hml hown hts hK hW hA hl.1 (kMo_fails l D cI cZ cO cG a_self a_block a_tape a_map a_places a_symbol a_lengths a_taken a_codes a_list a_weights a_whole a_row a_readMap a_readTaken a_readLengths a_readCodes a_foundBlock m_signs m_bits m_faultAt m_isDone m_n m_symbols m_groups m_tables m_lays m_laid m_read_194 m_wrong_194 m_readMany m_readTables m_readGroups m_found_194 t1_194 (8 : Int32) e196) (cwV 2 hts gX9_readBlock_X9_fails rfl rfl rfl (by decide +kernel) ⟨Nat.le_of_ble_eq_true rfl, Nat.le_of_ble_eq_true rfl⟩) 9 0 rfl rfl [0] [1, 2, 3, 4, 5, 6, 7] 8 rfl rfl rfl rfl [ia cZ a_tape 1500 m_tape, ia cI a_list 256 m_list_194, ia cI a_readMap 256 m_readMap, ia cI a_readTaken 31 m_readTaken, ia cI a_readLengths 774 m_readLengths, ia cI a_readCodes 774 m_readCodes, ia cI a_foundBlock 300 m_foundBlock_194] rfl rfl rfl rfl rfl (Nat.le_of_ble_eq_true rfl) rfl ⟨Nat.zero_le _, Nat.zero_le _⟩ dX9_readBlock_196 (fun H locs hW => ?_)
          refine lv_iconst (v := 0) hx hb dX9_readBlock_199 (by decide) ?_
          refine lv_istore (lv' := [(6, .int (0 : Int32)), (0, .ref a_self), (1, .int x1_194), (4, .int x4_194), (5, .int x5_194)]) hx hb dX9_readBlock_200 hl (by decide) rfl (fun ls hl => ?_)
          obtain ⟨m_found_202ze, m_foundBlock_202ze, hI, hF⟩ := bd2_some hF
          obtain ⟨nn, hI⟩ := itrO_some hI
          have hX202 : ∀ (m_found_202z : Int32) (m_foundBlock_202z : Nat → Int32), (m_found_202z, m_foundBlock_202z) = (m_found_202ze, m_foundBlock_202ze) → ∀ (H : Heap) (locs : List Loc), WS D A s [ob a_self 9 [Value.int m_signs, Value.ref a_block, Value.ref a_tape, Value.int m_bits, Value.int m_faultAt, Value.int m_isDone, Value.int m_n, Value.ref a_map, Value.ref a_places, Value.int m_symbols, Value.ref a_symbol, Value.int m_groups, Value.int m_tables, Value.ref a_lengths, Value.ref a_taken, Value.ref a_codes, Value.ref a_list, Value.ref a_weights, Value.ref a_whole, Value.int m_lays, Value.int m_laid, Value.ref a_row, Value.int m_read_194, Value.int m_wrong_196, Value.int m_readMany, Value.ref a_readMap, Value.int m_readTables, Value.int m_readGroups, Value.ref a_readTaken, Value.ref a_readLengths, Value.ref a_readCodes, Value.int m_found_202z, Value.ref a_foundBlock], ia cZ a_tape 1500 m_tape, ia cI a_list 256 m_list_194, ia cI a_readMap 256 m_readMap, ia cI a_readTaken 31 m_readTaken, ia cI a_readLengths 774 m_readLengths, ia cI a_readCodes 774 m_readCodes, ia cI a_foundBlock 300 m_foundBlock_202z] H locs → ∀ ls : Array Slot, lv_has ls 7 [(0, .ref a_self), (4, .int x4_194), (5, .int x5_194)] → W p l e (headSpec wsX9_readBlock rmMo_readBlock).room s m args below meth c H locs 0 0 Q (F0 m 246 ls []) := by
            intro m_found_202z m_foundBlock_202z he H locs hW ls hl
            obtain ⟨hz0, hy0⟩ := Prod.mk.inj he
            subst hz0
            subst hy0
            refine lv_iconst (v := 0) hx hb dX9_readBlock_246 (by decide) ?_
            refine lv_istore_n (lv' := [(1, .int (0 : Int32)), (0, .ref a_self), (4, .int x4_194), (5, .int x5_194)]) hx hb dX9_readBlock_247 rfl hl (by decide) rfl (fun ls hl => ?_)
            refine lv_iconst (v := 1) hx hb dX9_readBlock_248 (by decide) ?_
            refine lv_istore_n (lv' := [(2, .int (1 : Int32)), (1, .int (0 : Int32)), (0, .ref a_self), (4, .int x4_194), (5, .int x5_194)]) hx hb dX9_readBlock_249 rfl hl (by decide) rfl (fun ls hl => ?_)
            refine lv_iload hx hb dX9_readBlock_250 (lv_at hl 4 rfl) ?_
            refine lv_aload_n hx hb dX9_readBlock_252 rfl (lv_at hl 2 rfl) ?_
            refine va_get (D := D) (ci := 9) (v := .int m_readMany) (C := RX9) (T := TX9) (N := 33) hx hb hts hi9 hown hK.1 hW.1 0 rfl rfl 24 (by decide) hw7 (fun _ h9 => h9) rfl dX9_readBlock_253 ?_
            refine lv_iconst (v := 1) hx hb dX9_readBlock_256 (by decide) ?_
            refine lv_iadd hx hb dX9_readBlock_257 ?_
            refine lv_icmp_ne (tgt := 265) hx hb dX9_readBlock_258 (by decide) (fun c258 => ?_) (fun c258 => ?_)
            · rw [if_neg c258] at hF
              refine lv_iconst (v := 0) hx hb dX9_readBlock_265 (by decide) ?_
              exact hJ266 _ _ _ _ _ _ _ _ _ _ hF _ _ hW _ (lv_sub hl [2, 1, 0, 3, 4] rfl)
            · rw [if_pos c258] at hF
              refine lv_iconst (v := 1) hx hb dX9_readBlock_261 (by decide) ?_
              refine lv_goto (tgt := 266) hx hb dX9_readBlock_262 (by decide) ?_
              exact hJ266 _ _ _ _ _ _ _ _ _ _ hF _ _ hW _ (lv_sub hl [2, 1, 0, 3, 4] rfl)
          have hL202 : ∀ (n202 : Nat) (x6_202 : Int32) (m_found_202 : Int32) (m_foundBlock_202 : Nat → Int32), itr (un3 (fMo_readBlock_L202 x1_194 m_list_194 m_wrong_196)) n202 (x6_202, m_found_202, m_foundBlock_202) = some (m_found_202ze, m_foundBlock_202ze) → ∀ (H : Heap) (locs : List Loc), WS D A s [ob a_self 9 [Value.int m_signs, Value.ref a_block, Value.ref a_tape, Value.int m_bits, Value.int m_faultAt, Value.int m_isDone, Value.int m_n, Value.ref a_map, Value.ref a_places, Value.int m_symbols, Value.ref a_symbol, Value.int m_groups, Value.int m_tables, Value.ref a_lengths, Value.ref a_taken, Value.ref a_codes, Value.ref a_list, Value.ref a_weights, Value.ref a_whole, Value.int m_lays, Value.int m_laid, Value.ref a_row, Value.int m_read_194, Value.int m_wrong_196, Value.int m_readMany, Value.ref a_readMap, Value.int m_readTables, Value.int m_readGroups, Value.ref a_readTaken, Value.ref a_readLengths, Value.ref a_readCodes, Value.int m_found_202, Value.ref a_foundBlock], ia cZ a_tape 1500 m_tape, ia cI a_list 256 m_list_194, ia cI a_readMap 256 m_readMap, ia cI a_readTaken 31 m_readTaken, ia cI a_readLengths 774 m_readLengths, ia cI a_readCodes 774 m_readCodes, ia cI a_foundBlock 300 m_foundBlock_202] H locs → ∀ ls : Array Slot, lv_has ls 7 [(0, .ref a_self), (1, .int x1_194), (4, .int x4_194), (5, .int x5_194), (6, .int x6_202)] → W p l e (headSpec wsX9_readBlock rmMo_readBlock).room s m args below meth c H locs 0 0 Q (F0 m 202 ls []) := by
            intro n202
            induction n202 with
            | zero => intro x6_202 m_found_202 m_foundBlock_202 hI; cases hI
            | succ n202 ih202 =>
              intro x6_202 m_found_202 m_foundBlock_202 hI H locs hW ls hl
              obtain ⟨sr202, hF, hN202⟩ := itr_succ hI
              have hF : fMo_readBlock_L202 x1_194 m_list_194 m_wrong_196 x6_202 m_found_202 m_foundBlock_202 = some sr202 := hF
              unfold fMo_readBlock_L202 at hF
              refine lv_iload hx hb dX9_readBlock_202 (lv_at hl 4 rfl) ?_
              refine lv_iload_n hx hb dX9_readBlock_204 rfl (lv_at hl 1 rfl) ?_
              refine lv_icmp_ge (tgt := 246) hx hb dX9_readBlock_205 (by decide) (fun c205 => ?_) (fun c205 => ?_)
              · rw [if_pos c205] at hF
                cases hF
                exact hX202 _ _ (itr_out hN202) _ _ hW _ (lv_sub hl [0, 2, 3] rfl)
              · rw [if_neg c205] at hF
                refine lv_aload_n hx hb dX9_readBlock_208 rfl (lv_at hl 0 rfl) ?_
                refine va_get (D := D) (ci := 9) (v := .int m_wrong_196) (C := RX9) (T := TX9) (N := 33) hx hb hts hi9 hown hK.1 hW.1 0 rfl rfl 23 (by decide) hw4 (fun _ h9 => h9) rfl dX9_readBlock_209 ?_
                refine lv_if_ne (tgt := 246) hx hb dX9_readBlock_212 (by decide) (fun c212 => ?_) (fun c212 => ?_)
                · rw [if_neg c212] at hF
                  cases hF
                  exact hX202 _ _ (itr_out hN202) _ _ hW _ (lv_sub hl [0, 2, 3] rfl)
                · rw [if_pos c212] at hF
                  refine lv_aload_n hx hb dX9_readBlock_215 rfl (lv_at hl 0 rfl) ?_
                  refine va_get (D := D) (ci := 9) (v := .ref a_foundBlock) (C := RX9) (T := TX9) (N := 33) hx hb hts hi9 hown hK.1 hW.1 0 rfl rfl 32 (by decide) hw5 (fun _ h9 => h9) rfl dX9_readBlock_216 ?_
                  refine lv_aload_n hx hb dX9_readBlock_219 rfl (lv_at hl 0 rfl) ?_
                  refine va_get (D := D) (ci := 9) (v := .int m_found_202) (C := RX9) (T := TX9) (N := 33) hx hb hts hi9 hown hK.1 hW.1 0 rfl rfl 31 (by decide) hw3 (fun _ h9 => h9) rfl dX9_readBlock_220 ?_
                  refine lv_aload_n hx hb dX9_readBlock_223 rfl (lv_at hl 0 rfl) ?_
                  refine va_get (D := D) (ci := 9) (v := .ref a_list) (C := RX9) (T := TX9) (N := 33) hx hb hts hi9 hown hK.1 hW.1 0 rfl rfl 16 (by decide) hw6 (fun _ h9 => h9) rfl dX9_readBlock_224 ?_
                  refine lv_iconst (v := 0) hx hb dX9_readBlock_227 (by decide) ?_
                  obtain ⟨g228, hF⟩ := gdI_some hF
                  refine va_iald hx hb hK.1 hW.1 2 0 rfl rfl g228 dX9_readBlock_228 ?_
                  obtain ⟨g229, hF⟩ := gdI_some hF
                  refine va_iast hx hb hK.1 hW.1 hW.2.1 hW.2.2 7 0 rfl rfl g229 dX9_readBlock_229 (fun H locs hP hD hS => ?_)
                  have hW : WS D A s [ob a_self 9 [Value.int m_signs, Value.ref a_block, Value.ref a_tape, Value.int m_bits, Value.int m_faultAt, Value.int m_isDone, Value.int m_n, Value.ref a_map, Value.ref a_places, Value.int m_symbols, Value.ref a_symbol, Value.int m_groups, Value.int m_tables, Value.ref a_lengths, Value.ref a_taken, Value.ref a_codes, Value.ref a_list, Value.ref a_weights, Value.ref a_whole, Value.int m_lays, Value.int m_laid, Value.ref a_row, Value.int m_read_194, Value.int m_wrong_196, Value.int m_readMany, Value.ref a_readMap, Value.int m_readTables, Value.int m_readGroups, Value.ref a_readTaken, Value.ref a_readLengths, Value.ref a_readCodes, Value.int m_found_202, Value.ref a_foundBlock], ia cZ a_tape 1500 m_tape, ia cI a_list 256 m_list_194, ia cI a_readMap 256 m_readMap, ia cI a_readTaken 31 m_readTaken, ia cI a_readLengths 774 m_readLengths, ia cI a_readCodes 774 m_readCodes, ia cI a_foundBlock 300 (upd m_foundBlock_202 m_found_202.toNatClampNeg (m_list_194 (0 : Int32).toNatClampNeg))] H locs := ⟨hP, hD, hS⟩
                  refine lv_aload_n hx hb dX9_readBlock_230 rfl (lv_at hl 0 rfl) ?_
                  refine lv_dup hx hb dX9_readBlock_231 rfl ?_
                  refine va_get (D := D) (ci := 9) (v := .int m_found_202) (C := RX9) (T := TX9) (N := 33) hx hb hts hi9 hown hK.1 hW.1 0 rfl rfl 31 (by decide) hw3 (fun _ h9 => h9) rfl dX9_readBlock_232 ?_
                  refine lv_iconst (v := 1) hx hb dX9_readBlock_235 (by decide) ?_
                  refine lv_iadd hx hb dX9_readBlock_236 ?_
                  refine va_put (D := D) (ci := 9) (v := .int (m_found_202 + (1 : Int32))) (ty := .int) (C := RX9) (T := TX9) (N := 33) hx hb hts hi9 tyX9 tyX9_ok nmX9 hown hK.1 hW.1 hW.2.1 hW.2.2 0 rfl rfl 31 (by decide) hw3 (fun _ h9 => h9) rfl (by decide +kernel) rfl rfl (Nat.le_of_ble_eq_true rfl) dX9_readBlock_237 (fun H locs hP hD hS => ?_)
                  have hW : WS D A s [ob a_self 9 [Value.int m_signs, Value.ref a_block, Value.ref a_tape, Value.int m_bits, Value.int m_faultAt, Value.int m_isDone, Value.int m_n, Value.ref a_map, Value.ref a_places, Value.int m_symbols, Value.ref a_symbol, Value.int m_groups, Value.int m_tables, Value.ref a_lengths, Value.ref a_taken, Value.ref a_codes, Value.ref a_list, Value.ref a_weights, Value.ref a_whole, Value.int m_lays, Value.int m_laid, Value.ref a_row, Value.int m_read_194, Value.int m_wrong_196, Value.int m_readMany, Value.ref a_readMap, Value.int m_readTables, Value.int m_readGroups, Value.ref a_readTaken, Value.ref a_readLengths, Value.ref a_readCodes, Value.int (m_found_202 + (1 : Int32)), Value.ref a_foundBlock], ia cZ a_tape 1500 m_tape, ia cI a_list 256 m_list_194, ia cI a_readMap 256 m_readMap, ia cI a_readTaken 31 m_readTaken, ia cI a_readLengths 774 m_readLengths, ia cI a_readCodes 774 m_readCodes, ia cI a_foundBlock 300 (upd m_foundBlock_202 m_found_202.toNatClampNeg (m_list_194 (0 : Int32).toNatClampNeg))] H locs := ⟨hP, hD, hS⟩
                  refine lv_iinc (v := (x6_202 + 1)) (lv' := [(6, .int (x6_202 + 1)), (0, .ref a_self), (1, .int x1_194), (4, .int x4_194), (5, .int x5_194)]) hx hb dX9_readBlock_240 hl (k := 4) rfl rfl (by decide) rfl (fun ls hl => ?_)
                  refine lv_goto (tgt := 202) hx hb dX9_readBlock_243 (by decide) ?_
                  cases hF
                  exact ih202 _ _ _ (itr_in hN202) _ _ hW _ (lv_sub hl [1, 2, 3, 4, 0] rfl)
          exact hL202 nn _ _ _ hI _ _ hW _ (lv_sub hl [1, 2, 3, 4, 0] rfl)
        have hJ193 : ∀ (x1_193 : Int32) (x4_193 : Int32) (x5_193 : Int32) (m_read_193 : Int32) (m_wrong_193 : Int32) (m_found_193 : Int32) (m_list_193 : Nat → Int32) (m_foundBlock_193 : Nat → Int32), fMo_readBlock_J193 m_readMany x1_193 x4_193 x5_193 m_read_193 m_wrong_193 m_found_193 m_list_193 m_foundBlock_193 = some sr42 → ∀ (H : Heap) (locs : List Loc), WS D A s [ob a_self 9 [Value.int m_signs, Value.ref a_block, Value.ref a_tape, Value.int m_bits, Value.int m_faultAt, Value.int m_isDone, Value.int m_n, Value.ref a_map, Value.ref a_places, Value.int m_symbols, Value.ref a_symbol, Value.int m_groups, Value.int m_tables, Value.ref a_lengths, Value.ref a_taken, Value.ref a_codes, Value.ref a_list, Value.ref a_weights, Value.ref a_whole, Value.int m_lays, Value.int m_laid, Value.ref a_row, Value.int m_read_193, Value.int m_wrong_193, Value.int m_readMany, Value.ref a_readMap, Value.int m_readTables, Value.int m_readGroups, Value.ref a_readTaken, Value.ref a_readLengths, Value.ref a_readCodes, Value.int m_found_193, Value.ref a_foundBlock], ia cZ a_tape 1500 m_tape, ia cI a_list 256 m_list_193, ia cI a_readMap 256 m_readMap, ia cI a_readTaken 31 m_readTaken, ia cI a_readLengths 774 m_readLengths, ia cI a_readCodes 774 m_readCodes, ia cI a_foundBlock 300 m_foundBlock_193] H locs → ∀ ls : Array Slot, lv_has ls 7 [(0, .ref a_self), (1, .int x1_193), (4, .int x4_193), (5, .int x5_193)] → W p l e (headSpec wsX9_readBlock rmMo_readBlock).room s m args below meth c H locs 0 0 Q (F0 m 193 ls [.ref a_self]) := by
          intro x1_193 x4_193 x5_193 m_read_193 m_wrong_193 m_found_193 m_list_193 m_foundBlock_193 hF H locs hW ls hl
          unfold fMo_readBlock_J193 at hF
          refine lv_iconst (v := 0) hx hb dX9_readBlock_193 (by decide) ?_
          exact hJ194 _ _ _ _ _ _ _ _ _ hF _ _ hW _ (lv_sub hl [0, 1, 2, 3] rfl)
        have hJ133 : ∀ (x2_133 : Int32) (x3_133 : Int32) (x4_133 : Int32) (m_read_133 : Int32) (m_wrong_133 : Int32) (m_found_133 : Int32) (m_list_133 : Nat → Int32) (m_foundBlock_133 : Nat → Int32) (t0_133 : Int32) (t1_133 : Int32), fMo_readBlock_J133 x2_133 x3_133 x4_133 m_read_133 m_wrong_133 m_found_133 m_list_133 m_foundBlock_133 t0_133 t1_133 = some sr42 → ∀ (H : Heap) (locs : List Loc), WS D A s [ob a_self 9 [Value.int m_signs, Value.ref a_block, Value.ref a_tape, Value.int m_bits, Value.int m_faultAt, Value.int m_isDone, Value.int m_n, Value.ref a_map, Value.ref a_places, Value.int m_symbols, Value.ref a_symbol, Value.int m_groups, Value.int m_tables, Value.ref a_lengths, Value.ref a_taken, Value.ref a_codes, Value.ref a_list, Value.ref a_weights, Value.ref a_whole, Value.int m_lays, Value.int m_laid, Value.ref a_row, Value.int m_read_133, Value.int m_wrong_133, Value.int m_readMany, Value.ref a_readMap, Value.int m_readTables, Value.int m_readGroups, Value.ref a_readTaken, Value.ref a_readLengths, Value.ref a_readCodes, Value.int m_found_133, Value.ref a_foundBlock], ia cZ a_tape 1500 m_tape, ia cI a_list 256 m_list_133, ia cI a_readMap 256 m_readMap, ia cI a_readTaken 31 m_readTaken, ia cI a_readLengths 774 m_readLengths, ia cI a_readCodes 774 m_readCodes, ia cI a_foundBlock 300 m_foundBlock_133] H locs → ∀ ls : Array Slot, lv_has ls 7 [(0, .ref a_self), (2, .int x2_133), (3, .int x3_133), (4, .int x4_133)] → W p l e (headSpec wsX9_readBlock rmMo_readBlock).room s m args below meth c H locs 0 0 Q (F0 m 133 ls [.int t1_133, .int t0_133]) := by
          intro x2_133 x3_133 x4_133 m_read_133 m_wrong_133 m_found_133 m_list_133 m_foundBlock_133 t0_133 t1_133 hF H locs hW ls hl
          unfold fMo_readBlock_J133 at hF
          refine lv_iadd hx hb dX9_readBlock_133 ?_
          refine lv_istore_n (lv' := [(1, .int (t0_133 + t1_133)), (0, .ref a_self), (2, .int x2_133), (3, .int x3_133), (4, .int x4_133)]) hx hb dX9_readBlock_134 rfl hl (by decide) rfl (fun ls hl => ?_)
          refine lv_iconst (v := 2) hx hb dX9_readBlock_135 (by decide) ?_
          refine lv_iload_n hx hb dX9_readBlock_136 rfl (lv_at hl 2 rfl) ?_
          refine lv_imul hx hb dX9_readBlock_137 ?_
          refine lv_istore_n (lv' := [(2, .int ((2 : Int32) * x2_133)), (1, .int (t0_133 + t1_133)), (0, .ref a_self), (3, .int x3_133), (4, .int x4_133)]) hx hb dX9_readBlock_138 rfl hl (by decide) rfl (fun ls hl => ?_)
          refine lv_aload_n hx hb dX9_readBlock_139 rfl (lv_at hl 2 rfl) ?_
          refine lv_aload_n hx hb dX9_readBlock_140 rfl (lv_at hl 2 rfl) ?_
          refine va_get (D := D) (ci := 9) (v := .int m_found_133) (C := RX9) (T := TX9) (N := 33) hx hb hts hi9 hown hK.1 hW.1 0 rfl rfl 31 (by decide) hw3 (fun _ h9 => h9) rfl dX9_readBlock_141 ?_
          refine lv_iload_n hx hb dX9_readBlock_144 rfl (lv_at hl 1 rfl) ?_
          refine lv_iadd hx hb dX9_readBlock_145 ?_
          refine lv_sipush (v := 300) hx hb dX9_readBlock_146 (by decide) ?_
          refine lv_icmp_le (tgt := 156) hx hb dX9_readBlock_149 (by decide) (fun c149 => ?_) (fun c149 => ?_)
          · rw [if_pos c149] at hF
            refine lv_iconst (v := 0) hx hb dX9_readBlock_156 (by decide) ?_
            refine lv_bipush (v := 8) hx hb dX9_readBlock_157 (by decide) ?_
            obtain ⟨m_wrong_159, e159, hF⟩ := bd1_some hF
            refine ctV (wn := [ob a_self 9 [Value.int m_signs, Value.ref a_block, Value.ref a_tape, Value.int m_bits, Value.int m_faultAt, Value.int m_isDone, Value.int m_n, Value.ref a_map, Value.ref a_places, Value.int m_symbols, Value.ref a_symbol, Value.int m_groups, Value.int m_tables, Value.ref a_lengths, Value.ref a_taken, Value.ref a_codes, Value.ref a_list, Value.ref a_weights, Value.ref a_whole, Value.int m_lays, Value.int m_laid, Value.ref a_row, Value.int m_read_133, Value.int m_wrong_159, Value.int m_readMany, Value.ref a_readMap, Value.int m_readTables, Value.int m_readGroups, Value.ref a_readTaken, Value.ref a_readLengths, Value.ref a_readCodes, Value.int m_found_133, Value.ref a_foundBlock], ia cZ a_tape 1500 m_tape, ia cI a_list 256 m_list_133, ia cI a_readMap 256 m_readMap, ia cI a_readTaken 31 m_readTaken, ia cI a_readLengths 774 m_readLengths, ia cI a_readCodes 774 m_readCodes, ia cI a_foundBlock 300 m_foundBlock_133]) (r := (RX9, TX9, 33)) (As := [.int (0 : Int32), .int (8 : Int32)]) (rest := []) hx hb hml hown hts hK hW hA hl.1 (kMo_fails l D cI cZ cO cG a_self a_block a_tape a_map a_places a_symbol a_lengths a_taken a_codes a_list a_weights a_whole a_row a_readMap a_readTaken a_readLengths a_readCodes a_foundBlock m_signs m_bits m_faultAt m_isDone m_n m_symbols m_groups m_tables m_lays m_laid m_read_133 m_wrong_133 m_readMany m_readTables m_readGroups m_found_133 (0 : Int32) (8 : Int32) e159) (cwV 2 hts gX9_readBlock_X9_fails rfl rfl rfl (by decide +kernel) ⟨Nat.le_of_ble_eq_true rfl, Nat.le_of_ble_eq_true rfl⟩) 9 0 rfl rfl [0] [1, 2, 3, 4, 5, 6, 7] 8 rfl rfl rfl rfl [ia cZ a_tape 1500 m_tape, ia cI a_list 256 m_list_133, ia cI a_readMap 256 m_readMap, ia cI a_readTaken 31 m_readTaken, ia cI a_readLengths 774 m_readLengths, ia cI a_readCodes 774 m_readCodes, ia cI a_foundBlock 300 m_foundBlock_133] rfl rfl rfl rfl rfl (Nat.le_of_ble_eq_true rfl) rfl ⟨Nat.zero_le _, Nat.zero_le _⟩ dX9_readBlock_159 (fun H locs hW => ?_)
            refine lv_goto (tgt := 309) hx hb dX9_readBlock_162 (by decide) ?_
            refine lv_goto (tgt := 42) hx hb dX9_readBlock_309 (by decide) ?_
            cases hF
            exact ih42 _ _ _ _ _ _ _ _ _ (itr_in hN42) _ _ hW _ (lv_sub hl [2, 1, 0, 3, 4] rfl)
          · rw [if_neg c149] at hF
            refine lv_iconst (v := 1) hx hb dX9_readBlock_152 (by decide) ?_
            refine lv_goto (tgt := 157) hx hb dX9_readBlock_153 (by decide) ?_
            refine lv_bipush (v := 8) hx hb dX9_readBlock_157 (by decide) ?_
            obtain ⟨m_wrong_159, e159, hF⟩ := bd1_some hF
            refine ctV (wn := [ob a_self 9 [Value.int m_signs, Value.ref a_block, Value.ref a_tape, Value.int m_bits, Value.int m_faultAt, Value.int m_isDone, Value.int m_n, Value.ref a_map, Value.ref a_places, Value.int m_symbols, Value.ref a_symbol, Value.int m_groups, Value.int m_tables, Value.ref a_lengths, Value.ref a_taken, Value.ref a_codes, Value.ref a_list, Value.ref a_weights, Value.ref a_whole, Value.int m_lays, Value.int m_laid, Value.ref a_row, Value.int m_read_133, Value.int m_wrong_159, Value.int m_readMany, Value.ref a_readMap, Value.int m_readTables, Value.int m_readGroups, Value.ref a_readTaken, Value.ref a_readLengths, Value.ref a_readCodes, Value.int m_found_133, Value.ref a_foundBlock], ia cZ a_tape 1500 m_tape, ia cI a_list 256 m_list_133, ia cI a_readMap 256 m_readMap, ia cI a_readTaken 31 m_readTaken, ia cI a_readLengths 774 m_readLengths, ia cI a_readCodes 774 m_readCodes, ia cI a_foundBlock 300 m_foundBlock_133]) (r := (RX9, TX9, 33)) (As := [.int (1 : Int32), .int (8 : Int32)]) (rest := []) hx hb hml hown hts hK hW hA hl.1 (kMo_fails l D cI cZ cO cG a_self a_block a_tape a_map a_places a_symbol a_lengths a_taken a_codes a_list a_weights a_whole a_row a_readMap a_readTaken a_readLengths a_readCodes a_foundBlock m_signs m_bits m_faultAt m_isDone m_n m_symbols m_groups m_tables m_lays m_laid m_read_133 m_wrong_133 m_readMany m_readTables m_readGroups m_found_133 (1 : Int32) (8 : Int32) e159) (cwV 2 hts gX9_readBlock_X9_fails rfl rfl rfl (by decide +kernel) ⟨Nat.le_of_ble_eq_true rfl, Nat.le_of_ble_eq_true rfl⟩) 9 0 rfl rfl [0] [1, 2, 3, 4, 5, 6, 7] 8 rfl rfl rfl rfl [ia cZ a_tape 1500 m_tape, ia cI a_list 256 m_list_133, ia cI a_readMap 256 m_readMap, ia cI a_readTaken 31 m_readTaken, ia cI a_readLengths 774 m_readLengths, ia cI a_readCodes 774 m_readCodes, ia cI a_foundBlock 300 m_foundBlock_133] rfl rfl rfl rfl rfl (Nat.le_of_ble_eq_true rfl) rfl ⟨Nat.zero_le _, Nat.zero_le _⟩ dX9_readBlock_159 (fun H locs hW => ?_)
            refine lv_goto (tgt := 309) hx hb dX9_readBlock_162 (by decide) ?_
            refine lv_goto (tgt := 42) hx hb dX9_readBlock_309 (by decide) ?_
            cases hF
            exact ih42 _ _ _ _ _ _ _ _ _ (itr_in hN42) _ _ hW _ (lv_sub hl [2, 1, 0, 3, 4] rfl)
        have hJ101 : ∀ (x1_101 : Int32) (x2_101 : Int32) (x3_101 : Int32) (x4_101 : Int32) (m_read_101 : Int32) (m_wrong_101 : Int32) (m_found_101 : Int32) (m_list_101 : Nat → Int32) (m_foundBlock_101 : Nat → Int32) (t0_101 : Int32), fMo_readBlock_J101 m_readMany x1_101 x2_101 x3_101 x4_101 m_read_101 m_wrong_101 m_found_101 m_list_101 m_foundBlock_101 t0_101 = some sr42 → ∀ (H : Heap) (locs : List Loc), WS D A s [ob a_self 9 [Value.int m_signs, Value.ref a_block, Value.ref a_tape, Value.int m_bits, Value.int m_faultAt, Value.int m_isDone, Value.int m_n, Value.ref a_map, Value.ref a_places, Value.int m_symbols, Value.ref a_symbol, Value.int m_groups, Value.int m_tables, Value.ref a_lengths, Value.ref a_taken, Value.ref a_codes, Value.ref a_list, Value.ref a_weights, Value.ref a_whole, Value.int m_lays, Value.int m_laid, Value.ref a_row, Value.int m_read_101, Value.int m_wrong_101, Value.int m_readMany, Value.ref a_readMap, Value.int m_readTables, Value.int m_readGroups, Value.ref a_readTaken, Value.ref a_readLengths, Value.ref a_readCodes, Value.int m_found_101, Value.ref a_foundBlock], ia cZ a_tape 1500 m_tape, ia cI a_list 256 m_list_101, ia cI a_readMap 256 m_readMap, ia cI a_readTaken 31 m_readTaken, ia cI a_readLengths 774 m_readLengths, ia cI a_readCodes 774 m_readCodes, ia cI a_foundBlock 300 m_foundBlock_101] H locs → ∀ ls : Array Slot, lv_has ls 7 [(0, .ref a_self), (1, .int x1_101), (2, .int x2_101), (3, .int x3_101), (4, .int x4_101)] → W p l e (headSpec wsX9_readBlock rmMo_readBlock).room s m args below meth c H locs 0 0 Q (F0 m 101 ls [.int t0_101]) := by
          intro x1_101 x2_101 x3_101 x4_101 m_read_101 m_wrong_101 m_found_101 m_list_101 m_foundBlock_101 t0_101 hF H locs hW ls hl
          unfold fMo_readBlock_J101 at hF
          refine lv_istore (lv' := [(5, .int t0_101), (0, .ref a_self), (1, .int x1_101), (2, .int x2_101), (3, .int x3_101), (4, .int x4_101)]) hx hb dX9_readBlock_101 hl (by decide) rfl (fun ls hl => ?_)
          refine lv_iinc (v := (x4_101 + 1)) (lv' := [(4, .int (x4_101 + 1)), (5, .int t0_101), (0, .ref a_self), (1, .int x1_101), (2, .int x2_101), (3, .int x3_101)]) hx hb dX9_readBlock_103 hl (k := 5) rfl rfl (by decide) rfl (fun ls hl => ?_)
          refine lv_aload_n hx hb dX9_readBlock_106 rfl (lv_at hl 2 rfl) ?_
          refine va_get (D := D) (ci := 9) (v := .int m_wrong_101) (C := RX9) (T := TX9) (N := 33) hx hb hts hi9 hown hK.1 hW.1 0 rfl rfl 23 (by decide) hw4 (fun _ h9 => h9) rfl dX9_readBlock_107 ?_
          refine lv_if_le (tgt := 114) hx hb dX9_readBlock_110 (by decide) (fun c110 => ?_) (fun c110 => ?_)
          · rw [if_pos c110] at hF
            refine lv_iload hx hb dX9_readBlock_114 (lv_at hl 1 rfl) ?_
            refine lv_iconst (v := 2) hx hb dX9_readBlock_116 (by decide) ?_
            refine lv_icmp_ge (tgt := 165) hx hb dX9_readBlock_117 (by decide) (fun c117 => ?_) (fun c117 => ?_)
            · rw [if_pos c117] at hF
              refine lv_aload_n hx hb dX9_readBlock_165 rfl (lv_at hl 2 rfl) ?_
              refine lv_iload hx hb dX9_readBlock_166 (lv_at hl 1 rfl) ?_
              refine lv_aload_n hx hb dX9_readBlock_168 rfl (lv_at hl 2 rfl) ?_
              refine va_get (D := D) (ci := 9) (v := .int m_readMany) (C := RX9) (T := TX9) (N := 33) hx hb hts hi9 hown hK.1 hW.1 0 rfl rfl 24 (by decide) hw7 (fun _ h9 => h9) rfl dX9_readBlock_169 ?_
              refine lv_icmp_gt (tgt := 193) hx hb dX9_readBlock_172 (by decide) (fun c172 => ?_) (fun c172 => ?_)
              · rw [if_pos c172] at hF
                exact hJ193 _ _ _ _ _ _ _ _ hF _ _ hW _ (lv_sub hl [2, 3, 0, 1] rfl)
              · rw [if_neg c172] at hF
                refine lv_aload_n hx hb dX9_readBlock_175 rfl (lv_at hl 2 rfl) ?_
                refine va_get (D := D) (ci := 9) (v := .int m_found_101) (C := RX9) (T := TX9) (N := 33) hx hb hts hi9 hown hK.1 hW.1 0 rfl rfl 31 (by decide) hw3 (fun _ h9 => h9) rfl dX9_readBlock_176 ?_
                refine lv_iload_n hx hb dX9_readBlock_179 rfl (lv_at hl 3 rfl) ?_
                refine lv_iadd hx hb dX9_readBlock_180 ?_
                refine lv_iconst (v := 1) hx hb dX9_readBlock_181 (by decide) ?_
                refine lv_iadd hx hb dX9_readBlock_182 ?_
                refine lv_sipush (v := 300) hx hb dX9_readBlock_183 (by decide) ?_
                refine lv_icmp_le (tgt := 193) hx hb dX9_readBlock_186 (by decide) (fun c186 => ?_) (fun c186 => ?_)
                · rw [if_pos c186] at hF
                  exact hJ193 _ _ _ _ _ _ _ _ hF _ _ hW _ (lv_sub hl [2, 3, 0, 1] rfl)
                · rw [if_neg c186] at hF
                  refine lv_iconst (v := 1) hx hb dX9_readBlock_189 (by decide) ?_
                  refine lv_goto (tgt := 194) hx hb dX9_readBlock_190 (by decide) ?_
                  exact hJ194 _ _ _ _ _ _ _ _ _ hF _ _ hW _ (lv_sub hl [2, 3, 0, 1] rfl)
            · rw [if_neg c117] at hF
              refine lv_iload_n hx hb dX9_readBlock_120 rfl (lv_at hl 3 rfl) ?_
              refine lv_iload hx hb dX9_readBlock_121 (lv_at hl 1 rfl) ?_
              refine lv_if_ne (tgt := 130) hx hb dX9_readBlock_123 (by decide) (fun c123 => ?_) (fun c123 => ?_)
              · rw [if_neg c123] at hF
                refine lv_iconst (v := 2) hx hb dX9_readBlock_130 (by decide) ?_
                refine lv_iload_n hx hb dX9_readBlock_131 rfl (lv_at hl 4 rfl) ?_
                refine lv_imul hx hb dX9_readBlock_132 ?_
                exact hJ133 _ _ _ _ _ _ _ _ _ _ hF _ _ hW _ (lv_sub hl [2, 4, 5, 0] rfl)
              · rw [if_pos c123] at hF
                refine lv_iload_n hx hb dX9_readBlock_126 rfl (lv_at hl 4 rfl) ?_
                refine lv_goto (tgt := 133) hx hb dX9_readBlock_127 (by decide) ?_
                exact hJ133 _ _ _ _ _ _ _ _ _ _ hF _ _ hW _ (lv_sub hl [2, 4, 5, 0] rfl)
          · rw [if_neg c110] at hF
            cases hF
            have hq0 := itr_out hN42
            subst hq0
            have hF := bs_inr hq42
            cases hF
            subst hQ
            exact ct_vret hx hb hr hlocks hW.1 hW.2.2 dX9_readBlock_113
        have hJ71 : ∀ (x1_71 : Int32) (x2_71 : Int32) (x3_71 : Int32) (x4_71 : Int32) (m_read_71 : Int32) (m_wrong_71 : Int32) (m_found_71 : Int32) (m_list_71 : Nat → Int32) (m_foundBlock_71 : Nat → Int32) (t1_71 : Int32), fMo_readBlock_J71 m_bits m_readMany m_tape m_readTaken m_readLengths m_readCodes x1_71 x2_71 x3_71 x4_71 m_read_71 m_wrong_71 m_found_71 m_list_71 m_foundBlock_71 t1_71 = some sr42 → ∀ (H : Heap) (locs : List Loc), WS D A s [ob a_self 9 [Value.int m_signs, Value.ref a_block, Value.ref a_tape, Value.int m_bits, Value.int m_faultAt, Value.int m_isDone, Value.int m_n, Value.ref a_map, Value.ref a_places, Value.int m_symbols, Value.ref a_symbol, Value.int m_groups, Value.int m_tables, Value.ref a_lengths, Value.ref a_taken, Value.ref a_codes, Value.ref a_list, Value.ref a_weights, Value.ref a_whole, Value.int m_lays, Value.int m_laid, Value.ref a_row, Value.int m_read_71, Value.int m_wrong_71, Value.int m_readMany, Value.ref a_readMap, Value.int m_readTables, Value.int m_readGroups, Value.ref a_readTaken, Value.ref a_readLengths, Value.ref a_readCodes, Value.int m_found_71, Value.ref a_foundBlock], ia cZ a_tape 1500 m_tape, ia cI a_list 256 m_list_71, ia cI a_readMap 256 m_readMap, ia cI a_readTaken 31 m_readTaken, ia cI a_readLengths 774 m_readLengths, ia cI a_readCodes 774 m_readCodes, ia cI a_foundBlock 300 m_foundBlock_71] H locs → ∀ ls : Array Slot, lv_has ls 7 [(0, .ref a_self), (1, .int x1_71), (2, .int x2_71), (3, .int x3_71), (4, .int x4_71)] → W p l e (headSpec wsX9_readBlock rmMo_readBlock).room s m args below meth c H locs 0 0 Q (F0 m 71 ls [.int t1_71, .ref a_self]) := by
          intro x1_71 x2_71 x3_71 x4_71 m_read_71 m_wrong_71 m_found_71 m_list_71 m_foundBlock_71 t1_71 hF H locs hW ls hl
          unfold fMo_readBlock_J71 at hF
          refine lv_bipush (v := 9) hx hb dX9_readBlock_71 (by decide) ?_
          obtain ⟨m_wrong_73, e73, hF⟩ := bd1_some hF
          refine ctV (wn := [ob a_self 9 [Value.int m_signs, Value.ref a_block, Value.ref a_tape, Value.int m_bits, Value.int m_faultAt, Value.int m_isDone, Value.int m_n, Value.ref a_map, Value.ref a_places, Value.int m_symbols, Value.ref a_symbol, Value.int m_groups, Value.int m_tables, Value.ref a_lengths, Value.ref a_taken, Value.ref a_codes, Value.ref a_list, Value.ref a_weights, Value.ref a_whole, Value.int m_lays, Value.int m_laid, Value.ref a_row, Value.int m_read_71, Value.int m_wrong_73, Value.int m_readMany, Value.ref a_readMap, Value.int m_readTables, Value.int m_readGroups, Value.ref a_readTaken, Value.ref a_readLengths, Value.ref a_readCodes, Value.int m_found_71, Value.ref a_foundBlock], ia cZ a_tape 1500 m_tape, ia cI a_list 256 m_list_71, ia cI a_readMap 256 m_readMap, ia cI a_readTaken 31 m_readTaken, ia cI a_readLengths 774 m_readLengths, ia cI a_readCodes 774 m_readCodes, ia cI a_foundBlock 300 m_foundBlock_71]) (r := (RX9, TX9, 33)) (As := [.int t1_71, .int (9 : Int32)]) (rest := []) hx hb hml hown hts hK hW hA hl.1 (kMo_fails l D cI cZ cO cG a_self a_block a_tape a_map a_places a_symbol a_lengths a_taken a_codes a_list a_weights a_whole a_row a_readMap a_readTaken a_readLengths a_readCodes a_foundBlock m_signs m_bits m_faultAt m_isDone m_n m_symbols m_groups m_tables m_lays m_laid m_read_71 m_wrong_71 m_readMany m_readTables m_readGroups m_found_71 t1_71 (9 : Int32) e73) (cwV 2 hts gX9_readBlock_X9_fails rfl rfl rfl (by decide +kernel) ⟨Nat.le_of_ble_eq_true rfl, Nat.le_of_ble_eq_true rfl⟩) 9 0 rfl rfl [0] [1, 2, 3, 4, 5, 6, 7] 8 rfl rfl rfl rfl [ia cZ a_tape 1500 m_tape, ia cI a_list 256 m_list_71, ia cI a_readMap 256 m_readMap, ia cI a_readTaken 31 m_readTaken, ia cI a_readLengths 774 m_readLengths, ia cI a_readCodes 774 m_readCodes, ia cI a_foundBlock 300 m_foundBlock_71] rfl rfl rfl rfl rfl (Nat.le_of_ble_eq_true rfl) rfl ⟨Nat.zero_le _, Nat.zero_le _⟩ dX9_readBlock_73 (fun H locs hW => ?_)
          refine lv_aload_n hx hb dX9_readBlock_76 rfl (lv_at hl 0 rfl) ?_
          refine va_get (D := D) (ci := 9) (v := .int m_wrong_73) (C := RX9) (T := TX9) (N := 33) hx hb hts hi9 hown hK.1 hW.1 0 rfl rfl 23 (by decide) hw4 (fun _ h9 => h9) rfl dX9_readBlock_77 ?_
          refine lv_if_ne (tgt := 100) hx hb dX9_readBlock_80 (by decide) (fun c80 => ?_) (fun c80 => ?_)
          · rw [if_neg c80] at hF
            refine lv_iconst (v := (-1)) hx hb dX9_readBlock_100 (by decide) ?_
            exact hJ101 _ _ _ _ _ _ _ _ _ _ hF _ _ hW _ (lv_sub hl [0, 1, 2, 3, 4] rfl)
          · rw [if_pos c80] at hF
            refine lv_aload_n hx hb dX9_readBlock_83 rfl (lv_at hl 0 rfl) ?_
            refine lv_aload_n hx hb dX9_readBlock_84 rfl (lv_at hl 0 rfl) ?_
            refine va_get (D := D) (ci := 9) (v := .ref a_readTaken) (C := RX9) (T := TX9) (N := 33) hx hb hts hi9 hown hK.1 hW.1 0 rfl rfl 28 (by decide) hw8 (fun _ h9 => h9) rfl dX9_readBlock_85 ?_
            refine lv_iload hx hb dX9_readBlock_88 (lv_at hl 4 rfl) ?_
            refine lv_bipush (v := 10) hx hb dX9_readBlock_90 (by decide) ?_
            refine lv_idiv hx hb dX9_readBlock_92 (by decide) ?_
            obtain ⟨g93, hF⟩ := gdI_some hF
            refine va_iald hx hb hK.1 hW.1 4 0 rfl rfl g93 dX9_readBlock_93 ?_
            obtain ⟨r_94, m_read_94, m_wrong_94, e94, hF⟩ := bd3_some hF
            refine ctV (wn := [ob a_self 9 [Value.int m_signs, Value.ref a_block, Value.ref a_tape, Value.int m_bits, Value.int m_faultAt, Value.int m_isDone, Value.int m_n, Value.ref a_map, Value.ref a_places, Value.int m_symbols, Value.ref a_symbol, Value.int m_groups, Value.int m_tables, Value.ref a_lengths, Value.ref a_taken, Value.ref a_codes, Value.ref a_list, Value.ref a_weights, Value.ref a_whole, Value.int m_lays, Value.int m_laid, Value.ref a_row, Value.int m_read_94, Value.int m_wrong_94, Value.int m_readMany, Value.ref a_readMap, Value.int m_readTables, Value.int m_readGroups, Value.ref a_readTaken, Value.ref a_readLengths, Value.ref a_readCodes, Value.int m_found_71, Value.ref a_foundBlock], ia cZ a_tape 1500 m_tape, ia cI a_list 256 m_list_71, ia cI a_readMap 256 m_readMap, ia cI a_readTaken 31 m_readTaken, ia cI a_readLengths 774 m_readLengths, ia cI a_readCodes 774 m_readCodes, ia cI a_foundBlock 300 m_foundBlock_71]) (r := (RX9, TX9, 33)) (As := [.int (m_readTaken (x4_71 / (10 : Int32)).toNatClampNeg)]) (rest := []) hx hb hml hown hts hK hW hA hl.1 (kMo_readSymbol l D cI cZ cO cG a_self a_block a_tape a_map a_places a_symbol a_lengths a_taken a_codes a_list a_weights a_whole a_row a_readMap a_readTaken a_readLengths a_readCodes a_foundBlock m_signs m_bits m_faultAt m_isDone m_n m_symbols m_groups m_tables m_lays m_laid m_read_71 m_wrong_73 m_readMany m_readTables m_readGroups m_found_71 m_tape m_readLengths m_readCodes (m_readTaken (x4_71 / (10 : Int32)).toNatClampNeg) e94) (cwV 1 hts gX9_readBlock_X9_readSymbol rfl rfl rfl (by decide +kernel) ⟨Nat.le_of_ble_eq_true rfl, Nat.le_of_ble_eq_true rfl⟩) 9 0 rfl rfl [0, 1, 5, 6] [2, 3, 4, 7] 8 rfl rfl rfl rfl [ia cI a_list 256 m_list_71, ia cI a_readMap 256 m_readMap, ia cI a_readTaken 31 m_readTaken, ia cI a_foundBlock 300 m_foundBlock_71] rfl rfl rfl rfl rfl (Nat.le_of_ble_eq_true rfl) rfl ⟨Nat.zero_le _, Nat.zero_le _⟩ dX9_readBlock_94 (fun H locs hW => ?_)
            refine lv_goto (tgt := 101) hx hb dX9_readBlock_97 (by decide) ?_
            exact hJ101 _ _ _ _ _ _ _ _ _ _ hF _ _ hW _ (lv_sub hl [0, 1, 2, 3, 4] rfl)
        refine lv_iload_n hx hb dX9_readBlock_42 rfl (lv_at hl 3 rfl) ?_
        refine lv_if_ne (tgt := 312) hx hb dX9_readBlock_43 (by decide) (fun c43 => ?_) (fun c43 => ?_)
        · rw [if_neg c43] at hF
          cases hF
          exact hX42 _ _ _ _ _ _ (itr_out hN42) _ _ hW _ (lv_sub hl [0, 4] rfl)
        · rw [if_pos c43] at hF
          refine lv_aload_n hx hb dX9_readBlock_46 rfl (lv_at hl 0 rfl) ?_
          refine va_get (D := D) (ci := 9) (v := .int m_wrong_42) (C := RX9) (T := TX9) (N := 33) hx hb hts hi9 hown hK.1 hW.1 0 rfl rfl 23 (by decide) hw4 (fun _ h9 => h9) rfl dX9_readBlock_47 ?_
          refine lv_if_ne (tgt := 312) hx hb dX9_readBlock_50 (by decide) (fun c50 => ?_) (fun c50 => ?_)
          · rw [if_neg c50] at hF
            cases hF
            exact hX42 _ _ _ _ _ _ (itr_out hN42) _ _ hW _ (lv_sub hl [0, 4] rfl)
          · rw [if_pos c50] at hF
            refine lv_aload_n hx hb dX9_readBlock_53 rfl (lv_at hl 0 rfl) ?_
            refine lv_iload hx hb dX9_readBlock_54 (lv_at hl 4 rfl) ?_
            refine lv_bipush (v := 10) hx hb dX9_readBlock_56 (by decide) ?_
            refine lv_aload_n hx hb dX9_readBlock_58 rfl (lv_at hl 0 rfl) ?_
            refine va_get (D := D) (ci := 9) (v := .int m_readGroups) (C := RX9) (T := TX9) (N := 33) hx hb hts hi9 hown hK.1 hW.1 0 rfl rfl 27 (by decide) hw0 (fun _ h9 => h9) rfl dX9_readBlock_59 ?_
            refine lv_imul hx hb dX9_readBlock_62 ?_
            refine lv_icmp_ne (tgt := 70) hx hb dX9_readBlock_63 (by decide) (fun c63 => ?_) (fun c63 => ?_)
            · rw [if_neg c63] at hF
              refine lv_iconst (v := 0) hx hb dX9_readBlock_70 (by decide) ?_
              exact hJ71 _ _ _ _ _ _ _ _ _ _ hF _ _ hW _ (lv_sub hl [0, 1, 2, 3, 4] rfl)
            · rw [if_pos c63] at hF
              refine lv_iconst (v := 1) hx hb dX9_readBlock_66 (by decide) ?_
              refine lv_goto (tgt := 71) hx hb dX9_readBlock_67 (by decide) ?_
              exact hJ71 _ _ _ _ _ _ _ _ _ _ hF _ _ hW _ (lv_sub hl [0, 1, 2, 3, 4] rfl)
    exact hL42 nn _ _ _ _ _ _ _ _ _ hI _ _ hW _ (lv_sub hl [4, 3, 2, 1, 0] rfl)
  have hL2 : ∀ (n2 : Nat) (x1_2 : Int32) (m_list_2 : Nat → Int32), itr (un2 (fMo_readBlock_L2 m_readMany m_readMap)) n2 (x1_2, m_list_2) = some m_list_2ze → ∀ (H : Heap) (locs : List Loc), WS D A s [ob a_self 9 [Value.int m_signs, Value.ref a_block, Value.ref a_tape, Value.int m_bits, Value.int m_faultAt, Value.int m_isDone, Value.int m_n, Value.ref a_map, Value.ref a_places, Value.int m_symbols, Value.ref a_symbol, Value.int m_groups, Value.int m_tables, Value.ref a_lengths, Value.ref a_taken, Value.ref a_codes, Value.ref a_list, Value.ref a_weights, Value.ref a_whole, Value.int m_lays, Value.int m_laid, Value.ref a_row, Value.int m_read, Value.int m_wrong, Value.int m_readMany, Value.ref a_readMap, Value.int m_readTables, Value.int m_readGroups, Value.ref a_readTaken, Value.ref a_readLengths, Value.ref a_readCodes, Value.int m_found, Value.ref a_foundBlock], ia cZ a_tape 1500 m_tape, ia cI a_list 256 m_list_2, ia cI a_readMap 256 m_readMap, ia cI a_readTaken 31 m_readTaken, ia cI a_readLengths 774 m_readLengths, ia cI a_readCodes 774 m_readCodes, ia cI a_foundBlock 300 m_foundBlock] H locs → ∀ ls : Array Slot, lv_has ls 7 [(0, .ref a_self), (1, .int x1_2)] → W p l e (headSpec wsX9_readBlock rmMo_readBlock).room s m args below meth c H locs 0 0 Q (F0 m 2 ls []) := by
    intro n2
    induction n2 with
    | zero => intro x1_2 m_list_2 hI; cases hI
    | succ n2 ih2 =>
      intro x1_2 m_list_2 hI H locs hW ls hl
      obtain ⟨sr2, hF, hN2⟩ := itr_succ hI
      have hF : fMo_readBlock_L2 m_readMany m_readMap x1_2 m_list_2 = some sr2 := hF
      unfold fMo_readBlock_L2 at hF
      refine lv_iload_n hx hb dX9_readBlock_2 rfl (lv_at hl 1 rfl) ?_
      refine lv_aload_n hx hb dX9_readBlock_3 rfl (lv_at hl 0 rfl) ?_
      refine va_get (D := D) (ci := 9) (v := .int m_readMany) (C := RX9) (T := TX9) (N := 33) hx hb hts hi9 hown hK.1 hW.1 0 rfl rfl 24 (by decide) hw7 (fun _ h9 => h9) rfl dX9_readBlock_4 ?_
      refine lv_icmp_ge (tgt := 28) hx hb dX9_readBlock_7 (by decide) (fun c7 => ?_) (fun c7 => ?_)
      · rw [if_pos c7] at hF
        cases hF
        exact hX2 _ (itr_out hN2) _ _ hW _ (lv_sub hl [0] rfl)
      · rw [if_neg c7] at hF
        refine lv_aload_n hx hb dX9_readBlock_10 rfl (lv_at hl 0 rfl) ?_
        refine va_get (D := D) (ci := 9) (v := .ref a_list) (C := RX9) (T := TX9) (N := 33) hx hb hts hi9 hown hK.1 hW.1 0 rfl rfl 16 (by decide) hw6 (fun _ h9 => h9) rfl dX9_readBlock_11 ?_
        refine lv_iload_n hx hb dX9_readBlock_14 rfl (lv_at hl 1 rfl) ?_
        refine lv_aload_n hx hb dX9_readBlock_15 rfl (lv_at hl 0 rfl) ?_
        refine va_get (D := D) (ci := 9) (v := .ref a_readMap) (C := RX9) (T := TX9) (N := 33) hx hb hts hi9 hown hK.1 hW.1 0 rfl rfl 25 (by decide) hw9 (fun _ h9 => h9) rfl dX9_readBlock_16 ?_
        refine lv_iload_n hx hb dX9_readBlock_19 rfl (lv_at hl 1 rfl) ?_
        obtain ⟨g20, hF⟩ := gdI_some hF
        refine va_iald hx hb hK.1 hW.1 3 0 rfl rfl g20 dX9_readBlock_20 ?_
        obtain ⟨g21, hF⟩ := gdI_some hF
        refine va_iast hx hb hK.1 hW.1 hW.2.1 hW.2.2 2 0 rfl rfl g21 dX9_readBlock_21 (fun H locs hP hD hS => ?_)
        have hW : WS D A s [ob a_self 9 [Value.int m_signs, Value.ref a_block, Value.ref a_tape, Value.int m_bits, Value.int m_faultAt, Value.int m_isDone, Value.int m_n, Value.ref a_map, Value.ref a_places, Value.int m_symbols, Value.ref a_symbol, Value.int m_groups, Value.int m_tables, Value.ref a_lengths, Value.ref a_taken, Value.ref a_codes, Value.ref a_list, Value.ref a_weights, Value.ref a_whole, Value.int m_lays, Value.int m_laid, Value.ref a_row, Value.int m_read, Value.int m_wrong, Value.int m_readMany, Value.ref a_readMap, Value.int m_readTables, Value.int m_readGroups, Value.ref a_readTaken, Value.ref a_readLengths, Value.ref a_readCodes, Value.int m_found, Value.ref a_foundBlock], ia cZ a_tape 1500 m_tape, ia cI a_list 256 (upd m_list_2 x1_2.toNatClampNeg (m_readMap x1_2.toNatClampNeg)), ia cI a_readMap 256 m_readMap, ia cI a_readTaken 31 m_readTaken, ia cI a_readLengths 774 m_readLengths, ia cI a_readCodes 774 m_readCodes, ia cI a_foundBlock 300 m_foundBlock] H locs := ⟨hP, hD, hS⟩
        refine lv_iinc (v := (x1_2 + 1)) (lv' := [(1, .int (x1_2 + 1)), (0, .ref a_self)]) hx hb dX9_readBlock_22 hl (k := 1) rfl rfl (by decide) rfl (fun ls hl => ?_)
        refine lv_goto (tgt := 2) hx hb dX9_readBlock_25 (by decide) ?_
        cases hF
        exact ih2 _ _ (itr_in hN2) _ _ hW _ (lv_sub hl [1, 0] rfl)
  exact hL2 nn _ _ hI _ _ hW _ (lv_sub hl [1, 0] rfl)
