abbrev rmMo_work : Room := { frames := 2, cells := 0, slots := 0, locals := 50 }
set_option maxHeartbeats 4000000 in
set_option maxRecDepth 100000 in
theorem kMo_work (l : Launch) (D : va_G) (cI cZ cO cG : ClassId) (a_self : Nat) (a_block : Nat) (a_tape : Nat) (a_map : Nat) (a_places : Nat) (a_symbol : Nat) (a_lengths : Nat) (a_taken : Nat) (a_codes : Nat) (a_list : Nat) (a_weights : Nat) (a_whole : Nat) (a_row : Nat) (a_readMap : Nat) (a_readTaken : Nat) (a_readLengths : Nat) (a_readCodes : Nat) (a_foundBlock : Nat) (m_signs : Int32) (m_bits : Int32) (m_faultAt : Int32) (m_isDone : Int32) (m_n : Int32) (m_symbols : Int32) (m_groups : Int32) (m_tables : Int32) (m_lays : Int32) (m_laid : Int32) (m_read : Int32) (m_wrong : Int32) (m_readMany : Int32) (m_readTables : Int32) (m_readGroups : Int32) (m_found : Int32) (m_block : Nat → Int32) (m_map : Nat → Int32) (m_places : Nat → Int32) (m_symbol : Nat → Int32) (m_lengths : Nat → Int32) (m_taken : Nat → Int32) (m_codes : Nat → Int32) (m_list : Nat → Int32) (m_weights : Nat → Int32) (m_whole : Nat → Int32) {m_isDone' : Int32} {m_n' : Int32} {m_symbols' : Int32} {m_groups' : Int32} {m_tables' : Int32} {m_map' : Nat → Int32} {m_places' : Nat → Int32} {m_symbol' : Nat → Int32} {m_lengths' : Nat → Int32} {m_taken' : Nat → Int32} {m_codes' : Nat → Int32} {m_list' : Nat → Int32} {m_weights' : Nat → Int32} {m_whole' : Nat → Int32} (hF : fMo_work m_signs m_isDone m_n m_symbols m_groups m_tables m_block m_map m_places m_symbol m_lengths m_taken m_codes m_list m_weights m_whole = some (m_isDone', m_n', m_symbols', m_groups', m_tables', m_map', m_places', m_symbol', m_lengths', m_taken', m_codes', m_list', m_weights', m_whole')) : CT l yX9_work wsX9_work rmMo_work D (tysG cI cZ cO cG) [.ref a_self] [(a_self, .inr (9, [.int m_signs, .ref a_block, .ref a_tape, .int m_bits, .int m_faultAt, .int m_isDone, .int m_n, .ref a_map, .ref a_places, .int m_symbols, .ref a_symbol, .int m_groups, .int m_tables, .ref a_lengths, .ref a_taken, .ref a_codes, .ref a_list, .ref a_weights, .ref a_whole, .int m_lays, .int m_laid, .ref a_row, .int m_read, .int m_wrong, .int m_readMany, .ref a_readMap, .int m_readTables, .int m_readGroups, .ref a_readTaken, .ref a_readLengths, .ref a_readCodes, .int m_found, .ref a_foundBlock])), (a_block, .inl (cI, 300, .inl m_block)), (a_map, .inl (cI, 256, .inl m_map)), (a_places, .inl (cI, 300, .inl m_places)), (a_symbol, .inl (cI, 301, .inl m_symbol)), (a_lengths, .inl (cI, 3870, .inl m_lengths)), (a_taken, .inl (cI, 155, .inl m_taken)), (a_codes, .inl (cI, 774, .inl m_codes)), (a_list, .inl (cI, 256, .inl m_list)), (a_weights, .inl (cI, 516, .inl m_weights)), (a_whole, .inl (cI, 516, .inl m_whole))] none [(a_self, .inr (9, [.int m_signs, .ref a_block, .ref a_tape, .int m_bits, .int m_faultAt, .int m_isDone', .int m_n', .ref a_map, .ref a_places, .int m_symbols', .ref a_symbol, .int m_groups', .int m_tables', .ref a_lengths, .ref a_taken, .ref a_codes, .ref a_list, .ref a_weights, .ref a_whole, .int m_lays, .int m_laid, .ref a_row, .int m_read, .int m_wrong, .int m_readMany, .ref a_readMap, .int m_readTables, .int m_readGroups, .ref a_readTaken, .ref a_readLengths, .ref a_readCodes, .int m_found, .ref a_foundBlock])), (a_block, .inl (cI, 300, .inl m_block)), (a_map, .inl (cI, 256, .inl m_map')), (a_places, .inl (cI, 300, .inl m_places')), (a_symbol, .inl (cI, 301, .inl m_symbol')), (a_lengths, .inl (cI, 3870, .inl m_lengths')), (a_taken, .inl (cI, 155, .inl m_taken')), (a_codes, .inl (cI, 774, .inl m_codes')), (a_list, .inl (cI, 256, .inl m_list')), (a_weights, .inl (cI, 516, .inl m_weights')), (a_whole, .inl (cI, 516, .inl m_whole'))] := by
  refine CT.of (cc := cX9_work) (maxL := 3) (ret := none) (by decide) rfl (Nat.le_of_ble_eq_true rfl) ?_
  intro p e s m below meth c A ls hx hb hr hml hts hown hlocks hK hA hP hD hS hl
  generalize hargs : ([.ref a_self] : List Value).toArray = args at hts ⊢
  generalize hQ : MQ below (ctQ D none [(a_self, .inr (9, [.int m_signs, .ref a_block, .ref a_tape, .int m_bits, .int m_faultAt, .int m_isDone', .int m_n', .ref a_map, .ref a_places, .int m_symbols', .ref a_symbol, .int m_groups', .int m_tables', .ref a_lengths, .ref a_taken, .ref a_codes, .ref a_list, .ref a_weights, .ref a_whole, .int m_lays, .int m_laid, .ref a_row, .int m_read, .int m_wrong, .int m_readMany, .ref a_readMap, .int m_readTables, .int m_readGroups, .ref a_readTaken, .ref a_readLengths, .ref a_readCodes, .int m_found, .ref a_foundBlock])), (a_block, .inl (cI, 300, .inl m_block)), (a_map, .inl (cI, 256, .inl m_map')), (a_places, .inl (cI, 300, .inl m_places')), (a_symbol, .inl (cI, 301, .inl m_symbol')), (a_lengths, .inl (cI, 3870, .inl m_lengths')), (a_taken, .inl (cI, 155, .inl m_taken')), (a_codes, .inl (cI, 774, .inl m_codes')), (a_list, .inl (cI, 256, .inl m_list')), (a_weights, .inl (cI, 516, .inl m_weights')), (a_whole, .inl (cI, 516, .inl m_whole'))] A) args s 0 0 A = Q
  have hl : lv_has ls 3 [(0, .ref a_self)] := hl
  have hW : WS D A s [(a_self, .inr (9, [.int m_signs, .ref a_block, .ref a_tape, .int m_bits, .int m_faultAt, .int m_isDone, .int m_n, .ref a_map, .ref a_places, .int m_symbols, .ref a_symbol, .int m_groups, .int m_tables, .ref a_lengths, .ref a_taken, .ref a_codes, .ref a_list, .ref a_weights, .ref a_whole, .int m_lays, .int m_laid, .ref a_row, .int m_read, .int m_wrong, .int m_readMany, .ref a_readMap, .int m_readTables, .int m_readGroups, .ref a_readTaken, .ref a_readLengths, .ref a_readCodes, .int m_found, .ref a_foundBlock])), (a_block, .inl (cI, 300, .inl m_block)), (a_map, .inl (cI, 256, .inl m_map)), (a_places, .inl (cI, 300, .inl m_places)), (a_symbol, .inl (cI, 301, .inl m_symbol)), (a_lengths, .inl (cI, 3870, .inl m_lengths)), (a_taken, .inl (cI, 155, .inl m_taken)), (a_codes, .inl (cI, 774, .inl m_codes)), (a_list, .inl (cI, 256, .inl m_list)), (a_weights, .inl (cI, 516, .inl m_weights)), (a_whole, .inl (cI, 516, .inl m_whole))] s.heap [] := ⟨hP, hD, hS⟩
  clear hP hD hS
  unfold fMo_work at hF
  have hw0 := hts (Cond.fieldLink RX9 92 "MoveFrontsModel" "tables" "I") (by decide +kernel)
  have hw1 := hts (Cond.fieldLink RX9 86 "MoveFrontsModel" "symbols" "I") (by decide +kernel)
  have hw2 := hts (Cond.fieldLink RX9 30 "MoveFrontsModel" "lengths" "[I") (by decide +kernel)
  have hw3 := hts (Cond.fieldLink RX9 36 "MoveFrontsModel" "codes" "[I") (by decide +kernel)
  have hw4 := hts (Cond.fieldLink RX9 106 "MoveFrontsModel" "n" "I") (by decide +kernel)
  have hw5 := hts (Cond.fieldLink RX9 89 "MoveFrontsModel" "groups" "I") (by decide +kernel)
  have hw6 := hts (Cond.fieldLink RX9 33 "MoveFrontsModel" "taken" "[I") (by decide +kernel)
  have hw7 := hts (Cond.fieldLink RX9 73 "MoveFrontsModel" "isDone" "Z") (by decide +kernel)
  have hi9 : ∀ w ∈ u_ws RX9 TX9 33, w ∈ wsX9_work := by decide +kernel
  have hJ78 : ∀ (m_isDone_78 : Int32) (m_n_78 : Int32) (m_symbols_78 : Int32) (m_groups_78 : Int32) (m_tables_78 : Int32) (m_map_78 : Nat → Int32) (m_places_78 : Nat → Int32) (m_symbol_78 : Nat → Int32) (m_lengths_78 : Nat → Int32) (m_taken_78 : Nat → Int32) (m_codes_78 : Nat → Int32) (m_list_78 : Nat → Int32) (m_weights_78 : Nat → Int32) (m_whole_78 : Nat → Int32) (t1_78 : Int32), fMo_work_J78 m_isDone_78 m_n_78 m_symbols_78 m_groups_78 m_tables_78 m_map_78 m_places_78 m_symbol_78 m_lengths_78 m_taken_78 m_codes_78 m_list_78 m_weights_78 m_whole_78 t1_78 = some (m_isDone', m_n', m_symbols', m_groups', m_tables', m_map', m_places', m_symbol', m_lengths', m_taken', m_codes', m_list', m_weights', m_whole') → ∀ (H : Heap) (locs : List Loc), WS D A s [(a_self, .inr (9, [.int m_signs, .ref a_block, .ref a_tape, .int m_bits, .int m_faultAt, .int m_isDone_78, .int m_n_78, .ref a_map, .ref a_places, .int m_symbols_78, .ref a_symbol, .int m_groups_78, .int m_tables_78, .ref a_lengths, .ref a_taken, .ref a_codes, .ref a_list, .ref a_weights, .ref a_whole, .int m_lays, .int m_laid, .ref a_row, .int m_read, .int m_wrong, .int m_readMany, .ref a_readMap, .int m_readTables, .int m_readGroups, .ref a_readTaken, .ref a_readLengths, .ref a_readCodes, .int m_found, .ref a_foundBlock])), (a_block, .inl (cI, 300, .inl m_block)), (a_map, .inl (cI, 256, .inl m_map_78)), (a_places, .inl (cI, 300, .inl m_places_78)), (a_symbol, .inl (cI, 301, .inl m_symbol_78)), (a_lengths, .inl (cI, 3870, .inl m_lengths_78)), (a_taken, .inl (cI, 155, .inl m_taken_78)), (a_codes, .inl (cI, 774, .inl m_codes_78)), (a_list, .inl (cI, 256, .inl m_list_78)), (a_weights, .inl (cI, 516, .inl m_weights_78)), (a_whole, .inl (cI, 516, .inl m_whole_78))] H locs → ∀ ls : Array Slot, lv_has ls 3 [(0, .ref a_self)] → W p l e (headSpec wsX9_work rmMo_work).room s m args below meth c H locs 0 0 Q (F0 m 78 ls [.int t1_78, .ref a_self]) := by
    intro m_isDone_78 m_n_78 m_symbols_78 m_groups_78 m_tables_78 m_map_78 m_places_78 m_symbol_78 m_lengths_78 m_taken_78 m_codes_78 m_list_78 m_weights_78 m_whole_78 t1_78 hF H locs hW ls hl
    unfold fMo_work_J78 at hF
    refine va_put (D := D) (ci := 9) (v := .int t1_78) (ty := .int) (C := RX9) (T := TX9) (N := 33) hx hb hts hi9 tyX9 tyX9_ok nmX9 hown hK.1 hW.1 hW.2.1 hW.2.2 0 rfl rfl 12 (by decide) hw0 (fun _ h9 => h9) rfl (by decide +kernel) rfl rfl (Nat.le_of_ble_eq_true rfl) dX9_work_78 (fun H locs hP hD hS => ?_)
    have hW : WS D A s [(a_self, .inr (9, [.int m_signs, .ref a_block, .ref a_tape, .int m_bits, .int m_faultAt, .int m_isDone_78, .int m_n_78, .ref a_map, .ref a_places, .int m_symbols_78, .ref a_symbol, .int m_groups_78, .int t1_78, .ref a_lengths, .ref a_taken, .ref a_codes, .ref a_list, .ref a_weights, .ref a_whole, .int m_lays, .int m_laid, .ref a_row, .int m_read, .int m_wrong, .int m_readMany, .ref a_readMap, .int m_readTables, .int m_readGroups, .ref a_readTaken, .ref a_readLengths, .ref a_readCodes, .int m_found, .ref a_foundBlock])), (a_block, .inl (cI, 300, .inl m_block)), (a_map, .inl (cI, 256, .inl m_map_78)), (a_places, .inl (cI, 300, .inl m_places_78)), (a_symbol, .inl (cI, 301, .inl m_symbol_78)), (a_lengths, .inl (cI, 3870, .inl m_lengths_78)), (a_taken, .inl (cI, 155, .inl m_taken_78)), (a_codes, .inl (cI, 774, .inl m_codes_78)), (a_list, .inl (cI, 256, .inl m_list_78)), (a_weights, .inl (cI, 516, .inl m_weights_78)), (a_whole, .inl (cI, 516, .inl m_whole_78))] H locs := ⟨hP, hD, hS⟩
    refine lv_aload_n hx hb dX9_work_81 rfl (lv_at hl 0 rfl) ?_
    refine va_get (D := D) (ci := 9) (v := .int m_symbols_78) (C := RX9) (T := TX9) (N := 33) hx hb hts hi9 hown hK.1 hW.1 0 rfl rfl 9 (by decide) hw1 (fun _ h9 => h9) rfl dX9_work_82 ?_
    refine lv_if_ne (tgt := 89) hx hb dX9_work_85 (by decide) (fun c85 => ?_) (fun c85 => ?_)
    · rw [if_neg c85] at hF
      refine lv_aload_n hx hb dX9_work_89 rfl (lv_at hl 0 rfl) ?_
      obtain ⟨m_lengths_90, e90, hF⟩ := bd1_some hF
      refine ctV (r := (RX9, TX9, 33)) (As := []) (rest := []) hx hb hml hown hts hK hW.1 hW.2.1 hW.2.2 hA hl.1 (kMo_begin l D cI cZ cO cG a_self a_block a_tape a_map a_places a_symbol a_lengths a_taken a_codes a_list a_weights a_whole a_row a_readMap a_readTaken a_readLengths a_readCodes a_foundBlock m_signs m_bits m_faultAt m_isDone_78 m_n_78 m_symbols_78 m_groups_78 t1_78 m_lays m_laid m_read m_wrong m_readMany m_readTables m_readGroups m_found m_symbol_78 m_lengths_78 e90) (cwV 0 hts gX9_work_X9_begin rfl rfl rfl (by decide +kernel) ⟨Nat.le_of_ble_eq_true rfl, Nat.le_of_ble_eq_true rfl⟩) 9 0 rfl rfl [0, 4, 5] rfl rfl rfl rfl rfl (Nat.le_of_ble_eq_true rfl) rfl ⟨Nat.zero_le _, Nat.zero_le _⟩ dX9_work_90 (fun H locs hP hD hS => ?_)
      have hW : WS D A s [(a_self, .inr (9, [.int m_signs, .ref a_block, .ref a_tape, .int m_bits, .int m_faultAt, .int m_isDone_78, .int m_n_78, .ref a_map, .ref a_places, .int m_symbols_78, .ref a_symbol, .int m_groups_78, .int t1_78, .ref a_lengths, .ref a_taken, .ref a_codes, .ref a_list, .ref a_weights, .ref a_whole, .int m_lays, .int m_laid, .ref a_row, .int m_read, .int m_wrong, .int m_readMany, .ref a_readMap, .int m_readTables, .int m_readGroups, .ref a_readTaken, .ref a_readLengths, .ref a_readCodes, .int m_found, .ref a_foundBlock])), (a_block, .inl (cI, 300, .inl m_block)), (a_map, .inl (cI, 256, .inl m_map_78)), (a_places, .inl (cI, 300, .inl m_places_78)), (a_symbol, .inl (cI, 301, .inl m_symbol_78)), (a_lengths, .inl (cI, 3870, .inl m_lengths_90)), (a_taken, .inl (cI, 155, .inl m_taken_78)), (a_codes, .inl (cI, 774, .inl m_codes_78)), (a_list, .inl (cI, 256, .inl m_list_78)), (a_weights, .inl (cI, 516, .inl m_weights_78)), (a_whole, .inl (cI, 516, .inl m_whole_78))] H locs := ⟨hP, hD, hS⟩
      refine lv_iconst (v := 1) hx hb dX9_work_93 (by decide) ?_
      refine lv_istore_n (lv' := [(1, .int (1 : Int32)), (0, .ref a_self)]) hx hb dX9_work_94 rfl hl (by decide) rfl (fun ls hl => ?_)
      obtain ⟨m_lengths_95ze, m_taken_95ze, m_weights_95ze, m_whole_95ze, hI, hF⟩ := bd4_some hF
      obtain ⟨nn, hI⟩ := itrO_some hI
      have hX95 : ∀ (m_lengths_95z : Nat → Int32) (m_taken_95z : Nat → Int32) (m_weights_95z : Nat → Int32) (m_whole_95z : Nat → Int32), (m_lengths_95z, m_taken_95z, m_weights_95z, m_whole_95z) = (m_lengths_95ze, m_taken_95ze, m_weights_95ze, m_whole_95ze) → ∀ (H : Heap) (locs : List Loc), WS D A s [(a_self, .inr (9, [.int m_signs, .ref a_block, .ref a_tape, .int m_bits, .int m_faultAt, .int m_isDone_78, .int m_n_78, .ref a_map, .ref a_places, .int m_symbols_78, .ref a_symbol, .int m_groups_78, .int t1_78, .ref a_lengths, .ref a_taken, .ref a_codes, .ref a_list, .ref a_weights, .ref a_whole, .int m_lays, .int m_laid, .ref a_row, .int m_read, .int m_wrong, .int m_readMany, .ref a_readMap, .int m_readTables, .int m_readGroups, .ref a_readTaken, .ref a_readLengths, .ref a_readCodes, .int m_found, .ref a_foundBlock])), (a_block, .inl (cI, 300, .inl m_block)), (a_map, .inl (cI, 256, .inl m_map_78)), (a_places, .inl (cI, 300, .inl m_places_78)), (a_symbol, .inl (cI, 301, .inl m_symbol_78)), (a_lengths, .inl (cI, 3870, .inl m_lengths_95z)), (a_taken, .inl (cI, 155, .inl m_taken_95z)), (a_codes, .inl (cI, 774, .inl m_codes_78)), (a_list, .inl (cI, 256, .inl m_list_78)), (a_weights, .inl (cI, 516, .inl m_weights_95z)), (a_whole, .inl (cI, 516, .inl m_whole_95z))] H locs → ∀ ls : Array Slot, lv_has ls 3 [(0, .ref a_self)] → W p l e (headSpec wsX9_work rmMo_work).room s m args below meth c H locs 0 0 Q (F0 m 163 ls []) := by
        intro m_lengths_95z m_taken_95z m_weights_95z m_whole_95z he H locs hW ls hl
        obtain ⟨hz0, hy0⟩ := Prod.mk.inj he
        obtain ⟨hz1, hy1⟩ := Prod.mk.inj hy0
        obtain ⟨hz2, hy2⟩ := Prod.mk.inj hy1
        subst hz0
        subst hz1
        subst hz2
        subst hy2
        refine lv_iconst (v := 0) hx hb dX9_work_163 (by decide) ?_
        refine lv_istore_n (lv' := [(1, .int (0 : Int32)), (0, .ref a_self)]) hx hb dX9_work_164 rfl hl (by decide) rfl (fun ls hl => ?_)
        obtain ⟨m_codes_165ze, hI, hF⟩ := bd1_some hF
        obtain ⟨nn, hI⟩ := itrO_some hI
        have hX165 : ∀ (m_codes_165z : Nat → Int32), m_codes_165z = m_codes_165ze → ∀ (H : Heap) (locs : List Loc), WS D A s [(a_self, .inr (9, [.int m_signs, .ref a_block, .ref a_tape, .int m_bits, .int m_faultAt, .int m_isDone_78, .int m_n_78, .ref a_map, .ref a_places, .int m_symbols_78, .ref a_symbol, .int m_groups_78, .int t1_78, .ref a_lengths, .ref a_taken, .ref a_codes, .ref a_list, .ref a_weights, .ref a_whole, .int m_lays, .int m_laid, .ref a_row, .int m_read, .int m_wrong, .int m_readMany, .ref a_readMap, .int m_readTables, .int m_readGroups, .ref a_readTaken, .ref a_readLengths, .ref a_readCodes, .int m_found, .ref a_foundBlock])), (a_block, .inl (cI, 300, .inl m_block)), (a_map, .inl (cI, 256, .inl m_map_78)), (a_places, .inl (cI, 300, .inl m_places_78)), (a_symbol, .inl (cI, 301, .inl m_symbol_78)), (a_lengths, .inl (cI, 3870, .inl m_lengths_95z)), (a_taken, .inl (cI, 155, .inl m_taken_95z)), (a_codes, .inl (cI, 774, .inl m_codes_165z)), (a_list, .inl (cI, 256, .inl m_list_78)), (a_weights, .inl (cI, 516, .inl m_weights_95z)), (a_whole, .inl (cI, 516, .inl m_whole_95z))] H locs → ∀ ls : Array Slot, lv_has ls 3 [] → W p l e (headSpec wsX9_work rmMo_work).room s m args below meth c H locs 0 0 Q (F0 m 209 ls []) := by
          intro m_codes_165z he H locs hW ls hl
          subst he
          cases hF
          subst hQ
          exact ct_vret hx hb hr hlocks hW.1 hW.2.2 dX9_work_209
        have hL165 : ∀ (n165 : Nat) (x1_165 : Int32) (m_codes_165 : Nat → Int32), itr (un2 (fMo_work_L165 m_n_78 t1_78 m_lengths_95z)) n165 (x1_165, m_codes_165) = some m_codes_165ze → ∀ (H : Heap) (locs : List Loc), WS D A s [(a_self, .inr (9, [.int m_signs, .ref a_block, .ref a_tape, .int m_bits, .int m_faultAt, .int m_isDone_78, .int m_n_78, .ref a_map, .ref a_places, .int m_symbols_78, .ref a_symbol, .int m_groups_78, .int t1_78, .ref a_lengths, .ref a_taken, .ref a_codes, .ref a_list, .ref a_weights, .ref a_whole, .int m_lays, .int m_laid, .ref a_row, .int m_read, .int m_wrong, .int m_readMany, .ref a_readMap, .int m_readTables, .int m_readGroups, .ref a_readTaken, .ref a_readLengths, .ref a_readCodes, .int m_found, .ref a_foundBlock])), (a_block, .inl (cI, 300, .inl m_block)), (a_map, .inl (cI, 256, .inl m_map_78)), (a_places, .inl (cI, 300, .inl m_places_78)), (a_symbol, .inl (cI, 301, .inl m_symbol_78)), (a_lengths, .inl (cI, 3870, .inl m_lengths_95z)), (a_taken, .inl (cI, 155, .inl m_taken_95z)), (a_codes, .inl (cI, 774, .inl m_codes_165)), (a_list, .inl (cI, 256, .inl m_list_78)), (a_weights, .inl (cI, 516, .inl m_weights_95z)), (a_whole, .inl (cI, 516, .inl m_whole_95z))] H locs → ∀ ls : Array Slot, lv_has ls 3 [(0, .ref a_self), (1, .int x1_165)] → W p l e (headSpec wsX9_work rmMo_work).room s m args below meth c H locs 0 0 Q (F0 m 165 ls []) := by
          intro n165
          induction n165 with
          | zero => intro x1_165 m_codes_165 hI; cases hI
          | succ n165 ih165 =>
            intro x1_165 m_codes_165 hI H locs hW ls hl
            obtain ⟨sr165, hF, hN165⟩ := itr_succ hI
            have hF : fMo_work_L165 m_n_78 t1_78 m_lengths_95z x1_165 m_codes_165 = some sr165 := hF
            unfold fMo_work_L165 at hF
            refine lv_iload_n hx hb dX9_work_165 rfl (lv_at hl 1 rfl) ?_
            refine lv_aload_n hx hb dX9_work_166 rfl (lv_at hl 0 rfl) ?_
            refine va_get (D := D) (ci := 9) (v := .int t1_78) (C := RX9) (T := TX9) (N := 33) hx hb hts hi9 hown hK.1 hW.1 0 rfl rfl 12 (by decide) hw0 (fun _ h9 => h9) rfl dX9_work_167 ?_
            refine lv_icmp_ge (tgt := 209) hx hb dX9_work_170 (by decide) (fun c170 => ?_) (fun c170 => ?_)
            · rw [if_pos c170] at hF
              cases hF
              exact hX165 _ (itr_out hN165) _ _ hW _ (lv_sub hl [] rfl)
            · rw [if_neg c170] at hF
              refine lv_aload_n hx hb dX9_work_173 rfl (lv_at hl 0 rfl) ?_
              refine va_get (D := D) (ci := 9) (v := .ref a_lengths) (C := RX9) (T := TX9) (N := 33) hx hb hts hi9 hown hK.1 hW.1 0 rfl rfl 13 (by decide) hw2 (fun _ h9 => h9) rfl dX9_work_174 ?_
              refine lv_sipush (v := 258) hx hb dX9_work_177 (by decide) ?_
              refine lv_bipush (v := 12) hx hb dX9_work_180 (by decide) ?_
              refine lv_iload_n hx hb dX9_work_182 rfl (lv_at hl 1 rfl) ?_
              refine lv_iadd hx hb dX9_work_183 ?_
              refine lv_imul hx hb dX9_work_184 ?_
              refine lv_aload_n hx hb dX9_work_185 rfl (lv_at hl 0 rfl) ?_
              refine va_get (D := D) (ci := 9) (v := .ref a_codes) (C := RX9) (T := TX9) (N := 33) hx hb hts hi9 hown hK.1 hW.1 0 rfl rfl 15 (by decide) hw3 (fun _ h9 => h9) rfl dX9_work_186 ?_
              refine lv_sipush (v := 258) hx hb dX9_work_189 (by decide) ?_
              refine lv_iload_n hx hb dX9_work_192 rfl (lv_at hl 1 rfl) ?_
              refine lv_imul hx hb dX9_work_193 ?_
              refine lv_aload_n hx hb dX9_work_194 rfl (lv_at hl 0 rfl) ?_
              refine va_get (D := D) (ci := 9) (v := .int m_n_78) (C := RX9) (T := TX9) (N := 33) hx hb hts hi9 hown hK.1 hW.1 0 rfl rfl 6 (by decide) hw4 (fun _ h9 => h9) rfl dX9_work_195 ?_
              refine lv_iconst (v := 2) hx hb dX9_work_198 (by decide) ?_
              refine lv_iadd hx hb dX9_work_199 ?_
              obtain ⟨m_p2_200, e200, hF⟩ := bd1_some hF
              refine ctS (As := [.ref a_lengths, .int ((258 : Int32) * ((12 : Int32) + x1_165)), .ref a_codes, .int ((258 : Int32) * x1_165), .int (m_n_78 + (2 : Int32))]) (rest := []) hx hb hml hown hts hK hW.1 hW.2.1 hW.2.2 hA hl.1 (kMo_findCodes l D cI cZ cO cG a_lengths a_codes 3870 774 m_lengths_95z m_codes_165 ((258 : Int32) * ((12 : Int32) + x1_165)) ((258 : Int32) * x1_165) (m_n_78 + (2 : Int32)) e200) (va_cwS 5 hts gX9_work_X9_findCodes rfl rfl rfl (by decide +kernel) ⟨Nat.le_of_ble_eq_true rfl, Nat.le_of_ble_eq_true rfl⟩) [5, 7] rfl rfl rfl rfl rfl (Nat.le_of_ble_eq_true rfl) rfl ⟨Nat.zero_le _, Nat.zero_le _⟩ dX9_work_200 (fun H locs hP hD hS => ?_)
              have hW : WS D A s [(a_self, .inr (9, [.int m_signs, .ref a_block, .ref a_tape, .int m_bits, .int m_faultAt, .int m_isDone_78, .int m_n_78, .ref a_map, .ref a_places, .int m_symbols_78, .ref a_symbol, .int m_groups_78, .int t1_78, .ref a_lengths, .ref a_taken, .ref a_codes, .ref a_list, .ref a_weights, .ref a_whole, .int m_lays, .int m_laid, .ref a_row, .int m_read, .int m_wrong, .int m_readMany, .ref a_readMap, .int m_readTables, .int m_readGroups, .ref a_readTaken, .ref a_readLengths, .ref a_readCodes, .int m_found, .ref a_foundBlock])), (a_block, .inl (cI, 300, .inl m_block)), (a_map, .inl (cI, 256, .inl m_map_78)), (a_places, .inl (cI, 300, .inl m_places_78)), (a_symbol, .inl (cI, 301, .inl m_symbol_78)), (a_lengths, .inl (cI, 3870, .inl m_lengths_95z)), (a_taken, .inl (cI, 155, .inl m_taken_95z)), (a_codes, .inl (cI, 774, .inl m_p2_200)), (a_list, .inl (cI, 256, .inl m_list_78)), (a_weights, .inl (cI, 516, .inl m_weights_95z)), (a_whole, .inl (cI, 516, .inl m_whole_95z))] H locs := ⟨hP, hD, hS⟩
              refine lv_iinc (v := (x1_165 + 1)) (lv' := [(1, .int (x1_165 + 1)), (0, .ref a_self)]) hx hb dX9_work_203 hl (k := 1) rfl rfl (by decide) rfl (fun ls hl => ?_)
              refine lv_goto (tgt := 165) hx hb dX9_work_206 (by decide) ?_
              cases hF
              exact ih165 _ _ (itr_in hN165) _ _ hW _ (lv_sub hl [1, 0] rfl)
        exact hL165 nn _ _ hI _ _ hW _ (lv_sub hl [1, 0] rfl)
      have hL95 : ∀ (n95 : Nat) (x1_95 : Int32) (m_lengths_95 : Nat → Int32) (m_taken_95 : Nat → Int32) (m_weights_95 : Nat → Int32) (m_whole_95 : Nat → Int32), itr (un5 (fMo_work_L95 m_n_78 m_symbols_78 m_groups_78 m_symbol_78 t1_78)) n95 (x1_95, m_lengths_95, m_taken_95, m_weights_95, m_whole_95) = some (m_lengths_95ze, m_taken_95ze, m_weights_95ze, m_whole_95ze) → ∀ (H : Heap) (locs : List Loc), WS D A s [(a_self, .inr (9, [.int m_signs, .ref a_block, .ref a_tape, .int m_bits, .int m_faultAt, .int m_isDone_78, .int m_n_78, .ref a_map, .ref a_places, .int m_symbols_78, .ref a_symbol, .int m_groups_78, .int t1_78, .ref a_lengths, .ref a_taken, .ref a_codes, .ref a_list, .ref a_weights, .ref a_whole, .int m_lays, .int m_laid, .ref a_row, .int m_read, .int m_wrong, .int m_readMany, .ref a_readMap, .int m_readTables, .int m_readGroups, .ref a_readTaken, .ref a_readLengths, .ref a_readCodes, .int m_found, .ref a_foundBlock])), (a_block, .inl (cI, 300, .inl m_block)), (a_map, .inl (cI, 256, .inl m_map_78)), (a_places, .inl (cI, 300, .inl m_places_78)), (a_symbol, .inl (cI, 301, .inl m_symbol_78)), (a_lengths, .inl (cI, 3870, .inl m_lengths_95)), (a_taken, .inl (cI, 155, .inl m_taken_95)), (a_codes, .inl (cI, 774, .inl m_codes_78)), (a_list, .inl (cI, 256, .inl m_list_78)), (a_weights, .inl (cI, 516, .inl m_weights_95)), (a_whole, .inl (cI, 516, .inl m_whole_95))] H locs → ∀ ls : Array Slot, lv_has ls 3 [(0, .ref a_self), (1, .int x1_95)] → W p l e (headSpec wsX9_work rmMo_work).room s m args below meth c H locs 0 0 Q (F0 m 95 ls []) := by
        intro n95
        induction n95 with
        | zero => intro x1_95 m_lengths_95 m_taken_95 m_weights_95 m_whole_95 hI; cases hI
        | succ n95 ih95 =>
          intro x1_95 m_lengths_95 m_taken_95 m_weights_95 m_whole_95 hI H locs hW ls hl
          obtain ⟨sr95, hF, hN95⟩ := itr_succ hI
          have hF : fMo_work_L95 m_n_78 m_symbols_78 m_groups_78 m_symbol_78 t1_78 x1_95 m_lengths_95 m_taken_95 m_weights_95 m_whole_95 = some sr95 := hF
          unfold fMo_work_L95 at hF
          refine lv_iload_n hx hb dX9_work_95 rfl (lv_at hl 1 rfl) ?_
          refine lv_iconst (v := 5) hx hb dX9_work_96 (by decide) ?_
          refine lv_icmp_ge (tgt := 163) hx hb dX9_work_97 (by decide) (fun c97 => ?_) (fun c97 => ?_)
          · rw [if_pos c97] at hF
            cases hF
            exact hX95 _ _ _ _ (itr_out hN95) _ _ hW _ (lv_sub hl [0] rfl)
          · rw [if_neg c97] at hF
            refine lv_iconst (v := 0) hx hb dX9_work_100 (by decide) ?_
            refine lv_istore_n (lv' := [(2, .int (0 : Int32)), (0, .ref a_self), (1, .int x1_95)]) hx hb dX9_work_101 rfl hl (by decide) rfl (fun ls hl => ?_)
            obtain ⟨m_taken_102ze, hI, hF⟩ := bd1_some hF
            obtain ⟨nn, hI⟩ := itrO_some hI
            have hX102 : ∀ (m_taken_102z : Nat → Int32), m_taken_102z = m_taken_102ze → ∀ (H : Heap) (locs : List Loc), WS D A s [(a_self, .inr (9, [.int m_signs, .ref a_block, .ref a_tape, .int m_bits, .int m_faultAt, .int m_isDone_78, .int m_n_78, .ref a_map, .ref a_places, .int m_symbols_78, .ref a_symbol, .int m_groups_78, .int t1_78, .ref a_lengths, .ref a_taken, .ref a_codes, .ref a_list, .ref a_weights, .ref a_whole, .int m_lays, .int m_laid, .ref a_row, .int m_read, .int m_wrong, .int m_readMany, .ref a_readMap, .int m_readTables, .int m_readGroups, .ref a_readTaken, .ref a_readLengths, .ref a_readCodes, .int m_found, .ref a_foundBlock])), (a_block, .inl (cI, 300, .inl m_block)), (a_map, .inl (cI, 256, .inl m_map_78)), (a_places, .inl (cI, 300, .inl m_places_78)), (a_symbol, .inl (cI, 301, .inl m_symbol_78)), (a_lengths, .inl (cI, 3870, .inl m_lengths_95)), (a_taken, .inl (cI, 155, .inl m_taken_102z)), (a_codes, .inl (cI, 774, .inl m_codes_78)), (a_list, .inl (cI, 256, .inl m_list_78)), (a_weights, .inl (cI, 516, .inl m_weights_95)), (a_whole, .inl (cI, 516, .inl m_whole_95))] H locs → ∀ ls : Array Slot, lv_has ls 3 [(0, .ref a_self), (1, .int x1_95)] → W p l e (headSpec wsX9_work rmMo_work).room s m args below meth c H locs 0 0 Q (F0 m 135 ls []) := by
              intro m_taken_102z he H locs hW ls hl
              subst he
              refine lv_iconst (v := 0) hx hb dX9_work_135 (by decide) ?_
              refine lv_istore_n (lv' := [(2, .int (0 : Int32)), (0, .ref a_self), (1, .int x1_95)]) hx hb dX9_work_136 rfl hl (by decide) rfl (fun ls hl => ?_)
              obtain ⟨m_lengths_137ze, m_weights_137ze, m_whole_137ze, hI, hF⟩ := bd3_some hF
              obtain ⟨nn, hI⟩ := itrO_some hI
              have hX137 : ∀ (m_lengths_137z : Nat → Int32) (m_weights_137z : Nat → Int32) (m_whole_137z : Nat → Int32), (m_lengths_137z, m_weights_137z, m_whole_137z) = (m_lengths_137ze, m_weights_137ze, m_whole_137ze) → ∀ (H : Heap) (locs : List Loc), WS D A s [(a_self, .inr (9, [.int m_signs, .ref a_block, .ref a_tape, .int m_bits, .int m_faultAt, .int m_isDone_78, .int m_n_78, .ref a_map, .ref a_places, .int m_symbols_78, .ref a_symbol, .int m_groups_78, .int t1_78, .ref a_lengths, .ref a_taken, .ref a_codes, .ref a_list, .ref a_weights, .ref a_whole, .int m_lays, .int m_laid, .ref a_row, .int m_read, .int m_wrong, .int m_readMany, .ref a_readMap, .int m_readTables, .int m_readGroups, .ref a_readTaken, .ref a_readLengths, .ref a_readCodes, .int m_found, .ref a_foundBlock])), (a_block, .inl (cI, 300, .inl m_block)), (a_map, .inl (cI, 256, .inl m_map_78)), (a_places, .inl (cI, 300, .inl m_places_78)), (a_symbol, .inl (cI, 301, .inl m_symbol_78)), (a_lengths, .inl (cI, 3870, .inl m_lengths_137z)), (a_taken, .inl (cI, 155, .inl m_taken_102z)), (a_codes, .inl (cI, 774, .inl m_codes_78)), (a_list, .inl (cI, 256, .inl m_list_78)), (a_weights, .inl (cI, 516, .inl m_weights_137z)), (a_whole, .inl (cI, 516, .inl m_whole_137z))] H locs → ∀ ls : Array Slot, lv_has ls 3 [(0, .ref a_self), (1, .int x1_95)] → W p l e (headSpec wsX9_work rmMo_work).room s m args below meth c H locs 0 0 Q (F0 m 157 ls []) := by
                intro m_lengths_137z m_weights_137z m_whole_137z he H locs hW ls hl
                obtain ⟨hz0, hy0⟩ := Prod.mk.inj he
                obtain ⟨hz1, hy1⟩ := Prod.mk.inj hy0
                subst hz0
                subst hz1
                subst hy1
                refine lv_iinc (v := (x1_95 + 1)) (lv' := [(1, .int (x1_95 + 1)), (0, .ref a_self)]) hx hb dX9_work_157 hl (k := 1) rfl rfl (by decide) rfl (fun ls hl => ?_)
                refine lv_goto (tgt := 95) hx hb dX9_work_160 (by decide) ?_
                cases hF
                exact ih95 _ _ _ _ _ (itr_in hN95) _ _ hW _ (lv_sub hl [1, 0] rfl)
              have hL137 : ∀ (n137 : Nat) (x2_137 : Int32) (m_lengths_137 : Nat → Int32) (m_weights_137 : Nat → Int32) (m_whole_137 : Nat → Int32), itr (un4 (fMo_work_L137 m_n_78 m_symbols_78 m_groups_78 m_symbol_78 t1_78 x1_95 m_taken_102z)) n137 (x2_137, m_lengths_137, m_weights_137, m_whole_137) = some (m_lengths_137ze, m_weights_137ze, m_whole_137ze) → ∀ (H : Heap) (locs : List Loc), WS D A s [(a_self, .inr (9, [.int m_signs, .ref a_block, .ref a_tape, .int m_bits, .int m_faultAt, .int m_isDone_78, .int m_n_78, .ref a_map, .ref a_places, .int m_symbols_78, .ref a_symbol, .int m_groups_78, .int t1_78, .ref a_lengths, .ref a_taken, .ref a_codes, .ref a_list, .ref a_weights, .ref a_whole, .int m_lays, .int m_laid, .ref a_row, .int m_read, .int m_wrong, .int m_readMany, .ref a_readMap, .int m_readTables, .int m_readGroups, .ref a_readTaken, .ref a_readLengths, .ref a_readCodes, .int m_found, .ref a_foundBlock])), (a_block, .inl (cI, 300, .inl m_block)), (a_map, .inl (cI, 256, .inl m_map_78)), (a_places, .inl (cI, 300, .inl m_places_78)), (a_symbol, .inl (cI, 301, .inl m_symbol_78)), (a_lengths, .inl (cI, 3870, .inl m_lengths_137)), (a_taken, .inl (cI, 155, .inl m_taken_102z)), (a_codes, .inl (cI, 774, .inl m_codes_78)), (a_list, .inl (cI, 256, .inl m_list_78)), (a_weights, .inl (cI, 516, .inl m_weights_137)), (a_whole, .inl (cI, 516, .inl m_whole_137))] H locs → ∀ ls : Array Slot, lv_has ls 3 [(0, .ref a_self), (1, .int x1_95), (2, .int x2_137)] → W p l e (headSpec wsX9_work rmMo_work).room s m args below meth c H locs 0 0 Q (F0 m 137 ls []) := by
                intro n137
                induction n137 with
                | zero => intro x2_137 m_lengths_137 m_weights_137 m_whole_137 hI; cases hI
                | succ n137 ih137 =>
                  intro x2_137 m_lengths_137 m_weights_137 m_whole_137 hI H locs hW ls hl
                  obtain ⟨sr137, hF, hN137⟩ := itr_succ hI
                  have hF : fMo_work_L137 m_n_78 m_symbols_78 m_groups_78 m_symbol_78 t1_78 x1_95 m_taken_102z x2_137 m_lengths_137 m_weights_137 m_whole_137 = some sr137 := hF
                  unfold fMo_work_L137 at hF
                  refine lv_iload_n hx hb dX9_work_137 rfl (lv_at hl 2 rfl) ?_
                  refine lv_aload_n hx hb dX9_work_138 rfl (lv_at hl 0 rfl) ?_
                  refine va_get (D := D) (ci := 9) (v := .int t1_78) (C := RX9) (T := TX9) (N := 33) hx hb hts hi9 hown hK.1 hW.1 0 rfl rfl 12 (by decide) hw0 (fun _ h9 => h9) rfl dX9_work_139 ?_
                  refine lv_icmp_ge (tgt := 157) hx hb dX9_work_142 (by decide) (fun c142 => ?_) (fun c142 => ?_)
                  · rw [if_pos c142] at hF
                    cases hF
                    exact hX137 _ _ _ (itr_out hN137) _ _ hW _ (lv_sub hl [0, 1] rfl)
                  · rw [if_neg c142] at hF
                    refine lv_aload_n hx hb dX9_work_145 rfl (lv_at hl 0 rfl) ?_
                    refine lv_iload_n hx hb dX9_work_146 rfl (lv_at hl 1 rfl) ?_
                    refine lv_iload_n hx hb dX9_work_147 rfl (lv_at hl 2 rfl) ?_
                    obtain ⟨m_lengths_148, m_weights_148, m_whole_148, e148, hF⟩ := bd3_some hF
                    refine ctV (r := (RX9, TX9, 33)) (As := [.int x1_95, .int x2_137]) (rest := []) hx hb hml hown hts hK hW.1 hW.2.1 hW.2.2 hA hl.1 (kMo_weigh l D cI cZ cO cG a_self a_block a_tape a_map a_places a_symbol a_lengths a_taken a_codes a_list a_weights a_whole a_row a_readMap a_readTaken a_readLengths a_readCodes a_foundBlock m_signs m_bits m_faultAt m_isDone_78 m_n_78 m_symbols_78 m_groups_78 t1_78 m_lays m_laid m_read m_wrong m_readMany m_readTables m_readGroups m_found m_symbol_78 m_lengths_137 m_taken_102z m_weights_137 m_whole_137 x1_95 x2_137 e148) (cwV 2 hts gX9_work_X9_weigh rfl rfl rfl (by decide +kernel) ⟨Nat.le_of_ble_eq_true rfl, Nat.le_of_ble_eq_true rfl⟩) 9 0 rfl rfl [0, 4, 5, 6, 9, 10] rfl rfl rfl rfl rfl (Nat.le_of_ble_eq_true rfl) rfl ⟨Nat.zero_le _, Nat.zero_le _⟩ dX9_work_148 (fun H locs hP hD hS => ?_)
                    have hW : WS D A s [(a_self, .inr (9, [.int m_signs, .ref a_block, .ref a_tape, .int m_bits, .int m_faultAt, .int m_isDone_78, .int m_n_78, .ref a_map, .ref a_places, .int m_symbols_78, .ref a_symbol, .int m_groups_78, .int t1_78, .ref a_lengths, .ref a_taken, .ref a_codes, .ref a_list, .ref a_weights, .ref a_whole, .int m_lays, .int m_laid, .ref a_row, .int m_read, .int m_wrong, .int m_readMany, .ref a_readMap, .int m_readTables, .int m_readGroups, .ref a_readTaken, .ref a_readLengths, .ref a_readCodes, .int m_found, .ref a_foundBlock])), (a_block, .inl (cI, 300, .inl m_block)), (a_map, .inl (cI, 256, .inl m_map_78)), (a_places, .inl (cI, 300, .inl m_places_78)), (a_symbol, .inl (cI, 301, .inl m_symbol_78)), (a_lengths, .inl (cI, 3870, .inl m_lengths_148)), (a_taken, .inl (cI, 155, .inl m_taken_102z)), (a_codes, .inl (cI, 774, .inl m_codes_78)), (a_list, .inl (cI, 256, .inl m_list_78)), (a_weights, .inl (cI, 516, .inl m_weights_148)), (a_whole, .inl (cI, 516, .inl m_whole_148))] H locs := ⟨hP, hD, hS⟩
                    refine lv_iinc (v := (x2_137 + 1)) (lv' := [(2, .int (x2_137 + 1)), (0, .ref a_self), (1, .int x1_95)]) hx hb dX9_work_151 hl (k := 2) rfl rfl (by decide) rfl (fun ls hl => ?_)
                    refine lv_goto (tgt := 137) hx hb dX9_work_154 (by decide) ?_
                    cases hF
                    exact ih137 _ _ _ _ (itr_in hN137) _ _ hW _ (lv_sub hl [1, 2, 0] rfl)
              exact hL137 nn _ _ _ _ hI _ _ hW _ (lv_sub hl [1, 2, 0] rfl)
            have hL102 : ∀ (n102 : Nat) (x2_102 : Int32) (m_taken_102 : Nat → Int32), itr (un2 (fMo_work_L102 m_symbols_78 m_groups_78 m_symbol_78 t1_78 x1_95 m_lengths_95)) n102 (x2_102, m_taken_102) = some m_taken_102ze → ∀ (H : Heap) (locs : List Loc), WS D A s [(a_self, .inr (9, [.int m_signs, .ref a_block, .ref a_tape, .int m_bits, .int m_faultAt, .int m_isDone_78, .int m_n_78, .ref a_map, .ref a_places, .int m_symbols_78, .ref a_symbol, .int m_groups_78, .int t1_78, .ref a_lengths, .ref a_taken, .ref a_codes, .ref a_list, .ref a_weights, .ref a_whole, .int m_lays, .int m_laid, .ref a_row, .int m_read, .int m_wrong, .int m_readMany, .ref a_readMap, .int m_readTables, .int m_readGroups, .ref a_readTaken, .ref a_readLengths, .ref a_readCodes, .int m_found, .ref a_foundBlock])), (a_block, .inl (cI, 300, .inl m_block)), (a_map, .inl (cI, 256, .inl m_map_78)), (a_places, .inl (cI, 300, .inl m_places_78)), (a_symbol, .inl (cI, 301, .inl m_symbol_78)), (a_lengths, .inl (cI, 3870, .inl m_lengths_95)), (a_taken, .inl (cI, 155, .inl m_taken_102)), (a_codes, .inl (cI, 774, .inl m_codes_78)), (a_list, .inl (cI, 256, .inl m_list_78)), (a_weights, .inl (cI, 516, .inl m_weights_95)), (a_whole, .inl (cI, 516, .inl m_whole_95))] H locs → ∀ ls : Array Slot, lv_has ls 3 [(0, .ref a_self), (1, .int x1_95), (2, .int x2_102)] → W p l e (headSpec wsX9_work rmMo_work).room s m args below meth c H locs 0 0 Q (F0 m 102 ls []) := by
              intro n102
              induction n102 with
              | zero => intro x2_102 m_taken_102 hI; cases hI
              | succ n102 ih102 =>
                intro x2_102 m_taken_102 hI H locs hW ls hl
                obtain ⟨sr102, hF, hN102⟩ := itr_succ hI
                have hF : fMo_work_L102 m_symbols_78 m_groups_78 m_symbol_78 t1_78 x1_95 m_lengths_95 x2_102 m_taken_102 = some sr102 := hF
                unfold fMo_work_L102 at hF
                refine lv_iload_n hx hb dX9_work_102 rfl (lv_at hl 2 rfl) ?_
                refine lv_aload_n hx hb dX9_work_103 rfl (lv_at hl 0 rfl) ?_
                refine va_get (D := D) (ci := 9) (v := .int m_groups_78) (C := RX9) (T := TX9) (N := 33) hx hb hts hi9 hown hK.1 hW.1 0 rfl rfl 11 (by decide) hw5 (fun _ h9 => h9) rfl dX9_work_104 ?_
                refine lv_icmp_ge (tgt := 135) hx hb dX9_work_107 (by decide) (fun c107 => ?_) (fun c107 => ?_)
                · rw [if_pos c107] at hF
                  cases hF
                  exact hX102 _ (itr_out hN102) _ _ hW _ (lv_sub hl [0, 1] rfl)
                · rw [if_neg c107] at hF
                  refine lv_aload_n hx hb dX9_work_110 rfl (lv_at hl 0 rfl) ?_
                  refine va_get (D := D) (ci := 9) (v := .ref a_taken) (C := RX9) (T := TX9) (N := 33) hx hb hts hi9 hown hK.1 hW.1 0 rfl rfl 14 (by decide) hw6 (fun _ h9 => h9) rfl dX9_work_111 ?_
                  refine lv_bipush (v := 31) hx hb dX9_work_114 (by decide) ?_
                  refine lv_iload_n hx hb dX9_work_116 rfl (lv_at hl 1 rfl) ?_
                  refine lv_imul hx hb dX9_work_117 ?_
                  refine lv_iload_n hx hb dX9_work_118 rfl (lv_at hl 2 rfl) ?_
                  refine lv_iadd hx hb dX9_work_119 ?_
                  refine lv_aload_n hx hb dX9_work_120 rfl (lv_at hl 0 rfl) ?_
                  refine lv_iload_n hx hb dX9_work_121 rfl (lv_at hl 1 rfl) ?_
                  refine lv_iconst (v := 1) hx hb dX9_work_122 (by decide) ?_
                  refine lv_isub hx hb dX9_work_123 ?_
                  refine lv_iload_n hx hb dX9_work_124 rfl (lv_at hl 2 rfl) ?_
                  obtain ⟨r_125, e125, hF⟩ := bd1_some hF
                  refine ctV (r := (RX9, TX9, 33)) (As := [.int (x1_95 - (1 : Int32)), .int x2_102]) (rest := [.int (((31 : Int32) * x1_95) + x2_102), .ref a_taken]) hx hb hml hown hts hK hW.1 hW.2.1 hW.2.2 hA hl.1 (kMo_lightest l D cI cZ cO cG a_self a_block a_tape a_map a_places a_symbol a_lengths a_taken a_codes a_list a_weights a_whole a_row a_readMap a_readTaken a_readLengths a_readCodes a_foundBlock m_signs m_bits m_faultAt m_isDone_78 m_n_78 m_symbols_78 m_groups_78 t1_78 m_lays m_laid m_read m_wrong m_readMany m_readTables m_readGroups m_found m_symbol_78 m_lengths_95 (x1_95 - (1 : Int32)) x2_102 e125) (cwV 2 hts gX9_work_X9_lightest rfl rfl rfl (by decide +kernel) ⟨Nat.le_of_ble_eq_true rfl, Nat.le_of_ble_eq_true rfl⟩) 9 0 rfl rfl [0, 4, 5] rfl rfl rfl rfl rfl (Nat.le_of_ble_eq_true rfl) rfl ⟨Nat.zero_le _, Nat.zero_le _⟩ dX9_work_125 (fun H locs hP hD hS => ?_)
                  have hW : WS D A s [(a_self, .inr (9, [.int m_signs, .ref a_block, .ref a_tape, .int m_bits, .int m_faultAt, .int m_isDone_78, .int m_n_78, .ref a_map, .ref a_places, .int m_symbols_78, .ref a_symbol, .int m_groups_78, .int t1_78, .ref a_lengths, .ref a_taken, .ref a_codes, .ref a_list, .ref a_weights, .ref a_whole, .int m_lays, .int m_laid, .ref a_row, .int m_read, .int m_wrong, .int m_readMany, .ref a_readMap, .int m_readTables, .int m_readGroups, .ref a_readTaken, .ref a_readLengths, .ref a_readCodes, .int m_found, .ref a_foundBlock])), (a_block, .inl (cI, 300, .inl m_block)), (a_map, .inl (cI, 256, .inl m_map_78)), (a_places, .inl (cI, 300, .inl m_places_78)), (a_symbol, .inl (cI, 301, .inl m_symbol_78)), (a_lengths, .inl (cI, 3870, .inl m_lengths_95)), (a_taken, .inl (cI, 155, .inl m_taken_102)), (a_codes, .inl (cI, 774, .inl m_codes_78)), (a_list, .inl (cI, 256, .inl m_list_78)), (a_weights, .inl (cI, 516, .inl m_weights_95)), (a_whole, .inl (cI, 516, .inl m_whole_95))] H locs := ⟨hP, hD, hS⟩
                  obtain ⟨g128, hF⟩ := gdI_some hF
                  refine va_iast hx hb hK.1 hW.1 hW.2.1 hW.2.2 6 0 rfl rfl g128 dX9_work_128 (fun H locs hP hD hS => ?_)
                  have hW : WS D A s [(a_self, .inr (9, [.int m_signs, .ref a_block, .ref a_tape, .int m_bits, .int m_faultAt, .int m_isDone_78, .int m_n_78, .ref a_map, .ref a_places, .int m_symbols_78, .ref a_symbol, .int m_groups_78, .int t1_78, .ref a_lengths, .ref a_taken, .ref a_codes, .ref a_list, .ref a_weights, .ref a_whole, .int m_lays, .int m_laid, .ref a_row, .int m_read, .int m_wrong, .int m_readMany, .ref a_readMap, .int m_readTables, .int m_readGroups, .ref a_readTaken, .ref a_readLengths, .ref a_readCodes, .int m_found, .ref a_foundBlock])), (a_block, .inl (cI, 300, .inl m_block)), (a_map, .inl (cI, 256, .inl m_map_78)), (a_places, .inl (cI, 300, .inl m_places_78)), (a_symbol, .inl (cI, 301, .inl m_symbol_78)), (a_lengths, .inl (cI, 3870, .inl m_lengths_95)), (a_taken, .inl (cI, 155, .inl (upd m_taken_102 (((31 : Int32) * x1_95) + x2_102).toNatClampNeg r_125))), (a_codes, .inl (cI, 774, .inl m_codes_78)), (a_list, .inl (cI, 256, .inl m_list_78)), (a_weights, .inl (cI, 516, .inl m_weights_95)), (a_whole, .inl (cI, 516, .inl m_whole_95))] H locs := ⟨hP, hD, hS⟩
                  refine lv_iinc (v := (x2_102 + 1)) (lv' := [(2, .int (x2_102 + 1)), (0, .ref a_self), (1, .int x1_95)]) hx hb dX9_work_129 hl (k := 2) rfl rfl (by decide) rfl (fun ls hl => ?_)
                  refine lv_goto (tgt := 102) hx hb dX9_work_132 (by decide) ?_
                  cases hF
                  exact ih102 _ _ (itr_in hN102) _ _ hW _ (lv_sub hl [1, 2, 0] rfl)
            exact hL102 nn _ _ hI _ _ hW _ (lv_sub hl [1, 2, 0] rfl)
      exact hL95 nn _ _ _ _ _ hI _ _ hW _ (lv_sub hl [1, 0] rfl)
    · rw [if_pos c85] at hF
      cases hF
      subst hQ
      exact ct_vret hx hb hr hlocks hW.1 hW.2.2 dX9_work_88
  refine lv_aload_n hx hb dX9_work_0 rfl (lv_at hl 0 rfl) ?_
  refine va_get (D := D) (ci := 9) (v := .int m_isDone) (C := RX9) (T := TX9) (N := 33) hx hb hts hi9 hown hK.1 hW.1 0 rfl rfl 5 (by decide) hw7 (fun _ h9 => h9) rfl dX9_work_1 ?_
  refine lv_if_eq (tgt := 8) hx hb dX9_work_4 (by decide) (fun c4 => ?_) (fun c4 => ?_)
  · rw [if_pos c4] at hF
    refine lv_aload_n hx hb dX9_work_8 rfl (lv_at hl 0 rfl) ?_
    refine lv_iconst (v := 1) hx hb dX9_work_9 (by decide) ?_
    refine va_put (D := D) (ci := 9) (v := .int (1 : Int32)) (ty := .boolean) (C := RX9) (T := TX9) (N := 33) hx hb hts hi9 tyX9 tyX9_ok nmX9 hown hK.1 hW.1 hW.2.1 hW.2.2 0 rfl rfl 5 (by decide) hw7 (fun _ h9 => h9) rfl (by decide +kernel) rfl rfl (Nat.le_of_ble_eq_true rfl) dX9_work_10 (fun H locs hP hD hS => ?_)
    have hW : WS D A s [(a_self, .inr (9, [.int m_signs, .ref a_block, .ref a_tape, .int m_bits, .int m_faultAt, .int (1 : Int32), .int m_n, .ref a_map, .ref a_places, .int m_symbols, .ref a_symbol, .int m_groups, .int m_tables, .ref a_lengths, .ref a_taken, .ref a_codes, .ref a_list, .ref a_weights, .ref a_whole, .int m_lays, .int m_laid, .ref a_row, .int m_read, .int m_wrong, .int m_readMany, .ref a_readMap, .int m_readTables, .int m_readGroups, .ref a_readTaken, .ref a_readLengths, .ref a_readCodes, .int m_found, .ref a_foundBlock])), (a_block, .inl (cI, 300, .inl m_block)), (a_map, .inl (cI, 256, .inl m_map)), (a_places, .inl (cI, 300, .inl m_places)), (a_symbol, .inl (cI, 301, .inl m_symbol)), (a_lengths, .inl (cI, 3870, .inl m_lengths)), (a_taken, .inl (cI, 155, .inl m_taken)), (a_codes, .inl (cI, 774, .inl m_codes)), (a_list, .inl (cI, 256, .inl m_list)), (a_weights, .inl (cI, 516, .inl m_weights)), (a_whole, .inl (cI, 516, .inl m_whole))] H locs := ⟨hP, hD, hS⟩
    refine lv_aload_n hx hb dX9_work_13 rfl (lv_at hl 0 rfl) ?_
    obtain ⟨m_n_14, m_map_14, e14, hF⟩ := bd2_some hF
    refine ctV (r := (RX9, TX9, 33)) (As := []) (rest := []) hx hb hml hown hts hK hW.1 hW.2.1 hW.2.2 hA hl.1 (kMo_findMap l D cI cZ cO cG a_self a_block a_tape a_map a_places a_symbol a_lengths a_taken a_codes a_list a_weights a_whole a_row a_readMap a_readTaken a_readLengths a_readCodes a_foundBlock m_signs m_bits m_faultAt (1 : Int32) m_n m_symbols m_groups m_tables m_lays m_laid m_read m_wrong m_readMany m_readTables m_readGroups m_found m_block m_map e14) (cwV 0 hts gX9_work_X9_findMap rfl rfl rfl (by decide +kernel) ⟨Nat.le_of_ble_eq_true rfl, Nat.le_of_ble_eq_true rfl⟩) 9 0 rfl rfl [0, 1, 2] rfl rfl rfl rfl rfl (Nat.le_of_ble_eq_true rfl) rfl ⟨Nat.zero_le _, Nat.zero_le _⟩ dX9_work_14 (fun H locs hP hD hS => ?_)
    have hW : WS D A s [(a_self, .inr (9, [.int m_signs, .ref a_block, .ref a_tape, .int m_bits, .int m_faultAt, .int (1 : Int32), .int m_n_14, .ref a_map, .ref a_places, .int m_symbols, .ref a_symbol, .int m_groups, .int m_tables, .ref a_lengths, .ref a_taken, .ref a_codes, .ref a_list, .ref a_weights, .ref a_whole, .int m_lays, .int m_laid, .ref a_row, .int m_read, .int m_wrong, .int m_readMany, .ref a_readMap, .int m_readTables, .int m_readGroups, .ref a_readTaken, .ref a_readLengths, .ref a_readCodes, .int m_found, .ref a_foundBlock])), (a_block, .inl (cI, 300, .inl m_block)), (a_map, .inl (cI, 256, .inl m_map_14)), (a_places, .inl (cI, 300, .inl m_places)), (a_symbol, .inl (cI, 301, .inl m_symbol)), (a_lengths, .inl (cI, 3870, .inl m_lengths)), (a_taken, .inl (cI, 155, .inl m_taken)), (a_codes, .inl (cI, 774, .inl m_codes)), (a_list, .inl (cI, 256, .inl m_list)), (a_weights, .inl (cI, 516, .inl m_weights)), (a_whole, .inl (cI, 516, .inl m_whole))] H locs := ⟨hP, hD, hS⟩
    refine lv_aload_n hx hb dX9_work_17 rfl (lv_at hl 0 rfl) ?_
    obtain ⟨m_places_18, m_list_18, e18, hF⟩ := bd2_some hF
    refine ctV (r := (RX9, TX9, 33)) (As := []) (rest := []) hx hb hml hown hts hK hW.1 hW.2.1 hW.2.2 hA hl.1 (kMo_findPlaces l D cI cZ cO cG a_self a_block a_tape a_map a_places a_symbol a_lengths a_taken a_codes a_list a_weights a_whole a_row a_readMap a_readTaken a_readLengths a_readCodes a_foundBlock m_signs m_bits m_faultAt (1 : Int32) m_n_14 m_symbols m_groups m_tables m_lays m_laid m_read m_wrong m_readMany m_readTables m_readGroups m_found m_block m_map_14 m_places m_list e18) (cwV 0 hts gX9_work_X9_findPlaces rfl rfl rfl (by decide +kernel) ⟨Nat.le_of_ble_eq_true rfl, Nat.le_of_ble_eq_true rfl⟩) 9 0 rfl rfl [0, 1, 2, 3, 8] rfl rfl rfl rfl rfl (Nat.le_of_ble_eq_true rfl) rfl ⟨Nat.zero_le _, Nat.zero_le _⟩ dX9_work_18 (fun H locs hP hD hS => ?_)
    have hW : WS D A s [(a_self, .inr (9, [.int m_signs, .ref a_block, .ref a_tape, .int m_bits, .int m_faultAt, .int (1 : Int32), .int m_n_14, .ref a_map, .ref a_places, .int m_symbols, .ref a_symbol, .int m_groups, .int m_tables, .ref a_lengths, .ref a_taken, .ref a_codes, .ref a_list, .ref a_weights, .ref a_whole, .int m_lays, .int m_laid, .ref a_row, .int m_read, .int m_wrong, .int m_readMany, .ref a_readMap, .int m_readTables, .int m_readGroups, .ref a_readTaken, .ref a_readLengths, .ref a_readCodes, .int m_found, .ref a_foundBlock])), (a_block, .inl (cI, 300, .inl m_block)), (a_map, .inl (cI, 256, .inl m_map_14)), (a_places, .inl (cI, 300, .inl m_places_18)), (a_symbol, .inl (cI, 301, .inl m_symbol)), (a_lengths, .inl (cI, 3870, .inl m_lengths)), (a_taken, .inl (cI, 155, .inl m_taken)), (a_codes, .inl (cI, 774, .inl m_codes)), (a_list, .inl (cI, 256, .inl m_list_18)), (a_weights, .inl (cI, 516, .inl m_weights)), (a_whole, .inl (cI, 516, .inl m_whole))] H locs := ⟨hP, hD, hS⟩
    refine lv_aload_n hx hb dX9_work_21 rfl (lv_at hl 0 rfl) ?_
    obtain ⟨m_symbols_22, m_symbol_22, e22, hF⟩ := bd2_some hF
    refine ctV (r := (RX9, TX9, 33)) (As := []) (rest := []) hx hb hml hown hts hK hW.1 hW.2.1 hW.2.2 hA hl.1 (kMo_findSymbols l D cI cZ cO cG a_self a_block a_tape a_map a_places a_symbol a_lengths a_taken a_codes a_list a_weights a_whole a_row a_readMap a_readTaken a_readLengths a_readCodes a_foundBlock m_signs m_bits m_faultAt (1 : Int32) m_n_14 m_symbols m_groups m_tables m_lays m_laid m_read m_wrong m_readMany m_readTables m_readGroups m_found m_places_18 m_symbol e22) (cwV 0 hts gX9_work_X9_findSymbols rfl rfl rfl (by decide +kernel) ⟨Nat.le_of_ble_eq_true rfl, Nat.le_of_ble_eq_true rfl⟩) 9 0 rfl rfl [0, 3, 4] rfl rfl rfl rfl rfl (Nat.le_of_ble_eq_true rfl) rfl ⟨Nat.zero_le _, Nat.zero_le _⟩ dX9_work_22 (fun H locs hP hD hS => ?_)
    have hW : WS D A s [(a_self, .inr (9, [.int m_signs, .ref a_block, .ref a_tape, .int m_bits, .int m_faultAt, .int (1 : Int32), .int m_n_14, .ref a_map, .ref a_places, .int m_symbols_22, .ref a_symbol, .int m_groups, .int m_tables, .ref a_lengths, .ref a_taken, .ref a_codes, .ref a_list, .ref a_weights, .ref a_whole, .int m_lays, .int m_laid, .ref a_row, .int m_read, .int m_wrong, .int m_readMany, .ref a_readMap, .int m_readTables, .int m_readGroups, .ref a_readTaken, .ref a_readLengths, .ref a_readCodes, .int m_found, .ref a_foundBlock])), (a_block, .inl (cI, 300, .inl m_block)), (a_map, .inl (cI, 256, .inl m_map_14)), (a_places, .inl (cI, 300, .inl m_places_18)), (a_symbol, .inl (cI, 301, .inl m_symbol_22)), (a_lengths, .inl (cI, 3870, .inl m_lengths)), (a_taken, .inl (cI, 155, .inl m_taken)), (a_codes, .inl (cI, 774, .inl m_codes)), (a_list, .inl (cI, 256, .inl m_list_18)), (a_weights, .inl (cI, 516, .inl m_weights)), (a_whole, .inl (cI, 516, .inl m_whole))] H locs := ⟨hP, hD, hS⟩
    refine lv_aload_n hx hb dX9_work_25 rfl (lv_at hl 0 rfl) ?_
    refine lv_aload_n hx hb dX9_work_26 rfl (lv_at hl 0 rfl) ?_
    refine va_get (D := D) (ci := 9) (v := .int m_symbols_22) (C := RX9) (T := TX9) (N := 33) hx hb hts hi9 hown hK.1 hW.1 0 rfl rfl 9 (by decide) hw1 (fun _ h9 => h9) rfl dX9_work_27 ?_
    refine lv_bipush (v := 9) hx hb dX9_work_30 (by decide) ?_
    refine lv_iadd hx hb dX9_work_32 ?_
    refine lv_bipush (v := 10) hx hb dX9_work_33 (by decide) ?_
    refine lv_idiv hx hb dX9_work_35 (by decide) ?_
    refine va_put (D := D) (ci := 9) (v := .int ((m_symbols_22 + (9 : Int32)) / (10 : Int32))) (ty := .int) (C := RX9) (T := TX9) (N := 33) hx hb hts hi9 tyX9 tyX9_ok nmX9 hown hK.1 hW.1 hW.2.1 hW.2.2 0 rfl rfl 11 (by decide) hw5 (fun _ h9 => h9) rfl (by decide +kernel) rfl rfl (Nat.le_of_ble_eq_true rfl) dX9_work_36 (fun H locs hP hD hS => ?_)
    have hW : WS D A s [(a_self, .inr (9, [.int m_signs, .ref a_block, .ref a_tape, .int m_bits, .int m_faultAt, .int (1 : Int32), .int m_n_14, .ref a_map, .ref a_places, .int m_symbols_22, .ref a_symbol, .int ((m_symbols_22 + (9 : Int32)) / (10 : Int32)), .int m_tables, .ref a_lengths, .ref a_taken, .ref a_codes, .ref a_list, .ref a_weights, .ref a_whole, .int m_lays, .int m_laid, .ref a_row, .int m_read, .int m_wrong, .int m_readMany, .ref a_readMap, .int m_readTables, .int m_readGroups, .ref a_readTaken, .ref a_readLengths, .ref a_readCodes, .int m_found, .ref a_foundBlock])), (a_block, .inl (cI, 300, .inl m_block)), (a_map, .inl (cI, 256, .inl m_map_14)), (a_places, .inl (cI, 300, .inl m_places_18)), (a_symbol, .inl (cI, 301, .inl m_symbol_22)), (a_lengths, .inl (cI, 3870, .inl m_lengths)), (a_taken, .inl (cI, 155, .inl m_taken)), (a_codes, .inl (cI, 774, .inl m_codes)), (a_list, .inl (cI, 256, .inl m_list_18)), (a_weights, .inl (cI, 516, .inl m_weights)), (a_whole, .inl (cI, 516, .inl m_whole))] H locs := ⟨hP, hD, hS⟩
    refine lv_aload_n hx hb dX9_work_39 rfl (lv_at hl 0 rfl) ?_
    refine lv_aload_n hx hb dX9_work_40 rfl (lv_at hl 0 rfl) ?_
    refine va_get (D := D) (ci := 9) (v := .int m_symbols_22) (C := RX9) (T := TX9) (N := 33) hx hb hts hi9 hown hK.1 hW.1 0 rfl rfl 9 (by decide) hw1 (fun _ h9 => h9) rfl dX9_work_41 ?_
    refine lv_if_ne (tgt := 51) hx hb dX9_work_44 (by decide) (fun c44 => ?_) (fun c44 => ?_)
    · rw [if_neg c44] at hF
      refine lv_aload_n hx hb dX9_work_51 rfl (lv_at hl 0 rfl) ?_
      refine va_get (D := D) (ci := 9) (v := .int m_symbols_22) (C := RX9) (T := TX9) (N := 33) hx hb hts hi9 hown hK.1 hW.1 0 rfl rfl 9 (by decide) hw1 (fun _ h9 => h9) rfl dX9_work_52 ?_
      refine lv_bipush (v := 20) hx hb dX9_work_55 (by decide) ?_
      refine lv_icmp_ge (tgt := 64) hx hb dX9_work_57 (by decide) (fun c57 => ?_) (fun c57 => ?_)
      · rw [if_pos c57] at hF
        refine lv_aload_n hx hb dX9_work_64 rfl (lv_at hl 0 rfl) ?_
        refine va_get (D := D) (ci := 9) (v := .int m_symbols_22) (C := RX9) (T := TX9) (N := 33) hx hb hts hi9 hown hK.1 hW.1 0 rfl rfl 9 (by decide) hw1 (fun _ h9 => h9) rfl dX9_work_65 ?_
        refine lv_bipush (v := 60) hx hb dX9_work_68 (by decide) ?_
        refine lv_icmp_ge (tgt := 77) hx hb dX9_work_70 (by decide) (fun c70 => ?_) (fun c70 => ?_)
        · rw [if_pos c70] at hF
          refine lv_iconst (v := 3) hx hb dX9_work_77 (by decide) ?_
          exact hJ78 _ _ _ _ _ _ _ _ _ _ _ _ _ _ _ hF _ _ hW _ (lv_sub hl [0] rfl)
        · rw [if_neg c70] at hF
          refine lv_iconst (v := 2) hx hb dX9_work_73 (by decide) ?_
          refine lv_goto (tgt := 78) hx hb dX9_work_74 (by decide) ?_
          exact hJ78 _ _ _ _ _ _ _ _ _ _ _ _ _ _ _ hF _ _ hW _ (lv_sub hl [0] rfl)
      · rw [if_neg c57] at hF
        refine lv_iconst (v := 1) hx hb dX9_work_60 (by decide) ?_
        refine lv_goto (tgt := 78) hx hb dX9_work_61 (by decide) ?_
        exact hJ78 _ _ _ _ _ _ _ _ _ _ _ _ _ _ _ hF _ _ hW _ (lv_sub hl [0] rfl)
    · rw [if_pos c44] at hF
      refine lv_iconst (v := 0) hx hb dX9_work_47 (by decide) ?_
      refine lv_goto (tgt := 78) hx hb dX9_work_48 (by decide) ?_
      exact hJ78 _ _ _ _ _ _ _ _ _ _ _ _ _ _ _ hF _ _ hW _ (lv_sub hl [0] rfl)
  · rw [if_neg c4] at hF
    cases hF
    subst hQ
    exact ct_vret hx hb hr hlocks hW.1 hW.2.2 dX9_work_7
