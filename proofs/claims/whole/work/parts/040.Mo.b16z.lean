abbrev rmMo_told : Room := { frames := 3, cells := 0, slots := 0, locals := 72 }
set_option maxHeartbeats 4000000 in
set_option maxRecDepth 100000 in
theorem kMo_told (l : Launch) (D : va_G) (cI cZ cO cG : ClassId) (a_self : Nat) (a_block : Nat) (a_tape : Nat) (a_map : Nat) (a_places : Nat) (a_symbol : Nat) (a_lengths : Nat) (a_taken : Nat) (a_codes : Nat) (a_list : Nat) (a_weights : Nat) (a_whole : Nat) (a_row : Nat) (a_readMap : Nat) (a_readTaken : Nat) (a_readLengths : Nat) (a_readCodes : Nat) (a_foundBlock : Nat) (m_signs : Int32) (m_bits : Int32) (m_faultAt : Int32) (m_isDone : Int32) (m_n : Int32) (m_symbols : Int32) (m_groups : Int32) (m_tables : Int32) (m_lays : Int32) (m_laid : Int32) (m_read : Int32) (m_wrong : Int32) (m_readMany : Int32) (m_readTables : Int32) (m_readGroups : Int32) (m_found : Int32) (m_block : Nat → Int32) (m_map : Nat → Int32) (m_places : Nat → Int32) (m_symbol : Nat → Int32) (m_lengths : Nat → Int32) (m_taken : Nat → Int32) (m_codes : Nat → Int32) (m_list : Nat → Int32) (m_weights : Nat → Int32) (m_whole : Nat → Int32) (x1 : Int32) {rv : Int32} {m_isDone' : Int32} {m_n' : Int32} {m_symbols' : Int32} {m_groups' : Int32} {m_tables' : Int32} {m_map' : Nat → Int32} {m_places' : Nat → Int32} {m_symbol' : Nat → Int32} {m_lengths' : Nat → Int32} {m_taken' : Nat → Int32} {m_codes' : Nat → Int32} {m_list' : Nat → Int32} {m_weights' : Nat → Int32} {m_whole' : Nat → Int32} (hF : fMo_told m_signs m_bits m_isDone m_n m_symbols m_groups m_tables m_block m_map m_places m_symbol m_lengths m_taken m_codes m_list m_weights m_whole x1 = some (rv, m_isDone', m_n', m_symbols', m_groups', m_tables', m_map', m_places', m_symbol', m_lengths', m_taken', m_codes', m_list', m_weights', m_whole')) : CT l yX9_told wsX9_told rmMo_told D (tysG cI cZ cO cG) [.ref a_self, .int x1] [(a_self, .inr (9, [.int m_signs, .ref a_block, .ref a_tape, .int m_bits, .int m_faultAt, .int m_isDone, .int m_n, .ref a_map, .ref a_places, .int m_symbols, .ref a_symbol, .int m_groups, .int m_tables, .ref a_lengths, .ref a_taken, .ref a_codes, .ref a_list, .ref a_weights, .ref a_whole, .int m_lays, .int m_laid, .ref a_row, .int m_read, .int m_wrong, .int m_readMany, .ref a_readMap, .int m_readTables, .int m_readGroups, .ref a_readTaken, .ref a_readLengths, .ref a_readCodes, .int m_found, .ref a_foundBlock])), (a_block, .inl (cI, 300, .inl m_block)), (a_map, .inl (cI, 256, .inl m_map)), (a_places, .inl (cI, 300, .inl m_places)), (a_symbol, .inl (cI, 301, .inl m_symbol)), (a_lengths, .inl (cI, 3870, .inl m_lengths)), (a_taken, .inl (cI, 155, .inl m_taken)), (a_codes, .inl (cI, 774, .inl m_codes)), (a_list, .inl (cI, 256, .inl m_list)), (a_weights, .inl (cI, 516, .inl m_weights)), (a_whole, .inl (cI, 516, .inl m_whole))] (some (.int rv)) [(a_self, .inr (9, [.int m_signs, .ref a_block, .ref a_tape, .int m_bits, .int m_faultAt, .int m_isDone', .int m_n', .ref a_map, .ref a_places, .int m_symbols', .ref a_symbol, .int m_groups', .int m_tables', .ref a_lengths, .ref a_taken, .ref a_codes, .ref a_list, .ref a_weights, .ref a_whole, .int m_lays, .int m_laid, .ref a_row, .int m_read, .int m_wrong, .int m_readMany, .ref a_readMap, .int m_readTables, .int m_readGroups, .ref a_readTaken, .ref a_readLengths, .ref a_readCodes, .int m_found, .ref a_foundBlock])), (a_block, .inl (cI, 300, .inl m_block)), (a_map, .inl (cI, 256, .inl m_map')), (a_places, .inl (cI, 300, .inl m_places')), (a_symbol, .inl (cI, 301, .inl m_symbol')), (a_lengths, .inl (cI, 3870, .inl m_lengths')), (a_taken, .inl (cI, 155, .inl m_taken')), (a_codes, .inl (cI, 774, .inl m_codes')), (a_list, .inl (cI, 256, .inl m_list')), (a_weights, .inl (cI, 516, .inl m_weights')), (a_whole, .inl (cI, 516, .inl m_whole'))] := by
  refine CT.of (cc := cX9_told) (maxL := 2) (ret := (some .int)) (by decide) rfl (Nat.le_of_ble_eq_true rfl) ?_
  intro p e s m below meth c A ls hx hb hr hml hts hown hlocks hK hA hP hD hS hl
  generalize hargs : ([.ref a_self, .int x1] : List Value).toArray = args at hts ⊢
  generalize hQ : MQ below (ctQ D (some (.int rv)) [(a_self, .inr (9, [.int m_signs, .ref a_block, .ref a_tape, .int m_bits, .int m_faultAt, .int m_isDone', .int m_n', .ref a_map, .ref a_places, .int m_symbols', .ref a_symbol, .int m_groups', .int m_tables', .ref a_lengths, .ref a_taken, .ref a_codes, .ref a_list, .ref a_weights, .ref a_whole, .int m_lays, .int m_laid, .ref a_row, .int m_read, .int m_wrong, .int m_readMany, .ref a_readMap, .int m_readTables, .int m_readGroups, .ref a_readTaken, .ref a_readLengths, .ref a_readCodes, .int m_found, .ref a_foundBlock])), (a_block, .inl (cI, 300, .inl m_block)), (a_map, .inl (cI, 256, .inl m_map')), (a_places, .inl (cI, 300, .inl m_places')), (a_symbol, .inl (cI, 301, .inl m_symbol')), (a_lengths, .inl (cI, 3870, .inl m_lengths')), (a_taken, .inl (cI, 155, .inl m_taken')), (a_codes, .inl (cI, 774, .inl m_codes')), (a_list, .inl (cI, 256, .inl m_list')), (a_weights, .inl (cI, 516, .inl m_weights')), (a_whole, .inl (cI, 516, .inl m_whole'))] A) args s 0 0 A = Q
  have hl : lv_has ls 2 [(0, .ref a_self), (1, .int x1)] := hl
  have hW : WS D A s [(a_self, .inr (9, [.int m_signs, .ref a_block, .ref a_tape, .int m_bits, .int m_faultAt, .int m_isDone, .int m_n, .ref a_map, .ref a_places, .int m_symbols, .ref a_symbol, .int m_groups, .int m_tables, .ref a_lengths, .ref a_taken, .ref a_codes, .ref a_list, .ref a_weights, .ref a_whole, .int m_lays, .int m_laid, .ref a_row, .int m_read, .int m_wrong, .int m_readMany, .ref a_readMap, .int m_readTables, .int m_readGroups, .ref a_readTaken, .ref a_readLengths, .ref a_readCodes, .int m_found, .ref a_foundBlock])), (a_block, .inl (cI, 300, .inl m_block)), (a_map, .inl (cI, 256, .inl m_map)), (a_places, .inl (cI, 300, .inl m_places)), (a_symbol, .inl (cI, 301, .inl m_symbol)), (a_lengths, .inl (cI, 3870, .inl m_lengths)), (a_taken, .inl (cI, 155, .inl m_taken)), (a_codes, .inl (cI, 774, .inl m_codes)), (a_list, .inl (cI, 256, .inl m_list)), (a_weights, .inl (cI, 516, .inl m_weights)), (a_whole, .inl (cI, 516, .inl m_whole))] s.heap [] := ⟨hP, hD, hS⟩
  clear hP hD hS
  unfold fMo_told at hF
  have hw0 := hts (Cond.fieldLink RX9 138 "MoveFrontsModel" "bits" "I") (by decide +kernel)
  have hw1 := hts (Cond.fieldLink RX9 92 "MoveFrontsModel" "tables" "I") (by decide +kernel)
  have hw2 := hts (Cond.fieldLink RX9 89 "MoveFrontsModel" "groups" "I") (by decide +kernel)
  have hw3 := hts (Cond.fieldLink RX9 86 "MoveFrontsModel" "symbols" "I") (by decide +kernel)
  have hw4 := hts (Cond.fieldLink RX9 106 "MoveFrontsModel" "n" "I") (by decide +kernel)
  have hw5 := hts (Cond.fieldLink RX9 70 "MoveFrontsModel" "signs" "I") (by decide +kernel)
  have hi9 : ∀ w ∈ u_ws RX9 TX9 33, w ∈ wsX9_told := by decide +kernel
  refine lv_aload_n hx hb dX9_told_0 rfl (lv_at hl 0 rfl) ?_
  obtain ⟨m_isDone_1, m_n_1, m_symbols_1, m_groups_1, m_tables_1, m_map_1, m_places_1, m_symbol_1, m_lengths_1, m_taken_1, m_codes_1, m_list_1, m_weights_1, m_whole_1, e1, hF⟩ := bd14_some hF
  refine ctV (r := (RX9, TX9, 33)) (As := []) (rest := []) hx hb hml hown hts hK hW.1 hW.2.1 hW.2.2 hA hl.1 (kMo_work l D cI cZ cO cG a_self a_block a_tape a_map a_places a_symbol a_lengths a_taken a_codes a_list a_weights a_whole a_row a_readMap a_readTaken a_readLengths a_readCodes a_foundBlock m_signs m_bits m_faultAt m_isDone m_n m_symbols m_groups m_tables m_lays m_laid m_read m_wrong m_readMany m_readTables m_readGroups m_found m_block m_map m_places m_symbol m_lengths m_taken m_codes m_list m_weights m_whole e1) (cwV 0 hts gX9_told_X9_work rfl rfl rfl (by decide +kernel) ⟨Nat.le_of_ble_eq_true rfl, Nat.le_of_ble_eq_true rfl⟩) 9 0 rfl rfl [0, 1, 2, 3, 4, 5, 6, 7, 8, 9, 10] rfl rfl rfl rfl rfl (Nat.le_of_ble_eq_true rfl) rfl ⟨Nat.zero_le _, Nat.zero_le _⟩ dX9_told_1 (fun H locs hP hD hS => ?_)
  have hW : WS D A s [(a_self, .inr (9, [.int m_signs, .ref a_block, .ref a_tape, .int m_bits, .int m_faultAt, .int m_isDone_1, .int m_n_1, .ref a_map, .ref a_places, .int m_symbols_1, .ref a_symbol, .int m_groups_1, .int m_tables_1, .ref a_lengths, .ref a_taken, .ref a_codes, .ref a_list, .ref a_weights, .ref a_whole, .int m_lays, .int m_laid, .ref a_row, .int m_read, .int m_wrong, .int m_readMany, .ref a_readMap, .int m_readTables, .int m_readGroups, .ref a_readTaken, .ref a_readLengths, .ref a_readCodes, .int m_found, .ref a_foundBlock])), (a_block, .inl (cI, 300, .inl m_block)), (a_map, .inl (cI, 256, .inl m_map_1)), (a_places, .inl (cI, 300, .inl m_places_1)), (a_symbol, .inl (cI, 301, .inl m_symbol_1)), (a_lengths, .inl (cI, 3870, .inl m_lengths_1)), (a_taken, .inl (cI, 155, .inl m_taken_1)), (a_codes, .inl (cI, 774, .inl m_codes_1)), (a_list, .inl (cI, 256, .inl m_list_1)), (a_weights, .inl (cI, 516, .inl m_weights_1)), (a_whole, .inl (cI, 516, .inl m_whole_1))] H locs := ⟨hP, hD, hS⟩
  refine lv_iload_n hx hb dX9_told_4 rfl (lv_at hl 1 rfl) ?_
  refine lv_if_ne (tgt := 15) hx hb dX9_told_5 (by decide) (fun c5 => ?_) (fun c5 => ?_)
  · rw [if_neg c5] at hF
    refine lv_iload_n hx hb dX9_told_15 rfl (lv_at hl 1 rfl) ?_
    refine lv_iconst (v := 1) hx hb dX9_told_16 (by decide) ?_
    refine lv_icmp_ne (tgt := 27) hx hb dX9_told_17 (by decide) (fun c17 => ?_) (fun c17 => ?_)
    · rw [if_neg c17] at hF
      refine lv_iload_n hx hb dX9_told_27 rfl (lv_at hl 1 rfl) ?_
      refine lv_iconst (v := 2) hx hb dX9_told_28 (by decide) ?_
      refine lv_icmp_ne (tgt := 39) hx hb dX9_told_29 (by decide) (fun c29 => ?_) (fun c29 => ?_)
      · rw [if_neg c29] at hF
        refine lv_iload_n hx hb dX9_told_39 rfl (lv_at hl 1 rfl) ?_
        refine lv_iconst (v := 3) hx hb dX9_told_40 (by decide) ?_
        refine lv_icmp_ne (tgt := 51) hx hb dX9_told_41 (by decide) (fun c41 => ?_) (fun c41 => ?_)
        · rw [if_neg c41] at hF
          refine lv_iload_n hx hb dX9_told_51 rfl (lv_at hl 1 rfl) ?_
          refine lv_iconst (v := 4) hx hb dX9_told_52 (by decide) ?_
          refine lv_icmp_ne (tgt := 63) hx hb dX9_told_53 (by decide) (fun c53 => ?_) (fun c53 => ?_)
          · rw [if_neg c53] at hF
            refine lv_iload_n hx hb dX9_told_63 rfl (lv_at hl 1 rfl) ?_
            refine lv_iconst (v := 5) hx hb dX9_told_64 (by decide) ?_
            refine lv_icmp_ne (tgt := 75) hx hb dX9_told_65 (by decide) (fun c65 => ?_) (fun c65 => ?_)
            · rw [if_neg c65] at hF
              refine lv_bipush (v := (-2)) hx hb dX9_told_75 (by decide) ?_
              cases hF
              subst hQ
              exact ct_iret hx hb hr hlocks hW.1 hW.2.2 dX9_told_77
            · rw [if_pos c65] at hF
              refine lv_aload_n hx hb dX9_told_68 rfl (lv_at hl 0 rfl) ?_
              refine va_get (D := D) (ci := 9) (v := .int m_bits) (C := RX9) (T := TX9) (N := 33) hx hb hts hi9 hown hK.1 hW.1 0 rfl rfl 3 (by decide) hw0 (fun _ h9 => h9) rfl dX9_told_69 ?_
              refine lv_goto (tgt := 77) hx hb dX9_told_72 (by decide) ?_
              cases hF
              subst hQ
              exact ct_iret hx hb hr hlocks hW.1 hW.2.2 dX9_told_77
          · rw [if_pos c53] at hF
            refine lv_aload_n hx hb dX9_told_56 rfl (lv_at hl 0 rfl) ?_
            refine va_get (D := D) (ci := 9) (v := .int m_tables_1) (C := RX9) (T := TX9) (N := 33) hx hb hts hi9 hown hK.1 hW.1 0 rfl rfl 12 (by decide) hw1 (fun _ h9 => h9) rfl dX9_told_57 ?_
            refine lv_goto (tgt := 77) hx hb dX9_told_60 (by decide) ?_
            cases hF
            subst hQ
            exact ct_iret hx hb hr hlocks hW.1 hW.2.2 dX9_told_77
        · rw [if_pos c41] at hF
          refine lv_aload_n hx hb dX9_told_44 rfl (lv_at hl 0 rfl) ?_
          refine va_get (D := D) (ci := 9) (v := .int m_groups_1) (C := RX9) (T := TX9) (N := 33) hx hb hts hi9 hown hK.1 hW.1 0 rfl rfl 11 (by decide) hw2 (fun _ h9 => h9) rfl dX9_told_45 ?_
          refine lv_goto (tgt := 77) hx hb dX9_told_48 (by decide) ?_
          cases hF
          subst hQ
          exact ct_iret hx hb hr hlocks hW.1 hW.2.2 dX9_told_77
      · rw [if_pos c29] at hF
        refine lv_aload_n hx hb dX9_told_32 rfl (lv_at hl 0 rfl) ?_
        refine va_get (D := D) (ci := 9) (v := .int m_symbols_1) (C := RX9) (T := TX9) (N := 33) hx hb hts hi9 hown hK.1 hW.1 0 rfl rfl 9 (by decide) hw3 (fun _ h9 => h9) rfl dX9_told_33 ?_
        refine lv_goto (tgt := 77) hx hb dX9_told_36 (by decide) ?_
        cases hF
        subst hQ
        exact ct_iret hx hb hr hlocks hW.1 hW.2.2 dX9_told_77
    · rw [if_pos c17] at hF
      refine lv_aload_n hx hb dX9_told_20 rfl (lv_at hl 0 rfl) ?_
      refine va_get (D := D) (ci := 9) (v := .int m_n_1) (C := RX9) (T := TX9) (N := 33) hx hb hts hi9 hown hK.1 hW.1 0 rfl rfl 6 (by decide) hw4 (fun _ h9 => h9) rfl dX9_told_21 ?_
      refine lv_goto (tgt := 77) hx hb dX9_told_24 (by decide) ?_
      cases hF
      subst hQ
      exact ct_iret hx hb hr hlocks hW.1 hW.2.2 dX9_told_77
  · rw [if_pos c5] at hF
    refine lv_aload_n hx hb dX9_told_8 rfl (lv_at hl 0 rfl) ?_
    refine va_get (D := D) (ci := 9) (v := .int m_signs) (C := RX9) (T := TX9) (N := 33) hx hb hts hi9 hown hK.1 hW.1 0 rfl rfl 0 (by decide) hw5 (fun _ h9 => h9) rfl dX9_told_9 ?_
    refine lv_goto (tgt := 77) hx hb dX9_told_12 (by decide) ?_
    cases hF
    subst hQ
    exact ct_iret hx hb hr hlocks hW.1 hW.2.2 dX9_told_77
abbrev rmMo_at : Room := { frames := 1, cells := 0, slots := 0, locals := 22 }
set_option maxHeartbeats 4000000 in
set_option maxRecDepth 100000 in
theorem kMo_at (l : Launch) (D : va_G) (cI cZ cO cG : ClassId) (a_self : Nat) (a_block : Nat) (a_tape : Nat) (a_map : Nat) (a_places : Nat) (a_symbol : Nat) (a_lengths : Nat) (a_taken : Nat) (a_codes : Nat) (a_list : Nat) (a_weights : Nat) (a_whole : Nat) (a_row : Nat) (a_readMap : Nat) (a_readTaken : Nat) (a_readLengths : Nat) (a_readCodes : Nat) (a_foundBlock : Nat) (m_signs : Int32) (m_bits : Int32) (m_faultAt : Int32) (m_isDone : Int32) (m_n : Int32) (m_symbols : Int32) (m_groups : Int32) (m_tables : Int32) (m_lays : Int32) (m_laid : Int32) (m_read : Int32) (m_wrong : Int32) (m_readMany : Int32) (m_readTables : Int32) (m_readGroups : Int32) (m_found : Int32) (m_block : Nat → Int32) (x1 : Int32) {rv : Int32} (hF : fMo_at m_signs m_block x1 = some rv) : CT l yX9_at wsX9_at rmMo_at D (tysG cI cZ cO cG) [.ref a_self, .int x1] [(a_self, .inr (9, [.int m_signs, .ref a_block, .ref a_tape, .int m_bits, .int m_faultAt, .int m_isDone, .int m_n, .ref a_map, .ref a_places, .int m_symbols, .ref a_symbol, .int m_groups, .int m_tables, .ref a_lengths, .ref a_taken, .ref a_codes, .ref a_list, .ref a_weights, .ref a_whole, .int m_lays, .int m_laid, .ref a_row, .int m_read, .int m_wrong, .int m_readMany, .ref a_readMap, .int m_readTables, .int m_readGroups, .ref a_readTaken, .ref a_readLengths, .ref a_readCodes, .int m_found, .ref a_foundBlock])), (a_block, .inl (cI, 300, .inl m_block))] (some (.int rv)) [(a_self, .inr (9, [.int m_signs, .ref a_block, .ref a_tape, .int m_bits, .int m_faultAt, .int m_isDone, .int m_n, .ref a_map, .ref a_places, .int m_symbols, .ref a_symbol, .int m_groups, .int m_tables, .ref a_lengths, .ref a_taken, .ref a_codes, .ref a_list, .ref a_weights, .ref a_whole, .int m_lays, .int m_laid, .ref a_row, .int m_read, .int m_wrong, .int m_readMany, .ref a_readMap, .int m_readTables, .int m_readGroups, .ref a_readTaken, .ref a_readLengths, .ref a_readCodes, .int m_found, .ref a_foundBlock])), (a_block, .inl (cI, 300, .inl m_block))] := by
  refine CT.of (cc := cX9_at) (maxL := 2) (ret := (some .int)) (by decide) rfl (Nat.le_of_ble_eq_true rfl) ?_
  intro p e s m below meth c A ls hx hb hr hml hts hown hlocks hK hA hP hD hS hl
  generalize hargs : ([.ref a_self, .int x1] : List Value).toArray = args at hts ⊢
  generalize hQ : MQ below (ctQ D (some (.int rv)) [(a_self, .inr (9, [.int m_signs, .ref a_block, .ref a_tape, .int m_bits, .int m_faultAt, .int m_isDone, .int m_n, .ref a_map, .ref a_places, .int m_symbols, .ref a_symbol, .int m_groups, .int m_tables, .ref a_lengths, .ref a_taken, .ref a_codes, .ref a_list, .ref a_weights, .ref a_whole, .int m_lays, .int m_laid, .ref a_row, .int m_read, .int m_wrong, .int m_readMany, .ref a_readMap, .int m_readTables, .int m_readGroups, .ref a_readTaken, .ref a_readLengths, .ref a_readCodes, .int m_found, .ref a_foundBlock])), (a_block, .inl (cI, 300, .inl m_block))] A) args s 0 0 A = Q
  have hl : lv_has ls 2 [(0, .ref a_self), (1, .int x1)] := hl
  have hW : WS D A s [(a_self, .inr (9, [.int m_signs, .ref a_block, .ref a_tape, .int m_bits, .int m_faultAt, .int m_isDone, .int m_n, .ref a_map, .ref a_places, .int m_symbols, .ref a_symbol, .int m_groups, .int m_tables, .ref a_lengths, .ref a_taken, .ref a_codes, .ref a_list, .ref a_weights, .ref a_whole, .int m_lays, .int m_laid, .ref a_row, .int m_read, .int m_wrong, .int m_readMany, .ref a_readMap, .int m_readTables, .int m_readGroups, .ref a_readTaken, .ref a_readLengths, .ref a_readCodes, .int m_found, .ref a_foundBlock])), (a_block, .inl (cI, 300, .inl m_block))] s.heap [] := ⟨hP, hD, hS⟩
  clear hP hD hS
  unfold fMo_at at hF
  have hw0 := hts (Cond.fieldLink RX9 70 "MoveFrontsModel" "signs" "I") (by decide +kernel)
  have hw1 := hts (Cond.fieldLink RX9 7 "MoveFrontsModel" "block" "[I") (by decide +kernel)
  have hi9 : ∀ w ∈ u_ws RX9 TX9 33, w ∈ wsX9_at := by decide +kernel
  refine lv_iload_n hx hb dX9_at_0 rfl (lv_at hl 1 rfl) ?_
  refine lv_iconst (v := 0) hx hb dX9_at_1 (by decide) ?_
  refine lv_aload_n hx hb dX9_at_2 rfl (lv_at hl 0 rfl) ?_
  refine va_get (D := D) (ci := 9) (v := .int m_signs) (C := RX9) (T := TX9) (N := 33) hx hb hts hi9 hown hK.1 hW.1 0 rfl rfl 0 (by decide) hw0 (fun _ h9 => h9) rfl dX9_at_3 ?_
  refine lv_iconst (v := 1) hx hb dX9_at_6 (by decide) ?_
  refine lv_isub hx hb dX9_at_7 ?_
  obtain ⟨r_8, e8, hF⟩ := bd1_some hF
  refine ctS (As := [.int x1, .int (0 : Int32), .int (m_signs - (1 : Int32))]) (rest := []) hx hb hml hown hts hK hW.1 hW.2.1 hW.2.2 hA hl.1 (kMo_within l D cI cZ cO cG x1 (0 : Int32) (m_signs - (1 : Int32)) e8) (va_cwS 3 hts gX9_at_X9_within rfl rfl rfl (by decide +kernel) ⟨Nat.le_of_ble_eq_true rfl, Nat.le_of_ble_eq_true rfl⟩) [] rfl rfl rfl rfl rfl (Nat.le_of_ble_eq_true rfl) rfl ⟨Nat.zero_le _, Nat.zero_le _⟩ dX9_at_8 (fun H locs hP hD hS => ?_)
  have hW : WS D A s [(a_self, .inr (9, [.int m_signs, .ref a_block, .ref a_tape, .int m_bits, .int m_faultAt, .int m_isDone, .int m_n, .ref a_map, .ref a_places, .int m_symbols, .ref a_symbol, .int m_groups, .int m_tables, .ref a_lengths, .ref a_taken, .ref a_codes, .ref a_list, .ref a_weights, .ref a_whole, .int m_lays, .int m_laid, .ref a_row, .int m_read, .int m_wrong, .int m_readMany, .ref a_readMap, .int m_readTables, .int m_readGroups, .ref a_readTaken, .ref a_readLengths, .ref a_readCodes, .int m_found, .ref a_foundBlock])), (a_block, .inl (cI, 300, .inl m_block))] H locs := ⟨hP, hD, hS⟩
  refine lv_if_eq (tgt := 23) hx hb dX9_at_11 (by decide) (fun c11 => ?_) (fun c11 => ?_)
  · rw [if_pos c11] at hF
    refine lv_iconst (v := (-1)) hx hb dX9_at_23 (by decide) ?_
    cases hF
    subst hQ
    exact ct_iret hx hb hr hlocks hW.1 hW.2.2 dX9_at_24
  · rw [if_neg c11] at hF
    refine lv_aload_n hx hb dX9_at_14 rfl (lv_at hl 0 rfl) ?_
    refine va_get (D := D) (ci := 9) (v := .ref a_block) (C := RX9) (T := TX9) (N := 33) hx hb hts hi9 hown hK.1 hW.1 0 rfl rfl 1 (by decide) hw1 (fun _ h9 => h9) rfl dX9_at_15 ?_
    refine lv_iload_n hx hb dX9_at_18 rfl (lv_at hl 1 rfl) ?_
    obtain ⟨g19, hF⟩ := gdI_some hF
    refine va_iald hx hb hK.1 hW.1 1 0 rfl rfl g19 dX9_at_19 ?_
    refine lv_goto (tgt := 24) hx hb dX9_at_20 (by decide) ?_
    cases hF
    subst hQ
    exact ct_iret hx hb hr hlocks hW.1 hW.2.2 dX9_at_24
abbrev rmMo_map : Room := { frames := 3, cells := 0, slots := 0, locals := 72 }
set_option maxHeartbeats 4000000 in
set_option maxRecDepth 100000 in
theorem kMo_map (l : Launch) (D : va_G) (cI cZ cO cG : ClassId) (a_self : Nat) (a_block : Nat) (a_tape : Nat) (a_map : Nat) (a_places : Nat) (a_symbol : Nat) (a_lengths : Nat) (a_taken : Nat) (a_codes : Nat) (a_list : Nat) (a_weights : Nat) (a_whole : Nat) (a_row : Nat) (a_readMap : Nat) (a_readTaken : Nat) (a_readLengths : Nat) (a_readCodes : Nat) (a_foundBlock : Nat) (m_signs : Int32) (m_bits : Int32) (m_faultAt : Int32) (m_isDone : Int32) (m_n : Int32) (m_symbols : Int32) (m_groups : Int32) (m_tables : Int32) (m_lays : Int32) (m_laid : Int32) (m_read : Int32) (m_wrong : Int32) (m_readMany : Int32) (m_readTables : Int32) (m_readGroups : Int32) (m_found : Int32) (m_block : Nat → Int32) (m_map : Nat → Int32) (m_places : Nat → Int32) (m_symbol : Nat → Int32) (m_lengths : Nat → Int32) (m_taken : Nat → Int32) (m_codes : Nat → Int32) (m_list : Nat → Int32) (m_weights : Nat → Int32) (m_whole : Nat → Int32) (x1 : Int32) {rv : Int32} {m_isDone' : Int32} {m_n' : Int32} {m_symbols' : Int32} {m_groups' : Int32} {m_tables' : Int32} {m_map' : Nat → Int32} {m_places' : Nat → Int32} {m_symbol' : Nat → Int32} {m_lengths' : Nat → Int32} {m_taken' : Nat → Int32} {m_codes' : Nat → Int32} {m_list' : Nat → Int32} {m_weights' : Nat → Int32} {m_whole' : Nat → Int32} (hF : fMo_map m_signs m_isDone m_n m_symbols m_groups m_tables m_block m_map m_places m_symbol m_lengths m_taken m_codes m_list m_weights m_whole x1 = some (rv, m_isDone', m_n', m_symbols', m_groups', m_tables', m_map', m_places', m_symbol', m_lengths', m_taken', m_codes', m_list', m_weights', m_whole')) : CT l yX9_map wsX9_map rmMo_map D (tysG cI cZ cO cG) [.ref a_self, .int x1] [(a_self, .inr (9, [.int m_signs, .ref a_block, .ref a_tape, .int m_bits, .int m_faultAt, .int m_isDone, .int m_n, .ref a_map, .ref a_places, .int m_symbols, .ref a_symbol, .int m_groups, .int m_tables, .ref a_lengths, .ref a_taken, .ref a_codes, .ref a_list, .ref a_weights, .ref a_whole, .int m_lays, .int m_laid, .ref a_row, .int m_read, .int m_wrong, .int m_readMany, .ref a_readMap, .int m_readTables, .int m_readGroups, .ref a_readTaken, .ref a_readLengths, .ref a_readCodes, .int m_found, .ref a_foundBlock])), (a_block, .inl (cI, 300, .inl m_block)), (a_map, .inl (cI, 256, .inl m_map)), (a_places, .inl (cI, 300, .inl m_places)), (a_symbol, .inl (cI, 301, .inl m_symbol)), (a_lengths, .inl (cI, 3870, .inl m_lengths)), (a_taken, .inl (cI, 155, .inl m_taken)), (a_codes, .inl (cI, 774, .inl m_codes)), (a_list, .inl (cI, 256, .inl m_list)), (a_weights, .inl (cI, 516, .inl m_weights)), (a_whole, .inl (cI, 516, .inl m_whole))] (some (.int rv)) [(a_self, .inr (9, [.int m_signs, .ref a_block, .ref a_tape, .int m_bits, .int m_faultAt, .int m_isDone', .int m_n', .ref a_map, .ref a_places, .int m_symbols', .ref a_symbol, .int m_groups', .int m_tables', .ref a_lengths, .ref a_taken, .ref a_codes, .ref a_list, .ref a_weights, .ref a_whole, .int m_lays, .int m_laid, .ref a_row, .int m_read, .int m_wrong, .int m_readMany, .ref a_readMap, .int m_readTables, .int m_readGroups, .ref a_readTaken, .ref a_readLengths, .ref a_readCodes, .int m_found, .ref a_foundBlock])), (a_block, .inl (cI, 300, .inl m_block)), (a_map, .inl (cI, 256, .inl m_map')), (a_places, .inl (cI, 300, .inl m_places')), (a_symbol, .inl (cI, 301, .inl m_symbol')), (a_lengths, .inl (cI, 3870, .inl m_lengths')), (a_taken, .inl (cI, 155, .inl m_taken')), (a_codes, .inl (cI, 774, .inl m_codes')), (a_list, .inl (cI, 256, .inl m_list')), (a_weights, .inl (cI, 516, .inl m_weights')), (a_whole, .inl (cI, 516, .inl m_whole'))] := by
  refine CT.of (cc := cX9_map) (maxL := 2) (ret := (some .int)) (by decide) rfl (Nat.le_of_ble_eq_true rfl) ?_
  intro p e s m below meth c A ls hx hb hr hml hts hown hlocks hK hA hP hD hS hl
  generalize hargs : ([.ref a_self, .int x1] : List Value).toArray = args at hts ⊢
  generalize hQ : MQ below (ctQ D (some (.int rv)) [(a_self, .inr (9, [.int m_signs, .ref a_block, .ref a_tape, .int m_bits, .int m_faultAt, .int m_isDone', .int m_n', .ref a_map, .ref a_places, .int m_symbols', .ref a_symbol, .int m_groups', .int m_tables', .ref a_lengths, .ref a_taken, .ref a_codes, .ref a_list, .ref a_weights, .ref a_whole, .int m_lays, .int m_laid, .ref a_row, .int m_read, .int m_wrong, .int m_readMany, .ref a_readMap, .int m_readTables, .int m_readGroups, .ref a_readTaken, .ref a_readLengths, .ref a_readCodes, .int m_found, .ref a_foundBlock])), (a_block, .inl (cI, 300, .inl m_block)), (a_map, .inl (cI, 256, .inl m_map')), (a_places, .inl (cI, 300, .inl m_places')), (a_symbol, .inl (cI, 301, .inl m_symbol')), (a_lengths, .inl (cI, 3870, .inl m_lengths')), (a_taken, .inl (cI, 155, .inl m_taken')), (a_codes, .inl (cI, 774, .inl m_codes')), (a_list, .inl (cI, 256, .inl m_list')), (a_weights, .inl (cI, 516, .inl m_weights')), (a_whole, .inl (cI, 516, .inl m_whole'))] A) args s 0 0 A = Q
  have hl : lv_has ls 2 [(0, .ref a_self), (1, .int x1)] := hl
  have hW : WS D A s [(a_self, .inr (9, [.int m_signs, .ref a_block, .ref a_tape, .int m_bits, .int m_faultAt, .int m_isDone, .int m_n, .ref a_map, .ref a_places, .int m_symbols, .ref a_symbol, .int m_groups, .int m_tables, .ref a_lengths, .ref a_taken, .ref a_codes, .ref a_list, .ref a_weights, .ref a_whole, .int m_lays, .int m_laid, .ref a_row, .int m_read, .int m_wrong, .int m_readMany, .ref a_readMap, .int m_readTables, .int m_readGroups, .ref a_readTaken, .ref a_readLengths, .ref a_readCodes, .int m_found, .ref a_foundBlock])), (a_block, .inl (cI, 300, .inl m_block)), (a_map, .inl (cI, 256, .inl m_map)), (a_places, .inl (cI, 300, .inl m_places)), (a_symbol, .inl (cI, 301, .inl m_symbol)), (a_lengths, .inl (cI, 3870, .inl m_lengths)), (a_taken, .inl (cI, 155, .inl m_taken)), (a_codes, .inl (cI, 774, .inl m_codes)), (a_list, .inl (cI, 256, .inl m_list)), (a_weights, .inl (cI, 516, .inl m_weights)), (a_whole, .inl (cI, 516, .inl m_whole))] s.heap [] := ⟨hP, hD, hS⟩
  clear hP hD hS
  unfold fMo_map at hF
  have hw0 := hts (Cond.fieldLink RX9 106 "MoveFrontsModel" "n" "I") (by decide +kernel)
  have hw1 := hts (Cond.fieldLink RX9 21 "MoveFrontsModel" "map" "[I") (by decide +kernel)
  have hi9 : ∀ w ∈ u_ws RX9 TX9 33, w ∈ wsX9_map := by decide +kernel
  refine lv_aload_n hx hb dX9_map_0 rfl (lv_at hl 0 rfl) ?_
  obtain ⟨m_isDone_1, m_n_1, m_symbols_1, m_groups_1, m_tables_1, m_map_1, m_places_1, m_symbol_1, m_lengths_1, m_taken_1, m_codes_1, m_list_1, m_weights_1, m_whole_1, e1, hF⟩ := bd14_some hF
  refine ctV (r := (RX9, TX9, 33)) (As := []) (rest := []) hx hb hml hown hts hK hW.1 hW.2.1 hW.2.2 hA hl.1 (kMo_work l D cI cZ cO cG a_self a_block a_tape a_map a_places a_symbol a_lengths a_taken a_codes a_list a_weights a_whole a_row a_readMap a_readTaken a_readLengths a_readCodes a_foundBlock m_signs m_bits m_faultAt m_isDone m_n m_symbols m_groups m_tables m_lays m_laid m_read m_wrong m_readMany m_readTables m_readGroups m_found m_block m_map m_places m_symbol m_lengths m_taken m_codes m_list m_weights m_whole e1) (cwV 0 hts gX9_map_X9_work rfl rfl rfl (by decide +kernel) ⟨Nat.le_of_ble_eq_true rfl, Nat.le_of_ble_eq_true rfl⟩) 9 0 rfl rfl [0, 1, 2, 3, 4, 5, 6, 7, 8, 9, 10] rfl rfl rfl rfl rfl (Nat.le_of_ble_eq_true rfl) rfl ⟨Nat.zero_le _, Nat.zero_le _⟩ dX9_map_1 (fun H locs hP hD hS => ?_)
  have hW : WS D A s [(a_self, .inr (9, [.int m_signs, .ref a_block, .ref a_tape, .int m_bits, .int m_faultAt, .int m_isDone_1, .int m_n_1, .ref a_map, .ref a_places, .int m_symbols_1, .ref a_symbol, .int m_groups_1, .int m_tables_1, .ref a_lengths, .ref a_taken, .ref a_codes, .ref a_list, .ref a_weights, .ref a_whole, .int m_lays, .int m_laid, .ref a_row, .int m_read, .int m_wrong, .int m_readMany, .ref a_readMap, .int m_readTables, .int m_readGroups, .ref a_readTaken, .ref a_readLengths, .ref a_readCodes, .int m_found, .ref a_foundBlock])), (a_block, .inl (cI, 300, .inl m_block)), (a_map, .inl (cI, 256, .inl m_map_1)), (a_places, .inl (cI, 300, .inl m_places_1)), (a_symbol, .inl (cI, 301, .inl m_symbol_1)), (a_lengths, .inl (cI, 3870, .inl m_lengths_1)), (a_taken, .inl (cI, 155, .inl m_taken_1)), (a_codes, .inl (cI, 774, .inl m_codes_1)), (a_list, .inl (cI, 256, .inl m_list_1)), (a_weights, .inl (cI, 516, .inl m_weights_1)), (a_whole, .inl (cI, 516, .inl m_whole_1))] H locs := ⟨hP, hD, hS⟩
  refine lv_iload_n hx hb dX9_map_4 rfl (lv_at hl 1 rfl) ?_
  refine lv_iconst (v := 0) hx hb dX9_map_5 (by decide) ?_
  refine lv_aload_n hx hb dX9_map_6 rfl (lv_at hl 0 rfl) ?_
  refine va_get (D := D) (ci := 9) (v := .int m_n_1) (C := RX9) (T := TX9) (N := 33) hx hb hts hi9 hown hK.1 hW.1 0 rfl rfl 6 (by decide) hw0 (fun _ h9 => h9) rfl dX9_map_7 ?_
  refine lv_iconst (v := 1) hx hb dX9_map_10 (by decide) ?_
  refine lv_isub hx hb dX9_map_11 ?_
  obtain ⟨r_12, e12, hF⟩ := bd1_some hF
  refine ctS (As := [.int x1, .int (0 : Int32), .int (m_n_1 - (1 : Int32))]) (rest := []) hx hb hml hown hts hK hW.1 hW.2.1 hW.2.2 hA hl.1 (kMo_within l D cI cZ cO cG x1 (0 : Int32) (m_n_1 - (1 : Int32)) e12) (va_cwS 3 hts gX9_map_X9_within rfl rfl rfl (by decide +kernel) ⟨Nat.le_of_ble_eq_true rfl, Nat.le_of_ble_eq_true rfl⟩) [] rfl rfl rfl rfl rfl (Nat.le_of_ble_eq_true rfl) rfl ⟨Nat.zero_le _, Nat.zero_le _⟩ dX9_map_12 (fun H locs hP hD hS => ?_)
  have hW : WS D A s [(a_self, .inr (9, [.int m_signs, .ref a_block, .ref a_tape, .int m_bits, .int m_faultAt, .int m_isDone_1, .int m_n_1, .ref a_map, .ref a_places, .int m_symbols_1, .ref a_symbol, .int m_groups_1, .int m_tables_1, .ref a_lengths, .ref a_taken, .ref a_codes, .ref a_list, .ref a_weights, .ref a_whole, .int m_lays, .int m_laid, .ref a_row, .int m_read, .int m_wrong, .int m_readMany, .ref a_readMap, .int m_readTables, .int m_readGroups, .ref a_readTaken, .ref a_readLengths, .ref a_readCodes, .int m_found, .ref a_foundBlock])), (a_block, .inl (cI, 300, .inl m_block)), (a_map, .inl (cI, 256, .inl m_map_1)), (a_places, .inl (cI, 300, .inl m_places_1)), (a_symbol, .inl (cI, 301, .inl m_symbol_1)), (a_lengths, .inl (cI, 3870, .inl m_lengths_1)), (a_taken, .inl (cI, 155, .inl m_taken_1)), (a_codes, .inl (cI, 774, .inl m_codes_1)), (a_list, .inl (cI, 256, .inl m_list_1)), (a_weights, .inl (cI, 516, .inl m_weights_1)), (a_whole, .inl (cI, 516, .inl m_whole_1))] H locs := ⟨hP, hD, hS⟩
  refine lv_if_eq (tgt := 27) hx hb dX9_map_15 (by decide) (fun c15 => ?_) (fun c15 => ?_)
  · rw [if_pos c15] at hF
    refine lv_iconst (v := (-1)) hx hb dX9_map_27 (by decide) ?_
    cases hF
    subst hQ
    exact ct_iret hx hb hr hlocks hW.1 hW.2.2 dX9_map_28
  · rw [if_neg c15] at hF
    refine lv_aload_n hx hb dX9_map_18 rfl (lv_at hl 0 rfl) ?_
    refine va_get (D := D) (ci := 9) (v := .ref a_map) (C := RX9) (T := TX9) (N := 33) hx hb hts hi9 hown hK.1 hW.1 0 rfl rfl 7 (by decide) hw1 (fun _ h9 => h9) rfl dX9_map_19 ?_
    refine lv_iload_n hx hb dX9_map_22 rfl (lv_at hl 1 rfl) ?_
    obtain ⟨g23, hF⟩ := gdI_some hF
    refine va_iald hx hb hK.1 hW.1 2 0 rfl rfl g23 dX9_map_23 ?_
    refine lv_goto (tgt := 28) hx hb dX9_map_24 (by decide) ?_
    cases hF
    subst hQ
    exact ct_iret hx hb hr hlocks hW.1 hW.2.2 dX9_map_28
abbrev rmMo_place : Room := { frames := 3, cells := 0, slots := 0, locals := 72 }
set_option maxHeartbeats 4000000 in
set_option maxRecDepth 100000 in
theorem kMo_place (l : Launch) (D : va_G) (cI cZ cO cG : ClassId) (a_self : Nat) (a_block : Nat) (a_tape : Nat) (a_map : Nat) (a_places : Nat) (a_symbol : Nat) (a_lengths : Nat) (a_taken : Nat) (a_codes : Nat) (a_list : Nat) (a_weights : Nat) (a_whole : Nat) (a_row : Nat) (a_readMap : Nat) (a_readTaken : Nat) (a_readLengths : Nat) (a_readCodes : Nat) (a_foundBlock : Nat) (m_signs : Int32) (m_bits : Int32) (m_faultAt : Int32) (m_isDone : Int32) (m_n : Int32) (m_symbols : Int32) (m_groups : Int32) (m_tables : Int32) (m_lays : Int32) (m_laid : Int32) (m_read : Int32) (m_wrong : Int32) (m_readMany : Int32) (m_readTables : Int32) (m_readGroups : Int32) (m_found : Int32) (m_block : Nat → Int32) (m_map : Nat → Int32) (m_places : Nat → Int32) (m_symbol : Nat → Int32) (m_lengths : Nat → Int32) (m_taken : Nat → Int32) (m_codes : Nat → Int32) (m_list : Nat → Int32) (m_weights : Nat → Int32) (m_whole : Nat → Int32) (x1 : Int32) {rv : Int32} {m_isDone' : Int32} {m_n' : Int32} {m_symbols' : Int32} {m_groups' : Int32} {m_tables' : Int32} {m_map' : Nat → Int32} {m_places' : Nat → Int32} {m_symbol' : Nat → Int32} {m_lengths' : Nat → Int32} {m_taken' : Nat → Int32} {m_codes' : Nat → Int32} {m_list' : Nat → Int32} {m_weights' : Nat → Int32} {m_whole' : Nat → Int32} (hF : fMo_place m_signs m_isDone m_n m_symbols m_groups m_tables m_block m_map m_places m_symbol m_lengths m_taken m_codes m_list m_weights m_whole x1 = some (rv, m_isDone', m_n', m_symbols', m_groups', m_tables', m_map', m_places', m_symbol', m_lengths', m_taken', m_codes', m_list', m_weights', m_whole')) : CT l yX9_place wsX9_place rmMo_place D (tysG cI cZ cO cG) [.ref a_self, .int x1] [(a_self, .inr (9, [.int m_signs, .ref a_block, .ref a_tape, .int m_bits, .int m_faultAt, .int m_isDone, .int m_n, .ref a_map, .ref a_places, .int m_symbols, .ref a_symbol, .int m_groups, .int m_tables, .ref a_lengths, .ref a_taken, .ref a_codes, .ref a_list, .ref a_weights, .ref a_whole, .int m_lays, .int m_laid, .ref a_row, .int m_read, .int m_wrong, .int m_readMany, .ref a_readMap, .int m_readTables, .int m_readGroups, .ref a_readTaken, .ref a_readLengths, .ref a_readCodes, .int m_found, .ref a_foundBlock])), (a_block, .inl (cI, 300, .inl m_block)), (a_map, .inl (cI, 256, .inl m_map)), (a_places, .inl (cI, 300, .inl m_places)), (a_symbol, .inl (cI, 301, .inl m_symbol)), (a_lengths, .inl (cI, 3870, .inl m_lengths)), (a_taken, .inl (cI, 155, .inl m_taken)), (a_codes, .inl (cI, 774, .inl m_codes)), (a_list, .inl (cI, 256, .inl m_list)), (a_weights, .inl (cI, 516, .inl m_weights)), (a_whole, .inl (cI, 516, .inl m_whole))] (some (.int rv)) [(a_self, .inr (9, [.int m_signs, .ref a_block, .ref a_tape, .int m_bits, .int m_faultAt, .int m_isDone', .int m_n', .ref a_map, .ref a_places, .int m_symbols', .ref a_symbol, .int m_groups', .int m_tables', .ref a_lengths, .ref a_taken, .ref a_codes, .ref a_list, .ref a_weights, .ref a_whole, .int m_lays, .int m_laid, .ref a_row, .int m_read, .int m_wrong, .int m_readMany, .ref a_readMap, .int m_readTables, .int m_readGroups, .ref a_readTaken, .ref a_readLengths, .ref a_readCodes, .int m_found, .ref a_foundBlock])), (a_block, .inl (cI, 300, .inl m_block)), (a_map, .inl (cI, 256, .inl m_map')), (a_places, .inl (cI, 300, .inl m_places')), (a_symbol, .inl (cI, 301, .inl m_symbol')), (a_lengths, .inl (cI, 3870, .inl m_lengths')), (a_taken, .inl (cI, 155, .inl m_taken')), (a_codes, .inl (cI, 774, .inl m_codes')), (a_list, .inl (cI, 256, .inl m_list')), (a_weights, .inl (cI, 516, .inl m_weights')), (a_whole, .inl (cI, 516, .inl m_whole'))] := by
  refine CT.of (cc := cX9_place) (maxL := 2) (ret := (some .int)) (by decide) rfl (Nat.le_of_ble_eq_true rfl) ?_
  intro p e s m below meth c A ls hx hb hr hml hts hown hlocks hK hA hP hD hS hl
  generalize hargs : ([.ref a_self, .int x1] : List Value).toArray = args at hts ⊢
  generalize hQ : MQ below (ctQ D (some (.int rv)) [(a_self, .inr (9, [.int m_signs, .ref a_block, .ref a_tape, .int m_bits, .int m_faultAt, .int m_isDone', .int m_n', .ref a_map, .ref a_places, .int m_symbols', .ref a_symbol, .int m_groups', .int m_tables', .ref a_lengths, .ref a_taken, .ref a_codes, .ref a_list, .ref a_weights, .ref a_whole, .int m_lays, .int m_laid, .ref a_row, .int m_read, .int m_wrong, .int m_readMany, .ref a_readMap, .int m_readTables, .int m_readGroups, .ref a_readTaken, .ref a_readLengths, .ref a_readCodes, .int m_found, .ref a_foundBlock])), (a_block, .inl (cI, 300, .inl m_block)), (a_map, .inl (cI, 256, .inl m_map')), (a_places, .inl (cI, 300, .inl m_places')), (a_symbol, .inl (cI, 301, .inl m_symbol')), (a_lengths, .inl (cI, 3870, .inl m_lengths')), (a_taken, .inl (cI, 155, .inl m_taken')), (a_codes, .inl (cI, 774, .inl m_codes')), (a_list, .inl (cI, 256, .inl m_list')), (a_weights, .inl (cI, 516, .inl m_weights')), (a_whole, .inl (cI, 516, .inl m_whole'))] A) args s 0 0 A = Q
  have hl : lv_has ls 2 [(0, .ref a_self), (1, .int x1)] := hl
  have hW : WS D A s [(a_self, .inr (9, [.int m_signs, .ref a_block, .ref a_tape, .int m_bits, .int m_faultAt, .int m_isDone, .int m_n, .ref a_map, .ref a_places, .int m_symbols, .ref a_symbol, .int m_groups, .int m_tables, .ref a_lengths, .ref a_taken, .ref a_codes, .ref a_list, .ref a_weights, .ref a_whole, .int m_lays, .int m_laid, .ref a_row, .int m_read, .int m_wrong, .int m_readMany, .ref a_readMap, .int m_readTables, .int m_readGroups, .ref a_readTaken, .ref a_readLengths, .ref a_readCodes, .int m_found, .ref a_foundBlock])), (a_block, .inl (cI, 300, .inl m_block)), (a_map, .inl (cI, 256, .inl m_map)), (a_places, .inl (cI, 300, .inl m_places)), (a_symbol, .inl (cI, 301, .inl m_symbol)), (a_lengths, .inl (cI, 3870, .inl m_lengths)), (a_taken, .inl (cI, 155, .inl m_taken)), (a_codes, .inl (cI, 774, .inl m_codes)), (a_list, .inl (cI, 256, .inl m_list)), (a_weights, .inl (cI, 516, .inl m_weights)), (a_whole, .inl (cI, 516, .inl m_whole))] s.heap [] := ⟨hP, hD, hS⟩
  clear hP hD hS
  unfold fMo_place at hF
  have hw0 := hts (Cond.fieldLink RX9 70 "MoveFrontsModel" "signs" "I") (by decide +kernel)
  have hw1 := hts (Cond.fieldLink RX9 24 "MoveFrontsModel" "places" "[I") (by decide +kernel)
  have hi9 : ∀ w ∈ u_ws RX9 TX9 33, w ∈ wsX9_place := by decide +kernel
  refine lv_aload_n hx hb dX9_place_0 rfl (lv_at hl 0 rfl) ?_
  obtain ⟨m_isDone_1, m_n_1, m_symbols_1, m_groups_1, m_tables_1, m_map_1, m_places_1, m_symbol_1, m_lengths_1, m_taken_1, m_codes_1, m_list_1, m_weights_1, m_whole_1, e1, hF⟩ := bd14_some hF
  refine ctV (r := (RX9, TX9, 33)) (As := []) (rest := []) hx hb hml hown hts hK hW.1 hW.2.1 hW.2.2 hA hl.1 (kMo_work l D cI cZ cO cG a_self a_block a_tape a_map a_places a_symbol a_lengths a_taken a_codes a_list a_weights a_whole a_row a_readMap a_readTaken a_readLengths a_readCodes a_foundBlock m_signs m_bits m_faultAt m_isDone m_n m_symbols m_groups m_tables m_lays m_laid m_read m_wrong m_readMany m_readTables m_readGroups m_found m_block m_map m_places m_symbol m_lengths m_taken m_codes m_list m_weights m_whole e1) (cwV 0 hts gX9_place_X9_work rfl rfl rfl (by decide +kernel) ⟨Nat.le_of_ble_eq_true rfl, Nat.le_of_ble_eq_true rfl⟩) 9 0 rfl rfl [0, 1, 2, 3, 4, 5, 6, 7, 8, 9, 10] rfl rfl rfl rfl rfl (Nat.le_of_ble_eq_true rfl) rfl ⟨Nat.zero_le _, Nat.zero_le _⟩ dX9_place_1 (fun H locs hP hD hS => ?_)
  have hW : WS D A s [(a_self, .inr (9, [.int m_signs, .ref a_block, .ref a_tape, .int m_bits, .int m_faultAt, .int m_isDone_1, .int m_n_1, .ref a_map, .ref a_places, .int m_symbols_1, .ref a_symbol, .int m_groups_1, .int m_tables_1, .ref a_lengths, .ref a_taken, .ref a_codes, .ref a_list, .ref a_weights, .ref a_whole, .int m_lays, .int m_laid, .ref a_row, .int m_read, .int m_wrong, .int m_readMany, .ref a_readMap, .int m_readTables, .int m_readGroups, .ref a_readTaken, .ref a_readLengths, .ref a_readCodes, .int m_found, .ref a_foundBlock])), (a_block, .inl (cI, 300, .inl m_block)), (a_map, .inl (cI, 256, .inl m_map_1)), (a_places, .inl (cI, 300, .inl m_places_1)), (a_symbol, .inl (cI, 301, .inl m_symbol_1)), (a_lengths, .inl (cI, 3870, .inl m_lengths_1)), (a_taken, .inl (cI, 155, .inl m_taken_1)), (a_codes, .inl (cI, 774, .inl m_codes_1)), (a_list, .inl (cI, 256, .inl m_list_1)), (a_weights, .inl (cI, 516, .inl m_weights_1)), (a_whole, .inl (cI, 516, .inl m_whole_1))] H locs := ⟨hP, hD, hS⟩
  refine lv_iload_n hx hb dX9_place_4 rfl (lv_at hl 1 rfl) ?_
  refine lv_iconst (v := 0) hx hb dX9_place_5 (by decide) ?_
  refine lv_aload_n hx hb dX9_place_6 rfl (lv_at hl 0 rfl) ?_
  refine va_get (D := D) (ci := 9) (v := .int m_signs) (C := RX9) (T := TX9) (N := 33) hx hb hts hi9 hown hK.1 hW.1 0 rfl rfl 0 (by decide) hw0 (fun _ h9 => h9) rfl dX9_place_7 ?_
  refine lv_iconst (v := 1) hx hb dX9_place_10 (by decide) ?_
  refine lv_isub hx hb dX9_place_11 ?_
  obtain ⟨r_12, e12, hF⟩ := bd1_some hF
  refine ctS (As := [.int x1, .int (0 : Int32), .int (m_signs - (1 : Int32))]) (rest := []) hx hb hml hown hts hK hW.1 hW.2.1 hW.2.2 hA hl.1 (kMo_within l D cI cZ cO cG x1 (0 : Int32) (m_signs - (1 : Int32)) e12) (va_cwS 3 hts gX9_place_X9_within rfl rfl rfl (by decide +kernel) ⟨Nat.le_of_ble_eq_true rfl, Nat.le_of_ble_eq_true rfl⟩) [] rfl rfl rfl rfl rfl (Nat.le_of_ble_eq_true rfl) rfl ⟨Nat.zero_le _, Nat.zero_le _⟩ dX9_place_12 (fun H locs hP hD hS => ?_)
  have hW : WS D A s [(a_self, .inr (9, [.int m_signs, .ref a_block, .ref a_tape, .int m_bits, .int m_faultAt, .int m_isDone_1, .int m_n_1, .ref a_map, .ref a_places, .int m_symbols_1, .ref a_symbol, .int m_groups_1, .int m_tables_1, .ref a_lengths, .ref a_taken, .ref a_codes, .ref a_list, .ref a_weights, .ref a_whole, .int m_lays, .int m_laid, .ref a_row, .int m_read, .int m_wrong, .int m_readMany, .ref a_readMap, .int m_readTables, .int m_readGroups, .ref a_readTaken, .ref a_readLengths, .ref a_readCodes, .int m_found, .ref a_foundBlock])), (a_block, .inl (cI, 300, .inl m_block)), (a_map, .inl (cI, 256, .inl m_map_1)), (a_places, .inl (cI, 300, .inl m_places_1)), (a_symbol, .inl (cI, 301, .inl m_symbol_1)), (a_lengths, .inl (cI, 3870, .inl m_lengths_1)), (a_taken, .inl (cI, 155, .inl m_taken_1)), (a_codes, .inl (cI, 774, .inl m_codes_1)), (a_list, .inl (cI, 256, .inl m_list_1)), (a_weights, .inl (cI, 516, .inl m_weights_1)), (a_whole, .inl (cI, 516, .inl m_whole_1))] H locs := ⟨hP, hD, hS⟩
  refine lv_if_eq (tgt := 27) hx hb dX9_place_15 (by decide) (fun c15 => ?_) (fun c15 => ?_)
  · rw [if_pos c15] at hF
    refine lv_iconst (v := (-1)) hx hb dX9_place_27 (by decide) ?_
    cases hF
    subst hQ
    exact ct_iret hx hb hr hlocks hW.1 hW.2.2 dX9_place_28
  · rw [if_neg c15] at hF
    refine lv_aload_n hx hb dX9_place_18 rfl (lv_at hl 0 rfl) ?_
    refine va_get (D := D) (ci := 9) (v := .ref a_places) (C := RX9) (T := TX9) (N := 33) hx hb hts hi9 hown hK.1 hW.1 0 rfl rfl 8 (by decide) hw1 (fun _ h9 => h9) rfl dX9_place_19 ?_
    refine lv_iload_n hx hb dX9_place_22 rfl (lv_at hl 1 rfl) ?_
    obtain ⟨g23, hF⟩ := gdI_some hF
    refine va_iald hx hb hK.1 hW.1 3 0 rfl rfl g23 dX9_place_23 ?_
    refine lv_goto (tgt := 28) hx hb dX9_place_24 (by decide) ?_
    cases hF
    subst hQ
    exact ct_iret hx hb hr hlocks hW.1 hW.2.2 dX9_place_28
abbrev rmMo_symbol : Room := { frames := 3, cells := 0, slots := 0, locals := 72 }
set_option maxHeartbeats 4000000 in
set_option maxRecDepth 100000 in
theorem kMo_symbol (l : Launch) (D : va_G) (cI cZ cO cG : ClassId) (a_self : Nat) (a_block : Nat) (a_tape : Nat) (a_map : Nat) (a_places : Nat) (a_symbol : Nat) (a_lengths : Nat) (a_taken : Nat) (a_codes : Nat) (a_list : Nat) (a_weights : Nat) (a_whole : Nat) (a_row : Nat) (a_readMap : Nat) (a_readTaken : Nat) (a_readLengths : Nat) (a_readCodes : Nat) (a_foundBlock : Nat) (m_signs : Int32) (m_bits : Int32) (m_faultAt : Int32) (m_isDone : Int32) (m_n : Int32) (m_symbols : Int32) (m_groups : Int32) (m_tables : Int32) (m_lays : Int32) (m_laid : Int32) (m_read : Int32) (m_wrong : Int32) (m_readMany : Int32) (m_readTables : Int32) (m_readGroups : Int32) (m_found : Int32) (m_block : Nat → Int32) (m_map : Nat → Int32) (m_places : Nat → Int32) (m_symbol : Nat → Int32) (m_lengths : Nat → Int32) (m_taken : Nat → Int32) (m_codes : Nat → Int32) (m_list : Nat → Int32) (m_weights : Nat → Int32) (m_whole : Nat → Int32) (x1 : Int32) {rv : Int32} {m_isDone' : Int32} {m_n' : Int32} {m_symbols' : Int32} {m_groups' : Int32} {m_tables' : Int32} {m_map' : Nat → Int32} {m_places' : Nat → Int32} {m_symbol' : Nat → Int32} {m_lengths' : Nat → Int32} {m_taken' : Nat → Int32} {m_codes' : Nat → Int32} {m_list' : Nat → Int32} {m_weights' : Nat → Int32} {m_whole' : Nat → Int32} (hF : fMo_symbol m_signs m_isDone m_n m_symbols m_groups m_tables m_block m_map m_places m_symbol m_lengths m_taken m_codes m_list m_weights m_whole x1 = some (rv, m_isDone', m_n', m_symbols', m_groups', m_tables', m_map', m_places', m_symbol', m_lengths', m_taken', m_codes', m_list', m_weights', m_whole')) : CT l yX9_symbol wsX9_symbol rmMo_symbol D (tysG cI cZ cO cG) [.ref a_self, .int x1] [(a_self, .inr (9, [.int m_signs, .ref a_block, .ref a_tape, .int m_bits, .int m_faultAt, .int m_isDone, .int m_n, .ref a_map, .ref a_places, .int m_symbols, .ref a_symbol, .int m_groups, .int m_tables, .ref a_lengths, .ref a_taken, .ref a_codes, .ref a_list, .ref a_weights, .ref a_whole, .int m_lays, .int m_laid, .ref a_row, .int m_read, .int m_wrong, .int m_readMany, .ref a_readMap, .int m_readTables, .int m_readGroups, .ref a_readTaken, .ref a_readLengths, .ref a_readCodes, .int m_found, .ref a_foundBlock])), (a_block, .inl (cI, 300, .inl m_block)), (a_map, .inl (cI, 256, .inl m_map)), (a_places, .inl (cI, 300, .inl m_places)), (a_symbol, .inl (cI, 301, .inl m_symbol)), (a_lengths, .inl (cI, 3870, .inl m_lengths)), (a_taken, .inl (cI, 155, .inl m_taken)), (a_codes, .inl (cI, 774, .inl m_codes)), (a_list, .inl (cI, 256, .inl m_list)), (a_weights, .inl (cI, 516, .inl m_weights)), (a_whole, .inl (cI, 516, .inl m_whole))] (some (.int rv)) [(a_self, .inr (9, [.int m_signs, .ref a_block, .ref a_tape, .int m_bits, .int m_faultAt, .int m_isDone', .int m_n', .ref a_map, .ref a_places, .int m_symbols', .ref a_symbol, .int m_groups', .int m_tables', .ref a_lengths, .ref a_taken, .ref a_codes, .ref a_list, .ref a_weights, .ref a_whole, .int m_lays, .int m_laid, .ref a_row, .int m_read, .int m_wrong, .int m_readMany, .ref a_readMap, .int m_readTables, .int m_readGroups, .ref a_readTaken, .ref a_readLengths, .ref a_readCodes, .int m_found, .ref a_foundBlock])), (a_block, .inl (cI, 300, .inl m_block)), (a_map, .inl (cI, 256, .inl m_map')), (a_places, .inl (cI, 300, .inl m_places')), (a_symbol, .inl (cI, 301, .inl m_symbol')), (a_lengths, .inl (cI, 3870, .inl m_lengths')), (a_taken, .inl (cI, 155, .inl m_taken')), (a_codes, .inl (cI, 774, .inl m_codes')), (a_list, .inl (cI, 256, .inl m_list')), (a_weights, .inl (cI, 516, .inl m_weights')), (a_whole, .inl (cI, 516, .inl m_whole'))] := by
  refine CT.of (cc := cX9_symbol) (maxL := 2) (ret := (some .int)) (by decide) rfl (Nat.le_of_ble_eq_true rfl) ?_
  intro p e s m below meth c A ls hx hb hr hml hts hown hlocks hK hA hP hD hS hl
  generalize hargs : ([.ref a_self, .int x1] : List Value).toArray = args at hts ⊢
  generalize hQ : MQ below (ctQ D (some (.int rv)) [(a_self, .inr (9, [.int m_signs, .ref a_block, .ref a_tape, .int m_bits, .int m_faultAt, .int m_isDone', .int m_n', .ref a_map, .ref a_places, .int m_symbols', .ref a_symbol, .int m_groups', .int m_tables', .ref a_lengths, .ref a_taken, .ref a_codes, .ref a_list, .ref a_weights, .ref a_whole, .int m_lays, .int m_laid, .ref a_row, .int m_read, .int m_wrong, .int m_readMany, .ref a_readMap, .int m_readTables, .int m_readGroups, .ref a_readTaken, .ref a_readLengths, .ref a_readCodes, .int m_found, .ref a_foundBlock])), (a_block, .inl (cI, 300, .inl m_block)), (a_map, .inl (cI, 256, .inl m_map')), (a_places, .inl (cI, 300, .inl m_places')), (a_symbol, .inl (cI, 301, .inl m_symbol')), (a_lengths, .inl (cI, 3870, .inl m_lengths')), (a_taken, .inl (cI, 155, .inl m_taken')), (a_codes, .inl (cI, 774, .inl m_codes')), (a_list, .inl (cI, 256, .inl m_list')), (a_weights, .inl (cI, 516, .inl m_weights')), (a_whole, .inl (cI, 516, .inl m_whole'))] A) args s 0 0 A = Q
  have hl : lv_has ls 2 [(0, .ref a_self), (1, .int x1)] := hl
  have hW : WS D A s [(a_self, .inr (9, [.int m_signs, .ref a_block, .ref a_tape, .int m_bits, .int m_faultAt, .int m_isDone, .int m_n, .ref a_map, .ref a_places, .int m_symbols, .ref a_symbol, .int m_groups, .int m_tables, .ref a_lengths, .ref a_taken, .ref a_codes, .ref a_list, .ref a_weights, .ref a_whole, .int m_lays, .int m_laid, .ref a_row, .int m_read, .int m_wrong, .int m_readMany, .ref a_readMap, .int m_readTables, .int m_readGroups, .ref a_readTaken, .ref a_readLengths, .ref a_readCodes, .int m_found, .ref a_foundBlock])), (a_block, .inl (cI, 300, .inl m_block)), (a_map, .inl (cI, 256, .inl m_map)), (a_places, .inl (cI, 300, .inl m_places)), (a_symbol, .inl (cI, 301, .inl m_symbol)), (a_lengths, .inl (cI, 3870, .inl m_lengths)), (a_taken, .inl (cI, 155, .inl m_taken)), (a_codes, .inl (cI, 774, .inl m_codes)), (a_list, .inl (cI, 256, .inl m_list)), (a_weights, .inl (cI, 516, .inl m_weights)), (a_whole, .inl (cI, 516, .inl m_whole))] s.heap [] := ⟨hP, hD, hS⟩
  clear hP hD hS
  unfold fMo_symbol at hF
  have hw0 := hts (Cond.fieldLink RX9 86 "MoveFrontsModel" "symbols" "I") (by decide +kernel)
  have hw1 := hts (Cond.fieldLink RX9 27 "MoveFrontsModel" "symbol" "[I") (by decide +kernel)
  have hi9 : ∀ w ∈ u_ws RX9 TX9 33, w ∈ wsX9_symbol := by decide +kernel
  refine lv_aload_n hx hb dX9_symbol_0 rfl (lv_at hl 0 rfl) ?_
  obtain ⟨m_isDone_1, m_n_1, m_symbols_1, m_groups_1, m_tables_1, m_map_1, m_places_1, m_symbol_1, m_lengths_1, m_taken_1, m_codes_1, m_list_1, m_weights_1, m_whole_1, e1, hF⟩ := bd14_some hF
  refine ctV (r := (RX9, TX9, 33)) (As := []) (rest := []) hx hb hml hown hts hK hW.1 hW.2.1 hW.2.2 hA hl.1 (kMo_work l D cI cZ cO cG a_self a_block a_tape a_map a_places a_symbol a_lengths a_taken a_codes a_list a_weights a_whole a_row a_readMap a_readTaken a_readLengths a_readCodes a_foundBlock m_signs m_bits m_faultAt m_isDone m_n m_symbols m_groups m_tables m_lays m_laid m_read m_wrong m_readMany m_readTables m_readGroups m_found m_block m_map m_places m_symbol m_lengths m_taken m_codes m_list m_weights m_whole e1) (cwV 0 hts gX9_symbol_X9_work rfl rfl rfl (by decide +kernel) ⟨Nat.le_of_ble_eq_true rfl, Nat.le_of_ble_eq_true rfl⟩) 9 0 rfl rfl [0, 1, 2, 3, 4, 5, 6, 7, 8, 9, 10] rfl rfl rfl rfl rfl (Nat.le_of_ble_eq_true rfl) rfl ⟨Nat.zero_le _, Nat.zero_le _⟩ dX9_symbol_1 (fun H locs hP hD hS => ?_)
  have hW : WS D A s [(a_self, .inr (9, [.int m_signs, .ref a_block, .ref a_tape, .int m_bits, .int m_faultAt, .int m_isDone_1, .int m_n_1, .ref a_map, .ref a_places, .int m_symbols_1, .ref a_symbol, .int m_groups_1, .int m_tables_1, .ref a_lengths, .ref a_taken, .ref a_codes, .ref a_list, .ref a_weights, .ref a_whole, .int m_lays, .int m_laid, .ref a_row, .int m_read, .int m_wrong, .int m_readMany, .ref a_readMap, .int m_readTables, .int m_readGroups, .ref a_readTaken, .ref a_readLengths, .ref a_readCodes, .int m_found, .ref a_foundBlock])), (a_block, .inl (cI, 300, .inl m_block)), (a_map, .inl (cI, 256, .inl m_map_1)), (a_places, .inl (cI, 300, .inl m_places_1)), (a_symbol, .inl (cI, 301, .inl m_symbol_1)), (a_lengths, .inl (cI, 3870, .inl m_lengths_1)), (a_taken, .inl (cI, 155, .inl m_taken_1)), (a_codes, .inl (cI, 774, .inl m_codes_1)), (a_list, .inl (cI, 256, .inl m_list_1)), (a_weights, .inl (cI, 516, .inl m_weights_1)), (a_whole, .inl (cI, 516, .inl m_whole_1))] H locs := ⟨hP, hD, hS⟩
  refine lv_iload_n hx hb dX9_symbol_4 rfl (lv_at hl 1 rfl) ?_
  refine lv_iconst (v := 0) hx hb dX9_symbol_5 (by decide) ?_
  refine lv_aload_n hx hb dX9_symbol_6 rfl (lv_at hl 0 rfl) ?_
  refine va_get (D := D) (ci := 9) (v := .int m_symbols_1) (C := RX9) (T := TX9) (N := 33) hx hb hts hi9 hown hK.1 hW.1 0 rfl rfl 9 (by decide) hw0 (fun _ h9 => h9) rfl dX9_symbol_7 ?_
  refine lv_iconst (v := 1) hx hb dX9_symbol_10 (by decide) ?_
  refine lv_isub hx hb dX9_symbol_11 ?_
  obtain ⟨r_12, e12, hF⟩ := bd1_some hF
  refine ctS (As := [.int x1, .int (0 : Int32), .int (m_symbols_1 - (1 : Int32))]) (rest := []) hx hb hml hown hts hK hW.1 hW.2.1 hW.2.2 hA hl.1 (kMo_within l D cI cZ cO cG x1 (0 : Int32) (m_symbols_1 - (1 : Int32)) e12) (va_cwS 3 hts gX9_symbol_X9_within rfl rfl rfl (by decide +kernel) ⟨Nat.le_of_ble_eq_true rfl, Nat.le_of_ble_eq_true rfl⟩) [] rfl rfl rfl rfl rfl (Nat.le_of_ble_eq_true rfl) rfl ⟨Nat.zero_le _, Nat.zero_le _⟩ dX9_symbol_12 (fun H locs hP hD hS => ?_)
  have hW : WS D A s [(a_self, .inr (9, [.int m_signs, .ref a_block, .ref a_tape, .int m_bits, .int m_faultAt, .int m_isDone_1, .int m_n_1, .ref a_map, .ref a_places, .int m_symbols_1, .ref a_symbol, .int m_groups_1, .int m_tables_1, .ref a_lengths, .ref a_taken, .ref a_codes, .ref a_list, .ref a_weights, .ref a_whole, .int m_lays, .int m_laid, .ref a_row, .int m_read, .int m_wrong, .int m_readMany, .ref a_readMap, .int m_readTables, .int m_readGroups, .ref a_readTaken, .ref a_readLengths, .ref a_readCodes, .int m_found, .ref a_foundBlock])), (a_block, .inl (cI, 300, .inl m_block)), (a_map, .inl (cI, 256, .inl m_map_1)), (a_places, .inl (cI, 300, .inl m_places_1)), (a_symbol, .inl (cI, 301, .inl m_symbol_1)), (a_lengths, .inl (cI, 3870, .inl m_lengths_1)), (a_taken, .inl (cI, 155, .inl m_taken_1)), (a_codes, .inl (cI, 774, .inl m_codes_1)), (a_list, .inl (cI, 256, .inl m_list_1)), (a_weights, .inl (cI, 516, .inl m_weights_1)), (a_whole, .inl (cI, 516, .inl m_whole_1))] H locs := ⟨hP, hD, hS⟩
  refine lv_if_eq (tgt := 27) hx hb dX9_symbol_15 (by decide) (fun c15 => ?_) (fun c15 => ?_)
  · rw [if_pos c15] at hF
    refine lv_iconst (v := (-1)) hx hb dX9_symbol_27 (by decide) ?_
    cases hF
    subst hQ
    exact ct_iret hx hb hr hlocks hW.1 hW.2.2 dX9_symbol_28
  · rw [if_neg c15] at hF
    refine lv_aload_n hx hb dX9_symbol_18 rfl (lv_at hl 0 rfl) ?_
    refine va_get (D := D) (ci := 9) (v := .ref a_symbol) (C := RX9) (T := TX9) (N := 33) hx hb hts hi9 hown hK.1 hW.1 0 rfl rfl 10 (by decide) hw1 (fun _ h9 => h9) rfl dX9_symbol_19 ?_
    refine lv_iload_n hx hb dX9_symbol_22 rfl (lv_at hl 1 rfl) ?_
    obtain ⟨g23, hF⟩ := gdI_some hF
    refine va_iald hx hb hK.1 hW.1 4 0 rfl rfl g23 dX9_symbol_23 ?_
    refine lv_goto (tgt := 28) hx hb dX9_symbol_24 (by decide) ?_
    cases hF
    subst hQ
    exact ct_iret hx hb hr hlocks hW.1 hW.2.2 dX9_symbol_28
abbrev rmMo_taken : Room := { frames := 3, cells := 0, slots := 0, locals := 72 }
set_option maxHeartbeats 4000000 in
set_option maxRecDepth 100000 in
theorem kMo_taken (l : Launch) (D : va_G) (cI cZ cO cG : ClassId) (a_self : Nat) (a_block : Nat) (a_tape : Nat) (a_map : Nat) (a_places : Nat) (a_symbol : Nat) (a_lengths : Nat) (a_taken : Nat) (a_codes : Nat) (a_list : Nat) (a_weights : Nat) (a_whole : Nat) (a_row : Nat) (a_readMap : Nat) (a_readTaken : Nat) (a_readLengths : Nat) (a_readCodes : Nat) (a_foundBlock : Nat) (m_signs : Int32) (m_bits : Int32) (m_faultAt : Int32) (m_isDone : Int32) (m_n : Int32) (m_symbols : Int32) (m_groups : Int32) (m_tables : Int32) (m_lays : Int32) (m_laid : Int32) (m_read : Int32) (m_wrong : Int32) (m_readMany : Int32) (m_readTables : Int32) (m_readGroups : Int32) (m_found : Int32) (m_block : Nat → Int32) (m_map : Nat → Int32) (m_places : Nat → Int32) (m_symbol : Nat → Int32) (m_lengths : Nat → Int32) (m_taken : Nat → Int32) (m_codes : Nat → Int32) (m_list : Nat → Int32) (m_weights : Nat → Int32) (m_whole : Nat → Int32) (x1 : Int32) (x2 : Int32) {rv : Int32} {m_isDone' : Int32} {m_n' : Int32} {m_symbols' : Int32} {m_groups' : Int32} {m_tables' : Int32} {m_map' : Nat → Int32} {m_places' : Nat → Int32} {m_symbol' : Nat → Int32} {m_lengths' : Nat → Int32} {m_taken' : Nat → Int32} {m_codes' : Nat → Int32} {m_list' : Nat → Int32} {m_weights' : Nat → Int32} {m_whole' : Nat → Int32} (hF : fMo_taken m_signs m_isDone m_n m_symbols m_groups m_tables m_block m_map m_places m_symbol m_lengths m_taken m_codes m_list m_weights m_whole x1 x2 = some (rv, m_isDone', m_n', m_symbols', m_groups', m_tables', m_map', m_places', m_symbol', m_lengths', m_taken', m_codes', m_list', m_weights', m_whole')) : CT l yX9_taken wsX9_taken rmMo_taken D (tysG cI cZ cO cG) [.ref a_self, .int x1, .int x2] [(a_self, .inr (9, [.int m_signs, .ref a_block, .ref a_tape, .int m_bits, .int m_faultAt, .int m_isDone, .int m_n, .ref a_map, .ref a_places, .int m_symbols, .ref a_symbol, .int m_groups, .int m_tables, .ref a_lengths, .ref a_taken, .ref a_codes, .ref a_list, .ref a_weights, .ref a_whole, .int m_lays, .int m_laid, .ref a_row, .int m_read, .int m_wrong, .int m_readMany, .ref a_readMap, .int m_readTables, .int m_readGroups, .ref a_readTaken, .ref a_readLengths, .ref a_readCodes, .int m_found, .ref a_foundBlock])), (a_block, .inl (cI, 300, .inl m_block)), (a_map, .inl (cI, 256, .inl m_map)), (a_places, .inl (cI, 300, .inl m_places)), (a_symbol, .inl (cI, 301, .inl m_symbol)), (a_lengths, .inl (cI, 3870, .inl m_lengths)), (a_taken, .inl (cI, 155, .inl m_taken)), (a_codes, .inl (cI, 774, .inl m_codes)), (a_list, .inl (cI, 256, .inl m_list)), (a_weights, .inl (cI, 516, .inl m_weights)), (a_whole, .inl (cI, 516, .inl m_whole))] (some (.int rv)) [(a_self, .inr (9, [.int m_signs, .ref a_block, .ref a_tape, .int m_bits, .int m_faultAt, .int m_isDone', .int m_n', .ref a_map, .ref a_places, .int m_symbols', .ref a_symbol, .int m_groups', .int m_tables', .ref a_lengths, .ref a_taken, .ref a_codes, .ref a_list, .ref a_weights, .ref a_whole, .int m_lays, .int m_laid, .ref a_row, .int m_read, .int m_wrong, .int m_readMany, .ref a_readMap, .int m_readTables, .int m_readGroups, .ref a_readTaken, .ref a_readLengths, .ref a_readCodes, .int m_found, .ref a_foundBlock])), (a_block, .inl (cI, 300, .inl m_block)), (a_map, .inl (cI, 256, .inl m_map')), (a_places, .inl (cI, 300, .inl m_places')), (a_symbol, .inl (cI, 301, .inl m_symbol')), (a_lengths, .inl (cI, 3870, .inl m_lengths')), (a_taken, .inl (cI, 155, .inl m_taken')), (a_codes, .inl (cI, 774, .inl m_codes')), (a_list, .inl (cI, 256, .inl m_list')), (a_weights, .inl (cI, 516, .inl m_weights')), (a_whole, .inl (cI, 516, .inl m_whole'))] := by
  refine CT.of (cc := cX9_taken) (maxL := 3) (ret := (some .int)) (by decide) rfl (Nat.le_of_ble_eq_true rfl) ?_
  intro p e s m below meth c A ls hx hb hr hml hts hown hlocks hK hA hP hD hS hl
  generalize hargs : ([.ref a_self, .int x1, .int x2] : List Value).toArray = args at hts ⊢
  generalize hQ : MQ below (ctQ D (some (.int rv)) [(a_self, .inr (9, [.int m_signs, .ref a_block, .ref a_tape, .int m_bits, .int m_faultAt, .int m_isDone', .int m_n', .ref a_map, .ref a_places, .int m_symbols', .ref a_symbol, .int m_groups', .int m_tables', .ref a_lengths, .ref a_taken, .ref a_codes, .ref a_list, .ref a_weights, .ref a_whole, .int m_lays, .int m_laid, .ref a_row, .int m_read, .int m_wrong, .int m_readMany, .ref a_readMap, .int m_readTables, .int m_readGroups, .ref a_readTaken, .ref a_readLengths, .ref a_readCodes, .int m_found, .ref a_foundBlock])), (a_block, .inl (cI, 300, .inl m_block)), (a_map, .inl (cI, 256, .inl m_map')), (a_places, .inl (cI, 300, .inl m_places')), (a_symbol, .inl (cI, 301, .inl m_symbol')), (a_lengths, .inl (cI, 3870, .inl m_lengths')), (a_taken, .inl (cI, 155, .inl m_taken')), (a_codes, .inl (cI, 774, .inl m_codes')), (a_list, .inl (cI, 256, .inl m_list')), (a_weights, .inl (cI, 516, .inl m_weights')), (a_whole, .inl (cI, 516, .inl m_whole'))] A) args s 0 0 A = Q
  have hl : lv_has ls 3 [(0, .ref a_self), (1, .int x1), (2, .int x2)] := hl
  have hW : WS D A s [(a_self, .inr (9, [.int m_signs, .ref a_block, .ref a_tape, .int m_bits, .int m_faultAt, .int m_isDone, .int m_n, .ref a_map, .ref a_places, .int m_symbols, .ref a_symbol, .int m_groups, .int m_tables, .ref a_lengths, .ref a_taken, .ref a_codes, .ref a_list, .ref a_weights, .ref a_whole, .int m_lays, .int m_laid, .ref a_row, .int m_read, .int m_wrong, .int m_readMany, .ref a_readMap, .int m_readTables, .int m_readGroups, .ref a_readTaken, .ref a_readLengths, .ref a_readCodes, .int m_found, .ref a_foundBlock])), (a_block, .inl (cI, 300, .inl m_block)), (a_map, .inl (cI, 256, .inl m_map)), (a_places, .inl (cI, 300, .inl m_places)), (a_symbol, .inl (cI, 301, .inl m_symbol)), (a_lengths, .inl (cI, 3870, .inl m_lengths)), (a_taken, .inl (cI, 155, .inl m_taken)), (a_codes, .inl (cI, 774, .inl m_codes)), (a_list, .inl (cI, 256, .inl m_list)), (a_weights, .inl (cI, 516, .inl m_weights)), (a_whole, .inl (cI, 516, .inl m_whole))] s.heap [] := ⟨hP, hD, hS⟩
  clear hP hD hS
  unfold fMo_taken at hF
  have hw0 := hts (Cond.fieldLink RX9 89 "MoveFrontsModel" "groups" "I") (by decide +kernel)
  have hw1 := hts (Cond.fieldLink RX9 33 "MoveFrontsModel" "taken" "[I") (by decide +kernel)
  have hi9 : ∀ w ∈ u_ws RX9 TX9 33, w ∈ wsX9_taken := by decide +kernel
  refine lv_iload_n hx hb dX9_taken_0 rfl (lv_at hl 1 rfl) ?_
  refine lv_iconst (v := 1) hx hb dX9_taken_1 (by decide) ?_
  refine lv_iconst (v := 4) hx hb dX9_taken_2 (by decide) ?_
  obtain ⟨r_3, e3, hF⟩ := bd1_some hF
  refine ctS (As := [.int x1, .int (1 : Int32), .int (4 : Int32)]) (rest := []) hx hb hml hown hts hK hW.1 hW.2.1 hW.2.2 hA hl.1 (kMo_within l D cI cZ cO cG x1 (1 : Int32) (4 : Int32) e3) (va_cwS 3 hts gX9_taken_X9_within rfl rfl rfl (by decide +kernel) ⟨Nat.le_of_ble_eq_true rfl, Nat.le_of_ble_eq_true rfl⟩) [] rfl rfl rfl rfl rfl (Nat.le_of_ble_eq_true rfl) rfl ⟨Nat.zero_le _, Nat.zero_le _⟩ dX9_taken_3 (fun H locs hP hD hS => ?_)
  have hW : WS D A s [(a_self, .inr (9, [.int m_signs, .ref a_block, .ref a_tape, .int m_bits, .int m_faultAt, .int m_isDone, .int m_n, .ref a_map, .ref a_places, .int m_symbols, .ref a_symbol, .int m_groups, .int m_tables, .ref a_lengths, .ref a_taken, .ref a_codes, .ref a_list, .ref a_weights, .ref a_whole, .int m_lays, .int m_laid, .ref a_row, .int m_read, .int m_wrong, .int m_readMany, .ref a_readMap, .int m_readTables, .int m_readGroups, .ref a_readTaken, .ref a_readLengths, .ref a_readCodes, .int m_found, .ref a_foundBlock])), (a_block, .inl (cI, 300, .inl m_block)), (a_map, .inl (cI, 256, .inl m_map)), (a_places, .inl (cI, 300, .inl m_places)), (a_symbol, .inl (cI, 301, .inl m_symbol)), (a_lengths, .inl (cI, 3870, .inl m_lengths)), (a_taken, .inl (cI, 155, .inl m_taken)), (a_codes, .inl (cI, 774, .inl m_codes)), (a_list, .inl (cI, 256, .inl m_list)), (a_weights, .inl (cI, 516, .inl m_weights)), (a_whole, .inl (cI, 516, .inl m_whole))] H locs := ⟨hP, hD, hS⟩
  refine lv_if_ne (tgt := 12) hx hb dX9_taken_6 (by decide) (fun c6 => ?_) (fun c6 => ?_)
  · rw [if_neg c6] at hF
    refine lv_aload_n hx hb dX9_taken_12 rfl (lv_at hl 0 rfl) ?_
    obtain ⟨m_isDone_13, m_n_13, m_symbols_13, m_groups_13, m_tables_13, m_map_13, m_places_13, m_symbol_13, m_lengths_13, m_taken_13, m_codes_13, m_list_13, m_weights_13, m_whole_13, e13, hF⟩ := bd14_some hF
    refine ctV (r := (RX9, TX9, 33)) (As := []) (rest := []) hx hb hml hown hts hK hW.1 hW.2.1 hW.2.2 hA hl.1 (kMo_work l D cI cZ cO cG a_self a_block a_tape a_map a_places a_symbol a_lengths a_taken a_codes a_list a_weights a_whole a_row a_readMap a_readTaken a_readLengths a_readCodes a_foundBlock m_signs m_bits m_faultAt m_isDone m_n m_symbols m_groups m_tables m_lays m_laid m_read m_wrong m_readMany m_readTables m_readGroups m_found m_block m_map m_places m_symbol m_lengths m_taken m_codes m_list m_weights m_whole e13) (cwV 0 hts gX9_taken_X9_work rfl rfl rfl (by decide +kernel) ⟨Nat.le_of_ble_eq_true rfl, Nat.le_of_ble_eq_true rfl⟩) 9 0 rfl rfl [0, 1, 2, 3, 4, 5, 6, 7, 8, 9, 10] rfl rfl rfl rfl rfl (Nat.le_of_ble_eq_true rfl) rfl ⟨Nat.zero_le _, Nat.zero_le _⟩ dX9_taken_13 (fun H locs hP hD hS => ?_)
    have hW : WS D A s [(a_self, .inr (9, [.int m_signs, .ref a_block, .ref a_tape, .int m_bits, .int m_faultAt, .int m_isDone_13, .int m_n_13, .ref a_map, .ref a_places, .int m_symbols_13, .ref a_symbol, .int m_groups_13, .int m_tables_13, .ref a_lengths, .ref a_taken, .ref a_codes, .ref a_list, .ref a_weights, .ref a_whole, .int m_lays, .int m_laid, .ref a_row, .int m_read, .int m_wrong, .int m_readMany, .ref a_readMap, .int m_readTables, .int m_readGroups, .ref a_readTaken, .ref a_readLengths, .ref a_readCodes, .int m_found, .ref a_foundBlock])), (a_block, .inl (cI, 300, .inl m_block)), (a_map, .inl (cI, 256, .inl m_map_13)), (a_places, .inl (cI, 300, .inl m_places_13)), (a_symbol, .inl (cI, 301, .inl m_symbol_13)), (a_lengths, .inl (cI, 3870, .inl m_lengths_13)), (a_taken, .inl (cI, 155, .inl m_taken_13)), (a_codes, .inl (cI, 774, .inl m_codes_13)), (a_list, .inl (cI, 256, .inl m_list_13)), (a_weights, .inl (cI, 516, .inl m_weights_13)), (a_whole, .inl (cI, 516, .inl m_whole_13))] H locs := ⟨hP, hD, hS⟩
    refine lv_iload_n hx hb dX9_taken_16 rfl (lv_at hl 2 rfl) ?_
    refine lv_iconst (v := 0) hx hb dX9_taken_17 (by decide) ?_
    refine lv_aload_n hx hb dX9_taken_18 rfl (lv_at hl 0 rfl) ?_
    refine va_get (D := D) (ci := 9) (v := .int m_groups_13) (C := RX9) (T := TX9) (N := 33) hx hb hts hi9 hown hK.1 hW.1 0 rfl rfl 11 (by decide) hw0 (fun _ h9 => h9) rfl dX9_taken_19 ?_
    refine lv_iconst (v := 1) hx hb dX9_taken_22 (by decide) ?_
    refine lv_isub hx hb dX9_taken_23 ?_
    obtain ⟨r_24, e24, hF⟩ := bd1_some hF
    refine ctS (As := [.int x2, .int (0 : Int32), .int (m_groups_13 - (1 : Int32))]) (rest := []) hx hb hml hown hts hK hW.1 hW.2.1 hW.2.2 hA hl.1 (kMo_within l D cI cZ cO cG x2 (0 : Int32) (m_groups_13 - (1 : Int32)) e24) (va_cwS 3 hts gX9_taken_X9_within rfl rfl rfl (by decide +kernel) ⟨Nat.le_of_ble_eq_true rfl, Nat.le_of_ble_eq_true rfl⟩) [] rfl rfl rfl rfl rfl (Nat.le_of_ble_eq_true rfl) rfl ⟨Nat.zero_le _, Nat.zero_le _⟩ dX9_taken_24 (fun H locs hP hD hS => ?_)
    have hW : WS D A s [(a_self, .inr (9, [.int m_signs, .ref a_block, .ref a_tape, .int m_bits, .int m_faultAt, .int m_isDone_13, .int m_n_13, .ref a_map, .ref a_places, .int m_symbols_13, .ref a_symbol, .int m_groups_13, .int m_tables_13, .ref a_lengths, .ref a_taken, .ref a_codes, .ref a_list, .ref a_weights, .ref a_whole, .int m_lays, .int m_laid, .ref a_row, .int m_read, .int m_wrong, .int m_readMany, .ref a_readMap, .int m_readTables, .int m_readGroups, .ref a_readTaken, .ref a_readLengths, .ref a_readCodes, .int m_found, .ref a_foundBlock])), (a_block, .inl (cI, 300, .inl m_block)), (a_map, .inl (cI, 256, .inl m_map_13)), (a_places, .inl (cI, 300, .inl m_places_13)), (a_symbol, .inl (cI, 301, .inl m_symbol_13)), (a_lengths, .inl (cI, 3870, .inl m_lengths_13)), (a_taken, .inl (cI, 155, .inl m_taken_13)), (a_codes, .inl (cI, 774, .inl m_codes_13)), (a_list, .inl (cI, 256, .inl m_list_13)), (a_weights, .inl (cI, 516, .inl m_weights_13)), (a_whole, .inl (cI, 516, .inl m_whole_13))] H locs := ⟨hP, hD, hS⟩
    refine lv_if_eq (tgt := 44) hx hb dX9_taken_27 (by decide) (fun c27 => ?_) (fun c27 => ?_)
    · rw [if_pos c27] at hF
      refine lv_iconst (v := (-1)) hx hb dX9_taken_44 (by decide) ?_
      cases hF
      subst hQ
      exact ct_iret hx hb hr hlocks hW.1 hW.2.2 dX9_taken_45
    · rw [if_neg c27] at hF
      refine lv_aload_n hx hb dX9_taken_30 rfl (lv_at hl 0 rfl) ?_
      refine va_get (D := D) (ci := 9) (v := .ref a_taken) (C := RX9) (T := TX9) (N := 33) hx hb hts hi9 hown hK.1 hW.1 0 rfl rfl 14 (by decide) hw1 (fun _ h9 => h9) rfl dX9_taken_31 ?_
      refine lv_bipush (v := 31) hx hb dX9_taken_34 (by decide) ?_
      refine lv_iload_n hx hb dX9_taken_36 rfl (lv_at hl 1 rfl) ?_
      refine lv_imul hx hb dX9_taken_37 ?_
      refine lv_iload_n hx hb dX9_taken_38 rfl (lv_at hl 2 rfl) ?_
      refine lv_iadd hx hb dX9_taken_39 ?_
      obtain ⟨g40, hF⟩ := gdI_some hF
      refine va_iald hx hb hK.1 hW.1 6 0 rfl rfl g40 dX9_taken_40 ?_
      refine lv_goto (tgt := 45) hx hb dX9_taken_41 (by decide) ?_
      cases hF
      subst hQ
      exact ct_iret hx hb hr hlocks hW.1 hW.2.2 dX9_taken_45
  · rw [if_pos c6] at hF
    refine lv_bipush (v := (-2)) hx hb dX9_taken_9 (by decide) ?_
    cases hF
    subst hQ
    exact ct_iret hx hb hr hlocks hW.1 hW.2.2 dX9_taken_11
abbrev rmMo_isKind : Room := { frames := 1, cells := 0, slots := 0, locals := 22 }
set_option maxHeartbeats 4000000 in
set_option maxRecDepth 100000 in
theorem kMo_isKind (l : Launch) (D : va_G) (cI cZ cO cG : ClassId) (a_self : Nat) (a_block : Nat) (a_tape : Nat) (a_map : Nat) (a_places : Nat) (a_symbol : Nat) (a_lengths : Nat) (a_taken : Nat) (a_codes : Nat) (a_list : Nat) (a_weights : Nat) (a_whole : Nat) (a_row : Nat) (a_readMap : Nat) (a_readTaken : Nat) (a_readLengths : Nat) (a_readCodes : Nat) (a_foundBlock : Nat) (m_signs : Int32) (m_bits : Int32) (m_faultAt : Int32) (m_isDone : Int32) (m_n : Int32) (m_symbols : Int32) (m_groups : Int32) (m_tables : Int32) (m_lays : Int32) (m_laid : Int32) (m_read : Int32) (m_wrong : Int32) (m_readMany : Int32) (m_readTables : Int32) (m_readGroups : Int32) (m_found : Int32) (x1 : Int32) (x2 : Int32) {rv : Int32} (hF : fMo_isKind m_n m_tables x1 x2 = some rv) : CT l yX9_isKind wsX9_isKind rmMo_isKind D (tysG cI cZ cO cG) [.ref a_self, .int x1, .int x2] [(a_self, .inr (9, [.int m_signs, .ref a_block, .ref a_tape, .int m_bits, .int m_faultAt, .int m_isDone, .int m_n, .ref a_map, .ref a_places, .int m_symbols, .ref a_symbol, .int m_groups, .int m_tables, .ref a_lengths, .ref a_taken, .ref a_codes, .ref a_list, .ref a_weights, .ref a_whole, .int m_lays, .int m_laid, .ref a_row, .int m_read, .int m_wrong, .int m_readMany, .ref a_readMap, .int m_readTables, .int m_readGroups, .ref a_readTaken, .ref a_readLengths, .ref a_readCodes, .int m_found, .ref a_foundBlock]))] (some (.int rv)) [(a_self, .inr (9, [.int m_signs, .ref a_block, .ref a_tape, .int m_bits, .int m_faultAt, .int m_isDone, .int m_n, .ref a_map, .ref a_places, .int m_symbols, .ref a_symbol, .int m_groups, .int m_tables, .ref a_lengths, .ref a_taken, .ref a_codes, .ref a_list, .ref a_weights, .ref a_whole, .int m_lays, .int m_laid, .ref a_row, .int m_read, .int m_wrong, .int m_readMany, .ref a_readMap, .int m_readTables, .int m_readGroups, .ref a_readTaken, .ref a_readLengths, .ref a_readCodes, .int m_found, .ref a_foundBlock]))] := by
  refine CT.of (cc := cX9_isKind) (maxL := 3) (ret := (some .boolean)) (by decide) rfl (Nat.le_of_ble_eq_true rfl) ?_
  intro p e s m below meth c A ls hx hb hr hml hts hown hlocks hK hA hP hD hS hl
  generalize hargs : ([.ref a_self, .int x1, .int x2] : List Value).toArray = args at hts ⊢
  generalize hQ : MQ below (ctQ D (some (.int rv)) [(a_self, .inr (9, [.int m_signs, .ref a_block, .ref a_tape, .int m_bits, .int m_faultAt, .int m_isDone, .int m_n, .ref a_map, .ref a_places, .int m_symbols, .ref a_symbol, .int m_groups, .int m_tables, .ref a_lengths, .ref a_taken, .ref a_codes, .ref a_list, .ref a_weights, .ref a_whole, .int m_lays, .int m_laid, .ref a_row, .int m_read, .int m_wrong, .int m_readMany, .ref a_readMap, .int m_readTables, .int m_readGroups, .ref a_readTaken, .ref a_readLengths, .ref a_readCodes, .int m_found, .ref a_foundBlock]))] A) args s 0 0 A = Q
  have hl : lv_has ls 3 [(0, .ref a_self), (1, .int x1), (2, .int x2)] := hl
  have hW : WS D A s [(a_self, .inr (9, [.int m_signs, .ref a_block, .ref a_tape, .int m_bits, .int m_faultAt, .int m_isDone, .int m_n, .ref a_map, .ref a_places, .int m_symbols, .ref a_symbol, .int m_groups, .int m_tables, .ref a_lengths, .ref a_taken, .ref a_codes, .ref a_list, .ref a_weights, .ref a_whole, .int m_lays, .int m_laid, .ref a_row, .int m_read, .int m_wrong, .int m_readMany, .ref a_readMap, .int m_readTables, .int m_readGroups, .ref a_readTaken, .ref a_readLengths, .ref a_readCodes, .int m_found, .ref a_foundBlock]))] s.heap [] := ⟨hP, hD, hS⟩
  clear hP hD hS
  unfold fMo_isKind at hF
  have hw0 := hts (Cond.fieldLink RX9 92 "MoveFrontsModel" "tables" "I") (by decide +kernel)
  have hw1 := hts (Cond.fieldLink RX9 106 "MoveFrontsModel" "n" "I") (by decide +kernel)
  have hi9 : ∀ w ∈ u_ws RX9 TX9 33, w ∈ wsX9_isKind := by decide +kernel
  refine lv_iload_n hx hb dX9_isKind_0 rfl (lv_at hl 1 rfl) ?_
  refine lv_iconst (v := 0) hx hb dX9_isKind_1 (by decide) ?_
  refine lv_aload_n hx hb dX9_isKind_2 rfl (lv_at hl 0 rfl) ?_
  refine va_get (D := D) (ci := 9) (v := .int m_tables) (C := RX9) (T := TX9) (N := 33) hx hb hts hi9 hown hK.1 hW.1 0 rfl rfl 12 (by decide) hw0 (fun _ h9 => h9) rfl dX9_isKind_3 ?_
  refine lv_iconst (v := 1) hx hb dX9_isKind_6 (by decide) ?_
  refine lv_isub hx hb dX9_isKind_7 ?_
  obtain ⟨r_8, e8, hF⟩ := bd1_some hF
  refine ctS (As := [.int x1, .int (0 : Int32), .int (m_tables - (1 : Int32))]) (rest := []) hx hb hml hown hts hK hW.1 hW.2.1 hW.2.2 hA hl.1 (kMo_within l D cI cZ cO cG x1 (0 : Int32) (m_tables - (1 : Int32)) e8) (va_cwS 3 hts gX9_isKind_X9_within rfl rfl rfl (by decide +kernel) ⟨Nat.le_of_ble_eq_true rfl, Nat.le_of_ble_eq_true rfl⟩) [] rfl rfl rfl rfl rfl (Nat.le_of_ble_eq_true rfl) rfl ⟨Nat.zero_le _, Nat.zero_le _⟩ dX9_isKind_8 (fun H locs hP hD hS => ?_)
  have hW : WS D A s [(a_self, .inr (9, [.int m_signs, .ref a_block, .ref a_tape, .int m_bits, .int m_faultAt, .int m_isDone, .int m_n, .ref a_map, .ref a_places, .int m_symbols, .ref a_symbol, .int m_groups, .int m_tables, .ref a_lengths, .ref a_taken, .ref a_codes, .ref a_list, .ref a_weights, .ref a_whole, .int m_lays, .int m_laid, .ref a_row, .int m_read, .int m_wrong, .int m_readMany, .ref a_readMap, .int m_readTables, .int m_readGroups, .ref a_readTaken, .ref a_readLengths, .ref a_readCodes, .int m_found, .ref a_foundBlock]))] H locs := ⟨hP, hD, hS⟩
  refine lv_if_eq (tgt := 32) hx hb dX9_isKind_11 (by decide) (fun c11 => ?_) (fun c11 => ?_)
  · rw [if_pos c11] at hF
    refine lv_iconst (v := 0) hx hb dX9_isKind_32 (by decide) ?_
    cases hF
    subst hQ
    exact ct_zret hx hb hr hlocks rfl hW.1 hW.2.2 dX9_isKind_33
  · rw [if_neg c11] at hF
    refine lv_iload_n hx hb dX9_isKind_14 rfl (lv_at hl 2 rfl) ?_
    refine lv_iconst (v := 0) hx hb dX9_isKind_15 (by decide) ?_
    refine lv_aload_n hx hb dX9_isKind_16 rfl (lv_at hl 0 rfl) ?_
    refine va_get (D := D) (ci := 9) (v := .int m_n) (C := RX9) (T := TX9) (N := 33) hx hb hts hi9 hown hK.1 hW.1 0 rfl rfl 6 (by decide) hw1 (fun _ h9 => h9) rfl dX9_isKind_17 ?_
    refine lv_iconst (v := 1) hx hb dX9_isKind_20 (by decide) ?_
    refine lv_iadd hx hb dX9_isKind_21 ?_
    obtain ⟨r_22, e22, hF⟩ := bd1_some hF
    refine ctS (As := [.int x2, .int (0 : Int32), .int (m_n + (1 : Int32))]) (rest := []) hx hb hml hown hts hK hW.1 hW.2.1 hW.2.2 hA hl.1 (kMo_within l D cI cZ cO cG x2 (0 : Int32) (m_n + (1 : Int32)) e22) (va_cwS 3 hts gX9_isKind_X9_within rfl rfl rfl (by decide +kernel) ⟨Nat.le_of_ble_eq_true rfl, Nat.le_of_ble_eq_true rfl⟩) [] rfl rfl rfl rfl rfl (Nat.le_of_ble_eq_true rfl) rfl ⟨Nat.zero_le _, Nat.zero_le _⟩ dX9_isKind_22 (fun H locs hP hD hS => ?_)
    have hW : WS D A s [(a_self, .inr (9, [.int m_signs, .ref a_block, .ref a_tape, .int m_bits, .int m_faultAt, .int m_isDone, .int m_n, .ref a_map, .ref a_places, .int m_symbols, .ref a_symbol, .int m_groups, .int m_tables, .ref a_lengths, .ref a_taken, .ref a_codes, .ref a_list, .ref a_weights, .ref a_whole, .int m_lays, .int m_laid, .ref a_row, .int m_read, .int m_wrong, .int m_readMany, .ref a_readMap, .int m_readTables, .int m_readGroups, .ref a_readTaken, .ref a_readLengths, .ref a_readCodes, .int m_found, .ref a_foundBlock]))] H locs := ⟨hP, hD, hS⟩
    refine lv_if_eq (tgt := 32) hx hb dX9_isKind_25 (by decide) (fun c25 => ?_) (fun c25 => ?_)
    · rw [if_pos c25] at hF
      refine lv_iconst (v := 0) hx hb dX9_isKind_32 (by decide) ?_
      cases hF
      subst hQ
      exact ct_zret hx hb hr hlocks rfl hW.1 hW.2.2 dX9_isKind_33
    · rw [if_neg c25] at hF
      refine lv_iconst (v := 1) hx hb dX9_isKind_28 (by decide) ?_
      refine lv_goto (tgt := 33) hx hb dX9_isKind_29 (by decide) ?_
      cases hF
      subst hQ
      exact ct_zret hx hb hr hlocks rfl hW.1 hW.2.2 dX9_isKind_33
abbrev rmMo_length : Room := { frames := 3, cells := 0, slots := 0, locals := 72 }
set_option maxHeartbeats 4000000 in
set_option maxRecDepth 100000 in
theorem kMo_length (l : Launch) (D : va_G) (cI cZ cO cG : ClassId) (a_self : Nat) (a_block : Nat) (a_tape : Nat) (a_map : Nat) (a_places : Nat) (a_symbol : Nat) (a_lengths : Nat) (a_taken : Nat) (a_codes : Nat) (a_list : Nat) (a_weights : Nat) (a_whole : Nat) (a_row : Nat) (a_readMap : Nat) (a_readTaken : Nat) (a_readLengths : Nat) (a_readCodes : Nat) (a_foundBlock : Nat) (m_signs : Int32) (m_bits : Int32) (m_faultAt : Int32) (m_isDone : Int32) (m_n : Int32) (m_symbols : Int32) (m_groups : Int32) (m_tables : Int32) (m_lays : Int32) (m_laid : Int32) (m_read : Int32) (m_wrong : Int32) (m_readMany : Int32) (m_readTables : Int32) (m_readGroups : Int32) (m_found : Int32) (m_block : Nat → Int32) (m_map : Nat → Int32) (m_places : Nat → Int32) (m_symbol : Nat → Int32) (m_lengths : Nat → Int32) (m_taken : Nat → Int32) (m_codes : Nat → Int32) (m_list : Nat → Int32) (m_weights : Nat → Int32) (m_whole : Nat → Int32) (x1 : Int32) (x2 : Int32) (x3 : Int32) {rv : Int32} {m_isDone' : Int32} {m_n' : Int32} {m_symbols' : Int32} {m_groups' : Int32} {m_tables' : Int32} {m_map' : Nat → Int32} {m_places' : Nat → Int32} {m_symbol' : Nat → Int32} {m_lengths' : Nat → Int32} {m_taken' : Nat → Int32} {m_codes' : Nat → Int32} {m_list' : Nat → Int32} {m_weights' : Nat → Int32} {m_whole' : Nat → Int32} (hF : fMo_length m_signs m_isDone m_n m_symbols m_groups m_tables m_block m_map m_places m_symbol m_lengths m_taken m_codes m_list m_weights m_whole x1 x2 x3 = some (rv, m_isDone', m_n', m_symbols', m_groups', m_tables', m_map', m_places', m_symbol', m_lengths', m_taken', m_codes', m_list', m_weights', m_whole')) : CT l yX9_length wsX9_length rmMo_length D (tysG cI cZ cO cG) [.ref a_self, .int x1, .int x2, .int x3] [(a_self, .inr (9, [.int m_signs, .ref a_block, .ref a_tape, .int m_bits, .int m_faultAt, .int m_isDone, .int m_n, .ref a_map, .ref a_places, .int m_symbols, .ref a_symbol, .int m_groups, .int m_tables, .ref a_lengths, .ref a_taken, .ref a_codes, .ref a_list, .ref a_weights, .ref a_whole, .int m_lays, .int m_laid, .ref a_row, .int m_read, .int m_wrong, .int m_readMany, .ref a_readMap, .int m_readTables, .int m_readGroups, .ref a_readTaken, .ref a_readLengths, .ref a_readCodes, .int m_found, .ref a_foundBlock])), (a_block, .inl (cI, 300, .inl m_block)), (a_map, .inl (cI, 256, .inl m_map)), (a_places, .inl (cI, 300, .inl m_places)), (a_symbol, .inl (cI, 301, .inl m_symbol)), (a_lengths, .inl (cI, 3870, .inl m_lengths)), (a_taken, .inl (cI, 155, .inl m_taken)), (a_codes, .inl (cI, 774, .inl m_codes)), (a_list, .inl (cI, 256, .inl m_list)), (a_weights, .inl (cI, 516, .inl m_weights)), (a_whole, .inl (cI, 516, .inl m_whole))] (some (.int rv)) [(a_self, .inr (9, [.int m_signs, .ref a_block, .ref a_tape, .int m_bits, .int m_faultAt, .int m_isDone', .int m_n', .ref a_map, .ref a_places, .int m_symbols', .ref a_symbol, .int m_groups', .int m_tables', .ref a_lengths, .ref a_taken, .ref a_codes, .ref a_list, .ref a_weights, .ref a_whole, .int m_lays, .int m_laid, .ref a_row, .int m_read, .int m_wrong, .int m_readMany, .ref a_readMap, .int m_readTables, .int m_readGroups, .ref a_readTaken, .ref a_readLengths, .ref a_readCodes, .int m_found, .ref a_foundBlock])), (a_block, .inl (cI, 300, .inl m_block)), (a_map, .inl (cI, 256, .inl m_map')), (a_places, .inl (cI, 300, .inl m_places')), (a_symbol, .inl (cI, 301, .inl m_symbol')), (a_lengths, .inl (cI, 3870, .inl m_lengths')), (a_taken, .inl (cI, 155, .inl m_taken')), (a_codes, .inl (cI, 774, .inl m_codes')), (a_list, .inl (cI, 256, .inl m_list')), (a_weights, .inl (cI, 516, .inl m_weights')), (a_whole, .inl (cI, 516, .inl m_whole'))] := by
  refine CT.of (cc := cX9_length) (maxL := 4) (ret := (some .int)) (by decide) rfl (Nat.le_of_ble_eq_true rfl) ?_
  intro p e s m below meth c A ls hx hb hr hml hts hown hlocks hK hA hP hD hS hl
  generalize hargs : ([.ref a_self, .int x1, .int x2, .int x3] : List Value).toArray = args at hts ⊢
  generalize hQ : MQ below (ctQ D (some (.int rv)) [(a_self, .inr (9, [.int m_signs, .ref a_block, .ref a_tape, .int m_bits, .int m_faultAt, .int m_isDone', .int m_n', .ref a_map, .ref a_places, .int m_symbols', .ref a_symbol, .int m_groups', .int m_tables', .ref a_lengths, .ref a_taken, .ref a_codes, .ref a_list, .ref a_weights, .ref a_whole, .int m_lays, .int m_laid, .ref a_row, .int m_read, .int m_wrong, .int m_readMany, .ref a_readMap, .int m_readTables, .int m_readGroups, .ref a_readTaken, .ref a_readLengths, .ref a_readCodes, .int m_found, .ref a_foundBlock])), (a_block, .inl (cI, 300, .inl m_block)), (a_map, .inl (cI, 256, .inl m_map')), (a_places, .inl (cI, 300, .inl m_places')), (a_symbol, .inl (cI, 301, .inl m_symbol')), (a_lengths, .inl (cI, 3870, .inl m_lengths')), (a_taken, .inl (cI, 155, .inl m_taken')), (a_codes, .inl (cI, 774, .inl m_codes')), (a_list, .inl (cI, 256, .inl m_list')), (a_weights, .inl (cI, 516, .inl m_weights')), (a_whole, .inl (cI, 516, .inl m_whole'))] A) args s 0 0 A = Q
  have hl : lv_has ls 4 [(0, .ref a_self), (1, .int x1), (2, .int x2), (3, .int x3)] := hl
  have hW : WS D A s [(a_self, .inr (9, [.int m_signs, .ref a_block, .ref a_tape, .int m_bits, .int m_faultAt, .int m_isDone, .int m_n, .ref a_map, .ref a_places, .int m_symbols, .ref a_symbol, .int m_groups, .int m_tables, .ref a_lengths, .ref a_taken, .ref a_codes, .ref a_list, .ref a_weights, .ref a_whole, .int m_lays, .int m_laid, .ref a_row, .int m_read, .int m_wrong, .int m_readMany, .ref a_readMap, .int m_readTables, .int m_readGroups, .ref a_readTaken, .ref a_readLengths, .ref a_readCodes, .int m_found, .ref a_foundBlock])), (a_block, .inl (cI, 300, .inl m_block)), (a_map, .inl (cI, 256, .inl m_map)), (a_places, .inl (cI, 300, .inl m_places)), (a_symbol, .inl (cI, 301, .inl m_symbol)), (a_lengths, .inl (cI, 3870, .inl m_lengths)), (a_taken, .inl (cI, 155, .inl m_taken)), (a_codes, .inl (cI, 774, .inl m_codes)), (a_list, .inl (cI, 256, .inl m_list)), (a_weights, .inl (cI, 516, .inl m_weights)), (a_whole, .inl (cI, 516, .inl m_whole))] s.heap [] := ⟨hP, hD, hS⟩
  clear hP hD hS
  unfold fMo_length at hF
  have hw0 := hts (Cond.fieldLink RX9 30 "MoveFrontsModel" "lengths" "[I") (by decide +kernel)
  have hi9 : ∀ w ∈ u_ws RX9 TX9 33, w ∈ wsX9_length := by decide +kernel
  refine lv_iload_n hx hb dX9_length_0 rfl (lv_at hl 1 rfl) ?_
  refine lv_iconst (v := 0) hx hb dX9_length_1 (by decide) ?_
  refine lv_iconst (v := 4) hx hb dX9_length_2 (by decide) ?_
  obtain ⟨r_3, e3, hF⟩ := bd1_some hF
  refine ctS (As := [.int x1, .int (0 : Int32), .int (4 : Int32)]) (rest := []) hx hb hml hown hts hK hW.1 hW.2.1 hW.2.2 hA hl.1 (kMo_within l D cI cZ cO cG x1 (0 : Int32) (4 : Int32) e3) (va_cwS 3 hts gX9_length_X9_within rfl rfl rfl (by decide +kernel) ⟨Nat.le_of_ble_eq_true rfl, Nat.le_of_ble_eq_true rfl⟩) [] rfl rfl rfl rfl rfl (Nat.le_of_ble_eq_true rfl) rfl ⟨Nat.zero_le _, Nat.zero_le _⟩ dX9_length_3 (fun H locs hP hD hS => ?_)
  have hW : WS D A s [(a_self, .inr (9, [.int m_signs, .ref a_block, .ref a_tape, .int m_bits, .int m_faultAt, .int m_isDone, .int m_n, .ref a_map, .ref a_places, .int m_symbols, .ref a_symbol, .int m_groups, .int m_tables, .ref a_lengths, .ref a_taken, .ref a_codes, .ref a_list, .ref a_weights, .ref a_whole, .int m_lays, .int m_laid, .ref a_row, .int m_read, .int m_wrong, .int m_readMany, .ref a_readMap, .int m_readTables, .int m_readGroups, .ref a_readTaken, .ref a_readLengths, .ref a_readCodes, .int m_found, .ref a_foundBlock])), (a_block, .inl (cI, 300, .inl m_block)), (a_map, .inl (cI, 256, .inl m_map)), (a_places, .inl (cI, 300, .inl m_places)), (a_symbol, .inl (cI, 301, .inl m_symbol)), (a_lengths, .inl (cI, 3870, .inl m_lengths)), (a_taken, .inl (cI, 155, .inl m_taken)), (a_codes, .inl (cI, 774, .inl m_codes)), (a_list, .inl (cI, 256, .inl m_list)), (a_weights, .inl (cI, 516, .inl m_weights)), (a_whole, .inl (cI, 516, .inl m_whole))] H locs := ⟨hP, hD, hS⟩
  refine lv_if_ne (tgt := 12) hx hb dX9_length_6 (by decide) (fun c6 => ?_) (fun c6 => ?_)
  · rw [if_neg c6] at hF
    refine lv_aload_n hx hb dX9_length_12 rfl (lv_at hl 0 rfl) ?_
    obtain ⟨m_isDone_13, m_n_13, m_symbols_13, m_groups_13, m_tables_13, m_map_13, m_places_13, m_symbol_13, m_lengths_13, m_taken_13, m_codes_13, m_list_13, m_weights_13, m_whole_13, e13, hF⟩ := bd14_some hF
    refine ctV (r := (RX9, TX9, 33)) (As := []) (rest := []) hx hb hml hown hts hK hW.1 hW.2.1 hW.2.2 hA hl.1 (kMo_work l D cI cZ cO cG a_self a_block a_tape a_map a_places a_symbol a_lengths a_taken a_codes a_list a_weights a_whole a_row a_readMap a_readTaken a_readLengths a_readCodes a_foundBlock m_signs m_bits m_faultAt m_isDone m_n m_symbols m_groups m_tables m_lays m_laid m_read m_wrong m_readMany m_readTables m_readGroups m_found m_block m_map m_places m_symbol m_lengths m_taken m_codes m_list m_weights m_whole e13) (cwV 0 hts gX9_length_X9_work rfl rfl rfl (by decide +kernel) ⟨Nat.le_of_ble_eq_true rfl, Nat.le_of_ble_eq_true rfl⟩) 9 0 rfl rfl [0, 1, 2, 3, 4, 5, 6, 7, 8, 9, 10] rfl rfl rfl rfl rfl (Nat.le_of_ble_eq_true rfl) rfl ⟨Nat.zero_le _, Nat.zero_le _⟩ dX9_length_13 (fun H locs hP hD hS => ?_)
    have hW : WS D A s [(a_self, .inr (9, [.int m_signs, .ref a_block, .ref a_tape, .int m_bits, .int m_faultAt, .int m_isDone_13, .int m_n_13, .ref a_map, .ref a_places, .int m_symbols_13, .ref a_symbol, .int m_groups_13, .int m_tables_13, .ref a_lengths, .ref a_taken, .ref a_codes, .ref a_list, .ref a_weights, .ref a_whole, .int m_lays, .int m_laid, .ref a_row, .int m_read, .int m_wrong, .int m_readMany, .ref a_readMap, .int m_readTables, .int m_readGroups, .ref a_readTaken, .ref a_readLengths, .ref a_readCodes, .int m_found, .ref a_foundBlock])), (a_block, .inl (cI, 300, .inl m_block)), (a_map, .inl (cI, 256, .inl m_map_13)), (a_places, .inl (cI, 300, .inl m_places_13)), (a_symbol, .inl (cI, 301, .inl m_symbol_13)), (a_lengths, .inl (cI, 3870, .inl m_lengths_13)), (a_taken, .inl (cI, 155, .inl m_taken_13)), (a_codes, .inl (cI, 774, .inl m_codes_13)), (a_list, .inl (cI, 256, .inl m_list_13)), (a_weights, .inl (cI, 516, .inl m_weights_13)), (a_whole, .inl (cI, 516, .inl m_whole_13))] H locs := ⟨hP, hD, hS⟩
    refine lv_aload_n hx hb dX9_length_16 rfl (lv_at hl 0 rfl) ?_
    refine lv_iload_n hx hb dX9_length_17 rfl (lv_at hl 2 rfl) ?_
    refine lv_iload_n hx hb dX9_length_18 rfl (lv_at hl 3 rfl) ?_
    obtain ⟨r_19, e19, hF⟩ := bd1_some hF
    refine ctV (r := (RX9, TX9, 33)) (As := [.int x2, .int x3]) (rest := []) hx hb hml hown hts hK hW.1 hW.2.1 hW.2.2 hA hl.1 (kMo_isKind l D cI cZ cO cG a_self a_block a_tape a_map a_places a_symbol a_lengths a_taken a_codes a_list a_weights a_whole a_row a_readMap a_readTaken a_readLengths a_readCodes a_foundBlock m_signs m_bits m_faultAt m_isDone_13 m_n_13 m_symbols_13 m_groups_13 m_tables_13 m_lays m_laid m_read m_wrong m_readMany m_readTables m_readGroups m_found x2 x3 e19) (cwV 2 hts gX9_length_X9_isKind rfl rfl rfl (by decide +kernel) ⟨Nat.le_of_ble_eq_true rfl, Nat.le_of_ble_eq_true rfl⟩) 9 0 rfl rfl [0] rfl rfl rfl rfl rfl (Nat.le_of_ble_eq_true rfl) rfl ⟨Nat.zero_le _, Nat.zero_le _⟩ dX9_length_19 (fun H locs hP hD hS => ?_)
    have hW : WS D A s [(a_self, .inr (9, [.int m_signs, .ref a_block, .ref a_tape, .int m_bits, .int m_faultAt, .int m_isDone_13, .int m_n_13, .ref a_map, .ref a_places, .int m_symbols_13, .ref a_symbol, .int m_groups_13, .int m_tables_13, .ref a_lengths, .ref a_taken, .ref a_codes, .ref a_list, .ref a_weights, .ref a_whole, .int m_lays, .int m_laid, .ref a_row, .int m_read, .int m_wrong, .int m_readMany, .ref a_readMap, .int m_readTables, .int m_readGroups, .ref a_readTaken, .ref a_readLengths, .ref a_readCodes, .int m_found, .ref a_foundBlock])), (a_block, .inl (cI, 300, .inl m_block)), (a_map, .inl (cI, 256, .inl m_map_13)), (a_places, .inl (cI, 300, .inl m_places_13)), (a_symbol, .inl (cI, 301, .inl m_symbol_13)), (a_lengths, .inl (cI, 3870, .inl m_lengths_13)), (a_taken, .inl (cI, 155, .inl m_taken_13)), (a_codes, .inl (cI, 774, .inl m_codes_13)), (a_list, .inl (cI, 256, .inl m_list_13)), (a_weights, .inl (cI, 516, .inl m_weights_13)), (a_whole, .inl (cI, 516, .inl m_whole_13))] H locs := ⟨hP, hD, hS⟩
    refine lv_if_eq (tgt := 44) hx hb dX9_length_22 (by decide) (fun c22 => ?_) (fun c22 => ?_)
    · rw [if_pos c22] at hF
      refine lv_iconst (v := (-1)) hx hb dX9_length_44 (by decide) ?_
      cases hF
      subst hQ
      exact ct_iret hx hb hr hlocks hW.1 hW.2.2 dX9_length_45
    · rw [if_neg c22] at hF
      refine lv_aload_n hx hb dX9_length_25 rfl (lv_at hl 0 rfl) ?_
      refine va_get (D := D) (ci := 9) (v := .ref a_lengths) (C := RX9) (T := TX9) (N := 33) hx hb hts hi9 hown hK.1 hW.1 0 rfl rfl 13 (by decide) hw0 (fun _ h9 => h9) rfl dX9_length_26 ?_
      refine lv_sipush (v := 258) hx hb dX9_length_29 (by decide) ?_
      refine lv_iconst (v := 3) hx hb dX9_length_32 (by decide) ?_
      refine lv_iload_n hx hb dX9_length_33 rfl (lv_at hl 1 rfl) ?_
      refine lv_imul hx hb dX9_length_34 ?_
      refine lv_iload_n hx hb dX9_length_35 rfl (lv_at hl 2 rfl) ?_
      refine lv_iadd hx hb dX9_length_36 ?_
      refine lv_imul hx hb dX9_length_37 ?_
      refine lv_iload_n hx hb dX9_length_38 rfl (lv_at hl 3 rfl) ?_
      refine lv_iadd hx hb dX9_length_39 ?_
      obtain ⟨g40, hF⟩ := gdI_some hF
      refine va_iald hx hb hK.1 hW.1 5 0 rfl rfl g40 dX9_length_40 ?_
      refine lv_goto (tgt := 45) hx hb dX9_length_41 (by decide) ?_
      cases hF
      subst hQ
      exact ct_iret hx hb hr hlocks hW.1 hW.2.2 dX9_length_45
  · rw [if_pos c6] at hF
    refine lv_bipush (v := (-2)) hx hb dX9_length_9 (by decide) ?_
    cases hF
    subst hQ
    exact ct_iret hx hb hr hlocks hW.1 hW.2.2 dX9_length_11
abbrev rmMo_code : Room := { frames := 3, cells := 0, slots := 0, locals := 72 }
set_option maxHeartbeats 4000000 in
set_option maxRecDepth 100000 in
theorem kMo_code (l : Launch) (D : va_G) (cI cZ cO cG : ClassId) (a_self : Nat) (a_block : Nat) (a_tape : Nat) (a_map : Nat) (a_places : Nat) (a_symbol : Nat) (a_lengths : Nat) (a_taken : Nat) (a_codes : Nat) (a_list : Nat) (a_weights : Nat) (a_whole : Nat) (a_row : Nat) (a_readMap : Nat) (a_readTaken : Nat) (a_readLengths : Nat) (a_readCodes : Nat) (a_foundBlock : Nat) (m_signs : Int32) (m_bits : Int32) (m_faultAt : Int32) (m_isDone : Int32) (m_n : Int32) (m_symbols : Int32) (m_groups : Int32) (m_tables : Int32) (m_lays : Int32) (m_laid : Int32) (m_read : Int32) (m_wrong : Int32) (m_readMany : Int32) (m_readTables : Int32) (m_readGroups : Int32) (m_found : Int32) (m_block : Nat → Int32) (m_map : Nat → Int32) (m_places : Nat → Int32) (m_symbol : Nat → Int32) (m_lengths : Nat → Int32) (m_taken : Nat → Int32) (m_codes : Nat → Int32) (m_list : Nat → Int32) (m_weights : Nat → Int32) (m_whole : Nat → Int32) (x1 : Int32) (x2 : Int32) {rv : Int32} {m_isDone' : Int32} {m_n' : Int32} {m_symbols' : Int32} {m_groups' : Int32} {m_tables' : Int32} {m_map' : Nat → Int32} {m_places' : Nat → Int32} {m_symbol' : Nat → Int32} {m_lengths' : Nat → Int32} {m_taken' : Nat → Int32} {m_codes' : Nat → Int32} {m_list' : Nat → Int32} {m_weights' : Nat → Int32} {m_whole' : Nat → Int32} (hF : fMo_code m_signs m_isDone m_n m_symbols m_groups m_tables m_block m_map m_places m_symbol m_lengths m_taken m_codes m_list m_weights m_whole x1 x2 = some (rv, m_isDone', m_n', m_symbols', m_groups', m_tables', m_map', m_places', m_symbol', m_lengths', m_taken', m_codes', m_list', m_weights', m_whole')) : CT l yX9_code wsX9_code rmMo_code D (tysG cI cZ cO cG) [.ref a_self, .int x1, .int x2] [(a_self, .inr (9, [.int m_signs, .ref a_block, .ref a_tape, .int m_bits, .int m_faultAt, .int m_isDone, .int m_n, .ref a_map, .ref a_places, .int m_symbols, .ref a_symbol, .int m_groups, .int m_tables, .ref a_lengths, .ref a_taken, .ref a_codes, .ref a_list, .ref a_weights, .ref a_whole, .int m_lays, .int m_laid, .ref a_row, .int m_read, .int m_wrong, .int m_readMany, .ref a_readMap, .int m_readTables, .int m_readGroups, .ref a_readTaken, .ref a_readLengths, .ref a_readCodes, .int m_found, .ref a_foundBlock])), (a_block, .inl (cI, 300, .inl m_block)), (a_map, .inl (cI, 256, .inl m_map)), (a_places, .inl (cI, 300, .inl m_places)), (a_symbol, .inl (cI, 301, .inl m_symbol)), (a_lengths, .inl (cI, 3870, .inl m_lengths)), (a_taken, .inl (cI, 155, .inl m_taken)), (a_codes, .inl (cI, 774, .inl m_codes)), (a_list, .inl (cI, 256, .inl m_list)), (a_weights, .inl (cI, 516, .inl m_weights)), (a_whole, .inl (cI, 516, .inl m_whole))] (some (.int rv)) [(a_self, .inr (9, [.int m_signs, .ref a_block, .ref a_tape, .int m_bits, .int m_faultAt, .int m_isDone', .int m_n', .ref a_map, .ref a_places, .int m_symbols', .ref a_symbol, .int m_groups', .int m_tables', .ref a_lengths, .ref a_taken, .ref a_codes, .ref a_list, .ref a_weights, .ref a_whole, .int m_lays, .int m_laid, .ref a_row, .int m_read, .int m_wrong, .int m_readMany, .ref a_readMap, .int m_readTables, .int m_readGroups, .ref a_readTaken, .ref a_readLengths, .ref a_readCodes, .int m_found, .ref a_foundBlock])), (a_block, .inl (cI, 300, .inl m_block)), (a_map, .inl (cI, 256, .inl m_map')), (a_places, .inl (cI, 300, .inl m_places')), (a_symbol, .inl (cI, 301, .inl m_symbol')), (a_lengths, .inl (cI, 3870, .inl m_lengths')), (a_taken, .inl (cI, 155, .inl m_taken')), (a_codes, .inl (cI, 774, .inl m_codes')), (a_list, .inl (cI, 256, .inl m_list')), (a_weights, .inl (cI, 516, .inl m_weights')), (a_whole, .inl (cI, 516, .inl m_whole'))] := by
  refine CT.of (cc := cX9_code) (maxL := 3) (ret := (some .int)) (by decide) rfl (Nat.le_of_ble_eq_true rfl) ?_
  intro p e s m below meth c A ls hx hb hr hml hts hown hlocks hK hA hP hD hS hl
  generalize hargs : ([.ref a_self, .int x1, .int x2] : List Value).toArray = args at hts ⊢
  generalize hQ : MQ below (ctQ D (some (.int rv)) [(a_self, .inr (9, [.int m_signs, .ref a_block, .ref a_tape, .int m_bits, .int m_faultAt, .int m_isDone', .int m_n', .ref a_map, .ref a_places, .int m_symbols', .ref a_symbol, .int m_groups', .int m_tables', .ref a_lengths, .ref a_taken, .ref a_codes, .ref a_list, .ref a_weights, .ref a_whole, .int m_lays, .int m_laid, .ref a_row, .int m_read, .int m_wrong, .int m_readMany, .ref a_readMap, .int m_readTables, .int m_readGroups, .ref a_readTaken, .ref a_readLengths, .ref a_readCodes, .int m_found, .ref a_foundBlock])), (a_block, .inl (cI, 300, .inl m_block)), (a_map, .inl (cI, 256, .inl m_map')), (a_places, .inl (cI, 300, .inl m_places')), (a_symbol, .inl (cI, 301, .inl m_symbol')), (a_lengths, .inl (cI, 3870, .inl m_lengths')), (a_taken, .inl (cI, 155, .inl m_taken')), (a_codes, .inl (cI, 774, .inl m_codes')), (a_list, .inl (cI, 256, .inl m_list')), (a_weights, .inl (cI, 516, .inl m_weights')), (a_whole, .inl (cI, 516, .inl m_whole'))] A) args s 0 0 A = Q
  have hl : lv_has ls 3 [(0, .ref a_self), (1, .int x1), (2, .int x2)] := hl
  have hW : WS D A s [(a_self, .inr (9, [.int m_signs, .ref a_block, .ref a_tape, .int m_bits, .int m_faultAt, .int m_isDone, .int m_n, .ref a_map, .ref a_places, .int m_symbols, .ref a_symbol, .int m_groups, .int m_tables, .ref a_lengths, .ref a_taken, .ref a_codes, .ref a_list, .ref a_weights, .ref a_whole, .int m_lays, .int m_laid, .ref a_row, .int m_read, .int m_wrong, .int m_readMany, .ref a_readMap, .int m_readTables, .int m_readGroups, .ref a_readTaken, .ref a_readLengths, .ref a_readCodes, .int m_found, .ref a_foundBlock])), (a_block, .inl (cI, 300, .inl m_block)), (a_map, .inl (cI, 256, .inl m_map)), (a_places, .inl (cI, 300, .inl m_places)), (a_symbol, .inl (cI, 301, .inl m_symbol)), (a_lengths, .inl (cI, 3870, .inl m_lengths)), (a_taken, .inl (cI, 155, .inl m_taken)), (a_codes, .inl (cI, 774, .inl m_codes)), (a_list, .inl (cI, 256, .inl m_list)), (a_weights, .inl (cI, 516, .inl m_weights)), (a_whole, .inl (cI, 516, .inl m_whole))] s.heap [] := ⟨hP, hD, hS⟩
  clear hP hD hS
  unfold fMo_code at hF
  have hw0 := hts (Cond.fieldLink RX9 36 "MoveFrontsModel" "codes" "[I") (by decide +kernel)
  have hi9 : ∀ w ∈ u_ws RX9 TX9 33, w ∈ wsX9_code := by decide +kernel
  refine lv_aload_n hx hb dX9_code_0 rfl (lv_at hl 0 rfl) ?_
  obtain ⟨m_isDone_1, m_n_1, m_symbols_1, m_groups_1, m_tables_1, m_map_1, m_places_1, m_symbol_1, m_lengths_1, m_taken_1, m_codes_1, m_list_1, m_weights_1, m_whole_1, e1, hF⟩ := bd14_some hF
  refine ctV (r := (RX9, TX9, 33)) (As := []) (rest := []) hx hb hml hown hts hK hW.1 hW.2.1 hW.2.2 hA hl.1 (kMo_work l D cI cZ cO cG a_self a_block a_tape a_map a_places a_symbol a_lengths a_taken a_codes a_list a_weights a_whole a_row a_readMap a_readTaken a_readLengths a_readCodes a_foundBlock m_signs m_bits m_faultAt m_isDone m_n m_symbols m_groups m_tables m_lays m_laid m_read m_wrong m_readMany m_readTables m_readGroups m_found m_block m_map m_places m_symbol m_lengths m_taken m_codes m_list m_weights m_whole e1) (cwV 0 hts gX9_code_X9_work rfl rfl rfl (by decide +kernel) ⟨Nat.le_of_ble_eq_true rfl, Nat.le_of_ble_eq_true rfl⟩) 9 0 rfl rfl [0, 1, 2, 3, 4, 5, 6, 7, 8, 9, 10] rfl rfl rfl rfl rfl (Nat.le_of_ble_eq_true rfl) rfl ⟨Nat.zero_le _, Nat.zero_le _⟩ dX9_code_1 (fun H locs hP hD hS => ?_)
  have hW : WS D A s [(a_self, .inr (9, [.int m_signs, .ref a_block, .ref a_tape, .int m_bits, .int m_faultAt, .int m_isDone_1, .int m_n_1, .ref a_map, .ref a_places, .int m_symbols_1, .ref a_symbol, .int m_groups_1, .int m_tables_1, .ref a_lengths, .ref a_taken, .ref a_codes, .ref a_list, .ref a_weights, .ref a_whole, .int m_lays, .int m_laid, .ref a_row, .int m_read, .int m_wrong, .int m_readMany, .ref a_readMap, .int m_readTables, .int m_readGroups, .ref a_readTaken, .ref a_readLengths, .ref a_readCodes, .int m_found, .ref a_foundBlock])), (a_block, .inl (cI, 300, .inl m_block)), (a_map, .inl (cI, 256, .inl m_map_1)), (a_places, .inl (cI, 300, .inl m_places_1)), (a_symbol, .inl (cI, 301, .inl m_symbol_1)), (a_lengths, .inl (cI, 3870, .inl m_lengths_1)), (a_taken, .inl (cI, 155, .inl m_taken_1)), (a_codes, .inl (cI, 774, .inl m_codes_1)), (a_list, .inl (cI, 256, .inl m_list_1)), (a_weights, .inl (cI, 516, .inl m_weights_1)), (a_whole, .inl (cI, 516, .inl m_whole_1))] H locs := ⟨hP, hD, hS⟩
  refine lv_aload_n hx hb dX9_code_4 rfl (lv_at hl 0 rfl) ?_
  refine lv_iload_n hx hb dX9_code_5 rfl (lv_at hl 1 rfl) ?_
  refine lv_iload_n hx hb dX9_code_6 rfl (lv_at hl 2 rfl) ?_
  obtain ⟨r_7, e7, hF⟩ := bd1_some hF
  refine ctV (r := (RX9, TX9, 33)) (As := [.int x1, .int x2]) (rest := []) hx hb hml hown hts hK hW.1 hW.2.1 hW.2.2 hA hl.1 (kMo_isKind l D cI cZ cO cG a_self a_block a_tape a_map a_places a_symbol a_lengths a_taken a_codes a_list a_weights a_whole a_row a_readMap a_readTaken a_readLengths a_readCodes a_foundBlock m_signs m_bits m_faultAt m_isDone_1 m_n_1 m_symbols_1 m_groups_1 m_tables_1 m_lays m_laid m_read m_wrong m_readMany m_readTables m_readGroups m_found x1 x2 e7) (cwV 2 hts gX9_code_X9_isKind rfl rfl rfl (by decide +kernel) ⟨Nat.le_of_ble_eq_true rfl, Nat.le_of_ble_eq_true rfl⟩) 9 0 rfl rfl [0] rfl rfl rfl rfl rfl (Nat.le_of_ble_eq_true rfl) rfl ⟨Nat.zero_le _, Nat.zero_le _⟩ dX9_code_7 (fun H locs hP hD hS => ?_)
  have hW : WS D A s [(a_self, .inr (9, [.int m_signs, .ref a_block, .ref a_tape, .int m_bits, .int m_faultAt, .int m_isDone_1, .int m_n_1, .ref a_map, .ref a_places, .int m_symbols_1, .ref a_symbol, .int m_groups_1, .int m_tables_1, .ref a_lengths, .ref a_taken, .ref a_codes, .ref a_list, .ref a_weights, .ref a_whole, .int m_lays, .int m_laid, .ref a_row, .int m_read, .int m_wrong, .int m_readMany, .ref a_readMap, .int m_readTables, .int m_readGroups, .ref a_readTaken, .ref a_readLengths, .ref a_readCodes, .int m_found, .ref a_foundBlock])), (a_block, .inl (cI, 300, .inl m_block)), (a_map, .inl (cI, 256, .inl m_map_1)), (a_places, .inl (cI, 300, .inl m_places_1)), (a_symbol, .inl (cI, 301, .inl m_symbol_1)), (a_lengths, .inl (cI, 3870, .inl m_lengths_1)), (a_taken, .inl (cI, 155, .inl m_taken_1)), (a_codes, .inl (cI, 774, .inl m_codes_1)), (a_list, .inl (cI, 256, .inl m_list_1)), (a_weights, .inl (cI, 516, .inl m_weights_1)), (a_whole, .inl (cI, 516, .inl m_whole_1))] H locs := ⟨hP, hD, hS⟩
  refine lv_if_eq (tgt := 28) hx hb dX9_code_10 (by decide) (fun c10 => ?_) (fun c10 => ?_)
  · rw [if_pos c10] at hF
    refine lv_iconst (v := (-1)) hx hb dX9_code_28 (by decide) ?_
    cases hF
    subst hQ
    exact ct_iret hx hb hr hlocks hW.1 hW.2.2 dX9_code_29
  · rw [if_neg c10] at hF
    refine lv_aload_n hx hb dX9_code_13 rfl (lv_at hl 0 rfl) ?_
    refine va_get (D := D) (ci := 9) (v := .ref a_codes) (C := RX9) (T := TX9) (N := 33) hx hb hts hi9 hown hK.1 hW.1 0 rfl rfl 15 (by decide) hw0 (fun _ h9 => h9) rfl dX9_code_14 ?_
    refine lv_sipush (v := 258) hx hb dX9_code_17 (by decide) ?_
    refine lv_iload_n hx hb dX9_code_20 rfl (lv_at hl 1 rfl) ?_
    refine lv_imul hx hb dX9_code_21 ?_
    refine lv_iload_n hx hb dX9_code_22 rfl (lv_at hl 2 rfl) ?_
    refine lv_iadd hx hb dX9_code_23 ?_
    obtain ⟨g24, hF⟩ := gdI_some hF
    refine va_iald hx hb hK.1 hW.1 7 0 rfl rfl g24 dX9_code_24 ?_
    refine lv_goto (tgt := 29) hx hb dX9_code_25 (by decide) ?_
    cases hF
    subst hQ
    exact ct_iret hx hb hr hlocks hW.1 hW.2.2 dX9_code_29
abbrev rmMo_put : Room := { frames := 0, cells := 0, slots := 0, locals := 0 }
set_option maxHeartbeats 4000000 in
set_option maxRecDepth 100000 in
theorem kMo_put (l : Launch) (D : va_G) (cI cZ cO cG : ClassId) (a_self : Nat) (a_block : Nat) (a_tape : Nat) (a_map : Nat) (a_places : Nat) (a_symbol : Nat) (a_lengths : Nat) (a_taken : Nat) (a_codes : Nat) (a_list : Nat) (a_weights : Nat) (a_whole : Nat) (a_row : Nat) (a_readMap : Nat) (a_readTaken : Nat) (a_readLengths : Nat) (a_readCodes : Nat) (a_foundBlock : Nat) (m_signs : Int32) (m_bits : Int32) (m_faultAt : Int32) (m_isDone : Int32) (m_n : Int32) (m_symbols : Int32) (m_groups : Int32) (m_tables : Int32) (m_lays : Int32) (m_laid : Int32) (m_read : Int32) (m_wrong : Int32) (m_readMany : Int32) (m_readTables : Int32) (m_readGroups : Int32) (m_found : Int32) (m_tape : Nat → Int32) (x1 : Int32) (x2 : Int32) {m_laid' : Int32} {m_tape' : Nat → Int32} (hF : fMo_put m_lays m_laid m_tape x1 x2 = some (m_laid', m_tape')) : CT l yX9_put wsX9_put rmMo_put D (tysG cI cZ cO cG) [.ref a_self, .int x1, .int x2] [(a_self, .inr (9, [.int m_signs, .ref a_block, .ref a_tape, .int m_bits, .int m_faultAt, .int m_isDone, .int m_n, .ref a_map, .ref a_places, .int m_symbols, .ref a_symbol, .int m_groups, .int m_tables, .ref a_lengths, .ref a_taken, .ref a_codes, .ref a_list, .ref a_weights, .ref a_whole, .int m_lays, .int m_laid, .ref a_row, .int m_read, .int m_wrong, .int m_readMany, .ref a_readMap, .int m_readTables, .int m_readGroups, .ref a_readTaken, .ref a_readLengths, .ref a_readCodes, .int m_found, .ref a_foundBlock])), (a_tape, .inl (cZ, 1500, .inl m_tape))] none [(a_self, .inr (9, [.int m_signs, .ref a_block, .ref a_tape, .int m_bits, .int m_faultAt, .int m_isDone, .int m_n, .ref a_map, .ref a_places, .int m_symbols, .ref a_symbol, .int m_groups, .int m_tables, .ref a_lengths, .ref a_taken, .ref a_codes, .ref a_list, .ref a_weights, .ref a_whole, .int m_lays, .int m_laid', .ref a_row, .int m_read, .int m_wrong, .int m_readMany, .ref a_readMap, .int m_readTables, .int m_readGroups, .ref a_readTaken, .ref a_readLengths, .ref a_readCodes, .int m_found, .ref a_foundBlock])), (a_tape, .inl (cZ, 1500, .inl m_tape'))] := by
  refine CT.of (cc := cX9_put) (maxL := 4) (ret := none) (by decide) rfl (Nat.le_of_ble_eq_true rfl) ?_
  intro p e s m below meth c A ls hx hb hr hml hts hown hlocks hK hA hP hD hS hl
  generalize hargs : ([.ref a_self, .int x1, .int x2] : List Value).toArray = args at hts ⊢
  generalize hQ : MQ below (ctQ D none [(a_self, .inr (9, [.int m_signs, .ref a_block, .ref a_tape, .int m_bits, .int m_faultAt, .int m_isDone, .int m_n, .ref a_map, .ref a_places, .int m_symbols, .ref a_symbol, .int m_groups, .int m_tables, .ref a_lengths, .ref a_taken, .ref a_codes, .ref a_list, .ref a_weights, .ref a_whole, .int m_lays, .int m_laid', .ref a_row, .int m_read, .int m_wrong, .int m_readMany, .ref a_readMap, .int m_readTables, .int m_readGroups, .ref a_readTaken, .ref a_readLengths, .ref a_readCodes, .int m_found, .ref a_foundBlock])), (a_tape, .inl (cZ, 1500, .inl m_tape'))] A) args s 0 0 A = Q
  have hl : lv_has ls 4 [(0, .ref a_self), (1, .int x1), (2, .int x2)] := hl
  have hW : WS D A s [(a_self, .inr (9, [.int m_signs, .ref a_block, .ref a_tape, .int m_bits, .int m_faultAt, .int m_isDone, .int m_n, .ref a_map, .ref a_places, .int m_symbols, .ref a_symbol, .int m_groups, .int m_tables, .ref a_lengths, .ref a_taken, .ref a_codes, .ref a_list, .ref a_weights, .ref a_whole, .int m_lays, .int m_laid, .ref a_row, .int m_read, .int m_wrong, .int m_readMany, .ref a_readMap, .int m_readTables, .int m_readGroups, .ref a_readTaken, .ref a_readLengths, .ref a_readCodes, .int m_found, .ref a_foundBlock])), (a_tape, .inl (cZ, 1500, .inl m_tape))] s.heap [] := ⟨hP, hD, hS⟩
  clear hP hD hS
  unfold fMo_put at hF
  have hw0 := hts (Cond.fieldLink RX9 145 "MoveFrontsModel" "lays" "Z") (by decide +kernel)
  have hw1 := hts (Cond.fieldLink RX9 148 "MoveFrontsModel" "laid" "I") (by decide +kernel)
  have hw2 := hts (Cond.fieldLink RX9 13 "MoveFrontsModel" "tape" "[Z") (by decide +kernel)
  have hi9 : ∀ w ∈ u_ws RX9 TX9 33, w ∈ wsX9_put := by decide +kernel
  refine lv_iload_n hx hb dX9_put_0 rfl (lv_at hl 2 rfl) ?_
  refine lv_iconst (v := 1) hx hb dX9_put_1 (by decide) ?_
  refine lv_isub hx hb dX9_put_2 ?_
  refine lv_istore_n (lv' := [(3, .int (x2 - (1 : Int32))), (0, .ref a_self), (1, .int x1), (2, .int x2)]) hx hb dX9_put_3 rfl hl (by decide) rfl (fun ls hl => ?_)
  obtain ⟨m_laid_4ze, m_tape_4ze, hI, hF⟩ := bd2_some hF
  obtain ⟨nn, hI⟩ := itrO_some hI
  have hX4 : ∀ (m_laid_4z : Int32) (m_tape_4z : Nat → Int32), (m_laid_4z, m_tape_4z) = (m_laid_4ze, m_tape_4ze) → ∀ (H : Heap) (locs : List Loc), WS D A s [(a_self, .inr (9, [.int m_signs, .ref a_block, .ref a_tape, .int m_bits, .int m_faultAt, .int m_isDone, .int m_n, .ref a_map, .ref a_places, .int m_symbols, .ref a_symbol, .int m_groups, .int m_tables, .ref a_lengths, .ref a_taken, .ref a_codes, .ref a_list, .ref a_weights, .ref a_whole, .int m_lays, .int m_laid_4z, .ref a_row, .int m_read, .int m_wrong, .int m_readMany, .ref a_readMap, .int m_readTables, .int m_readGroups, .ref a_readTaken, .ref a_readLengths, .ref a_readCodes, .int m_found, .ref a_foundBlock])), (a_tape, .inl (cZ, 1500, .inl m_tape_4z))] H locs → ∀ ls : Array Slot, lv_has ls 4 [] → W p l e (headSpec wsX9_put rmMo_put).room s m args below meth c H locs 0 0 Q (F0 m 54 ls []) := by
    intro m_laid_4z m_tape_4z he H locs hW ls hl
    obtain ⟨hz0, hy0⟩ := Prod.mk.inj he
    subst hz0
    subst hy0
    cases hF
    subst hQ
    exact ct_vret hx hb hr hlocks hW.1 hW.2.2 dX9_put_54
  have hL4 : ∀ (n4 : Nat) (x3_4 : Int32) (m_laid_4 : Int32) (m_tape_4 : Nat → Int32), itr (un3 (fMo_put_L4 m_lays x1)) n4 (x3_4, m_laid_4, m_tape_4) = some (m_laid_4ze, m_tape_4ze) → ∀ (H : Heap) (locs : List Loc), WS D A s [(a_self, .inr (9, [.int m_signs, .ref a_block, .ref a_tape, .int m_bits, .int m_faultAt, .int m_isDone, .int m_n, .ref a_map, .ref a_places, .int m_symbols, .ref a_symbol, .int m_groups, .int m_tables, .ref a_lengths, .ref a_taken, .ref a_codes, .ref a_list, .ref a_weights, .ref a_whole, .int m_lays, .int m_laid_4, .ref a_row, .int m_read, .int m_wrong, .int m_readMany, .ref a_readMap, .int m_readTables, .int m_readGroups, .ref a_readTaken, .ref a_readLengths, .ref a_readCodes, .int m_found, .ref a_foundBlock])), (a_tape, .inl (cZ, 1500, .inl m_tape_4))] H locs → ∀ ls : Array Slot, lv_has ls 4 [(0, .ref a_self), (1, .int x1), (3, .int x3_4)] → W p l e (headSpec wsX9_put rmMo_put).room s m args below meth c H locs 0 0 Q (F0 m 4 ls []) := by
    intro n4
    induction n4 with
    | zero => intro x3_4 m_laid_4 m_tape_4 hI; cases hI
    | succ n4 ih4 =>
      intro x3_4 m_laid_4 m_tape_4 hI H locs hW ls hl
      obtain ⟨sr4, hF, hN4⟩ := itr_succ hI
      have hF : fMo_put_L4 m_lays x1 x3_4 m_laid_4 m_tape_4 = some sr4 := hF
      unfold fMo_put_L4 at hF
      refine lv_iload_n hx hb dX9_put_4 rfl (lv_at hl 2 rfl) ?_
      refine lv_if_lt (tgt := 54) hx hb dX9_put_5 (by decide) (fun c5 => ?_) (fun c5 => ?_)
      · rw [if_pos c5] at hF
        cases hF
        exact hX4 _ _ (itr_out hN4) _ _ hW _ (lv_sub hl [] rfl)
      · rw [if_neg c5] at hF
        refine lv_aload_n hx hb dX9_put_8 rfl (lv_at hl 0 rfl) ?_
        refine va_get (D := D) (ci := 9) (v := .int m_lays) (C := RX9) (T := TX9) (N := 33) hx hb hts hi9 hown hK.1 hW.1 0 rfl rfl 19 (by decide) hw0 (fun _ h9 => h9) rfl dX9_put_9 ?_
        refine lv_if_eq (tgt := 38) hx hb dX9_put_12 (by decide) (fun c12 => ?_) (fun c12 => ?_)
        · rw [if_pos c12] at hF
          refine lv_aload_n hx hb dX9_put_38 rfl (lv_at hl 0 rfl) ?_
          refine lv_dup hx hb dX9_put_39 rfl ?_
          refine va_get (D := D) (ci := 9) (v := .int m_laid_4) (C := RX9) (T := TX9) (N := 33) hx hb hts hi9 hown hK.1 hW.1 0 rfl rfl 20 (by decide) hw1 (fun _ h9 => h9) rfl dX9_put_40 ?_
          refine lv_iconst (v := 1) hx hb dX9_put_43 (by decide) ?_
          refine lv_iadd hx hb dX9_put_44 ?_
          refine va_put (D := D) (ci := 9) (v := .int (m_laid_4 + (1 : Int32))) (ty := .int) (C := RX9) (T := TX9) (N := 33) hx hb hts hi9 tyX9 tyX9_ok nmX9 hown hK.1 hW.1 hW.2.1 hW.2.2 0 rfl rfl 20 (by decide) hw1 (fun _ h9 => h9) rfl (by decide +kernel) rfl rfl (Nat.le_of_ble_eq_true rfl) dX9_put_45 (fun H locs hP hD hS => ?_)
          have hW : WS D A s [(a_self, .inr (9, [.int m_signs, .ref a_block, .ref a_tape, .int m_bits, .int m_faultAt, .int m_isDone, .int m_n, .ref a_map, .ref a_places, .int m_symbols, .ref a_symbol, .int m_groups, .int m_tables, .ref a_lengths, .ref a_taken, .ref a_codes, .ref a_list, .ref a_weights, .ref a_whole, .int m_lays, .int (m_laid_4 + (1 : Int32)), .ref a_row, .int m_read, .int m_wrong, .int m_readMany, .ref a_readMap, .int m_readTables, .int m_readGroups, .ref a_readTaken, .ref a_readLengths, .ref a_readCodes, .int m_found, .ref a_foundBlock])), (a_tape, .inl (cZ, 1500, .inl m_tape_4))] H locs := ⟨hP, hD, hS⟩
          refine lv_iinc (v := (x3_4 + (-1))) (lv' := [(3, .int (x3_4 + (-1))), (0, .ref a_self), (1, .int x1)]) hx hb dX9_put_48 hl (k := 2) rfl rfl (by decide) rfl (fun ls hl => ?_)
          refine lv_goto (tgt := 4) hx hb dX9_put_51 (by decide) ?_
          cases hF
          exact ih4 _ _ _ (itr_in hN4) _ _ hW _ (lv_sub hl [1, 2, 0] rfl)
        · rw [if_neg c12] at hF
          refine lv_aload_n hx hb dX9_put_15 rfl (lv_at hl 0 rfl) ?_
          refine va_get (D := D) (ci := 9) (v := .ref a_tape) (C := RX9) (T := TX9) (N := 33) hx hb hts hi9 hown hK.1 hW.1 0 rfl rfl 2 (by decide) hw2 (fun _ h9 => h9) rfl dX9_put_16 ?_
          refine lv_aload_n hx hb dX9_put_19 rfl (lv_at hl 0 rfl) ?_
          refine va_get (D := D) (ci := 9) (v := .int m_laid_4) (C := RX9) (T := TX9) (N := 33) hx hb hts hi9 hown hK.1 hW.1 0 rfl rfl 20 (by decide) hw1 (fun _ h9 => h9) rfl dX9_put_20 ?_
          refine lv_iload_n hx hb dX9_put_23 rfl (lv_at hl 1 rfl) ?_
          refine lv_iload_n hx hb dX9_put_24 rfl (lv_at hl 2 rfl) ?_
          refine lv_ishr hx hb dX9_put_25 ?_
          refine lv_iconst (v := 1) hx hb dX9_put_26 (by decide) ?_
          refine lv_iand hx hb dX9_put_27 ?_
          refine lv_iconst (v := 1) hx hb dX9_put_28 (by decide) ?_
          refine lv_icmp_ne (tgt := 36) hx hb dX9_put_29 (by decide) (fun c29 => ?_) (fun c29 => ?_)
          · rw [if_neg c29] at hF
            refine lv_iconst (v := 0) hx hb dX9_put_36 (by decide) ?_
            obtain ⟨g37, hF⟩ := gdI_some hF
            refine va_zast hx hb hK.1 hW.1 hW.2.1 hW.2.2 1 1 rfl rfl g37 dX9_put_37 (fun H locs hP hD hS => ?_)
            have hW : WS D A s [(a_self, .inr (9, [.int m_signs, .ref a_block, .ref a_tape, .int m_bits, .int m_faultAt, .int m_isDone, .int m_n, .ref a_map, .ref a_places, .int m_symbols, .ref a_symbol, .int m_groups, .int m_tables, .ref a_lengths, .ref a_taken, .ref a_codes, .ref a_list, .ref a_weights, .ref a_whole, .int m_lays, .int m_laid_4, .ref a_row, .int m_read, .int m_wrong, .int m_readMany, .ref a_readMap, .int m_readTables, .int m_readGroups, .ref a_readTaken, .ref a_readLengths, .ref a_readCodes, .int m_found, .ref a_foundBlock])), (a_tape, .inl (cZ, 1500, .inl (upd m_tape_4 m_laid_4.toNatClampNeg (vp_nar .boolean (0 : Int32)))))] H locs := ⟨hP, hD, hS⟩
            refine lv_aload_n hx hb dX9_put_38 rfl (lv_at hl 0 rfl) ?_
            refine lv_dup hx hb dX9_put_39 rfl ?_
            refine va_get (D := D) (ci := 9) (v := .int m_laid_4) (C := RX9) (T := TX9) (N := 33) hx hb hts hi9 hown hK.1 hW.1 0 rfl rfl 20 (by decide) hw1 (fun _ h9 => h9) rfl dX9_put_40 ?_
            refine lv_iconst (v := 1) hx hb dX9_put_43 (by decide) ?_
            refine lv_iadd hx hb dX9_put_44 ?_
            refine va_put (D := D) (ci := 9) (v := .int (m_laid_4 + (1 : Int32))) (ty := .int) (C := RX9) (T := TX9) (N := 33) hx hb hts hi9 tyX9 tyX9_ok nmX9 hown hK.1 hW.1 hW.2.1 hW.2.2 0 rfl rfl 20 (by decide) hw1 (fun _ h9 => h9) rfl (by decide +kernel) rfl rfl (Nat.le_of_ble_eq_true rfl) dX9_put_45 (fun H locs hP hD hS => ?_)
            have hW : WS D A s [(a_self, .inr (9, [.int m_signs, .ref a_block, .ref a_tape, .int m_bits, .int m_faultAt, .int m_isDone, .int m_n, .ref a_map, .ref a_places, .int m_symbols, .ref a_symbol, .int m_groups, .int m_tables, .ref a_lengths, .ref a_taken, .ref a_codes, .ref a_list, .ref a_weights, .ref a_whole, .int m_lays, .int (m_laid_4 + (1 : Int32)), .ref a_row, .int m_read, .int m_wrong, .int m_readMany, .ref a_readMap, .int m_readTables, .int m_readGroups, .ref a_readTaken, .ref a_readLengths, .ref a_readCodes, .int m_found, .ref a_foundBlock])), (a_tape, .inl (cZ, 1500, .inl (upd m_tape_4 m_laid_4.toNatClampNeg (vp_nar .boolean (0 : Int32)))))] H locs := ⟨hP, hD, hS⟩
            refine lv_iinc (v := (x3_4 + (-1))) (lv' := [(3, .int (x3_4 + (-1))), (0, .ref a_self), (1, .int x1)]) hx hb dX9_put_48 hl (k := 2) rfl rfl (by decide) rfl (fun ls hl => ?_)
            refine lv_goto (tgt := 4) hx hb dX9_put_51 (by decide) ?_
            cases hF
            exact ih4 _ _ _ (itr_in hN4) _ _ hW _ (lv_sub hl [1, 2, 0] rfl)
          · rw [if_pos c29] at hF
            refine lv_iconst (v := 1) hx hb dX9_put_32 (by decide) ?_
            refine lv_goto (tgt := 37) hx hb dX9_put_33 (by decide) ?_
            obtain ⟨g37, hF⟩ := gdI_some hF
            refine va_zast hx hb hK.1 hW.1 hW.2.1 hW.2.2 1 1 rfl rfl g37 dX9_put_37 (fun H locs hP hD hS => ?_)
            have hW : WS D A s [(a_self, .inr (9, [.int m_signs, .ref a_block, .ref a_tape, .int m_bits, .int m_faultAt, .int m_isDone, .int m_n, .ref a_map, .ref a_places, .int m_symbols, .ref a_symbol, .int m_groups, .int m_tables, .ref a_lengths, .ref a_taken, .ref a_codes, .ref a_list, .ref a_weights, .ref a_whole, .int m_lays, .int m_laid_4, .ref a_row, .int m_read, .int m_wrong, .int m_readMany, .ref a_readMap, .int m_readTables, .int m_readGroups, .ref a_readTaken, .ref a_readLengths, .ref a_readCodes, .int m_found, .ref a_foundBlock])), (a_tape, .inl (cZ, 1500, .inl (upd m_tape_4 m_laid_4.toNatClampNeg (vp_nar .boolean (1 : Int32)))))] H locs := ⟨hP, hD, hS⟩
            refine lv_aload_n hx hb dX9_put_38 rfl (lv_at hl 0 rfl) ?_
            refine lv_dup hx hb dX9_put_39 rfl ?_
            refine va_get (D := D) (ci := 9) (v := .int m_laid_4) (C := RX9) (T := TX9) (N := 33) hx hb hts hi9 hown hK.1 hW.1 0 rfl rfl 20 (by decide) hw1 (fun _ h9 => h9) rfl dX9_put_40 ?_
            refine lv_iconst (v := 1) hx hb dX9_put_43 (by decide) ?_
            refine lv_iadd hx hb dX9_put_44 ?_
            refine va_put (D := D) (ci := 9) (v := .int (m_laid_4 + (1 : Int32))) (ty := .int) (C := RX9) (T := TX9) (N := 33) hx hb hts hi9 tyX9 tyX9_ok nmX9 hown hK.1 hW.1 hW.2.1 hW.2.2 0 rfl rfl 20 (by decide) hw1 (fun _ h9 => h9) rfl (by decide +kernel) rfl rfl (Nat.le_of_ble_eq_true rfl) dX9_put_45 (fun H locs hP hD hS => ?_)
            have hW : WS D A s [(a_self, .inr (9, [.int m_signs, .ref a_block, .ref a_tape, .int m_bits, .int m_faultAt, .int m_isDone, .int m_n, .ref a_map, .ref a_places, .int m_symbols, .ref a_symbol, .int m_groups, .int m_tables, .ref a_lengths, .ref a_taken, .ref a_codes, .ref a_list, .ref a_weights, .ref a_whole, .int m_lays, .int (m_laid_4 + (1 : Int32)), .ref a_row, .int m_read, .int m_wrong, .int m_readMany, .ref a_readMap, .int m_readTables, .int m_readGroups, .ref a_readTaken, .ref a_readLengths, .ref a_readCodes, .int m_found, .ref a_foundBlock])), (a_tape, .inl (cZ, 1500, .inl (upd m_tape_4 m_laid_4.toNatClampNeg (vp_nar .boolean (1 : Int32)))))] H locs := ⟨hP, hD, hS⟩
            refine lv_iinc (v := (x3_4 + (-1))) (lv' := [(3, .int (x3_4 + (-1))), (0, .ref a_self), (1, .int x1)]) hx hb dX9_put_48 hl (k := 2) rfl rfl (by decide) rfl (fun ls hl => ?_)
            refine lv_goto (tgt := 4) hx hb dX9_put_51 (by decide) ?_
            cases hF
            exact ih4 _ _ _ (itr_in hN4) _ _ hW _ (lv_sub hl [1, 2, 0] rfl)
  exact hL4 nn _ _ _ hI _ _ hW _ (lv_sub hl [1, 2, 0] rfl)
abbrev rmMo_layLengths : Room := { frames := 1, cells := 0, slots := 0, locals := 23 }
set_option maxHeartbeats 4000000 in
set_option maxRecDepth 100000 in
theorem kMo_layLengths (l : Launch) (D : va_G) (cI cZ cO cG : ClassId) (a_self : Nat) (a_block : Nat) (a_tape : Nat) (a_map : Nat) (a_places : Nat) (a_symbol : Nat) (a_lengths : Nat) (a_taken : Nat) (a_codes : Nat) (a_list : Nat) (a_weights : Nat) (a_whole : Nat) (a_row : Nat) (a_readMap : Nat) (a_readTaken : Nat) (a_readLengths : Nat) (a_readCodes : Nat) (a_foundBlock : Nat) (m_signs : Int32) (m_bits : Int32) (m_faultAt : Int32) (m_isDone : Int32) (m_n : Int32) (m_symbols : Int32) (m_groups : Int32) (m_tables : Int32) (m_lays : Int32) (m_laid : Int32) (m_read : Int32) (m_wrong : Int32) (m_readMany : Int32) (m_readTables : Int32) (m_readGroups : Int32) (m_found : Int32) (m_tape : Nat → Int32) (m_lengths : Nat → Int32) (x1 : Int32) {m_laid' : Int32} {m_tape' : Nat → Int32} (hF : fMo_layLengths m_n m_lays m_laid m_tape m_lengths x1 = some (m_laid', m_tape')) : CT l yX9_layLengths wsX9_layLengths rmMo_layLengths D (tysG cI cZ cO cG) [.ref a_self, .int x1] [(a_self, .inr (9, [.int m_signs, .ref a_block, .ref a_tape, .int m_bits, .int m_faultAt, .int m_isDone, .int m_n, .ref a_map, .ref a_places, .int m_symbols, .ref a_symbol, .int m_groups, .int m_tables, .ref a_lengths, .ref a_taken, .ref a_codes, .ref a_list, .ref a_weights, .ref a_whole, .int m_lays, .int m_laid, .ref a_row, .int m_read, .int m_wrong, .int m_readMany, .ref a_readMap, .int m_readTables, .int m_readGroups, .ref a_readTaken, .ref a_readLengths, .ref a_readCodes, .int m_found, .ref a_foundBlock])), (a_tape, .inl (cZ, 1500, .inl m_tape)), (a_lengths, .inl (cI, 3870, .inl m_lengths))] none [(a_self, .inr (9, [.int m_signs, .ref a_block, .ref a_tape, .int m_bits, .int m_faultAt, .int m_isDone, .int m_n, .ref a_map, .ref a_places, .int m_symbols, .ref a_symbol, .int m_groups, .int m_tables, .ref a_lengths, .ref a_taken, .ref a_codes, .ref a_list, .ref a_weights, .ref a_whole, .int m_lays, .int m_laid', .ref a_row, .int m_read, .int m_wrong, .int m_readMany, .ref a_readMap, .int m_readTables, .int m_readGroups, .ref a_readTaken, .ref a_readLengths, .ref a_readCodes, .int m_found, .ref a_foundBlock])), (a_tape, .inl (cZ, 1500, .inl m_tape')), (a_lengths, .inl (cI, 3870, .inl m_lengths))] := by
  refine CT.of (cc := cX9_layLengths) (maxL := 4) (ret := none) (by decide) rfl (Nat.le_of_ble_eq_true rfl) ?_
  intro p e s m below meth c A ls hx hb hr hml hts hown hlocks hK hA hP hD hS hl
  generalize hargs : ([.ref a_self, .int x1] : List Value).toArray = args at hts ⊢
  generalize hQ : MQ below (ctQ D none [(a_self, .inr (9, [.int m_signs, .ref a_block, .ref a_tape, .int m_bits, .int m_faultAt, .int m_isDone, .int m_n, .ref a_map, .ref a_places, .int m_symbols, .ref a_symbol, .int m_groups, .int m_tables, .ref a_lengths, .ref a_taken, .ref a_codes, .ref a_list, .ref a_weights, .ref a_whole, .int m_lays, .int m_laid', .ref a_row, .int m_read, .int m_wrong, .int m_readMany, .ref a_readMap, .int m_readTables, .int m_readGroups, .ref a_readTaken, .ref a_readLengths, .ref a_readCodes, .int m_found, .ref a_foundBlock])), (a_tape, .inl (cZ, 1500, .inl m_tape')), (a_lengths, .inl (cI, 3870, .inl m_lengths))] A) args s 0 0 A = Q
  have hl : lv_has ls 4 [(0, .ref a_self), (1, .int x1)] := hl
  have hW : WS D A s [(a_self, .inr (9, [.int m_signs, .ref a_block, .ref a_tape, .int m_bits, .int m_faultAt, .int m_isDone, .int m_n, .ref a_map, .ref a_places, .int m_symbols, .ref a_symbol, .int m_groups, .int m_tables, .ref a_lengths, .ref a_taken, .ref a_codes, .ref a_list, .ref a_weights, .ref a_whole, .int m_lays, .int m_laid, .ref a_row, .int m_read, .int m_wrong, .int m_readMany, .ref a_readMap, .int m_readTables, .int m_readGroups, .ref a_readTaken, .ref a_readLengths, .ref a_readCodes, .int m_found, .ref a_foundBlock])), (a_tape, .inl (cZ, 1500, .inl m_tape)), (a_lengths, .inl (cI, 3870, .inl m_lengths))] s.heap [] := ⟨hP, hD, hS⟩
  clear hP hD hS
  unfold fMo_layLengths at hF
  have hw0 := hts (Cond.fieldLink RX9 30 "MoveFrontsModel" "lengths" "[I") (by decide +kernel)
  have hw1 := hts (Cond.fieldLink RX9 106 "MoveFrontsModel" "n" "I") (by decide +kernel)
  have hi9 : ∀ w ∈ u_ws RX9 TX9 33, w ∈ wsX9_layLengths := by decide +kernel
  refine lv_aload_n hx hb dX9_layLengths_0 rfl (lv_at hl 0 rfl) ?_
  refine va_get (D := D) (ci := 9) (v := .ref a_lengths) (C := RX9) (T := TX9) (N := 33) hx hb hts hi9 hown hK.1 hW.1 0 rfl rfl 13 (by decide) hw0 (fun _ h9 => h9) rfl dX9_layLengths_1 ?_
  refine lv_iload_n hx hb dX9_layLengths_4 rfl (lv_at hl 1 rfl) ?_
  obtain ⟨g5, hF⟩ := gdI_some hF
  refine va_iald hx hb hK.1 hW.1 2 0 rfl rfl g5 dX9_layLengths_5 ?_
  refine lv_istore_n (lv' := [(2, .int (m_lengths x1.toNatClampNeg)), (0, .ref a_self), (1, .int x1)]) hx hb dX9_layLengths_6 rfl hl (by decide) rfl (fun ls hl => ?_)
  refine lv_aload_n hx hb dX9_layLengths_7 rfl (lv_at hl 1 rfl) ?_
  refine lv_iload_n hx hb dX9_layLengths_8 rfl (lv_at hl 0 rfl) ?_
  refine lv_iconst (v := 5) hx hb dX9_layLengths_9 (by decide) ?_
  obtain ⟨m_laid_10, m_tape_10, e10, hF⟩ := bd2_some hF
  refine ctV (r := (RX9, TX9, 33)) (As := [.int (m_lengths x1.toNatClampNeg), .int (5 : Int32)]) (rest := []) hx hb hml hown hts hK hW.1 hW.2.1 hW.2.2 hA hl.1 (kMo_put l D cI cZ cO cG a_self a_block a_tape a_map a_places a_symbol a_lengths a_taken a_codes a_list a_weights a_whole a_row a_readMap a_readTaken a_readLengths a_readCodes a_foundBlock m_signs m_bits m_faultAt m_isDone m_n m_symbols m_groups m_tables m_lays m_laid m_read m_wrong m_readMany m_readTables m_readGroups m_found m_tape (m_lengths x1.toNatClampNeg) (5 : Int32) e10) (cwV 2 hts gX9_layLengths_X9_put rfl rfl rfl (by decide +kernel) ⟨Nat.le_of_ble_eq_true rfl, Nat.le_of_ble_eq_true rfl⟩) 9 0 rfl rfl [0, 1] rfl rfl rfl rfl rfl (Nat.le_of_ble_eq_true rfl) rfl ⟨Nat.zero_le _, Nat.zero_le _⟩ dX9_layLengths_10 (fun H locs hP hD hS => ?_)
  have hW : WS D A s [(a_self, .inr (9, [.int m_signs, .ref a_block, .ref a_tape, .int m_bits, .int m_faultAt, .int m_isDone, .int m_n, .ref a_map, .ref a_places, .int m_symbols, .ref a_symbol, .int m_groups, .int m_tables, .ref a_lengths, .ref a_taken, .ref a_codes, .ref a_list, .ref a_weights, .ref a_whole, .int m_lays, .int m_laid_10, .ref a_row, .int m_read, .int m_wrong, .int m_readMany, .ref a_readMap, .int m_readTables, .int m_readGroups, .ref a_readTaken, .ref a_readLengths, .ref a_readCodes, .int m_found, .ref a_foundBlock])), (a_tape, .inl (cZ, 1500, .inl m_tape_10)), (a_lengths, .inl (cI, 3870, .inl m_lengths))] H locs := ⟨hP, hD, hS⟩
  refine lv_iconst (v := 0) hx hb dX9_layLengths_13 (by decide) ?_
  refine lv_istore_n (lv' := [(3, .int (0 : Int32)), (2, .int (m_lengths x1.toNatClampNeg)), (0, .ref a_self), (1, .int x1)]) hx hb dX9_layLengths_14 rfl hl (by decide) rfl (fun ls hl => ?_)
  obtain ⟨m_laid_15ze, m_tape_15ze, hI, hF⟩ := bd2_some hF
  obtain ⟨nn, hI⟩ := itrO_some hI
  have hX15 : ∀ (m_laid_15z : Int32) (m_tape_15z : Nat → Int32), (m_laid_15z, m_tape_15z) = (m_laid_15ze, m_tape_15ze) → ∀ (H : Heap) (locs : List Loc), WS D A s [(a_self, .inr (9, [.int m_signs, .ref a_block, .ref a_tape, .int m_bits, .int m_faultAt, .int m_isDone, .int m_n, .ref a_map, .ref a_places, .int m_symbols, .ref a_symbol, .int m_groups, .int m_tables, .ref a_lengths, .ref a_taken, .ref a_codes, .ref a_list, .ref a_weights, .ref a_whole, .int m_lays, .int m_laid_15z, .ref a_row, .int m_read, .int m_wrong, .int m_readMany, .ref a_readMap, .int m_readTables, .int m_readGroups, .ref a_readTaken, .ref a_readLengths, .ref a_readCodes, .int m_found, .ref a_foundBlock])), (a_tape, .inl (cZ, 1500, .inl m_tape_15z)), (a_lengths, .inl (cI, 3870, .inl m_lengths))] H locs → ∀ ls : Array Slot, lv_has ls 4 [] → W p l e (headSpec wsX9_layLengths rmMo_layLengths).room s m args below meth c H locs 0 0 Q (F0 m 85 ls []) := by
    intro m_laid_15z m_tape_15z he H locs hW ls hl
    obtain ⟨hz0, hy0⟩ := Prod.mk.inj he
    subst hz0
    subst hy0
    cases hF
    subst hQ
    exact ct_vret hx hb hr hlocks hW.1 hW.2.2 dX9_layLengths_85
  have hL15 : ∀ (n15 : Nat) (x2_15 : Int32) (x3_15 : Int32) (m_laid_15 : Int32) (m_tape_15 : Nat → Int32), itr (un4 (fMo_layLengths_L15 m_n m_lays m_lengths x1)) n15 (x2_15, x3_15, m_laid_15, m_tape_15) = some (m_laid_15ze, m_tape_15ze) → ∀ (H : Heap) (locs : List Loc), WS D A s [(a_self, .inr (9, [.int m_signs, .ref a_block, .ref a_tape, .int m_bits, .int m_faultAt, .int m_isDone, .int m_n, .ref a_map, .ref a_places, .int m_symbols, .ref a_symbol, .int m_groups, .int m_tables, .ref a_lengths, .ref a_taken, .ref a_codes, .ref a_list, .ref a_weights, .ref a_whole, .int m_lays, .int m_laid_15, .ref a_row, .int m_read, .int m_wrong, .int m_readMany, .ref a_readMap, .int m_readTables, .int m_readGroups, .ref a_readTaken, .ref a_readLengths, .ref a_readCodes, .int m_found, .ref a_foundBlock])), (a_tape, .inl (cZ, 1500, .inl m_tape_15)), (a_lengths, .inl (cI, 3870, .inl m_lengths))] H locs → ∀ ls : Array Slot, lv_has ls 4 [(0, .ref a_self), (1, .int x1), (2, .int x2_15), (3, .int x3_15)] → W p l e (headSpec wsX9_layLengths rmMo_layLengths).room s m args below meth c H locs 0 0 Q (F0 m 15 ls []) := by
    intro n15
    induction n15 with
    | zero => intro x2_15 x3_15 m_laid_15 m_tape_15 hI; cases hI
    | succ n15 ih15 =>
      intro x2_15 x3_15 m_laid_15 m_tape_15 hI H locs hW ls hl
      obtain ⟨sr15, hF, hN15⟩ := itr_succ hI
      have hF : fMo_layLengths_L15 m_n m_lays m_lengths x1 x2_15 x3_15 m_laid_15 m_tape_15 = some sr15 := hF
      unfold fMo_layLengths_L15 at hF
      refine lv_iload_n hx hb dX9_layLengths_15 rfl (lv_at hl 3 rfl) ?_
      refine lv_aload_n hx hb dX9_layLengths_16 rfl (lv_at hl 0 rfl) ?_
      refine va_get (D := D) (ci := 9) (v := .int m_n) (C := RX9) (T := TX9) (N := 33) hx hb hts hi9 hown hK.1 hW.1 0 rfl rfl 6 (by decide) hw1 (fun _ h9 => h9) rfl dX9_layLengths_17 ?_
      refine lv_iconst (v := 2) hx hb dX9_layLengths_20 (by decide) ?_
      refine lv_iadd hx hb dX9_layLengths_21 ?_
      refine lv_icmp_ge (tgt := 85) hx hb dX9_layLengths_22 (by decide) (fun c22 => ?_) (fun c22 => ?_)
      · rw [if_pos c22] at hF
        cases hF
        exact hX15 _ _ (itr_out hN15) _ _ hW _ (lv_sub hl [] rfl)
      · rw [if_neg c22] at hF
        obtain ⟨x2_25ze, m_laid_25ze, m_tape_25ze, hI, hF⟩ := bd3_some hF
        obtain ⟨nn, hI⟩ := itrO_some hI
        have hX25 : ∀ (x2_25z : Int32) (m_laid_25z : Int32) (m_tape_25z : Nat → Int32), (x2_25z, m_laid_25z, m_tape_25z) = (x2_25ze, m_laid_25ze, m_tape_25ze) → ∀ (H : Heap) (locs : List Loc), WS D A s [(a_self, .inr (9, [.int m_signs, .ref a_block, .ref a_tape, .int m_bits, .int m_faultAt, .int m_isDone, .int m_n, .ref a_map, .ref a_places, .int m_symbols, .ref a_symbol, .int m_groups, .int m_tables, .ref a_lengths, .ref a_taken, .ref a_codes, .ref a_list, .ref a_weights, .ref a_whole, .int m_lays, .int m_laid_25z, .ref a_row, .int m_read, .int m_wrong, .int m_readMany, .ref a_readMap, .int m_readTables, .int m_readGroups, .ref a_readTaken, .ref a_readLengths, .ref a_readCodes, .int m_found, .ref a_foundBlock])), (a_tape, .inl (cZ, 1500, .inl m_tape_25z)), (a_lengths, .inl (cI, 3870, .inl m_lengths))] H locs → ∀ ls : Array Slot, lv_has ls 4 [(0, .ref a_self), (1, .int x1), (2, .int x2_25z), (3, .int x3_15)] → W p l e (headSpec wsX9_layLengths rmMo_layLengths).room s m args below meth c H locs 0 0 Q (F0 m 49 ls []) := by
          intro x2_25z m_laid_25z m_tape_25z he H locs hW ls hl
          obtain ⟨hz0, hy0⟩ := Prod.mk.inj he
          obtain ⟨hz1, hy1⟩ := Prod.mk.inj hy0
          subst hz0
          subst hz1
          subst hy1
          obtain ⟨x2_49ze, m_laid_49ze, m_tape_49ze, hI, hF⟩ := bd3_some hF
          obtain ⟨nn, hI⟩ := itrO_some hI
          have hX49 : ∀ (x2_49z : Int32) (m_laid_49z : Int32) (m_tape_49z : Nat → Int32), (x2_49z, m_laid_49z, m_tape_49z) = (x2_49ze, m_laid_49ze, m_tape_49ze) → ∀ (H : Heap) (locs : List Loc), WS D A s [(a_self, .inr (9, [.int m_signs, .ref a_block, .ref a_tape, .int m_bits, .int m_faultAt, .int m_isDone, .int m_n, .ref a_map, .ref a_places, .int m_symbols, .ref a_symbol, .int m_groups, .int m_tables, .ref a_lengths, .ref a_taken, .ref a_codes, .ref a_list, .ref a_weights, .ref a_whole, .int m_lays, .int m_laid_49z, .ref a_row, .int m_read, .int m_wrong, .int m_readMany, .ref a_readMap, .int m_readTables, .int m_readGroups, .ref a_readTaken, .ref a_readLengths, .ref a_readCodes, .int m_found, .ref a_foundBlock])), (a_tape, .inl (cZ, 1500, .inl m_tape_49z)), (a_lengths, .inl (cI, 3870, .inl m_lengths))] H locs → ∀ ls : Array Slot, lv_has ls 4 [(0, .ref a_self), (1, .int x1), (2, .int x2_49z), (3, .int x3_15)] → W p l e (headSpec wsX9_layLengths rmMo_layLengths).room s m args below meth c H locs 0 0 Q (F0 m 73 ls []) := by
            intro x2_49z m_laid_49z m_tape_49z he H locs hW ls hl
            obtain ⟨hz0, hy0⟩ := Prod.mk.inj he
            obtain ⟨hz1, hy1⟩ := Prod.mk.inj hy0
            subst hz0
            subst hz1
            subst hy1
            refine lv_aload_n hx hb dX9_layLengths_73 rfl (lv_at hl 0 rfl) ?_
            refine lv_iconst (v := 0) hx hb dX9_layLengths_74 (by decide) ?_
            refine lv_iconst (v := 1) hx hb dX9_layLengths_75 (by decide) ?_
            obtain ⟨m_laid_76, m_tape_76, e76, hF⟩ := bd2_some hF
            refine ctV (r := (RX9, TX9, 33)) (As := [.int (0 : Int32), .int (1 : Int32)]) (rest := []) hx hb hml hown hts hK hW.1 hW.2.1 hW.2.2 hA hl.1 (kMo_put l D cI cZ cO cG a_self a_block a_tape a_map a_places a_symbol a_lengths a_taken a_codes a_list a_weights a_whole a_row a_readMap a_readTaken a_readLengths a_readCodes a_foundBlock m_signs m_bits m_faultAt m_isDone m_n m_symbols m_groups m_tables m_lays m_laid_49z m_read m_wrong m_readMany m_readTables m_readGroups m_found m_tape_49z (0 : Int32) (1 : Int32) e76) (cwV 2 hts gX9_layLengths_X9_put rfl rfl rfl (by decide +kernel) ⟨Nat.le_of_ble_eq_true rfl, Nat.le_of_ble_eq_true rfl⟩) 9 0 rfl rfl [0, 1] rfl rfl rfl rfl rfl (Nat.le_of_ble_eq_true rfl) rfl ⟨Nat.zero_le _, Nat.zero_le _⟩ dX9_layLengths_76 (fun H locs hP hD hS => ?_)
            have hW : WS D A s [(a_self, .inr (9, [.int m_signs, .ref a_block, .ref a_tape, .int m_bits, .int m_faultAt, .int m_isDone, .int m_n, .ref a_map, .ref a_places, .int m_symbols, .ref a_symbol, .int m_groups, .int m_tables, .ref a_lengths, .ref a_taken, .ref a_codes, .ref a_list, .ref a_weights, .ref a_whole, .int m_lays, .int m_laid_76, .ref a_row, .int m_read, .int m_wrong, .int m_readMany, .ref a_readMap, .int m_readTables, .int m_readGroups, .ref a_readTaken, .ref a_readLengths, .ref a_readCodes, .int m_found, .ref a_foundBlock])), (a_tape, .inl (cZ, 1500, .inl m_tape_76)), (a_lengths, .inl (cI, 3870, .inl m_lengths))] H locs := ⟨hP, hD, hS⟩
            refine lv_iinc (v := (x3_15 + 1)) (lv' := [(3, .int (x3_15 + 1)), (0, .ref a_self), (1, .int x1), (2, .int x2_49z)]) hx hb dX9_layLengths_79 hl (k := 3) rfl rfl (by decide) rfl (fun ls hl => ?_)
            refine lv_goto (tgt := 15) hx hb dX9_layLengths_82 (by decide) ?_
            cases hF
            exact ih15 _ _ _ _ (itr_in hN15) _ _ hW _ (lv_sub hl [1, 2, 3, 0] rfl)
          have hL49 : ∀ (n49 : Nat) (x2_49 : Int32) (m_laid_49 : Int32) (m_tape_49 : Nat → Int32), itr (un3 (fMo_layLengths_L49 m_lays m_lengths x1 x3_15)) n49 (x2_49, m_laid_49, m_tape_49) = some (x2_49ze, m_laid_49ze, m_tape_49ze) → ∀ (H : Heap) (locs : List Loc), WS D A s [(a_self, .inr (9, [.int m_signs, .ref a_block, .ref a_tape, .int m_bits, .int m_faultAt, .int m_isDone, .int m_n, .ref a_map, .ref a_places, .int m_symbols, .ref a_symbol, .int m_groups, .int m_tables, .ref a_lengths, .ref a_taken, .ref a_codes, .ref a_list, .ref a_weights, .ref a_whole, .int m_lays, .int m_laid_49, .ref a_row, .int m_read, .int m_wrong, .int m_readMany, .ref a_readMap, .int m_readTables, .int m_readGroups, .ref a_readTaken, .ref a_readLengths, .ref a_readCodes, .int m_found, .ref a_foundBlock])), (a_tape, .inl (cZ, 1500, .inl m_tape_49)), (a_lengths, .inl (cI, 3870, .inl m_lengths))] H locs → ∀ ls : Array Slot, lv_has ls 4 [(0, .ref a_self), (1, .int x1), (2, .int x2_49), (3, .int x3_15)] → W p l e (headSpec wsX9_layLengths rmMo_layLengths).room s m args below meth c H locs 0 0 Q (F0 m 49 ls []) := by
            intro n49
            induction n49 with
            | zero => intro x2_49 m_laid_49 m_tape_49 hI; cases hI
            | succ n49 ih49 =>
              intro x2_49 m_laid_49 m_tape_49 hI H locs hW ls hl
              obtain ⟨sr49, hF, hN49⟩ := itr_succ hI
              have hF : fMo_layLengths_L49 m_lays m_lengths x1 x3_15 x2_49 m_laid_49 m_tape_49 = some sr49 := hF
              unfold fMo_layLengths_L49 at hF
              refine lv_iload_n hx hb dX9_layLengths_49 rfl (lv_at hl 2 rfl) ?_
              refine lv_aload_n hx hb dX9_layLengths_50 rfl (lv_at hl 0 rfl) ?_
              refine va_get (D := D) (ci := 9) (v := .ref a_lengths) (C := RX9) (T := TX9) (N := 33) hx hb hts hi9 hown hK.1 hW.1 0 rfl rfl 13 (by decide) hw0 (fun _ h9 => h9) rfl dX9_layLengths_51 ?_
              refine lv_iload_n hx hb dX9_layLengths_54 rfl (lv_at hl 1 rfl) ?_
              refine lv_iload_n hx hb dX9_layLengths_55 rfl (lv_at hl 3 rfl) ?_
              refine lv_iadd hx hb dX9_layLengths_56 ?_
              obtain ⟨g57, hF⟩ := gdI_some hF
              refine va_iald hx hb hK.1 hW.1 2 0 rfl rfl g57 dX9_layLengths_57 ?_
              refine lv_icmp_le (tgt := 73) hx hb dX9_layLengths_58 (by decide) (fun c58 => ?_) (fun c58 => ?_)
              · rw [if_pos c58] at hF
                cases hF
                exact hX49 _ _ _ (itr_out hN49) _ _ hW _ (lv_sub hl [0, 1, 2, 3] rfl)
              · rw [if_neg c58] at hF
                refine lv_aload_n hx hb dX9_layLengths_61 rfl (lv_at hl 0 rfl) ?_
                refine lv_iconst (v := 3) hx hb dX9_layLengths_62 (by decide) ?_
                refine lv_iconst (v := 2) hx hb dX9_layLengths_63 (by decide) ?_
                obtain ⟨m_laid_64, m_tape_64, e64, hF⟩ := bd2_some hF
                refine ctV (r := (RX9, TX9, 33)) (As := [.int (3 : Int32), .int (2 : Int32)]) (rest := []) hx hb hml hown hts hK hW.1 hW.2.1 hW.2.2 hA hl.1 (kMo_put l D cI cZ cO cG a_self a_block a_tape a_map a_places a_symbol a_lengths a_taken a_codes a_list a_weights a_whole a_row a_readMap a_readTaken a_readLengths a_readCodes a_foundBlock m_signs m_bits m_faultAt m_isDone m_n m_symbols m_groups m_tables m_lays m_laid_49 m_read m_wrong m_readMany m_readTables m_readGroups m_found m_tape_49 (3 : Int32) (2 : Int32) e64) (cwV 2 hts gX9_layLengths_X9_put rfl rfl rfl (by decide +kernel) ⟨Nat.le_of_ble_eq_true rfl, Nat.le_of_ble_eq_true rfl⟩) 9 0 rfl rfl [0, 1] rfl rfl rfl rfl rfl (Nat.le_of_ble_eq_true rfl) rfl ⟨Nat.zero_le _, Nat.zero_le _⟩ dX9_layLengths_64 (fun H locs hP hD hS => ?_)
                have hW : WS D A s [(a_self, .inr (9, [.int m_signs, .ref a_block, .ref a_tape, .int m_bits, .int m_faultAt, .int m_isDone, .int m_n, .ref a_map, .ref a_places, .int m_symbols, .ref a_symbol, .int m_groups, .int m_tables, .ref a_lengths, .ref a_taken, .ref a_codes, .ref a_list, .ref a_weights, .ref a_whole, .int m_lays, .int m_laid_64, .ref a_row, .int m_read, .int m_wrong, .int m_readMany, .ref a_readMap, .int m_readTables, .int m_readGroups, .ref a_readTaken, .ref a_readLengths, .ref a_readCodes, .int m_found, .ref a_foundBlock])), (a_tape, .inl (cZ, 1500, .inl m_tape_64)), (a_lengths, .inl (cI, 3870, .inl m_lengths))] H locs := ⟨hP, hD, hS⟩
                refine lv_iinc (v := (x2_49 + (-1))) (lv' := [(2, .int (x2_49 + (-1))), (0, .ref a_self), (1, .int x1), (3, .int x3_15)]) hx hb dX9_layLengths_67 hl (k := 2) rfl rfl (by decide) rfl (fun ls hl => ?_)
                refine lv_goto (tgt := 49) hx hb dX9_layLengths_70 (by decide) ?_
                cases hF
                exact ih49 _ _ _ (itr_in hN49) _ _ hW _ (lv_sub hl [1, 2, 0, 3] rfl)
          exact hL49 nn _ _ _ hI _ _ hW _ (lv_sub hl [0, 1, 2, 3] rfl)
        have hL25 : ∀ (n25 : Nat) (x2_25 : Int32) (m_laid_25 : Int32) (m_tape_25 : Nat → Int32), itr (un3 (fMo_layLengths_L25 m_lays m_lengths x1 x3_15)) n25 (x2_25, m_laid_25, m_tape_25) = some (x2_25ze, m_laid_25ze, m_tape_25ze) → ∀ (H : Heap) (locs : List Loc), WS D A s [(a_self, .inr (9, [.int m_signs, .ref a_block, .ref a_tape, .int m_bits, .int m_faultAt, .int m_isDone, .int m_n, .ref a_map, .ref a_places, .int m_symbols, .ref a_symbol, .int m_groups, .int m_tables, .ref a_lengths, .ref a_taken, .ref a_codes, .ref a_list, .ref a_weights, .ref a_whole, .int m_lays, .int m_laid_25, .ref a_row, .int m_read, .int m_wrong, .int m_readMany, .ref a_readMap, .int m_readTables, .int m_readGroups, .ref a_readTaken, .ref a_readLengths, .ref a_readCodes, .int m_found, .ref a_foundBlock])), (a_tape, .inl (cZ, 1500, .inl m_tape_25)), (a_lengths, .inl (cI, 3870, .inl m_lengths))] H locs → ∀ ls : Array Slot, lv_has ls 4 [(0, .ref a_self), (1, .int x1), (2, .int x2_25), (3, .int x3_15)] → W p l e (headSpec wsX9_layLengths rmMo_layLengths).room s m args below meth c H locs 0 0 Q (F0 m 25 ls []) := by
          intro n25
          induction n25 with
          | zero => intro x2_25 m_laid_25 m_tape_25 hI; cases hI
          | succ n25 ih25 =>
            intro x2_25 m_laid_25 m_tape_25 hI H locs hW ls hl
            obtain ⟨sr25, hF, hN25⟩ := itr_succ hI
            have hF : fMo_layLengths_L25 m_lays m_lengths x1 x3_15 x2_25 m_laid_25 m_tape_25 = some sr25 := hF
            unfold fMo_layLengths_L25 at hF
            refine lv_iload_n hx hb dX9_layLengths_25 rfl (lv_at hl 2 rfl) ?_
            refine lv_aload_n hx hb dX9_layLengths_26 rfl (lv_at hl 0 rfl) ?_
            refine va_get (D := D) (ci := 9) (v := .ref a_lengths) (C := RX9) (T := TX9) (N := 33) hx hb hts hi9 hown hK.1 hW.1 0 rfl rfl 13 (by decide) hw0 (fun _ h9 => h9) rfl dX9_layLengths_27 ?_
            refine lv_iload_n hx hb dX9_layLengths_30 rfl (lv_at hl 1 rfl) ?_
            refine lv_iload_n hx hb dX9_layLengths_31 rfl (lv_at hl 3 rfl) ?_
            refine lv_iadd hx hb dX9_layLengths_32 ?_
            obtain ⟨g33, hF⟩ := gdI_some hF
            refine va_iald hx hb hK.1 hW.1 2 0 rfl rfl g33 dX9_layLengths_33 ?_
            refine lv_icmp_ge (tgt := 49) hx hb dX9_layLengths_34 (by decide) (fun c34 => ?_) (fun c34 => ?_)
            · rw [if_pos c34] at hF
              cases hF
              exact hX25 _ _ _ (itr_out hN25) _ _ hW _ (lv_sub hl [0, 1, 2, 3] rfl)
            · rw [if_neg c34] at hF
              refine lv_aload_n hx hb dX9_layLengths_37 rfl (lv_at hl 0 rfl) ?_
              refine lv_iconst (v := 2) hx hb dX9_layLengths_38 (by decide) ?_
              refine lv_iconst (v := 2) hx hb dX9_layLengths_39 (by decide) ?_
              obtain ⟨m_laid_40, m_tape_40, e40, hF⟩ := bd2_some hF
              refine ctV (r := (RX9, TX9, 33)) (As := [.int (2 : Int32), .int (2 : Int32)]) (rest := []) hx hb hml hown hts hK hW.1 hW.2.1 hW.2.2 hA hl.1 (kMo_put l D cI cZ cO cG a_self a_block a_tape a_map a_places a_symbol a_lengths a_taken a_codes a_list a_weights a_whole a_row a_readMap a_readTaken a_readLengths a_readCodes a_foundBlock m_signs m_bits m_faultAt m_isDone m_n m_symbols m_groups m_tables m_lays m_laid_25 m_read m_wrong m_readMany m_readTables m_readGroups m_found m_tape_25 (2 : Int32) (2 : Int32) e40) (cwV 2 hts gX9_layLengths_X9_put rfl rfl rfl (by decide +kernel) ⟨Nat.le_of_ble_eq_true rfl, Nat.le_of_ble_eq_true rfl⟩) 9 0 rfl rfl [0, 1] rfl rfl rfl rfl rfl (Nat.le_of_ble_eq_true rfl) rfl ⟨Nat.zero_le _, Nat.zero_le _⟩ dX9_layLengths_40 (fun H locs hP hD hS => ?_)
              have hW : WS D A s [(a_self, .inr (9, [.int m_signs, .ref a_block, .ref a_tape, .int m_bits, .int m_faultAt, .int m_isDone, .int m_n, .ref a_map, .ref a_places, .int m_symbols, .ref a_symbol, .int m_groups, .int m_tables, .ref a_lengths, .ref a_taken, .ref a_codes, .ref a_list, .ref a_weights, .ref a_whole, .int m_lays, .int m_laid_40, .ref a_row, .int m_read, .int m_wrong, .int m_readMany, .ref a_readMap, .int m_readTables, .int m_readGroups, .ref a_readTaken, .ref a_readLengths, .ref a_readCodes, .int m_found, .ref a_foundBlock])), (a_tape, .inl (cZ, 1500, .inl m_tape_40)), (a_lengths, .inl (cI, 3870, .inl m_lengths))] H locs := ⟨hP, hD, hS⟩
              refine lv_iinc (v := (x2_25 + 1)) (lv' := [(2, .int (x2_25 + 1)), (0, .ref a_self), (1, .int x1), (3, .int x3_15)]) hx hb dX9_layLengths_43 hl (k := 2) rfl rfl (by decide) rfl (fun ls hl => ?_)
              refine lv_goto (tgt := 25) hx hb dX9_layLengths_46 (by decide) ?_
              cases hF
              exact ih25 _ _ _ (itr_in hN25) _ _ hW _ (lv_sub hl [1, 2, 0, 3] rfl)
        exact hL25 nn _ _ _ hI _ _ hW _ (lv_sub hl [0, 1, 2, 3] rfl)
  exact hL15 nn _ _ _ _ hI _ _ hW _ (lv_sub hl [2, 3, 1, 0] rfl)
abbrev rmMo_marks : Room := { frames := 0, cells := 0, slots := 0, locals := 0 }
set_option maxHeartbeats 4000000 in
set_option maxRecDepth 100000 in
theorem kMo_marks (l : Launch) (D : va_G) (cI cZ cO cG : ClassId) (a_self : Nat) (a_block : Nat) (a_tape : Nat) (a_map : Nat) (a_places : Nat) (a_symbol : Nat) (a_lengths : Nat) (a_taken : Nat) (a_codes : Nat) (a_list : Nat) (a_weights : Nat) (a_whole : Nat) (a_row : Nat) (a_readMap : Nat) (a_readTaken : Nat) (a_readLengths : Nat) (a_readCodes : Nat) (a_foundBlock : Nat) (m_signs : Int32) (m_bits : Int32) (m_faultAt : Int32) (m_isDone : Int32) (m_n : Int32) (m_symbols : Int32) (m_groups : Int32) (m_tables : Int32) (m_lays : Int32) (m_laid : Int32) (m_read : Int32) (m_wrong : Int32) (m_readMany : Int32) (m_readTables : Int32) (m_readGroups : Int32) (m_found : Int32) (m_map : Nat → Int32) (x1 : Int32) {rv : Int32} (hF : fMo_marks m_n m_map x1 = some rv) : CT l yX9_marks wsX9_marks rmMo_marks D (tysG cI cZ cO cG) [.ref a_self, .int x1] [(a_self, .inr (9, [.int m_signs, .ref a_block, .ref a_tape, .int m_bits, .int m_faultAt, .int m_isDone, .int m_n, .ref a_map, .ref a_places, .int m_symbols, .ref a_symbol, .int m_groups, .int m_tables, .ref a_lengths, .ref a_taken, .ref a_codes, .ref a_list, .ref a_weights, .ref a_whole, .int m_lays, .int m_laid, .ref a_row, .int m_read, .int m_wrong, .int m_readMany, .ref a_readMap, .int m_readTables, .int m_readGroups, .ref a_readTaken, .ref a_readLengths, .ref a_readCodes, .int m_found, .ref a_foundBlock])), (a_map, .inl (cI, 256, .inl m_map))] (some (.int rv)) [(a_self, .inr (9, [.int m_signs, .ref a_block, .ref a_tape, .int m_bits, .int m_faultAt, .int m_isDone, .int m_n, .ref a_map, .ref a_places, .int m_symbols, .ref a_symbol, .int m_groups, .int m_tables, .ref a_lengths, .ref a_taken, .ref a_codes, .ref a_list, .ref a_weights, .ref a_whole, .int m_lays, .int m_laid, .ref a_row, .int m_read, .int m_wrong, .int m_readMany, .ref a_readMap, .int m_readTables, .int m_readGroups, .ref a_readTaken, .ref a_readLengths, .ref a_readCodes, .int m_found, .ref a_foundBlock])), (a_map, .inl (cI, 256, .inl m_map))] := by
  refine CT.of (cc := cX9_marks) (maxL := 4) (ret := (some .int)) (by decide) rfl (Nat.le_of_ble_eq_true rfl) ?_
  intro p e s m below meth c A ls hx hb hr hml hts hown hlocks hK hA hP hD hS hl
  generalize hargs : ([.ref a_self, .int x1] : List Value).toArray = args at hts ⊢
  generalize hQ : MQ below (ctQ D (some (.int rv)) [(a_self, .inr (9, [.int m_signs, .ref a_block, .ref a_tape, .int m_bits, .int m_faultAt, .int m_isDone, .int m_n, .ref a_map, .ref a_places, .int m_symbols, .ref a_symbol, .int m_groups, .int m_tables, .ref a_lengths, .ref a_taken, .ref a_codes, .ref a_list, .ref a_weights, .ref a_whole, .int m_lays, .int m_laid, .ref a_row, .int m_read, .int m_wrong, .int m_readMany, .ref a_readMap, .int m_readTables, .int m_readGroups, .ref a_readTaken, .ref a_readLengths, .ref a_readCodes, .int m_found, .ref a_foundBlock])), (a_map, .inl (cI, 256, .inl m_map))] A) args s 0 0 A = Q
  have hl : lv_has ls 4 [(0, .ref a_self), (1, .int x1)] := hl
  have hW : WS D A s [(a_self, .inr (9, [.int m_signs, .ref a_block, .ref a_tape, .int m_bits, .int m_faultAt, .int m_isDone, .int m_n, .ref a_map, .ref a_places, .int m_symbols, .ref a_symbol, .int m_groups, .int m_tables, .ref a_lengths, .ref a_taken, .ref a_codes, .ref a_list, .ref a_weights, .ref a_whole, .int m_lays, .int m_laid, .ref a_row, .int m_read, .int m_wrong, .int m_readMany, .ref a_readMap, .int m_readTables, .int m_readGroups, .ref a_readTaken, .ref a_readLengths, .ref a_readCodes, .int m_found, .ref a_foundBlock])), (a_map, .inl (cI, 256, .inl m_map))] s.heap [] := ⟨hP, hD, hS⟩
  clear hP hD hS
  unfold fMo_marks at hF
  have hw0 := hts (Cond.fieldLink RX9 106 "MoveFrontsModel" "n" "I") (by decide +kernel)
  have hw1 := hts (Cond.fieldLink RX9 21 "MoveFrontsModel" "map" "[I") (by decide +kernel)
  have hi9 : ∀ w ∈ u_ws RX9 TX9 33, w ∈ wsX9_marks := by decide +kernel
  refine lv_iconst (v := 0) hx hb dX9_marks_0 (by decide) ?_
  refine lv_istore_n (lv' := [(2, .int (0 : Int32)), (0, .ref a_self), (1, .int x1)]) hx hb dX9_marks_1 rfl hl (by decide) rfl (fun ls hl => ?_)
  refine lv_iconst (v := 0) hx hb dX9_marks_2 (by decide) ?_
  refine lv_istore_n (lv' := [(3, .int (0 : Int32)), (2, .int (0 : Int32)), (0, .ref a_self), (1, .int x1)]) hx hb dX9_marks_3 rfl hl (by decide) rfl (fun ls hl => ?_)
  obtain ⟨x2_4ze, hI, hF⟩ := bd1_some hF
  obtain ⟨nn, hI⟩ := itrO_some hI
  have hX4 : ∀ (x2_4z : Int32), x2_4z = x2_4ze → ∀ (H : Heap) (locs : List Loc), WS D A s [(a_self, .inr (9, [.int m_signs, .ref a_block, .ref a_tape, .int m_bits, .int m_faultAt, .int m_isDone, .int m_n, .ref a_map, .ref a_places, .int m_symbols, .ref a_symbol, .int m_groups, .int m_tables, .ref a_lengths, .ref a_taken, .ref a_codes, .ref a_list, .ref a_weights, .ref a_whole, .int m_lays, .int m_laid, .ref a_row, .int m_read, .int m_wrong, .int m_readMany, .ref a_readMap, .int m_readTables, .int m_readGroups, .ref a_readTaken, .ref a_readLengths, .ref a_readCodes, .int m_found, .ref a_foundBlock])), (a_map, .inl (cI, 256, .inl m_map))] H locs → ∀ ls : Array Slot, lv_has ls 4 [(2, .int x2_4z)] → W p l e (headSpec wsX9_marks rmMo_marks).room s m args below meth c H locs 0 0 Q (F0 m 52 ls []) := by
    intro x2_4z he H locs hW ls hl
    subst he
    refine lv_iload_n hx hb dX9_marks_52 rfl (lv_at hl 0 rfl) ?_
    cases hF
    subst hQ
    exact ct_iret hx hb hr hlocks hW.1 hW.2.2 dX9_marks_53
  have hL4 : ∀ (n4 : Nat) (x2_4 : Int32) (x3_4 : Int32), itr (un2 (fMo_marks_L4 m_n m_map x1)) n4 (x2_4, x3_4) = some x2_4ze → ∀ (H : Heap) (locs : List Loc), WS D A s [(a_self, .inr (9, [.int m_signs, .ref a_block, .ref a_tape, .int m_bits, .int m_faultAt, .int m_isDone, .int m_n, .ref a_map, .ref a_places, .int m_symbols, .ref a_symbol, .int m_groups, .int m_tables, .ref a_lengths, .ref a_taken, .ref a_codes, .ref a_list, .ref a_weights, .ref a_whole, .int m_lays, .int m_laid, .ref a_row, .int m_read, .int m_wrong, .int m_readMany, .ref a_readMap, .int m_readTables, .int m_readGroups, .ref a_readTaken, .ref a_readLengths, .ref a_readCodes, .int m_found, .ref a_foundBlock])), (a_map, .inl (cI, 256, .inl m_map))] H locs → ∀ ls : Array Slot, lv_has ls 4 [(0, .ref a_self), (1, .int x1), (2, .int x2_4), (3, .int x3_4)] → W p l e (headSpec wsX9_marks rmMo_marks).room s m args below meth c H locs 0 0 Q (F0 m 4 ls []) := by
    intro n4
    induction n4 with
    | zero => intro x2_4 x3_4 hI; cases hI
    | succ n4 ih4 =>
      intro x2_4 x3_4 hI H locs hW ls hl
      obtain ⟨sr4, hF, hN4⟩ := itr_succ hI
      have hF : fMo_marks_L4 m_n m_map x1 x2_4 x3_4 = some sr4 := hF
      unfold fMo_marks_L4 at hF
      refine lv_iload_n hx hb dX9_marks_4 rfl (lv_at hl 3 rfl) ?_
      refine lv_aload_n hx hb dX9_marks_5 rfl (lv_at hl 0 rfl) ?_
      refine va_get (D := D) (ci := 9) (v := .int m_n) (C := RX9) (T := TX9) (N := 33) hx hb hts hi9 hown hK.1 hW.1 0 rfl rfl 6 (by decide) hw0 (fun _ h9 => h9) rfl dX9_marks_6 ?_
      refine lv_icmp_ge (tgt := 52) hx hb dX9_marks_9 (by decide) (fun c9 => ?_) (fun c9 => ?_)
      · rw [if_pos c9] at hF
        cases hF
        exact hX4 _ (itr_out hN4) _ _ hW _ (lv_sub hl [2] rfl)
      · rw [if_neg c9] at hF
        refine lv_iload_n hx hb dX9_marks_12 rfl (lv_at hl 2 rfl) ?_
        refine lv_aload_n hx hb dX9_marks_13 rfl (lv_at hl 0 rfl) ?_
        refine va_get (D := D) (ci := 9) (v := .ref a_map) (C := RX9) (T := TX9) (N := 33) hx hb hts hi9 hown hK.1 hW.1 0 rfl rfl 7 (by decide) hw1 (fun _ h9 => h9) rfl dX9_marks_14 ?_
        refine lv_iload_n hx hb dX9_marks_17 rfl (lv_at hl 3 rfl) ?_
        obtain ⟨g18, hF⟩ := gdI_some hF
        refine va_iald hx hb hK.1 hW.1 1 0 rfl rfl g18 dX9_marks_18 ?_
        refine lv_bipush (v := 16) hx hb dX9_marks_19 (by decide) ?_
        refine lv_idiv hx hb dX9_marks_21 (by decide) ?_
        refine lv_iload_n hx hb dX9_marks_22 rfl (lv_at hl 1 rfl) ?_
        refine lv_icmp_ne (tgt := 43) hx hb dX9_marks_23 (by decide) (fun c23 => ?_) (fun c23 => ?_)
        · rw [if_neg c23] at hF
          refine lv_iconst (v := 0) hx hb dX9_marks_43 (by decide) ?_
          refine lv_iadd hx hb dX9_marks_44 ?_
          refine lv_istore_n (lv' := [(2, .int (x2_4 + (0 : Int32))), (0, .ref a_self), (1, .int x1), (3, .int x3_4)]) hx hb dX9_marks_45 rfl hl (by decide) rfl (fun ls hl => ?_)
          refine lv_iinc (v := (x3_4 + 1)) (lv' := [(3, .int (x3_4 + 1)), (2, .int (x2_4 + (0 : Int32))), (0, .ref a_self), (1, .int x1)]) hx hb dX9_marks_46 hl (k := 3) rfl rfl (by decide) rfl (fun ls hl => ?_)
          refine lv_goto (tgt := 4) hx hb dX9_marks_49 (by decide) ?_
          cases hF
          exact ih4 _ _ (itr_in hN4) _ _ hW _ (lv_sub hl [2, 3, 1, 0] rfl)
        · rw [if_pos c23] at hF
          refine lv_iconst (v := 1) hx hb dX9_marks_26 (by decide) ?_
          refine lv_bipush (v := 15) hx hb dX9_marks_27 (by decide) ?_
          refine lv_aload_n hx hb dX9_marks_29 rfl (lv_at hl 0 rfl) ?_
          refine va_get (D := D) (ci := 9) (v := .ref a_map) (C := RX9) (T := TX9) (N := 33) hx hb hts hi9 hown hK.1 hW.1 0 rfl rfl 7 (by decide) hw1 (fun _ h9 => h9) rfl dX9_marks_30 ?_
          refine lv_iload_n hx hb dX9_marks_33 rfl (lv_at hl 3 rfl) ?_
          obtain ⟨g34, hF⟩ := gdI_some hF
          refine va_iald hx hb hK.1 hW.1 1 0 rfl rfl g34 dX9_marks_34 ?_
          refine lv_bipush (v := 16) hx hb dX9_marks_35 (by decide) ?_
          refine lv_irem hx hb dX9_marks_37 (by decide) ?_
          refine lv_isub hx hb dX9_marks_38 ?_
          refine lv_ishl hx hb dX9_marks_39 ?_
          refine lv_goto (tgt := 44) hx hb dX9_marks_40 (by decide) ?_
          refine lv_iadd hx hb dX9_marks_44 ?_
          refine lv_istore_n (lv' := [(2, .int (x2_4 + ((1 : Int32) <<< (((15 : Int32) - ((m_map x3_4.toNatClampNeg) - (m_map x3_4.toNatClampNeg) / (16 : Int32) * (16 : Int32))) &&& 31)))), (0, .ref a_self), (1, .int x1), (3, .int x3_4)]) hx hb dX9_marks_45 rfl hl (by decide) rfl (fun ls hl => ?_)
          refine lv_iinc (v := (x3_4 + 1)) (lv' := [(3, .int (x3_4 + 1)), (2, .int (x2_4 + ((1 : Int32) <<< (((15 : Int32) - ((m_map x3_4.toNatClampNeg) - (m_map x3_4.toNatClampNeg) / (16 : Int32) * (16 : Int32))) &&& 31)))), (0, .ref a_self), (1, .int x1)]) hx hb dX9_marks_46 hl (k := 3) rfl rfl (by decide) rfl (fun ls hl => ?_)
          refine lv_goto (tgt := 4) hx hb dX9_marks_49 (by decide) ?_
          cases hF
          exact ih4 _ _ (itr_in hN4) _ _ hW _ (lv_sub hl [2, 3, 1, 0] rfl)
  exact hL4 nn _ _ hI _ _ hW _ (lv_sub hl [2, 3, 1, 0] rfl)
