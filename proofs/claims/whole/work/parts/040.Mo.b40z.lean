abbrev rmMo_readSymbol : Room := { frames := 1, cells := 0, slots := 0, locals := 23 }
set_option maxHeartbeats 4000000 in
set_option maxRecDepth 100000 in
theorem kMo_readSymbol (l : Launch) (D : va_G) (cI cZ cO cG : ClassId) (a_self : Nat) (a_block : Nat) (a_tape : Nat) (a_map : Nat) (a_places : Nat) (a_symbol : Nat) (a_lengths : Nat) (a_taken : Nat) (a_codes : Nat) (a_list : Nat) (a_weights : Nat) (a_whole : Nat) (a_row : Nat) (a_readMap : Nat) (a_readTaken : Nat) (a_readLengths : Nat) (a_readCodes : Nat) (a_foundBlock : Nat) (m_signs : Int32) (m_bits : Int32) (m_faultAt : Int32) (m_isDone : Int32) (m_n : Int32) (m_symbols : Int32) (m_groups : Int32) (m_tables : Int32) (m_lays : Int32) (m_laid : Int32) (m_read : Int32) (m_wrong : Int32) (m_readMany : Int32) (m_readTables : Int32) (m_readGroups : Int32) (m_found : Int32) (m_tape : Nat → Int32) (m_readLengths : Nat → Int32) (m_readCodes : Nat → Int32) (x1 : Int32) {rv : Int32} {m_read' : Int32} {m_wrong' : Int32} (hF : fMo_readSymbol m_bits m_read m_wrong m_readMany m_tape m_readLengths m_readCodes x1 = some (rv, m_read', m_wrong')) : CT l yX9_readSymbol wsX9_readSymbol rmMo_readSymbol D (tysG cI cZ cO cG) [.ref a_self, .int x1] [ob a_self 9 [Value.int m_signs, Value.ref a_block, Value.ref a_tape, Value.int m_bits, Value.int m_faultAt, Value.int m_isDone, Value.int m_n, Value.ref a_map, Value.ref a_places, Value.int m_symbols, Value.ref a_symbol, Value.int m_groups, Value.int m_tables, Value.ref a_lengths, Value.ref a_taken, Value.ref a_codes, Value.ref a_list, Value.ref a_weights, Value.ref a_whole, Value.int m_lays, Value.int m_laid, Value.ref a_row, Value.int m_read, Value.int m_wrong, Value.int m_readMany, Value.ref a_readMap, Value.int m_readTables, Value.int m_readGroups, Value.ref a_readTaken, Value.ref a_readLengths, Value.ref a_readCodes, Value.int m_found, Value.ref a_foundBlock], ia cZ a_tape 1500 m_tape, ia cI a_readLengths 774 m_readLengths, ia cI a_readCodes 774 m_readCodes] (some (.int rv)) [ob a_self 9 [Value.int m_signs, Value.ref a_block, Value.ref a_tape, Value.int m_bits, Value.int m_faultAt, Value.int m_isDone, Value.int m_n, Value.ref a_map, Value.ref a_places, Value.int m_symbols, Value.ref a_symbol, Value.int m_groups, Value.int m_tables, Value.ref a_lengths, Value.ref a_taken, Value.ref a_codes, Value.ref a_list, Value.ref a_weights, Value.ref a_whole, Value.int m_lays, Value.int m_laid, Value.ref a_row, Value.int m_read', Value.int m_wrong', Value.int m_readMany, Value.ref a_readMap, Value.int m_readTables, Value.int m_readGroups, Value.ref a_readTaken, Value.ref a_readLengths, Value.ref a_readCodes, Value.int m_found, Value.ref a_foundBlock], ia cZ a_tape 1500 m_tape, ia cI a_readLengths 774 m_readLengths, ia cI a_readCodes 774 m_readCodes] := by
  refine CT.of (cc := cX9_readSymbol) (maxL := 7) (ret := (some .int)) (by decide) rfl (Nat.le_of_ble_eq_true rfl) ?_
  intro p e s m below meth c A ls hx hb hr hml hts hown hlocks hK hA hP hD hS hl
  generalize hargs : ([.ref a_self, .int x1] : List Value).toArray = args at hts ⊢
  generalize hQ : MQ below (ctQ D (some (.int rv)) [ob a_self 9 [Value.int m_signs, Value.ref a_block, Value.ref a_tape, Value.int m_bits, Value.int m_faultAt, Value.int m_isDone, Value.int m_n, Value.ref a_map, Value.ref a_places, Value.int m_symbols, Value.ref a_symbol, Value.int m_groups, Value.int m_tables, Value.ref a_lengths, Value.ref a_taken, Value.ref a_codes, Value.ref a_list, Value.ref a_weights, Value.ref a_whole, Value.int m_lays, Value.int m_laid, Value.ref a_row, Value.int m_read', Value.int m_wrong', Value.int m_readMany, Value.ref a_readMap, Value.int m_readTables, Value.int m_readGroups, Value.ref a_readTaken, Value.ref a_readLengths, Value.ref a_readCodes, Value.int m_found, Value.ref a_foundBlock], ia cZ a_tape 1500 m_tape, ia cI a_readLengths 774 m_readLengths, ia cI a_readCodes 774 m_readCodes] A) args s 0 0 A = Q
  have hl : lv_has ls 7 [(0, .ref a_self), (1, .int x1)] := hl
  have hW : WS D A s [ob a_self 9 [Value.int m_signs, Value.ref a_block, Value.ref a_tape, Value.int m_bits, Value.int m_faultAt, Value.int m_isDone, Value.int m_n, Value.ref a_map, Value.ref a_places, Value.int m_symbols, Value.ref a_symbol, Value.int m_groups, Value.int m_tables, Value.ref a_lengths, Value.ref a_taken, Value.ref a_codes, Value.ref a_list, Value.ref a_weights, Value.ref a_whole, Value.int m_lays, Value.int m_laid, Value.ref a_row, Value.int m_read, Value.int m_wrong, Value.int m_readMany, Value.ref a_readMap, Value.int m_readTables, Value.int m_readGroups, Value.ref a_readTaken, Value.ref a_readLengths, Value.ref a_readCodes, Value.int m_found, Value.ref a_foundBlock], ia cZ a_tape 1500 m_tape, ia cI a_readLengths 774 m_readLengths, ia cI a_readCodes 774 m_readCodes] s.heap [] := ⟨hP, hD, hS⟩
  clear hP hD hS
  unfold fMo_readSymbol at hF
  have hw0 := hts (Cond.fieldLink RX9 164 "MoveFrontsModel" "wrong" "I") (by decide +kernel)
  have hw1 := hts (Cond.fieldLink RX9 60 "MoveFrontsModel" "readCodes" "[I") (by decide +kernel)
  have hw2 := hts (Cond.fieldLink RX9 170 "MoveFrontsModel" "readMany" "I") (by decide +kernel)
  have hw3 := hts (Cond.fieldLink RX9 57 "MoveFrontsModel" "readLengths" "[I") (by decide +kernel)
  have hi9 : ∀ w ∈ u_ws RX9 TX9 33, w ∈ wsX9_readSymbol := by decide +kernel
  refine lv_iconst (v := 0) hx hb dX9_readSymbol_0 (by decide) ?_
  refine lv_istore_n (lv' := [(2, .int (0 : Int32)), (0, .ref a_self), (1, .int x1)]) hx hb dX9_readSymbol_1 rfl hl (by decide) rfl (fun ls hl => ?_)
  refine lv_iconst (v := 1) hx hb dX9_readSymbol_2 (by decide) ?_
  refine lv_istore_n (lv' := [(3, .int (1 : Int32)), (2, .int (0 : Int32)), (0, .ref a_self), (1, .int x1)]) hx hb dX9_readSymbol_3 rfl hl (by decide) rfl (fun ls hl => ?_)
  obtain ⟨q4, hI, hq4⟩ := bs_some hF
  obtain ⟨nn, hI⟩ := itrO_some hI
  have hX4 : ∀ (m_read_4z : Int32) (m_wrong_4z : Int32), (.inl (m_read_4z, m_wrong_4z)) = q4 → ∀ (H : Heap) (locs : List Loc), WS D A s [ob a_self 9 [Value.int m_signs, Value.ref a_block, Value.ref a_tape, Value.int m_bits, Value.int m_faultAt, Value.int m_isDone, Value.int m_n, Value.ref a_map, Value.ref a_places, Value.int m_symbols, Value.ref a_symbol, Value.int m_groups, Value.int m_tables, Value.ref a_lengths, Value.ref a_taken, Value.ref a_codes, Value.ref a_list, Value.ref a_weights, Value.ref a_whole, Value.int m_lays, Value.int m_laid, Value.ref a_row, Value.int m_read_4z, Value.int m_wrong_4z, Value.int m_readMany, Value.ref a_readMap, Value.int m_readTables, Value.int m_readGroups, Value.ref a_readTaken, Value.ref a_readLengths, Value.ref a_readCodes, Value.int m_found, Value.ref a_foundBlock], ia cZ a_tape 1500 m_tape, ia cI a_readLengths 774 m_readLengths, ia cI a_readCodes 774 m_readCodes] H locs → ∀ ls : Array Slot, lv_has ls 7 [] → W p l e (headSpec wsX9_readSymbol rmMo_readSymbol).room s m args below meth c H locs 0 0 Q (F0 m 154 ls []) := by
    intro m_read_4z m_wrong_4z he H locs hW ls hl
    subst he
    have hF := bs_inl hq4
    rw [un2_eq] at hF
    refine lv_iconst (v := (-1)) hx hb dX9_readSymbol_154 (by decide) ?_
    cases hF
    subst hQ
    exact ct_iret hx hb hr hlocks hW.1 hW.2.2 dX9_readSymbol_155
  have hL4 : ∀ (n4 : Nat) (x2_4 : Int32) (x3_4 : Int32) (m_read_4 : Int32) (m_wrong_4 : Int32), itr (un4 (fMo_readSymbol_L4 m_bits m_readMany m_tape m_readLengths m_readCodes x1)) n4 (x2_4, x3_4, m_read_4, m_wrong_4) = some q4 → ∀ (H : Heap) (locs : List Loc), WS D A s [ob a_self 9 [Value.int m_signs, Value.ref a_block, Value.ref a_tape, Value.int m_bits, Value.int m_faultAt, Value.int m_isDone, Value.int m_n, Value.ref a_map, Value.ref a_places, Value.int m_symbols, Value.ref a_symbol, Value.int m_groups, Value.int m_tables, Value.ref a_lengths, Value.ref a_taken, Value.ref a_codes, Value.ref a_list, Value.ref a_weights, Value.ref a_whole, Value.int m_lays, Value.int m_laid, Value.ref a_row, Value.int m_read_4, Value.int m_wrong_4, Value.int m_readMany, Value.ref a_readMap, Value.int m_readTables, Value.int m_readGroups, Value.ref a_readTaken, Value.ref a_readLengths, Value.ref a_readCodes, Value.int m_found, Value.ref a_foundBlock], ia cZ a_tape 1500 m_tape, ia cI a_readLengths 774 m_readLengths, ia cI a_readCodes 774 m_readCodes] H locs → ∀ ls : Array Slot, lv_has ls 7 [(0, .ref a_self), (1, .int x1), (2, .int x2_4), (3, .int x3_4)] → W p l e (headSpec wsX9_readSymbol rmMo_readSymbol).room s m args below meth c H locs 0 0 Q (F0 m 4 ls []) := by
    intro n4
    induction n4 with
    | zero => intro x2_4 x3_4 m_read_4 m_wrong_4 hI; cases hI
    | succ n4 ih4 =>
      intro x2_4 x3_4 m_read_4 m_wrong_4 hI H locs hW ls hl
      obtain ⟨sr4, hF, hN4⟩ := itr_succ hI
      have hF : fMo_readSymbol_L4 m_bits m_readMany m_tape m_readLengths m_readCodes x1 x2_4 x3_4 m_read_4 m_wrong_4 = some sr4 := hF
      unfold fMo_readSymbol_L4 at hF
      refine lv_aload_n hx hb dX9_readSymbol_4 rfl (lv_at hl 0 rfl) ?_
      refine va_get (D := D) (ci := 9) (v := .int m_wrong_4) (C := RX9) (T := TX9) (N := 33) hx hb hts hi9 hown hK.1 hW.1 0 rfl rfl 23 (by decide) hw0 (fun _ h9 => h9) rfl dX9_readSymbol_5 ?_
      refine lv_if_ne (tgt := 154) hx hb dX9_readSymbol_8 (by decide) (fun c8 => ?_) (fun c8 => ?_)
      · rw [if_neg c8] at hF
        cases hF
        exact hX4 _ _ (itr_out hN4) _ _ hW _ (lv_sub hl [] rfl)
      · rw [if_pos c8] at hF
        refine lv_iconst (v := 2) hx hb dX9_readSymbol_11 (by decide) ?_
        refine lv_iload_n hx hb dX9_readSymbol_12 rfl (lv_at hl 2 rfl) ?_
        refine lv_imul hx hb dX9_readSymbol_13 ?_
        refine lv_aload_n hx hb dX9_readSymbol_14 rfl (lv_at hl 0 rfl) ?_
        refine lv_iconst (v := 1) hx hb dX9_readSymbol_15 (by decide) ?_
        obtain ⟨r_16, m_read_16, m_wrong_16, e16, hF⟩ := bd3_some hF
        refine ctV (wn := [ob a_self 9 [Value.int m_signs, Value.ref a_block, Value.ref a_tape, Value.int m_bits, Value.int m_faultAt, Value.int m_isDone, Value.int m_n, Value.ref a_map, Value.ref a_places, Value.int m_symbols, Value.ref a_symbol, Value.int m_groups, Value.int m_tables, Value.ref a_lengths, Value.ref a_taken, Value.ref a_codes, Value.ref a_list, Value.ref a_weights, Value.ref a_whole, Value.int m_lays, Value.int m_laid, Value.ref a_row, Value.int m_read_16, Value.int m_wrong_16, Value.int m_readMany, Value.ref a_readMap, Value.int m_readTables, Value.int m_readGroups, Value.ref a_readTaken, Value.ref a_readLengths, Value.ref a_readCodes, Value.int m_found, Value.ref a_foundBlock], ia cZ a_tape 1500 m_tape, ia cI a_readLengths 774 m_readLengths, ia cI a_readCodes 774 m_readCodes]) (r := (RX9, TX9, 33)) (As := [.int (1 : Int32)]) (rest := [.int ((2 : Int32) * x2_4)]) hx hb hml hown hts hK hW hA hl.1 (kMo_take l D cI cZ cO cG a_self a_block a_tape a_map a_places a_symbol a_lengths a_taken a_codes a_list a_weights a_whole a_row a_readMap a_readTaken a_readLengths a_readCodes a_foundBlock m_signs m_bits m_faultAt m_isDone m_n m_symbols m_groups m_tables m_lays m_laid m_read_4 m_wrong_4 m_readMany m_readTables m_readGroups m_found m_tape (1 : Int32) e16) (cwV 1 hts gX9_readSymbol_X9_take rfl rfl rfl (by decide +kernel) ⟨Nat.le_of_ble_eq_true rfl, Nat.le_of_ble_eq_true rfl⟩) 9 0 rfl rfl [0, 1] [2, 3] 4 rfl rfl rfl rfl [ia cI a_readLengths 774 m_readLengths, ia cI a_readCodes 774 m_readCodes] rfl rfl rfl rfl rfl (Nat.le_of_ble_eq_true rfl) rfl ⟨Nat.zero_le _, Nat.zero_le _⟩ dX9_readSymbol_16 (fun H locs hW => ?_)
        refine lv_iadd hx hb dX9_readSymbol_19 ?_
        refine lv_istore_n (lv' := [(2, .int (((2 : Int32) * x2_4) + r_16)), (0, .ref a_self), (1, .int x1), (3, .int x3_4)]) hx hb dX9_readSymbol_20 rfl hl (by decide) rfl (fun ls hl => ?_)
        refine lv_iconst (v := 0) hx hb dX9_readSymbol_21 (by decide) ?_
        refine lv_istore (lv' := [(4, .int (0 : Int32)), (2, .int (((2 : Int32) * x2_4) + r_16)), (0, .ref a_self), (1, .int x1), (3, .int x3_4)]) hx hb dX9_readSymbol_22 hl (by decide) rfl (fun ls hl => ?_)
        refine lv_iconst (v := 0) hx hb dX9_readSymbol_24 (by decide) ?_
        refine lv_istore (lv' := [(5, .int (0 : Int32)), (4, .int (0 : Int32)), (2, .int (((2 : Int32) * x2_4) + r_16)), (0, .ref a_self), (1, .int x1), (3, .int x3_4)]) hx hb dX9_readSymbol_25 hl (by decide) rfl (fun ls hl => ?_)
        obtain ⟨q27, hI, hq27⟩ := bs_some hF
        obtain ⟨nn, hI⟩ := itrO_some hI
        have hX27 : ∀ (x4_27z : Int32), (.inl x4_27z) = q27 → ∀ (H : Heap) (locs : List Loc), WS D A s [ob a_self 9 [Value.int m_signs, Value.ref a_block, Value.ref a_tape, Value.int m_bits, Value.int m_faultAt, Value.int m_isDone, Value.int m_n, Value.ref a_map, Value.ref a_places, Value.int m_symbols, Value.ref a_symbol, Value.int m_groups, Value.int m_tables, Value.ref a_lengths, Value.ref a_taken, Value.ref a_codes, Value.ref a_list, Value.ref a_weights, Value.ref a_whole, Value.int m_lays, Value.int m_laid, Value.ref a_row, Value.int m_read_16, Value.int m_wrong_16, Value.int m_readMany, Value.ref a_readMap, Value.int m_readTables, Value.int m_readGroups, Value.ref a_readTaken, Value.ref a_readLengths, Value.ref a_readCodes, Value.int m_found, Value.ref a_foundBlock], ia cZ a_tape 1500 m_tape, ia cI a_readLengths 774 m_readLengths, ia cI a_readCodes 774 m_readCodes] H locs → ∀ ls : Array Slot, lv_has ls 7 [(0, .ref a_self), (1, .int x1), (2, .int (((2 : Int32) * x2_4) + r_16)), (3, .int x3_4), (4, .int x4_27z)] → W p l e (headSpec wsX9_readSymbol rmMo_readSymbol).room s m args below meth c H locs 0 0 Q (F0 m 132 ls []) := by
          intro x4_27z he H locs hW ls hl
          subst he
          have hF := bs_inl hq27
          refine lv_aload_n hx hb dX9_readSymbol_132 rfl (lv_at hl 0 rfl) ?_
          refine lv_iload hx hb dX9_readSymbol_133 (lv_at hl 4 rfl) ?_
          refine lv_if_ne (tgt := 142) hx hb dX9_readSymbol_135 (by decide) (fun c135 => ?_) (fun c135 => ?_)
          · rw [if_neg c135] at hF
            refine lv_iconst (v := 0) hx hb dX9_readSymbol_142 (by decide) ?_
            refine lv_bipush (v := 7) hx hb dX9_readSymbol_143 (by decide) ?_
            obtain ⟨m_wrong_145, e145, hF⟩ := bd1_some hF
            refine ctV (wn := [ob a_self 9 [Value.int m_signs, Value.ref a_block, Value.ref a_tape, Value.int m_bits, Value.int m_faultAt, Value.int m_isDone, Value.int m_n, Value.ref a_map, Value.ref a_places, Value.int m_symbols, Value.ref a_symbol, Value.int m_groups, Value.int m_tables, Value.ref a_lengths, Value.ref a_taken, Value.ref a_codes, Value.ref a_list, Value.ref a_weights, Value.ref a_whole, Value.int m_lays, Value.int m_laid, Value.ref a_row, Value.int m_read_16, Value.int m_wrong_145, Value.int m_readMany, Value.ref a_readMap, Value.int m_readTables, Value.int m_readGroups, Value.ref a_readTaken, Value.ref a_readLengths, Value.ref a_readCodes, Value.int m_found, Value.ref a_foundBlock], ia cZ a_tape 1500 m_tape, ia cI a_readLengths 774 m_readLengths, ia cI a_readCodes 774 m_readCodes]) (r := (RX9, TX9, 33)) (As := [.int (0 : Int32), .int (7 : Int32)]) (rest := []) hx hb hml hown hts hK hW hA hl.1 (kMo_fails l D cI cZ cO cG a_self a_block a_tape a_map a_places a_symbol a_lengths a_taken a_codes a_list a_weights a_whole a_row a_readMap a_readTaken a_readLengths a_readCodes a_foundBlock m_signs m_bits m_faultAt m_isDone m_n m_symbols m_groups m_tables m_lays m_laid m_read_16 m_wrong_16 m_readMany m_readTables m_readGroups m_found (0 : Int32) (7 : Int32) e145) (cwV 2 hts gX9_readSymbol_X9_fails rfl rfl rfl (by decide +kernel) ⟨Nat.le_of_ble_eq_true rfl, Nat.le_of_ble_eq_true rfl⟩) 9 0 rfl rfl [0] [1, 2, 3] 4 rfl rfl rfl rfl [ia cZ a_tape 1500 m_tape, ia cI a_readLengths 774 m_readLengths, ia cI a_readCodes 774 m_readCodes] rfl rfl rfl rfl rfl (Nat.le_of_ble_eq_true rfl) rfl ⟨Nat.zero_le _, Nat.zero_le _⟩ dX9_readSymbol_145 (fun H locs hW => ?_)
            refine lv_iinc (v := (x3_4 + 1)) (lv' := [(3, .int (x3_4 + 1)), (0, .ref a_self), (1, .int x1), (2, .int (((2 : Int32) * x2_4) + r_16)), (4, .int x4_27z)]) hx hb dX9_readSymbol_148 hl (k := 3) rfl rfl (by decide) rfl (fun ls hl => ?_)
            refine lv_goto (tgt := 4) hx hb dX9_readSymbol_151 (by decide) ?_
            cases hF
            exact ih4 _ _ _ _ (itr_in hN4) _ _ hW _ (lv_sub hl [1, 2, 3, 0] rfl)
          · rw [if_pos c135] at hF
            refine lv_iconst (v := 1) hx hb dX9_readSymbol_138 (by decide) ?_
            refine lv_goto (tgt := 143) hx hb dX9_readSymbol_139 (by decide) ?_
            refine lv_bipush (v := 7) hx hb dX9_readSymbol_143 (by decide) ?_
            obtain ⟨m_wrong_145, e145, hF⟩ := bd1_some hF
            refine ctV (wn := [ob a_self 9 [Value.int m_signs, Value.ref a_block, Value.ref a_tape, Value.int m_bits, Value.int m_faultAt, Value.int m_isDone, Value.int m_n, Value.ref a_map, Value.ref a_places, Value.int m_symbols, Value.ref a_symbol, Value.int m_groups, Value.int m_tables, Value.ref a_lengths, Value.ref a_taken, Value.ref a_codes, Value.ref a_list, Value.ref a_weights, Value.ref a_whole, Value.int m_lays, Value.int m_laid, Value.ref a_row, Value.int m_read_16, Value.int m_wrong_145, Value.int m_readMany, Value.ref a_readMap, Value.int m_readTables, Value.int m_readGroups, Value.ref a_readTaken, Value.ref a_readLengths, Value.ref a_readCodes, Value.int m_found, Value.ref a_foundBlock], ia cZ a_tape 1500 m_tape, ia cI a_readLengths 774 m_readLengths, ia cI a_readCodes 774 m_readCodes]) (r := (RX9, TX9, 33)) (As := [.int (1 : Int32), .int (7 : Int32)]) (rest := []) hx hb hml hown hts hK hW hA hl.1 (kMo_fails l D cI cZ cO cG a_self a_block a_tape a_map a_places a_symbol a_lengths a_taken a_codes a_list a_weights a_whole a_row a_readMap a_readTaken a_readLengths a_readCodes a_foundBlock m_signs m_bits m_faultAt m_isDone m_n m_symbols m_groups m_tables m_lays m_laid m_read_16 m_wrong_16 m_readMany m_readTables m_readGroups m_found (1 : Int32) (7 : Int32) e145) (cwV 2 hts gX9_readSymbol_X9_fails rfl rfl rfl (by decide +kernel) ⟨Nat.le_of_ble_eq_true rfl, Nat.le_of_ble_eq_true rfl⟩) 9 0 rfl rfl [0] [1, 2, 3] 4 rfl rfl rfl rfl [ia cZ a_tape 1500 m_tape, ia cI a_readLengths 774 m_readLengths, ia cI a_readCodes 774 m_readCodes] rfl rfl rfl rfl rfl (Nat.le_of_ble_eq_true rfl) rfl ⟨Nat.zero_le _, Nat.zero_le _⟩ dX9_readSymbol_145 (fun H locs hW => ?_)
            refine lv_iinc (v := (x3_4 + 1)) (lv' := [(3, .int (x3_4 + 1)), (0, .ref a_self), (1, .int x1), (2, .int (((2 : Int32) * x2_4) + r_16)), (4, .int x4_27z)]) hx hb dX9_readSymbol_148 hl (k := 3) rfl rfl (by decide) rfl (fun ls hl => ?_)
            refine lv_goto (tgt := 4) hx hb dX9_readSymbol_151 (by decide) ?_
            cases hF
            exact ih4 _ _ _ _ (itr_in hN4) _ _ hW _ (lv_sub hl [1, 2, 3, 0] rfl)
        have hL27 : ∀ (n27 : Nat) (x4_27 : Int32) (x5_27 : Int32), itr (un2 (fMo_readSymbol_L27 m_readMany m_readLengths m_readCodes x1 x2_4 x3_4 r_16 m_read_16 m_wrong_16)) n27 (x4_27, x5_27) = some q27 → ∀ (H : Heap) (locs : List Loc), WS D A s [ob a_self 9 [Value.int m_signs, Value.ref a_block, Value.ref a_tape, Value.int m_bits, Value.int m_faultAt, Value.int m_isDone, Value.int m_n, Value.ref a_map, Value.ref a_places, Value.int m_symbols, Value.ref a_symbol, Value.int m_groups, Value.int m_tables, Value.ref a_lengths, Value.ref a_taken, Value.ref a_codes, Value.ref a_list, Value.ref a_weights, Value.ref a_whole, Value.int m_lays, Value.int m_laid, Value.ref a_row, Value.int m_read_16, Value.int m_wrong_16, Value.int m_readMany, Value.ref a_readMap, Value.int m_readTables, Value.int m_readGroups, Value.ref a_readTaken, Value.ref a_readLengths, Value.ref a_readCodes, Value.int m_found, Value.ref a_foundBlock], ia cZ a_tape 1500 m_tape, ia cI a_readLengths 774 m_readLengths, ia cI a_readCodes 774 m_readCodes] H locs → ∀ ls : Array Slot, lv_has ls 7 [(0, .ref a_self), (1, .int x1), (2, .int (((2 : Int32) * x2_4) + r_16)), (3, .int x3_4), (4, .int x4_27), (5, .int x5_27)] → W p l e (headSpec wsX9_readSymbol rmMo_readSymbol).room s m args below meth c H locs 0 0 Q (F0 m 27 ls []) := by
          intro n27
          induction n27 with
          | zero => intro x4_27 x5_27 hI; cases hI
          | succ n27 ih27 =>
            intro x4_27 x5_27 hI H locs hW ls hl
            obtain ⟨sr27, hF, hN27⟩ := itr_succ hI
            have hF : fMo_readSymbol_L27 m_readMany m_readLengths m_readCodes x1 x2_4 x3_4 r_16 m_read_16 m_wrong_16 x4_27 x5_27 = some sr27 := hF
            unfold fMo_readSymbol_L27 at hF
            have hJ86 : ∀ (x4_86 : Int32) (x5_86 : Int32) (x6_86 : Int32), fMo_readSymbol_J86 m_readCodes x1 x2_4 x3_4 r_16 x4_86 x5_86 x6_86 = some sr27 → ∀ (H : Heap) (locs : List Loc), WS D A s [ob a_self 9 [Value.int m_signs, Value.ref a_block, Value.ref a_tape, Value.int m_bits, Value.int m_faultAt, Value.int m_isDone, Value.int m_n, Value.ref a_map, Value.ref a_places, Value.int m_symbols, Value.ref a_symbol, Value.int m_groups, Value.int m_tables, Value.ref a_lengths, Value.ref a_taken, Value.ref a_codes, Value.ref a_list, Value.ref a_weights, Value.ref a_whole, Value.int m_lays, Value.int m_laid, Value.ref a_row, Value.int m_read_16, Value.int m_wrong_16, Value.int m_readMany, Value.ref a_readMap, Value.int m_readTables, Value.int m_readGroups, Value.ref a_readTaken, Value.ref a_readLengths, Value.ref a_readCodes, Value.int m_found, Value.ref a_foundBlock], ia cZ a_tape 1500 m_tape, ia cI a_readLengths 774 m_readLengths, ia cI a_readCodes 774 m_readCodes] H locs → ∀ ls : Array Slot, lv_has ls 7 [(0, .ref a_self), (1, .int x1), (2, .int (((2 : Int32) * x2_4) + r_16)), (3, .int x3_4), (4, .int x4_86), (5, .int x5_86), (6, .int x6_86)] → W p l e (headSpec wsX9_readSymbol rmMo_readSymbol).room s m args below meth c H locs 0 0 Q (F0 m 86 ls []) := by
              intro x4_86 x5_86 x6_86 hF H locs hW ls hl
              unfold fMo_readSymbol_J86 at hF
              refine lv_iload hx hb dX9_readSymbol_86 (lv_at hl 4 rfl) ?_
              refine lv_if_ne (tgt := 119) hx hb dX9_readSymbol_88 (by decide) (fun c88 => ?_) (fun c88 => ?_)
              · rw [if_neg c88] at hF
                refine lv_iconst (v := 1) hx hb dX9_readSymbol_119 (by decide) ?_
                refine lv_goto (tgt := 124) hx hb dX9_readSymbol_120 (by decide) ?_
                refine lv_istore (lv' := [(4, .int (1 : Int32)), (0, .ref a_self), (1, .int x1), (2, .int (((2 : Int32) * x2_4) + r_16)), (3, .int x3_4), (5, .int x5_86), (6, .int x6_86)]) hx hb dX9_readSymbol_124 hl (by decide) rfl (fun ls hl => ?_)
                refine lv_iinc (v := (x5_86 + 1)) (lv' := [(5, .int (x5_86 + 1)), (4, .int (1 : Int32)), (0, .ref a_self), (1, .int x1), (2, .int (((2 : Int32) * x2_4) + r_16)), (3, .int x3_4), (6, .int x6_86)]) hx hb dX9_readSymbol_126 hl (k := 5) rfl rfl (by decide) rfl (fun ls hl => ?_)
                refine lv_goto (tgt := 27) hx hb dX9_readSymbol_129 (by decide) ?_
                cases hF
                exact ih27 _ _ (itr_in hN27) _ _ hW _ (lv_sub hl [2, 3, 4, 5, 1, 0] rfl)
              · rw [if_pos c88] at hF
                refine lv_iload hx hb dX9_readSymbol_91 (lv_at hl 6 rfl) ?_
                refine lv_iload_n hx hb dX9_readSymbol_93 rfl (lv_at hl 3 rfl) ?_
                refine lv_icmp_le (tgt := 123) hx hb dX9_readSymbol_94 (by decide) (fun c94 => ?_) (fun c94 => ?_)
                · rw [if_pos c94] at hF
                  refine lv_iconst (v := 0) hx hb dX9_readSymbol_123 (by decide) ?_
                  refine lv_istore (lv' := [(4, .int (0 : Int32)), (0, .ref a_self), (1, .int x1), (2, .int (((2 : Int32) * x2_4) + r_16)), (3, .int x3_4), (5, .int x5_86), (6, .int x6_86)]) hx hb dX9_readSymbol_124 hl (by decide) rfl (fun ls hl => ?_)
                  refine lv_iinc (v := (x5_86 + 1)) (lv' := [(5, .int (x5_86 + 1)), (4, .int (0 : Int32)), (0, .ref a_self), (1, .int x1), (2, .int (((2 : Int32) * x2_4) + r_16)), (3, .int x3_4), (6, .int x6_86)]) hx hb dX9_readSymbol_126 hl (k := 5) rfl rfl (by decide) rfl (fun ls hl => ?_)
                  refine lv_goto (tgt := 27) hx hb dX9_readSymbol_129 (by decide) ?_
                  cases hF
                  exact ih27 _ _ (itr_in hN27) _ _ hW _ (lv_sub hl [2, 3, 4, 5, 1, 0] rfl)
                · rw [if_neg c94] at hF
                  refine lv_aload_n hx hb dX9_readSymbol_97 rfl (lv_at hl 0 rfl) ?_
                  refine va_get (D := D) (ci := 9) (v := .ref a_readCodes) (C := RX9) (T := TX9) (N := 33) hx hb hts hi9 hown hK.1 hW.1 0 rfl rfl 30 (by decide) hw1 (fun _ h9 => h9) rfl dX9_readSymbol_98 ?_
                  refine lv_sipush (v := 258) hx hb dX9_readSymbol_101 (by decide) ?_
                  refine lv_iload_n hx hb dX9_readSymbol_104 rfl (lv_at hl 1 rfl) ?_
                  refine lv_imul hx hb dX9_readSymbol_105 ?_
                  refine lv_iload hx hb dX9_readSymbol_106 (lv_at hl 5 rfl) ?_
                  refine lv_iadd hx hb dX9_readSymbol_108 ?_
                  obtain ⟨g109, hF⟩ := gdI_some hF
                  refine va_iald hx hb hK.1 hW.1 3 0 rfl rfl g109 dX9_readSymbol_109 ?_
                  refine lv_iload hx hb dX9_readSymbol_110 (lv_at hl 6 rfl) ?_
                  refine lv_iload_n hx hb dX9_readSymbol_112 rfl (lv_at hl 3 rfl) ?_
                  refine lv_isub hx hb dX9_readSymbol_113 ?_
                  refine lv_ishr hx hb dX9_readSymbol_114 ?_
                  refine lv_iload_n hx hb dX9_readSymbol_115 rfl (lv_at hl 2 rfl) ?_
                  refine lv_icmp_ne (tgt := 123) hx hb dX9_readSymbol_116 (by decide) (fun c116 => ?_) (fun c116 => ?_)
                  · rw [if_neg c116] at hF
                    refine lv_iconst (v := 0) hx hb dX9_readSymbol_123 (by decide) ?_
                    refine lv_istore (lv' := [(4, .int (0 : Int32)), (0, .ref a_self), (1, .int x1), (2, .int (((2 : Int32) * x2_4) + r_16)), (3, .int x3_4), (5, .int x5_86), (6, .int x6_86)]) hx hb dX9_readSymbol_124 hl (by decide) rfl (fun ls hl => ?_)
                    refine lv_iinc (v := (x5_86 + 1)) (lv' := [(5, .int (x5_86 + 1)), (4, .int (0 : Int32)), (0, .ref a_self), (1, .int x1), (2, .int (((2 : Int32) * x2_4) + r_16)), (3, .int x3_4), (6, .int x6_86)]) hx hb dX9_readSymbol_126 hl (k := 5) rfl rfl (by decide) rfl (fun ls hl => ?_)
                    refine lv_goto (tgt := 27) hx hb dX9_readSymbol_129 (by decide) ?_
                    cases hF
                    exact ih27 _ _ (itr_in hN27) _ _ hW _ (lv_sub hl [2, 3, 4, 5, 1, 0] rfl)
                  · rw [if_pos c116] at hF
                    refine lv_iconst (v := 1) hx hb dX9_readSymbol_119 (by decide) ?_
                    refine lv_goto (tgt := 124) hx hb dX9_readSymbol_120 (by decide) ?_
                    refine lv_istore (lv' := [(4, .int (1 : Int32)), (0, .ref a_self), (1, .int x1), (2, .int (((2 : Int32) * x2_4) + r_16)), (3, .int x3_4), (5, .int x5_86), (6, .int x6_86)]) hx hb dX9_readSymbol_124 hl (by decide) rfl (fun ls hl => ?_)
                    refine lv_iinc (v := (x5_86 + 1)) (lv' := [(5, .int (x5_86 + 1)), (4, .int (1 : Int32)), (0, .ref a_self), (1, .int x1), (2, .int (((2 : Int32) * x2_4) + r_16)), (3, .int x3_4), (6, .int x6_86)]) hx hb dX9_readSymbol_126 hl (k := 5) rfl rfl (by decide) rfl (fun ls hl => ?_)
                    refine lv_goto (tgt := 27) hx hb dX9_readSymbol_129 (by decide) ?_
                    cases hF
                    exact ih27 _ _ (itr_in hN27) _ _ hW _ (lv_sub hl [2, 3, 4, 5, 1, 0] rfl)
            refine lv_iload hx hb dX9_readSymbol_27 (lv_at hl 5 rfl) ?_
            refine lv_aload_n hx hb dX9_readSymbol_29 rfl (lv_at hl 0 rfl) ?_
            refine va_get (D := D) (ci := 9) (v := .int m_readMany) (C := RX9) (T := TX9) (N := 33) hx hb hts hi9 hown hK.1 hW.1 0 rfl rfl 24 (by decide) hw2 (fun _ h9 => h9) rfl dX9_readSymbol_30 ?_
            refine lv_iconst (v := 2) hx hb dX9_readSymbol_33 (by decide) ?_
            refine lv_iadd hx hb dX9_readSymbol_34 ?_
            refine lv_icmp_ge (tgt := 132) hx hb dX9_readSymbol_35 (by decide) (fun c35 => ?_) (fun c35 => ?_)
            · rw [if_pos c35] at hF
              cases hF
              exact hX27 _ (itr_out hN27) _ _ hW _ (lv_sub hl [0, 1, 2, 3, 4] rfl)
            · rw [if_neg c35] at hF
              refine lv_aload_n hx hb dX9_readSymbol_38 rfl (lv_at hl 0 rfl) ?_
              refine va_get (D := D) (ci := 9) (v := .int m_wrong_16) (C := RX9) (T := TX9) (N := 33) hx hb hts hi9 hown hK.1 hW.1 0 rfl rfl 23 (by decide) hw0 (fun _ h9 => h9) rfl dX9_readSymbol_39 ?_
              refine lv_if_ne (tgt := 132) hx hb dX9_readSymbol_42 (by decide) (fun c42 => ?_) (fun c42 => ?_)
              · rw [if_neg c42] at hF
                cases hF
                exact hX27 _ (itr_out hN27) _ _ hW _ (lv_sub hl [0, 1, 2, 3, 4] rfl)
              · rw [if_pos c42] at hF
                refine lv_aload_n hx hb dX9_readSymbol_45 rfl (lv_at hl 0 rfl) ?_
                refine va_get (D := D) (ci := 9) (v := .ref a_readLengths) (C := RX9) (T := TX9) (N := 33) hx hb hts hi9 hown hK.1 hW.1 0 rfl rfl 29 (by decide) hw3 (fun _ h9 => h9) rfl dX9_readSymbol_46 ?_
                refine lv_sipush (v := 258) hx hb dX9_readSymbol_49 (by decide) ?_
                refine lv_iload_n hx hb dX9_readSymbol_52 rfl (lv_at hl 1 rfl) ?_
                refine lv_imul hx hb dX9_readSymbol_53 ?_
                refine lv_iload hx hb dX9_readSymbol_54 (lv_at hl 5 rfl) ?_
                refine lv_iadd hx hb dX9_readSymbol_56 ?_
                obtain ⟨g57, hF⟩ := gdI_some hF
                refine va_iald hx hb hK.1 hW.1 2 0 rfl rfl g57 dX9_readSymbol_57 ?_
                refine lv_istore (lv' := [(6, .int (m_readLengths (((258 : Int32) * x1) + x5_27).toNatClampNeg)), (0, .ref a_self), (1, .int x1), (2, .int (((2 : Int32) * x2_4) + r_16)), (3, .int x3_4), (4, .int x4_27), (5, .int x5_27)]) hx hb dX9_readSymbol_58 hl (by decide) rfl (fun ls hl => ?_)
                refine lv_iload hx hb dX9_readSymbol_60 (lv_at hl 0 rfl) ?_
                refine lv_iload_n hx hb dX9_readSymbol_62 rfl (lv_at hl 4 rfl) ?_
                refine lv_icmp_ne (tgt := 86) hx hb dX9_readSymbol_63 (by decide) (fun c63 => ?_) (fun c63 => ?_)
                · rw [if_neg c63] at hF
                  exact hJ86 _ _ _ hF _ _ hW _ (lv_sub hl [1, 2, 3, 4, 5, 6, 0] rfl)
                · rw [if_pos c63] at hF
                  refine lv_aload_n hx hb dX9_readSymbol_66 rfl (lv_at hl 1 rfl) ?_
                  refine va_get (D := D) (ci := 9) (v := .ref a_readCodes) (C := RX9) (T := TX9) (N := 33) hx hb hts hi9 hown hK.1 hW.1 0 rfl rfl 30 (by decide) hw1 (fun _ h9 => h9) rfl dX9_readSymbol_67 ?_
                  refine lv_sipush (v := 258) hx hb dX9_readSymbol_70 (by decide) ?_
                  refine lv_iload_n hx hb dX9_readSymbol_73 rfl (lv_at hl 2 rfl) ?_
                  refine lv_imul hx hb dX9_readSymbol_74 ?_
                  refine lv_iload hx hb dX9_readSymbol_75 (lv_at hl 6 rfl) ?_
                  refine lv_iadd hx hb dX9_readSymbol_77 ?_
                  obtain ⟨g78, hF⟩ := gdI_some hF
                  refine va_iald hx hb hK.1 hW.1 3 0 rfl rfl g78 dX9_readSymbol_78 ?_
                  refine lv_iload_n hx hb dX9_readSymbol_79 rfl (lv_at hl 3 rfl) ?_
                  refine lv_icmp_ne (tgt := 86) hx hb dX9_readSymbol_80 (by decide) (fun c80 => ?_) (fun c80 => ?_)
                  · rw [if_neg c80] at hF
                    exact hJ86 _ _ _ hF _ _ hW _ (lv_sub hl [1, 2, 3, 4, 5, 6, 0] rfl)
                  · rw [if_pos c80] at hF
                    refine lv_iload hx hb dX9_readSymbol_83 (lv_at hl 6 rfl) ?_
                    cases hF
                    have hq0 := itr_out hN27
                    subst hq0
                    have hF := bs_inr hq27
                    cases hF
                    have hq0 := itr_out hN4
                    subst hq0
                    have hF := bs_inr hq4
                    cases hF
                    subst hQ
                    exact ct_iret hx hb hr hlocks hW.1 hW.2.2 dX9_readSymbol_85
        exact hL27 nn _ _ hI _ _ hW _ (lv_sub hl [3, 4, 2, 5, 1, 0] rfl)
  exact hL4 nn _ _ _ _ hI _ _ hW _ (lv_sub hl [2, 3, 1, 0] rfl)
