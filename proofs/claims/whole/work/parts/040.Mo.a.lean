abbrev rmMo_within : Room := { frames := 0, cells := 0, slots := 0, locals := 0 }
set_option maxHeartbeats 4000000 in
set_option maxRecDepth 100000 in
theorem kMo_within (l : Launch) (D : va_G) (cI cZ cO cG : ClassId) (x0 : Int32) (x1 : Int32) (x2 : Int32) {rv : Int32} (hF : fMo_within x0 x1 x2 = some rv) : CT l yX9_within wsX9_within rmMo_within D (tysG cI cZ cO cG) [.int x0, .int x1, .int x2] [] (some (.int rv)) [] := by
  refine CT.of (cc := cX9_within) (maxL := 3) (ret := (some .boolean)) (by decide) rfl (Nat.le_of_ble_eq_true rfl) ?_
  intro p e s m below meth c A ls hx hb hr hml hts hown hlocks hK hA hP hD hS hl
  generalize hargs : ([.int x0, .int x1, .int x2] : List Value).toArray = args at hts ⊢
  generalize hQ : MQ below (ctQ D (some (.int rv)) [] A) args s 0 0 A = Q
  have hl : lv_has ls 3 [(0, .int x0), (1, .int x1), (2, .int x2)] := hl
  have hW : WS D A s [] s.heap [] := ⟨hP, hD, hS⟩
  clear hP hD hS
  unfold fMo_within at hF
  refine lv_iload_n hx hb dX9_within_0 rfl (lv_at hl 0 rfl) ?_
  refine lv_iload_n hx hb dX9_within_1 rfl (lv_at hl 1 rfl) ?_
  refine lv_icmp_lt (tgt := 14) hx hb dX9_within_2 (by decide) (fun c2 => ?_) (fun c2 => ?_)
  · rw [if_pos c2] at hF
    refine lv_iconst (v := 0) hx hb dX9_within_14 (by decide) ?_
    cases hF
    subst hQ
    exact ct_zret hx hb hr hlocks rfl hW.1 hW.2.2 dX9_within_15
  · rw [if_neg c2] at hF
    refine lv_iload_n hx hb dX9_within_5 rfl (lv_at hl 0 rfl) ?_
    refine lv_iload_n hx hb dX9_within_6 rfl (lv_at hl 2 rfl) ?_
    refine lv_icmp_gt (tgt := 14) hx hb dX9_within_7 (by decide) (fun c7 => ?_) (fun c7 => ?_)
    · rw [if_pos c7] at hF
      refine lv_iconst (v := 0) hx hb dX9_within_14 (by decide) ?_
      cases hF
      subst hQ
      exact ct_zret hx hb hr hlocks rfl hW.1 hW.2.2 dX9_within_15
    · rw [if_neg c7] at hF
      refine lv_iconst (v := 1) hx hb dX9_within_10 (by decide) ?_
      refine lv_goto (tgt := 15) hx hb dX9_within_11 (by decide) ?_
      cases hF
      subst hQ
      exact ct_zret hx hb hr hlocks rfl hW.1 hW.2.2 dX9_within_15
abbrev rmMo_sign : Room := { frames := 1, cells := 0, slots := 0, locals := 22 }
set_option maxHeartbeats 4000000 in
set_option maxRecDepth 100000 in
theorem kMo_sign (l : Launch) (D : va_G) (cI cZ cO cG : ClassId) (a_self : Nat) (a_block : Nat) (a_tape : Nat) (a_map : Nat) (a_places : Nat) (a_symbol : Nat) (a_lengths : Nat) (a_taken : Nat) (a_codes : Nat) (a_list : Nat) (a_weights : Nat) (a_whole : Nat) (a_row : Nat) (a_readMap : Nat) (a_readTaken : Nat) (a_readLengths : Nat) (a_readCodes : Nat) (a_foundBlock : Nat) (m_signs : Int32) (m_bits : Int32) (m_faultAt : Int32) (m_isDone : Int32) (m_n : Int32) (m_symbols : Int32) (m_groups : Int32) (m_tables : Int32) (m_lays : Int32) (m_laid : Int32) (m_read : Int32) (m_wrong : Int32) (m_readMany : Int32) (m_readTables : Int32) (m_readGroups : Int32) (m_found : Int32) (m_block : Nat → Int32) (x1 : Int32) {rv : Int32} {m_signs' : Int32} {m_isDone' : Int32} {m_block' : Nat → Int32} (hF : fMo_sign m_signs m_isDone m_block x1 = some (rv, m_signs', m_isDone', m_block')) : CT l yX9_sign wsX9_sign rmMo_sign D (tysG cI cZ cO cG) [.ref a_self, .int x1] [ob a_self 9 [Value.int m_signs, Value.ref a_block, Value.ref a_tape, Value.int m_bits, Value.int m_faultAt, Value.int m_isDone, Value.int m_n, Value.ref a_map, Value.ref a_places, Value.int m_symbols, Value.ref a_symbol, Value.int m_groups, Value.int m_tables, Value.ref a_lengths, Value.ref a_taken, Value.ref a_codes, Value.ref a_list, Value.ref a_weights, Value.ref a_whole, Value.int m_lays, Value.int m_laid, Value.ref a_row, Value.int m_read, Value.int m_wrong, Value.int m_readMany, Value.ref a_readMap, Value.int m_readTables, Value.int m_readGroups, Value.ref a_readTaken, Value.ref a_readLengths, Value.ref a_readCodes, Value.int m_found, Value.ref a_foundBlock], ia cI a_block 300 m_block] (some (.int rv)) [ob a_self 9 [Value.int m_signs', Value.ref a_block, Value.ref a_tape, Value.int m_bits, Value.int m_faultAt, Value.int m_isDone', Value.int m_n, Value.ref a_map, Value.ref a_places, Value.int m_symbols, Value.ref a_symbol, Value.int m_groups, Value.int m_tables, Value.ref a_lengths, Value.ref a_taken, Value.ref a_codes, Value.ref a_list, Value.ref a_weights, Value.ref a_whole, Value.int m_lays, Value.int m_laid, Value.ref a_row, Value.int m_read, Value.int m_wrong, Value.int m_readMany, Value.ref a_readMap, Value.int m_readTables, Value.int m_readGroups, Value.ref a_readTaken, Value.ref a_readLengths, Value.ref a_readCodes, Value.int m_found, Value.ref a_foundBlock], ia cI a_block 300 m_block'] := by
  refine CT.of (cc := cX9_sign) (maxL := 2) (ret := (some .int)) (by decide) rfl (Nat.le_of_ble_eq_true rfl) ?_
  intro p e s m below meth c A ls hx hb hr hml hts hown hlocks hK hA hP hD hS hl
  generalize hargs : ([.ref a_self, .int x1] : List Value).toArray = args at hts ⊢
  generalize hQ : MQ below (ctQ D (some (.int rv)) [ob a_self 9 [Value.int m_signs', Value.ref a_block, Value.ref a_tape, Value.int m_bits, Value.int m_faultAt, Value.int m_isDone', Value.int m_n, Value.ref a_map, Value.ref a_places, Value.int m_symbols, Value.ref a_symbol, Value.int m_groups, Value.int m_tables, Value.ref a_lengths, Value.ref a_taken, Value.ref a_codes, Value.ref a_list, Value.ref a_weights, Value.ref a_whole, Value.int m_lays, Value.int m_laid, Value.ref a_row, Value.int m_read, Value.int m_wrong, Value.int m_readMany, Value.ref a_readMap, Value.int m_readTables, Value.int m_readGroups, Value.ref a_readTaken, Value.ref a_readLengths, Value.ref a_readCodes, Value.int m_found, Value.ref a_foundBlock], ia cI a_block 300 m_block'] A) args s 0 0 A = Q
  have hl : lv_has ls 2 [(0, .ref a_self), (1, .int x1)] := hl
  have hW : WS D A s [ob a_self 9 [Value.int m_signs, Value.ref a_block, Value.ref a_tape, Value.int m_bits, Value.int m_faultAt, Value.int m_isDone, Value.int m_n, Value.ref a_map, Value.ref a_places, Value.int m_symbols, Value.ref a_symbol, Value.int m_groups, Value.int m_tables, Value.ref a_lengths, Value.ref a_taken, Value.ref a_codes, Value.ref a_list, Value.ref a_weights, Value.ref a_whole, Value.int m_lays, Value.int m_laid, Value.ref a_row, Value.int m_read, Value.int m_wrong, Value.int m_readMany, Value.ref a_readMap, Value.int m_readTables, Value.int m_readGroups, Value.ref a_readTaken, Value.ref a_readLengths, Value.ref a_readCodes, Value.int m_found, Value.ref a_foundBlock], ia cI a_block 300 m_block] s.heap [] := ⟨hP, hD, hS⟩
  clear hP hD hS
  unfold fMo_sign at hF
  have hw0 := hts (Cond.fieldLink RX9 70 "MoveFrontsModel" "signs" "I") (by decide +kernel)
  have hw1 := hts (Cond.fieldLink RX9 7 "MoveFrontsModel" "block" "[I") (by decide +kernel)
  have hw2 := hts (Cond.fieldLink RX9 73 "MoveFrontsModel" "isDone" "Z") (by decide +kernel)
  have hi9 : ∀ w ∈ u_ws RX9 TX9 33, w ∈ wsX9_sign := by decide +kernel
  refine lv_iload_n hx hb dX9_sign_0 rfl (lv_at hl 1 rfl) ?_
  refine lv_iconst (v := 0) hx hb dX9_sign_1 (by decide) ?_
  refine lv_sipush (v := 255) hx hb dX9_sign_2 (by decide) ?_
  obtain ⟨r_5, e5, hF⟩ := bd1_some hF
  refine ctS (wn := [ob a_self 9 [Value.int m_signs, Value.ref a_block, Value.ref a_tape, Value.int m_bits, Value.int m_faultAt, Value.int m_isDone, Value.int m_n, Value.ref a_map, Value.ref a_places, Value.int m_symbols, Value.ref a_symbol, Value.int m_groups, Value.int m_tables, Value.ref a_lengths, Value.ref a_taken, Value.ref a_codes, Value.ref a_list, Value.ref a_weights, Value.ref a_whole, Value.int m_lays, Value.int m_laid, Value.ref a_row, Value.int m_read, Value.int m_wrong, Value.int m_readMany, Value.ref a_readMap, Value.int m_readTables, Value.int m_readGroups, Value.ref a_readTaken, Value.ref a_readLengths, Value.ref a_readCodes, Value.int m_found, Value.ref a_foundBlock], ia cI a_block 300 m_block]) (As := [.int x1, .int (0 : Int32), .int (255 : Int32)]) (rest := []) hx hb hml hown hts hK hW hA hl.1 (kMo_within l D cI cZ cO cG x1 (0 : Int32) (255 : Int32) e5) (va_cwS 3 hts gX9_sign_X9_within rfl rfl rfl (by decide +kernel) ⟨Nat.le_of_ble_eq_true rfl, Nat.le_of_ble_eq_true rfl⟩) [] [0, 1] 2 rfl rfl rfl rfl [ob a_self 9 [Value.int m_signs, Value.ref a_block, Value.ref a_tape, Value.int m_bits, Value.int m_faultAt, Value.int m_isDone, Value.int m_n, Value.ref a_map, Value.ref a_places, Value.int m_symbols, Value.ref a_symbol, Value.int m_groups, Value.int m_tables, Value.ref a_lengths, Value.ref a_taken, Value.ref a_codes, Value.ref a_list, Value.ref a_weights, Value.ref a_whole, Value.int m_lays, Value.int m_laid, Value.ref a_row, Value.int m_read, Value.int m_wrong, Value.int m_readMany, Value.ref a_readMap, Value.int m_readTables, Value.int m_readGroups, Value.ref a_readTaken, Value.ref a_readLengths, Value.ref a_readCodes, Value.int m_found, Value.ref a_foundBlock], ia cI a_block 300 m_block] rfl rfl rfl rfl rfl (Nat.le_of_ble_eq_true rfl) rfl ⟨Nat.zero_le _, Nat.zero_le _⟩ dX9_sign_5 (fun H locs hW => ?_)
  refine lv_if_ne (tgt := 14) hx hb dX9_sign_8 (by decide) (fun c8 => ?_) (fun c8 => ?_)
  · rw [if_neg c8] at hF
    refine lv_aload_n hx hb dX9_sign_14 rfl (lv_at hl 0 rfl) ?_
    refine va_get (D := D) (ci := 9) (v := .int m_signs) (C := RX9) (T := TX9) (N := 33) hx hb hts hi9 hown hK.1 hW.1 0 rfl rfl 0 (by decide) hw0 (fun _ h9 => h9) rfl dX9_sign_15 ?_
    refine lv_sipush (v := 300) hx hb dX9_sign_18 (by decide) ?_
    refine lv_icmp_ne (tgt := 27) hx hb dX9_sign_21 (by decide) (fun c21 => ?_) (fun c21 => ?_)
    · rw [if_neg c21] at hF
      refine lv_aload_n hx hb dX9_sign_27 rfl (lv_at hl 0 rfl) ?_
      refine va_get (D := D) (ci := 9) (v := .ref a_block) (C := RX9) (T := TX9) (N := 33) hx hb hts hi9 hown hK.1 hW.1 0 rfl rfl 1 (by decide) hw1 (fun _ h9 => h9) rfl dX9_sign_28 ?_
      refine lv_aload_n hx hb dX9_sign_31 rfl (lv_at hl 0 rfl) ?_
      refine va_get (D := D) (ci := 9) (v := .int m_signs) (C := RX9) (T := TX9) (N := 33) hx hb hts hi9 hown hK.1 hW.1 0 rfl rfl 0 (by decide) hw0 (fun _ h9 => h9) rfl dX9_sign_32 ?_
      refine lv_iload_n hx hb dX9_sign_35 rfl (lv_at hl 1 rfl) ?_
      obtain ⟨g36, hF⟩ := gdI_some hF
      refine va_iast hx hb hK.1 hW.1 hW.2.1 hW.2.2 1 0 rfl rfl g36 dX9_sign_36 (fun H locs hP hD hS => ?_)
      have hW : WS D A s [ob a_self 9 [Value.int m_signs, Value.ref a_block, Value.ref a_tape, Value.int m_bits, Value.int m_faultAt, Value.int m_isDone, Value.int m_n, Value.ref a_map, Value.ref a_places, Value.int m_symbols, Value.ref a_symbol, Value.int m_groups, Value.int m_tables, Value.ref a_lengths, Value.ref a_taken, Value.ref a_codes, Value.ref a_list, Value.ref a_weights, Value.ref a_whole, Value.int m_lays, Value.int m_laid, Value.ref a_row, Value.int m_read, Value.int m_wrong, Value.int m_readMany, Value.ref a_readMap, Value.int m_readTables, Value.int m_readGroups, Value.ref a_readTaken, Value.ref a_readLengths, Value.ref a_readCodes, Value.int m_found, Value.ref a_foundBlock], ia cI a_block 300 (upd m_block m_signs.toNatClampNeg x1)] H locs := ⟨hP, hD, hS⟩
      refine lv_aload_n hx hb dX9_sign_37 rfl (lv_at hl 0 rfl) ?_
      refine lv_dup hx hb dX9_sign_38 rfl ?_
      refine va_get (D := D) (ci := 9) (v := .int m_signs) (C := RX9) (T := TX9) (N := 33) hx hb hts hi9 hown hK.1 hW.1 0 rfl rfl 0 (by decide) hw0 (fun _ h9 => h9) rfl dX9_sign_39 ?_
      refine lv_iconst (v := 1) hx hb dX9_sign_42 (by decide) ?_
      refine lv_iadd hx hb dX9_sign_43 ?_
      refine va_put (D := D) (ci := 9) (v := .int (m_signs + (1 : Int32))) (ty := .int) (C := RX9) (T := TX9) (N := 33) hx hb hts hi9 tyX9 tyX9_ok nmX9 hown hK.1 hW.1 hW.2.1 hW.2.2 0 rfl rfl 0 (by decide) hw0 (fun _ h9 => h9) rfl (by decide +kernel) rfl rfl (Nat.le_of_ble_eq_true rfl) dX9_sign_44 (fun H locs hP hD hS => ?_)
      have hW : WS D A s [ob a_self 9 [Value.int (m_signs + (1 : Int32)), Value.ref a_block, Value.ref a_tape, Value.int m_bits, Value.int m_faultAt, Value.int m_isDone, Value.int m_n, Value.ref a_map, Value.ref a_places, Value.int m_symbols, Value.ref a_symbol, Value.int m_groups, Value.int m_tables, Value.ref a_lengths, Value.ref a_taken, Value.ref a_codes, Value.ref a_list, Value.ref a_weights, Value.ref a_whole, Value.int m_lays, Value.int m_laid, Value.ref a_row, Value.int m_read, Value.int m_wrong, Value.int m_readMany, Value.ref a_readMap, Value.int m_readTables, Value.int m_readGroups, Value.ref a_readTaken, Value.ref a_readLengths, Value.ref a_readCodes, Value.int m_found, Value.ref a_foundBlock], ia cI a_block 300 (upd m_block m_signs.toNatClampNeg x1)] H locs := ⟨hP, hD, hS⟩
      refine lv_aload_n hx hb dX9_sign_47 rfl (lv_at hl 0 rfl) ?_
      refine lv_iconst (v := 0) hx hb dX9_sign_48 (by decide) ?_
      refine va_put (D := D) (ci := 9) (v := .int (0 : Int32)) (ty := .boolean) (C := RX9) (T := TX9) (N := 33) hx hb hts hi9 tyX9 tyX9_ok nmX9 hown hK.1 hW.1 hW.2.1 hW.2.2 0 rfl rfl 5 (by decide) hw2 (fun _ h9 => h9) rfl (by decide +kernel) rfl rfl (Nat.le_of_ble_eq_true rfl) dX9_sign_49 (fun H locs hP hD hS => ?_)
      have hW : WS D A s [ob a_self 9 [Value.int (m_signs + (1 : Int32)), Value.ref a_block, Value.ref a_tape, Value.int m_bits, Value.int m_faultAt, Value.int (0 : Int32), Value.int m_n, Value.ref a_map, Value.ref a_places, Value.int m_symbols, Value.ref a_symbol, Value.int m_groups, Value.int m_tables, Value.ref a_lengths, Value.ref a_taken, Value.ref a_codes, Value.ref a_list, Value.ref a_weights, Value.ref a_whole, Value.int m_lays, Value.int m_laid, Value.ref a_row, Value.int m_read, Value.int m_wrong, Value.int m_readMany, Value.ref a_readMap, Value.int m_readTables, Value.int m_readGroups, Value.ref a_readTaken, Value.ref a_readLengths, Value.ref a_readCodes, Value.int m_found, Value.ref a_foundBlock], ia cI a_block 300 (upd m_block m_signs.toNatClampNeg x1)] H locs := ⟨hP, hD, hS⟩
      refine lv_aload_n hx hb dX9_sign_52 rfl (lv_at hl 0 rfl) ?_
      refine va_get (D := D) (ci := 9) (v := .int (m_signs + (1 : Int32))) (C := RX9) (T := TX9) (N := 33) hx hb hts hi9 hown hK.1 hW.1 0 rfl rfl 0 (by decide) hw0 (fun _ h9 => h9) rfl dX9_sign_53 ?_
      cases hF
      subst hQ
      exact ct_iret hx hb hr hlocks hW.1 hW.2.2 dX9_sign_56
    · rw [if_pos c21] at hF
      refine lv_bipush (v := (-4)) hx hb dX9_sign_24 (by decide) ?_
      cases hF
      subst hQ
      exact ct_iret hx hb hr hlocks hW.1 hW.2.2 dX9_sign_26
  · rw [if_pos c8] at hF
    refine lv_bipush (v := (-2)) hx hb dX9_sign_11 (by decide) ?_
    cases hF
    subst hQ
    exact ct_iret hx hb hr hlocks hW.1 hW.2.2 dX9_sign_13
abbrev rmMo_empty : Room := { frames := 0, cells := 0, slots := 0, locals := 0 }
set_option maxHeartbeats 4000000 in
set_option maxRecDepth 100000 in
theorem kMo_empty (l : Launch) (D : va_G) (cI cZ cO cG : ClassId) (a_self : Nat) (a_block : Nat) (a_tape : Nat) (a_map : Nat) (a_places : Nat) (a_symbol : Nat) (a_lengths : Nat) (a_taken : Nat) (a_codes : Nat) (a_list : Nat) (a_weights : Nat) (a_whole : Nat) (a_row : Nat) (a_readMap : Nat) (a_readTaken : Nat) (a_readLengths : Nat) (a_readCodes : Nat) (a_foundBlock : Nat) (m_signs : Int32) (m_bits : Int32) (m_faultAt : Int32) (m_isDone : Int32) (m_n : Int32) (m_symbols : Int32) (m_groups : Int32) (m_tables : Int32) (m_lays : Int32) (m_laid : Int32) (m_read : Int32) (m_wrong : Int32) (m_readMany : Int32) (m_readTables : Int32) (m_readGroups : Int32) (m_found : Int32) {rv : Int32} {m_signs' : Int32} {m_isDone' : Int32} (hF : fMo_empty m_signs = some (rv, m_signs', m_isDone')) : CT l yX9_empty wsX9_empty rmMo_empty D (tysG cI cZ cO cG) [.ref a_self] [ob a_self 9 [Value.int m_signs, Value.ref a_block, Value.ref a_tape, Value.int m_bits, Value.int m_faultAt, Value.int m_isDone, Value.int m_n, Value.ref a_map, Value.ref a_places, Value.int m_symbols, Value.ref a_symbol, Value.int m_groups, Value.int m_tables, Value.ref a_lengths, Value.ref a_taken, Value.ref a_codes, Value.ref a_list, Value.ref a_weights, Value.ref a_whole, Value.int m_lays, Value.int m_laid, Value.ref a_row, Value.int m_read, Value.int m_wrong, Value.int m_readMany, Value.ref a_readMap, Value.int m_readTables, Value.int m_readGroups, Value.ref a_readTaken, Value.ref a_readLengths, Value.ref a_readCodes, Value.int m_found, Value.ref a_foundBlock]] (some (.int rv)) [ob a_self 9 [Value.int m_signs', Value.ref a_block, Value.ref a_tape, Value.int m_bits, Value.int m_faultAt, Value.int m_isDone', Value.int m_n, Value.ref a_map, Value.ref a_places, Value.int m_symbols, Value.ref a_symbol, Value.int m_groups, Value.int m_tables, Value.ref a_lengths, Value.ref a_taken, Value.ref a_codes, Value.ref a_list, Value.ref a_weights, Value.ref a_whole, Value.int m_lays, Value.int m_laid, Value.ref a_row, Value.int m_read, Value.int m_wrong, Value.int m_readMany, Value.ref a_readMap, Value.int m_readTables, Value.int m_readGroups, Value.ref a_readTaken, Value.ref a_readLengths, Value.ref a_readCodes, Value.int m_found, Value.ref a_foundBlock]] := by
  refine CT.of (cc := cX9_empty) (maxL := 2) (ret := (some .int)) (by decide) rfl (Nat.le_of_ble_eq_true rfl) ?_
  intro p e s m below meth c A ls hx hb hr hml hts hown hlocks hK hA hP hD hS hl
  generalize hargs : ([.ref a_self] : List Value).toArray = args at hts ⊢
  generalize hQ : MQ below (ctQ D (some (.int rv)) [ob a_self 9 [Value.int m_signs', Value.ref a_block, Value.ref a_tape, Value.int m_bits, Value.int m_faultAt, Value.int m_isDone', Value.int m_n, Value.ref a_map, Value.ref a_places, Value.int m_symbols, Value.ref a_symbol, Value.int m_groups, Value.int m_tables, Value.ref a_lengths, Value.ref a_taken, Value.ref a_codes, Value.ref a_list, Value.ref a_weights, Value.ref a_whole, Value.int m_lays, Value.int m_laid, Value.ref a_row, Value.int m_read, Value.int m_wrong, Value.int m_readMany, Value.ref a_readMap, Value.int m_readTables, Value.int m_readGroups, Value.ref a_readTaken, Value.ref a_readLengths, Value.ref a_readCodes, Value.int m_found, Value.ref a_foundBlock]] A) args s 0 0 A = Q
  have hl : lv_has ls 2 [(0, .ref a_self)] := hl
  have hW : WS D A s [ob a_self 9 [Value.int m_signs, Value.ref a_block, Value.ref a_tape, Value.int m_bits, Value.int m_faultAt, Value.int m_isDone, Value.int m_n, Value.ref a_map, Value.ref a_places, Value.int m_symbols, Value.ref a_symbol, Value.int m_groups, Value.int m_tables, Value.ref a_lengths, Value.ref a_taken, Value.ref a_codes, Value.ref a_list, Value.ref a_weights, Value.ref a_whole, Value.int m_lays, Value.int m_laid, Value.ref a_row, Value.int m_read, Value.int m_wrong, Value.int m_readMany, Value.ref a_readMap, Value.int m_readTables, Value.int m_readGroups, Value.ref a_readTaken, Value.ref a_readLengths, Value.ref a_readCodes, Value.int m_found, Value.ref a_foundBlock]] s.heap [] := ⟨hP, hD, hS⟩
  clear hP hD hS
  unfold fMo_empty at hF
  have hw0 := hts (Cond.fieldLink RX9 70 "MoveFrontsModel" "signs" "I") (by decide +kernel)
  have hw1 := hts (Cond.fieldLink RX9 73 "MoveFrontsModel" "isDone" "Z") (by decide +kernel)
  have hi9 : ∀ w ∈ u_ws RX9 TX9 33, w ∈ wsX9_empty := by decide +kernel
  refine lv_aload_n hx hb dX9_empty_0 rfl (lv_at hl 0 rfl) ?_
  refine va_get (D := D) (ci := 9) (v := .int m_signs) (C := RX9) (T := TX9) (N := 33) hx hb hts hi9 hown hK.1 hW.1 0 rfl rfl 0 (by decide) hw0 (fun _ h9 => h9) rfl dX9_empty_1 ?_
  refine lv_istore_n (lv' := [(1, .int m_signs), (0, .ref a_self)]) hx hb dX9_empty_4 rfl hl (by decide) rfl (fun ls hl => ?_)
  refine lv_aload_n hx hb dX9_empty_5 rfl (lv_at hl 1 rfl) ?_
  refine lv_iconst (v := 0) hx hb dX9_empty_6 (by decide) ?_
  refine va_put (D := D) (ci := 9) (v := .int (0 : Int32)) (ty := .int) (C := RX9) (T := TX9) (N := 33) hx hb hts hi9 tyX9 tyX9_ok nmX9 hown hK.1 hW.1 hW.2.1 hW.2.2 0 rfl rfl 0 (by decide) hw0 (fun _ h9 => h9) rfl (by decide +kernel) rfl rfl (Nat.le_of_ble_eq_true rfl) dX9_empty_7 (fun H locs hP hD hS => ?_)
  have hW : WS D A s [ob a_self 9 [Value.int (0 : Int32), Value.ref a_block, Value.ref a_tape, Value.int m_bits, Value.int m_faultAt, Value.int m_isDone, Value.int m_n, Value.ref a_map, Value.ref a_places, Value.int m_symbols, Value.ref a_symbol, Value.int m_groups, Value.int m_tables, Value.ref a_lengths, Value.ref a_taken, Value.ref a_codes, Value.ref a_list, Value.ref a_weights, Value.ref a_whole, Value.int m_lays, Value.int m_laid, Value.ref a_row, Value.int m_read, Value.int m_wrong, Value.int m_readMany, Value.ref a_readMap, Value.int m_readTables, Value.int m_readGroups, Value.ref a_readTaken, Value.ref a_readLengths, Value.ref a_readCodes, Value.int m_found, Value.ref a_foundBlock]] H locs := ⟨hP, hD, hS⟩
  refine lv_aload_n hx hb dX9_empty_10 rfl (lv_at hl 1 rfl) ?_
  refine lv_iconst (v := 0) hx hb dX9_empty_11 (by decide) ?_
  refine va_put (D := D) (ci := 9) (v := .int (0 : Int32)) (ty := .boolean) (C := RX9) (T := TX9) (N := 33) hx hb hts hi9 tyX9 tyX9_ok nmX9 hown hK.1 hW.1 hW.2.1 hW.2.2 0 rfl rfl 5 (by decide) hw1 (fun _ h9 => h9) rfl (by decide +kernel) rfl rfl (Nat.le_of_ble_eq_true rfl) dX9_empty_12 (fun H locs hP hD hS => ?_)
  have hW : WS D A s [ob a_self 9 [Value.int (0 : Int32), Value.ref a_block, Value.ref a_tape, Value.int m_bits, Value.int m_faultAt, Value.int (0 : Int32), Value.int m_n, Value.ref a_map, Value.ref a_places, Value.int m_symbols, Value.ref a_symbol, Value.int m_groups, Value.int m_tables, Value.ref a_lengths, Value.ref a_taken, Value.ref a_codes, Value.ref a_list, Value.ref a_weights, Value.ref a_whole, Value.int m_lays, Value.int m_laid, Value.ref a_row, Value.int m_read, Value.int m_wrong, Value.int m_readMany, Value.ref a_readMap, Value.int m_readTables, Value.int m_readGroups, Value.ref a_readTaken, Value.ref a_readLengths, Value.ref a_readCodes, Value.int m_found, Value.ref a_foundBlock]] H locs := ⟨hP, hD, hS⟩
  refine lv_iload_n hx hb dX9_empty_15 rfl (lv_at hl 0 rfl) ?_
  cases hF
  subst hQ
  exact ct_iret hx hb hr hlocks hW.1 hW.2.2 dX9_empty_16
abbrev rmMo_often : Room := { frames := 0, cells := 0, slots := 0, locals := 0 }
set_option maxHeartbeats 4000000 in
set_option maxRecDepth 100000 in
theorem kMo_often (l : Launch) (D : va_G) (cI cZ cO cG : ClassId) (a_self : Nat) (a_block : Nat) (a_tape : Nat) (a_map : Nat) (a_places : Nat) (a_symbol : Nat) (a_lengths : Nat) (a_taken : Nat) (a_codes : Nat) (a_list : Nat) (a_weights : Nat) (a_whole : Nat) (a_row : Nat) (a_readMap : Nat) (a_readTaken : Nat) (a_readLengths : Nat) (a_readCodes : Nat) (a_foundBlock : Nat) (m_signs : Int32) (m_bits : Int32) (m_faultAt : Int32) (m_isDone : Int32) (m_n : Int32) (m_symbols : Int32) (m_groups : Int32) (m_tables : Int32) (m_lays : Int32) (m_laid : Int32) (m_read : Int32) (m_wrong : Int32) (m_readMany : Int32) (m_readTables : Int32) (m_readGroups : Int32) (m_found : Int32) (m_symbol : Nat → Int32) (x1 : Int32) {rv : Int32} (hF : fMo_often m_symbols m_symbol x1 = some rv) : CT l yX9_often wsX9_often rmMo_often D (tysG cI cZ cO cG) [.ref a_self, .int x1] [ob a_self 9 [Value.int m_signs, Value.ref a_block, Value.ref a_tape, Value.int m_bits, Value.int m_faultAt, Value.int m_isDone, Value.int m_n, Value.ref a_map, Value.ref a_places, Value.int m_symbols, Value.ref a_symbol, Value.int m_groups, Value.int m_tables, Value.ref a_lengths, Value.ref a_taken, Value.ref a_codes, Value.ref a_list, Value.ref a_weights, Value.ref a_whole, Value.int m_lays, Value.int m_laid, Value.ref a_row, Value.int m_read, Value.int m_wrong, Value.int m_readMany, Value.ref a_readMap, Value.int m_readTables, Value.int m_readGroups, Value.ref a_readTaken, Value.ref a_readLengths, Value.ref a_readCodes, Value.int m_found, Value.ref a_foundBlock], ia cI a_symbol 301 m_symbol] (some (.int rv)) [ob a_self 9 [Value.int m_signs, Value.ref a_block, Value.ref a_tape, Value.int m_bits, Value.int m_faultAt, Value.int m_isDone, Value.int m_n, Value.ref a_map, Value.ref a_places, Value.int m_symbols, Value.ref a_symbol, Value.int m_groups, Value.int m_tables, Value.ref a_lengths, Value.ref a_taken, Value.ref a_codes, Value.ref a_list, Value.ref a_weights, Value.ref a_whole, Value.int m_lays, Value.int m_laid, Value.ref a_row, Value.int m_read, Value.int m_wrong, Value.int m_readMany, Value.ref a_readMap, Value.int m_readTables, Value.int m_readGroups, Value.ref a_readTaken, Value.ref a_readLengths, Value.ref a_readCodes, Value.int m_found, Value.ref a_foundBlock], ia cI a_symbol 301 m_symbol] := by
  refine CT.of (cc := cX9_often) (maxL := 4) (ret := (some .int)) (by decide) rfl (Nat.le_of_ble_eq_true rfl) ?_
  intro p e s m below meth c A ls hx hb hr hml hts hown hlocks hK hA hP hD hS hl
  generalize hargs : ([.ref a_self, .int x1] : List Value).toArray = args at hts ⊢
  generalize hQ : MQ below (ctQ D (some (.int rv)) [ob a_self 9 [Value.int m_signs, Value.ref a_block, Value.ref a_tape, Value.int m_bits, Value.int m_faultAt, Value.int m_isDone, Value.int m_n, Value.ref a_map, Value.ref a_places, Value.int m_symbols, Value.ref a_symbol, Value.int m_groups, Value.int m_tables, Value.ref a_lengths, Value.ref a_taken, Value.ref a_codes, Value.ref a_list, Value.ref a_weights, Value.ref a_whole, Value.int m_lays, Value.int m_laid, Value.ref a_row, Value.int m_read, Value.int m_wrong, Value.int m_readMany, Value.ref a_readMap, Value.int m_readTables, Value.int m_readGroups, Value.ref a_readTaken, Value.ref a_readLengths, Value.ref a_readCodes, Value.int m_found, Value.ref a_foundBlock], ia cI a_symbol 301 m_symbol] A) args s 0 0 A = Q
  have hl : lv_has ls 4 [(0, .ref a_self), (1, .int x1)] := hl
  have hW : WS D A s [ob a_self 9 [Value.int m_signs, Value.ref a_block, Value.ref a_tape, Value.int m_bits, Value.int m_faultAt, Value.int m_isDone, Value.int m_n, Value.ref a_map, Value.ref a_places, Value.int m_symbols, Value.ref a_symbol, Value.int m_groups, Value.int m_tables, Value.ref a_lengths, Value.ref a_taken, Value.ref a_codes, Value.ref a_list, Value.ref a_weights, Value.ref a_whole, Value.int m_lays, Value.int m_laid, Value.ref a_row, Value.int m_read, Value.int m_wrong, Value.int m_readMany, Value.ref a_readMap, Value.int m_readTables, Value.int m_readGroups, Value.ref a_readTaken, Value.ref a_readLengths, Value.ref a_readCodes, Value.int m_found, Value.ref a_foundBlock], ia cI a_symbol 301 m_symbol] s.heap [] := ⟨hP, hD, hS⟩
  clear hP hD hS
  unfold fMo_often at hF
  have hw0 := hts (Cond.fieldLink RX9 86 "MoveFrontsModel" "symbols" "I") (by decide +kernel)
  have hw1 := hts (Cond.fieldLink RX9 27 "MoveFrontsModel" "symbol" "[I") (by decide +kernel)
  have hi9 : ∀ w ∈ u_ws RX9 TX9 33, w ∈ wsX9_often := by decide +kernel
  refine lv_iconst (v := 0) hx hb dX9_often_0 (by decide) ?_
  refine lv_istore_n (lv' := [(2, .int (0 : Int32)), (0, .ref a_self), (1, .int x1)]) hx hb dX9_often_1 rfl hl (by decide) rfl (fun ls hl => ?_)
  refine lv_iconst (v := 0) hx hb dX9_often_2 (by decide) ?_
  refine lv_istore_n (lv' := [(3, .int (0 : Int32)), (2, .int (0 : Int32)), (0, .ref a_self), (1, .int x1)]) hx hb dX9_often_3 rfl hl (by decide) rfl (fun ls hl => ?_)
  obtain ⟨x2_4ze, hI, hF⟩ := bd1_some hF
  obtain ⟨nn, hI⟩ := itrO_some hI
  have hX4 : ∀ (x2_4z : Int32), x2_4z = x2_4ze → ∀ (H : Heap) (locs : List Loc), WS D A s [ob a_self 9 [Value.int m_signs, Value.ref a_block, Value.ref a_tape, Value.int m_bits, Value.int m_faultAt, Value.int m_isDone, Value.int m_n, Value.ref a_map, Value.ref a_places, Value.int m_symbols, Value.ref a_symbol, Value.int m_groups, Value.int m_tables, Value.ref a_lengths, Value.ref a_taken, Value.ref a_codes, Value.ref a_list, Value.ref a_weights, Value.ref a_whole, Value.int m_lays, Value.int m_laid, Value.ref a_row, Value.int m_read, Value.int m_wrong, Value.int m_readMany, Value.ref a_readMap, Value.int m_readTables, Value.int m_readGroups, Value.ref a_readTaken, Value.ref a_readLengths, Value.ref a_readCodes, Value.int m_found, Value.ref a_foundBlock], ia cI a_symbol 301 m_symbol] H locs → ∀ ls : Array Slot, lv_has ls 4 [(2, .int x2_4z)] → W p l e (headSpec wsX9_often rmMo_often).room s m args below meth c H locs 0 0 Q (F0 m 36 ls []) := by
    intro x2_4z he H locs hW ls hl
    subst he
    refine lv_iload_n hx hb dX9_often_36 rfl (lv_at hl 0 rfl) ?_
    cases hF
    subst hQ
    exact ct_iret hx hb hr hlocks hW.1 hW.2.2 dX9_often_37
  have hL4 : ∀ (n4 : Nat) (x2_4 : Int32) (x3_4 : Int32), itr (un2 (fMo_often_L4 m_symbols m_symbol x1)) n4 (x2_4, x3_4) = some x2_4ze → ∀ (H : Heap) (locs : List Loc), WS D A s [ob a_self 9 [Value.int m_signs, Value.ref a_block, Value.ref a_tape, Value.int m_bits, Value.int m_faultAt, Value.int m_isDone, Value.int m_n, Value.ref a_map, Value.ref a_places, Value.int m_symbols, Value.ref a_symbol, Value.int m_groups, Value.int m_tables, Value.ref a_lengths, Value.ref a_taken, Value.ref a_codes, Value.ref a_list, Value.ref a_weights, Value.ref a_whole, Value.int m_lays, Value.int m_laid, Value.ref a_row, Value.int m_read, Value.int m_wrong, Value.int m_readMany, Value.ref a_readMap, Value.int m_readTables, Value.int m_readGroups, Value.ref a_readTaken, Value.ref a_readLengths, Value.ref a_readCodes, Value.int m_found, Value.ref a_foundBlock], ia cI a_symbol 301 m_symbol] H locs → ∀ ls : Array Slot, lv_has ls 4 [(0, .ref a_self), (1, .int x1), (2, .int x2_4), (3, .int x3_4)] → W p l e (headSpec wsX9_often rmMo_often).room s m args below meth c H locs 0 0 Q (F0 m 4 ls []) := by
    intro n4
    induction n4 with
    | zero => intro x2_4 x3_4 hI; cases hI
    | succ n4 ih4 =>
      intro x2_4 x3_4 hI H locs hW ls hl
      obtain ⟨sr4, hF, hN4⟩ := itr_succ hI
      have hF : fMo_often_L4 m_symbols m_symbol x1 x2_4 x3_4 = some sr4 := hF
      unfold fMo_often_L4 at hF
      refine lv_iload_n hx hb dX9_often_4 rfl (lv_at hl 3 rfl) ?_
      refine lv_aload_n hx hb dX9_often_5 rfl (lv_at hl 0 rfl) ?_
      refine va_get (D := D) (ci := 9) (v := .int m_symbols) (C := RX9) (T := TX9) (N := 33) hx hb hts hi9 hown hK.1 hW.1 0 rfl rfl 9 (by decide) hw0 (fun _ h9 => h9) rfl dX9_often_6 ?_
      refine lv_icmp_ge (tgt := 36) hx hb dX9_often_9 (by decide) (fun c9 => ?_) (fun c9 => ?_)
      · rw [if_pos c9] at hF
        cases hF
        exact hX4 _ (itr_out hN4) _ _ hW _ (lv_sub hl [2] rfl)
      · rw [if_neg c9] at hF
        refine lv_iload_n hx hb dX9_often_12 rfl (lv_at hl 2 rfl) ?_
        refine lv_aload_n hx hb dX9_often_13 rfl (lv_at hl 0 rfl) ?_
        refine va_get (D := D) (ci := 9) (v := .ref a_symbol) (C := RX9) (T := TX9) (N := 33) hx hb hts hi9 hown hK.1 hW.1 0 rfl rfl 10 (by decide) hw1 (fun _ h9 => h9) rfl dX9_often_14 ?_
        refine lv_iload_n hx hb dX9_often_17 rfl (lv_at hl 3 rfl) ?_
        obtain ⟨g18, hF⟩ := gdI_some hF
        refine va_iald hx hb hK.1 hW.1 1 0 rfl rfl g18 dX9_often_18 ?_
        refine lv_iload_n hx hb dX9_often_19 rfl (lv_at hl 1 rfl) ?_
        refine lv_icmp_ne (tgt := 27) hx hb dX9_often_20 (by decide) (fun c20 => ?_) (fun c20 => ?_)
        · rw [if_neg c20] at hF
          refine lv_iconst (v := 0) hx hb dX9_often_27 (by decide) ?_
          refine lv_iadd hx hb dX9_often_28 ?_
          refine lv_istore_n (lv' := [(2, .int (x2_4 + (0 : Int32))), (0, .ref a_self), (1, .int x1), (3, .int x3_4)]) hx hb dX9_often_29 rfl hl (by decide) rfl (fun ls hl => ?_)
          refine lv_iinc (v := (x3_4 + 1)) (lv' := [(3, .int (x3_4 + 1)), (2, .int (x2_4 + (0 : Int32))), (0, .ref a_self), (1, .int x1)]) hx hb dX9_often_30 hl (k := 3) rfl rfl (by decide) rfl (fun ls hl => ?_)
          refine lv_goto (tgt := 4) hx hb dX9_often_33 (by decide) ?_
          cases hF
          exact ih4 _ _ (itr_in hN4) _ _ hW _ (lv_sub hl [2, 3, 1, 0] rfl)
        · rw [if_pos c20] at hF
          refine lv_iconst (v := 1) hx hb dX9_often_23 (by decide) ?_
          refine lv_goto (tgt := 28) hx hb dX9_often_24 (by decide) ?_
          refine lv_iadd hx hb dX9_often_28 ?_
          refine lv_istore_n (lv' := [(2, .int (x2_4 + (1 : Int32))), (0, .ref a_self), (1, .int x1), (3, .int x3_4)]) hx hb dX9_often_29 rfl hl (by decide) rfl (fun ls hl => ?_)
          refine lv_iinc (v := (x3_4 + 1)) (lv' := [(3, .int (x3_4 + 1)), (2, .int (x2_4 + (1 : Int32))), (0, .ref a_self), (1, .int x1)]) hx hb dX9_often_30 hl (k := 3) rfl rfl (by decide) rfl (fun ls hl => ?_)
          refine lv_goto (tgt := 4) hx hb dX9_often_33 (by decide) ?_
          cases hF
          exact ih4 _ _ (itr_in hN4) _ _ hW _ (lv_sub hl [2, 3, 1, 0] rfl)
  exact hL4 nn _ _ hI _ _ hW _ (lv_sub hl [2, 3, 1, 0] rfl)
abbrev rmMo_begin : Room := { frames := 1, cells := 0, slots := 0, locals := 23 }
set_option maxHeartbeats 4000000 in
set_option maxRecDepth 100000 in
theorem kMo_begin (l : Launch) (D : va_G) (cI cZ cO cG : ClassId) (a_self : Nat) (a_block : Nat) (a_tape : Nat) (a_map : Nat) (a_places : Nat) (a_symbol : Nat) (a_lengths : Nat) (a_taken : Nat) (a_codes : Nat) (a_list : Nat) (a_weights : Nat) (a_whole : Nat) (a_row : Nat) (a_readMap : Nat) (a_readTaken : Nat) (a_readLengths : Nat) (a_readCodes : Nat) (a_foundBlock : Nat) (m_signs : Int32) (m_bits : Int32) (m_faultAt : Int32) (m_isDone : Int32) (m_n : Int32) (m_symbols : Int32) (m_groups : Int32) (m_tables : Int32) (m_lays : Int32) (m_laid : Int32) (m_read : Int32) (m_wrong : Int32) (m_readMany : Int32) (m_readTables : Int32) (m_readGroups : Int32) (m_found : Int32) (m_symbol : Nat → Int32) (m_lengths : Nat → Int32) {m_lengths' : Nat → Int32} (hF : fMo_begin m_n m_symbols m_tables m_symbol m_lengths = some m_lengths') : CT l yX9_begin wsX9_begin rmMo_begin D (tysG cI cZ cO cG) [.ref a_self] [ob a_self 9 [Value.int m_signs, Value.ref a_block, Value.ref a_tape, Value.int m_bits, Value.int m_faultAt, Value.int m_isDone, Value.int m_n, Value.ref a_map, Value.ref a_places, Value.int m_symbols, Value.ref a_symbol, Value.int m_groups, Value.int m_tables, Value.ref a_lengths, Value.ref a_taken, Value.ref a_codes, Value.ref a_list, Value.ref a_weights, Value.ref a_whole, Value.int m_lays, Value.int m_laid, Value.ref a_row, Value.int m_read, Value.int m_wrong, Value.int m_readMany, Value.ref a_readMap, Value.int m_readTables, Value.int m_readGroups, Value.ref a_readTaken, Value.ref a_readLengths, Value.ref a_readCodes, Value.int m_found, Value.ref a_foundBlock], ia cI a_symbol 301 m_symbol, ia cI a_lengths 3870 m_lengths] none [ob a_self 9 [Value.int m_signs, Value.ref a_block, Value.ref a_tape, Value.int m_bits, Value.int m_faultAt, Value.int m_isDone, Value.int m_n, Value.ref a_map, Value.ref a_places, Value.int m_symbols, Value.ref a_symbol, Value.int m_groups, Value.int m_tables, Value.ref a_lengths, Value.ref a_taken, Value.ref a_codes, Value.ref a_list, Value.ref a_weights, Value.ref a_whole, Value.int m_lays, Value.int m_laid, Value.ref a_row, Value.int m_read, Value.int m_wrong, Value.int m_readMany, Value.ref a_readMap, Value.int m_readTables, Value.int m_readGroups, Value.ref a_readTaken, Value.ref a_readLengths, Value.ref a_readCodes, Value.int m_found, Value.ref a_foundBlock], ia cI a_symbol 301 m_symbol, ia cI a_lengths 3870 m_lengths'] := by
  refine CT.of (cc := cX9_begin) (maxL := 8) (ret := none) (by decide) rfl (Nat.le_of_ble_eq_true rfl) ?_
  intro p e s m below meth c A ls hx hb hr hml hts hown hlocks hK hA hP hD hS hl
  generalize hargs : ([.ref a_self] : List Value).toArray = args at hts ⊢
  generalize hQ : MQ below (ctQ D none [ob a_self 9 [Value.int m_signs, Value.ref a_block, Value.ref a_tape, Value.int m_bits, Value.int m_faultAt, Value.int m_isDone, Value.int m_n, Value.ref a_map, Value.ref a_places, Value.int m_symbols, Value.ref a_symbol, Value.int m_groups, Value.int m_tables, Value.ref a_lengths, Value.ref a_taken, Value.ref a_codes, Value.ref a_list, Value.ref a_weights, Value.ref a_whole, Value.int m_lays, Value.int m_laid, Value.ref a_row, Value.int m_read, Value.int m_wrong, Value.int m_readMany, Value.ref a_readMap, Value.int m_readTables, Value.int m_readGroups, Value.ref a_readTaken, Value.ref a_readLengths, Value.ref a_readCodes, Value.int m_found, Value.ref a_foundBlock], ia cI a_symbol 301 m_symbol, ia cI a_lengths 3870 m_lengths'] A) args s 0 0 A = Q
  have hl : lv_has ls 8 [(0, .ref a_self)] := hl
  have hW : WS D A s [ob a_self 9 [Value.int m_signs, Value.ref a_block, Value.ref a_tape, Value.int m_bits, Value.int m_faultAt, Value.int m_isDone, Value.int m_n, Value.ref a_map, Value.ref a_places, Value.int m_symbols, Value.ref a_symbol, Value.int m_groups, Value.int m_tables, Value.ref a_lengths, Value.ref a_taken, Value.ref a_codes, Value.ref a_list, Value.ref a_weights, Value.ref a_whole, Value.int m_lays, Value.int m_laid, Value.ref a_row, Value.int m_read, Value.int m_wrong, Value.int m_readMany, Value.ref a_readMap, Value.int m_readTables, Value.int m_readGroups, Value.ref a_readTaken, Value.ref a_readLengths, Value.ref a_readCodes, Value.int m_found, Value.ref a_foundBlock], ia cI a_symbol 301 m_symbol, ia cI a_lengths 3870 m_lengths] s.heap [] := ⟨hP, hD, hS⟩
  clear hP hD hS
  unfold fMo_begin at hF
  have hw0 := hts (Cond.fieldLink RX9 86 "MoveFrontsModel" "symbols" "I") (by decide +kernel)
  have hw1 := hts (Cond.fieldLink RX9 92 "MoveFrontsModel" "tables" "I") (by decide +kernel)
  have hw2 := hts (Cond.fieldLink RX9 106 "MoveFrontsModel" "n" "I") (by decide +kernel)
  have hw3 := hts (Cond.fieldLink RX9 30 "MoveFrontsModel" "lengths" "[I") (by decide +kernel)
  have hi9 : ∀ w ∈ u_ws RX9 TX9 33, w ∈ wsX9_begin := by decide +kernel
  refine lv_iconst (v := 0) hx hb dX9_begin_0 (by decide) ?_
  refine lv_istore_n (lv' := [(1, .int (0 : Int32)), (0, .ref a_self)]) hx hb dX9_begin_1 rfl hl (by decide) rfl (fun ls hl => ?_)
  refine lv_aload_n hx hb dX9_begin_2 rfl (lv_at hl 1 rfl) ?_
  refine va_get (D := D) (ci := 9) (v := .int m_symbols) (C := RX9) (T := TX9) (N := 33) hx hb hts hi9 hown hK.1 hW.1 0 rfl rfl 9 (by decide) hw0 (fun _ h9 => h9) rfl dX9_begin_3 ?_
  refine lv_istore_n (lv' := [(2, .int m_symbols), (1, .int (0 : Int32)), (0, .ref a_self)]) hx hb dX9_begin_6 rfl hl (by decide) rfl (fun ls hl => ?_)
  refine lv_iconst (v := 0) hx hb dX9_begin_7 (by decide) ?_
  refine lv_istore_n (lv' := [(3, .int (0 : Int32)), (2, .int m_symbols), (1, .int (0 : Int32)), (0, .ref a_self)]) hx hb dX9_begin_8 rfl hl (by decide) rfl (fun ls hl => ?_)
  obtain ⟨m_lengths_9ze, hI, hF⟩ := bd1_some hF
  obtain ⟨nn, hI⟩ := itrO_some hI
  have hX9 : ∀ (m_lengths_9z : Nat → Int32), m_lengths_9z = m_lengths_9ze → ∀ (H : Heap) (locs : List Loc), WS D A s [ob a_self 9 [Value.int m_signs, Value.ref a_block, Value.ref a_tape, Value.int m_bits, Value.int m_faultAt, Value.int m_isDone, Value.int m_n, Value.ref a_map, Value.ref a_places, Value.int m_symbols, Value.ref a_symbol, Value.int m_groups, Value.int m_tables, Value.ref a_lengths, Value.ref a_taken, Value.ref a_codes, Value.ref a_list, Value.ref a_weights, Value.ref a_whole, Value.int m_lays, Value.int m_laid, Value.ref a_row, Value.int m_read, Value.int m_wrong, Value.int m_readMany, Value.ref a_readMap, Value.int m_readTables, Value.int m_readGroups, Value.ref a_readTaken, Value.ref a_readLengths, Value.ref a_readCodes, Value.int m_found, Value.ref a_foundBlock], ia cI a_symbol 301 m_symbol, ia cI a_lengths 3870 m_lengths_9z] H locs → ∀ ls : Array Slot, lv_has ls 8 [] → W p l e (headSpec wsX9_begin rmMo_begin).room s m args below meth c H locs 0 0 Q (F0 m 129 ls []) := by
    intro m_lengths_9z he H locs hW ls hl
    subst he
    cases hF
    subst hQ
    exact ct_vret hx hb hr hlocks hW.1 hW.2.2 dX9_begin_129
  have hL9 : ∀ (n9 : Nat) (x1_9 : Int32) (x2_9 : Int32) (x3_9 : Int32) (m_lengths_9 : Nat → Int32), itr (un4 (fMo_begin_L9 m_n m_symbols m_tables m_symbol)) n9 (x1_9, x2_9, x3_9, m_lengths_9) = some m_lengths_9ze → ∀ (H : Heap) (locs : List Loc), WS D A s [ob a_self 9 [Value.int m_signs, Value.ref a_block, Value.ref a_tape, Value.int m_bits, Value.int m_faultAt, Value.int m_isDone, Value.int m_n, Value.ref a_map, Value.ref a_places, Value.int m_symbols, Value.ref a_symbol, Value.int m_groups, Value.int m_tables, Value.ref a_lengths, Value.ref a_taken, Value.ref a_codes, Value.ref a_list, Value.ref a_weights, Value.ref a_whole, Value.int m_lays, Value.int m_laid, Value.ref a_row, Value.int m_read, Value.int m_wrong, Value.int m_readMany, Value.ref a_readMap, Value.int m_readTables, Value.int m_readGroups, Value.ref a_readTaken, Value.ref a_readLengths, Value.ref a_readCodes, Value.int m_found, Value.ref a_foundBlock], ia cI a_symbol 301 m_symbol, ia cI a_lengths 3870 m_lengths_9] H locs → ∀ ls : Array Slot, lv_has ls 8 [(0, .ref a_self), (1, .int x1_9), (2, .int x2_9), (3, .int x3_9)] → W p l e (headSpec wsX9_begin rmMo_begin).room s m args below meth c H locs 0 0 Q (F0 m 9 ls []) := by
    intro n9
    induction n9 with
    | zero => intro x1_9 x2_9 x3_9 m_lengths_9 hI; cases hI
    | succ n9 ih9 =>
      intro x1_9 x2_9 x3_9 m_lengths_9 hI H locs hW ls hl
      obtain ⟨sr9, hF, hN9⟩ := itr_succ hI
      have hF : fMo_begin_L9 m_n m_symbols m_tables m_symbol x1_9 x2_9 x3_9 m_lengths_9 = some sr9 := hF
      unfold fMo_begin_L9 at hF
      refine lv_iload_n hx hb dX9_begin_9 rfl (lv_at hl 3 rfl) ?_
      refine lv_aload_n hx hb dX9_begin_10 rfl (lv_at hl 0 rfl) ?_
      refine va_get (D := D) (ci := 9) (v := .int m_tables) (C := RX9) (T := TX9) (N := 33) hx hb hts hi9 hown hK.1 hW.1 0 rfl rfl 12 (by decide) hw1 (fun _ h9 => h9) rfl dX9_begin_11 ?_
      refine lv_icmp_ge (tgt := 129) hx hb dX9_begin_14 (by decide) (fun c14 => ?_) (fun c14 => ?_)
      · rw [if_pos c14] at hF
        cases hF
        exact hX9 _ (itr_out hN9) _ _ hW _ (lv_sub hl [] rfl)
      · rw [if_neg c14] at hF
        refine lv_iload_n hx hb dX9_begin_17 rfl (lv_at hl 2 rfl) ?_
        refine lv_aload_n hx hb dX9_begin_18 rfl (lv_at hl 0 rfl) ?_
        refine va_get (D := D) (ci := 9) (v := .int m_tables) (C := RX9) (T := TX9) (N := 33) hx hb hts hi9 hown hK.1 hW.1 0 rfl rfl 12 (by decide) hw1 (fun _ h9 => h9) rfl dX9_begin_19 ?_
        refine lv_iload_n hx hb dX9_begin_22 rfl (lv_at hl 3 rfl) ?_
        refine lv_isub hx hb dX9_begin_23 ?_
        obtain ⟨g24, hF⟩ := gdZ_some hF
        refine lv_idiv hx hb dX9_begin_24 g24 ?_
        refine lv_istore (lv' := [(4, .int (x2_9 / (m_tables - x3_9))), (0, .ref a_self), (1, .int x1_9), (2, .int x2_9), (3, .int x3_9)]) hx hb dX9_begin_25 hl (by decide) rfl (fun ls hl => ?_)
        refine lv_iload_n hx hb dX9_begin_27 rfl (lv_at hl 2 rfl) ?_
        refine lv_istore (lv' := [(5, .int x1_9), (4, .int (x2_9 / (m_tables - x3_9))), (0, .ref a_self), (1, .int x1_9), (2, .int x2_9), (3, .int x3_9)]) hx hb dX9_begin_28 hl (by decide) rfl (fun ls hl => ?_)
        refine lv_iconst (v := 0) hx hb dX9_begin_30 (by decide) ?_
        refine lv_istore (lv' := [(6, .int (0 : Int32)), (5, .int x1_9), (4, .int (x2_9 / (m_tables - x3_9))), (0, .ref a_self), (1, .int x1_9), (2, .int x2_9), (3, .int x3_9)]) hx hb dX9_begin_31 hl (by decide) rfl (fun ls hl => ?_)
        obtain ⟨x1_33ze, x6_33ze, hI, hF⟩ := bd2_some hF
        obtain ⟨nn, hI⟩ := itrO_some hI
        have hX33 : ∀ (x1_33z : Int32) (x6_33z : Int32), (x1_33z, x6_33z) = (x1_33ze, x6_33ze) → ∀ (H : Heap) (locs : List Loc), WS D A s [ob a_self 9 [Value.int m_signs, Value.ref a_block, Value.ref a_tape, Value.int m_bits, Value.int m_faultAt, Value.int m_isDone, Value.int m_n, Value.ref a_map, Value.ref a_places, Value.int m_symbols, Value.ref a_symbol, Value.int m_groups, Value.int m_tables, Value.ref a_lengths, Value.ref a_taken, Value.ref a_codes, Value.ref a_list, Value.ref a_weights, Value.ref a_whole, Value.int m_lays, Value.int m_laid, Value.ref a_row, Value.int m_read, Value.int m_wrong, Value.int m_readMany, Value.ref a_readMap, Value.int m_readTables, Value.int m_readGroups, Value.ref a_readTaken, Value.ref a_readLengths, Value.ref a_readCodes, Value.int m_found, Value.ref a_foundBlock], ia cI a_symbol 301 m_symbol, ia cI a_lengths 3870 m_lengths_9] H locs → ∀ ls : Array Slot, lv_has ls 8 [(0, .ref a_self), (1, .int x1_33z), (2, .int x2_9), (3, .int x3_9), (5, .int x1_9), (6, .int x6_33z)] → W p l e (headSpec wsX9_begin rmMo_begin).room s m args below meth c H locs 0 0 Q (F0 m 66 ls []) := by
          intro x1_33z x6_33z he H locs hW ls hl
          obtain ⟨hz0, hy0⟩ := Prod.mk.inj he
          subst hz0
          subst hy0
          refine lv_iload_n hx hb dX9_begin_66 rfl (lv_at hl 2 rfl) ?_
          refine lv_iload hx hb dX9_begin_67 (lv_at hl 5 rfl) ?_
          refine lv_isub hx hb dX9_begin_69 ?_
          refine lv_istore_n (lv' := [(2, .int (x2_9 - x6_33z)), (0, .ref a_self), (1, .int x1_33z), (3, .int x3_9), (5, .int x1_9), (6, .int x6_33z)]) hx hb dX9_begin_70 rfl hl (by decide) rfl (fun ls hl => ?_)
          refine lv_iconst (v := 0) hx hb dX9_begin_71 (by decide) ?_
          refine lv_istore (lv' := [(7, .int (0 : Int32)), (2, .int (x2_9 - x6_33z)), (0, .ref a_self), (1, .int x1_33z), (3, .int x3_9), (5, .int x1_9), (6, .int x6_33z)]) hx hb dX9_begin_72 hl (by decide) rfl (fun ls hl => ?_)
          obtain ⟨m_lengths_74ze, hI, hF⟩ := bd1_some hF
          obtain ⟨nn, hI⟩ := itrO_some hI
          have hX74 : ∀ (m_lengths_74z : Nat → Int32), m_lengths_74z = m_lengths_74ze → ∀ (H : Heap) (locs : List Loc), WS D A s [ob a_self 9 [Value.int m_signs, Value.ref a_block, Value.ref a_tape, Value.int m_bits, Value.int m_faultAt, Value.int m_isDone, Value.int m_n, Value.ref a_map, Value.ref a_places, Value.int m_symbols, Value.ref a_symbol, Value.int m_groups, Value.int m_tables, Value.ref a_lengths, Value.ref a_taken, Value.ref a_codes, Value.ref a_list, Value.ref a_weights, Value.ref a_whole, Value.int m_lays, Value.int m_laid, Value.ref a_row, Value.int m_read, Value.int m_wrong, Value.int m_readMany, Value.ref a_readMap, Value.int m_readTables, Value.int m_readGroups, Value.ref a_readTaken, Value.ref a_readLengths, Value.ref a_readCodes, Value.int m_found, Value.ref a_foundBlock], ia cI a_symbol 301 m_symbol, ia cI a_lengths 3870 m_lengths_74z] H locs → ∀ ls : Array Slot, lv_has ls 8 [(0, .ref a_self), (1, .int x1_33z), (2, .int (x2_9 - x6_33z)), (3, .int x3_9)] → W p l e (headSpec wsX9_begin rmMo_begin).room s m args below meth c H locs 0 0 Q (F0 m 123 ls []) := by
            intro m_lengths_74z he H locs hW ls hl
            subst he
            refine lv_iinc (v := (x3_9 + 1)) (lv' := [(3, .int (x3_9 + 1)), (0, .ref a_self), (1, .int x1_33z), (2, .int (x2_9 - x6_33z))]) hx hb dX9_begin_123 hl (k := 3) rfl rfl (by decide) rfl (fun ls hl => ?_)
            refine lv_goto (tgt := 9) hx hb dX9_begin_126 (by decide) ?_
            cases hF
            exact ih9 _ _ _ _ (itr_in hN9) _ _ hW _ (lv_sub hl [1, 2, 3, 0] rfl)
          have hL74 : ∀ (n74 : Nat) (x7_74 : Int32) (m_lengths_74 : Nat → Int32), itr (un2 (fMo_begin_L74 m_n x1_9 x3_9 x1_33z)) n74 (x7_74, m_lengths_74) = some m_lengths_74ze → ∀ (H : Heap) (locs : List Loc), WS D A s [ob a_self 9 [Value.int m_signs, Value.ref a_block, Value.ref a_tape, Value.int m_bits, Value.int m_faultAt, Value.int m_isDone, Value.int m_n, Value.ref a_map, Value.ref a_places, Value.int m_symbols, Value.ref a_symbol, Value.int m_groups, Value.int m_tables, Value.ref a_lengths, Value.ref a_taken, Value.ref a_codes, Value.ref a_list, Value.ref a_weights, Value.ref a_whole, Value.int m_lays, Value.int m_laid, Value.ref a_row, Value.int m_read, Value.int m_wrong, Value.int m_readMany, Value.ref a_readMap, Value.int m_readTables, Value.int m_readGroups, Value.ref a_readTaken, Value.ref a_readLengths, Value.ref a_readCodes, Value.int m_found, Value.ref a_foundBlock], ia cI a_symbol 301 m_symbol, ia cI a_lengths 3870 m_lengths_74] H locs → ∀ ls : Array Slot, lv_has ls 8 [(0, .ref a_self), (1, .int x1_33z), (2, .int (x2_9 - x6_33z)), (3, .int x3_9), (5, .int x1_9), (7, .int x7_74)] → W p l e (headSpec wsX9_begin rmMo_begin).room s m args below meth c H locs 0 0 Q (F0 m 74 ls []) := by
            intro n74
            induction n74 with
            | zero => intro x7_74 m_lengths_74 hI; cases hI
            | succ n74 ih74 =>
              intro x7_74 m_lengths_74 hI H locs hW ls hl
              obtain ⟨sr74, hF, hN74⟩ := itr_succ hI
              have hF : fMo_begin_L74 m_n x1_9 x3_9 x1_33z x7_74 m_lengths_74 = some sr74 := hF
              unfold fMo_begin_L74 at hF
              refine lv_iload hx hb dX9_begin_74 (lv_at hl 5 rfl) ?_
              refine lv_aload_n hx hb dX9_begin_76 rfl (lv_at hl 0 rfl) ?_
              refine va_get (D := D) (ci := 9) (v := .int m_n) (C := RX9) (T := TX9) (N := 33) hx hb hts hi9 hown hK.1 hW.1 0 rfl rfl 6 (by decide) hw2 (fun _ h9 => h9) rfl dX9_begin_77 ?_
              refine lv_iconst (v := 2) hx hb dX9_begin_80 (by decide) ?_
              refine lv_iadd hx hb dX9_begin_81 ?_
              refine lv_icmp_ge (tgt := 123) hx hb dX9_begin_82 (by decide) (fun c82 => ?_) (fun c82 => ?_)
              · rw [if_pos c82] at hF
                cases hF
                exact hX74 _ (itr_out hN74) _ _ hW _ (lv_sub hl [0, 1, 2, 3] rfl)
              · rw [if_neg c82] at hF
                refine lv_aload_n hx hb dX9_begin_85 rfl (lv_at hl 0 rfl) ?_
                refine va_get (D := D) (ci := 9) (v := .ref a_lengths) (C := RX9) (T := TX9) (N := 33) hx hb hts hi9 hown hK.1 hW.1 0 rfl rfl 13 (by decide) hw3 (fun _ h9 => h9) rfl dX9_begin_86 ?_
                refine lv_sipush (v := 258) hx hb dX9_begin_89 (by decide) ?_
                refine lv_iload_n hx hb dX9_begin_92 rfl (lv_at hl 3 rfl) ?_
                refine lv_imul hx hb dX9_begin_93 ?_
                refine lv_iload hx hb dX9_begin_94 (lv_at hl 5 rfl) ?_
                refine lv_iadd hx hb dX9_begin_96 ?_
                refine lv_iload hx hb dX9_begin_97 (lv_at hl 5 rfl) ?_
                refine lv_iload hx hb dX9_begin_99 (lv_at hl 4 rfl) ?_
                refine lv_iload_n hx hb dX9_begin_101 rfl (lv_at hl 1 rfl) ?_
                refine lv_iconst (v := 1) hx hb dX9_begin_102 (by decide) ?_
                refine lv_isub hx hb dX9_begin_103 ?_
                obtain ⟨r_104, e104, hF⟩ := bd1_some hF
                refine ctS (wn := [ob a_self 9 [Value.int m_signs, Value.ref a_block, Value.ref a_tape, Value.int m_bits, Value.int m_faultAt, Value.int m_isDone, Value.int m_n, Value.ref a_map, Value.ref a_places, Value.int m_symbols, Value.ref a_symbol, Value.int m_groups, Value.int m_tables, Value.ref a_lengths, Value.ref a_taken, Value.ref a_codes, Value.ref a_list, Value.ref a_weights, Value.ref a_whole, Value.int m_lays, Value.int m_laid, Value.ref a_row, Value.int m_read, Value.int m_wrong, Value.int m_readMany, Value.ref a_readMap, Value.int m_readTables, Value.int m_readGroups, Value.ref a_readTaken, Value.ref a_readLengths, Value.ref a_readCodes, Value.int m_found, Value.ref a_foundBlock], ia cI a_symbol 301 m_symbol, ia cI a_lengths 3870 m_lengths_74]) (As := [.int x7_74, .int x1_9, .int (x1_33z - (1 : Int32))]) (rest := [.int (((258 : Int32) * x3_9) + x7_74), .ref a_lengths]) hx hb hml hown hts hK hW hA hl.1 (kMo_within l D cI cZ cO cG x7_74 x1_9 (x1_33z - (1 : Int32)) e104) (va_cwS 3 hts gX9_begin_X9_within rfl rfl rfl (by decide +kernel) ⟨Nat.le_of_ble_eq_true rfl, Nat.le_of_ble_eq_true rfl⟩) [] [0, 1, 2] 3 rfl rfl rfl rfl [ob a_self 9 [Value.int m_signs, Value.ref a_block, Value.ref a_tape, Value.int m_bits, Value.int m_faultAt, Value.int m_isDone, Value.int m_n, Value.ref a_map, Value.ref a_places, Value.int m_symbols, Value.ref a_symbol, Value.int m_groups, Value.int m_tables, Value.ref a_lengths, Value.ref a_taken, Value.ref a_codes, Value.ref a_list, Value.ref a_weights, Value.ref a_whole, Value.int m_lays, Value.int m_laid, Value.ref a_row, Value.int m_read, Value.int m_wrong, Value.int m_readMany, Value.ref a_readMap, Value.int m_readTables, Value.int m_readGroups, Value.ref a_readTaken, Value.ref a_readLengths, Value.ref a_readCodes, Value.int m_found, Value.ref a_foundBlock], ia cI a_symbol 301 m_symbol, ia cI a_lengths 3870 m_lengths_74] rfl rfl rfl rfl rfl (Nat.le_of_ble_eq_true rfl) rfl ⟨Nat.zero_le _, Nat.zero_le _⟩ dX9_begin_104 (fun H locs hW => ?_)
                refine lv_if_eq (tgt := 114) hx hb dX9_begin_107 (by decide) (fun c107 => ?_) (fun c107 => ?_)
                · rw [if_pos c107] at hF
                  refine lv_bipush (v := 9) hx hb dX9_begin_114 (by decide) ?_
                  obtain ⟨g116, hF⟩ := gdI_some hF
                  refine va_iast hx hb hK.1 hW.1 hW.2.1 hW.2.2 2 0 rfl rfl g116 dX9_begin_116 (fun H locs hP hD hS => ?_)
                  have hW : WS D A s [ob a_self 9 [Value.int m_signs, Value.ref a_block, Value.ref a_tape, Value.int m_bits, Value.int m_faultAt, Value.int m_isDone, Value.int m_n, Value.ref a_map, Value.ref a_places, Value.int m_symbols, Value.ref a_symbol, Value.int m_groups, Value.int m_tables, Value.ref a_lengths, Value.ref a_taken, Value.ref a_codes, Value.ref a_list, Value.ref a_weights, Value.ref a_whole, Value.int m_lays, Value.int m_laid, Value.ref a_row, Value.int m_read, Value.int m_wrong, Value.int m_readMany, Value.ref a_readMap, Value.int m_readTables, Value.int m_readGroups, Value.ref a_readTaken, Value.ref a_readLengths, Value.ref a_readCodes, Value.int m_found, Value.ref a_foundBlock], ia cI a_symbol 301 m_symbol, ia cI a_lengths 3870 (upd m_lengths_74 (((258 : Int32) * x3_9) + x7_74).toNatClampNeg (9 : Int32))] H locs := ⟨hP, hD, hS⟩
                  refine lv_iinc (v := (x7_74 + 1)) (lv' := [(7, .int (x7_74 + 1)), (0, .ref a_self), (1, .int x1_33z), (2, .int (x2_9 - x6_33z)), (3, .int x3_9), (5, .int x1_9)]) hx hb dX9_begin_117 hl (k := 5) rfl rfl (by decide) rfl (fun ls hl => ?_)
                  refine lv_goto (tgt := 74) hx hb dX9_begin_120 (by decide) ?_
                  cases hF
                  exact ih74 _ _ (itr_in hN74) _ _ hW _ (lv_sub hl [1, 2, 3, 4, 5, 0] rfl)
                · rw [if_neg c107] at hF
                  refine lv_iconst (v := 1) hx hb dX9_begin_110 (by decide) ?_
                  refine lv_goto (tgt := 116) hx hb dX9_begin_111 (by decide) ?_
                  obtain ⟨g116, hF⟩ := gdI_some hF
                  refine va_iast hx hb hK.1 hW.1 hW.2.1 hW.2.2 2 0 rfl rfl g116 dX9_begin_116 (fun H locs hP hD hS => ?_)
                  have hW : WS D A s [ob a_self 9 [Value.int m_signs, Value.ref a_block, Value.ref a_tape, Value.int m_bits, Value.int m_faultAt, Value.int m_isDone, Value.int m_n, Value.ref a_map, Value.ref a_places, Value.int m_symbols, Value.ref a_symbol, Value.int m_groups, Value.int m_tables, Value.ref a_lengths, Value.ref a_taken, Value.ref a_codes, Value.ref a_list, Value.ref a_weights, Value.ref a_whole, Value.int m_lays, Value.int m_laid, Value.ref a_row, Value.int m_read, Value.int m_wrong, Value.int m_readMany, Value.ref a_readMap, Value.int m_readTables, Value.int m_readGroups, Value.ref a_readTaken, Value.ref a_readLengths, Value.ref a_readCodes, Value.int m_found, Value.ref a_foundBlock], ia cI a_symbol 301 m_symbol, ia cI a_lengths 3870 (upd m_lengths_74 (((258 : Int32) * x3_9) + x7_74).toNatClampNeg (1 : Int32))] H locs := ⟨hP, hD, hS⟩
                  refine lv_iinc (v := (x7_74 + 1)) (lv' := [(7, .int (x7_74 + 1)), (0, .ref a_self), (1, .int x1_33z), (2, .int (x2_9 - x6_33z)), (3, .int x3_9), (5, .int x1_9)]) hx hb dX9_begin_117 hl (k := 5) rfl rfl (by decide) rfl (fun ls hl => ?_)
                  refine lv_goto (tgt := 74) hx hb dX9_begin_120 (by decide) ?_
                  cases hF
                  exact ih74 _ _ (itr_in hN74) _ _ hW _ (lv_sub hl [1, 2, 3, 4, 5, 0] rfl)
          exact hL74 nn _ _ hI _ _ hW _ (lv_sub hl [2, 3, 1, 4, 5, 0] rfl)
        have hL33 : ∀ (n33 : Nat) (x1_33 : Int32) (x6_33 : Int32), itr (un2 (fMo_begin_L33 m_n m_symbols m_tables m_symbol x2_9 x3_9)) n33 (x1_33, x6_33) = some (x1_33ze, x6_33ze) → ∀ (H : Heap) (locs : List Loc), WS D A s [ob a_self 9 [Value.int m_signs, Value.ref a_block, Value.ref a_tape, Value.int m_bits, Value.int m_faultAt, Value.int m_isDone, Value.int m_n, Value.ref a_map, Value.ref a_places, Value.int m_symbols, Value.ref a_symbol, Value.int m_groups, Value.int m_tables, Value.ref a_lengths, Value.ref a_taken, Value.ref a_codes, Value.ref a_list, Value.ref a_weights, Value.ref a_whole, Value.int m_lays, Value.int m_laid, Value.ref a_row, Value.int m_read, Value.int m_wrong, Value.int m_readMany, Value.ref a_readMap, Value.int m_readTables, Value.int m_readGroups, Value.ref a_readTaken, Value.ref a_readLengths, Value.ref a_readCodes, Value.int m_found, Value.ref a_foundBlock], ia cI a_symbol 301 m_symbol, ia cI a_lengths 3870 m_lengths_9] H locs → ∀ ls : Array Slot, lv_has ls 8 [(0, .ref a_self), (1, .int x1_33), (2, .int x2_9), (3, .int x3_9), (4, .int (x2_9 / (m_tables - x3_9))), (5, .int x1_9), (6, .int x6_33)] → W p l e (headSpec wsX9_begin rmMo_begin).room s m args below meth c H locs 0 0 Q (F0 m 33 ls []) := by
          intro n33
          induction n33 with
          | zero => intro x1_33 x6_33 hI; cases hI
          | succ n33 ih33 =>
            intro x1_33 x6_33 hI H locs hW ls hl
            obtain ⟨sr33, hF, hN33⟩ := itr_succ hI
            have hF : fMo_begin_L33 m_n m_symbols m_tables m_symbol x2_9 x3_9 x1_33 x6_33 = some sr33 := hF
            unfold fMo_begin_L33 at hF
            refine lv_iload hx hb dX9_begin_33 (lv_at hl 6 rfl) ?_
            refine lv_iload hx hb dX9_begin_35 (lv_at hl 4 rfl) ?_
            refine lv_icmp_ge (tgt := 66) hx hb dX9_begin_37 (by decide) (fun c37 => ?_) (fun c37 => ?_)
            · rw [if_pos c37] at hF
              cases hF
              exact hX33 _ _ (itr_out hN33) _ _ hW _ (lv_sub hl [0, 1, 2, 3, 5, 6] rfl)
            · rw [if_neg c37] at hF
              refine lv_iload_n hx hb dX9_begin_40 rfl (lv_at hl 1 rfl) ?_
              refine lv_aload_n hx hb dX9_begin_41 rfl (lv_at hl 0 rfl) ?_
              refine va_get (D := D) (ci := 9) (v := .int m_n) (C := RX9) (T := TX9) (N := 33) hx hb hts hi9 hown hK.1 hW.1 0 rfl rfl 6 (by decide) hw2 (fun _ h9 => h9) rfl dX9_begin_42 ?_
              refine lv_iconst (v := 2) hx hb dX9_begin_45 (by decide) ?_
              refine lv_iadd hx hb dX9_begin_46 ?_
              refine lv_icmp_ge (tgt := 66) hx hb dX9_begin_47 (by decide) (fun c47 => ?_) (fun c47 => ?_)
              · rw [if_pos c47] at hF
                cases hF
                exact hX33 _ _ (itr_out hN33) _ _ hW _ (lv_sub hl [0, 1, 2, 3, 5, 6] rfl)
              · rw [if_neg c47] at hF
                refine lv_iload hx hb dX9_begin_50 (lv_at hl 6 rfl) ?_
                refine lv_aload_n hx hb dX9_begin_52 rfl (lv_at hl 0 rfl) ?_
                refine lv_iload_n hx hb dX9_begin_53 rfl (lv_at hl 1 rfl) ?_
                obtain ⟨r_54, e54, hF⟩ := bd1_some hF
                refine ctV (wn := [ob a_self 9 [Value.int m_signs, Value.ref a_block, Value.ref a_tape, Value.int m_bits, Value.int m_faultAt, Value.int m_isDone, Value.int m_n, Value.ref a_map, Value.ref a_places, Value.int m_symbols, Value.ref a_symbol, Value.int m_groups, Value.int m_tables, Value.ref a_lengths, Value.ref a_taken, Value.ref a_codes, Value.ref a_list, Value.ref a_weights, Value.ref a_whole, Value.int m_lays, Value.int m_laid, Value.ref a_row, Value.int m_read, Value.int m_wrong, Value.int m_readMany, Value.ref a_readMap, Value.int m_readTables, Value.int m_readGroups, Value.ref a_readTaken, Value.ref a_readLengths, Value.ref a_readCodes, Value.int m_found, Value.ref a_foundBlock], ia cI a_symbol 301 m_symbol, ia cI a_lengths 3870 m_lengths_9]) (r := (RX9, TX9, 33)) (As := [.int x1_33]) (rest := [.int x6_33]) hx hb hml hown hts hK hW hA hl.1 (kMo_often l D cI cZ cO cG a_self a_block a_tape a_map a_places a_symbol a_lengths a_taken a_codes a_list a_weights a_whole a_row a_readMap a_readTaken a_readLengths a_readCodes a_foundBlock m_signs m_bits m_faultAt m_isDone m_n m_symbols m_groups m_tables m_lays m_laid m_read m_wrong m_readMany m_readTables m_readGroups m_found m_symbol x1_33 e54) (cwV 1 hts gX9_begin_X9_often rfl rfl rfl (by decide +kernel) ⟨Nat.le_of_ble_eq_true rfl, Nat.le_of_ble_eq_true rfl⟩) 9 0 rfl rfl [0, 1] [2] 3 rfl rfl rfl rfl [ia cI a_lengths 3870 m_lengths_9] rfl rfl rfl rfl rfl (Nat.le_of_ble_eq_true rfl) rfl ⟨Nat.zero_le _, Nat.zero_le _⟩ dX9_begin_54 (fun H locs hW => ?_)
                refine lv_iadd hx hb dX9_begin_57 ?_
                refine lv_istore (lv' := [(6, .int (x6_33 + r_54)), (0, .ref a_self), (1, .int x1_33), (2, .int x2_9), (3, .int x3_9), (4, .int (x2_9 / (m_tables - x3_9))), (5, .int x1_9)]) hx hb dX9_begin_58 hl (by decide) rfl (fun ls hl => ?_)
                refine lv_iinc (v := (x1_33 + 1)) (lv' := [(1, .int (x1_33 + 1)), (6, .int (x6_33 + r_54)), (0, .ref a_self), (2, .int x2_9), (3, .int x3_9), (4, .int (x2_9 / (m_tables - x3_9))), (5, .int x1_9)]) hx hb dX9_begin_60 hl (k := 2) rfl rfl (by decide) rfl (fun ls hl => ?_)
                refine lv_goto (tgt := 33) hx hb dX9_begin_63 (by decide) ?_
                cases hF
                exact ih33 _ _ (itr_in hN33) _ _ hW _ (lv_sub hl [2, 0, 3, 4, 5, 6, 1] rfl)
        exact hL33 nn _ _ hI _ _ hW _ (lv_sub hl [3, 4, 5, 6, 2, 1, 0] rfl)
  exact hL9 nn _ _ _ _ hI _ _ hW _ (lv_sub hl [3, 2, 1, 0] rfl)
abbrev rmMo_findCodes : Room := { frames := 0, cells := 0, slots := 0, locals := 0 }
set_option maxHeartbeats 4000000 in
set_option maxRecDepth 100000 in
theorem kMo_findCodes (l : Launch) (D : va_G) (cI cZ cO cG : ClassId) (a_p0 : Nat) (a_p2 : Nat) (n_p0 : Nat) (n_p2 : Nat) (m_p0 : Nat → Int32) (m_p2 : Nat → Int32) (x1 : Int32) (x3 : Int32) (x4 : Int32) {m_p2' : Nat → Int32} (hF : fMo_findCodes n_p0 n_p2 m_p0 m_p2 x1 x3 x4 = some m_p2') : CT l yX9_findCodes wsX9_findCodes rmMo_findCodes D (tysG cI cZ cO cG) [.ref a_p0, .int x1, .ref a_p2, .int x3, .int x4] [ia cI a_p0 n_p0 m_p0, ia cI a_p2 n_p2 m_p2] none [ia cI a_p0 n_p0 m_p0, ia cI a_p2 n_p2 m_p2'] := by
  refine CT.of (cc := cX9_findCodes) (maxL := 9) (ret := none) (by decide) rfl (Nat.le_of_ble_eq_true rfl) ?_
  intro p e s m below meth c A ls hx hb hr hml hts hown hlocks hK hA hP hD hS hl
  generalize hargs : ([.ref a_p0, .int x1, .ref a_p2, .int x3, .int x4] : List Value).toArray = args at hts ⊢
  generalize hQ : MQ below (ctQ D none [ia cI a_p0 n_p0 m_p0, ia cI a_p2 n_p2 m_p2'] A) args s 0 0 A = Q
  have hl : lv_has ls 9 [(0, .ref a_p0), (1, .int x1), (2, .ref a_p2), (3, .int x3), (4, .int x4)] := hl
  have hW : WS D A s [ia cI a_p0 n_p0 m_p0, ia cI a_p2 n_p2 m_p2] s.heap [] := ⟨hP, hD, hS⟩
  clear hP hD hS
  unfold fMo_findCodes at hF
  refine lv_iconst (v := 0) hx hb dX9_findCodes_0 (by decide) ?_
  refine lv_istore (lv' := [(5, .int (0 : Int32)), (0, .ref a_p0), (1, .int x1), (2, .ref a_p2), (3, .int x3), (4, .int x4)]) hx hb dX9_findCodes_1 hl (by decide) rfl (fun ls hl => ?_)
  refine lv_iconst (v := 0) hx hb dX9_findCodes_3 (by decide) ?_
  refine lv_istore (lv' := [(6, .int (0 : Int32)), (5, .int (0 : Int32)), (0, .ref a_p0), (1, .int x1), (2, .ref a_p2), (3, .int x3), (4, .int x4)]) hx hb dX9_findCodes_4 hl (by decide) rfl (fun ls hl => ?_)
  refine lv_iconst (v := 1) hx hb dX9_findCodes_6 (by decide) ?_
  refine lv_istore (lv' := [(7, .int (1 : Int32)), (6, .int (0 : Int32)), (5, .int (0 : Int32)), (0, .ref a_p0), (1, .int x1), (2, .ref a_p2), (3, .int x3), (4, .int x4)]) hx hb dX9_findCodes_7 hl (by decide) rfl (fun ls hl => ?_)
  obtain ⟨m_p2_9ze, hI, hF⟩ := bd1_some hF
  obtain ⟨nn, hI⟩ := itrO_some hI
  have hX9 : ∀ (m_p2_9z : Nat → Int32), m_p2_9z = m_p2_9ze → ∀ (H : Heap) (locs : List Loc), WS D A s [ia cI a_p0 n_p0 m_p0, ia cI a_p2 n_p2 m_p2_9z] H locs → ∀ ls : Array Slot, lv_has ls 9 [] → W p l e (headSpec wsX9_findCodes rmMo_findCodes).room s m args below meth c H locs 0 0 Q (F0 m 82 ls []) := by
    intro m_p2_9z he H locs hW ls hl
    subst he
    cases hF
    subst hQ
    exact ct_vret hx hb hr hlocks hW.1 hW.2.2 dX9_findCodes_82
  have hL9 : ∀ (n9 : Nat) (x5_9 : Int32) (x6_9 : Int32) (x7_9 : Int32) (m_p2_9 : Nat → Int32), itr (un4 (fMo_findCodes_L9 n_p0 n_p2 m_p0 x1 x3 x4)) n9 (x5_9, x6_9, x7_9, m_p2_9) = some m_p2_9ze → ∀ (H : Heap) (locs : List Loc), WS D A s [ia cI a_p0 n_p0 m_p0, ia cI a_p2 n_p2 m_p2_9] H locs → ∀ ls : Array Slot, lv_has ls 9 [(0, .ref a_p0), (1, .int x1), (2, .ref a_p2), (3, .int x3), (4, .int x4), (5, .int x5_9), (6, .int x6_9), (7, .int x7_9)] → W p l e (headSpec wsX9_findCodes rmMo_findCodes).room s m args below meth c H locs 0 0 Q (F0 m 9 ls []) := by
    intro n9
    induction n9 with
    | zero => intro x5_9 x6_9 x7_9 m_p2_9 hI; cases hI
    | succ n9 ih9 =>
      intro x5_9 x6_9 x7_9 m_p2_9 hI H locs hW ls hl
      obtain ⟨sr9, hF, hN9⟩ := itr_succ hI
      have hF : fMo_findCodes_L9 n_p0 n_p2 m_p0 x1 x3 x4 x5_9 x6_9 x7_9 m_p2_9 = some sr9 := hF
      unfold fMo_findCodes_L9 at hF
      refine lv_iload hx hb dX9_findCodes_9 (lv_at hl 7 rfl) ?_
      refine lv_bipush (v := 40) hx hb dX9_findCodes_11 (by decide) ?_
      refine lv_icmp_gt (tgt := 82) hx hb dX9_findCodes_13 (by decide) (fun c13 => ?_) (fun c13 => ?_)
      · rw [if_pos c13] at hF
        cases hF
        exact hX9 _ (itr_out hN9) _ _ hW _ (lv_sub hl [] rfl)
      · rw [if_neg c13] at hF
        refine lv_iconst (v := 0) hx hb dX9_findCodes_16 (by decide) ?_
        refine lv_istore (lv' := [(8, .int (0 : Int32)), (0, .ref a_p0), (1, .int x1), (2, .ref a_p2), (3, .int x3), (4, .int x4), (5, .int x5_9), (6, .int x6_9), (7, .int x7_9)]) hx hb dX9_findCodes_17 hl (by decide) rfl (fun ls hl => ?_)
        obtain ⟨x5_19ze, x6_19ze, m_p2_19ze, hI, hF⟩ := bd3_some hF
        obtain ⟨nn, hI⟩ := itrO_some hI
        have hX19 : ∀ (x5_19z : Int32) (x6_19z : Int32) (m_p2_19z : Nat → Int32), (x5_19z, x6_19z, m_p2_19z) = (x5_19ze, x6_19ze, m_p2_19ze) → ∀ (H : Heap) (locs : List Loc), WS D A s [ia cI a_p0 n_p0 m_p0, ia cI a_p2 n_p2 m_p2_19z] H locs → ∀ ls : Array Slot, lv_has ls 9 [(0, .ref a_p0), (1, .int x1), (2, .ref a_p2), (3, .int x3), (4, .int x4), (5, .int x5_19z), (6, .int x6_19z), (7, .int x7_9)] → W p l e (headSpec wsX9_findCodes rmMo_findCodes).room s m args below meth c H locs 0 0 Q (F0 m 76 ls []) := by
          intro x5_19z x6_19z m_p2_19z he H locs hW ls hl
          obtain ⟨hz0, hy0⟩ := Prod.mk.inj he
          obtain ⟨hz1, hy1⟩ := Prod.mk.inj hy0
          subst hz0
          subst hz1
          subst hy1
          refine lv_iinc (v := (x7_9 + 1)) (lv' := [(7, .int (x7_9 + 1)), (0, .ref a_p0), (1, .int x1), (2, .ref a_p2), (3, .int x3), (4, .int x4), (5, .int x5_19z), (6, .int x6_19z)]) hx hb dX9_findCodes_76 hl (k := 7) rfl rfl (by decide) rfl (fun ls hl => ?_)
          refine lv_goto (tgt := 9) hx hb dX9_findCodes_79 (by decide) ?_
          cases hF
          exact ih9 _ _ _ _ (itr_in hN9) _ _ hW _ (lv_sub hl [1, 2, 3, 4, 5, 6, 7, 0] rfl)
        have hL19 : ∀ (n19 : Nat) (x5_19 : Int32) (x6_19 : Int32) (x8_19 : Int32) (m_p2_19 : Nat → Int32), itr (un4 (fMo_findCodes_L19 n_p0 n_p2 m_p0 x1 x3 x4 x7_9)) n19 (x5_19, x6_19, x8_19, m_p2_19) = some (x5_19ze, x6_19ze, m_p2_19ze) → ∀ (H : Heap) (locs : List Loc), WS D A s [ia cI a_p0 n_p0 m_p0, ia cI a_p2 n_p2 m_p2_19] H locs → ∀ ls : Array Slot, lv_has ls 9 [(0, .ref a_p0), (1, .int x1), (2, .ref a_p2), (3, .int x3), (4, .int x4), (5, .int x5_19), (6, .int x6_19), (7, .int x7_9), (8, .int x8_19)] → W p l e (headSpec wsX9_findCodes rmMo_findCodes).room s m args below meth c H locs 0 0 Q (F0 m 19 ls []) := by
          intro n19
          induction n19 with
          | zero => intro x5_19 x6_19 x8_19 m_p2_19 hI; cases hI
          | succ n19 ih19 =>
            intro x5_19 x6_19 x8_19 m_p2_19 hI H locs hW ls hl
            obtain ⟨sr19, hF, hN19⟩ := itr_succ hI
            have hF : fMo_findCodes_L19 n_p0 n_p2 m_p0 x1 x3 x4 x7_9 x5_19 x6_19 x8_19 m_p2_19 = some sr19 := hF
            unfold fMo_findCodes_L19 at hF
            have hJ56 : ∀ (x8_56 : Int32) (m_p2_56 : Nat → Int32) (t0_56 : Int32), fMo_findCodes_J56 n_p2 x3 x7_9 x8_56 m_p2_56 t0_56 = some sr19 → ∀ (H : Heap) (locs : List Loc), WS D A s [ia cI a_p0 n_p0 m_p0, ia cI a_p2 n_p2 m_p2_56] H locs → ∀ ls : Array Slot, lv_has ls 9 [(0, .ref a_p0), (1, .int x1), (2, .ref a_p2), (3, .int x3), (4, .int x4), (7, .int x7_9), (8, .int x8_56)] → W p l e (headSpec wsX9_findCodes rmMo_findCodes).room s m args below meth c H locs 0 0 Q (F0 m 56 ls [.int t0_56]) := by
              intro x8_56 m_p2_56 t0_56 hF H locs hW ls hl
              unfold fMo_findCodes_J56 at hF
              refine lv_istore (lv' := [(5, .int t0_56), (0, .ref a_p0), (1, .int x1), (2, .ref a_p2), (3, .int x3), (4, .int x4), (7, .int x7_9), (8, .int x8_56)]) hx hb dX9_findCodes_56 hl (by decide) rfl (fun ls hl => ?_)
              refine lv_aload_n hx hb dX9_findCodes_58 rfl (lv_at hl 3 rfl) ?_
              refine lv_iload_n hx hb dX9_findCodes_59 rfl (lv_at hl 4 rfl) ?_
              refine lv_iload hx hb dX9_findCodes_60 (lv_at hl 7 rfl) ?_
              refine lv_iadd hx hb dX9_findCodes_62 ?_
              refine lv_iload hx hb dX9_findCodes_63 (lv_at hl 0 rfl) ?_
              obtain ⟨g65, hF⟩ := gdI_some hF
              refine va_iast hx hb hK.1 hW.1 hW.2.1 hW.2.2 1 0 rfl rfl g65 dX9_findCodes_65 (fun H locs hP hD hS => ?_)
              have hW : WS D A s [ia cI a_p0 n_p0 m_p0, ia cI a_p2 n_p2 (upd m_p2_56 (x3 + x8_56).toNatClampNeg t0_56)] H locs := ⟨hP, hD, hS⟩
              refine lv_iload hx hb dX9_findCodes_66 (lv_at hl 6 rfl) ?_
              refine lv_istore (lv' := [(6, .int x7_9), (5, .int t0_56), (0, .ref a_p0), (1, .int x1), (2, .ref a_p2), (3, .int x3), (4, .int x4), (7, .int x7_9), (8, .int x8_56)]) hx hb dX9_findCodes_68 hl (by decide) rfl (fun ls hl => ?_)
              refine lv_iinc (v := (x8_56 + 1)) (lv' := [(8, .int (x8_56 + 1)), (6, .int x7_9), (5, .int t0_56), (0, .ref a_p0), (1, .int x1), (2, .ref a_p2), (3, .int x3), (4, .int x4), (7, .int x7_9)]) hx hb dX9_findCodes_70 hl (k := 8) rfl rfl (by decide) rfl (fun ls hl => ?_)
              refine lv_goto (tgt := 19) hx hb dX9_findCodes_73 (by decide) ?_
              cases hF
              exact ih19 _ _ _ _ (itr_in hN19) _ _ hW _ (lv_sub hl [3, 4, 5, 6, 7, 2, 1, 8, 0] rfl)
            refine lv_iload hx hb dX9_findCodes_19 (lv_at hl 8 rfl) ?_
            refine lv_iload hx hb dX9_findCodes_21 (lv_at hl 4 rfl) ?_
            refine lv_icmp_ge (tgt := 76) hx hb dX9_findCodes_23 (by decide) (fun c23 => ?_) (fun c23 => ?_)
            · rw [if_pos c23] at hF
              cases hF
              exact hX19 _ _ _ (itr_out hN19) _ _ hW _ (lv_sub hl [0, 1, 2, 3, 4, 5, 6, 7] rfl)
            · rw [if_neg c23] at hF
              refine lv_aload_n hx hb dX9_findCodes_26 rfl (lv_at hl 0 rfl) ?_
              refine lv_iload_n hx hb dX9_findCodes_27 rfl (lv_at hl 1 rfl) ?_
              refine lv_iload hx hb dX9_findCodes_28 (lv_at hl 8 rfl) ?_
              refine lv_iadd hx hb dX9_findCodes_30 ?_
              obtain ⟨g31, hF⟩ := gdI_some hF
              refine va_iald hx hb hK.1 hW.1 0 0 rfl rfl g31 dX9_findCodes_31 ?_
              refine lv_iload hx hb dX9_findCodes_32 (lv_at hl 7 rfl) ?_
              refine lv_icmp_ne (tgt := 70) hx hb dX9_findCodes_34 (by decide) (fun c34 => ?_) (fun c34 => ?_)
              · rw [if_neg c34] at hF
                refine lv_iinc (v := (x8_19 + 1)) (lv' := [(8, .int (x8_19 + 1)), (0, .ref a_p0), (1, .int x1), (2, .ref a_p2), (3, .int x3), (4, .int x4), (5, .int x5_19), (6, .int x6_19), (7, .int x7_9)]) hx hb dX9_findCodes_70 hl (k := 8) rfl rfl (by decide) rfl (fun ls hl => ?_)
                refine lv_goto (tgt := 19) hx hb dX9_findCodes_73 (by decide) ?_
                cases hF
                exact ih19 _ _ _ _ (itr_in hN19) _ _ hW _ (lv_sub hl [1, 2, 3, 4, 5, 6, 7, 8, 0] rfl)
              · rw [if_pos c34] at hF
                refine lv_iload hx hb dX9_findCodes_37 (lv_at hl 6 rfl) ?_
                refine lv_if_ne (tgt := 46) hx hb dX9_findCodes_39 (by decide) (fun c39 => ?_) (fun c39 => ?_)
                · rw [if_neg c39] at hF
                  refine lv_iload hx hb dX9_findCodes_46 (lv_at hl 5 rfl) ?_
                  refine lv_iconst (v := 1) hx hb dX9_findCodes_48 (by decide) ?_
                  refine lv_iadd hx hb dX9_findCodes_49 ?_
                  refine lv_iload hx hb dX9_findCodes_50 (lv_at hl 7 rfl) ?_
                  refine lv_iload hx hb dX9_findCodes_52 (lv_at hl 6 rfl) ?_
                  refine lv_isub hx hb dX9_findCodes_54 ?_
                  refine lv_ishl hx hb dX9_findCodes_55 ?_
                  exact hJ56 _ _ _ hF _ _ hW _ (lv_sub hl [0, 1, 2, 3, 4, 7, 8] rfl)
                · rw [if_pos c39] at hF
                  refine lv_iconst (v := 0) hx hb dX9_findCodes_42 (by decide) ?_
                  refine lv_goto (tgt := 56) hx hb dX9_findCodes_43 (by decide) ?_
                  exact hJ56 _ _ _ hF _ _ hW _ (lv_sub hl [0, 1, 2, 3, 4, 7, 8] rfl)
        exact hL19 nn _ _ _ _ hI _ _ hW _ (lv_sub hl [1, 2, 3, 4, 5, 6, 7, 8, 0] rfl)
  exact hL9 nn _ _ _ _ hI _ _ hW _ (lv_sub hl [3, 4, 5, 6, 7, 2, 1, 0] rfl)
abbrev rmMo_comes : Room := { frames := 0, cells := 0, slots := 0, locals := 0 }
set_option maxHeartbeats 4000000 in
set_option maxRecDepth 100000 in
theorem kMo_comes (l : Launch) (D : va_G) (cI cZ cO cG : ClassId) (a_self : Nat) (a_block : Nat) (a_tape : Nat) (a_map : Nat) (a_places : Nat) (a_symbol : Nat) (a_lengths : Nat) (a_taken : Nat) (a_codes : Nat) (a_list : Nat) (a_weights : Nat) (a_whole : Nat) (a_row : Nat) (a_readMap : Nat) (a_readTaken : Nat) (a_readLengths : Nat) (a_readCodes : Nat) (a_foundBlock : Nat) (m_signs : Int32) (m_bits : Int32) (m_faultAt : Int32) (m_isDone : Int32) (m_n : Int32) (m_symbols : Int32) (m_groups : Int32) (m_tables : Int32) (m_lays : Int32) (m_laid : Int32) (m_read : Int32) (m_wrong : Int32) (m_readMany : Int32) (m_readTables : Int32) (m_readGroups : Int32) (m_found : Int32) (m_block : Nat → Int32) (x1 : Int32) {rv : Int32} (hF : fMo_comes m_signs m_block x1 = some rv) : CT l yX9_comes wsX9_comes rmMo_comes D (tysG cI cZ cO cG) [.ref a_self, .int x1] [ob a_self 9 [Value.int m_signs, Value.ref a_block, Value.ref a_tape, Value.int m_bits, Value.int m_faultAt, Value.int m_isDone, Value.int m_n, Value.ref a_map, Value.ref a_places, Value.int m_symbols, Value.ref a_symbol, Value.int m_groups, Value.int m_tables, Value.ref a_lengths, Value.ref a_taken, Value.ref a_codes, Value.ref a_list, Value.ref a_weights, Value.ref a_whole, Value.int m_lays, Value.int m_laid, Value.ref a_row, Value.int m_read, Value.int m_wrong, Value.int m_readMany, Value.ref a_readMap, Value.int m_readTables, Value.int m_readGroups, Value.ref a_readTaken, Value.ref a_readLengths, Value.ref a_readCodes, Value.int m_found, Value.ref a_foundBlock], ia cI a_block 300 m_block] (some (.int rv)) [ob a_self 9 [Value.int m_signs, Value.ref a_block, Value.ref a_tape, Value.int m_bits, Value.int m_faultAt, Value.int m_isDone, Value.int m_n, Value.ref a_map, Value.ref a_places, Value.int m_symbols, Value.ref a_symbol, Value.int m_groups, Value.int m_tables, Value.ref a_lengths, Value.ref a_taken, Value.ref a_codes, Value.ref a_list, Value.ref a_weights, Value.ref a_whole, Value.int m_lays, Value.int m_laid, Value.ref a_row, Value.int m_read, Value.int m_wrong, Value.int m_readMany, Value.ref a_readMap, Value.int m_readTables, Value.int m_readGroups, Value.ref a_readTaken, Value.ref a_readLengths, Value.ref a_readCodes, Value.int m_found, Value.ref a_foundBlock], ia cI a_block 300 m_block] := by
  refine CT.of (cc := cX9_comes) (maxL := 4) (ret := (some .boolean)) (by decide) rfl (Nat.le_of_ble_eq_true rfl) ?_
  intro p e s m below meth c A ls hx hb hr hml hts hown hlocks hK hA hP hD hS hl
  generalize hargs : ([.ref a_self, .int x1] : List Value).toArray = args at hts ⊢
  generalize hQ : MQ below (ctQ D (some (.int rv)) [ob a_self 9 [Value.int m_signs, Value.ref a_block, Value.ref a_tape, Value.int m_bits, Value.int m_faultAt, Value.int m_isDone, Value.int m_n, Value.ref a_map, Value.ref a_places, Value.int m_symbols, Value.ref a_symbol, Value.int m_groups, Value.int m_tables, Value.ref a_lengths, Value.ref a_taken, Value.ref a_codes, Value.ref a_list, Value.ref a_weights, Value.ref a_whole, Value.int m_lays, Value.int m_laid, Value.ref a_row, Value.int m_read, Value.int m_wrong, Value.int m_readMany, Value.ref a_readMap, Value.int m_readTables, Value.int m_readGroups, Value.ref a_readTaken, Value.ref a_readLengths, Value.ref a_readCodes, Value.int m_found, Value.ref a_foundBlock], ia cI a_block 300 m_block] A) args s 0 0 A = Q
  have hl : lv_has ls 4 [(0, .ref a_self), (1, .int x1)] := hl
  have hW : WS D A s [ob a_self 9 [Value.int m_signs, Value.ref a_block, Value.ref a_tape, Value.int m_bits, Value.int m_faultAt, Value.int m_isDone, Value.int m_n, Value.ref a_map, Value.ref a_places, Value.int m_symbols, Value.ref a_symbol, Value.int m_groups, Value.int m_tables, Value.ref a_lengths, Value.ref a_taken, Value.ref a_codes, Value.ref a_list, Value.ref a_weights, Value.ref a_whole, Value.int m_lays, Value.int m_laid, Value.ref a_row, Value.int m_read, Value.int m_wrong, Value.int m_readMany, Value.ref a_readMap, Value.int m_readTables, Value.int m_readGroups, Value.ref a_readTaken, Value.ref a_readLengths, Value.ref a_readCodes, Value.int m_found, Value.ref a_foundBlock], ia cI a_block 300 m_block] s.heap [] := ⟨hP, hD, hS⟩
  clear hP hD hS
  unfold fMo_comes at hF
  have hw0 := hts (Cond.fieldLink RX9 70 "MoveFrontsModel" "signs" "I") (by decide +kernel)
  have hw1 := hts (Cond.fieldLink RX9 7 "MoveFrontsModel" "block" "[I") (by decide +kernel)
  have hi9 : ∀ w ∈ u_ws RX9 TX9 33, w ∈ wsX9_comes := by decide +kernel
  refine lv_iconst (v := 0) hx hb dX9_comes_0 (by decide) ?_
  refine lv_istore_n (lv' := [(2, .int (0 : Int32)), (0, .ref a_self), (1, .int x1)]) hx hb dX9_comes_1 rfl hl (by decide) rfl (fun ls hl => ?_)
  refine lv_iconst (v := 0) hx hb dX9_comes_2 (by decide) ?_
  refine lv_istore_n (lv' := [(3, .int (0 : Int32)), (2, .int (0 : Int32)), (0, .ref a_self), (1, .int x1)]) hx hb dX9_comes_3 rfl hl (by decide) rfl (fun ls hl => ?_)
  obtain ⟨x2_4ze, hI, hF⟩ := bd1_some hF
  obtain ⟨nn, hI⟩ := itrO_some hI
  have hX4 : ∀ (x2_4z : Int32), x2_4z = x2_4ze → ∀ (H : Heap) (locs : List Loc), WS D A s [ob a_self 9 [Value.int m_signs, Value.ref a_block, Value.ref a_tape, Value.int m_bits, Value.int m_faultAt, Value.int m_isDone, Value.int m_n, Value.ref a_map, Value.ref a_places, Value.int m_symbols, Value.ref a_symbol, Value.int m_groups, Value.int m_tables, Value.ref a_lengths, Value.ref a_taken, Value.ref a_codes, Value.ref a_list, Value.ref a_weights, Value.ref a_whole, Value.int m_lays, Value.int m_laid, Value.ref a_row, Value.int m_read, Value.int m_wrong, Value.int m_readMany, Value.ref a_readMap, Value.int m_readTables, Value.int m_readGroups, Value.ref a_readTaken, Value.ref a_readLengths, Value.ref a_readCodes, Value.int m_found, Value.ref a_foundBlock], ia cI a_block 300 m_block] H locs → ∀ ls : Array Slot, lv_has ls 4 [(2, .int x2_4z)] → W p l e (headSpec wsX9_comes rmMo_comes).room s m args below meth c H locs 0 0 Q (F0 m 38 ls []) := by
    intro x2_4z he H locs hW ls hl
    subst he
    refine lv_iload_n hx hb dX9_comes_38 rfl (lv_at hl 0 rfl) ?_
    obtain ⟨g39, hF⟩ := gdB_some hF
    cases hF
    subst hQ
    exact ct_zret hx hb hr hlocks (gdB_n g39) hW.1 hW.2.2 dX9_comes_39
  have hL4 : ∀ (n4 : Nat) (x2_4 : Int32) (x3_4 : Int32), itr (un2 (fMo_comes_L4 m_signs m_block x1)) n4 (x2_4, x3_4) = some x2_4ze → ∀ (H : Heap) (locs : List Loc), WS D A s [ob a_self 9 [Value.int m_signs, Value.ref a_block, Value.ref a_tape, Value.int m_bits, Value.int m_faultAt, Value.int m_isDone, Value.int m_n, Value.ref a_map, Value.ref a_places, Value.int m_symbols, Value.ref a_symbol, Value.int m_groups, Value.int m_tables, Value.ref a_lengths, Value.ref a_taken, Value.ref a_codes, Value.ref a_list, Value.ref a_weights, Value.ref a_whole, Value.int m_lays, Value.int m_laid, Value.ref a_row, Value.int m_read, Value.int m_wrong, Value.int m_readMany, Value.ref a_readMap, Value.int m_readTables, Value.int m_readGroups, Value.ref a_readTaken, Value.ref a_readLengths, Value.ref a_readCodes, Value.int m_found, Value.ref a_foundBlock], ia cI a_block 300 m_block] H locs → ∀ ls : Array Slot, lv_has ls 4 [(0, .ref a_self), (1, .int x1), (2, .int x2_4), (3, .int x3_4)] → W p l e (headSpec wsX9_comes rmMo_comes).room s m args below meth c H locs 0 0 Q (F0 m 4 ls []) := by
    intro n4
    induction n4 with
    | zero => intro x2_4 x3_4 hI; cases hI
    | succ n4 ih4 =>
      intro x2_4 x3_4 hI H locs hW ls hl
      obtain ⟨sr4, hF, hN4⟩ := itr_succ hI
      have hF : fMo_comes_L4 m_signs m_block x1 x2_4 x3_4 = some sr4 := hF
      unfold fMo_comes_L4 at hF
      refine lv_iload_n hx hb dX9_comes_4 rfl (lv_at hl 3 rfl) ?_
      refine lv_aload_n hx hb dX9_comes_5 rfl (lv_at hl 0 rfl) ?_
      refine va_get (D := D) (ci := 9) (v := .int m_signs) (C := RX9) (T := TX9) (N := 33) hx hb hts hi9 hown hK.1 hW.1 0 rfl rfl 0 (by decide) hw0 (fun _ h9 => h9) rfl dX9_comes_6 ?_
      refine lv_icmp_ge (tgt := 38) hx hb dX9_comes_9 (by decide) (fun c9 => ?_) (fun c9 => ?_)
      · rw [if_pos c9] at hF
        cases hF
        exact hX4 _ (itr_out hN4) _ _ hW _ (lv_sub hl [2] rfl)
      · rw [if_neg c9] at hF
        refine lv_iload_n hx hb dX9_comes_12 rfl (lv_at hl 2 rfl) ?_
        refine lv_if_ne (tgt := 26) hx hb dX9_comes_13 (by decide) (fun c13 => ?_) (fun c13 => ?_)
        · rw [if_neg c13] at hF
          refine lv_iconst (v := 1) hx hb dX9_comes_26 (by decide) ?_
          refine lv_goto (tgt := 31) hx hb dX9_comes_27 (by decide) ?_
          refine lv_istore_n (lv' := [(2, .int (1 : Int32)), (0, .ref a_self), (1, .int x1), (3, .int x3_4)]) hx hb dX9_comes_31 rfl hl (by decide) rfl (fun ls hl => ?_)
          refine lv_iinc (v := (x3_4 + 1)) (lv' := [(3, .int (x3_4 + 1)), (2, .int (1 : Int32)), (0, .ref a_self), (1, .int x1)]) hx hb dX9_comes_32 hl (k := 3) rfl rfl (by decide) rfl (fun ls hl => ?_)
          refine lv_goto (tgt := 4) hx hb dX9_comes_35 (by decide) ?_
          cases hF
          exact ih4 _ _ (itr_in hN4) _ _ hW _ (lv_sub hl [2, 3, 1, 0] rfl)
        · rw [if_pos c13] at hF
          refine lv_aload_n hx hb dX9_comes_16 rfl (lv_at hl 0 rfl) ?_
          refine va_get (D := D) (ci := 9) (v := .ref a_block) (C := RX9) (T := TX9) (N := 33) hx hb hts hi9 hown hK.1 hW.1 0 rfl rfl 1 (by decide) hw1 (fun _ h9 => h9) rfl dX9_comes_17 ?_
          refine lv_iload_n hx hb dX9_comes_20 rfl (lv_at hl 3 rfl) ?_
          obtain ⟨g21, hF⟩ := gdI_some hF
          refine va_iald hx hb hK.1 hW.1 1 0 rfl rfl g21 dX9_comes_21 ?_
          refine lv_iload_n hx hb dX9_comes_22 rfl (lv_at hl 1 rfl) ?_
          refine lv_icmp_ne (tgt := 30) hx hb dX9_comes_23 (by decide) (fun c23 => ?_) (fun c23 => ?_)
          · rw [if_neg c23] at hF
            refine lv_iconst (v := 0) hx hb dX9_comes_30 (by decide) ?_
            refine lv_istore_n (lv' := [(2, .int (0 : Int32)), (0, .ref a_self), (1, .int x1), (3, .int x3_4)]) hx hb dX9_comes_31 rfl hl (by decide) rfl (fun ls hl => ?_)
            refine lv_iinc (v := (x3_4 + 1)) (lv' := [(3, .int (x3_4 + 1)), (2, .int (0 : Int32)), (0, .ref a_self), (1, .int x1)]) hx hb dX9_comes_32 hl (k := 3) rfl rfl (by decide) rfl (fun ls hl => ?_)
            refine lv_goto (tgt := 4) hx hb dX9_comes_35 (by decide) ?_
            cases hF
            exact ih4 _ _ (itr_in hN4) _ _ hW _ (lv_sub hl [2, 3, 1, 0] rfl)
          · rw [if_pos c23] at hF
            refine lv_iconst (v := 1) hx hb dX9_comes_26 (by decide) ?_
            refine lv_goto (tgt := 31) hx hb dX9_comes_27 (by decide) ?_
            refine lv_istore_n (lv' := [(2, .int (1 : Int32)), (0, .ref a_self), (1, .int x1), (3, .int x3_4)]) hx hb dX9_comes_31 rfl hl (by decide) rfl (fun ls hl => ?_)
            refine lv_iinc (v := (x3_4 + 1)) (lv' := [(3, .int (x3_4 + 1)), (2, .int (1 : Int32)), (0, .ref a_self), (1, .int x1)]) hx hb dX9_comes_32 hl (k := 3) rfl rfl (by decide) rfl (fun ls hl => ?_)
            refine lv_goto (tgt := 4) hx hb dX9_comes_35 (by decide) ?_
            cases hF
            exact ih4 _ _ (itr_in hN4) _ _ hW _ (lv_sub hl [2, 3, 1, 0] rfl)
  exact hL4 nn _ _ hI _ _ hW _ (lv_sub hl [2, 3, 1, 0] rfl)
abbrev rmMo_findMap : Room := { frames := 1, cells := 0, slots := 0, locals := 23 }
set_option maxHeartbeats 4000000 in
set_option maxRecDepth 100000 in
theorem kMo_findMap (l : Launch) (D : va_G) (cI cZ cO cG : ClassId) (a_self : Nat) (a_block : Nat) (a_tape : Nat) (a_map : Nat) (a_places : Nat) (a_symbol : Nat) (a_lengths : Nat) (a_taken : Nat) (a_codes : Nat) (a_list : Nat) (a_weights : Nat) (a_whole : Nat) (a_row : Nat) (a_readMap : Nat) (a_readTaken : Nat) (a_readLengths : Nat) (a_readCodes : Nat) (a_foundBlock : Nat) (m_signs : Int32) (m_bits : Int32) (m_faultAt : Int32) (m_isDone : Int32) (m_n : Int32) (m_symbols : Int32) (m_groups : Int32) (m_tables : Int32) (m_lays : Int32) (m_laid : Int32) (m_read : Int32) (m_wrong : Int32) (m_readMany : Int32) (m_readTables : Int32) (m_readGroups : Int32) (m_found : Int32) (m_block : Nat → Int32) (m_map : Nat → Int32) {m_n' : Int32} {m_map' : Nat → Int32} (hF : fMo_findMap m_signs m_block m_map = some (m_n', m_map')) : CT l yX9_findMap wsX9_findMap rmMo_findMap D (tysG cI cZ cO cG) [.ref a_self] [ob a_self 9 [Value.int m_signs, Value.ref a_block, Value.ref a_tape, Value.int m_bits, Value.int m_faultAt, Value.int m_isDone, Value.int m_n, Value.ref a_map, Value.ref a_places, Value.int m_symbols, Value.ref a_symbol, Value.int m_groups, Value.int m_tables, Value.ref a_lengths, Value.ref a_taken, Value.ref a_codes, Value.ref a_list, Value.ref a_weights, Value.ref a_whole, Value.int m_lays, Value.int m_laid, Value.ref a_row, Value.int m_read, Value.int m_wrong, Value.int m_readMany, Value.ref a_readMap, Value.int m_readTables, Value.int m_readGroups, Value.ref a_readTaken, Value.ref a_readLengths, Value.ref a_readCodes, Value.int m_found, Value.ref a_foundBlock], ia cI a_block 300 m_block, ia cI a_map 256 m_map] none [ob a_self 9 [Value.int m_signs, Value.ref a_block, Value.ref a_tape, Value.int m_bits, Value.int m_faultAt, Value.int m_isDone, Value.int m_n', Value.ref a_map, Value.ref a_places, Value.int m_symbols, Value.ref a_symbol, Value.int m_groups, Value.int m_tables, Value.ref a_lengths, Value.ref a_taken, Value.ref a_codes, Value.ref a_list, Value.ref a_weights, Value.ref a_whole, Value.int m_lays, Value.int m_laid, Value.ref a_row, Value.int m_read, Value.int m_wrong, Value.int m_readMany, Value.ref a_readMap, Value.int m_readTables, Value.int m_readGroups, Value.ref a_readTaken, Value.ref a_readLengths, Value.ref a_readCodes, Value.int m_found, Value.ref a_foundBlock], ia cI a_block 300 m_block, ia cI a_map 256 m_map'] := by
  refine CT.of (cc := cX9_findMap) (maxL := 2) (ret := none) (by decide) rfl (Nat.le_of_ble_eq_true rfl) ?_
  intro p e s m below meth c A ls hx hb hr hml hts hown hlocks hK hA hP hD hS hl
  generalize hargs : ([.ref a_self] : List Value).toArray = args at hts ⊢
  generalize hQ : MQ below (ctQ D none [ob a_self 9 [Value.int m_signs, Value.ref a_block, Value.ref a_tape, Value.int m_bits, Value.int m_faultAt, Value.int m_isDone, Value.int m_n', Value.ref a_map, Value.ref a_places, Value.int m_symbols, Value.ref a_symbol, Value.int m_groups, Value.int m_tables, Value.ref a_lengths, Value.ref a_taken, Value.ref a_codes, Value.ref a_list, Value.ref a_weights, Value.ref a_whole, Value.int m_lays, Value.int m_laid, Value.ref a_row, Value.int m_read, Value.int m_wrong, Value.int m_readMany, Value.ref a_readMap, Value.int m_readTables, Value.int m_readGroups, Value.ref a_readTaken, Value.ref a_readLengths, Value.ref a_readCodes, Value.int m_found, Value.ref a_foundBlock], ia cI a_block 300 m_block, ia cI a_map 256 m_map'] A) args s 0 0 A = Q
  have hl : lv_has ls 2 [(0, .ref a_self)] := hl
  have hW : WS D A s [ob a_self 9 [Value.int m_signs, Value.ref a_block, Value.ref a_tape, Value.int m_bits, Value.int m_faultAt, Value.int m_isDone, Value.int m_n, Value.ref a_map, Value.ref a_places, Value.int m_symbols, Value.ref a_symbol, Value.int m_groups, Value.int m_tables, Value.ref a_lengths, Value.ref a_taken, Value.ref a_codes, Value.ref a_list, Value.ref a_weights, Value.ref a_whole, Value.int m_lays, Value.int m_laid, Value.ref a_row, Value.int m_read, Value.int m_wrong, Value.int m_readMany, Value.ref a_readMap, Value.int m_readTables, Value.int m_readGroups, Value.ref a_readTaken, Value.ref a_readLengths, Value.ref a_readCodes, Value.int m_found, Value.ref a_foundBlock], ia cI a_block 300 m_block, ia cI a_map 256 m_map] s.heap [] := ⟨hP, hD, hS⟩
  clear hP hD hS
  unfold fMo_findMap at hF
  have hw0 := hts (Cond.fieldLink RX9 106 "MoveFrontsModel" "n" "I") (by decide +kernel)
  have hw1 := hts (Cond.fieldLink RX9 21 "MoveFrontsModel" "map" "[I") (by decide +kernel)
  have hi9 : ∀ w ∈ u_ws RX9 TX9 33, w ∈ wsX9_findMap := by decide +kernel
  refine lv_aload_n hx hb dX9_findMap_0 rfl (lv_at hl 0 rfl) ?_
  refine lv_iconst (v := 0) hx hb dX9_findMap_1 (by decide) ?_
  refine va_put (D := D) (ci := 9) (v := .int (0 : Int32)) (ty := .int) (C := RX9) (T := TX9) (N := 33) hx hb hts hi9 tyX9 tyX9_ok nmX9 hown hK.1 hW.1 hW.2.1 hW.2.2 0 rfl rfl 6 (by decide) hw0 (fun _ h9 => h9) rfl (by decide +kernel) rfl rfl (Nat.le_of_ble_eq_true rfl) dX9_findMap_2 (fun H locs hP hD hS => ?_)
  have hW : WS D A s [ob a_self 9 [Value.int m_signs, Value.ref a_block, Value.ref a_tape, Value.int m_bits, Value.int m_faultAt, Value.int m_isDone, Value.int (0 : Int32), Value.ref a_map, Value.ref a_places, Value.int m_symbols, Value.ref a_symbol, Value.int m_groups, Value.int m_tables, Value.ref a_lengths, Value.ref a_taken, Value.ref a_codes, Value.ref a_list, Value.ref a_weights, Value.ref a_whole, Value.int m_lays, Value.int m_laid, Value.ref a_row, Value.int m_read, Value.int m_wrong, Value.int m_readMany, Value.ref a_readMap, Value.int m_readTables, Value.int m_readGroups, Value.ref a_readTaken, Value.ref a_readLengths, Value.ref a_readCodes, Value.int m_found, Value.ref a_foundBlock], ia cI a_block 300 m_block, ia cI a_map 256 m_map] H locs := ⟨hP, hD, hS⟩
  refine lv_iconst (v := 0) hx hb dX9_findMap_5 (by decide) ?_
  refine lv_istore_n (lv' := [(1, .int (0 : Int32)), (0, .ref a_self)]) hx hb dX9_findMap_6 rfl hl (by decide) rfl (fun ls hl => ?_)
  obtain ⟨m_n_7ze, m_map_7ze, hI, hF⟩ := bd2_some hF
  obtain ⟨nn, hI⟩ := itrO_some hI
  have hX7 : ∀ (m_n_7z : Int32) (m_map_7z : Nat → Int32), (m_n_7z, m_map_7z) = (m_n_7ze, m_map_7ze) → ∀ (H : Heap) (locs : List Loc), WS D A s [ob a_self 9 [Value.int m_signs, Value.ref a_block, Value.ref a_tape, Value.int m_bits, Value.int m_faultAt, Value.int m_isDone, Value.int m_n_7z, Value.ref a_map, Value.ref a_places, Value.int m_symbols, Value.ref a_symbol, Value.int m_groups, Value.int m_tables, Value.ref a_lengths, Value.ref a_taken, Value.ref a_codes, Value.ref a_list, Value.ref a_weights, Value.ref a_whole, Value.int m_lays, Value.int m_laid, Value.ref a_row, Value.int m_read, Value.int m_wrong, Value.int m_readMany, Value.ref a_readMap, Value.int m_readTables, Value.int m_readGroups, Value.ref a_readTaken, Value.ref a_readLengths, Value.ref a_readCodes, Value.int m_found, Value.ref a_foundBlock], ia cI a_block 300 m_block, ia cI a_map 256 m_map_7z] H locs → ∀ ls : Array Slot, lv_has ls 2 [] → W p l e (headSpec wsX9_findMap rmMo_findMap).room s m args below meth c H locs 0 0 Q (F0 m 48 ls []) := by
    intro m_n_7z m_map_7z he H locs hW ls hl
    obtain ⟨hz0, hy0⟩ := Prod.mk.inj he
    subst hz0
    subst hy0
    cases hF
    subst hQ
    exact ct_vret hx hb hr hlocks hW.1 hW.2.2 dX9_findMap_48
  have hL7 : ∀ (n7 : Nat) (x1_7 : Int32) (m_n_7 : Int32) (m_map_7 : Nat → Int32), itr (un3 (fMo_findMap_L7 m_signs m_block)) n7 (x1_7, m_n_7, m_map_7) = some (m_n_7ze, m_map_7ze) → ∀ (H : Heap) (locs : List Loc), WS D A s [ob a_self 9 [Value.int m_signs, Value.ref a_block, Value.ref a_tape, Value.int m_bits, Value.int m_faultAt, Value.int m_isDone, Value.int m_n_7, Value.ref a_map, Value.ref a_places, Value.int m_symbols, Value.ref a_symbol, Value.int m_groups, Value.int m_tables, Value.ref a_lengths, Value.ref a_taken, Value.ref a_codes, Value.ref a_list, Value.ref a_weights, Value.ref a_whole, Value.int m_lays, Value.int m_laid, Value.ref a_row, Value.int m_read, Value.int m_wrong, Value.int m_readMany, Value.ref a_readMap, Value.int m_readTables, Value.int m_readGroups, Value.ref a_readTaken, Value.ref a_readLengths, Value.ref a_readCodes, Value.int m_found, Value.ref a_foundBlock], ia cI a_block 300 m_block, ia cI a_map 256 m_map_7] H locs → ∀ ls : Array Slot, lv_has ls 2 [(0, .ref a_self), (1, .int x1_7)] → W p l e (headSpec wsX9_findMap rmMo_findMap).room s m args below meth c H locs 0 0 Q (F0 m 7 ls []) := by
    intro n7
    induction n7 with
    | zero => intro x1_7 m_n_7 m_map_7 hI; cases hI
    | succ n7 ih7 =>
      intro x1_7 m_n_7 m_map_7 hI H locs hW ls hl
      obtain ⟨sr7, hF, hN7⟩ := itr_succ hI
      have hF : fMo_findMap_L7 m_signs m_block x1_7 m_n_7 m_map_7 = some sr7 := hF
      unfold fMo_findMap_L7 at hF
      refine lv_iload_n hx hb dX9_findMap_7 rfl (lv_at hl 1 rfl) ?_
      refine lv_sipush (v := 256) hx hb dX9_findMap_8 (by decide) ?_
      refine lv_icmp_ge (tgt := 48) hx hb dX9_findMap_11 (by decide) (fun c11 => ?_) (fun c11 => ?_)
      · rw [if_pos c11] at hF
        cases hF
        exact hX7 _ _ (itr_out hN7) _ _ hW _ (lv_sub hl [] rfl)
      · rw [if_neg c11] at hF
        refine lv_aload_n hx hb dX9_findMap_14 rfl (lv_at hl 0 rfl) ?_
        refine lv_iload_n hx hb dX9_findMap_15 rfl (lv_at hl 1 rfl) ?_
        obtain ⟨r_16, e16, hF⟩ := bd1_some hF
        refine ctV (wn := [ob a_self 9 [Value.int m_signs, Value.ref a_block, Value.ref a_tape, Value.int m_bits, Value.int m_faultAt, Value.int m_isDone, Value.int m_n_7, Value.ref a_map, Value.ref a_places, Value.int m_symbols, Value.ref a_symbol, Value.int m_groups, Value.int m_tables, Value.ref a_lengths, Value.ref a_taken, Value.ref a_codes, Value.ref a_list, Value.ref a_weights, Value.ref a_whole, Value.int m_lays, Value.int m_laid, Value.ref a_row, Value.int m_read, Value.int m_wrong, Value.int m_readMany, Value.ref a_readMap, Value.int m_readTables, Value.int m_readGroups, Value.ref a_readTaken, Value.ref a_readLengths, Value.ref a_readCodes, Value.int m_found, Value.ref a_foundBlock], ia cI a_block 300 m_block, ia cI a_map 256 m_map_7]) (r := (RX9, TX9, 33)) (As := [.int x1_7]) (rest := []) hx hb hml hown hts hK hW hA hl.1 (kMo_comes l D cI cZ cO cG a_self a_block a_tape a_map a_places a_symbol a_lengths a_taken a_codes a_list a_weights a_whole a_row a_readMap a_readTaken a_readLengths a_readCodes a_foundBlock m_signs m_bits m_faultAt m_isDone m_n_7 m_symbols m_groups m_tables m_lays m_laid m_read m_wrong m_readMany m_readTables m_readGroups m_found m_block x1_7 e16) (cwV 1 hts gX9_findMap_X9_comes rfl rfl rfl (by decide +kernel) ⟨Nat.le_of_ble_eq_true rfl, Nat.le_of_ble_eq_true rfl⟩) 9 0 rfl rfl [0, 1] [2] 3 rfl rfl rfl rfl [ia cI a_map 256 m_map_7] rfl rfl rfl rfl rfl (Nat.le_of_ble_eq_true rfl) rfl ⟨Nat.zero_le _, Nat.zero_le _⟩ dX9_findMap_16 (fun H locs hW => ?_)
        refine lv_if_eq (tgt := 42) hx hb dX9_findMap_19 (by decide) (fun c19 => ?_) (fun c19 => ?_)
        · rw [if_pos c19] at hF
          refine lv_iinc (v := (x1_7 + 1)) (lv' := [(1, .int (x1_7 + 1)), (0, .ref a_self)]) hx hb dX9_findMap_42 hl (k := 1) rfl rfl (by decide) rfl (fun ls hl => ?_)
          refine lv_goto (tgt := 7) hx hb dX9_findMap_45 (by decide) ?_
          cases hF
          exact ih7 _ _ _ (itr_in hN7) _ _ hW _ (lv_sub hl [1, 0] rfl)
        · rw [if_neg c19] at hF
          refine lv_aload_n hx hb dX9_findMap_22 rfl (lv_at hl 0 rfl) ?_
          refine va_get (D := D) (ci := 9) (v := .ref a_map) (C := RX9) (T := TX9) (N := 33) hx hb hts hi9 hown hK.1 hW.1 0 rfl rfl 7 (by decide) hw1 (fun _ h9 => h9) rfl dX9_findMap_23 ?_
          refine lv_aload_n hx hb dX9_findMap_26 rfl (lv_at hl 0 rfl) ?_
          refine va_get (D := D) (ci := 9) (v := .int m_n_7) (C := RX9) (T := TX9) (N := 33) hx hb hts hi9 hown hK.1 hW.1 0 rfl rfl 6 (by decide) hw0 (fun _ h9 => h9) rfl dX9_findMap_27 ?_
          refine lv_iload_n hx hb dX9_findMap_30 rfl (lv_at hl 1 rfl) ?_
          obtain ⟨g31, hF⟩ := gdI_some hF
          refine va_iast hx hb hK.1 hW.1 hW.2.1 hW.2.2 2 0 rfl rfl g31 dX9_findMap_31 (fun H locs hP hD hS => ?_)
          have hW : WS D A s [ob a_self 9 [Value.int m_signs, Value.ref a_block, Value.ref a_tape, Value.int m_bits, Value.int m_faultAt, Value.int m_isDone, Value.int m_n_7, Value.ref a_map, Value.ref a_places, Value.int m_symbols, Value.ref a_symbol, Value.int m_groups, Value.int m_tables, Value.ref a_lengths, Value.ref a_taken, Value.ref a_codes, Value.ref a_list, Value.ref a_weights, Value.ref a_whole, Value.int m_lays, Value.int m_laid, Value.ref a_row, Value.int m_read, Value.int m_wrong, Value.int m_readMany, Value.ref a_readMap, Value.int m_readTables, Value.int m_readGroups, Value.ref a_readTaken, Value.ref a_readLengths, Value.ref a_readCodes, Value.int m_found, Value.ref a_foundBlock], ia cI a_block 300 m_block, ia cI a_map 256 (upd m_map_7 m_n_7.toNatClampNeg x1_7)] H locs := ⟨hP, hD, hS⟩
          refine lv_aload_n hx hb dX9_findMap_32 rfl (lv_at hl 0 rfl) ?_
          refine lv_dup hx hb dX9_findMap_33 rfl ?_
          refine va_get (D := D) (ci := 9) (v := .int m_n_7) (C := RX9) (T := TX9) (N := 33) hx hb hts hi9 hown hK.1 hW.1 0 rfl rfl 6 (by decide) hw0 (fun _ h9 => h9) rfl dX9_findMap_34 ?_
          refine lv_iconst (v := 1) hx hb dX9_findMap_37 (by decide) ?_
          refine lv_iadd hx hb dX9_findMap_38 ?_
          refine va_put (D := D) (ci := 9) (v := .int (m_n_7 + (1 : Int32))) (ty := .int) (C := RX9) (T := TX9) (N := 33) hx hb hts hi9 tyX9 tyX9_ok nmX9 hown hK.1 hW.1 hW.2.1 hW.2.2 0 rfl rfl 6 (by decide) hw0 (fun _ h9 => h9) rfl (by decide +kernel) rfl rfl (Nat.le_of_ble_eq_true rfl) dX9_findMap_39 (fun H locs hP hD hS => ?_)
          have hW : WS D A s [ob a_self 9 [Value.int m_signs, Value.ref a_block, Value.ref a_tape, Value.int m_bits, Value.int m_faultAt, Value.int m_isDone, Value.int (m_n_7 + (1 : Int32)), Value.ref a_map, Value.ref a_places, Value.int m_symbols, Value.ref a_symbol, Value.int m_groups, Value.int m_tables, Value.ref a_lengths, Value.ref a_taken, Value.ref a_codes, Value.ref a_list, Value.ref a_weights, Value.ref a_whole, Value.int m_lays, Value.int m_laid, Value.ref a_row, Value.int m_read, Value.int m_wrong, Value.int m_readMany, Value.ref a_readMap, Value.int m_readTables, Value.int m_readGroups, Value.ref a_readTaken, Value.ref a_readLengths, Value.ref a_readCodes, Value.int m_found, Value.ref a_foundBlock], ia cI a_block 300 m_block, ia cI a_map 256 (upd m_map_7 m_n_7.toNatClampNeg x1_7)] H locs := ⟨hP, hD, hS⟩
          refine lv_iinc (v := (x1_7 + 1)) (lv' := [(1, .int (x1_7 + 1)), (0, .ref a_self)]) hx hb dX9_findMap_42 hl (k := 1) rfl rfl (by decide) rfl (fun ls hl => ?_)
          refine lv_goto (tgt := 7) hx hb dX9_findMap_45 (by decide) ?_
          cases hF
          exact ih7 _ _ _ (itr_in hN7) _ _ hW _ (lv_sub hl [1, 0] rfl)
  exact hL7 nn _ _ _ hI _ _ hW _ (lv_sub hl [1, 0] rfl)
abbrev rmMo_toFront : Room := { frames := 0, cells := 0, slots := 0, locals := 0 }
set_option maxHeartbeats 4000000 in
set_option maxRecDepth 100000 in
theorem kMo_toFront (l : Launch) (D : va_G) (cI cZ cO cG : ClassId) (a_p1 : Nat) (a_self : Nat) (n_p1 : Nat) (m_p1 : Nat → Int32) (x2 : Int32) {rv : Int32} {m_p1' : Nat → Int32} (hF : fMo_toFront n_p1 m_p1 x2 = some (rv, m_p1')) : CT l yX9_toFront wsX9_toFront rmMo_toFront D (tysG cI cZ cO cG) [.ref a_self, .ref a_p1, .int x2] [ia cI a_p1 n_p1 m_p1] (some (.int rv)) [ia cI a_p1 n_p1 m_p1'] := by
  refine CT.of (cc := cX9_toFront) (maxL := 5) (ret := (some .int)) (by decide) rfl (Nat.le_of_ble_eq_true rfl) ?_
  intro p e s m below meth c A ls hx hb hr hml hts hown hlocks hK hA hP hD hS hl
  generalize hargs : ([.ref a_self, .ref a_p1, .int x2] : List Value).toArray = args at hts ⊢
  generalize hQ : MQ below (ctQ D (some (.int rv)) [ia cI a_p1 n_p1 m_p1'] A) args s 0 0 A = Q
  have hl : lv_has ls 5 [(0, .ref a_self), (1, .ref a_p1), (2, .int x2)] := hl
  have hW : WS D A s [ia cI a_p1 n_p1 m_p1] s.heap [] := ⟨hP, hD, hS⟩
  clear hP hD hS
  unfold fMo_toFront at hF
  refine lv_aload_n hx hb dX9_toFront_0 rfl (lv_at hl 1 rfl) ?_
  refine lv_iload_n hx hb dX9_toFront_1 rfl (lv_at hl 2 rfl) ?_
  obtain ⟨g2, hF⟩ := gdI_some hF
  refine va_iald hx hb hK.1 hW.1 0 0 rfl rfl g2 dX9_toFront_2 ?_
  refine lv_istore_n (lv' := [(3, .int (m_p1 x2.toNatClampNeg)), (0, .ref a_self), (1, .ref a_p1), (2, .int x2)]) hx hb dX9_toFront_3 rfl hl (by decide) rfl (fun ls hl => ?_)
  refine lv_iload_n hx hb dX9_toFront_4 rfl (lv_at hl 3 rfl) ?_
  refine lv_istore (lv' := [(4, .int x2), (3, .int (m_p1 x2.toNatClampNeg)), (0, .ref a_self), (1, .ref a_p1), (2, .int x2)]) hx hb dX9_toFront_5 hl (by decide) rfl (fun ls hl => ?_)
  obtain ⟨m_p1_7ze, hI, hF⟩ := bd1_some hF
  obtain ⟨nn, hI⟩ := itrO_some hI
  have hX7 : ∀ (m_p1_7z : Nat → Int32), m_p1_7z = m_p1_7ze → ∀ (H : Heap) (locs : List Loc), WS D A s [ia cI a_p1 n_p1 m_p1_7z] H locs → ∀ ls : Array Slot, lv_has ls 5 [(1, .ref a_p1), (3, .int (m_p1 x2.toNatClampNeg))] → W p l e (headSpec wsX9_toFront rmMo_toFront).room s m args below meth c H locs 0 0 Q (F0 m 28 ls []) := by
    intro m_p1_7z he H locs hW ls hl
    subst he
    refine lv_aload_n hx hb dX9_toFront_28 rfl (lv_at hl 0 rfl) ?_
    refine lv_iconst (v := 0) hx hb dX9_toFront_29 (by decide) ?_
    refine lv_iload_n hx hb dX9_toFront_30 rfl (lv_at hl 1 rfl) ?_
    obtain ⟨g31, hF⟩ := gdI_some hF
    refine va_iast hx hb hK.1 hW.1 hW.2.1 hW.2.2 0 0 rfl rfl g31 dX9_toFront_31 (fun H locs hP hD hS => ?_)
    have hW : WS D A s [ia cI a_p1 n_p1 (upd m_p1_7z (0 : Int32).toNatClampNeg (m_p1 x2.toNatClampNeg))] H locs := ⟨hP, hD, hS⟩
    refine lv_iload_n hx hb dX9_toFront_32 rfl (lv_at hl 1 rfl) ?_
    cases hF
    subst hQ
    exact ct_iret hx hb hr hlocks hW.1 hW.2.2 dX9_toFront_33
  have hL7 : ∀ (n7 : Nat) (x4_7 : Int32) (m_p1_7 : Nat → Int32), itr (un2 (fMo_toFront_L7 n_p1)) n7 (x4_7, m_p1_7) = some m_p1_7ze → ∀ (H : Heap) (locs : List Loc), WS D A s [ia cI a_p1 n_p1 m_p1_7] H locs → ∀ ls : Array Slot, lv_has ls 5 [(1, .ref a_p1), (3, .int (m_p1 x2.toNatClampNeg)), (4, .int x4_7)] → W p l e (headSpec wsX9_toFront rmMo_toFront).room s m args below meth c H locs 0 0 Q (F0 m 7 ls []) := by
    intro n7
    induction n7 with
    | zero => intro x4_7 m_p1_7 hI; cases hI
    | succ n7 ih7 =>
      intro x4_7 m_p1_7 hI H locs hW ls hl
      obtain ⟨sr7, hF, hN7⟩ := itr_succ hI
      have hF : fMo_toFront_L7 n_p1 x4_7 m_p1_7 = some sr7 := hF
      unfold fMo_toFront_L7 at hF
      refine lv_iload hx hb dX9_toFront_7 (lv_at hl 2 rfl) ?_
      refine lv_if_le (tgt := 28) hx hb dX9_toFront_9 (by decide) (fun c9 => ?_) (fun c9 => ?_)
      · rw [if_pos c9] at hF
        cases hF
        exact hX7 _ (itr_out hN7) _ _ hW _ (lv_sub hl [0, 1] rfl)
      · rw [if_neg c9] at hF
        refine lv_aload_n hx hb dX9_toFront_12 rfl (lv_at hl 0 rfl) ?_
        refine lv_iload hx hb dX9_toFront_13 (lv_at hl 2 rfl) ?_
        refine lv_aload_n hx hb dX9_toFront_15 rfl (lv_at hl 0 rfl) ?_
        refine lv_iload hx hb dX9_toFront_16 (lv_at hl 2 rfl) ?_
        refine lv_iconst (v := 1) hx hb dX9_toFront_18 (by decide) ?_
        refine lv_isub hx hb dX9_toFront_19 ?_
        obtain ⟨g20, hF⟩ := gdI_some hF
        refine va_iald hx hb hK.1 hW.1 0 0 rfl rfl g20 dX9_toFront_20 ?_
        obtain ⟨g21, hF⟩ := gdI_some hF
        refine va_iast hx hb hK.1 hW.1 hW.2.1 hW.2.2 0 0 rfl rfl g21 dX9_toFront_21 (fun H locs hP hD hS => ?_)
        have hW : WS D A s [ia cI a_p1 n_p1 (upd m_p1_7 x4_7.toNatClampNeg (m_p1_7 (x4_7 - (1 : Int32)).toNatClampNeg))] H locs := ⟨hP, hD, hS⟩
        refine lv_iinc (v := (x4_7 + (-1))) (lv' := [(4, .int (x4_7 + (-1))), (1, .ref a_p1), (3, .int (m_p1 x2.toNatClampNeg))]) hx hb dX9_toFront_22 hl (k := 2) rfl rfl (by decide) rfl (fun ls hl => ?_)
        refine lv_goto (tgt := 7) hx hb dX9_toFront_25 (by decide) ?_
        cases hF
        exact ih7 _ _ (itr_in hN7) _ _ hW _ (lv_sub hl [1, 2, 0] rfl)
  exact hL7 nn _ _ hI _ _ hW _ (lv_sub hl [3, 1, 0] rfl)
abbrev rmMo_findPlaces : Room := { frames := 1, cells := 0, slots := 0, locals := 24 }
set_option maxHeartbeats 4000000 in
set_option maxRecDepth 100000 in
theorem kMo_findPlaces (l : Launch) (D : va_G) (cI cZ cO cG : ClassId) (a_self : Nat) (a_block : Nat) (a_tape : Nat) (a_map : Nat) (a_places : Nat) (a_symbol : Nat) (a_lengths : Nat) (a_taken : Nat) (a_codes : Nat) (a_list : Nat) (a_weights : Nat) (a_whole : Nat) (a_row : Nat) (a_readMap : Nat) (a_readTaken : Nat) (a_readLengths : Nat) (a_readCodes : Nat) (a_foundBlock : Nat) (m_signs : Int32) (m_bits : Int32) (m_faultAt : Int32) (m_isDone : Int32) (m_n : Int32) (m_symbols : Int32) (m_groups : Int32) (m_tables : Int32) (m_lays : Int32) (m_laid : Int32) (m_read : Int32) (m_wrong : Int32) (m_readMany : Int32) (m_readTables : Int32) (m_readGroups : Int32) (m_found : Int32) (m_block : Nat → Int32) (m_map : Nat → Int32) (m_places : Nat → Int32) (m_list : Nat → Int32) {m_places' : Nat → Int32} {m_list' : Nat → Int32} (hF : fMo_findPlaces m_signs m_n m_block m_map m_places m_list = some (m_places', m_list')) : CT l yX9_findPlaces wsX9_findPlaces rmMo_findPlaces D (tysG cI cZ cO cG) [.ref a_self] [ob a_self 9 [Value.int m_signs, Value.ref a_block, Value.ref a_tape, Value.int m_bits, Value.int m_faultAt, Value.int m_isDone, Value.int m_n, Value.ref a_map, Value.ref a_places, Value.int m_symbols, Value.ref a_symbol, Value.int m_groups, Value.int m_tables, Value.ref a_lengths, Value.ref a_taken, Value.ref a_codes, Value.ref a_list, Value.ref a_weights, Value.ref a_whole, Value.int m_lays, Value.int m_laid, Value.ref a_row, Value.int m_read, Value.int m_wrong, Value.int m_readMany, Value.ref a_readMap, Value.int m_readTables, Value.int m_readGroups, Value.ref a_readTaken, Value.ref a_readLengths, Value.ref a_readCodes, Value.int m_found, Value.ref a_foundBlock], ia cI a_block 300 m_block, ia cI a_map 256 m_map, ia cI a_places 300 m_places, ia cI a_list 256 m_list] none [ob a_self 9 [Value.int m_signs, Value.ref a_block, Value.ref a_tape, Value.int m_bits, Value.int m_faultAt, Value.int m_isDone, Value.int m_n, Value.ref a_map, Value.ref a_places, Value.int m_symbols, Value.ref a_symbol, Value.int m_groups, Value.int m_tables, Value.ref a_lengths, Value.ref a_taken, Value.ref a_codes, Value.ref a_list, Value.ref a_weights, Value.ref a_whole, Value.int m_lays, Value.int m_laid, Value.ref a_row, Value.int m_read, Value.int m_wrong, Value.int m_readMany, Value.ref a_readMap, Value.int m_readTables, Value.int m_readGroups, Value.ref a_readTaken, Value.ref a_readLengths, Value.ref a_readCodes, Value.int m_found, Value.ref a_foundBlock], ia cI a_block 300 m_block, ia cI a_map 256 m_map, ia cI a_places 300 m_places', ia cI a_list 256 m_list'] := by
  refine CT.of (cc := cX9_findPlaces) (maxL := 4) (ret := none) (by decide) rfl (Nat.le_of_ble_eq_true rfl) ?_
  intro p e s m below meth c A ls hx hb hr hml hts hown hlocks hK hA hP hD hS hl
  generalize hargs : ([.ref a_self] : List Value).toArray = args at hts ⊢
  generalize hQ : MQ below (ctQ D none [ob a_self 9 [Value.int m_signs, Value.ref a_block, Value.ref a_tape, Value.int m_bits, Value.int m_faultAt, Value.int m_isDone, Value.int m_n, Value.ref a_map, Value.ref a_places, Value.int m_symbols, Value.ref a_symbol, Value.int m_groups, Value.int m_tables, Value.ref a_lengths, Value.ref a_taken, Value.ref a_codes, Value.ref a_list, Value.ref a_weights, Value.ref a_whole, Value.int m_lays, Value.int m_laid, Value.ref a_row, Value.int m_read, Value.int m_wrong, Value.int m_readMany, Value.ref a_readMap, Value.int m_readTables, Value.int m_readGroups, Value.ref a_readTaken, Value.ref a_readLengths, Value.ref a_readCodes, Value.int m_found, Value.ref a_foundBlock], ia cI a_block 300 m_block, ia cI a_map 256 m_map, ia cI a_places 300 m_places', ia cI a_list 256 m_list'] A) args s 0 0 A = Q
  have hl : lv_has ls 4 [(0, .ref a_self)] := hl
  have hW : WS D A s [ob a_self 9 [Value.int m_signs, Value.ref a_block, Value.ref a_tape, Value.int m_bits, Value.int m_faultAt, Value.int m_isDone, Value.int m_n, Value.ref a_map, Value.ref a_places, Value.int m_symbols, Value.ref a_symbol, Value.int m_groups, Value.int m_tables, Value.ref a_lengths, Value.ref a_taken, Value.ref a_codes, Value.ref a_list, Value.ref a_weights, Value.ref a_whole, Value.int m_lays, Value.int m_laid, Value.ref a_row, Value.int m_read, Value.int m_wrong, Value.int m_readMany, Value.ref a_readMap, Value.int m_readTables, Value.int m_readGroups, Value.ref a_readTaken, Value.ref a_readLengths, Value.ref a_readCodes, Value.int m_found, Value.ref a_foundBlock], ia cI a_block 300 m_block, ia cI a_map 256 m_map, ia cI a_places 300 m_places, ia cI a_list 256 m_list] s.heap [] := ⟨hP, hD, hS⟩
  clear hP hD hS
  unfold fMo_findPlaces at hF
  have hw0 := hts (Cond.fieldLink RX9 70 "MoveFrontsModel" "signs" "I") (by decide +kernel)
  have hw1 := hts (Cond.fieldLink RX9 24 "MoveFrontsModel" "places" "[I") (by decide +kernel)
  have hw2 := hts (Cond.fieldLink RX9 39 "MoveFrontsModel" "list" "[I") (by decide +kernel)
  have hw3 := hts (Cond.fieldLink RX9 7 "MoveFrontsModel" "block" "[I") (by decide +kernel)
  have hw4 := hts (Cond.fieldLink RX9 106 "MoveFrontsModel" "n" "I") (by decide +kernel)
  have hw5 := hts (Cond.fieldLink RX9 21 "MoveFrontsModel" "map" "[I") (by decide +kernel)
  have hi9 : ∀ w ∈ u_ws RX9 TX9 33, w ∈ wsX9_findPlaces := by decide +kernel
  refine lv_iconst (v := 0) hx hb dX9_findPlaces_0 (by decide) ?_
  refine lv_istore_n (lv' := [(1, .int (0 : Int32)), (0, .ref a_self)]) hx hb dX9_findPlaces_1 rfl hl (by decide) rfl (fun ls hl => ?_)
  obtain ⟨m_list_2ze, hI, hF⟩ := bd1_some hF
  obtain ⟨nn, hI⟩ := itrO_some hI
  have hX2 : ∀ (m_list_2z : Nat → Int32), m_list_2z = m_list_2ze → ∀ (H : Heap) (locs : List Loc), WS D A s [ob a_self 9 [Value.int m_signs, Value.ref a_block, Value.ref a_tape, Value.int m_bits, Value.int m_faultAt, Value.int m_isDone, Value.int m_n, Value.ref a_map, Value.ref a_places, Value.int m_symbols, Value.ref a_symbol, Value.int m_groups, Value.int m_tables, Value.ref a_lengths, Value.ref a_taken, Value.ref a_codes, Value.ref a_list, Value.ref a_weights, Value.ref a_whole, Value.int m_lays, Value.int m_laid, Value.ref a_row, Value.int m_read, Value.int m_wrong, Value.int m_readMany, Value.ref a_readMap, Value.int m_readTables, Value.int m_readGroups, Value.ref a_readTaken, Value.ref a_readLengths, Value.ref a_readCodes, Value.int m_found, Value.ref a_foundBlock], ia cI a_block 300 m_block, ia cI a_map 256 m_map, ia cI a_places 300 m_places, ia cI a_list 256 m_list_2z] H locs → ∀ ls : Array Slot, lv_has ls 4 [(0, .ref a_self)] → W p l e (headSpec wsX9_findPlaces rmMo_findPlaces).room s m args below meth c H locs 0 0 Q (F0 m 28 ls []) := by
    intro m_list_2z he H locs hW ls hl
    subst he
    refine lv_iconst (v := 0) hx hb dX9_findPlaces_28 (by decide) ?_
    refine lv_istore_n (lv' := [(1, .int (0 : Int32)), (0, .ref a_self)]) hx hb dX9_findPlaces_29 rfl hl (by decide) rfl (fun ls hl => ?_)
    obtain ⟨m_places_30ze, m_list_30ze, hI, hF⟩ := bd2_some hF
    obtain ⟨nn, hI⟩ := itrO_some hI
    have hX30 : ∀ (m_places_30z : Nat → Int32) (m_list_30z : Nat → Int32), (m_places_30z, m_list_30z) = (m_places_30ze, m_list_30ze) → ∀ (H : Heap) (locs : List Loc), WS D A s [ob a_self 9 [Value.int m_signs, Value.ref a_block, Value.ref a_tape, Value.int m_bits, Value.int m_faultAt, Value.int m_isDone, Value.int m_n, Value.ref a_map, Value.ref a_places, Value.int m_symbols, Value.ref a_symbol, Value.int m_groups, Value.int m_tables, Value.ref a_lengths, Value.ref a_taken, Value.ref a_codes, Value.ref a_list, Value.ref a_weights, Value.ref a_whole, Value.int m_lays, Value.int m_laid, Value.ref a_row, Value.int m_read, Value.int m_wrong, Value.int m_readMany, Value.ref a_readMap, Value.int m_readTables, Value.int m_readGroups, Value.ref a_readTaken, Value.ref a_readLengths, Value.ref a_readCodes, Value.int m_found, Value.ref a_foundBlock], ia cI a_block 300 m_block, ia cI a_map 256 m_map, ia cI a_places 300 m_places_30z, ia cI a_list 256 m_list_30z] H locs → ∀ ls : Array Slot, lv_has ls 4 [] → W p l e (headSpec wsX9_findPlaces rmMo_findPlaces).room s m args below meth c H locs 0 0 Q (F0 m 84 ls []) := by
      intro m_places_30z m_list_30z he H locs hW ls hl
      obtain ⟨hz0, hy0⟩ := Prod.mk.inj he
      subst hz0
      subst hy0
      cases hF
      subst hQ
      exact ct_vret hx hb hr hlocks hW.1 hW.2.2 dX9_findPlaces_84
    have hL30 : ∀ (n30 : Nat) (x1_30 : Int32) (m_places_30 : Nat → Int32) (m_list_30 : Nat → Int32), itr (un3 (fMo_findPlaces_L30 m_signs m_block)) n30 (x1_30, m_places_30, m_list_30) = some (m_places_30ze, m_list_30ze) → ∀ (H : Heap) (locs : List Loc), WS D A s [ob a_self 9 [Value.int m_signs, Value.ref a_block, Value.ref a_tape, Value.int m_bits, Value.int m_faultAt, Value.int m_isDone, Value.int m_n, Value.ref a_map, Value.ref a_places, Value.int m_symbols, Value.ref a_symbol, Value.int m_groups, Value.int m_tables, Value.ref a_lengths, Value.ref a_taken, Value.ref a_codes, Value.ref a_list, Value.ref a_weights, Value.ref a_whole, Value.int m_lays, Value.int m_laid, Value.ref a_row, Value.int m_read, Value.int m_wrong, Value.int m_readMany, Value.ref a_readMap, Value.int m_readTables, Value.int m_readGroups, Value.ref a_readTaken, Value.ref a_readLengths, Value.ref a_readCodes, Value.int m_found, Value.ref a_foundBlock], ia cI a_block 300 m_block, ia cI a_map 256 m_map, ia cI a_places 300 m_places_30, ia cI a_list 256 m_list_30] H locs → ∀ ls : Array Slot, lv_has ls 4 [(0, .ref a_self), (1, .int x1_30)] → W p l e (headSpec wsX9_findPlaces rmMo_findPlaces).room s m args below meth c H locs 0 0 Q (F0 m 30 ls []) := by
      intro n30
      induction n30 with
      | zero => intro x1_30 m_places_30 m_list_30 hI; cases hI
      | succ n30 ih30 =>
        intro x1_30 m_places_30 m_list_30 hI H locs hW ls hl
        obtain ⟨sr30, hF, hN30⟩ := itr_succ hI
        have hF : fMo_findPlaces_L30 m_signs m_block x1_30 m_places_30 m_list_30 = some sr30 := hF
        unfold fMo_findPlaces_L30 at hF
        refine lv_iload_n hx hb dX9_findPlaces_30 rfl (lv_at hl 1 rfl) ?_
        refine lv_aload_n hx hb dX9_findPlaces_31 rfl (lv_at hl 0 rfl) ?_
        refine va_get (D := D) (ci := 9) (v := .int m_signs) (C := RX9) (T := TX9) (N := 33) hx hb hts hi9 hown hK.1 hW.1 0 rfl rfl 0 (by decide) hw0 (fun _ h9 => h9) rfl dX9_findPlaces_32 ?_
        refine lv_icmp_ge (tgt := 84) hx hb dX9_findPlaces_35 (by decide) (fun c35 => ?_) (fun c35 => ?_)
        · rw [if_pos c35] at hF
          cases hF
          exact hX30 _ _ (itr_out hN30) _ _ hW _ (lv_sub hl [] rfl)
        · rw [if_neg c35] at hF
          refine lv_iconst (v := 0) hx hb dX9_findPlaces_38 (by decide) ?_
          refine lv_istore_n (lv' := [(2, .int (0 : Int32)), (0, .ref a_self), (1, .int x1_30)]) hx hb dX9_findPlaces_39 rfl hl (by decide) rfl (fun ls hl => ?_)
          obtain ⟨x2_40ze, hI, hF⟩ := bd1_some hF
          obtain ⟨nn, hI⟩ := itrO_some hI
          have hX40 : ∀ (x2_40z : Int32), x2_40z = x2_40ze → ∀ (H : Heap) (locs : List Loc), WS D A s [ob a_self 9 [Value.int m_signs, Value.ref a_block, Value.ref a_tape, Value.int m_bits, Value.int m_faultAt, Value.int m_isDone, Value.int m_n, Value.ref a_map, Value.ref a_places, Value.int m_symbols, Value.ref a_symbol, Value.int m_groups, Value.int m_tables, Value.ref a_lengths, Value.ref a_taken, Value.ref a_codes, Value.ref a_list, Value.ref a_weights, Value.ref a_whole, Value.int m_lays, Value.int m_laid, Value.ref a_row, Value.int m_read, Value.int m_wrong, Value.int m_readMany, Value.ref a_readMap, Value.int m_readTables, Value.int m_readGroups, Value.ref a_readTaken, Value.ref a_readLengths, Value.ref a_readCodes, Value.int m_found, Value.ref a_foundBlock], ia cI a_block 300 m_block, ia cI a_map 256 m_map, ia cI a_places 300 m_places_30, ia cI a_list 256 m_list_30] H locs → ∀ ls : Array Slot, lv_has ls 4 [(0, .ref a_self), (1, .int x1_30), (2, .int x2_40z)] → W p l e (headSpec wsX9_findPlaces rmMo_findPlaces).room s m args below meth c H locs 0 0 Q (F0 m 61 ls []) := by
            intro x2_40z he H locs hW ls hl
            subst he
            refine lv_aload_n hx hb dX9_findPlaces_61 rfl (lv_at hl 0 rfl) ?_
            refine va_get (D := D) (ci := 9) (v := .ref a_places) (C := RX9) (T := TX9) (N := 33) hx hb hts hi9 hown hK.1 hW.1 0 rfl rfl 8 (by decide) hw1 (fun _ h9 => h9) rfl dX9_findPlaces_62 ?_
            refine lv_iload_n hx hb dX9_findPlaces_65 rfl (lv_at hl 1 rfl) ?_
            refine lv_iload_n hx hb dX9_findPlaces_66 rfl (lv_at hl 2 rfl) ?_
            obtain ⟨g67, hF⟩ := gdI_some hF
            refine va_iast hx hb hK.1 hW.1 hW.2.1 hW.2.2 3 0 rfl rfl g67 dX9_findPlaces_67 (fun H locs hP hD hS => ?_)
            have hW : WS D A s [ob a_self 9 [Value.int m_signs, Value.ref a_block, Value.ref a_tape, Value.int m_bits, Value.int m_faultAt, Value.int m_isDone, Value.int m_n, Value.ref a_map, Value.ref a_places, Value.int m_symbols, Value.ref a_symbol, Value.int m_groups, Value.int m_tables, Value.ref a_lengths, Value.ref a_taken, Value.ref a_codes, Value.ref a_list, Value.ref a_weights, Value.ref a_whole, Value.int m_lays, Value.int m_laid, Value.ref a_row, Value.int m_read, Value.int m_wrong, Value.int m_readMany, Value.ref a_readMap, Value.int m_readTables, Value.int m_readGroups, Value.ref a_readTaken, Value.ref a_readLengths, Value.ref a_readCodes, Value.int m_found, Value.ref a_foundBlock], ia cI a_block 300 m_block, ia cI a_map 256 m_map, ia cI a_places 300 (upd m_places_30 x1_30.toNatClampNeg x2_40z), ia cI a_list 256 m_list_30] H locs := ⟨hP, hD, hS⟩
            refine lv_aload_n hx hb dX9_findPlaces_68 rfl (lv_at hl 0 rfl) ?_
            refine lv_aload_n hx hb dX9_findPlaces_69 rfl (lv_at hl 0 rfl) ?_
            refine va_get (D := D) (ci := 9) (v := .ref a_list) (C := RX9) (T := TX9) (N := 33) hx hb hts hi9 hown hK.1 hW.1 0 rfl rfl 16 (by decide) hw2 (fun _ h9 => h9) rfl dX9_findPlaces_70 ?_
            refine lv_iload_n hx hb dX9_findPlaces_73 rfl (lv_at hl 2 rfl) ?_
            obtain ⟨r_74, m_p1_74, e74, hF⟩ := bd2_some hF
            refine ctV (wn := [ob a_self 9 [Value.int m_signs, Value.ref a_block, Value.ref a_tape, Value.int m_bits, Value.int m_faultAt, Value.int m_isDone, Value.int m_n, Value.ref a_map, Value.ref a_places, Value.int m_symbols, Value.ref a_symbol, Value.int m_groups, Value.int m_tables, Value.ref a_lengths, Value.ref a_taken, Value.ref a_codes, Value.ref a_list, Value.ref a_weights, Value.ref a_whole, Value.int m_lays, Value.int m_laid, Value.ref a_row, Value.int m_read, Value.int m_wrong, Value.int m_readMany, Value.ref a_readMap, Value.int m_readTables, Value.int m_readGroups, Value.ref a_readTaken, Value.ref a_readLengths, Value.ref a_readCodes, Value.int m_found, Value.ref a_foundBlock], ia cI a_block 300 m_block, ia cI a_map 256 m_map, ia cI a_places 300 (upd m_places_30 x1_30.toNatClampNeg x2_40z), ia cI a_list 256 m_p1_74]) (r := (RX9, TX9, 33)) (As := [.ref a_list, .int x2_40z]) (rest := []) hx hb hml hown hts hK hW hA hl.1 (kMo_toFront l D cI cZ cO cG a_list a_self 256 m_list_30 x2_40z e74) (cwV 2 hts gX9_findPlaces_X9_toFront rfl rfl rfl (by decide +kernel) ⟨Nat.le_of_ble_eq_true rfl, Nat.le_of_ble_eq_true rfl⟩) 9 0 rfl rfl [4] [0, 1, 2, 3] 5 rfl rfl rfl rfl [ob a_self 9 [Value.int m_signs, Value.ref a_block, Value.ref a_tape, Value.int m_bits, Value.int m_faultAt, Value.int m_isDone, Value.int m_n, Value.ref a_map, Value.ref a_places, Value.int m_symbols, Value.ref a_symbol, Value.int m_groups, Value.int m_tables, Value.ref a_lengths, Value.ref a_taken, Value.ref a_codes, Value.ref a_list, Value.ref a_weights, Value.ref a_whole, Value.int m_lays, Value.int m_laid, Value.ref a_row, Value.int m_read, Value.int m_wrong, Value.int m_readMany, Value.ref a_readMap, Value.int m_readTables, Value.int m_readGroups, Value.ref a_readTaken, Value.ref a_readLengths, Value.ref a_readCodes, Value.int m_found, Value.ref a_foundBlock], ia cI a_block 300 m_block, ia cI a_map 256 m_map, ia cI a_places 300 (upd m_places_30 x1_30.toNatClampNeg x2_40z)] rfl rfl rfl rfl rfl (Nat.le_of_ble_eq_true rfl) rfl ⟨Nat.zero_le _, Nat.zero_le _⟩ dX9_findPlaces_74 (fun H locs hW => ?_)
            refine lv_istore_n (lv' := [(3, .int r_74), (0, .ref a_self), (1, .int x1_30), (2, .int x2_40z)]) hx hb dX9_findPlaces_77 rfl hl (by decide) rfl (fun ls hl => ?_)
            refine lv_iinc (v := (x1_30 + 1)) (lv' := [(1, .int (x1_30 + 1)), (3, .int r_74), (0, .ref a_self), (2, .int x2_40z)]) hx hb dX9_findPlaces_78 hl (k := 2) rfl rfl (by decide) rfl (fun ls hl => ?_)
            refine lv_goto (tgt := 30) hx hb dX9_findPlaces_81 (by decide) ?_
            cases hF
            exact ih30 _ _ _ (itr_in hN30) _ _ hW _ (lv_sub hl [2, 0] rfl)
          have hL40 : ∀ (n40 : Nat) (x2_40 : Int32), itr (un1 (fMo_findPlaces_L40 m_block x1_30 m_list_30)) n40 x2_40 = some x2_40ze → ∀ (H : Heap) (locs : List Loc), WS D A s [ob a_self 9 [Value.int m_signs, Value.ref a_block, Value.ref a_tape, Value.int m_bits, Value.int m_faultAt, Value.int m_isDone, Value.int m_n, Value.ref a_map, Value.ref a_places, Value.int m_symbols, Value.ref a_symbol, Value.int m_groups, Value.int m_tables, Value.ref a_lengths, Value.ref a_taken, Value.ref a_codes, Value.ref a_list, Value.ref a_weights, Value.ref a_whole, Value.int m_lays, Value.int m_laid, Value.ref a_row, Value.int m_read, Value.int m_wrong, Value.int m_readMany, Value.ref a_readMap, Value.int m_readTables, Value.int m_readGroups, Value.ref a_readTaken, Value.ref a_readLengths, Value.ref a_readCodes, Value.int m_found, Value.ref a_foundBlock], ia cI a_block 300 m_block, ia cI a_map 256 m_map, ia cI a_places 300 m_places_30, ia cI a_list 256 m_list_30] H locs → ∀ ls : Array Slot, lv_has ls 4 [(0, .ref a_self), (1, .int x1_30), (2, .int x2_40)] → W p l e (headSpec wsX9_findPlaces rmMo_findPlaces).room s m args below meth c H locs 0 0 Q (F0 m 40 ls []) := by
            intro n40
            induction n40 with
            | zero => intro x2_40 hI; cases hI
            | succ n40 ih40 =>
              intro x2_40 hI H locs hW ls hl
              obtain ⟨sr40, hF, hN40⟩ := itr_succ hI
              have hF : fMo_findPlaces_L40 m_block x1_30 m_list_30 x2_40 = some sr40 := hF
              unfold fMo_findPlaces_L40 at hF
              refine lv_aload_n hx hb dX9_findPlaces_40 rfl (lv_at hl 0 rfl) ?_
              refine va_get (D := D) (ci := 9) (v := .ref a_list) (C := RX9) (T := TX9) (N := 33) hx hb hts hi9 hown hK.1 hW.1 0 rfl rfl 16 (by decide) hw2 (fun _ h9 => h9) rfl dX9_findPlaces_41 ?_
              refine lv_iload_n hx hb dX9_findPlaces_44 rfl (lv_at hl 2 rfl) ?_
              obtain ⟨g45, hF⟩ := gdI_some hF
              refine va_iald hx hb hK.1 hW.1 4 0 rfl rfl g45 dX9_findPlaces_45 ?_
              refine lv_aload_n hx hb dX9_findPlaces_46 rfl (lv_at hl 0 rfl) ?_
              refine va_get (D := D) (ci := 9) (v := .ref a_block) (C := RX9) (T := TX9) (N := 33) hx hb hts hi9 hown hK.1 hW.1 0 rfl rfl 1 (by decide) hw3 (fun _ h9 => h9) rfl dX9_findPlaces_47 ?_
              refine lv_iload_n hx hb dX9_findPlaces_50 rfl (lv_at hl 1 rfl) ?_
              obtain ⟨g51, hF⟩ := gdI_some hF
              refine va_iald hx hb hK.1 hW.1 1 0 rfl rfl g51 dX9_findPlaces_51 ?_
              refine lv_icmp_eq (tgt := 61) hx hb dX9_findPlaces_52 (by decide) (fun c52 => ?_) (fun c52 => ?_)
              · rw [if_pos c52] at hF
                cases hF
                exact hX40 _ (itr_out hN40) _ _ hW _ (lv_sub hl [0, 1, 2] rfl)
              · rw [if_neg c52] at hF
                refine lv_iinc (v := (x2_40 + 1)) (lv' := [(2, .int (x2_40 + 1)), (0, .ref a_self), (1, .int x1_30)]) hx hb dX9_findPlaces_55 hl (k := 2) rfl rfl (by decide) rfl (fun ls hl => ?_)
                refine lv_goto (tgt := 40) hx hb dX9_findPlaces_58 (by decide) ?_
                cases hF
                exact ih40 _ (itr_in hN40) _ _ hW _ (lv_sub hl [1, 2, 0] rfl)
          exact hL40 nn _ hI _ _ hW _ (lv_sub hl [1, 2, 0] rfl)
    exact hL30 nn _ _ _ hI _ _ hW _ (lv_sub hl [1, 0] rfl)
  have hL2 : ∀ (n2 : Nat) (x1_2 : Int32) (m_list_2 : Nat → Int32), itr (un2 (fMo_findPlaces_L2 m_n m_map)) n2 (x1_2, m_list_2) = some m_list_2ze → ∀ (H : Heap) (locs : List Loc), WS D A s [ob a_self 9 [Value.int m_signs, Value.ref a_block, Value.ref a_tape, Value.int m_bits, Value.int m_faultAt, Value.int m_isDone, Value.int m_n, Value.ref a_map, Value.ref a_places, Value.int m_symbols, Value.ref a_symbol, Value.int m_groups, Value.int m_tables, Value.ref a_lengths, Value.ref a_taken, Value.ref a_codes, Value.ref a_list, Value.ref a_weights, Value.ref a_whole, Value.int m_lays, Value.int m_laid, Value.ref a_row, Value.int m_read, Value.int m_wrong, Value.int m_readMany, Value.ref a_readMap, Value.int m_readTables, Value.int m_readGroups, Value.ref a_readTaken, Value.ref a_readLengths, Value.ref a_readCodes, Value.int m_found, Value.ref a_foundBlock], ia cI a_block 300 m_block, ia cI a_map 256 m_map, ia cI a_places 300 m_places, ia cI a_list 256 m_list_2] H locs → ∀ ls : Array Slot, lv_has ls 4 [(0, .ref a_self), (1, .int x1_2)] → W p l e (headSpec wsX9_findPlaces rmMo_findPlaces).room s m args below meth c H locs 0 0 Q (F0 m 2 ls []) := by
    intro n2
    induction n2 with
    | zero => intro x1_2 m_list_2 hI; cases hI
    | succ n2 ih2 =>
      intro x1_2 m_list_2 hI H locs hW ls hl
      obtain ⟨sr2, hF, hN2⟩ := itr_succ hI
      have hF : fMo_findPlaces_L2 m_n m_map x1_2 m_list_2 = some sr2 := hF
      unfold fMo_findPlaces_L2 at hF
      refine lv_iload_n hx hb dX9_findPlaces_2 rfl (lv_at hl 1 rfl) ?_
      refine lv_aload_n hx hb dX9_findPlaces_3 rfl (lv_at hl 0 rfl) ?_
      refine va_get (D := D) (ci := 9) (v := .int m_n) (C := RX9) (T := TX9) (N := 33) hx hb hts hi9 hown hK.1 hW.1 0 rfl rfl 6 (by decide) hw4 (fun _ h9 => h9) rfl dX9_findPlaces_4 ?_
      refine lv_icmp_ge (tgt := 28) hx hb dX9_findPlaces_7 (by decide) (fun c7 => ?_) (fun c7 => ?_)
      · rw [if_pos c7] at hF
        cases hF
        exact hX2 _ (itr_out hN2) _ _ hW _ (lv_sub hl [0] rfl)
      · rw [if_neg c7] at hF
        refine lv_aload_n hx hb dX9_findPlaces_10 rfl (lv_at hl 0 rfl) ?_
        refine va_get (D := D) (ci := 9) (v := .ref a_list) (C := RX9) (T := TX9) (N := 33) hx hb hts hi9 hown hK.1 hW.1 0 rfl rfl 16 (by decide) hw2 (fun _ h9 => h9) rfl dX9_findPlaces_11 ?_
        refine lv_iload_n hx hb dX9_findPlaces_14 rfl (lv_at hl 1 rfl) ?_
        refine lv_aload_n hx hb dX9_findPlaces_15 rfl (lv_at hl 0 rfl) ?_
        refine va_get (D := D) (ci := 9) (v := .ref a_map) (C := RX9) (T := TX9) (N := 33) hx hb hts hi9 hown hK.1 hW.1 0 rfl rfl 7 (by decide) hw5 (fun _ h9 => h9) rfl dX9_findPlaces_16 ?_
        refine lv_iload_n hx hb dX9_findPlaces_19 rfl (lv_at hl 1 rfl) ?_
        obtain ⟨g20, hF⟩ := gdI_some hF
        refine va_iald hx hb hK.1 hW.1 2 0 rfl rfl g20 dX9_findPlaces_20 ?_
        obtain ⟨g21, hF⟩ := gdI_some hF
        refine va_iast hx hb hK.1 hW.1 hW.2.1 hW.2.2 4 0 rfl rfl g21 dX9_findPlaces_21 (fun H locs hP hD hS => ?_)
        have hW : WS D A s [ob a_self 9 [Value.int m_signs, Value.ref a_block, Value.ref a_tape, Value.int m_bits, Value.int m_faultAt, Value.int m_isDone, Value.int m_n, Value.ref a_map, Value.ref a_places, Value.int m_symbols, Value.ref a_symbol, Value.int m_groups, Value.int m_tables, Value.ref a_lengths, Value.ref a_taken, Value.ref a_codes, Value.ref a_list, Value.ref a_weights, Value.ref a_whole, Value.int m_lays, Value.int m_laid, Value.ref a_row, Value.int m_read, Value.int m_wrong, Value.int m_readMany, Value.ref a_readMap, Value.int m_readTables, Value.int m_readGroups, Value.ref a_readTaken, Value.ref a_readLengths, Value.ref a_readCodes, Value.int m_found, Value.ref a_foundBlock], ia cI a_block 300 m_block, ia cI a_map 256 m_map, ia cI a_places 300 m_places, ia cI a_list 256 (upd m_list_2 x1_2.toNatClampNeg (m_map x1_2.toNatClampNeg))] H locs := ⟨hP, hD, hS⟩
        refine lv_iinc (v := (x1_2 + 1)) (lv' := [(1, .int (x1_2 + 1)), (0, .ref a_self)]) hx hb dX9_findPlaces_22 hl (k := 1) rfl rfl (by decide) rfl (fun ls hl => ?_)
        refine lv_goto (tgt := 2) hx hb dX9_findPlaces_25 (by decide) ?_
        cases hF
        exact ih2 _ _ (itr_in hN2) _ _ hW _ (lv_sub hl [1, 0] rfl)
  exact hL2 nn _ _ hI _ _ hW _ (lv_sub hl [1, 0] rfl)
abbrev rmMo_tellRun : Room := { frames := 0, cells := 0, slots := 0, locals := 0 }
set_option maxHeartbeats 4000000 in
set_option maxRecDepth 100000 in
theorem kMo_tellRun (l : Launch) (D : va_G) (cI cZ cO cG : ClassId) (a_self : Nat) (a_block : Nat) (a_tape : Nat) (a_map : Nat) (a_places : Nat) (a_symbol : Nat) (a_lengths : Nat) (a_taken : Nat) (a_codes : Nat) (a_list : Nat) (a_weights : Nat) (a_whole : Nat) (a_row : Nat) (a_readMap : Nat) (a_readTaken : Nat) (a_readLengths : Nat) (a_readCodes : Nat) (a_foundBlock : Nat) (m_signs : Int32) (m_bits : Int32) (m_faultAt : Int32) (m_isDone : Int32) (m_n : Int32) (m_symbols : Int32) (m_groups : Int32) (m_tables : Int32) (m_lays : Int32) (m_laid : Int32) (m_read : Int32) (m_wrong : Int32) (m_readMany : Int32) (m_readTables : Int32) (m_readGroups : Int32) (m_found : Int32) (m_symbol : Nat → Int32) (x1 : Int32) {m_symbols' : Int32} {m_symbol' : Nat → Int32} (hF : fMo_tellRun m_symbols m_symbol x1 = some (m_symbols', m_symbol')) : CT l yX9_tellRun wsX9_tellRun rmMo_tellRun D (tysG cI cZ cO cG) [.ref a_self, .int x1] [ob a_self 9 [Value.int m_signs, Value.ref a_block, Value.ref a_tape, Value.int m_bits, Value.int m_faultAt, Value.int m_isDone, Value.int m_n, Value.ref a_map, Value.ref a_places, Value.int m_symbols, Value.ref a_symbol, Value.int m_groups, Value.int m_tables, Value.ref a_lengths, Value.ref a_taken, Value.ref a_codes, Value.ref a_list, Value.ref a_weights, Value.ref a_whole, Value.int m_lays, Value.int m_laid, Value.ref a_row, Value.int m_read, Value.int m_wrong, Value.int m_readMany, Value.ref a_readMap, Value.int m_readTables, Value.int m_readGroups, Value.ref a_readTaken, Value.ref a_readLengths, Value.ref a_readCodes, Value.int m_found, Value.ref a_foundBlock], ia cI a_symbol 301 m_symbol] none [ob a_self 9 [Value.int m_signs, Value.ref a_block, Value.ref a_tape, Value.int m_bits, Value.int m_faultAt, Value.int m_isDone, Value.int m_n, Value.ref a_map, Value.ref a_places, Value.int m_symbols', Value.ref a_symbol, Value.int m_groups, Value.int m_tables, Value.ref a_lengths, Value.ref a_taken, Value.ref a_codes, Value.ref a_list, Value.ref a_weights, Value.ref a_whole, Value.int m_lays, Value.int m_laid, Value.ref a_row, Value.int m_read, Value.int m_wrong, Value.int m_readMany, Value.ref a_readMap, Value.int m_readTables, Value.int m_readGroups, Value.ref a_readTaken, Value.ref a_readLengths, Value.ref a_readCodes, Value.int m_found, Value.ref a_foundBlock], ia cI a_symbol 301 m_symbol'] := by
  refine CT.of (cc := cX9_tellRun) (maxL := 3) (ret := none) (by decide) rfl (Nat.le_of_ble_eq_true rfl) ?_
  intro p e s m below meth c A ls hx hb hr hml hts hown hlocks hK hA hP hD hS hl
  generalize hargs : ([.ref a_self, .int x1] : List Value).toArray = args at hts ⊢
  generalize hQ : MQ below (ctQ D none [ob a_self 9 [Value.int m_signs, Value.ref a_block, Value.ref a_tape, Value.int m_bits, Value.int m_faultAt, Value.int m_isDone, Value.int m_n, Value.ref a_map, Value.ref a_places, Value.int m_symbols', Value.ref a_symbol, Value.int m_groups, Value.int m_tables, Value.ref a_lengths, Value.ref a_taken, Value.ref a_codes, Value.ref a_list, Value.ref a_weights, Value.ref a_whole, Value.int m_lays, Value.int m_laid, Value.ref a_row, Value.int m_read, Value.int m_wrong, Value.int m_readMany, Value.ref a_readMap, Value.int m_readTables, Value.int m_readGroups, Value.ref a_readTaken, Value.ref a_readLengths, Value.ref a_readCodes, Value.int m_found, Value.ref a_foundBlock], ia cI a_symbol 301 m_symbol'] A) args s 0 0 A = Q
  have hl : lv_has ls 3 [(0, .ref a_self), (1, .int x1)] := hl
  have hW : WS D A s [ob a_self 9 [Value.int m_signs, Value.ref a_block, Value.ref a_tape, Value.int m_bits, Value.int m_faultAt, Value.int m_isDone, Value.int m_n, Value.ref a_map, Value.ref a_places, Value.int m_symbols, Value.ref a_symbol, Value.int m_groups, Value.int m_tables, Value.ref a_lengths, Value.ref a_taken, Value.ref a_codes, Value.ref a_list, Value.ref a_weights, Value.ref a_whole, Value.int m_lays, Value.int m_laid, Value.ref a_row, Value.int m_read, Value.int m_wrong, Value.int m_readMany, Value.ref a_readMap, Value.int m_readTables, Value.int m_readGroups, Value.ref a_readTaken, Value.ref a_readLengths, Value.ref a_readCodes, Value.int m_found, Value.ref a_foundBlock], ia cI a_symbol 301 m_symbol] s.heap [] := ⟨hP, hD, hS⟩
  clear hP hD hS
  unfold fMo_tellRun at hF
  have hw0 := hts (Cond.fieldLink RX9 86 "MoveFrontsModel" "symbols" "I") (by decide +kernel)
  have hw1 := hts (Cond.fieldLink RX9 27 "MoveFrontsModel" "symbol" "[I") (by decide +kernel)
  have hi9 : ∀ w ∈ u_ws RX9 TX9 33, w ∈ wsX9_tellRun := by decide +kernel
  refine lv_iload_n hx hb dX9_tellRun_0 rfl (lv_at hl 1 rfl) ?_
  refine lv_istore_n (lv' := [(2, .int x1), (0, .ref a_self), (1, .int x1)]) hx hb dX9_tellRun_1 rfl hl (by decide) rfl (fun ls hl => ?_)
  obtain ⟨m_symbols_2ze, m_symbol_2ze, hI, hF⟩ := bd2_some hF
  obtain ⟨nn, hI⟩ := itrO_some hI
  have hX2 : ∀ (m_symbols_2z : Int32) (m_symbol_2z : Nat → Int32), (m_symbols_2z, m_symbol_2z) = (m_symbols_2ze, m_symbol_2ze) → ∀ (H : Heap) (locs : List Loc), WS D A s [ob a_self 9 [Value.int m_signs, Value.ref a_block, Value.ref a_tape, Value.int m_bits, Value.int m_faultAt, Value.int m_isDone, Value.int m_n, Value.ref a_map, Value.ref a_places, Value.int m_symbols_2z, Value.ref a_symbol, Value.int m_groups, Value.int m_tables, Value.ref a_lengths, Value.ref a_taken, Value.ref a_codes, Value.ref a_list, Value.ref a_weights, Value.ref a_whole, Value.int m_lays, Value.int m_laid, Value.ref a_row, Value.int m_read, Value.int m_wrong, Value.int m_readMany, Value.ref a_readMap, Value.int m_readTables, Value.int m_readGroups, Value.ref a_readTaken, Value.ref a_readLengths, Value.ref a_readCodes, Value.int m_found, Value.ref a_foundBlock], ia cI a_symbol 301 m_symbol_2z] H locs → ∀ ls : Array Slot, lv_has ls 3 [] → W p l e (headSpec wsX9_tellRun rmMo_tellRun).room s m args below meth c H locs 0 0 Q (F0 m 46 ls []) := by
    intro m_symbols_2z m_symbol_2z he H locs hW ls hl
    obtain ⟨hz0, hy0⟩ := Prod.mk.inj he
    subst hz0
    subst hy0
    cases hF
    subst hQ
    exact ct_vret hx hb hr hlocks hW.1 hW.2.2 dX9_tellRun_46
  have hL2 : ∀ (n2 : Nat) (x2_2 : Int32) (m_symbols_2 : Int32) (m_symbol_2 : Nat → Int32), itr (un3 (fMo_tellRun_L2)) n2 (x2_2, m_symbols_2, m_symbol_2) = some (m_symbols_2ze, m_symbol_2ze) → ∀ (H : Heap) (locs : List Loc), WS D A s [ob a_self 9 [Value.int m_signs, Value.ref a_block, Value.ref a_tape, Value.int m_bits, Value.int m_faultAt, Value.int m_isDone, Value.int m_n, Value.ref a_map, Value.ref a_places, Value.int m_symbols_2, Value.ref a_symbol, Value.int m_groups, Value.int m_tables, Value.ref a_lengths, Value.ref a_taken, Value.ref a_codes, Value.ref a_list, Value.ref a_weights, Value.ref a_whole, Value.int m_lays, Value.int m_laid, Value.ref a_row, Value.int m_read, Value.int m_wrong, Value.int m_readMany, Value.ref a_readMap, Value.int m_readTables, Value.int m_readGroups, Value.ref a_readTaken, Value.ref a_readLengths, Value.ref a_readCodes, Value.int m_found, Value.ref a_foundBlock], ia cI a_symbol 301 m_symbol_2] H locs → ∀ ls : Array Slot, lv_has ls 3 [(0, .ref a_self), (2, .int x2_2)] → W p l e (headSpec wsX9_tellRun rmMo_tellRun).room s m args below meth c H locs 0 0 Q (F0 m 2 ls []) := by
    intro n2
    induction n2 with
    | zero => intro x2_2 m_symbols_2 m_symbol_2 hI; cases hI
    | succ n2 ih2 =>
      intro x2_2 m_symbols_2 m_symbol_2 hI H locs hW ls hl
      obtain ⟨sr2, hF, hN2⟩ := itr_succ hI
      have hF : fMo_tellRun_L2 x2_2 m_symbols_2 m_symbol_2 = some sr2 := hF
      unfold fMo_tellRun_L2 at hF
      have hJ26 : ∀ (x2_26 : Int32) (m_symbols_26 : Int32) (m_symbol_26 : Nat → Int32) (t1_26 : Int32) (t2_26 : Int32), fMo_tellRun_J26 x2_26 m_symbols_26 m_symbol_26 t1_26 t2_26 = some sr2 → ∀ (H : Heap) (locs : List Loc), WS D A s [ob a_self 9 [Value.int m_signs, Value.ref a_block, Value.ref a_tape, Value.int m_bits, Value.int m_faultAt, Value.int m_isDone, Value.int m_n, Value.ref a_map, Value.ref a_places, Value.int m_symbols_26, Value.ref a_symbol, Value.int m_groups, Value.int m_tables, Value.ref a_lengths, Value.ref a_taken, Value.ref a_codes, Value.ref a_list, Value.ref a_weights, Value.ref a_whole, Value.int m_lays, Value.int m_laid, Value.ref a_row, Value.int m_read, Value.int m_wrong, Value.int m_readMany, Value.ref a_readMap, Value.int m_readTables, Value.int m_readGroups, Value.ref a_readTaken, Value.ref a_readLengths, Value.ref a_readCodes, Value.int m_found, Value.ref a_foundBlock], ia cI a_symbol 301 m_symbol_26] H locs → ∀ ls : Array Slot, lv_has ls 3 [(0, .ref a_self), (2, .int x2_26)] → W p l e (headSpec wsX9_tellRun rmMo_tellRun).room s m args below meth c H locs 0 0 Q (F0 m 26 ls [.int t2_26, .int t1_26, .ref a_symbol]) := by
        intro x2_26 m_symbols_26 m_symbol_26 t1_26 t2_26 hF H locs hW ls hl
        unfold fMo_tellRun_J26 at hF
        obtain ⟨g26, hF⟩ := gdI_some hF
        refine va_iast hx hb hK.1 hW.1 hW.2.1 hW.2.2 1 0 rfl rfl g26 dX9_tellRun_26 (fun H locs hP hD hS => ?_)
        have hW : WS D A s [ob a_self 9 [Value.int m_signs, Value.ref a_block, Value.ref a_tape, Value.int m_bits, Value.int m_faultAt, Value.int m_isDone, Value.int m_n, Value.ref a_map, Value.ref a_places, Value.int m_symbols_26, Value.ref a_symbol, Value.int m_groups, Value.int m_tables, Value.ref a_lengths, Value.ref a_taken, Value.ref a_codes, Value.ref a_list, Value.ref a_weights, Value.ref a_whole, Value.int m_lays, Value.int m_laid, Value.ref a_row, Value.int m_read, Value.int m_wrong, Value.int m_readMany, Value.ref a_readMap, Value.int m_readTables, Value.int m_readGroups, Value.ref a_readTaken, Value.ref a_readLengths, Value.ref a_readCodes, Value.int m_found, Value.ref a_foundBlock], ia cI a_symbol 301 (upd m_symbol_26 t1_26.toNatClampNeg t2_26)] H locs := ⟨hP, hD, hS⟩
        refine lv_aload_n hx hb dX9_tellRun_27 rfl (lv_at hl 0 rfl) ?_
        refine lv_dup hx hb dX9_tellRun_28 rfl ?_
        refine va_get (D := D) (ci := 9) (v := .int m_symbols_26) (C := RX9) (T := TX9) (N := 33) hx hb hts hi9 hown hK.1 hW.1 0 rfl rfl 9 (by decide) hw0 (fun _ h9 => h9) rfl dX9_tellRun_29 ?_
        refine lv_iconst (v := 1) hx hb dX9_tellRun_32 (by decide) ?_
        refine lv_iadd hx hb dX9_tellRun_33 ?_
        refine va_put (D := D) (ci := 9) (v := .int (m_symbols_26 + (1 : Int32))) (ty := .int) (C := RX9) (T := TX9) (N := 33) hx hb hts hi9 tyX9 tyX9_ok nmX9 hown hK.1 hW.1 hW.2.1 hW.2.2 0 rfl rfl 9 (by decide) hw0 (fun _ h9 => h9) rfl (by decide +kernel) rfl rfl (Nat.le_of_ble_eq_true rfl) dX9_tellRun_34 (fun H locs hP hD hS => ?_)
        have hW : WS D A s [ob a_self 9 [Value.int m_signs, Value.ref a_block, Value.ref a_tape, Value.int m_bits, Value.int m_faultAt, Value.int m_isDone, Value.int m_n, Value.ref a_map, Value.ref a_places, Value.int (m_symbols_26 + (1 : Int32)), Value.ref a_symbol, Value.int m_groups, Value.int m_tables, Value.ref a_lengths, Value.ref a_taken, Value.ref a_codes, Value.ref a_list, Value.ref a_weights, Value.ref a_whole, Value.int m_lays, Value.int m_laid, Value.ref a_row, Value.int m_read, Value.int m_wrong, Value.int m_readMany, Value.ref a_readMap, Value.int m_readTables, Value.int m_readGroups, Value.ref a_readTaken, Value.ref a_readLengths, Value.ref a_readCodes, Value.int m_found, Value.ref a_foundBlock], ia cI a_symbol 301 (upd m_symbol_26 t1_26.toNatClampNeg t2_26)] H locs := ⟨hP, hD, hS⟩
        refine lv_iload_n hx hb dX9_tellRun_37 rfl (lv_at hl 1 rfl) ?_
        refine lv_iconst (v := 1) hx hb dX9_tellRun_38 (by decide) ?_
        refine lv_isub hx hb dX9_tellRun_39 ?_
        refine lv_iconst (v := 2) hx hb dX9_tellRun_40 (by decide) ?_
        refine lv_idiv hx hb dX9_tellRun_41 (by decide) ?_
        refine lv_istore_n (lv' := [(2, .int ((x2_26 - (1 : Int32)) / (2 : Int32))), (0, .ref a_self)]) hx hb dX9_tellRun_42 rfl hl (by decide) rfl (fun ls hl => ?_)
        refine lv_goto (tgt := 2) hx hb dX9_tellRun_43 (by decide) ?_
        cases hF
        exact ih2 _ _ _ (itr_in hN2) _ _ hW _ (lv_sub hl [1, 0] rfl)
      refine lv_iload_n hx hb dX9_tellRun_2 rfl (lv_at hl 1 rfl) ?_
      refine lv_if_le (tgt := 46) hx hb dX9_tellRun_3 (by decide) (fun c3 => ?_) (fun c3 => ?_)
      · rw [if_pos c3] at hF
        cases hF
        exact hX2 _ _ (itr_out hN2) _ _ hW _ (lv_sub hl [] rfl)
      · rw [if_neg c3] at hF
        refine lv_aload_n hx hb dX9_tellRun_6 rfl (lv_at hl 0 rfl) ?_
        refine va_get (D := D) (ci := 9) (v := .ref a_symbol) (C := RX9) (T := TX9) (N := 33) hx hb hts hi9 hown hK.1 hW.1 0 rfl rfl 10 (by decide) hw1 (fun _ h9 => h9) rfl dX9_tellRun_7 ?_
        refine lv_aload_n hx hb dX9_tellRun_10 rfl (lv_at hl 0 rfl) ?_
        refine va_get (D := D) (ci := 9) (v := .int m_symbols_2) (C := RX9) (T := TX9) (N := 33) hx hb hts hi9 hown hK.1 hW.1 0 rfl rfl 9 (by decide) hw0 (fun _ h9 => h9) rfl dX9_tellRun_11 ?_
        refine lv_iload_n hx hb dX9_tellRun_14 rfl (lv_at hl 1 rfl) ?_
        refine lv_iconst (v := 2) hx hb dX9_tellRun_15 (by decide) ?_
        refine lv_irem hx hb dX9_tellRun_16 (by decide) ?_
        refine lv_iconst (v := 1) hx hb dX9_tellRun_17 (by decide) ?_
        refine lv_icmp_ne (tgt := 25) hx hb dX9_tellRun_18 (by decide) (fun c18 => ?_) (fun c18 => ?_)
        · rw [if_neg c18] at hF
          refine lv_iconst (v := 1) hx hb dX9_tellRun_25 (by decide) ?_
          exact hJ26 _ _ _ _ _ hF _ _ hW _ (lv_sub hl [0, 1] rfl)
        · rw [if_pos c18] at hF
          refine lv_iconst (v := 0) hx hb dX9_tellRun_21 (by decide) ?_
          refine lv_goto (tgt := 26) hx hb dX9_tellRun_22 (by decide) ?_
          exact hJ26 _ _ _ _ _ hF _ _ hW _ (lv_sub hl [0, 1] rfl)
  exact hL2 nn _ _ _ hI _ _ hW _ (lv_sub hl [1, 0] rfl)
abbrev rmMo_findSymbols : Room := { frames := 1, cells := 0, slots := 0, locals := 22 }
set_option maxHeartbeats 4000000 in
set_option maxRecDepth 100000 in
theorem kMo_findSymbols (l : Launch) (D : va_G) (cI cZ cO cG : ClassId) (a_self : Nat) (a_block : Nat) (a_tape : Nat) (a_map : Nat) (a_places : Nat) (a_symbol : Nat) (a_lengths : Nat) (a_taken : Nat) (a_codes : Nat) (a_list : Nat) (a_weights : Nat) (a_whole : Nat) (a_row : Nat) (a_readMap : Nat) (a_readTaken : Nat) (a_readLengths : Nat) (a_readCodes : Nat) (a_foundBlock : Nat) (m_signs : Int32) (m_bits : Int32) (m_faultAt : Int32) (m_isDone : Int32) (m_n : Int32) (m_symbols : Int32) (m_groups : Int32) (m_tables : Int32) (m_lays : Int32) (m_laid : Int32) (m_read : Int32) (m_wrong : Int32) (m_readMany : Int32) (m_readTables : Int32) (m_readGroups : Int32) (m_found : Int32) (m_places : Nat → Int32) (m_symbol : Nat → Int32) {m_symbols' : Int32} {m_symbol' : Nat → Int32} (hF : fMo_findSymbols m_signs m_n m_places m_symbol = some (m_symbols', m_symbol')) : CT l yX9_findSymbols wsX9_findSymbols rmMo_findSymbols D (tysG cI cZ cO cG) [.ref a_self] [ob a_self 9 [Value.int m_signs, Value.ref a_block, Value.ref a_tape, Value.int m_bits, Value.int m_faultAt, Value.int m_isDone, Value.int m_n, Value.ref a_map, Value.ref a_places, Value.int m_symbols, Value.ref a_symbol, Value.int m_groups, Value.int m_tables, Value.ref a_lengths, Value.ref a_taken, Value.ref a_codes, Value.ref a_list, Value.ref a_weights, Value.ref a_whole, Value.int m_lays, Value.int m_laid, Value.ref a_row, Value.int m_read, Value.int m_wrong, Value.int m_readMany, Value.ref a_readMap, Value.int m_readTables, Value.int m_readGroups, Value.ref a_readTaken, Value.ref a_readLengths, Value.ref a_readCodes, Value.int m_found, Value.ref a_foundBlock], ia cI a_places 300 m_places, ia cI a_symbol 301 m_symbol] none [ob a_self 9 [Value.int m_signs, Value.ref a_block, Value.ref a_tape, Value.int m_bits, Value.int m_faultAt, Value.int m_isDone, Value.int m_n, Value.ref a_map, Value.ref a_places, Value.int m_symbols', Value.ref a_symbol, Value.int m_groups, Value.int m_tables, Value.ref a_lengths, Value.ref a_taken, Value.ref a_codes, Value.ref a_list, Value.ref a_weights, Value.ref a_whole, Value.int m_lays, Value.int m_laid, Value.ref a_row, Value.int m_read, Value.int m_wrong, Value.int m_readMany, Value.ref a_readMap, Value.int m_readTables, Value.int m_readGroups, Value.ref a_readTaken, Value.ref a_readLengths, Value.ref a_readCodes, Value.int m_found, Value.ref a_foundBlock], ia cI a_places 300 m_places, ia cI a_symbol 301 m_symbol'] := by
  refine CT.of (cc := cX9_findSymbols) (maxL := 3) (ret := none) (by decide) rfl (Nat.le_of_ble_eq_true rfl) ?_
  intro p e s m below meth c A ls hx hb hr hml hts hown hlocks hK hA hP hD hS hl
  generalize hargs : ([.ref a_self] : List Value).toArray = args at hts ⊢
  generalize hQ : MQ below (ctQ D none [ob a_self 9 [Value.int m_signs, Value.ref a_block, Value.ref a_tape, Value.int m_bits, Value.int m_faultAt, Value.int m_isDone, Value.int m_n, Value.ref a_map, Value.ref a_places, Value.int m_symbols', Value.ref a_symbol, Value.int m_groups, Value.int m_tables, Value.ref a_lengths, Value.ref a_taken, Value.ref a_codes, Value.ref a_list, Value.ref a_weights, Value.ref a_whole, Value.int m_lays, Value.int m_laid, Value.ref a_row, Value.int m_read, Value.int m_wrong, Value.int m_readMany, Value.ref a_readMap, Value.int m_readTables, Value.int m_readGroups, Value.ref a_readTaken, Value.ref a_readLengths, Value.ref a_readCodes, Value.int m_found, Value.ref a_foundBlock], ia cI a_places 300 m_places, ia cI a_symbol 301 m_symbol'] A) args s 0 0 A = Q
  have hl : lv_has ls 3 [(0, .ref a_self)] := hl
  have hW : WS D A s [ob a_self 9 [Value.int m_signs, Value.ref a_block, Value.ref a_tape, Value.int m_bits, Value.int m_faultAt, Value.int m_isDone, Value.int m_n, Value.ref a_map, Value.ref a_places, Value.int m_symbols, Value.ref a_symbol, Value.int m_groups, Value.int m_tables, Value.ref a_lengths, Value.ref a_taken, Value.ref a_codes, Value.ref a_list, Value.ref a_weights, Value.ref a_whole, Value.int m_lays, Value.int m_laid, Value.ref a_row, Value.int m_read, Value.int m_wrong, Value.int m_readMany, Value.ref a_readMap, Value.int m_readTables, Value.int m_readGroups, Value.ref a_readTaken, Value.ref a_readLengths, Value.ref a_readCodes, Value.int m_found, Value.ref a_foundBlock], ia cI a_places 300 m_places, ia cI a_symbol 301 m_symbol] s.heap [] := ⟨hP, hD, hS⟩
  clear hP hD hS
  unfold fMo_findSymbols at hF
  have hw0 := hts (Cond.fieldLink RX9 86 "MoveFrontsModel" "symbols" "I") (by decide +kernel)
  have hw1 := hts (Cond.fieldLink RX9 70 "MoveFrontsModel" "signs" "I") (by decide +kernel)
  have hw2 := hts (Cond.fieldLink RX9 27 "MoveFrontsModel" "symbol" "[I") (by decide +kernel)
  have hw3 := hts (Cond.fieldLink RX9 106 "MoveFrontsModel" "n" "I") (by decide +kernel)
  have hw4 := hts (Cond.fieldLink RX9 24 "MoveFrontsModel" "places" "[I") (by decide +kernel)
  have hi9 : ∀ w ∈ u_ws RX9 TX9 33, w ∈ wsX9_findSymbols := by decide +kernel
  refine lv_aload_n hx hb dX9_findSymbols_0 rfl (lv_at hl 0 rfl) ?_
  refine lv_iconst (v := 0) hx hb dX9_findSymbols_1 (by decide) ?_
  refine va_put (D := D) (ci := 9) (v := .int (0 : Int32)) (ty := .int) (C := RX9) (T := TX9) (N := 33) hx hb hts hi9 tyX9 tyX9_ok nmX9 hown hK.1 hW.1 hW.2.1 hW.2.2 0 rfl rfl 9 (by decide) hw0 (fun _ h9 => h9) rfl (by decide +kernel) rfl rfl (Nat.le_of_ble_eq_true rfl) dX9_findSymbols_2 (fun H locs hP hD hS => ?_)
  have hW : WS D A s [ob a_self 9 [Value.int m_signs, Value.ref a_block, Value.ref a_tape, Value.int m_bits, Value.int m_faultAt, Value.int m_isDone, Value.int m_n, Value.ref a_map, Value.ref a_places, Value.int (0 : Int32), Value.ref a_symbol, Value.int m_groups, Value.int m_tables, Value.ref a_lengths, Value.ref a_taken, Value.ref a_codes, Value.ref a_list, Value.ref a_weights, Value.ref a_whole, Value.int m_lays, Value.int m_laid, Value.ref a_row, Value.int m_read, Value.int m_wrong, Value.int m_readMany, Value.ref a_readMap, Value.int m_readTables, Value.int m_readGroups, Value.ref a_readTaken, Value.ref a_readLengths, Value.ref a_readCodes, Value.int m_found, Value.ref a_foundBlock], ia cI a_places 300 m_places, ia cI a_symbol 301 m_symbol] H locs := ⟨hP, hD, hS⟩
  refine lv_iconst (v := 0) hx hb dX9_findSymbols_5 (by decide) ?_
  refine lv_istore_n (lv' := [(1, .int (0 : Int32)), (0, .ref a_self)]) hx hb dX9_findSymbols_6 rfl hl (by decide) rfl (fun ls hl => ?_)
  refine lv_iconst (v := 0) hx hb dX9_findSymbols_7 (by decide) ?_
  refine lv_istore_n (lv' := [(2, .int (0 : Int32)), (1, .int (0 : Int32)), (0, .ref a_self)]) hx hb dX9_findSymbols_8 rfl hl (by decide) rfl (fun ls hl => ?_)
  obtain ⟨x1_9ze, m_symbols_9ze, m_symbol_9ze, hI, hF⟩ := bd3_some hF
  obtain ⟨nn, hI⟩ := itrO_some hI
  have hX9 : ∀ (x1_9z : Int32) (m_symbols_9z : Int32) (m_symbol_9z : Nat → Int32), (x1_9z, m_symbols_9z, m_symbol_9z) = (x1_9ze, m_symbols_9ze, m_symbol_9ze) → ∀ (H : Heap) (locs : List Loc), WS D A s [ob a_self 9 [Value.int m_signs, Value.ref a_block, Value.ref a_tape, Value.int m_bits, Value.int m_faultAt, Value.int m_isDone, Value.int m_n, Value.ref a_map, Value.ref a_places, Value.int m_symbols_9z, Value.ref a_symbol, Value.int m_groups, Value.int m_tables, Value.ref a_lengths, Value.ref a_taken, Value.ref a_codes, Value.ref a_list, Value.ref a_weights, Value.ref a_whole, Value.int m_lays, Value.int m_laid, Value.ref a_row, Value.int m_read, Value.int m_wrong, Value.int m_readMany, Value.ref a_readMap, Value.int m_readTables, Value.int m_readGroups, Value.ref a_readTaken, Value.ref a_readLengths, Value.ref a_readCodes, Value.int m_found, Value.ref a_foundBlock], ia cI a_places 300 m_places, ia cI a_symbol 301 m_symbol_9z] H locs → ∀ ls : Array Slot, lv_has ls 3 [(0, .ref a_self), (1, .int x1_9z)] → W p l e (headSpec wsX9_findSymbols rmMo_findSymbols).room s m args below meth c H locs 0 0 Q (F0 m 72 ls []) := by
    intro x1_9z m_symbols_9z m_symbol_9z he H locs hW ls hl
    obtain ⟨hz0, hy0⟩ := Prod.mk.inj he
    obtain ⟨hz1, hy1⟩ := Prod.mk.inj hy0
    subst hz0
    subst hz1
    subst hy1
    refine lv_aload_n hx hb dX9_findSymbols_72 rfl (lv_at hl 0 rfl) ?_
    refine lv_iload_n hx hb dX9_findSymbols_73 rfl (lv_at hl 1 rfl) ?_
    obtain ⟨m_symbols_74, m_symbol_74, e74, hF⟩ := bd2_some hF
    refine ctV (wn := [ob a_self 9 [Value.int m_signs, Value.ref a_block, Value.ref a_tape, Value.int m_bits, Value.int m_faultAt, Value.int m_isDone, Value.int m_n, Value.ref a_map, Value.ref a_places, Value.int m_symbols_74, Value.ref a_symbol, Value.int m_groups, Value.int m_tables, Value.ref a_lengths, Value.ref a_taken, Value.ref a_codes, Value.ref a_list, Value.ref a_weights, Value.ref a_whole, Value.int m_lays, Value.int m_laid, Value.ref a_row, Value.int m_read, Value.int m_wrong, Value.int m_readMany, Value.ref a_readMap, Value.int m_readTables, Value.int m_readGroups, Value.ref a_readTaken, Value.ref a_readLengths, Value.ref a_readCodes, Value.int m_found, Value.ref a_foundBlock], ia cI a_places 300 m_places, ia cI a_symbol 301 m_symbol_74]) (r := (RX9, TX9, 33)) (As := [.int x1_9z]) (rest := []) hx hb hml hown hts hK hW hA hl.1 (kMo_tellRun l D cI cZ cO cG a_self a_block a_tape a_map a_places a_symbol a_lengths a_taken a_codes a_list a_weights a_whole a_row a_readMap a_readTaken a_readLengths a_readCodes a_foundBlock m_signs m_bits m_faultAt m_isDone m_n m_symbols_9z m_groups m_tables m_lays m_laid m_read m_wrong m_readMany m_readTables m_readGroups m_found m_symbol_9z x1_9z e74) (cwV 1 hts gX9_findSymbols_X9_tellRun rfl rfl rfl (by decide +kernel) ⟨Nat.le_of_ble_eq_true rfl, Nat.le_of_ble_eq_true rfl⟩) 9 0 rfl rfl [0, 2] [1] 3 rfl rfl rfl rfl [ia cI a_places 300 m_places] rfl rfl rfl rfl rfl (Nat.le_of_ble_eq_true rfl) rfl ⟨Nat.zero_le _, Nat.zero_le _⟩ dX9_findSymbols_74 (fun H locs hW => ?_)
    refine lv_aload_n hx hb dX9_findSymbols_77 rfl (lv_at hl 0 rfl) ?_
    refine va_get (D := D) (ci := 9) (v := .int m_signs) (C := RX9) (T := TX9) (N := 33) hx hb hts hi9 hown hK.1 hW.1 0 rfl rfl 0 (by decide) hw1 (fun _ h9 => h9) rfl dX9_findSymbols_78 ?_
    refine lv_if_le (tgt := 109) hx hb dX9_findSymbols_81 (by decide) (fun c81 => ?_) (fun c81 => ?_)
    · rw [if_pos c81] at hF
      cases hF
      subst hQ
      exact ct_vret hx hb hr hlocks hW.1 hW.2.2 dX9_findSymbols_109
    · rw [if_neg c81] at hF
      refine lv_aload_n hx hb dX9_findSymbols_84 rfl (lv_at hl 0 rfl) ?_
      refine va_get (D := D) (ci := 9) (v := .ref a_symbol) (C := RX9) (T := TX9) (N := 33) hx hb hts hi9 hown hK.1 hW.1 0 rfl rfl 10 (by decide) hw2 (fun _ h9 => h9) rfl dX9_findSymbols_85 ?_
      refine lv_aload_n hx hb dX9_findSymbols_88 rfl (lv_at hl 0 rfl) ?_
      refine va_get (D := D) (ci := 9) (v := .int m_symbols_74) (C := RX9) (T := TX9) (N := 33) hx hb hts hi9 hown hK.1 hW.1 0 rfl rfl 9 (by decide) hw0 (fun _ h9 => h9) rfl dX9_findSymbols_89 ?_
      refine lv_aload_n hx hb dX9_findSymbols_92 rfl (lv_at hl 0 rfl) ?_
      refine va_get (D := D) (ci := 9) (v := .int m_n) (C := RX9) (T := TX9) (N := 33) hx hb hts hi9 hown hK.1 hW.1 0 rfl rfl 6 (by decide) hw3 (fun _ h9 => h9) rfl dX9_findSymbols_93 ?_
      refine lv_iconst (v := 1) hx hb dX9_findSymbols_96 (by decide) ?_
      refine lv_iadd hx hb dX9_findSymbols_97 ?_
      obtain ⟨g98, hF⟩ := gdI_some hF
      refine va_iast hx hb hK.1 hW.1 hW.2.1 hW.2.2 2 0 rfl rfl g98 dX9_findSymbols_98 (fun H locs hP hD hS => ?_)
      have hW : WS D A s [ob a_self 9 [Value.int m_signs, Value.ref a_block, Value.ref a_tape, Value.int m_bits, Value.int m_faultAt, Value.int m_isDone, Value.int m_n, Value.ref a_map, Value.ref a_places, Value.int m_symbols_74, Value.ref a_symbol, Value.int m_groups, Value.int m_tables, Value.ref a_lengths, Value.ref a_taken, Value.ref a_codes, Value.ref a_list, Value.ref a_weights, Value.ref a_whole, Value.int m_lays, Value.int m_laid, Value.ref a_row, Value.int m_read, Value.int m_wrong, Value.int m_readMany, Value.ref a_readMap, Value.int m_readTables, Value.int m_readGroups, Value.ref a_readTaken, Value.ref a_readLengths, Value.ref a_readCodes, Value.int m_found, Value.ref a_foundBlock], ia cI a_places 300 m_places, ia cI a_symbol 301 (upd m_symbol_74 m_symbols_74.toNatClampNeg (m_n + (1 : Int32)))] H locs := ⟨hP, hD, hS⟩
      refine lv_aload_n hx hb dX9_findSymbols_99 rfl (lv_at hl 0 rfl) ?_
      refine lv_dup hx hb dX9_findSymbols_100 rfl ?_
      refine va_get (D := D) (ci := 9) (v := .int m_symbols_74) (C := RX9) (T := TX9) (N := 33) hx hb hts hi9 hown hK.1 hW.1 0 rfl rfl 9 (by decide) hw0 (fun _ h9 => h9) rfl dX9_findSymbols_101 ?_
      refine lv_iconst (v := 1) hx hb dX9_findSymbols_104 (by decide) ?_
      refine lv_iadd hx hb dX9_findSymbols_105 ?_
      refine va_put (D := D) (ci := 9) (v := .int (m_symbols_74 + (1 : Int32))) (ty := .int) (C := RX9) (T := TX9) (N := 33) hx hb hts hi9 tyX9 tyX9_ok nmX9 hown hK.1 hW.1 hW.2.1 hW.2.2 0 rfl rfl 9 (by decide) hw0 (fun _ h9 => h9) rfl (by decide +kernel) rfl rfl (Nat.le_of_ble_eq_true rfl) dX9_findSymbols_106 (fun H locs hP hD hS => ?_)
      have hW : WS D A s [ob a_self 9 [Value.int m_signs, Value.ref a_block, Value.ref a_tape, Value.int m_bits, Value.int m_faultAt, Value.int m_isDone, Value.int m_n, Value.ref a_map, Value.ref a_places, Value.int (m_symbols_74 + (1 : Int32)), Value.ref a_symbol, Value.int m_groups, Value.int m_tables, Value.ref a_lengths, Value.ref a_taken, Value.ref a_codes, Value.ref a_list, Value.ref a_weights, Value.ref a_whole, Value.int m_lays, Value.int m_laid, Value.ref a_row, Value.int m_read, Value.int m_wrong, Value.int m_readMany, Value.ref a_readMap, Value.int m_readTables, Value.int m_readGroups, Value.ref a_readTaken, Value.ref a_readLengths, Value.ref a_readCodes, Value.int m_found, Value.ref a_foundBlock], ia cI a_places 300 m_places, ia cI a_symbol 301 (upd m_symbol_74 m_symbols_74.toNatClampNeg (m_n + (1 : Int32)))] H locs := ⟨hP, hD, hS⟩
      cases hF
      subst hQ
      exact ct_vret hx hb hr hlocks hW.1 hW.2.2 dX9_findSymbols_109
  have hL9 : ∀ (n9 : Nat) (x1_9 : Int32) (x2_9 : Int32) (m_symbols_9 : Int32) (m_symbol_9 : Nat → Int32), itr (un4 (fMo_findSymbols_L9 m_signs m_places)) n9 (x1_9, x2_9, m_symbols_9, m_symbol_9) = some (x1_9ze, m_symbols_9ze, m_symbol_9ze) → ∀ (H : Heap) (locs : List Loc), WS D A s [ob a_self 9 [Value.int m_signs, Value.ref a_block, Value.ref a_tape, Value.int m_bits, Value.int m_faultAt, Value.int m_isDone, Value.int m_n, Value.ref a_map, Value.ref a_places, Value.int m_symbols_9, Value.ref a_symbol, Value.int m_groups, Value.int m_tables, Value.ref a_lengths, Value.ref a_taken, Value.ref a_codes, Value.ref a_list, Value.ref a_weights, Value.ref a_whole, Value.int m_lays, Value.int m_laid, Value.ref a_row, Value.int m_read, Value.int m_wrong, Value.int m_readMany, Value.ref a_readMap, Value.int m_readTables, Value.int m_readGroups, Value.ref a_readTaken, Value.ref a_readLengths, Value.ref a_readCodes, Value.int m_found, Value.ref a_foundBlock], ia cI a_places 300 m_places, ia cI a_symbol 301 m_symbol_9] H locs → ∀ ls : Array Slot, lv_has ls 3 [(0, .ref a_self), (1, .int x1_9), (2, .int x2_9)] → W p l e (headSpec wsX9_findSymbols rmMo_findSymbols).room s m args below meth c H locs 0 0 Q (F0 m 9 ls []) := by
    intro n9
    induction n9 with
    | zero => intro x1_9 x2_9 m_symbols_9 m_symbol_9 hI; cases hI
    | succ n9 ih9 =>
      intro x1_9 x2_9 m_symbols_9 m_symbol_9 hI H locs hW ls hl
      obtain ⟨sr9, hF, hN9⟩ := itr_succ hI
      have hF : fMo_findSymbols_L9 m_signs m_places x1_9 x2_9 m_symbols_9 m_symbol_9 = some sr9 := hF
      unfold fMo_findSymbols_L9 at hF
      refine lv_iload_n hx hb dX9_findSymbols_9 rfl (lv_at hl 2 rfl) ?_
      refine lv_aload_n hx hb dX9_findSymbols_10 rfl (lv_at hl 0 rfl) ?_
      refine va_get (D := D) (ci := 9) (v := .int m_signs) (C := RX9) (T := TX9) (N := 33) hx hb hts hi9 hown hK.1 hW.1 0 rfl rfl 0 (by decide) hw1 (fun _ h9 => h9) rfl dX9_findSymbols_11 ?_
      refine lv_icmp_ge (tgt := 72) hx hb dX9_findSymbols_14 (by decide) (fun c14 => ?_) (fun c14 => ?_)
      · rw [if_pos c14] at hF
        cases hF
        exact hX9 _ _ _ (itr_out hN9) _ _ hW _ (lv_sub hl [0, 1] rfl)
      · rw [if_neg c14] at hF
        refine lv_aload_n hx hb dX9_findSymbols_17 rfl (lv_at hl 0 rfl) ?_
        refine va_get (D := D) (ci := 9) (v := .ref a_places) (C := RX9) (T := TX9) (N := 33) hx hb hts hi9 hown hK.1 hW.1 0 rfl rfl 8 (by decide) hw4 (fun _ h9 => h9) rfl dX9_findSymbols_18 ?_
        refine lv_iload_n hx hb dX9_findSymbols_21 rfl (lv_at hl 2 rfl) ?_
        obtain ⟨g22, hF⟩ := gdI_some hF
        refine va_iald hx hb hK.1 hW.1 1 0 rfl rfl g22 dX9_findSymbols_22 ?_
        refine lv_if_ne (tgt := 32) hx hb dX9_findSymbols_23 (by decide) (fun c23 => ?_) (fun c23 => ?_)
        · rw [if_neg c23] at hF
          refine lv_aload_n hx hb dX9_findSymbols_32 rfl (lv_at hl 0 rfl) ?_
          refine lv_iload_n hx hb dX9_findSymbols_33 rfl (lv_at hl 1 rfl) ?_
          obtain ⟨m_symbols_34, m_symbol_34, e34, hF⟩ := bd2_some hF
          refine ctV (wn := [ob a_self 9 [Value.int m_signs, Value.ref a_block, Value.ref a_tape, Value.int m_bits, Value.int m_faultAt, Value.int m_isDone, Value.int m_n, Value.ref a_map, Value.ref a_places, Value.int m_symbols_34, Value.ref a_symbol, Value.int m_groups, Value.int m_tables, Value.ref a_lengths, Value.ref a_taken, Value.ref a_codes, Value.ref a_list, Value.ref a_weights, Value.ref a_whole, Value.int m_lays, Value.int m_laid, Value.ref a_row, Value.int m_read, Value.int m_wrong, Value.int m_readMany, Value.ref a_readMap, Value.int m_readTables, Value.int m_readGroups, Value.ref a_readTaken, Value.ref a_readLengths, Value.ref a_readCodes, Value.int m_found, Value.ref a_foundBlock], ia cI a_places 300 m_places, ia cI a_symbol 301 m_symbol_34]) (r := (RX9, TX9, 33)) (As := [.int x1_9]) (rest := []) hx hb hml hown hts hK hW hA hl.1 (kMo_tellRun l D cI cZ cO cG a_self a_block a_tape a_map a_places a_symbol a_lengths a_taken a_codes a_list a_weights a_whole a_row a_readMap a_readTaken a_readLengths a_readCodes a_foundBlock m_signs m_bits m_faultAt m_isDone m_n m_symbols_9 m_groups m_tables m_lays m_laid m_read m_wrong m_readMany m_readTables m_readGroups m_found m_symbol_9 x1_9 e34) (cwV 1 hts gX9_findSymbols_X9_tellRun rfl rfl rfl (by decide +kernel) ⟨Nat.le_of_ble_eq_true rfl, Nat.le_of_ble_eq_true rfl⟩) 9 0 rfl rfl [0, 2] [1] 3 rfl rfl rfl rfl [ia cI a_places 300 m_places] rfl rfl rfl rfl rfl (Nat.le_of_ble_eq_true rfl) rfl ⟨Nat.zero_le _, Nat.zero_le _⟩ dX9_findSymbols_34 (fun H locs hW => ?_)
          refine lv_iconst (v := 0) hx hb dX9_findSymbols_37 (by decide) ?_
          refine lv_istore_n (lv' := [(1, .int (0 : Int32)), (0, .ref a_self), (2, .int x2_9)]) hx hb dX9_findSymbols_38 rfl hl (by decide) rfl (fun ls hl => ?_)
          refine lv_aload_n hx hb dX9_findSymbols_39 rfl (lv_at hl 1 rfl) ?_
          refine va_get (D := D) (ci := 9) (v := .ref a_symbol) (C := RX9) (T := TX9) (N := 33) hx hb hts hi9 hown hK.1 hW.1 0 rfl rfl 10 (by decide) hw2 (fun _ h9 => h9) rfl dX9_findSymbols_40 ?_
          refine lv_aload_n hx hb dX9_findSymbols_43 rfl (lv_at hl 1 rfl) ?_
          refine va_get (D := D) (ci := 9) (v := .int m_symbols_34) (C := RX9) (T := TX9) (N := 33) hx hb hts hi9 hown hK.1 hW.1 0 rfl rfl 9 (by decide) hw0 (fun _ h9 => h9) rfl dX9_findSymbols_44 ?_
          refine lv_aload_n hx hb dX9_findSymbols_47 rfl (lv_at hl 1 rfl) ?_
          refine va_get (D := D) (ci := 9) (v := .ref a_places) (C := RX9) (T := TX9) (N := 33) hx hb hts hi9 hown hK.1 hW.1 0 rfl rfl 8 (by decide) hw4 (fun _ h9 => h9) rfl dX9_findSymbols_48 ?_
          refine lv_iload_n hx hb dX9_findSymbols_51 rfl (lv_at hl 2 rfl) ?_
          obtain ⟨g52, hF⟩ := gdI_some hF
          refine va_iald hx hb hK.1 hW.1 1 0 rfl rfl g52 dX9_findSymbols_52 ?_
          refine lv_iconst (v := 1) hx hb dX9_findSymbols_53 (by decide) ?_
          refine lv_iadd hx hb dX9_findSymbols_54 ?_
          obtain ⟨g55, hF⟩ := gdI_some hF
          refine va_iast hx hb hK.1 hW.1 hW.2.1 hW.2.2 2 0 rfl rfl g55 dX9_findSymbols_55 (fun H locs hP hD hS => ?_)
          have hW : WS D A s [ob a_self 9 [Value.int m_signs, Value.ref a_block, Value.ref a_tape, Value.int m_bits, Value.int m_faultAt, Value.int m_isDone, Value.int m_n, Value.ref a_map, Value.ref a_places, Value.int m_symbols_34, Value.ref a_symbol, Value.int m_groups, Value.int m_tables, Value.ref a_lengths, Value.ref a_taken, Value.ref a_codes, Value.ref a_list, Value.ref a_weights, Value.ref a_whole, Value.int m_lays, Value.int m_laid, Value.ref a_row, Value.int m_read, Value.int m_wrong, Value.int m_readMany, Value.ref a_readMap, Value.int m_readTables, Value.int m_readGroups, Value.ref a_readTaken, Value.ref a_readLengths, Value.ref a_readCodes, Value.int m_found, Value.ref a_foundBlock], ia cI a_places 300 m_places, ia cI a_symbol 301 (upd m_symbol_34 m_symbols_34.toNatClampNeg ((m_places x2_9.toNatClampNeg) + (1 : Int32)))] H locs := ⟨hP, hD, hS⟩
          refine lv_aload_n hx hb dX9_findSymbols_56 rfl (lv_at hl 1 rfl) ?_
          refine lv_dup hx hb dX9_findSymbols_57 rfl ?_
          refine va_get (D := D) (ci := 9) (v := .int m_symbols_34) (C := RX9) (T := TX9) (N := 33) hx hb hts hi9 hown hK.1 hW.1 0 rfl rfl 9 (by decide) hw0 (fun _ h9 => h9) rfl dX9_findSymbols_58 ?_
          refine lv_iconst (v := 1) hx hb dX9_findSymbols_61 (by decide) ?_
          refine lv_iadd hx hb dX9_findSymbols_62 ?_
          refine va_put (D := D) (ci := 9) (v := .int (m_symbols_34 + (1 : Int32))) (ty := .int) (C := RX9) (T := TX9) (N := 33) hx hb hts hi9 tyX9 tyX9_ok nmX9 hown hK.1 hW.1 hW.2.1 hW.2.2 0 rfl rfl 9 (by decide) hw0 (fun _ h9 => h9) rfl (by decide +kernel) rfl rfl (Nat.le_of_ble_eq_true rfl) dX9_findSymbols_63 (fun H locs hP hD hS => ?_)
          have hW : WS D A s [ob a_self 9 [Value.int m_signs, Value.ref a_block, Value.ref a_tape, Value.int m_bits, Value.int m_faultAt, Value.int m_isDone, Value.int m_n, Value.ref a_map, Value.ref a_places, Value.int (m_symbols_34 + (1 : Int32)), Value.ref a_symbol, Value.int m_groups, Value.int m_tables, Value.ref a_lengths, Value.ref a_taken, Value.ref a_codes, Value.ref a_list, Value.ref a_weights, Value.ref a_whole, Value.int m_lays, Value.int m_laid, Value.ref a_row, Value.int m_read, Value.int m_wrong, Value.int m_readMany, Value.ref a_readMap, Value.int m_readTables, Value.int m_readGroups, Value.ref a_readTaken, Value.ref a_readLengths, Value.ref a_readCodes, Value.int m_found, Value.ref a_foundBlock], ia cI a_places 300 m_places, ia cI a_symbol 301 (upd m_symbol_34 m_symbols_34.toNatClampNeg ((m_places x2_9.toNatClampNeg) + (1 : Int32)))] H locs := ⟨hP, hD, hS⟩
          refine lv_iinc (v := (x2_9 + 1)) (lv' := [(2, .int (x2_9 + 1)), (1, .int (0 : Int32)), (0, .ref a_self)]) hx hb dX9_findSymbols_66 hl (k := 2) rfl rfl (by decide) rfl (fun ls hl => ?_)
          refine lv_goto (tgt := 9) hx hb dX9_findSymbols_69 (by decide) ?_
          cases hF
          exact ih9 _ _ _ _ (itr_in hN9) _ _ hW _ (lv_sub hl [2, 1, 0] rfl)
        · rw [if_pos c23] at hF
          refine lv_iinc (v := (x1_9 + 1)) (lv' := [(1, .int (x1_9 + 1)), (0, .ref a_self), (2, .int x2_9)]) hx hb dX9_findSymbols_26 hl (k := 1) rfl rfl (by decide) rfl (fun ls hl => ?_)
          refine lv_goto (tgt := 66) hx hb dX9_findSymbols_29 (by decide) ?_
          refine lv_iinc (v := (x2_9 + 1)) (lv' := [(2, .int (x2_9 + 1)), (1, .int (x1_9 + 1)), (0, .ref a_self)]) hx hb dX9_findSymbols_66 hl (k := 2) rfl rfl (by decide) rfl (fun ls hl => ?_)
          refine lv_goto (tgt := 9) hx hb dX9_findSymbols_69 (by decide) ?_
          cases hF
          exact ih9 _ _ _ _ (itr_in hN9) _ _ hW _ (lv_sub hl [2, 1, 0] rfl)
  exact hL9 nn _ _ _ _ hI _ _ hW _ (lv_sub hl [2, 1, 0] rfl)
abbrev rmMo_groupEnd : Room := { frames := 0, cells := 0, slots := 0, locals := 0 }
set_option maxHeartbeats 4000000 in
set_option maxRecDepth 100000 in
theorem kMo_groupEnd (l : Launch) (D : va_G) (cI cZ cO cG : ClassId) (a_self : Nat) (a_block : Nat) (a_tape : Nat) (a_map : Nat) (a_places : Nat) (a_symbol : Nat) (a_lengths : Nat) (a_taken : Nat) (a_codes : Nat) (a_list : Nat) (a_weights : Nat) (a_whole : Nat) (a_row : Nat) (a_readMap : Nat) (a_readTaken : Nat) (a_readLengths : Nat) (a_readCodes : Nat) (a_foundBlock : Nat) (m_signs : Int32) (m_bits : Int32) (m_faultAt : Int32) (m_isDone : Int32) (m_n : Int32) (m_symbols : Int32) (m_groups : Int32) (m_tables : Int32) (m_lays : Int32) (m_laid : Int32) (m_read : Int32) (m_wrong : Int32) (m_readMany : Int32) (m_readTables : Int32) (m_readGroups : Int32) (m_found : Int32) (x1 : Int32) {rv : Int32} (hF : fMo_groupEnd m_symbols x1 = some rv) : CT l yX9_groupEnd wsX9_groupEnd rmMo_groupEnd D (tysG cI cZ cO cG) [.ref a_self, .int x1] [ob a_self 9 [Value.int m_signs, Value.ref a_block, Value.ref a_tape, Value.int m_bits, Value.int m_faultAt, Value.int m_isDone, Value.int m_n, Value.ref a_map, Value.ref a_places, Value.int m_symbols, Value.ref a_symbol, Value.int m_groups, Value.int m_tables, Value.ref a_lengths, Value.ref a_taken, Value.ref a_codes, Value.ref a_list, Value.ref a_weights, Value.ref a_whole, Value.int m_lays, Value.int m_laid, Value.ref a_row, Value.int m_read, Value.int m_wrong, Value.int m_readMany, Value.ref a_readMap, Value.int m_readTables, Value.int m_readGroups, Value.ref a_readTaken, Value.ref a_readLengths, Value.ref a_readCodes, Value.int m_found, Value.ref a_foundBlock]] (some (.int rv)) [ob a_self 9 [Value.int m_signs, Value.ref a_block, Value.ref a_tape, Value.int m_bits, Value.int m_faultAt, Value.int m_isDone, Value.int m_n, Value.ref a_map, Value.ref a_places, Value.int m_symbols, Value.ref a_symbol, Value.int m_groups, Value.int m_tables, Value.ref a_lengths, Value.ref a_taken, Value.ref a_codes, Value.ref a_list, Value.ref a_weights, Value.ref a_whole, Value.int m_lays, Value.int m_laid, Value.ref a_row, Value.int m_read, Value.int m_wrong, Value.int m_readMany, Value.ref a_readMap, Value.int m_readTables, Value.int m_readGroups, Value.ref a_readTaken, Value.ref a_readLengths, Value.ref a_readCodes, Value.int m_found, Value.ref a_foundBlock]] := by
  refine CT.of (cc := cX9_groupEnd) (maxL := 2) (ret := (some .int)) (by decide) rfl (Nat.le_of_ble_eq_true rfl) ?_
  intro p e s m below meth c A ls hx hb hr hml hts hown hlocks hK hA hP hD hS hl
  generalize hargs : ([.ref a_self, .int x1] : List Value).toArray = args at hts ⊢
  generalize hQ : MQ below (ctQ D (some (.int rv)) [ob a_self 9 [Value.int m_signs, Value.ref a_block, Value.ref a_tape, Value.int m_bits, Value.int m_faultAt, Value.int m_isDone, Value.int m_n, Value.ref a_map, Value.ref a_places, Value.int m_symbols, Value.ref a_symbol, Value.int m_groups, Value.int m_tables, Value.ref a_lengths, Value.ref a_taken, Value.ref a_codes, Value.ref a_list, Value.ref a_weights, Value.ref a_whole, Value.int m_lays, Value.int m_laid, Value.ref a_row, Value.int m_read, Value.int m_wrong, Value.int m_readMany, Value.ref a_readMap, Value.int m_readTables, Value.int m_readGroups, Value.ref a_readTaken, Value.ref a_readLengths, Value.ref a_readCodes, Value.int m_found, Value.ref a_foundBlock]] A) args s 0 0 A = Q
  have hl : lv_has ls 2 [(0, .ref a_self), (1, .int x1)] := hl
  have hW : WS D A s [ob a_self 9 [Value.int m_signs, Value.ref a_block, Value.ref a_tape, Value.int m_bits, Value.int m_faultAt, Value.int m_isDone, Value.int m_n, Value.ref a_map, Value.ref a_places, Value.int m_symbols, Value.ref a_symbol, Value.int m_groups, Value.int m_tables, Value.ref a_lengths, Value.ref a_taken, Value.ref a_codes, Value.ref a_list, Value.ref a_weights, Value.ref a_whole, Value.int m_lays, Value.int m_laid, Value.ref a_row, Value.int m_read, Value.int m_wrong, Value.int m_readMany, Value.ref a_readMap, Value.int m_readTables, Value.int m_readGroups, Value.ref a_readTaken, Value.ref a_readLengths, Value.ref a_readCodes, Value.int m_found, Value.ref a_foundBlock]] s.heap [] := ⟨hP, hD, hS⟩
  clear hP hD hS
  unfold fMo_groupEnd at hF
  have hw0 := hts (Cond.fieldLink RX9 86 "MoveFrontsModel" "symbols" "I") (by decide +kernel)
  have hi9 : ∀ w ∈ u_ws RX9 TX9 33, w ∈ wsX9_groupEnd := by decide +kernel
  refine lv_bipush (v := 10) hx hb dX9_groupEnd_0 (by decide) ?_
  refine lv_iload_n hx hb dX9_groupEnd_2 rfl (lv_at hl 1 rfl) ?_
  refine lv_imul hx hb dX9_groupEnd_3 ?_
  refine lv_bipush (v := 10) hx hb dX9_groupEnd_4 (by decide) ?_
  refine lv_iadd hx hb dX9_groupEnd_6 ?_
  refine lv_aload_n hx hb dX9_groupEnd_7 rfl (lv_at hl 0 rfl) ?_
  refine va_get (D := D) (ci := 9) (v := .int m_symbols) (C := RX9) (T := TX9) (N := 33) hx hb hts hi9 hown hK.1 hW.1 0 rfl rfl 9 (by decide) hw0 (fun _ h9 => h9) rfl dX9_groupEnd_8 ?_
  refine lv_icmp_ge (tgt := 24) hx hb dX9_groupEnd_11 (by decide) (fun c11 => ?_) (fun c11 => ?_)
  · rw [if_pos c11] at hF
    refine lv_aload_n hx hb dX9_groupEnd_24 rfl (lv_at hl 0 rfl) ?_
    refine va_get (D := D) (ci := 9) (v := .int m_symbols) (C := RX9) (T := TX9) (N := 33) hx hb hts hi9 hown hK.1 hW.1 0 rfl rfl 9 (by decide) hw0 (fun _ h9 => h9) rfl dX9_groupEnd_25 ?_
    cases hF
    subst hQ
    exact ct_iret hx hb hr hlocks hW.1 hW.2.2 dX9_groupEnd_28
  · rw [if_neg c11] at hF
    refine lv_bipush (v := 10) hx hb dX9_groupEnd_14 (by decide) ?_
    refine lv_iload_n hx hb dX9_groupEnd_16 rfl (lv_at hl 1 rfl) ?_
    refine lv_imul hx hb dX9_groupEnd_17 ?_
    refine lv_bipush (v := 10) hx hb dX9_groupEnd_18 (by decide) ?_
    refine lv_iadd hx hb dX9_groupEnd_20 ?_
    refine lv_goto (tgt := 28) hx hb dX9_groupEnd_21 (by decide) ?_
    cases hF
    subst hQ
    exact ct_iret hx hb hr hlocks hW.1 hW.2.2 dX9_groupEnd_28
abbrev rmMo_lightest : Room := { frames := 1, cells := 0, slots := 0, locals := 21 }
set_option maxHeartbeats 4000000 in
set_option maxRecDepth 100000 in
theorem kMo_lightest (l : Launch) (D : va_G) (cI cZ cO cG : ClassId) (a_self : Nat) (a_block : Nat) (a_tape : Nat) (a_map : Nat) (a_places : Nat) (a_symbol : Nat) (a_lengths : Nat) (a_taken : Nat) (a_codes : Nat) (a_list : Nat) (a_weights : Nat) (a_whole : Nat) (a_row : Nat) (a_readMap : Nat) (a_readTaken : Nat) (a_readLengths : Nat) (a_readCodes : Nat) (a_foundBlock : Nat) (m_signs : Int32) (m_bits : Int32) (m_faultAt : Int32) (m_isDone : Int32) (m_n : Int32) (m_symbols : Int32) (m_groups : Int32) (m_tables : Int32) (m_lays : Int32) (m_laid : Int32) (m_read : Int32) (m_wrong : Int32) (m_readMany : Int32) (m_readTables : Int32) (m_readGroups : Int32) (m_found : Int32) (m_symbol : Nat → Int32) (m_lengths : Nat → Int32) (x1 : Int32) (x2 : Int32) {rv : Int32} (hF : fMo_lightest m_symbols m_tables m_symbol m_lengths x1 x2 = some rv) : CT l yX9_lightest wsX9_lightest rmMo_lightest D (tysG cI cZ cO cG) [.ref a_self, .int x1, .int x2] [ob a_self 9 [Value.int m_signs, Value.ref a_block, Value.ref a_tape, Value.int m_bits, Value.int m_faultAt, Value.int m_isDone, Value.int m_n, Value.ref a_map, Value.ref a_places, Value.int m_symbols, Value.ref a_symbol, Value.int m_groups, Value.int m_tables, Value.ref a_lengths, Value.ref a_taken, Value.ref a_codes, Value.ref a_list, Value.ref a_weights, Value.ref a_whole, Value.int m_lays, Value.int m_laid, Value.ref a_row, Value.int m_read, Value.int m_wrong, Value.int m_readMany, Value.ref a_readMap, Value.int m_readTables, Value.int m_readGroups, Value.ref a_readTaken, Value.ref a_readLengths, Value.ref a_readCodes, Value.int m_found, Value.ref a_foundBlock], ia cI a_symbol 301 m_symbol, ia cI a_lengths 3870 m_lengths] (some (.int rv)) [ob a_self 9 [Value.int m_signs, Value.ref a_block, Value.ref a_tape, Value.int m_bits, Value.int m_faultAt, Value.int m_isDone, Value.int m_n, Value.ref a_map, Value.ref a_places, Value.int m_symbols, Value.ref a_symbol, Value.int m_groups, Value.int m_tables, Value.ref a_lengths, Value.ref a_taken, Value.ref a_codes, Value.ref a_list, Value.ref a_weights, Value.ref a_whole, Value.int m_lays, Value.int m_laid, Value.ref a_row, Value.int m_read, Value.int m_wrong, Value.int m_readMany, Value.ref a_readMap, Value.int m_readTables, Value.int m_readGroups, Value.ref a_readTaken, Value.ref a_readLengths, Value.ref a_readCodes, Value.int m_found, Value.ref a_foundBlock], ia cI a_symbol 301 m_symbol, ia cI a_lengths 3870 m_lengths] := by
  refine CT.of (cc := cX9_lightest) (maxL := 8) (ret := (some .int)) (by decide) rfl (Nat.le_of_ble_eq_true rfl) ?_
  intro p e s m below meth c A ls hx hb hr hml hts hown hlocks hK hA hP hD hS hl
  generalize hargs : ([.ref a_self, .int x1, .int x2] : List Value).toArray = args at hts ⊢
  generalize hQ : MQ below (ctQ D (some (.int rv)) [ob a_self 9 [Value.int m_signs, Value.ref a_block, Value.ref a_tape, Value.int m_bits, Value.int m_faultAt, Value.int m_isDone, Value.int m_n, Value.ref a_map, Value.ref a_places, Value.int m_symbols, Value.ref a_symbol, Value.int m_groups, Value.int m_tables, Value.ref a_lengths, Value.ref a_taken, Value.ref a_codes, Value.ref a_list, Value.ref a_weights, Value.ref a_whole, Value.int m_lays, Value.int m_laid, Value.ref a_row, Value.int m_read, Value.int m_wrong, Value.int m_readMany, Value.ref a_readMap, Value.int m_readTables, Value.int m_readGroups, Value.ref a_readTaken, Value.ref a_readLengths, Value.ref a_readCodes, Value.int m_found, Value.ref a_foundBlock], ia cI a_symbol 301 m_symbol, ia cI a_lengths 3870 m_lengths] A) args s 0 0 A = Q
  have hl : lv_has ls 8 [(0, .ref a_self), (1, .int x1), (2, .int x2)] := hl
  have hW : WS D A s [ob a_self 9 [Value.int m_signs, Value.ref a_block, Value.ref a_tape, Value.int m_bits, Value.int m_faultAt, Value.int m_isDone, Value.int m_n, Value.ref a_map, Value.ref a_places, Value.int m_symbols, Value.ref a_symbol, Value.int m_groups, Value.int m_tables, Value.ref a_lengths, Value.ref a_taken, Value.ref a_codes, Value.ref a_list, Value.ref a_weights, Value.ref a_whole, Value.int m_lays, Value.int m_laid, Value.ref a_row, Value.int m_read, Value.int m_wrong, Value.int m_readMany, Value.ref a_readMap, Value.int m_readTables, Value.int m_readGroups, Value.ref a_readTaken, Value.ref a_readLengths, Value.ref a_readCodes, Value.int m_found, Value.ref a_foundBlock], ia cI a_symbol 301 m_symbol, ia cI a_lengths 3870 m_lengths] s.heap [] := ⟨hP, hD, hS⟩
  clear hP hD hS
  unfold fMo_lightest at hF
  have hw0 := hts (Cond.fieldLink RX9 92 "MoveFrontsModel" "tables" "I") (by decide +kernel)
  have hw1 := hts (Cond.fieldLink RX9 30 "MoveFrontsModel" "lengths" "[I") (by decide +kernel)
  have hw2 := hts (Cond.fieldLink RX9 27 "MoveFrontsModel" "symbol" "[I") (by decide +kernel)
  have hi9 : ∀ w ∈ u_ws RX9 TX9 33, w ∈ wsX9_lightest := by decide +kernel
  refine lv_iconst (v := 0) hx hb dX9_lightest_0 (by decide) ?_
  refine lv_istore_n (lv' := [(3, .int (0 : Int32)), (0, .ref a_self), (1, .int x1), (2, .int x2)]) hx hb dX9_lightest_1 rfl hl (by decide) rfl (fun ls hl => ?_)
  refine lv_iconst (v := 0) hx hb dX9_lightest_2 (by decide) ?_
  refine lv_istore (lv' := [(4, .int (0 : Int32)), (3, .int (0 : Int32)), (0, .ref a_self), (1, .int x1), (2, .int x2)]) hx hb dX9_lightest_3 hl (by decide) rfl (fun ls hl => ?_)
  refine lv_iconst (v := 0) hx hb dX9_lightest_5 (by decide) ?_
  refine lv_istore (lv' := [(5, .int (0 : Int32)), (4, .int (0 : Int32)), (3, .int (0 : Int32)), (0, .ref a_self), (1, .int x1), (2, .int x2)]) hx hb dX9_lightest_6 hl (by decide) rfl (fun ls hl => ?_)
  obtain ⟨x3_8ze, hI, hF⟩ := bd1_some hF
  obtain ⟨nn, hI⟩ := itrO_some hI
  have hX8 : ∀ (x3_8z : Int32), x3_8z = x3_8ze → ∀ (H : Heap) (locs : List Loc), WS D A s [ob a_self 9 [Value.int m_signs, Value.ref a_block, Value.ref a_tape, Value.int m_bits, Value.int m_faultAt, Value.int m_isDone, Value.int m_n, Value.ref a_map, Value.ref a_places, Value.int m_symbols, Value.ref a_symbol, Value.int m_groups, Value.int m_tables, Value.ref a_lengths, Value.ref a_taken, Value.ref a_codes, Value.ref a_list, Value.ref a_weights, Value.ref a_whole, Value.int m_lays, Value.int m_laid, Value.ref a_row, Value.int m_read, Value.int m_wrong, Value.int m_readMany, Value.ref a_readMap, Value.int m_readTables, Value.int m_readGroups, Value.ref a_readTaken, Value.ref a_readLengths, Value.ref a_readCodes, Value.int m_found, Value.ref a_foundBlock], ia cI a_symbol 301 m_symbol, ia cI a_lengths 3870 m_lengths] H locs → ∀ ls : Array Slot, lv_has ls 8 [(3, .int x3_8z)] → W p l e (headSpec wsX9_lightest rmMo_lightest).room s m args below meth c H locs 0 0 Q (F0 m 116 ls []) := by
    intro x3_8z he H locs hW ls hl
    subst he
    refine lv_iload_n hx hb dX9_lightest_116 rfl (lv_at hl 0 rfl) ?_
    cases hF
    subst hQ
    exact ct_iret hx hb hr hlocks hW.1 hW.2.2 dX9_lightest_117
  have hL8 : ∀ (n8 : Nat) (x3_8 : Int32) (x4_8 : Int32) (x5_8 : Int32), itr (un3 (fMo_lightest_L8 m_symbols m_tables m_symbol m_lengths x1 x2)) n8 (x3_8, x4_8, x5_8) = some x3_8ze → ∀ (H : Heap) (locs : List Loc), WS D A s [ob a_self 9 [Value.int m_signs, Value.ref a_block, Value.ref a_tape, Value.int m_bits, Value.int m_faultAt, Value.int m_isDone, Value.int m_n, Value.ref a_map, Value.ref a_places, Value.int m_symbols, Value.ref a_symbol, Value.int m_groups, Value.int m_tables, Value.ref a_lengths, Value.ref a_taken, Value.ref a_codes, Value.ref a_list, Value.ref a_weights, Value.ref a_whole, Value.int m_lays, Value.int m_laid, Value.ref a_row, Value.int m_read, Value.int m_wrong, Value.int m_readMany, Value.ref a_readMap, Value.int m_readTables, Value.int m_readGroups, Value.ref a_readTaken, Value.ref a_readLengths, Value.ref a_readCodes, Value.int m_found, Value.ref a_foundBlock], ia cI a_symbol 301 m_symbol, ia cI a_lengths 3870 m_lengths] H locs → ∀ ls : Array Slot, lv_has ls 8 [(0, .ref a_self), (1, .int x1), (2, .int x2), (3, .int x3_8), (4, .int x4_8), (5, .int x5_8)] → W p l e (headSpec wsX9_lightest rmMo_lightest).room s m args below meth c H locs 0 0 Q (F0 m 8 ls []) := by
    intro n8
    induction n8 with
    | zero => intro x3_8 x4_8 x5_8 hI; cases hI
    | succ n8 ih8 =>
      intro x3_8 x4_8 x5_8 hI H locs hW ls hl
      obtain ⟨sr8, hF, hN8⟩ := itr_succ hI
      have hF : fMo_lightest_L8 m_symbols m_tables m_symbol m_lengths x1 x2 x3_8 x4_8 x5_8 = some sr8 := hF
      unfold fMo_lightest_L8 at hF
      have hJ88 : ∀ (x4_88 : Int32) (x5_88 : Int32) (x6_88 : Int32) (t0_88 : Int32), fMo_lightest_J88 x4_88 x5_88 x6_88 t0_88 = some sr8 → ∀ (H : Heap) (locs : List Loc), WS D A s [ob a_self 9 [Value.int m_signs, Value.ref a_block, Value.ref a_tape, Value.int m_bits, Value.int m_faultAt, Value.int m_isDone, Value.int m_n, Value.ref a_map, Value.ref a_places, Value.int m_symbols, Value.ref a_symbol, Value.int m_groups, Value.int m_tables, Value.ref a_lengths, Value.ref a_taken, Value.ref a_codes, Value.ref a_list, Value.ref a_weights, Value.ref a_whole, Value.int m_lays, Value.int m_laid, Value.ref a_row, Value.int m_read, Value.int m_wrong, Value.int m_readMany, Value.ref a_readMap, Value.int m_readTables, Value.int m_readGroups, Value.ref a_readTaken, Value.ref a_readLengths, Value.ref a_readCodes, Value.int m_found, Value.ref a_foundBlock], ia cI a_symbol 301 m_symbol, ia cI a_lengths 3870 m_lengths] H locs → ∀ ls : Array Slot, lv_has ls 8 [(0, .ref a_self), (1, .int x1), (2, .int x2), (4, .int x4_88), (5, .int x5_88), (6, .int x6_88)] → W p l e (headSpec wsX9_lightest rmMo_lightest).room s m args below meth c H locs 0 0 Q (F0 m 88 ls [.int t0_88]) := by
        intro x4_88 x5_88 x6_88 t0_88 hF H locs hW ls hl
        unfold fMo_lightest_J88 at hF
        refine lv_istore_n (lv' := [(3, .int t0_88), (0, .ref a_self), (1, .int x1), (2, .int x2), (4, .int x4_88), (5, .int x5_88), (6, .int x6_88)]) hx hb dX9_lightest_88 rfl hl (by decide) rfl (fun ls hl => ?_)
        refine lv_iload hx hb dX9_lightest_89 (lv_at hl 5 rfl) ?_
        refine lv_if_eq (tgt := 101) hx hb dX9_lightest_91 (by decide) (fun c91 => ?_) (fun c91 => ?_)
        · rw [if_pos c91] at hF
          refine lv_iload hx hb dX9_lightest_101 (lv_at hl 6 rfl) ?_
          refine lv_goto (tgt := 108) hx hb dX9_lightest_103 (by decide) ?_
          refine lv_istore (lv' := [(4, .int x6_88), (3, .int t0_88), (0, .ref a_self), (1, .int x1), (2, .int x2), (5, .int x5_88), (6, .int x6_88)]) hx hb dX9_lightest_108 hl (by decide) rfl (fun ls hl => ?_)
          refine lv_iinc (v := (x5_88 + 1)) (lv' := [(5, .int (x5_88 + 1)), (4, .int x6_88), (3, .int t0_88), (0, .ref a_self), (1, .int x1), (2, .int x2), (6, .int x6_88)]) hx hb dX9_lightest_110 hl (k := 5) rfl rfl (by decide) rfl (fun ls hl => ?_)
          refine lv_goto (tgt := 8) hx hb dX9_lightest_113 (by decide) ?_
          cases hF
          exact ih8 _ _ _ (itr_in hN8) _ _ hW _ (lv_sub hl [3, 4, 5, 2, 1, 0] rfl)
        · rw [if_neg c91] at hF
          refine lv_iload hx hb dX9_lightest_94 (lv_at hl 6 rfl) ?_
          refine lv_iload hx hb dX9_lightest_96 (lv_at hl 4 rfl) ?_
          refine lv_icmp_ge (tgt := 106) hx hb dX9_lightest_98 (by decide) (fun c98 => ?_) (fun c98 => ?_)
          · rw [if_pos c98] at hF
            refine lv_iload hx hb dX9_lightest_106 (lv_at hl 4 rfl) ?_
            refine lv_istore (lv' := [(4, .int x4_88), (3, .int t0_88), (0, .ref a_self), (1, .int x1), (2, .int x2), (5, .int x5_88), (6, .int x6_88)]) hx hb dX9_lightest_108 hl (by decide) rfl (fun ls hl => ?_)
            refine lv_iinc (v := (x5_88 + 1)) (lv' := [(5, .int (x5_88 + 1)), (4, .int x4_88), (3, .int t0_88), (0, .ref a_self), (1, .int x1), (2, .int x2), (6, .int x6_88)]) hx hb dX9_lightest_110 hl (k := 5) rfl rfl (by decide) rfl (fun ls hl => ?_)
            refine lv_goto (tgt := 8) hx hb dX9_lightest_113 (by decide) ?_
            cases hF
            exact ih8 _ _ _ (itr_in hN8) _ _ hW _ (lv_sub hl [3, 4, 5, 2, 1, 0] rfl)
          · rw [if_neg c98] at hF
            refine lv_iload hx hb dX9_lightest_101 (lv_at hl 6 rfl) ?_
            refine lv_goto (tgt := 108) hx hb dX9_lightest_103 (by decide) ?_
            refine lv_istore (lv' := [(4, .int x6_88), (3, .int t0_88), (0, .ref a_self), (1, .int x1), (2, .int x2), (5, .int x5_88), (6, .int x6_88)]) hx hb dX9_lightest_108 hl (by decide) rfl (fun ls hl => ?_)
            refine lv_iinc (v := (x5_88 + 1)) (lv' := [(5, .int (x5_88 + 1)), (4, .int x6_88), (3, .int t0_88), (0, .ref a_self), (1, .int x1), (2, .int x2), (6, .int x6_88)]) hx hb dX9_lightest_110 hl (k := 5) rfl rfl (by decide) rfl (fun ls hl => ?_)
            refine lv_goto (tgt := 8) hx hb dX9_lightest_113 (by decide) ?_
            cases hF
            exact ih8 _ _ _ (itr_in hN8) _ _ hW _ (lv_sub hl [3, 4, 5, 2, 1, 0] rfl)
      have hJ82 : ∀ (x4_82 : Int32) (x5_82 : Int32) (x6_82 : Int32), fMo_lightest_J82 x4_82 x5_82 x6_82 = some sr8 → ∀ (H : Heap) (locs : List Loc), WS D A s [ob a_self 9 [Value.int m_signs, Value.ref a_block, Value.ref a_tape, Value.int m_bits, Value.int m_faultAt, Value.int m_isDone, Value.int m_n, Value.ref a_map, Value.ref a_places, Value.int m_symbols, Value.ref a_symbol, Value.int m_groups, Value.int m_tables, Value.ref a_lengths, Value.ref a_taken, Value.ref a_codes, Value.ref a_list, Value.ref a_weights, Value.ref a_whole, Value.int m_lays, Value.int m_laid, Value.ref a_row, Value.int m_read, Value.int m_wrong, Value.int m_readMany, Value.ref a_readMap, Value.int m_readTables, Value.int m_readGroups, Value.ref a_readTaken, Value.ref a_readLengths, Value.ref a_readCodes, Value.int m_found, Value.ref a_foundBlock], ia cI a_symbol 301 m_symbol, ia cI a_lengths 3870 m_lengths] H locs → ∀ ls : Array Slot, lv_has ls 8 [(0, .ref a_self), (1, .int x1), (2, .int x2), (4, .int x4_82), (5, .int x5_82), (6, .int x6_82)] → W p l e (headSpec wsX9_lightest rmMo_lightest).room s m args below meth c H locs 0 0 Q (F0 m 82 ls []) := by
        intro x4_82 x5_82 x6_82 hF H locs hW ls hl
        unfold fMo_lightest_J82 at hF
        refine lv_iload hx hb dX9_lightest_82 (lv_at hl 4 rfl) ?_
        refine lv_goto (tgt := 88) hx hb dX9_lightest_84 (by decide) ?_
        exact hJ88 _ _ _ _ hF _ _ hW _ (lv_sub hl [0, 1, 2, 3, 4, 5] rfl)
      refine lv_iload hx hb dX9_lightest_8 (lv_at hl 5 rfl) ?_
      refine lv_aload_n hx hb dX9_lightest_10 rfl (lv_at hl 0 rfl) ?_
      refine va_get (D := D) (ci := 9) (v := .int m_tables) (C := RX9) (T := TX9) (N := 33) hx hb hts hi9 hown hK.1 hW.1 0 rfl rfl 12 (by decide) hw0 (fun _ h9 => h9) rfl dX9_lightest_11 ?_
      refine lv_icmp_ge (tgt := 116) hx hb dX9_lightest_14 (by decide) (fun c14 => ?_) (fun c14 => ?_)
      · rw [if_pos c14] at hF
        cases hF
        exact hX8 _ (itr_out hN8) _ _ hW _ (lv_sub hl [3] rfl)
      · rw [if_neg c14] at hF
        refine lv_iconst (v := 0) hx hb dX9_lightest_17 (by decide) ?_
        refine lv_istore (lv' := [(6, .int (0 : Int32)), (0, .ref a_self), (1, .int x1), (2, .int x2), (3, .int x3_8), (4, .int x4_8), (5, .int x5_8)]) hx hb dX9_lightest_18 hl (by decide) rfl (fun ls hl => ?_)
        refine lv_bipush (v := 10) hx hb dX9_lightest_20 (by decide) ?_
        refine lv_iload_n hx hb dX9_lightest_22 rfl (lv_at hl 3 rfl) ?_
        refine lv_imul hx hb dX9_lightest_23 ?_
        refine lv_istore (lv' := [(7, .int ((10 : Int32) * x2)), (6, .int (0 : Int32)), (0, .ref a_self), (1, .int x1), (2, .int x2), (3, .int x3_8), (4, .int x4_8), (5, .int x5_8)]) hx hb dX9_lightest_24 hl (by decide) rfl (fun ls hl => ?_)
        obtain ⟨x6_26ze, hI, hF⟩ := bd1_some hF
        obtain ⟨nn, hI⟩ := itrO_some hI
        have hX26 : ∀ (x6_26z : Int32), x6_26z = x6_26ze → ∀ (H : Heap) (locs : List Loc), WS D A s [ob a_self 9 [Value.int m_signs, Value.ref a_block, Value.ref a_tape, Value.int m_bits, Value.int m_faultAt, Value.int m_isDone, Value.int m_n, Value.ref a_map, Value.ref a_places, Value.int m_symbols, Value.ref a_symbol, Value.int m_groups, Value.int m_tables, Value.ref a_lengths, Value.ref a_taken, Value.ref a_codes, Value.ref a_list, Value.ref a_weights, Value.ref a_whole, Value.int m_lays, Value.int m_laid, Value.ref a_row, Value.int m_read, Value.int m_wrong, Value.int m_readMany, Value.ref a_readMap, Value.int m_readTables, Value.int m_readGroups, Value.ref a_readTaken, Value.ref a_readLengths, Value.ref a_readCodes, Value.int m_found, Value.ref a_foundBlock], ia cI a_symbol 301 m_symbol, ia cI a_lengths 3870 m_lengths] H locs → ∀ ls : Array Slot, lv_has ls 8 [(0, .ref a_self), (1, .int x1), (2, .int x2), (3, .int x3_8), (4, .int x4_8), (5, .int x5_8), (6, .int x6_26z)] → W p l e (headSpec wsX9_lightest rmMo_lightest).room s m args below meth c H locs 0 0 Q (F0 m 70 ls []) := by
          intro x6_26z he H locs hW ls hl
          subst he
          refine lv_iload hx hb dX9_lightest_70 (lv_at hl 5 rfl) ?_
          refine lv_if_eq (tgt := 82) hx hb dX9_lightest_72 (by decide) (fun c72 => ?_) (fun c72 => ?_)
          · rw [if_pos c72] at hF
            exact hJ82 _ _ _ hF _ _ hW _ (lv_sub hl [0, 1, 2, 4, 5, 6] rfl)
          · rw [if_neg c72] at hF
            refine lv_iload hx hb dX9_lightest_75 (lv_at hl 6 rfl) ?_
            refine lv_iload hx hb dX9_lightest_77 (lv_at hl 4 rfl) ?_
            refine lv_icmp_ge (tgt := 87) hx hb dX9_lightest_79 (by decide) (fun c79 => ?_) (fun c79 => ?_)
            · rw [if_pos c79] at hF
              refine lv_iload_n hx hb dX9_lightest_87 rfl (lv_at hl 3 rfl) ?_
              exact hJ88 _ _ _ _ hF _ _ hW _ (lv_sub hl [0, 1, 2, 4, 5, 6] rfl)
            · rw [if_neg c79] at hF
              exact hJ82 _ _ _ hF _ _ hW _ (lv_sub hl [0, 1, 2, 4, 5, 6] rfl)
        have hL26 : ∀ (n26 : Nat) (x6_26 : Int32) (x7_26 : Int32), itr (un2 (fMo_lightest_L26 m_symbols m_symbol m_lengths x1 x2 x5_8)) n26 (x6_26, x7_26) = some x6_26ze → ∀ (H : Heap) (locs : List Loc), WS D A s [ob a_self 9 [Value.int m_signs, Value.ref a_block, Value.ref a_tape, Value.int m_bits, Value.int m_faultAt, Value.int m_isDone, Value.int m_n, Value.ref a_map, Value.ref a_places, Value.int m_symbols, Value.ref a_symbol, Value.int m_groups, Value.int m_tables, Value.ref a_lengths, Value.ref a_taken, Value.ref a_codes, Value.ref a_list, Value.ref a_weights, Value.ref a_whole, Value.int m_lays, Value.int m_laid, Value.ref a_row, Value.int m_read, Value.int m_wrong, Value.int m_readMany, Value.ref a_readMap, Value.int m_readTables, Value.int m_readGroups, Value.ref a_readTaken, Value.ref a_readLengths, Value.ref a_readCodes, Value.int m_found, Value.ref a_foundBlock], ia cI a_symbol 301 m_symbol, ia cI a_lengths 3870 m_lengths] H locs → ∀ ls : Array Slot, lv_has ls 8 [(0, .ref a_self), (1, .int x1), (2, .int x2), (3, .int x3_8), (4, .int x4_8), (5, .int x5_8), (6, .int x6_26), (7, .int x7_26)] → W p l e (headSpec wsX9_lightest rmMo_lightest).room s m args below meth c H locs 0 0 Q (F0 m 26 ls []) := by
          intro n26
          induction n26 with
          | zero => intro x6_26 x7_26 hI; cases hI
          | succ n26 ih26 =>
            intro x6_26 x7_26 hI H locs hW ls hl
            obtain ⟨sr26, hF, hN26⟩ := itr_succ hI
            have hF : fMo_lightest_L26 m_symbols m_symbol m_lengths x1 x2 x5_8 x6_26 x7_26 = some sr26 := hF
            unfold fMo_lightest_L26 at hF
            refine lv_iload hx hb dX9_lightest_26 (lv_at hl 7 rfl) ?_
            refine lv_aload_n hx hb dX9_lightest_28 rfl (lv_at hl 0 rfl) ?_
            refine lv_iload_n hx hb dX9_lightest_29 rfl (lv_at hl 2 rfl) ?_
            obtain ⟨r_30, e30, hF⟩ := bd1_some hF
            refine ctV (wn := [ob a_self 9 [Value.int m_signs, Value.ref a_block, Value.ref a_tape, Value.int m_bits, Value.int m_faultAt, Value.int m_isDone, Value.int m_n, Value.ref a_map, Value.ref a_places, Value.int m_symbols, Value.ref a_symbol, Value.int m_groups, Value.int m_tables, Value.ref a_lengths, Value.ref a_taken, Value.ref a_codes, Value.ref a_list, Value.ref a_weights, Value.ref a_whole, Value.int m_lays, Value.int m_laid, Value.ref a_row, Value.int m_read, Value.int m_wrong, Value.int m_readMany, Value.ref a_readMap, Value.int m_readTables, Value.int m_readGroups, Value.ref a_readTaken, Value.ref a_readLengths, Value.ref a_readCodes, Value.int m_found, Value.ref a_foundBlock], ia cI a_symbol 301 m_symbol, ia cI a_lengths 3870 m_lengths]) (r := (RX9, TX9, 33)) (As := [.int x2]) (rest := [.int x7_26]) hx hb hml hown hts hK hW hA hl.1 (kMo_groupEnd l D cI cZ cO cG a_self a_block a_tape a_map a_places a_symbol a_lengths a_taken a_codes a_list a_weights a_whole a_row a_readMap a_readTaken a_readLengths a_readCodes a_foundBlock m_signs m_bits m_faultAt m_isDone m_n m_symbols m_groups m_tables m_lays m_laid m_read m_wrong m_readMany m_readTables m_readGroups m_found x2 e30) (cwV 1 hts gX9_lightest_X9_groupEnd rfl rfl rfl (by decide +kernel) ⟨Nat.le_of_ble_eq_true rfl, Nat.le_of_ble_eq_true rfl⟩) 9 0 rfl rfl [0] [1, 2] 3 rfl rfl rfl rfl [ia cI a_symbol 301 m_symbol, ia cI a_lengths 3870 m_lengths] rfl rfl rfl rfl rfl (Nat.le_of_ble_eq_true rfl) rfl ⟨Nat.zero_le _, Nat.zero_le _⟩ dX9_lightest_30 (fun H locs hW => ?_)
            refine lv_icmp_ge (tgt := 70) hx hb dX9_lightest_33 (by decide) (fun c33 => ?_) (fun c33 => ?_)
            · rw [if_pos c33] at hF
              cases hF
              exact hX26 _ (itr_out hN26) _ _ hW _ (lv_sub hl [0, 1, 2, 3, 4, 5, 6] rfl)
            · rw [if_neg c33] at hF
              refine lv_iload hx hb dX9_lightest_36 (lv_at hl 6 rfl) ?_
              refine lv_aload_n hx hb dX9_lightest_38 rfl (lv_at hl 0 rfl) ?_
              refine va_get (D := D) (ci := 9) (v := .ref a_lengths) (C := RX9) (T := TX9) (N := 33) hx hb hts hi9 hown hK.1 hW.1 0 rfl rfl 13 (by decide) hw1 (fun _ h9 => h9) rfl dX9_lightest_39 ?_
              refine lv_sipush (v := 258) hx hb dX9_lightest_42 (by decide) ?_
              refine lv_iconst (v := 3) hx hb dX9_lightest_45 (by decide) ?_
              refine lv_iload_n hx hb dX9_lightest_46 rfl (lv_at hl 1 rfl) ?_
              refine lv_imul hx hb dX9_lightest_47 ?_
              refine lv_iload hx hb dX9_lightest_48 (lv_at hl 5 rfl) ?_
              refine lv_iadd hx hb dX9_lightest_50 ?_
              refine lv_imul hx hb dX9_lightest_51 ?_
              refine lv_aload_n hx hb dX9_lightest_52 rfl (lv_at hl 0 rfl) ?_
              refine va_get (D := D) (ci := 9) (v := .ref a_symbol) (C := RX9) (T := TX9) (N := 33) hx hb hts hi9 hown hK.1 hW.1 0 rfl rfl 10 (by decide) hw2 (fun _ h9 => h9) rfl dX9_lightest_53 ?_
              refine lv_iload hx hb dX9_lightest_56 (lv_at hl 7 rfl) ?_
              obtain ⟨g58, hF⟩ := gdI_some hF
              refine va_iald hx hb hK.1 hW.1 1 0 rfl rfl g58 dX9_lightest_58 ?_
              refine lv_iadd hx hb dX9_lightest_59 ?_
              obtain ⟨g60, hF⟩ := gdI_some hF
              refine va_iald hx hb hK.1 hW.1 2 0 rfl rfl g60 dX9_lightest_60 ?_
              refine lv_iadd hx hb dX9_lightest_61 ?_
              refine lv_istore (lv' := [(6, .int (x6_26 + (m_lengths (((258 : Int32) * (((3 : Int32) * x1) + x5_8)) + (m_symbol x7_26.toNatClampNeg)).toNatClampNeg))), (0, .ref a_self), (1, .int x1), (2, .int x2), (3, .int x3_8), (4, .int x4_8), (5, .int x5_8), (7, .int x7_26)]) hx hb dX9_lightest_62 hl (by decide) rfl (fun ls hl => ?_)
              refine lv_iinc (v := (x7_26 + 1)) (lv' := [(7, .int (x7_26 + 1)), (6, .int (x6_26 + (m_lengths (((258 : Int32) * (((3 : Int32) * x1) + x5_8)) + (m_symbol x7_26.toNatClampNeg)).toNatClampNeg))), (0, .ref a_self), (1, .int x1), (2, .int x2), (3, .int x3_8), (4, .int x4_8), (5, .int x5_8)]) hx hb dX9_lightest_64 hl (k := 7) rfl rfl (by decide) rfl (fun ls hl => ?_)
              refine lv_goto (tgt := 26) hx hb dX9_lightest_67 (by decide) ?_
              cases hF
              exact ih26 _ _ (itr_in hN26) _ _ hW _ (lv_sub hl [2, 3, 4, 5, 6, 7, 1, 0] rfl)
        exact hL26 nn _ _ hI _ _ hW _ (lv_sub hl [2, 3, 4, 5, 6, 7, 1, 0] rfl)
  exact hL8 nn _ _ _ hI _ _ hW _ (lv_sub hl [3, 4, 5, 2, 1, 0] rfl)
abbrev rmMo_light : Room := { frames := 0, cells := 0, slots := 0, locals := 0 }
set_option maxHeartbeats 4000000 in
set_option maxRecDepth 100000 in
theorem kMo_light (l : Launch) (D : va_G) (cI cZ cO cG : ClassId) (a_self : Nat) (a_block : Nat) (a_tape : Nat) (a_map : Nat) (a_places : Nat) (a_symbol : Nat) (a_lengths : Nat) (a_taken : Nat) (a_codes : Nat) (a_list : Nat) (a_weights : Nat) (a_whole : Nat) (a_row : Nat) (a_readMap : Nat) (a_readTaken : Nat) (a_readLengths : Nat) (a_readCodes : Nat) (a_foundBlock : Nat) (m_signs : Int32) (m_bits : Int32) (m_faultAt : Int32) (m_isDone : Int32) (m_n : Int32) (m_symbols : Int32) (m_groups : Int32) (m_tables : Int32) (m_lays : Int32) (m_laid : Int32) (m_read : Int32) (m_wrong : Int32) (m_readMany : Int32) (m_readTables : Int32) (m_readGroups : Int32) (m_found : Int32) (m_weights : Nat → Int32) (m_whole : Nat → Int32) (x1 : Int32) {rv : Int32} (hF : fMo_light m_weights m_whole x1 = some rv) : CT l yX9_light wsX9_light rmMo_light D (tysG cI cZ cO cG) [.ref a_self, .int x1] [ob a_self 9 [Value.int m_signs, Value.ref a_block, Value.ref a_tape, Value.int m_bits, Value.int m_faultAt, Value.int m_isDone, Value.int m_n, Value.ref a_map, Value.ref a_places, Value.int m_symbols, Value.ref a_symbol, Value.int m_groups, Value.int m_tables, Value.ref a_lengths, Value.ref a_taken, Value.ref a_codes, Value.ref a_list, Value.ref a_weights, Value.ref a_whole, Value.int m_lays, Value.int m_laid, Value.ref a_row, Value.int m_read, Value.int m_wrong, Value.int m_readMany, Value.ref a_readMap, Value.int m_readTables, Value.int m_readGroups, Value.ref a_readTaken, Value.ref a_readLengths, Value.ref a_readCodes, Value.int m_found, Value.ref a_foundBlock], ia cI a_weights 516 m_weights, ia cI a_whole 516 m_whole] (some (.int rv)) [ob a_self 9 [Value.int m_signs, Value.ref a_block, Value.ref a_tape, Value.int m_bits, Value.int m_faultAt, Value.int m_isDone, Value.int m_n, Value.ref a_map, Value.ref a_places, Value.int m_symbols, Value.ref a_symbol, Value.int m_groups, Value.int m_tables, Value.ref a_lengths, Value.ref a_taken, Value.ref a_codes, Value.ref a_list, Value.ref a_weights, Value.ref a_whole, Value.int m_lays, Value.int m_laid, Value.ref a_row, Value.int m_read, Value.int m_wrong, Value.int m_readMany, Value.ref a_readMap, Value.int m_readTables, Value.int m_readGroups, Value.ref a_readTaken, Value.ref a_readLengths, Value.ref a_readCodes, Value.int m_found, Value.ref a_foundBlock], ia cI a_weights 516 m_weights, ia cI a_whole 516 m_whole] := by
  refine CT.of (cc := cX9_light) (maxL := 4) (ret := (some .int)) (by decide) rfl (Nat.le_of_ble_eq_true rfl) ?_
  intro p e s m below meth c A ls hx hb hr hml hts hown hlocks hK hA hP hD hS hl
  generalize hargs : ([.ref a_self, .int x1] : List Value).toArray = args at hts ⊢
  generalize hQ : MQ below (ctQ D (some (.int rv)) [ob a_self 9 [Value.int m_signs, Value.ref a_block, Value.ref a_tape, Value.int m_bits, Value.int m_faultAt, Value.int m_isDone, Value.int m_n, Value.ref a_map, Value.ref a_places, Value.int m_symbols, Value.ref a_symbol, Value.int m_groups, Value.int m_tables, Value.ref a_lengths, Value.ref a_taken, Value.ref a_codes, Value.ref a_list, Value.ref a_weights, Value.ref a_whole, Value.int m_lays, Value.int m_laid, Value.ref a_row, Value.int m_read, Value.int m_wrong, Value.int m_readMany, Value.ref a_readMap, Value.int m_readTables, Value.int m_readGroups, Value.ref a_readTaken, Value.ref a_readLengths, Value.ref a_readCodes, Value.int m_found, Value.ref a_foundBlock], ia cI a_weights 516 m_weights, ia cI a_whole 516 m_whole] A) args s 0 0 A = Q
  have hl : lv_has ls 4 [(0, .ref a_self), (1, .int x1)] := hl
  have hW : WS D A s [ob a_self 9 [Value.int m_signs, Value.ref a_block, Value.ref a_tape, Value.int m_bits, Value.int m_faultAt, Value.int m_isDone, Value.int m_n, Value.ref a_map, Value.ref a_places, Value.int m_symbols, Value.ref a_symbol, Value.int m_groups, Value.int m_tables, Value.ref a_lengths, Value.ref a_taken, Value.ref a_codes, Value.ref a_list, Value.ref a_weights, Value.ref a_whole, Value.int m_lays, Value.int m_laid, Value.ref a_row, Value.int m_read, Value.int m_wrong, Value.int m_readMany, Value.ref a_readMap, Value.int m_readTables, Value.int m_readGroups, Value.ref a_readTaken, Value.ref a_readLengths, Value.ref a_readCodes, Value.int m_found, Value.ref a_foundBlock], ia cI a_weights 516 m_weights, ia cI a_whole 516 m_whole] s.heap [] := ⟨hP, hD, hS⟩
  clear hP hD hS
  unfold fMo_light at hF
  have hw0 := hts (Cond.fieldLink RX9 45 "MoveFrontsModel" "whole" "[I") (by decide +kernel)
  have hw1 := hts (Cond.fieldLink RX9 42 "MoveFrontsModel" "weights" "[I") (by decide +kernel)
  have hi9 : ∀ w ∈ u_ws RX9 TX9 33, w ∈ wsX9_light := by decide +kernel
  refine lv_iconst (v := (-1)) hx hb dX9_light_0 (by decide) ?_
  refine lv_istore_n (lv' := [(2, .int (-1 : Int32)), (0, .ref a_self), (1, .int x1)]) hx hb dX9_light_1 rfl hl (by decide) rfl (fun ls hl => ?_)
  refine lv_iconst (v := 0) hx hb dX9_light_2 (by decide) ?_
  refine lv_istore_n (lv' := [(3, .int (0 : Int32)), (2, .int (-1 : Int32)), (0, .ref a_self), (1, .int x1)]) hx hb dX9_light_3 rfl hl (by decide) rfl (fun ls hl => ?_)
  obtain ⟨x2_4ze, hI, hF⟩ := bd1_some hF
  obtain ⟨nn, hI⟩ := itrO_some hI
  have hX4 : ∀ (x2_4z : Int32), x2_4z = x2_4ze → ∀ (H : Heap) (locs : List Loc), WS D A s [ob a_self 9 [Value.int m_signs, Value.ref a_block, Value.ref a_tape, Value.int m_bits, Value.int m_faultAt, Value.int m_isDone, Value.int m_n, Value.ref a_map, Value.ref a_places, Value.int m_symbols, Value.ref a_symbol, Value.int m_groups, Value.int m_tables, Value.ref a_lengths, Value.ref a_taken, Value.ref a_codes, Value.ref a_list, Value.ref a_weights, Value.ref a_whole, Value.int m_lays, Value.int m_laid, Value.ref a_row, Value.int m_read, Value.int m_wrong, Value.int m_readMany, Value.ref a_readMap, Value.int m_readTables, Value.int m_readGroups, Value.ref a_readTaken, Value.ref a_readLengths, Value.ref a_readCodes, Value.int m_found, Value.ref a_foundBlock], ia cI a_weights 516 m_weights, ia cI a_whole 516 m_whole] H locs → ∀ ls : Array Slot, lv_has ls 4 [(2, .int x2_4z)] → W p l e (headSpec wsX9_light rmMo_light).room s m args below meth c H locs 0 0 Q (F0 m 51 ls []) := by
    intro x2_4z he H locs hW ls hl
    subst he
    refine lv_iload_n hx hb dX9_light_51 rfl (lv_at hl 0 rfl) ?_
    cases hF
    subst hQ
    exact ct_iret hx hb hr hlocks hW.1 hW.2.2 dX9_light_52
  have hL4 : ∀ (n4 : Nat) (x2_4 : Int32) (x3_4 : Int32), itr (un2 (fMo_light_L4 m_weights m_whole x1)) n4 (x2_4, x3_4) = some x2_4ze → ∀ (H : Heap) (locs : List Loc), WS D A s [ob a_self 9 [Value.int m_signs, Value.ref a_block, Value.ref a_tape, Value.int m_bits, Value.int m_faultAt, Value.int m_isDone, Value.int m_n, Value.ref a_map, Value.ref a_places, Value.int m_symbols, Value.ref a_symbol, Value.int m_groups, Value.int m_tables, Value.ref a_lengths, Value.ref a_taken, Value.ref a_codes, Value.ref a_list, Value.ref a_weights, Value.ref a_whole, Value.int m_lays, Value.int m_laid, Value.ref a_row, Value.int m_read, Value.int m_wrong, Value.int m_readMany, Value.ref a_readMap, Value.int m_readTables, Value.int m_readGroups, Value.ref a_readTaken, Value.ref a_readLengths, Value.ref a_readCodes, Value.int m_found, Value.ref a_foundBlock], ia cI a_weights 516 m_weights, ia cI a_whole 516 m_whole] H locs → ∀ ls : Array Slot, lv_has ls 4 [(0, .ref a_self), (1, .int x1), (2, .int x2_4), (3, .int x3_4)] → W p l e (headSpec wsX9_light rmMo_light).room s m args below meth c H locs 0 0 Q (F0 m 4 ls []) := by
    intro n4
    induction n4 with
    | zero => intro x2_4 x3_4 hI; cases hI
    | succ n4 ih4 =>
      intro x2_4 x3_4 hI H locs hW ls hl
      obtain ⟨sr4, hF, hN4⟩ := itr_succ hI
      have hF : fMo_light_L4 m_weights m_whole x1 x2_4 x3_4 = some sr4 := hF
      unfold fMo_light_L4 at hF
      refine lv_iload_n hx hb dX9_light_4 rfl (lv_at hl 3 rfl) ?_
      refine lv_iload_n hx hb dX9_light_5 rfl (lv_at hl 1 rfl) ?_
      refine lv_icmp_ge (tgt := 51) hx hb dX9_light_6 (by decide) (fun c6 => ?_) (fun c6 => ?_)
      · rw [if_pos c6] at hF
        cases hF
        exact hX4 _ (itr_out hN4) _ _ hW _ (lv_sub hl [2] rfl)
      · rw [if_neg c6] at hF
        refine lv_aload_n hx hb dX9_light_9 rfl (lv_at hl 0 rfl) ?_
        refine va_get (D := D) (ci := 9) (v := .ref a_whole) (C := RX9) (T := TX9) (N := 33) hx hb hts hi9 hown hK.1 hW.1 0 rfl rfl 18 (by decide) hw0 (fun _ h9 => h9) rfl dX9_light_10 ?_
        refine lv_iload_n hx hb dX9_light_13 rfl (lv_at hl 3 rfl) ?_
        obtain ⟨g14, hF⟩ := gdI_some hF
        refine va_iald hx hb hK.1 hW.1 2 0 rfl rfl g14 dX9_light_14 ?_
        refine lv_iconst (v := (-1)) hx hb dX9_light_15 (by decide) ?_
        refine lv_icmp_ne (tgt := 43) hx hb dX9_light_16 (by decide) (fun c16 => ?_) (fun c16 => ?_)
        · rw [if_neg c16] at hF
          refine lv_iload_n hx hb dX9_light_43 rfl (lv_at hl 2 rfl) ?_
          refine lv_istore_n (lv' := [(2, .int x2_4), (0, .ref a_self), (1, .int x1), (3, .int x3_4)]) hx hb dX9_light_44 rfl hl (by decide) rfl (fun ls hl => ?_)
          refine lv_iinc (v := (x3_4 + 1)) (lv' := [(3, .int (x3_4 + 1)), (2, .int x2_4), (0, .ref a_self), (1, .int x1)]) hx hb dX9_light_45 hl (k := 3) rfl rfl (by decide) rfl (fun ls hl => ?_)
          refine lv_goto (tgt := 4) hx hb dX9_light_48 (by decide) ?_
          cases hF
          exact ih4 _ _ (itr_in hN4) _ _ hW _ (lv_sub hl [2, 3, 1, 0] rfl)
        · rw [if_pos c16] at hF
          refine lv_iload_n hx hb dX9_light_19 rfl (lv_at hl 2 rfl) ?_
          refine lv_iconst (v := (-1)) hx hb dX9_light_20 (by decide) ?_
          refine lv_icmp_eq (tgt := 39) hx hb dX9_light_21 (by decide) (fun c21 => ?_) (fun c21 => ?_)
          · rw [if_pos c21] at hF
            refine lv_iload_n hx hb dX9_light_39 rfl (lv_at hl 3 rfl) ?_
            refine lv_goto (tgt := 44) hx hb dX9_light_40 (by decide) ?_
            refine lv_istore_n (lv' := [(2, .int x3_4), (0, .ref a_self), (1, .int x1), (3, .int x3_4)]) hx hb dX9_light_44 rfl hl (by decide) rfl (fun ls hl => ?_)
            refine lv_iinc (v := (x3_4 + 1)) (lv' := [(3, .int (x3_4 + 1)), (2, .int x3_4), (0, .ref a_self), (1, .int x1)]) hx hb dX9_light_45 hl (k := 3) rfl rfl (by decide) rfl (fun ls hl => ?_)
            refine lv_goto (tgt := 4) hx hb dX9_light_48 (by decide) ?_
            cases hF
            exact ih4 _ _ (itr_in hN4) _ _ hW _ (lv_sub hl [2, 3, 1, 0] rfl)
          · rw [if_neg c21] at hF
            refine lv_aload_n hx hb dX9_light_24 rfl (lv_at hl 0 rfl) ?_
            refine va_get (D := D) (ci := 9) (v := .ref a_weights) (C := RX9) (T := TX9) (N := 33) hx hb hts hi9 hown hK.1 hW.1 0 rfl rfl 17 (by decide) hw1 (fun _ h9 => h9) rfl dX9_light_25 ?_
            refine lv_iload_n hx hb dX9_light_28 rfl (lv_at hl 3 rfl) ?_
            obtain ⟨g29, hF⟩ := gdI_some hF
            refine va_iald hx hb hK.1 hW.1 1 0 rfl rfl g29 dX9_light_29 ?_
            refine lv_aload_n hx hb dX9_light_30 rfl (lv_at hl 0 rfl) ?_
            refine va_get (D := D) (ci := 9) (v := .ref a_weights) (C := RX9) (T := TX9) (N := 33) hx hb hts hi9 hown hK.1 hW.1 0 rfl rfl 17 (by decide) hw1 (fun _ h9 => h9) rfl dX9_light_31 ?_
            refine lv_iload_n hx hb dX9_light_34 rfl (lv_at hl 2 rfl) ?_
            obtain ⟨g35, hF⟩ := gdI_some hF
            refine va_iald hx hb hK.1 hW.1 1 0 rfl rfl g35 dX9_light_35 ?_
            refine lv_icmp_ge (tgt := 43) hx hb dX9_light_36 (by decide) (fun c36 => ?_) (fun c36 => ?_)
            · rw [if_pos c36] at hF
              refine lv_iload_n hx hb dX9_light_43 rfl (lv_at hl 2 rfl) ?_
              refine lv_istore_n (lv' := [(2, .int x2_4), (0, .ref a_self), (1, .int x1), (3, .int x3_4)]) hx hb dX9_light_44 rfl hl (by decide) rfl (fun ls hl => ?_)
              refine lv_iinc (v := (x3_4 + 1)) (lv' := [(3, .int (x3_4 + 1)), (2, .int x2_4), (0, .ref a_self), (1, .int x1)]) hx hb dX9_light_45 hl (k := 3) rfl rfl (by decide) rfl (fun ls hl => ?_)
              refine lv_goto (tgt := 4) hx hb dX9_light_48 (by decide) ?_
              cases hF
              exact ih4 _ _ (itr_in hN4) _ _ hW _ (lv_sub hl [2, 3, 1, 0] rfl)
            · rw [if_neg c36] at hF
              refine lv_iload_n hx hb dX9_light_39 rfl (lv_at hl 3 rfl) ?_
              refine lv_goto (tgt := 44) hx hb dX9_light_40 (by decide) ?_
              refine lv_istore_n (lv' := [(2, .int x3_4), (0, .ref a_self), (1, .int x1), (3, .int x3_4)]) hx hb dX9_light_44 rfl hl (by decide) rfl (fun ls hl => ?_)
              refine lv_iinc (v := (x3_4 + 1)) (lv' := [(3, .int (x3_4 + 1)), (2, .int x3_4), (0, .ref a_self), (1, .int x1)]) hx hb dX9_light_45 hl (k := 3) rfl rfl (by decide) rfl (fun ls hl => ?_)
              refine lv_goto (tgt := 4) hx hb dX9_light_48 (by decide) ?_
              cases hF
              exact ih4 _ _ (itr_in hN4) _ _ hW _ (lv_sub hl [2, 3, 1, 0] rfl)
  exact hL4 nn _ _ hI _ _ hW _ (lv_sub hl [2, 3, 1, 0] rfl)
