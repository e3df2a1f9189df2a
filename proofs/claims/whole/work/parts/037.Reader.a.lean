abbrev rmReader_fail : Room := { frames := 0, cells := 0, slots := 0, locals := 0 }
set_option maxHeartbeats 4000000 in
set_option maxRecDepth 100000 in
theorem kReader_fail (l : Launch) (D : va_G) (cI cZ cO cG : ClassId) (a_self : Nat) (a_tape : Nat) (a_signs : Nat) (a_choices : Nat) (a_list : Nat) (a_order : Nat) (a_codes : Nat) (m_tables : Int32) (m_groups : Int32) (m_kinds : Int32) (m_zeroPower : Int32) (m_position : Int32) (m_faultNumber : Int32) (m_faultPosition : Int32) (x1 : Int32) {rv : Int32} {m_faultNumber' : Int32} {m_faultPosition' : Int32} (hF : fReader_fail m_position x1 = some (rv, m_faultNumber', m_faultPosition')) : CT l yX3_fail wsX3_fail rmReader_fail D (tysG cI cZ cO cG) [.ref a_self, .int x1] [ob a_self 3 [Value.ref a_tape, Value.ref a_signs, Value.ref a_choices, Value.ref a_list, Value.ref a_order, Value.ref a_codes, Value.int m_tables, Value.int m_groups, Value.int m_kinds, Value.int m_zeroPower, Value.int m_position, Value.int m_faultNumber, Value.int m_faultPosition]] (some (.int rv)) [ob a_self 3 [Value.ref a_tape, Value.ref a_signs, Value.ref a_choices, Value.ref a_list, Value.ref a_order, Value.ref a_codes, Value.int m_tables, Value.int m_groups, Value.int m_kinds, Value.int m_zeroPower, Value.int m_position, Value.int m_faultNumber', Value.int m_faultPosition']] := by
  refine CT.of (cc := cX3_fail) (maxL := 2) (ret := (some .boolean)) (by decide) rfl (Nat.le_of_ble_eq_true rfl) ?_
  intro p e s m below meth c A ls hx hb hr hml hts hown hlocks hK hA hP hD hS hl
  generalize hargs : ([.ref a_self, .int x1] : List Value).toArray = args at hts ⊢
  generalize hQ : MQ below (ctQ D (some (.int rv)) [ob a_self 3 [Value.ref a_tape, Value.ref a_signs, Value.ref a_choices, Value.ref a_list, Value.ref a_order, Value.ref a_codes, Value.int m_tables, Value.int m_groups, Value.int m_kinds, Value.int m_zeroPower, Value.int m_position, Value.int m_faultNumber', Value.int m_faultPosition']] A) args s 0 0 A = Q
  have hl : lv_has ls 2 [(0, .ref a_self), (1, .int x1)] := hl
  have hW : WS D A s [ob a_self 3 [Value.ref a_tape, Value.ref a_signs, Value.ref a_choices, Value.ref a_list, Value.ref a_order, Value.ref a_codes, Value.int m_tables, Value.int m_groups, Value.int m_kinds, Value.int m_zeroPower, Value.int m_position, Value.int m_faultNumber, Value.int m_faultPosition]] s.heap [] := ⟨hP, hD, hS⟩
  clear hP hD hS
  unfold fReader_fail at hF
  have hw0 := hts (Cond.fieldLink RX3 61 "MoveFronts$Reader" "faultNumber" "I") (by decide +kernel)
  have hw1 := hts (Cond.fieldLink RX3 58 "MoveFronts$Reader" "position" "I") (by decide +kernel)
  have hw2 := hts (Cond.fieldLink RX3 64 "MoveFronts$Reader" "faultPosition" "I") (by decide +kernel)
  have hi3 : ∀ w ∈ u_ws RX3 TX3 13, w ∈ wsX3_fail := by decide +kernel
  refine lv_aload_n hx hb dX3_fail_0 rfl (lv_at hl 0 rfl) ?_
  refine lv_iload_n hx hb dX3_fail_1 rfl (lv_at hl 1 rfl) ?_
  refine va_put (D := D) (ci := 3) (v := .int x1) (ty := .int) (C := RX3) (T := TX3) (N := 13) hx hb hts hi3 tyX3 tyX3_ok nmX3 hown hK.1 hW.1 hW.2.1 hW.2.2 0 rfl rfl 11 (by decide) hw0 (fun _ h9 => h9) rfl (by decide +kernel) rfl rfl (Nat.le_of_ble_eq_true rfl) dX3_fail_2 (fun H locs hP hD hS => ?_)
  have hW : WS D A s [ob a_self 3 [Value.ref a_tape, Value.ref a_signs, Value.ref a_choices, Value.ref a_list, Value.ref a_order, Value.ref a_codes, Value.int m_tables, Value.int m_groups, Value.int m_kinds, Value.int m_zeroPower, Value.int m_position, Value.int x1, Value.int m_faultPosition]] H locs := ⟨hP, hD, hS⟩
  refine lv_aload_n hx hb dX3_fail_5 rfl (lv_at hl 0 rfl) ?_
  refine lv_aload_n hx hb dX3_fail_6 rfl (lv_at hl 0 rfl) ?_
  refine va_get (D := D) (ci := 3) (v := .int m_position) (C := RX3) (T := TX3) (N := 13) hx hb hts hi3 hown hK.1 hW.1 0 rfl rfl 10 (by decide) hw1 (fun _ h9 => h9) rfl dX3_fail_7 ?_
  refine va_put (D := D) (ci := 3) (v := .int m_position) (ty := .int) (C := RX3) (T := TX3) (N := 13) hx hb hts hi3 tyX3 tyX3_ok nmX3 hown hK.1 hW.1 hW.2.1 hW.2.2 0 rfl rfl 12 (by decide) hw2 (fun _ h9 => h9) rfl (by decide +kernel) rfl rfl (Nat.le_of_ble_eq_true rfl) dX3_fail_10 (fun H locs hP hD hS => ?_)
  have hW : WS D A s [ob a_self 3 [Value.ref a_tape, Value.ref a_signs, Value.ref a_choices, Value.ref a_list, Value.ref a_order, Value.ref a_codes, Value.int m_tables, Value.int m_groups, Value.int m_kinds, Value.int m_zeroPower, Value.int m_position, Value.int x1, Value.int m_position]] H locs := ⟨hP, hD, hS⟩
  refine lv_iconst (v := 0) hx hb dX3_fail_13 (by decide) ?_
  cases hF
  subst hQ
  exact ct_zret hx hb hr hlocks rfl hW.1 hW.2.2 dX3_fail_14
abbrev rmReader_nextBit : Room := { frames := 1, cells := 0, slots := 0, locals := 21 }
set_option maxHeartbeats 4000000 in
set_option maxRecDepth 100000 in
theorem kReader_nextBit (l : Launch) (D : va_G) (cI cZ cO cG : ClassId) (a_self : Nat) (a_tape : Nat) (a_signs : Nat) (a_choices : Nat) (a_list : Nat) (a_order : Nat) (a_codes : Nat) (a_tape_values : Nat) (m_tables : Int32) (m_groups : Int32) (m_kinds : Int32) (m_zeroPower : Int32) (m_position : Int32) (m_faultNumber : Int32) (m_faultPosition : Int32) (m_tape_count : Int32) (m_tape_values : Nat → Int32) {rv : Int32} {m_position' : Int32} {m_faultNumber' : Int32} {m_faultPosition' : Int32} (hF : fReader_nextBit m_position m_faultNumber m_faultPosition m_tape_count m_tape_values = some (rv, m_position', m_faultNumber', m_faultPosition')) : CT l yX3_nextBit wsX3_nextBit rmReader_nextBit D (tysG cI cZ cO cG) [.ref a_self] [ob a_self 3 [Value.ref a_tape, Value.ref a_signs, Value.ref a_choices, Value.ref a_list, Value.ref a_order, Value.ref a_codes, Value.int m_tables, Value.int m_groups, Value.int m_kinds, Value.int m_zeroPower, Value.int m_position, Value.int m_faultNumber, Value.int m_faultPosition], ob a_tape 5 [Value.ref a_tape_values, Value.int m_tape_count], ia cI a_tape_values 1500 m_tape_values] (some (.int rv)) [ob a_self 3 [Value.ref a_tape, Value.ref a_signs, Value.ref a_choices, Value.ref a_list, Value.ref a_order, Value.ref a_codes, Value.int m_tables, Value.int m_groups, Value.int m_kinds, Value.int m_zeroPower, Value.int m_position', Value.int m_faultNumber', Value.int m_faultPosition'], ob a_tape 5 [Value.ref a_tape_values, Value.int m_tape_count], ia cI a_tape_values 1500 m_tape_values] := by
  refine CT.of (cc := cX3_nextBit) (maxL := 2) (ret := (some .int)) (by decide) rfl (Nat.le_of_ble_eq_true rfl) ?_
  intro p e s m below meth c A ls hx hb hr hml hts hown hlocks hK hA hP hD hS hl
  generalize hargs : ([.ref a_self] : List Value).toArray = args at hts ⊢
  generalize hQ : MQ below (ctQ D (some (.int rv)) [ob a_self 3 [Value.ref a_tape, Value.ref a_signs, Value.ref a_choices, Value.ref a_list, Value.ref a_order, Value.ref a_codes, Value.int m_tables, Value.int m_groups, Value.int m_kinds, Value.int m_zeroPower, Value.int m_position', Value.int m_faultNumber', Value.int m_faultPosition'], ob a_tape 5 [Value.ref a_tape_values, Value.int m_tape_count], ia cI a_tape_values 1500 m_tape_values] A) args s 0 0 A = Q
  have hl : lv_has ls 2 [(0, .ref a_self)] := hl
  have hW : WS D A s [ob a_self 3 [Value.ref a_tape, Value.ref a_signs, Value.ref a_choices, Value.ref a_list, Value.ref a_order, Value.ref a_codes, Value.int m_tables, Value.int m_groups, Value.int m_kinds, Value.int m_zeroPower, Value.int m_position, Value.int m_faultNumber, Value.int m_faultPosition], ob a_tape 5 [Value.ref a_tape_values, Value.int m_tape_count], ia cI a_tape_values 1500 m_tape_values] s.heap [] := ⟨hP, hD, hS⟩
  clear hP hD hS
  unfold fReader_nextBit at hF
  have hw0 := hts (Cond.fieldLink RX3 9 "MoveFronts$Reader" "tape" "LMoveFronts$Row;") (by decide +kernel)
  have hw1 := hts (Cond.fieldLink RX3 58 "MoveFronts$Reader" "position" "I") (by decide +kernel)
  have hi3 : ∀ w ∈ u_ws RX3 TX3 13, w ∈ wsX3_nextBit := by decide +kernel
  refine lv_aload_n hx hb dX3_nextBit_0 rfl (lv_at hl 0 rfl) ?_
  refine va_get (D := D) (ci := 3) (v := .ref a_tape) (C := RX3) (T := TX3) (N := 13) hx hb hts hi3 hown hK.1 hW.1 0 rfl rfl 0 (by decide) hw0 (fun _ h9 => h9) rfl dX3_nextBit_1 ?_
  refine lv_aload_n hx hb dX3_nextBit_4 rfl (lv_at hl 0 rfl) ?_
  refine va_get (D := D) (ci := 3) (v := .int m_position) (C := RX3) (T := TX3) (N := 13) hx hb hts hi3 hown hK.1 hW.1 0 rfl rfl 10 (by decide) hw1 (fun _ h9 => h9) rfl dX3_nextBit_5 ?_
  obtain ⟨r_8, e8, hF⟩ := bd1_some hF
  refine ctV (wn := [ob a_self 3 [Value.ref a_tape, Value.ref a_signs, Value.ref a_choices, Value.ref a_list, Value.ref a_order, Value.ref a_codes, Value.int m_tables, Value.int m_groups, Value.int m_kinds, Value.int m_zeroPower, Value.int m_position, Value.int m_faultNumber, Value.int m_faultPosition], ob a_tape 5 [Value.ref a_tape_values, Value.int m_tape_count], ia cI a_tape_values 1500 m_tape_values]) (r := (RX5, TX5, 2)) (As := [.int m_position]) (rest := []) hx hb hml hown hts hK hW hA hl.1 (kRow_get l D cI cZ cO cG a_tape a_tape_values 1500 m_tape_count m_tape_values m_position e8) (cwV 1 hts gX3_nextBit_X5_get rfl rfl rfl (by decide +kernel) ⟨Nat.le_of_ble_eq_true rfl, Nat.le_of_ble_eq_true rfl⟩) 5 1 rfl rfl [1, 2] [0] 3 rfl rfl rfl rfl [ob a_self 3 [Value.ref a_tape, Value.ref a_signs, Value.ref a_choices, Value.ref a_list, Value.ref a_order, Value.ref a_codes, Value.int m_tables, Value.int m_groups, Value.int m_kinds, Value.int m_zeroPower, Value.int m_position, Value.int m_faultNumber, Value.int m_faultPosition]] rfl rfl rfl rfl rfl (Nat.le_of_ble_eq_true rfl) rfl ⟨Nat.zero_le _, Nat.zero_le _⟩ dX3_nextBit_8 (fun H locs hW => ?_)
  refine lv_istore_n (lv' := [(1, .int r_8), (0, .ref a_self)]) hx hb dX3_nextBit_11 rfl hl (by decide) rfl (fun ls hl => ?_)
  refine lv_iload_n hx hb dX3_nextBit_12 rfl (lv_at hl 0 rfl) ?_
  refine lv_iconst (v := (-1)) hx hb dX3_nextBit_13 (by decide) ?_
  refine lv_icmp_ne (tgt := 25) hx hb dX3_nextBit_14 (by decide) (fun c14 => ?_) (fun c14 => ?_)
  · rw [if_neg c14] at hF
    refine lv_aload_n hx hb dX3_nextBit_25 rfl (lv_at hl 1 rfl) ?_
    refine lv_dup hx hb dX3_nextBit_26 rfl ?_
    refine va_get (D := D) (ci := 3) (v := .int m_position) (C := RX3) (T := TX3) (N := 13) hx hb hts hi3 hown hK.1 hW.1 0 rfl rfl 10 (by decide) hw1 (fun _ h9 => h9) rfl dX3_nextBit_27 ?_
    refine lv_iconst (v := 1) hx hb dX3_nextBit_30 (by decide) ?_
    refine lv_iadd hx hb dX3_nextBit_31 ?_
    refine va_put (D := D) (ci := 3) (v := .int (m_position + (1 : Int32))) (ty := .int) (C := RX3) (T := TX3) (N := 13) hx hb hts hi3 tyX3 tyX3_ok nmX3 hown hK.1 hW.1 hW.2.1 hW.2.2 0 rfl rfl 10 (by decide) hw1 (fun _ h9 => h9) rfl (by decide +kernel) rfl rfl (Nat.le_of_ble_eq_true rfl) dX3_nextBit_32 (fun H locs hP hD hS => ?_)
    have hW : WS D A s [ob a_self 3 [Value.ref a_tape, Value.ref a_signs, Value.ref a_choices, Value.ref a_list, Value.ref a_order, Value.ref a_codes, Value.int m_tables, Value.int m_groups, Value.int m_kinds, Value.int m_zeroPower, Value.int (m_position + (1 : Int32)), Value.int m_faultNumber, Value.int m_faultPosition], ob a_tape 5 [Value.ref a_tape_values, Value.int m_tape_count], ia cI a_tape_values 1500 m_tape_values] H locs := ⟨hP, hD, hS⟩
    refine lv_iload_n hx hb dX3_nextBit_35 rfl (lv_at hl 0 rfl) ?_
    cases hF
    subst hQ
    exact ct_iret hx hb hr hlocks hW.1 hW.2.2 dX3_nextBit_36
  · rw [if_pos c14] at hF
    refine lv_aload_n hx hb dX3_nextBit_17 rfl (lv_at hl 1 rfl) ?_
    refine lv_iconst (v := 1) hx hb dX3_nextBit_18 (by decide) ?_
    obtain ⟨r_19, m_faultNumber_19, m_faultPosition_19, e19, hF⟩ := bd3_some hF
    refine ctV (wn := [ob a_self 3 [Value.ref a_tape, Value.ref a_signs, Value.ref a_choices, Value.ref a_list, Value.ref a_order, Value.ref a_codes, Value.int m_tables, Value.int m_groups, Value.int m_kinds, Value.int m_zeroPower, Value.int m_position, Value.int m_faultNumber_19, Value.int m_faultPosition_19], ob a_tape 5 [Value.ref a_tape_values, Value.int m_tape_count], ia cI a_tape_values 1500 m_tape_values]) (r := (RX3, TX3, 13)) (As := [.int (1 : Int32)]) (rest := []) hx hb hml hown hts hK hW hA hl.1 (kReader_fail l D cI cZ cO cG a_self a_tape a_signs a_choices a_list a_order a_codes m_tables m_groups m_kinds m_zeroPower m_position m_faultNumber m_faultPosition (1 : Int32) e19) (cwV 1 hts gX3_nextBit_X3_fail rfl rfl rfl (by decide +kernel) ⟨Nat.le_of_ble_eq_true rfl, Nat.le_of_ble_eq_true rfl⟩) 3 0 rfl rfl [0] [1, 2] 3 rfl rfl rfl rfl [ob a_tape 5 [Value.ref a_tape_values, Value.int m_tape_count], ia cI a_tape_values 1500 m_tape_values] rfl rfl rfl rfl rfl (Nat.le_of_ble_eq_true rfl) rfl ⟨Nat.zero_le _, Nat.zero_le _⟩ dX3_nextBit_19 (fun H locs hW => ?_)
    refine lv_pop hx hb dX3_nextBit_22 rfl ?_
    refine lv_iconst (v := (-1)) hx hb dX3_nextBit_23 (by decide) ?_
    cases hF
    subst hQ
    exact ct_iret hx hb hr hlocks hW.1 hW.2.2 dX3_nextBit_24
abbrev rmReader_nextChoice : Room := { frames := 2, cells := 0, slots := 0, locals := 42 }
set_option maxHeartbeats 4000000 in
set_option maxRecDepth 100000 in
theorem kReader_nextChoice (l : Launch) (D : va_G) (cI cZ cO cG : ClassId) (a_self : Nat) (a_tape : Nat) (a_signs : Nat) (a_choices : Nat) (a_list : Nat) (a_order : Nat) (a_codes : Nat) (a_tape_values : Nat) (m_tables : Int32) (m_groups : Int32) (m_kinds : Int32) (m_zeroPower : Int32) (m_position : Int32) (m_faultNumber : Int32) (m_faultPosition : Int32) (m_tape_count : Int32) (m_tape_values : Nat → Int32) {rv : Int32} {m_position' : Int32} {m_faultNumber' : Int32} {m_faultPosition' : Int32} (hF : fReader_nextChoice m_tables m_position m_faultNumber m_faultPosition m_tape_count m_tape_values = some (rv, m_position', m_faultNumber', m_faultPosition')) : CT l yX3_nextChoice wsX3_nextChoice rmReader_nextChoice D (tysG cI cZ cO cG) [.ref a_self] [ob a_self 3 [Value.ref a_tape, Value.ref a_signs, Value.ref a_choices, Value.ref a_list, Value.ref a_order, Value.ref a_codes, Value.int m_tables, Value.int m_groups, Value.int m_kinds, Value.int m_zeroPower, Value.int m_position, Value.int m_faultNumber, Value.int m_faultPosition], ob a_tape 5 [Value.ref a_tape_values, Value.int m_tape_count], ia cI a_tape_values 1500 m_tape_values] (some (.int rv)) [ob a_self 3 [Value.ref a_tape, Value.ref a_signs, Value.ref a_choices, Value.ref a_list, Value.ref a_order, Value.ref a_codes, Value.int m_tables, Value.int m_groups, Value.int m_kinds, Value.int m_zeroPower, Value.int m_position', Value.int m_faultNumber', Value.int m_faultPosition'], ob a_tape 5 [Value.ref a_tape_values, Value.int m_tape_count], ia cI a_tape_values 1500 m_tape_values] := by
  refine CT.of (cc := cX3_nextChoice) (maxL := 3) (ret := (some .int)) (by decide) rfl (Nat.le_of_ble_eq_true rfl) ?_
  intro p e s m below meth c A ls hx hb hr hml hts hown hlocks hK hA hP hD hS hl
  generalize hargs : ([.ref a_self] : List Value).toArray = args at hts ⊢
  generalize hQ : MQ below (ctQ D (some (.int rv)) [ob a_self 3 [Value.ref a_tape, Value.ref a_signs, Value.ref a_choices, Value.ref a_list, Value.ref a_order, Value.ref a_codes, Value.int m_tables, Value.int m_groups, Value.int m_kinds, Value.int m_zeroPower, Value.int m_position', Value.int m_faultNumber', Value.int m_faultPosition'], ob a_tape 5 [Value.ref a_tape_values, Value.int m_tape_count], ia cI a_tape_values 1500 m_tape_values] A) args s 0 0 A = Q
  have hl : lv_has ls 3 [(0, .ref a_self)] := hl
  have hW : WS D A s [ob a_self 3 [Value.ref a_tape, Value.ref a_signs, Value.ref a_choices, Value.ref a_list, Value.ref a_order, Value.ref a_codes, Value.int m_tables, Value.int m_groups, Value.int m_kinds, Value.int m_zeroPower, Value.int m_position, Value.int m_faultNumber, Value.int m_faultPosition], ob a_tape 5 [Value.ref a_tape_values, Value.int m_tape_count], ia cI a_tape_values 1500 m_tape_values] s.heap [] := ⟨hP, hD, hS⟩
  clear hP hD hS
  unfold fReader_nextChoice at hF
  have hw0 := hts (Cond.fieldLink RX3 45 "MoveFronts$Reader" "tables" "I") (by decide +kernel)
  have hi3 : ∀ w ∈ u_ws RX3 TX3 13, w ∈ wsX3_nextChoice := by decide +kernel
  refine lv_iconst (v := 0) hx hb dX3_nextChoice_0 (by decide) ?_
  refine lv_istore_n (lv' := [(1, .int (0 : Int32)), (0, .ref a_self)]) hx hb dX3_nextChoice_1 rfl hl (by decide) rfl (fun ls hl => ?_)
  obtain ⟨q2, hI, hq2⟩ := bs_some hF
  obtain ⟨nn, hI⟩ := itrO_some hI
  have hX2 : ∀ (m_position_2z : Int32) (m_faultNumber_2z : Int32) (m_faultPosition_2z : Int32), (.inl (m_position_2z, m_faultNumber_2z, m_faultPosition_2z)) = q2 → ∀ (H : Heap) (locs : List Loc), WS D A s [ob a_self 3 [Value.ref a_tape, Value.ref a_signs, Value.ref a_choices, Value.ref a_list, Value.ref a_order, Value.ref a_codes, Value.int m_tables, Value.int m_groups, Value.int m_kinds, Value.int m_zeroPower, Value.int m_position_2z, Value.int m_faultNumber_2z, Value.int m_faultPosition_2z], ob a_tape 5 [Value.ref a_tape_values, Value.int m_tape_count], ia cI a_tape_values 1500 m_tape_values] H locs → ∀ ls : Array Slot, lv_has ls 3 [(0, .ref a_self)] → W p l e (headSpec wsX3_nextChoice rmReader_nextChoice).room s m args below meth c H locs 0 0 Q (F0 m 34 ls []) := by
    intro m_position_2z m_faultNumber_2z m_faultPosition_2z he H locs hW ls hl
    subst he
    have hF := bs_inl hq2
    rw [un3_eq] at hF
    refine lv_aload_n hx hb dX3_nextChoice_34 rfl (lv_at hl 0 rfl) ?_
    refine lv_iconst (v := 4) hx hb dX3_nextChoice_35 (by decide) ?_
    obtain ⟨r_36, m_faultNumber_36, m_faultPosition_36, e36, hF⟩ := bd3_some hF
    refine ctV (wn := [ob a_self 3 [Value.ref a_tape, Value.ref a_signs, Value.ref a_choices, Value.ref a_list, Value.ref a_order, Value.ref a_codes, Value.int m_tables, Value.int m_groups, Value.int m_kinds, Value.int m_zeroPower, Value.int m_position_2z, Value.int m_faultNumber_36, Value.int m_faultPosition_36], ob a_tape 5 [Value.ref a_tape_values, Value.int m_tape_count], ia cI a_tape_values 1500 m_tape_values]) (r := (RX3, TX3, 13)) (As := [.int (4 : Int32)]) (rest := []) hx hb hml hown hts hK hW hA hl.1 (kReader_fail l D cI cZ cO cG a_self a_tape a_signs a_choices a_list a_order a_codes m_tables m_groups m_kinds m_zeroPower m_position_2z m_faultNumber_2z m_faultPosition_2z (4 : Int32) e36) (cwV 1 hts gX3_nextChoice_X3_fail rfl rfl rfl (by decide +kernel) ⟨Nat.le_of_ble_eq_true rfl, Nat.le_of_ble_eq_true rfl⟩) 3 0 rfl rfl [0] [1, 2] 3 rfl rfl rfl rfl [ob a_tape 5 [Value.ref a_tape_values, Value.int m_tape_count], ia cI a_tape_values 1500 m_tape_values] rfl rfl rfl rfl rfl (Nat.le_of_ble_eq_true rfl) rfl ⟨Nat.zero_le _, Nat.zero_le _⟩ dX3_nextChoice_36 (fun H locs hW => ?_)
    refine lv_pop hx hb dX3_nextChoice_39 rfl ?_
    refine lv_iconst (v := (-1)) hx hb dX3_nextChoice_40 (by decide) ?_
    cases hF
    subst hQ
    exact ct_iret hx hb hr hlocks hW.1 hW.2.2 dX3_nextChoice_41
  have hL2 : ∀ (n2 : Nat) (x1_2 : Int32) (m_position_2 : Int32) (m_faultNumber_2 : Int32) (m_faultPosition_2 : Int32), itr (un4 (fReader_nextChoice_L2 m_tables m_tape_count m_tape_values)) n2 (x1_2, m_position_2, m_faultNumber_2, m_faultPosition_2) = some q2 → ∀ (H : Heap) (locs : List Loc), WS D A s [ob a_self 3 [Value.ref a_tape, Value.ref a_signs, Value.ref a_choices, Value.ref a_list, Value.ref a_order, Value.ref a_codes, Value.int m_tables, Value.int m_groups, Value.int m_kinds, Value.int m_zeroPower, Value.int m_position_2, Value.int m_faultNumber_2, Value.int m_faultPosition_2], ob a_tape 5 [Value.ref a_tape_values, Value.int m_tape_count], ia cI a_tape_values 1500 m_tape_values] H locs → ∀ ls : Array Slot, lv_has ls 3 [(0, .ref a_self), (1, .int x1_2)] → W p l e (headSpec wsX3_nextChoice rmReader_nextChoice).room s m args below meth c H locs 0 0 Q (F0 m 2 ls []) := by
    intro n2
    induction n2 with
    | zero => intro x1_2 m_position_2 m_faultNumber_2 m_faultPosition_2 hI; cases hI
    | succ n2 ih2 =>
      intro x1_2 m_position_2 m_faultNumber_2 m_faultPosition_2 hI H locs hW ls hl
      obtain ⟨sr2, hF, hN2⟩ := itr_succ hI
      have hF : fReader_nextChoice_L2 m_tables m_tape_count m_tape_values x1_2 m_position_2 m_faultNumber_2 m_faultPosition_2 = some sr2 := hF
      unfold fReader_nextChoice_L2 at hF
      refine lv_iload_n hx hb dX3_nextChoice_2 rfl (lv_at hl 1 rfl) ?_
      refine lv_aload_n hx hb dX3_nextChoice_3 rfl (lv_at hl 0 rfl) ?_
      refine va_get (D := D) (ci := 3) (v := .int m_tables) (C := RX3) (T := TX3) (N := 13) hx hb hts hi3 hown hK.1 hW.1 0 rfl rfl 6 (by decide) hw0 (fun _ h9 => h9) rfl dX3_nextChoice_4 ?_
      refine lv_icmp_ge (tgt := 34) hx hb dX3_nextChoice_7 (by decide) (fun c7 => ?_) (fun c7 => ?_)
      · rw [if_pos c7] at hF
        cases hF
        exact hX2 _ _ _ (itr_out hN2) _ _ hW _ (lv_sub hl [0] rfl)
      · rw [if_neg c7] at hF
        refine lv_aload_n hx hb dX3_nextChoice_10 rfl (lv_at hl 0 rfl) ?_
        obtain ⟨r_11, m_position_11, m_faultNumber_11, m_faultPosition_11, e11, hF⟩ := bd4_some hF
        refine ctV (wn := [ob a_self 3 [Value.ref a_tape, Value.ref a_signs, Value.ref a_choices, Value.ref a_list, Value.ref a_order, Value.ref a_codes, Value.int m_tables, Value.int m_groups, Value.int m_kinds, Value.int m_zeroPower, Value.int m_position_11, Value.int m_faultNumber_11, Value.int m_faultPosition_11], ob a_tape 5 [Value.ref a_tape_values, Value.int m_tape_count], ia cI a_tape_values 1500 m_tape_values]) (r := (RX3, TX3, 13)) (As := []) (rest := []) hx hb hml hown hts hK hW hA hl.1 (kReader_nextBit l D cI cZ cO cG a_self a_tape a_signs a_choices a_list a_order a_codes a_tape_values m_tables m_groups m_kinds m_zeroPower m_position_2 m_faultNumber_2 m_faultPosition_2 m_tape_count m_tape_values e11) (cwV 0 hts gX3_nextChoice_X3_nextBit rfl rfl rfl (by decide +kernel) ⟨Nat.le_of_ble_eq_true rfl, Nat.le_of_ble_eq_true rfl⟩) 3 0 rfl rfl [0, 1, 2] [] 3 rfl rfl rfl rfl [] rfl rfl rfl rfl rfl (Nat.le_of_ble_eq_true rfl) rfl ⟨Nat.zero_le _, Nat.zero_le _⟩ dX3_nextChoice_11 (fun H locs hW => ?_)
        refine lv_istore_n (lv' := [(2, .int r_11), (0, .ref a_self), (1, .int x1_2)]) hx hb dX3_nextChoice_14 rfl hl (by decide) rfl (fun ls hl => ?_)
        refine lv_iload_n hx hb dX3_nextChoice_15 rfl (lv_at hl 0 rfl) ?_
        refine lv_iconst (v := (-1)) hx hb dX3_nextChoice_16 (by decide) ?_
        refine lv_icmp_ne (tgt := 22) hx hb dX3_nextChoice_17 (by decide) (fun c17 => ?_) (fun c17 => ?_)
        · rw [if_neg c17] at hF
          refine lv_iload_n hx hb dX3_nextChoice_22 rfl (lv_at hl 0 rfl) ?_
          refine lv_if_ne (tgt := 28) hx hb dX3_nextChoice_23 (by decide) (fun c23 => ?_) (fun c23 => ?_)
          · rw [if_neg c23] at hF
            refine lv_iinc (v := (x1_2 + 1)) (lv' := [(1, .int (x1_2 + 1)), (2, .int r_11), (0, .ref a_self)]) hx hb dX3_nextChoice_28 hl (k := 2) rfl rfl (by decide) rfl (fun ls hl => ?_)
            refine lv_goto (tgt := 2) hx hb dX3_nextChoice_31 (by decide) ?_
            cases hF
            exact ih2 _ _ _ _ (itr_in hN2) _ _ hW _ (lv_sub hl [2, 0] rfl)
          · rw [if_pos c23] at hF
            refine lv_iload_n hx hb dX3_nextChoice_26 rfl (lv_at hl 2 rfl) ?_
            cases hF
            have hq0 := itr_out hN2
            subst hq0
            have hF := bs_inr hq2
            cases hF
            subst hQ
            exact ct_iret hx hb hr hlocks hW.1 hW.2.2 dX3_nextChoice_27
        · rw [if_pos c17] at hF
          refine lv_iconst (v := (-1)) hx hb dX3_nextChoice_20 (by decide) ?_
          cases hF
          have hq0 := itr_out hN2
          subst hq0
          have hF := bs_inr hq2
          cases hF
          subst hQ
          exact ct_iret hx hb hr hlocks hW.1 hW.2.2 dX3_nextChoice_21
  exact hL2 nn _ _ _ _ hI _ _ hW _ (lv_sub hl [1, 0] rfl)
abbrev rmReader_readChoices : Room := { frames := 3, cells := 0, slots := 0, locals := 64 }
set_option maxHeartbeats 4000000 in
set_option maxRecDepth 100000 in
theorem kReader_readChoices (l : Launch) (D : va_G) (cI cZ cO cG : ClassId) (a_self : Nat) (a_tape : Nat) (a_signs : Nat) (a_choices : Nat) (a_list : Nat) (a_order : Nat) (a_codes : Nat) (a_tape_values : Nat) (a_choices_values : Nat) (a_order_list : Nat) (m_tables : Int32) (m_groups : Int32) (m_kinds : Int32) (m_zeroPower : Int32) (m_position : Int32) (m_faultNumber : Int32) (m_faultPosition : Int32) (m_tape_count : Int32) (m_tape_values : Nat → Int32) (m_choices_count : Int32) (m_choices_values : Nat → Int32) (m_order_count : Int32) (m_order_list : Nat → Int32) {rv : Int32} {m_position' : Int32} {m_faultNumber' : Int32} {m_faultPosition' : Int32} {m_choices_count' : Int32} {m_choices_values' : Nat → Int32} {m_order_count' : Int32} {m_order_list' : Nat → Int32} (hF : fReader_readChoices m_tables m_groups m_position m_faultNumber m_faultPosition m_tape_count m_tape_values m_choices_values m_order_list = some (rv, m_position', m_faultNumber', m_faultPosition', m_choices_count', m_choices_values', m_order_count', m_order_list')) : CT l yX3_readChoices wsX3_readChoices rmReader_readChoices D (tysG cI cZ cO cG) [.ref a_self] [ob a_self 3 [Value.ref a_tape, Value.ref a_signs, Value.ref a_choices, Value.ref a_list, Value.ref a_order, Value.ref a_codes, Value.int m_tables, Value.int m_groups, Value.int m_kinds, Value.int m_zeroPower, Value.int m_position, Value.int m_faultNumber, Value.int m_faultPosition], ob a_tape 5 [Value.ref a_tape_values, Value.int m_tape_count], ia cI a_tape_values 1500 m_tape_values, ob a_choices 5 [Value.ref a_choices_values, Value.int m_choices_count], ia cI a_choices_values 31 m_choices_values, ob a_order 1 [Value.ref a_order_list, Value.int m_order_count], ia cI a_order_list 3 m_order_list] (some (.int rv)) [ob a_self 3 [Value.ref a_tape, Value.ref a_signs, Value.ref a_choices, Value.ref a_list, Value.ref a_order, Value.ref a_codes, Value.int m_tables, Value.int m_groups, Value.int m_kinds, Value.int m_zeroPower, Value.int m_position', Value.int m_faultNumber', Value.int m_faultPosition'], ob a_tape 5 [Value.ref a_tape_values, Value.int m_tape_count], ia cI a_tape_values 1500 m_tape_values, ob a_choices 5 [Value.ref a_choices_values, Value.int m_choices_count'], ia cI a_choices_values 31 m_choices_values', ob a_order 1 [Value.ref a_order_list, Value.int m_order_count'], ia cI a_order_list 3 m_order_list'] := by
  refine CT.of (cc := cX3_readChoices) (maxL := 3) (ret := (some .boolean)) (by decide) rfl (Nat.le_of_ble_eq_true rfl) ?_
  intro p e s m below meth c A ls hx hb hr hml hts hown hlocks hK hA hP hD hS hl
  generalize hargs : ([.ref a_self] : List Value).toArray = args at hts ⊢
  generalize hQ : MQ below (ctQ D (some (.int rv)) [ob a_self 3 [Value.ref a_tape, Value.ref a_signs, Value.ref a_choices, Value.ref a_list, Value.ref a_order, Value.ref a_codes, Value.int m_tables, Value.int m_groups, Value.int m_kinds, Value.int m_zeroPower, Value.int m_position', Value.int m_faultNumber', Value.int m_faultPosition'], ob a_tape 5 [Value.ref a_tape_values, Value.int m_tape_count], ia cI a_tape_values 1500 m_tape_values, ob a_choices 5 [Value.ref a_choices_values, Value.int m_choices_count'], ia cI a_choices_values 31 m_choices_values', ob a_order 1 [Value.ref a_order_list, Value.int m_order_count'], ia cI a_order_list 3 m_order_list'] A) args s 0 0 A = Q
  have hl : lv_has ls 3 [(0, .ref a_self)] := hl
  have hW : WS D A s [ob a_self 3 [Value.ref a_tape, Value.ref a_signs, Value.ref a_choices, Value.ref a_list, Value.ref a_order, Value.ref a_codes, Value.int m_tables, Value.int m_groups, Value.int m_kinds, Value.int m_zeroPower, Value.int m_position, Value.int m_faultNumber, Value.int m_faultPosition], ob a_tape 5 [Value.ref a_tape_values, Value.int m_tape_count], ia cI a_tape_values 1500 m_tape_values, ob a_choices 5 [Value.ref a_choices_values, Value.int m_choices_count], ia cI a_choices_values 31 m_choices_values, ob a_order 1 [Value.ref a_order_list, Value.int m_order_count], ia cI a_order_list 3 m_order_list] s.heap [] := ⟨hP, hD, hS⟩
  clear hP hD hS
  unfold fReader_readChoices at hF
  have hw0 := hts (Cond.fieldLink RX3 23 "MoveFronts$Reader" "choices" "LMoveFronts$Row;") (by decide +kernel)
  have hw1 := hts (Cond.fieldLink RX3 33 "MoveFronts$Reader" "order" "LMoveFronts$Front;") (by decide +kernel)
  have hw2 := hts (Cond.fieldLink RX3 45 "MoveFronts$Reader" "tables" "I") (by decide +kernel)
  have hw3 := hts (Cond.fieldLink RX3 49 "MoveFronts$Reader" "groups" "I") (by decide +kernel)
  have hi3 : ∀ w ∈ u_ws RX3 TX3 13, w ∈ wsX3_readChoices := by decide +kernel
  refine lv_aload_n hx hb dX3_readChoices_0 rfl (lv_at hl 0 rfl) ?_
  refine va_get (D := D) (ci := 3) (v := .ref a_choices) (C := RX3) (T := TX3) (N := 13) hx hb hts hi3 hown hK.1 hW.1 0 rfl rfl 2 (by decide) hw0 (fun _ h9 => h9) rfl dX3_readChoices_1 ?_
  obtain ⟨m_count_4, e4, hF⟩ := bd1_some hF
  refine ctV (wn := [ob a_self 3 [Value.ref a_tape, Value.ref a_signs, Value.ref a_choices, Value.ref a_list, Value.ref a_order, Value.ref a_codes, Value.int m_tables, Value.int m_groups, Value.int m_kinds, Value.int m_zeroPower, Value.int m_position, Value.int m_faultNumber, Value.int m_faultPosition], ob a_tape 5 [Value.ref a_tape_values, Value.int m_tape_count], ia cI a_tape_values 1500 m_tape_values, ob a_choices 5 [Value.ref a_choices_values, Value.int m_count_4], ia cI a_choices_values 31 m_choices_values, ob a_order 1 [Value.ref a_order_list, Value.int m_order_count], ia cI a_order_list 3 m_order_list]) (r := (RX5, TX5, 2)) (As := []) (rest := []) hx hb hml hown hts hK hW hA hl.1 (kRow_clear l D cI cZ cO cG a_choices a_choices_values m_choices_count e4) (cwV 0 hts gX3_readChoices_X5_clear rfl rfl rfl (by decide +kernel) ⟨Nat.le_of_ble_eq_true rfl, Nat.le_of_ble_eq_true rfl⟩) 5 3 rfl rfl [3] [0, 1, 2, 4, 5, 6] 7 rfl rfl rfl rfl [ob a_self 3 [Value.ref a_tape, Value.ref a_signs, Value.ref a_choices, Value.ref a_list, Value.ref a_order, Value.ref a_codes, Value.int m_tables, Value.int m_groups, Value.int m_kinds, Value.int m_zeroPower, Value.int m_position, Value.int m_faultNumber, Value.int m_faultPosition], ob a_tape 5 [Value.ref a_tape_values, Value.int m_tape_count], ia cI a_tape_values 1500 m_tape_values, ia cI a_choices_values 31 m_choices_values, ob a_order 1 [Value.ref a_order_list, Value.int m_order_count], ia cI a_order_list 3 m_order_list] rfl rfl rfl rfl rfl (Nat.le_of_ble_eq_true rfl) rfl ⟨Nat.zero_le _, Nat.zero_le _⟩ dX3_readChoices_4 (fun H locs hW => ?_)
  refine lv_aload_n hx hb dX3_readChoices_7 rfl (lv_at hl 0 rfl) ?_
  refine va_get (D := D) (ci := 3) (v := .ref a_order) (C := RX3) (T := TX3) (N := 13) hx hb hts hi3 hown hK.1 hW.1 0 rfl rfl 4 (by decide) hw1 (fun _ h9 => h9) rfl dX3_readChoices_8 ?_
  refine lv_aload_n hx hb dX3_readChoices_11 rfl (lv_at hl 0 rfl) ?_
  refine va_get (D := D) (ci := 3) (v := .int m_tables) (C := RX3) (T := TX3) (N := 13) hx hb hts hi3 hown hK.1 hW.1 0 rfl rfl 6 (by decide) hw2 (fun _ h9 => h9) rfl dX3_readChoices_12 ?_
  obtain ⟨m_count_15, m_list_15, e15, hF⟩ := bd2_some hF
  refine ctV (wn := [ob a_self 3 [Value.ref a_tape, Value.ref a_signs, Value.ref a_choices, Value.ref a_list, Value.ref a_order, Value.ref a_codes, Value.int m_tables, Value.int m_groups, Value.int m_kinds, Value.int m_zeroPower, Value.int m_position, Value.int m_faultNumber, Value.int m_faultPosition], ob a_tape 5 [Value.ref a_tape_values, Value.int m_tape_count], ia cI a_tape_values 1500 m_tape_values, ob a_choices 5 [Value.ref a_choices_values, Value.int m_count_4], ia cI a_choices_values 31 m_choices_values, ob a_order 1 [Value.ref a_order_list, Value.int m_count_15], ia cI a_order_list 3 m_list_15]) (r := (RX1, TX1, 2)) (As := [.int m_tables]) (rest := []) hx hb hml hown hts hK hW hA hl.1 (kFront_restart l D cI cZ cO cG a_order a_order_list 3 m_order_count m_order_list m_tables e15) (cwV 1 hts gX3_readChoices_X1_restart rfl rfl rfl (by decide +kernel) ⟨Nat.le_of_ble_eq_true rfl, Nat.le_of_ble_eq_true rfl⟩) 1 5 rfl rfl [5, 6] [0, 1, 2, 3, 4] 7 rfl rfl rfl rfl [ob a_self 3 [Value.ref a_tape, Value.ref a_signs, Value.ref a_choices, Value.ref a_list, Value.ref a_order, Value.ref a_codes, Value.int m_tables, Value.int m_groups, Value.int m_kinds, Value.int m_zeroPower, Value.int m_position, Value.int m_faultNumber, Value.int m_faultPosition], ob a_tape 5 [Value.ref a_tape_values, Value.int m_tape_count], ia cI a_tape_values 1500 m_tape_values, ob a_choices 5 [Value.ref a_choices_values, Value.int m_count_4], ia cI a_choices_values 31 m_choices_values] rfl rfl rfl rfl rfl (Nat.le_of_ble_eq_true rfl) rfl ⟨Nat.zero_le _, Nat.zero_le _⟩ dX3_readChoices_15 (fun H locs hW => ?_)
  refine lv_iconst (v := 0) hx hb dX3_readChoices_18 (by decide) ?_
  refine lv_istore_n (lv' := [(1, .int (0 : Int32)), (0, .ref a_self)]) hx hb dX3_readChoices_19 rfl hl (by decide) rfl (fun ls hl => ?_)
  obtain ⟨q20, hI, hq20⟩ := bs_some hF
  obtain ⟨nn, hI⟩ := itrO_some hI
  have hX20 : ∀ (m_position_20z : Int32) (m_faultNumber_20z : Int32) (m_faultPosition_20z : Int32) (m_choices_count_20z : Int32) (m_choices_values_20z : Nat → Int32) (m_order_list_20z : Nat → Int32), (.inl (m_position_20z, m_faultNumber_20z, m_faultPosition_20z, m_choices_count_20z, m_choices_values_20z, m_order_list_20z)) = q20 → ∀ (H : Heap) (locs : List Loc), WS D A s [ob a_self 3 [Value.ref a_tape, Value.ref a_signs, Value.ref a_choices, Value.ref a_list, Value.ref a_order, Value.ref a_codes, Value.int m_tables, Value.int m_groups, Value.int m_kinds, Value.int m_zeroPower, Value.int m_position_20z, Value.int m_faultNumber_20z, Value.int m_faultPosition_20z], ob a_tape 5 [Value.ref a_tape_values, Value.int m_tape_count], ia cI a_tape_values 1500 m_tape_values, ob a_choices 5 [Value.ref a_choices_values, Value.int m_choices_count_20z], ia cI a_choices_values 31 m_choices_values_20z, ob a_order 1 [Value.ref a_order_list, Value.int m_count_15], ia cI a_order_list 3 m_order_list_20z] H locs → ∀ ls : Array Slot, lv_has ls 3 [] → W p l e (headSpec wsX3_readChoices rmReader_readChoices).room s m args below meth c H locs 0 0 Q (F0 m 61 ls []) := by
    intro m_position_20z m_faultNumber_20z m_faultPosition_20z m_choices_count_20z m_choices_values_20z m_order_list_20z he H locs hW ls hl
    subst he
    have hF := bs_inl hq20
    rw [un6_eq] at hF
    refine lv_iconst (v := 1) hx hb dX3_readChoices_61 (by decide) ?_
    cases hF
    subst hQ
    exact ct_zret hx hb hr hlocks rfl hW.1 hW.2.2 dX3_readChoices_62
  have hL20 : ∀ (n20 : Nat) (x1_20 : Int32) (m_position_20 : Int32) (m_faultNumber_20 : Int32) (m_faultPosition_20 : Int32) (m_choices_count_20 : Int32) (m_choices_values_20 : Nat → Int32) (m_order_list_20 : Nat → Int32), itr (un7 (fReader_readChoices_L20 m_tables m_groups m_tape_count m_tape_values m_count_15)) n20 (x1_20, m_position_20, m_faultNumber_20, m_faultPosition_20, m_choices_count_20, m_choices_values_20, m_order_list_20) = some q20 → ∀ (H : Heap) (locs : List Loc), WS D A s [ob a_self 3 [Value.ref a_tape, Value.ref a_signs, Value.ref a_choices, Value.ref a_list, Value.ref a_order, Value.ref a_codes, Value.int m_tables, Value.int m_groups, Value.int m_kinds, Value.int m_zeroPower, Value.int m_position_20, Value.int m_faultNumber_20, Value.int m_faultPosition_20], ob a_tape 5 [Value.ref a_tape_values, Value.int m_tape_count], ia cI a_tape_values 1500 m_tape_values, ob a_choices 5 [Value.ref a_choices_values, Value.int m_choices_count_20], ia cI a_choices_values 31 m_choices_values_20, ob a_order 1 [Value.ref a_order_list, Value.int m_count_15], ia cI a_order_list 3 m_order_list_20] H locs → ∀ ls : Array Slot, lv_has ls 3 [(0, .ref a_self), (1, .int x1_20)] → W p l e (headSpec wsX3_readChoices rmReader_readChoices).room s m args below meth c H locs 0 0 Q (F0 m 20 ls []) := by
    intro n20
    induction n20 with
    | zero => intro x1_20 m_position_20 m_faultNumber_20 m_faultPosition_20 m_choices_count_20 m_choices_values_20 m_order_list_20 hI; cases hI
    | succ n20 ih20 =>
      intro x1_20 m_position_20 m_faultNumber_20 m_faultPosition_20 m_choices_count_20 m_choices_values_20 m_order_list_20 hI H locs hW ls hl
      obtain ⟨sr20, hF, hN20⟩ := itr_succ hI
      have hF : fReader_readChoices_L20 m_tables m_groups m_tape_count m_tape_values m_count_15 x1_20 m_position_20 m_faultNumber_20 m_faultPosition_20 m_choices_count_20 m_choices_values_20 m_order_list_20 = some sr20 := hF
      unfold fReader_readChoices_L20 at hF
      refine lv_iload_n hx hb dX3_readChoices_20 rfl (lv_at hl 1 rfl) ?_
      refine lv_aload_n hx hb dX3_readChoices_21 rfl (lv_at hl 0 rfl) ?_
      refine va_get (D := D) (ci := 3) (v := .int m_groups) (C := RX3) (T := TX3) (N := 13) hx hb hts hi3 hown hK.1 hW.1 0 rfl rfl 7 (by decide) hw3 (fun _ h9 => h9) rfl dX3_readChoices_22 ?_
      refine lv_icmp_ge (tgt := 61) hx hb dX3_readChoices_25 (by decide) (fun c25 => ?_) (fun c25 => ?_)
      · rw [if_pos c25] at hF
        cases hF
        exact hX20 _ _ _ _ _ _ (itr_out hN20) _ _ hW _ (lv_sub hl [] rfl)
      · rw [if_neg c25] at hF
        refine lv_aload_n hx hb dX3_readChoices_28 rfl (lv_at hl 0 rfl) ?_
        obtain ⟨r_29, m_position_29, m_faultNumber_29, m_faultPosition_29, e29, hF⟩ := bd4_some hF
        refine ctV (wn := [ob a_self 3 [Value.ref a_tape, Value.ref a_signs, Value.ref a_choices, Value.ref a_list, Value.ref a_order, Value.ref a_codes, Value.int m_tables, Value.int m_groups, Value.int m_kinds, Value.int m_zeroPower, Value.int m_position_29, Value.int m_faultNumber_29, Value.int m_faultPosition_29], ob a_tape 5 [Value.ref a_tape_values, Value.int m_tape_count], ia cI a_tape_values 1500 m_tape_values, ob a_choices 5 [Value.ref a_choices_values, Value.int m_choices_count_20], ia cI a_choices_values 31 m_choices_values_20, ob a_order 1 [Value.ref a_order_list, Value.int m_count_15], ia cI a_order_list 3 m_order_list_20]) (r := (RX3, TX3, 13)) (As := []) (rest := []) hx hb hml hown hts hK hW hA hl.1 (kReader_nextChoice l D cI cZ cO cG a_self a_tape a_signs a_choices a_list a_order a_codes a_tape_values m_tables m_groups m_kinds m_zeroPower m_position_20 m_faultNumber_20 m_faultPosition_20 m_tape_count m_tape_values e29) (cwV 0 hts gX3_readChoices_X3_nextChoice rfl rfl rfl (by decide +kernel) ⟨Nat.le_of_ble_eq_true rfl, Nat.le_of_ble_eq_true rfl⟩) 3 0 rfl rfl [0, 1, 2] [3, 4, 5, 6] 7 rfl rfl rfl rfl [ob a_choices 5 [Value.ref a_choices_values, Value.int m_choices_count_20], ia cI a_choices_values 31 m_choices_values_20, ob a_order 1 [Value.ref a_order_list, Value.int m_count_15], ia cI a_order_list 3 m_order_list_20] rfl rfl rfl rfl rfl (Nat.le_of_ble_eq_true rfl) rfl ⟨Nat.zero_le _, Nat.zero_le _⟩ dX3_readChoices_29 (fun H locs hW => ?_)
        refine lv_istore_n (lv' := [(2, .int r_29), (0, .ref a_self), (1, .int x1_20)]) hx hb dX3_readChoices_32 rfl hl (by decide) rfl (fun ls hl => ?_)
        refine lv_iload_n hx hb dX3_readChoices_33 rfl (lv_at hl 0 rfl) ?_
        refine lv_iconst (v := (-1)) hx hb dX3_readChoices_34 (by decide) ?_
        refine lv_icmp_ne (tgt := 40) hx hb dX3_readChoices_35 (by decide) (fun c35 => ?_) (fun c35 => ?_)
        · rw [if_neg c35] at hF
          refine lv_aload_n hx hb dX3_readChoices_40 rfl (lv_at hl 1 rfl) ?_
          refine va_get (D := D) (ci := 3) (v := .ref a_choices) (C := RX3) (T := TX3) (N := 13) hx hb hts hi3 hown hK.1 hW.1 0 rfl rfl 2 (by decide) hw0 (fun _ h9 => h9) rfl dX3_readChoices_41 ?_
          refine lv_aload_n hx hb dX3_readChoices_44 rfl (lv_at hl 1 rfl) ?_
          refine va_get (D := D) (ci := 3) (v := .ref a_order) (C := RX3) (T := TX3) (N := 13) hx hb hts hi3 hown hK.1 hW.1 0 rfl rfl 4 (by decide) hw1 (fun _ h9 => h9) rfl dX3_readChoices_45 ?_
          refine lv_iload_n hx hb dX3_readChoices_48 rfl (lv_at hl 0 rfl) ?_
          obtain ⟨r_49, m_list_49, e49, hF⟩ := bd2_some hF
          refine ctV (wn := [ob a_self 3 [Value.ref a_tape, Value.ref a_signs, Value.ref a_choices, Value.ref a_list, Value.ref a_order, Value.ref a_codes, Value.int m_tables, Value.int m_groups, Value.int m_kinds, Value.int m_zeroPower, Value.int m_position_29, Value.int m_faultNumber_29, Value.int m_faultPosition_29], ob a_tape 5 [Value.ref a_tape_values, Value.int m_tape_count], ia cI a_tape_values 1500 m_tape_values, ob a_choices 5 [Value.ref a_choices_values, Value.int m_choices_count_20], ia cI a_choices_values 31 m_choices_values_20, ob a_order 1 [Value.ref a_order_list, Value.int m_count_15], ia cI a_order_list 3 m_list_49]) (r := (RX1, TX1, 2)) (As := [.int r_29]) (rest := [.ref a_choices]) hx hb hml hown hts hK hW hA hl.1 (kFront_bringUp l D cI cZ cO cG a_order a_order_list 3 m_count_15 m_order_list_20 r_29 e49) (cwV 1 hts gX3_readChoices_X1_bringUp rfl rfl rfl (by decide +kernel) ⟨Nat.le_of_ble_eq_true rfl, Nat.le_of_ble_eq_true rfl⟩) 1 5 rfl rfl [5, 6] [0, 1, 2, 3, 4] 7 rfl rfl rfl rfl [ob a_self 3 [Value.ref a_tape, Value.ref a_signs, Value.ref a_choices, Value.ref a_list, Value.ref a_order, Value.ref a_codes, Value.int m_tables, Value.int m_groups, Value.int m_kinds, Value.int m_zeroPower, Value.int m_position_29, Value.int m_faultNumber_29, Value.int m_faultPosition_29], ob a_tape 5 [Value.ref a_tape_values, Value.int m_tape_count], ia cI a_tape_values 1500 m_tape_values, ob a_choices 5 [Value.ref a_choices_values, Value.int m_choices_count_20], ia cI a_choices_values 31 m_choices_values_20] rfl rfl rfl rfl rfl (Nat.le_of_ble_eq_true rfl) rfl ⟨Nat.zero_le _, Nat.zero_le _⟩ dX3_readChoices_49 (fun H locs hW => ?_)
          obtain ⟨m_count_52, m_values_52, e52, hF⟩ := bd2_some hF
          refine ctV (wn := [ob a_self 3 [Value.ref a_tape, Value.ref a_signs, Value.ref a_choices, Value.ref a_list, Value.ref a_order, Value.ref a_codes, Value.int m_tables, Value.int m_groups, Value.int m_kinds, Value.int m_zeroPower, Value.int m_position_29, Value.int m_faultNumber_29, Value.int m_faultPosition_29], ob a_tape 5 [Value.ref a_tape_values, Value.int m_tape_count], ia cI a_tape_values 1500 m_tape_values, ob a_choices 5 [Value.ref a_choices_values, Value.int m_count_52], ia cI a_choices_values 31 m_values_52, ob a_order 1 [Value.ref a_order_list, Value.int m_count_15], ia cI a_order_list 3 m_list_49]) (r := (RX5, TX5, 2)) (As := [.int r_49]) (rest := []) hx hb hml hown hts hK hW hA hl.1 (kRow_add l D cI cZ cO cG a_choices a_choices_values 31 m_choices_count_20 m_choices_values_20 r_49 e52) (cwV 1 hts gX3_readChoices_X5_add rfl rfl rfl (by decide +kernel) ⟨Nat.le_of_ble_eq_true rfl, Nat.le_of_ble_eq_true rfl⟩) 5 3 rfl rfl [3, 4] [0, 1, 2, 5, 6] 7 rfl rfl rfl rfl [ob a_self 3 [Value.ref a_tape, Value.ref a_signs, Value.ref a_choices, Value.ref a_list, Value.ref a_order, Value.ref a_codes, Value.int m_tables, Value.int m_groups, Value.int m_kinds, Value.int m_zeroPower, Value.int m_position_29, Value.int m_faultNumber_29, Value.int m_faultPosition_29], ob a_tape 5 [Value.ref a_tape_values, Value.int m_tape_count], ia cI a_tape_values 1500 m_tape_values, ob a_order 1 [Value.ref a_order_list, Value.int m_count_15], ia cI a_order_list 3 m_list_49] rfl rfl rfl rfl rfl (Nat.le_of_ble_eq_true rfl) rfl ⟨Nat.zero_le _, Nat.zero_le _⟩ dX3_readChoices_52 (fun H locs hW => ?_)
          refine lv_iinc (v := (x1_20 + 1)) (lv' := [(1, .int (x1_20 + 1)), (2, .int r_29), (0, .ref a_self)]) hx hb dX3_readChoices_55 hl (k := 2) rfl rfl (by decide) rfl (fun ls hl => ?_)
          refine lv_goto (tgt := 20) hx hb dX3_readChoices_58 (by decide) ?_
          cases hF
          exact ih20 _ _ _ _ _ _ _ (itr_in hN20) _ _ hW _ (lv_sub hl [2, 0] rfl)
        · rw [if_pos c35] at hF
          refine lv_iconst (v := 0) hx hb dX3_readChoices_38 (by decide) ?_
          cases hF
          have hq0 := itr_out hN20
          subst hq0
          have hF := bs_inr hq20
          cases hF
          subst hQ
          exact ct_zret hx hb hr hlocks rfl hW.1 hW.2.2 dX3_readChoices_39
  exact hL20 nn _ _ _ _ _ _ _ hI _ _ hW _ (lv_sub hl [1, 0] rfl)
abbrev rmReader_nextNumber : Room := { frames := 2, cells := 0, slots := 0, locals := 42 }
set_option maxHeartbeats 4000000 in
set_option maxRecDepth 100000 in
theorem kReader_nextNumber (l : Launch) (D : va_G) (cI cZ cO cG : ClassId) (a_self : Nat) (a_tape : Nat) (a_signs : Nat) (a_choices : Nat) (a_list : Nat) (a_order : Nat) (a_codes : Nat) (a_tape_values : Nat) (m_tables : Int32) (m_groups : Int32) (m_kinds : Int32) (m_zeroPower : Int32) (m_position : Int32) (m_faultNumber : Int32) (m_faultPosition : Int32) (m_tape_count : Int32) (m_tape_values : Nat → Int32) (x1 : Int32) {rv : Int32} {m_position' : Int32} {m_faultNumber' : Int32} {m_faultPosition' : Int32} (hF : fReader_nextNumber m_position m_faultNumber m_faultPosition m_tape_count m_tape_values x1 = some (rv, m_position', m_faultNumber', m_faultPosition')) : CT l yX3_nextNumber wsX3_nextNumber rmReader_nextNumber D (tysG cI cZ cO cG) [.ref a_self, .int x1] [ob a_self 3 [Value.ref a_tape, Value.ref a_signs, Value.ref a_choices, Value.ref a_list, Value.ref a_order, Value.ref a_codes, Value.int m_tables, Value.int m_groups, Value.int m_kinds, Value.int m_zeroPower, Value.int m_position, Value.int m_faultNumber, Value.int m_faultPosition], ob a_tape 5 [Value.ref a_tape_values, Value.int m_tape_count], ia cI a_tape_values 1500 m_tape_values] (some (.int rv)) [ob a_self 3 [Value.ref a_tape, Value.ref a_signs, Value.ref a_choices, Value.ref a_list, Value.ref a_order, Value.ref a_codes, Value.int m_tables, Value.int m_groups, Value.int m_kinds, Value.int m_zeroPower, Value.int m_position', Value.int m_faultNumber', Value.int m_faultPosition'], ob a_tape 5 [Value.ref a_tape_values, Value.int m_tape_count], ia cI a_tape_values 1500 m_tape_values] := by
  refine CT.of (cc := cX3_nextNumber) (maxL := 5) (ret := (some .int)) (by decide) rfl (Nat.le_of_ble_eq_true rfl) ?_
  intro p e s m below meth c A ls hx hb hr hml hts hown hlocks hK hA hP hD hS hl
  generalize hargs : ([.ref a_self, .int x1] : List Value).toArray = args at hts ⊢
  generalize hQ : MQ below (ctQ D (some (.int rv)) [ob a_self 3 [Value.ref a_tape, Value.ref a_signs, Value.ref a_choices, Value.ref a_list, Value.ref a_order, Value.ref a_codes, Value.int m_tables, Value.int m_groups, Value.int m_kinds, Value.int m_zeroPower, Value.int m_position', Value.int m_faultNumber', Value.int m_faultPosition'], ob a_tape 5 [Value.ref a_tape_values, Value.int m_tape_count], ia cI a_tape_values 1500 m_tape_values] A) args s 0 0 A = Q
  have hl : lv_has ls 5 [(0, .ref a_self), (1, .int x1)] := hl
  have hW : WS D A s [ob a_self 3 [Value.ref a_tape, Value.ref a_signs, Value.ref a_choices, Value.ref a_list, Value.ref a_order, Value.ref a_codes, Value.int m_tables, Value.int m_groups, Value.int m_kinds, Value.int m_zeroPower, Value.int m_position, Value.int m_faultNumber, Value.int m_faultPosition], ob a_tape 5 [Value.ref a_tape_values, Value.int m_tape_count], ia cI a_tape_values 1500 m_tape_values] s.heap [] := ⟨hP, hD, hS⟩
  clear hP hD hS
  unfold fReader_nextNumber at hF
  refine lv_iconst (v := 0) hx hb dX3_nextNumber_0 (by decide) ?_
  refine lv_istore_n (lv' := [(2, .int (0 : Int32)), (0, .ref a_self), (1, .int x1)]) hx hb dX3_nextNumber_1 rfl hl (by decide) rfl (fun ls hl => ?_)
  refine lv_iconst (v := 0) hx hb dX3_nextNumber_2 (by decide) ?_
  refine lv_istore_n (lv' := [(3, .int (0 : Int32)), (2, .int (0 : Int32)), (0, .ref a_self), (1, .int x1)]) hx hb dX3_nextNumber_3 rfl hl (by decide) rfl (fun ls hl => ?_)
  obtain ⟨q4, hI, hq4⟩ := bs_some hF
  obtain ⟨nn, hI⟩ := itrO_some hI
  have hX4 : ∀ (x2_4z : Int32) (m_position_4z : Int32) (m_faultNumber_4z : Int32) (m_faultPosition_4z : Int32), (.inl (x2_4z, m_position_4z, m_faultNumber_4z, m_faultPosition_4z)) = q4 → ∀ (H : Heap) (locs : List Loc), WS D A s [ob a_self 3 [Value.ref a_tape, Value.ref a_signs, Value.ref a_choices, Value.ref a_list, Value.ref a_order, Value.ref a_codes, Value.int m_tables, Value.int m_groups, Value.int m_kinds, Value.int m_zeroPower, Value.int m_position_4z, Value.int m_faultNumber_4z, Value.int m_faultPosition_4z], ob a_tape 5 [Value.ref a_tape_values, Value.int m_tape_count], ia cI a_tape_values 1500 m_tape_values] H locs → ∀ ls : Array Slot, lv_has ls 5 [(2, .int x2_4z)] → W p l e (headSpec wsX3_nextNumber rmReader_nextNumber).room s m args below meth c H locs 0 0 Q (F0 m 36 ls []) := by
    intro x2_4z m_position_4z m_faultNumber_4z m_faultPosition_4z he H locs hW ls hl
    subst he
    have hF := bs_inl hq4
    rw [un4_eq] at hF
    refine lv_iload_n hx hb dX3_nextNumber_36 rfl (lv_at hl 0 rfl) ?_
    cases hF
    subst hQ
    exact ct_iret hx hb hr hlocks hW.1 hW.2.2 dX3_nextNumber_37
  have hL4 : ∀ (n4 : Nat) (x2_4 : Int32) (x3_4 : Int32) (m_position_4 : Int32) (m_faultNumber_4 : Int32) (m_faultPosition_4 : Int32), itr (un5 (fReader_nextNumber_L4 m_tape_count m_tape_values x1)) n4 (x2_4, x3_4, m_position_4, m_faultNumber_4, m_faultPosition_4) = some q4 → ∀ (H : Heap) (locs : List Loc), WS D A s [ob a_self 3 [Value.ref a_tape, Value.ref a_signs, Value.ref a_choices, Value.ref a_list, Value.ref a_order, Value.ref a_codes, Value.int m_tables, Value.int m_groups, Value.int m_kinds, Value.int m_zeroPower, Value.int m_position_4, Value.int m_faultNumber_4, Value.int m_faultPosition_4], ob a_tape 5 [Value.ref a_tape_values, Value.int m_tape_count], ia cI a_tape_values 1500 m_tape_values] H locs → ∀ ls : Array Slot, lv_has ls 5 [(0, .ref a_self), (1, .int x1), (2, .int x2_4), (3, .int x3_4)] → W p l e (headSpec wsX3_nextNumber rmReader_nextNumber).room s m args below meth c H locs 0 0 Q (F0 m 4 ls []) := by
    intro n4
    induction n4 with
    | zero => intro x2_4 x3_4 m_position_4 m_faultNumber_4 m_faultPosition_4 hI; cases hI
    | succ n4 ih4 =>
      intro x2_4 x3_4 m_position_4 m_faultNumber_4 m_faultPosition_4 hI H locs hW ls hl
      obtain ⟨sr4, hF, hN4⟩ := itr_succ hI
      have hF : fReader_nextNumber_L4 m_tape_count m_tape_values x1 x2_4 x3_4 m_position_4 m_faultNumber_4 m_faultPosition_4 = some sr4 := hF
      unfold fReader_nextNumber_L4 at hF
      refine lv_iload_n hx hb dX3_nextNumber_4 rfl (lv_at hl 3 rfl) ?_
      refine lv_iload_n hx hb dX3_nextNumber_5 rfl (lv_at hl 1 rfl) ?_
      refine lv_icmp_ge (tgt := 36) hx hb dX3_nextNumber_6 (by decide) (fun c6 => ?_) (fun c6 => ?_)
      · rw [if_pos c6] at hF
        cases hF
        exact hX4 _ _ _ _ (itr_out hN4) _ _ hW _ (lv_sub hl [2] rfl)
      · rw [if_neg c6] at hF
        refine lv_aload_n hx hb dX3_nextNumber_9 rfl (lv_at hl 0 rfl) ?_
        obtain ⟨r_10, m_position_10, m_faultNumber_10, m_faultPosition_10, e10, hF⟩ := bd4_some hF
        refine ctV (wn := [ob a_self 3 [Value.ref a_tape, Value.ref a_signs, Value.ref a_choices, Value.ref a_list, Value.ref a_order, Value.ref a_codes, Value.int m_tables, Value.int m_groups, Value.int m_kinds, Value.int m_zeroPower, Value.int m_position_10, Value.int m_faultNumber_10, Value.int m_faultPosition_10], ob a_tape 5 [Value.ref a_tape_values, Value.int m_tape_count], ia cI a_tape_values 1500 m_tape_values]) (r := (RX3, TX3, 13)) (As := []) (rest := []) hx hb hml hown hts hK hW hA hl.1 (kReader_nextBit l D cI cZ cO cG a_self a_tape a_signs a_choices a_list a_order a_codes a_tape_values m_tables m_groups m_kinds m_zeroPower m_position_4 m_faultNumber_4 m_faultPosition_4 m_tape_count m_tape_values e10) (cwV 0 hts gX3_nextNumber_X3_nextBit rfl rfl rfl (by decide +kernel) ⟨Nat.le_of_ble_eq_true rfl, Nat.le_of_ble_eq_true rfl⟩) 3 0 rfl rfl [0, 1, 2] [] 3 rfl rfl rfl rfl [] rfl rfl rfl rfl rfl (Nat.le_of_ble_eq_true rfl) rfl ⟨Nat.zero_le _, Nat.zero_le _⟩ dX3_nextNumber_10 (fun H locs hW => ?_)
        refine lv_istore (lv' := [(4, .int r_10), (0, .ref a_self), (1, .int x1), (2, .int x2_4), (3, .int x3_4)]) hx hb dX3_nextNumber_13 hl (by decide) rfl (fun ls hl => ?_)
        refine lv_iload hx hb dX3_nextNumber_15 (lv_at hl 0 rfl) ?_
        refine lv_iconst (v := (-1)) hx hb dX3_nextNumber_17 (by decide) ?_
        refine lv_icmp_ne (tgt := 23) hx hb dX3_nextNumber_18 (by decide) (fun c18 => ?_) (fun c18 => ?_)
        · rw [if_neg c18] at hF
          refine lv_iload_n hx hb dX3_nextNumber_23 rfl (lv_at hl 3 rfl) ?_
          refine lv_iconst (v := 2) hx hb dX3_nextNumber_24 (by decide) ?_
          refine lv_imul hx hb dX3_nextNumber_25 ?_
          refine lv_iload hx hb dX3_nextNumber_26 (lv_at hl 0 rfl) ?_
          refine lv_iadd hx hb dX3_nextNumber_28 ?_
          refine lv_istore_n (lv' := [(2, .int ((x2_4 * (2 : Int32)) + r_10)), (4, .int r_10), (0, .ref a_self), (1, .int x1), (3, .int x3_4)]) hx hb dX3_nextNumber_29 rfl hl (by decide) rfl (fun ls hl => ?_)
          refine lv_iinc (v := (x3_4 + 1)) (lv' := [(3, .int (x3_4 + 1)), (2, .int ((x2_4 * (2 : Int32)) + r_10)), (4, .int r_10), (0, .ref a_self), (1, .int x1)]) hx hb dX3_nextNumber_30 hl (k := 4) rfl rfl (by decide) rfl (fun ls hl => ?_)
          refine lv_goto (tgt := 4) hx hb dX3_nextNumber_33 (by decide) ?_
          cases hF
          exact ih4 _ _ _ _ _ (itr_in hN4) _ _ hW _ (lv_sub hl [3, 4, 1, 0] rfl)
        · rw [if_pos c18] at hF
          refine lv_iconst (v := (-1)) hx hb dX3_nextNumber_21 (by decide) ?_
          cases hF
          have hq0 := itr_out hN4
          subst hq0
          have hF := bs_inr hq4
          cases hF
          subst hQ
          exact ct_iret hx hb hr hlocks hW.1 hW.2.2 dX3_nextNumber_22
  exact hL4 nn _ _ _ _ _ hI _ _ hW _ (lv_sub hl [2, 3, 1, 0] rfl)
abbrev rmReader_readCounts : Room := { frames := 3, cells := 0, slots := 0, locals := 66 }
set_option maxHeartbeats 4000000 in
set_option maxRecDepth 100000 in
theorem kReader_readCounts (l : Launch) (D : va_G) (cI cZ cO cG : ClassId) (a_self : Nat) (a_tape : Nat) (a_signs : Nat) (a_choices : Nat) (a_list : Nat) (a_order : Nat) (a_codes : Nat) (a_tape_values : Nat) (m_tables : Int32) (m_groups : Int32) (m_kinds : Int32) (m_zeroPower : Int32) (m_position : Int32) (m_faultNumber : Int32) (m_faultPosition : Int32) (m_tape_count : Int32) (m_tape_values : Nat → Int32) {rv : Int32} {m_tables' : Int32} {m_groups' : Int32} {m_position' : Int32} {m_faultNumber' : Int32} {m_faultPosition' : Int32} (hF : fReader_readCounts m_groups m_position m_faultNumber m_faultPosition m_tape_count m_tape_values = some (rv, m_tables', m_groups', m_position', m_faultNumber', m_faultPosition')) : CT l yX3_readCounts wsX3_readCounts rmReader_readCounts D (tysG cI cZ cO cG) [.ref a_self] [ob a_self 3 [Value.ref a_tape, Value.ref a_signs, Value.ref a_choices, Value.ref a_list, Value.ref a_order, Value.ref a_codes, Value.int m_tables, Value.int m_groups, Value.int m_kinds, Value.int m_zeroPower, Value.int m_position, Value.int m_faultNumber, Value.int m_faultPosition], ob a_tape 5 [Value.ref a_tape_values, Value.int m_tape_count], ia cI a_tape_values 1500 m_tape_values] (some (.int rv)) [ob a_self 3 [Value.ref a_tape, Value.ref a_signs, Value.ref a_choices, Value.ref a_list, Value.ref a_order, Value.ref a_codes, Value.int m_tables', Value.int m_groups', Value.int m_kinds, Value.int m_zeroPower, Value.int m_position', Value.int m_faultNumber', Value.int m_faultPosition'], ob a_tape 5 [Value.ref a_tape_values, Value.int m_tape_count], ia cI a_tape_values 1500 m_tape_values] := by
  refine CT.of (cc := cX3_readCounts) (maxL := 1) (ret := (some .boolean)) (by decide) rfl (Nat.le_of_ble_eq_true rfl) ?_
  intro p e s m below meth c A ls hx hb hr hml hts hown hlocks hK hA hP hD hS hl
  generalize hargs : ([.ref a_self] : List Value).toArray = args at hts ⊢
  generalize hQ : MQ below (ctQ D (some (.int rv)) [ob a_self 3 [Value.ref a_tape, Value.ref a_signs, Value.ref a_choices, Value.ref a_list, Value.ref a_order, Value.ref a_codes, Value.int m_tables', Value.int m_groups', Value.int m_kinds, Value.int m_zeroPower, Value.int m_position', Value.int m_faultNumber', Value.int m_faultPosition'], ob a_tape 5 [Value.ref a_tape_values, Value.int m_tape_count], ia cI a_tape_values 1500 m_tape_values] A) args s 0 0 A = Q
  have hl : lv_has ls 1 [(0, .ref a_self)] := hl
  have hW : WS D A s [ob a_self 3 [Value.ref a_tape, Value.ref a_signs, Value.ref a_choices, Value.ref a_list, Value.ref a_order, Value.ref a_codes, Value.int m_tables, Value.int m_groups, Value.int m_kinds, Value.int m_zeroPower, Value.int m_position, Value.int m_faultNumber, Value.int m_faultPosition], ob a_tape 5 [Value.ref a_tape_values, Value.int m_tape_count], ia cI a_tape_values 1500 m_tape_values] s.heap [] := ⟨hP, hD, hS⟩
  clear hP hD hS
  unfold fReader_readCounts at hF
  have hw0 := hts (Cond.fieldLink RX3 45 "MoveFronts$Reader" "tables" "I") (by decide +kernel)
  have hw1 := hts (Cond.fieldLink RX3 49 "MoveFronts$Reader" "groups" "I") (by decide +kernel)
  have hi3 : ∀ w ∈ u_ws RX3 TX3 13, w ∈ wsX3_readCounts := by decide +kernel
  have hJ52 : ∀ (m_tables_52 : Int32) (m_groups_52 : Int32) (m_position_52 : Int32) (m_faultNumber_52 : Int32) (m_faultPosition_52 : Int32), fReader_readCounts_J52 m_tables_52 m_groups_52 m_position_52 m_faultNumber_52 m_faultPosition_52 = some (rv, m_tables', m_groups', m_position', m_faultNumber', m_faultPosition') → ∀ (H : Heap) (locs : List Loc), WS D A s [ob a_self 3 [Value.ref a_tape, Value.ref a_signs, Value.ref a_choices, Value.ref a_list, Value.ref a_order, Value.ref a_codes, Value.int m_tables_52, Value.int m_groups_52, Value.int m_kinds, Value.int m_zeroPower, Value.int m_position_52, Value.int m_faultNumber_52, Value.int m_faultPosition_52], ob a_tape 5 [Value.ref a_tape_values, Value.int m_tape_count], ia cI a_tape_values 1500 m_tape_values] H locs → ∀ ls : Array Slot, lv_has ls 1 [(0, .ref a_self)] → W p l e (headSpec wsX3_readCounts rmReader_readCounts).room s m args below meth c H locs 0 0 Q (F0 m 52 ls []) := by
    intro m_tables_52 m_groups_52 m_position_52 m_faultNumber_52 m_faultPosition_52 hF H locs hW ls hl
    unfold fReader_readCounts_J52 at hF
    refine lv_aload_n hx hb dX3_readCounts_52 rfl (lv_at hl 0 rfl) ?_
    refine lv_iconst (v := 3) hx hb dX3_readCounts_53 (by decide) ?_
    obtain ⟨r_54, m_faultNumber_54, m_faultPosition_54, e54, hF⟩ := bd3_some hF
    refine ctV (wn := [ob a_self 3 [Value.ref a_tape, Value.ref a_signs, Value.ref a_choices, Value.ref a_list, Value.ref a_order, Value.ref a_codes, Value.int m_tables_52, Value.int m_groups_52, Value.int m_kinds, Value.int m_zeroPower, Value.int m_position_52, Value.int m_faultNumber_54, Value.int m_faultPosition_54], ob a_tape 5 [Value.ref a_tape_values, Value.int m_tape_count], ia cI a_tape_values 1500 m_tape_values]) (r := (RX3, TX3, 13)) (As := [.int (3 : Int32)]) (rest := []) hx hb hml hown hts hK hW hA hl.1 (kReader_fail l D cI cZ cO cG a_self a_tape a_signs a_choices a_list a_order a_codes m_tables_52 m_groups_52 m_kinds m_zeroPower m_position_52 m_faultNumber_52 m_faultPosition_52 (3 : Int32) e54) (cwV 1 hts gX3_readCounts_X3_fail rfl rfl rfl (by decide +kernel) ⟨Nat.le_of_ble_eq_true rfl, Nat.le_of_ble_eq_true rfl⟩) 3 0 rfl rfl [0] [1, 2] 3 rfl rfl rfl rfl [ob a_tape 5 [Value.ref a_tape_values, Value.int m_tape_count], ia cI a_tape_values 1500 m_tape_values] rfl rfl rfl rfl rfl (Nat.le_of_ble_eq_true rfl) rfl ⟨Nat.zero_le _, Nat.zero_le _⟩ dX3_readCounts_54 (fun H locs hW => ?_)
    refine lv_if_eq (tgt := 64) hx hb dX3_readCounts_57 (by decide) (fun c57 => ?_) (fun c57 => ?_)
    · rw [if_pos c57] at hF
      refine lv_iconst (v := 0) hx hb dX3_readCounts_64 (by decide) ?_
      cases hF
      subst hQ
      exact ct_zret hx hb hr hlocks rfl hW.1 hW.2.2 dX3_readCounts_65
    · rw [if_neg c57] at hF
      refine lv_iconst (v := 1) hx hb dX3_readCounts_60 (by decide) ?_
      refine lv_goto (tgt := 65) hx hb dX3_readCounts_61 (by decide) ?_
      cases hF
      subst hQ
      exact ct_zret hx hb hr hlocks rfl hW.1 hW.2.2 dX3_readCounts_65
  refine lv_aload_n hx hb dX3_readCounts_0 rfl (lv_at hl 0 rfl) ?_
  refine lv_aload_n hx hb dX3_readCounts_1 rfl (lv_at hl 0 rfl) ?_
  refine lv_iconst (v := 2) hx hb dX3_readCounts_2 (by decide) ?_
  obtain ⟨r_3, m_position_3, m_faultNumber_3, m_faultPosition_3, e3, hF⟩ := bd4_some hF
  refine ctV (wn := [ob a_self 3 [Value.ref a_tape, Value.ref a_signs, Value.ref a_choices, Value.ref a_list, Value.ref a_order, Value.ref a_codes, Value.int m_tables, Value.int m_groups, Value.int m_kinds, Value.int m_zeroPower, Value.int m_position_3, Value.int m_faultNumber_3, Value.int m_faultPosition_3], ob a_tape 5 [Value.ref a_tape_values, Value.int m_tape_count], ia cI a_tape_values 1500 m_tape_values]) (r := (RX3, TX3, 13)) (As := [.int (2 : Int32)]) (rest := [.ref a_self]) hx hb hml hown hts hK hW hA hl.1 (kReader_nextNumber l D cI cZ cO cG a_self a_tape a_signs a_choices a_list a_order a_codes a_tape_values m_tables m_groups m_kinds m_zeroPower m_position m_faultNumber m_faultPosition m_tape_count m_tape_values (2 : Int32) e3) (cwV 1 hts gX3_readCounts_X3_nextNumber rfl rfl rfl (by decide +kernel) ⟨Nat.le_of_ble_eq_true rfl, Nat.le_of_ble_eq_true rfl⟩) 3 0 rfl rfl [0, 1, 2] [] 3 rfl rfl rfl rfl [] rfl rfl rfl rfl rfl (Nat.le_of_ble_eq_true rfl) rfl ⟨Nat.zero_le _, Nat.zero_le _⟩ dX3_readCounts_3 (fun H locs hW => ?_)
  refine va_put (D := D) (ci := 3) (v := .int r_3) (ty := .int) (C := RX3) (T := TX3) (N := 13) hx hb hts hi3 tyX3 tyX3_ok nmX3 hown hK.1 hW.1 hW.2.1 hW.2.2 0 rfl rfl 6 (by decide) hw0 (fun _ h9 => h9) rfl (by decide +kernel) rfl rfl (Nat.le_of_ble_eq_true rfl) dX3_readCounts_6 (fun H locs hP hD hS => ?_)
  have hW : WS D A s [ob a_self 3 [Value.ref a_tape, Value.ref a_signs, Value.ref a_choices, Value.ref a_list, Value.ref a_order, Value.ref a_codes, Value.int r_3, Value.int m_groups, Value.int m_kinds, Value.int m_zeroPower, Value.int m_position_3, Value.int m_faultNumber_3, Value.int m_faultPosition_3], ob a_tape 5 [Value.ref a_tape_values, Value.int m_tape_count], ia cI a_tape_values 1500 m_tape_values] H locs := ⟨hP, hD, hS⟩
  refine lv_aload_n hx hb dX3_readCounts_9 rfl (lv_at hl 0 rfl) ?_
  refine va_get (D := D) (ci := 3) (v := .int r_3) (C := RX3) (T := TX3) (N := 13) hx hb hts hi3 hown hK.1 hW.1 0 rfl rfl 6 (by decide) hw0 (fun _ h9 => h9) rfl dX3_readCounts_10 ?_
  refine lv_iconst (v := (-1)) hx hb dX3_readCounts_13 (by decide) ?_
  refine lv_icmp_ne (tgt := 19) hx hb dX3_readCounts_14 (by decide) (fun c14 => ?_) (fun c14 => ?_)
  · rw [if_neg c14] at hF
    refine lv_aload_n hx hb dX3_readCounts_19 rfl (lv_at hl 0 rfl) ?_
    refine lv_aload_n hx hb dX3_readCounts_20 rfl (lv_at hl 0 rfl) ?_
    refine lv_iconst (v := 5) hx hb dX3_readCounts_21 (by decide) ?_
    obtain ⟨r_22, m_position_22, m_faultNumber_22, m_faultPosition_22, e22, hF⟩ := bd4_some hF
    refine ctV (wn := [ob a_self 3 [Value.ref a_tape, Value.ref a_signs, Value.ref a_choices, Value.ref a_list, Value.ref a_order, Value.ref a_codes, Value.int r_3, Value.int m_groups, Value.int m_kinds, Value.int m_zeroPower, Value.int m_position_22, Value.int m_faultNumber_22, Value.int m_faultPosition_22], ob a_tape 5 [Value.ref a_tape_values, Value.int m_tape_count], ia cI a_tape_values 1500 m_tape_values]) (r := (RX3, TX3, 13)) (As := [.int (5 : Int32)]) (rest := [.ref a_self]) hx hb hml hown hts hK hW hA hl.1 (kReader_nextNumber l D cI cZ cO cG a_self a_tape a_signs a_choices a_list a_order a_codes a_tape_values r_3 m_groups m_kinds m_zeroPower m_position_3 m_faultNumber_3 m_faultPosition_3 m_tape_count m_tape_values (5 : Int32) e22) (cwV 1 hts gX3_readCounts_X3_nextNumber rfl rfl rfl (by decide +kernel) ⟨Nat.le_of_ble_eq_true rfl, Nat.le_of_ble_eq_true rfl⟩) 3 0 rfl rfl [0, 1, 2] [] 3 rfl rfl rfl rfl [] rfl rfl rfl rfl rfl (Nat.le_of_ble_eq_true rfl) rfl ⟨Nat.zero_le _, Nat.zero_le _⟩ dX3_readCounts_22 (fun H locs hW => ?_)
    refine va_put (D := D) (ci := 3) (v := .int r_22) (ty := .int) (C := RX3) (T := TX3) (N := 13) hx hb hts hi3 tyX3 tyX3_ok nmX3 hown hK.1 hW.1 hW.2.1 hW.2.2 0 rfl rfl 7 (by decide) hw1 (fun _ h9 => h9) rfl (by decide +kernel) rfl rfl (Nat.le_of_ble_eq_true rfl) dX3_readCounts_25 (fun H locs hP hD hS => ?_)
    have hW : WS D A s [ob a_self 3 [Value.ref a_tape, Value.ref a_signs, Value.ref a_choices, Value.ref a_list, Value.ref a_order, Value.ref a_codes, Value.int r_3, Value.int r_22, Value.int m_kinds, Value.int m_zeroPower, Value.int m_position_22, Value.int m_faultNumber_22, Value.int m_faultPosition_22], ob a_tape 5 [Value.ref a_tape_values, Value.int m_tape_count], ia cI a_tape_values 1500 m_tape_values] H locs := ⟨hP, hD, hS⟩
    refine lv_aload_n hx hb dX3_readCounts_28 rfl (lv_at hl 0 rfl) ?_
    refine va_get (D := D) (ci := 3) (v := .int r_22) (C := RX3) (T := TX3) (N := 13) hx hb hts hi3 hown hK.1 hW.1 0 rfl rfl 7 (by decide) hw1 (fun _ h9 => h9) rfl dX3_readCounts_29 ?_
    refine lv_iconst (v := (-1)) hx hb dX3_readCounts_32 (by decide) ?_
    refine lv_icmp_ne (tgt := 38) hx hb dX3_readCounts_33 (by decide) (fun c33 => ?_) (fun c33 => ?_)
    · rw [if_neg c33] at hF
      refine lv_aload_n hx hb dX3_readCounts_38 rfl (lv_at hl 0 rfl) ?_
      refine va_get (D := D) (ci := 3) (v := .int r_3) (C := RX3) (T := TX3) (N := 13) hx hb hts hi3 hown hK.1 hW.1 0 rfl rfl 6 (by decide) hw0 (fun _ h9 => h9) rfl dX3_readCounts_39 ?_
      refine lv_if_eq (tgt := 52) hx hb dX3_readCounts_42 (by decide) (fun c42 => ?_) (fun c42 => ?_)
      · rw [if_pos c42] at hF
        exact hJ52 _ _ _ _ _ hF _ _ hW _ (lv_sub hl [0] rfl)
      · rw [if_neg c42] at hF
        refine lv_aload_n hx hb dX3_readCounts_45 rfl (lv_at hl 0 rfl) ?_
        refine va_get (D := D) (ci := 3) (v := .int r_22) (C := RX3) (T := TX3) (N := 13) hx hb hts hi3 hown hK.1 hW.1 0 rfl rfl 7 (by decide) hw1 (fun _ h9 => h9) rfl dX3_readCounts_46 ?_
        refine lv_if_ne (tgt := 60) hx hb dX3_readCounts_49 (by decide) (fun c49 => ?_) (fun c49 => ?_)
        · rw [if_neg c49] at hF
          refine lv_iconst (v := 1) hx hb dX3_readCounts_60 (by decide) ?_
          refine lv_goto (tgt := 65) hx hb dX3_readCounts_61 (by decide) ?_
          cases hF
          subst hQ
          exact ct_zret hx hb hr hlocks rfl hW.1 hW.2.2 dX3_readCounts_65
        · rw [if_pos c49] at hF
          exact hJ52 _ _ _ _ _ hF _ _ hW _ (lv_sub hl [0] rfl)
    · rw [if_pos c33] at hF
      refine lv_iconst (v := 0) hx hb dX3_readCounts_36 (by decide) ?_
      cases hF
      subst hQ
      exact ct_zret hx hb hr hlocks rfl hW.1 hW.2.2 dX3_readCounts_37
  · rw [if_pos c14] at hF
    refine lv_iconst (v := 0) hx hb dX3_readCounts_17 (by decide) ?_
    cases hF
    subst hQ
    exact ct_zret hx hb hr hlocks rfl hW.1 hW.2.2 dX3_readCounts_18
abbrev rmReader_readField : Room := { frames := 3, cells := 0, slots := 0, locals := 66 }
set_option maxHeartbeats 4000000 in
set_option maxRecDepth 100000 in
theorem kReader_readField (l : Launch) (D : va_G) (cI cZ cO cG : ClassId) (a_self : Nat) (a_tape : Nat) (a_signs : Nat) (a_choices : Nat) (a_list : Nat) (a_order : Nat) (a_codes : Nat) (a_tape_values : Nat) (a_list_list : Nat) (m_tables : Int32) (m_groups : Int32) (m_kinds : Int32) (m_zeroPower : Int32) (m_position : Int32) (m_faultNumber : Int32) (m_faultPosition : Int32) (m_tape_count : Int32) (m_tape_values : Nat → Int32) (m_list_count : Int32) (m_list_list : Nat → Int32) (x1 : Int32) {rv : Int32} {m_position' : Int32} {m_faultNumber' : Int32} {m_faultPosition' : Int32} {m_list_count' : Int32} {m_list_list' : Nat → Int32} (hF : fReader_readField m_position m_faultNumber m_faultPosition m_tape_count m_tape_values m_list_count m_list_list x1 = some (rv, m_position', m_faultNumber', m_faultPosition', m_list_count', m_list_list')) : CT l yX3_readField wsX3_readField rmReader_readField D (tysG cI cZ cO cG) [.ref a_self, .int x1] [ob a_self 3 [Value.ref a_tape, Value.ref a_signs, Value.ref a_choices, Value.ref a_list, Value.ref a_order, Value.ref a_codes, Value.int m_tables, Value.int m_groups, Value.int m_kinds, Value.int m_zeroPower, Value.int m_position, Value.int m_faultNumber, Value.int m_faultPosition], ob a_tape 5 [Value.ref a_tape_values, Value.int m_tape_count], ia cI a_tape_values 1500 m_tape_values, ob a_list 1 [Value.ref a_list_list, Value.int m_list_count], ia cI a_list_list 256 m_list_list] (some (.int rv)) [ob a_self 3 [Value.ref a_tape, Value.ref a_signs, Value.ref a_choices, Value.ref a_list, Value.ref a_order, Value.ref a_codes, Value.int m_tables, Value.int m_groups, Value.int m_kinds, Value.int m_zeroPower, Value.int m_position', Value.int m_faultNumber', Value.int m_faultPosition'], ob a_tape 5 [Value.ref a_tape_values, Value.int m_tape_count], ia cI a_tape_values 1500 m_tape_values, ob a_list 1 [Value.ref a_list_list, Value.int m_list_count'], ia cI a_list_list 256 m_list_list'] := by
  refine CT.of (cc := cX3_readField) (maxL := 4) (ret := (some .boolean)) (by decide) rfl (Nat.le_of_ble_eq_true rfl) ?_
  intro p e s m below meth c A ls hx hb hr hml hts hown hlocks hK hA hP hD hS hl
  generalize hargs : ([.ref a_self, .int x1] : List Value).toArray = args at hts ⊢
  generalize hQ : MQ below (ctQ D (some (.int rv)) [ob a_self 3 [Value.ref a_tape, Value.ref a_signs, Value.ref a_choices, Value.ref a_list, Value.ref a_order, Value.ref a_codes, Value.int m_tables, Value.int m_groups, Value.int m_kinds, Value.int m_zeroPower, Value.int m_position', Value.int m_faultNumber', Value.int m_faultPosition'], ob a_tape 5 [Value.ref a_tape_values, Value.int m_tape_count], ia cI a_tape_values 1500 m_tape_values, ob a_list 1 [Value.ref a_list_list, Value.int m_list_count'], ia cI a_list_list 256 m_list_list'] A) args s 0 0 A = Q
  have hl : lv_has ls 4 [(0, .ref a_self), (1, .int x1)] := hl
  have hW : WS D A s [ob a_self 3 [Value.ref a_tape, Value.ref a_signs, Value.ref a_choices, Value.ref a_list, Value.ref a_order, Value.ref a_codes, Value.int m_tables, Value.int m_groups, Value.int m_kinds, Value.int m_zeroPower, Value.int m_position, Value.int m_faultNumber, Value.int m_faultPosition], ob a_tape 5 [Value.ref a_tape_values, Value.int m_tape_count], ia cI a_tape_values 1500 m_tape_values, ob a_list 1 [Value.ref a_list_list, Value.int m_list_count], ia cI a_list_list 256 m_list_list] s.heap [] := ⟨hP, hD, hS⟩
  clear hP hD hS
  unfold fReader_readField at hF
  have hw0 := hts (Cond.fieldLink RX3 29 "MoveFronts$Reader" "list" "LMoveFronts$Front;") (by decide +kernel)
  have hi3 : ∀ w ∈ u_ws RX3 TX3 13, w ∈ wsX3_readField := by decide +kernel
  refine lv_aload_n hx hb dX3_readField_0 rfl (lv_at hl 0 rfl) ?_
  refine lv_bipush (v := 16) hx hb dX3_readField_1 (by decide) ?_
  obtain ⟨r_3, m_position_3, m_faultNumber_3, m_faultPosition_3, e3, hF⟩ := bd4_some hF
  refine ctV (wn := [ob a_self 3 [Value.ref a_tape, Value.ref a_signs, Value.ref a_choices, Value.ref a_list, Value.ref a_order, Value.ref a_codes, Value.int m_tables, Value.int m_groups, Value.int m_kinds, Value.int m_zeroPower, Value.int m_position_3, Value.int m_faultNumber_3, Value.int m_faultPosition_3], ob a_tape 5 [Value.ref a_tape_values, Value.int m_tape_count], ia cI a_tape_values 1500 m_tape_values, ob a_list 1 [Value.ref a_list_list, Value.int m_list_count], ia cI a_list_list 256 m_list_list]) (r := (RX3, TX3, 13)) (As := [.int (16 : Int32)]) (rest := []) hx hb hml hown hts hK hW hA hl.1 (kReader_nextNumber l D cI cZ cO cG a_self a_tape a_signs a_choices a_list a_order a_codes a_tape_values m_tables m_groups m_kinds m_zeroPower m_position m_faultNumber m_faultPosition m_tape_count m_tape_values (16 : Int32) e3) (cwV 1 hts gX3_readField_X3_nextNumber rfl rfl rfl (by decide +kernel) ⟨Nat.le_of_ble_eq_true rfl, Nat.le_of_ble_eq_true rfl⟩) 3 0 rfl rfl [0, 1, 2] [3, 4] 5 rfl rfl rfl rfl [ob a_list 1 [Value.ref a_list_list, Value.int m_list_count], ia cI a_list_list 256 m_list_list] rfl rfl rfl rfl rfl (Nat.le_of_ble_eq_true rfl) rfl ⟨Nat.zero_le _, Nat.zero_le _⟩ dX3_readField_3 (fun H locs hW => ?_)
  refine lv_istore_n (lv' := [(2, .int r_3), (0, .ref a_self), (1, .int x1)]) hx hb dX3_readField_6 rfl hl (by decide) rfl (fun ls hl => ?_)
  refine lv_iload_n hx hb dX3_readField_7 rfl (lv_at hl 0 rfl) ?_
  refine lv_iconst (v := (-1)) hx hb dX3_readField_8 (by decide) ?_
  refine lv_icmp_ne (tgt := 14) hx hb dX3_readField_9 (by decide) (fun c9 => ?_) (fun c9 => ?_)
  · rw [if_neg c9] at hF
    refine lv_iload_n hx hb dX3_readField_14 rfl (lv_at hl 0 rfl) ?_
    refine lv_if_ne (tgt := 24) hx hb dX3_readField_15 (by decide) (fun c15 => ?_) (fun c15 => ?_)
    · rw [if_neg c15] at hF
      refine lv_iconst (v := 0) hx hb dX3_readField_24 (by decide) ?_
      refine lv_istore_n (lv' := [(3, .int (0 : Int32)), (2, .int r_3), (0, .ref a_self), (1, .int x1)]) hx hb dX3_readField_25 rfl hl (by decide) rfl (fun ls hl => ?_)
      obtain ⟨m_list_count_26ze, m_list_list_26ze, hI, hF⟩ := bd2_some hF
      obtain ⟨nn, hI⟩ := itrO_some hI
      have hX26 : ∀ (m_list_count_26z : Int32) (m_list_list_26z : Nat → Int32), (m_list_count_26z, m_list_list_26z) = (m_list_count_26ze, m_list_list_26ze) → ∀ (H : Heap) (locs : List Loc), WS D A s [ob a_self 3 [Value.ref a_tape, Value.ref a_signs, Value.ref a_choices, Value.ref a_list, Value.ref a_order, Value.ref a_codes, Value.int m_tables, Value.int m_groups, Value.int m_kinds, Value.int m_zeroPower, Value.int m_position_3, Value.int m_faultNumber_3, Value.int m_faultPosition_3], ob a_tape 5 [Value.ref a_tape_values, Value.int m_tape_count], ia cI a_tape_values 1500 m_tape_values, ob a_list 1 [Value.ref a_list_list, Value.int m_list_count_26z], ia cI a_list_list 256 m_list_list_26z] H locs → ∀ ls : Array Slot, lv_has ls 4 [] → W p l e (headSpec wsX3_readField rmReader_readField).room s m args below meth c H locs 0 0 Q (F0 m 60 ls []) := by
        intro m_list_count_26z m_list_list_26z he H locs hW ls hl
        obtain ⟨hz0, hy0⟩ := Prod.mk.inj he
        subst hz0
        subst hy0
        refine lv_iconst (v := 1) hx hb dX3_readField_60 (by decide) ?_
        cases hF
        subst hQ
        exact ct_zret hx hb hr hlocks rfl hW.1 hW.2.2 dX3_readField_61
      have hL26 : ∀ (n26 : Nat) (x3_26 : Int32) (m_list_count_26 : Int32) (m_list_list_26 : Nat → Int32), itr (un3 (fReader_readField_L26 x1 r_3)) n26 (x3_26, m_list_count_26, m_list_list_26) = some (m_list_count_26ze, m_list_list_26ze) → ∀ (H : Heap) (locs : List Loc), WS D A s [ob a_self 3 [Value.ref a_tape, Value.ref a_signs, Value.ref a_choices, Value.ref a_list, Value.ref a_order, Value.ref a_codes, Value.int m_tables, Value.int m_groups, Value.int m_kinds, Value.int m_zeroPower, Value.int m_position_3, Value.int m_faultNumber_3, Value.int m_faultPosition_3], ob a_tape 5 [Value.ref a_tape_values, Value.int m_tape_count], ia cI a_tape_values 1500 m_tape_values, ob a_list 1 [Value.ref a_list_list, Value.int m_list_count_26], ia cI a_list_list 256 m_list_list_26] H locs → ∀ ls : Array Slot, lv_has ls 4 [(0, .ref a_self), (1, .int x1), (2, .int r_3), (3, .int x3_26)] → W p l e (headSpec wsX3_readField rmReader_readField).room s m args below meth c H locs 0 0 Q (F0 m 26 ls []) := by
        intro n26
        induction n26 with
        | zero => intro x3_26 m_list_count_26 m_list_list_26 hI; cases hI
        | succ n26 ih26 =>
          intro x3_26 m_list_count_26 m_list_list_26 hI H locs hW ls hl
          obtain ⟨sr26, hF, hN26⟩ := itr_succ hI
          have hF : fReader_readField_L26 x1 r_3 x3_26 m_list_count_26 m_list_list_26 = some sr26 := hF
          unfold fReader_readField_L26 at hF
          refine lv_iload_n hx hb dX3_readField_26 rfl (lv_at hl 3 rfl) ?_
          refine lv_bipush (v := 16) hx hb dX3_readField_27 (by decide) ?_
          refine lv_icmp_ge (tgt := 60) hx hb dX3_readField_29 (by decide) (fun c29 => ?_) (fun c29 => ?_)
          · rw [if_pos c29] at hF
            cases hF
            exact hX26 _ _ (itr_out hN26) _ _ hW _ (lv_sub hl [] rfl)
          · rw [if_neg c29] at hF
            refine lv_iload_n hx hb dX3_readField_32 rfl (lv_at hl 2 rfl) ?_
            refine lv_bipush (v := 15) hx hb dX3_readField_33 (by decide) ?_
            refine lv_iload_n hx hb dX3_readField_35 rfl (lv_at hl 3 rfl) ?_
            refine lv_isub hx hb dX3_readField_36 ?_
            refine lv_ishr hx hb dX3_readField_37 ?_
            refine lv_iconst (v := 1) hx hb dX3_readField_38 (by decide) ?_
            refine lv_iand hx hb dX3_readField_39 ?_
            refine lv_iconst (v := 1) hx hb dX3_readField_40 (by decide) ?_
            refine lv_icmp_ne (tgt := 54) hx hb dX3_readField_41 (by decide) (fun c41 => ?_) (fun c41 => ?_)
            · rw [if_neg c41] at hF
              refine lv_iinc (v := (x3_26 + 1)) (lv' := [(3, .int (x3_26 + 1)), (0, .ref a_self), (1, .int x1), (2, .int r_3)]) hx hb dX3_readField_54 hl (k := 3) rfl rfl (by decide) rfl (fun ls hl => ?_)
              refine lv_goto (tgt := 26) hx hb dX3_readField_57 (by decide) ?_
              cases hF
              exact ih26 _ _ _ (itr_in hN26) _ _ hW _ (lv_sub hl [1, 2, 3, 0] rfl)
            · rw [if_pos c41] at hF
              refine lv_aload_n hx hb dX3_readField_44 rfl (lv_at hl 0 rfl) ?_
              refine va_get (D := D) (ci := 3) (v := .ref a_list) (C := RX3) (T := TX3) (N := 13) hx hb hts hi3 hown hK.1 hW.1 0 rfl rfl 3 (by decide) hw0 (fun _ h9 => h9) rfl dX3_readField_45 ?_
              refine lv_iload_n hx hb dX3_readField_48 rfl (lv_at hl 1 rfl) ?_
              refine lv_iload_n hx hb dX3_readField_49 rfl (lv_at hl 3 rfl) ?_
              refine lv_iadd hx hb dX3_readField_50 ?_
              obtain ⟨m_count_51, m_list_51, e51, hF⟩ := bd2_some hF
              refine ctV (wn := [ob a_self 3 [Value.ref a_tape, Value.ref a_signs, Value.ref a_choices, Value.ref a_list, Value.ref a_order, Value.ref a_codes, Value.int m_tables, Value.int m_groups, Value.int m_kinds, Value.int m_zeroPower, Value.int m_position_3, Value.int m_faultNumber_3, Value.int m_faultPosition_3], ob a_tape 5 [Value.ref a_tape_values, Value.int m_tape_count], ia cI a_tape_values 1500 m_tape_values, ob a_list 1 [Value.ref a_list_list, Value.int m_count_51], ia cI a_list_list 256 m_list_51]) (r := (RX1, TX1, 2)) (As := [.int (x1 + x3_26)]) (rest := []) hx hb hml hown hts hK hW hA hl.1 (kFront_add l D cI cZ cO cG a_list a_list_list 256 m_list_count_26 m_list_list_26 (x1 + x3_26) e51) (cwV 1 hts gX3_readField_X1_add rfl rfl rfl (by decide +kernel) ⟨Nat.le_of_ble_eq_true rfl, Nat.le_of_ble_eq_true rfl⟩) 1 3 rfl rfl [3, 4] [0, 1, 2] 5 rfl rfl rfl rfl [ob a_self 3 [Value.ref a_tape, Value.ref a_signs, Value.ref a_choices, Value.ref a_list, Value.ref a_order, Value.ref a_codes, Value.int m_tables, Value.int m_groups, Value.int m_kinds, Value.int m_zeroPower, Value.int m_position_3, Value.int m_faultNumber_3, Value.int m_faultPosition_3], ob a_tape 5 [Value.ref a_tape_values, Value.int m_tape_count], ia cI a_tape_values 1500 m_tape_values] rfl rfl rfl rfl rfl (Nat.le_of_ble_eq_true rfl) rfl ⟨Nat.zero_le _, Nat.zero_le _⟩ dX3_readField_51 (fun H locs hW => ?_)
              refine lv_iinc (v := (x3_26 + 1)) (lv' := [(3, .int (x3_26 + 1)), (0, .ref a_self), (1, .int x1), (2, .int r_3)]) hx hb dX3_readField_54 hl (k := 3) rfl rfl (by decide) rfl (fun ls hl => ?_)
              refine lv_goto (tgt := 26) hx hb dX3_readField_57 (by decide) ?_
              cases hF
              exact ih26 _ _ _ (itr_in hN26) _ _ hW _ (lv_sub hl [1, 2, 3, 0] rfl)
      exact hL26 nn _ _ _ hI _ _ hW _ (lv_sub hl [2, 3, 1, 0] rfl)
    · rw [if_pos c15] at hF
      refine lv_aload_n hx hb dX3_readField_18 rfl (lv_at hl 1 rfl) ?_
      refine lv_iconst (v := 2) hx hb dX3_readField_19 (by decide) ?_
      obtain ⟨r_20, m_faultNumber_20, m_faultPosition_20, e20, hF⟩ := bd3_some hF
      refine ctV (wn := [ob a_self 3 [Value.ref a_tape, Value.ref a_signs, Value.ref a_choices, Value.ref a_list, Value.ref a_order, Value.ref a_codes, Value.int m_tables, Value.int m_groups, Value.int m_kinds, Value.int m_zeroPower, Value.int m_position_3, Value.int m_faultNumber_20, Value.int m_faultPosition_20], ob a_tape 5 [Value.ref a_tape_values, Value.int m_tape_count], ia cI a_tape_values 1500 m_tape_values, ob a_list 1 [Value.ref a_list_list, Value.int m_list_count], ia cI a_list_list 256 m_list_list]) (r := (RX3, TX3, 13)) (As := [.int (2 : Int32)]) (rest := []) hx hb hml hown hts hK hW hA hl.1 (kReader_fail l D cI cZ cO cG a_self a_tape a_signs a_choices a_list a_order a_codes m_tables m_groups m_kinds m_zeroPower m_position_3 m_faultNumber_3 m_faultPosition_3 (2 : Int32) e20) (cwV 1 hts gX3_readField_X3_fail rfl rfl rfl (by decide +kernel) ⟨Nat.le_of_ble_eq_true rfl, Nat.le_of_ble_eq_true rfl⟩) 3 0 rfl rfl [0] [1, 2, 3, 4] 5 rfl rfl rfl rfl [ob a_tape 5 [Value.ref a_tape_values, Value.int m_tape_count], ia cI a_tape_values 1500 m_tape_values, ob a_list 1 [Value.ref a_list_list, Value.int m_list_count], ia cI a_list_list 256 m_list_list] rfl rfl rfl rfl rfl (Nat.le_of_ble_eq_true rfl) rfl ⟨Nat.zero_le _, Nat.zero_le _⟩ dX3_readField_20 (fun H locs hW => ?_)
      obtain ⟨g23, hF⟩ := gdB_some hF
      cases hF
      subst hQ
      exact ct_zret hx hb hr hlocks (gdB_n g23) hW.1 hW.2.2 dX3_readField_23
  · rw [if_pos c9] at hF
    refine lv_iconst (v := 0) hx hb dX3_readField_12 (by decide) ?_
    cases hF
    subst hQ
    exact ct_zret hx hb hr hlocks rfl hW.1 hW.2.2 dX3_readField_13
abbrev rmReader_readMap : Room := { frames := 4, cells := 0, slots := 0, locals := 89 }
set_option maxHeartbeats 4000000 in
set_option maxRecDepth 100000 in
theorem kReader_readMap (l : Launch) (D : va_G) (cI cZ cO cG : ClassId) (a_self : Nat) (a_tape : Nat) (a_signs : Nat) (a_choices : Nat) (a_list : Nat) (a_order : Nat) (a_codes : Nat) (a_tape_values : Nat) (a_list_list : Nat) (m_tables : Int32) (m_groups : Int32) (m_kinds : Int32) (m_zeroPower : Int32) (m_position : Int32) (m_faultNumber : Int32) (m_faultPosition : Int32) (m_tape_count : Int32) (m_tape_values : Nat → Int32) (m_list_count : Int32) (m_list_list : Nat → Int32) {rv : Int32} {m_kinds' : Int32} {m_position' : Int32} {m_faultNumber' : Int32} {m_faultPosition' : Int32} {m_list_count' : Int32} {m_list_list' : Nat → Int32} (hF : fReader_readMap m_kinds m_position m_faultNumber m_faultPosition m_tape_count m_tape_values m_list_list = some (rv, m_kinds', m_position', m_faultNumber', m_faultPosition', m_list_count', m_list_list')) : CT l yX3_readMap wsX3_readMap rmReader_readMap D (tysG cI cZ cO cG) [.ref a_self] [ob a_self 3 [Value.ref a_tape, Value.ref a_signs, Value.ref a_choices, Value.ref a_list, Value.ref a_order, Value.ref a_codes, Value.int m_tables, Value.int m_groups, Value.int m_kinds, Value.int m_zeroPower, Value.int m_position, Value.int m_faultNumber, Value.int m_faultPosition], ob a_tape 5 [Value.ref a_tape_values, Value.int m_tape_count], ia cI a_tape_values 1500 m_tape_values, ob a_list 1 [Value.ref a_list_list, Value.int m_list_count], ia cI a_list_list 256 m_list_list] (some (.int rv)) [ob a_self 3 [Value.ref a_tape, Value.ref a_signs, Value.ref a_choices, Value.ref a_list, Value.ref a_order, Value.ref a_codes, Value.int m_tables, Value.int m_groups, Value.int m_kinds', Value.int m_zeroPower, Value.int m_position', Value.int m_faultNumber', Value.int m_faultPosition'], ob a_tape 5 [Value.ref a_tape_values, Value.int m_tape_count], ia cI a_tape_values 1500 m_tape_values, ob a_list 1 [Value.ref a_list_list, Value.int m_list_count'], ia cI a_list_list 256 m_list_list'] := by
  refine CT.of (cc := cX3_readMap) (maxL := 3) (ret := (some .boolean)) (by decide) rfl (Nat.le_of_ble_eq_true rfl) ?_
  intro p e s m below meth c A ls hx hb hr hml hts hown hlocks hK hA hP hD hS hl
  generalize hargs : ([.ref a_self] : List Value).toArray = args at hts ⊢
  generalize hQ : MQ below (ctQ D (some (.int rv)) [ob a_self 3 [Value.ref a_tape, Value.ref a_signs, Value.ref a_choices, Value.ref a_list, Value.ref a_order, Value.ref a_codes, Value.int m_tables, Value.int m_groups, Value.int m_kinds', Value.int m_zeroPower, Value.int m_position', Value.int m_faultNumber', Value.int m_faultPosition'], ob a_tape 5 [Value.ref a_tape_values, Value.int m_tape_count], ia cI a_tape_values 1500 m_tape_values, ob a_list 1 [Value.ref a_list_list, Value.int m_list_count'], ia cI a_list_list 256 m_list_list'] A) args s 0 0 A = Q
  have hl : lv_has ls 3 [(0, .ref a_self)] := hl
  have hW : WS D A s [ob a_self 3 [Value.ref a_tape, Value.ref a_signs, Value.ref a_choices, Value.ref a_list, Value.ref a_order, Value.ref a_codes, Value.int m_tables, Value.int m_groups, Value.int m_kinds, Value.int m_zeroPower, Value.int m_position, Value.int m_faultNumber, Value.int m_faultPosition], ob a_tape 5 [Value.ref a_tape_values, Value.int m_tape_count], ia cI a_tape_values 1500 m_tape_values, ob a_list 1 [Value.ref a_list_list, Value.int m_list_count], ia cI a_list_list 256 m_list_list] s.heap [] := ⟨hP, hD, hS⟩
  clear hP hD hS
  unfold fReader_readMap at hF
  have hw0 := hts (Cond.fieldLink RX3 29 "MoveFronts$Reader" "list" "LMoveFronts$Front;") (by decide +kernel)
  have hw1 := hts (Cond.fieldLink RX3 52 "MoveFronts$Reader" "kinds" "I") (by decide +kernel)
  have hi3 : ∀ w ∈ u_ws RX3 TX3 13, w ∈ wsX3_readMap := by decide +kernel
  refine lv_aload_n hx hb dX3_readMap_0 rfl (lv_at hl 0 rfl) ?_
  refine va_get (D := D) (ci := 3) (v := .ref a_list) (C := RX3) (T := TX3) (N := 13) hx hb hts hi3 hown hK.1 hW.1 0 rfl rfl 3 (by decide) hw0 (fun _ h9 => h9) rfl dX3_readMap_1 ?_
  obtain ⟨m_count_4, e4, hF⟩ := bd1_some hF
  refine ctV (wn := [ob a_self 3 [Value.ref a_tape, Value.ref a_signs, Value.ref a_choices, Value.ref a_list, Value.ref a_order, Value.ref a_codes, Value.int m_tables, Value.int m_groups, Value.int m_kinds, Value.int m_zeroPower, Value.int m_position, Value.int m_faultNumber, Value.int m_faultPosition], ob a_tape 5 [Value.ref a_tape_values, Value.int m_tape_count], ia cI a_tape_values 1500 m_tape_values, ob a_list 1 [Value.ref a_list_list, Value.int m_count_4], ia cI a_list_list 256 m_list_list]) (r := (RX1, TX1, 2)) (As := []) (rest := []) hx hb hml hown hts hK hW hA hl.1 (kFront_clear l D cI cZ cO cG a_list a_list_list m_list_count e4) (cwV 0 hts gX3_readMap_X1_clear rfl rfl rfl (by decide +kernel) ⟨Nat.le_of_ble_eq_true rfl, Nat.le_of_ble_eq_true rfl⟩) 1 3 rfl rfl [3] [0, 1, 2, 4] 5 rfl rfl rfl rfl [ob a_self 3 [Value.ref a_tape, Value.ref a_signs, Value.ref a_choices, Value.ref a_list, Value.ref a_order, Value.ref a_codes, Value.int m_tables, Value.int m_groups, Value.int m_kinds, Value.int m_zeroPower, Value.int m_position, Value.int m_faultNumber, Value.int m_faultPosition], ob a_tape 5 [Value.ref a_tape_values, Value.int m_tape_count], ia cI a_tape_values 1500 m_tape_values, ia cI a_list_list 256 m_list_list] rfl rfl rfl rfl rfl (Nat.le_of_ble_eq_true rfl) rfl ⟨Nat.zero_le _, Nat.zero_le _⟩ dX3_readMap_4 (fun H locs hW => ?_)
  refine lv_aload_n hx hb dX3_readMap_7 rfl (lv_at hl 0 rfl) ?_
  refine lv_bipush (v := 16) hx hb dX3_readMap_8 (by decide) ?_
  obtain ⟨r_10, m_position_10, m_faultNumber_10, m_faultPosition_10, e10, hF⟩ := bd4_some hF
  refine ctV (wn := [ob a_self 3 [Value.ref a_tape, Value.ref a_signs, Value.ref a_choices, Value.ref a_list, Value.ref a_order, Value.ref a_codes, Value.int m_tables, Value.int m_groups, Value.int m_kinds, Value.int m_zeroPower, Value.int m_position_10, Value.int m_faultNumber_10, Value.int m_faultPosition_10], ob a_tape 5 [Value.ref a_tape_values, Value.int m_tape_count], ia cI a_tape_values 1500 m_tape_values, ob a_list 1 [Value.ref a_list_list, Value.int m_count_4], ia cI a_list_list 256 m_list_list]) (r := (RX3, TX3, 13)) (As := [.int (16 : Int32)]) (rest := []) hx hb hml hown hts hK hW hA hl.1 (kReader_nextNumber l D cI cZ cO cG a_self a_tape a_signs a_choices a_list a_order a_codes a_tape_values m_tables m_groups m_kinds m_zeroPower m_position m_faultNumber m_faultPosition m_tape_count m_tape_values (16 : Int32) e10) (cwV 1 hts gX3_readMap_X3_nextNumber rfl rfl rfl (by decide +kernel) ⟨Nat.le_of_ble_eq_true rfl, Nat.le_of_ble_eq_true rfl⟩) 3 0 rfl rfl [0, 1, 2] [3, 4] 5 rfl rfl rfl rfl [ob a_list 1 [Value.ref a_list_list, Value.int m_count_4], ia cI a_list_list 256 m_list_list] rfl rfl rfl rfl rfl (Nat.le_of_ble_eq_true rfl) rfl ⟨Nat.zero_le _, Nat.zero_le _⟩ dX3_readMap_10 (fun H locs hW => ?_)
  refine lv_istore_n (lv' := [(1, .int r_10), (0, .ref a_self)]) hx hb dX3_readMap_13 rfl hl (by decide) rfl (fun ls hl => ?_)
  refine lv_iload_n hx hb dX3_readMap_14 rfl (lv_at hl 0 rfl) ?_
  refine lv_iconst (v := (-1)) hx hb dX3_readMap_15 (by decide) ?_
  refine lv_icmp_ne (tgt := 21) hx hb dX3_readMap_16 (by decide) (fun c16 => ?_) (fun c16 => ?_)
  · rw [if_neg c16] at hF
    refine lv_iload_n hx hb dX3_readMap_21 rfl (lv_at hl 0 rfl) ?_
    refine lv_if_ne (tgt := 31) hx hb dX3_readMap_22 (by decide) (fun c22 => ?_) (fun c22 => ?_)
    · rw [if_neg c22] at hF
      refine lv_iconst (v := 0) hx hb dX3_readMap_31 (by decide) ?_
      refine lv_istore_n (lv' := [(2, .int (0 : Int32)), (1, .int r_10), (0, .ref a_self)]) hx hb dX3_readMap_32 rfl hl (by decide) rfl (fun ls hl => ?_)
      obtain ⟨q33, hI, hq33⟩ := bs_some hF
      obtain ⟨nn, hI⟩ := itrO_some hI
      have hX33 : ∀ (m_position_33z : Int32) (m_faultNumber_33z : Int32) (m_faultPosition_33z : Int32) (m_list_count_33z : Int32) (m_list_list_33z : Nat → Int32), (.inl (m_position_33z, m_faultNumber_33z, m_faultPosition_33z, m_list_count_33z, m_list_list_33z)) = q33 → ∀ (H : Heap) (locs : List Loc), WS D A s [ob a_self 3 [Value.ref a_tape, Value.ref a_signs, Value.ref a_choices, Value.ref a_list, Value.ref a_order, Value.ref a_codes, Value.int m_tables, Value.int m_groups, Value.int m_kinds, Value.int m_zeroPower, Value.int m_position_33z, Value.int m_faultNumber_33z, Value.int m_faultPosition_33z], ob a_tape 5 [Value.ref a_tape_values, Value.int m_tape_count], ia cI a_tape_values 1500 m_tape_values, ob a_list 1 [Value.ref a_list_list, Value.int m_list_count_33z], ia cI a_list_list 256 m_list_list_33z] H locs → ∀ ls : Array Slot, lv_has ls 3 [(0, .ref a_self)] → W p l e (headSpec wsX3_readMap rmReader_readMap).room s m args below meth c H locs 0 0 Q (F0 m 70 ls []) := by
        intro m_position_33z m_faultNumber_33z m_faultPosition_33z m_list_count_33z m_list_list_33z he H locs hW ls hl
        subst he
        have hF := bs_inl hq33
        rw [un5_eq] at hF
        refine lv_aload_n hx hb dX3_readMap_70 rfl (lv_at hl 0 rfl) ?_
        refine lv_aload_n hx hb dX3_readMap_71 rfl (lv_at hl 0 rfl) ?_
        refine va_get (D := D) (ci := 3) (v := .ref a_list) (C := RX3) (T := TX3) (N := 13) hx hb hts hi3 hown hK.1 hW.1 0 rfl rfl 3 (by decide) hw0 (fun _ h9 => h9) rfl dX3_readMap_72 ?_
        obtain ⟨r_75, e75, hF⟩ := bd1_some hF
        refine ctV (wn := [ob a_self 3 [Value.ref a_tape, Value.ref a_signs, Value.ref a_choices, Value.ref a_list, Value.ref a_order, Value.ref a_codes, Value.int m_tables, Value.int m_groups, Value.int m_kinds, Value.int m_zeroPower, Value.int m_position_33z, Value.int m_faultNumber_33z, Value.int m_faultPosition_33z], ob a_tape 5 [Value.ref a_tape_values, Value.int m_tape_count], ia cI a_tape_values 1500 m_tape_values, ob a_list 1 [Value.ref a_list_list, Value.int m_list_count_33z], ia cI a_list_list 256 m_list_list_33z]) (r := (RX1, TX1, 2)) (As := []) (rest := [.ref a_self]) hx hb hml hown hts hK hW hA hl.1 (kFront_size l D cI cZ cO cG a_list a_list_list m_list_count_33z e75) (cwV 0 hts gX3_readMap_X1_size rfl rfl rfl (by decide +kernel) ⟨Nat.le_of_ble_eq_true rfl, Nat.le_of_ble_eq_true rfl⟩) 1 3 rfl rfl [3] [0, 1, 2, 4] 5 rfl rfl rfl rfl [ob a_self 3 [Value.ref a_tape, Value.ref a_signs, Value.ref a_choices, Value.ref a_list, Value.ref a_order, Value.ref a_codes, Value.int m_tables, Value.int m_groups, Value.int m_kinds, Value.int m_zeroPower, Value.int m_position_33z, Value.int m_faultNumber_33z, Value.int m_faultPosition_33z], ob a_tape 5 [Value.ref a_tape_values, Value.int m_tape_count], ia cI a_tape_values 1500 m_tape_values, ia cI a_list_list 256 m_list_list_33z] rfl rfl rfl rfl rfl (Nat.le_of_ble_eq_true rfl) rfl ⟨Nat.zero_le _, Nat.zero_le _⟩ dX3_readMap_75 (fun H locs hW => ?_)
        refine lv_iconst (v := 2) hx hb dX3_readMap_78 (by decide) ?_
        refine lv_iadd hx hb dX3_readMap_79 ?_
        refine va_put (D := D) (ci := 3) (v := .int (r_75 + (2 : Int32))) (ty := .int) (C := RX3) (T := TX3) (N := 13) hx hb hts hi3 tyX3 tyX3_ok nmX3 hown hK.1 hW.1 hW.2.1 hW.2.2 0 rfl rfl 8 (by decide) hw1 (fun _ h9 => h9) rfl (by decide +kernel) rfl rfl (Nat.le_of_ble_eq_true rfl) dX3_readMap_80 (fun H locs hP hD hS => ?_)
        have hW : WS D A s [ob a_self 3 [Value.ref a_tape, Value.ref a_signs, Value.ref a_choices, Value.ref a_list, Value.ref a_order, Value.ref a_codes, Value.int m_tables, Value.int m_groups, Value.int (r_75 + (2 : Int32)), Value.int m_zeroPower, Value.int m_position_33z, Value.int m_faultNumber_33z, Value.int m_faultPosition_33z], ob a_tape 5 [Value.ref a_tape_values, Value.int m_tape_count], ia cI a_tape_values 1500 m_tape_values, ob a_list 1 [Value.ref a_list_list, Value.int m_list_count_33z], ia cI a_list_list 256 m_list_list_33z] H locs := ⟨hP, hD, hS⟩
        refine lv_iconst (v := 1) hx hb dX3_readMap_83 (by decide) ?_
        cases hF
        subst hQ
        exact ct_zret hx hb hr hlocks rfl hW.1 hW.2.2 dX3_readMap_84
      have hL33 : ∀ (n33 : Nat) (x2_33 : Int32) (m_position_33 : Int32) (m_faultNumber_33 : Int32) (m_faultPosition_33 : Int32) (m_list_count_33 : Int32) (m_list_list_33 : Nat → Int32), itr (un6 (fReader_readMap_L33 m_kinds m_tape_count m_tape_values r_10)) n33 (x2_33, m_position_33, m_faultNumber_33, m_faultPosition_33, m_list_count_33, m_list_list_33) = some q33 → ∀ (H : Heap) (locs : List Loc), WS D A s [ob a_self 3 [Value.ref a_tape, Value.ref a_signs, Value.ref a_choices, Value.ref a_list, Value.ref a_order, Value.ref a_codes, Value.int m_tables, Value.int m_groups, Value.int m_kinds, Value.int m_zeroPower, Value.int m_position_33, Value.int m_faultNumber_33, Value.int m_faultPosition_33], ob a_tape 5 [Value.ref a_tape_values, Value.int m_tape_count], ia cI a_tape_values 1500 m_tape_values, ob a_list 1 [Value.ref a_list_list, Value.int m_list_count_33], ia cI a_list_list 256 m_list_list_33] H locs → ∀ ls : Array Slot, lv_has ls 3 [(0, .ref a_self), (1, .int r_10), (2, .int x2_33)] → W p l e (headSpec wsX3_readMap rmReader_readMap).room s m args below meth c H locs 0 0 Q (F0 m 33 ls []) := by
        intro n33
        induction n33 with
        | zero => intro x2_33 m_position_33 m_faultNumber_33 m_faultPosition_33 m_list_count_33 m_list_list_33 hI; cases hI
        | succ n33 ih33 =>
          intro x2_33 m_position_33 m_faultNumber_33 m_faultPosition_33 m_list_count_33 m_list_list_33 hI H locs hW ls hl
          obtain ⟨sr33, hF, hN33⟩ := itr_succ hI
          have hF : fReader_readMap_L33 m_kinds m_tape_count m_tape_values r_10 x2_33 m_position_33 m_faultNumber_33 m_faultPosition_33 m_list_count_33 m_list_list_33 = some sr33 := hF
          unfold fReader_readMap_L33 at hF
          refine lv_iload_n hx hb dX3_readMap_33 rfl (lv_at hl 2 rfl) ?_
          refine lv_bipush (v := 16) hx hb dX3_readMap_34 (by decide) ?_
          refine lv_icmp_ge (tgt := 70) hx hb dX3_readMap_36 (by decide) (fun c36 => ?_) (fun c36 => ?_)
          · rw [if_pos c36] at hF
            cases hF
            exact hX33 _ _ _ _ _ (itr_out hN33) _ _ hW _ (lv_sub hl [0] rfl)
          · rw [if_neg c36] at hF
            refine lv_iload_n hx hb dX3_readMap_39 rfl (lv_at hl 1 rfl) ?_
            refine lv_bipush (v := 15) hx hb dX3_readMap_40 (by decide) ?_
            refine lv_iload_n hx hb dX3_readMap_42 rfl (lv_at hl 2 rfl) ?_
            refine lv_isub hx hb dX3_readMap_43 ?_
            refine lv_ishr hx hb dX3_readMap_44 ?_
            refine lv_iconst (v := 1) hx hb dX3_readMap_45 (by decide) ?_
            refine lv_iand hx hb dX3_readMap_46 ?_
            refine lv_iconst (v := 1) hx hb dX3_readMap_47 (by decide) ?_
            refine lv_icmp_ne (tgt := 64) hx hb dX3_readMap_48 (by decide) (fun c48 => ?_) (fun c48 => ?_)
            · rw [if_neg c48] at hF
              refine lv_iinc (v := (x2_33 + 1)) (lv' := [(2, .int (x2_33 + 1)), (0, .ref a_self), (1, .int r_10)]) hx hb dX3_readMap_64 hl (k := 2) rfl rfl (by decide) rfl (fun ls hl => ?_)
              refine lv_goto (tgt := 33) hx hb dX3_readMap_67 (by decide) ?_
              cases hF
              exact ih33 _ _ _ _ _ _ (itr_in hN33) _ _ hW _ (lv_sub hl [1, 2, 0] rfl)
            · rw [if_pos c48] at hF
              refine lv_aload_n hx hb dX3_readMap_51 rfl (lv_at hl 0 rfl) ?_
              refine lv_iload_n hx hb dX3_readMap_52 rfl (lv_at hl 2 rfl) ?_
              refine lv_bipush (v := 16) hx hb dX3_readMap_53 (by decide) ?_
              refine lv_imul hx hb dX3_readMap_55 ?_
              obtain ⟨r_56, m_position_56, m_faultNumber_56, m_faultPosition_56, m_list_count_56, m_list_list_56, e56, hF⟩ := bd6_some hF
              refine ctV (wn := [ob a_self 3 [Value.ref a_tape, Value.ref a_signs, Value.ref a_choices, Value.ref a_list, Value.ref a_order, Value.ref a_codes, Value.int m_tables, Value.int m_groups, Value.int m_kinds, Value.int m_zeroPower, Value.int m_position_56, Value.int m_faultNumber_56, Value.int m_faultPosition_56], ob a_tape 5 [Value.ref a_tape_values, Value.int m_tape_count], ia cI a_tape_values 1500 m_tape_values, ob a_list 1 [Value.ref a_list_list, Value.int m_list_count_56], ia cI a_list_list 256 m_list_list_56]) (r := (RX3, TX3, 13)) (As := [.int (x2_33 * (16 : Int32))]) (rest := []) hx hb hml hown hts hK hW hA hl.1 (kReader_readField l D cI cZ cO cG a_self a_tape a_signs a_choices a_list a_order a_codes a_tape_values a_list_list m_tables m_groups m_kinds m_zeroPower m_position_33 m_faultNumber_33 m_faultPosition_33 m_tape_count m_tape_values m_list_count_33 m_list_list_33 (x2_33 * (16 : Int32)) e56) (cwV 1 hts gX3_readMap_X3_readField rfl rfl rfl (by decide +kernel) ⟨Nat.le_of_ble_eq_true rfl, Nat.le_of_ble_eq_true rfl⟩) 3 0 rfl rfl [0, 1, 2, 3, 4] [] 5 rfl rfl rfl rfl [] rfl rfl rfl rfl rfl (Nat.le_of_ble_eq_true rfl) rfl ⟨Nat.zero_le _, Nat.zero_le _⟩ dX3_readMap_56 (fun H locs hW => ?_)
              refine lv_if_ne (tgt := 64) hx hb dX3_readMap_59 (by decide) (fun c59 => ?_) (fun c59 => ?_)
              · rw [if_neg c59] at hF
                refine lv_iinc (v := (x2_33 + 1)) (lv' := [(2, .int (x2_33 + 1)), (0, .ref a_self), (1, .int r_10)]) hx hb dX3_readMap_64 hl (k := 2) rfl rfl (by decide) rfl (fun ls hl => ?_)
                refine lv_goto (tgt := 33) hx hb dX3_readMap_67 (by decide) ?_
                cases hF
                exact ih33 _ _ _ _ _ _ (itr_in hN33) _ _ hW _ (lv_sub hl [1, 2, 0] rfl)
              · rw [if_pos c59] at hF
                refine lv_iconst (v := 0) hx hb dX3_readMap_62 (by decide) ?_
                cases hF
                have hq0 := itr_out hN33
                subst hq0
                have hF := bs_inr hq33
                cases hF
                subst hQ
                exact ct_zret hx hb hr hlocks rfl hW.1 hW.2.2 dX3_readMap_63
      exact hL33 nn _ _ _ _ _ _ hI _ _ hW _ (lv_sub hl [2, 1, 0] rfl)
    · rw [if_pos c22] at hF
      refine lv_aload_n hx hb dX3_readMap_25 rfl (lv_at hl 1 rfl) ?_
      refine lv_iconst (v := 2) hx hb dX3_readMap_26 (by decide) ?_
      obtain ⟨r_27, m_faultNumber_27, m_faultPosition_27, e27, hF⟩ := bd3_some hF
      refine ctV (wn := [ob a_self 3 [Value.ref a_tape, Value.ref a_signs, Value.ref a_choices, Value.ref a_list, Value.ref a_order, Value.ref a_codes, Value.int m_tables, Value.int m_groups, Value.int m_kinds, Value.int m_zeroPower, Value.int m_position_10, Value.int m_faultNumber_27, Value.int m_faultPosition_27], ob a_tape 5 [Value.ref a_tape_values, Value.int m_tape_count], ia cI a_tape_values 1500 m_tape_values, ob a_list 1 [Value.ref a_list_list, Value.int m_count_4], ia cI a_list_list 256 m_list_list]) (r := (RX3, TX3, 13)) (As := [.int (2 : Int32)]) (rest := []) hx hb hml hown hts hK hW hA hl.1 (kReader_fail l D cI cZ cO cG a_self a_tape a_signs a_choices a_list a_order a_codes m_tables m_groups m_kinds m_zeroPower m_position_10 m_faultNumber_10 m_faultPosition_10 (2 : Int32) e27) (cwV 1 hts gX3_readMap_X3_fail rfl rfl rfl (by decide +kernel) ⟨Nat.le_of_ble_eq_true rfl, Nat.le_of_ble_eq_true rfl⟩) 3 0 rfl rfl [0] [1, 2, 3, 4] 5 rfl rfl rfl rfl [ob a_tape 5 [Value.ref a_tape_values, Value.int m_tape_count], ia cI a_tape_values 1500 m_tape_values, ob a_list 1 [Value.ref a_list_list, Value.int m_count_4], ia cI a_list_list 256 m_list_list] rfl rfl rfl rfl rfl (Nat.le_of_ble_eq_true rfl) rfl ⟨Nat.zero_le _, Nat.zero_le _⟩ dX3_readMap_27 (fun H locs hW => ?_)
      obtain ⟨g30, hF⟩ := gdB_some hF
      cases hF
      subst hQ
      exact ct_zret hx hb hr hlocks (gdB_n g30) hW.1 hW.2.2 dX3_readMap_30
  · rw [if_pos c16] at hF
    refine lv_iconst (v := 0) hx hb dX3_readMap_19 (by decide) ?_
    cases hF
    subst hQ
    exact ct_zret hx hb hr hlocks rfl hW.1 hW.2.2 dX3_readMap_20
abbrev rmReader_nextKind : Room := { frames := 2, cells := 0, slots := 0, locals := 42 }
set_option maxHeartbeats 4000000 in
set_option maxRecDepth 100000 in
theorem kReader_nextKind (l : Launch) (D : va_G) (cI cZ cO cG : ClassId) (a_self : Nat) (a_tape : Nat) (a_signs : Nat) (a_choices : Nat) (a_list : Nat) (a_order : Nat) (a_codes : Nat) (a_tape_values : Nat) (a_codes_0_ : Nat) (a_codes_1_ : Nat) (a_codes_2_ : Nat) (a_codes_0__lengths : Nat) (a_codes_0__codes : Nat) (a_codes_0__counts : Nat) (a_codes_0__firsts : Nat) (a_codes_0__nexts : Nat) (a_codes_1__lengths : Nat) (a_codes_1__codes : Nat) (a_codes_1__counts : Nat) (a_codes_1__firsts : Nat) (a_codes_1__nexts : Nat) (a_codes_2__lengths : Nat) (a_codes_2__codes : Nat) (a_codes_2__counts : Nat) (a_codes_2__firsts : Nat) (a_codes_2__nexts : Nat) (m_tables : Int32) (m_groups : Int32) (m_kinds : Int32) (m_zeroPower : Int32) (m_position : Int32) (m_faultNumber : Int32) (m_faultPosition : Int32) (m_tape_count : Int32) (m_tape_values : Nat → Int32) (m_codes_kinds : Nat → Int32) (m_codes_filled : Nat → Int32) (m_codes_lengths : Nat → Nat → Int32) (m_codes_codes : Nat → Nat → Int32) (m_codes_counts : Nat → Nat → Int32) (m_codes_firsts : Nat → Nat → Int32) (x1 : Int32) {rv : Int32} {m_position' : Int32} {m_faultNumber' : Int32} {m_faultPosition' : Int32} (hF : fReader_nextKind m_position m_faultNumber m_faultPosition m_tape_count m_tape_values m_codes_kinds m_codes_filled m_codes_lengths m_codes_codes m_codes_counts m_codes_firsts x1 = some (rv, m_position', m_faultNumber', m_faultPosition')) : CT l yX3_nextKind wsX3_nextKind rmReader_nextKind D (tysG cI cZ cO cG) [.ref a_self, .int x1] [ob a_self 3 [Value.ref a_tape, Value.ref a_signs, Value.ref a_choices, Value.ref a_list, Value.ref a_order, Value.ref a_codes, Value.int m_tables, Value.int m_groups, Value.int m_kinds, Value.int m_zeroPower, Value.int m_position, Value.int m_faultNumber, Value.int m_faultPosition], ob a_tape 5 [Value.ref a_tape_values, Value.int m_tape_count], ia cI a_tape_values 1500 m_tape_values, ra cO a_codes 3 (va_up (va_up (va_up (fun _ => none) 0 (some a_codes_0_)) 1 (some a_codes_1_)) 2 (some a_codes_2_)), ob a_codes_0_ 0 [Value.ref a_codes_0__lengths, Value.ref a_codes_0__codes, Value.ref a_codes_0__counts, Value.ref a_codes_0__firsts, Value.ref a_codes_0__nexts, Value.int (m_codes_kinds 0), Value.int (m_codes_filled 0)], ia cI a_codes_0__lengths 258 (m_codes_lengths 0), ia cI a_codes_0__codes 258 (m_codes_codes 0), ia cI a_codes_0__counts 21 (m_codes_counts 0), ia cI a_codes_0__firsts 21 (m_codes_firsts 0), ob a_codes_1_ 0 [Value.ref a_codes_1__lengths, Value.ref a_codes_1__codes, Value.ref a_codes_1__counts, Value.ref a_codes_1__firsts, Value.ref a_codes_1__nexts, Value.int (m_codes_kinds 1), Value.int (m_codes_filled 1)], ia cI a_codes_1__lengths 258 (m_codes_lengths 1), ia cI a_codes_1__codes 258 (m_codes_codes 1), ia cI a_codes_1__counts 21 (m_codes_counts 1), ia cI a_codes_1__firsts 21 (m_codes_firsts 1), ob a_codes_2_ 0 [Value.ref a_codes_2__lengths, Value.ref a_codes_2__codes, Value.ref a_codes_2__counts, Value.ref a_codes_2__firsts, Value.ref a_codes_2__nexts, Value.int (m_codes_kinds 2), Value.int (m_codes_filled 2)], ia cI a_codes_2__lengths 258 (m_codes_lengths 2), ia cI a_codes_2__codes 258 (m_codes_codes 2), ia cI a_codes_2__counts 21 (m_codes_counts 2), ia cI a_codes_2__firsts 21 (m_codes_firsts 2)] (some (.int rv)) [ob a_self 3 [Value.ref a_tape, Value.ref a_signs, Value.ref a_choices, Value.ref a_list, Value.ref a_order, Value.ref a_codes, Value.int m_tables, Value.int m_groups, Value.int m_kinds, Value.int m_zeroPower, Value.int m_position', Value.int m_faultNumber', Value.int m_faultPosition'], ob a_tape 5 [Value.ref a_tape_values, Value.int m_tape_count], ia cI a_tape_values 1500 m_tape_values, ra cO a_codes 3 (va_up (va_up (va_up (fun _ => none) 0 (some a_codes_0_)) 1 (some a_codes_1_)) 2 (some a_codes_2_)), ob a_codes_0_ 0 [Value.ref a_codes_0__lengths, Value.ref a_codes_0__codes, Value.ref a_codes_0__counts, Value.ref a_codes_0__firsts, Value.ref a_codes_0__nexts, Value.int (m_codes_kinds 0), Value.int (m_codes_filled 0)], ia cI a_codes_0__lengths 258 (m_codes_lengths 0), ia cI a_codes_0__codes 258 (m_codes_codes 0), ia cI a_codes_0__counts 21 (m_codes_counts 0), ia cI a_codes_0__firsts 21 (m_codes_firsts 0), ob a_codes_1_ 0 [Value.ref a_codes_1__lengths, Value.ref a_codes_1__codes, Value.ref a_codes_1__counts, Value.ref a_codes_1__firsts, Value.ref a_codes_1__nexts, Value.int (m_codes_kinds 1), Value.int (m_codes_filled 1)], ia cI a_codes_1__lengths 258 (m_codes_lengths 1), ia cI a_codes_1__codes 258 (m_codes_codes 1), ia cI a_codes_1__counts 21 (m_codes_counts 1), ia cI a_codes_1__firsts 21 (m_codes_firsts 1), ob a_codes_2_ 0 [Value.ref a_codes_2__lengths, Value.ref a_codes_2__codes, Value.ref a_codes_2__counts, Value.ref a_codes_2__firsts, Value.ref a_codes_2__nexts, Value.int (m_codes_kinds 2), Value.int (m_codes_filled 2)], ia cI a_codes_2__lengths 258 (m_codes_lengths 2), ia cI a_codes_2__codes 258 (m_codes_codes 2), ia cI a_codes_2__counts 21 (m_codes_counts 2), ia cI a_codes_2__firsts 21 (m_codes_firsts 2)] := by
  refine CT.of (cc := cX3_nextKind) (maxL := 6) (ret := (some .int)) (by decide) rfl (Nat.le_of_ble_eq_true rfl) ?_
  intro p e s m below meth c A ls hx hb hr hml hts hown hlocks hK hA hP hD hS hl
  generalize hargs : ([.ref a_self, .int x1] : List Value).toArray = args at hts ⊢
  generalize hQ : MQ below (ctQ D (some (.int rv)) [ob a_self 3 [Value.ref a_tape, Value.ref a_signs, Value.ref a_choices, Value.ref a_list, Value.ref a_order, Value.ref a_codes, Value.int m_tables, Value.int m_groups, Value.int m_kinds, Value.int m_zeroPower, Value.int m_position', Value.int m_faultNumber', Value.int m_faultPosition'], ob a_tape 5 [Value.ref a_tape_values, Value.int m_tape_count], ia cI a_tape_values 1500 m_tape_values, ra cO a_codes 3 (va_up (va_up (va_up (fun _ => none) 0 (some a_codes_0_)) 1 (some a_codes_1_)) 2 (some a_codes_2_)), ob a_codes_0_ 0 [Value.ref a_codes_0__lengths, Value.ref a_codes_0__codes, Value.ref a_codes_0__counts, Value.ref a_codes_0__firsts, Value.ref a_codes_0__nexts, Value.int (m_codes_kinds 0), Value.int (m_codes_filled 0)], ia cI a_codes_0__lengths 258 (m_codes_lengths 0), ia cI a_codes_0__codes 258 (m_codes_codes 0), ia cI a_codes_0__counts 21 (m_codes_counts 0), ia cI a_codes_0__firsts 21 (m_codes_firsts 0), ob a_codes_1_ 0 [Value.ref a_codes_1__lengths, Value.ref a_codes_1__codes, Value.ref a_codes_1__counts, Value.ref a_codes_1__firsts, Value.ref a_codes_1__nexts, Value.int (m_codes_kinds 1), Value.int (m_codes_filled 1)], ia cI a_codes_1__lengths 258 (m_codes_lengths 1), ia cI a_codes_1__codes 258 (m_codes_codes 1), ia cI a_codes_1__counts 21 (m_codes_counts 1), ia cI a_codes_1__firsts 21 (m_codes_firsts 1), ob a_codes_2_ 0 [Value.ref a_codes_2__lengths, Value.ref a_codes_2__codes, Value.ref a_codes_2__counts, Value.ref a_codes_2__firsts, Value.ref a_codes_2__nexts, Value.int (m_codes_kinds 2), Value.int (m_codes_filled 2)], ia cI a_codes_2__lengths 258 (m_codes_lengths 2), ia cI a_codes_2__codes 258 (m_codes_codes 2), ia cI a_codes_2__counts 21 (m_codes_counts 2), ia cI a_codes_2__firsts 21 (m_codes_firsts 2)] A) args s 0 0 A = Q
  have hl : lv_has ls 6 [(0, .ref a_self), (1, .int x1)] := hl
  have hW : WS D A s [ob a_self 3 [Value.ref a_tape, Value.ref a_signs, Value.ref a_choices, Value.ref a_list, Value.ref a_order, Value.ref a_codes, Value.int m_tables, Value.int m_groups, Value.int m_kinds, Value.int m_zeroPower, Value.int m_position, Value.int m_faultNumber, Value.int m_faultPosition], ob a_tape 5 [Value.ref a_tape_values, Value.int m_tape_count], ia cI a_tape_values 1500 m_tape_values, ra cO a_codes 3 (va_up (va_up (va_up (fun _ => none) 0 (some a_codes_0_)) 1 (some a_codes_1_)) 2 (some a_codes_2_)), ob a_codes_0_ 0 [Value.ref a_codes_0__lengths, Value.ref a_codes_0__codes, Value.ref a_codes_0__counts, Value.ref a_codes_0__firsts, Value.ref a_codes_0__nexts, Value.int (m_codes_kinds 0), Value.int (m_codes_filled 0)], ia cI a_codes_0__lengths 258 (m_codes_lengths 0), ia cI a_codes_0__codes 258 (m_codes_codes 0), ia cI a_codes_0__counts 21 (m_codes_counts 0), ia cI a_codes_0__firsts 21 (m_codes_firsts 0), ob a_codes_1_ 0 [Value.ref a_codes_1__lengths, Value.ref a_codes_1__codes, Value.ref a_codes_1__counts, Value.ref a_codes_1__firsts, Value.ref a_codes_1__nexts, Value.int (m_codes_kinds 1), Value.int (m_codes_filled 1)], ia cI a_codes_1__lengths 258 (m_codes_lengths 1), ia cI a_codes_1__codes 258 (m_codes_codes 1), ia cI a_codes_1__counts 21 (m_codes_counts 1), ia cI a_codes_1__firsts 21 (m_codes_firsts 1), ob a_codes_2_ 0 [Value.ref a_codes_2__lengths, Value.ref a_codes_2__codes, Value.ref a_codes_2__counts, Value.ref a_codes_2__firsts, Value.ref a_codes_2__nexts, Value.int (m_codes_kinds 2), Value.int (m_codes_filled 2)], ia cI a_codes_2__lengths 258 (m_codes_lengths 2), ia cI a_codes_2__codes 258 (m_codes_codes 2), ia cI a_codes_2__counts 21 (m_codes_counts 2), ia cI a_codes_2__firsts 21 (m_codes_firsts 2)] s.heap [] := ⟨hP, hD, hS⟩
  clear hP hD hS
  unfold fReader_nextKind at hF
  have hw0 := hts (Cond.fieldLink RX3 38 "MoveFronts$Reader" "codes" "[LMoveFronts$Codes;") (by decide +kernel)
  have hi3 : ∀ w ∈ u_ws RX3 TX3 13, w ∈ wsX3_nextKind := by decide +kernel
  refine lv_iconst (v := 0) hx hb dX3_nextKind_0 (by decide) ?_
  refine lv_istore_n (lv' := [(2, .int (0 : Int32)), (0, .ref a_self), (1, .int x1)]) hx hb dX3_nextKind_1 rfl hl (by decide) rfl (fun ls hl => ?_)
  refine lv_iconst (v := 1) hx hb dX3_nextKind_2 (by decide) ?_
  refine lv_istore_n (lv' := [(3, .int (1 : Int32)), (2, .int (0 : Int32)), (0, .ref a_self), (1, .int x1)]) hx hb dX3_nextKind_3 rfl hl (by decide) rfl (fun ls hl => ?_)
  obtain ⟨q4, hI, hq4⟩ := bs_some hF
  obtain ⟨nn, hI⟩ := itrO_some hI
  have hX4 : ∀ (m_position_4z : Int32) (m_faultNumber_4z : Int32) (m_faultPosition_4z : Int32), (.inl (m_position_4z, m_faultNumber_4z, m_faultPosition_4z)) = q4 → ∀ (H : Heap) (locs : List Loc), WS D A s [ob a_self 3 [Value.ref a_tape, Value.ref a_signs, Value.ref a_choices, Value.ref a_list, Value.ref a_order, Value.ref a_codes, Value.int m_tables, Value.int m_groups, Value.int m_kinds, Value.int m_zeroPower, Value.int m_position_4z, Value.int m_faultNumber_4z, Value.int m_faultPosition_4z], ob a_tape 5 [Value.ref a_tape_values, Value.int m_tape_count], ia cI a_tape_values 1500 m_tape_values, ra cO a_codes 3 (va_up (va_up (va_up (fun _ => none) 0 (some a_codes_0_)) 1 (some a_codes_1_)) 2 (some a_codes_2_)), ob a_codes_0_ 0 [Value.ref a_codes_0__lengths, Value.ref a_codes_0__codes, Value.ref a_codes_0__counts, Value.ref a_codes_0__firsts, Value.ref a_codes_0__nexts, Value.int (m_codes_kinds 0), Value.int (m_codes_filled 0)], ia cI a_codes_0__lengths 258 (m_codes_lengths 0), ia cI a_codes_0__codes 258 (m_codes_codes 0), ia cI a_codes_0__counts 21 (m_codes_counts 0), ia cI a_codes_0__firsts 21 (m_codes_firsts 0), ob a_codes_1_ 0 [Value.ref a_codes_1__lengths, Value.ref a_codes_1__codes, Value.ref a_codes_1__counts, Value.ref a_codes_1__firsts, Value.ref a_codes_1__nexts, Value.int (m_codes_kinds 1), Value.int (m_codes_filled 1)], ia cI a_codes_1__lengths 258 (m_codes_lengths 1), ia cI a_codes_1__codes 258 (m_codes_codes 1), ia cI a_codes_1__counts 21 (m_codes_counts 1), ia cI a_codes_1__firsts 21 (m_codes_firsts 1), ob a_codes_2_ 0 [Value.ref a_codes_2__lengths, Value.ref a_codes_2__codes, Value.ref a_codes_2__counts, Value.ref a_codes_2__firsts, Value.ref a_codes_2__nexts, Value.int (m_codes_kinds 2), Value.int (m_codes_filled 2)], ia cI a_codes_2__lengths 258 (m_codes_lengths 2), ia cI a_codes_2__codes 258 (m_codes_codes 2), ia cI a_codes_2__counts 21 (m_codes_counts 2), ia cI a_codes_2__firsts 21 (m_codes_firsts 2)] H locs → ∀ ls : Array Slot, lv_has ls 6 [(0, .ref a_self)] → W p l e (headSpec wsX3_nextKind rmReader_nextKind).room s m args below meth c H locs 0 0 Q (F0 m 85 ls []) := by
    intro m_position_4z m_faultNumber_4z m_faultPosition_4z he H locs hW ls hl
    subst he
    have hF := bs_inl hq4
    rw [un3_eq] at hF
    refine lv_aload_n hx hb dX3_nextKind_85 rfl (lv_at hl 0 rfl) ?_
    refine lv_bipush (v := 7) hx hb dX3_nextKind_86 (by decide) ?_
    obtain ⟨r_88, m_faultNumber_88, m_faultPosition_88, e88, hF⟩ := bd3_some hF
    refine ctV (wn := [ob a_self 3 [Value.ref a_tape, Value.ref a_signs, Value.ref a_choices, Value.ref a_list, Value.ref a_order, Value.ref a_codes, Value.int m_tables, Value.int m_groups, Value.int m_kinds, Value.int m_zeroPower, Value.int m_position_4z, Value.int m_faultNumber_88, Value.int m_faultPosition_88], ob a_tape 5 [Value.ref a_tape_values, Value.int m_tape_count], ia cI a_tape_values 1500 m_tape_values, ra cO a_codes 3 (va_up (va_up (va_up (fun _ => none) 0 (some a_codes_0_)) 1 (some a_codes_1_)) 2 (some a_codes_2_)), ob a_codes_0_ 0 [Value.ref a_codes_0__lengths, Value.ref a_codes_0__codes, Value.ref a_codes_0__counts, Value.ref a_codes_0__firsts, Value.ref a_codes_0__nexts, Value.int (m_codes_kinds 0), Value.int (m_codes_filled 0)], ia cI a_codes_0__lengths 258 (m_codes_lengths 0), ia cI a_codes_0__codes 258 (m_codes_codes 0), ia cI a_codes_0__counts 21 (m_codes_counts 0), ia cI a_codes_0__firsts 21 (m_codes_firsts 0), ob a_codes_1_ 0 [Value.ref a_codes_1__lengths, Value.ref a_codes_1__codes, Value.ref a_codes_1__counts, Value.ref a_codes_1__firsts, Value.ref a_codes_1__nexts, Value.int (m_codes_kinds 1), Value.int (m_codes_filled 1)], ia cI a_codes_1__lengths 258 (m_codes_lengths 1), ia cI a_codes_1__codes 258 (m_codes_codes 1), ia cI a_codes_1__counts 21 (m_codes_counts 1), ia cI a_codes_1__firsts 21 (m_codes_firsts 1), ob a_codes_2_ 0 [Value.ref a_codes_2__lengths, Value.ref a_codes_2__codes, Value.ref a_codes_2__counts, Value.ref a_codes_2__firsts, Value.ref a_codes_2__nexts, Value.int (m_codes_kinds 2), Value.int (m_codes_filled 2)], ia cI a_codes_2__lengths 258 (m_codes_lengths 2), ia cI a_codes_2__codes 258 (m_codes_codes 2), ia cI a_codes_2__counts 21 (m_codes_counts 2), ia cI a_codes_2__firsts 21 (m_codes_firsts 2)]) (r := (RX3, TX3, 13)) (As := [.int (7 : Int32)]) (rest := []) hx hb hml hown hts hK hW hA hl.1 (kReader_fail l D cI cZ cO cG a_self a_tape a_signs a_choices a_list a_order a_codes m_tables m_groups m_kinds m_zeroPower m_position_4z m_faultNumber_4z m_faultPosition_4z (7 : Int32) e88) (cwV 1 hts gX3_nextKind_X3_fail rfl rfl rfl (by decide +kernel) ⟨Nat.le_of_ble_eq_true rfl, Nat.le_of_ble_eq_true rfl⟩) 3 0 rfl rfl [0] [1, 2, 3, 4, 5, 6, 7, 8, 9, 10, 11, 12, 13, 14, 15, 16, 17, 18] 19 rfl rfl rfl rfl [ob a_tape 5 [Value.ref a_tape_values, Value.int m_tape_count], ia cI a_tape_values 1500 m_tape_values, ra cO a_codes 3 (va_up (va_up (va_up (fun _ => none) 0 (some a_codes_0_)) 1 (some a_codes_1_)) 2 (some a_codes_2_)), ob a_codes_0_ 0 [Value.ref a_codes_0__lengths, Value.ref a_codes_0__codes, Value.ref a_codes_0__counts, Value.ref a_codes_0__firsts, Value.ref a_codes_0__nexts, Value.int (m_codes_kinds 0), Value.int (m_codes_filled 0)], ia cI a_codes_0__lengths 258 (m_codes_lengths 0), ia cI a_codes_0__codes 258 (m_codes_codes 0), ia cI a_codes_0__counts 21 (m_codes_counts 0), ia cI a_codes_0__firsts 21 (m_codes_firsts 0), ob a_codes_1_ 0 [Value.ref a_codes_1__lengths, Value.ref a_codes_1__codes, Value.ref a_codes_1__counts, Value.ref a_codes_1__firsts, Value.ref a_codes_1__nexts, Value.int (m_codes_kinds 1), Value.int (m_codes_filled 1)], ia cI a_codes_1__lengths 258 (m_codes_lengths 1), ia cI a_codes_1__codes 258 (m_codes_codes 1), ia cI a_codes_1__counts 21 (m_codes_counts 1), ia cI a_codes_1__firsts 21 (m_codes_firsts 1), ob a_codes_2_ 0 [Value.ref a_codes_2__lengths, Value.ref a_codes_2__codes, Value.ref a_codes_2__counts, Value.ref a_codes_2__firsts, Value.ref a_codes_2__nexts, Value.int (m_codes_kinds 2), Value.int (m_codes_filled 2)], ia cI a_codes_2__lengths 258 (m_codes_lengths 2), ia cI a_codes_2__codes 258 (m_codes_codes 2), ia cI a_codes_2__counts 21 (m_codes_counts 2), ia cI a_codes_2__firsts 21 (m_codes_firsts 2)] rfl rfl rfl rfl rfl (Nat.le_of_ble_eq_true rfl) rfl ⟨Nat.zero_le _, Nat.zero_le _⟩ dX3_nextKind_88 (fun H locs hW => ?_)
    refine lv_pop hx hb dX3_nextKind_91 rfl ?_
    refine lv_iconst (v := (-1)) hx hb dX3_nextKind_92 (by decide) ?_
    cases hF
    subst hQ
    exact ct_iret hx hb hr hlocks hW.1 hW.2.2 dX3_nextKind_93
  have hL4 : ∀ (n4 : Nat) (x2_4 : Int32) (x3_4 : Int32) (m_position_4 : Int32) (m_faultNumber_4 : Int32) (m_faultPosition_4 : Int32), itr (un5 (fReader_nextKind_L4 m_tape_count m_tape_values m_codes_kinds m_codes_filled m_codes_lengths m_codes_codes m_codes_counts m_codes_firsts x1)) n4 (x2_4, x3_4, m_position_4, m_faultNumber_4, m_faultPosition_4) = some q4 → ∀ (H : Heap) (locs : List Loc), WS D A s [ob a_self 3 [Value.ref a_tape, Value.ref a_signs, Value.ref a_choices, Value.ref a_list, Value.ref a_order, Value.ref a_codes, Value.int m_tables, Value.int m_groups, Value.int m_kinds, Value.int m_zeroPower, Value.int m_position_4, Value.int m_faultNumber_4, Value.int m_faultPosition_4], ob a_tape 5 [Value.ref a_tape_values, Value.int m_tape_count], ia cI a_tape_values 1500 m_tape_values, ra cO a_codes 3 (va_up (va_up (va_up (fun _ => none) 0 (some a_codes_0_)) 1 (some a_codes_1_)) 2 (some a_codes_2_)), ob a_codes_0_ 0 [Value.ref a_codes_0__lengths, Value.ref a_codes_0__codes, Value.ref a_codes_0__counts, Value.ref a_codes_0__firsts, Value.ref a_codes_0__nexts, Value.int (m_codes_kinds 0), Value.int (m_codes_filled 0)], ia cI a_codes_0__lengths 258 (m_codes_lengths 0), ia cI a_codes_0__codes 258 (m_codes_codes 0), ia cI a_codes_0__counts 21 (m_codes_counts 0), ia cI a_codes_0__firsts 21 (m_codes_firsts 0), ob a_codes_1_ 0 [Value.ref a_codes_1__lengths, Value.ref a_codes_1__codes, Value.ref a_codes_1__counts, Value.ref a_codes_1__firsts, Value.ref a_codes_1__nexts, Value.int (m_codes_kinds 1), Value.int (m_codes_filled 1)], ia cI a_codes_1__lengths 258 (m_codes_lengths 1), ia cI a_codes_1__codes 258 (m_codes_codes 1), ia cI a_codes_1__counts 21 (m_codes_counts 1), ia cI a_codes_1__firsts 21 (m_codes_firsts 1), ob a_codes_2_ 0 [Value.ref a_codes_2__lengths, Value.ref a_codes_2__codes, Value.ref a_codes_2__counts, Value.ref a_codes_2__firsts, Value.ref a_codes_2__nexts, Value.int (m_codes_kinds 2), Value.int (m_codes_filled 2)], ia cI a_codes_2__lengths 258 (m_codes_lengths 2), ia cI a_codes_2__codes 258 (m_codes_codes 2), ia cI a_codes_2__counts 21 (m_codes_counts 2), ia cI a_codes_2__firsts 21 (m_codes_firsts 2)] H locs → ∀ ls : Array Slot, lv_has ls 6 [(0, .ref a_self), (1, .int x1), (2, .int x2_4), (3, .int x3_4)] → W p l e (headSpec wsX3_nextKind rmReader_nextKind).room s m args below meth c H locs 0 0 Q (F0 m 4 ls []) := by
    intro n4
    induction n4 with
    | zero => intro x2_4 x3_4 m_position_4 m_faultNumber_4 m_faultPosition_4 hI; cases hI
    | succ n4 ih4 =>
      intro x2_4 x3_4 m_position_4 m_faultNumber_4 m_faultPosition_4 hI H locs hW ls hl
      obtain ⟨sr4, hF, hN4⟩ := itr_succ hI
      have hF : fReader_nextKind_L4 m_tape_count m_tape_values m_codes_kinds m_codes_filled m_codes_lengths m_codes_codes m_codes_counts m_codes_firsts x1 x2_4 x3_4 m_position_4 m_faultNumber_4 m_faultPosition_4 = some sr4 := hF
      unfold fReader_nextKind_L4 at hF
      refine lv_iload_n hx hb dX3_nextKind_4 rfl (lv_at hl 3 rfl) ?_
      refine lv_bipush (v := 20) hx hb dX3_nextKind_5 (by decide) ?_
      refine lv_icmp_gt (tgt := 85) hx hb dX3_nextKind_7 (by decide) (fun c7 => ?_) (fun c7 => ?_)
      · rw [if_pos c7] at hF
        cases hF
        exact hX4 _ _ _ (itr_out hN4) _ _ hW _ (lv_sub hl [0] rfl)
      · rw [if_neg c7] at hF
        refine lv_iload_n hx hb dX3_nextKind_10 rfl (lv_at hl 1 rfl) ?_
        refine lv_if_lt (tgt := 85) hx hb dX3_nextKind_11 (by decide) (fun c11 => ?_) (fun c11 => ?_)
        · rw [if_pos c11] at hF
          cases hF
          exact hX4 _ _ _ (itr_out hN4) _ _ hW _ (lv_sub hl [0] rfl)
        · rw [if_neg c11] at hF
          refine lv_iload_n hx hb dX3_nextKind_14 rfl (lv_at hl 1 rfl) ?_
          refine lv_iconst (v := 3) hx hb dX3_nextKind_15 (by decide) ?_
          refine lv_icmp_ge (tgt := 85) hx hb dX3_nextKind_16 (by decide) (fun c16 => ?_) (fun c16 => ?_)
          · rw [if_pos c16] at hF
            cases hF
            exact hX4 _ _ _ (itr_out hN4) _ _ hW _ (lv_sub hl [0] rfl)
          · rw [if_neg c16] at hF
            refine lv_aload_n hx hb dX3_nextKind_19 rfl (lv_at hl 0 rfl) ?_
            obtain ⟨r_20, m_position_20, m_faultNumber_20, m_faultPosition_20, e20, hF⟩ := bd4_some hF
            refine ctV (wn := [ob a_self 3 [Value.ref a_tape, Value.ref a_signs, Value.ref a_choices, Value.ref a_list, Value.ref a_order, Value.ref a_codes, Value.int m_tables, Value.int m_groups, Value.int m_kinds, Value.int m_zeroPower, Value.int m_position_20, Value.int m_faultNumber_20, Value.int m_faultPosition_20], ob a_tape 5 [Value.ref a_tape_values, Value.int m_tape_count], ia cI a_tape_values 1500 m_tape_values, ra cO a_codes 3 (va_up (va_up (va_up (fun _ => none) 0 (some a_codes_0_)) 1 (some a_codes_1_)) 2 (some a_codes_2_)), ob a_codes_0_ 0 [Value.ref a_codes_0__lengths, Value.ref a_codes_0__codes, Value.ref a_codes_0__counts, Value.ref a_codes_0__firsts, Value.ref a_codes_0__nexts, Value.int (m_codes_kinds 0), Value.int (m_codes_filled 0)], ia cI a_codes_0__lengths 258 (m_codes_lengths 0), ia cI a_codes_0__codes 258 (m_codes_codes 0), ia cI a_codes_0__counts 21 (m_codes_counts 0), ia cI a_codes_0__firsts 21 (m_codes_firsts 0), ob a_codes_1_ 0 [Value.ref a_codes_1__lengths, Value.ref a_codes_1__codes, Value.ref a_codes_1__counts, Value.ref a_codes_1__firsts, Value.ref a_codes_1__nexts, Value.int (m_codes_kinds 1), Value.int (m_codes_filled 1)], ia cI a_codes_1__lengths 258 (m_codes_lengths 1), ia cI a_codes_1__codes 258 (m_codes_codes 1), ia cI a_codes_1__counts 21 (m_codes_counts 1), ia cI a_codes_1__firsts 21 (m_codes_firsts 1), ob a_codes_2_ 0 [Value.ref a_codes_2__lengths, Value.ref a_codes_2__codes, Value.ref a_codes_2__counts, Value.ref a_codes_2__firsts, Value.ref a_codes_2__nexts, Value.int (m_codes_kinds 2), Value.int (m_codes_filled 2)], ia cI a_codes_2__lengths 258 (m_codes_lengths 2), ia cI a_codes_2__codes 258 (m_codes_codes 2), ia cI a_codes_2__counts 21 (m_codes_counts 2), ia cI a_codes_2__firsts 21 (m_codes_firsts 2)]) (r := (RX3, TX3, 13)) (As := []) (rest := []) hx hb hml hown hts hK hW hA hl.1 (kReader_nextBit l D cI cZ cO cG a_self a_tape a_signs a_choices a_list a_order a_codes a_tape_values m_tables m_groups m_kinds m_zeroPower m_position_4 m_faultNumber_4 m_faultPosition_4 m_tape_count m_tape_values e20) (cwV 0 hts gX3_nextKind_X3_nextBit rfl rfl rfl (by decide +kernel) ⟨Nat.le_of_ble_eq_true rfl, Nat.le_of_ble_eq_true rfl⟩) 3 0 rfl rfl [0, 1, 2] [3, 4, 5, 6, 7, 8, 9, 10, 11, 12, 13, 14, 15, 16, 17, 18] 19 rfl rfl rfl rfl [ra cO a_codes 3 (va_up (va_up (va_up (fun _ => none) 0 (some a_codes_0_)) 1 (some a_codes_1_)) 2 (some a_codes_2_)), ob a_codes_0_ 0 [Value.ref a_codes_0__lengths, Value.ref a_codes_0__codes, Value.ref a_codes_0__counts, Value.ref a_codes_0__firsts, Value.ref a_codes_0__nexts, Value.int (m_codes_kinds 0), Value.int (m_codes_filled 0)], ia cI a_codes_0__lengths 258 (m_codes_lengths 0), ia cI a_codes_0__codes 258 (m_codes_codes 0), ia cI a_codes_0__counts 21 (m_codes_counts 0), ia cI a_codes_0__firsts 21 (m_codes_firsts 0), ob a_codes_1_ 0 [Value.ref a_codes_1__lengths, Value.ref a_codes_1__codes, Value.ref a_codes_1__counts, Value.ref a_codes_1__firsts, Value.ref a_codes_1__nexts, Value.int (m_codes_kinds 1), Value.int (m_codes_filled 1)], ia cI a_codes_1__lengths 258 (m_codes_lengths 1), ia cI a_codes_1__codes 258 (m_codes_codes 1), ia cI a_codes_1__counts 21 (m_codes_counts 1), ia cI a_codes_1__firsts 21 (m_codes_firsts 1), ob a_codes_2_ 0 [Value.ref a_codes_2__lengths, Value.ref a_codes_2__codes, Value.ref a_codes_2__counts, Value.ref a_codes_2__firsts, Value.ref a_codes_2__nexts, Value.int (m_codes_kinds 2), Value.int (m_codes_filled 2)], ia cI a_codes_2__lengths 258 (m_codes_lengths 2), ia cI a_codes_2__codes 258 (m_codes_codes 2), ia cI a_codes_2__counts 21 (m_codes_counts 2), ia cI a_codes_2__firsts 21 (m_codes_firsts 2)] rfl rfl rfl rfl rfl (Nat.le_of_ble_eq_true rfl) rfl ⟨Nat.zero_le _, Nat.zero_le _⟩ dX3_nextKind_20 (fun H locs hW => ?_)
            refine lv_istore (lv' := [(4, .int r_20), (0, .ref a_self), (1, .int x1), (2, .int x2_4), (3, .int x3_4)]) hx hb dX3_nextKind_23 hl (by decide) rfl (fun ls hl => ?_)
            refine lv_iload hx hb dX3_nextKind_25 (lv_at hl 0 rfl) ?_
            refine lv_iconst (v := (-1)) hx hb dX3_nextKind_27 (by decide) ?_
            refine lv_icmp_ne (tgt := 33) hx hb dX3_nextKind_28 (by decide) (fun c28 => ?_) (fun c28 => ?_)
            · rw [if_neg c28] at hF
              refine lv_iload_n hx hb dX3_nextKind_33 rfl (lv_at hl 3 rfl) ?_
              refine lv_iconst (v := 2) hx hb dX3_nextKind_34 (by decide) ?_
              refine lv_imul hx hb dX3_nextKind_35 ?_
              refine lv_iload hx hb dX3_nextKind_36 (lv_at hl 0 rfl) ?_
              refine lv_iadd hx hb dX3_nextKind_38 ?_
              refine lv_istore_n (lv' := [(2, .int ((x2_4 * (2 : Int32)) + r_20)), (4, .int r_20), (0, .ref a_self), (1, .int x1), (3, .int x3_4)]) hx hb dX3_nextKind_39 rfl hl (by decide) rfl (fun ls hl => ?_)
              refine lv_aload_n hx hb dX3_nextKind_40 rfl (lv_at hl 2 rfl) ?_
              refine va_get (D := D) (ci := 3) (v := .ref a_codes) (C := RX3) (T := TX3) (N := 13) hx hb hts hi3 hown hK.1 hW.1 0 rfl rfl 5 (by decide) hw0 (fun _ h9 => h9) rfl dX3_nextKind_41 ?_
              refine lv_iload_n hx hb dX3_nextKind_44 rfl (lv_at hl 3 rfl) ?_
              obtain ⟨g45, hF⟩ := gdI_some hF
              rcases in_lt3 g45 with y45 | y45 | y45
              · rw [y45] at hF
                refine ct_aald hx hb hK.1 hW.1 3 2 rfl rfl rfl g45 (b := a_codes_0_) (by rw [y45]; rfl) dX3_nextKind_45 ?_
                refine lv_iload_n hx hb dX3_nextKind_46 rfl (lv_at hl 0 rfl) ?_
                refine lv_iload_n hx hb dX3_nextKind_47 rfl (lv_at hl 4 rfl) ?_
                obtain ⟨r_48, e48, hF⟩ := bd1_some hF
                refine ctV (wn := [ob a_self 3 [Value.ref a_tape, Value.ref a_signs, Value.ref a_choices, Value.ref a_list, Value.ref a_order, Value.ref a_codes, Value.int m_tables, Value.int m_groups, Value.int m_kinds, Value.int m_zeroPower, Value.int m_position_20, Value.int m_faultNumber_20, Value.int m_faultPosition_20], ob a_tape 5 [Value.ref a_tape_values, Value.int m_tape_count], ia cI a_tape_values 1500 m_tape_values, ra cO a_codes 3 (va_up (va_up (va_up (fun _ => none) 0 (some a_codes_0_)) 1 (some a_codes_1_)) 2 (some a_codes_2_)), ob a_codes_0_ 0 [Value.ref a_codes_0__lengths, Value.ref a_codes_0__codes, Value.ref a_codes_0__counts, Value.ref a_codes_0__firsts, Value.ref a_codes_0__nexts, Value.int (m_codes_kinds 0), Value.int (m_codes_filled 0)], ia cI a_codes_0__lengths 258 (m_codes_lengths 0), ia cI a_codes_0__codes 258 (m_codes_codes 0), ia cI a_codes_0__counts 21 (m_codes_counts 0), ia cI a_codes_0__firsts 21 (m_codes_firsts 0), ob a_codes_1_ 0 [Value.ref a_codes_1__lengths, Value.ref a_codes_1__codes, Value.ref a_codes_1__counts, Value.ref a_codes_1__firsts, Value.ref a_codes_1__nexts, Value.int (m_codes_kinds 1), Value.int (m_codes_filled 1)], ia cI a_codes_1__lengths 258 (m_codes_lengths 1), ia cI a_codes_1__codes 258 (m_codes_codes 1), ia cI a_codes_1__counts 21 (m_codes_counts 1), ia cI a_codes_1__firsts 21 (m_codes_firsts 1), ob a_codes_2_ 0 [Value.ref a_codes_2__lengths, Value.ref a_codes_2__codes, Value.ref a_codes_2__counts, Value.ref a_codes_2__firsts, Value.ref a_codes_2__nexts, Value.int (m_codes_kinds 2), Value.int (m_codes_filled 2)], ia cI a_codes_2__lengths 258 (m_codes_lengths 2), ia cI a_codes_2__codes 258 (m_codes_codes 2), ia cI a_codes_2__counts 21 (m_codes_counts 2), ia cI a_codes_2__firsts 21 (m_codes_firsts 2)]) (r := (RX0, TX0, 7)) (As := [.int ((x2_4 * (2 : Int32)) + r_20), .int x3_4]) (rest := []) hx hb hml hown hts hK hW hA hl.1 (kCodes_kindOf l D cI cZ cO cG a_codes_0_ a_codes_0__lengths a_codes_0__codes a_codes_0__counts a_codes_0__firsts a_codes_0__nexts (m_codes_kinds 0) (m_codes_filled 0) (m_codes_lengths 0) (m_codes_codes 0) (m_codes_counts 0) (m_codes_firsts 0) ((x2_4 * (2 : Int32)) + r_20) x3_4 e48) (cwV 2 hts gX3_nextKind_X0_kindOf rfl rfl rfl (by decide +kernel) ⟨Nat.le_of_ble_eq_true rfl, Nat.le_of_ble_eq_true rfl⟩) 0 4 rfl rfl [4, 5, 6, 7, 8] [0, 1, 2, 3, 9, 10, 11, 12, 13, 14, 15, 16, 17, 18] 19 rfl rfl rfl rfl [ob a_self 3 [Value.ref a_tape, Value.ref a_signs, Value.ref a_choices, Value.ref a_list, Value.ref a_order, Value.ref a_codes, Value.int m_tables, Value.int m_groups, Value.int m_kinds, Value.int m_zeroPower, Value.int m_position_20, Value.int m_faultNumber_20, Value.int m_faultPosition_20], ob a_tape 5 [Value.ref a_tape_values, Value.int m_tape_count], ia cI a_tape_values 1500 m_tape_values, ra cO a_codes 3 (va_up (va_up (va_up (fun _ => none) 0 (some a_codes_0_)) 1 (some a_codes_1_)) 2 (some a_codes_2_)), ob a_codes_1_ 0 [Value.ref a_codes_1__lengths, Value.ref a_codes_1__codes, Value.ref a_codes_1__counts, Value.ref a_codes_1__firsts, Value.ref a_codes_1__nexts, Value.int (m_codes_kinds 1), Value.int (m_codes_filled 1)], ia cI a_codes_1__lengths 258 (m_codes_lengths 1), ia cI a_codes_1__codes 258 (m_codes_codes 1), ia cI a_codes_1__counts 21 (m_codes_counts 1), ia cI a_codes_1__firsts 21 (m_codes_firsts 1), ob a_codes_2_ 0 [Value.ref a_codes_2__lengths, Value.ref a_codes_2__codes, Value.ref a_codes_2__counts, Value.ref a_codes_2__firsts, Value.ref a_codes_2__nexts, Value.int (m_codes_kinds 2), Value.int (m_codes_filled 2)], ia cI a_codes_2__lengths 258 (m_codes_lengths 2), ia cI a_codes_2__codes 258 (m_codes_codes 2), ia cI a_codes_2__counts 21 (m_codes_counts 2), ia cI a_codes_2__firsts 21 (m_codes_firsts 2)] rfl rfl rfl rfl rfl (Nat.le_of_ble_eq_true rfl) rfl ⟨Nat.zero_le _, Nat.zero_le _⟩ dX3_nextKind_48 (fun H locs hW => ?_)
                refine lv_istore (lv' := [(5, .int r_48), (2, .int ((x2_4 * (2 : Int32)) + r_20)), (4, .int r_20), (0, .ref a_self), (1, .int x1), (3, .int x3_4)]) hx hb dX3_nextKind_51 hl (by decide) rfl (fun ls hl => ?_)
                refine lv_iload hx hb dX3_nextKind_53 (lv_at hl 0 rfl) ?_
                refine lv_iconst (v := (-1)) hx hb dX3_nextKind_55 (by decide) ?_
                refine lv_icmp_eq (tgt := 62) hx hb dX3_nextKind_56 (by decide) (fun c56 => ?_) (fun c56 => ?_)
                · rw [if_pos c56] at hF
                  refine lv_aload_n hx hb dX3_nextKind_62 rfl (lv_at hl 3 rfl) ?_
                  refine va_get (D := D) (ci := 3) (v := .ref a_codes) (C := RX3) (T := TX3) (N := 13) hx hb hts hi3 hown hK.1 hW.1 0 rfl rfl 5 (by decide) hw0 (fun _ h9 => h9) rfl dX3_nextKind_63 ?_
                  refine lv_iload_n hx hb dX3_nextKind_66 rfl (lv_at hl 4 rfl) ?_
                  obtain ⟨g67, hF⟩ := gdI_some hF
                  refine ct_aald hx hb hK.1 hW.1 3 2 rfl rfl rfl g67 (b := a_codes_0_) (by rw [y45]; rfl) dX3_nextKind_67 ?_
                  refine lv_iload_n hx hb dX3_nextKind_68 rfl (lv_at hl 1 rfl) ?_
                  refine lv_iload_n hx hb dX3_nextKind_69 rfl (lv_at hl 5 rfl) ?_
                  obtain ⟨r_70, e70, hF⟩ := bd1_some hF
                  refine ctV (wn := [ob a_self 3 [Value.ref a_tape, Value.ref a_signs, Value.ref a_choices, Value.ref a_list, Value.ref a_order, Value.ref a_codes, Value.int m_tables, Value.int m_groups, Value.int m_kinds, Value.int m_zeroPower, Value.int m_position_20, Value.int m_faultNumber_20, Value.int m_faultPosition_20], ob a_tape 5 [Value.ref a_tape_values, Value.int m_tape_count], ia cI a_tape_values 1500 m_tape_values, ra cO a_codes 3 (va_up (va_up (va_up (fun _ => none) 0 (some a_codes_0_)) 1 (some a_codes_1_)) 2 (some a_codes_2_)), ob a_codes_0_ 0 [Value.ref a_codes_0__lengths, Value.ref a_codes_0__codes, Value.ref a_codes_0__counts, Value.ref a_codes_0__firsts, Value.ref a_codes_0__nexts, Value.int (m_codes_kinds 0), Value.int (m_codes_filled 0)], ia cI a_codes_0__lengths 258 (m_codes_lengths 0), ia cI a_codes_0__codes 258 (m_codes_codes 0), ia cI a_codes_0__counts 21 (m_codes_counts 0), ia cI a_codes_0__firsts 21 (m_codes_firsts 0), ob a_codes_1_ 0 [Value.ref a_codes_1__lengths, Value.ref a_codes_1__codes, Value.ref a_codes_1__counts, Value.ref a_codes_1__firsts, Value.ref a_codes_1__nexts, Value.int (m_codes_kinds 1), Value.int (m_codes_filled 1)], ia cI a_codes_1__lengths 258 (m_codes_lengths 1), ia cI a_codes_1__codes 258 (m_codes_codes 1), ia cI a_codes_1__counts 21 (m_codes_counts 1), ia cI a_codes_1__firsts 21 (m_codes_firsts 1), ob a_codes_2_ 0 [Value.ref a_codes_2__lengths, Value.ref a_codes_2__codes, Value.ref a_codes_2__counts, Value.ref a_codes_2__firsts, Value.ref a_codes_2__nexts, Value.int (m_codes_kinds 2), Value.int (m_codes_filled 2)], ia cI a_codes_2__lengths 258 (m_codes_lengths 2), ia cI a_codes_2__codes 258 (m_codes_codes 2), ia cI a_codes_2__counts 21 (m_codes_counts 2), ia cI a_codes_2__firsts 21 (m_codes_firsts 2)]) (r := (RX0, TX0, 7)) (As := [.int ((x2_4 * (2 : Int32)) + r_20), .int x3_4]) (rest := []) hx hb hml hown hts hK hW hA hl.1 (kCodes_canBegin l D cI cZ cO cG a_codes_0_ a_codes_0__lengths a_codes_0__codes a_codes_0__counts a_codes_0__firsts a_codes_0__nexts (m_codes_kinds 0) (m_codes_filled 0) ((x2_4 * (2 : Int32)) + r_20) x3_4 e70) (cwV 2 hts gX3_nextKind_X0_canBegin rfl rfl rfl (by decide +kernel) ⟨Nat.le_of_ble_eq_true rfl, Nat.le_of_ble_eq_true rfl⟩) 0 4 rfl rfl [4] [0, 1, 2, 3, 5, 6, 7, 8, 9, 10, 11, 12, 13, 14, 15, 16, 17, 18] 19 rfl rfl rfl rfl [ob a_self 3 [Value.ref a_tape, Value.ref a_signs, Value.ref a_choices, Value.ref a_list, Value.ref a_order, Value.ref a_codes, Value.int m_tables, Value.int m_groups, Value.int m_kinds, Value.int m_zeroPower, Value.int m_position_20, Value.int m_faultNumber_20, Value.int m_faultPosition_20], ob a_tape 5 [Value.ref a_tape_values, Value.int m_tape_count], ia cI a_tape_values 1500 m_tape_values, ra cO a_codes 3 (va_up (va_up (va_up (fun _ => none) 0 (some a_codes_0_)) 1 (some a_codes_1_)) 2 (some a_codes_2_)), ia cI a_codes_0__lengths 258 (m_codes_lengths 0), ia cI a_codes_0__codes 258 (m_codes_codes 0), ia cI a_codes_0__counts 21 (m_codes_counts 0), ia cI a_codes_0__firsts 21 (m_codes_firsts 0), ob a_codes_1_ 0 [Value.ref a_codes_1__lengths, Value.ref a_codes_1__codes, Value.ref a_codes_1__counts, Value.ref a_codes_1__firsts, Value.ref a_codes_1__nexts, Value.int (m_codes_kinds 1), Value.int (m_codes_filled 1)], ia cI a_codes_1__lengths 258 (m_codes_lengths 1), ia cI a_codes_1__codes 258 (m_codes_codes 1), ia cI a_codes_1__counts 21 (m_codes_counts 1), ia cI a_codes_1__firsts 21 (m_codes_firsts 1), ob a_codes_2_ 0 [Value.ref a_codes_2__lengths, Value.ref a_codes_2__codes, Value.ref a_codes_2__counts, Value.ref a_codes_2__firsts, Value.ref a_codes_2__nexts, Value.int (m_codes_kinds 2), Value.int (m_codes_filled 2)], ia cI a_codes_2__lengths 258 (m_codes_lengths 2), ia cI a_codes_2__codes 258 (m_codes_codes 2), ia cI a_codes_2__counts 21 (m_codes_counts 2), ia cI a_codes_2__firsts 21 (m_codes_firsts 2)] rfl rfl rfl rfl rfl (Nat.le_of_ble_eq_true rfl) rfl ⟨Nat.zero_le _, Nat.zero_le _⟩ dX3_nextKind_70 (fun H locs hW => ?_)
                  refine lv_if_ne (tgt := 79) hx hb dX3_nextKind_73 (by decide) (fun c73 => ?_) (fun c73 => ?_)
                  · rw [if_neg c73] at hF
                    refine lv_iinc (v := (x3_4 + 1)) (lv' := [(3, .int (x3_4 + 1)), (5, .int r_48), (2, .int ((x2_4 * (2 : Int32)) + r_20)), (4, .int r_20), (0, .ref a_self), (1, .int x1)]) hx hb dX3_nextKind_79 hl (k := 5) rfl rfl (by decide) rfl (fun ls hl => ?_)
                    refine lv_goto (tgt := 4) hx hb dX3_nextKind_82 (by decide) ?_
                    cases hF
                    exact ih4 _ _ _ _ _ (itr_in hN4) _ _ hW _ (lv_sub hl [4, 5, 2, 0] rfl)
                  · rw [if_pos c73] at hF
                    refine lv_goto (tgt := 85) hx hb dX3_nextKind_76 (by decide) ?_
                    cases hF
                    exact hX4 _ _ _ (itr_out hN4) _ _ hW _ (lv_sub hl [3] rfl)
                · rw [if_neg c56] at hF
                  refine lv_iload hx hb dX3_nextKind_59 (lv_at hl 0 rfl) ?_
                  cases hF
                  have hq0 := itr_out hN4
                  subst hq0
                  have hF := bs_inr hq4
                  cases hF
                  subst hQ
                  exact ct_iret hx hb hr hlocks hW.1 hW.2.2 dX3_nextKind_61
              · rw [y45] at hF
                refine ct_aald hx hb hK.1 hW.1 3 2 rfl rfl rfl g45 (b := a_codes_1_) (by rw [y45]; rfl) dX3_nextKind_45 ?_
                refine lv_iload_n hx hb dX3_nextKind_46 rfl (lv_at hl 0 rfl) ?_
                refine lv_iload_n hx hb dX3_nextKind_47 rfl (lv_at hl 4 rfl) ?_
                obtain ⟨r_48, e48, hF⟩ := bd1_some hF
                refine ctV (wn := [ob a_self 3 [Value.ref a_tape, Value.ref a_signs, Value.ref a_choices, Value.ref a_list, Value.ref a_order, Value.ref a_codes, Value.int m_tables, Value.int m_groups, Value.int m_kinds, Value.int m_zeroPower, Value.int m_position_20, Value.int m_faultNumber_20, Value.int m_faultPosition_20], ob a_tape 5 [Value.ref a_tape_values, Value.int m_tape_count], ia cI a_tape_values 1500 m_tape_values, ra cO a_codes 3 (va_up (va_up (va_up (fun _ => none) 0 (some a_codes_0_)) 1 (some a_codes_1_)) 2 (some a_codes_2_)), ob a_codes_0_ 0 [Value.ref a_codes_0__lengths, Value.ref a_codes_0__codes, Value.ref a_codes_0__counts, Value.ref a_codes_0__firsts, Value.ref a_codes_0__nexts, Value.int (m_codes_kinds 0), Value.int (m_codes_filled 0)], ia cI a_codes_0__lengths 258 (m_codes_lengths 0), ia cI a_codes_0__codes 258 (m_codes_codes 0), ia cI a_codes_0__counts 21 (m_codes_counts 0), ia cI a_codes_0__firsts 21 (m_codes_firsts 0), ob a_codes_1_ 0 [Value.ref a_codes_1__lengths, Value.ref a_codes_1__codes, Value.ref a_codes_1__counts, Value.ref a_codes_1__firsts, Value.ref a_codes_1__nexts, Value.int (m_codes_kinds 1), Value.int (m_codes_filled 1)], ia cI a_codes_1__lengths 258 (m_codes_lengths 1), ia cI a_codes_1__codes 258 (m_codes_codes 1), ia cI a_codes_1__counts 21 (m_codes_counts 1), ia cI a_codes_1__firsts 21 (m_codes_firsts 1), ob a_codes_2_ 0 [Value.ref a_codes_2__lengths, Value.ref a_codes_2__codes, Value.ref a_codes_2__counts, Value.ref a_codes_2__firsts, Value.ref a_codes_2__nexts, Value.int (m_codes_kinds 2), Value.int (m_codes_filled 2)], ia cI a_codes_2__lengths 258 (m_codes_lengths 2), ia cI a_codes_2__codes 258 (m_codes_codes 2), ia cI a_codes_2__counts 21 (m_codes_counts 2), ia cI a_codes_2__firsts 21 (m_codes_firsts 2)]) (r := (RX0, TX0, 7)) (As := [.int ((x2_4 * (2 : Int32)) + r_20), .int x3_4]) (rest := []) hx hb hml hown hts hK hW hA hl.1 (kCodes_kindOf l D cI cZ cO cG a_codes_1_ a_codes_1__lengths a_codes_1__codes a_codes_1__counts a_codes_1__firsts a_codes_1__nexts (m_codes_kinds 1) (m_codes_filled 1) (m_codes_lengths 1) (m_codes_codes 1) (m_codes_counts 1) (m_codes_firsts 1) ((x2_4 * (2 : Int32)) + r_20) x3_4 e48) (cwV 2 hts gX3_nextKind_X0_kindOf rfl rfl rfl (by decide +kernel) ⟨Nat.le_of_ble_eq_true rfl, Nat.le_of_ble_eq_true rfl⟩) 0 9 rfl rfl [9, 10, 11, 12, 13] [0, 1, 2, 3, 4, 5, 6, 7, 8, 14, 15, 16, 17, 18] 19 rfl rfl rfl rfl [ob a_self 3 [Value.ref a_tape, Value.ref a_signs, Value.ref a_choices, Value.ref a_list, Value.ref a_order, Value.ref a_codes, Value.int m_tables, Value.int m_groups, Value.int m_kinds, Value.int m_zeroPower, Value.int m_position_20, Value.int m_faultNumber_20, Value.int m_faultPosition_20], ob a_tape 5 [Value.ref a_tape_values, Value.int m_tape_count], ia cI a_tape_values 1500 m_tape_values, ra cO a_codes 3 (va_up (va_up (va_up (fun _ => none) 0 (some a_codes_0_)) 1 (some a_codes_1_)) 2 (some a_codes_2_)), ob a_codes_0_ 0 [Value.ref a_codes_0__lengths, Value.ref a_codes_0__codes, Value.ref a_codes_0__counts, Value.ref a_codes_0__firsts, Value.ref a_codes_0__nexts, Value.int (m_codes_kinds 0), Value.int (m_codes_filled 0)], ia cI a_codes_0__lengths 258 (m_codes_lengths 0), ia cI a_codes_0__codes 258 (m_codes_codes 0), ia cI a_codes_0__counts 21 (m_codes_counts 0), ia cI a_codes_0__firsts 21 (m_codes_firsts 0), ob a_codes_2_ 0 [Value.ref a_codes_2__lengths, Value.ref a_codes_2__codes, Value.ref a_codes_2__counts, Value.ref a_codes_2__firsts, Value.ref a_codes_2__nexts, Value.int (m_codes_kinds 2), Value.int (m_codes_filled 2)], ia cI a_codes_2__lengths 258 (m_codes_lengths 2), ia cI a_codes_2__codes 258 (m_codes_codes 2), ia cI a_codes_2__counts 21 (m_codes_counts 2), ia cI a_codes_2__firsts 21 (m_codes_firsts 2)] rfl rfl rfl rfl rfl (Nat.le_of_ble_eq_true rfl) rfl ⟨Nat.zero_le _, Nat.zero_le _⟩ dX3_nextKind_48 (fun H locs hW => ?_)
                refine lv_istore (lv' := [(5, .int r_48), (2, .int ((x2_4 * (2 : Int32)) + r_20)), (4, .int r_20), (0, .ref a_self), (1, .int x1), (3, .int x3_4)]) hx hb dX3_nextKind_51 hl (by decide) rfl (fun ls hl => ?_)
                refine lv_iload hx hb dX3_nextKind_53 (lv_at hl 0 rfl) ?_
                refine lv_iconst (v := (-1)) hx hb dX3_nextKind_55 (by decide) ?_
                refine lv_icmp_eq (tgt := 62) hx hb dX3_nextKind_56 (by decide) (fun c56 => ?_) (fun c56 => ?_)
                · rw [if_pos c56] at hF
                  refine lv_aload_n hx hb dX3_nextKind_62 rfl (lv_at hl 3 rfl) ?_
                  refine va_get (D := D) (ci := 3) (v := .ref a_codes) (C := RX3) (T := TX3) (N := 13) hx hb hts hi3 hown hK.1 hW.1 0 rfl rfl 5 (by decide) hw0 (fun _ h9 => h9) rfl dX3_nextKind_63 ?_
                  refine lv_iload_n hx hb dX3_nextKind_66 rfl (lv_at hl 4 rfl) ?_
                  obtain ⟨g67, hF⟩ := gdI_some hF
                  refine ct_aald hx hb hK.1 hW.1 3 2 rfl rfl rfl g67 (b := a_codes_1_) (by rw [y45]; rfl) dX3_nextKind_67 ?_
                  refine lv_iload_n hx hb dX3_nextKind_68 rfl (lv_at hl 1 rfl) ?_
                  refine lv_iload_n hx hb dX3_nextKind_69 rfl (lv_at hl 5 rfl) ?_
                  obtain ⟨r_70, e70, hF⟩ := bd1_some hF
                  refine ctV (wn := [ob a_self 3 [Value.ref a_tape, Value.ref a_signs, Value.ref a_choices, Value.ref a_list, Value.ref a_order, Value.ref a_codes, Value.int m_tables, Value.int m_groups, Value.int m_kinds, Value.int m_zeroPower, Value.int m_position_20, Value.int m_faultNumber_20, Value.int m_faultPosition_20], ob a_tape 5 [Value.ref a_tape_values, Value.int m_tape_count], ia cI a_tape_values 1500 m_tape_values, ra cO a_codes 3 (va_up (va_up (va_up (fun _ => none) 0 (some a_codes_0_)) 1 (some a_codes_1_)) 2 (some a_codes_2_)), ob a_codes_0_ 0 [Value.ref a_codes_0__lengths, Value.ref a_codes_0__codes, Value.ref a_codes_0__counts, Value.ref a_codes_0__firsts, Value.ref a_codes_0__nexts, Value.int (m_codes_kinds 0), Value.int (m_codes_filled 0)], ia cI a_codes_0__lengths 258 (m_codes_lengths 0), ia cI a_codes_0__codes 258 (m_codes_codes 0), ia cI a_codes_0__counts 21 (m_codes_counts 0), ia cI a_codes_0__firsts 21 (m_codes_firsts 0), ob a_codes_1_ 0 [Value.ref a_codes_1__lengths, Value.ref a_codes_1__codes, Value.ref a_codes_1__counts, Value.ref a_codes_1__firsts, Value.ref a_codes_1__nexts, Value.int (m_codes_kinds 1), Value.int (m_codes_filled 1)], ia cI a_codes_1__lengths 258 (m_codes_lengths 1), ia cI a_codes_1__codes 258 (m_codes_codes 1), ia cI a_codes_1__counts 21 (m_codes_counts 1), ia cI a_codes_1__firsts 21 (m_codes_firsts 1), ob a_codes_2_ 0 [Value.ref a_codes_2__lengths, Value.ref a_codes_2__codes, Value.ref a_codes_2__counts, Value.ref a_codes_2__firsts, Value.ref a_codes_2__nexts, Value.int (m_codes_kinds 2), Value.int (m_codes_filled 2)], ia cI a_codes_2__lengths 258 (m_codes_lengths 2), ia cI a_codes_2__codes 258 (m_codes_codes 2), ia cI a_codes_2__counts 21 (m_codes_counts 2), ia cI a_codes_2__firsts 21 (m_codes_firsts 2)]) (r := (RX0, TX0, 7)) (As := [.int ((x2_4 * (2 : Int32)) + r_20), .int x3_4]) (rest := []) hx hb hml hown hts hK hW hA hl.1 (kCodes_canBegin l D cI cZ cO cG a_codes_1_ a_codes_1__lengths a_codes_1__codes a_codes_1__counts a_codes_1__firsts a_codes_1__nexts (m_codes_kinds 1) (m_codes_filled 1) ((x2_4 * (2 : Int32)) + r_20) x3_4 e70) (cwV 2 hts gX3_nextKind_X0_canBegin rfl rfl rfl (by decide +kernel) ⟨Nat.le_of_ble_eq_true rfl, Nat.le_of_ble_eq_true rfl⟩) 0 9 rfl rfl [9] [0, 1, 2, 3, 4, 5, 6, 7, 8, 10, 11, 12, 13, 14, 15, 16, 17, 18] 19 rfl rfl rfl rfl [ob a_self 3 [Value.ref a_tape, Value.ref a_signs, Value.ref a_choices, Value.ref a_list, Value.ref a_order, Value.ref a_codes, Value.int m_tables, Value.int m_groups, Value.int m_kinds, Value.int m_zeroPower, Value.int m_position_20, Value.int m_faultNumber_20, Value.int m_faultPosition_20], ob a_tape 5 [Value.ref a_tape_values, Value.int m_tape_count], ia cI a_tape_values 1500 m_tape_values, ra cO a_codes 3 (va_up (va_up (va_up (fun _ => none) 0 (some a_codes_0_)) 1 (some a_codes_1_)) 2 (some a_codes_2_)), ob a_codes_0_ 0 [Value.ref a_codes_0__lengths, Value.ref a_codes_0__codes, Value.ref a_codes_0__counts, Value.ref a_codes_0__firsts, Value.ref a_codes_0__nexts, Value.int (m_codes_kinds 0), Value.int (m_codes_filled 0)], ia cI a_codes_0__lengths 258 (m_codes_lengths 0), ia cI a_codes_0__codes 258 (m_codes_codes 0), ia cI a_codes_0__counts 21 (m_codes_counts 0), ia cI a_codes_0__firsts 21 (m_codes_firsts 0), ia cI a_codes_1__lengths 258 (m_codes_lengths 1), ia cI a_codes_1__codes 258 (m_codes_codes 1), ia cI a_codes_1__counts 21 (m_codes_counts 1), ia cI a_codes_1__firsts 21 (m_codes_firsts 1), ob a_codes_2_ 0 [Value.ref a_codes_2__lengths, Value.ref a_codes_2__codes, Value.ref a_codes_2__counts, Value.ref a_codes_2__firsts, Value.ref a_codes_2__nexts, Value.int (m_codes_kinds 2), Value.int (m_codes_filled 2)], ia cI a_codes_2__lengths 258 (m_codes_lengths 2), ia cI a_codes_2__codes 258 (m_codes_codes 2), ia cI a_codes_2__counts 21 (m_codes_counts 2), ia cI a_codes_2__firsts 21 (m_codes_firsts 2)] rfl rfl rfl rfl rfl (Nat.le_of_ble_eq_true rfl) rfl ⟨Nat.zero_le _, Nat.zero_le _⟩ dX3_nextKind_70 (fun H locs hW => ?_)
                  refine lv_if_ne (tgt := 79) hx hb dX3_nextKind_73 (by decide) (fun c73 => ?_) (fun c73 => ?_)
                  · rw [if_neg c73] at hF
                    refine lv_iinc (v := (x3_4 + 1)) (lv' := [(3, .int (x3_4 + 1)), (5, .int r_48), (2, .int ((x2_4 * (2 : Int32)) + r_20)), (4, .int r_20), (0, .ref a_self), (1, .int x1)]) hx hb dX3_nextKind_79 hl (k := 5) rfl rfl (by decide) rfl (fun ls hl => ?_)
                    refine lv_goto (tgt := 4) hx hb dX3_nextKind_82 (by decide) ?_
                    cases hF
                    exact ih4 _ _ _ _ _ (itr_in hN4) _ _ hW _ (lv_sub hl [4, 5, 2, 0] rfl)
                  · rw [if_pos c73] at hF
                    refine lv_goto (tgt := 85) hx hb dX3_nextKind_76 (by decide) ?_
                    cases hF
                    exact hX4 _ _ _ (itr_out hN4) _ _ hW _ (lv_sub hl [3] rfl)
                · rw [if_neg c56] at hF
                  refine lv_iload hx hb dX3_nextKind_59 (lv_at hl 0 rfl) ?_
                  cases hF
                  have hq0 := itr_out hN4
                  subst hq0
                  have hF := bs_inr hq4
                  cases hF
                  subst hQ
                  exact ct_iret hx hb hr hlocks hW.1 hW.2.2 dX3_nextKind_61
              · rw [y45] at hF
                refine ct_aald hx hb hK.1 hW.1 3 2 rfl rfl rfl g45 (b := a_codes_2_) (by rw [y45]; rfl) dX3_nextKind_45 ?_
                refine lv_iload_n hx hb dX3_nextKind_46 rfl (lv_at hl 0 rfl) ?_
                refine lv_iload_n hx hb dX3_nextKind_47 rfl (lv_at hl 4 rfl) ?_
                obtain ⟨r_48, e48, hF⟩ := bd1_some hF
                refine ctV (wn := [ob a_self 3 [Value.ref a_tape, Value.ref a_signs, Value.ref a_choices, Value.ref a_list, Value.ref a_order, Value.ref a_codes, Value.int m_tables, Value.int m_groups, Value.int m_kinds, Value.int m_zeroPower, Value.int m_position_20, Value.int m_faultNumber_20, Value.int m_faultPosition_20], ob a_tape 5 [Value.ref a_tape_values, Value.int m_tape_count], ia cI a_tape_values 1500 m_tape_values, ra cO a_codes 3 (va_up (va_up (va_up (fun _ => none) 0 (some a_codes_0_)) 1 (some a_codes_1_)) 2 (some a_codes_2_)), ob a_codes_0_ 0 [Value.ref a_codes_0__lengths, Value.ref a_codes_0__codes, Value.ref a_codes_0__counts, Value.ref a_codes_0__firsts, Value.ref a_codes_0__nexts, Value.int (m_codes_kinds 0), Value.int (m_codes_filled 0)], ia cI a_codes_0__lengths 258 (m_codes_lengths 0), ia cI a_codes_0__codes 258 (m_codes_codes 0), ia cI a_codes_0__counts 21 (m_codes_counts 0), ia cI a_codes_0__firsts 21 (m_codes_firsts 0), ob a_codes_1_ 0 [Value.ref a_codes_1__lengths, Value.ref a_codes_1__codes, Value.ref a_codes_1__counts, Value.ref a_codes_1__firsts, Value.ref a_codes_1__nexts, Value.int (m_codes_kinds 1), Value.int (m_codes_filled 1)], ia cI a_codes_1__lengths 258 (m_codes_lengths 1), ia cI a_codes_1__codes 258 (m_codes_codes 1), ia cI a_codes_1__counts 21 (m_codes_counts 1), ia cI a_codes_1__firsts 21 (m_codes_firsts 1), ob a_codes_2_ 0 [Value.ref a_codes_2__lengths, Value.ref a_codes_2__codes, Value.ref a_codes_2__counts, Value.ref a_codes_2__firsts, Value.ref a_codes_2__nexts, Value.int (m_codes_kinds 2), Value.int (m_codes_filled 2)], ia cI a_codes_2__lengths 258 (m_codes_lengths 2), ia cI a_codes_2__codes 258 (m_codes_codes 2), ia cI a_codes_2__counts 21 (m_codes_counts 2), ia cI a_codes_2__firsts 21 (m_codes_firsts 2)]) (r := (RX0, TX0, 7)) (As := [.int ((x2_4 * (2 : Int32)) + r_20), .int x3_4]) (rest := []) hx hb hml hown hts hK hW hA hl.1 (kCodes_kindOf l D cI cZ cO cG a_codes_2_ a_codes_2__lengths a_codes_2__codes a_codes_2__counts a_codes_2__firsts a_codes_2__nexts (m_codes_kinds 2) (m_codes_filled 2) (m_codes_lengths 2) (m_codes_codes 2) (m_codes_counts 2) (m_codes_firsts 2) ((x2_4 * (2 : Int32)) + r_20) x3_4 e48) (cwV 2 hts gX3_nextKind_X0_kindOf rfl rfl rfl (by decide +kernel) ⟨Nat.le_of_ble_eq_true rfl, Nat.le_of_ble_eq_true rfl⟩) 0 14 rfl rfl [14, 15, 16, 17, 18] [0, 1, 2, 3, 4, 5, 6, 7, 8, 9, 10, 11, 12, 13] 19 rfl rfl rfl rfl [ob a_self 3 [Value.ref a_tape, Value.ref a_signs, Value.ref a_choices, Value.ref a_list, Value.ref a_order, Value.ref a_codes, Value.int m_tables, Value.int m_groups, Value.int m_kinds, Value.int m_zeroPower, Value.int m_position_20, Value.int m_faultNumber_20, Value.int m_faultPosition_20], ob a_tape 5 [Value.ref a_tape_values, Value.int m_tape_count], ia cI a_tape_values 1500 m_tape_values, ra cO a_codes 3 (va_up (va_up (va_up (fun _ => none) 0 (some a_codes_0_)) 1 (some a_codes_1_)) 2 (some a_codes_2_)), ob a_codes_0_ 0 [Value.ref a_codes_0__lengths, Value.ref a_codes_0__codes, Value.ref a_codes_0__counts, Value.ref a_codes_0__firsts, Value.ref a_codes_0__nexts, Value.int (m_codes_kinds 0), Value.int (m_codes_filled 0)], ia cI a_codes_0__lengths 258 (m_codes_lengths 0), ia cI a_codes_0__codes 258 (m_codes_codes 0), ia cI a_codes_0__counts 21 (m_codes_counts 0), ia cI a_codes_0__firsts 21 (m_codes_firsts 0), ob a_codes_1_ 0 [Value.ref a_codes_1__lengths, Value.ref a_codes_1__codes, Value.ref a_codes_1__counts, Value.ref a_codes_1__firsts, Value.ref a_codes_1__nexts, Value.int (m_codes_kinds 1), Value.int (m_codes_filled 1)], ia cI a_codes_1__lengths 258 (m_codes_lengths 1), ia cI a_codes_1__codes 258 (m_codes_codes 1), ia cI a_codes_1__counts 21 (m_codes_counts 1), ia cI a_codes_1__firsts 21 (m_codes_firsts 1)] rfl rfl rfl rfl rfl (Nat.le_of_ble_eq_true rfl) rfl ⟨Nat.zero_le _, Nat.zero_le _⟩ dX3_nextKind_48 (fun H locs hW => ?_)
                refine lv_istore (lv' := [(5, .int r_48), (2, .int ((x2_4 * (2 : Int32)) + r_20)), (4, .int r_20), (0, .ref a_self), (1, .int x1), (3, .int x3_4)]) hx hb dX3_nextKind_51 hl (by decide) rfl (fun ls hl => ?_)
                refine lv_iload hx hb dX3_nextKind_53 (lv_at hl 0 rfl) ?_
                refine lv_iconst (v := (-1)) hx hb dX3_nextKind_55 (by decide) ?_
                refine lv_icmp_eq (tgt := 62) hx hb dX3_nextKind_56 (by decide) (fun c56 => ?_) (fun c56 => ?_)
                · rw [if_pos c56] at hF
                  refine lv_aload_n hx hb dX3_nextKind_62 rfl (lv_at hl 3 rfl) ?_
                  refine va_get (D := D) (ci := 3) (v := .ref a_codes) (C := RX3) (T := TX3) (N := 13) hx hb hts hi3 hown hK.1 hW.1 0 rfl rfl 5 (by decide) hw0 (fun _ h9 => h9) rfl dX3_nextKind_63 ?_
                  refine lv_iload_n hx hb dX3_nextKind_66 rfl (lv_at hl 4 rfl) ?_
                  obtain ⟨g67, hF⟩ := gdI_some hF
                  refine ct_aald hx hb hK.1 hW.1 3 2 rfl rfl rfl g67 (b := a_codes_2_) (by rw [y45]; rfl) dX3_nextKind_67 ?_
                  refine lv_iload_n hx hb dX3_nextKind_68 rfl (lv_at hl 1 rfl) ?_
                  refine lv_iload_n hx hb dX3_nextKind_69 rfl (lv_at hl 5 rfl) ?_
                  obtain ⟨r_70, e70, hF⟩ := bd1_some hF
                  refine ctV (wn := [ob a_self 3 [Value.ref a_tape, Value.ref a_signs, Value.ref a_choices, Value.ref a_list, Value.ref a_order, Value.ref a_codes, Value.int m_tables, Value.int m_groups, Value.int m_kinds, Value.int m_zeroPower, Value.int m_position_20, Value.int m_faultNumber_20, Value.int m_faultPosition_20], ob a_tape 5 [Value.ref a_tape_values, Value.int m_tape_count], ia cI a_tape_values 1500 m_tape_values, ra cO a_codes 3 (va_up (va_up (va_up (fun _ => none) 0 (some a_codes_0_)) 1 (some a_codes_1_)) 2 (some a_codes_2_)), ob a_codes_0_ 0 [Value.ref a_codes_0__lengths, Value.ref a_codes_0__codes, Value.ref a_codes_0__counts, Value.ref a_codes_0__firsts, Value.ref a_codes_0__nexts, Value.int (m_codes_kinds 0), Value.int (m_codes_filled 0)], ia cI a_codes_0__lengths 258 (m_codes_lengths 0), ia cI a_codes_0__codes 258 (m_codes_codes 0), ia cI a_codes_0__counts 21 (m_codes_counts 0), ia cI a_codes_0__firsts 21 (m_codes_firsts 0), ob a_codes_1_ 0 [Value.ref a_codes_1__lengths, Value.ref a_codes_1__codes, Value.ref a_codes_1__counts, Value.ref a_codes_1__firsts, Value.ref a_codes_1__nexts, Value.int (m_codes_kinds 1), Value.int (m_codes_filled 1)], ia cI a_codes_1__lengths 258 (m_codes_lengths 1), ia cI a_codes_1__codes 258 (m_codes_codes 1), ia cI a_codes_1__counts 21 (m_codes_counts 1), ia cI a_codes_1__firsts 21 (m_codes_firsts 1), ob a_codes_2_ 0 [Value.ref a_codes_2__lengths, Value.ref a_codes_2__codes, Value.ref a_codes_2__counts, Value.ref a_codes_2__firsts, Value.ref a_codes_2__nexts, Value.int (m_codes_kinds 2), Value.int (m_codes_filled 2)], ia cI a_codes_2__lengths 258 (m_codes_lengths 2), ia cI a_codes_2__codes 258 (m_codes_codes 2), ia cI a_codes_2__counts 21 (m_codes_counts 2), ia cI a_codes_2__firsts 21 (m_codes_firsts 2)]) (r := (RX0, TX0, 7)) (As := [.int ((x2_4 * (2 : Int32)) + r_20), .int x3_4]) (rest := []) hx hb hml hown hts hK hW hA hl.1 (kCodes_canBegin l D cI cZ cO cG a_codes_2_ a_codes_2__lengths a_codes_2__codes a_codes_2__counts a_codes_2__firsts a_codes_2__nexts (m_codes_kinds 2) (m_codes_filled 2) ((x2_4 * (2 : Int32)) + r_20) x3_4 e70) (cwV 2 hts gX3_nextKind_X0_canBegin rfl rfl rfl (by decide +kernel) ⟨Nat.le_of_ble_eq_true rfl, Nat.le_of_ble_eq_true rfl⟩) 0 14 rfl rfl [14] [0, 1, 2, 3, 4, 5, 6, 7, 8, 9, 10, 11, 12, 13, 15, 16, 17, 18] 19 rfl rfl rfl rfl [ob a_self 3 [Value.ref a_tape, Value.ref a_signs, Value.ref a_choices, Value.ref a_list, Value.ref a_order, Value.ref a_codes, Value.int m_tables, Value.int m_groups, Value.int m_kinds, Value.int m_zeroPower, Value.int m_position_20, Value.int m_faultNumber_20, Value.int m_faultPosition_20], ob a_tape 5 [Value.ref a_tape_values, Value.int m_tape_count], ia cI a_tape_values 1500 m_tape_values, ra cO a_codes 3 (va_up (va_up (va_up (fun _ => none) 0 (some a_codes_0_)) 1 (some a_codes_1_)) 2 (some a_codes_2_)), ob a_codes_0_ 0 [Value.ref a_codes_0__lengths, Value.ref a_codes_0__codes, Value.ref a_codes_0__counts, Value.ref a_codes_0__firsts, Value.ref a_codes_0__nexts, Value.int (m_codes_kinds 0), Value.int (m_codes_filled 0)], ia cI a_codes_0__lengths 258 (m_codes_lengths 0), ia cI a_codes_0__codes 258 (m_codes_codes 0), ia cI a_codes_0__counts 21 (m_codes_counts 0), ia cI a_codes_0__firsts 21 (m_codes_firsts 0), ob a_codes_1_ 0 [Value.ref a_codes_1__lengths, Value.ref a_codes_1__codes, Value.ref a_codes_1__counts, Value.ref a_codes_1__firsts, Value.ref a_codes_1__nexts, Value.int (m_codes_kinds 1), Value.int (m_codes_filled 1)], ia cI a_codes_1__lengths 258 (m_codes_lengths 1), ia cI a_codes_1__codes 258 (m_codes_codes 1), ia cI a_codes_1__counts 21 (m_codes_counts 1), ia cI a_codes_1__firsts 21 (m_codes_firsts 1), ia cI a_codes_2__lengths 258 (m_codes_lengths 2), ia cI a_codes_2__codes 258 (m_codes_codes 2), ia cI a_codes_2__counts 21 (m_codes_counts 2), ia cI a_codes_2__firsts 21 (m_codes_firsts 2)] rfl rfl rfl rfl rfl (Nat.le_of_ble_eq_true rfl) rfl ⟨Nat.zero_le _, Nat.zero_le _⟩ dX3_nextKind_70 (fun H locs hW => ?_)
                  refine lv_if_ne (tgt := 79) hx hb dX3_nextKind_73 (by decide) (fun c73 => ?_) (fun c73 => ?_)
                  · rw [if_neg c73] at hF
                    refine lv_iinc (v := (x3_4 + 1)) (lv' := [(3, .int (x3_4 + 1)), (5, .int r_48), (2, .int ((x2_4 * (2 : Int32)) + r_20)), (4, .int r_20), (0, .ref a_self), (1, .int x1)]) hx hb dX3_nextKind_79 hl (k := 5) rfl rfl (by decide) rfl (fun ls hl => ?_)
                    refine lv_goto (tgt := 4) hx hb dX3_nextKind_82 (by decide) ?_
                    cases hF
                    exact ih4 _ _ _ _ _ (itr_in hN4) _ _ hW _ (lv_sub hl [4, 5, 2, 0] rfl)
                  · rw [if_pos c73] at hF
                    refine lv_goto (tgt := 85) hx hb dX3_nextKind_76 (by decide) ?_
                    cases hF
                    exact hX4 _ _ _ (itr_out hN4) _ _ hW _ (lv_sub hl [3] rfl)
                · rw [if_neg c56] at hF
                  refine lv_iload hx hb dX3_nextKind_59 (lv_at hl 0 rfl) ?_
                  cases hF
                  have hq0 := itr_out hN4
                  subst hq0
                  have hF := bs_inr hq4
                  cases hF
                  subst hQ
                  exact ct_iret hx hb hr hlocks hW.1 hW.2.2 dX3_nextKind_61
            · rw [if_pos c28] at hF
              refine lv_iconst (v := (-1)) hx hb dX3_nextKind_31 (by decide) ?_
              cases hF
              have hq0 := itr_out hN4
              subst hq0
              have hF := bs_inr hq4
              cases hF
              subst hQ
              exact ct_iret hx hb hr hlocks hW.1 hW.2.2 dX3_nextKind_32
  exact hL4 nn _ _ _ _ _ hI _ _ hW _ (lv_sub hl [2, 3, 1, 0] rfl)
abbrev rmReader_readEnd : Room := { frames := 1, cells := 0, slots := 0, locals := 21 }
set_option maxHeartbeats 4000000 in
set_option maxRecDepth 100000 in
theorem kReader_readEnd (l : Launch) (D : va_G) (cI cZ cO cG : ClassId) (a_self : Nat) (a_tape : Nat) (a_signs : Nat) (a_choices : Nat) (a_list : Nat) (a_order : Nat) (a_codes : Nat) (a_tape_values : Nat) (a_signs_values : Nat) (m_tables : Int32) (m_groups : Int32) (m_kinds : Int32) (m_zeroPower : Int32) (m_position : Int32) (m_faultNumber : Int32) (m_faultPosition : Int32) (m_tape_count : Int32) (m_signs_count : Int32) (x1 : Int32) {rv : Int32} {m_faultNumber' : Int32} {m_faultPosition' : Int32} (hF : fReader_readEnd m_groups m_position m_faultNumber m_faultPosition m_tape_count m_signs_count x1 = some (rv, m_faultNumber', m_faultPosition')) : CT l yX3_readEnd wsX3_readEnd rmReader_readEnd D (tysG cI cZ cO cG) [.ref a_self, .int x1] [ob a_self 3 [Value.ref a_tape, Value.ref a_signs, Value.ref a_choices, Value.ref a_list, Value.ref a_order, Value.ref a_codes, Value.int m_tables, Value.int m_groups, Value.int m_kinds, Value.int m_zeroPower, Value.int m_position, Value.int m_faultNumber, Value.int m_faultPosition], ob a_tape 5 [Value.ref a_tape_values, Value.int m_tape_count], ob a_signs 5 [Value.ref a_signs_values, Value.int m_signs_count]] (some (.int rv)) [ob a_self 3 [Value.ref a_tape, Value.ref a_signs, Value.ref a_choices, Value.ref a_list, Value.ref a_order, Value.ref a_codes, Value.int m_tables, Value.int m_groups, Value.int m_kinds, Value.int m_zeroPower, Value.int m_position, Value.int m_faultNumber', Value.int m_faultPosition'], ob a_tape 5 [Value.ref a_tape_values, Value.int m_tape_count], ob a_signs 5 [Value.ref a_signs_values, Value.int m_signs_count]] := by
  refine CT.of (cc := cX3_readEnd) (maxL := 2) (ret := (some .boolean)) (by decide) rfl (Nat.le_of_ble_eq_true rfl) ?_
  intro p e s m below meth c A ls hx hb hr hml hts hown hlocks hK hA hP hD hS hl
  generalize hargs : ([.ref a_self, .int x1] : List Value).toArray = args at hts ⊢
  generalize hQ : MQ below (ctQ D (some (.int rv)) [ob a_self 3 [Value.ref a_tape, Value.ref a_signs, Value.ref a_choices, Value.ref a_list, Value.ref a_order, Value.ref a_codes, Value.int m_tables, Value.int m_groups, Value.int m_kinds, Value.int m_zeroPower, Value.int m_position, Value.int m_faultNumber', Value.int m_faultPosition'], ob a_tape 5 [Value.ref a_tape_values, Value.int m_tape_count], ob a_signs 5 [Value.ref a_signs_values, Value.int m_signs_count]] A) args s 0 0 A = Q
  have hl : lv_has ls 2 [(0, .ref a_self), (1, .int x1)] := hl
  have hW : WS D A s [ob a_self 3 [Value.ref a_tape, Value.ref a_signs, Value.ref a_choices, Value.ref a_list, Value.ref a_order, Value.ref a_codes, Value.int m_tables, Value.int m_groups, Value.int m_kinds, Value.int m_zeroPower, Value.int m_position, Value.int m_faultNumber, Value.int m_faultPosition], ob a_tape 5 [Value.ref a_tape_values, Value.int m_tape_count], ob a_signs 5 [Value.ref a_signs_values, Value.int m_signs_count]] s.heap [] := ⟨hP, hD, hS⟩
  clear hP hD hS
  unfold fReader_readEnd at hF
  have hw0 := hts (Cond.fieldLink RX3 20 "MoveFronts$Reader" "signs" "LMoveFronts$Row;") (by decide +kernel)
  have hw1 := hts (Cond.initialized RX8) (by decide +kernel)
  have hw2 := hts (Cond.static yX8_groupsFor) (by decide +kernel)
  have hw3 := hts (Cond.fieldLink RX3 49 "MoveFronts$Reader" "groups" "I") (by decide +kernel)
  have hw4 := hts (Cond.fieldLink RX3 58 "MoveFronts$Reader" "position" "I") (by decide +kernel)
  have hw5 := hts (Cond.fieldLink RX3 9 "MoveFronts$Reader" "tape" "LMoveFronts$Row;") (by decide +kernel)
  have hi3 : ∀ w ∈ u_ws RX3 TX3 13, w ∈ wsX3_readEnd := by decide +kernel
  refine lv_aload_n hx hb dX3_readEnd_0 rfl (lv_at hl 0 rfl) ?_
  refine va_get (D := D) (ci := 3) (v := .ref a_signs) (C := RX3) (T := TX3) (N := 13) hx hb hts hi3 hown hK.1 hW.1 0 rfl rfl 1 (by decide) hw0 (fun _ h9 => h9) rfl dX3_readEnd_1 ?_
  obtain ⟨r_4, e4, hF⟩ := bd1_some hF
  refine ctV (wn := [ob a_self 3 [Value.ref a_tape, Value.ref a_signs, Value.ref a_choices, Value.ref a_list, Value.ref a_order, Value.ref a_codes, Value.int m_tables, Value.int m_groups, Value.int m_kinds, Value.int m_zeroPower, Value.int m_position, Value.int m_faultNumber, Value.int m_faultPosition], ob a_tape 5 [Value.ref a_tape_values, Value.int m_tape_count], ob a_signs 5 [Value.ref a_signs_values, Value.int m_signs_count]]) (r := (RX5, TX5, 2)) (As := []) (rest := []) hx hb hml hown hts hK hW hA hl.1 (kRow_size l D cI cZ cO cG a_signs a_signs_values m_signs_count e4) (cwV 0 hts gX3_readEnd_X5_size rfl rfl rfl (by decide +kernel) ⟨Nat.le_of_ble_eq_true rfl, Nat.le_of_ble_eq_true rfl⟩) 5 2 rfl rfl [2] [0, 1] 3 rfl rfl rfl rfl [ob a_self 3 [Value.ref a_tape, Value.ref a_signs, Value.ref a_choices, Value.ref a_list, Value.ref a_order, Value.ref a_codes, Value.int m_tables, Value.int m_groups, Value.int m_kinds, Value.int m_zeroPower, Value.int m_position, Value.int m_faultNumber, Value.int m_faultPosition], ob a_tape 5 [Value.ref a_tape_values, Value.int m_tape_count]] rfl rfl rfl rfl rfl (Nat.le_of_ble_eq_true rfl) rfl ⟨Nat.zero_le _, Nat.zero_le _⟩ dX3_readEnd_4 (fun H locs hW => ?_)
  refine lv_if_ne (tgt := 17) hx hb dX3_readEnd_7 (by decide) (fun c7 => ?_) (fun c7 => ?_)
  · rw [if_neg c7] at hF
    refine lv_iload_n hx hb dX3_readEnd_17 rfl (lv_at hl 1 rfl) ?_
    obtain ⟨r_18, e18, hF⟩ := bd1_some hF
    refine ctSN (wn := [ob a_self 3 [Value.ref a_tape, Value.ref a_signs, Value.ref a_choices, Value.ref a_list, Value.ref a_order, Value.ref a_codes, Value.int m_tables, Value.int m_groups, Value.int m_kinds, Value.int m_zeroPower, Value.int m_position, Value.int m_faultNumber, Value.int m_faultPosition], ob a_tape 5 [Value.ref a_tape_values, Value.int m_tape_count], ob a_signs 5 [Value.ref a_signs_values, Value.int m_signs_count]]) (As := [.int x1]) (rest := []) hx hb hml hown hts hK hW hA hl.1 (kMF_groupsFor l D cI cZ cO cG x1 e18) ⟨va_cnB 1 hts gX3_readEnd_X8_groupsFor_n156 rfl rfl rfl (hK.2.2 ("MoveFronts$Reader", 156, ⟨"MoveFronts", "groupsFor", "(I)I"⟩, "MoveFronts") (by decide +kernel)) hw1 (by decide +kernel) ⟨Nat.le_of_ble_eq_true rfl, Nat.le_of_ble_eq_true rfl⟩, hw2, trivial⟩ [] [0, 1, 2] 3 rfl rfl rfl rfl [ob a_self 3 [Value.ref a_tape, Value.ref a_signs, Value.ref a_choices, Value.ref a_list, Value.ref a_order, Value.ref a_codes, Value.int m_tables, Value.int m_groups, Value.int m_kinds, Value.int m_zeroPower, Value.int m_position, Value.int m_faultNumber, Value.int m_faultPosition], ob a_tape 5 [Value.ref a_tape_values, Value.int m_tape_count], ob a_signs 5 [Value.ref a_signs_values, Value.int m_signs_count]] rfl rfl rfl rfl rfl (Nat.le_of_ble_eq_true rfl) rfl ⟨Nat.zero_le _, Nat.zero_le _⟩ dX3_readEnd_18 (fun H locs hW => ?_)
    refine lv_aload_n hx hb dX3_readEnd_21 rfl (lv_at hl 0 rfl) ?_
    refine va_get (D := D) (ci := 3) (v := .int m_groups) (C := RX3) (T := TX3) (N := 13) hx hb hts hi3 hown hK.1 hW.1 0 rfl rfl 7 (by decide) hw3 (fun _ h9 => h9) rfl dX3_readEnd_22 ?_
    refine lv_icmp_lt (tgt := 42) hx hb dX3_readEnd_25 (by decide) (fun c25 => ?_) (fun c25 => ?_)
    · rw [if_pos c25] at hF
      refine lv_aload_n hx hb dX3_readEnd_42 rfl (lv_at hl 0 rfl) ?_
      refine lv_bipush (v := 10) hx hb dX3_readEnd_43 (by decide) ?_
      obtain ⟨r_45, m_faultNumber_45, m_faultPosition_45, e45, hF⟩ := bd3_some hF
      refine ctV (wn := [ob a_self 3 [Value.ref a_tape, Value.ref a_signs, Value.ref a_choices, Value.ref a_list, Value.ref a_order, Value.ref a_codes, Value.int m_tables, Value.int m_groups, Value.int m_kinds, Value.int m_zeroPower, Value.int m_position, Value.int m_faultNumber_45, Value.int m_faultPosition_45], ob a_tape 5 [Value.ref a_tape_values, Value.int m_tape_count], ob a_signs 5 [Value.ref a_signs_values, Value.int m_signs_count]]) (r := (RX3, TX3, 13)) (As := [.int (10 : Int32)]) (rest := []) hx hb hml hown hts hK hW hA hl.1 (kReader_fail l D cI cZ cO cG a_self a_tape a_signs a_choices a_list a_order a_codes m_tables m_groups m_kinds m_zeroPower m_position m_faultNumber m_faultPosition (10 : Int32) e45) (cwV 1 hts gX3_readEnd_X3_fail rfl rfl rfl (by decide +kernel) ⟨Nat.le_of_ble_eq_true rfl, Nat.le_of_ble_eq_true rfl⟩) 3 0 rfl rfl [0] [1, 2] 3 rfl rfl rfl rfl [ob a_tape 5 [Value.ref a_tape_values, Value.int m_tape_count], ob a_signs 5 [Value.ref a_signs_values, Value.int m_signs_count]] rfl rfl rfl rfl rfl (Nat.le_of_ble_eq_true rfl) rfl ⟨Nat.zero_le _, Nat.zero_le _⟩ dX3_readEnd_45 (fun H locs hW => ?_)
      obtain ⟨g48, hF⟩ := gdB_some hF
      cases hF
      subst hQ
      exact ct_zret hx hb hr hlocks (gdB_n g48) hW.1 hW.2.2 dX3_readEnd_48
    · rw [if_neg c25] at hF
      refine lv_aload_n hx hb dX3_readEnd_28 rfl (lv_at hl 0 rfl) ?_
      refine va_get (D := D) (ci := 3) (v := .int m_position) (C := RX3) (T := TX3) (N := 13) hx hb hts hi3 hown hK.1 hW.1 0 rfl rfl 10 (by decide) hw4 (fun _ h9 => h9) rfl dX3_readEnd_29 ?_
      refine lv_aload_n hx hb dX3_readEnd_32 rfl (lv_at hl 0 rfl) ?_
      refine va_get (D := D) (ci := 3) (v := .ref a_tape) (C := RX3) (T := TX3) (N := 13) hx hb hts hi3 hown hK.1 hW.1 0 rfl rfl 0 (by decide) hw5 (fun _ h9 => h9) rfl dX3_readEnd_33 ?_
      obtain ⟨r_36, e36, hF⟩ := bd1_some hF
      refine ctV (wn := [ob a_self 3 [Value.ref a_tape, Value.ref a_signs, Value.ref a_choices, Value.ref a_list, Value.ref a_order, Value.ref a_codes, Value.int m_tables, Value.int m_groups, Value.int m_kinds, Value.int m_zeroPower, Value.int m_position, Value.int m_faultNumber, Value.int m_faultPosition], ob a_tape 5 [Value.ref a_tape_values, Value.int m_tape_count], ob a_signs 5 [Value.ref a_signs_values, Value.int m_signs_count]]) (r := (RX5, TX5, 2)) (As := []) (rest := [.int m_position]) hx hb hml hown hts hK hW hA hl.1 (kRow_size l D cI cZ cO cG a_tape a_tape_values m_tape_count e36) (cwV 0 hts gX3_readEnd_X5_size rfl rfl rfl (by decide +kernel) ⟨Nat.le_of_ble_eq_true rfl, Nat.le_of_ble_eq_true rfl⟩) 5 1 rfl rfl [1] [0, 2] 3 rfl rfl rfl rfl [ob a_self 3 [Value.ref a_tape, Value.ref a_signs, Value.ref a_choices, Value.ref a_list, Value.ref a_order, Value.ref a_codes, Value.int m_tables, Value.int m_groups, Value.int m_kinds, Value.int m_zeroPower, Value.int m_position, Value.int m_faultNumber, Value.int m_faultPosition], ob a_signs 5 [Value.ref a_signs_values, Value.int m_signs_count]] rfl rfl rfl rfl rfl (Nat.le_of_ble_eq_true rfl) rfl ⟨Nat.zero_le _, Nat.zero_le _⟩ dX3_readEnd_36 (fun H locs hW => ?_)
      refine lv_icmp_ge (tgt := 49) hx hb dX3_readEnd_39 (by decide) (fun c39 => ?_) (fun c39 => ?_)
      · rw [if_pos c39] at hF
        refine lv_iconst (v := 1) hx hb dX3_readEnd_49 (by decide) ?_
        cases hF
        subst hQ
        exact ct_zret hx hb hr hlocks rfl hW.1 hW.2.2 dX3_readEnd_50
      · rw [if_neg c39] at hF
        refine lv_aload_n hx hb dX3_readEnd_42 rfl (lv_at hl 0 rfl) ?_
        refine lv_bipush (v := 10) hx hb dX3_readEnd_43 (by decide) ?_
        obtain ⟨r_45, m_faultNumber_45, m_faultPosition_45, e45, hF⟩ := bd3_some hF
        refine ctV (wn := [ob a_self 3 [Value.ref a_tape, Value.ref a_signs, Value.ref a_choices, Value.ref a_list, Value.ref a_order, Value.ref a_codes, Value.int m_tables, Value.int m_groups, Value.int m_kinds, Value.int m_zeroPower, Value.int m_position, Value.int m_faultNumber_45, Value.int m_faultPosition_45], ob a_tape 5 [Value.ref a_tape_values, Value.int m_tape_count], ob a_signs 5 [Value.ref a_signs_values, Value.int m_signs_count]]) (r := (RX3, TX3, 13)) (As := [.int (10 : Int32)]) (rest := []) hx hb hml hown hts hK hW hA hl.1 (kReader_fail l D cI cZ cO cG a_self a_tape a_signs a_choices a_list a_order a_codes m_tables m_groups m_kinds m_zeroPower m_position m_faultNumber m_faultPosition (10 : Int32) e45) (cwV 1 hts gX3_readEnd_X3_fail rfl rfl rfl (by decide +kernel) ⟨Nat.le_of_ble_eq_true rfl, Nat.le_of_ble_eq_true rfl⟩) 3 0 rfl rfl [0] [1, 2] 3 rfl rfl rfl rfl [ob a_tape 5 [Value.ref a_tape_values, Value.int m_tape_count], ob a_signs 5 [Value.ref a_signs_values, Value.int m_signs_count]] rfl rfl rfl rfl rfl (Nat.le_of_ble_eq_true rfl) rfl ⟨Nat.zero_le _, Nat.zero_le _⟩ dX3_readEnd_45 (fun H locs hW => ?_)
        obtain ⟨g48, hF⟩ := gdB_some hF
        cases hF
        subst hQ
        exact ct_zret hx hb hr hlocks (gdB_n g48) hW.1 hW.2.2 dX3_readEnd_48
  · rw [if_pos c7] at hF
    refine lv_aload_n hx hb dX3_readEnd_10 rfl (lv_at hl 0 rfl) ?_
    refine lv_bipush (v := 9) hx hb dX3_readEnd_11 (by decide) ?_
    obtain ⟨r_13, m_faultNumber_13, m_faultPosition_13, e13, hF⟩ := bd3_some hF
    refine ctV (wn := [ob a_self 3 [Value.ref a_tape, Value.ref a_signs, Value.ref a_choices, Value.ref a_list, Value.ref a_order, Value.ref a_codes, Value.int m_tables, Value.int m_groups, Value.int m_kinds, Value.int m_zeroPower, Value.int m_position, Value.int m_faultNumber_13, Value.int m_faultPosition_13], ob a_tape 5 [Value.ref a_tape_values, Value.int m_tape_count], ob a_signs 5 [Value.ref a_signs_values, Value.int m_signs_count]]) (r := (RX3, TX3, 13)) (As := [.int (9 : Int32)]) (rest := []) hx hb hml hown hts hK hW hA hl.1 (kReader_fail l D cI cZ cO cG a_self a_tape a_signs a_choices a_list a_order a_codes m_tables m_groups m_kinds m_zeroPower m_position m_faultNumber m_faultPosition (9 : Int32) e13) (cwV 1 hts gX3_readEnd_X3_fail rfl rfl rfl (by decide +kernel) ⟨Nat.le_of_ble_eq_true rfl, Nat.le_of_ble_eq_true rfl⟩) 3 0 rfl rfl [0] [1, 2] 3 rfl rfl rfl rfl [ob a_tape 5 [Value.ref a_tape_values, Value.int m_tape_count], ob a_signs 5 [Value.ref a_signs_values, Value.int m_signs_count]] rfl rfl rfl rfl rfl (Nat.le_of_ble_eq_true rfl) rfl ⟨Nat.zero_le _, Nat.zero_le _⟩ dX3_readEnd_13 (fun H locs hW => ?_)
    obtain ⟨g16, hF⟩ := gdB_some hF
    cases hF
    subst hQ
    exact ct_zret hx hb hr hlocks (gdB_n g16) hW.1 hW.2.2 dX3_readEnd_16
abbrev rmReader_takeSigns : Room := { frames := 1, cells := 0, slots := 0, locals := 21 }
set_option maxHeartbeats 4000000 in
set_option maxRecDepth 100000 in
theorem kReader_takeSigns (l : Launch) (D : va_G) (cI cZ cO cG : ClassId) (a_self : Nat) (a_tape : Nat) (a_signs : Nat) (a_choices : Nat) (a_list : Nat) (a_order : Nat) (a_codes : Nat) (a_signs_values : Nat) (m_tables : Int32) (m_groups : Int32) (m_kinds : Int32) (m_zeroPower : Int32) (m_position : Int32) (m_faultNumber : Int32) (m_faultPosition : Int32) (m_signs_count : Int32) (m_signs_values : Nat → Int32) (x1 : Int32) (x2 : Int32) {rv : Int32} {m_faultNumber' : Int32} {m_faultPosition' : Int32} {m_signs_count' : Int32} {m_signs_values' : Nat → Int32} (hF : fReader_takeSigns m_position m_faultNumber m_faultPosition m_signs_count m_signs_values x1 x2 = some (rv, m_faultNumber', m_faultPosition', m_signs_count', m_signs_values')) : CT l yX3_takeSigns wsX3_takeSigns rmReader_takeSigns D (tysG cI cZ cO cG) [.ref a_self, .int x1, .int x2] [ob a_self 3 [Value.ref a_tape, Value.ref a_signs, Value.ref a_choices, Value.ref a_list, Value.ref a_order, Value.ref a_codes, Value.int m_tables, Value.int m_groups, Value.int m_kinds, Value.int m_zeroPower, Value.int m_position, Value.int m_faultNumber, Value.int m_faultPosition], ob a_signs 5 [Value.ref a_signs_values, Value.int m_signs_count], ia cI a_signs_values 300 m_signs_values] (some (.int rv)) [ob a_self 3 [Value.ref a_tape, Value.ref a_signs, Value.ref a_choices, Value.ref a_list, Value.ref a_order, Value.ref a_codes, Value.int m_tables, Value.int m_groups, Value.int m_kinds, Value.int m_zeroPower, Value.int m_position, Value.int m_faultNumber', Value.int m_faultPosition'], ob a_signs 5 [Value.ref a_signs_values, Value.int m_signs_count'], ia cI a_signs_values 300 m_signs_values'] := by
  refine CT.of (cc := cX3_takeSigns) (maxL := 4) (ret := (some .boolean)) (by decide) rfl (Nat.le_of_ble_eq_true rfl) ?_
  intro p e s m below meth c A ls hx hb hr hml hts hown hlocks hK hA hP hD hS hl
  generalize hargs : ([.ref a_self, .int x1, .int x2] : List Value).toArray = args at hts ⊢
  generalize hQ : MQ below (ctQ D (some (.int rv)) [ob a_self 3 [Value.ref a_tape, Value.ref a_signs, Value.ref a_choices, Value.ref a_list, Value.ref a_order, Value.ref a_codes, Value.int m_tables, Value.int m_groups, Value.int m_kinds, Value.int m_zeroPower, Value.int m_position, Value.int m_faultNumber', Value.int m_faultPosition'], ob a_signs 5 [Value.ref a_signs_values, Value.int m_signs_count'], ia cI a_signs_values 300 m_signs_values'] A) args s 0 0 A = Q
  have hl : lv_has ls 4 [(0, .ref a_self), (1, .int x1), (2, .int x2)] := hl
  have hW : WS D A s [ob a_self 3 [Value.ref a_tape, Value.ref a_signs, Value.ref a_choices, Value.ref a_list, Value.ref a_order, Value.ref a_codes, Value.int m_tables, Value.int m_groups, Value.int m_kinds, Value.int m_zeroPower, Value.int m_position, Value.int m_faultNumber, Value.int m_faultPosition], ob a_signs 5 [Value.ref a_signs_values, Value.int m_signs_count], ia cI a_signs_values 300 m_signs_values] s.heap [] := ⟨hP, hD, hS⟩
  clear hP hD hS
  unfold fReader_takeSigns at hF
  have hw0 := hts (Cond.fieldLink RX3 20 "MoveFronts$Reader" "signs" "LMoveFronts$Row;") (by decide +kernel)
  have hi3 : ∀ w ∈ u_ws RX3 TX3 13, w ∈ wsX3_takeSigns := by decide +kernel
  refine lv_aload_n hx hb dX3_takeSigns_0 rfl (lv_at hl 0 rfl) ?_
  refine va_get (D := D) (ci := 3) (v := .ref a_signs) (C := RX3) (T := TX3) (N := 13) hx hb hts hi3 hown hK.1 hW.1 0 rfl rfl 1 (by decide) hw0 (fun _ h9 => h9) rfl dX3_takeSigns_1 ?_
  obtain ⟨r_4, e4, hF⟩ := bd1_some hF
  refine ctV (wn := [ob a_self 3 [Value.ref a_tape, Value.ref a_signs, Value.ref a_choices, Value.ref a_list, Value.ref a_order, Value.ref a_codes, Value.int m_tables, Value.int m_groups, Value.int m_kinds, Value.int m_zeroPower, Value.int m_position, Value.int m_faultNumber, Value.int m_faultPosition], ob a_signs 5 [Value.ref a_signs_values, Value.int m_signs_count], ia cI a_signs_values 300 m_signs_values]) (r := (RX5, TX5, 2)) (As := []) (rest := []) hx hb hml hown hts hK hW hA hl.1 (kRow_size l D cI cZ cO cG a_signs a_signs_values m_signs_count e4) (cwV 0 hts gX3_takeSigns_X5_size rfl rfl rfl (by decide +kernel) ⟨Nat.le_of_ble_eq_true rfl, Nat.le_of_ble_eq_true rfl⟩) 5 1 rfl rfl [1] [0, 2] 3 rfl rfl rfl rfl [ob a_self 3 [Value.ref a_tape, Value.ref a_signs, Value.ref a_choices, Value.ref a_list, Value.ref a_order, Value.ref a_codes, Value.int m_tables, Value.int m_groups, Value.int m_kinds, Value.int m_zeroPower, Value.int m_position, Value.int m_faultNumber, Value.int m_faultPosition], ia cI a_signs_values 300 m_signs_values] rfl rfl rfl rfl rfl (Nat.le_of_ble_eq_true rfl) rfl ⟨Nat.zero_le _, Nat.zero_le _⟩ dX3_takeSigns_4 (fun H locs hW => ?_)
  refine lv_iload_n hx hb dX3_takeSigns_7 rfl (lv_at hl 2 rfl) ?_
  refine lv_iadd hx hb dX3_takeSigns_8 ?_
  refine lv_sipush (v := 300) hx hb dX3_takeSigns_9 (by decide) ?_
  refine lv_icmp_le (tgt := 22) hx hb dX3_takeSigns_12 (by decide) (fun c12 => ?_) (fun c12 => ?_)
  · rw [if_pos c12] at hF
    refine lv_iconst (v := 0) hx hb dX3_takeSigns_22 (by decide) ?_
    refine lv_istore_n (lv' := [(3, .int (0 : Int32)), (0, .ref a_self), (1, .int x1), (2, .int x2)]) hx hb dX3_takeSigns_23 rfl hl (by decide) rfl (fun ls hl => ?_)
    obtain ⟨m_signs_count_24ze, m_signs_values_24ze, hI, hF⟩ := bd2_some hF
    obtain ⟨nn, hI⟩ := itrO_some hI
    have hX24 : ∀ (m_signs_count_24z : Int32) (m_signs_values_24z : Nat → Int32), (m_signs_count_24z, m_signs_values_24z) = (m_signs_count_24ze, m_signs_values_24ze) → ∀ (H : Heap) (locs : List Loc), WS D A s [ob a_self 3 [Value.ref a_tape, Value.ref a_signs, Value.ref a_choices, Value.ref a_list, Value.ref a_order, Value.ref a_codes, Value.int m_tables, Value.int m_groups, Value.int m_kinds, Value.int m_zeroPower, Value.int m_position, Value.int m_faultNumber, Value.int m_faultPosition], ob a_signs 5 [Value.ref a_signs_values, Value.int m_signs_count_24z], ia cI a_signs_values 300 m_signs_values_24z] H locs → ∀ ls : Array Slot, lv_has ls 4 [] → W p l e (headSpec wsX3_takeSigns rmReader_takeSigns).room s m args below meth c H locs 0 0 Q (F0 m 43 ls []) := by
      intro m_signs_count_24z m_signs_values_24z he H locs hW ls hl
      obtain ⟨hz0, hy0⟩ := Prod.mk.inj he
      subst hz0
      subst hy0
      refine lv_iconst (v := 1) hx hb dX3_takeSigns_43 (by decide) ?_
      cases hF
      subst hQ
      exact ct_zret hx hb hr hlocks rfl hW.1 hW.2.2 dX3_takeSigns_44
    have hL24 : ∀ (n24 : Nat) (x3_24 : Int32) (m_signs_count_24 : Int32) (m_signs_values_24 : Nat → Int32), itr (un3 (fReader_takeSigns_L24 x1 x2)) n24 (x3_24, m_signs_count_24, m_signs_values_24) = some (m_signs_count_24ze, m_signs_values_24ze) → ∀ (H : Heap) (locs : List Loc), WS D A s [ob a_self 3 [Value.ref a_tape, Value.ref a_signs, Value.ref a_choices, Value.ref a_list, Value.ref a_order, Value.ref a_codes, Value.int m_tables, Value.int m_groups, Value.int m_kinds, Value.int m_zeroPower, Value.int m_position, Value.int m_faultNumber, Value.int m_faultPosition], ob a_signs 5 [Value.ref a_signs_values, Value.int m_signs_count_24], ia cI a_signs_values 300 m_signs_values_24] H locs → ∀ ls : Array Slot, lv_has ls 4 [(0, .ref a_self), (1, .int x1), (2, .int x2), (3, .int x3_24)] → W p l e (headSpec wsX3_takeSigns rmReader_takeSigns).room s m args below meth c H locs 0 0 Q (F0 m 24 ls []) := by
      intro n24
      induction n24 with
      | zero => intro x3_24 m_signs_count_24 m_signs_values_24 hI; cases hI
      | succ n24 ih24 =>
        intro x3_24 m_signs_count_24 m_signs_values_24 hI H locs hW ls hl
        obtain ⟨sr24, hF, hN24⟩ := itr_succ hI
        have hF : fReader_takeSigns_L24 x1 x2 x3_24 m_signs_count_24 m_signs_values_24 = some sr24 := hF
        unfold fReader_takeSigns_L24 at hF
        refine lv_iload_n hx hb dX3_takeSigns_24 rfl (lv_at hl 3 rfl) ?_
        refine lv_iload_n hx hb dX3_takeSigns_25 rfl (lv_at hl 2 rfl) ?_
        refine lv_icmp_ge (tgt := 43) hx hb dX3_takeSigns_26 (by decide) (fun c26 => ?_) (fun c26 => ?_)
        · rw [if_pos c26] at hF
          cases hF
          exact hX24 _ _ (itr_out hN24) _ _ hW _ (lv_sub hl [] rfl)
        · rw [if_neg c26] at hF
          refine lv_aload_n hx hb dX3_takeSigns_29 rfl (lv_at hl 0 rfl) ?_
          refine va_get (D := D) (ci := 3) (v := .ref a_signs) (C := RX3) (T := TX3) (N := 13) hx hb hts hi3 hown hK.1 hW.1 0 rfl rfl 1 (by decide) hw0 (fun _ h9 => h9) rfl dX3_takeSigns_30 ?_
          refine lv_iload_n hx hb dX3_takeSigns_33 rfl (lv_at hl 1 rfl) ?_
          obtain ⟨m_count_34, m_values_34, e34, hF⟩ := bd2_some hF
          refine ctV (wn := [ob a_self 3 [Value.ref a_tape, Value.ref a_signs, Value.ref a_choices, Value.ref a_list, Value.ref a_order, Value.ref a_codes, Value.int m_tables, Value.int m_groups, Value.int m_kinds, Value.int m_zeroPower, Value.int m_position, Value.int m_faultNumber, Value.int m_faultPosition], ob a_signs 5 [Value.ref a_signs_values, Value.int m_count_34], ia cI a_signs_values 300 m_values_34]) (r := (RX5, TX5, 2)) (As := [.int x1]) (rest := []) hx hb hml hown hts hK hW hA hl.1 (kRow_add l D cI cZ cO cG a_signs a_signs_values 300 m_signs_count_24 m_signs_values_24 x1 e34) (cwV 1 hts gX3_takeSigns_X5_add rfl rfl rfl (by decide +kernel) ⟨Nat.le_of_ble_eq_true rfl, Nat.le_of_ble_eq_true rfl⟩) 5 1 rfl rfl [1, 2] [0] 3 rfl rfl rfl rfl [ob a_self 3 [Value.ref a_tape, Value.ref a_signs, Value.ref a_choices, Value.ref a_list, Value.ref a_order, Value.ref a_codes, Value.int m_tables, Value.int m_groups, Value.int m_kinds, Value.int m_zeroPower, Value.int m_position, Value.int m_faultNumber, Value.int m_faultPosition]] rfl rfl rfl rfl rfl (Nat.le_of_ble_eq_true rfl) rfl ⟨Nat.zero_le _, Nat.zero_le _⟩ dX3_takeSigns_34 (fun H locs hW => ?_)
          refine lv_iinc (v := (x3_24 + 1)) (lv' := [(3, .int (x3_24 + 1)), (0, .ref a_self), (1, .int x1), (2, .int x2)]) hx hb dX3_takeSigns_37 hl (k := 3) rfl rfl (by decide) rfl (fun ls hl => ?_)
          refine lv_goto (tgt := 24) hx hb dX3_takeSigns_40 (by decide) ?_
          cases hF
          exact ih24 _ _ _ (itr_in hN24) _ _ hW _ (lv_sub hl [1, 2, 3, 0] rfl)
    exact hL24 nn _ _ _ hI _ _ hW _ (lv_sub hl [1, 2, 3, 0] rfl)
  · rw [if_neg c12] at hF
    refine lv_aload_n hx hb dX3_takeSigns_15 rfl (lv_at hl 0 rfl) ?_
    refine lv_bipush (v := 8) hx hb dX3_takeSigns_16 (by decide) ?_
    obtain ⟨r_18, m_faultNumber_18, m_faultPosition_18, e18, hF⟩ := bd3_some hF
    refine ctV (wn := [ob a_self 3 [Value.ref a_tape, Value.ref a_signs, Value.ref a_choices, Value.ref a_list, Value.ref a_order, Value.ref a_codes, Value.int m_tables, Value.int m_groups, Value.int m_kinds, Value.int m_zeroPower, Value.int m_position, Value.int m_faultNumber_18, Value.int m_faultPosition_18], ob a_signs 5 [Value.ref a_signs_values, Value.int m_signs_count], ia cI a_signs_values 300 m_signs_values]) (r := (RX3, TX3, 13)) (As := [.int (8 : Int32)]) (rest := []) hx hb hml hown hts hK hW hA hl.1 (kReader_fail l D cI cZ cO cG a_self a_tape a_signs a_choices a_list a_order a_codes m_tables m_groups m_kinds m_zeroPower m_position m_faultNumber m_faultPosition (8 : Int32) e18) (cwV 1 hts gX3_takeSigns_X3_fail rfl rfl rfl (by decide +kernel) ⟨Nat.le_of_ble_eq_true rfl, Nat.le_of_ble_eq_true rfl⟩) 3 0 rfl rfl [0] [1, 2] 3 rfl rfl rfl rfl [ob a_signs 5 [Value.ref a_signs_values, Value.int m_signs_count], ia cI a_signs_values 300 m_signs_values] rfl rfl rfl rfl rfl (Nat.le_of_ble_eq_true rfl) rfl ⟨Nat.zero_le _, Nat.zero_le _⟩ dX3_takeSigns_18 (fun H locs hW => ?_)
    obtain ⟨g21, hF⟩ := gdB_some hF
    cases hF
    subst hQ
    exact ct_zret hx hb hr hlocks (gdB_n g21) hW.1 hW.2.2 dX3_takeSigns_21
abbrev rmReader_takeSymbol : Room := { frames := 2, cells := 0, slots := 0, locals := 44 }
set_option maxHeartbeats 4000000 in
set_option maxRecDepth 100000 in
theorem kReader_takeSymbol (l : Launch) (D : va_G) (cI cZ cO cG : ClassId) (a_self : Nat) (a_tape : Nat) (a_signs : Nat) (a_choices : Nat) (a_list : Nat) (a_order : Nat) (a_codes : Nat) (a_signs_values : Nat) (a_list_list : Nat) (m_tables : Int32) (m_groups : Int32) (m_kinds : Int32) (m_zeroPower : Int32) (m_position : Int32) (m_faultNumber : Int32) (m_faultPosition : Int32) (m_signs_count : Int32) (m_signs_values : Nat → Int32) (m_list_count : Int32) (m_list_list : Nat → Int32) (x1 : Int32) {rv : Int32} {m_zeroPower' : Int32} {m_faultNumber' : Int32} {m_faultPosition' : Int32} {m_signs_count' : Int32} {m_signs_values' : Nat → Int32} {m_list_list' : Nat → Int32} (hF : fReader_takeSymbol m_zeroPower m_position m_faultNumber m_faultPosition m_signs_count m_signs_values m_list_count m_list_list x1 = some (rv, m_zeroPower', m_faultNumber', m_faultPosition', m_signs_count', m_signs_values', m_list_list')) : CT l yX3_takeSymbol wsX3_takeSymbol rmReader_takeSymbol D (tysG cI cZ cO cG) [.ref a_self, .int x1] [ob a_self 3 [Value.ref a_tape, Value.ref a_signs, Value.ref a_choices, Value.ref a_list, Value.ref a_order, Value.ref a_codes, Value.int m_tables, Value.int m_groups, Value.int m_kinds, Value.int m_zeroPower, Value.int m_position, Value.int m_faultNumber, Value.int m_faultPosition], ob a_signs 5 [Value.ref a_signs_values, Value.int m_signs_count], ia cI a_signs_values 300 m_signs_values, ob a_list 1 [Value.ref a_list_list, Value.int m_list_count], ia cI a_list_list 256 m_list_list] (some (.int rv)) [ob a_self 3 [Value.ref a_tape, Value.ref a_signs, Value.ref a_choices, Value.ref a_list, Value.ref a_order, Value.ref a_codes, Value.int m_tables, Value.int m_groups, Value.int m_kinds, Value.int m_zeroPower', Value.int m_position, Value.int m_faultNumber', Value.int m_faultPosition'], ob a_signs 5 [Value.ref a_signs_values, Value.int m_signs_count'], ia cI a_signs_values 300 m_signs_values', ob a_list 1 [Value.ref a_list_list, Value.int m_list_count], ia cI a_list_list 256 m_list_list'] := by
  refine CT.of (cc := cX3_takeSymbol) (maxL := 3) (ret := (some .boolean)) (by decide) rfl (Nat.le_of_ble_eq_true rfl) ?_
  intro p e s m below meth c A ls hx hb hr hml hts hown hlocks hK hA hP hD hS hl
  generalize hargs : ([.ref a_self, .int x1] : List Value).toArray = args at hts ⊢
  generalize hQ : MQ below (ctQ D (some (.int rv)) [ob a_self 3 [Value.ref a_tape, Value.ref a_signs, Value.ref a_choices, Value.ref a_list, Value.ref a_order, Value.ref a_codes, Value.int m_tables, Value.int m_groups, Value.int m_kinds, Value.int m_zeroPower', Value.int m_position, Value.int m_faultNumber', Value.int m_faultPosition'], ob a_signs 5 [Value.ref a_signs_values, Value.int m_signs_count'], ia cI a_signs_values 300 m_signs_values', ob a_list 1 [Value.ref a_list_list, Value.int m_list_count], ia cI a_list_list 256 m_list_list'] A) args s 0 0 A = Q
  have hl : lv_has ls 3 [(0, .ref a_self), (1, .int x1)] := hl
  have hW : WS D A s [ob a_self 3 [Value.ref a_tape, Value.ref a_signs, Value.ref a_choices, Value.ref a_list, Value.ref a_order, Value.ref a_codes, Value.int m_tables, Value.int m_groups, Value.int m_kinds, Value.int m_zeroPower, Value.int m_position, Value.int m_faultNumber, Value.int m_faultPosition], ob a_signs 5 [Value.ref a_signs_values, Value.int m_signs_count], ia cI a_signs_values 300 m_signs_values, ob a_list 1 [Value.ref a_list_list, Value.int m_list_count], ia cI a_list_list 256 m_list_list] s.heap [] := ⟨hP, hD, hS⟩
  clear hP hD hS
  unfold fReader_takeSymbol at hF
  have hw0 := hts (Cond.fieldLink RX3 55 "MoveFronts$Reader" "zeroPower" "I") (by decide +kernel)
  have hw1 := hts (Cond.fieldLink RX3 29 "MoveFronts$Reader" "list" "LMoveFronts$Front;") (by decide +kernel)
  have hi3 : ∀ w ∈ u_ws RX3 TX3 13, w ∈ wsX3_takeSymbol := by decide +kernel
  refine lv_iload_n hx hb dX3_takeSymbol_0 rfl (lv_at hl 1 rfl) ?_
  refine lv_iconst (v := 1) hx hb dX3_takeSymbol_1 (by decide) ?_
  refine lv_icmp_le (tgt := 26) hx hb dX3_takeSymbol_2 (by decide) (fun c2 => ?_) (fun c2 => ?_)
  · rw [if_pos c2] at hF
    refine lv_aload_n hx hb dX3_takeSymbol_26 rfl (lv_at hl 0 rfl) ?_
    refine va_get (D := D) (ci := 3) (v := .int m_zeroPower) (C := RX3) (T := TX3) (N := 13) hx hb hts hi3 hown hK.1 hW.1 0 rfl rfl 9 (by decide) hw0 (fun _ h9 => h9) rfl dX3_takeSymbol_27 ?_
    refine lv_iload_n hx hb dX3_takeSymbol_30 rfl (lv_at hl 1 rfl) ?_
    refine lv_iconst (v := 1) hx hb dX3_takeSymbol_31 (by decide) ?_
    refine lv_iadd hx hb dX3_takeSymbol_32 ?_
    refine lv_imul hx hb dX3_takeSymbol_33 ?_
    refine lv_istore_n (lv' := [(2, .int (m_zeroPower * (x1 + (1 : Int32)))), (0, .ref a_self), (1, .int x1)]) hx hb dX3_takeSymbol_34 rfl hl (by decide) rfl (fun ls hl => ?_)
    refine lv_aload_n hx hb dX3_takeSymbol_35 rfl (lv_at hl 1 rfl) ?_
    refine lv_dup hx hb dX3_takeSymbol_36 rfl ?_
    refine va_get (D := D) (ci := 3) (v := .int m_zeroPower) (C := RX3) (T := TX3) (N := 13) hx hb hts hi3 hown hK.1 hW.1 0 rfl rfl 9 (by decide) hw0 (fun _ h9 => h9) rfl dX3_takeSymbol_37 ?_
    refine lv_iconst (v := 2) hx hb dX3_takeSymbol_40 (by decide) ?_
    refine lv_imul hx hb dX3_takeSymbol_41 ?_
    refine va_put (D := D) (ci := 3) (v := .int (m_zeroPower * (2 : Int32))) (ty := .int) (C := RX3) (T := TX3) (N := 13) hx hb hts hi3 tyX3 tyX3_ok nmX3 hown hK.1 hW.1 hW.2.1 hW.2.2 0 rfl rfl 9 (by decide) hw0 (fun _ h9 => h9) rfl (by decide +kernel) rfl rfl (Nat.le_of_ble_eq_true rfl) dX3_takeSymbol_42 (fun H locs hP hD hS => ?_)
    have hW : WS D A s [ob a_self 3 [Value.ref a_tape, Value.ref a_signs, Value.ref a_choices, Value.ref a_list, Value.ref a_order, Value.ref a_codes, Value.int m_tables, Value.int m_groups, Value.int m_kinds, Value.int (m_zeroPower * (2 : Int32)), Value.int m_position, Value.int m_faultNumber, Value.int m_faultPosition], ob a_signs 5 [Value.ref a_signs_values, Value.int m_signs_count], ia cI a_signs_values 300 m_signs_values, ob a_list 1 [Value.ref a_list_list, Value.int m_list_count], ia cI a_list_list 256 m_list_list] H locs := ⟨hP, hD, hS⟩
    refine lv_aload_n hx hb dX3_takeSymbol_45 rfl (lv_at hl 1 rfl) ?_
    refine lv_aload_n hx hb dX3_takeSymbol_46 rfl (lv_at hl 1 rfl) ?_
    refine va_get (D := D) (ci := 3) (v := .ref a_list) (C := RX3) (T := TX3) (N := 13) hx hb hts hi3 hown hK.1 hW.1 0 rfl rfl 3 (by decide) hw1 (fun _ h9 => h9) rfl dX3_takeSymbol_47 ?_
    refine lv_iconst (v := 0) hx hb dX3_takeSymbol_50 (by decide) ?_
    obtain ⟨r_51, m_list_51, e51, hF⟩ := bd2_some hF
    refine ctV (wn := [ob a_self 3 [Value.ref a_tape, Value.ref a_signs, Value.ref a_choices, Value.ref a_list, Value.ref a_order, Value.ref a_codes, Value.int m_tables, Value.int m_groups, Value.int m_kinds, Value.int (m_zeroPower * (2 : Int32)), Value.int m_position, Value.int m_faultNumber, Value.int m_faultPosition], ob a_signs 5 [Value.ref a_signs_values, Value.int m_signs_count], ia cI a_signs_values 300 m_signs_values, ob a_list 1 [Value.ref a_list_list, Value.int m_list_count], ia cI a_list_list 256 m_list_51]) (r := (RX1, TX1, 2)) (As := [.int (0 : Int32)]) (rest := [.ref a_self]) hx hb hml hown hts hK hW hA hl.1 (kFront_bringUp l D cI cZ cO cG a_list a_list_list 256 m_list_count m_list_list (0 : Int32) e51) (cwV 1 hts gX3_takeSymbol_X1_bringUp rfl rfl rfl (by decide +kernel) ⟨Nat.le_of_ble_eq_true rfl, Nat.le_of_ble_eq_true rfl⟩) 1 3 rfl rfl [3, 4] [0, 1, 2] 5 rfl rfl rfl rfl [ob a_self 3 [Value.ref a_tape, Value.ref a_signs, Value.ref a_choices, Value.ref a_list, Value.ref a_order, Value.ref a_codes, Value.int m_tables, Value.int m_groups, Value.int m_kinds, Value.int (m_zeroPower * (2 : Int32)), Value.int m_position, Value.int m_faultNumber, Value.int m_faultPosition], ob a_signs 5 [Value.ref a_signs_values, Value.int m_signs_count], ia cI a_signs_values 300 m_signs_values] rfl rfl rfl rfl rfl (Nat.le_of_ble_eq_true rfl) rfl ⟨Nat.zero_le _, Nat.zero_le _⟩ dX3_takeSymbol_51 (fun H locs hW => ?_)
    refine lv_iload_n hx hb dX3_takeSymbol_54 rfl (lv_at hl 0 rfl) ?_
    obtain ⟨r_55, m_faultNumber_55, m_faultPosition_55, m_signs_count_55, m_signs_values_55, e55, hF⟩ := bd5_some hF
    refine ctV (wn := [ob a_self 3 [Value.ref a_tape, Value.ref a_signs, Value.ref a_choices, Value.ref a_list, Value.ref a_order, Value.ref a_codes, Value.int m_tables, Value.int m_groups, Value.int m_kinds, Value.int (m_zeroPower * (2 : Int32)), Value.int m_position, Value.int m_faultNumber_55, Value.int m_faultPosition_55], ob a_signs 5 [Value.ref a_signs_values, Value.int m_signs_count_55], ia cI a_signs_values 300 m_signs_values_55, ob a_list 1 [Value.ref a_list_list, Value.int m_list_count], ia cI a_list_list 256 m_list_51]) (r := (RX3, TX3, 13)) (As := [.int r_51, .int (m_zeroPower * (x1 + (1 : Int32)))]) (rest := []) hx hb hml hown hts hK hW hA hl.1 (kReader_takeSigns l D cI cZ cO cG a_self a_tape a_signs a_choices a_list a_order a_codes a_signs_values m_tables m_groups m_kinds (m_zeroPower * (2 : Int32)) m_position m_faultNumber m_faultPosition m_signs_count m_signs_values r_51 (m_zeroPower * (x1 + (1 : Int32))) e55) (cwV 2 hts gX3_takeSymbol_X3_takeSigns rfl rfl rfl (by decide +kernel) ⟨Nat.le_of_ble_eq_true rfl, Nat.le_of_ble_eq_true rfl⟩) 3 0 rfl rfl [0, 1, 2] [3, 4] 5 rfl rfl rfl rfl [ob a_list 1 [Value.ref a_list_list, Value.int m_list_count], ia cI a_list_list 256 m_list_51] rfl rfl rfl rfl rfl (Nat.le_of_ble_eq_true rfl) rfl ⟨Nat.zero_le _, Nat.zero_le _⟩ dX3_takeSymbol_55 (fun H locs hW => ?_)
    obtain ⟨g58, hF⟩ := gdB_some hF
    cases hF
    subst hQ
    exact ct_zret hx hb hr hlocks (gdB_n g58) hW.1 hW.2.2 dX3_takeSymbol_58
  · rw [if_neg c2] at hF
    refine lv_aload_n hx hb dX3_takeSymbol_5 rfl (lv_at hl 0 rfl) ?_
    refine lv_iconst (v := 1) hx hb dX3_takeSymbol_6 (by decide) ?_
    refine va_put (D := D) (ci := 3) (v := .int (1 : Int32)) (ty := .int) (C := RX3) (T := TX3) (N := 13) hx hb hts hi3 tyX3 tyX3_ok nmX3 hown hK.1 hW.1 hW.2.1 hW.2.2 0 rfl rfl 9 (by decide) hw0 (fun _ h9 => h9) rfl (by decide +kernel) rfl rfl (Nat.le_of_ble_eq_true rfl) dX3_takeSymbol_7 (fun H locs hP hD hS => ?_)
    have hW : WS D A s [ob a_self 3 [Value.ref a_tape, Value.ref a_signs, Value.ref a_choices, Value.ref a_list, Value.ref a_order, Value.ref a_codes, Value.int m_tables, Value.int m_groups, Value.int m_kinds, Value.int (1 : Int32), Value.int m_position, Value.int m_faultNumber, Value.int m_faultPosition], ob a_signs 5 [Value.ref a_signs_values, Value.int m_signs_count], ia cI a_signs_values 300 m_signs_values, ob a_list 1 [Value.ref a_list_list, Value.int m_list_count], ia cI a_list_list 256 m_list_list] H locs := ⟨hP, hD, hS⟩
    refine lv_aload_n hx hb dX3_takeSymbol_10 rfl (lv_at hl 0 rfl) ?_
    refine lv_aload_n hx hb dX3_takeSymbol_11 rfl (lv_at hl 0 rfl) ?_
    refine va_get (D := D) (ci := 3) (v := .ref a_list) (C := RX3) (T := TX3) (N := 13) hx hb hts hi3 hown hK.1 hW.1 0 rfl rfl 3 (by decide) hw1 (fun _ h9 => h9) rfl dX3_takeSymbol_12 ?_
    refine lv_iload_n hx hb dX3_takeSymbol_15 rfl (lv_at hl 1 rfl) ?_
    refine lv_iconst (v := 1) hx hb dX3_takeSymbol_16 (by decide) ?_
    refine lv_isub hx hb dX3_takeSymbol_17 ?_
    obtain ⟨r_18, m_list_18, e18, hF⟩ := bd2_some hF
    refine ctV (wn := [ob a_self 3 [Value.ref a_tape, Value.ref a_signs, Value.ref a_choices, Value.ref a_list, Value.ref a_order, Value.ref a_codes, Value.int m_tables, Value.int m_groups, Value.int m_kinds, Value.int (1 : Int32), Value.int m_position, Value.int m_faultNumber, Value.int m_faultPosition], ob a_signs 5 [Value.ref a_signs_values, Value.int m_signs_count], ia cI a_signs_values 300 m_signs_values, ob a_list 1 [Value.ref a_list_list, Value.int m_list_count], ia cI a_list_list 256 m_list_18]) (r := (RX1, TX1, 2)) (As := [.int (x1 - (1 : Int32))]) (rest := [.ref a_self]) hx hb hml hown hts hK hW hA hl.1 (kFront_bringUp l D cI cZ cO cG a_list a_list_list 256 m_list_count m_list_list (x1 - (1 : Int32)) e18) (cwV 1 hts gX3_takeSymbol_X1_bringUp rfl rfl rfl (by decide +kernel) ⟨Nat.le_of_ble_eq_true rfl, Nat.le_of_ble_eq_true rfl⟩) 1 3 rfl rfl [3, 4] [0, 1, 2] 5 rfl rfl rfl rfl [ob a_self 3 [Value.ref a_tape, Value.ref a_signs, Value.ref a_choices, Value.ref a_list, Value.ref a_order, Value.ref a_codes, Value.int m_tables, Value.int m_groups, Value.int m_kinds, Value.int (1 : Int32), Value.int m_position, Value.int m_faultNumber, Value.int m_faultPosition], ob a_signs 5 [Value.ref a_signs_values, Value.int m_signs_count], ia cI a_signs_values 300 m_signs_values] rfl rfl rfl rfl rfl (Nat.le_of_ble_eq_true rfl) rfl ⟨Nat.zero_le _, Nat.zero_le _⟩ dX3_takeSymbol_18 (fun H locs hW => ?_)
    refine lv_iconst (v := 1) hx hb dX3_takeSymbol_21 (by decide) ?_
    obtain ⟨r_22, m_faultNumber_22, m_faultPosition_22, m_signs_count_22, m_signs_values_22, e22, hF⟩ := bd5_some hF
    refine ctV (wn := [ob a_self 3 [Value.ref a_tape, Value.ref a_signs, Value.ref a_choices, Value.ref a_list, Value.ref a_order, Value.ref a_codes, Value.int m_tables, Value.int m_groups, Value.int m_kinds, Value.int (1 : Int32), Value.int m_position, Value.int m_faultNumber_22, Value.int m_faultPosition_22], ob a_signs 5 [Value.ref a_signs_values, Value.int m_signs_count_22], ia cI a_signs_values 300 m_signs_values_22, ob a_list 1 [Value.ref a_list_list, Value.int m_list_count], ia cI a_list_list 256 m_list_18]) (r := (RX3, TX3, 13)) (As := [.int r_18, .int (1 : Int32)]) (rest := []) hx hb hml hown hts hK hW hA hl.1 (kReader_takeSigns l D cI cZ cO cG a_self a_tape a_signs a_choices a_list a_order a_codes a_signs_values m_tables m_groups m_kinds (1 : Int32) m_position m_faultNumber m_faultPosition m_signs_count m_signs_values r_18 (1 : Int32) e22) (cwV 2 hts gX3_takeSymbol_X3_takeSigns rfl rfl rfl (by decide +kernel) ⟨Nat.le_of_ble_eq_true rfl, Nat.le_of_ble_eq_true rfl⟩) 3 0 rfl rfl [0, 1, 2] [3, 4] 5 rfl rfl rfl rfl [ob a_list 1 [Value.ref a_list_list, Value.int m_list_count], ia cI a_list_list 256 m_list_18] rfl rfl rfl rfl rfl (Nat.le_of_ble_eq_true rfl) rfl ⟨Nat.zero_le _, Nat.zero_le _⟩ dX3_takeSymbol_22 (fun H locs hW => ?_)
    obtain ⟨g25, hF⟩ := gdB_some hF
    cases hF
    subst hQ
    exact ct_zret hx hb hr hlocks (gdB_n g25) hW.1 hW.2.2 dX3_takeSymbol_25
