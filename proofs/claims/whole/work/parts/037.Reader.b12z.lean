abbrev rmReader_nextLength : Room := { frames := 2, cells := 0, slots := 0, locals := 42 }
set_option maxHeartbeats 4000000 in
set_option maxRecDepth 100000 in
theorem kReader_nextLength (l : Launch) (D : va_G) (cI cZ cO cG : ClassId) (a_self : Nat) (a_tape : Nat) (a_signs : Nat) (a_choices : Nat) (a_list : Nat) (a_order : Nat) (a_codes : Nat) (a_tape_values : Nat) (m_tables : Int32) (m_groups : Int32) (m_kinds : Int32) (m_zeroPower : Int32) (m_position : Int32) (m_faultNumber : Int32) (m_faultPosition : Int32) (m_tape_count : Int32) (m_tape_values : Nat → Int32) (x1 : Int32) {rv : Int32} {m_position' : Int32} {m_faultNumber' : Int32} {m_faultPosition' : Int32} (hF : fReader_nextLength m_position m_faultNumber m_faultPosition m_tape_count m_tape_values x1 = some (rv, m_position', m_faultNumber', m_faultPosition')) : CT l yX3_nextLength wsX3_nextLength rmReader_nextLength D (tysG cI cZ cO cG) [.ref a_self, .int x1] [ob a_self 3 [Value.ref a_tape, Value.ref a_signs, Value.ref a_choices, Value.ref a_list, Value.ref a_order, Value.ref a_codes, Value.int m_tables, Value.int m_groups, Value.int m_kinds, Value.int m_zeroPower, Value.int m_position, Value.int m_faultNumber, Value.int m_faultPosition], ob a_tape 5 [Value.ref a_tape_values, Value.int m_tape_count], ia cI a_tape_values 1500 m_tape_values] (some (.int rv)) [ob a_self 3 [Value.ref a_tape, Value.ref a_signs, Value.ref a_choices, Value.ref a_list, Value.ref a_order, Value.ref a_codes, Value.int m_tables, Value.int m_groups, Value.int m_kinds, Value.int m_zeroPower, Value.int m_position', Value.int m_faultNumber', Value.int m_faultPosition'], ob a_tape 5 [Value.ref a_tape_values, Value.int m_tape_count], ia cI a_tape_values 1500 m_tape_values] := by
  refine CT.of (cc := cX3_nextLength) (maxL := 6) (ret := (some .int)) (by decide) rfl (Nat.le_of_ble_eq_true rfl) ?_
  intro p e s m below meth c A ls hx hb hr hml hts hown hlocks hK hA hP hD hS hl
  generalize hargs : ([.ref a_self, .int x1] : List Value).toArray = args at hts ⊢
  generalize hQ : MQ below (ctQ D (some (.int rv)) [ob a_self 3 [Value.ref a_tape, Value.ref a_signs, Value.ref a_choices, Value.ref a_list, Value.ref a_order, Value.ref a_codes, Value.int m_tables, Value.int m_groups, Value.int m_kinds, Value.int m_zeroPower, Value.int m_position', Value.int m_faultNumber', Value.int m_faultPosition'], ob a_tape 5 [Value.ref a_tape_values, Value.int m_tape_count], ia cI a_tape_values 1500 m_tape_values] A) args s 0 0 A = Q
  have hl : lv_has ls 6 [(0, .ref a_self), (1, .int x1)] := hl
  have hW : WS D A s [ob a_self 3 [Value.ref a_tape, Value.ref a_signs, Value.ref a_choices, Value.ref a_list, Value.ref a_order, Value.ref a_codes, Value.int m_tables, Value.int m_groups, Value.int m_kinds, Value.int m_zeroPower, Value.int m_position, Value.int m_faultNumber, Value.int m_faultPosition], ob a_tape 5 [Value.ref a_tape_values, Value.int m_tape_count], ia cI a_tape_values 1500 m_tape_values] s.heap [] := ⟨hP, hD, hS⟩
  clear hP hD hS
  unfold fReader_nextLength at hF
  refine lv_iload_n hx hb dX3_nextLength_0 rfl (lv_at hl 1 rfl) ?_
  refine lv_istore_n (lv' := [(2, .int x1), (0, .ref a_self), (1, .int x1)]) hx hb dX3_nextLength_1 rfl hl (by decide) rfl (fun ls hl => ?_)
  refine lv_iconst (v := 0) hx hb dX3_nextLength_2 (by decide) ?_
  refine lv_istore_n (lv' := [(3, .int (0 : Int32)), (2, .int x1), (0, .ref a_self), (1, .int x1)]) hx hb dX3_nextLength_3 rfl hl (by decide) rfl (fun ls hl => ?_)
  obtain ⟨q4, hI, hq4⟩ := bs_some hF
  obtain ⟨nn, hI⟩ := itrO_some hI
  have hX4 : ∀ (m_position_4z : Int32) (m_faultNumber_4z : Int32) (m_faultPosition_4z : Int32), (.inl (m_position_4z, m_faultNumber_4z, m_faultPosition_4z)) = q4 → ∀ (H : Heap) (locs : List Loc), WS D A s [ob a_self 3 [Value.ref a_tape, Value.ref a_signs, Value.ref a_choices, Value.ref a_list, Value.ref a_order, Value.ref a_codes, Value.int m_tables, Value.int m_groups, Value.int m_kinds, Value.int m_zeroPower, Value.int m_position_4z, Value.int m_faultNumber_4z, Value.int m_faultPosition_4z], ob a_tape 5 [Value.ref a_tape_values, Value.int m_tape_count], ia cI a_tape_values 1500 m_tape_values] H locs → ∀ ls : Array Slot, lv_has ls 6 [(0, .ref a_self)] → W p l e (headSpec wsX3_nextLength rmReader_nextLength).room s m args below meth c H locs 0 0 Q (F0 m 87 ls []) := by
    intro m_position_4z m_faultNumber_4z m_faultPosition_4z he H locs hW ls hl
    subst he
    have hF := bs_inl hq4
    rw [un3_eq] at hF
    refine lv_aload_n hx hb dX3_nextLength_87 rfl (lv_at hl 0 rfl) ?_
    refine lv_iconst (v := 1) hx hb dX3_nextLength_88 (by decide) ?_
    obtain ⟨r_89, m_faultNumber_89, m_faultPosition_89, e89, hF⟩ := bd3_some hF
    refine ctV (wn := [ob a_self 3 [Value.ref a_tape, Value.ref a_signs, Value.ref a_choices, Value.ref a_list, Value.ref a_order, Value.ref a_codes, Value.int m_tables, Value.int m_groups, Value.int m_kinds, Value.int m_zeroPower, Value.int m_position_4z, Value.int m_faultNumber_89, Value.int m_faultPosition_89], ob a_tape 5 [Value.ref a_tape_values, Value.int m_tape_count], ia cI a_tape_values 1500 m_tape_values]) (r := (RX3, TX3, 13)) (As := [.int (1 : Int32)]) (rest := []) hx hb hml hown hts hK hW hA hl.1 (kReader_fail l D cI cZ cO cG a_self a_tape a_signs a_choices a_list a_order a_codes m_tables m_groups m_kinds m_zeroPower m_position_4z m_faultNumber_4z m_faultPosition_4z (1 : Int32) e89) (cwV 1 hts gX3_nextLength_X3_fail rfl rfl rfl (by decide +kernel) ⟨Nat.le_of_ble_eq_true rfl, Nat.le_of_ble_eq_true rfl⟩) 3 0 rfl rfl [0] [1, 2] 3 rfl rfl rfl rfl [ob a_tape 5 [Value.ref a_tape_values, Value.int m_tape_count], ia cI a_tape_values 1500 m_tape_values] rfl rfl rfl rfl rfl (Nat.le_of_ble_eq_true rfl) rfl ⟨Nat.zero_le _, Nat.zero_le _⟩ dX3_nextLength_89 (fun H locs hW => ?_)
    refine lv_pop hx hb dX3_nextLength_92 rfl ?_
    refine lv_iconst (v := (-1)) hx hb dX3_nextLength_93 (by decide) ?_
    cases hF
    subst hQ
    exact ct_iret hx hb hr hlocks hW.1 hW.2.2 dX3_nextLength_94
  have hL4 : ∀ (n4 : Nat) (x2_4 : Int32) (x3_4 : Int32) (m_position_4 : Int32) (m_faultNumber_4 : Int32) (m_faultPosition_4 : Int32), itr (un5 (fReader_nextLength_L4 m_tape_count m_tape_values)) n4 (x2_4, x3_4, m_position_4, m_faultNumber_4, m_faultPosition_4) = some q4 → ∀ (H : Heap) (locs : List Loc), WS D A s [ob a_self 3 [Value.ref a_tape, Value.ref a_signs, Value.ref a_choices, Value.ref a_list, Value.ref a_order, Value.ref a_codes, Value.int m_tables, Value.int m_groups, Value.int m_kinds, Value.int m_zeroPower, Value.int m_position_4, Value.int m_faultNumber_4, Value.int m_faultPosition_4], ob a_tape 5 [Value.ref a_tape_values, Value.int m_tape_count], ia cI a_tape_values 1500 m_tape_values] H locs → ∀ ls : Array Slot, lv_has ls 6 [(0, .ref a_self), (2, .int x2_4), (3, .int x3_4)] → W p l e (headSpec wsX3_nextLength rmReader_nextLength).room s m args below meth c H locs 0 0 Q (F0 m 4 ls []) := by
    intro n4
    induction n4 with
    | zero => intro x2_4 x3_4 m_position_4 m_faultNumber_4 m_faultPosition_4 hI; cases hI
    | succ n4 ih4 =>
      intro x2_4 x3_4 m_position_4 m_faultNumber_4 m_faultPosition_4 hI H locs hW ls hl
      obtain ⟨sr4, hF, hN4⟩ := itr_succ hI
      have hF : fReader_nextLength_L4 m_tape_count m_tape_values x2_4 x3_4 m_position_4 m_faultNumber_4 m_faultPosition_4 = some sr4 := hF
      unfold fReader_nextLength_L4 at hF
      have hJ73 : ∀ (m_position_73 : Int32) (m_faultNumber_73 : Int32) (m_faultPosition_73 : Int32), fReader_nextLength_J73 m_position_73 m_faultNumber_73 m_faultPosition_73 = some sr4 → ∀ (H : Heap) (locs : List Loc), WS D A s [ob a_self 3 [Value.ref a_tape, Value.ref a_signs, Value.ref a_choices, Value.ref a_list, Value.ref a_order, Value.ref a_codes, Value.int m_tables, Value.int m_groups, Value.int m_kinds, Value.int m_zeroPower, Value.int m_position_73, Value.int m_faultNumber_73, Value.int m_faultPosition_73], ob a_tape 5 [Value.ref a_tape_values, Value.int m_tape_count], ia cI a_tape_values 1500 m_tape_values] H locs → ∀ ls : Array Slot, lv_has ls 6 [(0, .ref a_self)] → W p l e (headSpec wsX3_nextLength rmReader_nextLength).room s m args below meth c H locs 0 0 Q (F0 m 73 ls []) := by
        intro m_position_73 m_faultNumber_73 m_faultPosition_73 hF H locs hW ls hl
        unfold fReader_nextLength_J73 at hF
        refine lv_aload_n hx hb dX3_nextLength_73 rfl (lv_at hl 0 rfl) ?_
        refine lv_iconst (v := 5) hx hb dX3_nextLength_74 (by decide) ?_
        obtain ⟨r_75, m_faultNumber_75, m_faultPosition_75, e75, hF⟩ := bd3_some hF
        refine ctV (wn := [ob a_self 3 [Value.ref a_tape, Value.ref a_signs, Value.ref a_choices, Value.ref a_list, Value.ref a_order, Value.ref a_codes, Value.int m_tables, Value.int m_groups, Value.int m_kinds, Value.int m_zeroPower, Value.int m_position_73, Value.int m_faultNumber_75, Value.int m_faultPosition_75], ob a_tape 5 [Value.ref a_tape_values, Value.int m_tape_count], ia cI a_tape_values 1500 m_tape_values]) (r := (RX3, TX3, 13)) (As := [.int (5 : Int32)]) (rest := []) hx hb hml hown hts hK hW hA hl.1 (kReader_fail l D cI cZ cO cG a_self a_tape a_signs a_choices a_list a_order a_codes m_tables m_groups m_kinds m_zeroPower m_position_73 m_faultNumber_73 m_faultPosition_73 (5 : Int32) e75) (cwV 1 hts gX3_nextLength_X3_fail rfl rfl rfl (by decide +kernel) ⟨Nat.le_of_ble_eq_true rfl, Nat.le_of_ble_eq_true rfl⟩) 3 0 rfl rfl [0] [1, 2] 3 rfl rfl rfl rfl [ob a_tape 5 [Value.ref a_tape_values, Value.int m_tape_count], ia cI a_tape_values 1500 m_tape_values] rfl rfl rfl rfl rfl (Nat.le_of_ble_eq_true rfl) rfl ⟨Nat.zero_le _, Nat.zero_le _⟩ dX3_nextLength_75 (fun H locs hW => ?_)
        refine lv_pop hx hb dX3_nextLength_78 rfl ?_
        refine lv_iconst (v := (-1)) hx hb dX3_nextLength_79 (by decide) ?_
        cases hF
        have hq0 := itr_out hN4
        subst hq0
        have hF := bs_inr hq4
        cases hF
        subst hQ
        exact ct_iret hx hb hr hlocks hW.1 hW.2.2 dX3_nextLength_80
      have hJ60 : ∀ (x3_60 : Int32) (m_position_60 : Int32) (m_faultNumber_60 : Int32) (m_faultPosition_60 : Int32) (t0_60 : Int32) (t1_60 : Int32), fReader_nextLength_J60 x3_60 m_position_60 m_faultNumber_60 m_faultPosition_60 t0_60 t1_60 = some sr4 → ∀ (H : Heap) (locs : List Loc), WS D A s [ob a_self 3 [Value.ref a_tape, Value.ref a_signs, Value.ref a_choices, Value.ref a_list, Value.ref a_order, Value.ref a_codes, Value.int m_tables, Value.int m_groups, Value.int m_kinds, Value.int m_zeroPower, Value.int m_position_60, Value.int m_faultNumber_60, Value.int m_faultPosition_60], ob a_tape 5 [Value.ref a_tape_values, Value.int m_tape_count], ia cI a_tape_values 1500 m_tape_values] H locs → ∀ ls : Array Slot, lv_has ls 6 [(0, .ref a_self), (3, .int x3_60)] → W p l e (headSpec wsX3_nextLength rmReader_nextLength).room s m args below meth c H locs 0 0 Q (F0 m 60 ls [.int t1_60, .int t0_60]) := by
        intro x3_60 m_position_60 m_faultNumber_60 m_faultPosition_60 t0_60 t1_60 hF H locs hW ls hl
        unfold fReader_nextLength_J60 at hF
        refine lv_iadd hx hb dX3_nextLength_60 ?_
        refine lv_istore_n (lv' := [(2, .int (t0_60 + t1_60)), (0, .ref a_self), (3, .int x3_60)]) hx hb dX3_nextLength_61 rfl hl (by decide) rfl (fun ls hl => ?_)
        refine lv_iload_n hx hb dX3_nextLength_62 rfl (lv_at hl 0 rfl) ?_
        refine lv_iconst (v := 1) hx hb dX3_nextLength_63 (by decide) ?_
        refine lv_icmp_lt (tgt := 73) hx hb dX3_nextLength_64 (by decide) (fun c64 => ?_) (fun c64 => ?_)
        · rw [if_pos c64] at hF
          exact hJ73 _ _ _ hF _ _ hW _ (lv_sub hl [1] rfl)
        · rw [if_neg c64] at hF
          refine lv_iload_n hx hb dX3_nextLength_67 rfl (lv_at hl 0 rfl) ?_
          refine lv_bipush (v := 20) hx hb dX3_nextLength_68 (by decide) ?_
          refine lv_icmp_le (tgt := 81) hx hb dX3_nextLength_70 (by decide) (fun c70 => ?_) (fun c70 => ?_)
          · rw [if_pos c70] at hF
            refine lv_iinc (v := (x3_60 + 1)) (lv' := [(3, .int (x3_60 + 1)), (2, .int (t0_60 + t1_60)), (0, .ref a_self)]) hx hb dX3_nextLength_81 hl (k := 2) rfl rfl (by decide) rfl (fun ls hl => ?_)
            refine lv_goto (tgt := 4) hx hb dX3_nextLength_84 (by decide) ?_
            cases hF
            exact ih4 _ _ _ _ _ (itr_in hN4) _ _ hW _ (lv_sub hl [2, 1, 0] rfl)
          · rw [if_neg c70] at hF
            exact hJ73 _ _ _ hF _ _ hW _ (lv_sub hl [1] rfl)
      have hJ38 : ∀ (x2_38 : Int32) (x3_38 : Int32) (m_position_38 : Int32) (m_faultNumber_38 : Int32) (m_faultPosition_38 : Int32) (t0_38 : Int32), fReader_nextLength_J38 x2_38 x3_38 m_position_38 m_faultNumber_38 m_faultPosition_38 t0_38 = some sr4 → ∀ (H : Heap) (locs : List Loc), WS D A s [ob a_self 3 [Value.ref a_tape, Value.ref a_signs, Value.ref a_choices, Value.ref a_list, Value.ref a_order, Value.ref a_codes, Value.int m_tables, Value.int m_groups, Value.int m_kinds, Value.int m_zeroPower, Value.int m_position_38, Value.int m_faultNumber_38, Value.int m_faultPosition_38], ob a_tape 5 [Value.ref a_tape_values, Value.int m_tape_count], ia cI a_tape_values 1500 m_tape_values] H locs → ∀ ls : Array Slot, lv_has ls 6 [(0, .ref a_self), (2, .int x2_38), (3, .int x3_38)] → W p l e (headSpec wsX3_nextLength rmReader_nextLength).room s m args below meth c H locs 0 0 Q (F0 m 38 ls [.int t0_38]) := by
        intro x2_38 x3_38 m_position_38 m_faultNumber_38 m_faultPosition_38 t0_38 hF H locs hW ls hl
        unfold fReader_nextLength_J38 at hF
        refine lv_istore (lv' := [(5, .int t0_38), (0, .ref a_self), (2, .int x2_38), (3, .int x3_38)]) hx hb dX3_nextLength_38 hl (by decide) rfl (fun ls hl => ?_)
        refine lv_iload hx hb dX3_nextLength_40 (lv_at hl 0 rfl) ?_
        refine lv_iconst (v := (-1)) hx hb dX3_nextLength_42 (by decide) ?_
        refine lv_icmp_ne (tgt := 48) hx hb dX3_nextLength_43 (by decide) (fun c43 => ?_) (fun c43 => ?_)
        · rw [if_neg c43] at hF
          refine lv_iload_n hx hb dX3_nextLength_48 rfl (lv_at hl 2 rfl) ?_
          refine lv_iload hx hb dX3_nextLength_49 (lv_at hl 0 rfl) ?_
          refine lv_iconst (v := 1) hx hb dX3_nextLength_51 (by decide) ?_
          refine lv_icmp_ne (tgt := 59) hx hb dX3_nextLength_52 (by decide) (fun c52 => ?_) (fun c52 => ?_)
          · rw [if_neg c52] at hF
            refine lv_iconst (v := 1) hx hb dX3_nextLength_59 (by decide) ?_
            exact hJ60 _ _ _ _ _ _ hF _ _ hW _ (lv_sub hl [1, 3] rfl)
          · rw [if_pos c52] at hF
            refine lv_iconst (v := (-1)) hx hb dX3_nextLength_55 (by decide) ?_
            refine lv_goto (tgt := 60) hx hb dX3_nextLength_56 (by decide) ?_
            exact hJ60 _ _ _ _ _ _ hF _ _ hW _ (lv_sub hl [1, 3] rfl)
        · rw [if_pos c43] at hF
          refine lv_iconst (v := (-1)) hx hb dX3_nextLength_46 (by decide) ?_
          cases hF
          have hq0 := itr_out hN4
          subst hq0
          have hF := bs_inr hq4
          cases hF
          subst hQ
          exact ct_iret hx hb hr hlocks hW.1 hW.2.2 dX3_nextLength_47
      refine lv_iload_n hx hb dX3_nextLength_4 rfl (lv_at hl 2 rfl) ?_
      refine lv_sipush (v := 1500) hx hb dX3_nextLength_5 (by decide) ?_
      refine lv_icmp_gt (tgt := 87) hx hb dX3_nextLength_8 (by decide) (fun c8 => ?_) (fun c8 => ?_)
      · rw [if_pos c8] at hF
        cases hF
        exact hX4 _ _ _ (itr_out hN4) _ _ hW _ (lv_sub hl [0] rfl)
      · rw [if_neg c8] at hF
        refine lv_aload_n hx hb dX3_nextLength_11 rfl (lv_at hl 0 rfl) ?_
        obtain ⟨r_12, m_position_12, m_faultNumber_12, m_faultPosition_12, e12, hF⟩ := bd4_some hF
        refine ctV (wn := [ob a_self 3 [Value.ref a_tape, Value.ref a_signs, Value.ref a_choices, Value.ref a_list, Value.ref a_order, Value.ref a_codes, Value.int m_tables, Value.int m_groups, Value.int m_kinds, Value.int m_zeroPower, Value.int m_position_12, Value.int m_faultNumber_12, Value.int m_faultPosition_12], ob a_tape 5 [Value.ref a_tape_values, Value.int m_tape_count], ia cI a_tape_values 1500 m_tape_values]) (r := (RX3, TX3, 13)) (As := []) (rest := []) hx hb hml hown hts hK hW hA hl.1 (kReader_nextBit l D cI cZ cO cG a_self a_tape a_signs a_choices a_list a_order a_codes a_tape_values m_tables m_groups m_kinds m_zeroPower m_position_4 m_faultNumber_4 m_faultPosition_4 m_tape_count m_tape_values e12) (cwV 0 hts gX3_nextLength_X3_nextBit rfl rfl rfl (by decide +kernel) ⟨Nat.le_of_ble_eq_true rfl, Nat.le_of_ble_eq_true rfl⟩) 3 0 rfl rfl [0, 1, 2] [] 3 rfl rfl rfl rfl [] rfl rfl rfl rfl rfl (Nat.le_of_ble_eq_true rfl) rfl ⟨Nat.zero_le _, Nat.zero_le _⟩ dX3_nextLength_12 (fun H locs hW => ?_)
        refine lv_istore (lv' := [(4, .int r_12), (0, .ref a_self), (2, .int x2_4), (3, .int x3_4)]) hx hb dX3_nextLength_15 hl (by decide) rfl (fun ls hl => ?_)
        refine lv_iload hx hb dX3_nextLength_17 (lv_at hl 0 rfl) ?_
        refine lv_if_ne (tgt := 24) hx hb dX3_nextLength_19 (by decide) (fun c19 => ?_) (fun c19 => ?_)
        · rw [if_neg c19] at hF
          refine lv_iload hx hb dX3_nextLength_24 (lv_at hl 0 rfl) ?_
          refine lv_iconst (v := (-1)) hx hb dX3_nextLength_26 (by decide) ?_
          refine lv_icmp_ne (tgt := 34) hx hb dX3_nextLength_27 (by decide) (fun c27 => ?_) (fun c27 => ?_)
          · rw [if_neg c27] at hF
            refine lv_aload_n hx hb dX3_nextLength_34 rfl (lv_at hl 1 rfl) ?_
            obtain ⟨r_35, m_position_35, m_faultNumber_35, m_faultPosition_35, e35, hF⟩ := bd4_some hF
            refine ctV (wn := [ob a_self 3 [Value.ref a_tape, Value.ref a_signs, Value.ref a_choices, Value.ref a_list, Value.ref a_order, Value.ref a_codes, Value.int m_tables, Value.int m_groups, Value.int m_kinds, Value.int m_zeroPower, Value.int m_position_35, Value.int m_faultNumber_35, Value.int m_faultPosition_35], ob a_tape 5 [Value.ref a_tape_values, Value.int m_tape_count], ia cI a_tape_values 1500 m_tape_values]) (r := (RX3, TX3, 13)) (As := []) (rest := []) hx hb hml hown hts hK hW hA hl.1 (kReader_nextBit l D cI cZ cO cG a_self a_tape a_signs a_choices a_list a_order a_codes a_tape_values m_tables m_groups m_kinds m_zeroPower m_position_12 m_faultNumber_12 m_faultPosition_12 m_tape_count m_tape_values e35) (cwV 0 hts gX3_nextLength_X3_nextBit rfl rfl rfl (by decide +kernel) ⟨Nat.le_of_ble_eq_true rfl, Nat.le_of_ble_eq_true rfl⟩) 3 0 rfl rfl [0, 1, 2] [] 3 rfl rfl rfl rfl [] rfl rfl rfl rfl rfl (Nat.le_of_ble_eq_true rfl) rfl ⟨Nat.zero_le _, Nat.zero_le _⟩ dX3_nextLength_35 (fun H locs hW => ?_)
            exact hJ38 _ _ _ _ _ _ hF _ _ hW _ (lv_sub hl [1, 2, 3] rfl)
          · rw [if_pos c27] at hF
            refine lv_iconst (v := (-1)) hx hb dX3_nextLength_30 (by decide) ?_
            refine lv_goto (tgt := 38) hx hb dX3_nextLength_31 (by decide) ?_
            exact hJ38 _ _ _ _ _ _ hF _ _ hW _ (lv_sub hl [1, 2, 3] rfl)
        · rw [if_pos c19] at hF
          refine lv_iload_n hx hb dX3_nextLength_22 rfl (lv_at hl 2 rfl) ?_
          cases hF
          have hq0 := itr_out hN4
          subst hq0
          have hF := bs_inr hq4
          cases hF
          subst hQ
          exact ct_iret hx hb hr hlocks hW.1 hW.2.2 dX3_nextLength_23
  exact hL4 nn _ _ _ _ _ hI _ _ hW _ (lv_sub hl [2, 1, 0] rfl)
abbrev rmReader_readLengths : Room := { frames := 3, cells := 0, slots := 0, locals := 67 }
set_option maxHeartbeats 4000000 in
set_option maxRecDepth 100000 in
theorem kReader_readLengths (l : Launch) (D : va_G) (cI cZ cO cG : ClassId) (a_self : Nat) (a_tape : Nat) (a_signs : Nat) (a_choices : Nat) (a_list : Nat) (a_order : Nat) (a_codes : Nat) (a_tape_values : Nat) (a_p1 : Nat) (a_p1_lengths : Nat) (a_p1_codes : Nat) (a_p1_counts : Nat) (a_p1_firsts : Nat) (a_p1_nexts : Nat) (m_tables : Int32) (m_groups : Int32) (m_kinds : Int32) (m_zeroPower : Int32) (m_position : Int32) (m_faultNumber : Int32) (m_faultPosition : Int32) (m_tape_count : Int32) (m_tape_values : Nat → Int32) (m_p1_kinds : Int32) (m_p1_filled : Int32) (m_p1_lengths : Nat → Int32) {rv : Int32} {m_position' : Int32} {m_faultNumber' : Int32} {m_faultPosition' : Int32} {m_p1_lengths' : Nat → Int32} (hF : fReader_readLengths m_kinds m_position m_faultNumber m_faultPosition m_tape_count m_tape_values m_p1_lengths = some (rv, m_position', m_faultNumber', m_faultPosition', m_p1_lengths')) : CT l yX3_readLengths wsX3_readLengths rmReader_readLengths D (tysG cI cZ cO cG) [.ref a_self, .ref a_p1] [ob a_self 3 [Value.ref a_tape, Value.ref a_signs, Value.ref a_choices, Value.ref a_list, Value.ref a_order, Value.ref a_codes, Value.int m_tables, Value.int m_groups, Value.int m_kinds, Value.int m_zeroPower, Value.int m_position, Value.int m_faultNumber, Value.int m_faultPosition], ob a_tape 5 [Value.ref a_tape_values, Value.int m_tape_count], ia cI a_tape_values 1500 m_tape_values, ob a_p1 0 [Value.ref a_p1_lengths, Value.ref a_p1_codes, Value.ref a_p1_counts, Value.ref a_p1_firsts, Value.ref a_p1_nexts, Value.int m_p1_kinds, Value.int m_p1_filled], ia cI a_p1_lengths 258 m_p1_lengths] (some (.int rv)) [ob a_self 3 [Value.ref a_tape, Value.ref a_signs, Value.ref a_choices, Value.ref a_list, Value.ref a_order, Value.ref a_codes, Value.int m_tables, Value.int m_groups, Value.int m_kinds, Value.int m_zeroPower, Value.int m_position', Value.int m_faultNumber', Value.int m_faultPosition'], ob a_tape 5 [Value.ref a_tape_values, Value.int m_tape_count], ia cI a_tape_values 1500 m_tape_values, ob a_p1 0 [Value.ref a_p1_lengths, Value.ref a_p1_codes, Value.ref a_p1_counts, Value.ref a_p1_firsts, Value.ref a_p1_nexts, Value.int m_p1_kinds, Value.int m_p1_filled], ia cI a_p1_lengths 258 m_p1_lengths'] := by
  refine CT.of (cc := cX3_readLengths) (maxL := 4) (ret := (some .boolean)) (by decide) rfl (Nat.le_of_ble_eq_true rfl) ?_
  intro p e s m below meth c A ls hx hb hr hml hts hown hlocks hK hA hP hD hS hl
  generalize hargs : ([.ref a_self, .ref a_p1] : List Value).toArray = args at hts ⊢
  generalize hQ : MQ below (ctQ D (some (.int rv)) [ob a_self 3 [Value.ref a_tape, Value.ref a_signs, Value.ref a_choices, Value.ref a_list, Value.ref a_order, Value.ref a_codes, Value.int m_tables, Value.int m_groups, Value.int m_kinds, Value.int m_zeroPower, Value.int m_position', Value.int m_faultNumber', Value.int m_faultPosition'], ob a_tape 5 [Value.ref a_tape_values, Value.int m_tape_count], ia cI a_tape_values 1500 m_tape_values, ob a_p1 0 [Value.ref a_p1_lengths, Value.ref a_p1_codes, Value.ref a_p1_counts, Value.ref a_p1_firsts, Value.ref a_p1_nexts, Value.int m_p1_kinds, Value.int m_p1_filled], ia cI a_p1_lengths 258 m_p1_lengths'] A) args s 0 0 A = Q
  have hl : lv_has ls 4 [(0, .ref a_self), (1, .ref a_p1)] := hl
  have hW : WS D A s [ob a_self 3 [Value.ref a_tape, Value.ref a_signs, Value.ref a_choices, Value.ref a_list, Value.ref a_order, Value.ref a_codes, Value.int m_tables, Value.int m_groups, Value.int m_kinds, Value.int m_zeroPower, Value.int m_position, Value.int m_faultNumber, Value.int m_faultPosition], ob a_tape 5 [Value.ref a_tape_values, Value.int m_tape_count], ia cI a_tape_values 1500 m_tape_values, ob a_p1 0 [Value.ref a_p1_lengths, Value.ref a_p1_codes, Value.ref a_p1_counts, Value.ref a_p1_firsts, Value.ref a_p1_nexts, Value.int m_p1_kinds, Value.int m_p1_filled], ia cI a_p1_lengths 258 m_p1_lengths] s.heap [] := ⟨hP, hD, hS⟩
  clear hP hD hS
  unfold fReader_readLengths at hF
  have hw0 := hts (Cond.fieldLink RX3 52 "MoveFronts$Reader" "kinds" "I") (by decide +kernel)
  have hi3 : ∀ w ∈ u_ws RX3 TX3 13, w ∈ wsX3_readLengths := by decide +kernel
  refine lv_aload_n hx hb dX3_readLengths_0 rfl (lv_at hl 0 rfl) ?_
  refine lv_iconst (v := 5) hx hb dX3_readLengths_1 (by decide) ?_
  obtain ⟨r_2, m_position_2, m_faultNumber_2, m_faultPosition_2, e2, hF⟩ := bd4_some hF
  refine ctV (wn := [ob a_self 3 [Value.ref a_tape, Value.ref a_signs, Value.ref a_choices, Value.ref a_list, Value.ref a_order, Value.ref a_codes, Value.int m_tables, Value.int m_groups, Value.int m_kinds, Value.int m_zeroPower, Value.int m_position_2, Value.int m_faultNumber_2, Value.int m_faultPosition_2], ob a_tape 5 [Value.ref a_tape_values, Value.int m_tape_count], ia cI a_tape_values 1500 m_tape_values, ob a_p1 0 [Value.ref a_p1_lengths, Value.ref a_p1_codes, Value.ref a_p1_counts, Value.ref a_p1_firsts, Value.ref a_p1_nexts, Value.int m_p1_kinds, Value.int m_p1_filled], ia cI a_p1_lengths 258 m_p1_lengths]) (r := (RX3, TX3, 13)) (As := [.int (5 : Int32)]) (rest := []) hx hb hml hown hts hK hW hA hl.1 (kReader_nextNumber l D cI cZ cO cG a_self a_tape a_signs a_choices a_list a_order a_codes a_tape_values m_tables m_groups m_kinds m_zeroPower m_position m_faultNumber m_faultPosition m_tape_count m_tape_values (5 : Int32) e2) (cwV 1 hts gX3_readLengths_X3_nextNumber rfl rfl rfl (by decide +kernel) ⟨Nat.le_of_ble_eq_true rfl, Nat.le_of_ble_eq_true rfl⟩) 3 0 rfl rfl [0, 1, 2] [3, 4] 5 rfl rfl rfl rfl [ob a_p1 0 [Value.ref a_p1_lengths, Value.ref a_p1_codes, Value.ref a_p1_counts, Value.ref a_p1_firsts, Value.ref a_p1_nexts, Value.int m_p1_kinds, Value.int m_p1_filled], ia cI a_p1_lengths 258 m_p1_lengths] rfl rfl rfl rfl rfl (Nat.le_of_ble_eq_true rfl) rfl ⟨Nat.zero_le _, Nat.zero_le _⟩ dX3_readLengths_2 (fun H locs hW => ?_)
  refine lv_istore_n (lv' := [(2, .int r_2), (0, .ref a_self), (1, .ref a_p1)]) hx hb dX3_readLengths_5 rfl hl (by decide) rfl (fun ls hl => ?_)
  refine lv_iload_n hx hb dX3_readLengths_6 rfl (lv_at hl 0 rfl) ?_
  refine lv_iconst (v := (-1)) hx hb dX3_readLengths_7 (by decide) ?_
  refine lv_icmp_ne (tgt := 13) hx hb dX3_readLengths_8 (by decide) (fun c8 => ?_) (fun c8 => ?_)
  · rw [if_neg c8] at hF
    refine lv_iload_n hx hb dX3_readLengths_13 rfl (lv_at hl 0 rfl) ?_
    refine lv_iconst (v := 1) hx hb dX3_readLengths_14 (by decide) ?_
    refine lv_icmp_lt (tgt := 24) hx hb dX3_readLengths_15 (by decide) (fun c15 => ?_) (fun c15 => ?_)
    · rw [if_pos c15] at hF
      refine lv_aload_n hx hb dX3_readLengths_24 rfl (lv_at hl 1 rfl) ?_
      refine lv_iconst (v := 5) hx hb dX3_readLengths_25 (by decide) ?_
      obtain ⟨r_26, m_faultNumber_26, m_faultPosition_26, e26, hF⟩ := bd3_some hF
      refine ctV (wn := [ob a_self 3 [Value.ref a_tape, Value.ref a_signs, Value.ref a_choices, Value.ref a_list, Value.ref a_order, Value.ref a_codes, Value.int m_tables, Value.int m_groups, Value.int m_kinds, Value.int m_zeroPower, Value.int m_position_2, Value.int m_faultNumber_26, Value.int m_faultPosition_26], ob a_tape 5 [Value.ref a_tape_values, Value.int m_tape_count], ia cI a_tape_values 1500 m_tape_values, ob a_p1 0 [Value.ref a_p1_lengths, Value.ref a_p1_codes, Value.ref a_p1_counts, Value.ref a_p1_firsts, Value.ref a_p1_nexts, Value.int m_p1_kinds, Value.int m_p1_filled], ia cI a_p1_lengths 258 m_p1_lengths]) (r := (RX3, TX3, 13)) (As := [.int (5 : Int32)]) (rest := []) hx hb hml hown hts hK hW hA hl.1 (kReader_fail l D cI cZ cO cG a_self a_tape a_signs a_choices a_list a_order a_codes m_tables m_groups m_kinds m_zeroPower m_position_2 m_faultNumber_2 m_faultPosition_2 (5 : Int32) e26) (cwV 1 hts gX3_readLengths_X3_fail rfl rfl rfl (by decide +kernel) ⟨Nat.le_of_ble_eq_true rfl, Nat.le_of_ble_eq_true rfl⟩) 3 0 rfl rfl [0] [1, 2, 3, 4] 5 rfl rfl rfl rfl [ob a_tape 5 [Value.ref a_tape_values, Value.int m_tape_count], ia cI a_tape_values 1500 m_tape_values, ob a_p1 0 [Value.ref a_p1_lengths, Value.ref a_p1_codes, Value.ref a_p1_counts, Value.ref a_p1_firsts, Value.ref a_p1_nexts, Value.int m_p1_kinds, Value.int m_p1_filled], ia cI a_p1_lengths 258 m_p1_lengths] rfl rfl rfl rfl rfl (Nat.le_of_ble_eq_true rfl) rfl ⟨Nat.zero_le _, Nat.zero_le _⟩ dX3_readLengths_26 (fun H locs hW => ?_)
      obtain ⟨g29, hF⟩ := gdB_some hF
      cases hF
      subst hQ
      exact ct_zret hx hb hr hlocks (gdB_n g29) hW.1 hW.2.2 dX3_readLengths_29
    · rw [if_neg c15] at hF
      refine lv_iload_n hx hb dX3_readLengths_18 rfl (lv_at hl 0 rfl) ?_
      refine lv_bipush (v := 20) hx hb dX3_readLengths_19 (by decide) ?_
      refine lv_icmp_le (tgt := 30) hx hb dX3_readLengths_21 (by decide) (fun c21 => ?_) (fun c21 => ?_)
      · rw [if_pos c21] at hF
        refine lv_iconst (v := 0) hx hb dX3_readLengths_30 (by decide) ?_
        refine lv_istore_n (lv' := [(3, .int (0 : Int32)), (2, .int r_2), (0, .ref a_self), (1, .ref a_p1)]) hx hb dX3_readLengths_31 rfl hl (by decide) rfl (fun ls hl => ?_)
        obtain ⟨q32, hI, hq32⟩ := bs_some hF
        obtain ⟨nn, hI⟩ := itrO_some hI
        have hX32 : ∀ (m_position_32z : Int32) (m_faultNumber_32z : Int32) (m_faultPosition_32z : Int32) (m_p1_lengths_32z : Nat → Int32), (.inl (m_position_32z, m_faultNumber_32z, m_faultPosition_32z, m_p1_lengths_32z)) = q32 → ∀ (H : Heap) (locs : List Loc), WS D A s [ob a_self 3 [Value.ref a_tape, Value.ref a_signs, Value.ref a_choices, Value.ref a_list, Value.ref a_order, Value.ref a_codes, Value.int m_tables, Value.int m_groups, Value.int m_kinds, Value.int m_zeroPower, Value.int m_position_32z, Value.int m_faultNumber_32z, Value.int m_faultPosition_32z], ob a_tape 5 [Value.ref a_tape_values, Value.int m_tape_count], ia cI a_tape_values 1500 m_tape_values, ob a_p1 0 [Value.ref a_p1_lengths, Value.ref a_p1_codes, Value.ref a_p1_counts, Value.ref a_p1_firsts, Value.ref a_p1_nexts, Value.int m_p1_kinds, Value.int m_p1_filled], ia cI a_p1_lengths 258 m_p1_lengths_32z] H locs → ∀ ls : Array Slot, lv_has ls 4 [] → W p l e (headSpec wsX3_readLengths rmReader_readLengths).room s m args below meth c H locs 0 0 Q (F0 m 65 ls []) := by
          intro m_position_32z m_faultNumber_32z m_faultPosition_32z m_p1_lengths_32z he H locs hW ls hl
          subst he
          have hF := bs_inl hq32
          rw [un4_eq] at hF
          refine lv_iconst (v := 1) hx hb dX3_readLengths_65 (by decide) ?_
          cases hF
          subst hQ
          exact ct_zret hx hb hr hlocks rfl hW.1 hW.2.2 dX3_readLengths_66
        have hL32 : ∀ (n32 : Nat) (x2_32 : Int32) (x3_32 : Int32) (m_position_32 : Int32) (m_faultNumber_32 : Int32) (m_faultPosition_32 : Int32) (m_p1_lengths_32 : Nat → Int32), itr (un6 (fReader_readLengths_L32 m_kinds m_tape_count m_tape_values)) n32 (x2_32, x3_32, m_position_32, m_faultNumber_32, m_faultPosition_32, m_p1_lengths_32) = some q32 → ∀ (H : Heap) (locs : List Loc), WS D A s [ob a_self 3 [Value.ref a_tape, Value.ref a_signs, Value.ref a_choices, Value.ref a_list, Value.ref a_order, Value.ref a_codes, Value.int m_tables, Value.int m_groups, Value.int m_kinds, Value.int m_zeroPower, Value.int m_position_32, Value.int m_faultNumber_32, Value.int m_faultPosition_32], ob a_tape 5 [Value.ref a_tape_values, Value.int m_tape_count], ia cI a_tape_values 1500 m_tape_values, ob a_p1 0 [Value.ref a_p1_lengths, Value.ref a_p1_codes, Value.ref a_p1_counts, Value.ref a_p1_firsts, Value.ref a_p1_nexts, Value.int m_p1_kinds, Value.int m_p1_filled], ia cI a_p1_lengths 258 m_p1_lengths_32] H locs → ∀ ls : Array Slot, lv_has ls 4 [(0, .ref a_self), (1, .ref a_p1), (2, .int x2_32), (3, .int x3_32)] → W p l e (headSpec wsX3_readLengths rmReader_readLengths).room s m args below meth c H locs 0 0 Q (F0 m 32 ls []) := by
          intro n32
          induction n32 with
          | zero => intro x2_32 x3_32 m_position_32 m_faultNumber_32 m_faultPosition_32 m_p1_lengths_32 hI; cases hI
          | succ n32 ih32 =>
            intro x2_32 x3_32 m_position_32 m_faultNumber_32 m_faultPosition_32 m_p1_lengths_32 hI H locs hW ls hl
            obtain ⟨sr32, hF, hN32⟩ := itr_succ hI
            have hF : fReader_readLengths_L32 m_kinds m_tape_count m_tape_values x2_32 x3_32 m_position_32 m_faultNumber_32 m_faultPosition_32 m_p1_lengths_32 = some sr32 := hF
            unfold fReader_readLengths_L32 at hF
            refine lv_iload_n hx hb dX3_readLengths_32 rfl (lv_at hl 3 rfl) ?_
            refine lv_aload_n hx hb dX3_readLengths_33 rfl (lv_at hl 0 rfl) ?_
            refine va_get (D := D) (ci := 3) (v := .int m_kinds) (C := RX3) (T := TX3) (N := 13) hx hb hts hi3 hown hK.1 hW.1 0 rfl rfl 8 (by decide) hw0 (fun _ h9 => h9) rfl dX3_readLengths_34 ?_
            refine lv_icmp_ge (tgt := 65) hx hb dX3_readLengths_37 (by decide) (fun c37 => ?_) (fun c37 => ?_)
            · rw [if_pos c37] at hF
              cases hF
              exact hX32 _ _ _ _ (itr_out hN32) _ _ hW _ (lv_sub hl [] rfl)
            · rw [if_neg c37] at hF
              refine lv_aload_n hx hb dX3_readLengths_40 rfl (lv_at hl 0 rfl) ?_
              refine lv_iload_n hx hb dX3_readLengths_41 rfl (lv_at hl 2 rfl) ?_
              obtain ⟨r_42, m_position_42, m_faultNumber_42, m_faultPosition_42, e42, hF⟩ := bd4_some hF
              refine ctV (wn := [ob a_self 3 [Value.ref a_tape, Value.ref a_signs, Value.ref a_choices, Value.ref a_list, Value.ref a_order, Value.ref a_codes, Value.int m_tables, Value.int m_groups, Value.int m_kinds, Value.int m_zeroPower, Value.int m_position_42, Value.int m_faultNumber_42, Value.int m_faultPosition_42], ob a_tape 5 [Value.ref a_tape_values, Value.int m_tape_count], ia cI a_tape_values 1500 m_tape_values, ob a_p1 0 [Value.ref a_p1_lengths, Value.ref a_p1_codes, Value.ref a_p1_counts, Value.ref a_p1_firsts, Value.ref a_p1_nexts, Value.int m_p1_kinds, Value.int m_p1_filled], ia cI a_p1_lengths 258 m_p1_lengths_32]) (r := (RX3, TX3, 13)) (As := [.int x2_32]) (rest := []) hx hb hml hown hts hK hW hA hl.1 (kReader_nextLength l D cI cZ cO cG a_self a_tape a_signs a_choices a_list a_order a_codes a_tape_values m_tables m_groups m_kinds m_zeroPower m_position_32 m_faultNumber_32 m_faultPosition_32 m_tape_count m_tape_values x2_32 e42) (cwV 1 hts gX3_readLengths_X3_nextLength rfl rfl rfl (by decide +kernel) ⟨Nat.le_of_ble_eq_true rfl, Nat.le_of_ble_eq_true rfl⟩) 3 0 rfl rfl [0, 1, 2] [3, 4] 5 rfl rfl rfl rfl [ob a_p1 0 [Value.ref a_p1_lengths, Value.ref a_p1_codes, Value.ref a_p1_counts, Value.ref a_p1_firsts, Value.ref a_p1_nexts, Value.int m_p1_kinds, Value.int m_p1_filled], ia cI a_p1_lengths 258 m_p1_lengths_32] rfl rfl rfl rfl rfl (Nat.le_of_ble_eq_true rfl) rfl ⟨Nat.zero_le _, Nat.zero_le _⟩ dX3_readLengths_42 (fun H locs hW => ?_)
              refine lv_istore_n (lv' := [(2, .int r_42), (0, .ref a_self), (1, .ref a_p1), (3, .int x3_32)]) hx hb dX3_readLengths_45 rfl hl (by decide) rfl (fun ls hl => ?_)
              refine lv_iload_n hx hb dX3_readLengths_46 rfl (lv_at hl 0 rfl) ?_
              refine lv_iconst (v := (-1)) hx hb dX3_readLengths_47 (by decide) ?_
              refine lv_icmp_ne (tgt := 53) hx hb dX3_readLengths_48 (by decide) (fun c48 => ?_) (fun c48 => ?_)
              · rw [if_neg c48] at hF
                refine lv_aload_n hx hb dX3_readLengths_53 rfl (lv_at hl 2 rfl) ?_
                refine lv_iload_n hx hb dX3_readLengths_54 rfl (lv_at hl 3 rfl) ?_
                refine lv_iload_n hx hb dX3_readLengths_55 rfl (lv_at hl 0 rfl) ?_
                obtain ⟨m_lengths_56, e56, hF⟩ := bd1_some hF
                refine ctV (wn := [ob a_self 3 [Value.ref a_tape, Value.ref a_signs, Value.ref a_choices, Value.ref a_list, Value.ref a_order, Value.ref a_codes, Value.int m_tables, Value.int m_groups, Value.int m_kinds, Value.int m_zeroPower, Value.int m_position_42, Value.int m_faultNumber_42, Value.int m_faultPosition_42], ob a_tape 5 [Value.ref a_tape_values, Value.int m_tape_count], ia cI a_tape_values 1500 m_tape_values, ob a_p1 0 [Value.ref a_p1_lengths, Value.ref a_p1_codes, Value.ref a_p1_counts, Value.ref a_p1_firsts, Value.ref a_p1_nexts, Value.int m_p1_kinds, Value.int m_p1_filled], ia cI a_p1_lengths 258 m_lengths_56]) (r := (RX0, TX0, 7)) (As := [.int x3_32, .int r_42]) (rest := []) hx hb hml hown hts hK hW hA hl.1 (kCodes_setLength l D cI cZ cO cG a_p1 a_p1_lengths a_p1_codes a_p1_counts a_p1_firsts a_p1_nexts m_p1_kinds m_p1_filled m_p1_lengths_32 x3_32 r_42 e56) (cwV 2 hts gX3_readLengths_X0_setLength rfl rfl rfl (by decide +kernel) ⟨Nat.le_of_ble_eq_true rfl, Nat.le_of_ble_eq_true rfl⟩) 0 3 rfl rfl [3, 4] [0, 1, 2] 5 rfl rfl rfl rfl [ob a_self 3 [Value.ref a_tape, Value.ref a_signs, Value.ref a_choices, Value.ref a_list, Value.ref a_order, Value.ref a_codes, Value.int m_tables, Value.int m_groups, Value.int m_kinds, Value.int m_zeroPower, Value.int m_position_42, Value.int m_faultNumber_42, Value.int m_faultPosition_42], ob a_tape 5 [Value.ref a_tape_values, Value.int m_tape_count], ia cI a_tape_values 1500 m_tape_values] rfl rfl rfl rfl rfl (Nat.le_of_ble_eq_true rfl) rfl ⟨Nat.zero_le _, Nat.zero_le _⟩ dX3_readLengths_56 (fun H locs hW => ?_)
                refine lv_iinc (v := (x3_32 + 1)) (lv' := [(3, .int (x3_32 + 1)), (2, .int r_42), (0, .ref a_self), (1, .ref a_p1)]) hx hb dX3_readLengths_59 hl (k := 3) rfl rfl (by decide) rfl (fun ls hl => ?_)
                refine lv_goto (tgt := 32) hx hb dX3_readLengths_62 (by decide) ?_
                cases hF
                exact ih32 _ _ _ _ _ _ (itr_in hN32) _ _ hW _ (lv_sub hl [2, 3, 1, 0] rfl)
              · rw [if_pos c48] at hF
                refine lv_iconst (v := 0) hx hb dX3_readLengths_51 (by decide) ?_
                cases hF
                have hq0 := itr_out hN32
                subst hq0
                have hF := bs_inr hq32
                cases hF
                subst hQ
                exact ct_zret hx hb hr hlocks rfl hW.1 hW.2.2 dX3_readLengths_52
        exact hL32 nn _ _ _ _ _ _ hI _ _ hW _ (lv_sub hl [2, 3, 1, 0] rfl)
      · rw [if_neg c21] at hF
        refine lv_aload_n hx hb dX3_readLengths_24 rfl (lv_at hl 1 rfl) ?_
        refine lv_iconst (v := 5) hx hb dX3_readLengths_25 (by decide) ?_
        obtain ⟨r_26, m_faultNumber_26, m_faultPosition_26, e26, hF⟩ := bd3_some hF
        refine ctV (wn := [ob a_self 3 [Value.ref a_tape, Value.ref a_signs, Value.ref a_choices, Value.ref a_list, Value.ref a_order, Value.ref a_codes, Value.int m_tables, Value.int m_groups, Value.int m_kinds, Value.int m_zeroPower, Value.int m_position_2, Value.int m_faultNumber_26, Value.int m_faultPosition_26], ob a_tape 5 [Value.ref a_tape_values, Value.int m_tape_count], ia cI a_tape_values 1500 m_tape_values, ob a_p1 0 [Value.ref a_p1_lengths, Value.ref a_p1_codes, Value.ref a_p1_counts, Value.ref a_p1_firsts, Value.ref a_p1_nexts, Value.int m_p1_kinds, Value.int m_p1_filled], ia cI a_p1_lengths 258 m_p1_lengths]) (r := (RX3, TX3, 13)) (As := [.int (5 : Int32)]) (rest := []) hx hb hml hown hts hK hW hA hl.1 (kReader_fail l D cI cZ cO cG a_self a_tape a_signs a_choices a_list a_order a_codes m_tables m_groups m_kinds m_zeroPower m_position_2 m_faultNumber_2 m_faultPosition_2 (5 : Int32) e26) (cwV 1 hts gX3_readLengths_X3_fail rfl rfl rfl (by decide +kernel) ⟨Nat.le_of_ble_eq_true rfl, Nat.le_of_ble_eq_true rfl⟩) 3 0 rfl rfl [0] [1, 2, 3, 4] 5 rfl rfl rfl rfl [ob a_tape 5 [Value.ref a_tape_values, Value.int m_tape_count], ia cI a_tape_values 1500 m_tape_values, ob a_p1 0 [Value.ref a_p1_lengths, Value.ref a_p1_codes, Value.ref a_p1_counts, Value.ref a_p1_firsts, Value.ref a_p1_nexts, Value.int m_p1_kinds, Value.int m_p1_filled], ia cI a_p1_lengths 258 m_p1_lengths] rfl rfl rfl rfl rfl (Nat.le_of_ble_eq_true rfl) rfl ⟨Nat.zero_le _, Nat.zero_le _⟩ dX3_readLengths_26 (fun H locs hW => ?_)
        obtain ⟨g29, hF⟩ := gdB_some hF
        cases hF
        subst hQ
        exact ct_zret hx hb hr hlocks (gdB_n g29) hW.1 hW.2.2 dX3_readLengths_29
  · rw [if_pos c8] at hF
    refine lv_iconst (v := 0) hx hb dX3_readLengths_11 (by decide) ?_
    cases hF
    subst hQ
    exact ct_zret hx hb hr hlocks rfl hW.1 hW.2.2 dX3_readLengths_12
