abbrev rmTelling_mark : Room := { frames := 0, cells := 0, slots := 0, locals := 0 }
set_option maxHeartbeats 4000000 in
set_option maxRecDepth 100000 in
theorem kTelling_mark (l : Launch) (D : va_G) (cI cZ cO cG : ClassId) (a_self : Nat) (a_block : Nat) (a_map : Nat) (a_places : Nat) (a_symbols : Nat) (a_list : Nat) (a_present : Nat) (m_present : Nat → Int32) (x1 : Int32) {m_present' : Nat → Int32} (hF : fTelling_mark m_present x1 = some m_present') : CT l yX6_mark wsX6_mark rmTelling_mark D (tysG cI cZ cO cG) [.ref a_self, .int x1] [ob a_self 6 [Value.ref a_block, Value.ref a_map, Value.ref a_places, Value.ref a_symbols, Value.ref a_list, Value.ref a_present], ia cZ a_present 256 m_present] none [ob a_self 6 [Value.ref a_block, Value.ref a_map, Value.ref a_places, Value.ref a_symbols, Value.ref a_list, Value.ref a_present], ia cZ a_present 256 m_present'] := by
  refine CT.of (cc := cX6_mark) (maxL := 2) (ret := none) (by decide) rfl (Nat.le_of_ble_eq_true rfl) ?_
  intro p e s m below meth c A ls hx hb hr hml hts hown hlocks hK hA hP hD hS hl
  generalize hargs : ([.ref a_self, .int x1] : List Value).toArray = args at hts ⊢
  generalize hQ : MQ below (ctQ D none [ob a_self 6 [Value.ref a_block, Value.ref a_map, Value.ref a_places, Value.ref a_symbols, Value.ref a_list, Value.ref a_present], ia cZ a_present 256 m_present'] A) args s 0 0 A = Q
  have hl : lv_has ls 2 [(0, .ref a_self), (1, .int x1)] := hl
  have hW : WS D A s [ob a_self 6 [Value.ref a_block, Value.ref a_map, Value.ref a_places, Value.ref a_symbols, Value.ref a_list, Value.ref a_present], ia cZ a_present 256 m_present] s.heap [] := ⟨hP, hD, hS⟩
  clear hP hD hS
  unfold fTelling_mark at hF
  have hw0 := hts (Cond.fieldLink RX6 36 "MoveFronts$Telling" "present" "[Z") (by decide +kernel)
  have hi6 : ∀ w ∈ u_ws RX6 TX6 6, w ∈ wsX6_mark := by decide +kernel
  refine lv_iload_n hx hb dX6_mark_0 rfl (lv_at hl 1 rfl) ?_
  refine lv_if_lt (tgt := 18) hx hb dX6_mark_1 (by decide) (fun c1 => ?_) (fun c1 => ?_)
  · rw [if_pos c1] at hF
    cases hF
    subst hQ
    exact ct_vret hx hb hr hlocks hW.1 hW.2.2 dX6_mark_18
  · rw [if_neg c1] at hF
    refine lv_iload_n hx hb dX6_mark_4 rfl (lv_at hl 1 rfl) ?_
    refine lv_sipush (v := 256) hx hb dX6_mark_5 (by decide) ?_
    refine lv_icmp_ge (tgt := 18) hx hb dX6_mark_8 (by decide) (fun c8 => ?_) (fun c8 => ?_)
    · rw [if_pos c8] at hF
      cases hF
      subst hQ
      exact ct_vret hx hb hr hlocks hW.1 hW.2.2 dX6_mark_18
    · rw [if_neg c8] at hF
      refine lv_aload_n hx hb dX6_mark_11 rfl (lv_at hl 0 rfl) ?_
      refine va_get (D := D) (ci := 6) (v := .ref a_present) (C := RX6) (T := TX6) (N := 6) hx hb hts hi6 hown hK.1 hW.1 0 rfl rfl 5 (by decide) hw0 (fun _ h9 => h9) rfl dX6_mark_12 ?_
      refine lv_iload_n hx hb dX6_mark_15 rfl (lv_at hl 1 rfl) ?_
      refine lv_iconst (v := 1) hx hb dX6_mark_16 (by decide) ?_
      obtain ⟨g17, hF⟩ := gdI_some hF
      refine va_zast hx hb hK.1 hW.1 hW.2.1 hW.2.2 1 1 rfl rfl g17 dX6_mark_17 (fun H locs hP hD hS => ?_)
      have hW : WS D A s [ob a_self 6 [Value.ref a_block, Value.ref a_map, Value.ref a_places, Value.ref a_symbols, Value.ref a_list, Value.ref a_present], ia cZ a_present 256 (upd m_present x1.toNatClampNeg (vp_nar .boolean (1 : Int32)))] H locs := ⟨hP, hD, hS⟩
      cases hF
      subst hQ
      exact ct_vret hx hb hr hlocks hW.1 hW.2.2 dX6_mark_18
abbrev rmTelling_tellMap : Room := { frames := 1, cells := 0, slots := 0, locals := 21 }
set_option maxHeartbeats 4000000 in
set_option maxRecDepth 100000 in
theorem kTelling_tellMap (l : Launch) (D : va_G) (cI cZ cO cG : ClassId) (a_self : Nat) (a_block : Nat) (a_map : Nat) (a_places : Nat) (a_symbols : Nat) (a_list : Nat) (a_present : Nat) (a_block_values : Nat) (a_map_values : Nat) (a_list_list : Nat) (m_block_count : Int32) (m_block_values : Nat → Int32) (m_map_count : Int32) (m_map_values : Nat → Int32) (m_list_count : Int32) (m_list_list : Nat → Int32) (m_present : Nat → Int32) {m_map_count' : Int32} {m_map_values' : Nat → Int32} {m_list_count' : Int32} {m_list_list' : Nat → Int32} {m_present' : Nat → Int32} (hF : fTelling_tellMap m_block_count m_block_values m_map_values m_list_list m_present = some (m_map_count', m_map_values', m_list_count', m_list_list', m_present')) : CT l yX6_tellMap wsX6_tellMap rmTelling_tellMap D (tysG cI cZ cO cG) [.ref a_self] [ob a_self 6 [Value.ref a_block, Value.ref a_map, Value.ref a_places, Value.ref a_symbols, Value.ref a_list, Value.ref a_present], ob a_block 5 [Value.ref a_block_values, Value.int m_block_count], ia cI a_block_values 300 m_block_values, ob a_map 5 [Value.ref a_map_values, Value.int m_map_count], ia cI a_map_values 256 m_map_values, ob a_list 1 [Value.ref a_list_list, Value.int m_list_count], ia cI a_list_list 256 m_list_list, ia cZ a_present 256 m_present] none [ob a_self 6 [Value.ref a_block, Value.ref a_map, Value.ref a_places, Value.ref a_symbols, Value.ref a_list, Value.ref a_present], ob a_block 5 [Value.ref a_block_values, Value.int m_block_count], ia cI a_block_values 300 m_block_values, ob a_map 5 [Value.ref a_map_values, Value.int m_map_count'], ia cI a_map_values 256 m_map_values', ob a_list 1 [Value.ref a_list_list, Value.int m_list_count'], ia cI a_list_list 256 m_list_list', ia cZ a_present 256 m_present'] := by
  refine CT.of (cc := cX6_tellMap) (maxL := 2) (ret := none) (by decide) rfl (Nat.le_of_ble_eq_true rfl) ?_
  intro p e s m below meth c A ls hx hb hr hml hts hown hlocks hK hA hP hD hS hl
  generalize hargs : ([.ref a_self] : List Value).toArray = args at hts ⊢
  generalize hQ : MQ below (ctQ D none [ob a_self 6 [Value.ref a_block, Value.ref a_map, Value.ref a_places, Value.ref a_symbols, Value.ref a_list, Value.ref a_present], ob a_block 5 [Value.ref a_block_values, Value.int m_block_count], ia cI a_block_values 300 m_block_values, ob a_map 5 [Value.ref a_map_values, Value.int m_map_count'], ia cI a_map_values 256 m_map_values', ob a_list 1 [Value.ref a_list_list, Value.int m_list_count'], ia cI a_list_list 256 m_list_list', ia cZ a_present 256 m_present'] A) args s 0 0 A = Q
  have hl : lv_has ls 2 [(0, .ref a_self)] := hl
  have hW : WS D A s [ob a_self 6 [Value.ref a_block, Value.ref a_map, Value.ref a_places, Value.ref a_symbols, Value.ref a_list, Value.ref a_present], ob a_block 5 [Value.ref a_block_values, Value.int m_block_count], ia cI a_block_values 300 m_block_values, ob a_map 5 [Value.ref a_map_values, Value.int m_map_count], ia cI a_map_values 256 m_map_values, ob a_list 1 [Value.ref a_list_list, Value.int m_list_count], ia cI a_list_list 256 m_list_list, ia cZ a_present 256 m_present] s.heap [] := ⟨hP, hD, hS⟩
  clear hP hD hS
  unfold fTelling_tellMap at hF
  have hw0 := hts (Cond.fieldLink RX6 20 "MoveFronts$Telling" "map" "LMoveFronts$Row;") (by decide +kernel)
  have hw1 := hts (Cond.fieldLink RX6 32 "MoveFronts$Telling" "list" "LMoveFronts$Front;") (by decide +kernel)
  have hw2 := hts (Cond.fieldLink RX6 36 "MoveFronts$Telling" "present" "[Z") (by decide +kernel)
  have hw3 := hts (Cond.fieldLink RX6 9 "MoveFronts$Telling" "block" "LMoveFronts$Row;") (by decide +kernel)
  have hi6 : ∀ w ∈ u_ws RX6 TX6 6, w ∈ wsX6_tellMap := by decide +kernel
  refine lv_aload_n hx hb dX6_tellMap_0 rfl (lv_at hl 0 rfl) ?_
  refine va_get (D := D) (ci := 6) (v := .ref a_map) (C := RX6) (T := TX6) (N := 6) hx hb hts hi6 hown hK.1 hW.1 0 rfl rfl 1 (by decide) hw0 (fun _ h9 => h9) rfl dX6_tellMap_1 ?_
  obtain ⟨m_count_4, e4, hF⟩ := bd1_some hF
  refine ctV (wn := [ob a_self 6 [Value.ref a_block, Value.ref a_map, Value.ref a_places, Value.ref a_symbols, Value.ref a_list, Value.ref a_present], ob a_block 5 [Value.ref a_block_values, Value.int m_block_count], ia cI a_block_values 300 m_block_values, ob a_map 5 [Value.ref a_map_values, Value.int m_count_4], ia cI a_map_values 256 m_map_values, ob a_list 1 [Value.ref a_list_list, Value.int m_list_count], ia cI a_list_list 256 m_list_list, ia cZ a_present 256 m_present]) (r := (RX5, TX5, 2)) (As := []) (rest := []) hx hb hml hown hts hK hW hA hl.1 (kRow_clear l D cI cZ cO cG a_map a_map_values m_map_count e4) (cwV 0 hts gX6_tellMap_X5_clear rfl rfl rfl (by decide +kernel) ⟨Nat.le_of_ble_eq_true rfl, Nat.le_of_ble_eq_true rfl⟩) 5 3 rfl rfl [3] [0, 1, 2, 4, 5, 6, 7] 8 rfl rfl rfl rfl [ob a_self 6 [Value.ref a_block, Value.ref a_map, Value.ref a_places, Value.ref a_symbols, Value.ref a_list, Value.ref a_present], ob a_block 5 [Value.ref a_block_values, Value.int m_block_count], ia cI a_block_values 300 m_block_values, ia cI a_map_values 256 m_map_values, ob a_list 1 [Value.ref a_list_list, Value.int m_list_count], ia cI a_list_list 256 m_list_list, ia cZ a_present 256 m_present] rfl rfl rfl rfl rfl (Nat.le_of_ble_eq_true rfl) rfl ⟨Nat.zero_le _, Nat.zero_le _⟩ dX6_tellMap_4 (fun H locs hW => ?_)
  refine lv_aload_n hx hb dX6_tellMap_7 rfl (lv_at hl 0 rfl) ?_
  refine va_get (D := D) (ci := 6) (v := .ref a_list) (C := RX6) (T := TX6) (N := 6) hx hb hts hi6 hown hK.1 hW.1 0 rfl rfl 4 (by decide) hw1 (fun _ h9 => h9) rfl dX6_tellMap_8 ?_
  obtain ⟨m_count_11, e11, hF⟩ := bd1_some hF
  refine ctV (wn := [ob a_self 6 [Value.ref a_block, Value.ref a_map, Value.ref a_places, Value.ref a_symbols, Value.ref a_list, Value.ref a_present], ob a_block 5 [Value.ref a_block_values, Value.int m_block_count], ia cI a_block_values 300 m_block_values, ob a_map 5 [Value.ref a_map_values, Value.int m_count_4], ia cI a_map_values 256 m_map_values, ob a_list 1 [Value.ref a_list_list, Value.int m_count_11], ia cI a_list_list 256 m_list_list, ia cZ a_present 256 m_present]) (r := (RX1, TX1, 2)) (As := []) (rest := []) hx hb hml hown hts hK hW hA hl.1 (kFront_clear l D cI cZ cO cG a_list a_list_list m_list_count e11) (cwV 0 hts gX6_tellMap_X1_clear rfl rfl rfl (by decide +kernel) ⟨Nat.le_of_ble_eq_true rfl, Nat.le_of_ble_eq_true rfl⟩) 1 5 rfl rfl [5] [0, 1, 2, 3, 4, 6, 7] 8 rfl rfl rfl rfl [ob a_self 6 [Value.ref a_block, Value.ref a_map, Value.ref a_places, Value.ref a_symbols, Value.ref a_list, Value.ref a_present], ob a_block 5 [Value.ref a_block_values, Value.int m_block_count], ia cI a_block_values 300 m_block_values, ob a_map 5 [Value.ref a_map_values, Value.int m_count_4], ia cI a_map_values 256 m_map_values, ia cI a_list_list 256 m_list_list, ia cZ a_present 256 m_present] rfl rfl rfl rfl rfl (Nat.le_of_ble_eq_true rfl) rfl ⟨Nat.zero_le _, Nat.zero_le _⟩ dX6_tellMap_11 (fun H locs hW => ?_)
  refine lv_iconst (v := 0) hx hb dX6_tellMap_14 (by decide) ?_
  refine lv_istore_n (lv' := [(1, .int (0 : Int32)), (0, .ref a_self)]) hx hb dX6_tellMap_15 rfl hl (by decide) rfl (fun ls hl => ?_)
  obtain ⟨m_present_16ze, hI, hF⟩ := bd1_some hF
  obtain ⟨nn, hI⟩ := itrO_some hI
  have hX16 : ∀ (m_present_16z : Nat → Int32), m_present_16z = m_present_16ze → ∀ (H : Heap) (locs : List Loc), WS D A s [ob a_self 6 [Value.ref a_block, Value.ref a_map, Value.ref a_places, Value.ref a_symbols, Value.ref a_list, Value.ref a_present], ob a_block 5 [Value.ref a_block_values, Value.int m_block_count], ia cI a_block_values 300 m_block_values, ob a_map 5 [Value.ref a_map_values, Value.int m_count_4], ia cI a_map_values 256 m_map_values, ob a_list 1 [Value.ref a_list_list, Value.int m_count_11], ia cI a_list_list 256 m_list_list, ia cZ a_present 256 m_present_16z] H locs → ∀ ls : Array Slot, lv_has ls 2 [(0, .ref a_self)] → W p l e (headSpec wsX6_tellMap rmTelling_tellMap).room s m args below meth c H locs 0 0 Q (F0 m 36 ls []) := by
    intro m_present_16z he H locs hW ls hl
    subst he
    refine lv_iconst (v := 0) hx hb dX6_tellMap_36 (by decide) ?_
    refine lv_istore_n (lv' := [(1, .int (0 : Int32)), (0, .ref a_self)]) hx hb dX6_tellMap_37 rfl hl (by decide) rfl (fun ls hl => ?_)
    obtain ⟨m_present_38ze, hI, hF⟩ := bd1_some hF
    obtain ⟨nn, hI⟩ := itrO_some hI
    have hX38 : ∀ (m_present_38z : Nat → Int32), m_present_38z = m_present_38ze → ∀ (H : Heap) (locs : List Loc), WS D A s [ob a_self 6 [Value.ref a_block, Value.ref a_map, Value.ref a_places, Value.ref a_symbols, Value.ref a_list, Value.ref a_present], ob a_block 5 [Value.ref a_block_values, Value.int m_block_count], ia cI a_block_values 300 m_block_values, ob a_map 5 [Value.ref a_map_values, Value.int m_count_4], ia cI a_map_values 256 m_map_values, ob a_list 1 [Value.ref a_list_list, Value.int m_count_11], ia cI a_list_list 256 m_list_list, ia cZ a_present 256 m_present_38z] H locs → ∀ ls : Array Slot, lv_has ls 2 [(0, .ref a_self)] → W p l e (headSpec wsX6_tellMap rmTelling_tellMap).room s m args below meth c H locs 0 0 Q (F0 m 67 ls []) := by
      intro m_present_38z he H locs hW ls hl
      subst he
      refine lv_iconst (v := 0) hx hb dX6_tellMap_67 (by decide) ?_
      refine lv_istore_n (lv' := [(1, .int (0 : Int32)), (0, .ref a_self)]) hx hb dX6_tellMap_68 rfl hl (by decide) rfl (fun ls hl => ?_)
      obtain ⟨m_map_count_69ze, m_map_values_69ze, m_list_count_69ze, m_list_list_69ze, hI, hF⟩ := bd4_some hF
      obtain ⟨nn, hI⟩ := itrO_some hI
      have hX69 : ∀ (m_map_count_69z : Int32) (m_map_values_69z : Nat → Int32) (m_list_count_69z : Int32) (m_list_list_69z : Nat → Int32), (m_map_count_69z, m_map_values_69z, m_list_count_69z, m_list_list_69z) = (m_map_count_69ze, m_map_values_69ze, m_list_count_69ze, m_list_list_69ze) → ∀ (H : Heap) (locs : List Loc), WS D A s [ob a_self 6 [Value.ref a_block, Value.ref a_map, Value.ref a_places, Value.ref a_symbols, Value.ref a_list, Value.ref a_present], ob a_block 5 [Value.ref a_block_values, Value.int m_block_count], ia cI a_block_values 300 m_block_values, ob a_map 5 [Value.ref a_map_values, Value.int m_map_count_69z], ia cI a_map_values 256 m_map_values_69z, ob a_list 1 [Value.ref a_list_list, Value.int m_list_count_69z], ia cI a_list_list 256 m_list_list_69z, ia cZ a_present 256 m_present_38z] H locs → ∀ ls : Array Slot, lv_has ls 2 [] → W p l e (headSpec wsX6_tellMap rmTelling_tellMap).room s m args below meth c H locs 0 0 Q (F0 m 107 ls []) := by
        intro m_map_count_69z m_map_values_69z m_list_count_69z m_list_list_69z he H locs hW ls hl
        obtain ⟨hz0, hy0⟩ := Prod.mk.inj he
        obtain ⟨hz1, hy1⟩ := Prod.mk.inj hy0
        obtain ⟨hz2, hy2⟩ := Prod.mk.inj hy1
        subst hz0
        subst hz1
        subst hz2
        subst hy2
        cases hF
        subst hQ
        exact ct_vret hx hb hr hlocks hW.1 hW.2.2 dX6_tellMap_107
      have hL69 : ∀ (n69 : Nat) (x1_69 : Int32) (m_map_count_69 : Int32) (m_map_values_69 : Nat → Int32) (m_list_count_69 : Int32) (m_list_list_69 : Nat → Int32), itr (un5 (fTelling_tellMap_L69 m_present_38z)) n69 (x1_69, m_map_count_69, m_map_values_69, m_list_count_69, m_list_list_69) = some (m_map_count_69ze, m_map_values_69ze, m_list_count_69ze, m_list_list_69ze) → ∀ (H : Heap) (locs : List Loc), WS D A s [ob a_self 6 [Value.ref a_block, Value.ref a_map, Value.ref a_places, Value.ref a_symbols, Value.ref a_list, Value.ref a_present], ob a_block 5 [Value.ref a_block_values, Value.int m_block_count], ia cI a_block_values 300 m_block_values, ob a_map 5 [Value.ref a_map_values, Value.int m_map_count_69], ia cI a_map_values 256 m_map_values_69, ob a_list 1 [Value.ref a_list_list, Value.int m_list_count_69], ia cI a_list_list 256 m_list_list_69, ia cZ a_present 256 m_present_38z] H locs → ∀ ls : Array Slot, lv_has ls 2 [(0, .ref a_self), (1, .int x1_69)] → W p l e (headSpec wsX6_tellMap rmTelling_tellMap).room s m args below meth c H locs 0 0 Q (F0 m 69 ls []) := by
        intro n69
        induction n69 with
        | zero => intro x1_69 m_map_count_69 m_map_values_69 m_list_count_69 m_list_list_69 hI; cases hI
        | succ n69 ih69 =>
          intro x1_69 m_map_count_69 m_map_values_69 m_list_count_69 m_list_list_69 hI H locs hW ls hl
          obtain ⟨sr69, hF, hN69⟩ := itr_succ hI
          have hF : fTelling_tellMap_L69 m_present_38z x1_69 m_map_count_69 m_map_values_69 m_list_count_69 m_list_list_69 = some sr69 := hF
          unfold fTelling_tellMap_L69 at hF
          refine lv_iload_n hx hb dX6_tellMap_69 rfl (lv_at hl 1 rfl) ?_
          refine lv_sipush (v := 256) hx hb dX6_tellMap_70 (by decide) ?_
          refine lv_icmp_ge (tgt := 107) hx hb dX6_tellMap_73 (by decide) (fun c73 => ?_) (fun c73 => ?_)
          · rw [if_pos c73] at hF
            cases hF
            exact hX69 _ _ _ _ (itr_out hN69) _ _ hW _ (lv_sub hl [] rfl)
          · rw [if_neg c73] at hF
            refine lv_aload_n hx hb dX6_tellMap_76 rfl (lv_at hl 0 rfl) ?_
            refine va_get (D := D) (ci := 6) (v := .ref a_present) (C := RX6) (T := TX6) (N := 6) hx hb hts hi6 hown hK.1 hW.1 0 rfl rfl 5 (by decide) hw2 (fun _ h9 => h9) rfl dX6_tellMap_77 ?_
            refine lv_iload_n hx hb dX6_tellMap_80 rfl (lv_at hl 1 rfl) ?_
            obtain ⟨g81, hF⟩ := gdI_some hF
            refine va_zald hx hb hK.1 hW.1 7 1 rfl rfl g81 dX6_tellMap_81 ?_
            refine lv_if_eq (tgt := 101) hx hb dX6_tellMap_82 (by decide) (fun c82 => ?_) (fun c82 => ?_)
            · rw [if_pos c82] at hF
              refine lv_iinc (v := (x1_69 + 1)) (lv' := [(1, .int (x1_69 + 1)), (0, .ref a_self)]) hx hb dX6_tellMap_101 hl (k := 1) rfl rfl (by decide) rfl (fun ls hl => ?_)
              refine lv_goto (tgt := 69) hx hb dX6_tellMap_104 (by decide) ?_
              cases hF
              exact ih69 _ _ _ _ _ (itr_in hN69) _ _ hW _ (lv_sub hl [1, 0] rfl)
            · rw [if_neg c82] at hF
              refine lv_aload_n hx hb dX6_tellMap_85 rfl (lv_at hl 0 rfl) ?_
              refine va_get (D := D) (ci := 6) (v := .ref a_map) (C := RX6) (T := TX6) (N := 6) hx hb hts hi6 hown hK.1 hW.1 0 rfl rfl 1 (by decide) hw0 (fun _ h9 => h9) rfl dX6_tellMap_86 ?_
              refine lv_iload_n hx hb dX6_tellMap_89 rfl (lv_at hl 1 rfl) ?_
              obtain ⟨m_count_90, m_values_90, e90, hF⟩ := bd2_some hF
              refine ctV (wn := [ob a_self 6 [Value.ref a_block, Value.ref a_map, Value.ref a_places, Value.ref a_symbols, Value.ref a_list, Value.ref a_present], ob a_block 5 [Value.ref a_block_values, Value.int m_block_count], ia cI a_block_values 300 m_block_values, ob a_map 5 [Value.ref a_map_values, Value.int m_count_90], ia cI a_map_values 256 m_values_90, ob a_list 1 [Value.ref a_list_list, Value.int m_list_count_69], ia cI a_list_list 256 m_list_list_69, ia cZ a_present 256 m_present_38z]) (r := (RX5, TX5, 2)) (As := [.int x1_69]) (rest := []) hx hb hml hown hts hK hW hA hl.1 (kRow_add l D cI cZ cO cG a_map a_map_values 256 m_map_count_69 m_map_values_69 x1_69 e90) (cwV 1 hts gX6_tellMap_X5_add rfl rfl rfl (by decide +kernel) ⟨Nat.le_of_ble_eq_true rfl, Nat.le_of_ble_eq_true rfl⟩) 5 3 rfl rfl [3, 4] [0, 1, 2, 5, 6, 7] 8 rfl rfl rfl rfl [ob a_self 6 [Value.ref a_block, Value.ref a_map, Value.ref a_places, Value.ref a_symbols, Value.ref a_list, Value.ref a_present], ob a_block 5 [Value.ref a_block_values, Value.int m_block_count], ia cI a_block_values 300 m_block_values, ob a_list 1 [Value.ref a_list_list, Value.int m_list_count_69], ia cI a_list_list 256 m_list_list_69, ia cZ a_present 256 m_present_38z] rfl rfl rfl rfl rfl (Nat.le_of_ble_eq_true rfl) rfl ⟨Nat.zero_le _, Nat.zero_le _⟩ dX6_tellMap_90 (fun H locs hW => ?_)
              refine lv_aload_n hx hb dX6_tellMap_93 rfl (lv_at hl 0 rfl) ?_
              refine va_get (D := D) (ci := 6) (v := .ref a_list) (C := RX6) (T := TX6) (N := 6) hx hb hts hi6 hown hK.1 hW.1 0 rfl rfl 4 (by decide) hw1 (fun _ h9 => h9) rfl dX6_tellMap_94 ?_
              refine lv_iload_n hx hb dX6_tellMap_97 rfl (lv_at hl 1 rfl) ?_
              obtain ⟨m_count_98, m_list_98, e98, hF⟩ := bd2_some hF
              refine ctV (wn := [ob a_self 6 [Value.ref a_block, Value.ref a_map, Value.ref a_places, Value.ref a_symbols, Value.ref a_list, Value.ref a_present], ob a_block 5 [Value.ref a_block_values, Value.int m_block_count], ia cI a_block_values 300 m_block_values, ob a_map 5 [Value.ref a_map_values, Value.int m_count_90], ia cI a_map_values 256 m_values_90, ob a_list 1 [Value.ref a_list_list, Value.int m_count_98], ia cI a_list_list 256 m_list_98, ia cZ a_present 256 m_present_38z]) (r := (RX1, TX1, 2)) (As := [.int x1_69]) (rest := []) hx hb hml hown hts hK hW hA hl.1 (kFront_add l D cI cZ cO cG a_list a_list_list 256 m_list_count_69 m_list_list_69 x1_69 e98) (cwV 1 hts gX6_tellMap_X1_add rfl rfl rfl (by decide +kernel) ⟨Nat.le_of_ble_eq_true rfl, Nat.le_of_ble_eq_true rfl⟩) 1 5 rfl rfl [5, 6] [0, 1, 2, 3, 4, 7] 8 rfl rfl rfl rfl [ob a_self 6 [Value.ref a_block, Value.ref a_map, Value.ref a_places, Value.ref a_symbols, Value.ref a_list, Value.ref a_present], ob a_block 5 [Value.ref a_block_values, Value.int m_block_count], ia cI a_block_values 300 m_block_values, ob a_map 5 [Value.ref a_map_values, Value.int m_count_90], ia cI a_map_values 256 m_values_90, ia cZ a_present 256 m_present_38z] rfl rfl rfl rfl rfl (Nat.le_of_ble_eq_true rfl) rfl ⟨Nat.zero_le _, Nat.zero_le _⟩ dX6_tellMap_98 (fun H locs hW => ?_)
              refine lv_iinc (v := (x1_69 + 1)) (lv' := [(1, .int (x1_69 + 1)), (0, .ref a_self)]) hx hb dX6_tellMap_101 hl (k := 1) rfl rfl (by decide) rfl (fun ls hl => ?_)
              refine lv_goto (tgt := 69) hx hb dX6_tellMap_104 (by decide) ?_
              cases hF
              exact ih69 _ _ _ _ _ (itr_in hN69) _ _ hW _ (lv_sub hl [1, 0] rfl)
      exact hL69 nn _ _ _ _ _ hI _ _ hW _ (lv_sub hl [1, 0] rfl)
    have hL38 : ∀ (n38 : Nat) (x1_38 : Int32) (m_present_38 : Nat → Int32), itr (un2 (fTelling_tellMap_L38 m_block_count m_block_values)) n38 (x1_38, m_present_38) = some m_present_38ze → ∀ (H : Heap) (locs : List Loc), WS D A s [ob a_self 6 [Value.ref a_block, Value.ref a_map, Value.ref a_places, Value.ref a_symbols, Value.ref a_list, Value.ref a_present], ob a_block 5 [Value.ref a_block_values, Value.int m_block_count], ia cI a_block_values 300 m_block_values, ob a_map 5 [Value.ref a_map_values, Value.int m_count_4], ia cI a_map_values 256 m_map_values, ob a_list 1 [Value.ref a_list_list, Value.int m_count_11], ia cI a_list_list 256 m_list_list, ia cZ a_present 256 m_present_38] H locs → ∀ ls : Array Slot, lv_has ls 2 [(0, .ref a_self), (1, .int x1_38)] → W p l e (headSpec wsX6_tellMap rmTelling_tellMap).room s m args below meth c H locs 0 0 Q (F0 m 38 ls []) := by
      intro n38
      induction n38 with
      | zero => intro x1_38 m_present_38 hI; cases hI
      | succ n38 ih38 =>
        intro x1_38 m_present_38 hI H locs hW ls hl
        obtain ⟨sr38, hF, hN38⟩ := itr_succ hI
        have hF : fTelling_tellMap_L38 m_block_count m_block_values x1_38 m_present_38 = some sr38 := hF
        unfold fTelling_tellMap_L38 at hF
        refine lv_iload_n hx hb dX6_tellMap_38 rfl (lv_at hl 1 rfl) ?_
        refine lv_aload_n hx hb dX6_tellMap_39 rfl (lv_at hl 0 rfl) ?_
        refine va_get (D := D) (ci := 6) (v := .ref a_block) (C := RX6) (T := TX6) (N := 6) hx hb hts hi6 hown hK.1 hW.1 0 rfl rfl 0 (by decide) hw3 (fun _ h9 => h9) rfl dX6_tellMap_40 ?_
        obtain ⟨r_43, e43, hF⟩ := bd1_some hF
        refine ctV (wn := [ob a_self 6 [Value.ref a_block, Value.ref a_map, Value.ref a_places, Value.ref a_symbols, Value.ref a_list, Value.ref a_present], ob a_block 5 [Value.ref a_block_values, Value.int m_block_count], ia cI a_block_values 300 m_block_values, ob a_map 5 [Value.ref a_map_values, Value.int m_count_4], ia cI a_map_values 256 m_map_values, ob a_list 1 [Value.ref a_list_list, Value.int m_count_11], ia cI a_list_list 256 m_list_list, ia cZ a_present 256 m_present_38]) (r := (RX5, TX5, 2)) (As := []) (rest := [.int x1_38]) hx hb hml hown hts hK hW hA hl.1 (kRow_size l D cI cZ cO cG a_block a_block_values m_block_count e43) (cwV 0 hts gX6_tellMap_X5_size rfl rfl rfl (by decide +kernel) ⟨Nat.le_of_ble_eq_true rfl, Nat.le_of_ble_eq_true rfl⟩) 5 1 rfl rfl [1] [0, 2, 3, 4, 5, 6, 7] 8 rfl rfl rfl rfl [ob a_self 6 [Value.ref a_block, Value.ref a_map, Value.ref a_places, Value.ref a_symbols, Value.ref a_list, Value.ref a_present], ia cI a_block_values 300 m_block_values, ob a_map 5 [Value.ref a_map_values, Value.int m_count_4], ia cI a_map_values 256 m_map_values, ob a_list 1 [Value.ref a_list_list, Value.int m_count_11], ia cI a_list_list 256 m_list_list, ia cZ a_present 256 m_present_38] rfl rfl rfl rfl rfl (Nat.le_of_ble_eq_true rfl) rfl ⟨Nat.zero_le _, Nat.zero_le _⟩ dX6_tellMap_43 (fun H locs hW => ?_)
        refine lv_icmp_ge (tgt := 67) hx hb dX6_tellMap_46 (by decide) (fun c46 => ?_) (fun c46 => ?_)
        · rw [if_pos c46] at hF
          cases hF
          exact hX38 _ (itr_out hN38) _ _ hW _ (lv_sub hl [0] rfl)
        · rw [if_neg c46] at hF
          refine lv_aload_n hx hb dX6_tellMap_49 rfl (lv_at hl 0 rfl) ?_
          refine lv_aload_n hx hb dX6_tellMap_50 rfl (lv_at hl 0 rfl) ?_
          refine va_get (D := D) (ci := 6) (v := .ref a_block) (C := RX6) (T := TX6) (N := 6) hx hb hts hi6 hown hK.1 hW.1 0 rfl rfl 0 (by decide) hw3 (fun _ h9 => h9) rfl dX6_tellMap_51 ?_
          refine lv_iload_n hx hb dX6_tellMap_54 rfl (lv_at hl 1 rfl) ?_
          obtain ⟨r_55, e55, hF⟩ := bd1_some hF
          refine ctV (wn := [ob a_self 6 [Value.ref a_block, Value.ref a_map, Value.ref a_places, Value.ref a_symbols, Value.ref a_list, Value.ref a_present], ob a_block 5 [Value.ref a_block_values, Value.int m_block_count], ia cI a_block_values 300 m_block_values, ob a_map 5 [Value.ref a_map_values, Value.int m_count_4], ia cI a_map_values 256 m_map_values, ob a_list 1 [Value.ref a_list_list, Value.int m_count_11], ia cI a_list_list 256 m_list_list, ia cZ a_present 256 m_present_38]) (r := (RX5, TX5, 2)) (As := [.int x1_38]) (rest := [.ref a_self]) hx hb hml hown hts hK hW hA hl.1 (kRow_get l D cI cZ cO cG a_block a_block_values 300 m_block_count m_block_values x1_38 e55) (cwV 1 hts gX6_tellMap_X5_get rfl rfl rfl (by decide +kernel) ⟨Nat.le_of_ble_eq_true rfl, Nat.le_of_ble_eq_true rfl⟩) 5 1 rfl rfl [1, 2] [0, 3, 4, 5, 6, 7] 8 rfl rfl rfl rfl [ob a_self 6 [Value.ref a_block, Value.ref a_map, Value.ref a_places, Value.ref a_symbols, Value.ref a_list, Value.ref a_present], ob a_map 5 [Value.ref a_map_values, Value.int m_count_4], ia cI a_map_values 256 m_map_values, ob a_list 1 [Value.ref a_list_list, Value.int m_count_11], ia cI a_list_list 256 m_list_list, ia cZ a_present 256 m_present_38] rfl rfl rfl rfl rfl (Nat.le_of_ble_eq_true rfl) rfl ⟨Nat.zero_le _, Nat.zero_le _⟩ dX6_tellMap_55 (fun H locs hW => ?_)
          obtain ⟨m_present_58, e58, hF⟩ := bd1_some hF
          refine ctV (wn := [ob a_self 6 [Value.ref a_block, Value.ref a_map, Value.ref a_places, Value.ref a_symbols, Value.ref a_list, Value.ref a_present], ob a_block 5 [Value.ref a_block_values, Value.int m_block_count], ia cI a_block_values 300 m_block_values, ob a_map 5 [Value.ref a_map_values, Value.int m_count_4], ia cI a_map_values 256 m_map_values, ob a_list 1 [Value.ref a_list_list, Value.int m_count_11], ia cI a_list_list 256 m_list_list, ia cZ a_present 256 m_present_58]) (r := (RX6, TX6, 6)) (As := [.int r_55]) (rest := []) hx hb hml hown hts hK hW hA hl.1 (kTelling_mark l D cI cZ cO cG a_self a_block a_map a_places a_symbols a_list a_present m_present_38 r_55 e58) (cwV 1 hts gX6_tellMap_X6_mark rfl rfl rfl (by decide +kernel) ⟨Nat.le_of_ble_eq_true rfl, Nat.le_of_ble_eq_true rfl⟩) 6 0 rfl rfl [0, 7] [1, 2, 3, 4, 5, 6] 8 rfl rfl rfl rfl [ob a_block 5 [Value.ref a_block_values, Value.int m_block_count], ia cI a_block_values 300 m_block_values, ob a_map 5 [Value.ref a_map_values, Value.int m_count_4], ia cI a_map_values 256 m_map_values, ob a_list 1 [Value.ref a_list_list, Value.int m_count_11], ia cI a_list_list 256 m_list_list] rfl rfl rfl rfl rfl (Nat.le_of_ble_eq_true rfl) rfl ⟨Nat.zero_le _, Nat.zero_le _⟩ dX6_tellMap_58 (fun H locs hW => ?_)
          refine lv_iinc (v := (x1_38 + 1)) (lv' := [(1, .int (x1_38 + 1)), (0, .ref a_self)]) hx hb dX6_tellMap_61 hl (k := 1) rfl rfl (by decide) rfl (fun ls hl => ?_)
          refine lv_goto (tgt := 38) hx hb dX6_tellMap_64 (by decide) ?_
          cases hF
          exact ih38 _ _ (itr_in hN38) _ _ hW _ (lv_sub hl [1, 0] rfl)
    exact hL38 nn _ _ hI _ _ hW _ (lv_sub hl [1, 0] rfl)
  have hL16 : ∀ (n16 : Nat) (x1_16 : Int32) (m_present_16 : Nat → Int32), itr (un2 (fTelling_tellMap_L16)) n16 (x1_16, m_present_16) = some m_present_16ze → ∀ (H : Heap) (locs : List Loc), WS D A s [ob a_self 6 [Value.ref a_block, Value.ref a_map, Value.ref a_places, Value.ref a_symbols, Value.ref a_list, Value.ref a_present], ob a_block 5 [Value.ref a_block_values, Value.int m_block_count], ia cI a_block_values 300 m_block_values, ob a_map 5 [Value.ref a_map_values, Value.int m_count_4], ia cI a_map_values 256 m_map_values, ob a_list 1 [Value.ref a_list_list, Value.int m_count_11], ia cI a_list_list 256 m_list_list, ia cZ a_present 256 m_present_16] H locs → ∀ ls : Array Slot, lv_has ls 2 [(0, .ref a_self), (1, .int x1_16)] → W p l e (headSpec wsX6_tellMap rmTelling_tellMap).room s m args below meth c H locs 0 0 Q (F0 m 16 ls []) := by
    intro n16
    induction n16 with
    | zero => intro x1_16 m_present_16 hI; cases hI
    | succ n16 ih16 =>
      intro x1_16 m_present_16 hI H locs hW ls hl
      obtain ⟨sr16, hF, hN16⟩ := itr_succ hI
      have hF : fTelling_tellMap_L16 x1_16 m_present_16 = some sr16 := hF
      unfold fTelling_tellMap_L16 at hF
      refine lv_iload_n hx hb dX6_tellMap_16 rfl (lv_at hl 1 rfl) ?_
      refine lv_sipush (v := 256) hx hb dX6_tellMap_17 (by decide) ?_
      refine lv_icmp_ge (tgt := 36) hx hb dX6_tellMap_20 (by decide) (fun c20 => ?_) (fun c20 => ?_)
      · rw [if_pos c20] at hF
        cases hF
        exact hX16 _ (itr_out hN16) _ _ hW _ (lv_sub hl [0] rfl)
      · rw [if_neg c20] at hF
        refine lv_aload_n hx hb dX6_tellMap_23 rfl (lv_at hl 0 rfl) ?_
        refine va_get (D := D) (ci := 6) (v := .ref a_present) (C := RX6) (T := TX6) (N := 6) hx hb hts hi6 hown hK.1 hW.1 0 rfl rfl 5 (by decide) hw2 (fun _ h9 => h9) rfl dX6_tellMap_24 ?_
        refine lv_iload_n hx hb dX6_tellMap_27 rfl (lv_at hl 1 rfl) ?_
        refine lv_iconst (v := 0) hx hb dX6_tellMap_28 (by decide) ?_
        obtain ⟨g29, hF⟩ := gdI_some hF
        refine va_zast hx hb hK.1 hW.1 hW.2.1 hW.2.2 7 1 rfl rfl g29 dX6_tellMap_29 (fun H locs hP hD hS => ?_)
        have hW : WS D A s [ob a_self 6 [Value.ref a_block, Value.ref a_map, Value.ref a_places, Value.ref a_symbols, Value.ref a_list, Value.ref a_present], ob a_block 5 [Value.ref a_block_values, Value.int m_block_count], ia cI a_block_values 300 m_block_values, ob a_map 5 [Value.ref a_map_values, Value.int m_count_4], ia cI a_map_values 256 m_map_values, ob a_list 1 [Value.ref a_list_list, Value.int m_count_11], ia cI a_list_list 256 m_list_list, ia cZ a_present 256 (upd m_present_16 x1_16.toNatClampNeg (vp_nar .boolean (0 : Int32)))] H locs := ⟨hP, hD, hS⟩
        refine lv_iinc (v := (x1_16 + 1)) (lv' := [(1, .int (x1_16 + 1)), (0, .ref a_self)]) hx hb dX6_tellMap_30 hl (k := 1) rfl rfl (by decide) rfl (fun ls hl => ?_)
        refine lv_goto (tgt := 16) hx hb dX6_tellMap_33 (by decide) ?_
        cases hF
        exact ih16 _ _ (itr_in hN16) _ _ hW _ (lv_sub hl [1, 0] rfl)
  exact hL16 nn _ _ hI _ _ hW _ (lv_sub hl [1, 0] rfl)
abbrev rmTelling_tellPlaces : Room := { frames := 1, cells := 0, slots := 0, locals := 23 }
set_option maxHeartbeats 4000000 in
set_option maxRecDepth 100000 in
theorem kTelling_tellPlaces (l : Launch) (D : va_G) (cI cZ cO cG : ClassId) (a_self : Nat) (a_block : Nat) (a_map : Nat) (a_places : Nat) (a_symbols : Nat) (a_list : Nat) (a_present : Nat) (a_block_values : Nat) (a_places_values : Nat) (a_list_list : Nat) (m_block_count : Int32) (m_block_values : Nat → Int32) (m_places_count : Int32) (m_places_values : Nat → Int32) (m_list_count : Int32) (m_list_list : Nat → Int32) {m_places_count' : Int32} {m_places_values' : Nat → Int32} {m_list_list' : Nat → Int32} (hF : fTelling_tellPlaces m_block_count m_block_values m_places_values m_list_count m_list_list = some (m_places_count', m_places_values', m_list_list')) : CT l yX6_tellPlaces wsX6_tellPlaces rmTelling_tellPlaces D (tysG cI cZ cO cG) [.ref a_self] [ob a_self 6 [Value.ref a_block, Value.ref a_map, Value.ref a_places, Value.ref a_symbols, Value.ref a_list, Value.ref a_present], ob a_block 5 [Value.ref a_block_values, Value.int m_block_count], ia cI a_block_values 300 m_block_values, ob a_places 5 [Value.ref a_places_values, Value.int m_places_count], ia cI a_places_values 300 m_places_values, ob a_list 1 [Value.ref a_list_list, Value.int m_list_count], ia cI a_list_list 256 m_list_list] none [ob a_self 6 [Value.ref a_block, Value.ref a_map, Value.ref a_places, Value.ref a_symbols, Value.ref a_list, Value.ref a_present], ob a_block 5 [Value.ref a_block_values, Value.int m_block_count], ia cI a_block_values 300 m_block_values, ob a_places 5 [Value.ref a_places_values, Value.int m_places_count'], ia cI a_places_values 300 m_places_values', ob a_list 1 [Value.ref a_list_list, Value.int m_list_count], ia cI a_list_list 256 m_list_list'] := by
  refine CT.of (cc := cX6_tellPlaces) (maxL := 3) (ret := none) (by decide) rfl (Nat.le_of_ble_eq_true rfl) ?_
  intro p e s m below meth c A ls hx hb hr hml hts hown hlocks hK hA hP hD hS hl
  generalize hargs : ([.ref a_self] : List Value).toArray = args at hts ⊢
  generalize hQ : MQ below (ctQ D none [ob a_self 6 [Value.ref a_block, Value.ref a_map, Value.ref a_places, Value.ref a_symbols, Value.ref a_list, Value.ref a_present], ob a_block 5 [Value.ref a_block_values, Value.int m_block_count], ia cI a_block_values 300 m_block_values, ob a_places 5 [Value.ref a_places_values, Value.int m_places_count'], ia cI a_places_values 300 m_places_values', ob a_list 1 [Value.ref a_list_list, Value.int m_list_count], ia cI a_list_list 256 m_list_list'] A) args s 0 0 A = Q
  have hl : lv_has ls 3 [(0, .ref a_self)] := hl
  have hW : WS D A s [ob a_self 6 [Value.ref a_block, Value.ref a_map, Value.ref a_places, Value.ref a_symbols, Value.ref a_list, Value.ref a_present], ob a_block 5 [Value.ref a_block_values, Value.int m_block_count], ia cI a_block_values 300 m_block_values, ob a_places 5 [Value.ref a_places_values, Value.int m_places_count], ia cI a_places_values 300 m_places_values, ob a_list 1 [Value.ref a_list_list, Value.int m_list_count], ia cI a_list_list 256 m_list_list] s.heap [] := ⟨hP, hD, hS⟩
  clear hP hD hS
  unfold fTelling_tellPlaces at hF
  have hw0 := hts (Cond.fieldLink RX6 23 "MoveFronts$Telling" "places" "LMoveFronts$Row;") (by decide +kernel)
  have hw1 := hts (Cond.fieldLink RX6 9 "MoveFronts$Telling" "block" "LMoveFronts$Row;") (by decide +kernel)
  have hw2 := hts (Cond.fieldLink RX6 32 "MoveFronts$Telling" "list" "LMoveFronts$Front;") (by decide +kernel)
  have hi6 : ∀ w ∈ u_ws RX6 TX6 6, w ∈ wsX6_tellPlaces := by decide +kernel
  refine lv_aload_n hx hb dX6_tellPlaces_0 rfl (lv_at hl 0 rfl) ?_
  refine va_get (D := D) (ci := 6) (v := .ref a_places) (C := RX6) (T := TX6) (N := 6) hx hb hts hi6 hown hK.1 hW.1 0 rfl rfl 2 (by decide) hw0 (fun _ h9 => h9) rfl dX6_tellPlaces_1 ?_
  obtain ⟨m_count_4, e4, hF⟩ := bd1_some hF
  refine ctV (wn := [ob a_self 6 [Value.ref a_block, Value.ref a_map, Value.ref a_places, Value.ref a_symbols, Value.ref a_list, Value.ref a_present], ob a_block 5 [Value.ref a_block_values, Value.int m_block_count], ia cI a_block_values 300 m_block_values, ob a_places 5 [Value.ref a_places_values, Value.int m_count_4], ia cI a_places_values 300 m_places_values, ob a_list 1 [Value.ref a_list_list, Value.int m_list_count], ia cI a_list_list 256 m_list_list]) (r := (RX5, TX5, 2)) (As := []) (rest := []) hx hb hml hown hts hK hW hA hl.1 (kRow_clear l D cI cZ cO cG a_places a_places_values m_places_count e4) (cwV 0 hts gX6_tellPlaces_X5_clear rfl rfl rfl (by decide +kernel) ⟨Nat.le_of_ble_eq_true rfl, Nat.le_of_ble_eq_true rfl⟩) 5 3 rfl rfl [3] [0, 1, 2, 4, 5, 6] 7 rfl rfl rfl rfl [ob a_self 6 [Value.ref a_block, Value.ref a_map, Value.ref a_places, Value.ref a_symbols, Value.ref a_list, Value.ref a_present], ob a_block 5 [Value.ref a_block_values, Value.int m_block_count], ia cI a_block_values 300 m_block_values, ia cI a_places_values 300 m_places_values, ob a_list 1 [Value.ref a_list_list, Value.int m_list_count], ia cI a_list_list 256 m_list_list] rfl rfl rfl rfl rfl (Nat.le_of_ble_eq_true rfl) rfl ⟨Nat.zero_le _, Nat.zero_le _⟩ dX6_tellPlaces_4 (fun H locs hW => ?_)
  refine lv_iconst (v := 0) hx hb dX6_tellPlaces_7 (by decide) ?_
  refine lv_istore_n (lv' := [(1, .int (0 : Int32)), (0, .ref a_self)]) hx hb dX6_tellPlaces_8 rfl hl (by decide) rfl (fun ls hl => ?_)
  obtain ⟨m_places_count_9ze, m_places_values_9ze, m_list_list_9ze, hI, hF⟩ := bd3_some hF
  obtain ⟨nn, hI⟩ := itrO_some hI
  have hX9 : ∀ (m_places_count_9z : Int32) (m_places_values_9z : Nat → Int32) (m_list_list_9z : Nat → Int32), (m_places_count_9z, m_places_values_9z, m_list_list_9z) = (m_places_count_9ze, m_places_values_9ze, m_list_list_9ze) → ∀ (H : Heap) (locs : List Loc), WS D A s [ob a_self 6 [Value.ref a_block, Value.ref a_map, Value.ref a_places, Value.ref a_symbols, Value.ref a_list, Value.ref a_present], ob a_block 5 [Value.ref a_block_values, Value.int m_block_count], ia cI a_block_values 300 m_block_values, ob a_places 5 [Value.ref a_places_values, Value.int m_places_count_9z], ia cI a_places_values 300 m_places_values_9z, ob a_list 1 [Value.ref a_list_list, Value.int m_list_count], ia cI a_list_list 256 m_list_list_9z] H locs → ∀ ls : Array Slot, lv_has ls 3 [] → W p l e (headSpec wsX6_tellPlaces rmTelling_tellPlaces).room s m args below meth c H locs 0 0 Q (F0 m 59 ls []) := by
    intro m_places_count_9z m_places_values_9z m_list_list_9z he H locs hW ls hl
    obtain ⟨hz0, hy0⟩ := Prod.mk.inj he
    obtain ⟨hz1, hy1⟩ := Prod.mk.inj hy0
    subst hz0
    subst hz1
    subst hy1
    cases hF
    subst hQ
    exact ct_vret hx hb hr hlocks hW.1 hW.2.2 dX6_tellPlaces_59
  have hL9 : ∀ (n9 : Nat) (x1_9 : Int32) (m_places_count_9 : Int32) (m_places_values_9 : Nat → Int32) (m_list_list_9 : Nat → Int32), itr (un4 (fTelling_tellPlaces_L9 m_block_count m_block_values m_list_count)) n9 (x1_9, m_places_count_9, m_places_values_9, m_list_list_9) = some (m_places_count_9ze, m_places_values_9ze, m_list_list_9ze) → ∀ (H : Heap) (locs : List Loc), WS D A s [ob a_self 6 [Value.ref a_block, Value.ref a_map, Value.ref a_places, Value.ref a_symbols, Value.ref a_list, Value.ref a_present], ob a_block 5 [Value.ref a_block_values, Value.int m_block_count], ia cI a_block_values 300 m_block_values, ob a_places 5 [Value.ref a_places_values, Value.int m_places_count_9], ia cI a_places_values 300 m_places_values_9, ob a_list 1 [Value.ref a_list_list, Value.int m_list_count], ia cI a_list_list 256 m_list_list_9] H locs → ∀ ls : Array Slot, lv_has ls 3 [(0, .ref a_self), (1, .int x1_9)] → W p l e (headSpec wsX6_tellPlaces rmTelling_tellPlaces).room s m args below meth c H locs 0 0 Q (F0 m 9 ls []) := by
    intro n9
    induction n9 with
    | zero => intro x1_9 m_places_count_9 m_places_values_9 m_list_list_9 hI; cases hI
    | succ n9 ih9 =>
      intro x1_9 m_places_count_9 m_places_values_9 m_list_list_9 hI H locs hW ls hl
      obtain ⟨sr9, hF, hN9⟩ := itr_succ hI
      have hF : fTelling_tellPlaces_L9 m_block_count m_block_values m_list_count x1_9 m_places_count_9 m_places_values_9 m_list_list_9 = some sr9 := hF
      unfold fTelling_tellPlaces_L9 at hF
      refine lv_iload_n hx hb dX6_tellPlaces_9 rfl (lv_at hl 1 rfl) ?_
      refine lv_aload_n hx hb dX6_tellPlaces_10 rfl (lv_at hl 0 rfl) ?_
      refine va_get (D := D) (ci := 6) (v := .ref a_block) (C := RX6) (T := TX6) (N := 6) hx hb hts hi6 hown hK.1 hW.1 0 rfl rfl 0 (by decide) hw1 (fun _ h9 => h9) rfl dX6_tellPlaces_11 ?_
      obtain ⟨r_14, e14, hF⟩ := bd1_some hF
      refine ctV (wn := [ob a_self 6 [Value.ref a_block, Value.ref a_map, Value.ref a_places, Value.ref a_symbols, Value.ref a_list, Value.ref a_present], ob a_block 5 [Value.ref a_block_values, Value.int m_block_count], ia cI a_block_values 300 m_block_values, ob a_places 5 [Value.ref a_places_values, Value.int m_places_count_9], ia cI a_places_values 300 m_places_values_9, ob a_list 1 [Value.ref a_list_list, Value.int m_list_count], ia cI a_list_list 256 m_list_list_9]) (r := (RX5, TX5, 2)) (As := []) (rest := [.int x1_9]) hx hb hml hown hts hK hW hA hl.1 (kRow_size l D cI cZ cO cG a_block a_block_values m_block_count e14) (cwV 0 hts gX6_tellPlaces_X5_size rfl rfl rfl (by decide +kernel) ⟨Nat.le_of_ble_eq_true rfl, Nat.le_of_ble_eq_true rfl⟩) 5 1 rfl rfl [1] [0, 2, 3, 4, 5, 6] 7 rfl rfl rfl rfl [ob a_self 6 [Value.ref a_block, Value.ref a_map, Value.ref a_places, Value.ref a_symbols, Value.ref a_list, Value.ref a_present], ia cI a_block_values 300 m_block_values, ob a_places 5 [Value.ref a_places_values, Value.int m_places_count_9], ia cI a_places_values 300 m_places_values_9, ob a_list 1 [Value.ref a_list_list, Value.int m_list_count], ia cI a_list_list 256 m_list_list_9] rfl rfl rfl rfl rfl (Nat.le_of_ble_eq_true rfl) rfl ⟨Nat.zero_le _, Nat.zero_le _⟩ dX6_tellPlaces_14 (fun H locs hW => ?_)
      refine lv_icmp_ge (tgt := 59) hx hb dX6_tellPlaces_17 (by decide) (fun c17 => ?_) (fun c17 => ?_)
      · rw [if_pos c17] at hF
        cases hF
        exact hX9 _ _ _ (itr_out hN9) _ _ hW _ (lv_sub hl [] rfl)
      · rw [if_neg c17] at hF
        refine lv_aload_n hx hb dX6_tellPlaces_20 rfl (lv_at hl 0 rfl) ?_
        refine va_get (D := D) (ci := 6) (v := .ref a_list) (C := RX6) (T := TX6) (N := 6) hx hb hts hi6 hown hK.1 hW.1 0 rfl rfl 4 (by decide) hw2 (fun _ h9 => h9) rfl dX6_tellPlaces_21 ?_
        refine lv_aload_n hx hb dX6_tellPlaces_24 rfl (lv_at hl 0 rfl) ?_
        refine va_get (D := D) (ci := 6) (v := .ref a_block) (C := RX6) (T := TX6) (N := 6) hx hb hts hi6 hown hK.1 hW.1 0 rfl rfl 0 (by decide) hw1 (fun _ h9 => h9) rfl dX6_tellPlaces_25 ?_
        refine lv_iload_n hx hb dX6_tellPlaces_28 rfl (lv_at hl 1 rfl) ?_
        obtain ⟨r_29, e29, hF⟩ := bd1_some hF
        refine ctV (wn := [ob a_self 6 [Value.ref a_block, Value.ref a_map, Value.ref a_places, Value.ref a_symbols, Value.ref a_list, Value.ref a_present], ob a_block 5 [Value.ref a_block_values, Value.int m_block_count], ia cI a_block_values 300 m_block_values, ob a_places 5 [Value.ref a_places_values, Value.int m_places_count_9], ia cI a_places_values 300 m_places_values_9, ob a_list 1 [Value.ref a_list_list, Value.int m_list_count], ia cI a_list_list 256 m_list_list_9]) (r := (RX5, TX5, 2)) (As := [.int x1_9]) (rest := [.ref a_list]) hx hb hml hown hts hK hW hA hl.1 (kRow_get l D cI cZ cO cG a_block a_block_values 300 m_block_count m_block_values x1_9 e29) (cwV 1 hts gX6_tellPlaces_X5_get rfl rfl rfl (by decide +kernel) ⟨Nat.le_of_ble_eq_true rfl, Nat.le_of_ble_eq_true rfl⟩) 5 1 rfl rfl [1, 2] [0, 3, 4, 5, 6] 7 rfl rfl rfl rfl [ob a_self 6 [Value.ref a_block, Value.ref a_map, Value.ref a_places, Value.ref a_symbols, Value.ref a_list, Value.ref a_present], ob a_places 5 [Value.ref a_places_values, Value.int m_places_count_9], ia cI a_places_values 300 m_places_values_9, ob a_list 1 [Value.ref a_list_list, Value.int m_list_count], ia cI a_list_list 256 m_list_list_9] rfl rfl rfl rfl rfl (Nat.le_of_ble_eq_true rfl) rfl ⟨Nat.zero_le _, Nat.zero_le _⟩ dX6_tellPlaces_29 (fun H locs hW => ?_)
        obtain ⟨r_32, e32, hF⟩ := bd1_some hF
        refine ctV (wn := [ob a_self 6 [Value.ref a_block, Value.ref a_map, Value.ref a_places, Value.ref a_symbols, Value.ref a_list, Value.ref a_present], ob a_block 5 [Value.ref a_block_values, Value.int m_block_count], ia cI a_block_values 300 m_block_values, ob a_places 5 [Value.ref a_places_values, Value.int m_places_count_9], ia cI a_places_values 300 m_places_values_9, ob a_list 1 [Value.ref a_list_list, Value.int m_list_count], ia cI a_list_list 256 m_list_list_9]) (r := (RX1, TX1, 2)) (As := [.int r_29]) (rest := []) hx hb hml hown hts hK hW hA hl.1 (kFront_find l D cI cZ cO cG a_list a_list_list 256 m_list_count m_list_list_9 r_29 e32) (cwV 1 hts gX6_tellPlaces_X1_find rfl rfl rfl (by decide +kernel) ⟨Nat.le_of_ble_eq_true rfl, Nat.le_of_ble_eq_true rfl⟩) 1 5 rfl rfl [5, 6] [0, 1, 2, 3, 4] 7 rfl rfl rfl rfl [ob a_self 6 [Value.ref a_block, Value.ref a_map, Value.ref a_places, Value.ref a_symbols, Value.ref a_list, Value.ref a_present], ob a_block 5 [Value.ref a_block_values, Value.int m_block_count], ia cI a_block_values 300 m_block_values, ob a_places 5 [Value.ref a_places_values, Value.int m_places_count_9], ia cI a_places_values 300 m_places_values_9] rfl rfl rfl rfl rfl (Nat.le_of_ble_eq_true rfl) rfl ⟨Nat.zero_le _, Nat.zero_le _⟩ dX6_tellPlaces_32 (fun H locs hW => ?_)
        refine lv_istore_n (lv' := [(2, .int r_32), (0, .ref a_self), (1, .int x1_9)]) hx hb dX6_tellPlaces_35 rfl hl (by decide) rfl (fun ls hl => ?_)
        refine lv_aload_n hx hb dX6_tellPlaces_36 rfl (lv_at hl 1 rfl) ?_
        refine va_get (D := D) (ci := 6) (v := .ref a_list) (C := RX6) (T := TX6) (N := 6) hx hb hts hi6 hown hK.1 hW.1 0 rfl rfl 4 (by decide) hw2 (fun _ h9 => h9) rfl dX6_tellPlaces_37 ?_
        refine lv_iload_n hx hb dX6_tellPlaces_40 rfl (lv_at hl 0 rfl) ?_
        obtain ⟨r_41, m_list_41, e41, hF⟩ := bd2_some hF
        refine ctV (wn := [ob a_self 6 [Value.ref a_block, Value.ref a_map, Value.ref a_places, Value.ref a_symbols, Value.ref a_list, Value.ref a_present], ob a_block 5 [Value.ref a_block_values, Value.int m_block_count], ia cI a_block_values 300 m_block_values, ob a_places 5 [Value.ref a_places_values, Value.int m_places_count_9], ia cI a_places_values 300 m_places_values_9, ob a_list 1 [Value.ref a_list_list, Value.int m_list_count], ia cI a_list_list 256 m_list_41]) (r := (RX1, TX1, 2)) (As := [.int r_32]) (rest := []) hx hb hml hown hts hK hW hA hl.1 (kFront_bringUp l D cI cZ cO cG a_list a_list_list 256 m_list_count m_list_list_9 r_32 e41) (cwV 1 hts gX6_tellPlaces_X1_bringUp rfl rfl rfl (by decide +kernel) ⟨Nat.le_of_ble_eq_true rfl, Nat.le_of_ble_eq_true rfl⟩) 1 5 rfl rfl [5, 6] [0, 1, 2, 3, 4] 7 rfl rfl rfl rfl [ob a_self 6 [Value.ref a_block, Value.ref a_map, Value.ref a_places, Value.ref a_symbols, Value.ref a_list, Value.ref a_present], ob a_block 5 [Value.ref a_block_values, Value.int m_block_count], ia cI a_block_values 300 m_block_values, ob a_places 5 [Value.ref a_places_values, Value.int m_places_count_9], ia cI a_places_values 300 m_places_values_9] rfl rfl rfl rfl rfl (Nat.le_of_ble_eq_true rfl) rfl ⟨Nat.zero_le _, Nat.zero_le _⟩ dX6_tellPlaces_41 (fun H locs hW => ?_)
        refine lv_pop hx hb dX6_tellPlaces_44 rfl ?_
        refine lv_aload_n hx hb dX6_tellPlaces_45 rfl (lv_at hl 1 rfl) ?_
        refine va_get (D := D) (ci := 6) (v := .ref a_places) (C := RX6) (T := TX6) (N := 6) hx hb hts hi6 hown hK.1 hW.1 0 rfl rfl 2 (by decide) hw0 (fun _ h9 => h9) rfl dX6_tellPlaces_46 ?_
        refine lv_iload_n hx hb dX6_tellPlaces_49 rfl (lv_at hl 0 rfl) ?_
        obtain ⟨m_count_50, m_values_50, e50, hF⟩ := bd2_some hF
        refine ctV (wn := [ob a_self 6 [Value.ref a_block, Value.ref a_map, Value.ref a_places, Value.ref a_symbols, Value.ref a_list, Value.ref a_present], ob a_block 5 [Value.ref a_block_values, Value.int m_block_count], ia cI a_block_values 300 m_block_values, ob a_places 5 [Value.ref a_places_values, Value.int m_count_50], ia cI a_places_values 300 m_values_50, ob a_list 1 [Value.ref a_list_list, Value.int m_list_count], ia cI a_list_list 256 m_list_41]) (r := (RX5, TX5, 2)) (As := [.int r_32]) (rest := []) hx hb hml hown hts hK hW hA hl.1 (kRow_add l D cI cZ cO cG a_places a_places_values 300 m_places_count_9 m_places_values_9 r_32 e50) (cwV 1 hts gX6_tellPlaces_X5_add rfl rfl rfl (by decide +kernel) ⟨Nat.le_of_ble_eq_true rfl, Nat.le_of_ble_eq_true rfl⟩) 5 3 rfl rfl [3, 4] [0, 1, 2, 5, 6] 7 rfl rfl rfl rfl [ob a_self 6 [Value.ref a_block, Value.ref a_map, Value.ref a_places, Value.ref a_symbols, Value.ref a_list, Value.ref a_present], ob a_block 5 [Value.ref a_block_values, Value.int m_block_count], ia cI a_block_values 300 m_block_values, ob a_list 1 [Value.ref a_list_list, Value.int m_list_count], ia cI a_list_list 256 m_list_41] rfl rfl rfl rfl rfl (Nat.le_of_ble_eq_true rfl) rfl ⟨Nat.zero_le _, Nat.zero_le _⟩ dX6_tellPlaces_50 (fun H locs hW => ?_)
        refine lv_iinc (v := (x1_9 + 1)) (lv' := [(1, .int (x1_9 + 1)), (2, .int r_32), (0, .ref a_self)]) hx hb dX6_tellPlaces_53 hl (k := 2) rfl rfl (by decide) rfl (fun ls hl => ?_)
        refine lv_goto (tgt := 9) hx hb dX6_tellPlaces_56 (by decide) ?_
        cases hF
        exact ih9 _ _ _ _ (itr_in hN9) _ _ hW _ (lv_sub hl [2, 0] rfl)
  exact hL9 nn _ _ _ _ hI _ _ hW _ (lv_sub hl [1, 0] rfl)
abbrev rmTelling_tellZeros : Room := { frames := 1, cells := 0, slots := 0, locals := 21 }
set_option maxHeartbeats 4000000 in
set_option maxRecDepth 100000 in
theorem kTelling_tellZeros (l : Launch) (D : va_G) (cI cZ cO cG : ClassId) (a_self : Nat) (a_block : Nat) (a_map : Nat) (a_places : Nat) (a_symbols : Nat) (a_list : Nat) (a_present : Nat) (a_symbols_values : Nat) (m_symbols_count : Int32) (m_symbols_values : Nat → Int32) (x1 : Int32) {m_symbols_count' : Int32} {m_symbols_values' : Nat → Int32} (hF : fTelling_tellZeros m_symbols_count m_symbols_values x1 = some (m_symbols_count', m_symbols_values')) : CT l yX6_tellZeros wsX6_tellZeros rmTelling_tellZeros D (tysG cI cZ cO cG) [.ref a_self, .int x1] [ob a_self 6 [Value.ref a_block, Value.ref a_map, Value.ref a_places, Value.ref a_symbols, Value.ref a_list, Value.ref a_present], ob a_symbols 5 [Value.ref a_symbols_values, Value.int m_symbols_count], ia cI a_symbols_values 301 m_symbols_values] none [ob a_self 6 [Value.ref a_block, Value.ref a_map, Value.ref a_places, Value.ref a_symbols, Value.ref a_list, Value.ref a_present], ob a_symbols 5 [Value.ref a_symbols_values, Value.int m_symbols_count'], ia cI a_symbols_values 301 m_symbols_values'] := by
  refine CT.of (cc := cX6_tellZeros) (maxL := 3) (ret := none) (by decide) rfl (Nat.le_of_ble_eq_true rfl) ?_
  intro p e s m below meth c A ls hx hb hr hml hts hown hlocks hK hA hP hD hS hl
  generalize hargs : ([.ref a_self, .int x1] : List Value).toArray = args at hts ⊢
  generalize hQ : MQ below (ctQ D none [ob a_self 6 [Value.ref a_block, Value.ref a_map, Value.ref a_places, Value.ref a_symbols, Value.ref a_list, Value.ref a_present], ob a_symbols 5 [Value.ref a_symbols_values, Value.int m_symbols_count'], ia cI a_symbols_values 301 m_symbols_values'] A) args s 0 0 A = Q
  have hl : lv_has ls 3 [(0, .ref a_self), (1, .int x1)] := hl
  have hW : WS D A s [ob a_self 6 [Value.ref a_block, Value.ref a_map, Value.ref a_places, Value.ref a_symbols, Value.ref a_list, Value.ref a_present], ob a_symbols 5 [Value.ref a_symbols_values, Value.int m_symbols_count], ia cI a_symbols_values 301 m_symbols_values] s.heap [] := ⟨hP, hD, hS⟩
  clear hP hD hS
  unfold fTelling_tellZeros at hF
  have hw0 := hts (Cond.fieldLink RX6 26 "MoveFronts$Telling" "symbols" "LMoveFronts$Row;") (by decide +kernel)
  have hi6 : ∀ w ∈ u_ws RX6 TX6 6, w ∈ wsX6_tellZeros := by decide +kernel
  refine lv_iload_n hx hb dX6_tellZeros_0 rfl (lv_at hl 1 rfl) ?_
  refine lv_istore_n (lv' := [(2, .int x1), (0, .ref a_self), (1, .int x1)]) hx hb dX6_tellZeros_1 rfl hl (by decide) rfl (fun ls hl => ?_)
  obtain ⟨m_symbols_count_2ze, m_symbols_values_2ze, hI, hF⟩ := bd2_some hF
  obtain ⟨nn, hI⟩ := itrO_some hI
  have hX2 : ∀ (m_symbols_count_2z : Int32) (m_symbols_values_2z : Nat → Int32), (m_symbols_count_2z, m_symbols_values_2z) = (m_symbols_count_2ze, m_symbols_values_2ze) → ∀ (H : Heap) (locs : List Loc), WS D A s [ob a_self 6 [Value.ref a_block, Value.ref a_map, Value.ref a_places, Value.ref a_symbols, Value.ref a_list, Value.ref a_present], ob a_symbols 5 [Value.ref a_symbols_values, Value.int m_symbols_count_2z], ia cI a_symbols_values 301 m_symbols_values_2z] H locs → ∀ ls : Array Slot, lv_has ls 3 [] → W p l e (headSpec wsX6_tellZeros rmTelling_tellZeros).room s m args below meth c H locs 0 0 Q (F0 m 27 ls []) := by
    intro m_symbols_count_2z m_symbols_values_2z he H locs hW ls hl
    obtain ⟨hz0, hy0⟩ := Prod.mk.inj he
    subst hz0
    subst hy0
    cases hF
    subst hQ
    exact ct_vret hx hb hr hlocks hW.1 hW.2.2 dX6_tellZeros_27
  have hL2 : ∀ (n2 : Nat) (x2_2 : Int32) (m_symbols_count_2 : Int32) (m_symbols_values_2 : Nat → Int32), itr (un3 (fTelling_tellZeros_L2)) n2 (x2_2, m_symbols_count_2, m_symbols_values_2) = some (m_symbols_count_2ze, m_symbols_values_2ze) → ∀ (H : Heap) (locs : List Loc), WS D A s [ob a_self 6 [Value.ref a_block, Value.ref a_map, Value.ref a_places, Value.ref a_symbols, Value.ref a_list, Value.ref a_present], ob a_symbols 5 [Value.ref a_symbols_values, Value.int m_symbols_count_2], ia cI a_symbols_values 301 m_symbols_values_2] H locs → ∀ ls : Array Slot, lv_has ls 3 [(0, .ref a_self), (2, .int x2_2)] → W p l e (headSpec wsX6_tellZeros rmTelling_tellZeros).room s m args below meth c H locs 0 0 Q (F0 m 2 ls []) := by
    intro n2
    induction n2 with
    | zero => intro x2_2 m_symbols_count_2 m_symbols_values_2 hI; cases hI
    | succ n2 ih2 =>
      intro x2_2 m_symbols_count_2 m_symbols_values_2 hI H locs hW ls hl
      obtain ⟨sr2, hF, hN2⟩ := itr_succ hI
      have hF : fTelling_tellZeros_L2 x2_2 m_symbols_count_2 m_symbols_values_2 = some sr2 := hF
      unfold fTelling_tellZeros_L2 at hF
      refine lv_iload_n hx hb dX6_tellZeros_2 rfl (lv_at hl 1 rfl) ?_
      refine lv_if_le (tgt := 27) hx hb dX6_tellZeros_3 (by decide) (fun c3 => ?_) (fun c3 => ?_)
      · rw [if_pos c3] at hF
        cases hF
        exact hX2 _ _ (itr_out hN2) _ _ hW _ (lv_sub hl [] rfl)
      · rw [if_neg c3] at hF
        refine lv_aload_n hx hb dX6_tellZeros_6 rfl (lv_at hl 0 rfl) ?_
        refine va_get (D := D) (ci := 6) (v := .ref a_symbols) (C := RX6) (T := TX6) (N := 6) hx hb hts hi6 hown hK.1 hW.1 0 rfl rfl 3 (by decide) hw0 (fun _ h9 => h9) rfl dX6_tellZeros_7 ?_
        refine lv_iload_n hx hb dX6_tellZeros_10 rfl (lv_at hl 1 rfl) ?_
        refine lv_iconst (v := 1) hx hb dX6_tellZeros_11 (by decide) ?_
        refine lv_isub hx hb dX6_tellZeros_12 ?_
        refine lv_iconst (v := 2) hx hb dX6_tellZeros_13 (by decide) ?_
        refine lv_irem hx hb dX6_tellZeros_14 (by decide) ?_
        obtain ⟨m_count_15, m_values_15, e15, hF⟩ := bd2_some hF
        refine ctV (wn := [ob a_self 6 [Value.ref a_block, Value.ref a_map, Value.ref a_places, Value.ref a_symbols, Value.ref a_list, Value.ref a_present], ob a_symbols 5 [Value.ref a_symbols_values, Value.int m_count_15], ia cI a_symbols_values 301 m_values_15]) (r := (RX5, TX5, 2)) (As := [.int ((x2_2 - (1 : Int32)) - (x2_2 - (1 : Int32)) / (2 : Int32) * (2 : Int32))]) (rest := []) hx hb hml hown hts hK hW hA hl.1 (kRow_add l D cI cZ cO cG a_symbols a_symbols_values 301 m_symbols_count_2 m_symbols_values_2 ((x2_2 - (1 : Int32)) - (x2_2 - (1 : Int32)) / (2 : Int32) * (2 : Int32)) e15) (cwV 1 hts gX6_tellZeros_X5_add rfl rfl rfl (by decide +kernel) ⟨Nat.le_of_ble_eq_true rfl, Nat.le_of_ble_eq_true rfl⟩) 5 1 rfl rfl [1, 2] [0] 3 rfl rfl rfl rfl [ob a_self 6 [Value.ref a_block, Value.ref a_map, Value.ref a_places, Value.ref a_symbols, Value.ref a_list, Value.ref a_present]] rfl rfl rfl rfl rfl (Nat.le_of_ble_eq_true rfl) rfl ⟨Nat.zero_le _, Nat.zero_le _⟩ dX6_tellZeros_15 (fun H locs hW => ?_)
        refine lv_iload_n hx hb dX6_tellZeros_18 rfl (lv_at hl 1 rfl) ?_
        refine lv_iconst (v := 1) hx hb dX6_tellZeros_19 (by decide) ?_
        refine lv_isub hx hb dX6_tellZeros_20 ?_
        refine lv_iconst (v := 2) hx hb dX6_tellZeros_21 (by decide) ?_
        refine lv_idiv hx hb dX6_tellZeros_22 (by decide) ?_
        refine lv_istore_n (lv' := [(2, .int ((x2_2 - (1 : Int32)) / (2 : Int32))), (0, .ref a_self)]) hx hb dX6_tellZeros_23 rfl hl (by decide) rfl (fun ls hl => ?_)
        refine lv_goto (tgt := 2) hx hb dX6_tellZeros_24 (by decide) ?_
        cases hF
        exact ih2 _ _ _ (itr_in hN2) _ _ hW _ (lv_sub hl [1, 0] rfl)
  exact hL2 nn _ _ _ hI _ _ hW _ (lv_sub hl [1, 0] rfl)
abbrev rmTelling_tellSymbols : Room := { frames := 2, cells := 0, slots := 0, locals := 43 }
set_option maxHeartbeats 4000000 in
set_option maxRecDepth 100000 in
theorem kTelling_tellSymbols (l : Launch) (D : va_G) (cI cZ cO cG : ClassId) (a_self : Nat) (a_block : Nat) (a_map : Nat) (a_places : Nat) (a_symbols : Nat) (a_list : Nat) (a_present : Nat) (a_map_values : Nat) (a_places_values : Nat) (a_symbols_values : Nat) (m_map_count : Int32) (m_places_count : Int32) (m_places_values : Nat → Int32) (m_symbols_count : Int32) (m_symbols_values : Nat → Int32) {m_symbols_count' : Int32} {m_symbols_values' : Nat → Int32} (hF : fTelling_tellSymbols m_map_count m_places_count m_places_values m_symbols_values = some (m_symbols_count', m_symbols_values')) : CT l yX6_tellSymbols wsX6_tellSymbols rmTelling_tellSymbols D (tysG cI cZ cO cG) [.ref a_self] [ob a_self 6 [Value.ref a_block, Value.ref a_map, Value.ref a_places, Value.ref a_symbols, Value.ref a_list, Value.ref a_present], ob a_map 5 [Value.ref a_map_values, Value.int m_map_count], ob a_places 5 [Value.ref a_places_values, Value.int m_places_count], ia cI a_places_values 300 m_places_values, ob a_symbols 5 [Value.ref a_symbols_values, Value.int m_symbols_count], ia cI a_symbols_values 301 m_symbols_values] none [ob a_self 6 [Value.ref a_block, Value.ref a_map, Value.ref a_places, Value.ref a_symbols, Value.ref a_list, Value.ref a_present], ob a_map 5 [Value.ref a_map_values, Value.int m_map_count], ob a_places 5 [Value.ref a_places_values, Value.int m_places_count], ia cI a_places_values 300 m_places_values, ob a_symbols 5 [Value.ref a_symbols_values, Value.int m_symbols_count'], ia cI a_symbols_values 301 m_symbols_values'] := by
  refine CT.of (cc := cX6_tellSymbols) (maxL := 4) (ret := none) (by decide) rfl (Nat.le_of_ble_eq_true rfl) ?_
  intro p e s m below meth c A ls hx hb hr hml hts hown hlocks hK hA hP hD hS hl
  generalize hargs : ([.ref a_self] : List Value).toArray = args at hts ⊢
  generalize hQ : MQ below (ctQ D none [ob a_self 6 [Value.ref a_block, Value.ref a_map, Value.ref a_places, Value.ref a_symbols, Value.ref a_list, Value.ref a_present], ob a_map 5 [Value.ref a_map_values, Value.int m_map_count], ob a_places 5 [Value.ref a_places_values, Value.int m_places_count], ia cI a_places_values 300 m_places_values, ob a_symbols 5 [Value.ref a_symbols_values, Value.int m_symbols_count'], ia cI a_symbols_values 301 m_symbols_values'] A) args s 0 0 A = Q
  have hl : lv_has ls 4 [(0, .ref a_self)] := hl
  have hW : WS D A s [ob a_self 6 [Value.ref a_block, Value.ref a_map, Value.ref a_places, Value.ref a_symbols, Value.ref a_list, Value.ref a_present], ob a_map 5 [Value.ref a_map_values, Value.int m_map_count], ob a_places 5 [Value.ref a_places_values, Value.int m_places_count], ia cI a_places_values 300 m_places_values, ob a_symbols 5 [Value.ref a_symbols_values, Value.int m_symbols_count], ia cI a_symbols_values 301 m_symbols_values] s.heap [] := ⟨hP, hD, hS⟩
  clear hP hD hS
  unfold fTelling_tellSymbols at hF
  have hw0 := hts (Cond.fieldLink RX6 26 "MoveFronts$Telling" "symbols" "LMoveFronts$Row;") (by decide +kernel)
  have hw1 := hts (Cond.fieldLink RX6 23 "MoveFronts$Telling" "places" "LMoveFronts$Row;") (by decide +kernel)
  have hw2 := hts (Cond.fieldLink RX6 20 "MoveFronts$Telling" "map" "LMoveFronts$Row;") (by decide +kernel)
  have hi6 : ∀ w ∈ u_ws RX6 TX6 6, w ∈ wsX6_tellSymbols := by decide +kernel
  refine lv_aload_n hx hb dX6_tellSymbols_0 rfl (lv_at hl 0 rfl) ?_
  refine va_get (D := D) (ci := 6) (v := .ref a_symbols) (C := RX6) (T := TX6) (N := 6) hx hb hts hi6 hown hK.1 hW.1 0 rfl rfl 3 (by decide) hw0 (fun _ h9 => h9) rfl dX6_tellSymbols_1 ?_
  obtain ⟨m_count_4, e4, hF⟩ := bd1_some hF
  refine ctV (wn := [ob a_self 6 [Value.ref a_block, Value.ref a_map, Value.ref a_places, Value.ref a_symbols, Value.ref a_list, Value.ref a_present], ob a_map 5 [Value.ref a_map_values, Value.int m_map_count], ob a_places 5 [Value.ref a_places_values, Value.int m_places_count], ia cI a_places_values 300 m_places_values, ob a_symbols 5 [Value.ref a_symbols_values, Value.int m_count_4], ia cI a_symbols_values 301 m_symbols_values]) (r := (RX5, TX5, 2)) (As := []) (rest := []) hx hb hml hown hts hK hW hA hl.1 (kRow_clear l D cI cZ cO cG a_symbols a_symbols_values m_symbols_count e4) (cwV 0 hts gX6_tellSymbols_X5_clear rfl rfl rfl (by decide +kernel) ⟨Nat.le_of_ble_eq_true rfl, Nat.le_of_ble_eq_true rfl⟩) 5 4 rfl rfl [4] [0, 1, 2, 3, 5] 6 rfl rfl rfl rfl [ob a_self 6 [Value.ref a_block, Value.ref a_map, Value.ref a_places, Value.ref a_symbols, Value.ref a_list, Value.ref a_present], ob a_map 5 [Value.ref a_map_values, Value.int m_map_count], ob a_places 5 [Value.ref a_places_values, Value.int m_places_count], ia cI a_places_values 300 m_places_values, ia cI a_symbols_values 301 m_symbols_values] rfl rfl rfl rfl rfl (Nat.le_of_ble_eq_true rfl) rfl ⟨Nat.zero_le _, Nat.zero_le _⟩ dX6_tellSymbols_4 (fun H locs hW => ?_)
  refine lv_aload_n hx hb dX6_tellSymbols_7 rfl (lv_at hl 0 rfl) ?_
  refine va_get (D := D) (ci := 6) (v := .ref a_places) (C := RX6) (T := TX6) (N := 6) hx hb hts hi6 hown hK.1 hW.1 0 rfl rfl 2 (by decide) hw1 (fun _ h9 => h9) rfl dX6_tellSymbols_8 ?_
  obtain ⟨r_11, e11, hF⟩ := bd1_some hF
  refine ctV (wn := [ob a_self 6 [Value.ref a_block, Value.ref a_map, Value.ref a_places, Value.ref a_symbols, Value.ref a_list, Value.ref a_present], ob a_map 5 [Value.ref a_map_values, Value.int m_map_count], ob a_places 5 [Value.ref a_places_values, Value.int m_places_count], ia cI a_places_values 300 m_places_values, ob a_symbols 5 [Value.ref a_symbols_values, Value.int m_count_4], ia cI a_symbols_values 301 m_symbols_values]) (r := (RX5, TX5, 2)) (As := []) (rest := []) hx hb hml hown hts hK hW hA hl.1 (kRow_size l D cI cZ cO cG a_places a_places_values m_places_count e11) (cwV 0 hts gX6_tellSymbols_X5_size rfl rfl rfl (by decide +kernel) ⟨Nat.le_of_ble_eq_true rfl, Nat.le_of_ble_eq_true rfl⟩) 5 2 rfl rfl [2] [0, 1, 3, 4, 5] 6 rfl rfl rfl rfl [ob a_self 6 [Value.ref a_block, Value.ref a_map, Value.ref a_places, Value.ref a_symbols, Value.ref a_list, Value.ref a_present], ob a_map 5 [Value.ref a_map_values, Value.int m_map_count], ia cI a_places_values 300 m_places_values, ob a_symbols 5 [Value.ref a_symbols_values, Value.int m_count_4], ia cI a_symbols_values 301 m_symbols_values] rfl rfl rfl rfl rfl (Nat.le_of_ble_eq_true rfl) rfl ⟨Nat.zero_le _, Nat.zero_le _⟩ dX6_tellSymbols_11 (fun H locs hW => ?_)
  refine lv_if_ne (tgt := 18) hx hb dX6_tellSymbols_14 (by decide) (fun c14 => ?_) (fun c14 => ?_)
  · rw [if_neg c14] at hF
    refine lv_iconst (v := 0) hx hb dX6_tellSymbols_18 (by decide) ?_
    refine lv_istore_n (lv' := [(1, .int (0 : Int32)), (0, .ref a_self)]) hx hb dX6_tellSymbols_19 rfl hl (by decide) rfl (fun ls hl => ?_)
    refine lv_iconst (v := 0) hx hb dX6_tellSymbols_20 (by decide) ?_
    refine lv_istore_n (lv' := [(2, .int (0 : Int32)), (1, .int (0 : Int32)), (0, .ref a_self)]) hx hb dX6_tellSymbols_21 rfl hl (by decide) rfl (fun ls hl => ?_)
    obtain ⟨x1_22ze, m_symbols_count_22ze, m_symbols_values_22ze, hI, hF⟩ := bd3_some hF
    obtain ⟨nn, hI⟩ := itrO_some hI
    have hX22 : ∀ (x1_22z : Int32) (m_symbols_count_22z : Int32) (m_symbols_values_22z : Nat → Int32), (x1_22z, m_symbols_count_22z, m_symbols_values_22z) = (x1_22ze, m_symbols_count_22ze, m_symbols_values_22ze) → ∀ (H : Heap) (locs : List Loc), WS D A s [ob a_self 6 [Value.ref a_block, Value.ref a_map, Value.ref a_places, Value.ref a_symbols, Value.ref a_list, Value.ref a_present], ob a_map 5 [Value.ref a_map_values, Value.int m_map_count], ob a_places 5 [Value.ref a_places_values, Value.int m_places_count], ia cI a_places_values 300 m_places_values, ob a_symbols 5 [Value.ref a_symbols_values, Value.int m_symbols_count_22z], ia cI a_symbols_values 301 m_symbols_values_22z] H locs → ∀ ls : Array Slot, lv_has ls 4 [(0, .ref a_self), (1, .int x1_22z)] → W p l e (headSpec wsX6_tellSymbols rmTelling_tellSymbols).room s m args below meth c H locs 0 0 Q (F0 m 75 ls []) := by
      intro x1_22z m_symbols_count_22z m_symbols_values_22z he H locs hW ls hl
      obtain ⟨hz0, hy0⟩ := Prod.mk.inj he
      obtain ⟨hz1, hy1⟩ := Prod.mk.inj hy0
      subst hz0
      subst hz1
      subst hy1
      refine lv_aload_n hx hb dX6_tellSymbols_75 rfl (lv_at hl 0 rfl) ?_
      refine lv_iload_n hx hb dX6_tellSymbols_76 rfl (lv_at hl 1 rfl) ?_
      obtain ⟨m_symbols_count_77, m_symbols_values_77, e77, hF⟩ := bd2_some hF
      refine ctV (wn := [ob a_self 6 [Value.ref a_block, Value.ref a_map, Value.ref a_places, Value.ref a_symbols, Value.ref a_list, Value.ref a_present], ob a_map 5 [Value.ref a_map_values, Value.int m_map_count], ob a_places 5 [Value.ref a_places_values, Value.int m_places_count], ia cI a_places_values 300 m_places_values, ob a_symbols 5 [Value.ref a_symbols_values, Value.int m_symbols_count_77], ia cI a_symbols_values 301 m_symbols_values_77]) (r := (RX6, TX6, 6)) (As := [.int x1_22z]) (rest := []) hx hb hml hown hts hK hW hA hl.1 (kTelling_tellZeros l D cI cZ cO cG a_self a_block a_map a_places a_symbols a_list a_present a_symbols_values m_symbols_count_22z m_symbols_values_22z x1_22z e77) (cwV 1 hts gX6_tellSymbols_X6_tellZeros rfl rfl rfl (by decide +kernel) ⟨Nat.le_of_ble_eq_true rfl, Nat.le_of_ble_eq_true rfl⟩) 6 0 rfl rfl [0, 4, 5] [1, 2, 3] 6 rfl rfl rfl rfl [ob a_map 5 [Value.ref a_map_values, Value.int m_map_count], ob a_places 5 [Value.ref a_places_values, Value.int m_places_count], ia cI a_places_values 300 m_places_values] rfl rfl rfl rfl rfl (Nat.le_of_ble_eq_true rfl) rfl ⟨Nat.zero_le _, Nat.zero_le _⟩ dX6_tellSymbols_77 (fun H locs hW => ?_)
      refine lv_aload_n hx hb dX6_tellSymbols_80 rfl (lv_at hl 0 rfl) ?_
      refine va_get (D := D) (ci := 6) (v := .ref a_symbols) (C := RX6) (T := TX6) (N := 6) hx hb hts hi6 hown hK.1 hW.1 0 rfl rfl 3 (by decide) hw0 (fun _ h9 => h9) rfl dX6_tellSymbols_81 ?_
      refine lv_aload_n hx hb dX6_tellSymbols_84 rfl (lv_at hl 0 rfl) ?_
      refine va_get (D := D) (ci := 6) (v := .ref a_map) (C := RX6) (T := TX6) (N := 6) hx hb hts hi6 hown hK.1 hW.1 0 rfl rfl 1 (by decide) hw2 (fun _ h9 => h9) rfl dX6_tellSymbols_85 ?_
      obtain ⟨r_88, e88, hF⟩ := bd1_some hF
      refine ctV (wn := [ob a_self 6 [Value.ref a_block, Value.ref a_map, Value.ref a_places, Value.ref a_symbols, Value.ref a_list, Value.ref a_present], ob a_map 5 [Value.ref a_map_values, Value.int m_map_count], ob a_places 5 [Value.ref a_places_values, Value.int m_places_count], ia cI a_places_values 300 m_places_values, ob a_symbols 5 [Value.ref a_symbols_values, Value.int m_symbols_count_77], ia cI a_symbols_values 301 m_symbols_values_77]) (r := (RX5, TX5, 2)) (As := []) (rest := [.ref a_symbols]) hx hb hml hown hts hK hW hA hl.1 (kRow_size l D cI cZ cO cG a_map a_map_values m_map_count e88) (cwV 0 hts gX6_tellSymbols_X5_size rfl rfl rfl (by decide +kernel) ⟨Nat.le_of_ble_eq_true rfl, Nat.le_of_ble_eq_true rfl⟩) 5 1 rfl rfl [1] [0, 2, 3, 4, 5] 6 rfl rfl rfl rfl [ob a_self 6 [Value.ref a_block, Value.ref a_map, Value.ref a_places, Value.ref a_symbols, Value.ref a_list, Value.ref a_present], ob a_places 5 [Value.ref a_places_values, Value.int m_places_count], ia cI a_places_values 300 m_places_values, ob a_symbols 5 [Value.ref a_symbols_values, Value.int m_symbols_count_77], ia cI a_symbols_values 301 m_symbols_values_77] rfl rfl rfl rfl rfl (Nat.le_of_ble_eq_true rfl) rfl ⟨Nat.zero_le _, Nat.zero_le _⟩ dX6_tellSymbols_88 (fun H locs hW => ?_)
      refine lv_iconst (v := 1) hx hb dX6_tellSymbols_91 (by decide) ?_
      refine lv_iadd hx hb dX6_tellSymbols_92 ?_
      obtain ⟨m_count_93, m_values_93, e93, hF⟩ := bd2_some hF
      refine ctV (wn := [ob a_self 6 [Value.ref a_block, Value.ref a_map, Value.ref a_places, Value.ref a_symbols, Value.ref a_list, Value.ref a_present], ob a_map 5 [Value.ref a_map_values, Value.int m_map_count], ob a_places 5 [Value.ref a_places_values, Value.int m_places_count], ia cI a_places_values 300 m_places_values, ob a_symbols 5 [Value.ref a_symbols_values, Value.int m_count_93], ia cI a_symbols_values 301 m_values_93]) (r := (RX5, TX5, 2)) (As := [.int (r_88 + (1 : Int32))]) (rest := []) hx hb hml hown hts hK hW hA hl.1 (kRow_add l D cI cZ cO cG a_symbols a_symbols_values 301 m_symbols_count_77 m_symbols_values_77 (r_88 + (1 : Int32)) e93) (cwV 1 hts gX6_tellSymbols_X5_add rfl rfl rfl (by decide +kernel) ⟨Nat.le_of_ble_eq_true rfl, Nat.le_of_ble_eq_true rfl⟩) 5 4 rfl rfl [4, 5] [0, 1, 2, 3] 6 rfl rfl rfl rfl [ob a_self 6 [Value.ref a_block, Value.ref a_map, Value.ref a_places, Value.ref a_symbols, Value.ref a_list, Value.ref a_present], ob a_map 5 [Value.ref a_map_values, Value.int m_map_count], ob a_places 5 [Value.ref a_places_values, Value.int m_places_count], ia cI a_places_values 300 m_places_values] rfl rfl rfl rfl rfl (Nat.le_of_ble_eq_true rfl) rfl ⟨Nat.zero_le _, Nat.zero_le _⟩ dX6_tellSymbols_93 (fun H locs hW => ?_)
      cases hF
      subst hQ
      exact ct_vret hx hb hr hlocks hW.1 hW.2.2 dX6_tellSymbols_96
    have hL22 : ∀ (n22 : Nat) (x1_22 : Int32) (x2_22 : Int32) (m_symbols_count_22 : Int32) (m_symbols_values_22 : Nat → Int32), itr (un4 (fTelling_tellSymbols_L22 m_places_count m_places_values)) n22 (x1_22, x2_22, m_symbols_count_22, m_symbols_values_22) = some (x1_22ze, m_symbols_count_22ze, m_symbols_values_22ze) → ∀ (H : Heap) (locs : List Loc), WS D A s [ob a_self 6 [Value.ref a_block, Value.ref a_map, Value.ref a_places, Value.ref a_symbols, Value.ref a_list, Value.ref a_present], ob a_map 5 [Value.ref a_map_values, Value.int m_map_count], ob a_places 5 [Value.ref a_places_values, Value.int m_places_count], ia cI a_places_values 300 m_places_values, ob a_symbols 5 [Value.ref a_symbols_values, Value.int m_symbols_count_22], ia cI a_symbols_values 301 m_symbols_values_22] H locs → ∀ ls : Array Slot, lv_has ls 4 [(0, .ref a_self), (1, .int x1_22), (2, .int x2_22)] → W p l e (headSpec wsX6_tellSymbols rmTelling_tellSymbols).room s m args below meth c H locs 0 0 Q (F0 m 22 ls []) := by
      intro n22
      induction n22 with
      | zero => intro x1_22 x2_22 m_symbols_count_22 m_symbols_values_22 hI; cases hI
      | succ n22 ih22 =>
        intro x1_22 x2_22 m_symbols_count_22 m_symbols_values_22 hI H locs hW ls hl
        obtain ⟨sr22, hF, hN22⟩ := itr_succ hI
        have hF : fTelling_tellSymbols_L22 m_places_count m_places_values x1_22 x2_22 m_symbols_count_22 m_symbols_values_22 = some sr22 := hF
        unfold fTelling_tellSymbols_L22 at hF
        refine lv_iload_n hx hb dX6_tellSymbols_22 rfl (lv_at hl 2 rfl) ?_
        refine lv_aload_n hx hb dX6_tellSymbols_23 rfl (lv_at hl 0 rfl) ?_
        refine va_get (D := D) (ci := 6) (v := .ref a_places) (C := RX6) (T := TX6) (N := 6) hx hb hts hi6 hown hK.1 hW.1 0 rfl rfl 2 (by decide) hw1 (fun _ h9 => h9) rfl dX6_tellSymbols_24 ?_
        obtain ⟨r_27, e27, hF⟩ := bd1_some hF
        refine ctV (wn := [ob a_self 6 [Value.ref a_block, Value.ref a_map, Value.ref a_places, Value.ref a_symbols, Value.ref a_list, Value.ref a_present], ob a_map 5 [Value.ref a_map_values, Value.int m_map_count], ob a_places 5 [Value.ref a_places_values, Value.int m_places_count], ia cI a_places_values 300 m_places_values, ob a_symbols 5 [Value.ref a_symbols_values, Value.int m_symbols_count_22], ia cI a_symbols_values 301 m_symbols_values_22]) (r := (RX5, TX5, 2)) (As := []) (rest := [.int x2_22]) hx hb hml hown hts hK hW hA hl.1 (kRow_size l D cI cZ cO cG a_places a_places_values m_places_count e27) (cwV 0 hts gX6_tellSymbols_X5_size rfl rfl rfl (by decide +kernel) ⟨Nat.le_of_ble_eq_true rfl, Nat.le_of_ble_eq_true rfl⟩) 5 2 rfl rfl [2] [0, 1, 3, 4, 5] 6 rfl rfl rfl rfl [ob a_self 6 [Value.ref a_block, Value.ref a_map, Value.ref a_places, Value.ref a_symbols, Value.ref a_list, Value.ref a_present], ob a_map 5 [Value.ref a_map_values, Value.int m_map_count], ia cI a_places_values 300 m_places_values, ob a_symbols 5 [Value.ref a_symbols_values, Value.int m_symbols_count_22], ia cI a_symbols_values 301 m_symbols_values_22] rfl rfl rfl rfl rfl (Nat.le_of_ble_eq_true rfl) rfl ⟨Nat.zero_le _, Nat.zero_le _⟩ dX6_tellSymbols_27 (fun H locs hW => ?_)
        refine lv_icmp_ge (tgt := 75) hx hb dX6_tellSymbols_30 (by decide) (fun c30 => ?_) (fun c30 => ?_)
        · rw [if_pos c30] at hF
          cases hF
          exact hX22 _ _ _ (itr_out hN22) _ _ hW _ (lv_sub hl [0, 1] rfl)
        · rw [if_neg c30] at hF
          refine lv_aload_n hx hb dX6_tellSymbols_33 rfl (lv_at hl 0 rfl) ?_
          refine va_get (D := D) (ci := 6) (v := .ref a_places) (C := RX6) (T := TX6) (N := 6) hx hb hts hi6 hown hK.1 hW.1 0 rfl rfl 2 (by decide) hw1 (fun _ h9 => h9) rfl dX6_tellSymbols_34 ?_
          refine lv_iload_n hx hb dX6_tellSymbols_37 rfl (lv_at hl 2 rfl) ?_
          obtain ⟨r_38, e38, hF⟩ := bd1_some hF
          refine ctV (wn := [ob a_self 6 [Value.ref a_block, Value.ref a_map, Value.ref a_places, Value.ref a_symbols, Value.ref a_list, Value.ref a_present], ob a_map 5 [Value.ref a_map_values, Value.int m_map_count], ob a_places 5 [Value.ref a_places_values, Value.int m_places_count], ia cI a_places_values 300 m_places_values, ob a_symbols 5 [Value.ref a_symbols_values, Value.int m_symbols_count_22], ia cI a_symbols_values 301 m_symbols_values_22]) (r := (RX5, TX5, 2)) (As := [.int x2_22]) (rest := []) hx hb hml hown hts hK hW hA hl.1 (kRow_get l D cI cZ cO cG a_places a_places_values 300 m_places_count m_places_values x2_22 e38) (cwV 1 hts gX6_tellSymbols_X5_get rfl rfl rfl (by decide +kernel) ⟨Nat.le_of_ble_eq_true rfl, Nat.le_of_ble_eq_true rfl⟩) 5 2 rfl rfl [2, 3] [0, 1, 4, 5] 6 rfl rfl rfl rfl [ob a_self 6 [Value.ref a_block, Value.ref a_map, Value.ref a_places, Value.ref a_symbols, Value.ref a_list, Value.ref a_present], ob a_map 5 [Value.ref a_map_values, Value.int m_map_count], ob a_symbols 5 [Value.ref a_symbols_values, Value.int m_symbols_count_22], ia cI a_symbols_values 301 m_symbols_values_22] rfl rfl rfl rfl rfl (Nat.le_of_ble_eq_true rfl) rfl ⟨Nat.zero_le _, Nat.zero_le _⟩ dX6_tellSymbols_38 (fun H locs hW => ?_)
          refine lv_istore_n (lv' := [(3, .int r_38), (0, .ref a_self), (1, .int x1_22), (2, .int x2_22)]) hx hb dX6_tellSymbols_41 rfl hl (by decide) rfl (fun ls hl => ?_)
          refine lv_iload_n hx hb dX6_tellSymbols_42 rfl (lv_at hl 0 rfl) ?_
          refine lv_if_ne (tgt := 52) hx hb dX6_tellSymbols_43 (by decide) (fun c43 => ?_) (fun c43 => ?_)
          · rw [if_neg c43] at hF
            refine lv_aload_n hx hb dX6_tellSymbols_52 rfl (lv_at hl 1 rfl) ?_
            refine lv_iload_n hx hb dX6_tellSymbols_53 rfl (lv_at hl 2 rfl) ?_
            obtain ⟨m_symbols_count_54, m_symbols_values_54, e54, hF⟩ := bd2_some hF
            refine ctV (wn := [ob a_self 6 [Value.ref a_block, Value.ref a_map, Value.ref a_places, Value.ref a_symbols, Value.ref a_list, Value.ref a_present], ob a_map 5 [Value.ref a_map_values, Value.int m_map_count], ob a_places 5 [Value.ref a_places_values, Value.int m_places_count], ia cI a_places_values 300 m_places_values, ob a_symbols 5 [Value.ref a_symbols_values, Value.int m_symbols_count_54], ia cI a_symbols_values 301 m_symbols_values_54]) (r := (RX6, TX6, 6)) (As := [.int x1_22]) (rest := []) hx hb hml hown hts hK hW hA hl.1 (kTelling_tellZeros l D cI cZ cO cG a_self a_block a_map a_places a_symbols a_list a_present a_symbols_values m_symbols_count_22 m_symbols_values_22 x1_22 e54) (cwV 1 hts gX6_tellSymbols_X6_tellZeros rfl rfl rfl (by decide +kernel) ⟨Nat.le_of_ble_eq_true rfl, Nat.le_of_ble_eq_true rfl⟩) 6 0 rfl rfl [0, 4, 5] [1, 2, 3] 6 rfl rfl rfl rfl [ob a_map 5 [Value.ref a_map_values, Value.int m_map_count], ob a_places 5 [Value.ref a_places_values, Value.int m_places_count], ia cI a_places_values 300 m_places_values] rfl rfl rfl rfl rfl (Nat.le_of_ble_eq_true rfl) rfl ⟨Nat.zero_le _, Nat.zero_le _⟩ dX6_tellSymbols_54 (fun H locs hW => ?_)
            refine lv_iconst (v := 0) hx hb dX6_tellSymbols_57 (by decide) ?_
            refine lv_istore_n (lv' := [(1, .int (0 : Int32)), (3, .int r_38), (0, .ref a_self), (2, .int x2_22)]) hx hb dX6_tellSymbols_58 rfl hl (by decide) rfl (fun ls hl => ?_)
            refine lv_aload_n hx hb dX6_tellSymbols_59 rfl (lv_at hl 2 rfl) ?_
            refine va_get (D := D) (ci := 6) (v := .ref a_symbols) (C := RX6) (T := TX6) (N := 6) hx hb hts hi6 hown hK.1 hW.1 0 rfl rfl 3 (by decide) hw0 (fun _ h9 => h9) rfl dX6_tellSymbols_60 ?_
            refine lv_iload_n hx hb dX6_tellSymbols_63 rfl (lv_at hl 1 rfl) ?_
            refine lv_iconst (v := 1) hx hb dX6_tellSymbols_64 (by decide) ?_
            refine lv_iadd hx hb dX6_tellSymbols_65 ?_
            obtain ⟨m_count_66, m_values_66, e66, hF⟩ := bd2_some hF
            refine ctV (wn := [ob a_self 6 [Value.ref a_block, Value.ref a_map, Value.ref a_places, Value.ref a_symbols, Value.ref a_list, Value.ref a_present], ob a_map 5 [Value.ref a_map_values, Value.int m_map_count], ob a_places 5 [Value.ref a_places_values, Value.int m_places_count], ia cI a_places_values 300 m_places_values, ob a_symbols 5 [Value.ref a_symbols_values, Value.int m_count_66], ia cI a_symbols_values 301 m_values_66]) (r := (RX5, TX5, 2)) (As := [.int (r_38 + (1 : Int32))]) (rest := []) hx hb hml hown hts hK hW hA hl.1 (kRow_add l D cI cZ cO cG a_symbols a_symbols_values 301 m_symbols_count_54 m_symbols_values_54 (r_38 + (1 : Int32)) e66) (cwV 1 hts gX6_tellSymbols_X5_add rfl rfl rfl (by decide +kernel) ⟨Nat.le_of_ble_eq_true rfl, Nat.le_of_ble_eq_true rfl⟩) 5 4 rfl rfl [4, 5] [0, 1, 2, 3] 6 rfl rfl rfl rfl [ob a_self 6 [Value.ref a_block, Value.ref a_map, Value.ref a_places, Value.ref a_symbols, Value.ref a_list, Value.ref a_present], ob a_map 5 [Value.ref a_map_values, Value.int m_map_count], ob a_places 5 [Value.ref a_places_values, Value.int m_places_count], ia cI a_places_values 300 m_places_values] rfl rfl rfl rfl rfl (Nat.le_of_ble_eq_true rfl) rfl ⟨Nat.zero_le _, Nat.zero_le _⟩ dX6_tellSymbols_66 (fun H locs hW => ?_)
            refine lv_iinc (v := (x2_22 + 1)) (lv' := [(2, .int (x2_22 + 1)), (1, .int (0 : Int32)), (3, .int r_38), (0, .ref a_self)]) hx hb dX6_tellSymbols_69 hl (k := 3) rfl rfl (by decide) rfl (fun ls hl => ?_)
            refine lv_goto (tgt := 22) hx hb dX6_tellSymbols_72 (by decide) ?_
            cases hF
            exact ih22 _ _ _ _ (itr_in hN22) _ _ hW _ (lv_sub hl [3, 1, 0] rfl)
          · rw [if_pos c43] at hF
            refine lv_iinc (v := (x1_22 + 1)) (lv' := [(1, .int (x1_22 + 1)), (3, .int r_38), (0, .ref a_self), (2, .int x2_22)]) hx hb dX6_tellSymbols_46 hl (k := 2) rfl rfl (by decide) rfl (fun ls hl => ?_)
            refine lv_goto (tgt := 69) hx hb dX6_tellSymbols_49 (by decide) ?_
            refine lv_iinc (v := (x2_22 + 1)) (lv' := [(2, .int (x2_22 + 1)), (1, .int (x1_22 + 1)), (3, .int r_38), (0, .ref a_self)]) hx hb dX6_tellSymbols_69 hl (k := 3) rfl rfl (by decide) rfl (fun ls hl => ?_)
            refine lv_goto (tgt := 22) hx hb dX6_tellSymbols_72 (by decide) ?_
            cases hF
            exact ih22 _ _ _ _ (itr_in hN22) _ _ hW _ (lv_sub hl [3, 1, 0] rfl)
    exact hL22 nn _ _ _ _ hI _ _ hW _ (lv_sub hl [2, 1, 0] rfl)
  · rw [if_pos c14] at hF
    cases hF
    subst hQ
    exact ct_vret hx hb hr hlocks hW.1 hW.2.2 dX6_tellSymbols_17
abbrev rmTelling_tell : Room := { frames := 3, cells := 0, slots := 0, locals := 66 }
set_option maxHeartbeats 4000000 in
set_option maxRecDepth 100000 in
theorem kTelling_tell (l : Launch) (D : va_G) (cI cZ cO cG : ClassId) (a_self : Nat) (a_block : Nat) (a_map : Nat) (a_places : Nat) (a_symbols : Nat) (a_list : Nat) (a_present : Nat) (a_block_values : Nat) (a_map_values : Nat) (a_places_values : Nat) (a_symbols_values : Nat) (a_list_list : Nat) (m_block_count : Int32) (m_block_values : Nat → Int32) (m_map_count : Int32) (m_map_values : Nat → Int32) (m_places_count : Int32) (m_places_values : Nat → Int32) (m_symbols_count : Int32) (m_symbols_values : Nat → Int32) (m_list_count : Int32) (m_list_list : Nat → Int32) (m_present : Nat → Int32) {m_map_count' : Int32} {m_map_values' : Nat → Int32} {m_places_count' : Int32} {m_places_values' : Nat → Int32} {m_symbols_count' : Int32} {m_symbols_values' : Nat → Int32} {m_list_count' : Int32} {m_list_list' : Nat → Int32} {m_present' : Nat → Int32} (hF : fTelling_tell m_block_count m_block_values m_map_values m_places_values m_symbols_values m_list_list m_present = some (m_map_count', m_map_values', m_places_count', m_places_values', m_symbols_count', m_symbols_values', m_list_count', m_list_list', m_present')) : CT l yX6_tell wsX6_tell rmTelling_tell D (tysG cI cZ cO cG) [.ref a_self] [ob a_self 6 [Value.ref a_block, Value.ref a_map, Value.ref a_places, Value.ref a_symbols, Value.ref a_list, Value.ref a_present], ob a_block 5 [Value.ref a_block_values, Value.int m_block_count], ia cI a_block_values 300 m_block_values, ob a_map 5 [Value.ref a_map_values, Value.int m_map_count], ia cI a_map_values 256 m_map_values, ob a_places 5 [Value.ref a_places_values, Value.int m_places_count], ia cI a_places_values 300 m_places_values, ob a_symbols 5 [Value.ref a_symbols_values, Value.int m_symbols_count], ia cI a_symbols_values 301 m_symbols_values, ob a_list 1 [Value.ref a_list_list, Value.int m_list_count], ia cI a_list_list 256 m_list_list, ia cZ a_present 256 m_present] none [ob a_self 6 [Value.ref a_block, Value.ref a_map, Value.ref a_places, Value.ref a_symbols, Value.ref a_list, Value.ref a_present], ob a_block 5 [Value.ref a_block_values, Value.int m_block_count], ia cI a_block_values 300 m_block_values, ob a_map 5 [Value.ref a_map_values, Value.int m_map_count'], ia cI a_map_values 256 m_map_values', ob a_places 5 [Value.ref a_places_values, Value.int m_places_count'], ia cI a_places_values 300 m_places_values', ob a_symbols 5 [Value.ref a_symbols_values, Value.int m_symbols_count'], ia cI a_symbols_values 301 m_symbols_values', ob a_list 1 [Value.ref a_list_list, Value.int m_list_count'], ia cI a_list_list 256 m_list_list', ia cZ a_present 256 m_present'] := by
  refine CT.of (cc := cX6_tell) (maxL := 1) (ret := none) (by decide) rfl (Nat.le_of_ble_eq_true rfl) ?_
  intro p e s m below meth c A ls hx hb hr hml hts hown hlocks hK hA hP hD hS hl
  generalize hargs : ([.ref a_self] : List Value).toArray = args at hts ⊢
  generalize hQ : MQ below (ctQ D none [ob a_self 6 [Value.ref a_block, Value.ref a_map, Value.ref a_places, Value.ref a_symbols, Value.ref a_list, Value.ref a_present], ob a_block 5 [Value.ref a_block_values, Value.int m_block_count], ia cI a_block_values 300 m_block_values, ob a_map 5 [Value.ref a_map_values, Value.int m_map_count'], ia cI a_map_values 256 m_map_values', ob a_places 5 [Value.ref a_places_values, Value.int m_places_count'], ia cI a_places_values 300 m_places_values', ob a_symbols 5 [Value.ref a_symbols_values, Value.int m_symbols_count'], ia cI a_symbols_values 301 m_symbols_values', ob a_list 1 [Value.ref a_list_list, Value.int m_list_count'], ia cI a_list_list 256 m_list_list', ia cZ a_present 256 m_present'] A) args s 0 0 A = Q
  have hl : lv_has ls 1 [(0, .ref a_self)] := hl
  have hW : WS D A s [ob a_self 6 [Value.ref a_block, Value.ref a_map, Value.ref a_places, Value.ref a_symbols, Value.ref a_list, Value.ref a_present], ob a_block 5 [Value.ref a_block_values, Value.int m_block_count], ia cI a_block_values 300 m_block_values, ob a_map 5 [Value.ref a_map_values, Value.int m_map_count], ia cI a_map_values 256 m_map_values, ob a_places 5 [Value.ref a_places_values, Value.int m_places_count], ia cI a_places_values 300 m_places_values, ob a_symbols 5 [Value.ref a_symbols_values, Value.int m_symbols_count], ia cI a_symbols_values 301 m_symbols_values, ob a_list 1 [Value.ref a_list_list, Value.int m_list_count], ia cI a_list_list 256 m_list_list, ia cZ a_present 256 m_present] s.heap [] := ⟨hP, hD, hS⟩
  clear hP hD hS
  unfold fTelling_tell at hF
  refine lv_aload_n hx hb dX6_tell_0 rfl (lv_at hl 0 rfl) ?_
  obtain ⟨m_map_count_1, m_map_values_1, m_list_count_1, m_list_list_1, m_present_1, e1, hF⟩ := bd5_some hF
  refine ctV (wn := [ob a_self 6 [Value.ref a_block, Value.ref a_map, Value.ref a_places, Value.ref a_symbols, Value.ref a_list, Value.ref a_present], ob a_block 5 [Value.ref a_block_values, Value.int m_block_count], ia cI a_block_values 300 m_block_values, ob a_map 5 [Value.ref a_map_values, Value.int m_map_count_1], ia cI a_map_values 256 m_map_values_1, ob a_places 5 [Value.ref a_places_values, Value.int m_places_count], ia cI a_places_values 300 m_places_values, ob a_symbols 5 [Value.ref a_symbols_values, Value.int m_symbols_count], ia cI a_symbols_values 301 m_symbols_values, ob a_list 1 [Value.ref a_list_list, Value.int m_list_count_1], ia cI a_list_list 256 m_list_list_1, ia cZ a_present 256 m_present_1]) (r := (RX6, TX6, 6)) (As := []) (rest := []) hx hb hml hown hts hK hW hA hl.1 (kTelling_tellMap l D cI cZ cO cG a_self a_block a_map a_places a_symbols a_list a_present a_block_values a_map_values a_list_list m_block_count m_block_values m_map_count m_map_values m_list_count m_list_list m_present e1) (cwV 0 hts gX6_tell_X6_tellMap rfl rfl rfl (by decide +kernel) ⟨Nat.le_of_ble_eq_true rfl, Nat.le_of_ble_eq_true rfl⟩) 6 0 rfl rfl [0, 1, 2, 3, 4, 9, 10, 11] [5, 6, 7, 8] 12 rfl rfl rfl rfl [ob a_places 5 [Value.ref a_places_values, Value.int m_places_count], ia cI a_places_values 300 m_places_values, ob a_symbols 5 [Value.ref a_symbols_values, Value.int m_symbols_count], ia cI a_symbols_values 301 m_symbols_values] rfl rfl rfl rfl rfl (Nat.le_of_ble_eq_true rfl) rfl ⟨Nat.zero_le _, Nat.zero_le _⟩ dX6_tell_1 (fun H locs hW => ?_)
  refine lv_aload_n hx hb dX6_tell_4 rfl (lv_at hl 0 rfl) ?_
  obtain ⟨m_places_count_5, m_places_values_5, m_list_list_5, e5, hF⟩ := bd3_some hF
  refine ctV (wn := [ob a_self 6 [Value.ref a_block, Value.ref a_map, Value.ref a_places, Value.ref a_symbols, Value.ref a_list, Value.ref a_present], ob a_block 5 [Value.ref a_block_values, Value.int m_block_count], ia cI a_block_values 300 m_block_values, ob a_map 5 [Value.ref a_map_values, Value.int m_map_count_1], ia cI a_map_values 256 m_map_values_1, ob a_places 5 [Value.ref a_places_values, Value.int m_places_count_5], ia cI a_places_values 300 m_places_values_5, ob a_symbols 5 [Value.ref a_symbols_values, Value.int m_symbols_count], ia cI a_symbols_values 301 m_symbols_values, ob a_list 1 [Value.ref a_list_list, Value.int m_list_count_1], ia cI a_list_list 256 m_list_list_5, ia cZ a_present 256 m_present_1]) (r := (RX6, TX6, 6)) (As := []) (rest := []) hx hb hml hown hts hK hW hA hl.1 (kTelling_tellPlaces l D cI cZ cO cG a_self a_block a_map a_places a_symbols a_list a_present a_block_values a_places_values a_list_list m_block_count m_block_values m_places_count m_places_values m_list_count_1 m_list_list_1 e5) (cwV 0 hts gX6_tell_X6_tellPlaces rfl rfl rfl (by decide +kernel) ⟨Nat.le_of_ble_eq_true rfl, Nat.le_of_ble_eq_true rfl⟩) 6 0 rfl rfl [0, 1, 2, 5, 6, 9, 10] [3, 4, 7, 8, 11] 12 rfl rfl rfl rfl [ob a_map 5 [Value.ref a_map_values, Value.int m_map_count_1], ia cI a_map_values 256 m_map_values_1, ob a_symbols 5 [Value.ref a_symbols_values, Value.int m_symbols_count], ia cI a_symbols_values 301 m_symbols_values, ia cZ a_present 256 m_present_1] rfl rfl rfl rfl rfl (Nat.le_of_ble_eq_true rfl) rfl ⟨Nat.zero_le _, Nat.zero_le _⟩ dX6_tell_5 (fun H locs hW => ?_)
  refine lv_aload_n hx hb dX6_tell_8 rfl (lv_at hl 0 rfl) ?_
  obtain ⟨m_symbols_count_9, m_symbols_values_9, e9, hF⟩ := bd2_some hF
  refine ctV (wn := [ob a_self 6 [Value.ref a_block, Value.ref a_map, Value.ref a_places, Value.ref a_symbols, Value.ref a_list, Value.ref a_present], ob a_block 5 [Value.ref a_block_values, Value.int m_block_count], ia cI a_block_values 300 m_block_values, ob a_map 5 [Value.ref a_map_values, Value.int m_map_count_1], ia cI a_map_values 256 m_map_values_1, ob a_places 5 [Value.ref a_places_values, Value.int m_places_count_5], ia cI a_places_values 300 m_places_values_5, ob a_symbols 5 [Value.ref a_symbols_values, Value.int m_symbols_count_9], ia cI a_symbols_values 301 m_symbols_values_9, ob a_list 1 [Value.ref a_list_list, Value.int m_list_count_1], ia cI a_list_list 256 m_list_list_5, ia cZ a_present 256 m_present_1]) (r := (RX6, TX6, 6)) (As := []) (rest := []) hx hb hml hown hts hK hW hA hl.1 (kTelling_tellSymbols l D cI cZ cO cG a_self a_block a_map a_places a_symbols a_list a_present a_map_values a_places_values a_symbols_values m_map_count_1 m_places_count_5 m_places_values_5 m_symbols_count m_symbols_values e9) (cwV 0 hts gX6_tell_X6_tellSymbols rfl rfl rfl (by decide +kernel) ⟨Nat.le_of_ble_eq_true rfl, Nat.le_of_ble_eq_true rfl⟩) 6 0 rfl rfl [0, 3, 5, 6, 7, 8] [1, 2, 4, 9, 10, 11] 12 rfl rfl rfl rfl [ob a_block 5 [Value.ref a_block_values, Value.int m_block_count], ia cI a_block_values 300 m_block_values, ia cI a_map_values 256 m_map_values_1, ob a_list 1 [Value.ref a_list_list, Value.int m_list_count_1], ia cI a_list_list 256 m_list_list_5, ia cZ a_present 256 m_present_1] rfl rfl rfl rfl rfl (Nat.le_of_ble_eq_true rfl) rfl ⟨Nat.zero_le _, Nat.zero_le _⟩ dX6_tell_9 (fun H locs hW => ?_)
  cases hF
  subst hQ
  exact ct_vret hx hb hr hlocks hW.1 hW.2.2 dX6_tell_12
abbrev rmTelling_has : Room := { frames := 0, cells := 0, slots := 0, locals := 0 }
set_option maxHeartbeats 4000000 in
set_option maxRecDepth 100000 in
theorem kTelling_has (l : Launch) (D : va_G) (cI cZ cO cG : ClassId) (a_self : Nat) (a_block : Nat) (a_map : Nat) (a_places : Nat) (a_symbols : Nat) (a_list : Nat) (a_present : Nat) (m_present : Nat → Int32) (x1 : Int32) {rv : Int32} (hF : fTelling_has m_present x1 = some rv) : CT l yX6_has wsX6_has rmTelling_has D (tysG cI cZ cO cG) [.ref a_self, .int x1] [ob a_self 6 [Value.ref a_block, Value.ref a_map, Value.ref a_places, Value.ref a_symbols, Value.ref a_list, Value.ref a_present], ia cZ a_present 256 m_present] (some (.int rv)) [ob a_self 6 [Value.ref a_block, Value.ref a_map, Value.ref a_places, Value.ref a_symbols, Value.ref a_list, Value.ref a_present], ia cZ a_present 256 m_present] := by
  refine CT.of (cc := cX6_has) (maxL := 2) (ret := (some .boolean)) (by decide) rfl (Nat.le_of_ble_eq_true rfl) ?_
  intro p e s m below meth c A ls hx hb hr hml hts hown hlocks hK hA hP hD hS hl
  generalize hargs : ([.ref a_self, .int x1] : List Value).toArray = args at hts ⊢
  generalize hQ : MQ below (ctQ D (some (.int rv)) [ob a_self 6 [Value.ref a_block, Value.ref a_map, Value.ref a_places, Value.ref a_symbols, Value.ref a_list, Value.ref a_present], ia cZ a_present 256 m_present] A) args s 0 0 A = Q
  have hl : lv_has ls 2 [(0, .ref a_self), (1, .int x1)] := hl
  have hW : WS D A s [ob a_self 6 [Value.ref a_block, Value.ref a_map, Value.ref a_places, Value.ref a_symbols, Value.ref a_list, Value.ref a_present], ia cZ a_present 256 m_present] s.heap [] := ⟨hP, hD, hS⟩
  clear hP hD hS
  unfold fTelling_has at hF
  have hw0 := hts (Cond.fieldLink RX6 36 "MoveFronts$Telling" "present" "[Z") (by decide +kernel)
  have hi6 : ∀ w ∈ u_ws RX6 TX6 6, w ∈ wsX6_has := by decide +kernel
  refine lv_iload_n hx hb dX6_has_0 rfl (lv_at hl 1 rfl) ?_
  refine lv_if_lt (tgt := 24) hx hb dX6_has_1 (by decide) (fun c1 => ?_) (fun c1 => ?_)
  · rw [if_pos c1] at hF
    refine lv_iconst (v := 0) hx hb dX6_has_24 (by decide) ?_
    cases hF
    subst hQ
    exact ct_zret hx hb hr hlocks rfl hW.1 hW.2.2 dX6_has_25
  · rw [if_neg c1] at hF
    refine lv_iload_n hx hb dX6_has_4 rfl (lv_at hl 1 rfl) ?_
    refine lv_sipush (v := 256) hx hb dX6_has_5 (by decide) ?_
    refine lv_icmp_ge (tgt := 24) hx hb dX6_has_8 (by decide) (fun c8 => ?_) (fun c8 => ?_)
    · rw [if_pos c8] at hF
      refine lv_iconst (v := 0) hx hb dX6_has_24 (by decide) ?_
      cases hF
      subst hQ
      exact ct_zret hx hb hr hlocks rfl hW.1 hW.2.2 dX6_has_25
    · rw [if_neg c8] at hF
      refine lv_aload_n hx hb dX6_has_11 rfl (lv_at hl 0 rfl) ?_
      refine va_get (D := D) (ci := 6) (v := .ref a_present) (C := RX6) (T := TX6) (N := 6) hx hb hts hi6 hown hK.1 hW.1 0 rfl rfl 5 (by decide) hw0 (fun _ h9 => h9) rfl dX6_has_12 ?_
      refine lv_iload_n hx hb dX6_has_15 rfl (lv_at hl 1 rfl) ?_
      obtain ⟨g16, hF⟩ := gdI_some hF
      refine va_zald hx hb hK.1 hW.1 1 1 rfl rfl g16 dX6_has_16 ?_
      refine lv_if_eq (tgt := 24) hx hb dX6_has_17 (by decide) (fun c17 => ?_) (fun c17 => ?_)
      · rw [if_pos c17] at hF
        refine lv_iconst (v := 0) hx hb dX6_has_24 (by decide) ?_
        cases hF
        subst hQ
        exact ct_zret hx hb hr hlocks rfl hW.1 hW.2.2 dX6_has_25
      · rw [if_neg c17] at hF
        refine lv_iconst (v := 1) hx hb dX6_has_20 (by decide) ?_
        refine lv_goto (tgt := 25) hx hb dX6_has_21 (by decide) ?_
        cases hF
        subst hQ
        exact ct_zret hx hb hr hlocks rfl hW.1 hW.2.2 dX6_has_25
