abbrev rmWriter_put : Room := { frames := 1, cells := 0, slots := 0, locals := 21 }
set_option maxHeartbeats 4000000 in
set_option maxRecDepth 100000 in
theorem kWriter_put (l : Launch) (D : va_G) (cI cZ cO cG : ClassId) (a_self : Nat) (a_telling : Nat) (a_rounds : Nat) (a_tape : Nat) (a_order : Nat) (a_tape_values : Nat) (m_counting : Int32) (m_bits : Int32) (m_tape_count : Int32) (m_tape_values : Nat → Int32) (x1 : Int32) {m_bits' : Int32} {m_tape_count' : Int32} {m_tape_values' : Nat → Int32} (hF : fWriter_put m_counting m_bits m_tape_count m_tape_values x1 = some (m_bits', m_tape_count', m_tape_values')) : CT l yX7_put wsX7_put rmWriter_put D (tysG cI cZ cO cG) [.ref a_self, .int x1] [(a_self, .inr (7, [.ref a_telling, .ref a_rounds, .ref a_tape, .ref a_order, .int m_counting, .int m_bits])), (a_tape, .inr (5, [.ref a_tape_values, .int m_tape_count])), (a_tape_values, .inl (cI, 1500, .inl m_tape_values))] none [(a_self, .inr (7, [.ref a_telling, .ref a_rounds, .ref a_tape, .ref a_order, .int m_counting, .int m_bits'])), (a_tape, .inr (5, [.ref a_tape_values, .int m_tape_count'])), (a_tape_values, .inl (cI, 1500, .inl m_tape_values'))] := by
  refine CT.of (cc := cX7_put) (maxL := 2) (ret := none) (by decide) rfl (Nat.le_of_ble_eq_true rfl) ?_
  intro p e s m below meth c A ls hx hb hr hml hts hown hlocks hK hA hP hD hS hl
  generalize hargs : ([.ref a_self, .int x1] : List Value).toArray = args at hts ⊢
  generalize hQ : MQ below (ctQ D none [(a_self, .inr (7, [.ref a_telling, .ref a_rounds, .ref a_tape, .ref a_order, .int m_counting, .int m_bits'])), (a_tape, .inr (5, [.ref a_tape_values, .int m_tape_count'])), (a_tape_values, .inl (cI, 1500, .inl m_tape_values'))] A) args s 0 0 A = Q
  have hl : lv_has ls 2 [(0, .ref a_self), (1, .int x1)] := hl
  have hW : WS D A s [(a_self, .inr (7, [.ref a_telling, .ref a_rounds, .ref a_tape, .ref a_order, .int m_counting, .int m_bits])), (a_tape, .inr (5, [.ref a_tape_values, .int m_tape_count])), (a_tape_values, .inl (cI, 1500, .inl m_tape_values))] s.heap [] := ⟨hP, hD, hS⟩
  clear hP hD hS
  unfold fWriter_put at hF
  have hw0 := hts (Cond.fieldLink RX7 36 "MoveFronts$Writer" "bits" "I") (by decide +kernel)
  have hw1 := hts (Cond.fieldLink RX7 32 "MoveFronts$Writer" "counting" "Z") (by decide +kernel)
  have hw2 := hts (Cond.fieldLink RX7 19 "MoveFronts$Writer" "tape" "LMoveFronts$Row;") (by decide +kernel)
  have hi7 : ∀ w ∈ u_ws RX7 TX7 6, w ∈ wsX7_put := by decide +kernel
  refine lv_aload_n hx hb dX7_put_0 rfl (lv_at hl 0 rfl) ?_
  refine lv_dup hx hb dX7_put_1 rfl ?_
  refine va_get (D := D) (ci := 7) (v := .int m_bits) (C := RX7) (T := TX7) (N := 6) hx hb hts hi7 hown hK.1 hW.1 0 rfl rfl 5 (by decide) hw0 (fun _ h9 => h9) rfl dX7_put_2 ?_
  refine lv_iconst (v := 1) hx hb dX7_put_5 (by decide) ?_
  refine lv_iadd hx hb dX7_put_6 ?_
  refine va_put (D := D) (ci := 7) (v := .int (m_bits + (1 : Int32))) (ty := .int) (C := RX7) (T := TX7) (N := 6) hx hb hts hi7 tyX7 tyX7_ok nmX7 hown hK.1 hW.1 hW.2.1 hW.2.2 0 rfl rfl 5 (by decide) hw0 (fun _ h9 => h9) rfl (by decide +kernel) rfl rfl (Nat.le_of_ble_eq_true rfl) dX7_put_7 (fun H locs hP hD hS => ?_)
  have hW : WS D A s [(a_self, .inr (7, [.ref a_telling, .ref a_rounds, .ref a_tape, .ref a_order, .int m_counting, .int (m_bits + (1 : Int32))])), (a_tape, .inr (5, [.ref a_tape_values, .int m_tape_count])), (a_tape_values, .inl (cI, 1500, .inl m_tape_values))] H locs := ⟨hP, hD, hS⟩
  refine lv_aload_n hx hb dX7_put_10 rfl (lv_at hl 0 rfl) ?_
  refine va_get (D := D) (ci := 7) (v := .int m_counting) (C := RX7) (T := TX7) (N := 6) hx hb hts hi7 hown hK.1 hW.1 0 rfl rfl 4 (by decide) hw1 (fun _ h9 => h9) rfl dX7_put_11 ?_
  refine lv_if_ne (tgt := 25) hx hb dX7_put_14 (by decide) (fun c14 => ?_) (fun c14 => ?_)
  · rw [if_neg c14] at hF
    cases hF
    subst hQ
    exact ct_vret hx hb hr hlocks hW.1 hW.2.2 dX7_put_25
  · rw [if_pos c14] at hF
    refine lv_aload_n hx hb dX7_put_17 rfl (lv_at hl 0 rfl) ?_
    refine va_get (D := D) (ci := 7) (v := .ref a_tape) (C := RX7) (T := TX7) (N := 6) hx hb hts hi7 hown hK.1 hW.1 0 rfl rfl 2 (by decide) hw2 (fun _ h9 => h9) rfl dX7_put_18 ?_
    refine lv_iload_n hx hb dX7_put_21 rfl (lv_at hl 1 rfl) ?_
    obtain ⟨m_count_22, m_values_22, e22, hF⟩ := bd2_some hF
    refine ctV (r := (RX5, TX5, 2)) (As := [.int x1]) (rest := []) hx hb hml hown hts hK hW.1 hW.2.1 hW.2.2 hA hl.1 (kRow_add l D cI cZ cO cG a_tape a_tape_values 1500 m_tape_count m_tape_values x1 e22) (cwV 1 hts gX7_put_X5_add rfl rfl rfl (by decide +kernel) ⟨Nat.le_of_ble_eq_true rfl, Nat.le_of_ble_eq_true rfl⟩) 5 1 rfl rfl [1, 2] rfl rfl rfl rfl rfl (Nat.le_of_ble_eq_true rfl) rfl ⟨Nat.zero_le _, Nat.zero_le _⟩ dX7_put_22 (fun H locs hP hD hS => ?_)
    have hW : WS D A s [(a_self, .inr (7, [.ref a_telling, .ref a_rounds, .ref a_tape, .ref a_order, .int m_counting, .int (m_bits + (1 : Int32))])), (a_tape, .inr (5, [.ref a_tape_values, .int m_count_22])), (a_tape_values, .inl (cI, 1500, .inl m_values_22))] H locs := ⟨hP, hD, hS⟩
    cases hF
    subst hQ
    exact ct_vret hx hb hr hlocks hW.1 hW.2.2 dX7_put_25
abbrev rmWriter_putChoices : Room := { frames := 2, cells := 0, slots := 0, locals := 43 }
set_option maxHeartbeats 4000000 in
set_option maxRecDepth 100000 in
theorem kWriter_putChoices (l : Launch) (D : va_G) (cI cZ cO cG : ClassId) (a_self : Nat) (a_telling : Nat) (a_rounds : Nat) (a_tape : Nat) (a_order : Nat) (a_telling_symbols : Nat) (a_rounds_tableOfGroup : Nat) (a_rounds_lengths : Nat) (a_rounds_weights : Nat) (a_rounds_joiner : Nat) (a_rounds_codes : Nat) (aF_rounds_tableOfGroup : Nat → Nat) (a_tape_values : Nat) (a_order_list : Nat) (m_counting : Int32) (m_bits : Int32) (m_rounds_kinds : Int32) (m_rounds_groups : Int32) (m_rounds_tables : Int32) (M_rounds_tableOfGroup : Nat → Nat → Int32) (m_tape_count : Int32) (m_tape_values : Nat → Int32) (m_order_count : Int32) (m_order_list : Nat → Int32) {m_bits' : Int32} {m_tape_count' : Int32} {m_tape_values' : Nat → Int32} {m_order_count' : Int32} {m_order_list' : Nat → Int32} (hF : fWriter_putChoices m_counting m_bits m_rounds_groups m_rounds_tables M_rounds_tableOfGroup m_tape_count m_tape_values m_order_list = some (m_bits', m_tape_count', m_tape_values', m_order_count', m_order_list')) : CT l yX7_putChoices wsX7_putChoices rmWriter_putChoices D (tysG cI cZ cO cG) [.ref a_self] [(a_self, .inr (7, [.ref a_telling, .ref a_rounds, .ref a_tape, .ref a_order, .int m_counting, .int m_bits])), (a_rounds, .inr (4, [.ref a_telling_symbols, .ref a_rounds_tableOfGroup, .ref a_rounds_lengths, .ref a_rounds_weights, .ref a_rounds_joiner, .ref a_rounds_codes, .int m_rounds_kinds, .int m_rounds_groups, .int m_rounds_tables])), (a_rounds_tableOfGroup, .inl (cG, 5, .inr (.inr (.inr (.inr (fun i => if i < 5 then some (aF_rounds_tableOfGroup i) else none)))))), (aF_rounds_tableOfGroup 0, .inl (cI, 31, .inl (M_rounds_tableOfGroup 0))), (aF_rounds_tableOfGroup 1, .inl (cI, 31, .inl (M_rounds_tableOfGroup 1))), (aF_rounds_tableOfGroup 2, .inl (cI, 31, .inl (M_rounds_tableOfGroup 2))), (aF_rounds_tableOfGroup 3, .inl (cI, 31, .inl (M_rounds_tableOfGroup 3))), (aF_rounds_tableOfGroup 4, .inl (cI, 31, .inl (M_rounds_tableOfGroup 4))), (a_tape, .inr (5, [.ref a_tape_values, .int m_tape_count])), (a_tape_values, .inl (cI, 1500, .inl m_tape_values)), (a_order, .inr (1, [.ref a_order_list, .int m_order_count])), (a_order_list, .inl (cI, 3, .inl m_order_list))] none [(a_self, .inr (7, [.ref a_telling, .ref a_rounds, .ref a_tape, .ref a_order, .int m_counting, .int m_bits'])), (a_rounds, .inr (4, [.ref a_telling_symbols, .ref a_rounds_tableOfGroup, .ref a_rounds_lengths, .ref a_rounds_weights, .ref a_rounds_joiner, .ref a_rounds_codes, .int m_rounds_kinds, .int m_rounds_groups, .int m_rounds_tables])), (a_rounds_tableOfGroup, .inl (cG, 5, .inr (.inr (.inr (.inr (fun i => if i < 5 then some (aF_rounds_tableOfGroup i) else none)))))), (aF_rounds_tableOfGroup 0, .inl (cI, 31, .inl (M_rounds_tableOfGroup 0))), (aF_rounds_tableOfGroup 1, .inl (cI, 31, .inl (M_rounds_tableOfGroup 1))), (aF_rounds_tableOfGroup 2, .inl (cI, 31, .inl (M_rounds_tableOfGroup 2))), (aF_rounds_tableOfGroup 3, .inl (cI, 31, .inl (M_rounds_tableOfGroup 3))), (aF_rounds_tableOfGroup 4, .inl (cI, 31, .inl (M_rounds_tableOfGroup 4))), (a_tape, .inr (5, [.ref a_tape_values, .int m_tape_count'])), (a_tape_values, .inl (cI, 1500, .inl m_tape_values')), (a_order, .inr (1, [.ref a_order_list, .int m_order_count'])), (a_order_list, .inl (cI, 3, .inl m_order_list'))] := by
  refine CT.of (cc := cX7_putChoices) (maxL := 4) (ret := none) (by decide) rfl (Nat.le_of_ble_eq_true rfl) ?_
  intro p e s m below meth c A ls hx hb hr hml hts hown hlocks hK hA hP hD hS hl
  generalize hargs : ([.ref a_self] : List Value).toArray = args at hts ⊢
  generalize hQ : MQ below (ctQ D none [(a_self, .inr (7, [.ref a_telling, .ref a_rounds, .ref a_tape, .ref a_order, .int m_counting, .int m_bits'])), (a_rounds, .inr (4, [.ref a_telling_symbols, .ref a_rounds_tableOfGroup, .ref a_rounds_lengths, .ref a_rounds_weights, .ref a_rounds_joiner, .ref a_rounds_codes, .int m_rounds_kinds, .int m_rounds_groups, .int m_rounds_tables])), (a_rounds_tableOfGroup, .inl (cG, 5, .inr (.inr (.inr (.inr (fun i => if i < 5 then some (aF_rounds_tableOfGroup i) else none)))))), (aF_rounds_tableOfGroup 0, .inl (cI, 31, .inl (M_rounds_tableOfGroup 0))), (aF_rounds_tableOfGroup 1, .inl (cI, 31, .inl (M_rounds_tableOfGroup 1))), (aF_rounds_tableOfGroup 2, .inl (cI, 31, .inl (M_rounds_tableOfGroup 2))), (aF_rounds_tableOfGroup 3, .inl (cI, 31, .inl (M_rounds_tableOfGroup 3))), (aF_rounds_tableOfGroup 4, .inl (cI, 31, .inl (M_rounds_tableOfGroup 4))), (a_tape, .inr (5, [.ref a_tape_values, .int m_tape_count'])), (a_tape_values, .inl (cI, 1500, .inl m_tape_values')), (a_order, .inr (1, [.ref a_order_list, .int m_order_count'])), (a_order_list, .inl (cI, 3, .inl m_order_list'))] A) args s 0 0 A = Q
  have hl : lv_has ls 4 [(0, .ref a_self)] := hl
  have hW : WS D A s [(a_self, .inr (7, [.ref a_telling, .ref a_rounds, .ref a_tape, .ref a_order, .int m_counting, .int m_bits])), (a_rounds, .inr (4, [.ref a_telling_symbols, .ref a_rounds_tableOfGroup, .ref a_rounds_lengths, .ref a_rounds_weights, .ref a_rounds_joiner, .ref a_rounds_codes, .int m_rounds_kinds, .int m_rounds_groups, .int m_rounds_tables])), (a_rounds_tableOfGroup, .inl (cG, 5, .inr (.inr (.inr (.inr (fun i => if i < 5 then some (aF_rounds_tableOfGroup i) else none)))))), (aF_rounds_tableOfGroup 0, .inl (cI, 31, .inl (M_rounds_tableOfGroup 0))), (aF_rounds_tableOfGroup 1, .inl (cI, 31, .inl (M_rounds_tableOfGroup 1))), (aF_rounds_tableOfGroup 2, .inl (cI, 31, .inl (M_rounds_tableOfGroup 2))), (aF_rounds_tableOfGroup 3, .inl (cI, 31, .inl (M_rounds_tableOfGroup 3))), (aF_rounds_tableOfGroup 4, .inl (cI, 31, .inl (M_rounds_tableOfGroup 4))), (a_tape, .inr (5, [.ref a_tape_values, .int m_tape_count])), (a_tape_values, .inl (cI, 1500, .inl m_tape_values)), (a_order, .inr (1, [.ref a_order_list, .int m_order_count])), (a_order_list, .inl (cI, 3, .inl m_order_list))] s.heap [] := ⟨hP, hD, hS⟩
  clear hP hD hS
  unfold fWriter_putChoices at hF
  have hw0 := hts (Cond.fieldLink RX7 28 "MoveFronts$Writer" "order" "LMoveFronts$Front;") (by decide +kernel)
  have hw1 := hts (Cond.fieldLink RX7 15 "MoveFronts$Writer" "rounds" "LMoveFronts$Rounds;") (by decide +kernel)
  have hi7 : ∀ w ∈ u_ws RX7 TX7 6, w ∈ wsX7_putChoices := by decide +kernel
  have hi4 : ∀ w ∈ u_ws RX4 TX4 9, w ∈ wsX7_putChoices := by decide +kernel
  refine lv_aload_n hx hb dX7_putChoices_0 rfl (lv_at hl 0 rfl) ?_
  refine va_get (D := D) (ci := 7) (v := .ref a_order) (C := RX7) (T := TX7) (N := 6) hx hb hts hi7 hown hK.1 hW.1 0 rfl rfl 3 (by decide) hw0 (fun _ h9 => h9) rfl dX7_putChoices_1 ?_
  refine lv_aload_n hx hb dX7_putChoices_4 rfl (lv_at hl 0 rfl) ?_
  refine va_get (D := D) (ci := 7) (v := .ref a_rounds) (C := RX7) (T := TX7) (N := 6) hx hb hts hi7 hown hK.1 hW.1 0 rfl rfl 1 (by decide) hw1 (fun _ h9 => h9) rfl dX7_putChoices_5 ?_
  refine va_getN (D := D) (ci := 4) (v := .int m_rounds_tables) (C := RX4) (T := TX4) (N := 9) hx hb hts hi4 hown hK.1 hW.1 1 rfl rfl 8 (by decide) (va_Nw.use rfl (hK.2.1 ("MoveFronts$Writer", 52, "MoveFronts$Rounds", "tables", "I", "MoveFronts") (by decide +kernel))) (fun _ h9 => h9) rfl dX7_putChoices_8 ?_
  obtain ⟨m_count_11, m_list_11, e11, hF⟩ := bd2_some hF
  refine ctV (r := (RX1, TX1, 2)) (As := [.int m_rounds_tables]) (rest := []) hx hb hml hown hts hK hW.1 hW.2.1 hW.2.2 hA hl.1 (kFront_restart l D cI cZ cO cG a_order a_order_list 3 m_order_count m_order_list m_rounds_tables e11) (cwV 1 hts gX7_putChoices_X1_restart rfl rfl rfl (by decide +kernel) ⟨Nat.le_of_ble_eq_true rfl, Nat.le_of_ble_eq_true rfl⟩) 1 10 rfl rfl [10, 11] rfl rfl rfl rfl rfl (Nat.le_of_ble_eq_true rfl) rfl ⟨Nat.zero_le _, Nat.zero_le _⟩ dX7_putChoices_11 (fun H locs hP hD hS => ?_)
  have hW : WS D A s [(a_self, .inr (7, [.ref a_telling, .ref a_rounds, .ref a_tape, .ref a_order, .int m_counting, .int m_bits])), (a_rounds, .inr (4, [.ref a_telling_symbols, .ref a_rounds_tableOfGroup, .ref a_rounds_lengths, .ref a_rounds_weights, .ref a_rounds_joiner, .ref a_rounds_codes, .int m_rounds_kinds, .int m_rounds_groups, .int m_rounds_tables])), (a_rounds_tableOfGroup, .inl (cG, 5, .inr (.inr (.inr (.inr (fun i => if i < 5 then some (aF_rounds_tableOfGroup i) else none)))))), (aF_rounds_tableOfGroup 0, .inl (cI, 31, .inl (M_rounds_tableOfGroup 0))), (aF_rounds_tableOfGroup 1, .inl (cI, 31, .inl (M_rounds_tableOfGroup 1))), (aF_rounds_tableOfGroup 2, .inl (cI, 31, .inl (M_rounds_tableOfGroup 2))), (aF_rounds_tableOfGroup 3, .inl (cI, 31, .inl (M_rounds_tableOfGroup 3))), (aF_rounds_tableOfGroup 4, .inl (cI, 31, .inl (M_rounds_tableOfGroup 4))), (a_tape, .inr (5, [.ref a_tape_values, .int m_tape_count])), (a_tape_values, .inl (cI, 1500, .inl m_tape_values)), (a_order, .inr (1, [.ref a_order_list, .int m_count_11])), (a_order_list, .inl (cI, 3, .inl m_list_11))] H locs := ⟨hP, hD, hS⟩
  refine lv_iconst (v := 0) hx hb dX7_putChoices_14 (by decide) ?_
  refine lv_istore_n (lv' := [(1, .int (0 : Int32)), (0, .ref a_self)]) hx hb dX7_putChoices_15 rfl hl (by decide) rfl (fun ls hl => ?_)
  obtain ⟨m_bits_16ze, m_tape_count_16ze, m_tape_values_16ze, m_order_list_16ze, hI, hF⟩ := bd4_some hF
  obtain ⟨nn, hI⟩ := itrO_some hI
  have hX16 : ∀ (m_bits_16z : Int32) (m_tape_count_16z : Int32) (m_tape_values_16z : Nat → Int32) (m_order_list_16z : Nat → Int32), (m_bits_16z, m_tape_count_16z, m_tape_values_16z, m_order_list_16z) = (m_bits_16ze, m_tape_count_16ze, m_tape_values_16ze, m_order_list_16ze) → ∀ (H : Heap) (locs : List Loc), WS D A s [(a_self, .inr (7, [.ref a_telling, .ref a_rounds, .ref a_tape, .ref a_order, .int m_counting, .int m_bits_16z])), (a_rounds, .inr (4, [.ref a_telling_symbols, .ref a_rounds_tableOfGroup, .ref a_rounds_lengths, .ref a_rounds_weights, .ref a_rounds_joiner, .ref a_rounds_codes, .int m_rounds_kinds, .int m_rounds_groups, .int m_rounds_tables])), (a_rounds_tableOfGroup, .inl (cG, 5, .inr (.inr (.inr (.inr (fun i => if i < 5 then some (aF_rounds_tableOfGroup i) else none)))))), (aF_rounds_tableOfGroup 0, .inl (cI, 31, .inl (M_rounds_tableOfGroup 0))), (aF_rounds_tableOfGroup 1, .inl (cI, 31, .inl (M_rounds_tableOfGroup 1))), (aF_rounds_tableOfGroup 2, .inl (cI, 31, .inl (M_rounds_tableOfGroup 2))), (aF_rounds_tableOfGroup 3, .inl (cI, 31, .inl (M_rounds_tableOfGroup 3))), (aF_rounds_tableOfGroup 4, .inl (cI, 31, .inl (M_rounds_tableOfGroup 4))), (a_tape, .inr (5, [.ref a_tape_values, .int m_tape_count_16z])), (a_tape_values, .inl (cI, 1500, .inl m_tape_values_16z)), (a_order, .inr (1, [.ref a_order_list, .int m_count_11])), (a_order_list, .inl (cI, 3, .inl m_order_list_16z))] H locs → ∀ ls : Array Slot, lv_has ls 4 [] → W p l e (headSpec wsX7_putChoices rmWriter_putChoices).room s m args below meth c H locs 0 0 Q (F0 m 82 ls []) := by
    intro m_bits_16z m_tape_count_16z m_tape_values_16z m_order_list_16z he H locs hW ls hl
    obtain ⟨hz0, hy0⟩ := Prod.mk.inj he
    obtain ⟨hz1, hy1⟩ := Prod.mk.inj hy0
    obtain ⟨hz2, hy2⟩ := Prod.mk.inj hy1
    subst hz0
    subst hz1
    subst hz2
    subst hy2
    cases hF
    subst hQ
    exact ct_vret hx hb hr hlocks hW.1 hW.2.2 dX7_putChoices_82
  have hL16 : ∀ (n16 : Nat) (x1_16 : Int32) (m_bits_16 : Int32) (m_tape_count_16 : Int32) (m_tape_values_16 : Nat → Int32) (m_order_list_16 : Nat → Int32), itr (un5 (fWriter_putChoices_L16 m_counting m_rounds_groups M_rounds_tableOfGroup m_count_11)) n16 (x1_16, m_bits_16, m_tape_count_16, m_tape_values_16, m_order_list_16) = some (m_bits_16ze, m_tape_count_16ze, m_tape_values_16ze, m_order_list_16ze) → ∀ (H : Heap) (locs : List Loc), WS D A s [(a_self, .inr (7, [.ref a_telling, .ref a_rounds, .ref a_tape, .ref a_order, .int m_counting, .int m_bits_16])), (a_rounds, .inr (4, [.ref a_telling_symbols, .ref a_rounds_tableOfGroup, .ref a_rounds_lengths, .ref a_rounds_weights, .ref a_rounds_joiner, .ref a_rounds_codes, .int m_rounds_kinds, .int m_rounds_groups, .int m_rounds_tables])), (a_rounds_tableOfGroup, .inl (cG, 5, .inr (.inr (.inr (.inr (fun i => if i < 5 then some (aF_rounds_tableOfGroup i) else none)))))), (aF_rounds_tableOfGroup 0, .inl (cI, 31, .inl (M_rounds_tableOfGroup 0))), (aF_rounds_tableOfGroup 1, .inl (cI, 31, .inl (M_rounds_tableOfGroup 1))), (aF_rounds_tableOfGroup 2, .inl (cI, 31, .inl (M_rounds_tableOfGroup 2))), (aF_rounds_tableOfGroup 3, .inl (cI, 31, .inl (M_rounds_tableOfGroup 3))), (aF_rounds_tableOfGroup 4, .inl (cI, 31, .inl (M_rounds_tableOfGroup 4))), (a_tape, .inr (5, [.ref a_tape_values, .int m_tape_count_16])), (a_tape_values, .inl (cI, 1500, .inl m_tape_values_16)), (a_order, .inr (1, [.ref a_order_list, .int m_count_11])), (a_order_list, .inl (cI, 3, .inl m_order_list_16))] H locs → ∀ ls : Array Slot, lv_has ls 4 [(0, .ref a_self), (1, .int x1_16)] → W p l e (headSpec wsX7_putChoices rmWriter_putChoices).room s m args below meth c H locs 0 0 Q (F0 m 16 ls []) := by
    intro n16
    induction n16 with
    | zero => intro x1_16 m_bits_16 m_tape_count_16 m_tape_values_16 m_order_list_16 hI; cases hI
    | succ n16 ih16 =>
      intro x1_16 m_bits_16 m_tape_count_16 m_tape_values_16 m_order_list_16 hI H locs hW ls hl
      obtain ⟨sr16, hF, hN16⟩ := itr_succ hI
      have hF : fWriter_putChoices_L16 m_counting m_rounds_groups M_rounds_tableOfGroup m_count_11 x1_16 m_bits_16 m_tape_count_16 m_tape_values_16 m_order_list_16 = some sr16 := hF
      unfold fWriter_putChoices_L16 at hF
      refine lv_iload_n hx hb dX7_putChoices_16 rfl (lv_at hl 1 rfl) ?_
      refine lv_aload_n hx hb dX7_putChoices_17 rfl (lv_at hl 0 rfl) ?_
      refine va_get (D := D) (ci := 7) (v := .ref a_rounds) (C := RX7) (T := TX7) (N := 6) hx hb hts hi7 hown hK.1 hW.1 0 rfl rfl 1 (by decide) hw1 (fun _ h9 => h9) rfl dX7_putChoices_18 ?_
      refine va_getN (D := D) (ci := 4) (v := .int m_rounds_groups) (C := RX4) (T := TX4) (N := 9) hx hb hts hi4 hown hK.1 hW.1 1 rfl rfl 7 (by decide) (va_Nw.use rfl (hK.2.1 ("MoveFronts$Writer", 61, "MoveFronts$Rounds", "groups", "I", "MoveFronts") (by decide +kernel))) (fun _ h9 => h9) rfl dX7_putChoices_21 ?_
      refine lv_icmp_ge (tgt := 82) hx hb dX7_putChoices_24 (by decide) (fun c24 => ?_) (fun c24 => ?_)
      · rw [if_pos c24] at hF
        cases hF
        exact hX16 _ _ _ _ (itr_out hN16) _ _ hW _ (lv_sub hl [] rfl)
      · rw [if_neg c24] at hF
        refine lv_aload_n hx hb dX7_putChoices_27 rfl (lv_at hl 0 rfl) ?_
        refine va_get (D := D) (ci := 7) (v := .ref a_order) (C := RX7) (T := TX7) (N := 6) hx hb hts hi7 hown hK.1 hW.1 0 rfl rfl 3 (by decide) hw0 (fun _ h9 => h9) rfl dX7_putChoices_28 ?_
        refine lv_aload_n hx hb dX7_putChoices_31 rfl (lv_at hl 0 rfl) ?_
        refine va_get (D := D) (ci := 7) (v := .ref a_rounds) (C := RX7) (T := TX7) (N := 6) hx hb hts hi7 hown hK.1 hW.1 0 rfl rfl 1 (by decide) hw1 (fun _ h9 => h9) rfl dX7_putChoices_32 ?_
        refine lv_iconst (v := 4) hx hb dX7_putChoices_35 (by decide) ?_
        refine lv_iload_n hx hb dX7_putChoices_36 rfl (lv_at hl 1 rfl) ?_
        obtain ⟨r_37, e37, hF⟩ := bd1_some hF
        refine ctV (r := (RX4, TX4, 9)) (As := [.int (4 : Int32), .int x1_16]) (rest := [.ref a_order]) hx hb hml hown hts hK hW.1 hW.2.1 hW.2.2 hA hl.1 (kRounds_tableOf l D cI cZ cO cG a_rounds a_telling_symbols a_rounds_tableOfGroup a_rounds_lengths a_rounds_weights a_rounds_joiner a_rounds_codes aF_rounds_tableOfGroup m_rounds_kinds m_rounds_groups m_rounds_tables M_rounds_tableOfGroup (4 : Int32) x1_16 e37) (cwV 2 hts gX7_putChoices_X4_tableOf rfl rfl rfl (by decide +kernel) ⟨Nat.le_of_ble_eq_true rfl, Nat.le_of_ble_eq_true rfl⟩) 4 1 rfl rfl [1, 2, 3, 4, 5, 6, 7] rfl rfl rfl rfl rfl (Nat.le_of_ble_eq_true rfl) rfl ⟨Nat.zero_le _, Nat.zero_le _⟩ dX7_putChoices_37 (fun H locs hP hD hS => ?_)
        have hW : WS D A s [(a_self, .inr (7, [.ref a_telling, .ref a_rounds, .ref a_tape, .ref a_order, .int m_counting, .int m_bits_16])), (a_rounds, .inr (4, [.ref a_telling_symbols, .ref a_rounds_tableOfGroup, .ref a_rounds_lengths, .ref a_rounds_weights, .ref a_rounds_joiner, .ref a_rounds_codes, .int m_rounds_kinds, .int m_rounds_groups, .int m_rounds_tables])), (a_rounds_tableOfGroup, .inl (cG, 5, .inr (.inr (.inr (.inr (fun i => if i < 5 then some (aF_rounds_tableOfGroup i) else none)))))), (aF_rounds_tableOfGroup 0, .inl (cI, 31, .inl (M_rounds_tableOfGroup 0))), (aF_rounds_tableOfGroup 1, .inl (cI, 31, .inl (M_rounds_tableOfGroup 1))), (aF_rounds_tableOfGroup 2, .inl (cI, 31, .inl (M_rounds_tableOfGroup 2))), (aF_rounds_tableOfGroup 3, .inl (cI, 31, .inl (M_rounds_tableOfGroup 3))), (aF_rounds_tableOfGroup 4, .inl (cI, 31, .inl (M_rounds_tableOfGroup 4))), (a_tape, .inr (5, [.ref a_tape_values, .int m_tape_count_16])), (a_tape_values, .inl (cI, 1500, .inl m_tape_values_16)), (a_order, .inr (1, [.ref a_order_list, .int m_count_11])), (a_order_list, .inl (cI, 3, .inl m_order_list_16))] H locs := ⟨hP, hD, hS⟩
        obtain ⟨r_40, e40, hF⟩ := bd1_some hF
        refine ctV (r := (RX1, TX1, 2)) (As := [.int r_37]) (rest := []) hx hb hml hown hts hK hW.1 hW.2.1 hW.2.2 hA hl.1 (kFront_find l D cI cZ cO cG a_order a_order_list 3 m_count_11 m_order_list_16 r_37 e40) (cwV 1 hts gX7_putChoices_X1_find rfl rfl rfl (by decide +kernel) ⟨Nat.le_of_ble_eq_true rfl, Nat.le_of_ble_eq_true rfl⟩) 1 10 rfl rfl [10, 11] rfl rfl rfl rfl rfl (Nat.le_of_ble_eq_true rfl) rfl ⟨Nat.zero_le _, Nat.zero_le _⟩ dX7_putChoices_40 (fun H locs hP hD hS => ?_)
        have hW : WS D A s [(a_self, .inr (7, [.ref a_telling, .ref a_rounds, .ref a_tape, .ref a_order, .int m_counting, .int m_bits_16])), (a_rounds, .inr (4, [.ref a_telling_symbols, .ref a_rounds_tableOfGroup, .ref a_rounds_lengths, .ref a_rounds_weights, .ref a_rounds_joiner, .ref a_rounds_codes, .int m_rounds_kinds, .int m_rounds_groups, .int m_rounds_tables])), (a_rounds_tableOfGroup, .inl (cG, 5, .inr (.inr (.inr (.inr (fun i => if i < 5 then some (aF_rounds_tableOfGroup i) else none)))))), (aF_rounds_tableOfGroup 0, .inl (cI, 31, .inl (M_rounds_tableOfGroup 0))), (aF_rounds_tableOfGroup 1, .inl (cI, 31, .inl (M_rounds_tableOfGroup 1))), (aF_rounds_tableOfGroup 2, .inl (cI, 31, .inl (M_rounds_tableOfGroup 2))), (aF_rounds_tableOfGroup 3, .inl (cI, 31, .inl (M_rounds_tableOfGroup 3))), (aF_rounds_tableOfGroup 4, .inl (cI, 31, .inl (M_rounds_tableOfGroup 4))), (a_tape, .inr (5, [.ref a_tape_values, .int m_tape_count_16])), (a_tape_values, .inl (cI, 1500, .inl m_tape_values_16)), (a_order, .inr (1, [.ref a_order_list, .int m_count_11])), (a_order_list, .inl (cI, 3, .inl m_order_list_16))] H locs := ⟨hP, hD, hS⟩
        refine lv_istore_n (lv' := [(2, .int r_40), (0, .ref a_self), (1, .int x1_16)]) hx hb dX7_putChoices_43 rfl hl (by decide) rfl (fun ls hl => ?_)
        refine lv_aload_n hx hb dX7_putChoices_44 rfl (lv_at hl 1 rfl) ?_
        refine va_get (D := D) (ci := 7) (v := .ref a_order) (C := RX7) (T := TX7) (N := 6) hx hb hts hi7 hown hK.1 hW.1 0 rfl rfl 3 (by decide) hw0 (fun _ h9 => h9) rfl dX7_putChoices_45 ?_
        refine lv_iload_n hx hb dX7_putChoices_48 rfl (lv_at hl 0 rfl) ?_
        obtain ⟨r_49, m_list_49, e49, hF⟩ := bd2_some hF
        refine ctV (r := (RX1, TX1, 2)) (As := [.int r_40]) (rest := []) hx hb hml hown hts hK hW.1 hW.2.1 hW.2.2 hA hl.1 (kFront_bringUp l D cI cZ cO cG a_order a_order_list 3 m_count_11 m_order_list_16 r_40 e49) (cwV 1 hts gX7_putChoices_X1_bringUp rfl rfl rfl (by decide +kernel) ⟨Nat.le_of_ble_eq_true rfl, Nat.le_of_ble_eq_true rfl⟩) 1 10 rfl rfl [10, 11] rfl rfl rfl rfl rfl (Nat.le_of_ble_eq_true rfl) rfl ⟨Nat.zero_le _, Nat.zero_le _⟩ dX7_putChoices_49 (fun H locs hP hD hS => ?_)
        have hW : WS D A s [(a_self, .inr (7, [.ref a_telling, .ref a_rounds, .ref a_tape, .ref a_order, .int m_counting, .int m_bits_16])), (a_rounds, .inr (4, [.ref a_telling_symbols, .ref a_rounds_tableOfGroup, .ref a_rounds_lengths, .ref a_rounds_weights, .ref a_rounds_joiner, .ref a_rounds_codes, .int m_rounds_kinds, .int m_rounds_groups, .int m_rounds_tables])), (a_rounds_tableOfGroup, .inl (cG, 5, .inr (.inr (.inr (.inr (fun i => if i < 5 then some (aF_rounds_tableOfGroup i) else none)))))), (aF_rounds_tableOfGroup 0, .inl (cI, 31, .inl (M_rounds_tableOfGroup 0))), (aF_rounds_tableOfGroup 1, .inl (cI, 31, .inl (M_rounds_tableOfGroup 1))), (aF_rounds_tableOfGroup 2, .inl (cI, 31, .inl (M_rounds_tableOfGroup 2))), (aF_rounds_tableOfGroup 3, .inl (cI, 31, .inl (M_rounds_tableOfGroup 3))), (aF_rounds_tableOfGroup 4, .inl (cI, 31, .inl (M_rounds_tableOfGroup 4))), (a_tape, .inr (5, [.ref a_tape_values, .int m_tape_count_16])), (a_tape_values, .inl (cI, 1500, .inl m_tape_values_16)), (a_order, .inr (1, [.ref a_order_list, .int m_count_11])), (a_order_list, .inl (cI, 3, .inl m_list_49))] H locs := ⟨hP, hD, hS⟩
        refine lv_pop hx hb dX7_putChoices_52 rfl ?_
        refine lv_iconst (v := 0) hx hb dX7_putChoices_53 (by decide) ?_
        refine lv_istore_n (lv' := [(3, .int (0 : Int32)), (2, .int r_40), (0, .ref a_self), (1, .int x1_16)]) hx hb dX7_putChoices_54 rfl hl (by decide) rfl (fun ls hl => ?_)
        obtain ⟨m_bits_55ze, m_tape_count_55ze, m_tape_values_55ze, hI, hF⟩ := bd3_some hF
        obtain ⟨nn, hI⟩ := itrO_some hI
        have hX55 : ∀ (m_bits_55z : Int32) (m_tape_count_55z : Int32) (m_tape_values_55z : Nat → Int32), (m_bits_55z, m_tape_count_55z, m_tape_values_55z) = (m_bits_55ze, m_tape_count_55ze, m_tape_values_55ze) → ∀ (H : Heap) (locs : List Loc), WS D A s [(a_self, .inr (7, [.ref a_telling, .ref a_rounds, .ref a_tape, .ref a_order, .int m_counting, .int m_bits_55z])), (a_rounds, .inr (4, [.ref a_telling_symbols, .ref a_rounds_tableOfGroup, .ref a_rounds_lengths, .ref a_rounds_weights, .ref a_rounds_joiner, .ref a_rounds_codes, .int m_rounds_kinds, .int m_rounds_groups, .int m_rounds_tables])), (a_rounds_tableOfGroup, .inl (cG, 5, .inr (.inr (.inr (.inr (fun i => if i < 5 then some (aF_rounds_tableOfGroup i) else none)))))), (aF_rounds_tableOfGroup 0, .inl (cI, 31, .inl (M_rounds_tableOfGroup 0))), (aF_rounds_tableOfGroup 1, .inl (cI, 31, .inl (M_rounds_tableOfGroup 1))), (aF_rounds_tableOfGroup 2, .inl (cI, 31, .inl (M_rounds_tableOfGroup 2))), (aF_rounds_tableOfGroup 3, .inl (cI, 31, .inl (M_rounds_tableOfGroup 3))), (aF_rounds_tableOfGroup 4, .inl (cI, 31, .inl (M_rounds_tableOfGroup 4))), (a_tape, .inr (5, [.ref a_tape_values, .int m_tape_count_55z])), (a_tape_values, .inl (cI, 1500, .inl m_tape_values_55z)), (a_order, .inr (1, [.ref a_order_list, .int m_count_11])), (a_order_list, .inl (cI, 3, .inl m_list_49))] H locs → ∀ ls : Array Slot, lv_has ls 4 [(0, .ref a_self), (1, .int x1_16)] → W p l e (headSpec wsX7_putChoices rmWriter_putChoices).room s m args below meth c H locs 0 0 Q (F0 m 71 ls []) := by
          intro m_bits_55z m_tape_count_55z m_tape_values_55z he H locs hW ls hl
          obtain ⟨hz0, hy0⟩ := Prod.mk.inj he
          obtain ⟨hz1, hy1⟩ := Prod.mk.inj hy0
          subst hz0
          subst hz1
          subst hy1
          refine lv_aload_n hx hb dX7_putChoices_71 rfl (lv_at hl 0 rfl) ?_
          refine lv_iconst (v := 0) hx hb dX7_putChoices_72 (by decide) ?_
          obtain ⟨m_bits_73, m_tape_count_73, m_tape_values_73, e73, hF⟩ := bd3_some hF
          refine ctV (r := (RX7, TX7, 6)) (As := [.int (0 : Int32)]) (rest := []) hx hb hml hown hts hK hW.1 hW.2.1 hW.2.2 hA hl.1 (kWriter_put l D cI cZ cO cG a_self a_telling a_rounds a_tape a_order a_tape_values m_counting m_bits_55z m_tape_count_55z m_tape_values_55z (0 : Int32) e73) (cwV 1 hts gX7_putChoices_X7_put rfl rfl rfl (by decide +kernel) ⟨Nat.le_of_ble_eq_true rfl, Nat.le_of_ble_eq_true rfl⟩) 7 0 rfl rfl [0, 8, 9] rfl rfl rfl rfl rfl (Nat.le_of_ble_eq_true rfl) rfl ⟨Nat.zero_le _, Nat.zero_le _⟩ dX7_putChoices_73 (fun H locs hP hD hS => ?_)
          have hW : WS D A s [(a_self, .inr (7, [.ref a_telling, .ref a_rounds, .ref a_tape, .ref a_order, .int m_counting, .int m_bits_73])), (a_rounds, .inr (4, [.ref a_telling_symbols, .ref a_rounds_tableOfGroup, .ref a_rounds_lengths, .ref a_rounds_weights, .ref a_rounds_joiner, .ref a_rounds_codes, .int m_rounds_kinds, .int m_rounds_groups, .int m_rounds_tables])), (a_rounds_tableOfGroup, .inl (cG, 5, .inr (.inr (.inr (.inr (fun i => if i < 5 then some (aF_rounds_tableOfGroup i) else none)))))), (aF_rounds_tableOfGroup 0, .inl (cI, 31, .inl (M_rounds_tableOfGroup 0))), (aF_rounds_tableOfGroup 1, .inl (cI, 31, .inl (M_rounds_tableOfGroup 1))), (aF_rounds_tableOfGroup 2, .inl (cI, 31, .inl (M_rounds_tableOfGroup 2))), (aF_rounds_tableOfGroup 3, .inl (cI, 31, .inl (M_rounds_tableOfGroup 3))), (aF_rounds_tableOfGroup 4, .inl (cI, 31, .inl (M_rounds_tableOfGroup 4))), (a_tape, .inr (5, [.ref a_tape_values, .int m_tape_count_73])), (a_tape_values, .inl (cI, 1500, .inl m_tape_values_73)), (a_order, .inr (1, [.ref a_order_list, .int m_count_11])), (a_order_list, .inl (cI, 3, .inl m_list_49))] H locs := ⟨hP, hD, hS⟩
          refine lv_iinc (v := (x1_16 + 1)) (lv' := [(1, .int (x1_16 + 1)), (0, .ref a_self)]) hx hb dX7_putChoices_76 hl (k := 1) rfl rfl (by decide) rfl (fun ls hl => ?_)
          refine lv_goto (tgt := 16) hx hb dX7_putChoices_79 (by decide) ?_
          cases hF
          exact ih16 _ _ _ _ _ (itr_in hN16) _ _ hW _ (lv_sub hl [1, 0] rfl)
        have hL55 : ∀ (n55 : Nat) (x3_55 : Int32) (m_bits_55 : Int32) (m_tape_count_55 : Int32) (m_tape_values_55 : Nat → Int32), itr (un4 (fWriter_putChoices_L55 m_counting r_40)) n55 (x3_55, m_bits_55, m_tape_count_55, m_tape_values_55) = some (m_bits_55ze, m_tape_count_55ze, m_tape_values_55ze) → ∀ (H : Heap) (locs : List Loc), WS D A s [(a_self, .inr (7, [.ref a_telling, .ref a_rounds, .ref a_tape, .ref a_order, .int m_counting, .int m_bits_55])), (a_rounds, .inr (4, [.ref a_telling_symbols, .ref a_rounds_tableOfGroup, .ref a_rounds_lengths, .ref a_rounds_weights, .ref a_rounds_joiner, .ref a_rounds_codes, .int m_rounds_kinds, .int m_rounds_groups, .int m_rounds_tables])), (a_rounds_tableOfGroup, .inl (cG, 5, .inr (.inr (.inr (.inr (fun i => if i < 5 then some (aF_rounds_tableOfGroup i) else none)))))), (aF_rounds_tableOfGroup 0, .inl (cI, 31, .inl (M_rounds_tableOfGroup 0))), (aF_rounds_tableOfGroup 1, .inl (cI, 31, .inl (M_rounds_tableOfGroup 1))), (aF_rounds_tableOfGroup 2, .inl (cI, 31, .inl (M_rounds_tableOfGroup 2))), (aF_rounds_tableOfGroup 3, .inl (cI, 31, .inl (M_rounds_tableOfGroup 3))), (aF_rounds_tableOfGroup 4, .inl (cI, 31, .inl (M_rounds_tableOfGroup 4))), (a_tape, .inr (5, [.ref a_tape_values, .int m_tape_count_55])), (a_tape_values, .inl (cI, 1500, .inl m_tape_values_55)), (a_order, .inr (1, [.ref a_order_list, .int m_count_11])), (a_order_list, .inl (cI, 3, .inl m_list_49))] H locs → ∀ ls : Array Slot, lv_has ls 4 [(0, .ref a_self), (1, .int x1_16), (2, .int r_40), (3, .int x3_55)] → W p l e (headSpec wsX7_putChoices rmWriter_putChoices).room s m args below meth c H locs 0 0 Q (F0 m 55 ls []) := by
          intro n55
          induction n55 with
          | zero => intro x3_55 m_bits_55 m_tape_count_55 m_tape_values_55 hI; cases hI
          | succ n55 ih55 =>
            intro x3_55 m_bits_55 m_tape_count_55 m_tape_values_55 hI H locs hW ls hl
            obtain ⟨sr55, hF, hN55⟩ := itr_succ hI
            have hF : fWriter_putChoices_L55 m_counting r_40 x3_55 m_bits_55 m_tape_count_55 m_tape_values_55 = some sr55 := hF
            unfold fWriter_putChoices_L55 at hF
            refine lv_iload_n hx hb dX7_putChoices_55 rfl (lv_at hl 3 rfl) ?_
            refine lv_iload_n hx hb dX7_putChoices_56 rfl (lv_at hl 2 rfl) ?_
            refine lv_icmp_ge (tgt := 71) hx hb dX7_putChoices_57 (by decide) (fun c57 => ?_) (fun c57 => ?_)
            · rw [if_pos c57] at hF
              cases hF
              exact hX55 _ _ _ (itr_out hN55) _ _ hW _ (lv_sub hl [0, 1] rfl)
            · rw [if_neg c57] at hF
              refine lv_aload_n hx hb dX7_putChoices_60 rfl (lv_at hl 0 rfl) ?_
              refine lv_iconst (v := 1) hx hb dX7_putChoices_61 (by decide) ?_
              obtain ⟨m_bits_62, m_tape_count_62, m_tape_values_62, e62, hF⟩ := bd3_some hF
              refine ctV (r := (RX7, TX7, 6)) (As := [.int (1 : Int32)]) (rest := []) hx hb hml hown hts hK hW.1 hW.2.1 hW.2.2 hA hl.1 (kWriter_put l D cI cZ cO cG a_self a_telling a_rounds a_tape a_order a_tape_values m_counting m_bits_55 m_tape_count_55 m_tape_values_55 (1 : Int32) e62) (cwV 1 hts gX7_putChoices_X7_put rfl rfl rfl (by decide +kernel) ⟨Nat.le_of_ble_eq_true rfl, Nat.le_of_ble_eq_true rfl⟩) 7 0 rfl rfl [0, 8, 9] rfl rfl rfl rfl rfl (Nat.le_of_ble_eq_true rfl) rfl ⟨Nat.zero_le _, Nat.zero_le _⟩ dX7_putChoices_62 (fun H locs hP hD hS => ?_)
              have hW : WS D A s [(a_self, .inr (7, [.ref a_telling, .ref a_rounds, .ref a_tape, .ref a_order, .int m_counting, .int m_bits_62])), (a_rounds, .inr (4, [.ref a_telling_symbols, .ref a_rounds_tableOfGroup, .ref a_rounds_lengths, .ref a_rounds_weights, .ref a_rounds_joiner, .ref a_rounds_codes, .int m_rounds_kinds, .int m_rounds_groups, .int m_rounds_tables])), (a_rounds_tableOfGroup, .inl (cG, 5, .inr (.inr (.inr (.inr (fun i => if i < 5 then some (aF_rounds_tableOfGroup i) else none)))))), (aF_rounds_tableOfGroup 0, .inl (cI, 31, .inl (M_rounds_tableOfGroup 0))), (aF_rounds_tableOfGroup 1, .inl (cI, 31, .inl (M_rounds_tableOfGroup 1))), (aF_rounds_tableOfGroup 2, .inl (cI, 31, .inl (M_rounds_tableOfGroup 2))), (aF_rounds_tableOfGroup 3, .inl (cI, 31, .inl (M_rounds_tableOfGroup 3))), (aF_rounds_tableOfGroup 4, .inl (cI, 31, .inl (M_rounds_tableOfGroup 4))), (a_tape, .inr (5, [.ref a_tape_values, .int m_tape_count_62])), (a_tape_values, .inl (cI, 1500, .inl m_tape_values_62)), (a_order, .inr (1, [.ref a_order_list, .int m_count_11])), (a_order_list, .inl (cI, 3, .inl m_list_49))] H locs := ⟨hP, hD, hS⟩
              refine lv_iinc (v := (x3_55 + 1)) (lv' := [(3, .int (x3_55 + 1)), (0, .ref a_self), (1, .int x1_16), (2, .int r_40)]) hx hb dX7_putChoices_65 hl (k := 3) rfl rfl (by decide) rfl (fun ls hl => ?_)
              refine lv_goto (tgt := 55) hx hb dX7_putChoices_68 (by decide) ?_
              cases hF
              exact ih55 _ _ _ _ (itr_in hN55) _ _ hW _ (lv_sub hl [1, 2, 3, 0] rfl)
        exact hL55 nn _ _ _ _ hI _ _ hW _ (lv_sub hl [2, 3, 1, 0] rfl)
  exact hL16 nn _ _ _ _ _ hI _ _ hW _ (lv_sub hl [1, 0] rfl)
abbrev rmWriter_putNumber : Room := { frames := 2, cells := 0, slots := 0, locals := 42 }
set_option maxHeartbeats 4000000 in
set_option maxRecDepth 100000 in
theorem kWriter_putNumber (l : Launch) (D : va_G) (cI cZ cO cG : ClassId) (a_self : Nat) (a_telling : Nat) (a_rounds : Nat) (a_tape : Nat) (a_order : Nat) (a_tape_values : Nat) (m_counting : Int32) (m_bits : Int32) (m_tape_count : Int32) (m_tape_values : Nat → Int32) (x1 : Int32) (x2 : Int32) {m_bits' : Int32} {m_tape_count' : Int32} {m_tape_values' : Nat → Int32} (hF : fWriter_putNumber m_counting m_bits m_tape_count m_tape_values x1 x2 = some (m_bits', m_tape_count', m_tape_values')) : CT l yX7_putNumber wsX7_putNumber rmWriter_putNumber D (tysG cI cZ cO cG) [.ref a_self, .int x1, .int x2] [(a_self, .inr (7, [.ref a_telling, .ref a_rounds, .ref a_tape, .ref a_order, .int m_counting, .int m_bits])), (a_tape, .inr (5, [.ref a_tape_values, .int m_tape_count])), (a_tape_values, .inl (cI, 1500, .inl m_tape_values))] none [(a_self, .inr (7, [.ref a_telling, .ref a_rounds, .ref a_tape, .ref a_order, .int m_counting, .int m_bits'])), (a_tape, .inr (5, [.ref a_tape_values, .int m_tape_count'])), (a_tape_values, .inl (cI, 1500, .inl m_tape_values'))] := by
  refine CT.of (cc := cX7_putNumber) (maxL := 4) (ret := none) (by decide) rfl (Nat.le_of_ble_eq_true rfl) ?_
  intro p e s m below meth c A ls hx hb hr hml hts hown hlocks hK hA hP hD hS hl
  generalize hargs : ([.ref a_self, .int x1, .int x2] : List Value).toArray = args at hts ⊢
  generalize hQ : MQ below (ctQ D none [(a_self, .inr (7, [.ref a_telling, .ref a_rounds, .ref a_tape, .ref a_order, .int m_counting, .int m_bits'])), (a_tape, .inr (5, [.ref a_tape_values, .int m_tape_count'])), (a_tape_values, .inl (cI, 1500, .inl m_tape_values'))] A) args s 0 0 A = Q
  have hl : lv_has ls 4 [(0, .ref a_self), (1, .int x1), (2, .int x2)] := hl
  have hW : WS D A s [(a_self, .inr (7, [.ref a_telling, .ref a_rounds, .ref a_tape, .ref a_order, .int m_counting, .int m_bits])), (a_tape, .inr (5, [.ref a_tape_values, .int m_tape_count])), (a_tape_values, .inl (cI, 1500, .inl m_tape_values))] s.heap [] := ⟨hP, hD, hS⟩
  clear hP hD hS
  unfold fWriter_putNumber at hF
  refine lv_iload_n hx hb dX7_putNumber_0 rfl (lv_at hl 2 rfl) ?_
  refine lv_iconst (v := 1) hx hb dX7_putNumber_1 (by decide) ?_
  refine lv_isub hx hb dX7_putNumber_2 ?_
  refine lv_istore_n (lv' := [(3, .int (x2 - (1 : Int32))), (0, .ref a_self), (1, .int x1), (2, .int x2)]) hx hb dX7_putNumber_3 rfl hl (by decide) rfl (fun ls hl => ?_)
  obtain ⟨m_bits_4ze, m_tape_count_4ze, m_tape_values_4ze, hI, hF⟩ := bd3_some hF
  obtain ⟨nn, hI⟩ := itrO_some hI
  have hX4 : ∀ (m_bits_4z : Int32) (m_tape_count_4z : Int32) (m_tape_values_4z : Nat → Int32), (m_bits_4z, m_tape_count_4z, m_tape_values_4z) = (m_bits_4ze, m_tape_count_4ze, m_tape_values_4ze) → ∀ (H : Heap) (locs : List Loc), WS D A s [(a_self, .inr (7, [.ref a_telling, .ref a_rounds, .ref a_tape, .ref a_order, .int m_counting, .int m_bits_4z])), (a_tape, .inr (5, [.ref a_tape_values, .int m_tape_count_4z])), (a_tape_values, .inl (cI, 1500, .inl m_tape_values_4z))] H locs → ∀ ls : Array Slot, lv_has ls 4 [] → W p l e (headSpec wsX7_putNumber rmWriter_putNumber).room s m args below meth c H locs 0 0 Q (F0 m 23 ls []) := by
    intro m_bits_4z m_tape_count_4z m_tape_values_4z he H locs hW ls hl
    obtain ⟨hz0, hy0⟩ := Prod.mk.inj he
    obtain ⟨hz1, hy1⟩ := Prod.mk.inj hy0
    subst hz0
    subst hz1
    subst hy1
    cases hF
    subst hQ
    exact ct_vret hx hb hr hlocks hW.1 hW.2.2 dX7_putNumber_23
  have hL4 : ∀ (n4 : Nat) (x3_4 : Int32) (m_bits_4 : Int32) (m_tape_count_4 : Int32) (m_tape_values_4 : Nat → Int32), itr (un4 (fWriter_putNumber_L4 m_counting x1)) n4 (x3_4, m_bits_4, m_tape_count_4, m_tape_values_4) = some (m_bits_4ze, m_tape_count_4ze, m_tape_values_4ze) → ∀ (H : Heap) (locs : List Loc), WS D A s [(a_self, .inr (7, [.ref a_telling, .ref a_rounds, .ref a_tape, .ref a_order, .int m_counting, .int m_bits_4])), (a_tape, .inr (5, [.ref a_tape_values, .int m_tape_count_4])), (a_tape_values, .inl (cI, 1500, .inl m_tape_values_4))] H locs → ∀ ls : Array Slot, lv_has ls 4 [(0, .ref a_self), (1, .int x1), (3, .int x3_4)] → W p l e (headSpec wsX7_putNumber rmWriter_putNumber).room s m args below meth c H locs 0 0 Q (F0 m 4 ls []) := by
    intro n4
    induction n4 with
    | zero => intro x3_4 m_bits_4 m_tape_count_4 m_tape_values_4 hI; cases hI
    | succ n4 ih4 =>
      intro x3_4 m_bits_4 m_tape_count_4 m_tape_values_4 hI H locs hW ls hl
      obtain ⟨sr4, hF, hN4⟩ := itr_succ hI
      have hF : fWriter_putNumber_L4 m_counting x1 x3_4 m_bits_4 m_tape_count_4 m_tape_values_4 = some sr4 := hF
      unfold fWriter_putNumber_L4 at hF
      refine lv_iload_n hx hb dX7_putNumber_4 rfl (lv_at hl 2 rfl) ?_
      refine lv_if_lt (tgt := 23) hx hb dX7_putNumber_5 (by decide) (fun c5 => ?_) (fun c5 => ?_)
      · rw [if_pos c5] at hF
        cases hF
        exact hX4 _ _ _ (itr_out hN4) _ _ hW _ (lv_sub hl [] rfl)
      · rw [if_neg c5] at hF
        refine lv_aload_n hx hb dX7_putNumber_8 rfl (lv_at hl 0 rfl) ?_
        refine lv_iload_n hx hb dX7_putNumber_9 rfl (lv_at hl 1 rfl) ?_
        refine lv_iload_n hx hb dX7_putNumber_10 rfl (lv_at hl 2 rfl) ?_
        refine lv_ishr hx hb dX7_putNumber_11 ?_
        refine lv_iconst (v := 1) hx hb dX7_putNumber_12 (by decide) ?_
        refine lv_iand hx hb dX7_putNumber_13 ?_
        obtain ⟨m_bits_14, m_tape_count_14, m_tape_values_14, e14, hF⟩ := bd3_some hF
        refine ctV (r := (RX7, TX7, 6)) (As := [.int ((x1 >>> (x3_4 &&& 31)) &&& (1 : Int32))]) (rest := []) hx hb hml hown hts hK hW.1 hW.2.1 hW.2.2 hA hl.1 (kWriter_put l D cI cZ cO cG a_self a_telling a_rounds a_tape a_order a_tape_values m_counting m_bits_4 m_tape_count_4 m_tape_values_4 ((x1 >>> (x3_4 &&& 31)) &&& (1 : Int32)) e14) (cwV 1 hts gX7_putNumber_X7_put rfl rfl rfl (by decide +kernel) ⟨Nat.le_of_ble_eq_true rfl, Nat.le_of_ble_eq_true rfl⟩) 7 0 rfl rfl [0, 1, 2] rfl rfl rfl rfl rfl (Nat.le_of_ble_eq_true rfl) rfl ⟨Nat.zero_le _, Nat.zero_le _⟩ dX7_putNumber_14 (fun H locs hP hD hS => ?_)
        have hW : WS D A s [(a_self, .inr (7, [.ref a_telling, .ref a_rounds, .ref a_tape, .ref a_order, .int m_counting, .int m_bits_14])), (a_tape, .inr (5, [.ref a_tape_values, .int m_tape_count_14])), (a_tape_values, .inl (cI, 1500, .inl m_tape_values_14))] H locs := ⟨hP, hD, hS⟩
        refine lv_iinc (v := (x3_4 + (-1))) (lv' := [(3, .int (x3_4 + (-1))), (0, .ref a_self), (1, .int x1)]) hx hb dX7_putNumber_17 hl (k := 2) rfl rfl (by decide) rfl (fun ls hl => ?_)
        refine lv_goto (tgt := 4) hx hb dX7_putNumber_20 (by decide) ?_
        cases hF
        exact ih4 _ _ _ _ (itr_in hN4) _ _ hW _ (lv_sub hl [1, 2, 0] rfl)
  exact hL4 nn _ _ _ _ hI _ _ hW _ (lv_sub hl [1, 2, 0] rfl)
abbrev rmWriter_putLengths : Room := { frames := 3, cells := 0, slots := 0, locals := 65 }
set_option maxHeartbeats 4000000 in
set_option maxRecDepth 100000 in
theorem kWriter_putLengths (l : Launch) (D : va_G) (cI cZ cO cG : ClassId) (a_self : Nat) (a_telling : Nat) (a_rounds : Nat) (a_tape : Nat) (a_order : Nat) (a_telling_symbols : Nat) (a_rounds_tableOfGroup : Nat) (a_rounds_lengths : Nat) (a_rounds_weights : Nat) (a_rounds_joiner : Nat) (a_rounds_codes : Nat) (aF_rounds_lengths : Nat → Nat) (a_tape_values : Nat) (m_counting : Int32) (m_bits : Int32) (m_rounds_kinds : Int32) (m_rounds_groups : Int32) (m_rounds_tables : Int32) (M_rounds_lengths : Nat → Nat → Int32) (m_tape_count : Int32) (m_tape_values : Nat → Int32) (x1 : Int32) {m_bits' : Int32} {m_tape_count' : Int32} {m_tape_values' : Nat → Int32} (hF : fWriter_putLengths m_counting m_bits m_rounds_kinds m_rounds_tables M_rounds_lengths m_tape_count m_tape_values x1 = some (m_bits', m_tape_count', m_tape_values')) : CT l yX7_putLengths wsX7_putLengths rmWriter_putLengths D (tysG cI cZ cO cG) [.ref a_self, .int x1] [(a_self, .inr (7, [.ref a_telling, .ref a_rounds, .ref a_tape, .ref a_order, .int m_counting, .int m_bits])), (a_rounds, .inr (4, [.ref a_telling_symbols, .ref a_rounds_tableOfGroup, .ref a_rounds_lengths, .ref a_rounds_weights, .ref a_rounds_joiner, .ref a_rounds_codes, .int m_rounds_kinds, .int m_rounds_groups, .int m_rounds_tables])), (a_rounds_lengths, .inl (cG, 15, .inr (.inr (.inr (.inr (fun i => if i < 15 then some (aF_rounds_lengths i) else none)))))), (aF_rounds_lengths 0, .inl (cI, 258, .inl (M_rounds_lengths 0))), (aF_rounds_lengths 1, .inl (cI, 258, .inl (M_rounds_lengths 1))), (aF_rounds_lengths 2, .inl (cI, 258, .inl (M_rounds_lengths 2))), (aF_rounds_lengths 3, .inl (cI, 258, .inl (M_rounds_lengths 3))), (aF_rounds_lengths 4, .inl (cI, 258, .inl (M_rounds_lengths 4))), (aF_rounds_lengths 5, .inl (cI, 258, .inl (M_rounds_lengths 5))), (aF_rounds_lengths 6, .inl (cI, 258, .inl (M_rounds_lengths 6))), (aF_rounds_lengths 7, .inl (cI, 258, .inl (M_rounds_lengths 7))), (aF_rounds_lengths 8, .inl (cI, 258, .inl (M_rounds_lengths 8))), (aF_rounds_lengths 9, .inl (cI, 258, .inl (M_rounds_lengths 9))), (aF_rounds_lengths 10, .inl (cI, 258, .inl (M_rounds_lengths 10))), (aF_rounds_lengths 11, .inl (cI, 258, .inl (M_rounds_lengths 11))), (aF_rounds_lengths 12, .inl (cI, 258, .inl (M_rounds_lengths 12))), (aF_rounds_lengths 13, .inl (cI, 258, .inl (M_rounds_lengths 13))), (aF_rounds_lengths 14, .inl (cI, 258, .inl (M_rounds_lengths 14))), (a_tape, .inr (5, [.ref a_tape_values, .int m_tape_count])), (a_tape_values, .inl (cI, 1500, .inl m_tape_values))] none [(a_self, .inr (7, [.ref a_telling, .ref a_rounds, .ref a_tape, .ref a_order, .int m_counting, .int m_bits'])), (a_rounds, .inr (4, [.ref a_telling_symbols, .ref a_rounds_tableOfGroup, .ref a_rounds_lengths, .ref a_rounds_weights, .ref a_rounds_joiner, .ref a_rounds_codes, .int m_rounds_kinds, .int m_rounds_groups, .int m_rounds_tables])), (a_rounds_lengths, .inl (cG, 15, .inr (.inr (.inr (.inr (fun i => if i < 15 then some (aF_rounds_lengths i) else none)))))), (aF_rounds_lengths 0, .inl (cI, 258, .inl (M_rounds_lengths 0))), (aF_rounds_lengths 1, .inl (cI, 258, .inl (M_rounds_lengths 1))), (aF_rounds_lengths 2, .inl (cI, 258, .inl (M_rounds_lengths 2))), (aF_rounds_lengths 3, .inl (cI, 258, .inl (M_rounds_lengths 3))), (aF_rounds_lengths 4, .inl (cI, 258, .inl (M_rounds_lengths 4))), (aF_rounds_lengths 5, .inl (cI, 258, .inl (M_rounds_lengths 5))), (aF_rounds_lengths 6, .inl (cI, 258, .inl (M_rounds_lengths 6))), (aF_rounds_lengths 7, .inl (cI, 258, .inl (M_rounds_lengths 7))), (aF_rounds_lengths 8, .inl (cI, 258, .inl (M_rounds_lengths 8))), (aF_rounds_lengths 9, .inl (cI, 258, .inl (M_rounds_lengths 9))), (aF_rounds_lengths 10, .inl (cI, 258, .inl (M_rounds_lengths 10))), (aF_rounds_lengths 11, .inl (cI, 258, .inl (M_rounds_lengths 11))), (aF_rounds_lengths 12, .inl (cI, 258, .inl (M_rounds_lengths 12))), (aF_rounds_lengths 13, .inl (cI, 258, .inl (M_rounds_lengths 13))), (aF_rounds_lengths 14, .inl (cI, 258, .inl (M_rounds_lengths 14))), (a_tape, .inr (5, [.ref a_tape_values, .int m_tape_count'])), (a_tape_values, .inl (cI, 1500, .inl m_tape_values'))] := by
  refine CT.of (cc := cX7_putLengths) (maxL := 6) (ret := none) (by decide) rfl (Nat.le_of_ble_eq_true rfl) ?_
  intro p e s m below meth c A ls hx hb hr hml hts hown hlocks hK hA hP hD hS hl
  generalize hargs : ([.ref a_self, .int x1] : List Value).toArray = args at hts ⊢
  generalize hQ : MQ below (ctQ D none [(a_self, .inr (7, [.ref a_telling, .ref a_rounds, .ref a_tape, .ref a_order, .int m_counting, .int m_bits'])), (a_rounds, .inr (4, [.ref a_telling_symbols, .ref a_rounds_tableOfGroup, .ref a_rounds_lengths, .ref a_rounds_weights, .ref a_rounds_joiner, .ref a_rounds_codes, .int m_rounds_kinds, .int m_rounds_groups, .int m_rounds_tables])), (a_rounds_lengths, .inl (cG, 15, .inr (.inr (.inr (.inr (fun i => if i < 15 then some (aF_rounds_lengths i) else none)))))), (aF_rounds_lengths 0, .inl (cI, 258, .inl (M_rounds_lengths 0))), (aF_rounds_lengths 1, .inl (cI, 258, .inl (M_rounds_lengths 1))), (aF_rounds_lengths 2, .inl (cI, 258, .inl (M_rounds_lengths 2))), (aF_rounds_lengths 3, .inl (cI, 258, .inl (M_rounds_lengths 3))), (aF_rounds_lengths 4, .inl (cI, 258, .inl (M_rounds_lengths 4))), (aF_rounds_lengths 5, .inl (cI, 258, .inl (M_rounds_lengths 5))), (aF_rounds_lengths 6, .inl (cI, 258, .inl (M_rounds_lengths 6))), (aF_rounds_lengths 7, .inl (cI, 258, .inl (M_rounds_lengths 7))), (aF_rounds_lengths 8, .inl (cI, 258, .inl (M_rounds_lengths 8))), (aF_rounds_lengths 9, .inl (cI, 258, .inl (M_rounds_lengths 9))), (aF_rounds_lengths 10, .inl (cI, 258, .inl (M_rounds_lengths 10))), (aF_rounds_lengths 11, .inl (cI, 258, .inl (M_rounds_lengths 11))), (aF_rounds_lengths 12, .inl (cI, 258, .inl (M_rounds_lengths 12))), (aF_rounds_lengths 13, .inl (cI, 258, .inl (M_rounds_lengths 13))), (aF_rounds_lengths 14, .inl (cI, 258, .inl (M_rounds_lengths 14))), (a_tape, .inr (5, [.ref a_tape_values, .int m_tape_count'])), (a_tape_values, .inl (cI, 1500, .inl m_tape_values'))] A) args s 0 0 A = Q
  have hl : lv_has ls 6 [(0, .ref a_self), (1, .int x1)] := hl
  have hW : WS D A s [(a_self, .inr (7, [.ref a_telling, .ref a_rounds, .ref a_tape, .ref a_order, .int m_counting, .int m_bits])), (a_rounds, .inr (4, [.ref a_telling_symbols, .ref a_rounds_tableOfGroup, .ref a_rounds_lengths, .ref a_rounds_weights, .ref a_rounds_joiner, .ref a_rounds_codes, .int m_rounds_kinds, .int m_rounds_groups, .int m_rounds_tables])), (a_rounds_lengths, .inl (cG, 15, .inr (.inr (.inr (.inr (fun i => if i < 15 then some (aF_rounds_lengths i) else none)))))), (aF_rounds_lengths 0, .inl (cI, 258, .inl (M_rounds_lengths 0))), (aF_rounds_lengths 1, .inl (cI, 258, .inl (M_rounds_lengths 1))), (aF_rounds_lengths 2, .inl (cI, 258, .inl (M_rounds_lengths 2))), (aF_rounds_lengths 3, .inl (cI, 258, .inl (M_rounds_lengths 3))), (aF_rounds_lengths 4, .inl (cI, 258, .inl (M_rounds_lengths 4))), (aF_rounds_lengths 5, .inl (cI, 258, .inl (M_rounds_lengths 5))), (aF_rounds_lengths 6, .inl (cI, 258, .inl (M_rounds_lengths 6))), (aF_rounds_lengths 7, .inl (cI, 258, .inl (M_rounds_lengths 7))), (aF_rounds_lengths 8, .inl (cI, 258, .inl (M_rounds_lengths 8))), (aF_rounds_lengths 9, .inl (cI, 258, .inl (M_rounds_lengths 9))), (aF_rounds_lengths 10, .inl (cI, 258, .inl (M_rounds_lengths 10))), (aF_rounds_lengths 11, .inl (cI, 258, .inl (M_rounds_lengths 11))), (aF_rounds_lengths 12, .inl (cI, 258, .inl (M_rounds_lengths 12))), (aF_rounds_lengths 13, .inl (cI, 258, .inl (M_rounds_lengths 13))), (aF_rounds_lengths 14, .inl (cI, 258, .inl (M_rounds_lengths 14))), (a_tape, .inr (5, [.ref a_tape_values, .int m_tape_count])), (a_tape_values, .inl (cI, 1500, .inl m_tape_values))] s.heap [] := ⟨hP, hD, hS⟩
  clear hP hD hS
  unfold fWriter_putLengths at hF
  have hw0 := hts (Cond.fieldLink RX7 15 "MoveFronts$Writer" "rounds" "LMoveFronts$Rounds;") (by decide +kernel)
  have hi7 : ∀ w ∈ u_ws RX7 TX7 6, w ∈ wsX7_putLengths := by decide +kernel
  have hi4 : ∀ w ∈ u_ws RX4 TX4 9, w ∈ wsX7_putLengths := by decide +kernel
  refine lv_aload_n hx hb dX7_putLengths_0 rfl (lv_at hl 0 rfl) ?_
  refine va_get (D := D) (ci := 7) (v := .ref a_rounds) (C := RX7) (T := TX7) (N := 6) hx hb hts hi7 hown hK.1 hW.1 0 rfl rfl 1 (by decide) hw0 (fun _ h9 => h9) rfl dX7_putLengths_1 ?_
  refine lv_iconst (v := 4) hx hb dX7_putLengths_4 (by decide) ?_
  refine lv_iload_n hx hb dX7_putLengths_5 rfl (lv_at hl 1 rfl) ?_
  refine lv_iconst (v := 0) hx hb dX7_putLengths_6 (by decide) ?_
  obtain ⟨r_7, e7, hF⟩ := bd1_some hF
  refine ctV (r := (RX4, TX4, 9)) (As := [.int (4 : Int32), .int x1, .int (0 : Int32)]) (rest := []) hx hb hml hown hts hK hW.1 hW.2.1 hW.2.2 hA hl.1 (kRounds_lengthOf l D cI cZ cO cG a_rounds a_telling_symbols a_rounds_tableOfGroup a_rounds_lengths a_rounds_weights a_rounds_joiner a_rounds_codes aF_rounds_lengths m_rounds_kinds m_rounds_groups m_rounds_tables M_rounds_lengths (4 : Int32) x1 (0 : Int32) e7) (cwV 3 hts gX7_putLengths_X4_lengthOf rfl rfl rfl (by decide +kernel) ⟨Nat.le_of_ble_eq_true rfl, Nat.le_of_ble_eq_true rfl⟩) 4 1 rfl rfl [1, 2, 3, 4, 5, 6, 7, 8, 9, 10, 11, 12, 13, 14, 15, 16, 17] rfl rfl rfl rfl rfl (Nat.le_of_ble_eq_true rfl) rfl ⟨Nat.zero_le _, Nat.zero_le _⟩ dX7_putLengths_7 (fun H locs hP hD hS => ?_)
  have hW : WS D A s [(a_self, .inr (7, [.ref a_telling, .ref a_rounds, .ref a_tape, .ref a_order, .int m_counting, .int m_bits])), (a_rounds, .inr (4, [.ref a_telling_symbols, .ref a_rounds_tableOfGroup, .ref a_rounds_lengths, .ref a_rounds_weights, .ref a_rounds_joiner, .ref a_rounds_codes, .int m_rounds_kinds, .int m_rounds_groups, .int m_rounds_tables])), (a_rounds_lengths, .inl (cG, 15, .inr (.inr (.inr (.inr (fun i => if i < 15 then some (aF_rounds_lengths i) else none)))))), (aF_rounds_lengths 0, .inl (cI, 258, .inl (M_rounds_lengths 0))), (aF_rounds_lengths 1, .inl (cI, 258, .inl (M_rounds_lengths 1))), (aF_rounds_lengths 2, .inl (cI, 258, .inl (M_rounds_lengths 2))), (aF_rounds_lengths 3, .inl (cI, 258, .inl (M_rounds_lengths 3))), (aF_rounds_lengths 4, .inl (cI, 258, .inl (M_rounds_lengths 4))), (aF_rounds_lengths 5, .inl (cI, 258, .inl (M_rounds_lengths 5))), (aF_rounds_lengths 6, .inl (cI, 258, .inl (M_rounds_lengths 6))), (aF_rounds_lengths 7, .inl (cI, 258, .inl (M_rounds_lengths 7))), (aF_rounds_lengths 8, .inl (cI, 258, .inl (M_rounds_lengths 8))), (aF_rounds_lengths 9, .inl (cI, 258, .inl (M_rounds_lengths 9))), (aF_rounds_lengths 10, .inl (cI, 258, .inl (M_rounds_lengths 10))), (aF_rounds_lengths 11, .inl (cI, 258, .inl (M_rounds_lengths 11))), (aF_rounds_lengths 12, .inl (cI, 258, .inl (M_rounds_lengths 12))), (aF_rounds_lengths 13, .inl (cI, 258, .inl (M_rounds_lengths 13))), (aF_rounds_lengths 14, .inl (cI, 258, .inl (M_rounds_lengths 14))), (a_tape, .inr (5, [.ref a_tape_values, .int m_tape_count])), (a_tape_values, .inl (cI, 1500, .inl m_tape_values))] H locs := ⟨hP, hD, hS⟩
  refine lv_istore_n (lv' := [(2, .int r_7), (0, .ref a_self), (1, .int x1)]) hx hb dX7_putLengths_10 rfl hl (by decide) rfl (fun ls hl => ?_)
  refine lv_aload_n hx hb dX7_putLengths_11 rfl (lv_at hl 1 rfl) ?_
  refine lv_iload_n hx hb dX7_putLengths_12 rfl (lv_at hl 0 rfl) ?_
  refine lv_iconst (v := 5) hx hb dX7_putLengths_13 (by decide) ?_
  obtain ⟨m_bits_14, m_tape_count_14, m_tape_values_14, e14, hF⟩ := bd3_some hF
  refine ctV (r := (RX7, TX7, 6)) (As := [.int r_7, .int (5 : Int32)]) (rest := []) hx hb hml hown hts hK hW.1 hW.2.1 hW.2.2 hA hl.1 (kWriter_putNumber l D cI cZ cO cG a_self a_telling a_rounds a_tape a_order a_tape_values m_counting m_bits m_tape_count m_tape_values r_7 (5 : Int32) e14) (cwV 2 hts gX7_putLengths_X7_putNumber rfl rfl rfl (by decide +kernel) ⟨Nat.le_of_ble_eq_true rfl, Nat.le_of_ble_eq_true rfl⟩) 7 0 rfl rfl [0, 18, 19] rfl rfl rfl rfl rfl (Nat.le_of_ble_eq_true rfl) rfl ⟨Nat.zero_le _, Nat.zero_le _⟩ dX7_putLengths_14 (fun H locs hP hD hS => ?_)
  have hW : WS D A s [(a_self, .inr (7, [.ref a_telling, .ref a_rounds, .ref a_tape, .ref a_order, .int m_counting, .int m_bits_14])), (a_rounds, .inr (4, [.ref a_telling_symbols, .ref a_rounds_tableOfGroup, .ref a_rounds_lengths, .ref a_rounds_weights, .ref a_rounds_joiner, .ref a_rounds_codes, .int m_rounds_kinds, .int m_rounds_groups, .int m_rounds_tables])), (a_rounds_lengths, .inl (cG, 15, .inr (.inr (.inr (.inr (fun i => if i < 15 then some (aF_rounds_lengths i) else none)))))), (aF_rounds_lengths 0, .inl (cI, 258, .inl (M_rounds_lengths 0))), (aF_rounds_lengths 1, .inl (cI, 258, .inl (M_rounds_lengths 1))), (aF_rounds_lengths 2, .inl (cI, 258, .inl (M_rounds_lengths 2))), (aF_rounds_lengths 3, .inl (cI, 258, .inl (M_rounds_lengths 3))), (aF_rounds_lengths 4, .inl (cI, 258, .inl (M_rounds_lengths 4))), (aF_rounds_lengths 5, .inl (cI, 258, .inl (M_rounds_lengths 5))), (aF_rounds_lengths 6, .inl (cI, 258, .inl (M_rounds_lengths 6))), (aF_rounds_lengths 7, .inl (cI, 258, .inl (M_rounds_lengths 7))), (aF_rounds_lengths 8, .inl (cI, 258, .inl (M_rounds_lengths 8))), (aF_rounds_lengths 9, .inl (cI, 258, .inl (M_rounds_lengths 9))), (aF_rounds_lengths 10, .inl (cI, 258, .inl (M_rounds_lengths 10))), (aF_rounds_lengths 11, .inl (cI, 258, .inl (M_rounds_lengths 11))), (aF_rounds_lengths 12, .inl (cI, 258, .inl (M_rounds_lengths 12))), (aF_rounds_lengths 13, .inl (cI, 258, .inl (M_rounds_lengths 13))), (aF_rounds_lengths 14, .inl (cI, 258, .inl (M_rounds_lengths 14))), (a_tape, .inr (5, [.ref a_tape_values, .int m_tape_count_14])), (a_tape_values, .inl (cI, 1500, .inl m_tape_values_14))] H locs := ⟨hP, hD, hS⟩
  refine lv_iconst (v := 0) hx hb dX7_putLengths_17 (by decide) ?_
  refine lv_istore_n (lv' := [(3, .int (0 : Int32)), (2, .int r_7), (0, .ref a_self), (1, .int x1)]) hx hb dX7_putLengths_18 rfl hl (by decide) rfl (fun ls hl => ?_)
  obtain ⟨m_bits_19ze, m_tape_count_19ze, m_tape_values_19ze, hI, hF⟩ := bd3_some hF
  obtain ⟨nn, hI⟩ := itrO_some hI
  have hX19 : ∀ (m_bits_19z : Int32) (m_tape_count_19z : Int32) (m_tape_values_19z : Nat → Int32), (m_bits_19z, m_tape_count_19z, m_tape_values_19z) = (m_bits_19ze, m_tape_count_19ze, m_tape_values_19ze) → ∀ (H : Heap) (locs : List Loc), WS D A s [(a_self, .inr (7, [.ref a_telling, .ref a_rounds, .ref a_tape, .ref a_order, .int m_counting, .int m_bits_19z])), (a_rounds, .inr (4, [.ref a_telling_symbols, .ref a_rounds_tableOfGroup, .ref a_rounds_lengths, .ref a_rounds_weights, .ref a_rounds_joiner, .ref a_rounds_codes, .int m_rounds_kinds, .int m_rounds_groups, .int m_rounds_tables])), (a_rounds_lengths, .inl (cG, 15, .inr (.inr (.inr (.inr (fun i => if i < 15 then some (aF_rounds_lengths i) else none)))))), (aF_rounds_lengths 0, .inl (cI, 258, .inl (M_rounds_lengths 0))), (aF_rounds_lengths 1, .inl (cI, 258, .inl (M_rounds_lengths 1))), (aF_rounds_lengths 2, .inl (cI, 258, .inl (M_rounds_lengths 2))), (aF_rounds_lengths 3, .inl (cI, 258, .inl (M_rounds_lengths 3))), (aF_rounds_lengths 4, .inl (cI, 258, .inl (M_rounds_lengths 4))), (aF_rounds_lengths 5, .inl (cI, 258, .inl (M_rounds_lengths 5))), (aF_rounds_lengths 6, .inl (cI, 258, .inl (M_rounds_lengths 6))), (aF_rounds_lengths 7, .inl (cI, 258, .inl (M_rounds_lengths 7))), (aF_rounds_lengths 8, .inl (cI, 258, .inl (M_rounds_lengths 8))), (aF_rounds_lengths 9, .inl (cI, 258, .inl (M_rounds_lengths 9))), (aF_rounds_lengths 10, .inl (cI, 258, .inl (M_rounds_lengths 10))), (aF_rounds_lengths 11, .inl (cI, 258, .inl (M_rounds_lengths 11))), (aF_rounds_lengths 12, .inl (cI, 258, .inl (M_rounds_lengths 12))), (aF_rounds_lengths 13, .inl (cI, 258, .inl (M_rounds_lengths 13))), (aF_rounds_lengths 14, .inl (cI, 258, .inl (M_rounds_lengths 14))), (a_tape, .inr (5, [.ref a_tape_values, .int m_tape_count_19z])), (a_tape_values, .inl (cI, 1500, .inl m_tape_values_19z))] H locs → ∀ ls : Array Slot, lv_has ls 6 [] → W p l e (headSpec wsX7_putLengths rmWriter_putLengths).room s m args below meth c H locs 0 0 Q (F0 m 100 ls []) := by
    intro m_bits_19z m_tape_count_19z m_tape_values_19z he H locs hW ls hl
    obtain ⟨hz0, hy0⟩ := Prod.mk.inj he
    obtain ⟨hz1, hy1⟩ := Prod.mk.inj hy0
    subst hz0
    subst hz1
    subst hy1
    cases hF
    subst hQ
    exact ct_vret hx hb hr hlocks hW.1 hW.2.2 dX7_putLengths_100
  have hL19 : ∀ (n19 : Nat) (x2_19 : Int32) (x3_19 : Int32) (m_bits_19 : Int32) (m_tape_count_19 : Int32) (m_tape_values_19 : Nat → Int32), itr (un5 (fWriter_putLengths_L19 m_counting m_rounds_kinds m_rounds_tables M_rounds_lengths x1)) n19 (x2_19, x3_19, m_bits_19, m_tape_count_19, m_tape_values_19) = some (m_bits_19ze, m_tape_count_19ze, m_tape_values_19ze) → ∀ (H : Heap) (locs : List Loc), WS D A s [(a_self, .inr (7, [.ref a_telling, .ref a_rounds, .ref a_tape, .ref a_order, .int m_counting, .int m_bits_19])), (a_rounds, .inr (4, [.ref a_telling_symbols, .ref a_rounds_tableOfGroup, .ref a_rounds_lengths, .ref a_rounds_weights, .ref a_rounds_joiner, .ref a_rounds_codes, .int m_rounds_kinds, .int m_rounds_groups, .int m_rounds_tables])), (a_rounds_lengths, .inl (cG, 15, .inr (.inr (.inr (.inr (fun i => if i < 15 then some (aF_rounds_lengths i) else none)))))), (aF_rounds_lengths 0, .inl (cI, 258, .inl (M_rounds_lengths 0))), (aF_rounds_lengths 1, .inl (cI, 258, .inl (M_rounds_lengths 1))), (aF_rounds_lengths 2, .inl (cI, 258, .inl (M_rounds_lengths 2))), (aF_rounds_lengths 3, .inl (cI, 258, .inl (M_rounds_lengths 3))), (aF_rounds_lengths 4, .inl (cI, 258, .inl (M_rounds_lengths 4))), (aF_rounds_lengths 5, .inl (cI, 258, .inl (M_rounds_lengths 5))), (aF_rounds_lengths 6, .inl (cI, 258, .inl (M_rounds_lengths 6))), (aF_rounds_lengths 7, .inl (cI, 258, .inl (M_rounds_lengths 7))), (aF_rounds_lengths 8, .inl (cI, 258, .inl (M_rounds_lengths 8))), (aF_rounds_lengths 9, .inl (cI, 258, .inl (M_rounds_lengths 9))), (aF_rounds_lengths 10, .inl (cI, 258, .inl (M_rounds_lengths 10))), (aF_rounds_lengths 11, .inl (cI, 258, .inl (M_rounds_lengths 11))), (aF_rounds_lengths 12, .inl (cI, 258, .inl (M_rounds_lengths 12))), (aF_rounds_lengths 13, .inl (cI, 258, .inl (M_rounds_lengths 13))), (aF_rounds_lengths 14, .inl (cI, 258, .inl (M_rounds_lengths 14))), (a_tape, .inr (5, [.ref a_tape_values, .int m_tape_count_19])), (a_tape_values, .inl (cI, 1500, .inl m_tape_values_19))] H locs → ∀ ls : Array Slot, lv_has ls 6 [(0, .ref a_self), (1, .int x1), (2, .int x2_19), (3, .int x3_19)] → W p l e (headSpec wsX7_putLengths rmWriter_putLengths).room s m args below meth c H locs 0 0 Q (F0 m 19 ls []) := by
    intro n19
    induction n19 with
    | zero => intro x2_19 x3_19 m_bits_19 m_tape_count_19 m_tape_values_19 hI; cases hI
    | succ n19 ih19 =>
      intro x2_19 x3_19 m_bits_19 m_tape_count_19 m_tape_values_19 hI H locs hW ls hl
      obtain ⟨sr19, hF, hN19⟩ := itr_succ hI
      have hF : fWriter_putLengths_L19 m_counting m_rounds_kinds m_rounds_tables M_rounds_lengths x1 x2_19 x3_19 m_bits_19 m_tape_count_19 m_tape_values_19 = some sr19 := hF
      unfold fWriter_putLengths_L19 at hF
      refine lv_iload_n hx hb dX7_putLengths_19 rfl (lv_at hl 3 rfl) ?_
      refine lv_aload_n hx hb dX7_putLengths_20 rfl (lv_at hl 0 rfl) ?_
      refine va_get (D := D) (ci := 7) (v := .ref a_rounds) (C := RX7) (T := TX7) (N := 6) hx hb hts hi7 hown hK.1 hW.1 0 rfl rfl 1 (by decide) hw0 (fun _ h9 => h9) rfl dX7_putLengths_21 ?_
      refine va_getN (D := D) (ci := 4) (v := .int m_rounds_kinds) (C := RX4) (T := TX4) (N := 9) hx hb hts hi4 hown hK.1 hW.1 1 rfl rfl 6 (by decide) (va_Nw.use rfl (hK.2.1 ("MoveFronts$Writer", 106, "MoveFronts$Rounds", "kinds", "I", "MoveFronts") (by decide +kernel))) (fun _ h9 => h9) rfl dX7_putLengths_24 ?_
      refine lv_icmp_ge (tgt := 100) hx hb dX7_putLengths_27 (by decide) (fun c27 => ?_) (fun c27 => ?_)
      · rw [if_pos c27] at hF
        cases hF
        exact hX19 _ _ _ (itr_out hN19) _ _ hW _ (lv_sub hl [] rfl)
      · rw [if_neg c27] at hF
        refine lv_aload_n hx hb dX7_putLengths_30 rfl (lv_at hl 0 rfl) ?_
        refine va_get (D := D) (ci := 7) (v := .ref a_rounds) (C := RX7) (T := TX7) (N := 6) hx hb hts hi7 hown hK.1 hW.1 0 rfl rfl 1 (by decide) hw0 (fun _ h9 => h9) rfl dX7_putLengths_31 ?_
        refine lv_iconst (v := 4) hx hb dX7_putLengths_34 (by decide) ?_
        refine lv_iload_n hx hb dX7_putLengths_35 rfl (lv_at hl 1 rfl) ?_
        refine lv_iload_n hx hb dX7_putLengths_36 rfl (lv_at hl 3 rfl) ?_
        obtain ⟨r_37, e37, hF⟩ := bd1_some hF
        refine ctV (r := (RX4, TX4, 9)) (As := [.int (4 : Int32), .int x1, .int x3_19]) (rest := []) hx hb hml hown hts hK hW.1 hW.2.1 hW.2.2 hA hl.1 (kRounds_lengthOf l D cI cZ cO cG a_rounds a_telling_symbols a_rounds_tableOfGroup a_rounds_lengths a_rounds_weights a_rounds_joiner a_rounds_codes aF_rounds_lengths m_rounds_kinds m_rounds_groups m_rounds_tables M_rounds_lengths (4 : Int32) x1 x3_19 e37) (cwV 3 hts gX7_putLengths_X4_lengthOf rfl rfl rfl (by decide +kernel) ⟨Nat.le_of_ble_eq_true rfl, Nat.le_of_ble_eq_true rfl⟩) 4 1 rfl rfl [1, 2, 3, 4, 5, 6, 7, 8, 9, 10, 11, 12, 13, 14, 15, 16, 17] rfl rfl rfl rfl rfl (Nat.le_of_ble_eq_true rfl) rfl ⟨Nat.zero_le _, Nat.zero_le _⟩ dX7_putLengths_37 (fun H locs hP hD hS => ?_)
        have hW : WS D A s [(a_self, .inr (7, [.ref a_telling, .ref a_rounds, .ref a_tape, .ref a_order, .int m_counting, .int m_bits_19])), (a_rounds, .inr (4, [.ref a_telling_symbols, .ref a_rounds_tableOfGroup, .ref a_rounds_lengths, .ref a_rounds_weights, .ref a_rounds_joiner, .ref a_rounds_codes, .int m_rounds_kinds, .int m_rounds_groups, .int m_rounds_tables])), (a_rounds_lengths, .inl (cG, 15, .inr (.inr (.inr (.inr (fun i => if i < 15 then some (aF_rounds_lengths i) else none)))))), (aF_rounds_lengths 0, .inl (cI, 258, .inl (M_rounds_lengths 0))), (aF_rounds_lengths 1, .inl (cI, 258, .inl (M_rounds_lengths 1))), (aF_rounds_lengths 2, .inl (cI, 258, .inl (M_rounds_lengths 2))), (aF_rounds_lengths 3, .inl (cI, 258, .inl (M_rounds_lengths 3))), (aF_rounds_lengths 4, .inl (cI, 258, .inl (M_rounds_lengths 4))), (aF_rounds_lengths 5, .inl (cI, 258, .inl (M_rounds_lengths 5))), (aF_rounds_lengths 6, .inl (cI, 258, .inl (M_rounds_lengths 6))), (aF_rounds_lengths 7, .inl (cI, 258, .inl (M_rounds_lengths 7))), (aF_rounds_lengths 8, .inl (cI, 258, .inl (M_rounds_lengths 8))), (aF_rounds_lengths 9, .inl (cI, 258, .inl (M_rounds_lengths 9))), (aF_rounds_lengths 10, .inl (cI, 258, .inl (M_rounds_lengths 10))), (aF_rounds_lengths 11, .inl (cI, 258, .inl (M_rounds_lengths 11))), (aF_rounds_lengths 12, .inl (cI, 258, .inl (M_rounds_lengths 12))), (aF_rounds_lengths 13, .inl (cI, 258, .inl (M_rounds_lengths 13))), (aF_rounds_lengths 14, .inl (cI, 258, .inl (M_rounds_lengths 14))), (a_tape, .inr (5, [.ref a_tape_values, .int m_tape_count_19])), (a_tape_values, .inl (cI, 1500, .inl m_tape_values_19))] H locs := ⟨hP, hD, hS⟩
        refine lv_istore (lv' := [(4, .int r_37), (0, .ref a_self), (1, .int x1), (2, .int x2_19), (3, .int x3_19)]) hx hb dX7_putLengths_40 hl (by decide) rfl (fun ls hl => ?_)
        refine lv_iload_n hx hb dX7_putLengths_42 rfl (lv_at hl 3 rfl) ?_
        refine lv_istore (lv' := [(5, .int x2_19), (4, .int r_37), (0, .ref a_self), (1, .int x1), (2, .int x2_19), (3, .int x3_19)]) hx hb dX7_putLengths_43 hl (by decide) rfl (fun ls hl => ?_)
        obtain ⟨m_bits_45ze, m_tape_count_45ze, m_tape_values_45ze, hI, hF⟩ := bd3_some hF
        obtain ⟨nn, hI⟩ := itrO_some hI
        have hX45 : ∀ (m_bits_45z : Int32) (m_tape_count_45z : Int32) (m_tape_values_45z : Nat → Int32), (m_bits_45z, m_tape_count_45z, m_tape_values_45z) = (m_bits_45ze, m_tape_count_45ze, m_tape_values_45ze) → ∀ (H : Heap) (locs : List Loc), WS D A s [(a_self, .inr (7, [.ref a_telling, .ref a_rounds, .ref a_tape, .ref a_order, .int m_counting, .int m_bits_45z])), (a_rounds, .inr (4, [.ref a_telling_symbols, .ref a_rounds_tableOfGroup, .ref a_rounds_lengths, .ref a_rounds_weights, .ref a_rounds_joiner, .ref a_rounds_codes, .int m_rounds_kinds, .int m_rounds_groups, .int m_rounds_tables])), (a_rounds_lengths, .inl (cG, 15, .inr (.inr (.inr (.inr (fun i => if i < 15 then some (aF_rounds_lengths i) else none)))))), (aF_rounds_lengths 0, .inl (cI, 258, .inl (M_rounds_lengths 0))), (aF_rounds_lengths 1, .inl (cI, 258, .inl (M_rounds_lengths 1))), (aF_rounds_lengths 2, .inl (cI, 258, .inl (M_rounds_lengths 2))), (aF_rounds_lengths 3, .inl (cI, 258, .inl (M_rounds_lengths 3))), (aF_rounds_lengths 4, .inl (cI, 258, .inl (M_rounds_lengths 4))), (aF_rounds_lengths 5, .inl (cI, 258, .inl (M_rounds_lengths 5))), (aF_rounds_lengths 6, .inl (cI, 258, .inl (M_rounds_lengths 6))), (aF_rounds_lengths 7, .inl (cI, 258, .inl (M_rounds_lengths 7))), (aF_rounds_lengths 8, .inl (cI, 258, .inl (M_rounds_lengths 8))), (aF_rounds_lengths 9, .inl (cI, 258, .inl (M_rounds_lengths 9))), (aF_rounds_lengths 10, .inl (cI, 258, .inl (M_rounds_lengths 10))), (aF_rounds_lengths 11, .inl (cI, 258, .inl (M_rounds_lengths 11))), (aF_rounds_lengths 12, .inl (cI, 258, .inl (M_rounds_lengths 12))), (aF_rounds_lengths 13, .inl (cI, 258, .inl (M_rounds_lengths 13))), (aF_rounds_lengths 14, .inl (cI, 258, .inl (M_rounds_lengths 14))), (a_tape, .inr (5, [.ref a_tape_values, .int m_tape_count_45z])), (a_tape_values, .inl (cI, 1500, .inl m_tape_values_45z))] H locs → ∀ ls : Array Slot, lv_has ls 6 [(0, .ref a_self), (1, .int x1), (2, .int x2_19), (3, .int x3_19), (4, .int r_37)] → W p l e (headSpec wsX7_putLengths rmWriter_putLengths).room s m args below meth c H locs 0 0 Q (F0 m 64 ls []) := by
          intro m_bits_45z m_tape_count_45z m_tape_values_45z he H locs hW ls hl
          obtain ⟨hz0, hy0⟩ := Prod.mk.inj he
          obtain ⟨hz1, hy1⟩ := Prod.mk.inj hy0
          subst hz0
          subst hz1
          subst hy1
          refine lv_iload_n hx hb dX7_putLengths_64 rfl (lv_at hl 2 rfl) ?_
          refine lv_istore (lv' := [(5, .int x2_19), (0, .ref a_self), (1, .int x1), (2, .int x2_19), (3, .int x3_19), (4, .int r_37)]) hx hb dX7_putLengths_65 hl (by decide) rfl (fun ls hl => ?_)
          obtain ⟨m_bits_67ze, m_tape_count_67ze, m_tape_values_67ze, hI, hF⟩ := bd3_some hF
          obtain ⟨nn, hI⟩ := itrO_some hI
          have hX67 : ∀ (m_bits_67z : Int32) (m_tape_count_67z : Int32) (m_tape_values_67z : Nat → Int32), (m_bits_67z, m_tape_count_67z, m_tape_values_67z) = (m_bits_67ze, m_tape_count_67ze, m_tape_values_67ze) → ∀ (H : Heap) (locs : List Loc), WS D A s [(a_self, .inr (7, [.ref a_telling, .ref a_rounds, .ref a_tape, .ref a_order, .int m_counting, .int m_bits_67z])), (a_rounds, .inr (4, [.ref a_telling_symbols, .ref a_rounds_tableOfGroup, .ref a_rounds_lengths, .ref a_rounds_weights, .ref a_rounds_joiner, .ref a_rounds_codes, .int m_rounds_kinds, .int m_rounds_groups, .int m_rounds_tables])), (a_rounds_lengths, .inl (cG, 15, .inr (.inr (.inr (.inr (fun i => if i < 15 then some (aF_rounds_lengths i) else none)))))), (aF_rounds_lengths 0, .inl (cI, 258, .inl (M_rounds_lengths 0))), (aF_rounds_lengths 1, .inl (cI, 258, .inl (M_rounds_lengths 1))), (aF_rounds_lengths 2, .inl (cI, 258, .inl (M_rounds_lengths 2))), (aF_rounds_lengths 3, .inl (cI, 258, .inl (M_rounds_lengths 3))), (aF_rounds_lengths 4, .inl (cI, 258, .inl (M_rounds_lengths 4))), (aF_rounds_lengths 5, .inl (cI, 258, .inl (M_rounds_lengths 5))), (aF_rounds_lengths 6, .inl (cI, 258, .inl (M_rounds_lengths 6))), (aF_rounds_lengths 7, .inl (cI, 258, .inl (M_rounds_lengths 7))), (aF_rounds_lengths 8, .inl (cI, 258, .inl (M_rounds_lengths 8))), (aF_rounds_lengths 9, .inl (cI, 258, .inl (M_rounds_lengths 9))), (aF_rounds_lengths 10, .inl (cI, 258, .inl (M_rounds_lengths 10))), (aF_rounds_lengths 11, .inl (cI, 258, .inl (M_rounds_lengths 11))), (aF_rounds_lengths 12, .inl (cI, 258, .inl (M_rounds_lengths 12))), (aF_rounds_lengths 13, .inl (cI, 258, .inl (M_rounds_lengths 13))), (aF_rounds_lengths 14, .inl (cI, 258, .inl (M_rounds_lengths 14))), (a_tape, .inr (5, [.ref a_tape_values, .int m_tape_count_67z])), (a_tape_values, .inl (cI, 1500, .inl m_tape_values_67z))] H locs → ∀ ls : Array Slot, lv_has ls 6 [(0, .ref a_self), (1, .int x1), (3, .int x3_19), (4, .int r_37)] → W p l e (headSpec wsX7_putLengths rmWriter_putLengths).room s m args below meth c H locs 0 0 Q (F0 m 86 ls []) := by
            intro m_bits_67z m_tape_count_67z m_tape_values_67z he H locs hW ls hl
            obtain ⟨hz0, hy0⟩ := Prod.mk.inj he
            obtain ⟨hz1, hy1⟩ := Prod.mk.inj hy0
            subst hz0
            subst hz1
            subst hy1
            refine lv_aload_n hx hb dX7_putLengths_86 rfl (lv_at hl 0 rfl) ?_
            refine lv_iconst (v := 0) hx hb dX7_putLengths_87 (by decide) ?_
            obtain ⟨m_bits_88, m_tape_count_88, m_tape_values_88, e88, hF⟩ := bd3_some hF
            refine ctV (r := (RX7, TX7, 6)) (As := [.int (0 : Int32)]) (rest := []) hx hb hml hown hts hK hW.1 hW.2.1 hW.2.2 hA hl.1 (kWriter_put l D cI cZ cO cG a_self a_telling a_rounds a_tape a_order a_tape_values m_counting m_bits_67z m_tape_count_67z m_tape_values_67z (0 : Int32) e88) (cwV 1 hts gX7_putLengths_X7_put rfl rfl rfl (by decide +kernel) ⟨Nat.le_of_ble_eq_true rfl, Nat.le_of_ble_eq_true rfl⟩) 7 0 rfl rfl [0, 18, 19] rfl rfl rfl rfl rfl (Nat.le_of_ble_eq_true rfl) rfl ⟨Nat.zero_le _, Nat.zero_le _⟩ dX7_putLengths_88 (fun H locs hP hD hS => ?_)
            have hW : WS D A s [(a_self, .inr (7, [.ref a_telling, .ref a_rounds, .ref a_tape, .ref a_order, .int m_counting, .int m_bits_88])), (a_rounds, .inr (4, [.ref a_telling_symbols, .ref a_rounds_tableOfGroup, .ref a_rounds_lengths, .ref a_rounds_weights, .ref a_rounds_joiner, .ref a_rounds_codes, .int m_rounds_kinds, .int m_rounds_groups, .int m_rounds_tables])), (a_rounds_lengths, .inl (cG, 15, .inr (.inr (.inr (.inr (fun i => if i < 15 then some (aF_rounds_lengths i) else none)))))), (aF_rounds_lengths 0, .inl (cI, 258, .inl (M_rounds_lengths 0))), (aF_rounds_lengths 1, .inl (cI, 258, .inl (M_rounds_lengths 1))), (aF_rounds_lengths 2, .inl (cI, 258, .inl (M_rounds_lengths 2))), (aF_rounds_lengths 3, .inl (cI, 258, .inl (M_rounds_lengths 3))), (aF_rounds_lengths 4, .inl (cI, 258, .inl (M_rounds_lengths 4))), (aF_rounds_lengths 5, .inl (cI, 258, .inl (M_rounds_lengths 5))), (aF_rounds_lengths 6, .inl (cI, 258, .inl (M_rounds_lengths 6))), (aF_rounds_lengths 7, .inl (cI, 258, .inl (M_rounds_lengths 7))), (aF_rounds_lengths 8, .inl (cI, 258, .inl (M_rounds_lengths 8))), (aF_rounds_lengths 9, .inl (cI, 258, .inl (M_rounds_lengths 9))), (aF_rounds_lengths 10, .inl (cI, 258, .inl (M_rounds_lengths 10))), (aF_rounds_lengths 11, .inl (cI, 258, .inl (M_rounds_lengths 11))), (aF_rounds_lengths 12, .inl (cI, 258, .inl (M_rounds_lengths 12))), (aF_rounds_lengths 13, .inl (cI, 258, .inl (M_rounds_lengths 13))), (aF_rounds_lengths 14, .inl (cI, 258, .inl (M_rounds_lengths 14))), (a_tape, .inr (5, [.ref a_tape_values, .int m_tape_count_88])), (a_tape_values, .inl (cI, 1500, .inl m_tape_values_88))] H locs := ⟨hP, hD, hS⟩
            refine lv_iload hx hb dX7_putLengths_91 (lv_at hl 3 rfl) ?_
            refine lv_istore_n (lv' := [(2, .int r_37), (0, .ref a_self), (1, .int x1), (3, .int x3_19), (4, .int r_37)]) hx hb dX7_putLengths_93 rfl hl (by decide) rfl (fun ls hl => ?_)
            refine lv_iinc (v := (x3_19 + 1)) (lv' := [(3, .int (x3_19 + 1)), (2, .int r_37), (0, .ref a_self), (1, .int x1), (4, .int r_37)]) hx hb dX7_putLengths_94 hl (k := 3) rfl rfl (by decide) rfl (fun ls hl => ?_)
            refine lv_goto (tgt := 19) hx hb dX7_putLengths_97 (by decide) ?_
            cases hF
            exact ih19 _ _ _ _ _ (itr_in hN19) _ _ hW _ (lv_sub hl [2, 3, 1, 0] rfl)
          have hL67 : ∀ (n67 : Nat) (x5_67 : Int32) (m_bits_67 : Int32) (m_tape_count_67 : Int32) (m_tape_values_67 : Nat → Int32), itr (un4 (fWriter_putLengths_L67 m_counting r_37)) n67 (x5_67, m_bits_67, m_tape_count_67, m_tape_values_67) = some (m_bits_67ze, m_tape_count_67ze, m_tape_values_67ze) → ∀ (H : Heap) (locs : List Loc), WS D A s [(a_self, .inr (7, [.ref a_telling, .ref a_rounds, .ref a_tape, .ref a_order, .int m_counting, .int m_bits_67])), (a_rounds, .inr (4, [.ref a_telling_symbols, .ref a_rounds_tableOfGroup, .ref a_rounds_lengths, .ref a_rounds_weights, .ref a_rounds_joiner, .ref a_rounds_codes, .int m_rounds_kinds, .int m_rounds_groups, .int m_rounds_tables])), (a_rounds_lengths, .inl (cG, 15, .inr (.inr (.inr (.inr (fun i => if i < 15 then some (aF_rounds_lengths i) else none)))))), (aF_rounds_lengths 0, .inl (cI, 258, .inl (M_rounds_lengths 0))), (aF_rounds_lengths 1, .inl (cI, 258, .inl (M_rounds_lengths 1))), (aF_rounds_lengths 2, .inl (cI, 258, .inl (M_rounds_lengths 2))), (aF_rounds_lengths 3, .inl (cI, 258, .inl (M_rounds_lengths 3))), (aF_rounds_lengths 4, .inl (cI, 258, .inl (M_rounds_lengths 4))), (aF_rounds_lengths 5, .inl (cI, 258, .inl (M_rounds_lengths 5))), (aF_rounds_lengths 6, .inl (cI, 258, .inl (M_rounds_lengths 6))), (aF_rounds_lengths 7, .inl (cI, 258, .inl (M_rounds_lengths 7))), (aF_rounds_lengths 8, .inl (cI, 258, .inl (M_rounds_lengths 8))), (aF_rounds_lengths 9, .inl (cI, 258, .inl (M_rounds_lengths 9))), (aF_rounds_lengths 10, .inl (cI, 258, .inl (M_rounds_lengths 10))), (aF_rounds_lengths 11, .inl (cI, 258, .inl (M_rounds_lengths 11))), (aF_rounds_lengths 12, .inl (cI, 258, .inl (M_rounds_lengths 12))), (aF_rounds_lengths 13, .inl (cI, 258, .inl (M_rounds_lengths 13))), (aF_rounds_lengths 14, .inl (cI, 258, .inl (M_rounds_lengths 14))), (a_tape, .inr (5, [.ref a_tape_values, .int m_tape_count_67])), (a_tape_values, .inl (cI, 1500, .inl m_tape_values_67))] H locs → ∀ ls : Array Slot, lv_has ls 6 [(0, .ref a_self), (1, .int x1), (3, .int x3_19), (4, .int r_37), (5, .int x5_67)] → W p l e (headSpec wsX7_putLengths rmWriter_putLengths).room s m args below meth c H locs 0 0 Q (F0 m 67 ls []) := by
            intro n67
            induction n67 with
            | zero => intro x5_67 m_bits_67 m_tape_count_67 m_tape_values_67 hI; cases hI
            | succ n67 ih67 =>
              intro x5_67 m_bits_67 m_tape_count_67 m_tape_values_67 hI H locs hW ls hl
              obtain ⟨sr67, hF, hN67⟩ := itr_succ hI
              have hF : fWriter_putLengths_L67 m_counting r_37 x5_67 m_bits_67 m_tape_count_67 m_tape_values_67 = some sr67 := hF
              unfold fWriter_putLengths_L67 at hF
              refine lv_iload hx hb dX7_putLengths_67 (lv_at hl 4 rfl) ?_
              refine lv_iload hx hb dX7_putLengths_69 (lv_at hl 3 rfl) ?_
              refine lv_icmp_le (tgt := 86) hx hb dX7_putLengths_71 (by decide) (fun c71 => ?_) (fun c71 => ?_)
              · rw [if_pos c71] at hF
                cases hF
                exact hX67 _ _ _ (itr_out hN67) _ _ hW _ (lv_sub hl [0, 1, 2, 3] rfl)
              · rw [if_neg c71] at hF
                refine lv_aload_n hx hb dX7_putLengths_74 rfl (lv_at hl 0 rfl) ?_
                refine lv_iconst (v := 3) hx hb dX7_putLengths_75 (by decide) ?_
                refine lv_iconst (v := 2) hx hb dX7_putLengths_76 (by decide) ?_
                obtain ⟨m_bits_77, m_tape_count_77, m_tape_values_77, e77, hF⟩ := bd3_some hF
                refine ctV (r := (RX7, TX7, 6)) (As := [.int (3 : Int32), .int (2 : Int32)]) (rest := []) hx hb hml hown hts hK hW.1 hW.2.1 hW.2.2 hA hl.1 (kWriter_putNumber l D cI cZ cO cG a_self a_telling a_rounds a_tape a_order a_tape_values m_counting m_bits_67 m_tape_count_67 m_tape_values_67 (3 : Int32) (2 : Int32) e77) (cwV 2 hts gX7_putLengths_X7_putNumber rfl rfl rfl (by decide +kernel) ⟨Nat.le_of_ble_eq_true rfl, Nat.le_of_ble_eq_true rfl⟩) 7 0 rfl rfl [0, 18, 19] rfl rfl rfl rfl rfl (Nat.le_of_ble_eq_true rfl) rfl ⟨Nat.zero_le _, Nat.zero_le _⟩ dX7_putLengths_77 (fun H locs hP hD hS => ?_)
                have hW : WS D A s [(a_self, .inr (7, [.ref a_telling, .ref a_rounds, .ref a_tape, .ref a_order, .int m_counting, .int m_bits_77])), (a_rounds, .inr (4, [.ref a_telling_symbols, .ref a_rounds_tableOfGroup, .ref a_rounds_lengths, .ref a_rounds_weights, .ref a_rounds_joiner, .ref a_rounds_codes, .int m_rounds_kinds, .int m_rounds_groups, .int m_rounds_tables])), (a_rounds_lengths, .inl (cG, 15, .inr (.inr (.inr (.inr (fun i => if i < 15 then some (aF_rounds_lengths i) else none)))))), (aF_rounds_lengths 0, .inl (cI, 258, .inl (M_rounds_lengths 0))), (aF_rounds_lengths 1, .inl (cI, 258, .inl (M_rounds_lengths 1))), (aF_rounds_lengths 2, .inl (cI, 258, .inl (M_rounds_lengths 2))), (aF_rounds_lengths 3, .inl (cI, 258, .inl (M_rounds_lengths 3))), (aF_rounds_lengths 4, .inl (cI, 258, .inl (M_rounds_lengths 4))), (aF_rounds_lengths 5, .inl (cI, 258, .inl (M_rounds_lengths 5))), (aF_rounds_lengths 6, .inl (cI, 258, .inl (M_rounds_lengths 6))), (aF_rounds_lengths 7, .inl (cI, 258, .inl (M_rounds_lengths 7))), (aF_rounds_lengths 8, .inl (cI, 258, .inl (M_rounds_lengths 8))), (aF_rounds_lengths 9, .inl (cI, 258, .inl (M_rounds_lengths 9))), (aF_rounds_lengths 10, .inl (cI, 258, .inl (M_rounds_lengths 10))), (aF_rounds_lengths 11, .inl (cI, 258, .inl (M_rounds_lengths 11))), (aF_rounds_lengths 12, .inl (cI, 258, .inl (M_rounds_lengths 12))), (aF_rounds_lengths 13, .inl (cI, 258, .inl (M_rounds_lengths 13))), (aF_rounds_lengths 14, .inl (cI, 258, .inl (M_rounds_lengths 14))), (a_tape, .inr (5, [.ref a_tape_values, .int m_tape_count_77])), (a_tape_values, .inl (cI, 1500, .inl m_tape_values_77))] H locs := ⟨hP, hD, hS⟩
                refine lv_iinc (v := (x5_67 + (-1))) (lv' := [(5, .int (x5_67 + (-1))), (0, .ref a_self), (1, .int x1), (3, .int x3_19), (4, .int r_37)]) hx hb dX7_putLengths_80 hl (k := 4) rfl rfl (by decide) rfl (fun ls hl => ?_)
                refine lv_goto (tgt := 67) hx hb dX7_putLengths_83 (by decide) ?_
                cases hF
                exact ih67 _ _ _ _ (itr_in hN67) _ _ hW _ (lv_sub hl [1, 2, 3, 4, 0] rfl)
          exact hL67 nn _ _ _ _ hI _ _ hW _ (lv_sub hl [1, 2, 4, 5, 0] rfl)
        have hL45 : ∀ (n45 : Nat) (x5_45 : Int32) (m_bits_45 : Int32) (m_tape_count_45 : Int32) (m_tape_values_45 : Nat → Int32), itr (un4 (fWriter_putLengths_L45 m_counting r_37)) n45 (x5_45, m_bits_45, m_tape_count_45, m_tape_values_45) = some (m_bits_45ze, m_tape_count_45ze, m_tape_values_45ze) → ∀ (H : Heap) (locs : List Loc), WS D A s [(a_self, .inr (7, [.ref a_telling, .ref a_rounds, .ref a_tape, .ref a_order, .int m_counting, .int m_bits_45])), (a_rounds, .inr (4, [.ref a_telling_symbols, .ref a_rounds_tableOfGroup, .ref a_rounds_lengths, .ref a_rounds_weights, .ref a_rounds_joiner, .ref a_rounds_codes, .int m_rounds_kinds, .int m_rounds_groups, .int m_rounds_tables])), (a_rounds_lengths, .inl (cG, 15, .inr (.inr (.inr (.inr (fun i => if i < 15 then some (aF_rounds_lengths i) else none)))))), (aF_rounds_lengths 0, .inl (cI, 258, .inl (M_rounds_lengths 0))), (aF_rounds_lengths 1, .inl (cI, 258, .inl (M_rounds_lengths 1))), (aF_rounds_lengths 2, .inl (cI, 258, .inl (M_rounds_lengths 2))), (aF_rounds_lengths 3, .inl (cI, 258, .inl (M_rounds_lengths 3))), (aF_rounds_lengths 4, .inl (cI, 258, .inl (M_rounds_lengths 4))), (aF_rounds_lengths 5, .inl (cI, 258, .inl (M_rounds_lengths 5))), (aF_rounds_lengths 6, .inl (cI, 258, .inl (M_rounds_lengths 6))), (aF_rounds_lengths 7, .inl (cI, 258, .inl (M_rounds_lengths 7))), (aF_rounds_lengths 8, .inl (cI, 258, .inl (M_rounds_lengths 8))), (aF_rounds_lengths 9, .inl (cI, 258, .inl (M_rounds_lengths 9))), (aF_rounds_lengths 10, .inl (cI, 258, .inl (M_rounds_lengths 10))), (aF_rounds_lengths 11, .inl (cI, 258, .inl (M_rounds_lengths 11))), (aF_rounds_lengths 12, .inl (cI, 258, .inl (M_rounds_lengths 12))), (aF_rounds_lengths 13, .inl (cI, 258, .inl (M_rounds_lengths 13))), (aF_rounds_lengths 14, .inl (cI, 258, .inl (M_rounds_lengths 14))), (a_tape, .inr (5, [.ref a_tape_values, .int m_tape_count_45])), (a_tape_values, .inl (cI, 1500, .inl m_tape_values_45))] H locs → ∀ ls : Array Slot, lv_has ls 6 [(0, .ref a_self), (1, .int x1), (2, .int x2_19), (3, .int x3_19), (4, .int r_37), (5, .int x5_45)] → W p l e (headSpec wsX7_putLengths rmWriter_putLengths).room s m args below meth c H locs 0 0 Q (F0 m 45 ls []) := by
          intro n45
          induction n45 with
          | zero => intro x5_45 m_bits_45 m_tape_count_45 m_tape_values_45 hI; cases hI
          | succ n45 ih45 =>
            intro x5_45 m_bits_45 m_tape_count_45 m_tape_values_45 hI H locs hW ls hl
            obtain ⟨sr45, hF, hN45⟩ := itr_succ hI
            have hF : fWriter_putLengths_L45 m_counting r_37 x5_45 m_bits_45 m_tape_count_45 m_tape_values_45 = some sr45 := hF
            unfold fWriter_putLengths_L45 at hF
            refine lv_iload hx hb dX7_putLengths_45 (lv_at hl 5 rfl) ?_
            refine lv_iload hx hb dX7_putLengths_47 (lv_at hl 4 rfl) ?_
            refine lv_icmp_ge (tgt := 64) hx hb dX7_putLengths_49 (by decide) (fun c49 => ?_) (fun c49 => ?_)
            · rw [if_pos c49] at hF
              cases hF
              exact hX45 _ _ _ (itr_out hN45) _ _ hW _ (lv_sub hl [0, 1, 2, 3, 4] rfl)
            · rw [if_neg c49] at hF
              refine lv_aload_n hx hb dX7_putLengths_52 rfl (lv_at hl 0 rfl) ?_
              refine lv_iconst (v := 2) hx hb dX7_putLengths_53 (by decide) ?_
              refine lv_iconst (v := 2) hx hb dX7_putLengths_54 (by decide) ?_
              obtain ⟨m_bits_55, m_tape_count_55, m_tape_values_55, e55, hF⟩ := bd3_some hF
              refine ctV (r := (RX7, TX7, 6)) (As := [.int (2 : Int32), .int (2 : Int32)]) (rest := []) hx hb hml hown hts hK hW.1 hW.2.1 hW.2.2 hA hl.1 (kWriter_putNumber l D cI cZ cO cG a_self a_telling a_rounds a_tape a_order a_tape_values m_counting m_bits_45 m_tape_count_45 m_tape_values_45 (2 : Int32) (2 : Int32) e55) (cwV 2 hts gX7_putLengths_X7_putNumber rfl rfl rfl (by decide +kernel) ⟨Nat.le_of_ble_eq_true rfl, Nat.le_of_ble_eq_true rfl⟩) 7 0 rfl rfl [0, 18, 19] rfl rfl rfl rfl rfl (Nat.le_of_ble_eq_true rfl) rfl ⟨Nat.zero_le _, Nat.zero_le _⟩ dX7_putLengths_55 (fun H locs hP hD hS => ?_)
              have hW : WS D A s [(a_self, .inr (7, [.ref a_telling, .ref a_rounds, .ref a_tape, .ref a_order, .int m_counting, .int m_bits_55])), (a_rounds, .inr (4, [.ref a_telling_symbols, .ref a_rounds_tableOfGroup, .ref a_rounds_lengths, .ref a_rounds_weights, .ref a_rounds_joiner, .ref a_rounds_codes, .int m_rounds_kinds, .int m_rounds_groups, .int m_rounds_tables])), (a_rounds_lengths, .inl (cG, 15, .inr (.inr (.inr (.inr (fun i => if i < 15 then some (aF_rounds_lengths i) else none)))))), (aF_rounds_lengths 0, .inl (cI, 258, .inl (M_rounds_lengths 0))), (aF_rounds_lengths 1, .inl (cI, 258, .inl (M_rounds_lengths 1))), (aF_rounds_lengths 2, .inl (cI, 258, .inl (M_rounds_lengths 2))), (aF_rounds_lengths 3, .inl (cI, 258, .inl (M_rounds_lengths 3))), (aF_rounds_lengths 4, .inl (cI, 258, .inl (M_rounds_lengths 4))), (aF_rounds_lengths 5, .inl (cI, 258, .inl (M_rounds_lengths 5))), (aF_rounds_lengths 6, .inl (cI, 258, .inl (M_rounds_lengths 6))), (aF_rounds_lengths 7, .inl (cI, 258, .inl (M_rounds_lengths 7))), (aF_rounds_lengths 8, .inl (cI, 258, .inl (M_rounds_lengths 8))), (aF_rounds_lengths 9, .inl (cI, 258, .inl (M_rounds_lengths 9))), (aF_rounds_lengths 10, .inl (cI, 258, .inl (M_rounds_lengths 10))), (aF_rounds_lengths 11, .inl (cI, 258, .inl (M_rounds_lengths 11))), (aF_rounds_lengths 12, .inl (cI, 258, .inl (M_rounds_lengths 12))), (aF_rounds_lengths 13, .inl (cI, 258, .inl (M_rounds_lengths 13))), (aF_rounds_lengths 14, .inl (cI, 258, .inl (M_rounds_lengths 14))), (a_tape, .inr (5, [.ref a_tape_values, .int m_tape_count_55])), (a_tape_values, .inl (cI, 1500, .inl m_tape_values_55))] H locs := ⟨hP, hD, hS⟩
              refine lv_iinc (v := (x5_45 + 1)) (lv' := [(5, .int (x5_45 + 1)), (0, .ref a_self), (1, .int x1), (2, .int x2_19), (3, .int x3_19), (4, .int r_37)]) hx hb dX7_putLengths_58 hl (k := 5) rfl rfl (by decide) rfl (fun ls hl => ?_)
              refine lv_goto (tgt := 45) hx hb dX7_putLengths_61 (by decide) ?_
              cases hF
              exact ih45 _ _ _ _ (itr_in hN45) _ _ hW _ (lv_sub hl [1, 2, 3, 4, 5, 0] rfl)
        exact hL45 nn _ _ _ _ hI _ _ hW _ (lv_sub hl [2, 3, 4, 5, 1, 0] rfl)
  exact hL19 nn _ _ _ _ _ hI _ _ hW _ (lv_sub hl [2, 3, 1, 0] rfl)
abbrev rmWriter_fieldOf : Room := { frames := 1, cells := 0, slots := 0, locals := 21 }
set_option maxHeartbeats 4000000 in
set_option maxRecDepth 100000 in
theorem kWriter_fieldOf (l : Launch) (D : va_G) (cI cZ cO cG : ClassId) (a_self : Nat) (a_telling : Nat) (a_rounds : Nat) (a_tape : Nat) (a_order : Nat) (a_telling_block : Nat) (a_telling_map : Nat) (a_telling_places : Nat) (a_telling_symbols : Nat) (a_telling_list : Nat) (a_telling_present : Nat) (m_counting : Int32) (m_bits : Int32) (m_telling_present : Nat → Int32) (x1 : Int32) {rv : Int32} (hF : fWriter_fieldOf m_telling_present x1 = some rv) : CT l yX7_fieldOf wsX7_fieldOf rmWriter_fieldOf D (tysG cI cZ cO cG) [.ref a_self, .int x1] [(a_self, .inr (7, [.ref a_telling, .ref a_rounds, .ref a_tape, .ref a_order, .int m_counting, .int m_bits])), (a_telling, .inr (6, [.ref a_telling_block, .ref a_telling_map, .ref a_telling_places, .ref a_telling_symbols, .ref a_telling_list, .ref a_telling_present])), (a_telling_present, .inl (cZ, 256, .inl m_telling_present))] (some (.int rv)) [(a_self, .inr (7, [.ref a_telling, .ref a_rounds, .ref a_tape, .ref a_order, .int m_counting, .int m_bits])), (a_telling, .inr (6, [.ref a_telling_block, .ref a_telling_map, .ref a_telling_places, .ref a_telling_symbols, .ref a_telling_list, .ref a_telling_present])), (a_telling_present, .inl (cZ, 256, .inl m_telling_present))] := by
  refine CT.of (cc := cX7_fieldOf) (maxL := 4) (ret := (some .int)) (by decide) rfl (Nat.le_of_ble_eq_true rfl) ?_
  intro p e s m below meth c A ls hx hb hr hml hts hown hlocks hK hA hP hD hS hl
  generalize hargs : ([.ref a_self, .int x1] : List Value).toArray = args at hts ⊢
  generalize hQ : MQ below (ctQ D (some (.int rv)) [(a_self, .inr (7, [.ref a_telling, .ref a_rounds, .ref a_tape, .ref a_order, .int m_counting, .int m_bits])), (a_telling, .inr (6, [.ref a_telling_block, .ref a_telling_map, .ref a_telling_places, .ref a_telling_symbols, .ref a_telling_list, .ref a_telling_present])), (a_telling_present, .inl (cZ, 256, .inl m_telling_present))] A) args s 0 0 A = Q
  have hl : lv_has ls 4 [(0, .ref a_self), (1, .int x1)] := hl
  have hW : WS D A s [(a_self, .inr (7, [.ref a_telling, .ref a_rounds, .ref a_tape, .ref a_order, .int m_counting, .int m_bits])), (a_telling, .inr (6, [.ref a_telling_block, .ref a_telling_map, .ref a_telling_places, .ref a_telling_symbols, .ref a_telling_list, .ref a_telling_present])), (a_telling_present, .inl (cZ, 256, .inl m_telling_present))] s.heap [] := ⟨hP, hD, hS⟩
  clear hP hD hS
  unfold fWriter_fieldOf at hF
  have hw0 := hts (Cond.fieldLink RX7 9 "MoveFronts$Writer" "telling" "LMoveFronts$Telling;") (by decide +kernel)
  have hi7 : ∀ w ∈ u_ws RX7 TX7 6, w ∈ wsX7_fieldOf := by decide +kernel
  refine lv_iconst (v := 0) hx hb dX7_fieldOf_0 (by decide) ?_
  refine lv_istore_n (lv' := [(2, .int (0 : Int32)), (0, .ref a_self), (1, .int x1)]) hx hb dX7_fieldOf_1 rfl hl (by decide) rfl (fun ls hl => ?_)
  refine lv_iconst (v := 0) hx hb dX7_fieldOf_2 (by decide) ?_
  refine lv_istore_n (lv' := [(3, .int (0 : Int32)), (2, .int (0 : Int32)), (0, .ref a_self), (1, .int x1)]) hx hb dX7_fieldOf_3 rfl hl (by decide) rfl (fun ls hl => ?_)
  obtain ⟨x2_4ze, hI, hF⟩ := bd1_some hF
  obtain ⟨nn, hI⟩ := itrO_some hI
  have hX4 : ∀ (x2_4z : Int32), x2_4z = x2_4ze → ∀ (H : Heap) (locs : List Loc), WS D A s [(a_self, .inr (7, [.ref a_telling, .ref a_rounds, .ref a_tape, .ref a_order, .int m_counting, .int m_bits])), (a_telling, .inr (6, [.ref a_telling_block, .ref a_telling_map, .ref a_telling_places, .ref a_telling_symbols, .ref a_telling_list, .ref a_telling_present])), (a_telling_present, .inl (cZ, 256, .inl m_telling_present))] H locs → ∀ ls : Array Slot, lv_has ls 4 [(2, .int x2_4z)] → W p l e (headSpec wsX7_fieldOf rmWriter_fieldOf).room s m args below meth c H locs 0 0 Q (F0 m 42 ls []) := by
    intro x2_4z he H locs hW ls hl
    subst he
    refine lv_iload_n hx hb dX7_fieldOf_42 rfl (lv_at hl 0 rfl) ?_
    cases hF
    subst hQ
    exact ct_iret hx hb hr hlocks hW.1 hW.2.2 dX7_fieldOf_43
  have hL4 : ∀ (n4 : Nat) (x2_4 : Int32) (x3_4 : Int32), itr (un2 (fWriter_fieldOf_L4 m_telling_present x1)) n4 (x2_4, x3_4) = some x2_4ze → ∀ (H : Heap) (locs : List Loc), WS D A s [(a_self, .inr (7, [.ref a_telling, .ref a_rounds, .ref a_tape, .ref a_order, .int m_counting, .int m_bits])), (a_telling, .inr (6, [.ref a_telling_block, .ref a_telling_map, .ref a_telling_places, .ref a_telling_symbols, .ref a_telling_list, .ref a_telling_present])), (a_telling_present, .inl (cZ, 256, .inl m_telling_present))] H locs → ∀ ls : Array Slot, lv_has ls 4 [(0, .ref a_self), (1, .int x1), (2, .int x2_4), (3, .int x3_4)] → W p l e (headSpec wsX7_fieldOf rmWriter_fieldOf).room s m args below meth c H locs 0 0 Q (F0 m 4 ls []) := by
    intro n4
    induction n4 with
    | zero => intro x2_4 x3_4 hI; cases hI
    | succ n4 ih4 =>
      intro x2_4 x3_4 hI H locs hW ls hl
      obtain ⟨sr4, hF, hN4⟩ := itr_succ hI
      have hF : fWriter_fieldOf_L4 m_telling_present x1 x2_4 x3_4 = some sr4 := hF
      unfold fWriter_fieldOf_L4 at hF
      refine lv_iload_n hx hb dX7_fieldOf_4 rfl (lv_at hl 3 rfl) ?_
      refine lv_bipush (v := 16) hx hb dX7_fieldOf_5 (by decide) ?_
      refine lv_icmp_ge (tgt := 42) hx hb dX7_fieldOf_7 (by decide) (fun c7 => ?_) (fun c7 => ?_)
      · rw [if_pos c7] at hF
        cases hF
        exact hX4 _ (itr_out hN4) _ _ hW _ (lv_sub hl [2] rfl)
      · rw [if_neg c7] at hF
        refine lv_iload_n hx hb dX7_fieldOf_10 rfl (lv_at hl 2 rfl) ?_
        refine lv_iconst (v := 2) hx hb dX7_fieldOf_11 (by decide) ?_
        refine lv_imul hx hb dX7_fieldOf_12 ?_
        refine lv_aload_n hx hb dX7_fieldOf_13 rfl (lv_at hl 0 rfl) ?_
        refine va_get (D := D) (ci := 7) (v := .ref a_telling) (C := RX7) (T := TX7) (N := 6) hx hb hts hi7 hown hK.1 hW.1 0 rfl rfl 0 (by decide) hw0 (fun _ h9 => h9) rfl dX7_fieldOf_14 ?_
        refine lv_iload_n hx hb dX7_fieldOf_17 rfl (lv_at hl 1 rfl) ?_
        refine lv_bipush (v := 16) hx hb dX7_fieldOf_18 (by decide) ?_
        refine lv_imul hx hb dX7_fieldOf_20 ?_
        refine lv_iload_n hx hb dX7_fieldOf_21 rfl (lv_at hl 3 rfl) ?_
        refine lv_iadd hx hb dX7_fieldOf_22 ?_
        obtain ⟨r_23, e23, hF⟩ := bd1_some hF
        refine ctV (r := (RX6, TX6, 6)) (As := [.int ((x1 * (16 : Int32)) + x3_4)]) (rest := [.int (x2_4 * (2 : Int32))]) hx hb hml hown hts hK hW.1 hW.2.1 hW.2.2 hA hl.1 (kTelling_has l D cI cZ cO cG a_telling a_telling_block a_telling_map a_telling_places a_telling_symbols a_telling_list a_telling_present m_telling_present ((x1 * (16 : Int32)) + x3_4) e23) (cwV 1 hts gX7_fieldOf_X6_has rfl rfl rfl (by decide +kernel) ⟨Nat.le_of_ble_eq_true rfl, Nat.le_of_ble_eq_true rfl⟩) 6 1 rfl rfl [1, 2] rfl rfl rfl rfl rfl (Nat.le_of_ble_eq_true rfl) rfl ⟨Nat.zero_le _, Nat.zero_le _⟩ dX7_fieldOf_23 (fun H locs hP hD hS => ?_)
        have hW : WS D A s [(a_self, .inr (7, [.ref a_telling, .ref a_rounds, .ref a_tape, .ref a_order, .int m_counting, .int m_bits])), (a_telling, .inr (6, [.ref a_telling_block, .ref a_telling_map, .ref a_telling_places, .ref a_telling_symbols, .ref a_telling_list, .ref a_telling_present])), (a_telling_present, .inl (cZ, 256, .inl m_telling_present))] H locs := ⟨hP, hD, hS⟩
        refine lv_if_eq (tgt := 33) hx hb dX7_fieldOf_26 (by decide) (fun c26 => ?_) (fun c26 => ?_)
        · rw [if_pos c26] at hF
          refine lv_iconst (v := 0) hx hb dX7_fieldOf_33 (by decide) ?_
          refine lv_iadd hx hb dX7_fieldOf_34 ?_
          refine lv_istore_n (lv' := [(2, .int ((x2_4 * (2 : Int32)) + (0 : Int32))), (0, .ref a_self), (1, .int x1), (3, .int x3_4)]) hx hb dX7_fieldOf_35 rfl hl (by decide) rfl (fun ls hl => ?_)
          refine lv_iinc (v := (x3_4 + 1)) (lv' := [(3, .int (x3_4 + 1)), (2, .int ((x2_4 * (2 : Int32)) + (0 : Int32))), (0, .ref a_self), (1, .int x1)]) hx hb dX7_fieldOf_36 hl (k := 3) rfl rfl (by decide) rfl (fun ls hl => ?_)
          refine lv_goto (tgt := 4) hx hb dX7_fieldOf_39 (by decide) ?_
          cases hF
          exact ih4 _ _ (itr_in hN4) _ _ hW _ (lv_sub hl [2, 3, 1, 0] rfl)
        · rw [if_neg c26] at hF
          refine lv_iconst (v := 1) hx hb dX7_fieldOf_29 (by decide) ?_
          refine lv_goto (tgt := 34) hx hb dX7_fieldOf_30 (by decide) ?_
          refine lv_iadd hx hb dX7_fieldOf_34 ?_
          refine lv_istore_n (lv' := [(2, .int ((x2_4 * (2 : Int32)) + (1 : Int32))), (0, .ref a_self), (1, .int x1), (3, .int x3_4)]) hx hb dX7_fieldOf_35 rfl hl (by decide) rfl (fun ls hl => ?_)
          refine lv_iinc (v := (x3_4 + 1)) (lv' := [(3, .int (x3_4 + 1)), (2, .int ((x2_4 * (2 : Int32)) + (1 : Int32))), (0, .ref a_self), (1, .int x1)]) hx hb dX7_fieldOf_36 hl (k := 3) rfl rfl (by decide) rfl (fun ls hl => ?_)
          refine lv_goto (tgt := 4) hx hb dX7_fieldOf_39 (by decide) ?_
          cases hF
          exact ih4 _ _ (itr_in hN4) _ _ hW _ (lv_sub hl [2, 3, 1, 0] rfl)
  exact hL4 nn _ _ hI _ _ hW _ (lv_sub hl [2, 3, 1, 0] rfl)
abbrev rmWriter_putMap : Room := { frames := 3, cells := 0, slots := 0, locals := 65 }
set_option maxHeartbeats 4000000 in
set_option maxRecDepth 100000 in
theorem kWriter_putMap (l : Launch) (D : va_G) (cI cZ cO cG : ClassId) (a_self : Nat) (a_telling : Nat) (a_rounds : Nat) (a_tape : Nat) (a_order : Nat) (a_telling_block : Nat) (a_telling_map : Nat) (a_telling_places : Nat) (a_telling_symbols : Nat) (a_telling_list : Nat) (a_telling_present : Nat) (a_tape_values : Nat) (m_counting : Int32) (m_bits : Int32) (m_telling_present : Nat → Int32) (m_tape_count : Int32) (m_tape_values : Nat → Int32) {m_bits' : Int32} {m_tape_count' : Int32} {m_tape_values' : Nat → Int32} (hF : fWriter_putMap m_counting m_bits m_telling_present m_tape_count m_tape_values = some (m_bits', m_tape_count', m_tape_values')) : CT l yX7_putMap wsX7_putMap rmWriter_putMap D (tysG cI cZ cO cG) [.ref a_self] [(a_self, .inr (7, [.ref a_telling, .ref a_rounds, .ref a_tape, .ref a_order, .int m_counting, .int m_bits])), (a_telling, .inr (6, [.ref a_telling_block, .ref a_telling_map, .ref a_telling_places, .ref a_telling_symbols, .ref a_telling_list, .ref a_telling_present])), (a_telling_present, .inl (cZ, 256, .inl m_telling_present)), (a_tape, .inr (5, [.ref a_tape_values, .int m_tape_count])), (a_tape_values, .inl (cI, 1500, .inl m_tape_values))] none [(a_self, .inr (7, [.ref a_telling, .ref a_rounds, .ref a_tape, .ref a_order, .int m_counting, .int m_bits'])), (a_telling, .inr (6, [.ref a_telling_block, .ref a_telling_map, .ref a_telling_places, .ref a_telling_symbols, .ref a_telling_list, .ref a_telling_present])), (a_telling_present, .inl (cZ, 256, .inl m_telling_present)), (a_tape, .inr (5, [.ref a_tape_values, .int m_tape_count'])), (a_tape_values, .inl (cI, 1500, .inl m_tape_values'))] := by
  refine CT.of (cc := cX7_putMap) (maxL := 3) (ret := none) (by decide) rfl (Nat.le_of_ble_eq_true rfl) ?_
  intro p e s m below meth c A ls hx hb hr hml hts hown hlocks hK hA hP hD hS hl
  generalize hargs : ([.ref a_self] : List Value).toArray = args at hts ⊢
  generalize hQ : MQ below (ctQ D none [(a_self, .inr (7, [.ref a_telling, .ref a_rounds, .ref a_tape, .ref a_order, .int m_counting, .int m_bits'])), (a_telling, .inr (6, [.ref a_telling_block, .ref a_telling_map, .ref a_telling_places, .ref a_telling_symbols, .ref a_telling_list, .ref a_telling_present])), (a_telling_present, .inl (cZ, 256, .inl m_telling_present)), (a_tape, .inr (5, [.ref a_tape_values, .int m_tape_count'])), (a_tape_values, .inl (cI, 1500, .inl m_tape_values'))] A) args s 0 0 A = Q
  have hl : lv_has ls 3 [(0, .ref a_self)] := hl
  have hW : WS D A s [(a_self, .inr (7, [.ref a_telling, .ref a_rounds, .ref a_tape, .ref a_order, .int m_counting, .int m_bits])), (a_telling, .inr (6, [.ref a_telling_block, .ref a_telling_map, .ref a_telling_places, .ref a_telling_symbols, .ref a_telling_list, .ref a_telling_present])), (a_telling_present, .inl (cZ, 256, .inl m_telling_present)), (a_tape, .inr (5, [.ref a_tape_values, .int m_tape_count])), (a_tape_values, .inl (cI, 1500, .inl m_tape_values))] s.heap [] := ⟨hP, hD, hS⟩
  clear hP hD hS
  unfold fWriter_putMap at hF
  refine lv_iconst (v := 0) hx hb dX7_putMap_0 (by decide) ?_
  refine lv_istore_n (lv' := [(1, .int (0 : Int32)), (0, .ref a_self)]) hx hb dX7_putMap_1 rfl hl (by decide) rfl (fun ls hl => ?_)
  obtain ⟨m_bits_2ze, m_tape_count_2ze, m_tape_values_2ze, hI, hF⟩ := bd3_some hF
  obtain ⟨nn, hI⟩ := itrO_some hI
  have hX2 : ∀ (m_bits_2z : Int32) (m_tape_count_2z : Int32) (m_tape_values_2z : Nat → Int32), (m_bits_2z, m_tape_count_2z, m_tape_values_2z) = (m_bits_2ze, m_tape_count_2ze, m_tape_values_2ze) → ∀ (H : Heap) (locs : List Loc), WS D A s [(a_self, .inr (7, [.ref a_telling, .ref a_rounds, .ref a_tape, .ref a_order, .int m_counting, .int m_bits_2z])), (a_telling, .inr (6, [.ref a_telling_block, .ref a_telling_map, .ref a_telling_places, .ref a_telling_symbols, .ref a_telling_list, .ref a_telling_present])), (a_telling_present, .inl (cZ, 256, .inl m_telling_present)), (a_tape, .inr (5, [.ref a_tape_values, .int m_tape_count_2z])), (a_tape_values, .inl (cI, 1500, .inl m_tape_values_2z))] H locs → ∀ ls : Array Slot, lv_has ls 3 [(0, .ref a_self)] → W p l e (headSpec wsX7_putMap rmWriter_putMap).room s m args below meth c H locs 0 0 Q (F0 m 31 ls []) := by
    intro m_bits_2z m_tape_count_2z m_tape_values_2z he H locs hW ls hl
    obtain ⟨hz0, hy0⟩ := Prod.mk.inj he
    obtain ⟨hz1, hy1⟩ := Prod.mk.inj hy0
    subst hz0
    subst hz1
    subst hy1
    refine lv_iconst (v := 0) hx hb dX7_putMap_31 (by decide) ?_
    refine lv_istore_n (lv' := [(1, .int (0 : Int32)), (0, .ref a_self)]) hx hb dX7_putMap_32 rfl hl (by decide) rfl (fun ls hl => ?_)
    obtain ⟨m_bits_33ze, m_tape_count_33ze, m_tape_values_33ze, hI, hF⟩ := bd3_some hF
    obtain ⟨nn, hI⟩ := itrO_some hI
    have hX33 : ∀ (m_bits_33z : Int32) (m_tape_count_33z : Int32) (m_tape_values_33z : Nat → Int32), (m_bits_33z, m_tape_count_33z, m_tape_values_33z) = (m_bits_33ze, m_tape_count_33ze, m_tape_values_33ze) → ∀ (H : Heap) (locs : List Loc), WS D A s [(a_self, .inr (7, [.ref a_telling, .ref a_rounds, .ref a_tape, .ref a_order, .int m_counting, .int m_bits_33z])), (a_telling, .inr (6, [.ref a_telling_block, .ref a_telling_map, .ref a_telling_places, .ref a_telling_symbols, .ref a_telling_list, .ref a_telling_present])), (a_telling_present, .inl (cZ, 256, .inl m_telling_present)), (a_tape, .inr (5, [.ref a_tape_values, .int m_tape_count_33z])), (a_tape_values, .inl (cI, 1500, .inl m_tape_values_33z))] H locs → ∀ ls : Array Slot, lv_has ls 3 [] → W p l e (headSpec wsX7_putMap rmWriter_putMap).room s m args below meth c H locs 0 0 Q (F0 m 62 ls []) := by
      intro m_bits_33z m_tape_count_33z m_tape_values_33z he H locs hW ls hl
      obtain ⟨hz0, hy0⟩ := Prod.mk.inj he
      obtain ⟨hz1, hy1⟩ := Prod.mk.inj hy0
      subst hz0
      subst hz1
      subst hy1
      cases hF
      subst hQ
      exact ct_vret hx hb hr hlocks hW.1 hW.2.2 dX7_putMap_62
    have hL33 : ∀ (n33 : Nat) (x1_33 : Int32) (m_bits_33 : Int32) (m_tape_count_33 : Int32) (m_tape_values_33 : Nat → Int32), itr (un4 (fWriter_putMap_L33 m_counting m_telling_present)) n33 (x1_33, m_bits_33, m_tape_count_33, m_tape_values_33) = some (m_bits_33ze, m_tape_count_33ze, m_tape_values_33ze) → ∀ (H : Heap) (locs : List Loc), WS D A s [(a_self, .inr (7, [.ref a_telling, .ref a_rounds, .ref a_tape, .ref a_order, .int m_counting, .int m_bits_33])), (a_telling, .inr (6, [.ref a_telling_block, .ref a_telling_map, .ref a_telling_places, .ref a_telling_symbols, .ref a_telling_list, .ref a_telling_present])), (a_telling_present, .inl (cZ, 256, .inl m_telling_present)), (a_tape, .inr (5, [.ref a_tape_values, .int m_tape_count_33])), (a_tape_values, .inl (cI, 1500, .inl m_tape_values_33))] H locs → ∀ ls : Array Slot, lv_has ls 3 [(0, .ref a_self), (1, .int x1_33)] → W p l e (headSpec wsX7_putMap rmWriter_putMap).room s m args below meth c H locs 0 0 Q (F0 m 33 ls []) := by
      intro n33
      induction n33 with
      | zero => intro x1_33 m_bits_33 m_tape_count_33 m_tape_values_33 hI; cases hI
      | succ n33 ih33 =>
        intro x1_33 m_bits_33 m_tape_count_33 m_tape_values_33 hI H locs hW ls hl
        obtain ⟨sr33, hF, hN33⟩ := itr_succ hI
        have hF : fWriter_putMap_L33 m_counting m_telling_present x1_33 m_bits_33 m_tape_count_33 m_tape_values_33 = some sr33 := hF
        unfold fWriter_putMap_L33 at hF
        refine lv_iload_n hx hb dX7_putMap_33 rfl (lv_at hl 1 rfl) ?_
        refine lv_bipush (v := 16) hx hb dX7_putMap_34 (by decide) ?_
        refine lv_icmp_ge (tgt := 62) hx hb dX7_putMap_36 (by decide) (fun c36 => ?_) (fun c36 => ?_)
        · rw [if_pos c36] at hF
          cases hF
          exact hX33 _ _ _ (itr_out hN33) _ _ hW _ (lv_sub hl [] rfl)
        · rw [if_neg c36] at hF
          refine lv_aload_n hx hb dX7_putMap_39 rfl (lv_at hl 0 rfl) ?_
          refine lv_iload_n hx hb dX7_putMap_40 rfl (lv_at hl 1 rfl) ?_
          obtain ⟨r_41, e41, hF⟩ := bd1_some hF
          refine ctV (r := (RX7, TX7, 6)) (As := [.int x1_33]) (rest := []) hx hb hml hown hts hK hW.1 hW.2.1 hW.2.2 hA hl.1 (kWriter_fieldOf l D cI cZ cO cG a_self a_telling a_rounds a_tape a_order a_telling_block a_telling_map a_telling_places a_telling_symbols a_telling_list a_telling_present m_counting m_bits_33 m_telling_present x1_33 e41) (cwV 1 hts gX7_putMap_X7_fieldOf rfl rfl rfl (by decide +kernel) ⟨Nat.le_of_ble_eq_true rfl, Nat.le_of_ble_eq_true rfl⟩) 7 0 rfl rfl [0, 1, 2] rfl rfl rfl rfl rfl (Nat.le_of_ble_eq_true rfl) rfl ⟨Nat.zero_le _, Nat.zero_le _⟩ dX7_putMap_41 (fun H locs hP hD hS => ?_)
          have hW : WS D A s [(a_self, .inr (7, [.ref a_telling, .ref a_rounds, .ref a_tape, .ref a_order, .int m_counting, .int m_bits_33])), (a_telling, .inr (6, [.ref a_telling_block, .ref a_telling_map, .ref a_telling_places, .ref a_telling_symbols, .ref a_telling_list, .ref a_telling_present])), (a_telling_present, .inl (cZ, 256, .inl m_telling_present)), (a_tape, .inr (5, [.ref a_tape_values, .int m_tape_count_33])), (a_tape_values, .inl (cI, 1500, .inl m_tape_values_33))] H locs := ⟨hP, hD, hS⟩
          refine lv_istore_n (lv' := [(2, .int r_41), (0, .ref a_self), (1, .int x1_33)]) hx hb dX7_putMap_44 rfl hl (by decide) rfl (fun ls hl => ?_)
          refine lv_iload_n hx hb dX7_putMap_45 rfl (lv_at hl 0 rfl) ?_
          refine lv_if_eq (tgt := 56) hx hb dX7_putMap_46 (by decide) (fun c46 => ?_) (fun c46 => ?_)
          · rw [if_pos c46] at hF
            refine lv_iinc (v := (x1_33 + 1)) (lv' := [(1, .int (x1_33 + 1)), (2, .int r_41), (0, .ref a_self)]) hx hb dX7_putMap_56 hl (k := 2) rfl rfl (by decide) rfl (fun ls hl => ?_)
            refine lv_goto (tgt := 33) hx hb dX7_putMap_59 (by decide) ?_
            cases hF
            exact ih33 _ _ _ _ (itr_in hN33) _ _ hW _ (lv_sub hl [2, 0] rfl)
          · rw [if_neg c46] at hF
            refine lv_aload_n hx hb dX7_putMap_49 rfl (lv_at hl 1 rfl) ?_
            refine lv_iload_n hx hb dX7_putMap_50 rfl (lv_at hl 0 rfl) ?_
            refine lv_bipush (v := 16) hx hb dX7_putMap_51 (by decide) ?_
            obtain ⟨m_bits_53, m_tape_count_53, m_tape_values_53, e53, hF⟩ := bd3_some hF
            refine ctV (r := (RX7, TX7, 6)) (As := [.int r_41, .int (16 : Int32)]) (rest := []) hx hb hml hown hts hK hW.1 hW.2.1 hW.2.2 hA hl.1 (kWriter_putNumber l D cI cZ cO cG a_self a_telling a_rounds a_tape a_order a_tape_values m_counting m_bits_33 m_tape_count_33 m_tape_values_33 r_41 (16 : Int32) e53) (cwV 2 hts gX7_putMap_X7_putNumber rfl rfl rfl (by decide +kernel) ⟨Nat.le_of_ble_eq_true rfl, Nat.le_of_ble_eq_true rfl⟩) 7 0 rfl rfl [0, 3, 4] rfl rfl rfl rfl rfl (Nat.le_of_ble_eq_true rfl) rfl ⟨Nat.zero_le _, Nat.zero_le _⟩ dX7_putMap_53 (fun H locs hP hD hS => ?_)
            have hW : WS D A s [(a_self, .inr (7, [.ref a_telling, .ref a_rounds, .ref a_tape, .ref a_order, .int m_counting, .int m_bits_53])), (a_telling, .inr (6, [.ref a_telling_block, .ref a_telling_map, .ref a_telling_places, .ref a_telling_symbols, .ref a_telling_list, .ref a_telling_present])), (a_telling_present, .inl (cZ, 256, .inl m_telling_present)), (a_tape, .inr (5, [.ref a_tape_values, .int m_tape_count_53])), (a_tape_values, .inl (cI, 1500, .inl m_tape_values_53))] H locs := ⟨hP, hD, hS⟩
            refine lv_iinc (v := (x1_33 + 1)) (lv' := [(1, .int (x1_33 + 1)), (2, .int r_41), (0, .ref a_self)]) hx hb dX7_putMap_56 hl (k := 2) rfl rfl (by decide) rfl (fun ls hl => ?_)
            refine lv_goto (tgt := 33) hx hb dX7_putMap_59 (by decide) ?_
            cases hF
            exact ih33 _ _ _ _ (itr_in hN33) _ _ hW _ (lv_sub hl [2, 0] rfl)
    exact hL33 nn _ _ _ _ hI _ _ hW _ (lv_sub hl [1, 0] rfl)
  have hL2 : ∀ (n2 : Nat) (x1_2 : Int32) (m_bits_2 : Int32) (m_tape_count_2 : Int32) (m_tape_values_2 : Nat → Int32), itr (un4 (fWriter_putMap_L2 m_counting m_telling_present)) n2 (x1_2, m_bits_2, m_tape_count_2, m_tape_values_2) = some (m_bits_2ze, m_tape_count_2ze, m_tape_values_2ze) → ∀ (H : Heap) (locs : List Loc), WS D A s [(a_self, .inr (7, [.ref a_telling, .ref a_rounds, .ref a_tape, .ref a_order, .int m_counting, .int m_bits_2])), (a_telling, .inr (6, [.ref a_telling_block, .ref a_telling_map, .ref a_telling_places, .ref a_telling_symbols, .ref a_telling_list, .ref a_telling_present])), (a_telling_present, .inl (cZ, 256, .inl m_telling_present)), (a_tape, .inr (5, [.ref a_tape_values, .int m_tape_count_2])), (a_tape_values, .inl (cI, 1500, .inl m_tape_values_2))] H locs → ∀ ls : Array Slot, lv_has ls 3 [(0, .ref a_self), (1, .int x1_2)] → W p l e (headSpec wsX7_putMap rmWriter_putMap).room s m args below meth c H locs 0 0 Q (F0 m 2 ls []) := by
    intro n2
    induction n2 with
    | zero => intro x1_2 m_bits_2 m_tape_count_2 m_tape_values_2 hI; cases hI
    | succ n2 ih2 =>
      intro x1_2 m_bits_2 m_tape_count_2 m_tape_values_2 hI H locs hW ls hl
      obtain ⟨sr2, hF, hN2⟩ := itr_succ hI
      have hF : fWriter_putMap_L2 m_counting m_telling_present x1_2 m_bits_2 m_tape_count_2 m_tape_values_2 = some sr2 := hF
      unfold fWriter_putMap_L2 at hF
      refine lv_iload_n hx hb dX7_putMap_2 rfl (lv_at hl 1 rfl) ?_
      refine lv_bipush (v := 16) hx hb dX7_putMap_3 (by decide) ?_
      refine lv_icmp_ge (tgt := 31) hx hb dX7_putMap_5 (by decide) (fun c5 => ?_) (fun c5 => ?_)
      · rw [if_pos c5] at hF
        cases hF
        exact hX2 _ _ _ (itr_out hN2) _ _ hW _ (lv_sub hl [0] rfl)
      · rw [if_neg c5] at hF
        refine lv_aload_n hx hb dX7_putMap_8 rfl (lv_at hl 0 rfl) ?_
        refine lv_aload_n hx hb dX7_putMap_9 rfl (lv_at hl 0 rfl) ?_
        refine lv_iload_n hx hb dX7_putMap_10 rfl (lv_at hl 1 rfl) ?_
        obtain ⟨r_11, e11, hF⟩ := bd1_some hF
        refine ctV (r := (RX7, TX7, 6)) (As := [.int x1_2]) (rest := [.ref a_self]) hx hb hml hown hts hK hW.1 hW.2.1 hW.2.2 hA hl.1 (kWriter_fieldOf l D cI cZ cO cG a_self a_telling a_rounds a_tape a_order a_telling_block a_telling_map a_telling_places a_telling_symbols a_telling_list a_telling_present m_counting m_bits_2 m_telling_present x1_2 e11) (cwV 1 hts gX7_putMap_X7_fieldOf rfl rfl rfl (by decide +kernel) ⟨Nat.le_of_ble_eq_true rfl, Nat.le_of_ble_eq_true rfl⟩) 7 0 rfl rfl [0, 1, 2] rfl rfl rfl rfl rfl (Nat.le_of_ble_eq_true rfl) rfl ⟨Nat.zero_le _, Nat.zero_le _⟩ dX7_putMap_11 (fun H locs hP hD hS => ?_)
        have hW : WS D A s [(a_self, .inr (7, [.ref a_telling, .ref a_rounds, .ref a_tape, .ref a_order, .int m_counting, .int m_bits_2])), (a_telling, .inr (6, [.ref a_telling_block, .ref a_telling_map, .ref a_telling_places, .ref a_telling_symbols, .ref a_telling_list, .ref a_telling_present])), (a_telling_present, .inl (cZ, 256, .inl m_telling_present)), (a_tape, .inr (5, [.ref a_tape_values, .int m_tape_count_2])), (a_tape_values, .inl (cI, 1500, .inl m_tape_values_2))] H locs := ⟨hP, hD, hS⟩
        refine lv_if_ne (tgt := 21) hx hb dX7_putMap_14 (by decide) (fun c14 => ?_) (fun c14 => ?_)
        · rw [if_neg c14] at hF
          refine lv_iconst (v := 1) hx hb dX7_putMap_21 (by decide) ?_
          obtain ⟨m_bits_22, m_tape_count_22, m_tape_values_22, e22, hF⟩ := bd3_some hF
          refine ctV (r := (RX7, TX7, 6)) (As := [.int (1 : Int32)]) (rest := []) hx hb hml hown hts hK hW.1 hW.2.1 hW.2.2 hA hl.1 (kWriter_put l D cI cZ cO cG a_self a_telling a_rounds a_tape a_order a_tape_values m_counting m_bits_2 m_tape_count_2 m_tape_values_2 (1 : Int32) e22) (cwV 1 hts gX7_putMap_X7_put rfl rfl rfl (by decide +kernel) ⟨Nat.le_of_ble_eq_true rfl, Nat.le_of_ble_eq_true rfl⟩) 7 0 rfl rfl [0, 3, 4] rfl rfl rfl rfl rfl (Nat.le_of_ble_eq_true rfl) rfl ⟨Nat.zero_le _, Nat.zero_le _⟩ dX7_putMap_22 (fun H locs hP hD hS => ?_)
          have hW : WS D A s [(a_self, .inr (7, [.ref a_telling, .ref a_rounds, .ref a_tape, .ref a_order, .int m_counting, .int m_bits_22])), (a_telling, .inr (6, [.ref a_telling_block, .ref a_telling_map, .ref a_telling_places, .ref a_telling_symbols, .ref a_telling_list, .ref a_telling_present])), (a_telling_present, .inl (cZ, 256, .inl m_telling_present)), (a_tape, .inr (5, [.ref a_tape_values, .int m_tape_count_22])), (a_tape_values, .inl (cI, 1500, .inl m_tape_values_22))] H locs := ⟨hP, hD, hS⟩
          refine lv_iinc (v := (x1_2 + 1)) (lv' := [(1, .int (x1_2 + 1)), (0, .ref a_self)]) hx hb dX7_putMap_25 hl (k := 1) rfl rfl (by decide) rfl (fun ls hl => ?_)
          refine lv_goto (tgt := 2) hx hb dX7_putMap_28 (by decide) ?_
          cases hF
          exact ih2 _ _ _ _ (itr_in hN2) _ _ hW _ (lv_sub hl [1, 0] rfl)
        · rw [if_pos c14] at hF
          refine lv_iconst (v := 0) hx hb dX7_putMap_17 (by decide) ?_
          refine lv_goto (tgt := 22) hx hb dX7_putMap_18 (by decide) ?_
          obtain ⟨m_bits_22, m_tape_count_22, m_tape_values_22, e22, hF⟩ := bd3_some hF
          refine ctV (r := (RX7, TX7, 6)) (As := [.int (0 : Int32)]) (rest := []) hx hb hml hown hts hK hW.1 hW.2.1 hW.2.2 hA hl.1 (kWriter_put l D cI cZ cO cG a_self a_telling a_rounds a_tape a_order a_tape_values m_counting m_bits_2 m_tape_count_2 m_tape_values_2 (0 : Int32) e22) (cwV 1 hts gX7_putMap_X7_put rfl rfl rfl (by decide +kernel) ⟨Nat.le_of_ble_eq_true rfl, Nat.le_of_ble_eq_true rfl⟩) 7 0 rfl rfl [0, 3, 4] rfl rfl rfl rfl rfl (Nat.le_of_ble_eq_true rfl) rfl ⟨Nat.zero_le _, Nat.zero_le _⟩ dX7_putMap_22 (fun H locs hP hD hS => ?_)
          have hW : WS D A s [(a_self, .inr (7, [.ref a_telling, .ref a_rounds, .ref a_tape, .ref a_order, .int m_counting, .int m_bits_22])), (a_telling, .inr (6, [.ref a_telling_block, .ref a_telling_map, .ref a_telling_places, .ref a_telling_symbols, .ref a_telling_list, .ref a_telling_present])), (a_telling_present, .inl (cZ, 256, .inl m_telling_present)), (a_tape, .inr (5, [.ref a_tape_values, .int m_tape_count_22])), (a_tape_values, .inl (cI, 1500, .inl m_tape_values_22))] H locs := ⟨hP, hD, hS⟩
          refine lv_iinc (v := (x1_2 + 1)) (lv' := [(1, .int (x1_2 + 1)), (0, .ref a_self)]) hx hb dX7_putMap_25 hl (k := 1) rfl rfl (by decide) rfl (fun ls hl => ?_)
          refine lv_goto (tgt := 2) hx hb dX7_putMap_28 (by decide) ?_
          cases hF
          exact ih2 _ _ _ _ (itr_in hN2) _ _ hW _ (lv_sub hl [1, 0] rfl)
  exact hL2 nn _ _ _ _ hI _ _ hW _ (lv_sub hl [1, 0] rfl)
