abbrev rmMF_more : Room := { frames := 1, cells := 0, slots := 0, locals := 21 }
set_option maxHeartbeats 4000000 in
set_option maxRecDepth 100000 in
theorem kMF_more (l : Launch) (D : va_G) (cI cZ cO cG : ClassId) (a_self : Nat) (a_block : Nat) (a_tape : Nat) (a_telling : Nat) (a_rounds : Nat) (a_writer : Nat) (a_reader : Nat) (a_tape_values : Nat) (m_symbolsKnown : Int32) (m_roundsKnown : Int32) (m_tape_count : Int32) (m_tape_values : Nat → Int32) (x1 : Int32) {rv : Int32} {m_tape_count' : Int32} {m_tape_values' : Nat → Int32} (hF : fMF_more m_tape_count m_tape_values x1 = some (rv, m_tape_count', m_tape_values')) : CT l yX8_more wsX8_more rmMF_more D (tysG cI cZ cO cG) [.ref a_self, .int x1] [ob a_self 8 [Value.ref a_block, Value.ref a_tape, Value.ref a_telling, Value.ref a_rounds, Value.ref a_writer, Value.ref a_reader, Value.int m_symbolsKnown, Value.int m_roundsKnown], ob a_tape 5 [Value.ref a_tape_values, Value.int m_tape_count], ia cI a_tape_values 1500 m_tape_values] (some (.int rv)) [ob a_self 8 [Value.ref a_block, Value.ref a_tape, Value.ref a_telling, Value.ref a_rounds, Value.ref a_writer, Value.ref a_reader, Value.int m_symbolsKnown, Value.int m_roundsKnown], ob a_tape 5 [Value.ref a_tape_values, Value.int m_tape_count'], ia cI a_tape_values 1500 m_tape_values'] := by
  refine CT.of (cc := cX8_more) (maxL := 2) (ret := (some .int)) (by decide) rfl (Nat.le_of_ble_eq_true rfl) ?_
  intro p e s m below meth c A ls hx hb hr hml hts hown hlocks hK hA hP hD hS hl
  generalize hargs : ([.ref a_self, .int x1] : List Value).toArray = args at hts ⊢
  generalize hQ : MQ below (ctQ D (some (.int rv)) [ob a_self 8 [Value.ref a_block, Value.ref a_tape, Value.ref a_telling, Value.ref a_rounds, Value.ref a_writer, Value.ref a_reader, Value.int m_symbolsKnown, Value.int m_roundsKnown], ob a_tape 5 [Value.ref a_tape_values, Value.int m_tape_count'], ia cI a_tape_values 1500 m_tape_values'] A) args s 0 0 A = Q
  have hl : lv_has ls 2 [(0, .ref a_self), (1, .int x1)] := hl
  have hW : WS D A s [ob a_self 8 [Value.ref a_block, Value.ref a_tape, Value.ref a_telling, Value.ref a_rounds, Value.ref a_writer, Value.ref a_reader, Value.int m_symbolsKnown, Value.int m_roundsKnown], ob a_tape 5 [Value.ref a_tape_values, Value.int m_tape_count], ia cI a_tape_values 1500 m_tape_values] s.heap [] := ⟨hP, hD, hS⟩
  clear hP hD hS
  unfold fMF_more at hF
  have hw0 := hts (Cond.fieldLink RX8 18 "MoveFronts" "tape" "LMoveFronts$Row;") (by decide +kernel)
  have hi8 : ∀ w ∈ u_ws RX8 TX8 8, w ∈ wsX8_more := by decide +kernel
  have hJ26 : ∀ (m_tape_count_26 : Int32) (m_tape_values_26 : Nat → Int32) (t1_26 : Int32), fMF_more_J26 m_tape_count_26 m_tape_values_26 t1_26 = some (rv, m_tape_count', m_tape_values') → ∀ (H : Heap) (locs : List Loc), WS D A s [ob a_self 8 [Value.ref a_block, Value.ref a_tape, Value.ref a_telling, Value.ref a_rounds, Value.ref a_writer, Value.ref a_reader, Value.int m_symbolsKnown, Value.int m_roundsKnown], ob a_tape 5 [Value.ref a_tape_values, Value.int m_tape_count_26], ia cI a_tape_values 1500 m_tape_values_26] H locs → ∀ ls : Array Slot, lv_has ls 2 [(0, .ref a_self)] → W p l e (headSpec wsX8_more rmMF_more).room s m args below meth c H locs 0 0 Q (F0 m 26 ls [.int t1_26, .ref a_tape]) := by
    intro m_tape_count_26 m_tape_values_26 t1_26 hF H locs hW ls hl
    unfold fMF_more_J26 at hF
    obtain ⟨m_count_26, m_values_26, e26, hF⟩ := bd2_some hF
    refine ctV (wn := [ob a_self 8 [Value.ref a_block, Value.ref a_tape, Value.ref a_telling, Value.ref a_rounds, Value.ref a_writer, Value.ref a_reader, Value.int m_symbolsKnown, Value.int m_roundsKnown], ob a_tape 5 [Value.ref a_tape_values, Value.int m_count_26], ia cI a_tape_values 1500 m_values_26]) (r := (RX5, TX5, 2)) (As := [.int t1_26]) (rest := []) hx hb hml hown hts hK hW hA hl.1 (kRow_add l D cI cZ cO cG a_tape a_tape_values 1500 m_tape_count_26 m_tape_values_26 t1_26 e26) (cwV 1 hts gX8_more_X5_add rfl rfl rfl (by decide +kernel) ⟨Nat.le_of_ble_eq_true rfl, Nat.le_of_ble_eq_true rfl⟩) 5 1 rfl rfl [1, 2] [0] 3 rfl rfl rfl rfl [ob a_self 8 [Value.ref a_block, Value.ref a_tape, Value.ref a_telling, Value.ref a_rounds, Value.ref a_writer, Value.ref a_reader, Value.int m_symbolsKnown, Value.int m_roundsKnown]] rfl rfl rfl rfl rfl (Nat.le_of_ble_eq_true rfl) rfl ⟨Nat.zero_le _, Nat.zero_le _⟩ dX8_more_26 (fun H locs hW => ?_)
    refine lv_aload_n hx hb dX8_more_29 rfl (lv_at hl 0 rfl) ?_
    refine va_get (D := D) (ci := 8) (v := .ref a_tape) (C := RX8) (T := TX8) (N := 8) hx hb hts hi8 hown hK.1 hW.1 0 rfl rfl 1 (by decide) hw0 (fun _ h9 => h9) rfl dX8_more_30 ?_
    obtain ⟨r_33, e33, hF⟩ := bd1_some hF
    refine ctV (wn := [ob a_self 8 [Value.ref a_block, Value.ref a_tape, Value.ref a_telling, Value.ref a_rounds, Value.ref a_writer, Value.ref a_reader, Value.int m_symbolsKnown, Value.int m_roundsKnown], ob a_tape 5 [Value.ref a_tape_values, Value.int m_count_26], ia cI a_tape_values 1500 m_values_26]) (r := (RX5, TX5, 2)) (As := []) (rest := []) hx hb hml hown hts hK hW hA hl.1 (kRow_size l D cI cZ cO cG a_tape a_tape_values m_count_26 e33) (cwV 0 hts gX8_more_X5_size rfl rfl rfl (by decide +kernel) ⟨Nat.le_of_ble_eq_true rfl, Nat.le_of_ble_eq_true rfl⟩) 5 1 rfl rfl [1] [0, 2] 3 rfl rfl rfl rfl [ob a_self 8 [Value.ref a_block, Value.ref a_tape, Value.ref a_telling, Value.ref a_rounds, Value.ref a_writer, Value.ref a_reader, Value.int m_symbolsKnown, Value.int m_roundsKnown], ia cI a_tape_values 1500 m_values_26] rfl rfl rfl rfl rfl (Nat.le_of_ble_eq_true rfl) rfl ⟨Nat.zero_le _, Nat.zero_le _⟩ dX8_more_33 (fun H locs hW => ?_)
    cases hF
    subst hQ
    exact ct_iret hx hb hr hlocks hW.1 hW.2.2 dX8_more_36
  refine lv_aload_n hx hb dX8_more_0 rfl (lv_at hl 0 rfl) ?_
  refine va_get (D := D) (ci := 8) (v := .ref a_tape) (C := RX8) (T := TX8) (N := 8) hx hb hts hi8 hown hK.1 hW.1 0 rfl rfl 1 (by decide) hw0 (fun _ h9 => h9) rfl dX8_more_1 ?_
  obtain ⟨r_4, e4, hF⟩ := bd1_some hF
  refine ctV (wn := [ob a_self 8 [Value.ref a_block, Value.ref a_tape, Value.ref a_telling, Value.ref a_rounds, Value.ref a_writer, Value.ref a_reader, Value.int m_symbolsKnown, Value.int m_roundsKnown], ob a_tape 5 [Value.ref a_tape_values, Value.int m_tape_count], ia cI a_tape_values 1500 m_tape_values]) (r := (RX5, TX5, 2)) (As := []) (rest := []) hx hb hml hown hts hK hW hA hl.1 (kRow_isFull l D cI cZ cO cG a_tape a_tape_values 1500 m_tape_count m_tape_values e4) (cwV 0 hts gX8_more_X5_isFull rfl rfl rfl (by decide +kernel) ⟨Nat.le_of_ble_eq_true rfl, Nat.le_of_ble_eq_true rfl⟩) 5 1 rfl rfl [1, 2] [0] 3 rfl rfl rfl rfl [ob a_self 8 [Value.ref a_block, Value.ref a_tape, Value.ref a_telling, Value.ref a_rounds, Value.ref a_writer, Value.ref a_reader, Value.int m_symbolsKnown, Value.int m_roundsKnown]] rfl rfl rfl rfl rfl (Nat.le_of_ble_eq_true rfl) rfl ⟨Nat.zero_le _, Nat.zero_le _⟩ dX8_more_4 (fun H locs hW => ?_)
  refine lv_if_eq (tgt := 13) hx hb dX8_more_7 (by decide) (fun c7 => ?_) (fun c7 => ?_)
  · rw [if_pos c7] at hF
    refine lv_aload_n hx hb dX8_more_13 rfl (lv_at hl 0 rfl) ?_
    refine va_get (D := D) (ci := 8) (v := .ref a_tape) (C := RX8) (T := TX8) (N := 8) hx hb hts hi8 hown hK.1 hW.1 0 rfl rfl 1 (by decide) hw0 (fun _ h9 => h9) rfl dX8_more_14 ?_
    refine lv_iload_n hx hb dX8_more_17 rfl (lv_at hl 1 rfl) ?_
    refine lv_if_eq (tgt := 25) hx hb dX8_more_18 (by decide) (fun c18 => ?_) (fun c18 => ?_)
    · rw [if_pos c18] at hF
      refine lv_iconst (v := 0) hx hb dX8_more_25 (by decide) ?_
      exact hJ26 _ _ _ hF _ _ hW _ (lv_sub hl [0] rfl)
    · rw [if_neg c18] at hF
      refine lv_iconst (v := 1) hx hb dX8_more_21 (by decide) ?_
      refine lv_goto (tgt := 26) hx hb dX8_more_22 (by decide) ?_
      exact hJ26 _ _ _ hF _ _ hW _ (lv_sub hl [0] rfl)
  · rw [if_neg c7] at hF
    refine lv_bipush (v := (-4)) hx hb dX8_more_10 (by decide) ?_
    cases hF
    subst hQ
    exact ct_iret hx hb hr hlocks hW.1 hW.2.2 dX8_more_12
abbrev rmMF_cut : Room := { frames := 1, cells := 0, slots := 0, locals := 21 }
set_option maxHeartbeats 4000000 in
set_option maxRecDepth 100000 in
theorem kMF_cut (l : Launch) (D : va_G) (cI cZ cO cG : ClassId) (a_self : Nat) (a_block : Nat) (a_tape : Nat) (a_telling : Nat) (a_rounds : Nat) (a_writer : Nat) (a_reader : Nat) (a_tape_values : Nat) (m_symbolsKnown : Int32) (m_roundsKnown : Int32) (m_tape_count : Int32) (x1 : Int32) {rv : Int32} {m_tape_count' : Int32} (hF : fMF_cut m_tape_count x1 = some (rv, m_tape_count')) : CT l yX8_cut wsX8_cut rmMF_cut D (tysG cI cZ cO cG) [.ref a_self, .int x1] [ob a_self 8 [Value.ref a_block, Value.ref a_tape, Value.ref a_telling, Value.ref a_rounds, Value.ref a_writer, Value.ref a_reader, Value.int m_symbolsKnown, Value.int m_roundsKnown], ob a_tape 5 [Value.ref a_tape_values, Value.int m_tape_count]] (some (.int rv)) [ob a_self 8 [Value.ref a_block, Value.ref a_tape, Value.ref a_telling, Value.ref a_rounds, Value.ref a_writer, Value.ref a_reader, Value.int m_symbolsKnown, Value.int m_roundsKnown], ob a_tape 5 [Value.ref a_tape_values, Value.int m_tape_count']] := by
  refine CT.of (cc := cX8_cut) (maxL := 3) (ret := (some .int)) (by decide) rfl (Nat.le_of_ble_eq_true rfl) ?_
  intro p e s m below meth c A ls hx hb hr hml hts hown hlocks hK hA hP hD hS hl
  generalize hargs : ([.ref a_self, .int x1] : List Value).toArray = args at hts ⊢
  generalize hQ : MQ below (ctQ D (some (.int rv)) [ob a_self 8 [Value.ref a_block, Value.ref a_tape, Value.ref a_telling, Value.ref a_rounds, Value.ref a_writer, Value.ref a_reader, Value.int m_symbolsKnown, Value.int m_roundsKnown], ob a_tape 5 [Value.ref a_tape_values, Value.int m_tape_count']] A) args s 0 0 A = Q
  have hl : lv_has ls 3 [(0, .ref a_self), (1, .int x1)] := hl
  have hW : WS D A s [ob a_self 8 [Value.ref a_block, Value.ref a_tape, Value.ref a_telling, Value.ref a_rounds, Value.ref a_writer, Value.ref a_reader, Value.int m_symbolsKnown, Value.int m_roundsKnown], ob a_tape 5 [Value.ref a_tape_values, Value.int m_tape_count]] s.heap [] := ⟨hP, hD, hS⟩
  clear hP hD hS
  unfold fMF_cut at hF
  have hw0 := hts (Cond.fieldLink RX8 18 "MoveFronts" "tape" "LMoveFronts$Row;") (by decide +kernel)
  have hi8 : ∀ w ∈ u_ws RX8 TX8 8, w ∈ wsX8_cut := by decide +kernel
  refine lv_aload_n hx hb dX8_cut_0 rfl (lv_at hl 0 rfl) ?_
  refine va_get (D := D) (ci := 8) (v := .ref a_tape) (C := RX8) (T := TX8) (N := 8) hx hb hts hi8 hown hK.1 hW.1 0 rfl rfl 1 (by decide) hw0 (fun _ h9 => h9) rfl dX8_cut_1 ?_
  obtain ⟨r_4, e4, hF⟩ := bd1_some hF
  refine ctV (wn := [ob a_self 8 [Value.ref a_block, Value.ref a_tape, Value.ref a_telling, Value.ref a_rounds, Value.ref a_writer, Value.ref a_reader, Value.int m_symbolsKnown, Value.int m_roundsKnown], ob a_tape 5 [Value.ref a_tape_values, Value.int m_tape_count]]) (r := (RX5, TX5, 2)) (As := []) (rest := []) hx hb hml hown hts hK hW hA hl.1 (kRow_size l D cI cZ cO cG a_tape a_tape_values m_tape_count e4) (cwV 0 hts gX8_cut_X5_size rfl rfl rfl (by decide +kernel) ⟨Nat.le_of_ble_eq_true rfl, Nat.le_of_ble_eq_true rfl⟩) 5 1 rfl rfl [1] [0] 2 rfl rfl rfl rfl [ob a_self 8 [Value.ref a_block, Value.ref a_tape, Value.ref a_telling, Value.ref a_rounds, Value.ref a_writer, Value.ref a_reader, Value.int m_symbolsKnown, Value.int m_roundsKnown]] rfl rfl rfl rfl rfl (Nat.le_of_ble_eq_true rfl) rfl ⟨Nat.zero_le _, Nat.zero_le _⟩ dX8_cut_4 (fun H locs hW => ?_)
  refine lv_istore_n (lv' := [(2, .int r_4), (0, .ref a_self), (1, .int x1)]) hx hb dX8_cut_7 rfl hl (by decide) rfl (fun ls hl => ?_)
  refine lv_iload_n hx hb dX8_cut_8 rfl (lv_at hl 2 rfl) ?_
  refine lv_if_lt (tgt := 17) hx hb dX8_cut_9 (by decide) (fun c9 => ?_) (fun c9 => ?_)
  · rw [if_pos c9] at hF
    refine lv_bipush (v := (-2)) hx hb dX8_cut_17 (by decide) ?_
    cases hF
    subst hQ
    exact ct_iret hx hb hr hlocks hW.1 hW.2.2 dX8_cut_19
  · rw [if_neg c9] at hF
    refine lv_iload_n hx hb dX8_cut_12 rfl (lv_at hl 2 rfl) ?_
    refine lv_iload_n hx hb dX8_cut_13 rfl (lv_at hl 0 rfl) ?_
    refine lv_icmp_le (tgt := 20) hx hb dX8_cut_14 (by decide) (fun c14 => ?_) (fun c14 => ?_)
    · rw [if_pos c14] at hF
      refine lv_aload_n hx hb dX8_cut_20 rfl (lv_at hl 1 rfl) ?_
      refine va_get (D := D) (ci := 8) (v := .ref a_tape) (C := RX8) (T := TX8) (N := 8) hx hb hts hi8 hown hK.1 hW.1 0 rfl rfl 1 (by decide) hw0 (fun _ h9 => h9) rfl dX8_cut_21 ?_
      refine lv_iload_n hx hb dX8_cut_24 rfl (lv_at hl 2 rfl) ?_
      obtain ⟨m_count_25, e25, hF⟩ := bd1_some hF
      refine ctV (wn := [ob a_self 8 [Value.ref a_block, Value.ref a_tape, Value.ref a_telling, Value.ref a_rounds, Value.ref a_writer, Value.ref a_reader, Value.int m_symbolsKnown, Value.int m_roundsKnown], ob a_tape 5 [Value.ref a_tape_values, Value.int m_count_25]]) (r := (RX5, TX5, 2)) (As := [.int x1]) (rest := []) hx hb hml hown hts hK hW hA hl.1 (kRow_keepFirst l D cI cZ cO cG a_tape a_tape_values m_tape_count x1 e25) (cwV 1 hts gX8_cut_X5_keepFirst rfl rfl rfl (by decide +kernel) ⟨Nat.le_of_ble_eq_true rfl, Nat.le_of_ble_eq_true rfl⟩) 5 1 rfl rfl [1] [0] 2 rfl rfl rfl rfl [ob a_self 8 [Value.ref a_block, Value.ref a_tape, Value.ref a_telling, Value.ref a_rounds, Value.ref a_writer, Value.ref a_reader, Value.int m_symbolsKnown, Value.int m_roundsKnown]] rfl rfl rfl rfl rfl (Nat.le_of_ble_eq_true rfl) rfl ⟨Nat.zero_le _, Nat.zero_le _⟩ dX8_cut_25 (fun H locs hW => ?_)
      refine lv_iload_n hx hb dX8_cut_28 rfl (lv_at hl 0 rfl) ?_
      refine lv_iload_n hx hb dX8_cut_29 rfl (lv_at hl 2 rfl) ?_
      refine lv_isub hx hb dX8_cut_30 ?_
      cases hF
      subst hQ
      exact ct_iret hx hb hr hlocks hW.1 hW.2.2 dX8_cut_31
    · rw [if_neg c14] at hF
      refine lv_bipush (v := (-2)) hx hb dX8_cut_17 (by decide) ?_
      cases hF
      subst hQ
      exact ct_iret hx hb hr hlocks hW.1 hW.2.2 dX8_cut_19
abbrev rmMF_flip : Room := { frames := 1, cells := 0, slots := 0, locals := 22 }
set_option maxHeartbeats 4000000 in
set_option maxRecDepth 100000 in
theorem kMF_flip (l : Launch) (D : va_G) (cI cZ cO cG : ClassId) (a_self : Nat) (a_block : Nat) (a_tape : Nat) (a_telling : Nat) (a_rounds : Nat) (a_writer : Nat) (a_reader : Nat) (a_tape_values : Nat) (m_symbolsKnown : Int32) (m_roundsKnown : Int32) (m_tape_count : Int32) (m_tape_values : Nat → Int32) (x1 : Int32) {rv : Int32} {m_tape_values' : Nat → Int32} (hF : fMF_flip m_tape_count m_tape_values x1 = some (rv, m_tape_values')) : CT l yX8_flip wsX8_flip rmMF_flip D (tysG cI cZ cO cG) [.ref a_self, .int x1] [ob a_self 8 [Value.ref a_block, Value.ref a_tape, Value.ref a_telling, Value.ref a_rounds, Value.ref a_writer, Value.ref a_reader, Value.int m_symbolsKnown, Value.int m_roundsKnown], ob a_tape 5 [Value.ref a_tape_values, Value.int m_tape_count], ia cI a_tape_values 1500 m_tape_values] (some (.int rv)) [ob a_self 8 [Value.ref a_block, Value.ref a_tape, Value.ref a_telling, Value.ref a_rounds, Value.ref a_writer, Value.ref a_reader, Value.int m_symbolsKnown, Value.int m_roundsKnown], ob a_tape 5 [Value.ref a_tape_values, Value.int m_tape_count], ia cI a_tape_values 1500 m_tape_values'] := by
  refine CT.of (cc := cX8_flip) (maxL := 3) (ret := (some .int)) (by decide) rfl (Nat.le_of_ble_eq_true rfl) ?_
  intro p e s m below meth c A ls hx hb hr hml hts hown hlocks hK hA hP hD hS hl
  generalize hargs : ([.ref a_self, .int x1] : List Value).toArray = args at hts ⊢
  generalize hQ : MQ below (ctQ D (some (.int rv)) [ob a_self 8 [Value.ref a_block, Value.ref a_tape, Value.ref a_telling, Value.ref a_rounds, Value.ref a_writer, Value.ref a_reader, Value.int m_symbolsKnown, Value.int m_roundsKnown], ob a_tape 5 [Value.ref a_tape_values, Value.int m_tape_count], ia cI a_tape_values 1500 m_tape_values'] A) args s 0 0 A = Q
  have hl : lv_has ls 3 [(0, .ref a_self), (1, .int x1)] := hl
  have hW : WS D A s [ob a_self 8 [Value.ref a_block, Value.ref a_tape, Value.ref a_telling, Value.ref a_rounds, Value.ref a_writer, Value.ref a_reader, Value.int m_symbolsKnown, Value.int m_roundsKnown], ob a_tape 5 [Value.ref a_tape_values, Value.int m_tape_count], ia cI a_tape_values 1500 m_tape_values] s.heap [] := ⟨hP, hD, hS⟩
  clear hP hD hS
  unfold fMF_flip at hF
  have hw0 := hts (Cond.fieldLink RX8 18 "MoveFronts" "tape" "LMoveFronts$Row;") (by decide +kernel)
  have hi8 : ∀ w ∈ u_ws RX8 TX8 8, w ∈ wsX8_flip := by decide +kernel
  refine lv_aload_n hx hb dX8_flip_0 rfl (lv_at hl 0 rfl) ?_
  refine va_get (D := D) (ci := 8) (v := .ref a_tape) (C := RX8) (T := TX8) (N := 8) hx hb hts hi8 hown hK.1 hW.1 0 rfl rfl 1 (by decide) hw0 (fun _ h9 => h9) rfl dX8_flip_1 ?_
  refine lv_iload_n hx hb dX8_flip_4 rfl (lv_at hl 1 rfl) ?_
  obtain ⟨r_5, e5, hF⟩ := bd1_some hF
  refine ctV (wn := [ob a_self 8 [Value.ref a_block, Value.ref a_tape, Value.ref a_telling, Value.ref a_rounds, Value.ref a_writer, Value.ref a_reader, Value.int m_symbolsKnown, Value.int m_roundsKnown], ob a_tape 5 [Value.ref a_tape_values, Value.int m_tape_count], ia cI a_tape_values 1500 m_tape_values]) (r := (RX5, TX5, 2)) (As := [.int x1]) (rest := []) hx hb hml hown hts hK hW hA hl.1 (kRow_get l D cI cZ cO cG a_tape a_tape_values 1500 m_tape_count m_tape_values x1 e5) (cwV 1 hts gX8_flip_X5_get rfl rfl rfl (by decide +kernel) ⟨Nat.le_of_ble_eq_true rfl, Nat.le_of_ble_eq_true rfl⟩) 5 1 rfl rfl [1, 2] [0] 3 rfl rfl rfl rfl [ob a_self 8 [Value.ref a_block, Value.ref a_tape, Value.ref a_telling, Value.ref a_rounds, Value.ref a_writer, Value.ref a_reader, Value.int m_symbolsKnown, Value.int m_roundsKnown]] rfl rfl rfl rfl rfl (Nat.le_of_ble_eq_true rfl) rfl ⟨Nat.zero_le _, Nat.zero_le _⟩ dX8_flip_5 (fun H locs hW => ?_)
  refine lv_istore_n (lv' := [(2, .int r_5), (0, .ref a_self), (1, .int x1)]) hx hb dX8_flip_8 rfl hl (by decide) rfl (fun ls hl => ?_)
  refine lv_iload_n hx hb dX8_flip_9 rfl (lv_at hl 0 rfl) ?_
  refine lv_iconst (v := (-1)) hx hb dX8_flip_10 (by decide) ?_
  refine lv_icmp_ne (tgt := 16) hx hb dX8_flip_11 (by decide) (fun c11 => ?_) (fun c11 => ?_)
  · rw [if_neg c11] at hF
    refine lv_aload_n hx hb dX8_flip_16 rfl (lv_at hl 1 rfl) ?_
    refine va_get (D := D) (ci := 8) (v := .ref a_tape) (C := RX8) (T := TX8) (N := 8) hx hb hts hi8 hown hK.1 hW.1 0 rfl rfl 1 (by decide) hw0 (fun _ h9 => h9) rfl dX8_flip_17 ?_
    refine lv_iload_n hx hb dX8_flip_20 rfl (lv_at hl 2 rfl) ?_
    refine lv_iconst (v := 1) hx hb dX8_flip_21 (by decide) ?_
    refine lv_iload_n hx hb dX8_flip_22 rfl (lv_at hl 0 rfl) ?_
    refine lv_isub hx hb dX8_flip_23 ?_
    obtain ⟨m_values_24, e24, hF⟩ := bd1_some hF
    refine ctV (wn := [ob a_self 8 [Value.ref a_block, Value.ref a_tape, Value.ref a_telling, Value.ref a_rounds, Value.ref a_writer, Value.ref a_reader, Value.int m_symbolsKnown, Value.int m_roundsKnown], ob a_tape 5 [Value.ref a_tape_values, Value.int m_tape_count], ia cI a_tape_values 1500 m_values_24]) (r := (RX5, TX5, 2)) (As := [.int x1, .int ((1 : Int32) - r_5)]) (rest := []) hx hb hml hown hts hK hW hA hl.1 (kRow_set l D cI cZ cO cG a_tape a_tape_values 1500 m_tape_count m_tape_values x1 ((1 : Int32) - r_5) e24) (cwV 2 hts gX8_flip_X5_set rfl rfl rfl (by decide +kernel) ⟨Nat.le_of_ble_eq_true rfl, Nat.le_of_ble_eq_true rfl⟩) 5 1 rfl rfl [1, 2] [0] 3 rfl rfl rfl rfl [ob a_self 8 [Value.ref a_block, Value.ref a_tape, Value.ref a_telling, Value.ref a_rounds, Value.ref a_writer, Value.ref a_reader, Value.int m_symbolsKnown, Value.int m_roundsKnown]] rfl rfl rfl rfl rfl (Nat.le_of_ble_eq_true rfl) rfl ⟨Nat.zero_le _, Nat.zero_le _⟩ dX8_flip_24 (fun H locs hW => ?_)
    refine lv_iconst (v := 1) hx hb dX8_flip_27 (by decide) ?_
    refine lv_iload_n hx hb dX8_flip_28 rfl (lv_at hl 0 rfl) ?_
    refine lv_isub hx hb dX8_flip_29 ?_
    cases hF
    subst hQ
    exact ct_iret hx hb hr hlocks hW.1 hW.2.2 dX8_flip_30
  · rw [if_pos c11] at hF
    refine lv_iconst (v := (-1)) hx hb dX8_flip_14 (by decide) ?_
    cases hF
    subst hQ
    exact ct_iret hx hb hr hlocks hW.1 hW.2.2 dX8_flip_15
abbrev rmMF_bit : Room := { frames := 1, cells := 0, slots := 0, locals := 21 }
set_option maxHeartbeats 4000000 in
set_option maxRecDepth 100000 in
theorem kMF_bit (l : Launch) (D : va_G) (cI cZ cO cG : ClassId) (a_self : Nat) (a_block : Nat) (a_tape : Nat) (a_telling : Nat) (a_rounds : Nat) (a_writer : Nat) (a_reader : Nat) (a_tape_values : Nat) (m_symbolsKnown : Int32) (m_roundsKnown : Int32) (m_tape_count : Int32) (m_tape_values : Nat → Int32) (x1 : Int32) {rv : Int32} (hF : fMF_bit m_tape_count m_tape_values x1 = some rv) : CT l yX8_bit wsX8_bit rmMF_bit D (tysG cI cZ cO cG) [.ref a_self, .int x1] [ob a_self 8 [Value.ref a_block, Value.ref a_tape, Value.ref a_telling, Value.ref a_rounds, Value.ref a_writer, Value.ref a_reader, Value.int m_symbolsKnown, Value.int m_roundsKnown], ob a_tape 5 [Value.ref a_tape_values, Value.int m_tape_count], ia cI a_tape_values 1500 m_tape_values] (some (.int rv)) [ob a_self 8 [Value.ref a_block, Value.ref a_tape, Value.ref a_telling, Value.ref a_rounds, Value.ref a_writer, Value.ref a_reader, Value.int m_symbolsKnown, Value.int m_roundsKnown], ob a_tape 5 [Value.ref a_tape_values, Value.int m_tape_count], ia cI a_tape_values 1500 m_tape_values] := by
  refine CT.of (cc := cX8_bit) (maxL := 2) (ret := (some .int)) (by decide) rfl (Nat.le_of_ble_eq_true rfl) ?_
  intro p e s m below meth c A ls hx hb hr hml hts hown hlocks hK hA hP hD hS hl
  generalize hargs : ([.ref a_self, .int x1] : List Value).toArray = args at hts ⊢
  generalize hQ : MQ below (ctQ D (some (.int rv)) [ob a_self 8 [Value.ref a_block, Value.ref a_tape, Value.ref a_telling, Value.ref a_rounds, Value.ref a_writer, Value.ref a_reader, Value.int m_symbolsKnown, Value.int m_roundsKnown], ob a_tape 5 [Value.ref a_tape_values, Value.int m_tape_count], ia cI a_tape_values 1500 m_tape_values] A) args s 0 0 A = Q
  have hl : lv_has ls 2 [(0, .ref a_self), (1, .int x1)] := hl
  have hW : WS D A s [ob a_self 8 [Value.ref a_block, Value.ref a_tape, Value.ref a_telling, Value.ref a_rounds, Value.ref a_writer, Value.ref a_reader, Value.int m_symbolsKnown, Value.int m_roundsKnown], ob a_tape 5 [Value.ref a_tape_values, Value.int m_tape_count], ia cI a_tape_values 1500 m_tape_values] s.heap [] := ⟨hP, hD, hS⟩
  clear hP hD hS
  unfold fMF_bit at hF
  have hw0 := hts (Cond.fieldLink RX8 18 "MoveFronts" "tape" "LMoveFronts$Row;") (by decide +kernel)
  have hi8 : ∀ w ∈ u_ws RX8 TX8 8, w ∈ wsX8_bit := by decide +kernel
  refine lv_aload_n hx hb dX8_bit_0 rfl (lv_at hl 0 rfl) ?_
  refine va_get (D := D) (ci := 8) (v := .ref a_tape) (C := RX8) (T := TX8) (N := 8) hx hb hts hi8 hown hK.1 hW.1 0 rfl rfl 1 (by decide) hw0 (fun _ h9 => h9) rfl dX8_bit_1 ?_
  refine lv_iload_n hx hb dX8_bit_4 rfl (lv_at hl 1 rfl) ?_
  obtain ⟨r_5, e5, hF⟩ := bd1_some hF
  refine ctV (wn := [ob a_self 8 [Value.ref a_block, Value.ref a_tape, Value.ref a_telling, Value.ref a_rounds, Value.ref a_writer, Value.ref a_reader, Value.int m_symbolsKnown, Value.int m_roundsKnown], ob a_tape 5 [Value.ref a_tape_values, Value.int m_tape_count], ia cI a_tape_values 1500 m_tape_values]) (r := (RX5, TX5, 2)) (As := [.int x1]) (rest := []) hx hb hml hown hts hK hW hA hl.1 (kRow_get l D cI cZ cO cG a_tape a_tape_values 1500 m_tape_count m_tape_values x1 e5) (cwV 1 hts gX8_bit_X5_get rfl rfl rfl (by decide +kernel) ⟨Nat.le_of_ble_eq_true rfl, Nat.le_of_ble_eq_true rfl⟩) 5 1 rfl rfl [1, 2] [0] 3 rfl rfl rfl rfl [ob a_self 8 [Value.ref a_block, Value.ref a_tape, Value.ref a_telling, Value.ref a_rounds, Value.ref a_writer, Value.ref a_reader, Value.int m_symbolsKnown, Value.int m_roundsKnown]] rfl rfl rfl rfl rfl (Nat.le_of_ble_eq_true rfl) rfl ⟨Nat.zero_le _, Nat.zero_le _⟩ dX8_bit_5 (fun H locs hW => ?_)
  cases hF
  subst hQ
  exact ct_iret hx hb hr hlocks hW.1 hW.2.2 dX8_bit_8
