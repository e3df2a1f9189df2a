abbrev rmMF_fault : Room := { frames := 0, cells := 0, slots := 0, locals := 0 }
set_option maxHeartbeats 4000000 in
set_option maxRecDepth 100000 in
theorem kMF_fault (l : Launch) (D : va_G) (cI cZ cO cG : ClassId) (a_self : Nat) (a_block : Nat) (a_tape : Nat) (a_telling : Nat) (a_rounds : Nat) (a_writer : Nat) (a_reader : Nat) (a_reader_signs : Nat) (a_reader_choices : Nat) (a_reader_list : Nat) (a_reader_order : Nat) (a_reader_codes : Nat) (m_symbolsKnown : Int32) (m_roundsKnown : Int32) (m_reader_tables : Int32) (m_reader_groups : Int32) (m_reader_kinds : Int32) (m_reader_zeroPower : Int32) (m_reader_position : Int32) (m_reader_faultNumber : Int32) (m_reader_faultPosition : Int32) {rv : Int32} (hF : fMF_fault m_reader_faultPosition = some rv) : CT l yX8_fault wsX8_fault rmMF_fault D (tysG cI cZ cO cG) [.ref a_self] [(a_self, .inr (8, [.ref a_block, .ref a_tape, .ref a_telling, .ref a_rounds, .ref a_writer, .ref a_reader, .int m_symbolsKnown, .int m_roundsKnown])), (a_reader, .inr (3, [.ref a_tape, .ref a_reader_signs, .ref a_reader_choices, .ref a_reader_list, .ref a_reader_order, .ref a_reader_codes, .int m_reader_tables, .int m_reader_groups, .int m_reader_kinds, .int m_reader_zeroPower, .int m_reader_position, .int m_reader_faultNumber, .int m_reader_faultPosition]))] (some (.int rv)) [(a_self, .inr (8, [.ref a_block, .ref a_tape, .ref a_telling, .ref a_rounds, .ref a_writer, .ref a_reader, .int m_symbolsKnown, .int m_roundsKnown])), (a_reader, .inr (3, [.ref a_tape, .ref a_reader_signs, .ref a_reader_choices, .ref a_reader_list, .ref a_reader_order, .ref a_reader_codes, .int m_reader_tables, .int m_reader_groups, .int m_reader_kinds, .int m_reader_zeroPower, .int m_reader_position, .int m_reader_faultNumber, .int m_reader_faultPosition]))] := by
  refine CT.of (cc := cX8_fault) (maxL := 1) (ret := (some .int)) (by decide) rfl (Nat.le_of_ble_eq_true rfl) ?_
  intro p e s m below meth c A ls hx hb hr hml hts hown hlocks hK hA hP hD hS hl
  generalize hargs : ([.ref a_self] : List Value).toArray = args at hts ⊢
  generalize hQ : MQ below (ctQ D (some (.int rv)) [(a_self, .inr (8, [.ref a_block, .ref a_tape, .ref a_telling, .ref a_rounds, .ref a_writer, .ref a_reader, .int m_symbolsKnown, .int m_roundsKnown])), (a_reader, .inr (3, [.ref a_tape, .ref a_reader_signs, .ref a_reader_choices, .ref a_reader_list, .ref a_reader_order, .ref a_reader_codes, .int m_reader_tables, .int m_reader_groups, .int m_reader_kinds, .int m_reader_zeroPower, .int m_reader_position, .int m_reader_faultNumber, .int m_reader_faultPosition]))] A) args s 0 0 A = Q
  have hl : lv_has ls 1 [(0, .ref a_self)] := hl
  have hW : WS D A s [(a_self, .inr (8, [.ref a_block, .ref a_tape, .ref a_telling, .ref a_rounds, .ref a_writer, .ref a_reader, .int m_symbolsKnown, .int m_roundsKnown])), (a_reader, .inr (3, [.ref a_tape, .ref a_reader_signs, .ref a_reader_choices, .ref a_reader_list, .ref a_reader_order, .ref a_reader_codes, .int m_reader_tables, .int m_reader_groups, .int m_reader_kinds, .int m_reader_zeroPower, .int m_reader_position, .int m_reader_faultNumber, .int m_reader_faultPosition]))] s.heap [] := ⟨hP, hD, hS⟩
  clear hP hD hS
  unfold fMF_fault at hF
  have hw0 := hts (Cond.fieldLink RX8 52 "MoveFronts" "reader" "LMoveFronts$Reader;") (by decide +kernel)
  have hi8 : ∀ w ∈ u_ws RX8 TX8 8, w ∈ wsX8_fault := by decide +kernel
  have hi3 : ∀ w ∈ u_ws RX3 TX3 13, w ∈ wsX8_fault := by decide +kernel
  refine lv_aload_n hx hb dX8_fault_0 rfl (lv_at hl 0 rfl) ?_
  refine va_get (D := D) (ci := 8) (v := .ref a_reader) (C := RX8) (T := TX8) (N := 8) hx hb hts hi8 hown hK.1 hW.1 0 rfl rfl 5 (by decide) hw0 (fun _ h9 => h9) rfl dX8_fault_1 ?_
  refine va_getN (D := D) (ci := 3) (v := .int m_reader_faultPosition) (C := RX3) (T := TX3) (N := 13) hx hb hts hi3 hown hK.1 hW.1 1 rfl rfl 12 (by decide) (va_Nw.use rfl (hK.2.1 ("MoveFronts", 139, "MoveFronts$Reader", "faultPosition", "I", "MoveFronts") (by decide +kernel))) (fun _ h9 => h9) rfl dX8_fault_4 ?_
  cases hF
  subst hQ
  exact ct_iret hx hb hr hlocks hW.1 hW.2.2 dX8_fault_7
