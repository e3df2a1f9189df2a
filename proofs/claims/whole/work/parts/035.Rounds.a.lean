abbrev rmRounds_bitsOfGroup : Room := { frames := 1, cells := 0, slots := 0, locals := 21 }
set_option maxHeartbeats 4000000 in
set_option maxRecDepth 100000 in
theorem kRounds_bitsOfGroup (l : Launch) (D : va_G) (cI cZ cO cG : ClassId) (a_self : Nat) (a_symbols : Nat) (a_tableOfGroup : Nat) (a_lengths : Nat) (a_weights : Nat) (a_joiner : Nat) (a_codes : Nat) (a_symbols_values : Nat) (aF_lengths : Nat → Nat) (m_kinds : Int32) (m_groups : Int32) (m_tables : Int32) (m_symbols_count : Int32) (m_symbols_values : Nat → Int32) (M_lengths : Nat → Nat → Int32) (x1 : Int32) (j_p2 : Nat) (hj_p2 : j_p2 < 15) {rv : Int32} (hF : fRounds_bitsOfGroup m_kinds m_symbols_count m_symbols_values M_lengths x1 j_p2 = some rv) : CT l yX4_bitsOfGroup wsX4_bitsOfGroup rmRounds_bitsOfGroup D (tysG cI cZ cO cG) [.ref a_self, .int x1, .ref (aF_lengths j_p2)] [(a_self, .inr (4, [.ref a_symbols, .ref a_tableOfGroup, .ref a_lengths, .ref a_weights, .ref a_joiner, .ref a_codes, .int m_kinds, .int m_groups, .int m_tables])), (a_symbols, .inr (5, [.ref a_symbols_values, .int m_symbols_count])), (a_symbols_values, .inl (cI, 301, .inl m_symbols_values)), (aF_lengths 0, .inl (cI, 258, .inl (M_lengths 0))), (aF_lengths 1, .inl (cI, 258, .inl (M_lengths 1))), (aF_lengths 2, .inl (cI, 258, .inl (M_lengths 2))), (aF_lengths 3, .inl (cI, 258, .inl (M_lengths 3))), (aF_lengths 4, .inl (cI, 258, .inl (M_lengths 4))), (aF_lengths 5, .inl (cI, 258, .inl (M_lengths 5))), (aF_lengths 6, .inl (cI, 258, .inl (M_lengths 6))), (aF_lengths 7, .inl (cI, 258, .inl (M_lengths 7))), (aF_lengths 8, .inl (cI, 258, .inl (M_lengths 8))), (aF_lengths 9, .inl (cI, 258, .inl (M_lengths 9))), (aF_lengths 10, .inl (cI, 258, .inl (M_lengths 10))), (aF_lengths 11, .inl (cI, 258, .inl (M_lengths 11))), (aF_lengths 12, .inl (cI, 258, .inl (M_lengths 12))), (aF_lengths 13, .inl (cI, 258, .inl (M_lengths 13))), (aF_lengths 14, .inl (cI, 258, .inl (M_lengths 14)))] (some (.int rv)) [(a_self, .inr (4, [.ref a_symbols, .ref a_tableOfGroup, .ref a_lengths, .ref a_weights, .ref a_joiner, .ref a_codes, .int m_kinds, .int m_groups, .int m_tables])), (a_symbols, .inr (5, [.ref a_symbols_values, .int m_symbols_count])), (a_symbols_values, .inl (cI, 301, .inl m_symbols_values)), (aF_lengths 0, .inl (cI, 258, .inl (M_lengths 0))), (aF_lengths 1, .inl (cI, 258, .inl (M_lengths 1))), (aF_lengths 2, .inl (cI, 258, .inl (M_lengths 2))), (aF_lengths 3, .inl (cI, 258, .inl (M_lengths 3))), (aF_lengths 4, .inl (cI, 258, .inl (M_lengths 4))), (aF_lengths 5, .inl (cI, 258, .inl (M_lengths 5))), (aF_lengths 6, .inl (cI, 258, .inl (M_lengths 6))), (aF_lengths 7, .inl (cI, 258, .inl (M_lengths 7))), (aF_lengths 8, .inl (cI, 258, .inl (M_lengths 8))), (aF_lengths 9, .inl (cI, 258, .inl (M_lengths 9))), (aF_lengths 10, .inl (cI, 258, .inl (M_lengths 10))), (aF_lengths 11, .inl (cI, 258, .inl (M_lengths 11))), (aF_lengths 12, .inl (cI, 258, .inl (M_lengths 12))), (aF_lengths 13, .inl (cI, 258, .inl (M_lengths 13))), (aF_lengths 14, .inl (cI, 258, .inl (M_lengths 14)))] := by
  refine CT.of (cc := cX4_bitsOfGroup) (maxL := 7) (ret := (some .int)) (by decide) rfl (Nat.le_of_ble_eq_true rfl) ?_
  intro p e s m below meth c A ls hx hb hr hml hts hown hlocks hK hA hP hD hS hl
  generalize hargs : ([.ref a_self, .int x1, .ref (aF_lengths j_p2)] : List Value).toArray = args at hts ⊢
  generalize hQ : MQ below (ctQ D (some (.int rv)) [(a_self, .inr (4, [.ref a_symbols, .ref a_tableOfGroup, .ref a_lengths, .ref a_weights, .ref a_joiner, .ref a_codes, .int m_kinds, .int m_groups, .int m_tables])), (a_symbols, .inr (5, [.ref a_symbols_values, .int m_symbols_count])), (a_symbols_values, .inl (cI, 301, .inl m_symbols_values)), (aF_lengths 0, .inl (cI, 258, .inl (M_lengths 0))), (aF_lengths 1, .inl (cI, 258, .inl (M_lengths 1))), (aF_lengths 2, .inl (cI, 258, .inl (M_lengths 2))), (aF_lengths 3, .inl (cI, 258, .inl (M_lengths 3))), (aF_lengths 4, .inl (cI, 258, .inl (M_lengths 4))), (aF_lengths 5, .inl (cI, 258, .inl (M_lengths 5))), (aF_lengths 6, .inl (cI, 258, .inl (M_lengths 6))), (aF_lengths 7, .inl (cI, 258, .inl (M_lengths 7))), (aF_lengths 8, .inl (cI, 258, .inl (M_lengths 8))), (aF_lengths 9, .inl (cI, 258, .inl (M_lengths 9))), (aF_lengths 10, .inl (cI, 258, .inl (M_lengths 10))), (aF_lengths 11, .inl (cI, 258, .inl (M_lengths 11))), (aF_lengths 12, .inl (cI, 258, .inl (M_lengths 12))), (aF_lengths 13, .inl (cI, 258, .inl (M_lengths 13))), (aF_lengths 14, .inl (cI, 258, .inl (M_lengths 14)))] A) args s 0 0 A = Q
  have hl : lv_has ls 7 [(0, .ref a_self), (1, .int x1), (2, .ref (aF_lengths j_p2))] := hl
  have hW : WS D A s [(a_self, .inr (4, [.ref a_symbols, .ref a_tableOfGroup, .ref a_lengths, .ref a_weights, .ref a_joiner, .ref a_codes, .int m_kinds, .int m_groups, .int m_tables])), (a_symbols, .inr (5, [.ref a_symbols_values, .int m_symbols_count])), (a_symbols_values, .inl (cI, 301, .inl m_symbols_values)), (aF_lengths 0, .inl (cI, 258, .inl (M_lengths 0))), (aF_lengths 1, .inl (cI, 258, .inl (M_lengths 1))), (aF_lengths 2, .inl (cI, 258, .inl (M_lengths 2))), (aF_lengths 3, .inl (cI, 258, .inl (M_lengths 3))), (aF_lengths 4, .inl (cI, 258, .inl (M_lengths 4))), (aF_lengths 5, .inl (cI, 258, .inl (M_lengths 5))), (aF_lengths 6, .inl (cI, 258, .inl (M_lengths 6))), (aF_lengths 7, .inl (cI, 258, .inl (M_lengths 7))), (aF_lengths 8, .inl (cI, 258, .inl (M_lengths 8))), (aF_lengths 9, .inl (cI, 258, .inl (M_lengths 9))), (aF_lengths 10, .inl (cI, 258, .inl (M_lengths 10))), (aF_lengths 11, .inl (cI, 258, .inl (M_lengths 11))), (aF_lengths 12, .inl (cI, 258, .inl (M_lengths 12))), (aF_lengths 13, .inl (cI, 258, .inl (M_lengths 13))), (aF_lengths 14, .inl (cI, 258, .inl (M_lengths 14)))] s.heap [] := ⟨hP, hD, hS⟩
  clear hP hD hS
  unfold fRounds_bitsOfGroup at hF
  have hw0 := hts (Cond.fieldLink RX4 9 "MoveFronts$Rounds" "symbols" "LMoveFronts$Row;") (by decide +kernel)
  have hw1 := hts (Cond.methodLink RX4 53 Lib.Math.min.name) (by decide +kernel)
  have hw2 := hts (Cond.static Lib.Math.min.name) (by decide +kernel)
  have hw3 := hts (Cond.initialized "java/lang/Math") (by decide +kernel)
  have hw4 := hts (Cond.code Lib.Math.min.name Lib.Math.min.code 2 (some .int)) (by decide +kernel)
  have hw5 := hts (Cond.fieldLink RX4 43 "MoveFronts$Rounds" "kinds" "I") (by decide +kernel)
  have hi4 : ∀ w ∈ u_ws RX4 TX4 9, w ∈ wsX4_bitsOfGroup := by decide +kernel
  refine lv_iload_n hx hb dX4_bitsOfGroup_0 rfl (lv_at hl 1 rfl) ?_
  refine lv_iconst (v := 1) hx hb dX4_bitsOfGroup_1 (by decide) ?_
  refine lv_iadd hx hb dX4_bitsOfGroup_2 ?_
  refine lv_bipush (v := 10) hx hb dX4_bitsOfGroup_3 (by decide) ?_
  refine lv_imul hx hb dX4_bitsOfGroup_5 ?_
  refine lv_aload_n hx hb dX4_bitsOfGroup_6 rfl (lv_at hl 0 rfl) ?_
  refine va_get (D := D) (ci := 4) (v := .ref a_symbols) (C := RX4) (T := TX4) (N := 9) hx hb hts hi4 hown hK.1 hW.1 0 rfl rfl 0 (by decide) hw0 (fun _ h9 => h9) rfl dX4_bitsOfGroup_7 ?_
  obtain ⟨r_10, e10, hF⟩ := bd1_some hF
  refine ctV (r := (RX5, TX5, 2)) (As := []) (rest := [.int ((x1 + (1 : Int32)) * (10 : Int32))]) hx hb hml hown hts hK hW.1 hW.2.1 hW.2.2 hA hl.1 (kRow_size l D cI cZ cO cG a_symbols a_symbols_values m_symbols_count e10) (cwV 0 hts gX4_bitsOfGroup_X5_size rfl rfl rfl (by decide +kernel) ⟨Nat.le_of_ble_eq_true rfl, Nat.le_of_ble_eq_true rfl⟩) 5 1 rfl rfl [1] rfl rfl rfl rfl rfl (Nat.le_of_ble_eq_true rfl) rfl ⟨Nat.zero_le _, Nat.zero_le _⟩ dX4_bitsOfGroup_10 (fun H locs hP hD hS => ?_)
  have hW : WS D A s [(a_self, .inr (4, [.ref a_symbols, .ref a_tableOfGroup, .ref a_lengths, .ref a_weights, .ref a_joiner, .ref a_codes, .int m_kinds, .int m_groups, .int m_tables])), (a_symbols, .inr (5, [.ref a_symbols_values, .int m_symbols_count])), (a_symbols_values, .inl (cI, 301, .inl m_symbols_values)), (aF_lengths 0, .inl (cI, 258, .inl (M_lengths 0))), (aF_lengths 1, .inl (cI, 258, .inl (M_lengths 1))), (aF_lengths 2, .inl (cI, 258, .inl (M_lengths 2))), (aF_lengths 3, .inl (cI, 258, .inl (M_lengths 3))), (aF_lengths 4, .inl (cI, 258, .inl (M_lengths 4))), (aF_lengths 5, .inl (cI, 258, .inl (M_lengths 5))), (aF_lengths 6, .inl (cI, 258, .inl (M_lengths 6))), (aF_lengths 7, .inl (cI, 258, .inl (M_lengths 7))), (aF_lengths 8, .inl (cI, 258, .inl (M_lengths 8))), (aF_lengths 9, .inl (cI, 258, .inl (M_lengths 9))), (aF_lengths 10, .inl (cI, 258, .inl (M_lengths 10))), (aF_lengths 11, .inl (cI, 258, .inl (M_lengths 11))), (aF_lengths 12, .inl (cI, 258, .inl (M_lengths 12))), (aF_lengths 13, .inl (cI, 258, .inl (M_lengths 13))), (aF_lengths 14, .inl (cI, 258, .inl (M_lengths 14)))] H locs := ⟨hP, hD, hS⟩
  refine va_mmin hx hb (by rw [hml]; exact hl.1.symm) hown hw1 hw2 hw3 hw4 (Nat.le_of_ble_eq_true rfl) (Nat.le_of_ble_eq_true rfl) (Nat.zero_le _) (Nat.zero_le _) dX4_bitsOfGroup_13 ?_
  refine lv_istore_n (lv' := [(3, .int (if r_10 < ((x1 + (1 : Int32)) * (10 : Int32)) then r_10 else ((x1 + (1 : Int32)) * (10 : Int32)))), (0, .ref a_self), (1, .int x1), (2, .ref (aF_lengths j_p2))]) hx hb dX4_bitsOfGroup_16 rfl hl (by decide) rfl (fun ls hl => ?_)
  refine lv_iconst (v := 0) hx hb dX4_bitsOfGroup_17 (by decide) ?_
  refine lv_istore (lv' := [(4, .int (0 : Int32)), (3, .int (if r_10 < ((x1 + (1 : Int32)) * (10 : Int32)) then r_10 else ((x1 + (1 : Int32)) * (10 : Int32)))), (0, .ref a_self), (1, .int x1), (2, .ref (aF_lengths j_p2))]) hx hb dX4_bitsOfGroup_18 hl (by decide) rfl (fun ls hl => ?_)
  refine lv_iload_n hx hb dX4_bitsOfGroup_20 rfl (lv_at hl 3 rfl) ?_
  refine lv_bipush (v := 10) hx hb dX4_bitsOfGroup_21 (by decide) ?_
  refine lv_imul hx hb dX4_bitsOfGroup_23 ?_
  refine lv_istore (lv' := [(5, .int (x1 * (10 : Int32))), (4, .int (0 : Int32)), (3, .int (if r_10 < ((x1 + (1 : Int32)) * (10 : Int32)) then r_10 else ((x1 + (1 : Int32)) * (10 : Int32)))), (0, .ref a_self), (1, .int x1), (2, .ref (aF_lengths j_p2))]) hx hb dX4_bitsOfGroup_24 hl (by decide) rfl (fun ls hl => ?_)
  obtain ⟨x4_26ze, hI, hF⟩ := bd1_some hF
  obtain ⟨nn, hI⟩ := itrO_some hI
  have hX26 : ∀ (x4_26z : Int32), x4_26z = x4_26ze → ∀ (H : Heap) (locs : List Loc), WS D A s [(a_self, .inr (4, [.ref a_symbols, .ref a_tableOfGroup, .ref a_lengths, .ref a_weights, .ref a_joiner, .ref a_codes, .int m_kinds, .int m_groups, .int m_tables])), (a_symbols, .inr (5, [.ref a_symbols_values, .int m_symbols_count])), (a_symbols_values, .inl (cI, 301, .inl m_symbols_values)), (aF_lengths 0, .inl (cI, 258, .inl (M_lengths 0))), (aF_lengths 1, .inl (cI, 258, .inl (M_lengths 1))), (aF_lengths 2, .inl (cI, 258, .inl (M_lengths 2))), (aF_lengths 3, .inl (cI, 258, .inl (M_lengths 3))), (aF_lengths 4, .inl (cI, 258, .inl (M_lengths 4))), (aF_lengths 5, .inl (cI, 258, .inl (M_lengths 5))), (aF_lengths 6, .inl (cI, 258, .inl (M_lengths 6))), (aF_lengths 7, .inl (cI, 258, .inl (M_lengths 7))), (aF_lengths 8, .inl (cI, 258, .inl (M_lengths 8))), (aF_lengths 9, .inl (cI, 258, .inl (M_lengths 9))), (aF_lengths 10, .inl (cI, 258, .inl (M_lengths 10))), (aF_lengths 11, .inl (cI, 258, .inl (M_lengths 11))), (aF_lengths 12, .inl (cI, 258, .inl (M_lengths 12))), (aF_lengths 13, .inl (cI, 258, .inl (M_lengths 13))), (aF_lengths 14, .inl (cI, 258, .inl (M_lengths 14)))] H locs → ∀ ls : Array Slot, lv_has ls 7 [(4, .int x4_26z)] → W p l e (headSpec wsX4_bitsOfGroup rmRounds_bitsOfGroup).room s m args below meth c H locs 0 0 Q (F0 m 72 ls []) := by
    intro x4_26z he H locs hW ls hl
    subst he
    refine lv_iload hx hb dX4_bitsOfGroup_72 (lv_at hl 0 rfl) ?_
    cases hF
    subst hQ
    exact ct_iret hx hb hr hlocks hW.1 hW.2.2 dX4_bitsOfGroup_74
  have hL26 : ∀ (n26 : Nat) (x4_26 : Int32) (x5_26 : Int32), itr (un2 (fRounds_bitsOfGroup_L26 m_kinds m_symbols_count m_symbols_values M_lengths x1 j_p2 r_10)) n26 (x4_26, x5_26) = some x4_26ze → ∀ (H : Heap) (locs : List Loc), WS D A s [(a_self, .inr (4, [.ref a_symbols, .ref a_tableOfGroup, .ref a_lengths, .ref a_weights, .ref a_joiner, .ref a_codes, .int m_kinds, .int m_groups, .int m_tables])), (a_symbols, .inr (5, [.ref a_symbols_values, .int m_symbols_count])), (a_symbols_values, .inl (cI, 301, .inl m_symbols_values)), (aF_lengths 0, .inl (cI, 258, .inl (M_lengths 0))), (aF_lengths 1, .inl (cI, 258, .inl (M_lengths 1))), (aF_lengths 2, .inl (cI, 258, .inl (M_lengths 2))), (aF_lengths 3, .inl (cI, 258, .inl (M_lengths 3))), (aF_lengths 4, .inl (cI, 258, .inl (M_lengths 4))), (aF_lengths 5, .inl (cI, 258, .inl (M_lengths 5))), (aF_lengths 6, .inl (cI, 258, .inl (M_lengths 6))), (aF_lengths 7, .inl (cI, 258, .inl (M_lengths 7))), (aF_lengths 8, .inl (cI, 258, .inl (M_lengths 8))), (aF_lengths 9, .inl (cI, 258, .inl (M_lengths 9))), (aF_lengths 10, .inl (cI, 258, .inl (M_lengths 10))), (aF_lengths 11, .inl (cI, 258, .inl (M_lengths 11))), (aF_lengths 12, .inl (cI, 258, .inl (M_lengths 12))), (aF_lengths 13, .inl (cI, 258, .inl (M_lengths 13))), (aF_lengths 14, .inl (cI, 258, .inl (M_lengths 14)))] H locs → ∀ ls : Array Slot, lv_has ls 7 [(0, .ref a_self), (2, .ref (aF_lengths j_p2)), (3, .int (if r_10 < ((x1 + (1 : Int32)) * (10 : Int32)) then r_10 else ((x1 + (1 : Int32)) * (10 : Int32)))), (4, .int x4_26), (5, .int x5_26)] → W p l e (headSpec wsX4_bitsOfGroup rmRounds_bitsOfGroup).room s m args below meth c H locs 0 0 Q (F0 m 26 ls []) := by
    intro n26
    induction n26 with
    | zero => intro x4_26 x5_26 hI; cases hI
    | succ n26 ih26 =>
      intro x4_26 x5_26 hI H locs hW ls hl
      obtain ⟨sr26, hF, hN26⟩ := itr_succ hI
      have hF : fRounds_bitsOfGroup_L26 m_kinds m_symbols_count m_symbols_values M_lengths x1 j_p2 r_10 x4_26 x5_26 = some sr26 := hF
      unfold fRounds_bitsOfGroup_L26 at hF
      refine lv_iload hx hb dX4_bitsOfGroup_26 (lv_at hl 4 rfl) ?_
      refine lv_iload_n hx hb dX4_bitsOfGroup_28 rfl (lv_at hl 2 rfl) ?_
      refine lv_icmp_ge (tgt := 72) hx hb dX4_bitsOfGroup_29 (by decide) (fun c29 => ?_) (fun c29 => ?_)
      · rw [if_pos c29] at hF
        cases hF
        exact hX26 _ (itr_out hN26) _ _ hW _ (lv_sub hl [3] rfl)
      · rw [if_neg c29] at hF
        refine lv_aload_n hx hb dX4_bitsOfGroup_32 rfl (lv_at hl 0 rfl) ?_
        refine va_get (D := D) (ci := 4) (v := .ref a_symbols) (C := RX4) (T := TX4) (N := 9) hx hb hts hi4 hown hK.1 hW.1 0 rfl rfl 0 (by decide) hw0 (fun _ h9 => h9) rfl dX4_bitsOfGroup_33 ?_
        refine lv_iload hx hb dX4_bitsOfGroup_36 (lv_at hl 4 rfl) ?_
        obtain ⟨r_38, e38, hF⟩ := bd1_some hF
        refine ctV (r := (RX5, TX5, 2)) (As := [.int x5_26]) (rest := []) hx hb hml hown hts hK hW.1 hW.2.1 hW.2.2 hA hl.1 (kRow_get l D cI cZ cO cG a_symbols a_symbols_values 301 m_symbols_count m_symbols_values x5_26 e38) (cwV 1 hts gX4_bitsOfGroup_X5_get rfl rfl rfl (by decide +kernel) ⟨Nat.le_of_ble_eq_true rfl, Nat.le_of_ble_eq_true rfl⟩) 5 1 rfl rfl [1, 2] rfl rfl rfl rfl rfl (Nat.le_of_ble_eq_true rfl) rfl ⟨Nat.zero_le _, Nat.zero_le _⟩ dX4_bitsOfGroup_38 (fun H locs hP hD hS => ?_)
        have hW : WS D A s [(a_self, .inr (4, [.ref a_symbols, .ref a_tableOfGroup, .ref a_lengths, .ref a_weights, .ref a_joiner, .ref a_codes, .int m_kinds, .int m_groups, .int m_tables])), (a_symbols, .inr (5, [.ref a_symbols_values, .int m_symbols_count])), (a_symbols_values, .inl (cI, 301, .inl m_symbols_values)), (aF_lengths 0, .inl (cI, 258, .inl (M_lengths 0))), (aF_lengths 1, .inl (cI, 258, .inl (M_lengths 1))), (aF_lengths 2, .inl (cI, 258, .inl (M_lengths 2))), (aF_lengths 3, .inl (cI, 258, .inl (M_lengths 3))), (aF_lengths 4, .inl (cI, 258, .inl (M_lengths 4))), (aF_lengths 5, .inl (cI, 258, .inl (M_lengths 5))), (aF_lengths 6, .inl (cI, 258, .inl (M_lengths 6))), (aF_lengths 7, .inl (cI, 258, .inl (M_lengths 7))), (aF_lengths 8, .inl (cI, 258, .inl (M_lengths 8))), (aF_lengths 9, .inl (cI, 258, .inl (M_lengths 9))), (aF_lengths 10, .inl (cI, 258, .inl (M_lengths 10))), (aF_lengths 11, .inl (cI, 258, .inl (M_lengths 11))), (aF_lengths 12, .inl (cI, 258, .inl (M_lengths 12))), (aF_lengths 13, .inl (cI, 258, .inl (M_lengths 13))), (aF_lengths 14, .inl (cI, 258, .inl (M_lengths 14)))] H locs := ⟨hP, hD, hS⟩
        refine lv_istore (lv' := [(6, .int r_38), (0, .ref a_self), (2, .ref (aF_lengths j_p2)), (3, .int (if r_10 < ((x1 + (1 : Int32)) * (10 : Int32)) then r_10 else ((x1 + (1 : Int32)) * (10 : Int32)))), (4, .int x4_26), (5, .int x5_26)]) hx hb dX4_bitsOfGroup_41 hl (by decide) rfl (fun ls hl => ?_)
        refine lv_iload hx hb dX4_bitsOfGroup_43 (lv_at hl 0 rfl) ?_
        refine lv_if_lt (tgt := 66) hx hb dX4_bitsOfGroup_45 (by decide) (fun c45 => ?_) (fun c45 => ?_)
        · rw [if_pos c45] at hF
          refine lv_iinc (v := (x5_26 + 1)) (lv' := [(5, .int (x5_26 + 1)), (6, .int r_38), (0, .ref a_self), (2, .ref (aF_lengths j_p2)), (3, .int (if r_10 < ((x1 + (1 : Int32)) * (10 : Int32)) then r_10 else ((x1 + (1 : Int32)) * (10 : Int32)))), (4, .int x4_26)]) hx hb dX4_bitsOfGroup_66 hl (k := 5) rfl rfl (by decide) rfl (fun ls hl => ?_)
          refine lv_goto (tgt := 26) hx hb dX4_bitsOfGroup_69 (by decide) ?_
          cases hF
          exact ih26 _ _ (itr_in hN26) _ _ hW _ (lv_sub hl [2, 3, 4, 5, 0] rfl)
        · rw [if_neg c45] at hF
          refine lv_iload hx hb dX4_bitsOfGroup_48 (lv_at hl 0 rfl) ?_
          refine lv_aload_n hx hb dX4_bitsOfGroup_50 rfl (lv_at hl 1 rfl) ?_
          refine va_get (D := D) (ci := 4) (v := .int m_kinds) (C := RX4) (T := TX4) (N := 9) hx hb hts hi4 hown hK.1 hW.1 0 rfl rfl 6 (by decide) hw5 (fun _ h9 => h9) rfl dX4_bitsOfGroup_51 ?_
          refine lv_icmp_ge (tgt := 66) hx hb dX4_bitsOfGroup_54 (by decide) (fun c54 => ?_) (fun c54 => ?_)
          · rw [if_pos c54] at hF
            refine lv_iinc (v := (x5_26 + 1)) (lv' := [(5, .int (x5_26 + 1)), (6, .int r_38), (0, .ref a_self), (2, .ref (aF_lengths j_p2)), (3, .int (if r_10 < ((x1 + (1 : Int32)) * (10 : Int32)) then r_10 else ((x1 + (1 : Int32)) * (10 : Int32)))), (4, .int x4_26)]) hx hb dX4_bitsOfGroup_66 hl (k := 5) rfl rfl (by decide) rfl (fun ls hl => ?_)
            refine lv_goto (tgt := 26) hx hb dX4_bitsOfGroup_69 (by decide) ?_
            cases hF
            exact ih26 _ _ (itr_in hN26) _ _ hW _ (lv_sub hl [2, 3, 4, 5, 0] rfl)
          · rw [if_neg c54] at hF
            refine lv_iload hx hb dX4_bitsOfGroup_57 (lv_at hl 4 rfl) ?_
            refine lv_aload_n hx hb dX4_bitsOfGroup_59 rfl (lv_at hl 2 rfl) ?_
            refine lv_iload hx hb dX4_bitsOfGroup_60 (lv_at hl 0 rfl) ?_
            obtain ⟨g62, hF⟩ := gdI_some hF
            refine va_iald hx hb hK.1 hW.1 (3 + j_p2) 0 (fam_get 3 15 (cA := cI) (len := 258) (aF := aF_lengths) (M := M_lengths) rfl hj_p2) rfl g62 dX4_bitsOfGroup_62 ?_
            refine lv_iadd hx hb dX4_bitsOfGroup_63 ?_
            refine lv_istore (lv' := [(4, .int (x4_26 + (M_lengths j_p2 r_38.toNatClampNeg))), (6, .int r_38), (0, .ref a_self), (2, .ref (aF_lengths j_p2)), (3, .int (if r_10 < ((x1 + (1 : Int32)) * (10 : Int32)) then r_10 else ((x1 + (1 : Int32)) * (10 : Int32)))), (5, .int x5_26)]) hx hb dX4_bitsOfGroup_64 hl (by decide) rfl (fun ls hl => ?_)
            refine lv_iinc (v := (x5_26 + 1)) (lv' := [(5, .int (x5_26 + 1)), (4, .int (x4_26 + (M_lengths j_p2 r_38.toNatClampNeg))), (6, .int r_38), (0, .ref a_self), (2, .ref (aF_lengths j_p2)), (3, .int (if r_10 < ((x1 + (1 : Int32)) * (10 : Int32)) then r_10 else ((x1 + (1 : Int32)) * (10 : Int32))))]) hx hb dX4_bitsOfGroup_66 hl (k := 5) rfl rfl (by decide) rfl (fun ls hl => ?_)
            refine lv_goto (tgt := 26) hx hb dX4_bitsOfGroup_69 (by decide) ?_
            cases hF
            exact ih26 _ _ (itr_in hN26) _ _ hW _ (lv_sub hl [3, 4, 5, 1, 0] rfl)
  exact hL26 nn _ _ hI _ _ hW _ (lv_sub hl [3, 5, 2, 1, 0] rfl)
abbrev rmRounds_lengthsBehind : Room := { frames := 0, cells := 0, slots := 0, locals := 0 }
set_option maxHeartbeats 4000000 in
set_option maxRecDepth 100000 in
theorem kRounds_lengthsBehind (l : Launch) (D : va_G) (cI cZ cO cG : ClassId) (a_self : Nat) (a_symbols : Nat) (a_tableOfGroup : Nat) (a_lengths : Nat) (a_weights : Nat) (a_joiner : Nat) (a_codes : Nat) (aF_lengths : Nat → Nat) (m_kinds : Int32) (m_groups : Int32) (m_tables : Int32) (x1 : Int32) (x2 : Int32) {rv : Nat} (hF : fRounds_lengthsBehind x1 x2 = some rv) : CT l yX4_lengthsBehind wsX4_lengthsBehind rmRounds_lengthsBehind D (tysG cI cZ cO cG) [.ref a_self, .int x1, .int x2] [(a_self, .inr (4, [.ref a_symbols, .ref a_tableOfGroup, .ref a_lengths, .ref a_weights, .ref a_joiner, .ref a_codes, .int m_kinds, .int m_groups, .int m_tables])), (a_lengths, .inl (cG, 15, .inr (.inr (.inr (.inr (fun i => if i < 15 then some (aF_lengths i) else none))))))] (some (.ref (aF_lengths rv))) [(a_self, .inr (4, [.ref a_symbols, .ref a_tableOfGroup, .ref a_lengths, .ref a_weights, .ref a_joiner, .ref a_codes, .int m_kinds, .int m_groups, .int m_tables])), (a_lengths, .inl (cG, 15, .inr (.inr (.inr (.inr (fun i => if i < 15 then some (aF_lengths i) else none))))))] := by
  refine CT.of (cc := cX4_lengthsBehind) (maxL := 3) (ret := (some (.array .int))) (by decide) rfl (Nat.le_of_ble_eq_true rfl) ?_
  intro p e s m below meth c A ls hx hb hr hml hts hown hlocks hK hA hP hD hS hl
  generalize hargs : ([.ref a_self, .int x1, .int x2] : List Value).toArray = args at hts ⊢
  generalize hQ : MQ below (ctQ D (some (.ref (aF_lengths rv))) [(a_self, .inr (4, [.ref a_symbols, .ref a_tableOfGroup, .ref a_lengths, .ref a_weights, .ref a_joiner, .ref a_codes, .int m_kinds, .int m_groups, .int m_tables])), (a_lengths, .inl (cG, 15, .inr (.inr (.inr (.inr (fun i => if i < 15 then some (aF_lengths i) else none))))))] A) args s 0 0 A = Q
  have hl : lv_has ls 3 [(0, .ref a_self), (1, .int x1), (2, .int x2)] := hl
  have hW : WS D A s [(a_self, .inr (4, [.ref a_symbols, .ref a_tableOfGroup, .ref a_lengths, .ref a_weights, .ref a_joiner, .ref a_codes, .int m_kinds, .int m_groups, .int m_tables])), (a_lengths, .inl (cG, 15, .inr (.inr (.inr (.inr (fun i => if i < 15 then some (aF_lengths i) else none))))))] s.heap [] := ⟨hP, hD, hS⟩
  clear hP hD hS
  unfold fRounds_lengthsBehind at hF
  have hw0 := hts (Cond.fieldLink RX4 20 "MoveFronts$Rounds" "lengths" "[[I") (by decide +kernel)
  have hi4 : ∀ w ∈ u_ws RX4 TX4 9, w ∈ wsX4_lengthsBehind := by decide +kernel
  refine lv_aload_n hx hb dX4_lengthsBehind_0 rfl (lv_at hl 0 rfl) ?_
  refine va_get (D := D) (ci := 4) (v := .ref a_lengths) (C := RX4) (T := TX4) (N := 9) hx hb hts hi4 hown hK.1 hW.1 0 rfl rfl 2 (by decide) hw0 (fun _ h9 => h9) rfl dX4_lengthsBehind_1 ?_
  refine lv_iload_n hx hb dX4_lengthsBehind_4 rfl (lv_at hl 1 rfl) ?_
  refine lv_iconst (v := 3) hx hb dX4_lengthsBehind_5 (by decide) ?_
  refine lv_imul hx hb dX4_lengthsBehind_6 ?_
  refine lv_iload_n hx hb dX4_lengthsBehind_7 rfl (lv_at hl 2 rfl) ?_
  refine lv_iadd hx hb dX4_lengthsBehind_8 ?_
  obtain ⟨g9, hF⟩ := gdI_some hF
  refine ct_aald hx hb hK.1 hW.1 1 3 rfl rfl rfl g9 (if_pos (in_lt g9)) dX4_lengthsBehind_9 ?_
  cases hF
  subst hQ
  exact ct_aret hx hb hr hlocks hW.1 hW.2.2 dX4_lengthsBehind_10
abbrev rmRounds_chooseTables : Room := { frames := 2, cells := 0, slots := 0, locals := 47 }
set_option maxHeartbeats 4000000 in
set_option maxRecDepth 100000 in
theorem kRounds_chooseTables (l : Launch) (D : va_G) (cI cZ cO cG : ClassId) (a_self : Nat) (a_symbols : Nat) (a_tableOfGroup : Nat) (a_lengths : Nat) (a_weights : Nat) (a_joiner : Nat) (a_codes : Nat) (a_symbols_values : Nat) (aF_tableOfGroup : Nat → Nat) (aF_lengths : Nat → Nat) (m_kinds : Int32) (m_groups : Int32) (m_tables : Int32) (m_symbols_count : Int32) (m_symbols_values : Nat → Int32) (M_tableOfGroup : Nat → Nat → Int32) (M_lengths : Nat → Nat → Int32) (x1 : Int32) {M_tableOfGroup' : Nat → Nat → Int32} (hF : fRounds_chooseTables m_kinds m_groups m_tables m_symbols_count m_symbols_values M_tableOfGroup M_lengths x1 = some M_tableOfGroup') : CT l yX4_chooseTables wsX4_chooseTables rmRounds_chooseTables D (tysG cI cZ cO cG) [.ref a_self, .int x1] [(a_self, .inr (4, [.ref a_symbols, .ref a_tableOfGroup, .ref a_lengths, .ref a_weights, .ref a_joiner, .ref a_codes, .int m_kinds, .int m_groups, .int m_tables])), (a_symbols, .inr (5, [.ref a_symbols_values, .int m_symbols_count])), (a_symbols_values, .inl (cI, 301, .inl m_symbols_values)), (a_tableOfGroup, .inl (cG, 5, .inr (.inr (.inr (.inr (fun i => if i < 5 then some (aF_tableOfGroup i) else none)))))), (aF_tableOfGroup 0, .inl (cI, 31, .inl (M_tableOfGroup 0))), (aF_tableOfGroup 1, .inl (cI, 31, .inl (M_tableOfGroup 1))), (aF_tableOfGroup 2, .inl (cI, 31, .inl (M_tableOfGroup 2))), (aF_tableOfGroup 3, .inl (cI, 31, .inl (M_tableOfGroup 3))), (aF_tableOfGroup 4, .inl (cI, 31, .inl (M_tableOfGroup 4))), (a_lengths, .inl (cG, 15, .inr (.inr (.inr (.inr (fun i => if i < 15 then some (aF_lengths i) else none)))))), (aF_lengths 0, .inl (cI, 258, .inl (M_lengths 0))), (aF_lengths 1, .inl (cI, 258, .inl (M_lengths 1))), (aF_lengths 2, .inl (cI, 258, .inl (M_lengths 2))), (aF_lengths 3, .inl (cI, 258, .inl (M_lengths 3))), (aF_lengths 4, .inl (cI, 258, .inl (M_lengths 4))), (aF_lengths 5, .inl (cI, 258, .inl (M_lengths 5))), (aF_lengths 6, .inl (cI, 258, .inl (M_lengths 6))), (aF_lengths 7, .inl (cI, 258, .inl (M_lengths 7))), (aF_lengths 8, .inl (cI, 258, .inl (M_lengths 8))), (aF_lengths 9, .inl (cI, 258, .inl (M_lengths 9))), (aF_lengths 10, .inl (cI, 258, .inl (M_lengths 10))), (aF_lengths 11, .inl (cI, 258, .inl (M_lengths 11))), (aF_lengths 12, .inl (cI, 258, .inl (M_lengths 12))), (aF_lengths 13, .inl (cI, 258, .inl (M_lengths 13))), (aF_lengths 14, .inl (cI, 258, .inl (M_lengths 14)))] none [(a_self, .inr (4, [.ref a_symbols, .ref a_tableOfGroup, .ref a_lengths, .ref a_weights, .ref a_joiner, .ref a_codes, .int m_kinds, .int m_groups, .int m_tables])), (a_symbols, .inr (5, [.ref a_symbols_values, .int m_symbols_count])), (a_symbols_values, .inl (cI, 301, .inl m_symbols_values)), (a_tableOfGroup, .inl (cG, 5, .inr (.inr (.inr (.inr (fun i => if i < 5 then some (aF_tableOfGroup i) else none)))))), (aF_tableOfGroup 0, .inl (cI, 31, .inl (M_tableOfGroup' 0))), (aF_tableOfGroup 1, .inl (cI, 31, .inl (M_tableOfGroup' 1))), (aF_tableOfGroup 2, .inl (cI, 31, .inl (M_tableOfGroup' 2))), (aF_tableOfGroup 3, .inl (cI, 31, .inl (M_tableOfGroup' 3))), (aF_tableOfGroup 4, .inl (cI, 31, .inl (M_tableOfGroup' 4))), (a_lengths, .inl (cG, 15, .inr (.inr (.inr (.inr (fun i => if i < 15 then some (aF_lengths i) else none)))))), (aF_lengths 0, .inl (cI, 258, .inl (M_lengths 0))), (aF_lengths 1, .inl (cI, 258, .inl (M_lengths 1))), (aF_lengths 2, .inl (cI, 258, .inl (M_lengths 2))), (aF_lengths 3, .inl (cI, 258, .inl (M_lengths 3))), (aF_lengths 4, .inl (cI, 258, .inl (M_lengths 4))), (aF_lengths 5, .inl (cI, 258, .inl (M_lengths 5))), (aF_lengths 6, .inl (cI, 258, .inl (M_lengths 6))), (aF_lengths 7, .inl (cI, 258, .inl (M_lengths 7))), (aF_lengths 8, .inl (cI, 258, .inl (M_lengths 8))), (aF_lengths 9, .inl (cI, 258, .inl (M_lengths 9))), (aF_lengths 10, .inl (cI, 258, .inl (M_lengths 10))), (aF_lengths 11, .inl (cI, 258, .inl (M_lengths 11))), (aF_lengths 12, .inl (cI, 258, .inl (M_lengths 12))), (aF_lengths 13, .inl (cI, 258, .inl (M_lengths 13))), (aF_lengths 14, .inl (cI, 258, .inl (M_lengths 14)))] := by
  refine CT.of (cc := cX4_chooseTables) (maxL := 7) (ret := none) (by decide) rfl (Nat.le_of_ble_eq_true rfl) ?_
  intro p e s m below meth c A ls hx hb hr hml hts hown hlocks hK hA hP hD hS hl
  generalize hargs : ([.ref a_self, .int x1] : List Value).toArray = args at hts ⊢
  generalize hQ : MQ below (ctQ D none [(a_self, .inr (4, [.ref a_symbols, .ref a_tableOfGroup, .ref a_lengths, .ref a_weights, .ref a_joiner, .ref a_codes, .int m_kinds, .int m_groups, .int m_tables])), (a_symbols, .inr (5, [.ref a_symbols_values, .int m_symbols_count])), (a_symbols_values, .inl (cI, 301, .inl m_symbols_values)), (a_tableOfGroup, .inl (cG, 5, .inr (.inr (.inr (.inr (fun i => if i < 5 then some (aF_tableOfGroup i) else none)))))), (aF_tableOfGroup 0, .inl (cI, 31, .inl (M_tableOfGroup' 0))), (aF_tableOfGroup 1, .inl (cI, 31, .inl (M_tableOfGroup' 1))), (aF_tableOfGroup 2, .inl (cI, 31, .inl (M_tableOfGroup' 2))), (aF_tableOfGroup 3, .inl (cI, 31, .inl (M_tableOfGroup' 3))), (aF_tableOfGroup 4, .inl (cI, 31, .inl (M_tableOfGroup' 4))), (a_lengths, .inl (cG, 15, .inr (.inr (.inr (.inr (fun i => if i < 15 then some (aF_lengths i) else none)))))), (aF_lengths 0, .inl (cI, 258, .inl (M_lengths 0))), (aF_lengths 1, .inl (cI, 258, .inl (M_lengths 1))), (aF_lengths 2, .inl (cI, 258, .inl (M_lengths 2))), (aF_lengths 3, .inl (cI, 258, .inl (M_lengths 3))), (aF_lengths 4, .inl (cI, 258, .inl (M_lengths 4))), (aF_lengths 5, .inl (cI, 258, .inl (M_lengths 5))), (aF_lengths 6, .inl (cI, 258, .inl (M_lengths 6))), (aF_lengths 7, .inl (cI, 258, .inl (M_lengths 7))), (aF_lengths 8, .inl (cI, 258, .inl (M_lengths 8))), (aF_lengths 9, .inl (cI, 258, .inl (M_lengths 9))), (aF_lengths 10, .inl (cI, 258, .inl (M_lengths 10))), (aF_lengths 11, .inl (cI, 258, .inl (M_lengths 11))), (aF_lengths 12, .inl (cI, 258, .inl (M_lengths 12))), (aF_lengths 13, .inl (cI, 258, .inl (M_lengths 13))), (aF_lengths 14, .inl (cI, 258, .inl (M_lengths 14)))] A) args s 0 0 A = Q
  have hl : lv_has ls 7 [(0, .ref a_self), (1, .int x1)] := hl
  have hW : WS D A s [(a_self, .inr (4, [.ref a_symbols, .ref a_tableOfGroup, .ref a_lengths, .ref a_weights, .ref a_joiner, .ref a_codes, .int m_kinds, .int m_groups, .int m_tables])), (a_symbols, .inr (5, [.ref a_symbols_values, .int m_symbols_count])), (a_symbols_values, .inl (cI, 301, .inl m_symbols_values)), (a_tableOfGroup, .inl (cG, 5, .inr (.inr (.inr (.inr (fun i => if i < 5 then some (aF_tableOfGroup i) else none)))))), (aF_tableOfGroup 0, .inl (cI, 31, .inl (M_tableOfGroup 0))), (aF_tableOfGroup 1, .inl (cI, 31, .inl (M_tableOfGroup 1))), (aF_tableOfGroup 2, .inl (cI, 31, .inl (M_tableOfGroup 2))), (aF_tableOfGroup 3, .inl (cI, 31, .inl (M_tableOfGroup 3))), (aF_tableOfGroup 4, .inl (cI, 31, .inl (M_tableOfGroup 4))), (a_lengths, .inl (cG, 15, .inr (.inr (.inr (.inr (fun i => if i < 15 then some (aF_lengths i) else none)))))), (aF_lengths 0, .inl (cI, 258, .inl (M_lengths 0))), (aF_lengths 1, .inl (cI, 258, .inl (M_lengths 1))), (aF_lengths 2, .inl (cI, 258, .inl (M_lengths 2))), (aF_lengths 3, .inl (cI, 258, .inl (M_lengths 3))), (aF_lengths 4, .inl (cI, 258, .inl (M_lengths 4))), (aF_lengths 5, .inl (cI, 258, .inl (M_lengths 5))), (aF_lengths 6, .inl (cI, 258, .inl (M_lengths 6))), (aF_lengths 7, .inl (cI, 258, .inl (M_lengths 7))), (aF_lengths 8, .inl (cI, 258, .inl (M_lengths 8))), (aF_lengths 9, .inl (cI, 258, .inl (M_lengths 9))), (aF_lengths 10, .inl (cI, 258, .inl (M_lengths 10))), (aF_lengths 11, .inl (cI, 258, .inl (M_lengths 11))), (aF_lengths 12, .inl (cI, 258, .inl (M_lengths 12))), (aF_lengths 13, .inl (cI, 258, .inl (M_lengths 13))), (aF_lengths 14, .inl (cI, 258, .inl (M_lengths 14)))] s.heap [] := ⟨hP, hD, hS⟩
  clear hP hD hS
  unfold fRounds_chooseTables at hF
  have hw0 := hts (Cond.fieldLink RX4 47 "MoveFronts$Rounds" "groups" "I") (by decide +kernel)
  have hw1 := hts (Cond.fieldLink RX4 17 "MoveFronts$Rounds" "tableOfGroup" "[[I") (by decide +kernel)
  have hw2 := hts (Cond.fieldLink RX4 50 "MoveFronts$Rounds" "tables" "I") (by decide +kernel)
  have hi4 : ∀ w ∈ u_ws RX4 TX4 9, w ∈ wsX4_chooseTables := by decide +kernel
  refine lv_iconst (v := 0) hx hb dX4_chooseTables_0 (by decide) ?_
  refine lv_istore_n (lv' := [(2, .int (0 : Int32)), (0, .ref a_self), (1, .int x1)]) hx hb dX4_chooseTables_1 rfl hl (by decide) rfl (fun ls hl => ?_)
  obtain ⟨M_tableOfGroup_2ze, hI, hF⟩ := bd1_some hF
  obtain ⟨nn, hI⟩ := itrO_some hI
  have hX2 : ∀ (M_tableOfGroup_2z : Nat → Nat → Int32), M_tableOfGroup_2z = M_tableOfGroup_2ze → ∀ (H : Heap) (locs : List Loc), WS D A s [(a_self, .inr (4, [.ref a_symbols, .ref a_tableOfGroup, .ref a_lengths, .ref a_weights, .ref a_joiner, .ref a_codes, .int m_kinds, .int m_groups, .int m_tables])), (a_symbols, .inr (5, [.ref a_symbols_values, .int m_symbols_count])), (a_symbols_values, .inl (cI, 301, .inl m_symbols_values)), (a_tableOfGroup, .inl (cG, 5, .inr (.inr (.inr (.inr (fun i => if i < 5 then some (aF_tableOfGroup i) else none)))))), (aF_tableOfGroup 0, .inl (cI, 31, .inl (M_tableOfGroup_2z 0))), (aF_tableOfGroup 1, .inl (cI, 31, .inl (M_tableOfGroup_2z 1))), (aF_tableOfGroup 2, .inl (cI, 31, .inl (M_tableOfGroup_2z 2))), (aF_tableOfGroup 3, .inl (cI, 31, .inl (M_tableOfGroup_2z 3))), (aF_tableOfGroup 4, .inl (cI, 31, .inl (M_tableOfGroup_2z 4))), (a_lengths, .inl (cG, 15, .inr (.inr (.inr (.inr (fun i => if i < 15 then some (aF_lengths i) else none)))))), (aF_lengths 0, .inl (cI, 258, .inl (M_lengths 0))), (aF_lengths 1, .inl (cI, 258, .inl (M_lengths 1))), (aF_lengths 2, .inl (cI, 258, .inl (M_lengths 2))), (aF_lengths 3, .inl (cI, 258, .inl (M_lengths 3))), (aF_lengths 4, .inl (cI, 258, .inl (M_lengths 4))), (aF_lengths 5, .inl (cI, 258, .inl (M_lengths 5))), (aF_lengths 6, .inl (cI, 258, .inl (M_lengths 6))), (aF_lengths 7, .inl (cI, 258, .inl (M_lengths 7))), (aF_lengths 8, .inl (cI, 258, .inl (M_lengths 8))), (aF_lengths 9, .inl (cI, 258, .inl (M_lengths 9))), (aF_lengths 10, .inl (cI, 258, .inl (M_lengths 10))), (aF_lengths 11, .inl (cI, 258, .inl (M_lengths 11))), (aF_lengths 12, .inl (cI, 258, .inl (M_lengths 12))), (aF_lengths 13, .inl (cI, 258, .inl (M_lengths 13))), (aF_lengths 14, .inl (cI, 258, .inl (M_lengths 14)))] H locs → ∀ ls : Array Slot, lv_has ls 7 [] → W p l e (headSpec wsX4_chooseTables rmRounds_chooseTables).room s m args below meth c H locs 0 0 Q (F0 m 90 ls []) := by
    intro M_tableOfGroup_2z he H locs hW ls hl
    subst he
    cases hF
    subst hQ
    exact ct_vret hx hb hr hlocks hW.1 hW.2.2 dX4_chooseTables_90
  have hL2 : ∀ (n2 : Nat) (x2_2 : Int32) (M_tableOfGroup_2 : Nat → Nat → Int32), itr (un2 (fRounds_chooseTables_L2 m_kinds m_groups m_tables m_symbols_count m_symbols_values M_lengths x1)) n2 (x2_2, M_tableOfGroup_2) = some M_tableOfGroup_2ze → ∀ (H : Heap) (locs : List Loc), WS D A s [(a_self, .inr (4, [.ref a_symbols, .ref a_tableOfGroup, .ref a_lengths, .ref a_weights, .ref a_joiner, .ref a_codes, .int m_kinds, .int m_groups, .int m_tables])), (a_symbols, .inr (5, [.ref a_symbols_values, .int m_symbols_count])), (a_symbols_values, .inl (cI, 301, .inl m_symbols_values)), (a_tableOfGroup, .inl (cG, 5, .inr (.inr (.inr (.inr (fun i => if i < 5 then some (aF_tableOfGroup i) else none)))))), (aF_tableOfGroup 0, .inl (cI, 31, .inl (M_tableOfGroup_2 0))), (aF_tableOfGroup 1, .inl (cI, 31, .inl (M_tableOfGroup_2 1))), (aF_tableOfGroup 2, .inl (cI, 31, .inl (M_tableOfGroup_2 2))), (aF_tableOfGroup 3, .inl (cI, 31, .inl (M_tableOfGroup_2 3))), (aF_tableOfGroup 4, .inl (cI, 31, .inl (M_tableOfGroup_2 4))), (a_lengths, .inl (cG, 15, .inr (.inr (.inr (.inr (fun i => if i < 15 then some (aF_lengths i) else none)))))), (aF_lengths 0, .inl (cI, 258, .inl (M_lengths 0))), (aF_lengths 1, .inl (cI, 258, .inl (M_lengths 1))), (aF_lengths 2, .inl (cI, 258, .inl (M_lengths 2))), (aF_lengths 3, .inl (cI, 258, .inl (M_lengths 3))), (aF_lengths 4, .inl (cI, 258, .inl (M_lengths 4))), (aF_lengths 5, .inl (cI, 258, .inl (M_lengths 5))), (aF_lengths 6, .inl (cI, 258, .inl (M_lengths 6))), (aF_lengths 7, .inl (cI, 258, .inl (M_lengths 7))), (aF_lengths 8, .inl (cI, 258, .inl (M_lengths 8))), (aF_lengths 9, .inl (cI, 258, .inl (M_lengths 9))), (aF_lengths 10, .inl (cI, 258, .inl (M_lengths 10))), (aF_lengths 11, .inl (cI, 258, .inl (M_lengths 11))), (aF_lengths 12, .inl (cI, 258, .inl (M_lengths 12))), (aF_lengths 13, .inl (cI, 258, .inl (M_lengths 13))), (aF_lengths 14, .inl (cI, 258, .inl (M_lengths 14)))] H locs → ∀ ls : Array Slot, lv_has ls 7 [(0, .ref a_self), (1, .int x1), (2, .int x2_2)] → W p l e (headSpec wsX4_chooseTables rmRounds_chooseTables).room s m args below meth c H locs 0 0 Q (F0 m 2 ls []) := by
    intro n2
    induction n2 with
    | zero => intro x2_2 M_tableOfGroup_2 hI; cases hI
    | succ n2 ih2 =>
      intro x2_2 M_tableOfGroup_2 hI H locs hW ls hl
      obtain ⟨sr2, hF, hN2⟩ := itr_succ hI
      have hF : fRounds_chooseTables_L2 m_kinds m_groups m_tables m_symbols_count m_symbols_values M_lengths x1 x2_2 M_tableOfGroup_2 = some sr2 := hF
      unfold fRounds_chooseTables_L2 at hF
      refine lv_iload_n hx hb dX4_chooseTables_2 rfl (lv_at hl 2 rfl) ?_
      refine lv_aload_n hx hb dX4_chooseTables_3 rfl (lv_at hl 0 rfl) ?_
      refine va_get (D := D) (ci := 4) (v := .int m_groups) (C := RX4) (T := TX4) (N := 9) hx hb hts hi4 hown hK.1 hW.1 0 rfl rfl 7 (by decide) hw0 (fun _ h9 => h9) rfl dX4_chooseTables_4 ?_
      refine lv_icmp_ge (tgt := 90) hx hb dX4_chooseTables_7 (by decide) (fun c7 => ?_) (fun c7 => ?_)
      · rw [if_pos c7] at hF
        cases hF
        exact hX2 _ (itr_out hN2) _ _ hW _ (lv_sub hl [] rfl)
      · rw [if_neg c7] at hF
        refine lv_iconst (v := 0) hx hb dX4_chooseTables_10 (by decide) ?_
        refine lv_istore_n (lv' := [(3, .int (0 : Int32)), (0, .ref a_self), (1, .int x1), (2, .int x2_2)]) hx hb dX4_chooseTables_11 rfl hl (by decide) rfl (fun ls hl => ?_)
        refine lv_aload_n hx hb dX4_chooseTables_12 rfl (lv_at hl 1 rfl) ?_
        refine lv_iload_n hx hb dX4_chooseTables_13 rfl (lv_at hl 3 rfl) ?_
        refine lv_aload_n hx hb dX4_chooseTables_14 rfl (lv_at hl 1 rfl) ?_
        refine lv_iload_n hx hb dX4_chooseTables_15 rfl (lv_at hl 2 rfl) ?_
        refine lv_iconst (v := 1) hx hb dX4_chooseTables_16 (by decide) ?_
        refine lv_isub hx hb dX4_chooseTables_17 ?_
        refine lv_iconst (v := 0) hx hb dX4_chooseTables_18 (by decide) ?_
        obtain ⟨r_19, e19, hF⟩ := bd1_some hF
        refine ctV (r := (RX4, TX4, 9)) (As := [.int (x1 - (1 : Int32)), .int (0 : Int32)]) (rest := [.int x2_2, .ref a_self]) hx hb hml hown hts hK hW.1 hW.2.1 hW.2.2 hA hl.1 (kRounds_lengthsBehind l D cI cZ cO cG a_self a_symbols a_tableOfGroup a_lengths a_weights a_joiner a_codes aF_lengths m_kinds m_groups m_tables (x1 - (1 : Int32)) (0 : Int32) e19) (cwV 2 hts gX4_chooseTables_X4_lengthsBehind rfl rfl rfl (by decide +kernel) ⟨Nat.le_of_ble_eq_true rfl, Nat.le_of_ble_eq_true rfl⟩) 4 0 rfl rfl [0, 9] rfl rfl rfl rfl rfl (Nat.le_of_ble_eq_true rfl) rfl ⟨Nat.zero_le _, Nat.zero_le _⟩ dX4_chooseTables_19 (fun H locs hP hD hS => ?_)
        have hW : WS D A s [(a_self, .inr (4, [.ref a_symbols, .ref a_tableOfGroup, .ref a_lengths, .ref a_weights, .ref a_joiner, .ref a_codes, .int m_kinds, .int m_groups, .int m_tables])), (a_symbols, .inr (5, [.ref a_symbols_values, .int m_symbols_count])), (a_symbols_values, .inl (cI, 301, .inl m_symbols_values)), (a_tableOfGroup, .inl (cG, 5, .inr (.inr (.inr (.inr (fun i => if i < 5 then some (aF_tableOfGroup i) else none)))))), (aF_tableOfGroup 0, .inl (cI, 31, .inl (M_tableOfGroup_2 0))), (aF_tableOfGroup 1, .inl (cI, 31, .inl (M_tableOfGroup_2 1))), (aF_tableOfGroup 2, .inl (cI, 31, .inl (M_tableOfGroup_2 2))), (aF_tableOfGroup 3, .inl (cI, 31, .inl (M_tableOfGroup_2 3))), (aF_tableOfGroup 4, .inl (cI, 31, .inl (M_tableOfGroup_2 4))), (a_lengths, .inl (cG, 15, .inr (.inr (.inr (.inr (fun i => if i < 15 then some (aF_lengths i) else none)))))), (aF_lengths 0, .inl (cI, 258, .inl (M_lengths 0))), (aF_lengths 1, .inl (cI, 258, .inl (M_lengths 1))), (aF_lengths 2, .inl (cI, 258, .inl (M_lengths 2))), (aF_lengths 3, .inl (cI, 258, .inl (M_lengths 3))), (aF_lengths 4, .inl (cI, 258, .inl (M_lengths 4))), (aF_lengths 5, .inl (cI, 258, .inl (M_lengths 5))), (aF_lengths 6, .inl (cI, 258, .inl (M_lengths 6))), (aF_lengths 7, .inl (cI, 258, .inl (M_lengths 7))), (aF_lengths 8, .inl (cI, 258, .inl (M_lengths 8))), (aF_lengths 9, .inl (cI, 258, .inl (M_lengths 9))), (aF_lengths 10, .inl (cI, 258, .inl (M_lengths 10))), (aF_lengths 11, .inl (cI, 258, .inl (M_lengths 11))), (aF_lengths 12, .inl (cI, 258, .inl (M_lengths 12))), (aF_lengths 13, .inl (cI, 258, .inl (M_lengths 13))), (aF_lengths 14, .inl (cI, 258, .inl (M_lengths 14)))] H locs := ⟨hP, hD, hS⟩
        obtain ⟨r_22, e22, hF⟩ := bd1_some hF
        refine ctV (r := (RX4, TX4, 9)) (As := [.int x2_2, .ref (aF_lengths r_19)]) (rest := []) hx hb hml hown hts hK hW.1 hW.2.1 hW.2.2 hA hl.1 (kRounds_bitsOfGroup l D cI cZ cO cG a_self a_symbols a_tableOfGroup a_lengths a_weights a_joiner a_codes a_symbols_values aF_lengths m_kinds m_groups m_tables m_symbols_count m_symbols_values M_lengths x2_2 r_19 (lt_lengthsBehind e19) e22) (cwV 2 hts gX4_chooseTables_X4_bitsOfGroup rfl rfl rfl (by decide +kernel) ⟨Nat.le_of_ble_eq_true rfl, Nat.le_of_ble_eq_true rfl⟩) 4 0 rfl rfl [0, 1, 2, 10, 11, 12, 13, 14, 15, 16, 17, 18, 19, 20, 21, 22, 23, 24] rfl rfl rfl rfl rfl (Nat.le_of_ble_eq_true rfl) rfl ⟨Nat.zero_le _, Nat.zero_le _⟩ dX4_chooseTables_22 (fun H locs hP hD hS => ?_)
        have hW : WS D A s [(a_self, .inr (4, [.ref a_symbols, .ref a_tableOfGroup, .ref a_lengths, .ref a_weights, .ref a_joiner, .ref a_codes, .int m_kinds, .int m_groups, .int m_tables])), (a_symbols, .inr (5, [.ref a_symbols_values, .int m_symbols_count])), (a_symbols_values, .inl (cI, 301, .inl m_symbols_values)), (a_tableOfGroup, .inl (cG, 5, .inr (.inr (.inr (.inr (fun i => if i < 5 then some (aF_tableOfGroup i) else none)))))), (aF_tableOfGroup 0, .inl (cI, 31, .inl (M_tableOfGroup_2 0))), (aF_tableOfGroup 1, .inl (cI, 31, .inl (M_tableOfGroup_2 1))), (aF_tableOfGroup 2, .inl (cI, 31, .inl (M_tableOfGroup_2 2))), (aF_tableOfGroup 3, .inl (cI, 31, .inl (M_tableOfGroup_2 3))), (aF_tableOfGroup 4, .inl (cI, 31, .inl (M_tableOfGroup_2 4))), (a_lengths, .inl (cG, 15, .inr (.inr (.inr (.inr (fun i => if i < 15 then some (aF_lengths i) else none)))))), (aF_lengths 0, .inl (cI, 258, .inl (M_lengths 0))), (aF_lengths 1, .inl (cI, 258, .inl (M_lengths 1))), (aF_lengths 2, .inl (cI, 258, .inl (M_lengths 2))), (aF_lengths 3, .inl (cI, 258, .inl (M_lengths 3))), (aF_lengths 4, .inl (cI, 258, .inl (M_lengths 4))), (aF_lengths 5, .inl (cI, 258, .inl (M_lengths 5))), (aF_lengths 6, .inl (cI, 258, .inl (M_lengths 6))), (aF_lengths 7, .inl (cI, 258, .inl (M_lengths 7))), (aF_lengths 8, .inl (cI, 258, .inl (M_lengths 8))), (aF_lengths 9, .inl (cI, 258, .inl (M_lengths 9))), (aF_lengths 10, .inl (cI, 258, .inl (M_lengths 10))), (aF_lengths 11, .inl (cI, 258, .inl (M_lengths 11))), (aF_lengths 12, .inl (cI, 258, .inl (M_lengths 12))), (aF_lengths 13, .inl (cI, 258, .inl (M_lengths 13))), (aF_lengths 14, .inl (cI, 258, .inl (M_lengths 14)))] H locs := ⟨hP, hD, hS⟩
        refine lv_istore (lv' := [(4, .int r_22), (3, .int (0 : Int32)), (0, .ref a_self), (1, .int x1), (2, .int x2_2)]) hx hb dX4_chooseTables_25 hl (by decide) rfl (fun ls hl => ?_)
        refine lv_iconst (v := 1) hx hb dX4_chooseTables_27 (by decide) ?_
        refine lv_istore (lv' := [(5, .int (1 : Int32)), (4, .int r_22), (3, .int (0 : Int32)), (0, .ref a_self), (1, .int x1), (2, .int x2_2)]) hx hb dX4_chooseTables_28 hl (by decide) rfl (fun ls hl => ?_)
        obtain ⟨x3_30ze, hI, hF⟩ := bd1_some hF
        obtain ⟨nn, hI⟩ := itrO_some hI
        have hX30 : ∀ (x3_30z : Int32), x3_30z = x3_30ze → ∀ (H : Heap) (locs : List Loc), WS D A s [(a_self, .inr (4, [.ref a_symbols, .ref a_tableOfGroup, .ref a_lengths, .ref a_weights, .ref a_joiner, .ref a_codes, .int m_kinds, .int m_groups, .int m_tables])), (a_symbols, .inr (5, [.ref a_symbols_values, .int m_symbols_count])), (a_symbols_values, .inl (cI, 301, .inl m_symbols_values)), (a_tableOfGroup, .inl (cG, 5, .inr (.inr (.inr (.inr (fun i => if i < 5 then some (aF_tableOfGroup i) else none)))))), (aF_tableOfGroup 0, .inl (cI, 31, .inl (M_tableOfGroup_2 0))), (aF_tableOfGroup 1, .inl (cI, 31, .inl (M_tableOfGroup_2 1))), (aF_tableOfGroup 2, .inl (cI, 31, .inl (M_tableOfGroup_2 2))), (aF_tableOfGroup 3, .inl (cI, 31, .inl (M_tableOfGroup_2 3))), (aF_tableOfGroup 4, .inl (cI, 31, .inl (M_tableOfGroup_2 4))), (a_lengths, .inl (cG, 15, .inr (.inr (.inr (.inr (fun i => if i < 15 then some (aF_lengths i) else none)))))), (aF_lengths 0, .inl (cI, 258, .inl (M_lengths 0))), (aF_lengths 1, .inl (cI, 258, .inl (M_lengths 1))), (aF_lengths 2, .inl (cI, 258, .inl (M_lengths 2))), (aF_lengths 3, .inl (cI, 258, .inl (M_lengths 3))), (aF_lengths 4, .inl (cI, 258, .inl (M_lengths 4))), (aF_lengths 5, .inl (cI, 258, .inl (M_lengths 5))), (aF_lengths 6, .inl (cI, 258, .inl (M_lengths 6))), (aF_lengths 7, .inl (cI, 258, .inl (M_lengths 7))), (aF_lengths 8, .inl (cI, 258, .inl (M_lengths 8))), (aF_lengths 9, .inl (cI, 258, .inl (M_lengths 9))), (aF_lengths 10, .inl (cI, 258, .inl (M_lengths 10))), (aF_lengths 11, .inl (cI, 258, .inl (M_lengths 11))), (aF_lengths 12, .inl (cI, 258, .inl (M_lengths 12))), (aF_lengths 13, .inl (cI, 258, .inl (M_lengths 13))), (aF_lengths 14, .inl (cI, 258, .inl (M_lengths 14)))] H locs → ∀ ls : Array Slot, lv_has ls 7 [(0, .ref a_self), (1, .int x1), (2, .int x2_2), (3, .int x3_30z)] → W p l e (headSpec wsX4_chooseTables rmRounds_chooseTables).room s m args below meth c H locs 0 0 Q (F0 m 75 ls []) := by
          intro x3_30z he H locs hW ls hl
          subst he
          refine lv_aload_n hx hb dX4_chooseTables_75 rfl (lv_at hl 0 rfl) ?_
          refine va_get (D := D) (ci := 4) (v := .ref a_tableOfGroup) (C := RX4) (T := TX4) (N := 9) hx hb hts hi4 hown hK.1 hW.1 0 rfl rfl 1 (by decide) hw1 (fun _ h9 => h9) rfl dX4_chooseTables_76 ?_
          refine lv_iload_n hx hb dX4_chooseTables_79 rfl (lv_at hl 1 rfl) ?_
          obtain ⟨g80, hF⟩ := gdI_some hF
          refine ct_aald hx hb hK.1 hW.1 3 3 rfl rfl rfl g80 (if_pos (in_lt g80)) dX4_chooseTables_80 ?_
          refine lv_iload_n hx hb dX4_chooseTables_81 rfl (lv_at hl 2 rfl) ?_
          refine lv_iload_n hx hb dX4_chooseTables_82 rfl (lv_at hl 3 rfl) ?_
          obtain ⟨g83, hF⟩ := gdI_some hF
          refine fm_iast hx hb hK.1 hW 4 5 (cA := cI) (len := 31) (aF := aF_tableOfGroup) (M := M_tableOfGroup_2) rfl (in_lt g80) rfl g83 dX4_chooseTables_83 (wn := [(a_self, .inr (4, [.ref a_symbols, .ref a_tableOfGroup, .ref a_lengths, .ref a_weights, .ref a_joiner, .ref a_codes, .int m_kinds, .int m_groups, .int m_tables])), (a_symbols, .inr (5, [.ref a_symbols_values, .int m_symbols_count])), (a_symbols_values, .inl (cI, 301, .inl m_symbols_values)), (a_tableOfGroup, .inl (cG, 5, .inr (.inr (.inr (.inr (fun i => if i < 5 then some (aF_tableOfGroup i) else none)))))), (aF_tableOfGroup 0, .inl (cI, 31, .inl ((va_up M_tableOfGroup_2 x1.toNatClampNeg (upd (M_tableOfGroup_2 x1.toNatClampNeg) x2_2.toNatClampNeg x3_30z)) 0))), (aF_tableOfGroup 1, .inl (cI, 31, .inl ((va_up M_tableOfGroup_2 x1.toNatClampNeg (upd (M_tableOfGroup_2 x1.toNatClampNeg) x2_2.toNatClampNeg x3_30z)) 1))), (aF_tableOfGroup 2, .inl (cI, 31, .inl ((va_up M_tableOfGroup_2 x1.toNatClampNeg (upd (M_tableOfGroup_2 x1.toNatClampNeg) x2_2.toNatClampNeg x3_30z)) 2))), (aF_tableOfGroup 3, .inl (cI, 31, .inl ((va_up M_tableOfGroup_2 x1.toNatClampNeg (upd (M_tableOfGroup_2 x1.toNatClampNeg) x2_2.toNatClampNeg x3_30z)) 3))), (aF_tableOfGroup 4, .inl (cI, 31, .inl ((va_up M_tableOfGroup_2 x1.toNatClampNeg (upd (M_tableOfGroup_2 x1.toNatClampNeg) x2_2.toNatClampNeg x3_30z)) 4))), (a_lengths, .inl (cG, 15, .inr (.inr (.inr (.inr (fun i => if i < 15 then some (aF_lengths i) else none)))))), (aF_lengths 0, .inl (cI, 258, .inl (M_lengths 0))), (aF_lengths 1, .inl (cI, 258, .inl (M_lengths 1))), (aF_lengths 2, .inl (cI, 258, .inl (M_lengths 2))), (aF_lengths 3, .inl (cI, 258, .inl (M_lengths 3))), (aF_lengths 4, .inl (cI, 258, .inl (M_lengths 4))), (aF_lengths 5, .inl (cI, 258, .inl (M_lengths 5))), (aF_lengths 6, .inl (cI, 258, .inl (M_lengths 6))), (aF_lengths 7, .inl (cI, 258, .inl (M_lengths 7))), (aF_lengths 8, .inl (cI, 258, .inl (M_lengths 8))), (aF_lengths 9, .inl (cI, 258, .inl (M_lengths 9))), (aF_lengths 10, .inl (cI, 258, .inl (M_lengths 10))), (aF_lengths 11, .inl (cI, 258, .inl (M_lengths 11))), (aF_lengths 12, .inl (cI, 258, .inl (M_lengths 12))), (aF_lengths 13, .inl (cI, 258, .inl (M_lengths 13))), (aF_lengths 14, .inl (cI, 258, .inl (M_lengths 14)))]) rfl (fun H locs hW => ?_)
          refine lv_iinc (v := (x2_2 + 1)) (lv' := [(2, .int (x2_2 + 1)), (0, .ref a_self), (1, .int x1), (3, .int x3_30z)]) hx hb dX4_chooseTables_84 hl (k := 2) rfl rfl (by decide) rfl (fun ls hl => ?_)
          refine lv_goto (tgt := 2) hx hb dX4_chooseTables_87 (by decide) ?_
          cases hF
          exact ih2 _ _ (itr_in hN2) _ _ hW _ (lv_sub hl [1, 2, 0] rfl)
        have hL30 : ∀ (n30 : Nat) (x3_30 : Int32) (x4_30 : Int32) (x5_30 : Int32), itr (un3 (fRounds_chooseTables_L30 m_kinds m_tables m_symbols_count m_symbols_values M_lengths x1 x2_2)) n30 (x3_30, x4_30, x5_30) = some x3_30ze → ∀ (H : Heap) (locs : List Loc), WS D A s [(a_self, .inr (4, [.ref a_symbols, .ref a_tableOfGroup, .ref a_lengths, .ref a_weights, .ref a_joiner, .ref a_codes, .int m_kinds, .int m_groups, .int m_tables])), (a_symbols, .inr (5, [.ref a_symbols_values, .int m_symbols_count])), (a_symbols_values, .inl (cI, 301, .inl m_symbols_values)), (a_tableOfGroup, .inl (cG, 5, .inr (.inr (.inr (.inr (fun i => if i < 5 then some (aF_tableOfGroup i) else none)))))), (aF_tableOfGroup 0, .inl (cI, 31, .inl (M_tableOfGroup_2 0))), (aF_tableOfGroup 1, .inl (cI, 31, .inl (M_tableOfGroup_2 1))), (aF_tableOfGroup 2, .inl (cI, 31, .inl (M_tableOfGroup_2 2))), (aF_tableOfGroup 3, .inl (cI, 31, .inl (M_tableOfGroup_2 3))), (aF_tableOfGroup 4, .inl (cI, 31, .inl (M_tableOfGroup_2 4))), (a_lengths, .inl (cG, 15, .inr (.inr (.inr (.inr (fun i => if i < 15 then some (aF_lengths i) else none)))))), (aF_lengths 0, .inl (cI, 258, .inl (M_lengths 0))), (aF_lengths 1, .inl (cI, 258, .inl (M_lengths 1))), (aF_lengths 2, .inl (cI, 258, .inl (M_lengths 2))), (aF_lengths 3, .inl (cI, 258, .inl (M_lengths 3))), (aF_lengths 4, .inl (cI, 258, .inl (M_lengths 4))), (aF_lengths 5, .inl (cI, 258, .inl (M_lengths 5))), (aF_lengths 6, .inl (cI, 258, .inl (M_lengths 6))), (aF_lengths 7, .inl (cI, 258, .inl (M_lengths 7))), (aF_lengths 8, .inl (cI, 258, .inl (M_lengths 8))), (aF_lengths 9, .inl (cI, 258, .inl (M_lengths 9))), (aF_lengths 10, .inl (cI, 258, .inl (M_lengths 10))), (aF_lengths 11, .inl (cI, 258, .inl (M_lengths 11))), (aF_lengths 12, .inl (cI, 258, .inl (M_lengths 12))), (aF_lengths 13, .inl (cI, 258, .inl (M_lengths 13))), (aF_lengths 14, .inl (cI, 258, .inl (M_lengths 14)))] H locs → ∀ ls : Array Slot, lv_has ls 7 [(0, .ref a_self), (1, .int x1), (2, .int x2_2), (3, .int x3_30), (4, .int x4_30), (5, .int x5_30)] → W p l e (headSpec wsX4_chooseTables rmRounds_chooseTables).room s m args below meth c H locs 0 0 Q (F0 m 30 ls []) := by
          intro n30
          induction n30 with
          | zero => intro x3_30 x4_30 x5_30 hI; cases hI
          | succ n30 ih30 =>
            intro x3_30 x4_30 x5_30 hI H locs hW ls hl
            obtain ⟨sr30, hF, hN30⟩ := itr_succ hI
            have hF : fRounds_chooseTables_L30 m_kinds m_tables m_symbols_count m_symbols_values M_lengths x1 x2_2 x3_30 x4_30 x5_30 = some sr30 := hF
            unfold fRounds_chooseTables_L30 at hF
            refine lv_iload hx hb dX4_chooseTables_30 (lv_at hl 5 rfl) ?_
            refine lv_aload_n hx hb dX4_chooseTables_32 rfl (lv_at hl 0 rfl) ?_
            refine va_get (D := D) (ci := 4) (v := .int m_tables) (C := RX4) (T := TX4) (N := 9) hx hb hts hi4 hown hK.1 hW.1 0 rfl rfl 8 (by decide) hw2 (fun _ h9 => h9) rfl dX4_chooseTables_33 ?_
            refine lv_icmp_ge (tgt := 75) hx hb dX4_chooseTables_36 (by decide) (fun c36 => ?_) (fun c36 => ?_)
            · rw [if_pos c36] at hF
              cases hF
              exact hX30 _ (itr_out hN30) _ _ hW _ (lv_sub hl [0, 1, 2, 3] rfl)
            · rw [if_neg c36] at hF
              refine lv_aload_n hx hb dX4_chooseTables_39 rfl (lv_at hl 0 rfl) ?_
              refine lv_iload_n hx hb dX4_chooseTables_40 rfl (lv_at hl 2 rfl) ?_
              refine lv_aload_n hx hb dX4_chooseTables_41 rfl (lv_at hl 0 rfl) ?_
              refine lv_iload_n hx hb dX4_chooseTables_42 rfl (lv_at hl 1 rfl) ?_
              refine lv_iconst (v := 1) hx hb dX4_chooseTables_43 (by decide) ?_
              refine lv_isub hx hb dX4_chooseTables_44 ?_
              refine lv_iload hx hb dX4_chooseTables_45 (lv_at hl 5 rfl) ?_
              obtain ⟨r_47, e47, hF⟩ := bd1_some hF
              refine ctV (r := (RX4, TX4, 9)) (As := [.int (x1 - (1 : Int32)), .int x5_30]) (rest := [.int x2_2, .ref a_self]) hx hb hml hown hts hK hW.1 hW.2.1 hW.2.2 hA hl.1 (kRounds_lengthsBehind l D cI cZ cO cG a_self a_symbols a_tableOfGroup a_lengths a_weights a_joiner a_codes aF_lengths m_kinds m_groups m_tables (x1 - (1 : Int32)) x5_30 e47) (cwV 2 hts gX4_chooseTables_X4_lengthsBehind rfl rfl rfl (by decide +kernel) ⟨Nat.le_of_ble_eq_true rfl, Nat.le_of_ble_eq_true rfl⟩) 4 0 rfl rfl [0, 9] rfl rfl rfl rfl rfl (Nat.le_of_ble_eq_true rfl) rfl ⟨Nat.zero_le _, Nat.zero_le _⟩ dX4_chooseTables_47 (fun H locs hP hD hS => ?_)
              have hW : WS D A s [(a_self, .inr (4, [.ref a_symbols, .ref a_tableOfGroup, .ref a_lengths, .ref a_weights, .ref a_joiner, .ref a_codes, .int m_kinds, .int m_groups, .int m_tables])), (a_symbols, .inr (5, [.ref a_symbols_values, .int m_symbols_count])), (a_symbols_values, .inl (cI, 301, .inl m_symbols_values)), (a_tableOfGroup, .inl (cG, 5, .inr (.inr (.inr (.inr (fun i => if i < 5 then some (aF_tableOfGroup i) else none)))))), (aF_tableOfGroup 0, .inl (cI, 31, .inl (M_tableOfGroup_2 0))), (aF_tableOfGroup 1, .inl (cI, 31, .inl (M_tableOfGroup_2 1))), (aF_tableOfGroup 2, .inl (cI, 31, .inl (M_tableOfGroup_2 2))), (aF_tableOfGroup 3, .inl (cI, 31, .inl (M_tableOfGroup_2 3))), (aF_tableOfGroup 4, .inl (cI, 31, .inl (M_tableOfGroup_2 4))), (a_lengths, .inl (cG, 15, .inr (.inr (.inr (.inr (fun i => if i < 15 then some (aF_lengths i) else none)))))), (aF_lengths 0, .inl (cI, 258, .inl (M_lengths 0))), (aF_lengths 1, .inl (cI, 258, .inl (M_lengths 1))), (aF_lengths 2, .inl (cI, 258, .inl (M_lengths 2))), (aF_lengths 3, .inl (cI, 258, .inl (M_lengths 3))), (aF_lengths 4, .inl (cI, 258, .inl (M_lengths 4))), (aF_lengths 5, .inl (cI, 258, .inl (M_lengths 5))), (aF_lengths 6, .inl (cI, 258, .inl (M_lengths 6))), (aF_lengths 7, .inl (cI, 258, .inl (M_lengths 7))), (aF_lengths 8, .inl (cI, 258, .inl (M_lengths 8))), (aF_lengths 9, .inl (cI, 258, .inl (M_lengths 9))), (aF_lengths 10, .inl (cI, 258, .inl (M_lengths 10))), (aF_lengths 11, .inl (cI, 258, .inl (M_lengths 11))), (aF_lengths 12, .inl (cI, 258, .inl (M_lengths 12))), (aF_lengths 13, .inl (cI, 258, .inl (M_lengths 13))), (aF_lengths 14, .inl (cI, 258, .inl (M_lengths 14)))] H locs := ⟨hP, hD, hS⟩
              obtain ⟨r_50, e50, hF⟩ := bd1_some hF
              refine ctV (r := (RX4, TX4, 9)) (As := [.int x2_2, .ref (aF_lengths r_47)]) (rest := []) hx hb hml hown hts hK hW.1 hW.2.1 hW.2.2 hA hl.1 (kRounds_bitsOfGroup l D cI cZ cO cG a_self a_symbols a_tableOfGroup a_lengths a_weights a_joiner a_codes a_symbols_values aF_lengths m_kinds m_groups m_tables m_symbols_count m_symbols_values M_lengths x2_2 r_47 (lt_lengthsBehind e47) e50) (cwV 2 hts gX4_chooseTables_X4_bitsOfGroup rfl rfl rfl (by decide +kernel) ⟨Nat.le_of_ble_eq_true rfl, Nat.le_of_ble_eq_true rfl⟩) 4 0 rfl rfl [0, 1, 2, 10, 11, 12, 13, 14, 15, 16, 17, 18, 19, 20, 21, 22, 23, 24] rfl rfl rfl rfl rfl (Nat.le_of_ble_eq_true rfl) rfl ⟨Nat.zero_le _, Nat.zero_le _⟩ dX4_chooseTables_50 (fun H locs hP hD hS => ?_)
              have hW : WS D A s [(a_self, .inr (4, [.ref a_symbols, .ref a_tableOfGroup, .ref a_lengths, .ref a_weights, .ref a_joiner, .ref a_codes, .int m_kinds, .int m_groups, .int m_tables])), (a_symbols, .inr (5, [.ref a_symbols_values, .int m_symbols_count])), (a_symbols_values, .inl (cI, 301, .inl m_symbols_values)), (a_tableOfGroup, .inl (cG, 5, .inr (.inr (.inr (.inr (fun i => if i < 5 then some (aF_tableOfGroup i) else none)))))), (aF_tableOfGroup 0, .inl (cI, 31, .inl (M_tableOfGroup_2 0))), (aF_tableOfGroup 1, .inl (cI, 31, .inl (M_tableOfGroup_2 1))), (aF_tableOfGroup 2, .inl (cI, 31, .inl (M_tableOfGroup_2 2))), (aF_tableOfGroup 3, .inl (cI, 31, .inl (M_tableOfGroup_2 3))), (aF_tableOfGroup 4, .inl (cI, 31, .inl (M_tableOfGroup_2 4))), (a_lengths, .inl (cG, 15, .inr (.inr (.inr (.inr (fun i => if i < 15 then some (aF_lengths i) else none)))))), (aF_lengths 0, .inl (cI, 258, .inl (M_lengths 0))), (aF_lengths 1, .inl (cI, 258, .inl (M_lengths 1))), (aF_lengths 2, .inl (cI, 258, .inl (M_lengths 2))), (aF_lengths 3, .inl (cI, 258, .inl (M_lengths 3))), (aF_lengths 4, .inl (cI, 258, .inl (M_lengths 4))), (aF_lengths 5, .inl (cI, 258, .inl (M_lengths 5))), (aF_lengths 6, .inl (cI, 258, .inl (M_lengths 6))), (aF_lengths 7, .inl (cI, 258, .inl (M_lengths 7))), (aF_lengths 8, .inl (cI, 258, .inl (M_lengths 8))), (aF_lengths 9, .inl (cI, 258, .inl (M_lengths 9))), (aF_lengths 10, .inl (cI, 258, .inl (M_lengths 10))), (aF_lengths 11, .inl (cI, 258, .inl (M_lengths 11))), (aF_lengths 12, .inl (cI, 258, .inl (M_lengths 12))), (aF_lengths 13, .inl (cI, 258, .inl (M_lengths 13))), (aF_lengths 14, .inl (cI, 258, .inl (M_lengths 14)))] H locs := ⟨hP, hD, hS⟩
              refine lv_istore (lv' := [(6, .int r_50), (0, .ref a_self), (1, .int x1), (2, .int x2_2), (3, .int x3_30), (4, .int x4_30), (5, .int x5_30)]) hx hb dX4_chooseTables_53 hl (by decide) rfl (fun ls hl => ?_)
              refine lv_iload hx hb dX4_chooseTables_55 (lv_at hl 0 rfl) ?_
              refine lv_iload hx hb dX4_chooseTables_57 (lv_at hl 5 rfl) ?_
              refine lv_icmp_ge (tgt := 69) hx hb dX4_chooseTables_59 (by decide) (fun c59 => ?_) (fun c59 => ?_)
              · rw [if_pos c59] at hF
                refine lv_iinc (v := (x5_30 + 1)) (lv' := [(5, .int (x5_30 + 1)), (6, .int r_50), (0, .ref a_self), (1, .int x1), (2, .int x2_2), (3, .int x3_30), (4, .int x4_30)]) hx hb dX4_chooseTables_69 hl (k := 6) rfl rfl (by decide) rfl (fun ls hl => ?_)
                refine lv_goto (tgt := 30) hx hb dX4_chooseTables_72 (by decide) ?_
                cases hF
                exact ih30 _ _ _ (itr_in hN30) _ _ hW _ (lv_sub hl [2, 3, 4, 5, 6, 0] rfl)
              · rw [if_neg c59] at hF
                refine lv_iload hx hb dX4_chooseTables_62 (lv_at hl 6 rfl) ?_
                refine lv_istore_n (lv' := [(3, .int x5_30), (6, .int r_50), (0, .ref a_self), (1, .int x1), (2, .int x2_2), (4, .int x4_30), (5, .int x5_30)]) hx hb dX4_chooseTables_64 rfl hl (by decide) rfl (fun ls hl => ?_)
                refine lv_iload hx hb dX4_chooseTables_65 (lv_at hl 1 rfl) ?_
                refine lv_istore (lv' := [(4, .int r_50), (3, .int x5_30), (6, .int r_50), (0, .ref a_self), (1, .int x1), (2, .int x2_2), (5, .int x5_30)]) hx hb dX4_chooseTables_67 hl (by decide) rfl (fun ls hl => ?_)
                refine lv_iinc (v := (x5_30 + 1)) (lv' := [(5, .int (x5_30 + 1)), (4, .int r_50), (3, .int x5_30), (6, .int r_50), (0, .ref a_self), (1, .int x1), (2, .int x2_2)]) hx hb dX4_chooseTables_69 hl (k := 6) rfl rfl (by decide) rfl (fun ls hl => ?_)
                refine lv_goto (tgt := 30) hx hb dX4_chooseTables_72 (by decide) ?_
                cases hF
                exact ih30 _ _ _ (itr_in hN30) _ _ hW _ (lv_sub hl [4, 5, 6, 2, 1, 0] rfl)
        exact hL30 nn _ _ _ hI _ _ hW _ (lv_sub hl [3, 4, 5, 2, 1, 0] rfl)
  exact hL2 nn _ _ hI _ _ hW _ (lv_sub hl [1, 2, 0] rfl)
abbrev rmRounds_startLengths : Room := { frames := 0, cells := 0, slots := 0, locals := 0 }
set_option maxHeartbeats 4000000 in
set_option maxRecDepth 100000 in
theorem kRounds_startLengths (l : Launch) (D : va_G) (cI cZ cO cG : ClassId) (a_self : Nat) (a_symbols : Nat) (a_tableOfGroup : Nat) (a_lengths : Nat) (a_weights : Nat) (a_joiner : Nat) (a_codes : Nat) (aF_lengths : Nat → Nat) (m_kinds : Int32) (m_groups : Int32) (m_tables : Int32) (M_lengths : Nat → Nat → Int32) (j_p1 : Nat) (x2 : Int32) (x3 : Int32) (hj_p1 : j_p1 < 15) {M_lengths' : Nat → Nat → Int32} (hF : fRounds_startLengths m_kinds M_lengths j_p1 x2 x3 = some M_lengths') : CT l yX4_startLengths wsX4_startLengths rmRounds_startLengths D (tysG cI cZ cO cG) [.ref a_self, .ref (aF_lengths j_p1), .int x2, .int x3] [(a_self, .inr (4, [.ref a_symbols, .ref a_tableOfGroup, .ref a_lengths, .ref a_weights, .ref a_joiner, .ref a_codes, .int m_kinds, .int m_groups, .int m_tables])), (aF_lengths 0, .inl (cI, 258, .inl (M_lengths 0))), (aF_lengths 1, .inl (cI, 258, .inl (M_lengths 1))), (aF_lengths 2, .inl (cI, 258, .inl (M_lengths 2))), (aF_lengths 3, .inl (cI, 258, .inl (M_lengths 3))), (aF_lengths 4, .inl (cI, 258, .inl (M_lengths 4))), (aF_lengths 5, .inl (cI, 258, .inl (M_lengths 5))), (aF_lengths 6, .inl (cI, 258, .inl (M_lengths 6))), (aF_lengths 7, .inl (cI, 258, .inl (M_lengths 7))), (aF_lengths 8, .inl (cI, 258, .inl (M_lengths 8))), (aF_lengths 9, .inl (cI, 258, .inl (M_lengths 9))), (aF_lengths 10, .inl (cI, 258, .inl (M_lengths 10))), (aF_lengths 11, .inl (cI, 258, .inl (M_lengths 11))), (aF_lengths 12, .inl (cI, 258, .inl (M_lengths 12))), (aF_lengths 13, .inl (cI, 258, .inl (M_lengths 13))), (aF_lengths 14, .inl (cI, 258, .inl (M_lengths 14)))] none [(a_self, .inr (4, [.ref a_symbols, .ref a_tableOfGroup, .ref a_lengths, .ref a_weights, .ref a_joiner, .ref a_codes, .int m_kinds, .int m_groups, .int m_tables])), (aF_lengths 0, .inl (cI, 258, .inl (M_lengths' 0))), (aF_lengths 1, .inl (cI, 258, .inl (M_lengths' 1))), (aF_lengths 2, .inl (cI, 258, .inl (M_lengths' 2))), (aF_lengths 3, .inl (cI, 258, .inl (M_lengths' 3))), (aF_lengths 4, .inl (cI, 258, .inl (M_lengths' 4))), (aF_lengths 5, .inl (cI, 258, .inl (M_lengths' 5))), (aF_lengths 6, .inl (cI, 258, .inl (M_lengths' 6))), (aF_lengths 7, .inl (cI, 258, .inl (M_lengths' 7))), (aF_lengths 8, .inl (cI, 258, .inl (M_lengths' 8))), (aF_lengths 9, .inl (cI, 258, .inl (M_lengths' 9))), (aF_lengths 10, .inl (cI, 258, .inl (M_lengths' 10))), (aF_lengths 11, .inl (cI, 258, .inl (M_lengths' 11))), (aF_lengths 12, .inl (cI, 258, .inl (M_lengths' 12))), (aF_lengths 13, .inl (cI, 258, .inl (M_lengths' 13))), (aF_lengths 14, .inl (cI, 258, .inl (M_lengths' 14)))] := by
  refine CT.of (cc := cX4_startLengths) (maxL := 5) (ret := none) (by decide) rfl (Nat.le_of_ble_eq_true rfl) ?_
  intro p e s m below meth c A ls hx hb hr hml hts hown hlocks hK hA hP hD hS hl
  generalize hargs : ([.ref a_self, .ref (aF_lengths j_p1), .int x2, .int x3] : List Value).toArray = args at hts ⊢
  generalize hQ : MQ below (ctQ D none [(a_self, .inr (4, [.ref a_symbols, .ref a_tableOfGroup, .ref a_lengths, .ref a_weights, .ref a_joiner, .ref a_codes, .int m_kinds, .int m_groups, .int m_tables])), (aF_lengths 0, .inl (cI, 258, .inl (M_lengths' 0))), (aF_lengths 1, .inl (cI, 258, .inl (M_lengths' 1))), (aF_lengths 2, .inl (cI, 258, .inl (M_lengths' 2))), (aF_lengths 3, .inl (cI, 258, .inl (M_lengths' 3))), (aF_lengths 4, .inl (cI, 258, .inl (M_lengths' 4))), (aF_lengths 5, .inl (cI, 258, .inl (M_lengths' 5))), (aF_lengths 6, .inl (cI, 258, .inl (M_lengths' 6))), (aF_lengths 7, .inl (cI, 258, .inl (M_lengths' 7))), (aF_lengths 8, .inl (cI, 258, .inl (M_lengths' 8))), (aF_lengths 9, .inl (cI, 258, .inl (M_lengths' 9))), (aF_lengths 10, .inl (cI, 258, .inl (M_lengths' 10))), (aF_lengths 11, .inl (cI, 258, .inl (M_lengths' 11))), (aF_lengths 12, .inl (cI, 258, .inl (M_lengths' 12))), (aF_lengths 13, .inl (cI, 258, .inl (M_lengths' 13))), (aF_lengths 14, .inl (cI, 258, .inl (M_lengths' 14)))] A) args s 0 0 A = Q
  have hl : lv_has ls 5 [(0, .ref a_self), (1, .ref (aF_lengths j_p1)), (2, .int x2), (3, .int x3)] := hl
  have hW : WS D A s [(a_self, .inr (4, [.ref a_symbols, .ref a_tableOfGroup, .ref a_lengths, .ref a_weights, .ref a_joiner, .ref a_codes, .int m_kinds, .int m_groups, .int m_tables])), (aF_lengths 0, .inl (cI, 258, .inl (M_lengths 0))), (aF_lengths 1, .inl (cI, 258, .inl (M_lengths 1))), (aF_lengths 2, .inl (cI, 258, .inl (M_lengths 2))), (aF_lengths 3, .inl (cI, 258, .inl (M_lengths 3))), (aF_lengths 4, .inl (cI, 258, .inl (M_lengths 4))), (aF_lengths 5, .inl (cI, 258, .inl (M_lengths 5))), (aF_lengths 6, .inl (cI, 258, .inl (M_lengths 6))), (aF_lengths 7, .inl (cI, 258, .inl (M_lengths 7))), (aF_lengths 8, .inl (cI, 258, .inl (M_lengths 8))), (aF_lengths 9, .inl (cI, 258, .inl (M_lengths 9))), (aF_lengths 10, .inl (cI, 258, .inl (M_lengths 10))), (aF_lengths 11, .inl (cI, 258, .inl (M_lengths 11))), (aF_lengths 12, .inl (cI, 258, .inl (M_lengths 12))), (aF_lengths 13, .inl (cI, 258, .inl (M_lengths 13))), (aF_lengths 14, .inl (cI, 258, .inl (M_lengths 14)))] s.heap [] := ⟨hP, hD, hS⟩
  clear hP hD hS
  unfold fRounds_startLengths at hF
  have hw0 := hts (Cond.fieldLink RX4 43 "MoveFronts$Rounds" "kinds" "I") (by decide +kernel)
  have hi4 : ∀ w ∈ u_ws RX4 TX4 9, w ∈ wsX4_startLengths := by decide +kernel
  refine lv_iconst (v := 0) hx hb dX4_startLengths_0 (by decide) ?_
  refine lv_istore (lv' := [(4, .int (0 : Int32)), (0, .ref a_self), (1, .ref (aF_lengths j_p1)), (2, .int x2), (3, .int x3)]) hx hb dX4_startLengths_1 hl (by decide) rfl (fun ls hl => ?_)
  obtain ⟨M_lengths_3ze, hI, hF⟩ := bd1_some hF
  obtain ⟨nn, hI⟩ := itrO_some hI
  have hX3 : ∀ (M_lengths_3z : Nat → Nat → Int32), M_lengths_3z = M_lengths_3ze → ∀ (H : Heap) (locs : List Loc), WS D A s [(a_self, .inr (4, [.ref a_symbols, .ref a_tableOfGroup, .ref a_lengths, .ref a_weights, .ref a_joiner, .ref a_codes, .int m_kinds, .int m_groups, .int m_tables])), (aF_lengths 0, .inl (cI, 258, .inl (M_lengths_3z 0))), (aF_lengths 1, .inl (cI, 258, .inl (M_lengths_3z 1))), (aF_lengths 2, .inl (cI, 258, .inl (M_lengths_3z 2))), (aF_lengths 3, .inl (cI, 258, .inl (M_lengths_3z 3))), (aF_lengths 4, .inl (cI, 258, .inl (M_lengths_3z 4))), (aF_lengths 5, .inl (cI, 258, .inl (M_lengths_3z 5))), (aF_lengths 6, .inl (cI, 258, .inl (M_lengths_3z 6))), (aF_lengths 7, .inl (cI, 258, .inl (M_lengths_3z 7))), (aF_lengths 8, .inl (cI, 258, .inl (M_lengths_3z 8))), (aF_lengths 9, .inl (cI, 258, .inl (M_lengths_3z 9))), (aF_lengths 10, .inl (cI, 258, .inl (M_lengths_3z 10))), (aF_lengths 11, .inl (cI, 258, .inl (M_lengths_3z 11))), (aF_lengths 12, .inl (cI, 258, .inl (M_lengths_3z 12))), (aF_lengths 13, .inl (cI, 258, .inl (M_lengths_3z 13))), (aF_lengths 14, .inl (cI, 258, .inl (M_lengths_3z 14)))] H locs → ∀ ls : Array Slot, lv_has ls 5 [] → W p l e (headSpec wsX4_startLengths rmRounds_startLengths).room s m args below meth c H locs 0 0 Q (F0 m 40 ls []) := by
    intro M_lengths_3z he H locs hW ls hl
    subst he
    cases hF
    subst hQ
    exact ct_vret hx hb hr hlocks hW.1 hW.2.2 dX4_startLengths_40
  have hL3 : ∀ (n3 : Nat) (x4_3 : Int32) (M_lengths_3 : Nat → Nat → Int32), itr (un2 (fRounds_startLengths_L3 m_kinds j_p1 x2 x3)) n3 (x4_3, M_lengths_3) = some M_lengths_3ze → ∀ (H : Heap) (locs : List Loc), WS D A s [(a_self, .inr (4, [.ref a_symbols, .ref a_tableOfGroup, .ref a_lengths, .ref a_weights, .ref a_joiner, .ref a_codes, .int m_kinds, .int m_groups, .int m_tables])), (aF_lengths 0, .inl (cI, 258, .inl (M_lengths_3 0))), (aF_lengths 1, .inl (cI, 258, .inl (M_lengths_3 1))), (aF_lengths 2, .inl (cI, 258, .inl (M_lengths_3 2))), (aF_lengths 3, .inl (cI, 258, .inl (M_lengths_3 3))), (aF_lengths 4, .inl (cI, 258, .inl (M_lengths_3 4))), (aF_lengths 5, .inl (cI, 258, .inl (M_lengths_3 5))), (aF_lengths 6, .inl (cI, 258, .inl (M_lengths_3 6))), (aF_lengths 7, .inl (cI, 258, .inl (M_lengths_3 7))), (aF_lengths 8, .inl (cI, 258, .inl (M_lengths_3 8))), (aF_lengths 9, .inl (cI, 258, .inl (M_lengths_3 9))), (aF_lengths 10, .inl (cI, 258, .inl (M_lengths_3 10))), (aF_lengths 11, .inl (cI, 258, .inl (M_lengths_3 11))), (aF_lengths 12, .inl (cI, 258, .inl (M_lengths_3 12))), (aF_lengths 13, .inl (cI, 258, .inl (M_lengths_3 13))), (aF_lengths 14, .inl (cI, 258, .inl (M_lengths_3 14)))] H locs → ∀ ls : Array Slot, lv_has ls 5 [(0, .ref a_self), (1, .ref (aF_lengths j_p1)), (2, .int x2), (3, .int x3), (4, .int x4_3)] → W p l e (headSpec wsX4_startLengths rmRounds_startLengths).room s m args below meth c H locs 0 0 Q (F0 m 3 ls []) := by
    intro n3
    induction n3 with
    | zero => intro x4_3 M_lengths_3 hI; cases hI
    | succ n3 ih3 =>
      intro x4_3 M_lengths_3 hI H locs hW ls hl
      obtain ⟨sr3, hF, hN3⟩ := itr_succ hI
      have hF : fRounds_startLengths_L3 m_kinds j_p1 x2 x3 x4_3 M_lengths_3 = some sr3 := hF
      unfold fRounds_startLengths_L3 at hF
      refine lv_iload hx hb dX4_startLengths_3 (lv_at hl 4 rfl) ?_
      refine lv_aload_n hx hb dX4_startLengths_5 rfl (lv_at hl 0 rfl) ?_
      refine va_get (D := D) (ci := 4) (v := .int m_kinds) (C := RX4) (T := TX4) (N := 9) hx hb hts hi4 hown hK.1 hW.1 0 rfl rfl 6 (by decide) hw0 (fun _ h9 => h9) rfl dX4_startLengths_6 ?_
      refine lv_icmp_ge (tgt := 40) hx hb dX4_startLengths_9 (by decide) (fun c9 => ?_) (fun c9 => ?_)
      · rw [if_pos c9] at hF
        cases hF
        exact hX3 _ (itr_out hN3) _ _ hW _ (lv_sub hl [] rfl)
      · rw [if_neg c9] at hF
        refine lv_aload_n hx hb dX4_startLengths_12 rfl (lv_at hl 1 rfl) ?_
        refine lv_iload hx hb dX4_startLengths_13 (lv_at hl 4 rfl) ?_
        refine lv_iload hx hb dX4_startLengths_15 (lv_at hl 4 rfl) ?_
        refine lv_iload_n hx hb dX4_startLengths_17 rfl (lv_at hl 2 rfl) ?_
        refine lv_icmp_lt (tgt := 31) hx hb dX4_startLengths_18 (by decide) (fun c18 => ?_) (fun c18 => ?_)
        · rw [if_pos c18] at hF
          refine lv_bipush (v := 9) hx hb dX4_startLengths_31 (by decide) ?_
          obtain ⟨g33, hF⟩ := gdI_some hF
          refine fm_iast hx hb hK.1 hW 1 15 (cA := cI) (len := 258) (aF := aF_lengths) (M := M_lengths_3) rfl hj_p1 rfl g33 dX4_startLengths_33 (wn := [(a_self, .inr (4, [.ref a_symbols, .ref a_tableOfGroup, .ref a_lengths, .ref a_weights, .ref a_joiner, .ref a_codes, .int m_kinds, .int m_groups, .int m_tables])), (aF_lengths 0, .inl (cI, 258, .inl ((va_up M_lengths_3 j_p1 (upd (M_lengths_3 j_p1) x4_3.toNatClampNeg (9 : Int32))) 0))), (aF_lengths 1, .inl (cI, 258, .inl ((va_up M_lengths_3 j_p1 (upd (M_lengths_3 j_p1) x4_3.toNatClampNeg (9 : Int32))) 1))), (aF_lengths 2, .inl (cI, 258, .inl ((va_up M_lengths_3 j_p1 (upd (M_lengths_3 j_p1) x4_3.toNatClampNeg (9 : Int32))) 2))), (aF_lengths 3, .inl (cI, 258, .inl ((va_up M_lengths_3 j_p1 (upd (M_lengths_3 j_p1) x4_3.toNatClampNeg (9 : Int32))) 3))), (aF_lengths 4, .inl (cI, 258, .inl ((va_up M_lengths_3 j_p1 (upd (M_lengths_3 j_p1) x4_3.toNatClampNeg (9 : Int32))) 4))), (aF_lengths 5, .inl (cI, 258, .inl ((va_up M_lengths_3 j_p1 (upd (M_lengths_3 j_p1) x4_3.toNatClampNeg (9 : Int32))) 5))), (aF_lengths 6, .inl (cI, 258, .inl ((va_up M_lengths_3 j_p1 (upd (M_lengths_3 j_p1) x4_3.toNatClampNeg (9 : Int32))) 6))), (aF_lengths 7, .inl (cI, 258, .inl ((va_up M_lengths_3 j_p1 (upd (M_lengths_3 j_p1) x4_3.toNatClampNeg (9 : Int32))) 7))), (aF_lengths 8, .inl (cI, 258, .inl ((va_up M_lengths_3 j_p1 (upd (M_lengths_3 j_p1) x4_3.toNatClampNeg (9 : Int32))) 8))), (aF_lengths 9, .inl (cI, 258, .inl ((va_up M_lengths_3 j_p1 (upd (M_lengths_3 j_p1) x4_3.toNatClampNeg (9 : Int32))) 9))), (aF_lengths 10, .inl (cI, 258, .inl ((va_up M_lengths_3 j_p1 (upd (M_lengths_3 j_p1) x4_3.toNatClampNeg (9 : Int32))) 10))), (aF_lengths 11, .inl (cI, 258, .inl ((va_up M_lengths_3 j_p1 (upd (M_lengths_3 j_p1) x4_3.toNatClampNeg (9 : Int32))) 11))), (aF_lengths 12, .inl (cI, 258, .inl ((va_up M_lengths_3 j_p1 (upd (M_lengths_3 j_p1) x4_3.toNatClampNeg (9 : Int32))) 12))), (aF_lengths 13, .inl (cI, 258, .inl ((va_up M_lengths_3 j_p1 (upd (M_lengths_3 j_p1) x4_3.toNatClampNeg (9 : Int32))) 13))), (aF_lengths 14, .inl (cI, 258, .inl ((va_up M_lengths_3 j_p1 (upd (M_lengths_3 j_p1) x4_3.toNatClampNeg (9 : Int32))) 14)))]) rfl (fun H locs hW => ?_)
          refine lv_iinc (v := (x4_3 + 1)) (lv' := [(4, .int (x4_3 + 1)), (0, .ref a_self), (1, .ref (aF_lengths j_p1)), (2, .int x2), (3, .int x3)]) hx hb dX4_startLengths_34 hl (k := 4) rfl rfl (by decide) rfl (fun ls hl => ?_)
          refine lv_goto (tgt := 3) hx hb dX4_startLengths_37 (by decide) ?_
          cases hF
          exact ih3 _ _ (itr_in hN3) _ _ hW _ (lv_sub hl [1, 2, 3, 4, 0] rfl)
        · rw [if_neg c18] at hF
          refine lv_iload hx hb dX4_startLengths_21 (lv_at hl 4 rfl) ?_
          refine lv_iload_n hx hb dX4_startLengths_23 rfl (lv_at hl 3 rfl) ?_
          refine lv_icmp_ge (tgt := 31) hx hb dX4_startLengths_24 (by decide) (fun c24 => ?_) (fun c24 => ?_)
          · rw [if_pos c24] at hF
            refine lv_bipush (v := 9) hx hb dX4_startLengths_31 (by decide) ?_
            obtain ⟨g33, hF⟩ := gdI_some hF
            refine fm_iast hx hb hK.1 hW 1 15 (cA := cI) (len := 258) (aF := aF_lengths) (M := M_lengths_3) rfl hj_p1 rfl g33 dX4_startLengths_33 (wn := [(a_self, .inr (4, [.ref a_symbols, .ref a_tableOfGroup, .ref a_lengths, .ref a_weights, .ref a_joiner, .ref a_codes, .int m_kinds, .int m_groups, .int m_tables])), (aF_lengths 0, .inl (cI, 258, .inl ((va_up M_lengths_3 j_p1 (upd (M_lengths_3 j_p1) x4_3.toNatClampNeg (9 : Int32))) 0))), (aF_lengths 1, .inl (cI, 258, .inl ((va_up M_lengths_3 j_p1 (upd (M_lengths_3 j_p1) x4_3.toNatClampNeg (9 : Int32))) 1))), (aF_lengths 2, .inl (cI, 258, .inl ((va_up M_lengths_3 j_p1 (upd (M_lengths_3 j_p1) x4_3.toNatClampNeg (9 : Int32))) 2))), (aF_lengths 3, .inl (cI, 258, .inl ((va_up M_lengths_3 j_p1 (upd (M_lengths_3 j_p1) x4_3.toNatClampNeg (9 : Int32))) 3))), (aF_lengths 4, .inl (cI, 258, .inl ((va_up M_lengths_3 j_p1 (upd (M_lengths_3 j_p1) x4_3.toNatClampNeg (9 : Int32))) 4))), (aF_lengths 5, .inl (cI, 258, .inl ((va_up M_lengths_3 j_p1 (upd (M_lengths_3 j_p1) x4_3.toNatClampNeg (9 : Int32))) 5))), (aF_lengths 6, .inl (cI, 258, .inl ((va_up M_lengths_3 j_p1 (upd (M_lengths_3 j_p1) x4_3.toNatClampNeg (9 : Int32))) 6))), (aF_lengths 7, .inl (cI, 258, .inl ((va_up M_lengths_3 j_p1 (upd (M_lengths_3 j_p1) x4_3.toNatClampNeg (9 : Int32))) 7))), (aF_lengths 8, .inl (cI, 258, .inl ((va_up M_lengths_3 j_p1 (upd (M_lengths_3 j_p1) x4_3.toNatClampNeg (9 : Int32))) 8))), (aF_lengths 9, .inl (cI, 258, .inl ((va_up M_lengths_3 j_p1 (upd (M_lengths_3 j_p1) x4_3.toNatClampNeg (9 : Int32))) 9))), (aF_lengths 10, .inl (cI, 258, .inl ((va_up M_lengths_3 j_p1 (upd (M_lengths_3 j_p1) x4_3.toNatClampNeg (9 : Int32))) 10))), (aF_lengths 11, .inl (cI, 258, .inl ((va_up M_lengths_3 j_p1 (upd (M_lengths_3 j_p1) x4_3.toNatClampNeg (9 : Int32))) 11))), (aF_lengths 12, .inl (cI, 258, .inl ((va_up M_lengths_3 j_p1 (upd (M_lengths_3 j_p1) x4_3.toNatClampNeg (9 : Int32))) 12))), (aF_lengths 13, .inl (cI, 258, .inl ((va_up M_lengths_3 j_p1 (upd (M_lengths_3 j_p1) x4_3.toNatClampNeg (9 : Int32))) 13))), (aF_lengths 14, .inl (cI, 258, .inl ((va_up M_lengths_3 j_p1 (upd (M_lengths_3 j_p1) x4_3.toNatClampNeg (9 : Int32))) 14)))]) rfl (fun H locs hW => ?_)
            refine lv_iinc (v := (x4_3 + 1)) (lv' := [(4, .int (x4_3 + 1)), (0, .ref a_self), (1, .ref (aF_lengths j_p1)), (2, .int x2), (3, .int x3)]) hx hb dX4_startLengths_34 hl (k := 4) rfl rfl (by decide) rfl (fun ls hl => ?_)
            refine lv_goto (tgt := 3) hx hb dX4_startLengths_37 (by decide) ?_
            cases hF
            exact ih3 _ _ (itr_in hN3) _ _ hW _ (lv_sub hl [1, 2, 3, 4, 0] rfl)
          · rw [if_neg c24] at hF
            refine lv_iconst (v := 1) hx hb dX4_startLengths_27 (by decide) ?_
            refine lv_goto (tgt := 33) hx hb dX4_startLengths_28 (by decide) ?_
            obtain ⟨g33, hF⟩ := gdI_some hF
            refine fm_iast hx hb hK.1 hW 1 15 (cA := cI) (len := 258) (aF := aF_lengths) (M := M_lengths_3) rfl hj_p1 rfl g33 dX4_startLengths_33 (wn := [(a_self, .inr (4, [.ref a_symbols, .ref a_tableOfGroup, .ref a_lengths, .ref a_weights, .ref a_joiner, .ref a_codes, .int m_kinds, .int m_groups, .int m_tables])), (aF_lengths 0, .inl (cI, 258, .inl ((va_up M_lengths_3 j_p1 (upd (M_lengths_3 j_p1) x4_3.toNatClampNeg (1 : Int32))) 0))), (aF_lengths 1, .inl (cI, 258, .inl ((va_up M_lengths_3 j_p1 (upd (M_lengths_3 j_p1) x4_3.toNatClampNeg (1 : Int32))) 1))), (aF_lengths 2, .inl (cI, 258, .inl ((va_up M_lengths_3 j_p1 (upd (M_lengths_3 j_p1) x4_3.toNatClampNeg (1 : Int32))) 2))), (aF_lengths 3, .inl (cI, 258, .inl ((va_up M_lengths_3 j_p1 (upd (M_lengths_3 j_p1) x4_3.toNatClampNeg (1 : Int32))) 3))), (aF_lengths 4, .inl (cI, 258, .inl ((va_up M_lengths_3 j_p1 (upd (M_lengths_3 j_p1) x4_3.toNatClampNeg (1 : Int32))) 4))), (aF_lengths 5, .inl (cI, 258, .inl ((va_up M_lengths_3 j_p1 (upd (M_lengths_3 j_p1) x4_3.toNatClampNeg (1 : Int32))) 5))), (aF_lengths 6, .inl (cI, 258, .inl ((va_up M_lengths_3 j_p1 (upd (M_lengths_3 j_p1) x4_3.toNatClampNeg (1 : Int32))) 6))), (aF_lengths 7, .inl (cI, 258, .inl ((va_up M_lengths_3 j_p1 (upd (M_lengths_3 j_p1) x4_3.toNatClampNeg (1 : Int32))) 7))), (aF_lengths 8, .inl (cI, 258, .inl ((va_up M_lengths_3 j_p1 (upd (M_lengths_3 j_p1) x4_3.toNatClampNeg (1 : Int32))) 8))), (aF_lengths 9, .inl (cI, 258, .inl ((va_up M_lengths_3 j_p1 (upd (M_lengths_3 j_p1) x4_3.toNatClampNeg (1 : Int32))) 9))), (aF_lengths 10, .inl (cI, 258, .inl ((va_up M_lengths_3 j_p1 (upd (M_lengths_3 j_p1) x4_3.toNatClampNeg (1 : Int32))) 10))), (aF_lengths 11, .inl (cI, 258, .inl ((va_up M_lengths_3 j_p1 (upd (M_lengths_3 j_p1) x4_3.toNatClampNeg (1 : Int32))) 11))), (aF_lengths 12, .inl (cI, 258, .inl ((va_up M_lengths_3 j_p1 (upd (M_lengths_3 j_p1) x4_3.toNatClampNeg (1 : Int32))) 12))), (aF_lengths 13, .inl (cI, 258, .inl ((va_up M_lengths_3 j_p1 (upd (M_lengths_3 j_p1) x4_3.toNatClampNeg (1 : Int32))) 13))), (aF_lengths 14, .inl (cI, 258, .inl ((va_up M_lengths_3 j_p1 (upd (M_lengths_3 j_p1) x4_3.toNatClampNeg (1 : Int32))) 14)))]) rfl (fun H locs hW => ?_)
            refine lv_iinc (v := (x4_3 + 1)) (lv' := [(4, .int (x4_3 + 1)), (0, .ref a_self), (1, .ref (aF_lengths j_p1)), (2, .int x2), (3, .int x3)]) hx hb dX4_startLengths_34 hl (k := 4) rfl rfl (by decide) rfl (fun ls hl => ?_)
            refine lv_goto (tgt := 3) hx hb dX4_startLengths_37 (by decide) ?_
            cases hF
            exact ih3 _ _ (itr_in hN3) _ _ hW _ (lv_sub hl [1, 2, 3, 4, 0] rfl)
  exact hL3 nn _ _ hI _ _ hW _ (lv_sub hl [1, 2, 3, 4, 0] rfl)
abbrev rmRounds_clearWeights : Room := { frames := 0, cells := 0, slots := 0, locals := 0 }
set_option maxHeartbeats 4000000 in
set_option maxRecDepth 100000 in
theorem kRounds_clearWeights (l : Launch) (D : va_G) (cI cZ cO cG : ClassId) (a_self : Nat) (a_symbols : Nat) (a_tableOfGroup : Nat) (a_lengths : Nat) (a_weights : Nat) (a_joiner : Nat) (a_codes : Nat) (m_kinds : Int32) (m_groups : Int32) (m_tables : Int32) (m_weights : Nat → Int32) {m_weights' : Nat → Int32} (hF : fRounds_clearWeights m_kinds m_weights = some m_weights') : CT l yX4_clearWeights wsX4_clearWeights rmRounds_clearWeights D (tysG cI cZ cO cG) [.ref a_self] [(a_self, .inr (4, [.ref a_symbols, .ref a_tableOfGroup, .ref a_lengths, .ref a_weights, .ref a_joiner, .ref a_codes, .int m_kinds, .int m_groups, .int m_tables])), (a_weights, .inl (cI, 258, .inl m_weights))] none [(a_self, .inr (4, [.ref a_symbols, .ref a_tableOfGroup, .ref a_lengths, .ref a_weights, .ref a_joiner, .ref a_codes, .int m_kinds, .int m_groups, .int m_tables])), (a_weights, .inl (cI, 258, .inl m_weights'))] := by
  refine CT.of (cc := cX4_clearWeights) (maxL := 2) (ret := none) (by decide) rfl (Nat.le_of_ble_eq_true rfl) ?_
  intro p e s m below meth c A ls hx hb hr hml hts hown hlocks hK hA hP hD hS hl
  generalize hargs : ([.ref a_self] : List Value).toArray = args at hts ⊢
  generalize hQ : MQ below (ctQ D none [(a_self, .inr (4, [.ref a_symbols, .ref a_tableOfGroup, .ref a_lengths, .ref a_weights, .ref a_joiner, .ref a_codes, .int m_kinds, .int m_groups, .int m_tables])), (a_weights, .inl (cI, 258, .inl m_weights'))] A) args s 0 0 A = Q
  have hl : lv_has ls 2 [(0, .ref a_self)] := hl
  have hW : WS D A s [(a_self, .inr (4, [.ref a_symbols, .ref a_tableOfGroup, .ref a_lengths, .ref a_weights, .ref a_joiner, .ref a_codes, .int m_kinds, .int m_groups, .int m_tables])), (a_weights, .inl (cI, 258, .inl m_weights))] s.heap [] := ⟨hP, hD, hS⟩
  clear hP hD hS
  unfold fRounds_clearWeights at hF
  have hw0 := hts (Cond.fieldLink RX4 43 "MoveFronts$Rounds" "kinds" "I") (by decide +kernel)
  have hw1 := hts (Cond.fieldLink RX4 23 "MoveFronts$Rounds" "weights" "[I") (by decide +kernel)
  have hi4 : ∀ w ∈ u_ws RX4 TX4 9, w ∈ wsX4_clearWeights := by decide +kernel
  refine lv_iconst (v := 0) hx hb dX4_clearWeights_0 (by decide) ?_
  refine lv_istore_n (lv' := [(1, .int (0 : Int32)), (0, .ref a_self)]) hx hb dX4_clearWeights_1 rfl hl (by decide) rfl (fun ls hl => ?_)
  obtain ⟨m_weights_2ze, hI, hF⟩ := bd1_some hF
  obtain ⟨nn, hI⟩ := itrO_some hI
  have hX2 : ∀ (m_weights_2z : Nat → Int32), m_weights_2z = m_weights_2ze → ∀ (H : Heap) (locs : List Loc), WS D A s [(a_self, .inr (4, [.ref a_symbols, .ref a_tableOfGroup, .ref a_lengths, .ref a_weights, .ref a_joiner, .ref a_codes, .int m_kinds, .int m_groups, .int m_tables])), (a_weights, .inl (cI, 258, .inl m_weights_2z))] H locs → ∀ ls : Array Slot, lv_has ls 2 [] → W p l e (headSpec wsX4_clearWeights rmRounds_clearWeights).room s m args below meth c H locs 0 0 Q (F0 m 23 ls []) := by
    intro m_weights_2z he H locs hW ls hl
    subst he
    cases hF
    subst hQ
    exact ct_vret hx hb hr hlocks hW.1 hW.2.2 dX4_clearWeights_23
  have hL2 : ∀ (n2 : Nat) (x1_2 : Int32) (m_weights_2 : Nat → Int32), itr (un2 (fRounds_clearWeights_L2 m_kinds)) n2 (x1_2, m_weights_2) = some m_weights_2ze → ∀ (H : Heap) (locs : List Loc), WS D A s [(a_self, .inr (4, [.ref a_symbols, .ref a_tableOfGroup, .ref a_lengths, .ref a_weights, .ref a_joiner, .ref a_codes, .int m_kinds, .int m_groups, .int m_tables])), (a_weights, .inl (cI, 258, .inl m_weights_2))] H locs → ∀ ls : Array Slot, lv_has ls 2 [(0, .ref a_self), (1, .int x1_2)] → W p l e (headSpec wsX4_clearWeights rmRounds_clearWeights).room s m args below meth c H locs 0 0 Q (F0 m 2 ls []) := by
    intro n2
    induction n2 with
    | zero => intro x1_2 m_weights_2 hI; cases hI
    | succ n2 ih2 =>
      intro x1_2 m_weights_2 hI H locs hW ls hl
      obtain ⟨sr2, hF, hN2⟩ := itr_succ hI
      have hF : fRounds_clearWeights_L2 m_kinds x1_2 m_weights_2 = some sr2 := hF
      unfold fRounds_clearWeights_L2 at hF
      refine lv_iload_n hx hb dX4_clearWeights_2 rfl (lv_at hl 1 rfl) ?_
      refine lv_aload_n hx hb dX4_clearWeights_3 rfl (lv_at hl 0 rfl) ?_
      refine va_get (D := D) (ci := 4) (v := .int m_kinds) (C := RX4) (T := TX4) (N := 9) hx hb hts hi4 hown hK.1 hW.1 0 rfl rfl 6 (by decide) hw0 (fun _ h9 => h9) rfl dX4_clearWeights_4 ?_
      refine lv_icmp_ge (tgt := 23) hx hb dX4_clearWeights_7 (by decide) (fun c7 => ?_) (fun c7 => ?_)
      · rw [if_pos c7] at hF
        cases hF
        exact hX2 _ (itr_out hN2) _ _ hW _ (lv_sub hl [] rfl)
      · rw [if_neg c7] at hF
        refine lv_aload_n hx hb dX4_clearWeights_10 rfl (lv_at hl 0 rfl) ?_
        refine va_get (D := D) (ci := 4) (v := .ref a_weights) (C := RX4) (T := TX4) (N := 9) hx hb hts hi4 hown hK.1 hW.1 0 rfl rfl 3 (by decide) hw1 (fun _ h9 => h9) rfl dX4_clearWeights_11 ?_
        refine lv_iload_n hx hb dX4_clearWeights_14 rfl (lv_at hl 1 rfl) ?_
        refine lv_iconst (v := 0) hx hb dX4_clearWeights_15 (by decide) ?_
        obtain ⟨g16, hF⟩ := gdI_some hF
        refine va_iast hx hb hK.1 hW.1 hW.2.1 hW.2.2 1 0 rfl rfl g16 dX4_clearWeights_16 (fun H locs hP hD hS => ?_)
        have hW : WS D A s [(a_self, .inr (4, [.ref a_symbols, .ref a_tableOfGroup, .ref a_lengths, .ref a_weights, .ref a_joiner, .ref a_codes, .int m_kinds, .int m_groups, .int m_tables])), (a_weights, .inl (cI, 258, .inl (upd m_weights_2 x1_2.toNatClampNeg (0 : Int32))))] H locs := ⟨hP, hD, hS⟩
        refine lv_iinc (v := (x1_2 + 1)) (lv' := [(1, .int (x1_2 + 1)), (0, .ref a_self)]) hx hb dX4_clearWeights_17 hl (k := 1) rfl rfl (by decide) rfl (fun ls hl => ?_)
        refine lv_goto (tgt := 2) hx hb dX4_clearWeights_20 (by decide) ?_
        cases hF
        exact ih2 _ _ (itr_in hN2) _ _ hW _ (lv_sub hl [1, 0] rfl)
  exact hL2 nn _ _ hI _ _ hW _ (lv_sub hl [1, 0] rfl)
abbrev rmRounds_weighSymbols : Room := { frames := 1, cells := 0, slots := 0, locals := 21 }
set_option maxHeartbeats 4000000 in
set_option maxRecDepth 100000 in
theorem kRounds_weighSymbols (l : Launch) (D : va_G) (cI cZ cO cG : ClassId) (a_self : Nat) (a_symbols : Nat) (a_tableOfGroup : Nat) (a_lengths : Nat) (a_weights : Nat) (a_joiner : Nat) (a_codes : Nat) (a_symbols_values : Nat) (m_kinds : Int32) (m_groups : Int32) (m_tables : Int32) (m_symbols_count : Int32) (m_symbols_values : Nat → Int32) (m_weights : Nat → Int32) (x1 : Int32) (x2 : Int32) {m_weights' : Nat → Int32} (hF : fRounds_weighSymbols m_kinds m_symbols_count m_symbols_values m_weights x1 x2 = some m_weights') : CT l yX4_weighSymbols wsX4_weighSymbols rmRounds_weighSymbols D (tysG cI cZ cO cG) [.ref a_self, .int x1, .int x2] [(a_self, .inr (4, [.ref a_symbols, .ref a_tableOfGroup, .ref a_lengths, .ref a_weights, .ref a_joiner, .ref a_codes, .int m_kinds, .int m_groups, .int m_tables])), (a_symbols, .inr (5, [.ref a_symbols_values, .int m_symbols_count])), (a_symbols_values, .inl (cI, 301, .inl m_symbols_values)), (a_weights, .inl (cI, 258, .inl m_weights))] none [(a_self, .inr (4, [.ref a_symbols, .ref a_tableOfGroup, .ref a_lengths, .ref a_weights, .ref a_joiner, .ref a_codes, .int m_kinds, .int m_groups, .int m_tables])), (a_symbols, .inr (5, [.ref a_symbols_values, .int m_symbols_count])), (a_symbols_values, .inl (cI, 301, .inl m_symbols_values)), (a_weights, .inl (cI, 258, .inl m_weights'))] := by
  refine CT.of (cc := cX4_weighSymbols) (maxL := 6) (ret := none) (by decide) rfl (Nat.le_of_ble_eq_true rfl) ?_
  intro p e s m below meth c A ls hx hb hr hml hts hown hlocks hK hA hP hD hS hl
  generalize hargs : ([.ref a_self, .int x1, .int x2] : List Value).toArray = args at hts ⊢
  generalize hQ : MQ below (ctQ D none [(a_self, .inr (4, [.ref a_symbols, .ref a_tableOfGroup, .ref a_lengths, .ref a_weights, .ref a_joiner, .ref a_codes, .int m_kinds, .int m_groups, .int m_tables])), (a_symbols, .inr (5, [.ref a_symbols_values, .int m_symbols_count])), (a_symbols_values, .inl (cI, 301, .inl m_symbols_values)), (a_weights, .inl (cI, 258, .inl m_weights'))] A) args s 0 0 A = Q
  have hl : lv_has ls 6 [(0, .ref a_self), (1, .int x1), (2, .int x2)] := hl
  have hW : WS D A s [(a_self, .inr (4, [.ref a_symbols, .ref a_tableOfGroup, .ref a_lengths, .ref a_weights, .ref a_joiner, .ref a_codes, .int m_kinds, .int m_groups, .int m_tables])), (a_symbols, .inr (5, [.ref a_symbols_values, .int m_symbols_count])), (a_symbols_values, .inl (cI, 301, .inl m_symbols_values)), (a_weights, .inl (cI, 258, .inl m_weights))] s.heap [] := ⟨hP, hD, hS⟩
  clear hP hD hS
  unfold fRounds_weighSymbols at hF
  have hw0 := hts (Cond.fieldLink RX4 9 "MoveFronts$Rounds" "symbols" "LMoveFronts$Row;") (by decide +kernel)
  have hw1 := hts (Cond.methodLink RX4 53 Lib.Math.min.name) (by decide +kernel)
  have hw2 := hts (Cond.static Lib.Math.min.name) (by decide +kernel)
  have hw3 := hts (Cond.initialized "java/lang/Math") (by decide +kernel)
  have hw4 := hts (Cond.code Lib.Math.min.name Lib.Math.min.code 2 (some .int)) (by decide +kernel)
  have hw5 := hts (Cond.fieldLink RX4 43 "MoveFronts$Rounds" "kinds" "I") (by decide +kernel)
  have hw6 := hts (Cond.fieldLink RX4 23 "MoveFronts$Rounds" "weights" "[I") (by decide +kernel)
  have hi4 : ∀ w ∈ u_ws RX4 TX4 9, w ∈ wsX4_weighSymbols := by decide +kernel
  refine lv_iload_n hx hb dX4_weighSymbols_0 rfl (lv_at hl 2 rfl) ?_
  refine lv_aload_n hx hb dX4_weighSymbols_1 rfl (lv_at hl 0 rfl) ?_
  refine va_get (D := D) (ci := 4) (v := .ref a_symbols) (C := RX4) (T := TX4) (N := 9) hx hb hts hi4 hown hK.1 hW.1 0 rfl rfl 0 (by decide) hw0 (fun _ h9 => h9) rfl dX4_weighSymbols_2 ?_
  obtain ⟨r_5, e5, hF⟩ := bd1_some hF
  refine ctV (r := (RX5, TX5, 2)) (As := []) (rest := [.int x2]) hx hb hml hown hts hK hW.1 hW.2.1 hW.2.2 hA hl.1 (kRow_size l D cI cZ cO cG a_symbols a_symbols_values m_symbols_count e5) (cwV 0 hts gX4_weighSymbols_X5_size rfl rfl rfl (by decide +kernel) ⟨Nat.le_of_ble_eq_true rfl, Nat.le_of_ble_eq_true rfl⟩) 5 1 rfl rfl [1] rfl rfl rfl rfl rfl (Nat.le_of_ble_eq_true rfl) rfl ⟨Nat.zero_le _, Nat.zero_le _⟩ dX4_weighSymbols_5 (fun H locs hP hD hS => ?_)
  have hW : WS D A s [(a_self, .inr (4, [.ref a_symbols, .ref a_tableOfGroup, .ref a_lengths, .ref a_weights, .ref a_joiner, .ref a_codes, .int m_kinds, .int m_groups, .int m_tables])), (a_symbols, .inr (5, [.ref a_symbols_values, .int m_symbols_count])), (a_symbols_values, .inl (cI, 301, .inl m_symbols_values)), (a_weights, .inl (cI, 258, .inl m_weights))] H locs := ⟨hP, hD, hS⟩
  refine va_mmin hx hb (by rw [hml]; exact hl.1.symm) hown hw1 hw2 hw3 hw4 (Nat.le_of_ble_eq_true rfl) (Nat.le_of_ble_eq_true rfl) (Nat.zero_le _) (Nat.zero_le _) dX4_weighSymbols_8 ?_
  refine lv_istore_n (lv' := [(3, .int (if r_5 < x2 then r_5 else x2)), (0, .ref a_self), (1, .int x1), (2, .int x2)]) hx hb dX4_weighSymbols_11 rfl hl (by decide) rfl (fun ls hl => ?_)
  refine lv_iload_n hx hb dX4_weighSymbols_12 rfl (lv_at hl 2 rfl) ?_
  refine lv_istore (lv' := [(4, .int x1), (3, .int (if r_5 < x2 then r_5 else x2)), (0, .ref a_self), (1, .int x1), (2, .int x2)]) hx hb dX4_weighSymbols_13 hl (by decide) rfl (fun ls hl => ?_)
  obtain ⟨m_weights_15ze, hI, hF⟩ := bd1_some hF
  obtain ⟨nn, hI⟩ := itrO_some hI
  have hX15 : ∀ (m_weights_15z : Nat → Int32), m_weights_15z = m_weights_15ze → ∀ (H : Heap) (locs : List Loc), WS D A s [(a_self, .inr (4, [.ref a_symbols, .ref a_tableOfGroup, .ref a_lengths, .ref a_weights, .ref a_joiner, .ref a_codes, .int m_kinds, .int m_groups, .int m_tables])), (a_symbols, .inr (5, [.ref a_symbols_values, .int m_symbols_count])), (a_symbols_values, .inl (cI, 301, .inl m_symbols_values)), (a_weights, .inl (cI, 258, .inl m_weights_15z))] H locs → ∀ ls : Array Slot, lv_has ls 6 [] → W p l e (headSpec wsX4_weighSymbols rmRounds_weighSymbols).room s m args below meth c H locs 0 0 Q (F0 m 63 ls []) := by
    intro m_weights_15z he H locs hW ls hl
    subst he
    cases hF
    subst hQ
    exact ct_vret hx hb hr hlocks hW.1 hW.2.2 dX4_weighSymbols_63
  have hL15 : ∀ (n15 : Nat) (x4_15 : Int32) (m_weights_15 : Nat → Int32), itr (un2 (fRounds_weighSymbols_L15 m_kinds m_symbols_count m_symbols_values x2 r_5)) n15 (x4_15, m_weights_15) = some m_weights_15ze → ∀ (H : Heap) (locs : List Loc), WS D A s [(a_self, .inr (4, [.ref a_symbols, .ref a_tableOfGroup, .ref a_lengths, .ref a_weights, .ref a_joiner, .ref a_codes, .int m_kinds, .int m_groups, .int m_tables])), (a_symbols, .inr (5, [.ref a_symbols_values, .int m_symbols_count])), (a_symbols_values, .inl (cI, 301, .inl m_symbols_values)), (a_weights, .inl (cI, 258, .inl m_weights_15))] H locs → ∀ ls : Array Slot, lv_has ls 6 [(0, .ref a_self), (3, .int (if r_5 < x2 then r_5 else x2)), (4, .int x4_15)] → W p l e (headSpec wsX4_weighSymbols rmRounds_weighSymbols).room s m args below meth c H locs 0 0 Q (F0 m 15 ls []) := by
    intro n15
    induction n15 with
    | zero => intro x4_15 m_weights_15 hI; cases hI
    | succ n15 ih15 =>
      intro x4_15 m_weights_15 hI H locs hW ls hl
      obtain ⟨sr15, hF, hN15⟩ := itr_succ hI
      have hF : fRounds_weighSymbols_L15 m_kinds m_symbols_count m_symbols_values x2 r_5 x4_15 m_weights_15 = some sr15 := hF
      unfold fRounds_weighSymbols_L15 at hF
      refine lv_iload hx hb dX4_weighSymbols_15 (lv_at hl 2 rfl) ?_
      refine lv_iload_n hx hb dX4_weighSymbols_17 rfl (lv_at hl 1 rfl) ?_
      refine lv_icmp_ge (tgt := 63) hx hb dX4_weighSymbols_18 (by decide) (fun c18 => ?_) (fun c18 => ?_)
      · rw [if_pos c18] at hF
        cases hF
        exact hX15 _ (itr_out hN15) _ _ hW _ (lv_sub hl [] rfl)
      · rw [if_neg c18] at hF
        refine lv_aload_n hx hb dX4_weighSymbols_21 rfl (lv_at hl 0 rfl) ?_
        refine va_get (D := D) (ci := 4) (v := .ref a_symbols) (C := RX4) (T := TX4) (N := 9) hx hb hts hi4 hown hK.1 hW.1 0 rfl rfl 0 (by decide) hw0 (fun _ h9 => h9) rfl dX4_weighSymbols_22 ?_
        refine lv_iload hx hb dX4_weighSymbols_25 (lv_at hl 2 rfl) ?_
        obtain ⟨r_27, e27, hF⟩ := bd1_some hF
        refine ctV (r := (RX5, TX5, 2)) (As := [.int x4_15]) (rest := []) hx hb hml hown hts hK hW.1 hW.2.1 hW.2.2 hA hl.1 (kRow_get l D cI cZ cO cG a_symbols a_symbols_values 301 m_symbols_count m_symbols_values x4_15 e27) (cwV 1 hts gX4_weighSymbols_X5_get rfl rfl rfl (by decide +kernel) ⟨Nat.le_of_ble_eq_true rfl, Nat.le_of_ble_eq_true rfl⟩) 5 1 rfl rfl [1, 2] rfl rfl rfl rfl rfl (Nat.le_of_ble_eq_true rfl) rfl ⟨Nat.zero_le _, Nat.zero_le _⟩ dX4_weighSymbols_27 (fun H locs hP hD hS => ?_)
        have hW : WS D A s [(a_self, .inr (4, [.ref a_symbols, .ref a_tableOfGroup, .ref a_lengths, .ref a_weights, .ref a_joiner, .ref a_codes, .int m_kinds, .int m_groups, .int m_tables])), (a_symbols, .inr (5, [.ref a_symbols_values, .int m_symbols_count])), (a_symbols_values, .inl (cI, 301, .inl m_symbols_values)), (a_weights, .inl (cI, 258, .inl m_weights_15))] H locs := ⟨hP, hD, hS⟩
        refine lv_istore (lv' := [(5, .int r_27), (0, .ref a_self), (3, .int (if r_5 < x2 then r_5 else x2)), (4, .int x4_15)]) hx hb dX4_weighSymbols_30 hl (by decide) rfl (fun ls hl => ?_)
        refine lv_iload hx hb dX4_weighSymbols_32 (lv_at hl 0 rfl) ?_
        refine lv_if_lt (tgt := 57) hx hb dX4_weighSymbols_34 (by decide) (fun c34 => ?_) (fun c34 => ?_)
        · rw [if_pos c34] at hF
          refine lv_iinc (v := (x4_15 + 1)) (lv' := [(4, .int (x4_15 + 1)), (5, .int r_27), (0, .ref a_self), (3, .int (if r_5 < x2 then r_5 else x2))]) hx hb dX4_weighSymbols_57 hl (k := 3) rfl rfl (by decide) rfl (fun ls hl => ?_)
          refine lv_goto (tgt := 15) hx hb dX4_weighSymbols_60 (by decide) ?_
          cases hF
          exact ih15 _ _ (itr_in hN15) _ _ hW _ (lv_sub hl [2, 3, 0] rfl)
        · rw [if_neg c34] at hF
          refine lv_iload hx hb dX4_weighSymbols_37 (lv_at hl 0 rfl) ?_
          refine lv_aload_n hx hb dX4_weighSymbols_39 rfl (lv_at hl 1 rfl) ?_
          refine va_get (D := D) (ci := 4) (v := .int m_kinds) (C := RX4) (T := TX4) (N := 9) hx hb hts hi4 hown hK.1 hW.1 0 rfl rfl 6 (by decide) hw5 (fun _ h9 => h9) rfl dX4_weighSymbols_40 ?_
          refine lv_icmp_ge (tgt := 57) hx hb dX4_weighSymbols_43 (by decide) (fun c43 => ?_) (fun c43 => ?_)
          · rw [if_pos c43] at hF
            refine lv_iinc (v := (x4_15 + 1)) (lv' := [(4, .int (x4_15 + 1)), (5, .int r_27), (0, .ref a_self), (3, .int (if r_5 < x2 then r_5 else x2))]) hx hb dX4_weighSymbols_57 hl (k := 3) rfl rfl (by decide) rfl (fun ls hl => ?_)
            refine lv_goto (tgt := 15) hx hb dX4_weighSymbols_60 (by decide) ?_
            cases hF
            exact ih15 _ _ (itr_in hN15) _ _ hW _ (lv_sub hl [2, 3, 0] rfl)
          · rw [if_neg c43] at hF
            refine lv_aload_n hx hb dX4_weighSymbols_46 rfl (lv_at hl 1 rfl) ?_
            refine va_get (D := D) (ci := 4) (v := .ref a_weights) (C := RX4) (T := TX4) (N := 9) hx hb hts hi4 hown hK.1 hW.1 0 rfl rfl 3 (by decide) hw6 (fun _ h9 => h9) rfl dX4_weighSymbols_47 ?_
            refine lv_iload hx hb dX4_weighSymbols_50 (lv_at hl 0 rfl) ?_
            refine lv_dup2_11 hx hb dX4_weighSymbols_52 rfl rfl ?_
            obtain ⟨g53, hF⟩ := gdI_some hF
            refine va_iald hx hb hK.1 hW.1 3 0 rfl rfl g53 dX4_weighSymbols_53 ?_
            refine lv_iconst (v := 1) hx hb dX4_weighSymbols_54 (by decide) ?_
            refine lv_iadd hx hb dX4_weighSymbols_55 ?_
            obtain ⟨g56, hF⟩ := gdI_some hF
            refine va_iast hx hb hK.1 hW.1 hW.2.1 hW.2.2 3 0 rfl rfl g56 dX4_weighSymbols_56 (fun H locs hP hD hS => ?_)
            have hW : WS D A s [(a_self, .inr (4, [.ref a_symbols, .ref a_tableOfGroup, .ref a_lengths, .ref a_weights, .ref a_joiner, .ref a_codes, .int m_kinds, .int m_groups, .int m_tables])), (a_symbols, .inr (5, [.ref a_symbols_values, .int m_symbols_count])), (a_symbols_values, .inl (cI, 301, .inl m_symbols_values)), (a_weights, .inl (cI, 258, .inl (upd m_weights_15 r_27.toNatClampNeg ((m_weights_15 r_27.toNatClampNeg) + (1 : Int32)))))] H locs := ⟨hP, hD, hS⟩
            refine lv_iinc (v := (x4_15 + 1)) (lv' := [(4, .int (x4_15 + 1)), (5, .int r_27), (0, .ref a_self), (3, .int (if r_5 < x2 then r_5 else x2))]) hx hb dX4_weighSymbols_57 hl (k := 3) rfl rfl (by decide) rfl (fun ls hl => ?_)
            refine lv_goto (tgt := 15) hx hb dX4_weighSymbols_60 (by decide) ?_
            cases hF
            exact ih15 _ _ (itr_in hN15) _ _ hW _ (lv_sub hl [2, 3, 0] rfl)
  exact hL15 nn _ _ hI _ _ hW _ (lv_sub hl [2, 1, 0] rfl)
abbrev rmRounds_weighAll : Room := { frames := 2, cells := 0, slots := 0, locals := 46 }
set_option maxHeartbeats 4000000 in
set_option maxRecDepth 100000 in
theorem kRounds_weighAll (l : Launch) (D : va_G) (cI cZ cO cG : ClassId) (a_self : Nat) (a_symbols : Nat) (a_tableOfGroup : Nat) (a_lengths : Nat) (a_weights : Nat) (a_joiner : Nat) (a_codes : Nat) (a_symbols_values : Nat) (m_kinds : Int32) (m_groups : Int32) (m_tables : Int32) (m_symbols_count : Int32) (m_symbols_values : Nat → Int32) (m_weights : Nat → Int32) {m_weights' : Nat → Int32} (hF : fRounds_weighAll m_kinds m_symbols_count m_symbols_values m_weights = some m_weights') : CT l yX4_weighAll wsX4_weighAll rmRounds_weighAll D (tysG cI cZ cO cG) [.ref a_self] [(a_self, .inr (4, [.ref a_symbols, .ref a_tableOfGroup, .ref a_lengths, .ref a_weights, .ref a_joiner, .ref a_codes, .int m_kinds, .int m_groups, .int m_tables])), (a_symbols, .inr (5, [.ref a_symbols_values, .int m_symbols_count])), (a_symbols_values, .inl (cI, 301, .inl m_symbols_values)), (a_weights, .inl (cI, 258, .inl m_weights))] none [(a_self, .inr (4, [.ref a_symbols, .ref a_tableOfGroup, .ref a_lengths, .ref a_weights, .ref a_joiner, .ref a_codes, .int m_kinds, .int m_groups, .int m_tables])), (a_symbols, .inr (5, [.ref a_symbols_values, .int m_symbols_count])), (a_symbols_values, .inl (cI, 301, .inl m_symbols_values)), (a_weights, .inl (cI, 258, .inl m_weights'))] := by
  refine CT.of (cc := cX4_weighAll) (maxL := 1) (ret := none) (by decide) rfl (Nat.le_of_ble_eq_true rfl) ?_
  intro p e s m below meth c A ls hx hb hr hml hts hown hlocks hK hA hP hD hS hl
  generalize hargs : ([.ref a_self] : List Value).toArray = args at hts ⊢
  generalize hQ : MQ below (ctQ D none [(a_self, .inr (4, [.ref a_symbols, .ref a_tableOfGroup, .ref a_lengths, .ref a_weights, .ref a_joiner, .ref a_codes, .int m_kinds, .int m_groups, .int m_tables])), (a_symbols, .inr (5, [.ref a_symbols_values, .int m_symbols_count])), (a_symbols_values, .inl (cI, 301, .inl m_symbols_values)), (a_weights, .inl (cI, 258, .inl m_weights'))] A) args s 0 0 A = Q
  have hl : lv_has ls 1 [(0, .ref a_self)] := hl
  have hW : WS D A s [(a_self, .inr (4, [.ref a_symbols, .ref a_tableOfGroup, .ref a_lengths, .ref a_weights, .ref a_joiner, .ref a_codes, .int m_kinds, .int m_groups, .int m_tables])), (a_symbols, .inr (5, [.ref a_symbols_values, .int m_symbols_count])), (a_symbols_values, .inl (cI, 301, .inl m_symbols_values)), (a_weights, .inl (cI, 258, .inl m_weights))] s.heap [] := ⟨hP, hD, hS⟩
  clear hP hD hS
  unfold fRounds_weighAll at hF
  have hw0 := hts (Cond.fieldLink RX4 9 "MoveFronts$Rounds" "symbols" "LMoveFronts$Row;") (by decide +kernel)
  have hi4 : ∀ w ∈ u_ws RX4 TX4 9, w ∈ wsX4_weighAll := by decide +kernel
  refine lv_aload_n hx hb dX4_weighAll_0 rfl (lv_at hl 0 rfl) ?_
  obtain ⟨m_weights_1, e1, hF⟩ := bd1_some hF
  refine ctV (r := (RX4, TX4, 9)) (As := []) (rest := []) hx hb hml hown hts hK hW.1 hW.2.1 hW.2.2 hA hl.1 (kRounds_clearWeights l D cI cZ cO cG a_self a_symbols a_tableOfGroup a_lengths a_weights a_joiner a_codes m_kinds m_groups m_tables m_weights e1) (cwV 0 hts gX4_weighAll_X4_clearWeights rfl rfl rfl (by decide +kernel) ⟨Nat.le_of_ble_eq_true rfl, Nat.le_of_ble_eq_true rfl⟩) 4 0 rfl rfl [0, 3] rfl rfl rfl rfl rfl (Nat.le_of_ble_eq_true rfl) rfl ⟨Nat.zero_le _, Nat.zero_le _⟩ dX4_weighAll_1 (fun H locs hP hD hS => ?_)
  have hW : WS D A s [(a_self, .inr (4, [.ref a_symbols, .ref a_tableOfGroup, .ref a_lengths, .ref a_weights, .ref a_joiner, .ref a_codes, .int m_kinds, .int m_groups, .int m_tables])), (a_symbols, .inr (5, [.ref a_symbols_values, .int m_symbols_count])), (a_symbols_values, .inl (cI, 301, .inl m_symbols_values)), (a_weights, .inl (cI, 258, .inl m_weights_1))] H locs := ⟨hP, hD, hS⟩
  refine lv_aload_n hx hb dX4_weighAll_4 rfl (lv_at hl 0 rfl) ?_
  refine lv_iconst (v := 0) hx hb dX4_weighAll_5 (by decide) ?_
  refine lv_aload_n hx hb dX4_weighAll_6 rfl (lv_at hl 0 rfl) ?_
  refine va_get (D := D) (ci := 4) (v := .ref a_symbols) (C := RX4) (T := TX4) (N := 9) hx hb hts hi4 hown hK.1 hW.1 0 rfl rfl 0 (by decide) hw0 (fun _ h9 => h9) rfl dX4_weighAll_7 ?_
  obtain ⟨r_10, e10, hF⟩ := bd1_some hF
  refine ctV (r := (RX5, TX5, 2)) (As := []) (rest := [.int (0 : Int32), .ref a_self]) hx hb hml hown hts hK hW.1 hW.2.1 hW.2.2 hA hl.1 (kRow_size l D cI cZ cO cG a_symbols a_symbols_values m_symbols_count e10) (cwV 0 hts gX4_weighAll_X5_size rfl rfl rfl (by decide +kernel) ⟨Nat.le_of_ble_eq_true rfl, Nat.le_of_ble_eq_true rfl⟩) 5 1 rfl rfl [1] rfl rfl rfl rfl rfl (Nat.le_of_ble_eq_true rfl) rfl ⟨Nat.zero_le _, Nat.zero_le _⟩ dX4_weighAll_10 (fun H locs hP hD hS => ?_)
  have hW : WS D A s [(a_self, .inr (4, [.ref a_symbols, .ref a_tableOfGroup, .ref a_lengths, .ref a_weights, .ref a_joiner, .ref a_codes, .int m_kinds, .int m_groups, .int m_tables])), (a_symbols, .inr (5, [.ref a_symbols_values, .int m_symbols_count])), (a_symbols_values, .inl (cI, 301, .inl m_symbols_values)), (a_weights, .inl (cI, 258, .inl m_weights_1))] H locs := ⟨hP, hD, hS⟩
  obtain ⟨m_weights_13, e13, hF⟩ := bd1_some hF
  refine ctV (r := (RX4, TX4, 9)) (As := [.int (0 : Int32), .int r_10]) (rest := []) hx hb hml hown hts hK hW.1 hW.2.1 hW.2.2 hA hl.1 (kRounds_weighSymbols l D cI cZ cO cG a_self a_symbols a_tableOfGroup a_lengths a_weights a_joiner a_codes a_symbols_values m_kinds m_groups m_tables m_symbols_count m_symbols_values m_weights_1 (0 : Int32) r_10 e13) (cwV 2 hts gX4_weighAll_X4_weighSymbols rfl rfl rfl (by decide +kernel) ⟨Nat.le_of_ble_eq_true rfl, Nat.le_of_ble_eq_true rfl⟩) 4 0 rfl rfl [0, 1, 2, 3] rfl rfl rfl rfl rfl (Nat.le_of_ble_eq_true rfl) rfl ⟨Nat.zero_le _, Nat.zero_le _⟩ dX4_weighAll_13 (fun H locs hP hD hS => ?_)
  have hW : WS D A s [(a_self, .inr (4, [.ref a_symbols, .ref a_tableOfGroup, .ref a_lengths, .ref a_weights, .ref a_joiner, .ref a_codes, .int m_kinds, .int m_groups, .int m_tables])), (a_symbols, .inr (5, [.ref a_symbols_values, .int m_symbols_count])), (a_symbols_values, .inl (cI, 301, .inl m_symbols_values)), (a_weights, .inl (cI, 258, .inl m_weights_13))] H locs := ⟨hP, hD, hS⟩
  cases hF
  subst hQ
  exact ct_vret hx hb hr hlocks hW.1 hW.2.2 dX4_weighAll_16
abbrev rmRounds_shareKinds : Room := { frames := 3, cells := 0, slots := 0, locals := 66 }
set_option maxHeartbeats 4000000 in
set_option maxRecDepth 100000 in
theorem kRounds_shareKinds (l : Launch) (D : va_G) (cI cZ cO cG : ClassId) (a_self : Nat) (a_symbols : Nat) (a_tableOfGroup : Nat) (a_lengths : Nat) (a_weights : Nat) (a_joiner : Nat) (a_codes : Nat) (a_symbols_values : Nat) (aF_lengths : Nat → Nat) (m_kinds : Int32) (m_groups : Int32) (m_tables : Int32) (m_symbols_count : Int32) (m_symbols_values : Nat → Int32) (M_lengths : Nat → Nat → Int32) (m_weights : Nat → Int32) {M_lengths' : Nat → Nat → Int32} {m_weights' : Nat → Int32} (hF : fRounds_shareKinds m_kinds m_tables m_symbols_count m_symbols_values M_lengths m_weights = some (M_lengths', m_weights')) : CT l yX4_shareKinds wsX4_shareKinds rmRounds_shareKinds D (tysG cI cZ cO cG) [.ref a_self] [(a_self, .inr (4, [.ref a_symbols, .ref a_tableOfGroup, .ref a_lengths, .ref a_weights, .ref a_joiner, .ref a_codes, .int m_kinds, .int m_groups, .int m_tables])), (a_symbols, .inr (5, [.ref a_symbols_values, .int m_symbols_count])), (a_symbols_values, .inl (cI, 301, .inl m_symbols_values)), (a_lengths, .inl (cG, 15, .inr (.inr (.inr (.inr (fun i => if i < 15 then some (aF_lengths i) else none)))))), (aF_lengths 0, .inl (cI, 258, .inl (M_lengths 0))), (aF_lengths 1, .inl (cI, 258, .inl (M_lengths 1))), (aF_lengths 2, .inl (cI, 258, .inl (M_lengths 2))), (aF_lengths 3, .inl (cI, 258, .inl (M_lengths 3))), (aF_lengths 4, .inl (cI, 258, .inl (M_lengths 4))), (aF_lengths 5, .inl (cI, 258, .inl (M_lengths 5))), (aF_lengths 6, .inl (cI, 258, .inl (M_lengths 6))), (aF_lengths 7, .inl (cI, 258, .inl (M_lengths 7))), (aF_lengths 8, .inl (cI, 258, .inl (M_lengths 8))), (aF_lengths 9, .inl (cI, 258, .inl (M_lengths 9))), (aF_lengths 10, .inl (cI, 258, .inl (M_lengths 10))), (aF_lengths 11, .inl (cI, 258, .inl (M_lengths 11))), (aF_lengths 12, .inl (cI, 258, .inl (M_lengths 12))), (aF_lengths 13, .inl (cI, 258, .inl (M_lengths 13))), (aF_lengths 14, .inl (cI, 258, .inl (M_lengths 14))), (a_weights, .inl (cI, 258, .inl m_weights))] none [(a_self, .inr (4, [.ref a_symbols, .ref a_tableOfGroup, .ref a_lengths, .ref a_weights, .ref a_joiner, .ref a_codes, .int m_kinds, .int m_groups, .int m_tables])), (a_symbols, .inr (5, [.ref a_symbols_values, .int m_symbols_count])), (a_symbols_values, .inl (cI, 301, .inl m_symbols_values)), (a_lengths, .inl (cG, 15, .inr (.inr (.inr (.inr (fun i => if i < 15 then some (aF_lengths i) else none)))))), (aF_lengths 0, .inl (cI, 258, .inl (M_lengths' 0))), (aF_lengths 1, .inl (cI, 258, .inl (M_lengths' 1))), (aF_lengths 2, .inl (cI, 258, .inl (M_lengths' 2))), (aF_lengths 3, .inl (cI, 258, .inl (M_lengths' 3))), (aF_lengths 4, .inl (cI, 258, .inl (M_lengths' 4))), (aF_lengths 5, .inl (cI, 258, .inl (M_lengths' 5))), (aF_lengths 6, .inl (cI, 258, .inl (M_lengths' 6))), (aF_lengths 7, .inl (cI, 258, .inl (M_lengths' 7))), (aF_lengths 8, .inl (cI, 258, .inl (M_lengths' 8))), (aF_lengths 9, .inl (cI, 258, .inl (M_lengths' 9))), (aF_lengths 10, .inl (cI, 258, .inl (M_lengths' 10))), (aF_lengths 11, .inl (cI, 258, .inl (M_lengths' 11))), (aF_lengths 12, .inl (cI, 258, .inl (M_lengths' 12))), (aF_lengths 13, .inl (cI, 258, .inl (M_lengths' 13))), (aF_lengths 14, .inl (cI, 258, .inl (M_lengths' 14))), (a_weights, .inl (cI, 258, .inl m_weights'))] := by
  refine CT.of (cc := cX4_shareKinds) (maxL := 7) (ret := none) (by decide) rfl (Nat.le_of_ble_eq_true rfl) ?_
  intro p e s m below meth c A ls hx hb hr hml hts hown hlocks hK hA hP hD hS hl
  generalize hargs : ([.ref a_self] : List Value).toArray = args at hts ⊢
  generalize hQ : MQ below (ctQ D none [(a_self, .inr (4, [.ref a_symbols, .ref a_tableOfGroup, .ref a_lengths, .ref a_weights, .ref a_joiner, .ref a_codes, .int m_kinds, .int m_groups, .int m_tables])), (a_symbols, .inr (5, [.ref a_symbols_values, .int m_symbols_count])), (a_symbols_values, .inl (cI, 301, .inl m_symbols_values)), (a_lengths, .inl (cG, 15, .inr (.inr (.inr (.inr (fun i => if i < 15 then some (aF_lengths i) else none)))))), (aF_lengths 0, .inl (cI, 258, .inl (M_lengths' 0))), (aF_lengths 1, .inl (cI, 258, .inl (M_lengths' 1))), (aF_lengths 2, .inl (cI, 258, .inl (M_lengths' 2))), (aF_lengths 3, .inl (cI, 258, .inl (M_lengths' 3))), (aF_lengths 4, .inl (cI, 258, .inl (M_lengths' 4))), (aF_lengths 5, .inl (cI, 258, .inl (M_lengths' 5))), (aF_lengths 6, .inl (cI, 258, .inl (M_lengths' 6))), (aF_lengths 7, .inl (cI, 258, .inl (M_lengths' 7))), (aF_lengths 8, .inl (cI, 258, .inl (M_lengths' 8))), (aF_lengths 9, .inl (cI, 258, .inl (M_lengths' 9))), (aF_lengths 10, .inl (cI, 258, .inl (M_lengths' 10))), (aF_lengths 11, .inl (cI, 258, .inl (M_lengths' 11))), (aF_lengths 12, .inl (cI, 258, .inl (M_lengths' 12))), (aF_lengths 13, .inl (cI, 258, .inl (M_lengths' 13))), (aF_lengths 14, .inl (cI, 258, .inl (M_lengths' 14))), (a_weights, .inl (cI, 258, .inl m_weights'))] A) args s 0 0 A = Q
  have hl : lv_has ls 7 [(0, .ref a_self)] := hl
  have hW : WS D A s [(a_self, .inr (4, [.ref a_symbols, .ref a_tableOfGroup, .ref a_lengths, .ref a_weights, .ref a_joiner, .ref a_codes, .int m_kinds, .int m_groups, .int m_tables])), (a_symbols, .inr (5, [.ref a_symbols_values, .int m_symbols_count])), (a_symbols_values, .inl (cI, 301, .inl m_symbols_values)), (a_lengths, .inl (cG, 15, .inr (.inr (.inr (.inr (fun i => if i < 15 then some (aF_lengths i) else none)))))), (aF_lengths 0, .inl (cI, 258, .inl (M_lengths 0))), (aF_lengths 1, .inl (cI, 258, .inl (M_lengths 1))), (aF_lengths 2, .inl (cI, 258, .inl (M_lengths 2))), (aF_lengths 3, .inl (cI, 258, .inl (M_lengths 3))), (aF_lengths 4, .inl (cI, 258, .inl (M_lengths 4))), (aF_lengths 5, .inl (cI, 258, .inl (M_lengths 5))), (aF_lengths 6, .inl (cI, 258, .inl (M_lengths 6))), (aF_lengths 7, .inl (cI, 258, .inl (M_lengths 7))), (aF_lengths 8, .inl (cI, 258, .inl (M_lengths 8))), (aF_lengths 9, .inl (cI, 258, .inl (M_lengths 9))), (aF_lengths 10, .inl (cI, 258, .inl (M_lengths 10))), (aF_lengths 11, .inl (cI, 258, .inl (M_lengths 11))), (aF_lengths 12, .inl (cI, 258, .inl (M_lengths 12))), (aF_lengths 13, .inl (cI, 258, .inl (M_lengths 13))), (aF_lengths 14, .inl (cI, 258, .inl (M_lengths 14))), (a_weights, .inl (cI, 258, .inl m_weights))] s.heap [] := ⟨hP, hD, hS⟩
  clear hP hD hS
  unfold fRounds_shareKinds at hF
  have hw0 := hts (Cond.fieldLink RX4 9 "MoveFronts$Rounds" "symbols" "LMoveFronts$Row;") (by decide +kernel)
  have hw1 := hts (Cond.fieldLink RX4 50 "MoveFronts$Rounds" "tables" "I") (by decide +kernel)
  have hw2 := hts (Cond.fieldLink RX4 43 "MoveFronts$Rounds" "kinds" "I") (by decide +kernel)
  have hw3 := hts (Cond.fieldLink RX4 23 "MoveFronts$Rounds" "weights" "[I") (by decide +kernel)
  have hi4 : ∀ w ∈ u_ws RX4 TX4 9, w ∈ wsX4_shareKinds := by decide +kernel
  refine lv_aload_n hx hb dX4_shareKinds_0 rfl (lv_at hl 0 rfl) ?_
  obtain ⟨m_weights_1, e1, hF⟩ := bd1_some hF
  refine ctV (r := (RX4, TX4, 9)) (As := []) (rest := []) hx hb hml hown hts hK hW.1 hW.2.1 hW.2.2 hA hl.1 (kRounds_weighAll l D cI cZ cO cG a_self a_symbols a_tableOfGroup a_lengths a_weights a_joiner a_codes a_symbols_values m_kinds m_groups m_tables m_symbols_count m_symbols_values m_weights e1) (cwV 0 hts gX4_shareKinds_X4_weighAll rfl rfl rfl (by decide +kernel) ⟨Nat.le_of_ble_eq_true rfl, Nat.le_of_ble_eq_true rfl⟩) 4 0 rfl rfl [0, 1, 2, 19] rfl rfl rfl rfl rfl (Nat.le_of_ble_eq_true rfl) rfl ⟨Nat.zero_le _, Nat.zero_le _⟩ dX4_shareKinds_1 (fun H locs hP hD hS => ?_)
  have hW : WS D A s [(a_self, .inr (4, [.ref a_symbols, .ref a_tableOfGroup, .ref a_lengths, .ref a_weights, .ref a_joiner, .ref a_codes, .int m_kinds, .int m_groups, .int m_tables])), (a_symbols, .inr (5, [.ref a_symbols_values, .int m_symbols_count])), (a_symbols_values, .inl (cI, 301, .inl m_symbols_values)), (a_lengths, .inl (cG, 15, .inr (.inr (.inr (.inr (fun i => if i < 15 then some (aF_lengths i) else none)))))), (aF_lengths 0, .inl (cI, 258, .inl (M_lengths 0))), (aF_lengths 1, .inl (cI, 258, .inl (M_lengths 1))), (aF_lengths 2, .inl (cI, 258, .inl (M_lengths 2))), (aF_lengths 3, .inl (cI, 258, .inl (M_lengths 3))), (aF_lengths 4, .inl (cI, 258, .inl (M_lengths 4))), (aF_lengths 5, .inl (cI, 258, .inl (M_lengths 5))), (aF_lengths 6, .inl (cI, 258, .inl (M_lengths 6))), (aF_lengths 7, .inl (cI, 258, .inl (M_lengths 7))), (aF_lengths 8, .inl (cI, 258, .inl (M_lengths 8))), (aF_lengths 9, .inl (cI, 258, .inl (M_lengths 9))), (aF_lengths 10, .inl (cI, 258, .inl (M_lengths 10))), (aF_lengths 11, .inl (cI, 258, .inl (M_lengths 11))), (aF_lengths 12, .inl (cI, 258, .inl (M_lengths 12))), (aF_lengths 13, .inl (cI, 258, .inl (M_lengths 13))), (aF_lengths 14, .inl (cI, 258, .inl (M_lengths 14))), (a_weights, .inl (cI, 258, .inl m_weights_1))] H locs := ⟨hP, hD, hS⟩
  refine lv_aload_n hx hb dX4_shareKinds_4 rfl (lv_at hl 0 rfl) ?_
  refine va_get (D := D) (ci := 4) (v := .ref a_symbols) (C := RX4) (T := TX4) (N := 9) hx hb hts hi4 hown hK.1 hW.1 0 rfl rfl 0 (by decide) hw0 (fun _ h9 => h9) rfl dX4_shareKinds_5 ?_
  obtain ⟨r_8, e8, hF⟩ := bd1_some hF
  refine ctV (r := (RX5, TX5, 2)) (As := []) (rest := []) hx hb hml hown hts hK hW.1 hW.2.1 hW.2.2 hA hl.1 (kRow_size l D cI cZ cO cG a_symbols a_symbols_values m_symbols_count e8) (cwV 0 hts gX4_shareKinds_X5_size rfl rfl rfl (by decide +kernel) ⟨Nat.le_of_ble_eq_true rfl, Nat.le_of_ble_eq_true rfl⟩) 5 1 rfl rfl [1] rfl rfl rfl rfl rfl (Nat.le_of_ble_eq_true rfl) rfl ⟨Nat.zero_le _, Nat.zero_le _⟩ dX4_shareKinds_8 (fun H locs hP hD hS => ?_)
  have hW : WS D A s [(a_self, .inr (4, [.ref a_symbols, .ref a_tableOfGroup, .ref a_lengths, .ref a_weights, .ref a_joiner, .ref a_codes, .int m_kinds, .int m_groups, .int m_tables])), (a_symbols, .inr (5, [.ref a_symbols_values, .int m_symbols_count])), (a_symbols_values, .inl (cI, 301, .inl m_symbols_values)), (a_lengths, .inl (cG, 15, .inr (.inr (.inr (.inr (fun i => if i < 15 then some (aF_lengths i) else none)))))), (aF_lengths 0, .inl (cI, 258, .inl (M_lengths 0))), (aF_lengths 1, .inl (cI, 258, .inl (M_lengths 1))), (aF_lengths 2, .inl (cI, 258, .inl (M_lengths 2))), (aF_lengths 3, .inl (cI, 258, .inl (M_lengths 3))), (aF_lengths 4, .inl (cI, 258, .inl (M_lengths 4))), (aF_lengths 5, .inl (cI, 258, .inl (M_lengths 5))), (aF_lengths 6, .inl (cI, 258, .inl (M_lengths 6))), (aF_lengths 7, .inl (cI, 258, .inl (M_lengths 7))), (aF_lengths 8, .inl (cI, 258, .inl (M_lengths 8))), (aF_lengths 9, .inl (cI, 258, .inl (M_lengths 9))), (aF_lengths 10, .inl (cI, 258, .inl (M_lengths 10))), (aF_lengths 11, .inl (cI, 258, .inl (M_lengths 11))), (aF_lengths 12, .inl (cI, 258, .inl (M_lengths 12))), (aF_lengths 13, .inl (cI, 258, .inl (M_lengths 13))), (aF_lengths 14, .inl (cI, 258, .inl (M_lengths 14))), (a_weights, .inl (cI, 258, .inl m_weights_1))] H locs := ⟨hP, hD, hS⟩
  refine lv_istore_n (lv' := [(1, .int r_8), (0, .ref a_self)]) hx hb dX4_shareKinds_11 rfl hl (by decide) rfl (fun ls hl => ?_)
  refine lv_iconst (v := 0) hx hb dX4_shareKinds_12 (by decide) ?_
  refine lv_istore_n (lv' := [(2, .int (0 : Int32)), (1, .int r_8), (0, .ref a_self)]) hx hb dX4_shareKinds_13 rfl hl (by decide) rfl (fun ls hl => ?_)
  refine lv_iconst (v := 0) hx hb dX4_shareKinds_14 (by decide) ?_
  refine lv_istore_n (lv' := [(3, .int (0 : Int32)), (2, .int (0 : Int32)), (1, .int r_8), (0, .ref a_self)]) hx hb dX4_shareKinds_15 rfl hl (by decide) rfl (fun ls hl => ?_)
  obtain ⟨M_lengths_16ze, hI, hF⟩ := bd1_some hF
  obtain ⟨nn, hI⟩ := itrO_some hI
  have hX16 : ∀ (M_lengths_16z : Nat → Nat → Int32), M_lengths_16z = M_lengths_16ze → ∀ (H : Heap) (locs : List Loc), WS D A s [(a_self, .inr (4, [.ref a_symbols, .ref a_tableOfGroup, .ref a_lengths, .ref a_weights, .ref a_joiner, .ref a_codes, .int m_kinds, .int m_groups, .int m_tables])), (a_symbols, .inr (5, [.ref a_symbols_values, .int m_symbols_count])), (a_symbols_values, .inl (cI, 301, .inl m_symbols_values)), (a_lengths, .inl (cG, 15, .inr (.inr (.inr (.inr (fun i => if i < 15 then some (aF_lengths i) else none)))))), (aF_lengths 0, .inl (cI, 258, .inl (M_lengths_16z 0))), (aF_lengths 1, .inl (cI, 258, .inl (M_lengths_16z 1))), (aF_lengths 2, .inl (cI, 258, .inl (M_lengths_16z 2))), (aF_lengths 3, .inl (cI, 258, .inl (M_lengths_16z 3))), (aF_lengths 4, .inl (cI, 258, .inl (M_lengths_16z 4))), (aF_lengths 5, .inl (cI, 258, .inl (M_lengths_16z 5))), (aF_lengths 6, .inl (cI, 258, .inl (M_lengths_16z 6))), (aF_lengths 7, .inl (cI, 258, .inl (M_lengths_16z 7))), (aF_lengths 8, .inl (cI, 258, .inl (M_lengths_16z 8))), (aF_lengths 9, .inl (cI, 258, .inl (M_lengths_16z 9))), (aF_lengths 10, .inl (cI, 258, .inl (M_lengths_16z 10))), (aF_lengths 11, .inl (cI, 258, .inl (M_lengths_16z 11))), (aF_lengths 12, .inl (cI, 258, .inl (M_lengths_16z 12))), (aF_lengths 13, .inl (cI, 258, .inl (M_lengths_16z 13))), (aF_lengths 14, .inl (cI, 258, .inl (M_lengths_16z 14))), (a_weights, .inl (cI, 258, .inl m_weights_1))] H locs → ∀ ls : Array Slot, lv_has ls 7 [] → W p l e (headSpec wsX4_shareKinds rmRounds_shareKinds).room s m args below meth c H locs 0 0 Q (F0 m 96 ls []) := by
    intro M_lengths_16z he H locs hW ls hl
    subst he
    cases hF
    subst hQ
    exact ct_vret hx hb hr hlocks hW.1 hW.2.2 dX4_shareKinds_96
  have hL16 : ∀ (n16 : Nat) (x1_16 : Int32) (x2_16 : Int32) (x3_16 : Int32) (M_lengths_16 : Nat → Nat → Int32), itr (un4 (fRounds_shareKinds_L16 m_kinds m_tables m_weights_1)) n16 (x1_16, x2_16, x3_16, M_lengths_16) = some M_lengths_16ze → ∀ (H : Heap) (locs : List Loc), WS D A s [(a_self, .inr (4, [.ref a_symbols, .ref a_tableOfGroup, .ref a_lengths, .ref a_weights, .ref a_joiner, .ref a_codes, .int m_kinds, .int m_groups, .int m_tables])), (a_symbols, .inr (5, [.ref a_symbols_values, .int m_symbols_count])), (a_symbols_values, .inl (cI, 301, .inl m_symbols_values)), (a_lengths, .inl (cG, 15, .inr (.inr (.inr (.inr (fun i => if i < 15 then some (aF_lengths i) else none)))))), (aF_lengths 0, .inl (cI, 258, .inl (M_lengths_16 0))), (aF_lengths 1, .inl (cI, 258, .inl (M_lengths_16 1))), (aF_lengths 2, .inl (cI, 258, .inl (M_lengths_16 2))), (aF_lengths 3, .inl (cI, 258, .inl (M_lengths_16 3))), (aF_lengths 4, .inl (cI, 258, .inl (M_lengths_16 4))), (aF_lengths 5, .inl (cI, 258, .inl (M_lengths_16 5))), (aF_lengths 6, .inl (cI, 258, .inl (M_lengths_16 6))), (aF_lengths 7, .inl (cI, 258, .inl (M_lengths_16 7))), (aF_lengths 8, .inl (cI, 258, .inl (M_lengths_16 8))), (aF_lengths 9, .inl (cI, 258, .inl (M_lengths_16 9))), (aF_lengths 10, .inl (cI, 258, .inl (M_lengths_16 10))), (aF_lengths 11, .inl (cI, 258, .inl (M_lengths_16 11))), (aF_lengths 12, .inl (cI, 258, .inl (M_lengths_16 12))), (aF_lengths 13, .inl (cI, 258, .inl (M_lengths_16 13))), (aF_lengths 14, .inl (cI, 258, .inl (M_lengths_16 14))), (a_weights, .inl (cI, 258, .inl m_weights_1))] H locs → ∀ ls : Array Slot, lv_has ls 7 [(0, .ref a_self), (1, .int x1_16), (2, .int x2_16), (3, .int x3_16)] → W p l e (headSpec wsX4_shareKinds rmRounds_shareKinds).room s m args below meth c H locs 0 0 Q (F0 m 16 ls []) := by
    intro n16
    induction n16 with
    | zero => intro x1_16 x2_16 x3_16 M_lengths_16 hI; cases hI
    | succ n16 ih16 =>
      intro x1_16 x2_16 x3_16 M_lengths_16 hI H locs hW ls hl
      obtain ⟨sr16, hF, hN16⟩ := itr_succ hI
      have hF : fRounds_shareKinds_L16 m_kinds m_tables m_weights_1 x1_16 x2_16 x3_16 M_lengths_16 = some sr16 := hF
      unfold fRounds_shareKinds_L16 at hF
      refine lv_iload_n hx hb dX4_shareKinds_16 rfl (lv_at hl 3 rfl) ?_
      refine lv_aload_n hx hb dX4_shareKinds_17 rfl (lv_at hl 0 rfl) ?_
      refine va_get (D := D) (ci := 4) (v := .int m_tables) (C := RX4) (T := TX4) (N := 9) hx hb hts hi4 hown hK.1 hW.1 0 rfl rfl 8 (by decide) hw1 (fun _ h9 => h9) rfl dX4_shareKinds_18 ?_
      refine lv_icmp_ge (tgt := 96) hx hb dX4_shareKinds_21 (by decide) (fun c21 => ?_) (fun c21 => ?_)
      · rw [if_pos c21] at hF
        cases hF
        exact hX16 _ (itr_out hN16) _ _ hW _ (lv_sub hl [] rfl)
      · rw [if_neg c21] at hF
        refine lv_iload_n hx hb dX4_shareKinds_24 rfl (lv_at hl 1 rfl) ?_
        refine lv_aload_n hx hb dX4_shareKinds_25 rfl (lv_at hl 0 rfl) ?_
        refine va_get (D := D) (ci := 4) (v := .int m_tables) (C := RX4) (T := TX4) (N := 9) hx hb hts hi4 hown hK.1 hW.1 0 rfl rfl 8 (by decide) hw1 (fun _ h9 => h9) rfl dX4_shareKinds_26 ?_
        refine lv_iload_n hx hb dX4_shareKinds_29 rfl (lv_at hl 3 rfl) ?_
        refine lv_isub hx hb dX4_shareKinds_30 ?_
        obtain ⟨g31, hF⟩ := gdZ_some hF
        refine lv_idiv hx hb dX4_shareKinds_31 g31 ?_
        refine lv_istore (lv' := [(4, .int (x1_16 / (m_tables - x3_16))), (0, .ref a_self), (1, .int x1_16), (2, .int x2_16), (3, .int x3_16)]) hx hb dX4_shareKinds_32 hl (by decide) rfl (fun ls hl => ?_)
        refine lv_iload_n hx hb dX4_shareKinds_34 rfl (lv_at hl 3 rfl) ?_
        refine lv_istore (lv' := [(5, .int x2_16), (4, .int (x1_16 / (m_tables - x3_16))), (0, .ref a_self), (1, .int x1_16), (2, .int x2_16), (3, .int x3_16)]) hx hb dX4_shareKinds_35 hl (by decide) rfl (fun ls hl => ?_)
        refine lv_iconst (v := 0) hx hb dX4_shareKinds_37 (by decide) ?_
        refine lv_istore (lv' := [(6, .int (0 : Int32)), (5, .int x2_16), (4, .int (x1_16 / (m_tables - x3_16))), (0, .ref a_self), (1, .int x1_16), (2, .int x2_16), (3, .int x3_16)]) hx hb dX4_shareKinds_38 hl (by decide) rfl (fun ls hl => ?_)
        obtain ⟨x2_40ze, x6_40ze, hI, hF⟩ := bd2_some hF
        obtain ⟨nn, hI⟩ := itrO_some hI
        have hX40 : ∀ (x2_40z : Int32) (x6_40z : Int32), (x2_40z, x6_40z) = (x2_40ze, x6_40ze) → ∀ (H : Heap) (locs : List Loc), WS D A s [(a_self, .inr (4, [.ref a_symbols, .ref a_tableOfGroup, .ref a_lengths, .ref a_weights, .ref a_joiner, .ref a_codes, .int m_kinds, .int m_groups, .int m_tables])), (a_symbols, .inr (5, [.ref a_symbols_values, .int m_symbols_count])), (a_symbols_values, .inl (cI, 301, .inl m_symbols_values)), (a_lengths, .inl (cG, 15, .inr (.inr (.inr (.inr (fun i => if i < 15 then some (aF_lengths i) else none)))))), (aF_lengths 0, .inl (cI, 258, .inl (M_lengths_16 0))), (aF_lengths 1, .inl (cI, 258, .inl (M_lengths_16 1))), (aF_lengths 2, .inl (cI, 258, .inl (M_lengths_16 2))), (aF_lengths 3, .inl (cI, 258, .inl (M_lengths_16 3))), (aF_lengths 4, .inl (cI, 258, .inl (M_lengths_16 4))), (aF_lengths 5, .inl (cI, 258, .inl (M_lengths_16 5))), (aF_lengths 6, .inl (cI, 258, .inl (M_lengths_16 6))), (aF_lengths 7, .inl (cI, 258, .inl (M_lengths_16 7))), (aF_lengths 8, .inl (cI, 258, .inl (M_lengths_16 8))), (aF_lengths 9, .inl (cI, 258, .inl (M_lengths_16 9))), (aF_lengths 10, .inl (cI, 258, .inl (M_lengths_16 10))), (aF_lengths 11, .inl (cI, 258, .inl (M_lengths_16 11))), (aF_lengths 12, .inl (cI, 258, .inl (M_lengths_16 12))), (aF_lengths 13, .inl (cI, 258, .inl (M_lengths_16 13))), (aF_lengths 14, .inl (cI, 258, .inl (M_lengths_16 14))), (a_weights, .inl (cI, 258, .inl m_weights_1))] H locs → ∀ ls : Array Slot, lv_has ls 7 [(0, .ref a_self), (1, .int x1_16), (2, .int x2_40z), (3, .int x3_16), (5, .int x2_16), (6, .int x6_40z)] → W p l e (headSpec wsX4_shareKinds rmRounds_shareKinds).room s m args below meth c H locs 0 0 Q (F0 m 72 ls []) := by
          intro x2_40z x6_40z he H locs hW ls hl
          obtain ⟨hz0, hy0⟩ := Prod.mk.inj he
          subst hz0
          subst hy0
          refine lv_aload_n hx hb dX4_shareKinds_72 rfl (lv_at hl 0 rfl) ?_
          refine lv_aload_n hx hb dX4_shareKinds_73 rfl (lv_at hl 0 rfl) ?_
          refine lv_iconst (v := 0) hx hb dX4_shareKinds_74 (by decide) ?_
          refine lv_iload_n hx hb dX4_shareKinds_75 rfl (lv_at hl 3 rfl) ?_
          obtain ⟨r_76, e76, hF⟩ := bd1_some hF
          refine ctV (r := (RX4, TX4, 9)) (As := [.int (0 : Int32), .int x3_16]) (rest := [.ref a_self]) hx hb hml hown hts hK hW.1 hW.2.1 hW.2.2 hA hl.1 (kRounds_lengthsBehind l D cI cZ cO cG a_self a_symbols a_tableOfGroup a_lengths a_weights a_joiner a_codes aF_lengths m_kinds m_groups m_tables (0 : Int32) x3_16 e76) (cwV 2 hts gX4_shareKinds_X4_lengthsBehind rfl rfl rfl (by decide +kernel) ⟨Nat.le_of_ble_eq_true rfl, Nat.le_of_ble_eq_true rfl⟩) 4 0 rfl rfl [0, 3] rfl rfl rfl rfl rfl (Nat.le_of_ble_eq_true rfl) rfl ⟨Nat.zero_le _, Nat.zero_le _⟩ dX4_shareKinds_76 (fun H locs hP hD hS => ?_)
          have hW : WS D A s [(a_self, .inr (4, [.ref a_symbols, .ref a_tableOfGroup, .ref a_lengths, .ref a_weights, .ref a_joiner, .ref a_codes, .int m_kinds, .int m_groups, .int m_tables])), (a_symbols, .inr (5, [.ref a_symbols_values, .int m_symbols_count])), (a_symbols_values, .inl (cI, 301, .inl m_symbols_values)), (a_lengths, .inl (cG, 15, .inr (.inr (.inr (.inr (fun i => if i < 15 then some (aF_lengths i) else none)))))), (aF_lengths 0, .inl (cI, 258, .inl (M_lengths_16 0))), (aF_lengths 1, .inl (cI, 258, .inl (M_lengths_16 1))), (aF_lengths 2, .inl (cI, 258, .inl (M_lengths_16 2))), (aF_lengths 3, .inl (cI, 258, .inl (M_lengths_16 3))), (aF_lengths 4, .inl (cI, 258, .inl (M_lengths_16 4))), (aF_lengths 5, .inl (cI, 258, .inl (M_lengths_16 5))), (aF_lengths 6, .inl (cI, 258, .inl (M_lengths_16 6))), (aF_lengths 7, .inl (cI, 258, .inl (M_lengths_16 7))), (aF_lengths 8, .inl (cI, 258, .inl (M_lengths_16 8))), (aF_lengths 9, .inl (cI, 258, .inl (M_lengths_16 9))), (aF_lengths 10, .inl (cI, 258, .inl (M_lengths_16 10))), (aF_lengths 11, .inl (cI, 258, .inl (M_lengths_16 11))), (aF_lengths 12, .inl (cI, 258, .inl (M_lengths_16 12))), (aF_lengths 13, .inl (cI, 258, .inl (M_lengths_16 13))), (aF_lengths 14, .inl (cI, 258, .inl (M_lengths_16 14))), (a_weights, .inl (cI, 258, .inl m_weights_1))] H locs := ⟨hP, hD, hS⟩
          refine lv_iload hx hb dX4_shareKinds_79 (lv_at hl 4 rfl) ?_
          refine lv_iload_n hx hb dX4_shareKinds_81 rfl (lv_at hl 2 rfl) ?_
          obtain ⟨M_lengths_82, e82, hF⟩ := bd1_some hF
          refine ctV (r := (RX4, TX4, 9)) (As := [.ref (aF_lengths r_76), .int x2_16, .int x2_40z]) (rest := []) hx hb hml hown hts hK hW.1 hW.2.1 hW.2.2 hA hl.1 (kRounds_startLengths l D cI cZ cO cG a_self a_symbols a_tableOfGroup a_lengths a_weights a_joiner a_codes aF_lengths m_kinds m_groups m_tables M_lengths_16 r_76 x2_16 x2_40z (lt_lengthsBehind e76) e82) (cwV 3 hts gX4_shareKinds_X4_startLengths rfl rfl rfl (by decide +kernel) ⟨Nat.le_of_ble_eq_true rfl, Nat.le_of_ble_eq_true rfl⟩) 4 0 rfl rfl [0, 4, 5, 6, 7, 8, 9, 10, 11, 12, 13, 14, 15, 16, 17, 18] rfl rfl rfl rfl rfl (Nat.le_of_ble_eq_true rfl) rfl ⟨Nat.zero_le _, Nat.zero_le _⟩ dX4_shareKinds_82 (fun H locs hP hD hS => ?_)
          have hW : WS D A s [(a_self, .inr (4, [.ref a_symbols, .ref a_tableOfGroup, .ref a_lengths, .ref a_weights, .ref a_joiner, .ref a_codes, .int m_kinds, .int m_groups, .int m_tables])), (a_symbols, .inr (5, [.ref a_symbols_values, .int m_symbols_count])), (a_symbols_values, .inl (cI, 301, .inl m_symbols_values)), (a_lengths, .inl (cG, 15, .inr (.inr (.inr (.inr (fun i => if i < 15 then some (aF_lengths i) else none)))))), (aF_lengths 0, .inl (cI, 258, .inl (M_lengths_82 0))), (aF_lengths 1, .inl (cI, 258, .inl (M_lengths_82 1))), (aF_lengths 2, .inl (cI, 258, .inl (M_lengths_82 2))), (aF_lengths 3, .inl (cI, 258, .inl (M_lengths_82 3))), (aF_lengths 4, .inl (cI, 258, .inl (M_lengths_82 4))), (aF_lengths 5, .inl (cI, 258, .inl (M_lengths_82 5))), (aF_lengths 6, .inl (cI, 258, .inl (M_lengths_82 6))), (aF_lengths 7, .inl (cI, 258, .inl (M_lengths_82 7))), (aF_lengths 8, .inl (cI, 258, .inl (M_lengths_82 8))), (aF_lengths 9, .inl (cI, 258, .inl (M_lengths_82 9))), (aF_lengths 10, .inl (cI, 258, .inl (M_lengths_82 10))), (aF_lengths 11, .inl (cI, 258, .inl (M_lengths_82 11))), (aF_lengths 12, .inl (cI, 258, .inl (M_lengths_82 12))), (aF_lengths 13, .inl (cI, 258, .inl (M_lengths_82 13))), (aF_lengths 14, .inl (cI, 258, .inl (M_lengths_82 14))), (a_weights, .inl (cI, 258, .inl m_weights_1))] H locs := ⟨hP, hD, hS⟩
          refine lv_iload_n hx hb dX4_shareKinds_85 rfl (lv_at hl 1 rfl) ?_
          refine lv_iload hx hb dX4_shareKinds_86 (lv_at hl 5 rfl) ?_
          refine lv_isub hx hb dX4_shareKinds_88 ?_
          refine lv_istore_n (lv' := [(1, .int (x1_16 - x6_40z)), (0, .ref a_self), (2, .int x2_40z), (3, .int x3_16), (5, .int x2_16), (6, .int x6_40z)]) hx hb dX4_shareKinds_89 rfl hl (by decide) rfl (fun ls hl => ?_)
          refine lv_iinc (v := (x3_16 + 1)) (lv' := [(3, .int (x3_16 + 1)), (1, .int (x1_16 - x6_40z)), (0, .ref a_self), (2, .int x2_40z), (5, .int x2_16), (6, .int x6_40z)]) hx hb dX4_shareKinds_90 hl (k := 3) rfl rfl (by decide) rfl (fun ls hl => ?_)
          refine lv_goto (tgt := 16) hx hb dX4_shareKinds_93 (by decide) ?_
          cases hF
          exact ih16 _ _ _ _ (itr_in hN16) _ _ hW _ (lv_sub hl [2, 1, 3, 0] rfl)
        have hL40 : ∀ (n40 : Nat) (x2_40 : Int32) (x6_40 : Int32), itr (un2 (fRounds_shareKinds_L40 m_kinds m_tables m_weights_1 x1_16 x3_16)) n40 (x2_40, x6_40) = some (x2_40ze, x6_40ze) → ∀ (H : Heap) (locs : List Loc), WS D A s [(a_self, .inr (4, [.ref a_symbols, .ref a_tableOfGroup, .ref a_lengths, .ref a_weights, .ref a_joiner, .ref a_codes, .int m_kinds, .int m_groups, .int m_tables])), (a_symbols, .inr (5, [.ref a_symbols_values, .int m_symbols_count])), (a_symbols_values, .inl (cI, 301, .inl m_symbols_values)), (a_lengths, .inl (cG, 15, .inr (.inr (.inr (.inr (fun i => if i < 15 then some (aF_lengths i) else none)))))), (aF_lengths 0, .inl (cI, 258, .inl (M_lengths_16 0))), (aF_lengths 1, .inl (cI, 258, .inl (M_lengths_16 1))), (aF_lengths 2, .inl (cI, 258, .inl (M_lengths_16 2))), (aF_lengths 3, .inl (cI, 258, .inl (M_lengths_16 3))), (aF_lengths 4, .inl (cI, 258, .inl (M_lengths_16 4))), (aF_lengths 5, .inl (cI, 258, .inl (M_lengths_16 5))), (aF_lengths 6, .inl (cI, 258, .inl (M_lengths_16 6))), (aF_lengths 7, .inl (cI, 258, .inl (M_lengths_16 7))), (aF_lengths 8, .inl (cI, 258, .inl (M_lengths_16 8))), (aF_lengths 9, .inl (cI, 258, .inl (M_lengths_16 9))), (aF_lengths 10, .inl (cI, 258, .inl (M_lengths_16 10))), (aF_lengths 11, .inl (cI, 258, .inl (M_lengths_16 11))), (aF_lengths 12, .inl (cI, 258, .inl (M_lengths_16 12))), (aF_lengths 13, .inl (cI, 258, .inl (M_lengths_16 13))), (aF_lengths 14, .inl (cI, 258, .inl (M_lengths_16 14))), (a_weights, .inl (cI, 258, .inl m_weights_1))] H locs → ∀ ls : Array Slot, lv_has ls 7 [(0, .ref a_self), (1, .int x1_16), (2, .int x2_40), (3, .int x3_16), (4, .int (x1_16 / (m_tables - x3_16))), (5, .int x2_16), (6, .int x6_40)] → W p l e (headSpec wsX4_shareKinds rmRounds_shareKinds).room s m args below meth c H locs 0 0 Q (F0 m 40 ls []) := by
          intro n40
          induction n40 with
          | zero => intro x2_40 x6_40 hI; cases hI
          | succ n40 ih40 =>
            intro x2_40 x6_40 hI H locs hW ls hl
            obtain ⟨sr40, hF, hN40⟩ := itr_succ hI
            have hF : fRounds_shareKinds_L40 m_kinds m_tables m_weights_1 x1_16 x3_16 x2_40 x6_40 = some sr40 := hF
            unfold fRounds_shareKinds_L40 at hF
            refine lv_iload_n hx hb dX4_shareKinds_40 rfl (lv_at hl 2 rfl) ?_
            refine lv_aload_n hx hb dX4_shareKinds_41 rfl (lv_at hl 0 rfl) ?_
            refine va_get (D := D) (ci := 4) (v := .int m_kinds) (C := RX4) (T := TX4) (N := 9) hx hb hts hi4 hown hK.1 hW.1 0 rfl rfl 6 (by decide) hw2 (fun _ h9 => h9) rfl dX4_shareKinds_42 ?_
            refine lv_icmp_ge (tgt := 72) hx hb dX4_shareKinds_45 (by decide) (fun c45 => ?_) (fun c45 => ?_)
            · rw [if_pos c45] at hF
              cases hF
              exact hX40 _ _ (itr_out hN40) _ _ hW _ (lv_sub hl [0, 1, 2, 3, 5, 6] rfl)
            · rw [if_neg c45] at hF
              refine lv_iload hx hb dX4_shareKinds_48 (lv_at hl 6 rfl) ?_
              refine lv_iload hx hb dX4_shareKinds_50 (lv_at hl 4 rfl) ?_
              refine lv_icmp_ge (tgt := 72) hx hb dX4_shareKinds_52 (by decide) (fun c52 => ?_) (fun c52 => ?_)
              · rw [if_pos c52] at hF
                cases hF
                exact hX40 _ _ (itr_out hN40) _ _ hW _ (lv_sub hl [0, 1, 2, 3, 5, 6] rfl)
              · rw [if_neg c52] at hF
                refine lv_iload hx hb dX4_shareKinds_55 (lv_at hl 6 rfl) ?_
                refine lv_aload_n hx hb dX4_shareKinds_57 rfl (lv_at hl 0 rfl) ?_
                refine va_get (D := D) (ci := 4) (v := .ref a_weights) (C := RX4) (T := TX4) (N := 9) hx hb hts hi4 hown hK.1 hW.1 0 rfl rfl 3 (by decide) hw3 (fun _ h9 => h9) rfl dX4_shareKinds_58 ?_
                refine lv_iload_n hx hb dX4_shareKinds_61 rfl (lv_at hl 2 rfl) ?_
                obtain ⟨g62, hF⟩ := gdI_some hF
                refine va_iald hx hb hK.1 hW.1 19 0 rfl rfl g62 dX4_shareKinds_62 ?_
                refine lv_iadd hx hb dX4_shareKinds_63 ?_
                refine lv_istore (lv' := [(6, .int (x6_40 + (m_weights_1 x2_40.toNatClampNeg))), (0, .ref a_self), (1, .int x1_16), (2, .int x2_40), (3, .int x3_16), (4, .int (x1_16 / (m_tables - x3_16))), (5, .int x2_16)]) hx hb dX4_shareKinds_64 hl (by decide) rfl (fun ls hl => ?_)
                refine lv_iinc (v := (x2_40 + 1)) (lv' := [(2, .int (x2_40 + 1)), (6, .int (x6_40 + (m_weights_1 x2_40.toNatClampNeg))), (0, .ref a_self), (1, .int x1_16), (3, .int x3_16), (4, .int (x1_16 / (m_tables - x3_16))), (5, .int x2_16)]) hx hb dX4_shareKinds_66 hl (k := 3) rfl rfl (by decide) rfl (fun ls hl => ?_)
                refine lv_goto (tgt := 40) hx hb dX4_shareKinds_69 (by decide) ?_
                cases hF
                exact ih40 _ _ (itr_in hN40) _ _ hW _ (lv_sub hl [2, 3, 0, 4, 5, 6, 1] rfl)
        exact hL40 nn _ _ hI _ _ hW _ (lv_sub hl [3, 4, 5, 6, 2, 1, 0] rfl)
  exact hL16 nn _ _ _ _ hI _ _ hW _ (lv_sub hl [3, 2, 1, 0] rfl)
abbrev rmRounds_weigh : Room := { frames := 2, cells := 0, slots := 0, locals := 46 }
set_option maxHeartbeats 4000000 in
set_option maxRecDepth 100000 in
theorem kRounds_weigh (l : Launch) (D : va_G) (cI cZ cO cG : ClassId) (a_self : Nat) (a_symbols : Nat) (a_tableOfGroup : Nat) (a_lengths : Nat) (a_weights : Nat) (a_joiner : Nat) (a_codes : Nat) (a_symbols_values : Nat) (aF_tableOfGroup : Nat → Nat) (m_kinds : Int32) (m_groups : Int32) (m_tables : Int32) (m_symbols_count : Int32) (m_symbols_values : Nat → Int32) (M_tableOfGroup : Nat → Nat → Int32) (m_weights : Nat → Int32) (x1 : Int32) (x2 : Int32) {m_weights' : Nat → Int32} (hF : fRounds_weigh m_kinds m_groups m_symbols_count m_symbols_values M_tableOfGroup m_weights x1 x2 = some m_weights') : CT l yX4_weigh wsX4_weigh rmRounds_weigh D (tysG cI cZ cO cG) [.ref a_self, .int x1, .int x2] [(a_self, .inr (4, [.ref a_symbols, .ref a_tableOfGroup, .ref a_lengths, .ref a_weights, .ref a_joiner, .ref a_codes, .int m_kinds, .int m_groups, .int m_tables])), (a_symbols, .inr (5, [.ref a_symbols_values, .int m_symbols_count])), (a_symbols_values, .inl (cI, 301, .inl m_symbols_values)), (a_tableOfGroup, .inl (cG, 5, .inr (.inr (.inr (.inr (fun i => if i < 5 then some (aF_tableOfGroup i) else none)))))), (aF_tableOfGroup 0, .inl (cI, 31, .inl (M_tableOfGroup 0))), (aF_tableOfGroup 1, .inl (cI, 31, .inl (M_tableOfGroup 1))), (aF_tableOfGroup 2, .inl (cI, 31, .inl (M_tableOfGroup 2))), (aF_tableOfGroup 3, .inl (cI, 31, .inl (M_tableOfGroup 3))), (aF_tableOfGroup 4, .inl (cI, 31, .inl (M_tableOfGroup 4))), (a_weights, .inl (cI, 258, .inl m_weights))] none [(a_self, .inr (4, [.ref a_symbols, .ref a_tableOfGroup, .ref a_lengths, .ref a_weights, .ref a_joiner, .ref a_codes, .int m_kinds, .int m_groups, .int m_tables])), (a_symbols, .inr (5, [.ref a_symbols_values, .int m_symbols_count])), (a_symbols_values, .inl (cI, 301, .inl m_symbols_values)), (a_tableOfGroup, .inl (cG, 5, .inr (.inr (.inr (.inr (fun i => if i < 5 then some (aF_tableOfGroup i) else none)))))), (aF_tableOfGroup 0, .inl (cI, 31, .inl (M_tableOfGroup 0))), (aF_tableOfGroup 1, .inl (cI, 31, .inl (M_tableOfGroup 1))), (aF_tableOfGroup 2, .inl (cI, 31, .inl (M_tableOfGroup 2))), (aF_tableOfGroup 3, .inl (cI, 31, .inl (M_tableOfGroup 3))), (aF_tableOfGroup 4, .inl (cI, 31, .inl (M_tableOfGroup 4))), (a_weights, .inl (cI, 258, .inl m_weights'))] := by
  refine CT.of (cc := cX4_weigh) (maxL := 4) (ret := none) (by decide) rfl (Nat.le_of_ble_eq_true rfl) ?_
  intro p e s m below meth c A ls hx hb hr hml hts hown hlocks hK hA hP hD hS hl
  generalize hargs : ([.ref a_self, .int x1, .int x2] : List Value).toArray = args at hts ⊢
  generalize hQ : MQ below (ctQ D none [(a_self, .inr (4, [.ref a_symbols, .ref a_tableOfGroup, .ref a_lengths, .ref a_weights, .ref a_joiner, .ref a_codes, .int m_kinds, .int m_groups, .int m_tables])), (a_symbols, .inr (5, [.ref a_symbols_values, .int m_symbols_count])), (a_symbols_values, .inl (cI, 301, .inl m_symbols_values)), (a_tableOfGroup, .inl (cG, 5, .inr (.inr (.inr (.inr (fun i => if i < 5 then some (aF_tableOfGroup i) else none)))))), (aF_tableOfGroup 0, .inl (cI, 31, .inl (M_tableOfGroup 0))), (aF_tableOfGroup 1, .inl (cI, 31, .inl (M_tableOfGroup 1))), (aF_tableOfGroup 2, .inl (cI, 31, .inl (M_tableOfGroup 2))), (aF_tableOfGroup 3, .inl (cI, 31, .inl (M_tableOfGroup 3))), (aF_tableOfGroup 4, .inl (cI, 31, .inl (M_tableOfGroup 4))), (a_weights, .inl (cI, 258, .inl m_weights'))] A) args s 0 0 A = Q
  have hl : lv_has ls 4 [(0, .ref a_self), (1, .int x1), (2, .int x2)] := hl
  have hW : WS D A s [(a_self, .inr (4, [.ref a_symbols, .ref a_tableOfGroup, .ref a_lengths, .ref a_weights, .ref a_joiner, .ref a_codes, .int m_kinds, .int m_groups, .int m_tables])), (a_symbols, .inr (5, [.ref a_symbols_values, .int m_symbols_count])), (a_symbols_values, .inl (cI, 301, .inl m_symbols_values)), (a_tableOfGroup, .inl (cG, 5, .inr (.inr (.inr (.inr (fun i => if i < 5 then some (aF_tableOfGroup i) else none)))))), (aF_tableOfGroup 0, .inl (cI, 31, .inl (M_tableOfGroup 0))), (aF_tableOfGroup 1, .inl (cI, 31, .inl (M_tableOfGroup 1))), (aF_tableOfGroup 2, .inl (cI, 31, .inl (M_tableOfGroup 2))), (aF_tableOfGroup 3, .inl (cI, 31, .inl (M_tableOfGroup 3))), (aF_tableOfGroup 4, .inl (cI, 31, .inl (M_tableOfGroup 4))), (a_weights, .inl (cI, 258, .inl m_weights))] s.heap [] := ⟨hP, hD, hS⟩
  clear hP hD hS
  unfold fRounds_weigh at hF
  have hw0 := hts (Cond.fieldLink RX4 43 "MoveFronts$Rounds" "kinds" "I") (by decide +kernel)
  have hw1 := hts (Cond.fieldLink RX4 23 "MoveFronts$Rounds" "weights" "[I") (by decide +kernel)
  have hw2 := hts (Cond.methodLink RX4 122 Lib.Math.max.name) (by decide +kernel)
  have hw3 := hts (Cond.static Lib.Math.max.name) (by decide +kernel)
  have hw4 := hts (Cond.initialized "java/lang/Math") (by decide +kernel)
  have hw5 := hts (Cond.code Lib.Math.max.name Lib.Math.max.code 2 (some .int)) (by decide +kernel)
  have hw6 := hts (Cond.fieldLink RX4 47 "MoveFronts$Rounds" "groups" "I") (by decide +kernel)
  have hw7 := hts (Cond.fieldLink RX4 17 "MoveFronts$Rounds" "tableOfGroup" "[[I") (by decide +kernel)
  have hi4 : ∀ w ∈ u_ws RX4 TX4 9, w ∈ wsX4_weigh := by decide +kernel
  refine lv_aload_n hx hb dX4_weigh_0 rfl (lv_at hl 0 rfl) ?_
  obtain ⟨m_weights_1, e1, hF⟩ := bd1_some hF
  refine ctV (r := (RX4, TX4, 9)) (As := []) (rest := []) hx hb hml hown hts hK hW.1 hW.2.1 hW.2.2 hA hl.1 (kRounds_clearWeights l D cI cZ cO cG a_self a_symbols a_tableOfGroup a_lengths a_weights a_joiner a_codes m_kinds m_groups m_tables m_weights e1) (cwV 0 hts gX4_weigh_X4_clearWeights rfl rfl rfl (by decide +kernel) ⟨Nat.le_of_ble_eq_true rfl, Nat.le_of_ble_eq_true rfl⟩) 4 0 rfl rfl [0, 9] rfl rfl rfl rfl rfl (Nat.le_of_ble_eq_true rfl) rfl ⟨Nat.zero_le _, Nat.zero_le _⟩ dX4_weigh_1 (fun H locs hP hD hS => ?_)
  have hW : WS D A s [(a_self, .inr (4, [.ref a_symbols, .ref a_tableOfGroup, .ref a_lengths, .ref a_weights, .ref a_joiner, .ref a_codes, .int m_kinds, .int m_groups, .int m_tables])), (a_symbols, .inr (5, [.ref a_symbols_values, .int m_symbols_count])), (a_symbols_values, .inl (cI, 301, .inl m_symbols_values)), (a_tableOfGroup, .inl (cG, 5, .inr (.inr (.inr (.inr (fun i => if i < 5 then some (aF_tableOfGroup i) else none)))))), (aF_tableOfGroup 0, .inl (cI, 31, .inl (M_tableOfGroup 0))), (aF_tableOfGroup 1, .inl (cI, 31, .inl (M_tableOfGroup 1))), (aF_tableOfGroup 2, .inl (cI, 31, .inl (M_tableOfGroup 2))), (aF_tableOfGroup 3, .inl (cI, 31, .inl (M_tableOfGroup 3))), (aF_tableOfGroup 4, .inl (cI, 31, .inl (M_tableOfGroup 4))), (a_weights, .inl (cI, 258, .inl m_weights_1))] H locs := ⟨hP, hD, hS⟩
  refine lv_iconst (v := 0) hx hb dX4_weigh_4 (by decide) ?_
  refine lv_istore_n (lv' := [(3, .int (0 : Int32)), (0, .ref a_self), (1, .int x1), (2, .int x2)]) hx hb dX4_weigh_5 rfl hl (by decide) rfl (fun ls hl => ?_)
  obtain ⟨m_weights_6ze, hI, hF⟩ := bd1_some hF
  obtain ⟨nn, hI⟩ := itrO_some hI
  have hX6 : ∀ (m_weights_6z : Nat → Int32), m_weights_6z = m_weights_6ze → ∀ (H : Heap) (locs : List Loc), WS D A s [(a_self, .inr (4, [.ref a_symbols, .ref a_tableOfGroup, .ref a_lengths, .ref a_weights, .ref a_joiner, .ref a_codes, .int m_kinds, .int m_groups, .int m_tables])), (a_symbols, .inr (5, [.ref a_symbols_values, .int m_symbols_count])), (a_symbols_values, .inl (cI, 301, .inl m_symbols_values)), (a_tableOfGroup, .inl (cG, 5, .inr (.inr (.inr (.inr (fun i => if i < 5 then some (aF_tableOfGroup i) else none)))))), (aF_tableOfGroup 0, .inl (cI, 31, .inl (M_tableOfGroup 0))), (aF_tableOfGroup 1, .inl (cI, 31, .inl (M_tableOfGroup 1))), (aF_tableOfGroup 2, .inl (cI, 31, .inl (M_tableOfGroup 2))), (aF_tableOfGroup 3, .inl (cI, 31, .inl (M_tableOfGroup 3))), (aF_tableOfGroup 4, .inl (cI, 31, .inl (M_tableOfGroup 4))), (a_weights, .inl (cI, 258, .inl m_weights_6z))] H locs → ∀ ls : Array Slot, lv_has ls 4 [(0, .ref a_self)] → W p l e (headSpec wsX4_weigh rmRounds_weigh).room s m args below meth c H locs 0 0 Q (F0 m 46 ls []) := by
    intro m_weights_6z he H locs hW ls hl
    subst he
    refine lv_iconst (v := 0) hx hb dX4_weigh_46 (by decide) ?_
    refine lv_istore_n (lv' := [(3, .int (0 : Int32)), (0, .ref a_self)]) hx hb dX4_weigh_47 rfl hl (by decide) rfl (fun ls hl => ?_)
    obtain ⟨m_weights_48ze, hI, hF⟩ := bd1_some hF
    obtain ⟨nn, hI⟩ := itrO_some hI
    have hX48 : ∀ (m_weights_48z : Nat → Int32), m_weights_48z = m_weights_48ze → ∀ (H : Heap) (locs : List Loc), WS D A s [(a_self, .inr (4, [.ref a_symbols, .ref a_tableOfGroup, .ref a_lengths, .ref a_weights, .ref a_joiner, .ref a_codes, .int m_kinds, .int m_groups, .int m_tables])), (a_symbols, .inr (5, [.ref a_symbols_values, .int m_symbols_count])), (a_symbols_values, .inl (cI, 301, .inl m_symbols_values)), (a_tableOfGroup, .inl (cG, 5, .inr (.inr (.inr (.inr (fun i => if i < 5 then some (aF_tableOfGroup i) else none)))))), (aF_tableOfGroup 0, .inl (cI, 31, .inl (M_tableOfGroup 0))), (aF_tableOfGroup 1, .inl (cI, 31, .inl (M_tableOfGroup 1))), (aF_tableOfGroup 2, .inl (cI, 31, .inl (M_tableOfGroup 2))), (aF_tableOfGroup 3, .inl (cI, 31, .inl (M_tableOfGroup 3))), (aF_tableOfGroup 4, .inl (cI, 31, .inl (M_tableOfGroup 4))), (a_weights, .inl (cI, 258, .inl m_weights_48z))] H locs → ∀ ls : Array Slot, lv_has ls 4 [] → W p l e (headSpec wsX4_weigh rmRounds_weigh).room s m args below meth c H locs 0 0 Q (F0 m 78 ls []) := by
      intro m_weights_48z he H locs hW ls hl
      subst he
      cases hF
      subst hQ
      exact ct_vret hx hb hr hlocks hW.1 hW.2.2 dX4_weigh_78
    have hL48 : ∀ (n48 : Nat) (x3_48 : Int32) (m_weights_48 : Nat → Int32), itr (un2 (fRounds_weigh_L48 m_kinds)) n48 (x3_48, m_weights_48) = some m_weights_48ze → ∀ (H : Heap) (locs : List Loc), WS D A s [(a_self, .inr (4, [.ref a_symbols, .ref a_tableOfGroup, .ref a_lengths, .ref a_weights, .ref a_joiner, .ref a_codes, .int m_kinds, .int m_groups, .int m_tables])), (a_symbols, .inr (5, [.ref a_symbols_values, .int m_symbols_count])), (a_symbols_values, .inl (cI, 301, .inl m_symbols_values)), (a_tableOfGroup, .inl (cG, 5, .inr (.inr (.inr (.inr (fun i => if i < 5 then some (aF_tableOfGroup i) else none)))))), (aF_tableOfGroup 0, .inl (cI, 31, .inl (M_tableOfGroup 0))), (aF_tableOfGroup 1, .inl (cI, 31, .inl (M_tableOfGroup 1))), (aF_tableOfGroup 2, .inl (cI, 31, .inl (M_tableOfGroup 2))), (aF_tableOfGroup 3, .inl (cI, 31, .inl (M_tableOfGroup 3))), (aF_tableOfGroup 4, .inl (cI, 31, .inl (M_tableOfGroup 4))), (a_weights, .inl (cI, 258, .inl m_weights_48))] H locs → ∀ ls : Array Slot, lv_has ls 4 [(0, .ref a_self), (3, .int x3_48)] → W p l e (headSpec wsX4_weigh rmRounds_weigh).room s m args below meth c H locs 0 0 Q (F0 m 48 ls []) := by
      intro n48
      induction n48 with
      | zero => intro x3_48 m_weights_48 hI; cases hI
      | succ n48 ih48 =>
        intro x3_48 m_weights_48 hI H locs hW ls hl
        obtain ⟨sr48, hF, hN48⟩ := itr_succ hI
        have hF : fRounds_weigh_L48 m_kinds x3_48 m_weights_48 = some sr48 := hF
        unfold fRounds_weigh_L48 at hF
        refine lv_iload_n hx hb dX4_weigh_48 rfl (lv_at hl 1 rfl) ?_
        refine lv_aload_n hx hb dX4_weigh_49 rfl (lv_at hl 0 rfl) ?_
        refine va_get (D := D) (ci := 4) (v := .int m_kinds) (C := RX4) (T := TX4) (N := 9) hx hb hts hi4 hown hK.1 hW.1 0 rfl rfl 6 (by decide) hw0 (fun _ h9 => h9) rfl dX4_weigh_50 ?_
        refine lv_icmp_ge (tgt := 78) hx hb dX4_weigh_53 (by decide) (fun c53 => ?_) (fun c53 => ?_)
        · rw [if_pos c53] at hF
          cases hF
          exact hX48 _ (itr_out hN48) _ _ hW _ (lv_sub hl [] rfl)
        · rw [if_neg c53] at hF
          refine lv_aload_n hx hb dX4_weigh_56 rfl (lv_at hl 0 rfl) ?_
          refine va_get (D := D) (ci := 4) (v := .ref a_weights) (C := RX4) (T := TX4) (N := 9) hx hb hts hi4 hown hK.1 hW.1 0 rfl rfl 3 (by decide) hw1 (fun _ h9 => h9) rfl dX4_weigh_57 ?_
          refine lv_iload_n hx hb dX4_weigh_60 rfl (lv_at hl 1 rfl) ?_
          refine lv_iconst (v := 1) hx hb dX4_weigh_61 (by decide) ?_
          refine lv_aload_n hx hb dX4_weigh_62 rfl (lv_at hl 0 rfl) ?_
          refine va_get (D := D) (ci := 4) (v := .ref a_weights) (C := RX4) (T := TX4) (N := 9) hx hb hts hi4 hown hK.1 hW.1 0 rfl rfl 3 (by decide) hw1 (fun _ h9 => h9) rfl dX4_weigh_63 ?_
          refine lv_iload_n hx hb dX4_weigh_66 rfl (lv_at hl 1 rfl) ?_
          obtain ⟨g67, hF⟩ := gdI_some hF
          refine va_iald hx hb hK.1 hW.1 9 0 rfl rfl g67 dX4_weigh_67 ?_
          refine va_mmax hx hb (by rw [hml]; exact hl.1.symm) hown hw2 hw3 hw4 hw5 (Nat.le_of_ble_eq_true rfl) (Nat.le_of_ble_eq_true rfl) (Nat.zero_le _) (Nat.zero_le _) dX4_weigh_68 ?_
          obtain ⟨g71, hF⟩ := gdI_some hF
          refine va_iast hx hb hK.1 hW.1 hW.2.1 hW.2.2 9 0 rfl rfl g71 dX4_weigh_71 (fun H locs hP hD hS => ?_)
          have hW : WS D A s [(a_self, .inr (4, [.ref a_symbols, .ref a_tableOfGroup, .ref a_lengths, .ref a_weights, .ref a_joiner, .ref a_codes, .int m_kinds, .int m_groups, .int m_tables])), (a_symbols, .inr (5, [.ref a_symbols_values, .int m_symbols_count])), (a_symbols_values, .inl (cI, 301, .inl m_symbols_values)), (a_tableOfGroup, .inl (cG, 5, .inr (.inr (.inr (.inr (fun i => if i < 5 then some (aF_tableOfGroup i) else none)))))), (aF_tableOfGroup 0, .inl (cI, 31, .inl (M_tableOfGroup 0))), (aF_tableOfGroup 1, .inl (cI, 31, .inl (M_tableOfGroup 1))), (aF_tableOfGroup 2, .inl (cI, 31, .inl (M_tableOfGroup 2))), (aF_tableOfGroup 3, .inl (cI, 31, .inl (M_tableOfGroup 3))), (aF_tableOfGroup 4, .inl (cI, 31, .inl (M_tableOfGroup 4))), (a_weights, .inl (cI, 258, .inl (upd m_weights_48 x3_48.toNatClampNeg (if (1 : Int32) < (m_weights_48 x3_48.toNatClampNeg) then (m_weights_48 x3_48.toNatClampNeg) else (1 : Int32)))))] H locs := ⟨hP, hD, hS⟩
          refine lv_iinc (v := (x3_48 + 1)) (lv' := [(3, .int (x3_48 + 1)), (0, .ref a_self)]) hx hb dX4_weigh_72 hl (k := 1) rfl rfl (by decide) rfl (fun ls hl => ?_)
          refine lv_goto (tgt := 48) hx hb dX4_weigh_75 (by decide) ?_
          cases hF
          exact ih48 _ _ (itr_in hN48) _ _ hW _ (lv_sub hl [1, 0] rfl)
    exact hL48 nn _ _ hI _ _ hW _ (lv_sub hl [1, 0] rfl)
  have hL6 : ∀ (n6 : Nat) (x3_6 : Int32) (m_weights_6 : Nat → Int32), itr (un2 (fRounds_weigh_L6 m_kinds m_groups m_symbols_count m_symbols_values M_tableOfGroup x1 x2)) n6 (x3_6, m_weights_6) = some m_weights_6ze → ∀ (H : Heap) (locs : List Loc), WS D A s [(a_self, .inr (4, [.ref a_symbols, .ref a_tableOfGroup, .ref a_lengths, .ref a_weights, .ref a_joiner, .ref a_codes, .int m_kinds, .int m_groups, .int m_tables])), (a_symbols, .inr (5, [.ref a_symbols_values, .int m_symbols_count])), (a_symbols_values, .inl (cI, 301, .inl m_symbols_values)), (a_tableOfGroup, .inl (cG, 5, .inr (.inr (.inr (.inr (fun i => if i < 5 then some (aF_tableOfGroup i) else none)))))), (aF_tableOfGroup 0, .inl (cI, 31, .inl (M_tableOfGroup 0))), (aF_tableOfGroup 1, .inl (cI, 31, .inl (M_tableOfGroup 1))), (aF_tableOfGroup 2, .inl (cI, 31, .inl (M_tableOfGroup 2))), (aF_tableOfGroup 3, .inl (cI, 31, .inl (M_tableOfGroup 3))), (aF_tableOfGroup 4, .inl (cI, 31, .inl (M_tableOfGroup 4))), (a_weights, .inl (cI, 258, .inl m_weights_6))] H locs → ∀ ls : Array Slot, lv_has ls 4 [(0, .ref a_self), (1, .int x1), (2, .int x2), (3, .int x3_6)] → W p l e (headSpec wsX4_weigh rmRounds_weigh).room s m args below meth c H locs 0 0 Q (F0 m 6 ls []) := by
    intro n6
    induction n6 with
    | zero => intro x3_6 m_weights_6 hI; cases hI
    | succ n6 ih6 =>
      intro x3_6 m_weights_6 hI H locs hW ls hl
      obtain ⟨sr6, hF, hN6⟩ := itr_succ hI
      have hF : fRounds_weigh_L6 m_kinds m_groups m_symbols_count m_symbols_values M_tableOfGroup x1 x2 x3_6 m_weights_6 = some sr6 := hF
      unfold fRounds_weigh_L6 at hF
      refine lv_iload_n hx hb dX4_weigh_6 rfl (lv_at hl 3 rfl) ?_
      refine lv_aload_n hx hb dX4_weigh_7 rfl (lv_at hl 0 rfl) ?_
      refine va_get (D := D) (ci := 4) (v := .int m_groups) (C := RX4) (T := TX4) (N := 9) hx hb hts hi4 hown hK.1 hW.1 0 rfl rfl 7 (by decide) hw6 (fun _ h9 => h9) rfl dX4_weigh_8 ?_
      refine lv_icmp_ge (tgt := 46) hx hb dX4_weigh_11 (by decide) (fun c11 => ?_) (fun c11 => ?_)
      · rw [if_pos c11] at hF
        cases hF
        exact hX6 _ (itr_out hN6) _ _ hW _ (lv_sub hl [0] rfl)
      · rw [if_neg c11] at hF
        refine lv_aload_n hx hb dX4_weigh_14 rfl (lv_at hl 0 rfl) ?_
        refine va_get (D := D) (ci := 4) (v := .ref a_tableOfGroup) (C := RX4) (T := TX4) (N := 9) hx hb hts hi4 hown hK.1 hW.1 0 rfl rfl 1 (by decide) hw7 (fun _ h9 => h9) rfl dX4_weigh_15 ?_
        refine lv_iload_n hx hb dX4_weigh_18 rfl (lv_at hl 1 rfl) ?_
        obtain ⟨g19, hF⟩ := gdI_some hF
        refine ct_aald hx hb hK.1 hW.1 3 3 rfl rfl rfl g19 (if_pos (in_lt g19)) dX4_weigh_19 ?_
        refine lv_iload_n hx hb dX4_weigh_20 rfl (lv_at hl 3 rfl) ?_
        obtain ⟨g21, hF⟩ := gdI_some hF
        refine va_iald hx hb hK.1 hW.1 (4 + x1.toNatClampNeg) 0 (fam_get 4 5 (cA := cI) (len := 31) (aF := aF_tableOfGroup) (M := M_tableOfGroup) rfl (in_lt g19)) rfl g21 dX4_weigh_21 ?_
        refine lv_iload_n hx hb dX4_weigh_22 rfl (lv_at hl 2 rfl) ?_
        refine lv_icmp_ne (tgt := 40) hx hb dX4_weigh_23 (by decide) (fun c23 => ?_) (fun c23 => ?_)
        · rw [if_neg c23] at hF
          refine lv_iinc (v := (x3_6 + 1)) (lv' := [(3, .int (x3_6 + 1)), (0, .ref a_self), (1, .int x1), (2, .int x2)]) hx hb dX4_weigh_40 hl (k := 3) rfl rfl (by decide) rfl (fun ls hl => ?_)
          refine lv_goto (tgt := 6) hx hb dX4_weigh_43 (by decide) ?_
          cases hF
          exact ih6 _ _ (itr_in hN6) _ _ hW _ (lv_sub hl [1, 2, 3, 0] rfl)
        · rw [if_pos c23] at hF
          refine lv_aload_n hx hb dX4_weigh_26 rfl (lv_at hl 0 rfl) ?_
          refine lv_iload_n hx hb dX4_weigh_27 rfl (lv_at hl 3 rfl) ?_
          refine lv_bipush (v := 10) hx hb dX4_weigh_28 (by decide) ?_
          refine lv_imul hx hb dX4_weigh_30 ?_
          refine lv_iload_n hx hb dX4_weigh_31 rfl (lv_at hl 3 rfl) ?_
          refine lv_iconst (v := 1) hx hb dX4_weigh_32 (by decide) ?_
          refine lv_iadd hx hb dX4_weigh_33 ?_
          refine lv_bipush (v := 10) hx hb dX4_weigh_34 (by decide) ?_
          refine lv_imul hx hb dX4_weigh_36 ?_
          obtain ⟨m_weights_37, e37, hF⟩ := bd1_some hF
          refine ctV (r := (RX4, TX4, 9)) (As := [.int (x3_6 * (10 : Int32)), .int ((x3_6 + (1 : Int32)) * (10 : Int32))]) (rest := []) hx hb hml hown hts hK hW.1 hW.2.1 hW.2.2 hA hl.1 (kRounds_weighSymbols l D cI cZ cO cG a_self a_symbols a_tableOfGroup a_lengths a_weights a_joiner a_codes a_symbols_values m_kinds m_groups m_tables m_symbols_count m_symbols_values m_weights_6 (x3_6 * (10 : Int32)) ((x3_6 + (1 : Int32)) * (10 : Int32)) e37) (cwV 2 hts gX4_weigh_X4_weighSymbols rfl rfl rfl (by decide +kernel) ⟨Nat.le_of_ble_eq_true rfl, Nat.le_of_ble_eq_true rfl⟩) 4 0 rfl rfl [0, 1, 2, 9] rfl rfl rfl rfl rfl (Nat.le_of_ble_eq_true rfl) rfl ⟨Nat.zero_le _, Nat.zero_le _⟩ dX4_weigh_37 (fun H locs hP hD hS => ?_)
          have hW : WS D A s [(a_self, .inr (4, [.ref a_symbols, .ref a_tableOfGroup, .ref a_lengths, .ref a_weights, .ref a_joiner, .ref a_codes, .int m_kinds, .int m_groups, .int m_tables])), (a_symbols, .inr (5, [.ref a_symbols_values, .int m_symbols_count])), (a_symbols_values, .inl (cI, 301, .inl m_symbols_values)), (a_tableOfGroup, .inl (cG, 5, .inr (.inr (.inr (.inr (fun i => if i < 5 then some (aF_tableOfGroup i) else none)))))), (aF_tableOfGroup 0, .inl (cI, 31, .inl (M_tableOfGroup 0))), (aF_tableOfGroup 1, .inl (cI, 31, .inl (M_tableOfGroup 1))), (aF_tableOfGroup 2, .inl (cI, 31, .inl (M_tableOfGroup 2))), (aF_tableOfGroup 3, .inl (cI, 31, .inl (M_tableOfGroup 3))), (aF_tableOfGroup 4, .inl (cI, 31, .inl (M_tableOfGroup 4))), (a_weights, .inl (cI, 258, .inl m_weights_37))] H locs := ⟨hP, hD, hS⟩
          refine lv_iinc (v := (x3_6 + 1)) (lv' := [(3, .int (x3_6 + 1)), (0, .ref a_self), (1, .int x1), (2, .int x2)]) hx hb dX4_weigh_40 hl (k := 3) rfl rfl (by decide) rfl (fun ls hl => ?_)
          refine lv_goto (tgt := 6) hx hb dX4_weigh_43 (by decide) ?_
          cases hF
          exact ih6 _ _ (itr_in hN6) _ _ hW _ (lv_sub hl [1, 2, 3, 0] rfl)
  exact hL6 nn _ _ hI _ _ hW _ (lv_sub hl [1, 2, 3, 0] rfl)
