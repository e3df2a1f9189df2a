abbrev rmFront_add : Room := { frames := 0, cells := 0, slots := 0, locals := 0 }
set_option maxHeartbeats 4000000 in
set_option maxRecDepth 100000 in
theorem kFront_add (l : Launch) (D : va_G) (cI cZ cO cG : ClassId) (a_self : Nat) (a_list : Nat) (n_list : Nat) (m_count : Int32) (m_list : Nat → Int32) (x1 : Int32) {m_count' : Int32} {m_list' : Nat → Int32} (hF : fFront_add n_list m_count m_list x1 = some (m_count', m_list')) : CT l yX1_add wsX1_add rmFront_add D (tysG cI cZ cO cG) [.ref a_self, .int x1] [ob a_self 1 [Value.ref a_list, Value.int m_count], ia cI a_list n_list m_list] none [ob a_self 1 [Value.ref a_list, Value.int m_count'], ia cI a_list n_list m_list'] := by
  refine CT.of (cc := cX1_add) (maxL := 2) (ret := none) (by decide) rfl (Nat.le_of_ble_eq_true rfl) ?_
  intro p e s m below meth c A ls hx hb hr hml hts hown hlocks hK hA hP hD hS hl
  generalize hargs : ([.ref a_self, .int x1] : List Value).toArray = args at hts ⊢
  generalize hQ : MQ below (ctQ D none [ob a_self 1 [Value.ref a_list, Value.int m_count'], ia cI a_list n_list m_list'] A) args s 0 0 A = Q
  have hl : lv_has ls 2 [(0, .ref a_self), (1, .int x1)] := hl
  have hW : WS D A s [ob a_self 1 [Value.ref a_list, Value.int m_count], ia cI a_list n_list m_list] s.heap [] := ⟨hP, hD, hS⟩
  clear hP hD hS
  unfold fFront_add at hF
  have hw0 := hts (Cond.fieldLink RX1 15 "MoveFronts$Front" "count" "I") (by decide +kernel)
  have hw1 := hts (Cond.fieldLink RX1 9 "MoveFronts$Front" "list" "[I") (by decide +kernel)
  have hi1 : ∀ w ∈ u_ws RX1 TX1 2, w ∈ wsX1_add := by decide +kernel
  refine lv_aload_n hx hb dX1_add_0 rfl (lv_at hl 0 rfl) ?_
  refine va_get (D := D) (ci := 1) (v := .int m_count) (C := RX1) (T := TX1) (N := 2) hx hb hts hi1 hown hK.1 hW.1 0 rfl rfl 1 (by decide) hw0 (fun _ h9 => h9) rfl dX1_add_1 ?_
  refine lv_aload_n hx hb dX1_add_4 rfl (lv_at hl 0 rfl) ?_
  refine va_get (D := D) (ci := 1) (v := .ref a_list) (C := RX1) (T := TX1) (N := 2) hx hb hts hi1 hown hK.1 hW.1 0 rfl rfl 0 (by decide) hw1 (fun _ h9 => h9) rfl dX1_add_5 ?_
  refine va_alen hx hb hK.1 hW.1 1 0 rfl rfl (v := (Int32.ofNat n_list)) rfl dX1_add_8 ?_
  refine lv_icmp_ge (tgt := 32) hx hb dX1_add_9 (by decide) (fun c9 => ?_) (fun c9 => ?_)
  · rw [if_pos c9] at hF
    cases hF
    subst hQ
    exact ct_vret hx hb hr hlocks hW.1 hW.2.2 dX1_add_32
  · rw [if_neg c9] at hF
    refine lv_aload_n hx hb dX1_add_12 rfl (lv_at hl 0 rfl) ?_
    refine va_get (D := D) (ci := 1) (v := .ref a_list) (C := RX1) (T := TX1) (N := 2) hx hb hts hi1 hown hK.1 hW.1 0 rfl rfl 0 (by decide) hw1 (fun _ h9 => h9) rfl dX1_add_13 ?_
    refine lv_aload_n hx hb dX1_add_16 rfl (lv_at hl 0 rfl) ?_
    refine va_get (D := D) (ci := 1) (v := .int m_count) (C := RX1) (T := TX1) (N := 2) hx hb hts hi1 hown hK.1 hW.1 0 rfl rfl 1 (by decide) hw0 (fun _ h9 => h9) rfl dX1_add_17 ?_
    refine lv_iload_n hx hb dX1_add_20 rfl (lv_at hl 1 rfl) ?_
    obtain ⟨g21, hF⟩ := gdI_some hF
    refine va_iast hx hb hK.1 hW.1 hW.2.1 hW.2.2 1 0 rfl rfl g21 dX1_add_21 (fun H locs hP hD hS => ?_)
    have hW : WS D A s [ob a_self 1 [Value.ref a_list, Value.int m_count], ia cI a_list n_list (upd m_list m_count.toNatClampNeg x1)] H locs := ⟨hP, hD, hS⟩
    refine lv_aload_n hx hb dX1_add_22 rfl (lv_at hl 0 rfl) ?_
    refine lv_dup hx hb dX1_add_23 rfl ?_
    refine va_get (D := D) (ci := 1) (v := .int m_count) (C := RX1) (T := TX1) (N := 2) hx hb hts hi1 hown hK.1 hW.1 0 rfl rfl 1 (by decide) hw0 (fun _ h9 => h9) rfl dX1_add_24 ?_
    refine lv_iconst (v := 1) hx hb dX1_add_27 (by decide) ?_
    refine lv_iadd hx hb dX1_add_28 ?_
    refine va_put (D := D) (ci := 1) (v := .int (m_count + (1 : Int32))) (ty := .int) (C := RX1) (T := TX1) (N := 2) hx hb hts hi1 tyX1 tyX1_ok nmX1 hown hK.1 hW.1 hW.2.1 hW.2.2 0 rfl rfl 1 (by decide) hw0 (fun _ h9 => h9) rfl (by decide +kernel) rfl rfl (Nat.le_of_ble_eq_true rfl) dX1_add_29 (fun H locs hP hD hS => ?_)
    have hW : WS D A s [ob a_self 1 [Value.ref a_list, Value.int (m_count + (1 : Int32))], ia cI a_list n_list (upd m_list m_count.toNatClampNeg x1)] H locs := ⟨hP, hD, hS⟩
    cases hF
    subst hQ
    exact ct_vret hx hb hr hlocks hW.1 hW.2.2 dX1_add_32
abbrev rmFront_clear : Room := { frames := 0, cells := 0, slots := 0, locals := 0 }
set_option maxHeartbeats 4000000 in
set_option maxRecDepth 100000 in
theorem kFront_clear (l : Launch) (D : va_G) (cI cZ cO cG : ClassId) (a_self : Nat) (a_list : Nat) (m_count : Int32) {m_count' : Int32} (hF : fFront_clear = some m_count') : CT l yX1_clear wsX1_clear rmFront_clear D (tysG cI cZ cO cG) [.ref a_self] [ob a_self 1 [Value.ref a_list, Value.int m_count]] none [ob a_self 1 [Value.ref a_list, Value.int m_count']] := by
  refine CT.of (cc := cX1_clear) (maxL := 1) (ret := none) (by decide) rfl (Nat.le_of_ble_eq_true rfl) ?_
  intro p e s m below meth c A ls hx hb hr hml hts hown hlocks hK hA hP hD hS hl
  generalize hargs : ([.ref a_self] : List Value).toArray = args at hts ⊢
  generalize hQ : MQ below (ctQ D none [ob a_self 1 [Value.ref a_list, Value.int m_count']] A) args s 0 0 A = Q
  have hl : lv_has ls 1 [(0, .ref a_self)] := hl
  have hW : WS D A s [ob a_self 1 [Value.ref a_list, Value.int m_count]] s.heap [] := ⟨hP, hD, hS⟩
  clear hP hD hS
  unfold fFront_clear at hF
  have hw0 := hts (Cond.fieldLink RX1 15 "MoveFronts$Front" "count" "I") (by decide +kernel)
  have hi1 : ∀ w ∈ u_ws RX1 TX1 2, w ∈ wsX1_clear := by decide +kernel
  refine lv_aload_n hx hb dX1_clear_0 rfl (lv_at hl 0 rfl) ?_
  refine lv_iconst (v := 0) hx hb dX1_clear_1 (by decide) ?_
  refine va_put (D := D) (ci := 1) (v := .int (0 : Int32)) (ty := .int) (C := RX1) (T := TX1) (N := 2) hx hb hts hi1 tyX1 tyX1_ok nmX1 hown hK.1 hW.1 hW.2.1 hW.2.2 0 rfl rfl 1 (by decide) hw0 (fun _ h9 => h9) rfl (by decide +kernel) rfl rfl (Nat.le_of_ble_eq_true rfl) dX1_clear_2 (fun H locs hP hD hS => ?_)
  have hW : WS D A s [ob a_self 1 [Value.ref a_list, Value.int (0 : Int32)]] H locs := ⟨hP, hD, hS⟩
  cases hF
  subst hQ
  exact ct_vret hx hb hr hlocks hW.1 hW.2.2 dX1_clear_5
abbrev rmFront_bringUp : Room := { frames := 0, cells := 0, slots := 0, locals := 0 }
set_option maxHeartbeats 4000000 in
set_option maxRecDepth 100000 in
theorem kFront_bringUp (l : Launch) (D : va_G) (cI cZ cO cG : ClassId) (a_self : Nat) (a_list : Nat) (n_list : Nat) (m_count : Int32) (m_list : Nat → Int32) (x1 : Int32) {rv : Int32} {m_list' : Nat → Int32} (hF : fFront_bringUp n_list m_count m_list x1 = some (rv, m_list')) : CT l yX1_bringUp wsX1_bringUp rmFront_bringUp D (tysG cI cZ cO cG) [.ref a_self, .int x1] [ob a_self 1 [Value.ref a_list, Value.int m_count], ia cI a_list n_list m_list] (some (.int rv)) [ob a_self 1 [Value.ref a_list, Value.int m_count], ia cI a_list n_list m_list'] := by
  refine CT.of (cc := cX1_bringUp) (maxL := 4) (ret := (some .int)) (by decide) rfl (Nat.le_of_ble_eq_true rfl) ?_
  intro p e s m below meth c A ls hx hb hr hml hts hown hlocks hK hA hP hD hS hl
  generalize hargs : ([.ref a_self, .int x1] : List Value).toArray = args at hts ⊢
  generalize hQ : MQ below (ctQ D (some (.int rv)) [ob a_self 1 [Value.ref a_list, Value.int m_count], ia cI a_list n_list m_list'] A) args s 0 0 A = Q
  have hl : lv_has ls 4 [(0, .ref a_self), (1, .int x1)] := hl
  have hW : WS D A s [ob a_self 1 [Value.ref a_list, Value.int m_count], ia cI a_list n_list m_list] s.heap [] := ⟨hP, hD, hS⟩
  clear hP hD hS
  unfold fFront_bringUp at hF
  have hw0 := hts (Cond.fieldLink RX1 15 "MoveFronts$Front" "count" "I") (by decide +kernel)
  have hw1 := hts (Cond.fieldLink RX1 9 "MoveFronts$Front" "list" "[I") (by decide +kernel)
  have hi1 : ∀ w ∈ u_ws RX1 TX1 2, w ∈ wsX1_bringUp := by decide +kernel
  refine lv_iload_n hx hb dX1_bringUp_0 rfl (lv_at hl 1 rfl) ?_
  refine lv_if_lt (tgt := 12) hx hb dX1_bringUp_1 (by decide) (fun c1 => ?_) (fun c1 => ?_)
  · rw [if_pos c1] at hF
    refine lv_iconst (v := (-1)) hx hb dX1_bringUp_12 (by decide) ?_
    cases hF
    subst hQ
    exact ct_iret hx hb hr hlocks hW.1 hW.2.2 dX1_bringUp_13
  · rw [if_neg c1] at hF
    refine lv_iload_n hx hb dX1_bringUp_4 rfl (lv_at hl 1 rfl) ?_
    refine lv_aload_n hx hb dX1_bringUp_5 rfl (lv_at hl 0 rfl) ?_
    refine va_get (D := D) (ci := 1) (v := .int m_count) (C := RX1) (T := TX1) (N := 2) hx hb hts hi1 hown hK.1 hW.1 0 rfl rfl 1 (by decide) hw0 (fun _ h9 => h9) rfl dX1_bringUp_6 ?_
    refine lv_icmp_lt (tgt := 14) hx hb dX1_bringUp_9 (by decide) (fun c9 => ?_) (fun c9 => ?_)
    · rw [if_pos c9] at hF
      refine lv_aload_n hx hb dX1_bringUp_14 rfl (lv_at hl 0 rfl) ?_
      refine va_get (D := D) (ci := 1) (v := .ref a_list) (C := RX1) (T := TX1) (N := 2) hx hb hts hi1 hown hK.1 hW.1 0 rfl rfl 0 (by decide) hw1 (fun _ h9 => h9) rfl dX1_bringUp_15 ?_
      refine lv_iload_n hx hb dX1_bringUp_18 rfl (lv_at hl 1 rfl) ?_
      obtain ⟨g19, hF⟩ := gdI_some hF
      refine va_iald hx hb hK.1 hW.1 1 0 rfl rfl g19 dX1_bringUp_19 ?_
      refine lv_istore_n (lv' := [(2, .int (m_list x1.toNatClampNeg)), (0, .ref a_self), (1, .int x1)]) hx hb dX1_bringUp_20 rfl hl (by decide) rfl (fun ls hl => ?_)
      refine lv_iload_n hx hb dX1_bringUp_21 rfl (lv_at hl 2 rfl) ?_
      refine lv_istore_n (lv' := [(3, .int x1), (2, .int (m_list x1.toNatClampNeg)), (0, .ref a_self), (1, .int x1)]) hx hb dX1_bringUp_22 rfl hl (by decide) rfl (fun ls hl => ?_)
      obtain ⟨m_list_23ze, hI, hF⟩ := bd1_some hF
      obtain ⟨nn, hI⟩ := itrO_some hI
      have hX23 : ∀ (m_list_23z : Nat → Int32), m_list_23z = m_list_23ze → ∀ (H : Heap) (locs : List Loc), WS D A s [ob a_self 1 [Value.ref a_list, Value.int m_count], ia cI a_list n_list m_list_23z] H locs → ∀ ls : Array Slot, lv_has ls 4 [(0, .ref a_self), (2, .int (m_list x1.toNatClampNeg))] → W p l e (headSpec wsX1_bringUp rmFront_bringUp).room s m args below meth c H locs 0 0 Q (F0 m 47 ls []) := by
        intro m_list_23z he H locs hW ls hl
        subst he
        refine lv_aload_n hx hb dX1_bringUp_47 rfl (lv_at hl 0 rfl) ?_
        refine va_get (D := D) (ci := 1) (v := .ref a_list) (C := RX1) (T := TX1) (N := 2) hx hb hts hi1 hown hK.1 hW.1 0 rfl rfl 0 (by decide) hw1 (fun _ h9 => h9) rfl dX1_bringUp_48 ?_
        refine lv_iconst (v := 0) hx hb dX1_bringUp_51 (by decide) ?_
        refine lv_iload_n hx hb dX1_bringUp_52 rfl (lv_at hl 1 rfl) ?_
        obtain ⟨g53, hF⟩ := gdI_some hF
        refine va_iast hx hb hK.1 hW.1 hW.2.1 hW.2.2 1 0 rfl rfl g53 dX1_bringUp_53 (fun H locs hP hD hS => ?_)
        have hW : WS D A s [ob a_self 1 [Value.ref a_list, Value.int m_count], ia cI a_list n_list (upd m_list_23z (0 : Int32).toNatClampNeg (m_list x1.toNatClampNeg))] H locs := ⟨hP, hD, hS⟩
        refine lv_iload_n hx hb dX1_bringUp_54 rfl (lv_at hl 1 rfl) ?_
        cases hF
        subst hQ
        exact ct_iret hx hb hr hlocks hW.1 hW.2.2 dX1_bringUp_55
      have hL23 : ∀ (n23 : Nat) (x3_23 : Int32) (m_list_23 : Nat → Int32), itr (un2 (fFront_bringUp_L23 n_list)) n23 (x3_23, m_list_23) = some m_list_23ze → ∀ (H : Heap) (locs : List Loc), WS D A s [ob a_self 1 [Value.ref a_list, Value.int m_count], ia cI a_list n_list m_list_23] H locs → ∀ ls : Array Slot, lv_has ls 4 [(0, .ref a_self), (2, .int (m_list x1.toNatClampNeg)), (3, .int x3_23)] → W p l e (headSpec wsX1_bringUp rmFront_bringUp).room s m args below meth c H locs 0 0 Q (F0 m 23 ls []) := by
        intro n23
        induction n23 with
        | zero => intro x3_23 m_list_23 hI; cases hI
        | succ n23 ih23 =>
          intro x3_23 m_list_23 hI H locs hW ls hl
          obtain ⟨sr23, hF, hN23⟩ := itr_succ hI
          have hF : fFront_bringUp_L23 n_list x3_23 m_list_23 = some sr23 := hF
          unfold fFront_bringUp_L23 at hF
          refine lv_iload_n hx hb dX1_bringUp_23 rfl (lv_at hl 2 rfl) ?_
          refine lv_if_le (tgt := 47) hx hb dX1_bringUp_24 (by decide) (fun c24 => ?_) (fun c24 => ?_)
          · rw [if_pos c24] at hF
            cases hF
            exact hX23 _ (itr_out hN23) _ _ hW _ (lv_sub hl [0, 1] rfl)
          · rw [if_neg c24] at hF
            refine lv_aload_n hx hb dX1_bringUp_27 rfl (lv_at hl 0 rfl) ?_
            refine va_get (D := D) (ci := 1) (v := .ref a_list) (C := RX1) (T := TX1) (N := 2) hx hb hts hi1 hown hK.1 hW.1 0 rfl rfl 0 (by decide) hw1 (fun _ h9 => h9) rfl dX1_bringUp_28 ?_
            refine lv_iload_n hx hb dX1_bringUp_31 rfl (lv_at hl 2 rfl) ?_
            refine lv_aload_n hx hb dX1_bringUp_32 rfl (lv_at hl 0 rfl) ?_
            refine va_get (D := D) (ci := 1) (v := .ref a_list) (C := RX1) (T := TX1) (N := 2) hx hb hts hi1 hown hK.1 hW.1 0 rfl rfl 0 (by decide) hw1 (fun _ h9 => h9) rfl dX1_bringUp_33 ?_
            refine lv_iload_n hx hb dX1_bringUp_36 rfl (lv_at hl 2 rfl) ?_
            refine lv_iconst (v := 1) hx hb dX1_bringUp_37 (by decide) ?_
            refine lv_isub hx hb dX1_bringUp_38 ?_
            obtain ⟨g39, hF⟩ := gdI_some hF
            refine va_iald hx hb hK.1 hW.1 1 0 rfl rfl g39 dX1_bringUp_39 ?_
            obtain ⟨g40, hF⟩ := gdI_some hF
            refine va_iast hx hb hK.1 hW.1 hW.2.1 hW.2.2 1 0 rfl rfl g40 dX1_bringUp_40 (fun H locs hP hD hS => ?_)
            have hW : WS D A s [ob a_self 1 [Value.ref a_list, Value.int m_count], ia cI a_list n_list (upd m_list_23 x3_23.toNatClampNeg (m_list_23 (x3_23 - (1 : Int32)).toNatClampNeg))] H locs := ⟨hP, hD, hS⟩
            refine lv_iinc (v := (x3_23 + (-1))) (lv' := [(3, .int (x3_23 + (-1))), (0, .ref a_self), (2, .int (m_list x1.toNatClampNeg))]) hx hb dX1_bringUp_41 hl (k := 2) rfl rfl (by decide) rfl (fun ls hl => ?_)
            refine lv_goto (tgt := 23) hx hb dX1_bringUp_44 (by decide) ?_
            cases hF
            exact ih23 _ _ (itr_in hN23) _ _ hW _ (lv_sub hl [1, 2, 0] rfl)
      exact hL23 nn _ _ hI _ _ hW _ (lv_sub hl [2, 1, 0] rfl)
    · rw [if_neg c9] at hF
      refine lv_iconst (v := (-1)) hx hb dX1_bringUp_12 (by decide) ?_
      cases hF
      subst hQ
      exact ct_iret hx hb hr hlocks hW.1 hW.2.2 dX1_bringUp_13
abbrev rmFront_find : Room := { frames := 0, cells := 0, slots := 0, locals := 0 }
set_option maxHeartbeats 4000000 in
set_option maxRecDepth 100000 in
theorem kFront_find (l : Launch) (D : va_G) (cI cZ cO cG : ClassId) (a_self : Nat) (a_list : Nat) (n_list : Nat) (m_count : Int32) (m_list : Nat → Int32) (x1 : Int32) {rv : Int32} (hF : fFront_find n_list m_count m_list x1 = some rv) : CT l yX1_find wsX1_find rmFront_find D (tysG cI cZ cO cG) [.ref a_self, .int x1] [ob a_self 1 [Value.ref a_list, Value.int m_count], ia cI a_list n_list m_list] (some (.int rv)) [ob a_self 1 [Value.ref a_list, Value.int m_count], ia cI a_list n_list m_list] := by
  refine CT.of (cc := cX1_find) (maxL := 3) (ret := (some .int)) (by decide) rfl (Nat.le_of_ble_eq_true rfl) ?_
  intro p e s m below meth c A ls hx hb hr hml hts hown hlocks hK hA hP hD hS hl
  generalize hargs : ([.ref a_self, .int x1] : List Value).toArray = args at hts ⊢
  generalize hQ : MQ below (ctQ D (some (.int rv)) [ob a_self 1 [Value.ref a_list, Value.int m_count], ia cI a_list n_list m_list] A) args s 0 0 A = Q
  have hl : lv_has ls 3 [(0, .ref a_self), (1, .int x1)] := hl
  have hW : WS D A s [ob a_self 1 [Value.ref a_list, Value.int m_count], ia cI a_list n_list m_list] s.heap [] := ⟨hP, hD, hS⟩
  clear hP hD hS
  unfold fFront_find at hF
  have hw0 := hts (Cond.fieldLink RX1 15 "MoveFronts$Front" "count" "I") (by decide +kernel)
  have hw1 := hts (Cond.fieldLink RX1 9 "MoveFronts$Front" "list" "[I") (by decide +kernel)
  have hi1 : ∀ w ∈ u_ws RX1 TX1 2, w ∈ wsX1_find := by decide +kernel
  refine lv_iconst (v := 0) hx hb dX1_find_0 (by decide) ?_
  refine lv_istore_n (lv' := [(2, .int (0 : Int32)), (0, .ref a_self), (1, .int x1)]) hx hb dX1_find_1 rfl hl (by decide) rfl (fun ls hl => ?_)
  obtain ⟨q2, hI, hq2⟩ := bs_some hF
  obtain ⟨nn, hI⟩ := itrO_some hI
  have hX2 : (.inl ()) = q2 → ∀ (H : Heap) (locs : List Loc), WS D A s [ob a_self 1 [Value.ref a_list, Value.int m_count], ia cI a_list n_list m_list] H locs → ∀ ls : Array Slot, lv_has ls 3 [] → W p l e (headSpec wsX1_find rmFront_find).room s m args below meth c H locs 0 0 Q (F0 m 28 ls []) := by
    intro  he H locs hW ls hl
    subst he
    have hF := bs_inl hq2
    refine lv_iconst (v := (-1)) hx hb dX1_find_28 (by decide) ?_
    cases hF
    subst hQ
    exact ct_iret hx hb hr hlocks hW.1 hW.2.2 dX1_find_29
  have hL2 : ∀ (n2 : Nat) (x2_2 : Int32), itr (un1 (fFront_find_L2 n_list m_count m_list x1)) n2 x2_2 = some q2 → ∀ (H : Heap) (locs : List Loc), WS D A s [ob a_self 1 [Value.ref a_list, Value.int m_count], ia cI a_list n_list m_list] H locs → ∀ ls : Array Slot, lv_has ls 3 [(0, .ref a_self), (1, .int x1), (2, .int x2_2)] → W p l e (headSpec wsX1_find rmFront_find).room s m args below meth c H locs 0 0 Q (F0 m 2 ls []) := by
    intro n2
    induction n2 with
    | zero => intro x2_2 hI; cases hI
    | succ n2 ih2 =>
      intro x2_2 hI H locs hW ls hl
      obtain ⟨sr2, hF, hN2⟩ := itr_succ hI
      have hF : fFront_find_L2 n_list m_count m_list x1 x2_2 = some sr2 := hF
      unfold fFront_find_L2 at hF
      refine lv_iload_n hx hb dX1_find_2 rfl (lv_at hl 2 rfl) ?_
      refine lv_aload_n hx hb dX1_find_3 rfl (lv_at hl 0 rfl) ?_
      refine va_get (D := D) (ci := 1) (v := .int m_count) (C := RX1) (T := TX1) (N := 2) hx hb hts hi1 hown hK.1 hW.1 0 rfl rfl 1 (by decide) hw0 (fun _ h9 => h9) rfl dX1_find_4 ?_
      refine lv_icmp_ge (tgt := 28) hx hb dX1_find_7 (by decide) (fun c7 => ?_) (fun c7 => ?_)
      · rw [if_pos c7] at hF
        cases hF
        exact hX2  (itr_out hN2) _ _ hW _ (lv_sub hl [] rfl)
      · rw [if_neg c7] at hF
        refine lv_aload_n hx hb dX1_find_10 rfl (lv_at hl 0 rfl) ?_
        refine va_get (D := D) (ci := 1) (v := .ref a_list) (C := RX1) (T := TX1) (N := 2) hx hb hts hi1 hown hK.1 hW.1 0 rfl rfl 0 (by decide) hw1 (fun _ h9 => h9) rfl dX1_find_11 ?_
        refine lv_iload_n hx hb dX1_find_14 rfl (lv_at hl 2 rfl) ?_
        obtain ⟨g15, hF⟩ := gdI_some hF
        refine va_iald hx hb hK.1 hW.1 1 0 rfl rfl g15 dX1_find_15 ?_
        refine lv_iload_n hx hb dX1_find_16 rfl (lv_at hl 1 rfl) ?_
        refine lv_icmp_ne (tgt := 22) hx hb dX1_find_17 (by decide) (fun c17 => ?_) (fun c17 => ?_)
        · rw [if_neg c17] at hF
          refine lv_iinc (v := (x2_2 + 1)) (lv' := [(2, .int (x2_2 + 1)), (0, .ref a_self), (1, .int x1)]) hx hb dX1_find_22 hl (k := 2) rfl rfl (by decide) rfl (fun ls hl => ?_)
          refine lv_goto (tgt := 2) hx hb dX1_find_25 (by decide) ?_
          cases hF
          exact ih2 _ (itr_in hN2) _ _ hW _ (lv_sub hl [1, 2, 0] rfl)
        · rw [if_pos c17] at hF
          refine lv_iload_n hx hb dX1_find_20 rfl (lv_at hl 2 rfl) ?_
          cases hF
          have hq0 := itr_out hN2
          subst hq0
          have hF := bs_inr hq2
          cases hF
          subst hQ
          exact ct_iret hx hb hr hlocks hW.1 hW.2.2 dX1_find_21
  exact hL2 nn _ hI _ _ hW _ (lv_sub hl [1, 2, 0] rfl)
abbrev rmFront_restart : Room := { frames := 1, cells := 0, slots := 0, locals := 21 }
set_option maxHeartbeats 4000000 in
set_option maxRecDepth 100000 in
theorem kFront_restart (l : Launch) (D : va_G) (cI cZ cO cG : ClassId) (a_self : Nat) (a_list : Nat) (n_list : Nat) (m_count : Int32) (m_list : Nat → Int32) (x1 : Int32) {m_count' : Int32} {m_list' : Nat → Int32} (hF : fFront_restart n_list m_list x1 = some (m_count', m_list')) : CT l yX1_restart wsX1_restart rmFront_restart D (tysG cI cZ cO cG) [.ref a_self, .int x1] [ob a_self 1 [Value.ref a_list, Value.int m_count], ia cI a_list n_list m_list] none [ob a_self 1 [Value.ref a_list, Value.int m_count'], ia cI a_list n_list m_list'] := by
  refine CT.of (cc := cX1_restart) (maxL := 3) (ret := none) (by decide) rfl (Nat.le_of_ble_eq_true rfl) ?_
  intro p e s m below meth c A ls hx hb hr hml hts hown hlocks hK hA hP hD hS hl
  generalize hargs : ([.ref a_self, .int x1] : List Value).toArray = args at hts ⊢
  generalize hQ : MQ below (ctQ D none [ob a_self 1 [Value.ref a_list, Value.int m_count'], ia cI a_list n_list m_list'] A) args s 0 0 A = Q
  have hl : lv_has ls 3 [(0, .ref a_self), (1, .int x1)] := hl
  have hW : WS D A s [ob a_self 1 [Value.ref a_list, Value.int m_count], ia cI a_list n_list m_list] s.heap [] := ⟨hP, hD, hS⟩
  clear hP hD hS
  unfold fFront_restart at hF
  refine lv_aload_n hx hb dX1_restart_0 rfl (lv_at hl 0 rfl) ?_
  obtain ⟨m_count_1, e1, hF⟩ := bd1_some hF
  refine ctV (wn := [ob a_self 1 [Value.ref a_list, Value.int m_count_1], ia cI a_list n_list m_list]) (r := (RX1, TX1, 2)) (As := []) (rest := []) hx hb hml hown hts hK hW hA hl.1 (kFront_clear l D cI cZ cO cG a_self a_list m_count e1) (cwV 0 hts gX1_restart_X1_clear rfl rfl rfl (by decide +kernel) ⟨Nat.le_of_ble_eq_true rfl, Nat.le_of_ble_eq_true rfl⟩) 1 0 rfl rfl [0] [1] 2 rfl rfl rfl rfl [ia cI a_list n_list m_list] rfl rfl rfl rfl rfl (Nat.le_of_ble_eq_true rfl) rfl ⟨Nat.zero_le _, Nat.zero_le _⟩ dX1_restart_1 (fun H locs hW => ?_)
  refine lv_iconst (v := 0) hx hb dX1_restart_4 (by decide) ?_
  refine lv_istore_n (lv' := [(2, .int (0 : Int32)), (0, .ref a_self), (1, .int x1)]) hx hb dX1_restart_5 rfl hl (by decide) rfl (fun ls hl => ?_)
  obtain ⟨m_count_6ze, m_list_6ze, hI, hF⟩ := bd2_some hF
  obtain ⟨nn, hI⟩ := itrO_some hI
  have hX6 : ∀ (m_count_6z : Int32) (m_list_6z : Nat → Int32), (m_count_6z, m_list_6z) = (m_count_6ze, m_list_6ze) → ∀ (H : Heap) (locs : List Loc), WS D A s [ob a_self 1 [Value.ref a_list, Value.int m_count_6z], ia cI a_list n_list m_list_6z] H locs → ∀ ls : Array Slot, lv_has ls 3 [] → W p l e (headSpec wsX1_restart rmFront_restart).room s m args below meth c H locs 0 0 Q (F0 m 22 ls []) := by
    intro m_count_6z m_list_6z he H locs hW ls hl
    obtain ⟨hz0, hy0⟩ := Prod.mk.inj he
    subst hz0
    subst hy0
    cases hF
    subst hQ
    exact ct_vret hx hb hr hlocks hW.1 hW.2.2 dX1_restart_22
  have hL6 : ∀ (n6 : Nat) (x2_6 : Int32) (m_count_6 : Int32) (m_list_6 : Nat → Int32), itr (un3 (fFront_restart_L6 n_list x1)) n6 (x2_6, m_count_6, m_list_6) = some (m_count_6ze, m_list_6ze) → ∀ (H : Heap) (locs : List Loc), WS D A s [ob a_self 1 [Value.ref a_list, Value.int m_count_6], ia cI a_list n_list m_list_6] H locs → ∀ ls : Array Slot, lv_has ls 3 [(0, .ref a_self), (1, .int x1), (2, .int x2_6)] → W p l e (headSpec wsX1_restart rmFront_restart).room s m args below meth c H locs 0 0 Q (F0 m 6 ls []) := by
    intro n6
    induction n6 with
    | zero => intro x2_6 m_count_6 m_list_6 hI; cases hI
    | succ n6 ih6 =>
      intro x2_6 m_count_6 m_list_6 hI H locs hW ls hl
      obtain ⟨sr6, hF, hN6⟩ := itr_succ hI
      have hF : fFront_restart_L6 n_list x1 x2_6 m_count_6 m_list_6 = some sr6 := hF
      unfold fFront_restart_L6 at hF
      refine lv_iload_n hx hb dX1_restart_6 rfl (lv_at hl 2 rfl) ?_
      refine lv_iload_n hx hb dX1_restart_7 rfl (lv_at hl 1 rfl) ?_
      refine lv_icmp_ge (tgt := 22) hx hb dX1_restart_8 (by decide) (fun c8 => ?_) (fun c8 => ?_)
      · rw [if_pos c8] at hF
        cases hF
        exact hX6 _ _ (itr_out hN6) _ _ hW _ (lv_sub hl [] rfl)
      · rw [if_neg c8] at hF
        refine lv_aload_n hx hb dX1_restart_11 rfl (lv_at hl 0 rfl) ?_
        refine lv_iload_n hx hb dX1_restart_12 rfl (lv_at hl 2 rfl) ?_
        obtain ⟨m_count_13, m_list_13, e13, hF⟩ := bd2_some hF
        refine ctV (wn := [ob a_self 1 [Value.ref a_list, Value.int m_count_13], ia cI a_list n_list m_list_13]) (r := (RX1, TX1, 2)) (As := [.int x2_6]) (rest := []) hx hb hml hown hts hK hW hA hl.1 (kFront_add l D cI cZ cO cG a_self a_list n_list m_count_6 m_list_6 x2_6 e13) (cwV 1 hts gX1_restart_X1_add rfl rfl rfl (by decide +kernel) ⟨Nat.le_of_ble_eq_true rfl, Nat.le_of_ble_eq_true rfl⟩) 1 0 rfl rfl [0, 1] [] 2 rfl rfl rfl rfl [] rfl rfl rfl rfl rfl (Nat.le_of_ble_eq_true rfl) rfl ⟨Nat.zero_le _, Nat.zero_le _⟩ dX1_restart_13 (fun H locs hW => ?_)
        refine lv_iinc (v := (x2_6 + 1)) (lv' := [(2, .int (x2_6 + 1)), (0, .ref a_self), (1, .int x1)]) hx hb dX1_restart_16 hl (k := 2) rfl rfl (by decide) rfl (fun ls hl => ?_)
        refine lv_goto (tgt := 6) hx hb dX1_restart_19 (by decide) ?_
        cases hF
        exact ih6 _ _ _ (itr_in hN6) _ _ hW _ (lv_sub hl [1, 2, 0] rfl)
  exact hL6 nn _ _ _ hI _ _ hW _ (lv_sub hl [1, 2, 0] rfl)
abbrev rmFront_size : Room := { frames := 0, cells := 0, slots := 0, locals := 0 }
set_option maxHeartbeats 4000000 in
set_option maxRecDepth 100000 in
theorem kFront_size (l : Launch) (D : va_G) (cI cZ cO cG : ClassId) (a_self : Nat) (a_list : Nat) (m_count : Int32) {rv : Int32} (hF : fFront_size m_count = some rv) : CT l yX1_size wsX1_size rmFront_size D (tysG cI cZ cO cG) [.ref a_self] [ob a_self 1 [Value.ref a_list, Value.int m_count]] (some (.int rv)) [ob a_self 1 [Value.ref a_list, Value.int m_count]] := by
  refine CT.of (cc := cX1_size) (maxL := 1) (ret := (some .int)) (by decide) rfl (Nat.le_of_ble_eq_true rfl) ?_
  intro p e s m below meth c A ls hx hb hr hml hts hown hlocks hK hA hP hD hS hl
  generalize hargs : ([.ref a_self] : List Value).toArray = args at hts ⊢
  generalize hQ : MQ below (ctQ D (some (.int rv)) [ob a_self 1 [Value.ref a_list, Value.int m_count]] A) args s 0 0 A = Q
  have hl : lv_has ls 1 [(0, .ref a_self)] := hl
  have hW : WS D A s [ob a_self 1 [Value.ref a_list, Value.int m_count]] s.heap [] := ⟨hP, hD, hS⟩
  clear hP hD hS
  unfold fFront_size at hF
  have hw0 := hts (Cond.fieldLink RX1 15 "MoveFronts$Front" "count" "I") (by decide +kernel)
  have hi1 : ∀ w ∈ u_ws RX1 TX1 2, w ∈ wsX1_size := by decide +kernel
  refine lv_aload_n hx hb dX1_size_0 rfl (lv_at hl 0 rfl) ?_
  refine va_get (D := D) (ci := 1) (v := .int m_count) (C := RX1) (T := TX1) (N := 2) hx hb hts hi1 hown hK.1 hW.1 0 rfl rfl 1 (by decide) hw0 (fun _ h9 => h9) rfl dX1_size_1 ?_
  cases hF
  subst hQ
  exact ct_iret hx hb hr hlocks hW.1 hW.2.2 dX1_size_4
