abbrev rmRounds_tableOf : Room := { frames := 0, cells := 0, slots := 0, locals := 0 }
set_option maxHeartbeats 4000000 in
set_option maxRecDepth 100000 in
theorem kRounds_tableOf (l : Launch) (D : va_G) (cI cZ cO cG : ClassId) (a_self : Nat) (a_symbols : Nat) (a_tableOfGroup : Nat) (a_lengths : Nat) (a_weights : Nat) (a_joiner : Nat) (a_codes : Nat) (aF_tableOfGroup : Nat → Nat) (m_kinds : Int32) (m_groups : Int32) (m_tables : Int32) (M_tableOfGroup : Nat → Nat → Int32) (x1 : Int32) (x2 : Int32) {rv : Int32} (hF : fRounds_tableOf m_groups M_tableOfGroup x1 x2 = some rv) : CT l yX4_tableOf wsX4_tableOf rmRounds_tableOf D (tysG cI cZ cO cG) [.ref a_self, .int x1, .int x2] [ob a_self 4 [Value.ref a_symbols, Value.ref a_tableOfGroup, Value.ref a_lengths, Value.ref a_weights, Value.ref a_joiner, Value.ref a_codes, Value.int m_kinds, Value.int m_groups, Value.int m_tables], ra cG a_tableOfGroup 5 (fun i => if i < 5 then some (aF_tableOfGroup i) else none), ia cI (aF_tableOfGroup 0) 31 (M_tableOfGroup 0), ia cI (aF_tableOfGroup 1) 31 (M_tableOfGroup 1), ia cI (aF_tableOfGroup 2) 31 (M_tableOfGroup 2), ia cI (aF_tableOfGroup 3) 31 (M_tableOfGroup 3), ia cI (aF_tableOfGroup 4) 31 (M_tableOfGroup 4)] (some (.int rv)) [ob a_self 4 [Value.ref a_symbols, Value.ref a_tableOfGroup, Value.ref a_lengths, Value.ref a_weights, Value.ref a_joiner, Value.ref a_codes, Value.int m_kinds, Value.int m_groups, Value.int m_tables], ra cG a_tableOfGroup 5 (fun i => if i < 5 then some (aF_tableOfGroup i) else none), ia cI (aF_tableOfGroup 0) 31 (M_tableOfGroup 0), ia cI (aF_tableOfGroup 1) 31 (M_tableOfGroup 1), ia cI (aF_tableOfGroup 2) 31 (M_tableOfGroup 2), ia cI (aF_tableOfGroup 3) 31 (M_tableOfGroup 3), ia cI (aF_tableOfGroup 4) 31 (M_tableOfGroup 4)] := by
  refine CT.of (cc := cX4_tableOf) (maxL := 3) (ret := (some .int)) (by decide) rfl (Nat.le_of_ble_eq_true rfl) ?_
  intro p e s m below meth c A ls hx hb hr hml hts hown hlocks hK hA hP hD hS hl
  generalize hargs : ([.ref a_self, .int x1, .int x2] : List Value).toArray = args at hts ⊢
  generalize hQ : MQ below (ctQ D (some (.int rv)) [ob a_self 4 [Value.ref a_symbols, Value.ref a_tableOfGroup, Value.ref a_lengths, Value.ref a_weights, Value.ref a_joiner, Value.ref a_codes, Value.int m_kinds, Value.int m_groups, Value.int m_tables], ra cG a_tableOfGroup 5 (fun i => if i < 5 then some (aF_tableOfGroup i) else none), ia cI (aF_tableOfGroup 0) 31 (M_tableOfGroup 0), ia cI (aF_tableOfGroup 1) 31 (M_tableOfGroup 1), ia cI (aF_tableOfGroup 2) 31 (M_tableOfGroup 2), ia cI (aF_tableOfGroup 3) 31 (M_tableOfGroup 3), ia cI (aF_tableOfGroup 4) 31 (M_tableOfGroup 4)] A) args s 0 0 A = Q
  have hl : lv_has ls 3 [(0, .ref a_self), (1, .int x1), (2, .int x2)] := hl
  have hW : WS D A s [ob a_self 4 [Value.ref a_symbols, Value.ref a_tableOfGroup, Value.ref a_lengths, Value.ref a_weights, Value.ref a_joiner, Value.ref a_codes, Value.int m_kinds, Value.int m_groups, Value.int m_tables], ra cG a_tableOfGroup 5 (fun i => if i < 5 then some (aF_tableOfGroup i) else none), ia cI (aF_tableOfGroup 0) 31 (M_tableOfGroup 0), ia cI (aF_tableOfGroup 1) 31 (M_tableOfGroup 1), ia cI (aF_tableOfGroup 2) 31 (M_tableOfGroup 2), ia cI (aF_tableOfGroup 3) 31 (M_tableOfGroup 3), ia cI (aF_tableOfGroup 4) 31 (M_tableOfGroup 4)] s.heap [] := ⟨hP, hD, hS⟩
  clear hP hD hS
  unfold fRounds_tableOf at hF
  have hw0 := hts (Cond.fieldLink RX4 47 "MoveFronts$Rounds" "groups" "I") (by decide +kernel)
  have hw1 := hts (Cond.fieldLink RX4 17 "MoveFronts$Rounds" "tableOfGroup" "[[I") (by decide +kernel)
  have hi4 : ∀ w ∈ u_ws RX4 TX4 9, w ∈ wsX4_tableOf := by decide +kernel
  refine lv_iload_n hx hb dX4_tableOf_0 rfl (lv_at hl 1 rfl) ?_
  refine lv_iconst (v := 1) hx hb dX4_tableOf_1 (by decide) ?_
  refine lv_icmp_lt (tgt := 22) hx hb dX4_tableOf_2 (by decide) (fun c2 => ?_) (fun c2 => ?_)
  · rw [if_pos c2] at hF
    refine lv_iconst (v := (-1)) hx hb dX4_tableOf_22 (by decide) ?_
    cases hF
    subst hQ
    exact ct_iret hx hb hr hlocks hW.1 hW.2.2 dX4_tableOf_23
  · rw [if_neg c2] at hF
    refine lv_iload_n hx hb dX4_tableOf_5 rfl (lv_at hl 1 rfl) ?_
    refine lv_iconst (v := 4) hx hb dX4_tableOf_6 (by decide) ?_
    refine lv_icmp_gt (tgt := 22) hx hb dX4_tableOf_7 (by decide) (fun c7 => ?_) (fun c7 => ?_)
    · rw [if_pos c7] at hF
      refine lv_iconst (v := (-1)) hx hb dX4_tableOf_22 (by decide) ?_
      cases hF
      subst hQ
      exact ct_iret hx hb hr hlocks hW.1 hW.2.2 dX4_tableOf_23
    · rw [if_neg c7] at hF
      refine lv_iload_n hx hb dX4_tableOf_10 rfl (lv_at hl 2 rfl) ?_
      refine lv_if_lt (tgt := 22) hx hb dX4_tableOf_11 (by decide) (fun c11 => ?_) (fun c11 => ?_)
      · rw [if_pos c11] at hF
        refine lv_iconst (v := (-1)) hx hb dX4_tableOf_22 (by decide) ?_
        cases hF
        subst hQ
        exact ct_iret hx hb hr hlocks hW.1 hW.2.2 dX4_tableOf_23
      · rw [if_neg c11] at hF
        refine lv_iload_n hx hb dX4_tableOf_14 rfl (lv_at hl 2 rfl) ?_
        refine lv_aload_n hx hb dX4_tableOf_15 rfl (lv_at hl 0 rfl) ?_
        refine va_get (D := D) (ci := 4) (v := .int m_groups) (C := RX4) (T := TX4) (N := 9) hx hb hts hi4 hown hK.1 hW.1 0 rfl rfl 7 (by decide) hw0 (fun _ h9 => h9) rfl dX4_tableOf_16 ?_
        refine lv_icmp_lt (tgt := 24) hx hb dX4_tableOf_19 (by decide) (fun c19 => ?_) (fun c19 => ?_)
        · rw [if_pos c19] at hF
          refine lv_aload_n hx hb dX4_tableOf_24 rfl (lv_at hl 0 rfl) ?_
          refine va_get (D := D) (ci := 4) (v := .ref a_tableOfGroup) (C := RX4) (T := TX4) (N := 9) hx hb hts hi4 hown hK.1 hW.1 0 rfl rfl 1 (by decide) hw1 (fun _ h9 => h9) rfl dX4_tableOf_25 ?_
          refine lv_iload_n hx hb dX4_tableOf_28 rfl (lv_at hl 1 rfl) ?_
          obtain ⟨g29, hF⟩ := gdI_some hF
          refine ct_aald hx hb hK.1 hW.1 1 3 rfl rfl rfl g29 (if_pos (in_lt g29)) dX4_tableOf_29 ?_
          refine lv_iload_n hx hb dX4_tableOf_30 rfl (lv_at hl 2 rfl) ?_
          obtain ⟨g31, hF⟩ := gdI_some hF
          refine va_iald hx hb hK.1 hW.1 (2 + x1.toNatClampNeg) 0 (fam_get 2 5 (cA := cI) (len := 31) (aF := aF_tableOfGroup) (M := M_tableOfGroup) rfl (in_lt g29)) rfl g31 dX4_tableOf_31 ?_
          cases hF
          subst hQ
          exact ct_iret hx hb hr hlocks hW.1 hW.2.2 dX4_tableOf_32
        · rw [if_neg c19] at hF
          refine lv_iconst (v := (-1)) hx hb dX4_tableOf_22 (by decide) ?_
          cases hF
          subst hQ
          exact ct_iret hx hb hr hlocks hW.1 hW.2.2 dX4_tableOf_23
abbrev rmRounds_hasKind : Room := { frames := 0, cells := 0, slots := 0, locals := 0 }
set_option maxHeartbeats 4000000 in
set_option maxRecDepth 100000 in
theorem kRounds_hasKind (l : Launch) (D : va_G) (cI cZ cO cG : ClassId) (a_self : Nat) (a_symbols : Nat) (a_tableOfGroup : Nat) (a_lengths : Nat) (a_weights : Nat) (a_joiner : Nat) (a_codes : Nat) (m_kinds : Int32) (m_groups : Int32) (m_tables : Int32) (x1 : Int32) (x2 : Int32) {rv : Int32} (hF : fRounds_hasKind m_kinds m_tables x1 x2 = some rv) : CT l yX4_hasKind wsX4_hasKind rmRounds_hasKind D (tysG cI cZ cO cG) [.ref a_self, .int x1, .int x2] [ob a_self 4 [Value.ref a_symbols, Value.ref a_tableOfGroup, Value.ref a_lengths, Value.ref a_weights, Value.ref a_joiner, Value.ref a_codes, Value.int m_kinds, Value.int m_groups, Value.int m_tables]] (some (.int rv)) [ob a_self 4 [Value.ref a_symbols, Value.ref a_tableOfGroup, Value.ref a_lengths, Value.ref a_weights, Value.ref a_joiner, Value.ref a_codes, Value.int m_kinds, Value.int m_groups, Value.int m_tables]] := by
  refine CT.of (cc := cX4_hasKind) (maxL := 3) (ret := (some .boolean)) (by decide) rfl (Nat.le_of_ble_eq_true rfl) ?_
  intro p e s m below meth c A ls hx hb hr hml hts hown hlocks hK hA hP hD hS hl
  generalize hargs : ([.ref a_self, .int x1, .int x2] : List Value).toArray = args at hts ⊢
  generalize hQ : MQ below (ctQ D (some (.int rv)) [ob a_self 4 [Value.ref a_symbols, Value.ref a_tableOfGroup, Value.ref a_lengths, Value.ref a_weights, Value.ref a_joiner, Value.ref a_codes, Value.int m_kinds, Value.int m_groups, Value.int m_tables]] A) args s 0 0 A = Q
  have hl : lv_has ls 3 [(0, .ref a_self), (1, .int x1), (2, .int x2)] := hl
  have hW : WS D A s [ob a_self 4 [Value.ref a_symbols, Value.ref a_tableOfGroup, Value.ref a_lengths, Value.ref a_weights, Value.ref a_joiner, Value.ref a_codes, Value.int m_kinds, Value.int m_groups, Value.int m_tables]] s.heap [] := ⟨hP, hD, hS⟩
  clear hP hD hS
  unfold fRounds_hasKind at hF
  have hw0 := hts (Cond.fieldLink RX4 50 "MoveFronts$Rounds" "tables" "I") (by decide +kernel)
  have hw1 := hts (Cond.fieldLink RX4 43 "MoveFronts$Rounds" "kinds" "I") (by decide +kernel)
  have hi4 : ∀ w ∈ u_ws RX4 TX4 9, w ∈ wsX4_hasKind := by decide +kernel
  refine lv_iload_n hx hb dX4_hasKind_0 rfl (lv_at hl 1 rfl) ?_
  refine lv_if_lt (tgt := 28) hx hb dX4_hasKind_1 (by decide) (fun c1 => ?_) (fun c1 => ?_)
  · rw [if_pos c1] at hF
    refine lv_iconst (v := 0) hx hb dX4_hasKind_28 (by decide) ?_
    cases hF
    subst hQ
    exact ct_zret hx hb hr hlocks rfl hW.1 hW.2.2 dX4_hasKind_29
  · rw [if_neg c1] at hF
    refine lv_iload_n hx hb dX4_hasKind_4 rfl (lv_at hl 1 rfl) ?_
    refine lv_aload_n hx hb dX4_hasKind_5 rfl (lv_at hl 0 rfl) ?_
    refine va_get (D := D) (ci := 4) (v := .int m_tables) (C := RX4) (T := TX4) (N := 9) hx hb hts hi4 hown hK.1 hW.1 0 rfl rfl 8 (by decide) hw0 (fun _ h9 => h9) rfl dX4_hasKind_6 ?_
    refine lv_icmp_ge (tgt := 28) hx hb dX4_hasKind_9 (by decide) (fun c9 => ?_) (fun c9 => ?_)
    · rw [if_pos c9] at hF
      refine lv_iconst (v := 0) hx hb dX4_hasKind_28 (by decide) ?_
      cases hF
      subst hQ
      exact ct_zret hx hb hr hlocks rfl hW.1 hW.2.2 dX4_hasKind_29
    · rw [if_neg c9] at hF
      refine lv_iload_n hx hb dX4_hasKind_12 rfl (lv_at hl 2 rfl) ?_
      refine lv_if_lt (tgt := 28) hx hb dX4_hasKind_13 (by decide) (fun c13 => ?_) (fun c13 => ?_)
      · rw [if_pos c13] at hF
        refine lv_iconst (v := 0) hx hb dX4_hasKind_28 (by decide) ?_
        cases hF
        subst hQ
        exact ct_zret hx hb hr hlocks rfl hW.1 hW.2.2 dX4_hasKind_29
      · rw [if_neg c13] at hF
        refine lv_iload_n hx hb dX4_hasKind_16 rfl (lv_at hl 2 rfl) ?_
        refine lv_aload_n hx hb dX4_hasKind_17 rfl (lv_at hl 0 rfl) ?_
        refine va_get (D := D) (ci := 4) (v := .int m_kinds) (C := RX4) (T := TX4) (N := 9) hx hb hts hi4 hown hK.1 hW.1 0 rfl rfl 6 (by decide) hw1 (fun _ h9 => h9) rfl dX4_hasKind_18 ?_
        refine lv_icmp_ge (tgt := 28) hx hb dX4_hasKind_21 (by decide) (fun c21 => ?_) (fun c21 => ?_)
        · rw [if_pos c21] at hF
          refine lv_iconst (v := 0) hx hb dX4_hasKind_28 (by decide) ?_
          cases hF
          subst hQ
          exact ct_zret hx hb hr hlocks rfl hW.1 hW.2.2 dX4_hasKind_29
        · rw [if_neg c21] at hF
          refine lv_iconst (v := 1) hx hb dX4_hasKind_24 (by decide) ?_
          refine lv_goto (tgt := 29) hx hb dX4_hasKind_25 (by decide) ?_
          cases hF
          subst hQ
          exact ct_zret hx hb hr hlocks rfl hW.1 hW.2.2 dX4_hasKind_29
abbrev rmRounds_lengthOf : Room := { frames := 1, cells := 0, slots := 0, locals := 22 }
set_option maxHeartbeats 4000000 in
set_option maxRecDepth 100000 in
theorem kRounds_lengthOf (l : Launch) (D : va_G) (cI cZ cO cG : ClassId) (a_self : Nat) (a_symbols : Nat) (a_tableOfGroup : Nat) (a_lengths : Nat) (a_weights : Nat) (a_joiner : Nat) (a_codes : Nat) (aF_lengths : Nat → Nat) (m_kinds : Int32) (m_groups : Int32) (m_tables : Int32) (M_lengths : Nat → Nat → Int32) (x1 : Int32) (x2 : Int32) (x3 : Int32) {rv : Int32} (hF : fRounds_lengthOf m_kinds m_tables M_lengths x1 x2 x3 = some rv) : CT l yX4_lengthOf wsX4_lengthOf rmRounds_lengthOf D (tysG cI cZ cO cG) [.ref a_self, .int x1, .int x2, .int x3] [ob a_self 4 [Value.ref a_symbols, Value.ref a_tableOfGroup, Value.ref a_lengths, Value.ref a_weights, Value.ref a_joiner, Value.ref a_codes, Value.int m_kinds, Value.int m_groups, Value.int m_tables], ra cG a_lengths 15 (fun i => if i < 15 then some (aF_lengths i) else none), ia cI (aF_lengths 0) 258 (M_lengths 0), ia cI (aF_lengths 1) 258 (M_lengths 1), ia cI (aF_lengths 2) 258 (M_lengths 2), ia cI (aF_lengths 3) 258 (M_lengths 3), ia cI (aF_lengths 4) 258 (M_lengths 4), ia cI (aF_lengths 5) 258 (M_lengths 5), ia cI (aF_lengths 6) 258 (M_lengths 6), ia cI (aF_lengths 7) 258 (M_lengths 7), ia cI (aF_lengths 8) 258 (M_lengths 8), ia cI (aF_lengths 9) 258 (M_lengths 9), ia cI (aF_lengths 10) 258 (M_lengths 10), ia cI (aF_lengths 11) 258 (M_lengths 11), ia cI (aF_lengths 12) 258 (M_lengths 12), ia cI (aF_lengths 13) 258 (M_lengths 13), ia cI (aF_lengths 14) 258 (M_lengths 14)] (some (.int rv)) [ob a_self 4 [Value.ref a_symbols, Value.ref a_tableOfGroup, Value.ref a_lengths, Value.ref a_weights, Value.ref a_joiner, Value.ref a_codes, Value.int m_kinds, Value.int m_groups, Value.int m_tables], ra cG a_lengths 15 (fun i => if i < 15 then some (aF_lengths i) else none), ia cI (aF_lengths 0) 258 (M_lengths 0), ia cI (aF_lengths 1) 258 (M_lengths 1), ia cI (aF_lengths 2) 258 (M_lengths 2), ia cI (aF_lengths 3) 258 (M_lengths 3), ia cI (aF_lengths 4) 258 (M_lengths 4), ia cI (aF_lengths 5) 258 (M_lengths 5), ia cI (aF_lengths 6) 258 (M_lengths 6), ia cI (aF_lengths 7) 258 (M_lengths 7), ia cI (aF_lengths 8) 258 (M_lengths 8), ia cI (aF_lengths 9) 258 (M_lengths 9), ia cI (aF_lengths 10) 258 (M_lengths 10), ia cI (aF_lengths 11) 258 (M_lengths 11), ia cI (aF_lengths 12) 258 (M_lengths 12), ia cI (aF_lengths 13) 258 (M_lengths 13), ia cI (aF_lengths 14) 258 (M_lengths 14)] := by
  refine CT.of (cc := cX4_lengthOf) (maxL := 4) (ret := (some .int)) (by decide) rfl (Nat.le_of_ble_eq_true rfl) ?_
  intro p e s m below meth c A ls hx hb hr hml hts hown hlocks hK hA hP hD hS hl
  generalize hargs : ([.ref a_self, .int x1, .int x2, .int x3] : List Value).toArray = args at hts ⊢
  generalize hQ : MQ below (ctQ D (some (.int rv)) [ob a_self 4 [Value.ref a_symbols, Value.ref a_tableOfGroup, Value.ref a_lengths, Value.ref a_weights, Value.ref a_joiner, Value.ref a_codes, Value.int m_kinds, Value.int m_groups, Value.int m_tables], ra cG a_lengths 15 (fun i => if i < 15 then some (aF_lengths i) else none), ia cI (aF_lengths 0) 258 (M_lengths 0), ia cI (aF_lengths 1) 258 (M_lengths 1), ia cI (aF_lengths 2) 258 (M_lengths 2), ia cI (aF_lengths 3) 258 (M_lengths 3), ia cI (aF_lengths 4) 258 (M_lengths 4), ia cI (aF_lengths 5) 258 (M_lengths 5), ia cI (aF_lengths 6) 258 (M_lengths 6), ia cI (aF_lengths 7) 258 (M_lengths 7), ia cI (aF_lengths 8) 258 (M_lengths 8), ia cI (aF_lengths 9) 258 (M_lengths 9), ia cI (aF_lengths 10) 258 (M_lengths 10), ia cI (aF_lengths 11) 258 (M_lengths 11), ia cI (aF_lengths 12) 258 (M_lengths 12), ia cI (aF_lengths 13) 258 (M_lengths 13), ia cI (aF_lengths 14) 258 (M_lengths 14)] A) args s 0 0 A = Q
  have hl : lv_has ls 4 [(0, .ref a_self), (1, .int x1), (2, .int x2), (3, .int x3)] := hl
  have hW : WS D A s [ob a_self 4 [Value.ref a_symbols, Value.ref a_tableOfGroup, Value.ref a_lengths, Value.ref a_weights, Value.ref a_joiner, Value.ref a_codes, Value.int m_kinds, Value.int m_groups, Value.int m_tables], ra cG a_lengths 15 (fun i => if i < 15 then some (aF_lengths i) else none), ia cI (aF_lengths 0) 258 (M_lengths 0), ia cI (aF_lengths 1) 258 (M_lengths 1), ia cI (aF_lengths 2) 258 (M_lengths 2), ia cI (aF_lengths 3) 258 (M_lengths 3), ia cI (aF_lengths 4) 258 (M_lengths 4), ia cI (aF_lengths 5) 258 (M_lengths 5), ia cI (aF_lengths 6) 258 (M_lengths 6), ia cI (aF_lengths 7) 258 (M_lengths 7), ia cI (aF_lengths 8) 258 (M_lengths 8), ia cI (aF_lengths 9) 258 (M_lengths 9), ia cI (aF_lengths 10) 258 (M_lengths 10), ia cI (aF_lengths 11) 258 (M_lengths 11), ia cI (aF_lengths 12) 258 (M_lengths 12), ia cI (aF_lengths 13) 258 (M_lengths 13), ia cI (aF_lengths 14) 258 (M_lengths 14)] s.heap [] := ⟨hP, hD, hS⟩
  clear hP hD hS
  unfold fRounds_lengthOf at hF
  refine lv_iload_n hx hb dX4_lengthOf_0 rfl (lv_at hl 1 rfl) ?_
  refine lv_if_lt (tgt := 18) hx hb dX4_lengthOf_1 (by decide) (fun c1 => ?_) (fun c1 => ?_)
  · rw [if_pos c1] at hF
    refine lv_iconst (v := (-1)) hx hb dX4_lengthOf_18 (by decide) ?_
    cases hF
    subst hQ
    exact ct_iret hx hb hr hlocks hW.1 hW.2.2 dX4_lengthOf_19
  · rw [if_neg c1] at hF
    refine lv_iload_n hx hb dX4_lengthOf_4 rfl (lv_at hl 1 rfl) ?_
    refine lv_iconst (v := 4) hx hb dX4_lengthOf_5 (by decide) ?_
    refine lv_icmp_gt (tgt := 18) hx hb dX4_lengthOf_6 (by decide) (fun c6 => ?_) (fun c6 => ?_)
    · rw [if_pos c6] at hF
      refine lv_iconst (v := (-1)) hx hb dX4_lengthOf_18 (by decide) ?_
      cases hF
      subst hQ
      exact ct_iret hx hb hr hlocks hW.1 hW.2.2 dX4_lengthOf_19
    · rw [if_neg c6] at hF
      refine lv_aload_n hx hb dX4_lengthOf_9 rfl (lv_at hl 0 rfl) ?_
      refine lv_iload_n hx hb dX4_lengthOf_10 rfl (lv_at hl 2 rfl) ?_
      refine lv_iload_n hx hb dX4_lengthOf_11 rfl (lv_at hl 3 rfl) ?_
      obtain ⟨r_12, e12, hF⟩ := bd1_some hF
      refine ctV (wn := [ob a_self 4 [Value.ref a_symbols, Value.ref a_tableOfGroup, Value.ref a_lengths, Value.ref a_weights, Value.ref a_joiner, Value.ref a_codes, Value.int m_kinds, Value.int m_groups, Value.int m_tables], ra cG a_lengths 15 (fun i => if i < 15 then some (aF_lengths i) else none), ia cI (aF_lengths 0) 258 (M_lengths 0), ia cI (aF_lengths 1) 258 (M_lengths 1), ia cI (aF_lengths 2) 258 (M_lengths 2), ia cI (aF_lengths 3) 258 (M_lengths 3), ia cI (aF_lengths 4) 258 (M_lengths 4), ia cI (aF_lengths 5) 258 (M_lengths 5), ia cI (aF_lengths 6) 258 (M_lengths 6), ia cI (aF_lengths 7) 258 (M_lengths 7), ia cI (aF_lengths 8) 258 (M_lengths 8), ia cI (aF_lengths 9) 258 (M_lengths 9), ia cI (aF_lengths 10) 258 (M_lengths 10), ia cI (aF_lengths 11) 258 (M_lengths 11), ia cI (aF_lengths 12) 258 (M_lengths 12), ia cI (aF_lengths 13) 258 (M_lengths 13), ia cI (aF_lengths 14) 258 (M_lengths 14)]) (r := (RX4, TX4, 9)) (As := [.int x2, .int x3]) (rest := []) hx hb hml hown hts hK hW hA hl.1 (kRounds_hasKind l D cI cZ cO cG a_self a_symbols a_tableOfGroup a_lengths a_weights a_joiner a_codes m_kinds m_groups m_tables x2 x3 e12) (cwV 2 hts gX4_lengthOf_X4_hasKind rfl rfl rfl (by decide +kernel) ⟨Nat.le_of_ble_eq_true rfl, Nat.le_of_ble_eq_true rfl⟩) 4 0 rfl rfl [0] [1, 2, 3, 4, 5, 6, 7, 8, 9, 10, 11, 12, 13, 14, 15, 16] 17 rfl rfl rfl rfl [ra cG a_lengths 15 (fun i => if i < 15 then some (aF_lengths i) else none), ia cI (aF_lengths 0) 258 (M_lengths 0), ia cI (aF_lengths 1) 258 (M_lengths 1), ia cI (aF_lengths 2) 258 (M_lengths 2), ia cI (aF_lengths 3) 258 (M_lengths 3), ia cI (aF_lengths 4) 258 (M_lengths 4), ia cI (aF_lengths 5) 258 (M_lengths 5), ia cI (aF_lengths 6) 258 (M_lengths 6), ia cI (aF_lengths 7) 258 (M_lengths 7), ia cI (aF_lengths 8) 258 (M_lengths 8), ia cI (aF_lengths 9) 258 (M_lengths 9), ia cI (aF_lengths 10) 258 (M_lengths 10), ia cI (aF_lengths 11) 258 (M_lengths 11), ia cI (aF_lengths 12) 258 (M_lengths 12), ia cI (aF_lengths 13) 258 (M_lengths 13), ia cI (aF_lengths 14) 258 (M_lengths 14)] rfl rfl rfl rfl rfl (Nat.le_of_ble_eq_true rfl) rfl ⟨Nat.zero_le _, Nat.zero_le _⟩ dX4_lengthOf_12 (fun H locs hW => ?_)
      refine lv_if_ne (tgt := 20) hx hb dX4_lengthOf_15 (by decide) (fun c15 => ?_) (fun c15 => ?_)
      · rw [if_neg c15] at hF
        refine lv_aload_n hx hb dX4_lengthOf_20 rfl (lv_at hl 0 rfl) ?_
        refine lv_iload_n hx hb dX4_lengthOf_21 rfl (lv_at hl 1 rfl) ?_
        refine lv_iload_n hx hb dX4_lengthOf_22 rfl (lv_at hl 2 rfl) ?_
        obtain ⟨r_23, e23, hF⟩ := bd1_some hF
        refine ctV (wn := [ob a_self 4 [Value.ref a_symbols, Value.ref a_tableOfGroup, Value.ref a_lengths, Value.ref a_weights, Value.ref a_joiner, Value.ref a_codes, Value.int m_kinds, Value.int m_groups, Value.int m_tables], ra cG a_lengths 15 (fun i => if i < 15 then some (aF_lengths i) else none), ia cI (aF_lengths 0) 258 (M_lengths 0), ia cI (aF_lengths 1) 258 (M_lengths 1), ia cI (aF_lengths 2) 258 (M_lengths 2), ia cI (aF_lengths 3) 258 (M_lengths 3), ia cI (aF_lengths 4) 258 (M_lengths 4), ia cI (aF_lengths 5) 258 (M_lengths 5), ia cI (aF_lengths 6) 258 (M_lengths 6), ia cI (aF_lengths 7) 258 (M_lengths 7), ia cI (aF_lengths 8) 258 (M_lengths 8), ia cI (aF_lengths 9) 258 (M_lengths 9), ia cI (aF_lengths 10) 258 (M_lengths 10), ia cI (aF_lengths 11) 258 (M_lengths 11), ia cI (aF_lengths 12) 258 (M_lengths 12), ia cI (aF_lengths 13) 258 (M_lengths 13), ia cI (aF_lengths 14) 258 (M_lengths 14)]) (r := (RX4, TX4, 9)) (As := [.int x1, .int x2]) (rest := []) hx hb hml hown hts hK hW hA hl.1 (kRounds_lengthsBehind l D cI cZ cO cG a_self a_symbols a_tableOfGroup a_lengths a_weights a_joiner a_codes aF_lengths m_kinds m_groups m_tables x1 x2 e23) (cwV 2 hts gX4_lengthOf_X4_lengthsBehind rfl rfl rfl (by decide +kernel) ⟨Nat.le_of_ble_eq_true rfl, Nat.le_of_ble_eq_true rfl⟩) 4 0 rfl rfl [0, 1] [2, 3, 4, 5, 6, 7, 8, 9, 10, 11, 12, 13, 14, 15, 16] 17 rfl rfl rfl rfl [ia cI (aF_lengths 0) 258 (M_lengths 0), ia cI (aF_lengths 1) 258 (M_lengths 1), ia cI (aF_lengths 2) 258 (M_lengths 2), ia cI (aF_lengths 3) 258 (M_lengths 3), ia cI (aF_lengths 4) 258 (M_lengths 4), ia cI (aF_lengths 5) 258 (M_lengths 5), ia cI (aF_lengths 6) 258 (M_lengths 6), ia cI (aF_lengths 7) 258 (M_lengths 7), ia cI (aF_lengths 8) 258 (M_lengths 8), ia cI (aF_lengths 9) 258 (M_lengths 9), ia cI (aF_lengths 10) 258 (M_lengths 10), ia cI (aF_lengths 11) 258 (M_lengths 11), ia cI (aF_lengths 12) 258 (M_lengths 12), ia cI (aF_lengths 13) 258 (M_lengths 13), ia cI (aF_lengths 14) 258 (M_lengths 14)] rfl rfl rfl rfl rfl (Nat.le_of_ble_eq_true rfl) rfl ⟨Nat.zero_le _, Nat.zero_le _⟩ dX4_lengthOf_23 (fun H locs hW => ?_)
        refine lv_iload_n hx hb dX4_lengthOf_26 rfl (lv_at hl 3 rfl) ?_
        obtain ⟨g27, hF⟩ := gdI_some hF
        refine va_iald hx hb hK.1 hW.1 (2 + r_23) 0 (fam_get 2 15 (cA := cI) (len := 258) (aF := aF_lengths) (M := M_lengths) rfl (lt_lengthsBehind e23)) rfl g27 dX4_lengthOf_27 ?_
        cases hF
        subst hQ
        exact ct_iret hx hb hr hlocks hW.1 hW.2.2 dX4_lengthOf_28
      · rw [if_pos c15] at hF
        refine lv_iconst (v := (-1)) hx hb dX4_lengthOf_18 (by decide) ?_
        cases hF
        subst hQ
        exact ct_iret hx hb hr hlocks hW.1 hW.2.2 dX4_lengthOf_19
abbrev rmRounds_codeOf : Room := { frames := 1, cells := 0, slots := 0, locals := 22 }
set_option maxHeartbeats 4000000 in
set_option maxRecDepth 100000 in
theorem kRounds_codeOf (l : Launch) (D : va_G) (cI cZ cO cG : ClassId) (a_self : Nat) (a_symbols : Nat) (a_tableOfGroup : Nat) (a_lengths : Nat) (a_weights : Nat) (a_joiner : Nat) (a_codes : Nat) (a_codes_0_ : Nat) (a_codes_1_ : Nat) (a_codes_2_ : Nat) (aF_lengths : Nat → Nat) (a_codes_0__codes : Nat) (a_codes_0__counts : Nat) (a_codes_0__firsts : Nat) (a_codes_0__nexts : Nat) (a_codes_1__codes : Nat) (a_codes_1__counts : Nat) (a_codes_1__firsts : Nat) (a_codes_1__nexts : Nat) (a_codes_2__codes : Nat) (a_codes_2__counts : Nat) (a_codes_2__firsts : Nat) (a_codes_2__nexts : Nat) (m_kinds : Int32) (m_groups : Int32) (m_tables : Int32) (m_codes_kinds : Nat → Int32) (m_codes_filled : Nat → Int32) (m_codes_codes : Nat → Nat → Int32) (x1 : Int32) (x2 : Int32) {rv : Int32} (hF : fRounds_codeOf m_kinds m_tables m_codes_kinds m_codes_codes x1 x2 = some rv) : CT l yX4_codeOf wsX4_codeOf rmRounds_codeOf D (tysG cI cZ cO cG) [.ref a_self, .int x1, .int x2] [ob a_self 4 [Value.ref a_symbols, Value.ref a_tableOfGroup, Value.ref a_lengths, Value.ref a_weights, Value.ref a_joiner, Value.ref a_codes, Value.int m_kinds, Value.int m_groups, Value.int m_tables], ra cO a_codes 3 (va_up (va_up (va_up (fun _ => none) 0 (some a_codes_0_)) 1 (some a_codes_1_)) 2 (some a_codes_2_)), ob a_codes_0_ 0 [Value.ref (aF_lengths 12), Value.ref a_codes_0__codes, Value.ref a_codes_0__counts, Value.ref a_codes_0__firsts, Value.ref a_codes_0__nexts, Value.int (m_codes_kinds 0), Value.int (m_codes_filled 0)], ia cI a_codes_0__codes 258 (m_codes_codes 0), ob a_codes_1_ 0 [Value.ref (aF_lengths 13), Value.ref a_codes_1__codes, Value.ref a_codes_1__counts, Value.ref a_codes_1__firsts, Value.ref a_codes_1__nexts, Value.int (m_codes_kinds 1), Value.int (m_codes_filled 1)], ia cI a_codes_1__codes 258 (m_codes_codes 1), ob a_codes_2_ 0 [Value.ref (aF_lengths 14), Value.ref a_codes_2__codes, Value.ref a_codes_2__counts, Value.ref a_codes_2__firsts, Value.ref a_codes_2__nexts, Value.int (m_codes_kinds 2), Value.int (m_codes_filled 2)], ia cI a_codes_2__codes 258 (m_codes_codes 2)] (some (.int rv)) [ob a_self 4 [Value.ref a_symbols, Value.ref a_tableOfGroup, Value.ref a_lengths, Value.ref a_weights, Value.ref a_joiner, Value.ref a_codes, Value.int m_kinds, Value.int m_groups, Value.int m_tables], ra cO a_codes 3 (va_up (va_up (va_up (fun _ => none) 0 (some a_codes_0_)) 1 (some a_codes_1_)) 2 (some a_codes_2_)), ob a_codes_0_ 0 [Value.ref (aF_lengths 12), Value.ref a_codes_0__codes, Value.ref a_codes_0__counts, Value.ref a_codes_0__firsts, Value.ref a_codes_0__nexts, Value.int (m_codes_kinds 0), Value.int (m_codes_filled 0)], ia cI a_codes_0__codes 258 (m_codes_codes 0), ob a_codes_1_ 0 [Value.ref (aF_lengths 13), Value.ref a_codes_1__codes, Value.ref a_codes_1__counts, Value.ref a_codes_1__firsts, Value.ref a_codes_1__nexts, Value.int (m_codes_kinds 1), Value.int (m_codes_filled 1)], ia cI a_codes_1__codes 258 (m_codes_codes 1), ob a_codes_2_ 0 [Value.ref (aF_lengths 14), Value.ref a_codes_2__codes, Value.ref a_codes_2__counts, Value.ref a_codes_2__firsts, Value.ref a_codes_2__nexts, Value.int (m_codes_kinds 2), Value.int (m_codes_filled 2)], ia cI a_codes_2__codes 258 (m_codes_codes 2)] := by
  refine CT.of (cc := cX4_codeOf) (maxL := 3) (ret := (some .int)) (by decide) rfl (Nat.le_of_ble_eq_true rfl) ?_
  intro p e s m below meth c A ls hx hb hr hml hts hown hlocks hK hA hP hD hS hl
  generalize hargs : ([.ref a_self, .int x1, .int x2] : List Value).toArray = args at hts ⊢
  generalize hQ : MQ below (ctQ D (some (.int rv)) [ob a_self 4 [Value.ref a_symbols, Value.ref a_tableOfGroup, Value.ref a_lengths, Value.ref a_weights, Value.ref a_joiner, Value.ref a_codes, Value.int m_kinds, Value.int m_groups, Value.int m_tables], ra cO a_codes 3 (va_up (va_up (va_up (fun _ => none) 0 (some a_codes_0_)) 1 (some a_codes_1_)) 2 (some a_codes_2_)), ob a_codes_0_ 0 [Value.ref (aF_lengths 12), Value.ref a_codes_0__codes, Value.ref a_codes_0__counts, Value.ref a_codes_0__firsts, Value.ref a_codes_0__nexts, Value.int (m_codes_kinds 0), Value.int (m_codes_filled 0)], ia cI a_codes_0__codes 258 (m_codes_codes 0), ob a_codes_1_ 0 [Value.ref (aF_lengths 13), Value.ref a_codes_1__codes, Value.ref a_codes_1__counts, Value.ref a_codes_1__firsts, Value.ref a_codes_1__nexts, Value.int (m_codes_kinds 1), Value.int (m_codes_filled 1)], ia cI a_codes_1__codes 258 (m_codes_codes 1), ob a_codes_2_ 0 [Value.ref (aF_lengths 14), Value.ref a_codes_2__codes, Value.ref a_codes_2__counts, Value.ref a_codes_2__firsts, Value.ref a_codes_2__nexts, Value.int (m_codes_kinds 2), Value.int (m_codes_filled 2)], ia cI a_codes_2__codes 258 (m_codes_codes 2)] A) args s 0 0 A = Q
  have hl : lv_has ls 3 [(0, .ref a_self), (1, .int x1), (2, .int x2)] := hl
  have hW : WS D A s [ob a_self 4 [Value.ref a_symbols, Value.ref a_tableOfGroup, Value.ref a_lengths, Value.ref a_weights, Value.ref a_joiner, Value.ref a_codes, Value.int m_kinds, Value.int m_groups, Value.int m_tables], ra cO a_codes 3 (va_up (va_up (va_up (fun _ => none) 0 (some a_codes_0_)) 1 (some a_codes_1_)) 2 (some a_codes_2_)), ob a_codes_0_ 0 [Value.ref (aF_lengths 12), Value.ref a_codes_0__codes, Value.ref a_codes_0__counts, Value.ref a_codes_0__firsts, Value.ref a_codes_0__nexts, Value.int (m_codes_kinds 0), Value.int (m_codes_filled 0)], ia cI a_codes_0__codes 258 (m_codes_codes 0), ob a_codes_1_ 0 [Value.ref (aF_lengths 13), Value.ref a_codes_1__codes, Value.ref a_codes_1__counts, Value.ref a_codes_1__firsts, Value.ref a_codes_1__nexts, Value.int (m_codes_kinds 1), Value.int (m_codes_filled 1)], ia cI a_codes_1__codes 258 (m_codes_codes 1), ob a_codes_2_ 0 [Value.ref (aF_lengths 14), Value.ref a_codes_2__codes, Value.ref a_codes_2__counts, Value.ref a_codes_2__firsts, Value.ref a_codes_2__nexts, Value.int (m_codes_kinds 2), Value.int (m_codes_filled 2)], ia cI a_codes_2__codes 258 (m_codes_codes 2)] s.heap [] := ⟨hP, hD, hS⟩
  clear hP hD hS
  unfold fRounds_codeOf at hF
  have hw0 := hts (Cond.fieldLink RX4 36 "MoveFronts$Rounds" "codes" "[LMoveFronts$Codes;") (by decide +kernel)
  have hi4 : ∀ w ∈ u_ws RX4 TX4 9, w ∈ wsX4_codeOf := by decide +kernel
  refine lv_aload_n hx hb dX4_codeOf_0 rfl (lv_at hl 0 rfl) ?_
  refine lv_iload_n hx hb dX4_codeOf_1 rfl (lv_at hl 1 rfl) ?_
  refine lv_iload_n hx hb dX4_codeOf_2 rfl (lv_at hl 2 rfl) ?_
  obtain ⟨r_3, e3, hF⟩ := bd1_some hF
  refine ctV (wn := [ob a_self 4 [Value.ref a_symbols, Value.ref a_tableOfGroup, Value.ref a_lengths, Value.ref a_weights, Value.ref a_joiner, Value.ref a_codes, Value.int m_kinds, Value.int m_groups, Value.int m_tables], ra cO a_codes 3 (va_up (va_up (va_up (fun _ => none) 0 (some a_codes_0_)) 1 (some a_codes_1_)) 2 (some a_codes_2_)), ob a_codes_0_ 0 [Value.ref (aF_lengths 12), Value.ref a_codes_0__codes, Value.ref a_codes_0__counts, Value.ref a_codes_0__firsts, Value.ref a_codes_0__nexts, Value.int (m_codes_kinds 0), Value.int (m_codes_filled 0)], ia cI a_codes_0__codes 258 (m_codes_codes 0), ob a_codes_1_ 0 [Value.ref (aF_lengths 13), Value.ref a_codes_1__codes, Value.ref a_codes_1__counts, Value.ref a_codes_1__firsts, Value.ref a_codes_1__nexts, Value.int (m_codes_kinds 1), Value.int (m_codes_filled 1)], ia cI a_codes_1__codes 258 (m_codes_codes 1), ob a_codes_2_ 0 [Value.ref (aF_lengths 14), Value.ref a_codes_2__codes, Value.ref a_codes_2__counts, Value.ref a_codes_2__firsts, Value.ref a_codes_2__nexts, Value.int (m_codes_kinds 2), Value.int (m_codes_filled 2)], ia cI a_codes_2__codes 258 (m_codes_codes 2)]) (r := (RX4, TX4, 9)) (As := [.int x1, .int x2]) (rest := []) hx hb hml hown hts hK hW hA hl.1 (kRounds_hasKind l D cI cZ cO cG a_self a_symbols a_tableOfGroup a_lengths a_weights a_joiner a_codes m_kinds m_groups m_tables x1 x2 e3) (cwV 2 hts gX4_codeOf_X4_hasKind rfl rfl rfl (by decide +kernel) ⟨Nat.le_of_ble_eq_true rfl, Nat.le_of_ble_eq_true rfl⟩) 4 0 rfl rfl [0] [1, 2, 3, 4, 5, 6, 7] 8 rfl rfl rfl rfl [ra cO a_codes 3 (va_up (va_up (va_up (fun _ => none) 0 (some a_codes_0_)) 1 (some a_codes_1_)) 2 (some a_codes_2_)), ob a_codes_0_ 0 [Value.ref (aF_lengths 12), Value.ref a_codes_0__codes, Value.ref a_codes_0__counts, Value.ref a_codes_0__firsts, Value.ref a_codes_0__nexts, Value.int (m_codes_kinds 0), Value.int (m_codes_filled 0)], ia cI a_codes_0__codes 258 (m_codes_codes 0), ob a_codes_1_ 0 [Value.ref (aF_lengths 13), Value.ref a_codes_1__codes, Value.ref a_codes_1__counts, Value.ref a_codes_1__firsts, Value.ref a_codes_1__nexts, Value.int (m_codes_kinds 1), Value.int (m_codes_filled 1)], ia cI a_codes_1__codes 258 (m_codes_codes 1), ob a_codes_2_ 0 [Value.ref (aF_lengths 14), Value.ref a_codes_2__codes, Value.ref a_codes_2__counts, Value.ref a_codes_2__firsts, Value.ref a_codes_2__nexts, Value.int (m_codes_kinds 2), Value.int (m_codes_filled 2)], ia cI a_codes_2__codes 258 (m_codes_codes 2)] rfl rfl rfl rfl rfl (Nat.le_of_ble_eq_true rfl) rfl ⟨Nat.zero_le _, Nat.zero_le _⟩ dX4_codeOf_3 (fun H locs hW => ?_)
  refine lv_if_eq (tgt := 22) hx hb dX4_codeOf_6 (by decide) (fun c6 => ?_) (fun c6 => ?_)
  · rw [if_pos c6] at hF
    refine lv_iconst (v := (-1)) hx hb dX4_codeOf_22 (by decide) ?_
    cases hF
    subst hQ
    exact ct_iret hx hb hr hlocks hW.1 hW.2.2 dX4_codeOf_23
  · rw [if_neg c6] at hF
    refine lv_aload_n hx hb dX4_codeOf_9 rfl (lv_at hl 0 rfl) ?_
    refine va_get (D := D) (ci := 4) (v := .ref a_codes) (C := RX4) (T := TX4) (N := 9) hx hb hts hi4 hown hK.1 hW.1 0 rfl rfl 5 (by decide) hw0 (fun _ h9 => h9) rfl dX4_codeOf_10 ?_
    refine lv_iload_n hx hb dX4_codeOf_13 rfl (lv_at hl 1 rfl) ?_
    obtain ⟨g14, hF⟩ := gdI_some hF
    rcases in_lt3 g14 with y14 | y14 | y14
    · rw [y14] at hF
      refine ct_aald hx hb hK.1 hW.1 1 2 rfl rfl rfl g14 (b := a_codes_0_) (by rw [y14]; rfl) dX4_codeOf_14 ?_
      refine lv_iload_n hx hb dX4_codeOf_15 rfl (lv_at hl 2 rfl) ?_
      obtain ⟨r_16, e16, hF⟩ := bd1_some hF
      refine ctV (wn := [ob a_self 4 [Value.ref a_symbols, Value.ref a_tableOfGroup, Value.ref a_lengths, Value.ref a_weights, Value.ref a_joiner, Value.ref a_codes, Value.int m_kinds, Value.int m_groups, Value.int m_tables], ra cO a_codes 3 (va_up (va_up (va_up (fun _ => none) 0 (some a_codes_0_)) 1 (some a_codes_1_)) 2 (some a_codes_2_)), ob a_codes_0_ 0 [Value.ref (aF_lengths 12), Value.ref a_codes_0__codes, Value.ref a_codes_0__counts, Value.ref a_codes_0__firsts, Value.ref a_codes_0__nexts, Value.int (m_codes_kinds 0), Value.int (m_codes_filled 0)], ia cI a_codes_0__codes 258 (m_codes_codes 0), ob a_codes_1_ 0 [Value.ref (aF_lengths 13), Value.ref a_codes_1__codes, Value.ref a_codes_1__counts, Value.ref a_codes_1__firsts, Value.ref a_codes_1__nexts, Value.int (m_codes_kinds 1), Value.int (m_codes_filled 1)], ia cI a_codes_1__codes 258 (m_codes_codes 1), ob a_codes_2_ 0 [Value.ref (aF_lengths 14), Value.ref a_codes_2__codes, Value.ref a_codes_2__counts, Value.ref a_codes_2__firsts, Value.ref a_codes_2__nexts, Value.int (m_codes_kinds 2), Value.int (m_codes_filled 2)], ia cI a_codes_2__codes 258 (m_codes_codes 2)]) (r := (RX0, TX0, 7)) (As := [.int x2]) (rest := []) hx hb hml hown hts hK hW hA hl.1 (kCodes_codeOf l D cI cZ cO cG a_codes_0_ (aF_lengths 12) a_codes_0__codes a_codes_0__counts a_codes_0__firsts a_codes_0__nexts (m_codes_kinds 0) (m_codes_filled 0) (m_codes_codes 0) x2 e16) (cwV 1 hts gX4_codeOf_X0_codeOf rfl rfl rfl (by decide +kernel) ⟨Nat.le_of_ble_eq_true rfl, Nat.le_of_ble_eq_true rfl⟩) 0 2 rfl rfl [2, 3] [0, 1, 4, 5, 6, 7] 8 rfl rfl rfl rfl [ob a_self 4 [Value.ref a_symbols, Value.ref a_tableOfGroup, Value.ref a_lengths, Value.ref a_weights, Value.ref a_joiner, Value.ref a_codes, Value.int m_kinds, Value.int m_groups, Value.int m_tables], ra cO a_codes 3 (va_up (va_up (va_up (fun _ => none) 0 (some a_codes_0_)) 1 (some a_codes_1_)) 2 (some a_codes_2_)), ob a_codes_1_ 0 [Value.ref (aF_lengths 13), Value.ref a_codes_1__codes, Value.ref a_codes_1__counts, Value.ref a_codes_1__firsts, Value.ref a_codes_1__nexts, Value.int (m_codes_kinds 1), Value.int (m_codes_filled 1)], ia cI a_codes_1__codes 258 (m_codes_codes 1), ob a_codes_2_ 0 [Value.ref (aF_lengths 14), Value.ref a_codes_2__codes, Value.ref a_codes_2__counts, Value.ref a_codes_2__firsts, Value.ref a_codes_2__nexts, Value.int (m_codes_kinds 2), Value.int (m_codes_filled 2)], ia cI a_codes_2__codes 258 (m_codes_codes 2)] rfl rfl rfl rfl rfl (Nat.le_of_ble_eq_true rfl) rfl ⟨Nat.zero_le _, Nat.zero_le _⟩ dX4_codeOf_16 (fun H locs hW => ?_)
      refine lv_goto (tgt := 23) hx hb dX4_codeOf_19 (by decide) ?_
      cases hF
      subst hQ
      exact ct_iret hx hb hr hlocks hW.1 hW.2.2 dX4_codeOf_23
    · rw [y14] at hF
      refine ct_aald hx hb hK.1 hW.1 1 2 rfl rfl rfl g14 (b := a_codes_1_) (by rw [y14]; rfl) dX4_codeOf_14 ?_
      refine lv_iload_n hx hb dX4_codeOf_15 rfl (lv_at hl 2 rfl) ?_
      obtain ⟨r_16, e16, hF⟩ := bd1_some hF
      refine ctV (wn := [ob a_self 4 [Value.ref a_symbols, Value.ref a_tableOfGroup, Value.ref a_lengths, Value.ref a_weights, Value.ref a_joiner, Value.ref a_codes, Value.int m_kinds, Value.int m_groups, Value.int m_tables], ra cO a_codes 3 (va_up (va_up (va_up (fun _ => none) 0 (some a_codes_0_)) 1 (some a_codes_1_)) 2 (some a_codes_2_)), ob a_codes_0_ 0 [Value.ref (aF_lengths 12), Value.ref a_codes_0__codes, Value.ref a_codes_0__counts, Value.ref a_codes_0__firsts, Value.ref a_codes_0__nexts, Value.int (m_codes_kinds 0), Value.int (m_codes_filled 0)], ia cI a_codes_0__codes 258 (m_codes_codes 0), ob a_codes_1_ 0 [Value.ref (aF_lengths 13), Value.ref a_codes_1__codes, Value.ref a_codes_1__counts, Value.ref a_codes_1__firsts, Value.ref a_codes_1__nexts, Value.int (m_codes_kinds 1), Value.int (m_codes_filled 1)], ia cI a_codes_1__codes 258 (m_codes_codes 1), ob a_codes_2_ 0 [Value.ref (aF_lengths 14), Value.ref a_codes_2__codes, Value.ref a_codes_2__counts, Value.ref a_codes_2__firsts, Value.ref a_codes_2__nexts, Value.int (m_codes_kinds 2), Value.int (m_codes_filled 2)], ia cI a_codes_2__codes 258 (m_codes_codes 2)]) (r := (RX0, TX0, 7)) (As := [.int x2]) (rest := []) hx hb hml hown hts hK hW hA hl.1 (kCodes_codeOf l D cI cZ cO cG a_codes_1_ (aF_lengths 13) a_codes_1__codes a_codes_1__counts a_codes_1__firsts a_codes_1__nexts (m_codes_kinds 1) (m_codes_filled 1) (m_codes_codes 1) x2 e16) (cwV 1 hts gX4_codeOf_X0_codeOf rfl rfl rfl (by decide +kernel) ⟨Nat.le_of_ble_eq_true rfl, Nat.le_of_ble_eq_true rfl⟩) 0 4 rfl rfl [4, 5] [0, 1, 2, 3, 6, 7] 8 rfl rfl rfl rfl [ob a_self 4 [Value.ref a_symbols, Value.ref a_tableOfGroup, Value.ref a_lengths, Value.ref a_weights, Value.ref a_joiner, Value.ref a_codes, Value.int m_kinds, Value.int m_groups, Value.int m_tables], ra cO a_codes 3 (va_up (va_up (va_up (fun _ => none) 0 (some a_codes_0_)) 1 (some a_codes_1_)) 2 (some a_codes_2_)), ob a_codes_0_ 0 [Value.ref (aF_lengths 12), Value.ref a_codes_0__codes, Value.ref a_codes_0__counts, Value.ref a_codes_0__firsts, Value.ref a_codes_0__nexts, Value.int (m_codes_kinds 0), Value.int (m_codes_filled 0)], ia cI a_codes_0__codes 258 (m_codes_codes 0), ob a_codes_2_ 0 [Value.ref (aF_lengths 14), Value.ref a_codes_2__codes, Value.ref a_codes_2__counts, Value.ref a_codes_2__firsts, Value.ref a_codes_2__nexts, Value.int (m_codes_kinds 2), Value.int (m_codes_filled 2)], ia cI a_codes_2__codes 258 (m_codes_codes 2)] rfl rfl rfl rfl rfl (Nat.le_of_ble_eq_true rfl) rfl ⟨Nat.zero_le _, Nat.zero_le _⟩ dX4_codeOf_16 (fun H locs hW => ?_)
      refine lv_goto (tgt := 23) hx hb dX4_codeOf_19 (by decide) ?_
      cases hF
      subst hQ
      exact ct_iret hx hb hr hlocks hW.1 hW.2.2 dX4_codeOf_23
    · rw [y14] at hF
      refine ct_aald hx hb hK.1 hW.1 1 2 rfl rfl rfl g14 (b := a_codes_2_) (by rw [y14]; rfl) dX4_codeOf_14 ?_
      refine lv_iload_n hx hb dX4_codeOf_15 rfl (lv_at hl 2 rfl) ?_
      obtain ⟨r_16, e16, hF⟩ := bd1_some hF
      refine ctV (wn := [ob a_self 4 [Value.ref a_symbols, Value.ref a_tableOfGroup, Value.ref a_lengths, Value.ref a_weights, Value.ref a_joiner, Value.ref a_codes, Value.int m_kinds, Value.int m_groups, Value.int m_tables], ra cO a_codes 3 (va_up (va_up (va_up (fun _ => none) 0 (some a_codes_0_)) 1 (some a_codes_1_)) 2 (some a_codes_2_)), ob a_codes_0_ 0 [Value.ref (aF_lengths 12), Value.ref a_codes_0__codes, Value.ref a_codes_0__counts, Value.ref a_codes_0__firsts, Value.ref a_codes_0__nexts, Value.int (m_codes_kinds 0), Value.int (m_codes_filled 0)], ia cI a_codes_0__codes 258 (m_codes_codes 0), ob a_codes_1_ 0 [Value.ref (aF_lengths 13), Value.ref a_codes_1__codes, Value.ref a_codes_1__counts, Value.ref a_codes_1__firsts, Value.ref a_codes_1__nexts, Value.int (m_codes_kinds 1), Value.int (m_codes_filled 1)], ia cI a_codes_1__codes 258 (m_codes_codes 1), ob a_codes_2_ 0 [Value.ref (aF_lengths 14), Value.ref a_codes_2__codes, Value.ref a_codes_2__counts, Value.ref a_codes_2__firsts, Value.ref a_codes_2__nexts, Value.int (m_codes_kinds 2), Value.int (m_codes_filled 2)], ia cI a_codes_2__codes 258 (m_codes_codes 2)]) (r := (RX0, TX0, 7)) (As := [.int x2]) (rest := []) hx hb hml hown hts hK hW hA hl.1 (kCodes_codeOf l D cI cZ cO cG a_codes_2_ (aF_lengths 14) a_codes_2__codes a_codes_2__counts a_codes_2__firsts a_codes_2__nexts (m_codes_kinds 2) (m_codes_filled 2) (m_codes_codes 2) x2 e16) (cwV 1 hts gX4_codeOf_X0_codeOf rfl rfl rfl (by decide +kernel) ⟨Nat.le_of_ble_eq_true rfl, Nat.le_of_ble_eq_true rfl⟩) 0 6 rfl rfl [6, 7] [0, 1, 2, 3, 4, 5] 8 rfl rfl rfl rfl [ob a_self 4 [Value.ref a_symbols, Value.ref a_tableOfGroup, Value.ref a_lengths, Value.ref a_weights, Value.ref a_joiner, Value.ref a_codes, Value.int m_kinds, Value.int m_groups, Value.int m_tables], ra cO a_codes 3 (va_up (va_up (va_up (fun _ => none) 0 (some a_codes_0_)) 1 (some a_codes_1_)) 2 (some a_codes_2_)), ob a_codes_0_ 0 [Value.ref (aF_lengths 12), Value.ref a_codes_0__codes, Value.ref a_codes_0__counts, Value.ref a_codes_0__firsts, Value.ref a_codes_0__nexts, Value.int (m_codes_kinds 0), Value.int (m_codes_filled 0)], ia cI a_codes_0__codes 258 (m_codes_codes 0), ob a_codes_1_ 0 [Value.ref (aF_lengths 13), Value.ref a_codes_1__codes, Value.ref a_codes_1__counts, Value.ref a_codes_1__firsts, Value.ref a_codes_1__nexts, Value.int (m_codes_kinds 1), Value.int (m_codes_filled 1)], ia cI a_codes_1__codes 258 (m_codes_codes 1)] rfl rfl rfl rfl rfl (Nat.le_of_ble_eq_true rfl) rfl ⟨Nat.zero_le _, Nat.zero_le _⟩ dX4_codeOf_16 (fun H locs hW => ?_)
      refine lv_goto (tgt := 23) hx hb dX4_codeOf_19 (by decide) ?_
      cases hF
      subst hQ
      exact ct_iret hx hb hr hlocks hW.1 hW.2.2 dX4_codeOf_23
