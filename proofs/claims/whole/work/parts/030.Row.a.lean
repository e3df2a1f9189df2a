abbrev rmRow_add : Room := { frames := 0, cells := 0, slots := 0, locals := 0 }
set_option maxHeartbeats 4000000 in
set_option maxRecDepth 100000 in
theorem kRow_add (l : Launch) (D : va_G) (cI cZ cO cG : ClassId) (a_self : Nat) (a_values : Nat) (n_values : Nat) (m_count : Int32) (m_values : Nat → Int32) (x1 : Int32) {m_count' : Int32} {m_values' : Nat → Int32} (hF : fRow_add n_values m_count m_values x1 = some (m_count', m_values')) : CT l yX5_add wsX5_add rmRow_add D (tysG cI cZ cO cG) [.ref a_self, .int x1] [ob a_self 5 [Value.ref a_values, Value.int m_count], ia cI a_values n_values m_values] none [ob a_self 5 [Value.ref a_values, Value.int m_count'], ia cI a_values n_values m_values'] := by
  refine CT.of (cc := cX5_add) (maxL := 2) (ret := none) (by decide) rfl (Nat.le_of_ble_eq_true rfl) ?_
  intro p e s m below meth c A ls hx hb hr hml hts hown hlocks hK hA hP hD hS hl
  generalize hargs : ([.ref a_self, .int x1] : List Value).toArray = args at hts ⊢
  generalize hQ : MQ below (ctQ D none [ob a_self 5 [Value.ref a_values, Value.int m_count'], ia cI a_values n_values m_values'] A) args s 0 0 A = Q
  have hl : lv_has ls 2 [(0, .ref a_self), (1, .int x1)] := hl
  have hW : WS D A s [ob a_self 5 [Value.ref a_values, Value.int m_count], ia cI a_values n_values m_values] s.heap [] := ⟨hP, hD, hS⟩
  clear hP hD hS
  unfold fRow_add at hF
  have hw0 := hts (Cond.fieldLink RX5 15 "MoveFronts$Row" "count" "I") (by decide +kernel)
  have hw1 := hts (Cond.fieldLink RX5 9 "MoveFronts$Row" "values" "[I") (by decide +kernel)
  have hi5 : ∀ w ∈ u_ws RX5 TX5 2, w ∈ wsX5_add := by decide +kernel
  refine lv_aload_n hx hb dX5_add_0 rfl (lv_at hl 0 rfl) ?_
  refine va_get (D := D) (ci := 5) (v := .int m_count) (C := RX5) (T := TX5) (N := 2) hx hb hts hi5 hown hK.1 hW.1 0 rfl rfl 1 (by decide) hw0 (fun _ h9 => h9) rfl dX5_add_1 ?_
  refine lv_aload_n hx hb dX5_add_4 rfl (lv_at hl 0 rfl) ?_
  refine va_get (D := D) (ci := 5) (v := .ref a_values) (C := RX5) (T := TX5) (N := 2) hx hb hts hi5 hown hK.1 hW.1 0 rfl rfl 0 (by decide) hw1 (fun _ h9 => h9) rfl dX5_add_5 ?_
  refine va_alen hx hb hK.1 hW.1 1 0 rfl rfl (v := (Int32.ofNat n_values)) rfl dX5_add_8 ?_
  refine lv_icmp_ge (tgt := 32) hx hb dX5_add_9 (by decide) (fun c9 => ?_) (fun c9 => ?_)
  · rw [if_pos c9] at hF
    cases hF
    subst hQ
    exact ct_vret hx hb hr hlocks hW.1 hW.2.2 dX5_add_32
  · rw [if_neg c9] at hF
    refine lv_aload_n hx hb dX5_add_12 rfl (lv_at hl 0 rfl) ?_
    refine va_get (D := D) (ci := 5) (v := .ref a_values) (C := RX5) (T := TX5) (N := 2) hx hb hts hi5 hown hK.1 hW.1 0 rfl rfl 0 (by decide) hw1 (fun _ h9 => h9) rfl dX5_add_13 ?_
    refine lv_aload_n hx hb dX5_add_16 rfl (lv_at hl 0 rfl) ?_
    refine va_get (D := D) (ci := 5) (v := .int m_count) (C := RX5) (T := TX5) (N := 2) hx hb hts hi5 hown hK.1 hW.1 0 rfl rfl 1 (by decide) hw0 (fun _ h9 => h9) rfl dX5_add_17 ?_
    refine lv_iload_n hx hb dX5_add_20 rfl (lv_at hl 1 rfl) ?_
    obtain ⟨g21, hF⟩ := gdI_some hF
    refine va_iast hx hb hK.1 hW.1 hW.2.1 hW.2.2 1 0 rfl rfl g21 dX5_add_21 (fun H locs hP hD hS => ?_)
    have hW : WS D A s [ob a_self 5 [Value.ref a_values, Value.int m_count], ia cI a_values n_values (upd m_values m_count.toNatClampNeg x1)] H locs := ⟨hP, hD, hS⟩
    refine lv_aload_n hx hb dX5_add_22 rfl (lv_at hl 0 rfl) ?_
    refine lv_dup hx hb dX5_add_23 rfl ?_
    refine va_get (D := D) (ci := 5) (v := .int m_count) (C := RX5) (T := TX5) (N := 2) hx hb hts hi5 hown hK.1 hW.1 0 rfl rfl 1 (by decide) hw0 (fun _ h9 => h9) rfl dX5_add_24 ?_
    refine lv_iconst (v := 1) hx hb dX5_add_27 (by decide) ?_
    refine lv_iadd hx hb dX5_add_28 ?_
    refine va_put (D := D) (ci := 5) (v := .int (m_count + (1 : Int32))) (ty := .int) (C := RX5) (T := TX5) (N := 2) hx hb hts hi5 tyX5 tyX5_ok nmX5 hown hK.1 hW.1 hW.2.1 hW.2.2 0 rfl rfl 1 (by decide) hw0 (fun _ h9 => h9) rfl (by decide +kernel) rfl rfl (Nat.le_of_ble_eq_true rfl) dX5_add_29 (fun H locs hP hD hS => ?_)
    have hW : WS D A s [ob a_self 5 [Value.ref a_values, Value.int (m_count + (1 : Int32))], ia cI a_values n_values (upd m_values m_count.toNatClampNeg x1)] H locs := ⟨hP, hD, hS⟩
    cases hF
    subst hQ
    exact ct_vret hx hb hr hlocks hW.1 hW.2.2 dX5_add_32
abbrev rmRow_isFull : Room := { frames := 0, cells := 0, slots := 0, locals := 0 }
set_option maxHeartbeats 4000000 in
set_option maxRecDepth 100000 in
theorem kRow_isFull (l : Launch) (D : va_G) (cI cZ cO cG : ClassId) (a_self : Nat) (a_values : Nat) (n_values : Nat) (m_count : Int32) (m_values : Nat → Int32) {rv : Int32} (hF : fRow_isFull n_values m_count = some rv) : CT l yX5_isFull wsX5_isFull rmRow_isFull D (tysG cI cZ cO cG) [.ref a_self] [ob a_self 5 [Value.ref a_values, Value.int m_count], ia cI a_values n_values m_values] (some (.int rv)) [ob a_self 5 [Value.ref a_values, Value.int m_count], ia cI a_values n_values m_values] := by
  refine CT.of (cc := cX5_isFull) (maxL := 1) (ret := (some .boolean)) (by decide) rfl (Nat.le_of_ble_eq_true rfl) ?_
  intro p e s m below meth c A ls hx hb hr hml hts hown hlocks hK hA hP hD hS hl
  generalize hargs : ([.ref a_self] : List Value).toArray = args at hts ⊢
  generalize hQ : MQ below (ctQ D (some (.int rv)) [ob a_self 5 [Value.ref a_values, Value.int m_count], ia cI a_values n_values m_values] A) args s 0 0 A = Q
  have hl : lv_has ls 1 [(0, .ref a_self)] := hl
  have hW : WS D A s [ob a_self 5 [Value.ref a_values, Value.int m_count], ia cI a_values n_values m_values] s.heap [] := ⟨hP, hD, hS⟩
  clear hP hD hS
  unfold fRow_isFull at hF
  have hw0 := hts (Cond.fieldLink RX5 15 "MoveFronts$Row" "count" "I") (by decide +kernel)
  have hw1 := hts (Cond.fieldLink RX5 9 "MoveFronts$Row" "values" "[I") (by decide +kernel)
  have hi5 : ∀ w ∈ u_ws RX5 TX5 2, w ∈ wsX5_isFull := by decide +kernel
  refine lv_aload_n hx hb dX5_isFull_0 rfl (lv_at hl 0 rfl) ?_
  refine va_get (D := D) (ci := 5) (v := .int m_count) (C := RX5) (T := TX5) (N := 2) hx hb hts hi5 hown hK.1 hW.1 0 rfl rfl 1 (by decide) hw0 (fun _ h9 => h9) rfl dX5_isFull_1 ?_
  refine lv_aload_n hx hb dX5_isFull_4 rfl (lv_at hl 0 rfl) ?_
  refine va_get (D := D) (ci := 5) (v := .ref a_values) (C := RX5) (T := TX5) (N := 2) hx hb hts hi5 hown hK.1 hW.1 0 rfl rfl 0 (by decide) hw1 (fun _ h9 => h9) rfl dX5_isFull_5 ?_
  refine va_alen hx hb hK.1 hW.1 1 0 rfl rfl (v := (Int32.ofNat n_values)) rfl dX5_isFull_8 ?_
  refine lv_icmp_lt (tgt := 16) hx hb dX5_isFull_9 (by decide) (fun c9 => ?_) (fun c9 => ?_)
  · rw [if_pos c9] at hF
    refine lv_iconst (v := 0) hx hb dX5_isFull_16 (by decide) ?_
    cases hF
    subst hQ
    exact ct_zret hx hb hr hlocks rfl hW.1 hW.2.2 dX5_isFull_17
  · rw [if_neg c9] at hF
    refine lv_iconst (v := 1) hx hb dX5_isFull_12 (by decide) ?_
    refine lv_goto (tgt := 17) hx hb dX5_isFull_13 (by decide) ?_
    cases hF
    subst hQ
    exact ct_zret hx hb hr hlocks rfl hW.1 hW.2.2 dX5_isFull_17
abbrev rmRow_size : Room := { frames := 0, cells := 0, slots := 0, locals := 0 }
set_option maxHeartbeats 4000000 in
set_option maxRecDepth 100000 in
theorem kRow_size (l : Launch) (D : va_G) (cI cZ cO cG : ClassId) (a_self : Nat) (a_values : Nat) (m_count : Int32) {rv : Int32} (hF : fRow_size m_count = some rv) : CT l yX5_size wsX5_size rmRow_size D (tysG cI cZ cO cG) [.ref a_self] [ob a_self 5 [Value.ref a_values, Value.int m_count]] (some (.int rv)) [ob a_self 5 [Value.ref a_values, Value.int m_count]] := by
  refine CT.of (cc := cX5_size) (maxL := 1) (ret := (some .int)) (by decide) rfl (Nat.le_of_ble_eq_true rfl) ?_
  intro p e s m below meth c A ls hx hb hr hml hts hown hlocks hK hA hP hD hS hl
  generalize hargs : ([.ref a_self] : List Value).toArray = args at hts ⊢
  generalize hQ : MQ below (ctQ D (some (.int rv)) [ob a_self 5 [Value.ref a_values, Value.int m_count]] A) args s 0 0 A = Q
  have hl : lv_has ls 1 [(0, .ref a_self)] := hl
  have hW : WS D A s [ob a_self 5 [Value.ref a_values, Value.int m_count]] s.heap [] := ⟨hP, hD, hS⟩
  clear hP hD hS
  unfold fRow_size at hF
  have hw0 := hts (Cond.fieldLink RX5 15 "MoveFronts$Row" "count" "I") (by decide +kernel)
  have hi5 : ∀ w ∈ u_ws RX5 TX5 2, w ∈ wsX5_size := by decide +kernel
  refine lv_aload_n hx hb dX5_size_0 rfl (lv_at hl 0 rfl) ?_
  refine va_get (D := D) (ci := 5) (v := .int m_count) (C := RX5) (T := TX5) (N := 2) hx hb hts hi5 hown hK.1 hW.1 0 rfl rfl 1 (by decide) hw0 (fun _ h9 => h9) rfl dX5_size_1 ?_
  cases hF
  subst hQ
  exact ct_iret hx hb hr hlocks hW.1 hW.2.2 dX5_size_4
abbrev rmRow_clear : Room := { frames := 0, cells := 0, slots := 0, locals := 0 }
set_option maxHeartbeats 4000000 in
set_option maxRecDepth 100000 in
theorem kRow_clear (l : Launch) (D : va_G) (cI cZ cO cG : ClassId) (a_self : Nat) (a_values : Nat) (m_count : Int32) {m_count' : Int32} (hF : fRow_clear = some m_count') : CT l yX5_clear wsX5_clear rmRow_clear D (tysG cI cZ cO cG) [.ref a_self] [ob a_self 5 [Value.ref a_values, Value.int m_count]] none [ob a_self 5 [Value.ref a_values, Value.int m_count']] := by
  refine CT.of (cc := cX5_clear) (maxL := 1) (ret := none) (by decide) rfl (Nat.le_of_ble_eq_true rfl) ?_
  intro p e s m below meth c A ls hx hb hr hml hts hown hlocks hK hA hP hD hS hl
  generalize hargs : ([.ref a_self] : List Value).toArray = args at hts ⊢
  generalize hQ : MQ below (ctQ D none [ob a_self 5 [Value.ref a_values, Value.int m_count']] A) args s 0 0 A = Q
  have hl : lv_has ls 1 [(0, .ref a_self)] := hl
  have hW : WS D A s [ob a_self 5 [Value.ref a_values, Value.int m_count]] s.heap [] := ⟨hP, hD, hS⟩
  clear hP hD hS
  unfold fRow_clear at hF
  have hw0 := hts (Cond.fieldLink RX5 15 "MoveFronts$Row" "count" "I") (by decide +kernel)
  have hi5 : ∀ w ∈ u_ws RX5 TX5 2, w ∈ wsX5_clear := by decide +kernel
  refine lv_aload_n hx hb dX5_clear_0 rfl (lv_at hl 0 rfl) ?_
  refine lv_iconst (v := 0) hx hb dX5_clear_1 (by decide) ?_
  refine va_put (D := D) (ci := 5) (v := .int (0 : Int32)) (ty := .int) (C := RX5) (T := TX5) (N := 2) hx hb hts hi5 tyX5 tyX5_ok nmX5 hown hK.1 hW.1 hW.2.1 hW.2.2 0 rfl rfl 1 (by decide) hw0 (fun _ h9 => h9) rfl (by decide +kernel) rfl rfl (Nat.le_of_ble_eq_true rfl) dX5_clear_2 (fun H locs hP hD hS => ?_)
  have hW : WS D A s [ob a_self 5 [Value.ref a_values, Value.int (0 : Int32)]] H locs := ⟨hP, hD, hS⟩
  cases hF
  subst hQ
  exact ct_vret hx hb hr hlocks hW.1 hW.2.2 dX5_clear_5
abbrev rmRow_get : Room := { frames := 0, cells := 0, slots := 0, locals := 0 }
set_option maxHeartbeats 4000000 in
set_option maxRecDepth 100000 in
theorem kRow_get (l : Launch) (D : va_G) (cI cZ cO cG : ClassId) (a_self : Nat) (a_values : Nat) (n_values : Nat) (m_count : Int32) (m_values : Nat → Int32) (x1 : Int32) {rv : Int32} (hF : fRow_get n_values m_count m_values x1 = some rv) : CT l yX5_get wsX5_get rmRow_get D (tysG cI cZ cO cG) [.ref a_self, .int x1] [ob a_self 5 [Value.ref a_values, Value.int m_count], ia cI a_values n_values m_values] (some (.int rv)) [ob a_self 5 [Value.ref a_values, Value.int m_count], ia cI a_values n_values m_values] := by
  refine CT.of (cc := cX5_get) (maxL := 2) (ret := (some .int)) (by decide) rfl (Nat.le_of_ble_eq_true rfl) ?_
  intro p e s m below meth c A ls hx hb hr hml hts hown hlocks hK hA hP hD hS hl
  generalize hargs : ([.ref a_self, .int x1] : List Value).toArray = args at hts ⊢
  generalize hQ : MQ below (ctQ D (some (.int rv)) [ob a_self 5 [Value.ref a_values, Value.int m_count], ia cI a_values n_values m_values] A) args s 0 0 A = Q
  have hl : lv_has ls 2 [(0, .ref a_self), (1, .int x1)] := hl
  have hW : WS D A s [ob a_self 5 [Value.ref a_values, Value.int m_count], ia cI a_values n_values m_values] s.heap [] := ⟨hP, hD, hS⟩
  clear hP hD hS
  unfold fRow_get at hF
  have hw0 := hts (Cond.fieldLink RX5 15 "MoveFronts$Row" "count" "I") (by decide +kernel)
  have hw1 := hts (Cond.fieldLink RX5 9 "MoveFronts$Row" "values" "[I") (by decide +kernel)
  have hi5 : ∀ w ∈ u_ws RX5 TX5 2, w ∈ wsX5_get := by decide +kernel
  refine lv_iload_n hx hb dX5_get_0 rfl (lv_at hl 1 rfl) ?_
  refine lv_if_lt (tgt := 12) hx hb dX5_get_1 (by decide) (fun c1 => ?_) (fun c1 => ?_)
  · rw [if_pos c1] at hF
    refine lv_iconst (v := (-1)) hx hb dX5_get_12 (by decide) ?_
    refine lv_goto (tgt := 22) hx hb dX5_get_13 (by decide) ?_
    cases hF
    subst hQ
    exact ct_iret hx hb hr hlocks hW.1 hW.2.2 dX5_get_22
  · rw [if_neg c1] at hF
    refine lv_iload_n hx hb dX5_get_4 rfl (lv_at hl 1 rfl) ?_
    refine lv_aload_n hx hb dX5_get_5 rfl (lv_at hl 0 rfl) ?_
    refine va_get (D := D) (ci := 5) (v := .int m_count) (C := RX5) (T := TX5) (N := 2) hx hb hts hi5 hown hK.1 hW.1 0 rfl rfl 1 (by decide) hw0 (fun _ h9 => h9) rfl dX5_get_6 ?_
    refine lv_icmp_lt (tgt := 16) hx hb dX5_get_9 (by decide) (fun c9 => ?_) (fun c9 => ?_)
    · rw [if_pos c9] at hF
      refine lv_aload_n hx hb dX5_get_16 rfl (lv_at hl 0 rfl) ?_
      refine va_get (D := D) (ci := 5) (v := .ref a_values) (C := RX5) (T := TX5) (N := 2) hx hb hts hi5 hown hK.1 hW.1 0 rfl rfl 0 (by decide) hw1 (fun _ h9 => h9) rfl dX5_get_17 ?_
      refine lv_iload_n hx hb dX5_get_20 rfl (lv_at hl 1 rfl) ?_
      obtain ⟨g21, hF⟩ := gdI_some hF
      refine va_iald hx hb hK.1 hW.1 1 0 rfl rfl g21 dX5_get_21 ?_
      cases hF
      subst hQ
      exact ct_iret hx hb hr hlocks hW.1 hW.2.2 dX5_get_22
    · rw [if_neg c9] at hF
      refine lv_iconst (v := (-1)) hx hb dX5_get_12 (by decide) ?_
      refine lv_goto (tgt := 22) hx hb dX5_get_13 (by decide) ?_
      cases hF
      subst hQ
      exact ct_iret hx hb hr hlocks hW.1 hW.2.2 dX5_get_22
abbrev rmRow_keepFirst : Room := { frames := 0, cells := 0, slots := 0, locals := 0 }
set_option maxHeartbeats 4000000 in
set_option maxRecDepth 100000 in
theorem kRow_keepFirst (l : Launch) (D : va_G) (cI cZ cO cG : ClassId) (a_self : Nat) (a_values : Nat) (m_count : Int32) (x1 : Int32) {m_count' : Int32} (hF : fRow_keepFirst m_count x1 = some m_count') : CT l yX5_keepFirst wsX5_keepFirst rmRow_keepFirst D (tysG cI cZ cO cG) [.ref a_self, .int x1] [ob a_self 5 [Value.ref a_values, Value.int m_count]] none [ob a_self 5 [Value.ref a_values, Value.int m_count']] := by
  refine CT.of (cc := cX5_keepFirst) (maxL := 2) (ret := none) (by decide) rfl (Nat.le_of_ble_eq_true rfl) ?_
  intro p e s m below meth c A ls hx hb hr hml hts hown hlocks hK hA hP hD hS hl
  generalize hargs : ([.ref a_self, .int x1] : List Value).toArray = args at hts ⊢
  generalize hQ : MQ below (ctQ D none [ob a_self 5 [Value.ref a_values, Value.int m_count']] A) args s 0 0 A = Q
  have hl : lv_has ls 2 [(0, .ref a_self), (1, .int x1)] := hl
  have hW : WS D A s [ob a_self 5 [Value.ref a_values, Value.int m_count]] s.heap [] := ⟨hP, hD, hS⟩
  clear hP hD hS
  unfold fRow_keepFirst at hF
  have hw0 := hts (Cond.fieldLink RX5 15 "MoveFronts$Row" "count" "I") (by decide +kernel)
  have hi5 : ∀ w ∈ u_ws RX5 TX5 2, w ∈ wsX5_keepFirst := by decide +kernel
  refine lv_iload_n hx hb dX5_keepFirst_0 rfl (lv_at hl 1 rfl) ?_
  refine lv_if_lt (tgt := 17) hx hb dX5_keepFirst_1 (by decide) (fun c1 => ?_) (fun c1 => ?_)
  · rw [if_pos c1] at hF
    cases hF
    subst hQ
    exact ct_vret hx hb hr hlocks hW.1 hW.2.2 dX5_keepFirst_17
  · rw [if_neg c1] at hF
    refine lv_iload_n hx hb dX5_keepFirst_4 rfl (lv_at hl 1 rfl) ?_
    refine lv_aload_n hx hb dX5_keepFirst_5 rfl (lv_at hl 0 rfl) ?_
    refine va_get (D := D) (ci := 5) (v := .int m_count) (C := RX5) (T := TX5) (N := 2) hx hb hts hi5 hown hK.1 hW.1 0 rfl rfl 1 (by decide) hw0 (fun _ h9 => h9) rfl dX5_keepFirst_6 ?_
    refine lv_icmp_ge (tgt := 17) hx hb dX5_keepFirst_9 (by decide) (fun c9 => ?_) (fun c9 => ?_)
    · rw [if_pos c9] at hF
      cases hF
      subst hQ
      exact ct_vret hx hb hr hlocks hW.1 hW.2.2 dX5_keepFirst_17
    · rw [if_neg c9] at hF
      refine lv_aload_n hx hb dX5_keepFirst_12 rfl (lv_at hl 0 rfl) ?_
      refine lv_iload_n hx hb dX5_keepFirst_13 rfl (lv_at hl 1 rfl) ?_
      refine va_put (D := D) (ci := 5) (v := .int x1) (ty := .int) (C := RX5) (T := TX5) (N := 2) hx hb hts hi5 tyX5 tyX5_ok nmX5 hown hK.1 hW.1 hW.2.1 hW.2.2 0 rfl rfl 1 (by decide) hw0 (fun _ h9 => h9) rfl (by decide +kernel) rfl rfl (Nat.le_of_ble_eq_true rfl) dX5_keepFirst_14 (fun H locs hP hD hS => ?_)
      have hW : WS D A s [ob a_self 5 [Value.ref a_values, Value.int x1]] H locs := ⟨hP, hD, hS⟩
      cases hF
      subst hQ
      exact ct_vret hx hb hr hlocks hW.1 hW.2.2 dX5_keepFirst_17
abbrev rmRow_set : Room := { frames := 0, cells := 0, slots := 0, locals := 0 }
set_option maxHeartbeats 4000000 in
set_option maxRecDepth 100000 in
theorem kRow_set (l : Launch) (D : va_G) (cI cZ cO cG : ClassId) (a_self : Nat) (a_values : Nat) (n_values : Nat) (m_count : Int32) (m_values : Nat → Int32) (x1 : Int32) (x2 : Int32) {m_values' : Nat → Int32} (hF : fRow_set n_values m_count m_values x1 x2 = some m_values') : CT l yX5_set wsX5_set rmRow_set D (tysG cI cZ cO cG) [.ref a_self, .int x1, .int x2] [ob a_self 5 [Value.ref a_values, Value.int m_count], ia cI a_values n_values m_values] none [ob a_self 5 [Value.ref a_values, Value.int m_count], ia cI a_values n_values m_values'] := by
  refine CT.of (cc := cX5_set) (maxL := 3) (ret := none) (by decide) rfl (Nat.le_of_ble_eq_true rfl) ?_
  intro p e s m below meth c A ls hx hb hr hml hts hown hlocks hK hA hP hD hS hl
  generalize hargs : ([.ref a_self, .int x1, .int x2] : List Value).toArray = args at hts ⊢
  generalize hQ : MQ below (ctQ D none [ob a_self 5 [Value.ref a_values, Value.int m_count], ia cI a_values n_values m_values'] A) args s 0 0 A = Q
  have hl : lv_has ls 3 [(0, .ref a_self), (1, .int x1), (2, .int x2)] := hl
  have hW : WS D A s [ob a_self 5 [Value.ref a_values, Value.int m_count], ia cI a_values n_values m_values] s.heap [] := ⟨hP, hD, hS⟩
  clear hP hD hS
  unfold fRow_set at hF
  have hw0 := hts (Cond.fieldLink RX5 15 "MoveFronts$Row" "count" "I") (by decide +kernel)
  have hw1 := hts (Cond.fieldLink RX5 9 "MoveFronts$Row" "values" "[I") (by decide +kernel)
  have hi5 : ∀ w ∈ u_ws RX5 TX5 2, w ∈ wsX5_set := by decide +kernel
  refine lv_iload_n hx hb dX5_set_0 rfl (lv_at hl 1 rfl) ?_
  refine lv_if_lt (tgt := 19) hx hb dX5_set_1 (by decide) (fun c1 => ?_) (fun c1 => ?_)
  · rw [if_pos c1] at hF
    cases hF
    subst hQ
    exact ct_vret hx hb hr hlocks hW.1 hW.2.2 dX5_set_19
  · rw [if_neg c1] at hF
    refine lv_iload_n hx hb dX5_set_4 rfl (lv_at hl 1 rfl) ?_
    refine lv_aload_n hx hb dX5_set_5 rfl (lv_at hl 0 rfl) ?_
    refine va_get (D := D) (ci := 5) (v := .int m_count) (C := RX5) (T := TX5) (N := 2) hx hb hts hi5 hown hK.1 hW.1 0 rfl rfl 1 (by decide) hw0 (fun _ h9 => h9) rfl dX5_set_6 ?_
    refine lv_icmp_ge (tgt := 19) hx hb dX5_set_9 (by decide) (fun c9 => ?_) (fun c9 => ?_)
    · rw [if_pos c9] at hF
      cases hF
      subst hQ
      exact ct_vret hx hb hr hlocks hW.1 hW.2.2 dX5_set_19
    · rw [if_neg c9] at hF
      refine lv_aload_n hx hb dX5_set_12 rfl (lv_at hl 0 rfl) ?_
      refine va_get (D := D) (ci := 5) (v := .ref a_values) (C := RX5) (T := TX5) (N := 2) hx hb hts hi5 hown hK.1 hW.1 0 rfl rfl 0 (by decide) hw1 (fun _ h9 => h9) rfl dX5_set_13 ?_
      refine lv_iload_n hx hb dX5_set_16 rfl (lv_at hl 1 rfl) ?_
      refine lv_iload_n hx hb dX5_set_17 rfl (lv_at hl 2 rfl) ?_
      obtain ⟨g18, hF⟩ := gdI_some hF
      refine va_iast hx hb hK.1 hW.1 hW.2.1 hW.2.2 1 0 rfl rfl g18 dX5_set_18 (fun H locs hP hD hS => ?_)
      have hW : WS D A s [ob a_self 5 [Value.ref a_values, Value.int m_count], ia cI a_values n_values (upd m_values x1.toNatClampNeg x2)] H locs := ⟨hP, hD, hS⟩
      cases hF
      subst hQ
      exact ct_vret hx hb hr hlocks hW.1 hW.2.2 dX5_set_19
abbrev rmRow_copyFrom : Room := { frames := 1, cells := 0, slots := 0, locals := 21 }
set_option maxHeartbeats 4000000 in
set_option maxRecDepth 100000 in
theorem kRow_copyFrom (l : Launch) (D : va_G) (cI cZ cO cG : ClassId) (a_self : Nat) (a_values : Nat) (a_p1 : Nat) (a_p1_values : Nat) (n_values : Nat) (n_p1_values : Nat) (m_count : Int32) (m_values : Nat → Int32) (m_p1_count : Int32) (m_p1_values : Nat → Int32) {m_count' : Int32} {m_values' : Nat → Int32} (hF : fRow_copyFrom n_values n_p1_values m_values m_p1_count m_p1_values = some (m_count', m_values')) : CT l yX5_copyFrom wsX5_copyFrom rmRow_copyFrom D (tysG cI cZ cO cG) [.ref a_self, .ref a_p1] [ob a_self 5 [Value.ref a_values, Value.int m_count], ia cI a_values n_values m_values, ob a_p1 5 [Value.ref a_p1_values, Value.int m_p1_count], ia cI a_p1_values n_p1_values m_p1_values] none [ob a_self 5 [Value.ref a_values, Value.int m_count'], ia cI a_values n_values m_values', ob a_p1 5 [Value.ref a_p1_values, Value.int m_p1_count], ia cI a_p1_values n_p1_values m_p1_values] := by
  refine CT.of (cc := cX5_copyFrom) (maxL := 3) (ret := none) (by decide) rfl (Nat.le_of_ble_eq_true rfl) ?_
  intro p e s m below meth c A ls hx hb hr hml hts hown hlocks hK hA hP hD hS hl
  generalize hargs : ([.ref a_self, .ref a_p1] : List Value).toArray = args at hts ⊢
  generalize hQ : MQ below (ctQ D none [ob a_self 5 [Value.ref a_values, Value.int m_count'], ia cI a_values n_values m_values', ob a_p1 5 [Value.ref a_p1_values, Value.int m_p1_count], ia cI a_p1_values n_p1_values m_p1_values] A) args s 0 0 A = Q
  have hl : lv_has ls 3 [(0, .ref a_self), (1, .ref a_p1)] := hl
  have hW : WS D A s [ob a_self 5 [Value.ref a_values, Value.int m_count], ia cI a_values n_values m_values, ob a_p1 5 [Value.ref a_p1_values, Value.int m_p1_count], ia cI a_p1_values n_p1_values m_p1_values] s.heap [] := ⟨hP, hD, hS⟩
  clear hP hD hS
  unfold fRow_copyFrom at hF
  have hw0 := hts (Cond.fieldLink RX5 15 "MoveFronts$Row" "count" "I") (by decide +kernel)
  have hw1 := hts (Cond.fieldLink RX5 9 "MoveFronts$Row" "values" "[I") (by decide +kernel)
  have hi5 : ∀ w ∈ u_ws RX5 TX5 2, w ∈ wsX5_copyFrom := by decide +kernel
  refine lv_aload_n hx hb dX5_copyFrom_0 rfl (lv_at hl 0 rfl) ?_
  obtain ⟨m_count_1, e1, hF⟩ := bd1_some hF
  refine ctV (wn := [ob a_self 5 [Value.ref a_values, Value.int m_count_1], ia cI a_values n_values m_values, ob a_p1 5 [Value.ref a_p1_values, Value.int m_p1_count], ia cI a_p1_values n_p1_values m_p1_values]) (r := (RX5, TX5, 2)) (As := []) (rest := []) hx hb hml hown hts hK hW hA hl.1 (kRow_clear l D cI cZ cO cG a_self a_values m_count e1) (cwV 0 hts gX5_copyFrom_X5_clear rfl rfl rfl (by decide +kernel) ⟨Nat.le_of_ble_eq_true rfl, Nat.le_of_ble_eq_true rfl⟩) 5 0 rfl rfl [0] [1, 2, 3] 4 rfl rfl rfl rfl [ia cI a_values n_values m_values, ob a_p1 5 [Value.ref a_p1_values, Value.int m_p1_count], ia cI a_p1_values n_p1_values m_p1_values] rfl rfl rfl rfl rfl (Nat.le_of_ble_eq_true rfl) rfl ⟨Nat.zero_le _, Nat.zero_le _⟩ dX5_copyFrom_1 (fun H locs hW => ?_)
  refine lv_iconst (v := 0) hx hb dX5_copyFrom_4 (by decide) ?_
  refine lv_istore_n (lv' := [(2, .int (0 : Int32)), (0, .ref a_self), (1, .ref a_p1)]) hx hb dX5_copyFrom_5 rfl hl (by decide) rfl (fun ls hl => ?_)
  obtain ⟨m_count_6ze, m_values_6ze, hI, hF⟩ := bd2_some hF
  obtain ⟨nn, hI⟩ := itrO_some hI
  have hX6 : ∀ (m_count_6z : Int32) (m_values_6z : Nat → Int32), (m_count_6z, m_values_6z) = (m_count_6ze, m_values_6ze) → ∀ (H : Heap) (locs : List Loc), WS D A s [ob a_self 5 [Value.ref a_values, Value.int m_count_6z], ia cI a_values n_values m_values_6z, ob a_p1 5 [Value.ref a_p1_values, Value.int m_p1_count], ia cI a_p1_values n_p1_values m_p1_values] H locs → ∀ ls : Array Slot, lv_has ls 3 [] → W p l e (headSpec wsX5_copyFrom rmRow_copyFrom).room s m args below meth c H locs 0 0 Q (F0 m 30 ls []) := by
    intro m_count_6z m_values_6z he H locs hW ls hl
    obtain ⟨hz0, hy0⟩ := Prod.mk.inj he
    subst hz0
    subst hy0
    cases hF
    subst hQ
    exact ct_vret hx hb hr hlocks hW.1 hW.2.2 dX5_copyFrom_30
  have hL6 : ∀ (n6 : Nat) (x2_6 : Int32) (m_count_6 : Int32) (m_values_6 : Nat → Int32), itr (un3 (fRow_copyFrom_L6 n_values n_p1_values m_p1_count m_p1_values)) n6 (x2_6, m_count_6, m_values_6) = some (m_count_6ze, m_values_6ze) → ∀ (H : Heap) (locs : List Loc), WS D A s [ob a_self 5 [Value.ref a_values, Value.int m_count_6], ia cI a_values n_values m_values_6, ob a_p1 5 [Value.ref a_p1_values, Value.int m_p1_count], ia cI a_p1_values n_p1_values m_p1_values] H locs → ∀ ls : Array Slot, lv_has ls 3 [(0, .ref a_self), (1, .ref a_p1), (2, .int x2_6)] → W p l e (headSpec wsX5_copyFrom rmRow_copyFrom).room s m args below meth c H locs 0 0 Q (F0 m 6 ls []) := by
    intro n6
    induction n6 with
    | zero => intro x2_6 m_count_6 m_values_6 hI; cases hI
    | succ n6 ih6 =>
      intro x2_6 m_count_6 m_values_6 hI H locs hW ls hl
      obtain ⟨sr6, hF, hN6⟩ := itr_succ hI
      have hF : fRow_copyFrom_L6 n_values n_p1_values m_p1_count m_p1_values x2_6 m_count_6 m_values_6 = some sr6 := hF
      unfold fRow_copyFrom_L6 at hF
      refine lv_iload_n hx hb dX5_copyFrom_6 rfl (lv_at hl 2 rfl) ?_
      refine lv_aload_n hx hb dX5_copyFrom_7 rfl (lv_at hl 1 rfl) ?_
      refine va_get (D := D) (ci := 5) (v := .int m_p1_count) (C := RX5) (T := TX5) (N := 2) hx hb hts hi5 hown hK.1 hW.1 2 rfl rfl 1 (by decide) hw0 (fun _ h9 => h9) rfl dX5_copyFrom_8 ?_
      refine lv_icmp_ge (tgt := 30) hx hb dX5_copyFrom_11 (by decide) (fun c11 => ?_) (fun c11 => ?_)
      · rw [if_pos c11] at hF
        cases hF
        exact hX6 _ _ (itr_out hN6) _ _ hW _ (lv_sub hl [] rfl)
      · rw [if_neg c11] at hF
        refine lv_aload_n hx hb dX5_copyFrom_14 rfl (lv_at hl 0 rfl) ?_
        refine lv_aload_n hx hb dX5_copyFrom_15 rfl (lv_at hl 1 rfl) ?_
        refine va_get (D := D) (ci := 5) (v := .ref a_p1_values) (C := RX5) (T := TX5) (N := 2) hx hb hts hi5 hown hK.1 hW.1 2 rfl rfl 0 (by decide) hw1 (fun _ h9 => h9) rfl dX5_copyFrom_16 ?_
        refine lv_iload_n hx hb dX5_copyFrom_19 rfl (lv_at hl 2 rfl) ?_
        obtain ⟨g20, hF⟩ := gdI_some hF
        refine va_iald hx hb hK.1 hW.1 3 0 rfl rfl g20 dX5_copyFrom_20 ?_
        obtain ⟨m_count_21, m_values_21, e21, hF⟩ := bd2_some hF
        refine ctV (wn := [ob a_self 5 [Value.ref a_values, Value.int m_count_21], ia cI a_values n_values m_values_21, ob a_p1 5 [Value.ref a_p1_values, Value.int m_p1_count], ia cI a_p1_values n_p1_values m_p1_values]) (r := (RX5, TX5, 2)) (As := [.int (m_p1_values x2_6.toNatClampNeg)]) (rest := []) hx hb hml hown hts hK hW hA hl.1 (kRow_add l D cI cZ cO cG a_self a_values n_values m_count_6 m_values_6 (m_p1_values x2_6.toNatClampNeg) e21) (cwV 1 hts gX5_copyFrom_X5_add rfl rfl rfl (by decide +kernel) ⟨Nat.le_of_ble_eq_true rfl, Nat.le_of_ble_eq_true rfl⟩) 5 0 rfl rfl [0, 1] [2, 3] 4 rfl rfl rfl rfl [ob a_p1 5 [Value.ref a_p1_values, Value.int m_p1_count], ia cI a_p1_values n_p1_values m_p1_values] rfl rfl rfl rfl rfl (Nat.le_of_ble_eq_true rfl) rfl ⟨Nat.zero_le _, Nat.zero_le _⟩ dX5_copyFrom_21 (fun H locs hW => ?_)
        refine lv_iinc (v := (x2_6 + 1)) (lv' := [(2, .int (x2_6 + 1)), (0, .ref a_self), (1, .ref a_p1)]) hx hb dX5_copyFrom_24 hl (k := 2) rfl rfl (by decide) rfl (fun ls hl => ?_)
        refine lv_goto (tgt := 6) hx hb dX5_copyFrom_27 (by decide) ?_
        cases hF
        exact ih6 _ _ _ (itr_in hN6) _ _ hW _ (lv_sub hl [1, 2, 0] rfl)
  exact hL6 nn _ _ _ hI _ _ hW _ (lv_sub hl [1, 2, 0] rfl)
