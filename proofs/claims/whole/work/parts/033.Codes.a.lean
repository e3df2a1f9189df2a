abbrev rmCodes_countLengths : Room := { frames := 0, cells := 0, slots := 0, locals := 0 }
set_option maxHeartbeats 4000000 in
set_option maxRecDepth 100000 in
theorem kCodes_countLengths (l : Launch) (D : va_G) (cI cZ cO cG : ClassId) (a_self : Nat) (a_lengths : Nat) (a_codes : Nat) (a_counts : Nat) (a_firsts : Nat) (a_nexts : Nat) (m_kinds : Int32) (m_filled : Int32) (m_lengths : Nat → Int32) (m_counts : Nat → Int32) {m_filled' : Int32} {m_counts' : Nat → Int32} (hF : fCodes_countLengths m_kinds m_lengths m_counts = some (m_filled', m_counts')) : CT l yX0_countLengths wsX0_countLengths rmCodes_countLengths D (tysG cI cZ cO cG) [.ref a_self] [ob a_self 0 [Value.ref a_lengths, Value.ref a_codes, Value.ref a_counts, Value.ref a_firsts, Value.ref a_nexts, Value.int m_kinds, Value.int m_filled], ia cI a_lengths 258 m_lengths, ia cI a_counts 21 m_counts] none [ob a_self 0 [Value.ref a_lengths, Value.ref a_codes, Value.ref a_counts, Value.ref a_firsts, Value.ref a_nexts, Value.int m_kinds, Value.int m_filled'], ia cI a_lengths 258 m_lengths, ia cI a_counts 21 m_counts'] := by
  refine CT.of (cc := cX0_countLengths) (maxL := 3) (ret := none) (by decide) rfl (Nat.le_of_ble_eq_true rfl) ?_
  intro p e s m below meth c A ls hx hb hr hml hts hown hlocks hK hA hP hD hS hl
  generalize hargs : ([.ref a_self] : List Value).toArray = args at hts ⊢
  generalize hQ : MQ below (ctQ D none [ob a_self 0 [Value.ref a_lengths, Value.ref a_codes, Value.ref a_counts, Value.ref a_firsts, Value.ref a_nexts, Value.int m_kinds, Value.int m_filled'], ia cI a_lengths 258 m_lengths, ia cI a_counts 21 m_counts'] A) args s 0 0 A = Q
  have hl : lv_has ls 3 [(0, .ref a_self)] := hl
  have hW : WS D A s [ob a_self 0 [Value.ref a_lengths, Value.ref a_codes, Value.ref a_counts, Value.ref a_firsts, Value.ref a_nexts, Value.int m_kinds, Value.int m_filled], ia cI a_lengths 258 m_lengths, ia cI a_counts 21 m_counts] s.heap [] := ⟨hP, hD, hS⟩
  clear hP hD hS
  unfold fCodes_countLengths at hF
  have hw0 := hts (Cond.fieldLink RX0 31 "MoveFronts$Codes" "filled" "I") (by decide +kernel)
  have hw1 := hts (Cond.fieldLink RX0 27 "MoveFronts$Codes" "kinds" "I") (by decide +kernel)
  have hw2 := hts (Cond.fieldLink RX0 9 "MoveFronts$Codes" "lengths" "[I") (by decide +kernel)
  have hw3 := hts (Cond.fieldLink RX0 18 "MoveFronts$Codes" "counts" "[I") (by decide +kernel)
  have hi0 : ∀ w ∈ u_ws RX0 TX0 7, w ∈ wsX0_countLengths := by decide +kernel
  refine lv_aload_n hx hb dX0_countLengths_0 rfl (lv_at hl 0 rfl) ?_
  refine lv_iconst (v := 0) hx hb dX0_countLengths_1 (by decide) ?_
  refine va_put (D := D) (ci := 0) (v := .int (0 : Int32)) (ty := .int) (C := RX0) (T := TX0) (N := 7) hx hb hts hi0 tyX0 tyX0_ok nmX0 hown hK.1 hW.1 hW.2.1 hW.2.2 0 rfl rfl 6 (by decide) hw0 (fun _ h9 => h9) rfl (by decide +kernel) rfl rfl (Nat.le_of_ble_eq_true rfl) dX0_countLengths_2 (fun H locs hP hD hS => ?_)
  have hW : WS D A s [ob a_self 0 [Value.ref a_lengths, Value.ref a_codes, Value.ref a_counts, Value.ref a_firsts, Value.ref a_nexts, Value.int m_kinds, Value.int (0 : Int32)], ia cI a_lengths 258 m_lengths, ia cI a_counts 21 m_counts] H locs := ⟨hP, hD, hS⟩
  refine lv_iconst (v := 0) hx hb dX0_countLengths_5 (by decide) ?_
  refine lv_istore_n (lv' := [(1, .int (0 : Int32)), (0, .ref a_self)]) hx hb dX0_countLengths_6 rfl hl (by decide) rfl (fun ls hl => ?_)
  obtain ⟨m_counts_7ze, hI, hF⟩ := bd1_some hF
  obtain ⟨nn, hI⟩ := itrO_some hI
  have hX7 : ∀ (m_counts_7z : Nat → Int32), m_counts_7z = m_counts_7ze → ∀ (H : Heap) (locs : List Loc), WS D A s [ob a_self 0 [Value.ref a_lengths, Value.ref a_codes, Value.ref a_counts, Value.ref a_firsts, Value.ref a_nexts, Value.int m_kinds, Value.int (0 : Int32)], ia cI a_lengths 258 m_lengths, ia cI a_counts 21 m_counts_7z] H locs → ∀ ls : Array Slot, lv_has ls 3 [(0, .ref a_self)] → W p l e (headSpec wsX0_countLengths rmCodes_countLengths).room s m args below meth c H locs 0 0 Q (F0 m 26 ls []) := by
    intro m_counts_7z he H locs hW ls hl
    subst he
    refine lv_iconst (v := 0) hx hb dX0_countLengths_26 (by decide) ?_
    refine lv_istore_n (lv' := [(1, .int (0 : Int32)), (0, .ref a_self)]) hx hb dX0_countLengths_27 rfl hl (by decide) rfl (fun ls hl => ?_)
    obtain ⟨m_filled_28ze, m_counts_28ze, hI, hF⟩ := bd2_some hF
    obtain ⟨nn, hI⟩ := itrO_some hI
    have hX28 : ∀ (m_filled_28z : Int32) (m_counts_28z : Nat → Int32), (m_filled_28z, m_counts_28z) = (m_filled_28ze, m_counts_28ze) → ∀ (H : Heap) (locs : List Loc), WS D A s [ob a_self 0 [Value.ref a_lengths, Value.ref a_codes, Value.ref a_counts, Value.ref a_firsts, Value.ref a_nexts, Value.int m_kinds, Value.int m_filled_28z], ia cI a_lengths 258 m_lengths, ia cI a_counts 21 m_counts_28z] H locs → ∀ ls : Array Slot, lv_has ls 3 [] → W p l e (headSpec wsX0_countLengths rmCodes_countLengths).room s m args below meth c H locs 0 0 Q (F0 m 74 ls []) := by
      intro m_filled_28z m_counts_28z he H locs hW ls hl
      obtain ⟨hz0, hy0⟩ := Prod.mk.inj he
      subst hz0
      subst hy0
      cases hF
      subst hQ
      exact ct_vret hx hb hr hlocks hW.1 hW.2.2 dX0_countLengths_74
    have hL28 : ∀ (n28 : Nat) (x1_28 : Int32) (m_filled_28 : Int32) (m_counts_28 : Nat → Int32), itr (un3 (fCodes_countLengths_L28 m_kinds m_lengths)) n28 (x1_28, m_filled_28, m_counts_28) = some (m_filled_28ze, m_counts_28ze) → ∀ (H : Heap) (locs : List Loc), WS D A s [ob a_self 0 [Value.ref a_lengths, Value.ref a_codes, Value.ref a_counts, Value.ref a_firsts, Value.ref a_nexts, Value.int m_kinds, Value.int m_filled_28], ia cI a_lengths 258 m_lengths, ia cI a_counts 21 m_counts_28] H locs → ∀ ls : Array Slot, lv_has ls 3 [(0, .ref a_self), (1, .int x1_28)] → W p l e (headSpec wsX0_countLengths rmCodes_countLengths).room s m args below meth c H locs 0 0 Q (F0 m 28 ls []) := by
      intro n28
      induction n28 with
      | zero => intro x1_28 m_filled_28 m_counts_28 hI; cases hI
      | succ n28 ih28 =>
        intro x1_28 m_filled_28 m_counts_28 hI H locs hW ls hl
        obtain ⟨sr28, hF, hN28⟩ := itr_succ hI
        have hF : fCodes_countLengths_L28 m_kinds m_lengths x1_28 m_filled_28 m_counts_28 = some sr28 := hF
        unfold fCodes_countLengths_L28 at hF
        refine lv_iload_n hx hb dX0_countLengths_28 rfl (lv_at hl 1 rfl) ?_
        refine lv_aload_n hx hb dX0_countLengths_29 rfl (lv_at hl 0 rfl) ?_
        refine va_get (D := D) (ci := 0) (v := .int m_kinds) (C := RX0) (T := TX0) (N := 7) hx hb hts hi0 hown hK.1 hW.1 0 rfl rfl 5 (by decide) hw1 (fun _ h9 => h9) rfl dX0_countLengths_30 ?_
        refine lv_icmp_ge (tgt := 74) hx hb dX0_countLengths_33 (by decide) (fun c33 => ?_) (fun c33 => ?_)
        · rw [if_pos c33] at hF
          cases hF
          exact hX28 _ _ (itr_out hN28) _ _ hW _ (lv_sub hl [] rfl)
        · rw [if_neg c33] at hF
          refine lv_aload_n hx hb dX0_countLengths_36 rfl (lv_at hl 0 rfl) ?_
          refine va_get (D := D) (ci := 0) (v := .ref a_lengths) (C := RX0) (T := TX0) (N := 7) hx hb hts hi0 hown hK.1 hW.1 0 rfl rfl 0 (by decide) hw2 (fun _ h9 => h9) rfl dX0_countLengths_37 ?_
          refine lv_iload_n hx hb dX0_countLengths_40 rfl (lv_at hl 1 rfl) ?_
          obtain ⟨g41, hF⟩ := gdI_some hF
          refine va_iald hx hb hK.1 hW.1 1 0 rfl rfl g41 dX0_countLengths_41 ?_
          refine lv_istore_n (lv' := [(2, .int (m_lengths x1_28.toNatClampNeg)), (0, .ref a_self), (1, .int x1_28)]) hx hb dX0_countLengths_42 rfl hl (by decide) rfl (fun ls hl => ?_)
          refine lv_aload_n hx hb dX0_countLengths_43 rfl (lv_at hl 1 rfl) ?_
          refine va_get (D := D) (ci := 0) (v := .ref a_counts) (C := RX0) (T := TX0) (N := 7) hx hb hts hi0 hown hK.1 hW.1 0 rfl rfl 2 (by decide) hw3 (fun _ h9 => h9) rfl dX0_countLengths_44 ?_
          refine lv_iload_n hx hb dX0_countLengths_47 rfl (lv_at hl 0 rfl) ?_
          refine lv_dup2_11 hx hb dX0_countLengths_48 rfl rfl ?_
          obtain ⟨g49, hF⟩ := gdI_some hF
          refine va_iald hx hb hK.1 hW.1 2 0 rfl rfl g49 dX0_countLengths_49 ?_
          refine lv_iconst (v := 1) hx hb dX0_countLengths_50 (by decide) ?_
          refine lv_iadd hx hb dX0_countLengths_51 ?_
          obtain ⟨g52, hF⟩ := gdI_some hF
          refine va_iast hx hb hK.1 hW.1 hW.2.1 hW.2.2 2 0 rfl rfl g52 dX0_countLengths_52 (fun H locs hP hD hS => ?_)
          have hW : WS D A s [ob a_self 0 [Value.ref a_lengths, Value.ref a_codes, Value.ref a_counts, Value.ref a_firsts, Value.ref a_nexts, Value.int m_kinds, Value.int m_filled_28], ia cI a_lengths 258 m_lengths, ia cI a_counts 21 (upd m_counts_28 (m_lengths x1_28.toNatClampNeg).toNatClampNeg ((m_counts_28 (m_lengths x1_28.toNatClampNeg).toNatClampNeg) + (1 : Int32)))] H locs := ⟨hP, hD, hS⟩
          refine lv_aload_n hx hb dX0_countLengths_53 rfl (lv_at hl 1 rfl) ?_
          refine lv_dup hx hb dX0_countLengths_54 rfl ?_
          refine va_get (D := D) (ci := 0) (v := .int m_filled_28) (C := RX0) (T := TX0) (N := 7) hx hb hts hi0 hown hK.1 hW.1 0 rfl rfl 6 (by decide) hw0 (fun _ h9 => h9) rfl dX0_countLengths_55 ?_
          refine lv_iconst (v := 1) hx hb dX0_countLengths_58 (by decide) ?_
          refine lv_bipush (v := 20) hx hb dX0_countLengths_59 (by decide) ?_
          refine lv_iload_n hx hb dX0_countLengths_61 rfl (lv_at hl 0 rfl) ?_
          refine lv_isub hx hb dX0_countLengths_62 ?_
          refine lv_ishl hx hb dX0_countLengths_63 ?_
          refine lv_iadd hx hb dX0_countLengths_64 ?_
          refine va_put (D := D) (ci := 0) (v := .int (m_filled_28 + ((1 : Int32) <<< (((20 : Int32) - (m_lengths x1_28.toNatClampNeg)) &&& 31)))) (ty := .int) (C := RX0) (T := TX0) (N := 7) hx hb hts hi0 tyX0 tyX0_ok nmX0 hown hK.1 hW.1 hW.2.1 hW.2.2 0 rfl rfl 6 (by decide) hw0 (fun _ h9 => h9) rfl (by decide +kernel) rfl rfl (Nat.le_of_ble_eq_true rfl) dX0_countLengths_65 (fun H locs hP hD hS => ?_)
          have hW : WS D A s [ob a_self 0 [Value.ref a_lengths, Value.ref a_codes, Value.ref a_counts, Value.ref a_firsts, Value.ref a_nexts, Value.int m_kinds, Value.int (m_filled_28 + ((1 : Int32) <<< (((20 : Int32) - (m_lengths x1_28.toNatClampNeg)) &&& 31)))], ia cI a_lengths 258 m_lengths, ia cI a_counts 21 (upd m_counts_28 (m_lengths x1_28.toNatClampNeg).toNatClampNeg ((m_counts_28 (m_lengths x1_28.toNatClampNeg).toNatClampNeg) + (1 : Int32)))] H locs := ⟨hP, hD, hS⟩
          refine lv_iinc (v := (x1_28 + 1)) (lv' := [(1, .int (x1_28 + 1)), (2, .int (m_lengths x1_28.toNatClampNeg)), (0, .ref a_self)]) hx hb dX0_countLengths_68 hl (k := 2) rfl rfl (by decide) rfl (fun ls hl => ?_)
          refine lv_goto (tgt := 28) hx hb dX0_countLengths_71 (by decide) ?_
          cases hF
          exact ih28 _ _ _ (itr_in hN28) _ _ hW _ (lv_sub hl [2, 0] rfl)
    exact hL28 nn _ _ _ hI _ _ hW _ (lv_sub hl [1, 0] rfl)
  have hL7 : ∀ (n7 : Nat) (x1_7 : Int32) (m_counts_7 : Nat → Int32), itr (un2 (fCodes_countLengths_L7)) n7 (x1_7, m_counts_7) = some m_counts_7ze → ∀ (H : Heap) (locs : List Loc), WS D A s [ob a_self 0 [Value.ref a_lengths, Value.ref a_codes, Value.ref a_counts, Value.ref a_firsts, Value.ref a_nexts, Value.int m_kinds, Value.int (0 : Int32)], ia cI a_lengths 258 m_lengths, ia cI a_counts 21 m_counts_7] H locs → ∀ ls : Array Slot, lv_has ls 3 [(0, .ref a_self), (1, .int x1_7)] → W p l e (headSpec wsX0_countLengths rmCodes_countLengths).room s m args below meth c H locs 0 0 Q (F0 m 7 ls []) := by
    intro n7
    induction n7 with
    | zero => intro x1_7 m_counts_7 hI; cases hI
    | succ n7 ih7 =>
      intro x1_7 m_counts_7 hI H locs hW ls hl
      obtain ⟨sr7, hF, hN7⟩ := itr_succ hI
      have hF : fCodes_countLengths_L7 x1_7 m_counts_7 = some sr7 := hF
      unfold fCodes_countLengths_L7 at hF
      refine lv_iload_n hx hb dX0_countLengths_7 rfl (lv_at hl 1 rfl) ?_
      refine lv_bipush (v := 20) hx hb dX0_countLengths_8 (by decide) ?_
      refine lv_icmp_gt (tgt := 26) hx hb dX0_countLengths_10 (by decide) (fun c10 => ?_) (fun c10 => ?_)
      · rw [if_pos c10] at hF
        cases hF
        exact hX7 _ (itr_out hN7) _ _ hW _ (lv_sub hl [0] rfl)
      · rw [if_neg c10] at hF
        refine lv_aload_n hx hb dX0_countLengths_13 rfl (lv_at hl 0 rfl) ?_
        refine va_get (D := D) (ci := 0) (v := .ref a_counts) (C := RX0) (T := TX0) (N := 7) hx hb hts hi0 hown hK.1 hW.1 0 rfl rfl 2 (by decide) hw3 (fun _ h9 => h9) rfl dX0_countLengths_14 ?_
        refine lv_iload_n hx hb dX0_countLengths_17 rfl (lv_at hl 1 rfl) ?_
        refine lv_iconst (v := 0) hx hb dX0_countLengths_18 (by decide) ?_
        obtain ⟨g19, hF⟩ := gdI_some hF
        refine va_iast hx hb hK.1 hW.1 hW.2.1 hW.2.2 2 0 rfl rfl g19 dX0_countLengths_19 (fun H locs hP hD hS => ?_)
        have hW : WS D A s [ob a_self 0 [Value.ref a_lengths, Value.ref a_codes, Value.ref a_counts, Value.ref a_firsts, Value.ref a_nexts, Value.int m_kinds, Value.int (0 : Int32)], ia cI a_lengths 258 m_lengths, ia cI a_counts 21 (upd m_counts_7 x1_7.toNatClampNeg (0 : Int32))] H locs := ⟨hP, hD, hS⟩
        refine lv_iinc (v := (x1_7 + 1)) (lv' := [(1, .int (x1_7 + 1)), (0, .ref a_self)]) hx hb dX0_countLengths_20 hl (k := 1) rfl rfl (by decide) rfl (fun ls hl => ?_)
        refine lv_goto (tgt := 7) hx hb dX0_countLengths_23 (by decide) ?_
        cases hF
        exact ih7 _ _ (itr_in hN7) _ _ hW _ (lv_sub hl [1, 0] rfl)
  exact hL7 nn _ _ hI _ _ hW _ (lv_sub hl [1, 0] rfl)
abbrev rmCodes_settle : Room := { frames := 1, cells := 0, slots := 0, locals := 22 }
set_option maxHeartbeats 4000000 in
set_option maxRecDepth 100000 in
theorem kCodes_settle (l : Launch) (D : va_G) (cI cZ cO cG : ClassId) (a_self : Nat) (a_lengths : Nat) (a_codes : Nat) (a_counts : Nat) (a_firsts : Nat) (a_nexts : Nat) (m_kinds : Int32) (m_filled : Int32) (m_lengths : Nat → Int32) (m_codes : Nat → Int32) (m_counts : Nat → Int32) (m_firsts : Nat → Int32) (m_nexts : Nat → Int32) (x1 : Int32) {rv : Int32} {m_kinds' : Int32} {m_filled' : Int32} {m_codes' : Nat → Int32} {m_counts' : Nat → Int32} {m_firsts' : Nat → Int32} {m_nexts' : Nat → Int32} (hF : fCodes_settle m_lengths m_codes m_counts m_firsts m_nexts x1 = some (rv, m_kinds', m_filled', m_codes', m_counts', m_firsts', m_nexts')) : CT l yX0_settle wsX0_settle rmCodes_settle D (tysG cI cZ cO cG) [.ref a_self, .int x1] [ob a_self 0 [Value.ref a_lengths, Value.ref a_codes, Value.ref a_counts, Value.ref a_firsts, Value.ref a_nexts, Value.int m_kinds, Value.int m_filled], ia cI a_lengths 258 m_lengths, ia cI a_codes 258 m_codes, ia cI a_counts 21 m_counts, ia cI a_firsts 21 m_firsts, ia cI a_nexts 21 m_nexts] (some (.int rv)) [ob a_self 0 [Value.ref a_lengths, Value.ref a_codes, Value.ref a_counts, Value.ref a_firsts, Value.ref a_nexts, Value.int m_kinds', Value.int m_filled'], ia cI a_lengths 258 m_lengths, ia cI a_codes 258 m_codes', ia cI a_counts 21 m_counts', ia cI a_firsts 21 m_firsts', ia cI a_nexts 21 m_nexts'] := by
  refine CT.of (cc := cX0_settle) (maxL := 5) (ret := (some .boolean)) (by decide) rfl (Nat.le_of_ble_eq_true rfl) ?_
  intro p e s m below meth c A ls hx hb hr hml hts hown hlocks hK hA hP hD hS hl
  generalize hargs : ([.ref a_self, .int x1] : List Value).toArray = args at hts ⊢
  generalize hQ : MQ below (ctQ D (some (.int rv)) [ob a_self 0 [Value.ref a_lengths, Value.ref a_codes, Value.ref a_counts, Value.ref a_firsts, Value.ref a_nexts, Value.int m_kinds', Value.int m_filled'], ia cI a_lengths 258 m_lengths, ia cI a_codes 258 m_codes', ia cI a_counts 21 m_counts', ia cI a_firsts 21 m_firsts', ia cI a_nexts 21 m_nexts'] A) args s 0 0 A = Q
  have hl : lv_has ls 5 [(0, .ref a_self), (1, .int x1)] := hl
  have hW : WS D A s [ob a_self 0 [Value.ref a_lengths, Value.ref a_codes, Value.ref a_counts, Value.ref a_firsts, Value.ref a_nexts, Value.int m_kinds, Value.int m_filled], ia cI a_lengths 258 m_lengths, ia cI a_codes 258 m_codes, ia cI a_counts 21 m_counts, ia cI a_firsts 21 m_firsts, ia cI a_nexts 21 m_nexts] s.heap [] := ⟨hP, hD, hS⟩
  clear hP hD hS
  unfold fCodes_settle at hF
  have hw0 := hts (Cond.methodLink RX0 34 Lib.Math.min.name) (by decide +kernel)
  have hw1 := hts (Cond.static Lib.Math.min.name) (by decide +kernel)
  have hw2 := hts (Cond.initialized "java/lang/Math") (by decide +kernel)
  have hw3 := hts (Cond.code Lib.Math.min.name Lib.Math.min.code 2 (some .int)) (by decide +kernel)
  have hw4 := hts (Cond.fieldLink RX0 27 "MoveFronts$Codes" "kinds" "I") (by decide +kernel)
  have hw5 := hts (Cond.fieldLink RX0 31 "MoveFronts$Codes" "filled" "I") (by decide +kernel)
  have hw6 := hts (Cond.constant RX0 43 1048576) (by decide +kernel)
  have hw7 := hts (Cond.fieldLink RX0 9 "MoveFronts$Codes" "lengths" "[I") (by decide +kernel)
  have hw8 := hts (Cond.fieldLink RX0 15 "MoveFronts$Codes" "codes" "[I") (by decide +kernel)
  have hw9 := hts (Cond.fieldLink RX0 24 "MoveFronts$Codes" "nexts" "[I") (by decide +kernel)
  have hw10 := hts (Cond.fieldLink RX0 21 "MoveFronts$Codes" "firsts" "[I") (by decide +kernel)
  have hw11 := hts (Cond.fieldLink RX0 18 "MoveFronts$Codes" "counts" "[I") (by decide +kernel)
  have hi0 : ∀ w ∈ u_ws RX0 TX0 7, w ∈ wsX0_settle := by decide +kernel
  refine lv_aload_n hx hb dX0_settle_0 rfl (lv_at hl 0 rfl) ?_
  refine lv_iload_n hx hb dX0_settle_1 rfl (lv_at hl 1 rfl) ?_
  refine lv_sipush (v := 258) hx hb dX0_settle_2 (by decide) ?_
  refine va_mmin hx hb (by rw [hml]; exact hl.1.symm) hown hw0 hw1 hw2 hw3 (Nat.le_of_ble_eq_true rfl) (Nat.le_of_ble_eq_true rfl) (Nat.zero_le _) (Nat.zero_le _) dX0_settle_5 ?_
  refine va_put (D := D) (ci := 0) (v := .int (if (258 : Int32) < x1 then (258 : Int32) else x1)) (ty := .int) (C := RX0) (T := TX0) (N := 7) hx hb hts hi0 tyX0 tyX0_ok nmX0 hown hK.1 hW.1 hW.2.1 hW.2.2 0 rfl rfl 5 (by decide) hw4 (fun _ h9 => h9) rfl (by decide +kernel) rfl rfl (Nat.le_of_ble_eq_true rfl) dX0_settle_8 (fun H locs hP hD hS => ?_)
  have hW : WS D A s [ob a_self 0 [Value.ref a_lengths, Value.ref a_codes, Value.ref a_counts, Value.ref a_firsts, Value.ref a_nexts, Value.int (if (258 : Int32) < x1 then (258 : Int32) else x1), Value.int m_filled], ia cI a_lengths 258 m_lengths, ia cI a_codes 258 m_codes, ia cI a_counts 21 m_counts, ia cI a_firsts 21 m_firsts, ia cI a_nexts 21 m_nexts] H locs := ⟨hP, hD, hS⟩
  refine lv_aload_n hx hb dX0_settle_11 rfl (lv_at hl 0 rfl) ?_
  obtain ⟨m_filled_12, m_counts_12, e12, hF⟩ := bd2_some hF
  refine ctV (wn := [ob a_self 0 [Value.ref a_lengths, Value.ref a_codes, Value.ref a_counts, Value.ref a_firsts, Value.ref a_nexts, Value.int (if (258 : Int32) < x1 then (258 : Int32) else x1), Value.int m_filled_12], ia cI a_lengths 258 m_lengths, ia cI a_codes 258 m_codes, ia cI a_counts 21 m_counts_12, ia cI a_firsts 21 m_firsts, ia cI a_nexts 21 m_nexts]) (r := (RX0, TX0, 7)) (As := []) (rest := []) hx hb hml hown hts hK hW hA hl.1 (kCodes_countLengths l D cI cZ cO cG a_self a_lengths a_codes a_counts a_firsts a_nexts (if (258 : Int32) < x1 then (258 : Int32) else x1) m_filled m_lengths m_counts e12) (cwV 0 hts gX0_settle_X0_countLengths rfl rfl rfl (by decide +kernel) ⟨Nat.le_of_ble_eq_true rfl, Nat.le_of_ble_eq_true rfl⟩) 0 0 rfl rfl [0, 1, 3] [2, 4, 5] 6 rfl rfl rfl rfl [ia cI a_codes 258 m_codes, ia cI a_firsts 21 m_firsts, ia cI a_nexts 21 m_nexts] rfl rfl rfl rfl rfl (Nat.le_of_ble_eq_true rfl) rfl ⟨Nat.zero_le _, Nat.zero_le _⟩ dX0_settle_12 (fun H locs hW => ?_)
  refine lv_aload_n hx hb dX0_settle_15 rfl (lv_at hl 0 rfl) ?_
  refine va_get (D := D) (ci := 0) (v := .int m_filled_12) (C := RX0) (T := TX0) (N := 7) hx hb hts hi0 hown hK.1 hW.1 0 rfl rfl 6 (by decide) hw5 (fun _ h9 => h9) rfl dX0_settle_16 ?_
  refine lv_ldc (v := 1048576) hx hb hown hw6 dX0_settle_19 ?_
  refine lv_icmp_le (tgt := 26) hx hb dX0_settle_21 (by decide) (fun c21 => ?_) (fun c21 => ?_)
  · rw [if_pos c21] at hF
    refine lv_iconst (v := 0) hx hb dX0_settle_26 (by decide) ?_
    refine lv_istore_n (lv' := [(2, .int (0 : Int32)), (0, .ref a_self), (1, .int x1)]) hx hb dX0_settle_27 rfl hl (by decide) rfl (fun ls hl => ?_)
    refine lv_iconst (v := 1) hx hb dX0_settle_28 (by decide) ?_
    refine lv_istore_n (lv' := [(3, .int (1 : Int32)), (2, .int (0 : Int32)), (0, .ref a_self), (1, .int x1)]) hx hb dX0_settle_29 rfl hl (by decide) rfl (fun ls hl => ?_)
    obtain ⟨m_firsts_30ze, m_nexts_30ze, hI, hF⟩ := bd2_some hF
    obtain ⟨nn, hI⟩ := itrO_some hI
    have hX30 : ∀ (m_firsts_30z : Nat → Int32) (m_nexts_30z : Nat → Int32), (m_firsts_30z, m_nexts_30z) = (m_firsts_30ze, m_nexts_30ze) → ∀ (H : Heap) (locs : List Loc), WS D A s [ob a_self 0 [Value.ref a_lengths, Value.ref a_codes, Value.ref a_counts, Value.ref a_firsts, Value.ref a_nexts, Value.int (if (258 : Int32) < x1 then (258 : Int32) else x1), Value.int m_filled_12], ia cI a_lengths 258 m_lengths, ia cI a_codes 258 m_codes, ia cI a_counts 21 m_counts_12, ia cI a_firsts 21 m_firsts_30z, ia cI a_nexts 21 m_nexts_30z] H locs → ∀ ls : Array Slot, lv_has ls 5 [(0, .ref a_self)] → W p l e (headSpec wsX0_settle rmCodes_settle).room s m args below meth c H locs 0 0 Q (F0 m 67 ls []) := by
      intro m_firsts_30z m_nexts_30z he H locs hW ls hl
      obtain ⟨hz0, hy0⟩ := Prod.mk.inj he
      subst hz0
      subst hy0
      refine lv_iconst (v := 0) hx hb dX0_settle_67 (by decide) ?_
      refine lv_istore_n (lv' := [(3, .int (0 : Int32)), (0, .ref a_self)]) hx hb dX0_settle_68 rfl hl (by decide) rfl (fun ls hl => ?_)
      obtain ⟨m_codes_69ze, m_nexts_69ze, hI, hF⟩ := bd2_some hF
      obtain ⟨nn, hI⟩ := itrO_some hI
      have hX69 : ∀ (m_codes_69z : Nat → Int32) (m_nexts_69z : Nat → Int32), (m_codes_69z, m_nexts_69z) = (m_codes_69ze, m_nexts_69ze) → ∀ (H : Heap) (locs : List Loc), WS D A s [ob a_self 0 [Value.ref a_lengths, Value.ref a_codes, Value.ref a_counts, Value.ref a_firsts, Value.ref a_nexts, Value.int (if (258 : Int32) < x1 then (258 : Int32) else x1), Value.int m_filled_12], ia cI a_lengths 258 m_lengths, ia cI a_codes 258 m_codes_69z, ia cI a_counts 21 m_counts_12, ia cI a_firsts 21 m_firsts_30z, ia cI a_nexts 21 m_nexts_69z] H locs → ∀ ls : Array Slot, lv_has ls 5 [] → W p l e (headSpec wsX0_settle rmCodes_settle).room s m args below meth c H locs 0 0 Q (F0 m 115 ls []) := by
        intro m_codes_69z m_nexts_69z he H locs hW ls hl
        obtain ⟨hz0, hy0⟩ := Prod.mk.inj he
        subst hz0
        subst hy0
        refine lv_iconst (v := 1) hx hb dX0_settle_115 (by decide) ?_
        cases hF
        subst hQ
        exact ct_zret hx hb hr hlocks rfl hW.1 hW.2.2 dX0_settle_116
      have hL69 : ∀ (n69 : Nat) (x3_69 : Int32) (m_codes_69 : Nat → Int32) (m_nexts_69 : Nat → Int32), itr (un3 (fCodes_settle_L69 m_lengths x1)) n69 (x3_69, m_codes_69, m_nexts_69) = some (m_codes_69ze, m_nexts_69ze) → ∀ (H : Heap) (locs : List Loc), WS D A s [ob a_self 0 [Value.ref a_lengths, Value.ref a_codes, Value.ref a_counts, Value.ref a_firsts, Value.ref a_nexts, Value.int (if (258 : Int32) < x1 then (258 : Int32) else x1), Value.int m_filled_12], ia cI a_lengths 258 m_lengths, ia cI a_codes 258 m_codes_69, ia cI a_counts 21 m_counts_12, ia cI a_firsts 21 m_firsts_30z, ia cI a_nexts 21 m_nexts_69] H locs → ∀ ls : Array Slot, lv_has ls 5 [(0, .ref a_self), (3, .int x3_69)] → W p l e (headSpec wsX0_settle rmCodes_settle).room s m args below meth c H locs 0 0 Q (F0 m 69 ls []) := by
        intro n69
        induction n69 with
        | zero => intro x3_69 m_codes_69 m_nexts_69 hI; cases hI
        | succ n69 ih69 =>
          intro x3_69 m_codes_69 m_nexts_69 hI H locs hW ls hl
          obtain ⟨sr69, hF, hN69⟩ := itr_succ hI
          have hF : fCodes_settle_L69 m_lengths x1 x3_69 m_codes_69 m_nexts_69 = some sr69 := hF
          unfold fCodes_settle_L69 at hF
          refine lv_iload_n hx hb dX0_settle_69 rfl (lv_at hl 1 rfl) ?_
          refine lv_aload_n hx hb dX0_settle_70 rfl (lv_at hl 0 rfl) ?_
          refine va_get (D := D) (ci := 0) (v := .int (if (258 : Int32) < x1 then (258 : Int32) else x1)) (C := RX0) (T := TX0) (N := 7) hx hb hts hi0 hown hK.1 hW.1 0 rfl rfl 5 (by decide) hw4 (fun _ h9 => h9) rfl dX0_settle_71 ?_
          refine lv_icmp_ge (tgt := 115) hx hb dX0_settle_74 (by decide) (fun c74 => ?_) (fun c74 => ?_)
          · rw [if_pos c74] at hF
            cases hF
            exact hX69 _ _ (itr_out hN69) _ _ hW _ (lv_sub hl [] rfl)
          · rw [if_neg c74] at hF
            refine lv_aload_n hx hb dX0_settle_77 rfl (lv_at hl 0 rfl) ?_
            refine va_get (D := D) (ci := 0) (v := .ref a_lengths) (C := RX0) (T := TX0) (N := 7) hx hb hts hi0 hown hK.1 hW.1 0 rfl rfl 0 (by decide) hw7 (fun _ h9 => h9) rfl dX0_settle_78 ?_
            refine lv_iload_n hx hb dX0_settle_81 rfl (lv_at hl 1 rfl) ?_
            obtain ⟨g82, hF⟩ := gdI_some hF
            refine va_iald hx hb hK.1 hW.1 1 0 rfl rfl g82 dX0_settle_82 ?_
            refine lv_istore (lv' := [(4, .int (m_lengths x3_69.toNatClampNeg)), (0, .ref a_self), (3, .int x3_69)]) hx hb dX0_settle_83 hl (by decide) rfl (fun ls hl => ?_)
            refine lv_aload_n hx hb dX0_settle_85 rfl (lv_at hl 1 rfl) ?_
            refine va_get (D := D) (ci := 0) (v := .ref a_codes) (C := RX0) (T := TX0) (N := 7) hx hb hts hi0 hown hK.1 hW.1 0 rfl rfl 1 (by decide) hw8 (fun _ h9 => h9) rfl dX0_settle_86 ?_
            refine lv_iload_n hx hb dX0_settle_89 rfl (lv_at hl 2 rfl) ?_
            refine lv_aload_n hx hb dX0_settle_90 rfl (lv_at hl 1 rfl) ?_
            refine va_get (D := D) (ci := 0) (v := .ref a_nexts) (C := RX0) (T := TX0) (N := 7) hx hb hts hi0 hown hK.1 hW.1 0 rfl rfl 4 (by decide) hw9 (fun _ h9 => h9) rfl dX0_settle_91 ?_
            refine lv_iload hx hb dX0_settle_94 (lv_at hl 0 rfl) ?_
            obtain ⟨g96, hF⟩ := gdI_some hF
            refine va_iald hx hb hK.1 hW.1 5 0 rfl rfl g96 dX0_settle_96 ?_
            obtain ⟨g97, hF⟩ := gdI_some hF
            refine va_iast hx hb hK.1 hW.1 hW.2.1 hW.2.2 2 0 rfl rfl g97 dX0_settle_97 (fun H locs hP hD hS => ?_)
            have hW : WS D A s [ob a_self 0 [Value.ref a_lengths, Value.ref a_codes, Value.ref a_counts, Value.ref a_firsts, Value.ref a_nexts, Value.int (if (258 : Int32) < x1 then (258 : Int32) else x1), Value.int m_filled_12], ia cI a_lengths 258 m_lengths, ia cI a_codes 258 (upd m_codes_69 x3_69.toNatClampNeg (m_nexts_69 (m_lengths x3_69.toNatClampNeg).toNatClampNeg)), ia cI a_counts 21 m_counts_12, ia cI a_firsts 21 m_firsts_30z, ia cI a_nexts 21 m_nexts_69] H locs := ⟨hP, hD, hS⟩
            refine lv_aload_n hx hb dX0_settle_98 rfl (lv_at hl 1 rfl) ?_
            refine va_get (D := D) (ci := 0) (v := .ref a_nexts) (C := RX0) (T := TX0) (N := 7) hx hb hts hi0 hown hK.1 hW.1 0 rfl rfl 4 (by decide) hw9 (fun _ h9 => h9) rfl dX0_settle_99 ?_
            refine lv_iload hx hb dX0_settle_102 (lv_at hl 0 rfl) ?_
            refine lv_dup2_11 hx hb dX0_settle_104 rfl rfl ?_
            obtain ⟨g105, hF⟩ := gdI_some hF
            refine va_iald hx hb hK.1 hW.1 5 0 rfl rfl g105 dX0_settle_105 ?_
            refine lv_iconst (v := 1) hx hb dX0_settle_106 (by decide) ?_
            refine lv_iadd hx hb dX0_settle_107 ?_
            obtain ⟨g108, hF⟩ := gdI_some hF
            refine va_iast hx hb hK.1 hW.1 hW.2.1 hW.2.2 5 0 rfl rfl g108 dX0_settle_108 (fun H locs hP hD hS => ?_)
            have hW : WS D A s [ob a_self 0 [Value.ref a_lengths, Value.ref a_codes, Value.ref a_counts, Value.ref a_firsts, Value.ref a_nexts, Value.int (if (258 : Int32) < x1 then (258 : Int32) else x1), Value.int m_filled_12], ia cI a_lengths 258 m_lengths, ia cI a_codes 258 (upd m_codes_69 x3_69.toNatClampNeg (m_nexts_69 (m_lengths x3_69.toNatClampNeg).toNatClampNeg)), ia cI a_counts 21 m_counts_12, ia cI a_firsts 21 m_firsts_30z, ia cI a_nexts 21 (upd m_nexts_69 (m_lengths x3_69.toNatClampNeg).toNatClampNeg ((m_nexts_69 (m_lengths x3_69.toNatClampNeg).toNatClampNeg) + (1 : Int32)))] H locs := ⟨hP, hD, hS⟩
            refine lv_iinc (v := (x3_69 + 1)) (lv' := [(3, .int (x3_69 + 1)), (4, .int (m_lengths x3_69.toNatClampNeg)), (0, .ref a_self)]) hx hb dX0_settle_109 hl (k := 2) rfl rfl (by decide) rfl (fun ls hl => ?_)
            refine lv_goto (tgt := 69) hx hb dX0_settle_112 (by decide) ?_
            cases hF
            exact ih69 _ _ _ (itr_in hN69) _ _ hW _ (lv_sub hl [2, 0] rfl)
      exact hL69 nn _ _ _ hI _ _ hW _ (lv_sub hl [1, 0] rfl)
    have hL30 : ∀ (n30 : Nat) (x2_30 : Int32) (x3_30 : Int32) (m_firsts_30 : Nat → Int32) (m_nexts_30 : Nat → Int32), itr (un4 (fCodes_settle_L30 m_counts_12)) n30 (x2_30, x3_30, m_firsts_30, m_nexts_30) = some (m_firsts_30ze, m_nexts_30ze) → ∀ (H : Heap) (locs : List Loc), WS D A s [ob a_self 0 [Value.ref a_lengths, Value.ref a_codes, Value.ref a_counts, Value.ref a_firsts, Value.ref a_nexts, Value.int (if (258 : Int32) < x1 then (258 : Int32) else x1), Value.int m_filled_12], ia cI a_lengths 258 m_lengths, ia cI a_codes 258 m_codes, ia cI a_counts 21 m_counts_12, ia cI a_firsts 21 m_firsts_30, ia cI a_nexts 21 m_nexts_30] H locs → ∀ ls : Array Slot, lv_has ls 5 [(0, .ref a_self), (2, .int x2_30), (3, .int x3_30)] → W p l e (headSpec wsX0_settle rmCodes_settle).room s m args below meth c H locs 0 0 Q (F0 m 30 ls []) := by
      intro n30
      induction n30 with
      | zero => intro x2_30 x3_30 m_firsts_30 m_nexts_30 hI; cases hI
      | succ n30 ih30 =>
        intro x2_30 x3_30 m_firsts_30 m_nexts_30 hI H locs hW ls hl
        obtain ⟨sr30, hF, hN30⟩ := itr_succ hI
        have hF : fCodes_settle_L30 m_counts_12 x2_30 x3_30 m_firsts_30 m_nexts_30 = some sr30 := hF
        unfold fCodes_settle_L30 at hF
        refine lv_iload_n hx hb dX0_settle_30 rfl (lv_at hl 2 rfl) ?_
        refine lv_bipush (v := 20) hx hb dX0_settle_31 (by decide) ?_
        refine lv_icmp_gt (tgt := 67) hx hb dX0_settle_33 (by decide) (fun c33 => ?_) (fun c33 => ?_)
        · rw [if_pos c33] at hF
          cases hF
          exact hX30 _ _ (itr_out hN30) _ _ hW _ (lv_sub hl [0] rfl)
        · rw [if_neg c33] at hF
          refine lv_aload_n hx hb dX0_settle_36 rfl (lv_at hl 0 rfl) ?_
          refine va_get (D := D) (ci := 0) (v := .ref a_firsts) (C := RX0) (T := TX0) (N := 7) hx hb hts hi0 hown hK.1 hW.1 0 rfl rfl 3 (by decide) hw10 (fun _ h9 => h9) rfl dX0_settle_37 ?_
          refine lv_iload_n hx hb dX0_settle_40 rfl (lv_at hl 2 rfl) ?_
          refine lv_iload_n hx hb dX0_settle_41 rfl (lv_at hl 1 rfl) ?_
          obtain ⟨g42, hF⟩ := gdI_some hF
          refine va_iast hx hb hK.1 hW.1 hW.2.1 hW.2.2 4 0 rfl rfl g42 dX0_settle_42 (fun H locs hP hD hS => ?_)
          have hW : WS D A s [ob a_self 0 [Value.ref a_lengths, Value.ref a_codes, Value.ref a_counts, Value.ref a_firsts, Value.ref a_nexts, Value.int (if (258 : Int32) < x1 then (258 : Int32) else x1), Value.int m_filled_12], ia cI a_lengths 258 m_lengths, ia cI a_codes 258 m_codes, ia cI a_counts 21 m_counts_12, ia cI a_firsts 21 (upd m_firsts_30 x3_30.toNatClampNeg x2_30), ia cI a_nexts 21 m_nexts_30] H locs := ⟨hP, hD, hS⟩
          refine lv_aload_n hx hb dX0_settle_43 rfl (lv_at hl 0 rfl) ?_
          refine va_get (D := D) (ci := 0) (v := .ref a_nexts) (C := RX0) (T := TX0) (N := 7) hx hb hts hi0 hown hK.1 hW.1 0 rfl rfl 4 (by decide) hw9 (fun _ h9 => h9) rfl dX0_settle_44 ?_
          refine lv_iload_n hx hb dX0_settle_47 rfl (lv_at hl 2 rfl) ?_
          refine lv_iload_n hx hb dX0_settle_48 rfl (lv_at hl 1 rfl) ?_
          obtain ⟨g49, hF⟩ := gdI_some hF
          refine va_iast hx hb hK.1 hW.1 hW.2.1 hW.2.2 5 0 rfl rfl g49 dX0_settle_49 (fun H locs hP hD hS => ?_)
          have hW : WS D A s [ob a_self 0 [Value.ref a_lengths, Value.ref a_codes, Value.ref a_counts, Value.ref a_firsts, Value.ref a_nexts, Value.int (if (258 : Int32) < x1 then (258 : Int32) else x1), Value.int m_filled_12], ia cI a_lengths 258 m_lengths, ia cI a_codes 258 m_codes, ia cI a_counts 21 m_counts_12, ia cI a_firsts 21 (upd m_firsts_30 x3_30.toNatClampNeg x2_30), ia cI a_nexts 21 (upd m_nexts_30 x3_30.toNatClampNeg x2_30)] H locs := ⟨hP, hD, hS⟩
          refine lv_iload_n hx hb dX0_settle_50 rfl (lv_at hl 1 rfl) ?_
          refine lv_aload_n hx hb dX0_settle_51 rfl (lv_at hl 0 rfl) ?_
          refine va_get (D := D) (ci := 0) (v := .ref a_counts) (C := RX0) (T := TX0) (N := 7) hx hb hts hi0 hown hK.1 hW.1 0 rfl rfl 2 (by decide) hw11 (fun _ h9 => h9) rfl dX0_settle_52 ?_
          refine lv_iload_n hx hb dX0_settle_55 rfl (lv_at hl 2 rfl) ?_
          obtain ⟨g56, hF⟩ := gdI_some hF
          refine va_iald hx hb hK.1 hW.1 3 0 rfl rfl g56 dX0_settle_56 ?_
          refine lv_iadd hx hb dX0_settle_57 ?_
          refine lv_iconst (v := 2) hx hb dX0_settle_58 (by decide) ?_
          refine lv_imul hx hb dX0_settle_59 ?_
          refine lv_istore_n (lv' := [(2, .int ((x2_30 + (m_counts_12 x3_30.toNatClampNeg)) * (2 : Int32))), (0, .ref a_self), (3, .int x3_30)]) hx hb dX0_settle_60 rfl hl (by decide) rfl (fun ls hl => ?_)
          refine lv_iinc (v := (x3_30 + 1)) (lv' := [(3, .int (x3_30 + 1)), (2, .int ((x2_30 + (m_counts_12 x3_30.toNatClampNeg)) * (2 : Int32))), (0, .ref a_self)]) hx hb dX0_settle_61 hl (k := 2) rfl rfl (by decide) rfl (fun ls hl => ?_)
          refine lv_goto (tgt := 30) hx hb dX0_settle_64 (by decide) ?_
          cases hF
          exact ih30 _ _ _ _ (itr_in hN30) _ _ hW _ (lv_sub hl [2, 1, 0] rfl)
    exact hL30 nn _ _ _ _ hI _ _ hW _ (lv_sub hl [2, 1, 0] rfl)
  · rw [if_neg c21] at hF
    refine lv_iconst (v := 0) hx hb dX0_settle_24 (by decide) ?_
    cases hF
    subst hQ
    exact ct_zret hx hb hr hlocks rfl hW.1 hW.2.2 dX0_settle_25
abbrev rmCodes_codeOf : Room := { frames := 0, cells := 0, slots := 0, locals := 0 }
set_option maxHeartbeats 4000000 in
set_option maxRecDepth 100000 in
theorem kCodes_codeOf (l : Launch) (D : va_G) (cI cZ cO cG : ClassId) (a_self : Nat) (a_lengths : Nat) (a_codes : Nat) (a_counts : Nat) (a_firsts : Nat) (a_nexts : Nat) (m_kinds : Int32) (m_filled : Int32) (m_codes : Nat → Int32) (x1 : Int32) {rv : Int32} (hF : fCodes_codeOf m_kinds m_codes x1 = some rv) : CT l yX0_codeOf wsX0_codeOf rmCodes_codeOf D (tysG cI cZ cO cG) [.ref a_self, .int x1] [ob a_self 0 [Value.ref a_lengths, Value.ref a_codes, Value.ref a_counts, Value.ref a_firsts, Value.ref a_nexts, Value.int m_kinds, Value.int m_filled], ia cI a_codes 258 m_codes] (some (.int rv)) [ob a_self 0 [Value.ref a_lengths, Value.ref a_codes, Value.ref a_counts, Value.ref a_firsts, Value.ref a_nexts, Value.int m_kinds, Value.int m_filled], ia cI a_codes 258 m_codes] := by
  refine CT.of (cc := cX0_codeOf) (maxL := 2) (ret := (some .int)) (by decide) rfl (Nat.le_of_ble_eq_true rfl) ?_
  intro p e s m below meth c A ls hx hb hr hml hts hown hlocks hK hA hP hD hS hl
  generalize hargs : ([.ref a_self, .int x1] : List Value).toArray = args at hts ⊢
  generalize hQ : MQ below (ctQ D (some (.int rv)) [ob a_self 0 [Value.ref a_lengths, Value.ref a_codes, Value.ref a_counts, Value.ref a_firsts, Value.ref a_nexts, Value.int m_kinds, Value.int m_filled], ia cI a_codes 258 m_codes] A) args s 0 0 A = Q
  have hl : lv_has ls 2 [(0, .ref a_self), (1, .int x1)] := hl
  have hW : WS D A s [ob a_self 0 [Value.ref a_lengths, Value.ref a_codes, Value.ref a_counts, Value.ref a_firsts, Value.ref a_nexts, Value.int m_kinds, Value.int m_filled], ia cI a_codes 258 m_codes] s.heap [] := ⟨hP, hD, hS⟩
  clear hP hD hS
  unfold fCodes_codeOf at hF
  have hw0 := hts (Cond.fieldLink RX0 27 "MoveFronts$Codes" "kinds" "I") (by decide +kernel)
  have hw1 := hts (Cond.fieldLink RX0 15 "MoveFronts$Codes" "codes" "[I") (by decide +kernel)
  have hi0 : ∀ w ∈ u_ws RX0 TX0 7, w ∈ wsX0_codeOf := by decide +kernel
  refine lv_iload_n hx hb dX0_codeOf_0 rfl (lv_at hl 1 rfl) ?_
  refine lv_if_lt (tgt := 12) hx hb dX0_codeOf_1 (by decide) (fun c1 => ?_) (fun c1 => ?_)
  · rw [if_pos c1] at hF
    refine lv_iconst (v := (-1)) hx hb dX0_codeOf_12 (by decide) ?_
    refine lv_goto (tgt := 22) hx hb dX0_codeOf_13 (by decide) ?_
    cases hF
    subst hQ
    exact ct_iret hx hb hr hlocks hW.1 hW.2.2 dX0_codeOf_22
  · rw [if_neg c1] at hF
    refine lv_iload_n hx hb dX0_codeOf_4 rfl (lv_at hl 1 rfl) ?_
    refine lv_aload_n hx hb dX0_codeOf_5 rfl (lv_at hl 0 rfl) ?_
    refine va_get (D := D) (ci := 0) (v := .int m_kinds) (C := RX0) (T := TX0) (N := 7) hx hb hts hi0 hown hK.1 hW.1 0 rfl rfl 5 (by decide) hw0 (fun _ h9 => h9) rfl dX0_codeOf_6 ?_
    refine lv_icmp_lt (tgt := 16) hx hb dX0_codeOf_9 (by decide) (fun c9 => ?_) (fun c9 => ?_)
    · rw [if_pos c9] at hF
      refine lv_aload_n hx hb dX0_codeOf_16 rfl (lv_at hl 0 rfl) ?_
      refine va_get (D := D) (ci := 0) (v := .ref a_codes) (C := RX0) (T := TX0) (N := 7) hx hb hts hi0 hown hK.1 hW.1 0 rfl rfl 1 (by decide) hw1 (fun _ h9 => h9) rfl dX0_codeOf_17 ?_
      refine lv_iload_n hx hb dX0_codeOf_20 rfl (lv_at hl 1 rfl) ?_
      obtain ⟨g21, hF⟩ := gdI_some hF
      refine va_iald hx hb hK.1 hW.1 1 0 rfl rfl g21 dX0_codeOf_21 ?_
      cases hF
      subst hQ
      exact ct_iret hx hb hr hlocks hW.1 hW.2.2 dX0_codeOf_22
    · rw [if_neg c9] at hF
      refine lv_iconst (v := (-1)) hx hb dX0_codeOf_12 (by decide) ?_
      refine lv_goto (tgt := 22) hx hb dX0_codeOf_13 (by decide) ?_
      cases hF
      subst hQ
      exact ct_iret hx hb hr hlocks hW.1 hW.2.2 dX0_codeOf_22
abbrev rmCodes_canBegin : Room := { frames := 0, cells := 0, slots := 0, locals := 0 }
set_option maxHeartbeats 4000000 in
set_option maxRecDepth 100000 in
theorem kCodes_canBegin (l : Launch) (D : va_G) (cI cZ cO cG : ClassId) (a_self : Nat) (a_lengths : Nat) (a_codes : Nat) (a_counts : Nat) (a_firsts : Nat) (a_nexts : Nat) (m_kinds : Int32) (m_filled : Int32) (x1 : Int32) (x2 : Int32) {rv : Int32} (hF : fCodes_canBegin m_filled x1 x2 = some rv) : CT l yX0_canBegin wsX0_canBegin rmCodes_canBegin D (tysG cI cZ cO cG) [.ref a_self, .int x1, .int x2] [ob a_self 0 [Value.ref a_lengths, Value.ref a_codes, Value.ref a_counts, Value.ref a_firsts, Value.ref a_nexts, Value.int m_kinds, Value.int m_filled]] (some (.int rv)) [ob a_self 0 [Value.ref a_lengths, Value.ref a_codes, Value.ref a_counts, Value.ref a_firsts, Value.ref a_nexts, Value.int m_kinds, Value.int m_filled]] := by
  refine CT.of (cc := cX0_canBegin) (maxL := 3) (ret := (some .boolean)) (by decide) rfl (Nat.le_of_ble_eq_true rfl) ?_
  intro p e s m below meth c A ls hx hb hr hml hts hown hlocks hK hA hP hD hS hl
  generalize hargs : ([.ref a_self, .int x1, .int x2] : List Value).toArray = args at hts ⊢
  generalize hQ : MQ below (ctQ D (some (.int rv)) [ob a_self 0 [Value.ref a_lengths, Value.ref a_codes, Value.ref a_counts, Value.ref a_firsts, Value.ref a_nexts, Value.int m_kinds, Value.int m_filled]] A) args s 0 0 A = Q
  have hl : lv_has ls 3 [(0, .ref a_self), (1, .int x1), (2, .int x2)] := hl
  have hW : WS D A s [ob a_self 0 [Value.ref a_lengths, Value.ref a_codes, Value.ref a_counts, Value.ref a_firsts, Value.ref a_nexts, Value.int m_kinds, Value.int m_filled]] s.heap [] := ⟨hP, hD, hS⟩
  clear hP hD hS
  unfold fCodes_canBegin at hF
  have hw0 := hts (Cond.fieldLink RX0 31 "MoveFronts$Codes" "filled" "I") (by decide +kernel)
  have hi0 : ∀ w ∈ u_ws RX0 TX0 7, w ∈ wsX0_canBegin := by decide +kernel
  refine lv_iload_n hx hb dX0_canBegin_0 rfl (lv_at hl 2 rfl) ?_
  refine lv_bipush (v := 20) hx hb dX0_canBegin_1 (by decide) ?_
  refine lv_icmp_gt (tgt := 23) hx hb dX0_canBegin_3 (by decide) (fun c3 => ?_) (fun c3 => ?_)
  · rw [if_pos c3] at hF
    refine lv_iconst (v := 0) hx hb dX0_canBegin_23 (by decide) ?_
    cases hF
    subst hQ
    exact ct_zret hx hb hr hlocks rfl hW.1 hW.2.2 dX0_canBegin_24
  · rw [if_neg c3] at hF
    refine lv_iload_n hx hb dX0_canBegin_6 rfl (lv_at hl 1 rfl) ?_
    refine lv_bipush (v := 20) hx hb dX0_canBegin_7 (by decide) ?_
    refine lv_iload_n hx hb dX0_canBegin_9 rfl (lv_at hl 2 rfl) ?_
    refine lv_isub hx hb dX0_canBegin_10 ?_
    refine lv_ishl hx hb dX0_canBegin_11 ?_
    refine lv_aload_n hx hb dX0_canBegin_12 rfl (lv_at hl 0 rfl) ?_
    refine va_get (D := D) (ci := 0) (v := .int m_filled) (C := RX0) (T := TX0) (N := 7) hx hb hts hi0 hown hK.1 hW.1 0 rfl rfl 6 (by decide) hw0 (fun _ h9 => h9) rfl dX0_canBegin_13 ?_
    refine lv_icmp_ge (tgt := 23) hx hb dX0_canBegin_16 (by decide) (fun c16 => ?_) (fun c16 => ?_)
    · rw [if_pos c16] at hF
      refine lv_iconst (v := 0) hx hb dX0_canBegin_23 (by decide) ?_
      cases hF
      subst hQ
      exact ct_zret hx hb hr hlocks rfl hW.1 hW.2.2 dX0_canBegin_24
    · rw [if_neg c16] at hF
      refine lv_iconst (v := 1) hx hb dX0_canBegin_19 (by decide) ?_
      refine lv_goto (tgt := 24) hx hb dX0_canBegin_20 (by decide) ?_
      cases hF
      subst hQ
      exact ct_zret hx hb hr hlocks rfl hW.1 hW.2.2 dX0_canBegin_24
abbrev rmCodes_kindOf : Room := { frames := 0, cells := 0, slots := 0, locals := 0 }
set_option maxHeartbeats 4000000 in
set_option maxRecDepth 100000 in
theorem kCodes_kindOf (l : Launch) (D : va_G) (cI cZ cO cG : ClassId) (a_self : Nat) (a_lengths : Nat) (a_codes : Nat) (a_counts : Nat) (a_firsts : Nat) (a_nexts : Nat) (m_kinds : Int32) (m_filled : Int32) (m_lengths : Nat → Int32) (m_codes : Nat → Int32) (m_counts : Nat → Int32) (m_firsts : Nat → Int32) (x1 : Int32) (x2 : Int32) {rv : Int32} (hF : fCodes_kindOf m_kinds m_lengths m_codes m_counts m_firsts x1 x2 = some rv) : CT l yX0_kindOf wsX0_kindOf rmCodes_kindOf D (tysG cI cZ cO cG) [.ref a_self, .int x1, .int x2] [ob a_self 0 [Value.ref a_lengths, Value.ref a_codes, Value.ref a_counts, Value.ref a_firsts, Value.ref a_nexts, Value.int m_kinds, Value.int m_filled], ia cI a_lengths 258 m_lengths, ia cI a_codes 258 m_codes, ia cI a_counts 21 m_counts, ia cI a_firsts 21 m_firsts] (some (.int rv)) [ob a_self 0 [Value.ref a_lengths, Value.ref a_codes, Value.ref a_counts, Value.ref a_firsts, Value.ref a_nexts, Value.int m_kinds, Value.int m_filled], ia cI a_lengths 258 m_lengths, ia cI a_codes 258 m_codes, ia cI a_counts 21 m_counts, ia cI a_firsts 21 m_firsts] := by
  refine CT.of (cc := cX0_kindOf) (maxL := 5) (ret := (some .int)) (by decide) rfl (Nat.le_of_ble_eq_true rfl) ?_
  intro p e s m below meth c A ls hx hb hr hml hts hown hlocks hK hA hP hD hS hl
  generalize hargs : ([.ref a_self, .int x1, .int x2] : List Value).toArray = args at hts ⊢
  generalize hQ : MQ below (ctQ D (some (.int rv)) [ob a_self 0 [Value.ref a_lengths, Value.ref a_codes, Value.ref a_counts, Value.ref a_firsts, Value.ref a_nexts, Value.int m_kinds, Value.int m_filled], ia cI a_lengths 258 m_lengths, ia cI a_codes 258 m_codes, ia cI a_counts 21 m_counts, ia cI a_firsts 21 m_firsts] A) args s 0 0 A = Q
  have hl : lv_has ls 5 [(0, .ref a_self), (1, .int x1), (2, .int x2)] := hl
  have hW : WS D A s [ob a_self 0 [Value.ref a_lengths, Value.ref a_codes, Value.ref a_counts, Value.ref a_firsts, Value.ref a_nexts, Value.int m_kinds, Value.int m_filled], ia cI a_lengths 258 m_lengths, ia cI a_codes 258 m_codes, ia cI a_counts 21 m_counts, ia cI a_firsts 21 m_firsts] s.heap [] := ⟨hP, hD, hS⟩
  clear hP hD hS
  unfold fCodes_kindOf at hF
  have hw0 := hts (Cond.fieldLink RX0 21 "MoveFronts$Codes" "firsts" "[I") (by decide +kernel)
  have hw1 := hts (Cond.fieldLink RX0 18 "MoveFronts$Codes" "counts" "[I") (by decide +kernel)
  have hw2 := hts (Cond.fieldLink RX0 27 "MoveFronts$Codes" "kinds" "I") (by decide +kernel)
  have hw3 := hts (Cond.fieldLink RX0 9 "MoveFronts$Codes" "lengths" "[I") (by decide +kernel)
  have hw4 := hts (Cond.fieldLink RX0 15 "MoveFronts$Codes" "codes" "[I") (by decide +kernel)
  have hi0 : ∀ w ∈ u_ws RX0 TX0 7, w ∈ wsX0_kindOf := by decide +kernel
  refine lv_iload_n hx hb dX0_kindOf_0 rfl (lv_at hl 2 rfl) ?_
  refine lv_iconst (v := 1) hx hb dX0_kindOf_1 (by decide) ?_
  refine lv_icmp_lt (tgt := 11) hx hb dX0_kindOf_2 (by decide) (fun c2 => ?_) (fun c2 => ?_)
  · rw [if_pos c2] at hF
    refine lv_iconst (v := (-1)) hx hb dX0_kindOf_11 (by decide) ?_
    cases hF
    subst hQ
    exact ct_iret hx hb hr hlocks hW.1 hW.2.2 dX0_kindOf_12
  · rw [if_neg c2] at hF
    refine lv_iload_n hx hb dX0_kindOf_5 rfl (lv_at hl 2 rfl) ?_
    refine lv_bipush (v := 20) hx hb dX0_kindOf_6 (by decide) ?_
    refine lv_icmp_le (tgt := 13) hx hb dX0_kindOf_8 (by decide) (fun c8 => ?_) (fun c8 => ?_)
    · rw [if_pos c8] at hF
      refine lv_iload_n hx hb dX0_kindOf_13 rfl (lv_at hl 1 rfl) ?_
      refine lv_aload_n hx hb dX0_kindOf_14 rfl (lv_at hl 0 rfl) ?_
      refine va_get (D := D) (ci := 0) (v := .ref a_firsts) (C := RX0) (T := TX0) (N := 7) hx hb hts hi0 hown hK.1 hW.1 0 rfl rfl 3 (by decide) hw0 (fun _ h9 => h9) rfl dX0_kindOf_15 ?_
      refine lv_iload_n hx hb dX0_kindOf_18 rfl (lv_at hl 2 rfl) ?_
      obtain ⟨g19, hF⟩ := gdI_some hF
      refine va_iald hx hb hK.1 hW.1 4 0 rfl rfl g19 dX0_kindOf_19 ?_
      refine lv_isub hx hb dX0_kindOf_20 ?_
      refine lv_istore_n (lv' := [(3, .int (x1 - (m_firsts x2.toNatClampNeg))), (0, .ref a_self), (1, .int x1), (2, .int x2)]) hx hb dX0_kindOf_21 rfl hl (by decide) rfl (fun ls hl => ?_)
      refine lv_iload_n hx hb dX0_kindOf_22 rfl (lv_at hl 0 rfl) ?_
      refine lv_if_lt (tgt := 36) hx hb dX0_kindOf_23 (by decide) (fun c23 => ?_) (fun c23 => ?_)
      · rw [if_pos c23] at hF
        refine lv_iconst (v := (-1)) hx hb dX0_kindOf_36 (by decide) ?_
        cases hF
        subst hQ
        exact ct_iret hx hb hr hlocks hW.1 hW.2.2 dX0_kindOf_37
      · rw [if_neg c23] at hF
        refine lv_iload_n hx hb dX0_kindOf_26 rfl (lv_at hl 0 rfl) ?_
        refine lv_aload_n hx hb dX0_kindOf_27 rfl (lv_at hl 1 rfl) ?_
        refine va_get (D := D) (ci := 0) (v := .ref a_counts) (C := RX0) (T := TX0) (N := 7) hx hb hts hi0 hown hK.1 hW.1 0 rfl rfl 2 (by decide) hw1 (fun _ h9 => h9) rfl dX0_kindOf_28 ?_
        refine lv_iload_n hx hb dX0_kindOf_31 rfl (lv_at hl 3 rfl) ?_
        obtain ⟨g32, hF⟩ := gdI_some hF
        refine va_iald hx hb hK.1 hW.1 3 0 rfl rfl g32 dX0_kindOf_32 ?_
        refine lv_icmp_lt (tgt := 38) hx hb dX0_kindOf_33 (by decide) (fun c33 => ?_) (fun c33 => ?_)
        · rw [if_pos c33] at hF
          refine lv_iconst (v := 0) hx hb dX0_kindOf_38 (by decide) ?_
          refine lv_istore (lv' := [(4, .int (0 : Int32)), (3, .int (x1 - (m_firsts x2.toNatClampNeg))), (0, .ref a_self), (1, .int x1), (2, .int x2)]) hx hb dX0_kindOf_39 hl (by decide) rfl (fun ls hl => ?_)
          obtain ⟨q41, hI, hq41⟩ := bs_some hF
          obtain ⟨nn, hI⟩ := itrO_some hI
          have hX41 : (.inl ()) = q41 → ∀ (H : Heap) (locs : List Loc), WS D A s [ob a_self 0 [Value.ref a_lengths, Value.ref a_codes, Value.ref a_counts, Value.ref a_firsts, Value.ref a_nexts, Value.int m_kinds, Value.int m_filled], ia cI a_lengths 258 m_lengths, ia cI a_codes 258 m_codes, ia cI a_counts 21 m_counts, ia cI a_firsts 21 m_firsts] H locs → ∀ ls : Array Slot, lv_has ls 5 [] → W p l e (headSpec wsX0_kindOf rmCodes_kindOf).room s m args below meth c H locs 0 0 Q (F0 m 81 ls []) := by
            intro  he H locs hW ls hl
            subst he
            have hF := bs_inl hq41
            refine lv_iconst (v := (-1)) hx hb dX0_kindOf_81 (by decide) ?_
            cases hF
            subst hQ
            exact ct_iret hx hb hr hlocks hW.1 hW.2.2 dX0_kindOf_82
          have hL41 : ∀ (n41 : Nat) (x4_41 : Int32), itr (un1 (fCodes_kindOf_L41 m_kinds m_lengths m_codes x1 x2)) n41 x4_41 = some q41 → ∀ (H : Heap) (locs : List Loc), WS D A s [ob a_self 0 [Value.ref a_lengths, Value.ref a_codes, Value.ref a_counts, Value.ref a_firsts, Value.ref a_nexts, Value.int m_kinds, Value.int m_filled], ia cI a_lengths 258 m_lengths, ia cI a_codes 258 m_codes, ia cI a_counts 21 m_counts, ia cI a_firsts 21 m_firsts] H locs → ∀ ls : Array Slot, lv_has ls 5 [(0, .ref a_self), (1, .int x1), (2, .int x2), (4, .int x4_41)] → W p l e (headSpec wsX0_kindOf rmCodes_kindOf).room s m args below meth c H locs 0 0 Q (F0 m 41 ls []) := by
            intro n41
            induction n41 with
            | zero => intro x4_41 hI; cases hI
            | succ n41 ih41 =>
              intro x4_41 hI H locs hW ls hl
              obtain ⟨sr41, hF, hN41⟩ := itr_succ hI
              have hF : fCodes_kindOf_L41 m_kinds m_lengths m_codes x1 x2 x4_41 = some sr41 := hF
              unfold fCodes_kindOf_L41 at hF
              refine lv_iload hx hb dX0_kindOf_41 (lv_at hl 3 rfl) ?_
              refine lv_aload_n hx hb dX0_kindOf_43 rfl (lv_at hl 0 rfl) ?_
              refine va_get (D := D) (ci := 0) (v := .int m_kinds) (C := RX0) (T := TX0) (N := 7) hx hb hts hi0 hown hK.1 hW.1 0 rfl rfl 5 (by decide) hw2 (fun _ h9 => h9) rfl dX0_kindOf_44 ?_
              refine lv_icmp_ge (tgt := 81) hx hb dX0_kindOf_47 (by decide) (fun c47 => ?_) (fun c47 => ?_)
              · rw [if_pos c47] at hF
                cases hF
                exact hX41  (itr_out hN41) _ _ hW _ (lv_sub hl [] rfl)
              · rw [if_neg c47] at hF
                refine lv_aload_n hx hb dX0_kindOf_50 rfl (lv_at hl 0 rfl) ?_
                refine va_get (D := D) (ci := 0) (v := .ref a_lengths) (C := RX0) (T := TX0) (N := 7) hx hb hts hi0 hown hK.1 hW.1 0 rfl rfl 0 (by decide) hw3 (fun _ h9 => h9) rfl dX0_kindOf_51 ?_
                refine lv_iload hx hb dX0_kindOf_54 (lv_at hl 3 rfl) ?_
                obtain ⟨g56, hF⟩ := gdI_some hF
                refine va_iald hx hb hK.1 hW.1 1 0 rfl rfl g56 dX0_kindOf_56 ?_
                refine lv_iload_n hx hb dX0_kindOf_57 rfl (lv_at hl 2 rfl) ?_
                refine lv_icmp_ne (tgt := 75) hx hb dX0_kindOf_58 (by decide) (fun c58 => ?_) (fun c58 => ?_)
                · rw [if_neg c58] at hF
                  refine lv_iinc (v := (x4_41 + 1)) (lv' := [(4, .int (x4_41 + 1)), (0, .ref a_self), (1, .int x1), (2, .int x2)]) hx hb dX0_kindOf_75 hl (k := 3) rfl rfl (by decide) rfl (fun ls hl => ?_)
                  refine lv_goto (tgt := 41) hx hb dX0_kindOf_78 (by decide) ?_
                  cases hF
                  exact ih41 _ (itr_in hN41) _ _ hW _ (lv_sub hl [1, 2, 3, 0] rfl)
                · rw [if_pos c58] at hF
                  refine lv_aload_n hx hb dX0_kindOf_61 rfl (lv_at hl 0 rfl) ?_
                  refine va_get (D := D) (ci := 0) (v := .ref a_codes) (C := RX0) (T := TX0) (N := 7) hx hb hts hi0 hown hK.1 hW.1 0 rfl rfl 1 (by decide) hw4 (fun _ h9 => h9) rfl dX0_kindOf_62 ?_
                  refine lv_iload hx hb dX0_kindOf_65 (lv_at hl 3 rfl) ?_
                  obtain ⟨g67, hF⟩ := gdI_some hF
                  refine va_iald hx hb hK.1 hW.1 2 0 rfl rfl g67 dX0_kindOf_67 ?_
                  refine lv_iload_n hx hb dX0_kindOf_68 rfl (lv_at hl 1 rfl) ?_
                  refine lv_icmp_ne (tgt := 75) hx hb dX0_kindOf_69 (by decide) (fun c69 => ?_) (fun c69 => ?_)
                  · rw [if_neg c69] at hF
                    refine lv_iinc (v := (x4_41 + 1)) (lv' := [(4, .int (x4_41 + 1)), (0, .ref a_self), (1, .int x1), (2, .int x2)]) hx hb dX0_kindOf_75 hl (k := 3) rfl rfl (by decide) rfl (fun ls hl => ?_)
                    refine lv_goto (tgt := 41) hx hb dX0_kindOf_78 (by decide) ?_
                    cases hF
                    exact ih41 _ (itr_in hN41) _ _ hW _ (lv_sub hl [1, 2, 3, 0] rfl)
                  · rw [if_pos c69] at hF
                    refine lv_iload hx hb dX0_kindOf_72 (lv_at hl 3 rfl) ?_
                    cases hF
                    have hq0 := itr_out hN41
                    subst hq0
                    have hF := bs_inr hq41
                    cases hF
                    subst hQ
                    exact ct_iret hx hb hr hlocks hW.1 hW.2.2 dX0_kindOf_74
          exact hL41 nn _ hI _ _ hW _ (lv_sub hl [2, 3, 4, 0] rfl)
        · rw [if_neg c33] at hF
          refine lv_iconst (v := (-1)) hx hb dX0_kindOf_36 (by decide) ?_
          cases hF
          subst hQ
          exact ct_iret hx hb hr hlocks hW.1 hW.2.2 dX0_kindOf_37
    · rw [if_neg c8] at hF
      refine lv_iconst (v := (-1)) hx hb dX0_kindOf_11 (by decide) ?_
      cases hF
      subst hQ
      exact ct_iret hx hb hr hlocks hW.1 hW.2.2 dX0_kindOf_12
abbrev rmCodes_setLength : Room := { frames := 0, cells := 0, slots := 0, locals := 0 }
set_option maxHeartbeats 4000000 in
set_option maxRecDepth 100000 in
theorem kCodes_setLength (l : Launch) (D : va_G) (cI cZ cO cG : ClassId) (a_self : Nat) (a_lengths : Nat) (a_codes : Nat) (a_counts : Nat) (a_firsts : Nat) (a_nexts : Nat) (m_kinds : Int32) (m_filled : Int32) (m_lengths : Nat → Int32) (x1 : Int32) (x2 : Int32) {m_lengths' : Nat → Int32} (hF : fCodes_setLength m_lengths x1 x2 = some m_lengths') : CT l yX0_setLength wsX0_setLength rmCodes_setLength D (tysG cI cZ cO cG) [.ref a_self, .int x1, .int x2] [ob a_self 0 [Value.ref a_lengths, Value.ref a_codes, Value.ref a_counts, Value.ref a_firsts, Value.ref a_nexts, Value.int m_kinds, Value.int m_filled], ia cI a_lengths 258 m_lengths] none [ob a_self 0 [Value.ref a_lengths, Value.ref a_codes, Value.ref a_counts, Value.ref a_firsts, Value.ref a_nexts, Value.int m_kinds, Value.int m_filled], ia cI a_lengths 258 m_lengths'] := by
  refine CT.of (cc := cX0_setLength) (maxL := 3) (ret := none) (by decide) rfl (Nat.le_of_ble_eq_true rfl) ?_
  intro p e s m below meth c A ls hx hb hr hml hts hown hlocks hK hA hP hD hS hl
  generalize hargs : ([.ref a_self, .int x1, .int x2] : List Value).toArray = args at hts ⊢
  generalize hQ : MQ below (ctQ D none [ob a_self 0 [Value.ref a_lengths, Value.ref a_codes, Value.ref a_counts, Value.ref a_firsts, Value.ref a_nexts, Value.int m_kinds, Value.int m_filled], ia cI a_lengths 258 m_lengths'] A) args s 0 0 A = Q
  have hl : lv_has ls 3 [(0, .ref a_self), (1, .int x1), (2, .int x2)] := hl
  have hW : WS D A s [ob a_self 0 [Value.ref a_lengths, Value.ref a_codes, Value.ref a_counts, Value.ref a_firsts, Value.ref a_nexts, Value.int m_kinds, Value.int m_filled], ia cI a_lengths 258 m_lengths] s.heap [] := ⟨hP, hD, hS⟩
  clear hP hD hS
  unfold fCodes_setLength at hF
  have hw0 := hts (Cond.fieldLink RX0 9 "MoveFronts$Codes" "lengths" "[I") (by decide +kernel)
  have hi0 : ∀ w ∈ u_ws RX0 TX0 7, w ∈ wsX0_setLength := by decide +kernel
  refine lv_iload_n hx hb dX0_setLength_0 rfl (lv_at hl 1 rfl) ?_
  refine lv_if_lt (tgt := 31) hx hb dX0_setLength_1 (by decide) (fun c1 => ?_) (fun c1 => ?_)
  · rw [if_pos c1] at hF
    cases hF
    subst hQ
    exact ct_vret hx hb hr hlocks hW.1 hW.2.2 dX0_setLength_31
  · rw [if_neg c1] at hF
    refine lv_iload_n hx hb dX0_setLength_4 rfl (lv_at hl 1 rfl) ?_
    refine lv_aload_n hx hb dX0_setLength_5 rfl (lv_at hl 0 rfl) ?_
    refine va_get (D := D) (ci := 0) (v := .ref a_lengths) (C := RX0) (T := TX0) (N := 7) hx hb hts hi0 hown hK.1 hW.1 0 rfl rfl 0 (by decide) hw0 (fun _ h9 => h9) rfl dX0_setLength_6 ?_
    refine va_alen hx hb hK.1 hW.1 1 0 rfl rfl (v := (Int32.ofNat 258)) rfl dX0_setLength_9 ?_
    refine lv_icmp_ge (tgt := 31) hx hb dX0_setLength_10 (by decide) (fun c10 => ?_) (fun c10 => ?_)
    · rw [if_pos c10] at hF
      cases hF
      subst hQ
      exact ct_vret hx hb hr hlocks hW.1 hW.2.2 dX0_setLength_31
    · rw [if_neg c10] at hF
      refine lv_iload_n hx hb dX0_setLength_13 rfl (lv_at hl 2 rfl) ?_
      refine lv_iconst (v := 1) hx hb dX0_setLength_14 (by decide) ?_
      refine lv_icmp_lt (tgt := 31) hx hb dX0_setLength_15 (by decide) (fun c15 => ?_) (fun c15 => ?_)
      · rw [if_pos c15] at hF
        cases hF
        subst hQ
        exact ct_vret hx hb hr hlocks hW.1 hW.2.2 dX0_setLength_31
      · rw [if_neg c15] at hF
        refine lv_iload_n hx hb dX0_setLength_18 rfl (lv_at hl 2 rfl) ?_
        refine lv_bipush (v := 20) hx hb dX0_setLength_19 (by decide) ?_
        refine lv_icmp_gt (tgt := 31) hx hb dX0_setLength_21 (by decide) (fun c21 => ?_) (fun c21 => ?_)
        · rw [if_pos c21] at hF
          cases hF
          subst hQ
          exact ct_vret hx hb hr hlocks hW.1 hW.2.2 dX0_setLength_31
        · rw [if_neg c21] at hF
          refine lv_aload_n hx hb dX0_setLength_24 rfl (lv_at hl 0 rfl) ?_
          refine va_get (D := D) (ci := 0) (v := .ref a_lengths) (C := RX0) (T := TX0) (N := 7) hx hb hts hi0 hown hK.1 hW.1 0 rfl rfl 0 (by decide) hw0 (fun _ h9 => h9) rfl dX0_setLength_25 ?_
          refine lv_iload_n hx hb dX0_setLength_28 rfl (lv_at hl 1 rfl) ?_
          refine lv_iload_n hx hb dX0_setLength_29 rfl (lv_at hl 2 rfl) ?_
          obtain ⟨g30, hF⟩ := gdI_some hF
          refine va_iast hx hb hK.1 hW.1 hW.2.1 hW.2.2 1 0 rfl rfl g30 dX0_setLength_30 (fun H locs hP hD hS => ?_)
          have hW : WS D A s [ob a_self 0 [Value.ref a_lengths, Value.ref a_codes, Value.ref a_counts, Value.ref a_firsts, Value.ref a_nexts, Value.int m_kinds, Value.int m_filled], ia cI a_lengths 258 (upd m_lengths x1.toNatClampNeg x2)] H locs := ⟨hP, hD, hS⟩
          cases hF
          subst hQ
          exact ct_vret hx hb hr hlocks hW.1 hW.2.2 dX0_setLength_31
