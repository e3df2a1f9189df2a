abbrev rmJoiner_findDepths : Room := { frames := 0, cells := 0, slots := 0, locals := 0 }
set_option maxHeartbeats 4000000 in
set_option maxRecDepth 100000 in
theorem kJoiner_findDepths (l : Launch) (D : va_G) (cI cZ cO cG : ClassId) (a_self : Nat) (a_weights : Nat) (a_parents : Nat) (a_depths : Nat) (a_sorted : Nat) (a_starts : Nat) (m_kinds : Int32) (m_nextKind : Int32) (m_nextJoined : Int32) (m_nodes : Int32) (m_parents : Nat → Int32) (m_depths : Nat → Int32) {m_depths' : Nat → Int32} (hF : fJoiner_findDepths m_nodes m_parents m_depths = some m_depths') : CT l yX2_findDepths wsX2_findDepths rmJoiner_findDepths D (tysG cI cZ cO cG) [.ref a_self] [ob a_self 2 [Value.ref a_weights, Value.ref a_parents, Value.ref a_depths, Value.ref a_sorted, Value.ref a_starts, Value.int m_kinds, Value.int m_nextKind, Value.int m_nextJoined, Value.int m_nodes], ia cI a_parents 516 m_parents, ia cI a_depths 516 m_depths] none [ob a_self 2 [Value.ref a_weights, Value.ref a_parents, Value.ref a_depths, Value.ref a_sorted, Value.ref a_starts, Value.int m_kinds, Value.int m_nextKind, Value.int m_nextJoined, Value.int m_nodes], ia cI a_parents 516 m_parents, ia cI a_depths 516 m_depths'] := by
  refine CT.of (cc := cX2_findDepths) (maxL := 2) (ret := none) (by decide) rfl (Nat.le_of_ble_eq_true rfl) ?_
  intro p e s m below meth c A ls hx hb hr hml hts hown hlocks hK hA hP hD hS hl
  generalize hargs : ([.ref a_self] : List Value).toArray = args at hts ⊢
  generalize hQ : MQ below (ctQ D none [ob a_self 2 [Value.ref a_weights, Value.ref a_parents, Value.ref a_depths, Value.ref a_sorted, Value.ref a_starts, Value.int m_kinds, Value.int m_nextKind, Value.int m_nextJoined, Value.int m_nodes], ia cI a_parents 516 m_parents, ia cI a_depths 516 m_depths'] A) args s 0 0 A = Q
  have hl : lv_has ls 2 [(0, .ref a_self)] := hl
  have hW : WS D A s [ob a_self 2 [Value.ref a_weights, Value.ref a_parents, Value.ref a_depths, Value.ref a_sorted, Value.ref a_starts, Value.int m_kinds, Value.int m_nextKind, Value.int m_nextJoined, Value.int m_nodes], ia cI a_parents 516 m_parents, ia cI a_depths 516 m_depths] s.heap [] := ⟨hP, hD, hS⟩
  clear hP hD hS
  unfold fJoiner_findDepths at hF
  have hw0 := hts (Cond.fieldLink RX2 37 "MoveFronts$Joiner" "nodes" "I") (by decide +kernel)
  have hw1 := hts (Cond.fieldLink RX2 18 "MoveFronts$Joiner" "depths" "[I") (by decide +kernel)
  have hw2 := hts (Cond.fieldLink RX2 15 "MoveFronts$Joiner" "parents" "[I") (by decide +kernel)
  have hi2 : ∀ w ∈ u_ws RX2 TX2 9, w ∈ wsX2_findDepths := by decide +kernel
  refine lv_aload_n hx hb dX2_findDepths_0 rfl (lv_at hl 0 rfl) ?_
  refine va_get (D := D) (ci := 2) (v := .int m_nodes) (C := RX2) (T := TX2) (N := 9) hx hb hts hi2 hown hK.1 hW.1 0 rfl rfl 8 (by decide) hw0 (fun _ h9 => h9) rfl dX2_findDepths_1 ?_
  refine lv_if_ne (tgt := 8) hx hb dX2_findDepths_4 (by decide) (fun c4 => ?_) (fun c4 => ?_)
  · rw [if_neg c4] at hF
    refine lv_aload_n hx hb dX2_findDepths_8 rfl (lv_at hl 0 rfl) ?_
    refine va_get (D := D) (ci := 2) (v := .ref a_depths) (C := RX2) (T := TX2) (N := 9) hx hb hts hi2 hown hK.1 hW.1 0 rfl rfl 2 (by decide) hw1 (fun _ h9 => h9) rfl dX2_findDepths_9 ?_
    refine lv_aload_n hx hb dX2_findDepths_12 rfl (lv_at hl 0 rfl) ?_
    refine va_get (D := D) (ci := 2) (v := .int m_nodes) (C := RX2) (T := TX2) (N := 9) hx hb hts hi2 hown hK.1 hW.1 0 rfl rfl 8 (by decide) hw0 (fun _ h9 => h9) rfl dX2_findDepths_13 ?_
    refine lv_iconst (v := 1) hx hb dX2_findDepths_16 (by decide) ?_
    refine lv_isub hx hb dX2_findDepths_17 ?_
    refine lv_iconst (v := 0) hx hb dX2_findDepths_18 (by decide) ?_
    obtain ⟨g19, hF⟩ := gdI_some hF
    refine va_iast hx hb hK.1 hW.1 hW.2.1 hW.2.2 2 0 rfl rfl g19 dX2_findDepths_19 (fun H locs hP hD hS => ?_)
    have hW : WS D A s [ob a_self 2 [Value.ref a_weights, Value.ref a_parents, Value.ref a_depths, Value.ref a_sorted, Value.ref a_starts, Value.int m_kinds, Value.int m_nextKind, Value.int m_nextJoined, Value.int m_nodes], ia cI a_parents 516 m_parents, ia cI a_depths 516 (upd m_depths (m_nodes - (1 : Int32)).toNatClampNeg (0 : Int32))] H locs := ⟨hP, hD, hS⟩
    refine lv_aload_n hx hb dX2_findDepths_20 rfl (lv_at hl 0 rfl) ?_
    refine va_get (D := D) (ci := 2) (v := .int m_nodes) (C := RX2) (T := TX2) (N := 9) hx hb hts hi2 hown hK.1 hW.1 0 rfl rfl 8 (by decide) hw0 (fun _ h9 => h9) rfl dX2_findDepths_21 ?_
    refine lv_iconst (v := 2) hx hb dX2_findDepths_24 (by decide) ?_
    refine lv_isub hx hb dX2_findDepths_25 ?_
    refine lv_istore_n (lv' := [(1, .int (m_nodes - (2 : Int32))), (0, .ref a_self)]) hx hb dX2_findDepths_26 rfl hl (by decide) rfl (fun ls hl => ?_)
    obtain ⟨m_depths_27ze, hI, hF⟩ := bd1_some hF
    obtain ⟨nn, hI⟩ := itrO_some hI
    have hX27 : ∀ (m_depths_27z : Nat → Int32), m_depths_27z = m_depths_27ze → ∀ (H : Heap) (locs : List Loc), WS D A s [ob a_self 2 [Value.ref a_weights, Value.ref a_parents, Value.ref a_depths, Value.ref a_sorted, Value.ref a_starts, Value.int m_kinds, Value.int m_nextKind, Value.int m_nextJoined, Value.int m_nodes], ia cI a_parents 516 m_parents, ia cI a_depths 516 m_depths_27z] H locs → ∀ ls : Array Slot, lv_has ls 2 [] → W p l e (headSpec wsX2_findDepths rmJoiner_findDepths).room s m args below meth c H locs 0 0 Q (F0 m 56 ls []) := by
      intro m_depths_27z he H locs hW ls hl
      subst he
      cases hF
      subst hQ
      exact ct_vret hx hb hr hlocks hW.1 hW.2.2 dX2_findDepths_56
    have hL27 : ∀ (n27 : Nat) (x1_27 : Int32) (m_depths_27 : Nat → Int32), itr (un2 (fJoiner_findDepths_L27 m_parents)) n27 (x1_27, m_depths_27) = some m_depths_27ze → ∀ (H : Heap) (locs : List Loc), WS D A s [ob a_self 2 [Value.ref a_weights, Value.ref a_parents, Value.ref a_depths, Value.ref a_sorted, Value.ref a_starts, Value.int m_kinds, Value.int m_nextKind, Value.int m_nextJoined, Value.int m_nodes], ia cI a_parents 516 m_parents, ia cI a_depths 516 m_depths_27] H locs → ∀ ls : Array Slot, lv_has ls 2 [(0, .ref a_self), (1, .int x1_27)] → W p l e (headSpec wsX2_findDepths rmJoiner_findDepths).room s m args below meth c H locs 0 0 Q (F0 m 27 ls []) := by
      intro n27
      induction n27 with
      | zero => intro x1_27 m_depths_27 hI; cases hI
      | succ n27 ih27 =>
        intro x1_27 m_depths_27 hI H locs hW ls hl
        obtain ⟨sr27, hF, hN27⟩ := itr_succ hI
        have hF : fJoiner_findDepths_L27 m_parents x1_27 m_depths_27 = some sr27 := hF
        unfold fJoiner_findDepths_L27 at hF
        refine lv_iload_n hx hb dX2_findDepths_27 rfl (lv_at hl 1 rfl) ?_
        refine lv_if_lt (tgt := 56) hx hb dX2_findDepths_28 (by decide) (fun c28 => ?_) (fun c28 => ?_)
        · rw [if_pos c28] at hF
          cases hF
          exact hX27 _ (itr_out hN27) _ _ hW _ (lv_sub hl [] rfl)
        · rw [if_neg c28] at hF
          refine lv_aload_n hx hb dX2_findDepths_31 rfl (lv_at hl 0 rfl) ?_
          refine va_get (D := D) (ci := 2) (v := .ref a_depths) (C := RX2) (T := TX2) (N := 9) hx hb hts hi2 hown hK.1 hW.1 0 rfl rfl 2 (by decide) hw1 (fun _ h9 => h9) rfl dX2_findDepths_32 ?_
          refine lv_iload_n hx hb dX2_findDepths_35 rfl (lv_at hl 1 rfl) ?_
          refine lv_aload_n hx hb dX2_findDepths_36 rfl (lv_at hl 0 rfl) ?_
          refine va_get (D := D) (ci := 2) (v := .ref a_depths) (C := RX2) (T := TX2) (N := 9) hx hb hts hi2 hown hK.1 hW.1 0 rfl rfl 2 (by decide) hw1 (fun _ h9 => h9) rfl dX2_findDepths_37 ?_
          refine lv_aload_n hx hb dX2_findDepths_40 rfl (lv_at hl 0 rfl) ?_
          refine va_get (D := D) (ci := 2) (v := .ref a_parents) (C := RX2) (T := TX2) (N := 9) hx hb hts hi2 hown hK.1 hW.1 0 rfl rfl 1 (by decide) hw2 (fun _ h9 => h9) rfl dX2_findDepths_41 ?_
          refine lv_iload_n hx hb dX2_findDepths_44 rfl (lv_at hl 1 rfl) ?_
          obtain ⟨g45, hF⟩ := gdI_some hF
          refine va_iald hx hb hK.1 hW.1 1 0 rfl rfl g45 dX2_findDepths_45 ?_
          obtain ⟨g46, hF⟩ := gdI_some hF
          refine va_iald hx hb hK.1 hW.1 2 0 rfl rfl g46 dX2_findDepths_46 ?_
          refine lv_iconst (v := 1) hx hb dX2_findDepths_47 (by decide) ?_
          refine lv_iadd hx hb dX2_findDepths_48 ?_
          obtain ⟨g49, hF⟩ := gdI_some hF
          refine va_iast hx hb hK.1 hW.1 hW.2.1 hW.2.2 2 0 rfl rfl g49 dX2_findDepths_49 (fun H locs hP hD hS => ?_)
          have hW : WS D A s [ob a_self 2 [Value.ref a_weights, Value.ref a_parents, Value.ref a_depths, Value.ref a_sorted, Value.ref a_starts, Value.int m_kinds, Value.int m_nextKind, Value.int m_nextJoined, Value.int m_nodes], ia cI a_parents 516 m_parents, ia cI a_depths 516 (upd m_depths_27 x1_27.toNatClampNeg ((m_depths_27 (m_parents x1_27.toNatClampNeg).toNatClampNeg) + (1 : Int32)))] H locs := ⟨hP, hD, hS⟩
          refine lv_iinc (v := (x1_27 + (-1))) (lv' := [(1, .int (x1_27 + (-1))), (0, .ref a_self)]) hx hb dX2_findDepths_50 hl (k := 1) rfl rfl (by decide) rfl (fun ls hl => ?_)
          refine lv_goto (tgt := 27) hx hb dX2_findDepths_53 (by decide) ?_
          cases hF
          exact ih27 _ _ (itr_in hN27) _ _ hW _ (lv_sub hl [1, 0] rfl)
    exact hL27 nn _ _ hI _ _ hW _ (lv_sub hl [1, 0] rfl)
  · rw [if_pos c4] at hF
    cases hF
    subst hQ
    exact ct_vret hx hb hr hlocks hW.1 hW.2.2 dX2_findDepths_7
abbrev rmJoiner_takeLightest : Room := { frames := 0, cells := 0, slots := 0, locals := 0 }
set_option maxHeartbeats 4000000 in
set_option maxRecDepth 100000 in
theorem kJoiner_takeLightest (l : Launch) (D : va_G) (cI cZ cO cG : ClassId) (a_self : Nat) (a_weights : Nat) (a_parents : Nat) (a_depths : Nat) (a_sorted : Nat) (a_starts : Nat) (m_kinds : Int32) (m_nextKind : Int32) (m_nextJoined : Int32) (m_nodes : Int32) (m_weights : Nat → Int32) (m_sorted : Nat → Int32) {rv : Int32} {m_nextKind' : Int32} {m_nextJoined' : Int32} (hF : fJoiner_takeLightest m_kinds m_nextKind m_nextJoined m_nodes m_weights m_sorted = some (rv, m_nextKind', m_nextJoined')) : CT l yX2_takeLightest wsX2_takeLightest rmJoiner_takeLightest D (tysG cI cZ cO cG) [.ref a_self] [ob a_self 2 [Value.ref a_weights, Value.ref a_parents, Value.ref a_depths, Value.ref a_sorted, Value.ref a_starts, Value.int m_kinds, Value.int m_nextKind, Value.int m_nextJoined, Value.int m_nodes], ia cI a_weights 516 m_weights, ia cI a_sorted 258 m_sorted] (some (.int rv)) [ob a_self 2 [Value.ref a_weights, Value.ref a_parents, Value.ref a_depths, Value.ref a_sorted, Value.ref a_starts, Value.int m_kinds, Value.int m_nextKind', Value.int m_nextJoined', Value.int m_nodes], ia cI a_weights 516 m_weights, ia cI a_sorted 258 m_sorted] := by
  refine CT.of (cc := cX2_takeLightest) (maxL := 3) (ret := (some .int)) (by decide) rfl (Nat.le_of_ble_eq_true rfl) ?_
  intro p e s m below meth c A ls hx hb hr hml hts hown hlocks hK hA hP hD hS hl
  generalize hargs : ([.ref a_self] : List Value).toArray = args at hts ⊢
  generalize hQ : MQ below (ctQ D (some (.int rv)) [ob a_self 2 [Value.ref a_weights, Value.ref a_parents, Value.ref a_depths, Value.ref a_sorted, Value.ref a_starts, Value.int m_kinds, Value.int m_nextKind', Value.int m_nextJoined', Value.int m_nodes], ia cI a_weights 516 m_weights, ia cI a_sorted 258 m_sorted] A) args s 0 0 A = Q
  have hl : lv_has ls 3 [(0, .ref a_self)] := hl
  have hW : WS D A s [ob a_self 2 [Value.ref a_weights, Value.ref a_parents, Value.ref a_depths, Value.ref a_sorted, Value.ref a_starts, Value.int m_kinds, Value.int m_nextKind, Value.int m_nextJoined, Value.int m_nodes], ia cI a_weights 516 m_weights, ia cI a_sorted 258 m_sorted] s.heap [] := ⟨hP, hD, hS⟩
  clear hP hD hS
  unfold fJoiner_takeLightest at hF
  have hw0 := hts (Cond.fieldLink RX2 34 "MoveFronts$Joiner" "nextJoined" "I") (by decide +kernel)
  have hw1 := hts (Cond.fieldLink RX2 31 "MoveFronts$Joiner" "nextKind" "I") (by decide +kernel)
  have hw2 := hts (Cond.fieldLink RX2 21 "MoveFronts$Joiner" "sorted" "[I") (by decide +kernel)
  have hw3 := hts (Cond.fieldLink RX2 11 "MoveFronts$Joiner" "weights" "[I") (by decide +kernel)
  have hw4 := hts (Cond.fieldLink RX2 37 "MoveFronts$Joiner" "nodes" "I") (by decide +kernel)
  have hw5 := hts (Cond.fieldLink RX2 27 "MoveFronts$Joiner" "kinds" "I") (by decide +kernel)
  have hi2 : ∀ w ∈ u_ws RX2 TX2 9, w ∈ wsX2_takeLightest := by decide +kernel
  have hJ90 : ∀ (x2_90 : Int32) (m_nextKind_90 : Int32) (m_nextJoined_90 : Int32), fJoiner_takeLightest_J90 x2_90 m_nextKind_90 m_nextJoined_90 = some (rv, m_nextKind', m_nextJoined') → ∀ (H : Heap) (locs : List Loc), WS D A s [ob a_self 2 [Value.ref a_weights, Value.ref a_parents, Value.ref a_depths, Value.ref a_sorted, Value.ref a_starts, Value.int m_kinds, Value.int m_nextKind_90, Value.int m_nextJoined_90, Value.int m_nodes], ia cI a_weights 516 m_weights, ia cI a_sorted 258 m_sorted] H locs → ∀ ls : Array Slot, lv_has ls 3 [(0, .ref a_self), (2, .int x2_90)] → W p l e (headSpec wsX2_takeLightest rmJoiner_takeLightest).room s m args below meth c H locs 0 0 Q (F0 m 90 ls []) := by
    intro x2_90 m_nextKind_90 m_nextJoined_90 hF H locs hW ls hl
    unfold fJoiner_takeLightest_J90 at hF
    refine lv_iload_n hx hb dX2_takeLightest_90 rfl (lv_at hl 1 rfl) ?_
    refine lv_if_eq (tgt := 111) hx hb dX2_takeLightest_91 (by decide) (fun c91 => ?_) (fun c91 => ?_)
    · rw [if_pos c91] at hF
      refine lv_iconst (v := 0) hx hb dX2_takeLightest_111 (by decide) ?_
      cases hF
      subst hQ
      exact ct_iret hx hb hr hlocks hW.1 hW.2.2 dX2_takeLightest_112
    · rw [if_neg c91] at hF
      refine lv_aload_n hx hb dX2_takeLightest_94 rfl (lv_at hl 0 rfl) ?_
      refine lv_dup hx hb dX2_takeLightest_95 rfl ?_
      refine va_get (D := D) (ci := 2) (v := .int m_nextJoined_90) (C := RX2) (T := TX2) (N := 9) hx hb hts hi2 hown hK.1 hW.1 0 rfl rfl 7 (by decide) hw0 (fun _ h9 => h9) rfl dX2_takeLightest_96 ?_
      refine lv_iconst (v := 1) hx hb dX2_takeLightest_99 (by decide) ?_
      refine lv_iadd hx hb dX2_takeLightest_100 ?_
      refine va_put (D := D) (ci := 2) (v := .int (m_nextJoined_90 + (1 : Int32))) (ty := .int) (C := RX2) (T := TX2) (N := 9) hx hb hts hi2 tyX2 tyX2_ok nmX2 hown hK.1 hW.1 hW.2.1 hW.2.2 0 rfl rfl 7 (by decide) hw0 (fun _ h9 => h9) rfl (by decide +kernel) rfl rfl (Nat.le_of_ble_eq_true rfl) dX2_takeLightest_101 (fun H locs hP hD hS => ?_)
      have hW : WS D A s [ob a_self 2 [Value.ref a_weights, Value.ref a_parents, Value.ref a_depths, Value.ref a_sorted, Value.ref a_starts, Value.int m_kinds, Value.int m_nextKind_90, Value.int (m_nextJoined_90 + (1 : Int32)), Value.int m_nodes], ia cI a_weights 516 m_weights, ia cI a_sorted 258 m_sorted] H locs := ⟨hP, hD, hS⟩
      refine lv_aload_n hx hb dX2_takeLightest_104 rfl (lv_at hl 0 rfl) ?_
      refine va_get (D := D) (ci := 2) (v := .int (m_nextJoined_90 + (1 : Int32))) (C := RX2) (T := TX2) (N := 9) hx hb hts hi2 hown hK.1 hW.1 0 rfl rfl 7 (by decide) hw0 (fun _ h9 => h9) rfl dX2_takeLightest_105 ?_
      refine lv_iconst (v := 1) hx hb dX2_takeLightest_108 (by decide) ?_
      refine lv_isub hx hb dX2_takeLightest_109 ?_
      cases hF
      subst hQ
      exact ct_iret hx hb hr hlocks hW.1 hW.2.2 dX2_takeLightest_110
  have hJ68 : ∀ (m_nextKind_68 : Int32) (m_nextJoined_68 : Int32), fJoiner_takeLightest_J68 m_sorted m_nextKind_68 m_nextJoined_68 = some (rv, m_nextKind', m_nextJoined') → ∀ (H : Heap) (locs : List Loc), WS D A s [ob a_self 2 [Value.ref a_weights, Value.ref a_parents, Value.ref a_depths, Value.ref a_sorted, Value.ref a_starts, Value.int m_kinds, Value.int m_nextKind_68, Value.int m_nextJoined_68, Value.int m_nodes], ia cI a_weights 516 m_weights, ia cI a_sorted 258 m_sorted] H locs → ∀ ls : Array Slot, lv_has ls 3 [(0, .ref a_self)] → W p l e (headSpec wsX2_takeLightest rmJoiner_takeLightest).room s m args below meth c H locs 0 0 Q (F0 m 68 ls []) := by
    intro m_nextKind_68 m_nextJoined_68 hF H locs hW ls hl
    unfold fJoiner_takeLightest_J68 at hF
    refine lv_aload_n hx hb dX2_takeLightest_68 rfl (lv_at hl 0 rfl) ?_
    refine lv_dup hx hb dX2_takeLightest_69 rfl ?_
    refine va_get (D := D) (ci := 2) (v := .int m_nextKind_68) (C := RX2) (T := TX2) (N := 9) hx hb hts hi2 hown hK.1 hW.1 0 rfl rfl 6 (by decide) hw1 (fun _ h9 => h9) rfl dX2_takeLightest_70 ?_
    refine lv_iconst (v := 1) hx hb dX2_takeLightest_73 (by decide) ?_
    refine lv_iadd hx hb dX2_takeLightest_74 ?_
    refine va_put (D := D) (ci := 2) (v := .int (m_nextKind_68 + (1 : Int32))) (ty := .int) (C := RX2) (T := TX2) (N := 9) hx hb hts hi2 tyX2 tyX2_ok nmX2 hown hK.1 hW.1 hW.2.1 hW.2.2 0 rfl rfl 6 (by decide) hw1 (fun _ h9 => h9) rfl (by decide +kernel) rfl rfl (Nat.le_of_ble_eq_true rfl) dX2_takeLightest_75 (fun H locs hP hD hS => ?_)
    have hW : WS D A s [ob a_self 2 [Value.ref a_weights, Value.ref a_parents, Value.ref a_depths, Value.ref a_sorted, Value.ref a_starts, Value.int m_kinds, Value.int (m_nextKind_68 + (1 : Int32)), Value.int m_nextJoined_68, Value.int m_nodes], ia cI a_weights 516 m_weights, ia cI a_sorted 258 m_sorted] H locs := ⟨hP, hD, hS⟩
    refine lv_aload_n hx hb dX2_takeLightest_78 rfl (lv_at hl 0 rfl) ?_
    refine va_get (D := D) (ci := 2) (v := .ref a_sorted) (C := RX2) (T := TX2) (N := 9) hx hb hts hi2 hown hK.1 hW.1 0 rfl rfl 3 (by decide) hw2 (fun _ h9 => h9) rfl dX2_takeLightest_79 ?_
    refine lv_aload_n hx hb dX2_takeLightest_82 rfl (lv_at hl 0 rfl) ?_
    refine va_get (D := D) (ci := 2) (v := .int (m_nextKind_68 + (1 : Int32))) (C := RX2) (T := TX2) (N := 9) hx hb hts hi2 hown hK.1 hW.1 0 rfl rfl 6 (by decide) hw1 (fun _ h9 => h9) rfl dX2_takeLightest_83 ?_
    refine lv_iconst (v := 1) hx hb dX2_takeLightest_86 (by decide) ?_
    refine lv_isub hx hb dX2_takeLightest_87 ?_
    obtain ⟨g88, hF⟩ := gdI_some hF
    refine va_iald hx hb hK.1 hW.1 2 0 rfl rfl g88 dX2_takeLightest_88 ?_
    cases hF
    subst hQ
    exact ct_iret hx hb hr hlocks hW.1 hW.2.2 dX2_takeLightest_89
  have hJ33 : ∀ (x1_33 : Int32) (m_nextKind_33 : Int32) (m_nextJoined_33 : Int32) (t0_33 : Int32), fJoiner_takeLightest_J33 m_weights m_sorted x1_33 m_nextKind_33 m_nextJoined_33 t0_33 = some (rv, m_nextKind', m_nextJoined') → ∀ (H : Heap) (locs : List Loc), WS D A s [ob a_self 2 [Value.ref a_weights, Value.ref a_parents, Value.ref a_depths, Value.ref a_sorted, Value.ref a_starts, Value.int m_kinds, Value.int m_nextKind_33, Value.int m_nextJoined_33, Value.int m_nodes], ia cI a_weights 516 m_weights, ia cI a_sorted 258 m_sorted] H locs → ∀ ls : Array Slot, lv_has ls 3 [(0, .ref a_self), (1, .int x1_33)] → W p l e (headSpec wsX2_takeLightest rmJoiner_takeLightest).room s m args below meth c H locs 0 0 Q (F0 m 33 ls [.int t0_33]) := by
    intro x1_33 m_nextKind_33 m_nextJoined_33 t0_33 hF H locs hW ls hl
    unfold fJoiner_takeLightest_J33 at hF
    refine lv_istore_n (lv' := [(2, .int t0_33), (0, .ref a_self), (1, .int x1_33)]) hx hb dX2_takeLightest_33 rfl hl (by decide) rfl (fun ls hl => ?_)
    refine lv_iload_n hx hb dX2_takeLightest_34 rfl (lv_at hl 2 rfl) ?_
    refine lv_if_eq (tgt := 90) hx hb dX2_takeLightest_35 (by decide) (fun c35 => ?_) (fun c35 => ?_)
    · rw [if_pos c35] at hF
      exact hJ90 _ _ _ hF _ _ hW _ (lv_sub hl [1, 0] rfl)
    · rw [if_neg c35] at hF
      refine lv_iload_n hx hb dX2_takeLightest_38 rfl (lv_at hl 0 rfl) ?_
      refine lv_if_eq (tgt := 68) hx hb dX2_takeLightest_39 (by decide) (fun c39 => ?_) (fun c39 => ?_)
      · rw [if_pos c39] at hF
        exact hJ68 _ _ hF _ _ hW _ (lv_sub hl [1] rfl)
      · rw [if_neg c39] at hF
        refine lv_aload_n hx hb dX2_takeLightest_42 rfl (lv_at hl 1 rfl) ?_
        refine va_get (D := D) (ci := 2) (v := .ref a_weights) (C := RX2) (T := TX2) (N := 9) hx hb hts hi2 hown hK.1 hW.1 0 rfl rfl 0 (by decide) hw3 (fun _ h9 => h9) rfl dX2_takeLightest_43 ?_
        refine lv_aload_n hx hb dX2_takeLightest_46 rfl (lv_at hl 1 rfl) ?_
        refine va_get (D := D) (ci := 2) (v := .ref a_sorted) (C := RX2) (T := TX2) (N := 9) hx hb hts hi2 hown hK.1 hW.1 0 rfl rfl 3 (by decide) hw2 (fun _ h9 => h9) rfl dX2_takeLightest_47 ?_
        refine lv_aload_n hx hb dX2_takeLightest_50 rfl (lv_at hl 1 rfl) ?_
        refine va_get (D := D) (ci := 2) (v := .int m_nextKind_33) (C := RX2) (T := TX2) (N := 9) hx hb hts hi2 hown hK.1 hW.1 0 rfl rfl 6 (by decide) hw1 (fun _ h9 => h9) rfl dX2_takeLightest_51 ?_
        obtain ⟨g54, hF⟩ := gdI_some hF
        refine va_iald hx hb hK.1 hW.1 2 0 rfl rfl g54 dX2_takeLightest_54 ?_
        obtain ⟨g55, hF⟩ := gdI_some hF
        refine va_iald hx hb hK.1 hW.1 1 0 rfl rfl g55 dX2_takeLightest_55 ?_
        refine lv_aload_n hx hb dX2_takeLightest_56 rfl (lv_at hl 1 rfl) ?_
        refine va_get (D := D) (ci := 2) (v := .ref a_weights) (C := RX2) (T := TX2) (N := 9) hx hb hts hi2 hown hK.1 hW.1 0 rfl rfl 0 (by decide) hw3 (fun _ h9 => h9) rfl dX2_takeLightest_57 ?_
        refine lv_aload_n hx hb dX2_takeLightest_60 rfl (lv_at hl 1 rfl) ?_
        refine va_get (D := D) (ci := 2) (v := .int m_nextJoined_33) (C := RX2) (T := TX2) (N := 9) hx hb hts hi2 hown hK.1 hW.1 0 rfl rfl 7 (by decide) hw0 (fun _ h9 => h9) rfl dX2_takeLightest_61 ?_
        obtain ⟨g64, hF⟩ := gdI_some hF
        refine va_iald hx hb hK.1 hW.1 1 0 rfl rfl g64 dX2_takeLightest_64 ?_
        refine lv_icmp_gt (tgt := 90) hx hb dX2_takeLightest_65 (by decide) (fun c65 => ?_) (fun c65 => ?_)
        · rw [if_pos c65] at hF
          exact hJ90 _ _ _ hF _ _ hW _ (lv_sub hl [1, 0] rfl)
        · rw [if_neg c65] at hF
          exact hJ68 _ _ hF _ _ hW _ (lv_sub hl [1] rfl)
  have hJ16 : ∀ (m_nextKind_16 : Int32) (m_nextJoined_16 : Int32) (t0_16 : Int32), fJoiner_takeLightest_J16 m_nodes m_weights m_sorted m_nextKind_16 m_nextJoined_16 t0_16 = some (rv, m_nextKind', m_nextJoined') → ∀ (H : Heap) (locs : List Loc), WS D A s [ob a_self 2 [Value.ref a_weights, Value.ref a_parents, Value.ref a_depths, Value.ref a_sorted, Value.ref a_starts, Value.int m_kinds, Value.int m_nextKind_16, Value.int m_nextJoined_16, Value.int m_nodes], ia cI a_weights 516 m_weights, ia cI a_sorted 258 m_sorted] H locs → ∀ ls : Array Slot, lv_has ls 3 [(0, .ref a_self)] → W p l e (headSpec wsX2_takeLightest rmJoiner_takeLightest).room s m args below meth c H locs 0 0 Q (F0 m 16 ls [.int t0_16]) := by
    intro m_nextKind_16 m_nextJoined_16 t0_16 hF H locs hW ls hl
    unfold fJoiner_takeLightest_J16 at hF
    refine lv_istore_n (lv' := [(1, .int t0_16), (0, .ref a_self)]) hx hb dX2_takeLightest_16 rfl hl (by decide) rfl (fun ls hl => ?_)
    refine lv_aload_n hx hb dX2_takeLightest_17 rfl (lv_at hl 1 rfl) ?_
    refine va_get (D := D) (ci := 2) (v := .int m_nextJoined_16) (C := RX2) (T := TX2) (N := 9) hx hb hts hi2 hown hK.1 hW.1 0 rfl rfl 7 (by decide) hw0 (fun _ h9 => h9) rfl dX2_takeLightest_18 ?_
    refine lv_aload_n hx hb dX2_takeLightest_21 rfl (lv_at hl 1 rfl) ?_
    refine va_get (D := D) (ci := 2) (v := .int m_nodes) (C := RX2) (T := TX2) (N := 9) hx hb hts hi2 hown hK.1 hW.1 0 rfl rfl 8 (by decide) hw4 (fun _ h9 => h9) rfl dX2_takeLightest_22 ?_
    refine lv_icmp_ge (tgt := 32) hx hb dX2_takeLightest_25 (by decide) (fun c25 => ?_) (fun c25 => ?_)
    · rw [if_pos c25] at hF
      refine lv_iconst (v := 0) hx hb dX2_takeLightest_32 (by decide) ?_
      exact hJ33 _ _ _ _ hF _ _ hW _ (lv_sub hl [1, 0] rfl)
    · rw [if_neg c25] at hF
      refine lv_iconst (v := 1) hx hb dX2_takeLightest_28 (by decide) ?_
      refine lv_goto (tgt := 33) hx hb dX2_takeLightest_29 (by decide) ?_
      exact hJ33 _ _ _ _ hF _ _ hW _ (lv_sub hl [1, 0] rfl)
  refine lv_aload_n hx hb dX2_takeLightest_0 rfl (lv_at hl 0 rfl) ?_
  refine va_get (D := D) (ci := 2) (v := .int m_nextKind) (C := RX2) (T := TX2) (N := 9) hx hb hts hi2 hown hK.1 hW.1 0 rfl rfl 6 (by decide) hw1 (fun _ h9 => h9) rfl dX2_takeLightest_1 ?_
  refine lv_aload_n hx hb dX2_takeLightest_4 rfl (lv_at hl 0 rfl) ?_
  refine va_get (D := D) (ci := 2) (v := .int m_kinds) (C := RX2) (T := TX2) (N := 9) hx hb hts hi2 hown hK.1 hW.1 0 rfl rfl 5 (by decide) hw5 (fun _ h9 => h9) rfl dX2_takeLightest_5 ?_
  refine lv_icmp_ge (tgt := 15) hx hb dX2_takeLightest_8 (by decide) (fun c8 => ?_) (fun c8 => ?_)
  · rw [if_pos c8] at hF
    refine lv_iconst (v := 0) hx hb dX2_takeLightest_15 (by decide) ?_
    exact hJ16 _ _ _ hF _ _ hW _ (lv_sub hl [0] rfl)
  · rw [if_neg c8] at hF
    refine lv_iconst (v := 1) hx hb dX2_takeLightest_11 (by decide) ?_
    refine lv_goto (tgt := 16) hx hb dX2_takeLightest_12 (by decide) ?_
    exact hJ16 _ _ _ hF _ _ hW _ (lv_sub hl [0] rfl)
abbrev rmJoiner_joinAll : Room := { frames := 1, cells := 0, slots := 0, locals := 22 }
set_option maxHeartbeats 4000000 in
set_option maxRecDepth 100000 in
theorem kJoiner_joinAll (l : Launch) (D : va_G) (cI cZ cO cG : ClassId) (a_self : Nat) (a_weights : Nat) (a_parents : Nat) (a_depths : Nat) (a_sorted : Nat) (a_starts : Nat) (m_kinds : Int32) (m_nextKind : Int32) (m_nextJoined : Int32) (m_nodes : Int32) (m_weights : Nat → Int32) (m_parents : Nat → Int32) (m_sorted : Nat → Int32) {m_nextKind' : Int32} {m_nextJoined' : Int32} {m_nodes' : Int32} {m_weights' : Nat → Int32} {m_parents' : Nat → Int32} (hF : fJoiner_joinAll m_kinds m_weights m_parents m_sorted = some (m_nextKind', m_nextJoined', m_nodes', m_weights', m_parents')) : CT l yX2_joinAll wsX2_joinAll rmJoiner_joinAll D (tysG cI cZ cO cG) [.ref a_self] [ob a_self 2 [Value.ref a_weights, Value.ref a_parents, Value.ref a_depths, Value.ref a_sorted, Value.ref a_starts, Value.int m_kinds, Value.int m_nextKind, Value.int m_nextJoined, Value.int m_nodes], ia cI a_weights 516 m_weights, ia cI a_parents 516 m_parents, ia cI a_sorted 258 m_sorted] none [ob a_self 2 [Value.ref a_weights, Value.ref a_parents, Value.ref a_depths, Value.ref a_sorted, Value.ref a_starts, Value.int m_kinds, Value.int m_nextKind', Value.int m_nextJoined', Value.int m_nodes'], ia cI a_weights 516 m_weights', ia cI a_parents 516 m_parents', ia cI a_sorted 258 m_sorted] := by
  refine CT.of (cc := cX2_joinAll) (maxL := 4) (ret := none) (by decide) rfl (Nat.le_of_ble_eq_true rfl) ?_
  intro p e s m below meth c A ls hx hb hr hml hts hown hlocks hK hA hP hD hS hl
  generalize hargs : ([.ref a_self] : List Value).toArray = args at hts ⊢
  generalize hQ : MQ below (ctQ D none [ob a_self 2 [Value.ref a_weights, Value.ref a_parents, Value.ref a_depths, Value.ref a_sorted, Value.ref a_starts, Value.int m_kinds, Value.int m_nextKind', Value.int m_nextJoined', Value.int m_nodes'], ia cI a_weights 516 m_weights', ia cI a_parents 516 m_parents', ia cI a_sorted 258 m_sorted] A) args s 0 0 A = Q
  have hl : lv_has ls 4 [(0, .ref a_self)] := hl
  have hW : WS D A s [ob a_self 2 [Value.ref a_weights, Value.ref a_parents, Value.ref a_depths, Value.ref a_sorted, Value.ref a_starts, Value.int m_kinds, Value.int m_nextKind, Value.int m_nextJoined, Value.int m_nodes], ia cI a_weights 516 m_weights, ia cI a_parents 516 m_parents, ia cI a_sorted 258 m_sorted] s.heap [] := ⟨hP, hD, hS⟩
  clear hP hD hS
  unfold fJoiner_joinAll at hF
  have hw0 := hts (Cond.fieldLink RX2 31 "MoveFronts$Joiner" "nextKind" "I") (by decide +kernel)
  have hw1 := hts (Cond.fieldLink RX2 27 "MoveFronts$Joiner" "kinds" "I") (by decide +kernel)
  have hw2 := hts (Cond.fieldLink RX2 34 "MoveFronts$Joiner" "nextJoined" "I") (by decide +kernel)
  have hw3 := hts (Cond.fieldLink RX2 37 "MoveFronts$Joiner" "nodes" "I") (by decide +kernel)
  have hw4 := hts (Cond.fieldLink RX2 11 "MoveFronts$Joiner" "weights" "[I") (by decide +kernel)
  have hw5 := hts (Cond.fieldLink RX2 15 "MoveFronts$Joiner" "parents" "[I") (by decide +kernel)
  have hi2 : ∀ w ∈ u_ws RX2 TX2 9, w ∈ wsX2_joinAll := by decide +kernel
  refine lv_aload_n hx hb dX2_joinAll_0 rfl (lv_at hl 0 rfl) ?_
  refine lv_iconst (v := 0) hx hb dX2_joinAll_1 (by decide) ?_
  refine va_put (D := D) (ci := 2) (v := .int (0 : Int32)) (ty := .int) (C := RX2) (T := TX2) (N := 9) hx hb hts hi2 tyX2 tyX2_ok nmX2 hown hK.1 hW.1 hW.2.1 hW.2.2 0 rfl rfl 6 (by decide) hw0 (fun _ h9 => h9) rfl (by decide +kernel) rfl rfl (Nat.le_of_ble_eq_true rfl) dX2_joinAll_2 (fun H locs hP hD hS => ?_)
  have hW : WS D A s [ob a_self 2 [Value.ref a_weights, Value.ref a_parents, Value.ref a_depths, Value.ref a_sorted, Value.ref a_starts, Value.int m_kinds, Value.int (0 : Int32), Value.int m_nextJoined, Value.int m_nodes], ia cI a_weights 516 m_weights, ia cI a_parents 516 m_parents, ia cI a_sorted 258 m_sorted] H locs := ⟨hP, hD, hS⟩
  refine lv_aload_n hx hb dX2_joinAll_5 rfl (lv_at hl 0 rfl) ?_
  refine lv_aload_n hx hb dX2_joinAll_6 rfl (lv_at hl 0 rfl) ?_
  refine va_get (D := D) (ci := 2) (v := .int m_kinds) (C := RX2) (T := TX2) (N := 9) hx hb hts hi2 hown hK.1 hW.1 0 rfl rfl 5 (by decide) hw1 (fun _ h9 => h9) rfl dX2_joinAll_7 ?_
  refine va_put (D := D) (ci := 2) (v := .int m_kinds) (ty := .int) (C := RX2) (T := TX2) (N := 9) hx hb hts hi2 tyX2 tyX2_ok nmX2 hown hK.1 hW.1 hW.2.1 hW.2.2 0 rfl rfl 7 (by decide) hw2 (fun _ h9 => h9) rfl (by decide +kernel) rfl rfl (Nat.le_of_ble_eq_true rfl) dX2_joinAll_10 (fun H locs hP hD hS => ?_)
  have hW : WS D A s [ob a_self 2 [Value.ref a_weights, Value.ref a_parents, Value.ref a_depths, Value.ref a_sorted, Value.ref a_starts, Value.int m_kinds, Value.int (0 : Int32), Value.int m_kinds, Value.int m_nodes], ia cI a_weights 516 m_weights, ia cI a_parents 516 m_parents, ia cI a_sorted 258 m_sorted] H locs := ⟨hP, hD, hS⟩
  refine lv_aload_n hx hb dX2_joinAll_13 rfl (lv_at hl 0 rfl) ?_
  refine lv_aload_n hx hb dX2_joinAll_14 rfl (lv_at hl 0 rfl) ?_
  refine va_get (D := D) (ci := 2) (v := .int m_kinds) (C := RX2) (T := TX2) (N := 9) hx hb hts hi2 hown hK.1 hW.1 0 rfl rfl 5 (by decide) hw1 (fun _ h9 => h9) rfl dX2_joinAll_15 ?_
  refine va_put (D := D) (ci := 2) (v := .int m_kinds) (ty := .int) (C := RX2) (T := TX2) (N := 9) hx hb hts hi2 tyX2 tyX2_ok nmX2 hown hK.1 hW.1 hW.2.1 hW.2.2 0 rfl rfl 8 (by decide) hw3 (fun _ h9 => h9) rfl (by decide +kernel) rfl rfl (Nat.le_of_ble_eq_true rfl) dX2_joinAll_18 (fun H locs hP hD hS => ?_)
  have hW : WS D A s [ob a_self 2 [Value.ref a_weights, Value.ref a_parents, Value.ref a_depths, Value.ref a_sorted, Value.ref a_starts, Value.int m_kinds, Value.int (0 : Int32), Value.int m_kinds, Value.int m_kinds], ia cI a_weights 516 m_weights, ia cI a_parents 516 m_parents, ia cI a_sorted 258 m_sorted] H locs := ⟨hP, hD, hS⟩
  refine lv_iconst (v := 1) hx hb dX2_joinAll_21 (by decide) ?_
  refine lv_istore_n (lv' := [(1, .int (1 : Int32)), (0, .ref a_self)]) hx hb dX2_joinAll_22 rfl hl (by decide) rfl (fun ls hl => ?_)
  obtain ⟨m_nextKind_23ze, m_nextJoined_23ze, m_nodes_23ze, m_weights_23ze, m_parents_23ze, hI, hF⟩ := bd5_some hF
  obtain ⟨nn, hI⟩ := itrO_some hI
  have hX23 : ∀ (m_nextKind_23z : Int32) (m_nextJoined_23z : Int32) (m_nodes_23z : Int32) (m_weights_23z : Nat → Int32) (m_parents_23z : Nat → Int32), (m_nextKind_23z, m_nextJoined_23z, m_nodes_23z, m_weights_23z, m_parents_23z) = (m_nextKind_23ze, m_nextJoined_23ze, m_nodes_23ze, m_weights_23ze, m_parents_23ze) → ∀ (H : Heap) (locs : List Loc), WS D A s [ob a_self 2 [Value.ref a_weights, Value.ref a_parents, Value.ref a_depths, Value.ref a_sorted, Value.ref a_starts, Value.int m_kinds, Value.int m_nextKind_23z, Value.int m_nextJoined_23z, Value.int m_nodes_23z], ia cI a_weights 516 m_weights_23z, ia cI a_parents 516 m_parents_23z, ia cI a_sorted 258 m_sorted] H locs → ∀ ls : Array Slot, lv_has ls 4 [] → W p l e (headSpec wsX2_joinAll rmJoiner_joinAll).room s m args below meth c H locs 0 0 Q (F0 m 99 ls []) := by
    intro m_nextKind_23z m_nextJoined_23z m_nodes_23z m_weights_23z m_parents_23z he H locs hW ls hl
    obtain ⟨hz0, hy0⟩ := Prod.mk.inj he
    obtain ⟨hz1, hy1⟩ := Prod.mk.inj hy0
    obtain ⟨hz2, hy2⟩ := Prod.mk.inj hy1
    obtain ⟨hz3, hy3⟩ := Prod.mk.inj hy2
    subst hz0
    subst hz1
    subst hz2
    subst hz3
    subst hy3
    cases hF
    subst hQ
    exact ct_vret hx hb hr hlocks hW.1 hW.2.2 dX2_joinAll_99
  have hL23 : ∀ (n23 : Nat) (x1_23 : Int32) (m_nextKind_23 : Int32) (m_nextJoined_23 : Int32) (m_nodes_23 : Int32) (m_weights_23 : Nat → Int32) (m_parents_23 : Nat → Int32), itr (un6 (fJoiner_joinAll_L23 m_kinds m_sorted)) n23 (x1_23, m_nextKind_23, m_nextJoined_23, m_nodes_23, m_weights_23, m_parents_23) = some (m_nextKind_23ze, m_nextJoined_23ze, m_nodes_23ze, m_weights_23ze, m_parents_23ze) → ∀ (H : Heap) (locs : List Loc), WS D A s [ob a_self 2 [Value.ref a_weights, Value.ref a_parents, Value.ref a_depths, Value.ref a_sorted, Value.ref a_starts, Value.int m_kinds, Value.int m_nextKind_23, Value.int m_nextJoined_23, Value.int m_nodes_23], ia cI a_weights 516 m_weights_23, ia cI a_parents 516 m_parents_23, ia cI a_sorted 258 m_sorted] H locs → ∀ ls : Array Slot, lv_has ls 4 [(0, .ref a_self), (1, .int x1_23)] → W p l e (headSpec wsX2_joinAll rmJoiner_joinAll).room s m args below meth c H locs 0 0 Q (F0 m 23 ls []) := by
    intro n23
    induction n23 with
    | zero => intro x1_23 m_nextKind_23 m_nextJoined_23 m_nodes_23 m_weights_23 m_parents_23 hI; cases hI
    | succ n23 ih23 =>
      intro x1_23 m_nextKind_23 m_nextJoined_23 m_nodes_23 m_weights_23 m_parents_23 hI H locs hW ls hl
      obtain ⟨sr23, hF, hN23⟩ := itr_succ hI
      have hF : fJoiner_joinAll_L23 m_kinds m_sorted x1_23 m_nextKind_23 m_nextJoined_23 m_nodes_23 m_weights_23 m_parents_23 = some sr23 := hF
      unfold fJoiner_joinAll_L23 at hF
      refine lv_iload_n hx hb dX2_joinAll_23 rfl (lv_at hl 1 rfl) ?_
      refine lv_aload_n hx hb dX2_joinAll_24 rfl (lv_at hl 0 rfl) ?_
      refine va_get (D := D) (ci := 2) (v := .int m_kinds) (C := RX2) (T := TX2) (N := 9) hx hb hts hi2 hown hK.1 hW.1 0 rfl rfl 5 (by decide) hw1 (fun _ h9 => h9) rfl dX2_joinAll_25 ?_
      refine lv_icmp_ge (tgt := 99) hx hb dX2_joinAll_28 (by decide) (fun c28 => ?_) (fun c28 => ?_)
      · rw [if_pos c28] at hF
        cases hF
        exact hX23 _ _ _ _ _ (itr_out hN23) _ _ hW _ (lv_sub hl [] rfl)
      · rw [if_neg c28] at hF
        refine lv_aload_n hx hb dX2_joinAll_31 rfl (lv_at hl 0 rfl) ?_
        obtain ⟨r_32, m_nextKind_32, m_nextJoined_32, e32, hF⟩ := bd3_some hF
        refine ctV (wn := [ob a_self 2 [Value.ref a_weights, Value.ref a_parents, Value.ref a_depths, Value.ref a_sorted, Value.ref a_starts, Value.int m_kinds, Value.int m_nextKind_32, Value.int m_nextJoined_32, Value.int m_nodes_23], ia cI a_weights 516 m_weights_23, ia cI a_parents 516 m_parents_23, ia cI a_sorted 258 m_sorted]) (r := (RX2, TX2, 9)) (As := []) (rest := []) hx hb hml hown hts hK hW hA hl.1 (kJoiner_takeLightest l D cI cZ cO cG a_self a_weights a_parents a_depths a_sorted a_starts m_kinds m_nextKind_23 m_nextJoined_23 m_nodes_23 m_weights_23 m_sorted e32) (cwV 0 hts gX2_joinAll_X2_takeLightest rfl rfl rfl (by decide +kernel) ⟨Nat.le_of_ble_eq_true rfl, Nat.le_of_ble_eq_true rfl⟩) 2 0 rfl rfl [0, 1, 3] [2] 4 rfl rfl rfl rfl [ia cI a_parents 516 m_parents_23] rfl rfl rfl rfl rfl (Nat.le_of_ble_eq_true rfl) rfl ⟨Nat.zero_le _, Nat.zero_le _⟩ dX2_joinAll_32 (fun H locs hW => ?_)
        refine lv_istore_n (lv' := [(2, .int r_32), (0, .ref a_self), (1, .int x1_23)]) hx hb dX2_joinAll_35 rfl hl (by decide) rfl (fun ls hl => ?_)
        refine lv_aload_n hx hb dX2_joinAll_36 rfl (lv_at hl 1 rfl) ?_
        obtain ⟨r_37, m_nextKind_37, m_nextJoined_37, e37, hF⟩ := bd3_some hF
        refine ctV (wn := [ob a_self 2 [Value.ref a_weights, Value.ref a_parents, Value.ref a_depths, Value.ref a_sorted, Value.ref a_starts, Value.int m_kinds, Value.int m_nextKind_37, Value.int m_nextJoined_37, Value.int m_nodes_23], ia cI a_weights 516 m_weights_23, ia cI a_parents 516 m_parents_23, ia cI a_sorted 258 m_sorted]) (r := (RX2, TX2, 9)) (As := []) (rest := []) hx hb hml hown hts hK hW hA hl.1 (kJoiner_takeLightest l D cI cZ cO cG a_self a_weights a_parents a_depths a_sorted a_starts m_kinds m_nextKind_32 m_nextJoined_32 m_nodes_23 m_weights_23 m_sorted e37) (cwV 0 hts gX2_joinAll_X2_takeLightest rfl rfl rfl (by decide +kernel) ⟨Nat.le_of_ble_eq_true rfl, Nat.le_of_ble_eq_true rfl⟩) 2 0 rfl rfl [0, 1, 3] [2] 4 rfl rfl rfl rfl [ia cI a_parents 516 m_parents_23] rfl rfl rfl rfl rfl (Nat.le_of_ble_eq_true rfl) rfl ⟨Nat.zero_le _, Nat.zero_le _⟩ dX2_joinAll_37 (fun H locs hW => ?_)
        refine lv_istore_n (lv' := [(3, .int r_37), (2, .int r_32), (0, .ref a_self), (1, .int x1_23)]) hx hb dX2_joinAll_40 rfl hl (by decide) rfl (fun ls hl => ?_)
        refine lv_aload_n hx hb dX2_joinAll_41 rfl (lv_at hl 2 rfl) ?_
        refine va_get (D := D) (ci := 2) (v := .ref a_weights) (C := RX2) (T := TX2) (N := 9) hx hb hts hi2 hown hK.1 hW.1 0 rfl rfl 0 (by decide) hw4 (fun _ h9 => h9) rfl dX2_joinAll_42 ?_
        refine lv_aload_n hx hb dX2_joinAll_45 rfl (lv_at hl 2 rfl) ?_
        refine va_get (D := D) (ci := 2) (v := .int m_nodes_23) (C := RX2) (T := TX2) (N := 9) hx hb hts hi2 hown hK.1 hW.1 0 rfl rfl 8 (by decide) hw3 (fun _ h9 => h9) rfl dX2_joinAll_46 ?_
        refine lv_aload_n hx hb dX2_joinAll_49 rfl (lv_at hl 2 rfl) ?_
        refine va_get (D := D) (ci := 2) (v := .ref a_weights) (C := RX2) (T := TX2) (N := 9) hx hb hts hi2 hown hK.1 hW.1 0 rfl rfl 0 (by decide) hw4 (fun _ h9 => h9) rfl dX2_joinAll_50 ?_
        refine lv_iload_n hx hb dX2_joinAll_53 rfl (lv_at hl 1 rfl) ?_
        obtain ⟨g54, hF⟩ := gdI_some hF
        refine va_iald hx hb hK.1 hW.1 1 0 rfl rfl g54 dX2_joinAll_54 ?_
        refine lv_aload_n hx hb dX2_joinAll_55 rfl (lv_at hl 2 rfl) ?_
        refine va_get (D := D) (ci := 2) (v := .ref a_weights) (C := RX2) (T := TX2) (N := 9) hx hb hts hi2 hown hK.1 hW.1 0 rfl rfl 0 (by decide) hw4 (fun _ h9 => h9) rfl dX2_joinAll_56 ?_
        refine lv_iload_n hx hb dX2_joinAll_59 rfl (lv_at hl 0 rfl) ?_
        obtain ⟨g60, hF⟩ := gdI_some hF
        refine va_iald hx hb hK.1 hW.1 1 0 rfl rfl g60 dX2_joinAll_60 ?_
        refine lv_iadd hx hb dX2_joinAll_61 ?_
        obtain ⟨g62, hF⟩ := gdI_some hF
        refine va_iast hx hb hK.1 hW.1 hW.2.1 hW.2.2 1 0 rfl rfl g62 dX2_joinAll_62 (fun H locs hP hD hS => ?_)
        have hW : WS D A s [ob a_self 2 [Value.ref a_weights, Value.ref a_parents, Value.ref a_depths, Value.ref a_sorted, Value.ref a_starts, Value.int m_kinds, Value.int m_nextKind_37, Value.int m_nextJoined_37, Value.int m_nodes_23], ia cI a_weights 516 (upd m_weights_23 m_nodes_23.toNatClampNeg ((m_weights_23 r_32.toNatClampNeg) + (m_weights_23 r_37.toNatClampNeg))), ia cI a_parents 516 m_parents_23, ia cI a_sorted 258 m_sorted] H locs := ⟨hP, hD, hS⟩
        refine lv_aload_n hx hb dX2_joinAll_63 rfl (lv_at hl 2 rfl) ?_
        refine va_get (D := D) (ci := 2) (v := .ref a_parents) (C := RX2) (T := TX2) (N := 9) hx hb hts hi2 hown hK.1 hW.1 0 rfl rfl 1 (by decide) hw5 (fun _ h9 => h9) rfl dX2_joinAll_64 ?_
        refine lv_iload_n hx hb dX2_joinAll_67 rfl (lv_at hl 1 rfl) ?_
        refine lv_aload_n hx hb dX2_joinAll_68 rfl (lv_at hl 2 rfl) ?_
        refine va_get (D := D) (ci := 2) (v := .int m_nodes_23) (C := RX2) (T := TX2) (N := 9) hx hb hts hi2 hown hK.1 hW.1 0 rfl rfl 8 (by decide) hw3 (fun _ h9 => h9) rfl dX2_joinAll_69 ?_
        obtain ⟨g72, hF⟩ := gdI_some hF
        refine va_iast hx hb hK.1 hW.1 hW.2.1 hW.2.2 2 0 rfl rfl g72 dX2_joinAll_72 (fun H locs hP hD hS => ?_)
        have hW : WS D A s [ob a_self 2 [Value.ref a_weights, Value.ref a_parents, Value.ref a_depths, Value.ref a_sorted, Value.ref a_starts, Value.int m_kinds, Value.int m_nextKind_37, Value.int m_nextJoined_37, Value.int m_nodes_23], ia cI a_weights 516 (upd m_weights_23 m_nodes_23.toNatClampNeg ((m_weights_23 r_32.toNatClampNeg) + (m_weights_23 r_37.toNatClampNeg))), ia cI a_parents 516 (upd m_parents_23 r_32.toNatClampNeg m_nodes_23), ia cI a_sorted 258 m_sorted] H locs := ⟨hP, hD, hS⟩
        refine lv_aload_n hx hb dX2_joinAll_73 rfl (lv_at hl 2 rfl) ?_
        refine va_get (D := D) (ci := 2) (v := .ref a_parents) (C := RX2) (T := TX2) (N := 9) hx hb hts hi2 hown hK.1 hW.1 0 rfl rfl 1 (by decide) hw5 (fun _ h9 => h9) rfl dX2_joinAll_74 ?_
        refine lv_iload_n hx hb dX2_joinAll_77 rfl (lv_at hl 0 rfl) ?_
        refine lv_aload_n hx hb dX2_joinAll_78 rfl (lv_at hl 2 rfl) ?_
        refine va_get (D := D) (ci := 2) (v := .int m_nodes_23) (C := RX2) (T := TX2) (N := 9) hx hb hts hi2 hown hK.1 hW.1 0 rfl rfl 8 (by decide) hw3 (fun _ h9 => h9) rfl dX2_joinAll_79 ?_
        obtain ⟨g82, hF⟩ := gdI_some hF
        refine va_iast hx hb hK.1 hW.1 hW.2.1 hW.2.2 2 0 rfl rfl g82 dX2_joinAll_82 (fun H locs hP hD hS => ?_)
        have hW : WS D A s [ob a_self 2 [Value.ref a_weights, Value.ref a_parents, Value.ref a_depths, Value.ref a_sorted, Value.ref a_starts, Value.int m_kinds, Value.int m_nextKind_37, Value.int m_nextJoined_37, Value.int m_nodes_23], ia cI a_weights 516 (upd m_weights_23 m_nodes_23.toNatClampNeg ((m_weights_23 r_32.toNatClampNeg) + (m_weights_23 r_37.toNatClampNeg))), ia cI a_parents 516 (upd (upd m_parents_23 r_32.toNatClampNeg m_nodes_23) r_37.toNatClampNeg m_nodes_23), ia cI a_sorted 258 m_sorted] H locs := ⟨hP, hD, hS⟩
        refine lv_aload_n hx hb dX2_joinAll_83 rfl (lv_at hl 2 rfl) ?_
        refine lv_dup hx hb dX2_joinAll_84 rfl ?_
        refine va_get (D := D) (ci := 2) (v := .int m_nodes_23) (C := RX2) (T := TX2) (N := 9) hx hb hts hi2 hown hK.1 hW.1 0 rfl rfl 8 (by decide) hw3 (fun _ h9 => h9) rfl dX2_joinAll_85 ?_
        refine lv_iconst (v := 1) hx hb dX2_joinAll_88 (by decide) ?_
        refine lv_iadd hx hb dX2_joinAll_89 ?_
        refine va_put (D := D) (ci := 2) (v := .int (m_nodes_23 + (1 : Int32))) (ty := .int) (C := RX2) (T := TX2) (N := 9) hx hb hts hi2 tyX2 tyX2_ok nmX2 hown hK.1 hW.1 hW.2.1 hW.2.2 0 rfl rfl 8 (by decide) hw3 (fun _ h9 => h9) rfl (by decide +kernel) rfl rfl (Nat.le_of_ble_eq_true rfl) dX2_joinAll_90 (fun H locs hP hD hS => ?_)
        have hW : WS D A s [ob a_self 2 [Value.ref a_weights, Value.ref a_parents, Value.ref a_depths, Value.ref a_sorted, Value.ref a_starts, Value.int m_kinds, Value.int m_nextKind_37, Value.int m_nextJoined_37, Value.int (m_nodes_23 + (1 : Int32))], ia cI a_weights 516 (upd m_weights_23 m_nodes_23.toNatClampNeg ((m_weights_23 r_32.toNatClampNeg) + (m_weights_23 r_37.toNatClampNeg))), ia cI a_parents 516 (upd (upd m_parents_23 r_32.toNatClampNeg m_nodes_23) r_37.toNatClampNeg m_nodes_23), ia cI a_sorted 258 m_sorted] H locs := ⟨hP, hD, hS⟩
        refine lv_iinc (v := (x1_23 + 1)) (lv' := [(1, .int (x1_23 + 1)), (3, .int r_37), (2, .int r_32), (0, .ref a_self)]) hx hb dX2_joinAll_93 hl (k := 3) rfl rfl (by decide) rfl (fun ls hl => ?_)
        refine lv_goto (tgt := 23) hx hb dX2_joinAll_96 (by decide) ?_
        cases hF
        exact ih23 _ _ _ _ _ _ (itr_in hN23) _ _ hW _ (lv_sub hl [3, 0] rfl)
  exact hL23 nn _ _ _ _ _ _ hI _ _ hW _ (lv_sub hl [1, 0] rfl)
abbrev rmJoiner_sortKinds : Room := { frames := 0, cells := 0, slots := 0, locals := 0 }
set_option maxHeartbeats 4000000 in
set_option maxRecDepth 100000 in
theorem kJoiner_sortKinds (l : Launch) (D : va_G) (cI cZ cO cG : ClassId) (a_self : Nat) (a_weights : Nat) (a_parents : Nat) (a_depths : Nat) (a_sorted : Nat) (a_starts : Nat) (m_kinds : Int32) (m_nextKind : Int32) (m_nextJoined : Int32) (m_nodes : Int32) (m_weights : Nat → Int32) (m_sorted : Nat → Int32) (m_starts : Nat → Int32) {m_sorted' : Nat → Int32} {m_starts' : Nat → Int32} (hF : fJoiner_sortKinds m_kinds m_weights m_sorted m_starts = some (m_sorted', m_starts')) : CT l yX2_sortKinds wsX2_sortKinds rmJoiner_sortKinds D (tysG cI cZ cO cG) [.ref a_self] [ob a_self 2 [Value.ref a_weights, Value.ref a_parents, Value.ref a_depths, Value.ref a_sorted, Value.ref a_starts, Value.int m_kinds, Value.int m_nextKind, Value.int m_nextJoined, Value.int m_nodes], ia cI a_weights 516 m_weights, ia cI a_sorted 258 m_sorted, ia cI a_starts 303 m_starts] none [ob a_self 2 [Value.ref a_weights, Value.ref a_parents, Value.ref a_depths, Value.ref a_sorted, Value.ref a_starts, Value.int m_kinds, Value.int m_nextKind, Value.int m_nextJoined, Value.int m_nodes], ia cI a_weights 516 m_weights, ia cI a_sorted 258 m_sorted', ia cI a_starts 303 m_starts'] := by
  refine CT.of (cc := cX2_sortKinds) (maxL := 3) (ret := none) (by decide) rfl (Nat.le_of_ble_eq_true rfl) ?_
  intro p e s m below meth c A ls hx hb hr hml hts hown hlocks hK hA hP hD hS hl
  generalize hargs : ([.ref a_self] : List Value).toArray = args at hts ⊢
  generalize hQ : MQ below (ctQ D none [ob a_self 2 [Value.ref a_weights, Value.ref a_parents, Value.ref a_depths, Value.ref a_sorted, Value.ref a_starts, Value.int m_kinds, Value.int m_nextKind, Value.int m_nextJoined, Value.int m_nodes], ia cI a_weights 516 m_weights, ia cI a_sorted 258 m_sorted', ia cI a_starts 303 m_starts'] A) args s 0 0 A = Q
  have hl : lv_has ls 3 [(0, .ref a_self)] := hl
  have hW : WS D A s [ob a_self 2 [Value.ref a_weights, Value.ref a_parents, Value.ref a_depths, Value.ref a_sorted, Value.ref a_starts, Value.int m_kinds, Value.int m_nextKind, Value.int m_nextJoined, Value.int m_nodes], ia cI a_weights 516 m_weights, ia cI a_sorted 258 m_sorted, ia cI a_starts 303 m_starts] s.heap [] := ⟨hP, hD, hS⟩
  clear hP hD hS
  unfold fJoiner_sortKinds at hF
  have hw0 := hts (Cond.fieldLink RX2 27 "MoveFronts$Joiner" "kinds" "I") (by decide +kernel)
  have hw1 := hts (Cond.fieldLink RX2 11 "MoveFronts$Joiner" "weights" "[I") (by decide +kernel)
  have hw2 := hts (Cond.fieldLink RX2 21 "MoveFronts$Joiner" "sorted" "[I") (by decide +kernel)
  have hw3 := hts (Cond.fieldLink RX2 24 "MoveFronts$Joiner" "starts" "[I") (by decide +kernel)
  have hi2 : ∀ w ∈ u_ws RX2 TX2 9, w ∈ wsX2_sortKinds := by decide +kernel
  refine lv_iconst (v := 0) hx hb dX2_sortKinds_0 (by decide) ?_
  refine lv_istore_n (lv' := [(1, .int (0 : Int32)), (0, .ref a_self)]) hx hb dX2_sortKinds_1 rfl hl (by decide) rfl (fun ls hl => ?_)
  obtain ⟨m_starts_2ze, hI, hF⟩ := bd1_some hF
  obtain ⟨nn, hI⟩ := itrO_some hI
  have hX2 : ∀ (m_starts_2z : Nat → Int32), m_starts_2z = m_starts_2ze → ∀ (H : Heap) (locs : List Loc), WS D A s [ob a_self 2 [Value.ref a_weights, Value.ref a_parents, Value.ref a_depths, Value.ref a_sorted, Value.ref a_starts, Value.int m_kinds, Value.int m_nextKind, Value.int m_nextJoined, Value.int m_nodes], ia cI a_weights 516 m_weights, ia cI a_sorted 258 m_sorted, ia cI a_starts 303 m_starts_2z] H locs → ∀ ls : Array Slot, lv_has ls 3 [(0, .ref a_self)] → W p l e (headSpec wsX2_sortKinds rmJoiner_sortKinds).room s m args below meth c H locs 0 0 Q (F0 m 24 ls []) := by
    intro m_starts_2z he H locs hW ls hl
    subst he
    refine lv_iconst (v := 0) hx hb dX2_sortKinds_24 (by decide) ?_
    refine lv_istore_n (lv' := [(1, .int (0 : Int32)), (0, .ref a_self)]) hx hb dX2_sortKinds_25 rfl hl (by decide) rfl (fun ls hl => ?_)
    obtain ⟨m_starts_26ze, hI, hF⟩ := bd1_some hF
    obtain ⟨nn, hI⟩ := itrO_some hI
    have hX26 : ∀ (m_starts_26z : Nat → Int32), m_starts_26z = m_starts_26ze → ∀ (H : Heap) (locs : List Loc), WS D A s [ob a_self 2 [Value.ref a_weights, Value.ref a_parents, Value.ref a_depths, Value.ref a_sorted, Value.ref a_starts, Value.int m_kinds, Value.int m_nextKind, Value.int m_nextJoined, Value.int m_nodes], ia cI a_weights 516 m_weights, ia cI a_sorted 258 m_sorted, ia cI a_starts 303 m_starts_26z] H locs → ∀ ls : Array Slot, lv_has ls 3 [(0, .ref a_self)] → W p l e (headSpec wsX2_sortKinds rmJoiner_sortKinds).room s m args below meth c H locs 0 0 Q (F0 m 57 ls []) := by
      intro m_starts_26z he H locs hW ls hl
      subst he
      refine lv_iconst (v := 1) hx hb dX2_sortKinds_57 (by decide) ?_
      refine lv_istore_n (lv' := [(1, .int (1 : Int32)), (0, .ref a_self)]) hx hb dX2_sortKinds_58 rfl hl (by decide) rfl (fun ls hl => ?_)
      obtain ⟨m_starts_59ze, hI, hF⟩ := bd1_some hF
      obtain ⟨nn, hI⟩ := itrO_some hI
      have hX59 : ∀ (m_starts_59z : Nat → Int32), m_starts_59z = m_starts_59ze → ∀ (H : Heap) (locs : List Loc), WS D A s [ob a_self 2 [Value.ref a_weights, Value.ref a_parents, Value.ref a_depths, Value.ref a_sorted, Value.ref a_starts, Value.int m_kinds, Value.int m_nextKind, Value.int m_nextJoined, Value.int m_nodes], ia cI a_weights 516 m_weights, ia cI a_sorted 258 m_sorted, ia cI a_starts 303 m_starts_59z] H locs → ∀ ls : Array Slot, lv_has ls 3 [(0, .ref a_self)] → W p l e (headSpec wsX2_sortKinds rmJoiner_sortKinds).room s m args below meth c H locs 0 0 Q (F0 m 91 ls []) := by
        intro m_starts_59z he H locs hW ls hl
        subst he
        refine lv_iconst (v := 0) hx hb dX2_sortKinds_91 (by decide) ?_
        refine lv_istore_n (lv' := [(1, .int (0 : Int32)), (0, .ref a_self)]) hx hb dX2_sortKinds_92 rfl hl (by decide) rfl (fun ls hl => ?_)
        obtain ⟨m_sorted_93ze, m_starts_93ze, hI, hF⟩ := bd2_some hF
        obtain ⟨nn, hI⟩ := itrO_some hI
        have hX93 : ∀ (m_sorted_93z : Nat → Int32) (m_starts_93z : Nat → Int32), (m_sorted_93z, m_starts_93z) = (m_sorted_93ze, m_starts_93ze) → ∀ (H : Heap) (locs : List Loc), WS D A s [ob a_self 2 [Value.ref a_weights, Value.ref a_parents, Value.ref a_depths, Value.ref a_sorted, Value.ref a_starts, Value.int m_kinds, Value.int m_nextKind, Value.int m_nextJoined, Value.int m_nodes], ia cI a_weights 516 m_weights, ia cI a_sorted 258 m_sorted_93z, ia cI a_starts 303 m_starts_93z] H locs → ∀ ls : Array Slot, lv_has ls 3 [] → W p l e (headSpec wsX2_sortKinds rmJoiner_sortKinds).room s m args below meth c H locs 0 0 Q (F0 m 136 ls []) := by
          intro m_sorted_93z m_starts_93z he H locs hW ls hl
          obtain ⟨hz0, hy0⟩ := Prod.mk.inj he
          subst hz0
          subst hy0
          cases hF
          subst hQ
          exact ct_vret hx hb hr hlocks hW.1 hW.2.2 dX2_sortKinds_136
        have hL93 : ∀ (n93 : Nat) (x1_93 : Int32) (m_sorted_93 : Nat → Int32) (m_starts_93 : Nat → Int32), itr (un3 (fJoiner_sortKinds_L93 m_kinds m_weights)) n93 (x1_93, m_sorted_93, m_starts_93) = some (m_sorted_93ze, m_starts_93ze) → ∀ (H : Heap) (locs : List Loc), WS D A s [ob a_self 2 [Value.ref a_weights, Value.ref a_parents, Value.ref a_depths, Value.ref a_sorted, Value.ref a_starts, Value.int m_kinds, Value.int m_nextKind, Value.int m_nextJoined, Value.int m_nodes], ia cI a_weights 516 m_weights, ia cI a_sorted 258 m_sorted_93, ia cI a_starts 303 m_starts_93] H locs → ∀ ls : Array Slot, lv_has ls 3 [(0, .ref a_self), (1, .int x1_93)] → W p l e (headSpec wsX2_sortKinds rmJoiner_sortKinds).room s m args below meth c H locs 0 0 Q (F0 m 93 ls []) := by
          intro n93
          induction n93 with
          | zero => intro x1_93 m_sorted_93 m_starts_93 hI; cases hI
          | succ n93 ih93 =>
            intro x1_93 m_sorted_93 m_starts_93 hI H locs hW ls hl
            obtain ⟨sr93, hF, hN93⟩ := itr_succ hI
            have hF : fJoiner_sortKinds_L93 m_kinds m_weights x1_93 m_sorted_93 m_starts_93 = some sr93 := hF
            unfold fJoiner_sortKinds_L93 at hF
            refine lv_iload_n hx hb dX2_sortKinds_93 rfl (lv_at hl 1 rfl) ?_
            refine lv_aload_n hx hb dX2_sortKinds_94 rfl (lv_at hl 0 rfl) ?_
            refine va_get (D := D) (ci := 2) (v := .int m_kinds) (C := RX2) (T := TX2) (N := 9) hx hb hts hi2 hown hK.1 hW.1 0 rfl rfl 5 (by decide) hw0 (fun _ h9 => h9) rfl dX2_sortKinds_95 ?_
            refine lv_icmp_ge (tgt := 136) hx hb dX2_sortKinds_98 (by decide) (fun c98 => ?_) (fun c98 => ?_)
            · rw [if_pos c98] at hF
              cases hF
              exact hX93 _ _ (itr_out hN93) _ _ hW _ (lv_sub hl [] rfl)
            · rw [if_neg c98] at hF
              refine lv_aload_n hx hb dX2_sortKinds_101 rfl (lv_at hl 0 rfl) ?_
              refine va_get (D := D) (ci := 2) (v := .ref a_weights) (C := RX2) (T := TX2) (N := 9) hx hb hts hi2 hown hK.1 hW.1 0 rfl rfl 0 (by decide) hw1 (fun _ h9 => h9) rfl dX2_sortKinds_102 ?_
              refine lv_iload_n hx hb dX2_sortKinds_105 rfl (lv_at hl 1 rfl) ?_
              obtain ⟨g106, hF⟩ := gdI_some hF
              refine va_iald hx hb hK.1 hW.1 1 0 rfl rfl g106 dX2_sortKinds_106 ?_
              refine lv_istore_n (lv' := [(2, .int (m_weights x1_93.toNatClampNeg)), (0, .ref a_self), (1, .int x1_93)]) hx hb dX2_sortKinds_107 rfl hl (by decide) rfl (fun ls hl => ?_)
              refine lv_aload_n hx hb dX2_sortKinds_108 rfl (lv_at hl 1 rfl) ?_
              refine va_get (D := D) (ci := 2) (v := .ref a_sorted) (C := RX2) (T := TX2) (N := 9) hx hb hts hi2 hown hK.1 hW.1 0 rfl rfl 3 (by decide) hw2 (fun _ h9 => h9) rfl dX2_sortKinds_109 ?_
              refine lv_aload_n hx hb dX2_sortKinds_112 rfl (lv_at hl 1 rfl) ?_
              refine va_get (D := D) (ci := 2) (v := .ref a_starts) (C := RX2) (T := TX2) (N := 9) hx hb hts hi2 hown hK.1 hW.1 0 rfl rfl 4 (by decide) hw3 (fun _ h9 => h9) rfl dX2_sortKinds_113 ?_
              refine lv_iload_n hx hb dX2_sortKinds_116 rfl (lv_at hl 0 rfl) ?_
              obtain ⟨g117, hF⟩ := gdI_some hF
              refine va_iald hx hb hK.1 hW.1 3 0 rfl rfl g117 dX2_sortKinds_117 ?_
              refine lv_iload_n hx hb dX2_sortKinds_118 rfl (lv_at hl 2 rfl) ?_
              obtain ⟨g119, hF⟩ := gdI_some hF
              refine va_iast hx hb hK.1 hW.1 hW.2.1 hW.2.2 2 0 rfl rfl g119 dX2_sortKinds_119 (fun H locs hP hD hS => ?_)
              have hW : WS D A s [ob a_self 2 [Value.ref a_weights, Value.ref a_parents, Value.ref a_depths, Value.ref a_sorted, Value.ref a_starts, Value.int m_kinds, Value.int m_nextKind, Value.int m_nextJoined, Value.int m_nodes], ia cI a_weights 516 m_weights, ia cI a_sorted 258 (upd m_sorted_93 (m_starts_93 (m_weights x1_93.toNatClampNeg).toNatClampNeg).toNatClampNeg x1_93), ia cI a_starts 303 m_starts_93] H locs := ⟨hP, hD, hS⟩
              refine lv_aload_n hx hb dX2_sortKinds_120 rfl (lv_at hl 1 rfl) ?_
              refine va_get (D := D) (ci := 2) (v := .ref a_starts) (C := RX2) (T := TX2) (N := 9) hx hb hts hi2 hown hK.1 hW.1 0 rfl rfl 4 (by decide) hw3 (fun _ h9 => h9) rfl dX2_sortKinds_121 ?_
              refine lv_iload_n hx hb dX2_sortKinds_124 rfl (lv_at hl 0 rfl) ?_
              refine lv_dup2_11 hx hb dX2_sortKinds_125 rfl rfl ?_
              obtain ⟨g126, hF⟩ := gdI_some hF
              refine va_iald hx hb hK.1 hW.1 3 0 rfl rfl g126 dX2_sortKinds_126 ?_
              refine lv_iconst (v := 1) hx hb dX2_sortKinds_127 (by decide) ?_
              refine lv_iadd hx hb dX2_sortKinds_128 ?_
              obtain ⟨g129, hF⟩ := gdI_some hF
              refine va_iast hx hb hK.1 hW.1 hW.2.1 hW.2.2 3 0 rfl rfl g129 dX2_sortKinds_129 (fun H locs hP hD hS => ?_)
              have hW : WS D A s [ob a_self 2 [Value.ref a_weights, Value.ref a_parents, Value.ref a_depths, Value.ref a_sorted, Value.ref a_starts, Value.int m_kinds, Value.int m_nextKind, Value.int m_nextJoined, Value.int m_nodes], ia cI a_weights 516 m_weights, ia cI a_sorted 258 (upd m_sorted_93 (m_starts_93 (m_weights x1_93.toNatClampNeg).toNatClampNeg).toNatClampNeg x1_93), ia cI a_starts 303 (upd m_starts_93 (m_weights x1_93.toNatClampNeg).toNatClampNeg ((m_starts_93 (m_weights x1_93.toNatClampNeg).toNatClampNeg) + (1 : Int32)))] H locs := ⟨hP, hD, hS⟩
              refine lv_iinc (v := (x1_93 + 1)) (lv' := [(1, .int (x1_93 + 1)), (2, .int (m_weights x1_93.toNatClampNeg)), (0, .ref a_self)]) hx hb dX2_sortKinds_130 hl (k := 2) rfl rfl (by decide) rfl (fun ls hl => ?_)
              refine lv_goto (tgt := 93) hx hb dX2_sortKinds_133 (by decide) ?_
              cases hF
              exact ih93 _ _ _ (itr_in hN93) _ _ hW _ (lv_sub hl [2, 0] rfl)
        exact hL93 nn _ _ _ hI _ _ hW _ (lv_sub hl [1, 0] rfl)
      have hL59 : ∀ (n59 : Nat) (x1_59 : Int32) (m_starts_59 : Nat → Int32), itr (un2 (fJoiner_sortKinds_L59)) n59 (x1_59, m_starts_59) = some m_starts_59ze → ∀ (H : Heap) (locs : List Loc), WS D A s [ob a_self 2 [Value.ref a_weights, Value.ref a_parents, Value.ref a_depths, Value.ref a_sorted, Value.ref a_starts, Value.int m_kinds, Value.int m_nextKind, Value.int m_nextJoined, Value.int m_nodes], ia cI a_weights 516 m_weights, ia cI a_sorted 258 m_sorted, ia cI a_starts 303 m_starts_59] H locs → ∀ ls : Array Slot, lv_has ls 3 [(0, .ref a_self), (1, .int x1_59)] → W p l e (headSpec wsX2_sortKinds rmJoiner_sortKinds).room s m args below meth c H locs 0 0 Q (F0 m 59 ls []) := by
        intro n59
        induction n59 with
        | zero => intro x1_59 m_starts_59 hI; cases hI
        | succ n59 ih59 =>
          intro x1_59 m_starts_59 hI H locs hW ls hl
          obtain ⟨sr59, hF, hN59⟩ := itr_succ hI
          have hF : fJoiner_sortKinds_L59 x1_59 m_starts_59 = some sr59 := hF
          unfold fJoiner_sortKinds_L59 at hF
          refine lv_iload_n hx hb dX2_sortKinds_59 rfl (lv_at hl 1 rfl) ?_
          refine lv_aload_n hx hb dX2_sortKinds_60 rfl (lv_at hl 0 rfl) ?_
          refine va_get (D := D) (ci := 2) (v := .ref a_starts) (C := RX2) (T := TX2) (N := 9) hx hb hts hi2 hown hK.1 hW.1 0 rfl rfl 4 (by decide) hw3 (fun _ h9 => h9) rfl dX2_sortKinds_61 ?_
          refine va_alen hx hb hK.1 hW.1 3 0 rfl rfl (v := (Int32.ofNat 303)) rfl dX2_sortKinds_64 ?_
          refine lv_icmp_ge (tgt := 91) hx hb dX2_sortKinds_65 (by decide) (fun c65 => ?_) (fun c65 => ?_)
          · rw [if_pos c65] at hF
            cases hF
            exact hX59 _ (itr_out hN59) _ _ hW _ (lv_sub hl [0] rfl)
          · rw [if_neg c65] at hF
            refine lv_aload_n hx hb dX2_sortKinds_68 rfl (lv_at hl 0 rfl) ?_
            refine va_get (D := D) (ci := 2) (v := .ref a_starts) (C := RX2) (T := TX2) (N := 9) hx hb hts hi2 hown hK.1 hW.1 0 rfl rfl 4 (by decide) hw3 (fun _ h9 => h9) rfl dX2_sortKinds_69 ?_
            refine lv_iload_n hx hb dX2_sortKinds_72 rfl (lv_at hl 1 rfl) ?_
            refine lv_dup2_11 hx hb dX2_sortKinds_73 rfl rfl ?_
            obtain ⟨g74, hF⟩ := gdI_some hF
            refine va_iald hx hb hK.1 hW.1 3 0 rfl rfl g74 dX2_sortKinds_74 ?_
            refine lv_aload_n hx hb dX2_sortKinds_75 rfl (lv_at hl 0 rfl) ?_
            refine va_get (D := D) (ci := 2) (v := .ref a_starts) (C := RX2) (T := TX2) (N := 9) hx hb hts hi2 hown hK.1 hW.1 0 rfl rfl 4 (by decide) hw3 (fun _ h9 => h9) rfl dX2_sortKinds_76 ?_
            refine lv_iload_n hx hb dX2_sortKinds_79 rfl (lv_at hl 1 rfl) ?_
            refine lv_iconst (v := 1) hx hb dX2_sortKinds_80 (by decide) ?_
            refine lv_isub hx hb dX2_sortKinds_81 ?_
            obtain ⟨g82, hF⟩ := gdI_some hF
            refine va_iald hx hb hK.1 hW.1 3 0 rfl rfl g82 dX2_sortKinds_82 ?_
            refine lv_iadd hx hb dX2_sortKinds_83 ?_
            obtain ⟨g84, hF⟩ := gdI_some hF
            refine va_iast hx hb hK.1 hW.1 hW.2.1 hW.2.2 3 0 rfl rfl g84 dX2_sortKinds_84 (fun H locs hP hD hS => ?_)
            have hW : WS D A s [ob a_self 2 [Value.ref a_weights, Value.ref a_parents, Value.ref a_depths, Value.ref a_sorted, Value.ref a_starts, Value.int m_kinds, Value.int m_nextKind, Value.int m_nextJoined, Value.int m_nodes], ia cI a_weights 516 m_weights, ia cI a_sorted 258 m_sorted, ia cI a_starts 303 (upd m_starts_59 x1_59.toNatClampNeg ((m_starts_59 x1_59.toNatClampNeg) + (m_starts_59 (x1_59 - (1 : Int32)).toNatClampNeg)))] H locs := ⟨hP, hD, hS⟩
            refine lv_iinc (v := (x1_59 + 1)) (lv' := [(1, .int (x1_59 + 1)), (0, .ref a_self)]) hx hb dX2_sortKinds_85 hl (k := 1) rfl rfl (by decide) rfl (fun ls hl => ?_)
            refine lv_goto (tgt := 59) hx hb dX2_sortKinds_88 (by decide) ?_
            cases hF
            exact ih59 _ _ (itr_in hN59) _ _ hW _ (lv_sub hl [1, 0] rfl)
      exact hL59 nn _ _ hI _ _ hW _ (lv_sub hl [1, 0] rfl)
    have hL26 : ∀ (n26 : Nat) (x1_26 : Int32) (m_starts_26 : Nat → Int32), itr (un2 (fJoiner_sortKinds_L26 m_kinds m_weights)) n26 (x1_26, m_starts_26) = some m_starts_26ze → ∀ (H : Heap) (locs : List Loc), WS D A s [ob a_self 2 [Value.ref a_weights, Value.ref a_parents, Value.ref a_depths, Value.ref a_sorted, Value.ref a_starts, Value.int m_kinds, Value.int m_nextKind, Value.int m_nextJoined, Value.int m_nodes], ia cI a_weights 516 m_weights, ia cI a_sorted 258 m_sorted, ia cI a_starts 303 m_starts_26] H locs → ∀ ls : Array Slot, lv_has ls 3 [(0, .ref a_self), (1, .int x1_26)] → W p l e (headSpec wsX2_sortKinds rmJoiner_sortKinds).room s m args below meth c H locs 0 0 Q (F0 m 26 ls []) := by
      intro n26
      induction n26 with
      | zero => intro x1_26 m_starts_26 hI; cases hI
      | succ n26 ih26 =>
        intro x1_26 m_starts_26 hI H locs hW ls hl
        obtain ⟨sr26, hF, hN26⟩ := itr_succ hI
        have hF : fJoiner_sortKinds_L26 m_kinds m_weights x1_26 m_starts_26 = some sr26 := hF
        unfold fJoiner_sortKinds_L26 at hF
        refine lv_iload_n hx hb dX2_sortKinds_26 rfl (lv_at hl 1 rfl) ?_
        refine lv_aload_n hx hb dX2_sortKinds_27 rfl (lv_at hl 0 rfl) ?_
        refine va_get (D := D) (ci := 2) (v := .int m_kinds) (C := RX2) (T := TX2) (N := 9) hx hb hts hi2 hown hK.1 hW.1 0 rfl rfl 5 (by decide) hw0 (fun _ h9 => h9) rfl dX2_sortKinds_28 ?_
        refine lv_icmp_ge (tgt := 57) hx hb dX2_sortKinds_31 (by decide) (fun c31 => ?_) (fun c31 => ?_)
        · rw [if_pos c31] at hF
          cases hF
          exact hX26 _ (itr_out hN26) _ _ hW _ (lv_sub hl [0] rfl)
        · rw [if_neg c31] at hF
          refine lv_aload_n hx hb dX2_sortKinds_34 rfl (lv_at hl 0 rfl) ?_
          refine va_get (D := D) (ci := 2) (v := .ref a_starts) (C := RX2) (T := TX2) (N := 9) hx hb hts hi2 hown hK.1 hW.1 0 rfl rfl 4 (by decide) hw3 (fun _ h9 => h9) rfl dX2_sortKinds_35 ?_
          refine lv_aload_n hx hb dX2_sortKinds_38 rfl (lv_at hl 0 rfl) ?_
          refine va_get (D := D) (ci := 2) (v := .ref a_weights) (C := RX2) (T := TX2) (N := 9) hx hb hts hi2 hown hK.1 hW.1 0 rfl rfl 0 (by decide) hw1 (fun _ h9 => h9) rfl dX2_sortKinds_39 ?_
          refine lv_iload_n hx hb dX2_sortKinds_42 rfl (lv_at hl 1 rfl) ?_
          obtain ⟨g43, hF⟩ := gdI_some hF
          refine va_iald hx hb hK.1 hW.1 1 0 rfl rfl g43 dX2_sortKinds_43 ?_
          refine lv_iconst (v := 1) hx hb dX2_sortKinds_44 (by decide) ?_
          refine lv_iadd hx hb dX2_sortKinds_45 ?_
          refine lv_dup2_11 hx hb dX2_sortKinds_46 rfl rfl ?_
          obtain ⟨g47, hF⟩ := gdI_some hF
          refine va_iald hx hb hK.1 hW.1 3 0 rfl rfl g47 dX2_sortKinds_47 ?_
          refine lv_iconst (v := 1) hx hb dX2_sortKinds_48 (by decide) ?_
          refine lv_iadd hx hb dX2_sortKinds_49 ?_
          obtain ⟨g50, hF⟩ := gdI_some hF
          refine va_iast hx hb hK.1 hW.1 hW.2.1 hW.2.2 3 0 rfl rfl g50 dX2_sortKinds_50 (fun H locs hP hD hS => ?_)
          have hW : WS D A s [ob a_self 2 [Value.ref a_weights, Value.ref a_parents, Value.ref a_depths, Value.ref a_sorted, Value.ref a_starts, Value.int m_kinds, Value.int m_nextKind, Value.int m_nextJoined, Value.int m_nodes], ia cI a_weights 516 m_weights, ia cI a_sorted 258 m_sorted, ia cI a_starts 303 (upd m_starts_26 ((m_weights x1_26.toNatClampNeg) + (1 : Int32)).toNatClampNeg ((m_starts_26 ((m_weights x1_26.toNatClampNeg) + (1 : Int32)).toNatClampNeg) + (1 : Int32)))] H locs := ⟨hP, hD, hS⟩
          refine lv_iinc (v := (x1_26 + 1)) (lv' := [(1, .int (x1_26 + 1)), (0, .ref a_self)]) hx hb dX2_sortKinds_51 hl (k := 1) rfl rfl (by decide) rfl (fun ls hl => ?_)
          refine lv_goto (tgt := 26) hx hb dX2_sortKinds_54 (by decide) ?_
          cases hF
          exact ih26 _ _ (itr_in hN26) _ _ hW _ (lv_sub hl [1, 0] rfl)
    exact hL26 nn _ _ hI _ _ hW _ (lv_sub hl [1, 0] rfl)
  have hL2 : ∀ (n2 : Nat) (x1_2 : Int32) (m_starts_2 : Nat → Int32), itr (un2 (fJoiner_sortKinds_L2)) n2 (x1_2, m_starts_2) = some m_starts_2ze → ∀ (H : Heap) (locs : List Loc), WS D A s [ob a_self 2 [Value.ref a_weights, Value.ref a_parents, Value.ref a_depths, Value.ref a_sorted, Value.ref a_starts, Value.int m_kinds, Value.int m_nextKind, Value.int m_nextJoined, Value.int m_nodes], ia cI a_weights 516 m_weights, ia cI a_sorted 258 m_sorted, ia cI a_starts 303 m_starts_2] H locs → ∀ ls : Array Slot, lv_has ls 3 [(0, .ref a_self), (1, .int x1_2)] → W p l e (headSpec wsX2_sortKinds rmJoiner_sortKinds).room s m args below meth c H locs 0 0 Q (F0 m 2 ls []) := by
    intro n2
    induction n2 with
    | zero => intro x1_2 m_starts_2 hI; cases hI
    | succ n2 ih2 =>
      intro x1_2 m_starts_2 hI H locs hW ls hl
      obtain ⟨sr2, hF, hN2⟩ := itr_succ hI
      have hF : fJoiner_sortKinds_L2 x1_2 m_starts_2 = some sr2 := hF
      unfold fJoiner_sortKinds_L2 at hF
      refine lv_iload_n hx hb dX2_sortKinds_2 rfl (lv_at hl 1 rfl) ?_
      refine lv_aload_n hx hb dX2_sortKinds_3 rfl (lv_at hl 0 rfl) ?_
      refine va_get (D := D) (ci := 2) (v := .ref a_starts) (C := RX2) (T := TX2) (N := 9) hx hb hts hi2 hown hK.1 hW.1 0 rfl rfl 4 (by decide) hw3 (fun _ h9 => h9) rfl dX2_sortKinds_4 ?_
      refine va_alen hx hb hK.1 hW.1 3 0 rfl rfl (v := (Int32.ofNat 303)) rfl dX2_sortKinds_7 ?_
      refine lv_icmp_ge (tgt := 24) hx hb dX2_sortKinds_8 (by decide) (fun c8 => ?_) (fun c8 => ?_)
      · rw [if_pos c8] at hF
        cases hF
        exact hX2 _ (itr_out hN2) _ _ hW _ (lv_sub hl [0] rfl)
      · rw [if_neg c8] at hF
        refine lv_aload_n hx hb dX2_sortKinds_11 rfl (lv_at hl 0 rfl) ?_
        refine va_get (D := D) (ci := 2) (v := .ref a_starts) (C := RX2) (T := TX2) (N := 9) hx hb hts hi2 hown hK.1 hW.1 0 rfl rfl 4 (by decide) hw3 (fun _ h9 => h9) rfl dX2_sortKinds_12 ?_
        refine lv_iload_n hx hb dX2_sortKinds_15 rfl (lv_at hl 1 rfl) ?_
        refine lv_iconst (v := 0) hx hb dX2_sortKinds_16 (by decide) ?_
        obtain ⟨g17, hF⟩ := gdI_some hF
        refine va_iast hx hb hK.1 hW.1 hW.2.1 hW.2.2 3 0 rfl rfl g17 dX2_sortKinds_17 (fun H locs hP hD hS => ?_)
        have hW : WS D A s [ob a_self 2 [Value.ref a_weights, Value.ref a_parents, Value.ref a_depths, Value.ref a_sorted, Value.ref a_starts, Value.int m_kinds, Value.int m_nextKind, Value.int m_nextJoined, Value.int m_nodes], ia cI a_weights 516 m_weights, ia cI a_sorted 258 m_sorted, ia cI a_starts 303 (upd m_starts_2 x1_2.toNatClampNeg (0 : Int32))] H locs := ⟨hP, hD, hS⟩
        refine lv_iinc (v := (x1_2 + 1)) (lv' := [(1, .int (x1_2 + 1)), (0, .ref a_self)]) hx hb dX2_sortKinds_18 hl (k := 1) rfl rfl (by decide) rfl (fun ls hl => ?_)
        refine lv_goto (tgt := 2) hx hb dX2_sortKinds_21 (by decide) ?_
        cases hF
        exact ih2 _ _ (itr_in hN2) _ _ hW _ (lv_sub hl [1, 0] rfl)
  exact hL2 nn _ _ hI _ _ hW _ (lv_sub hl [1, 0] rfl)
abbrev rmJoiner_makeLengths : Room := { frames := 2, cells := 0, slots := 0, locals := 45 }
set_option maxHeartbeats 4000000 in
set_option maxRecDepth 100000 in
theorem kJoiner_makeLengths (l : Launch) (D : va_G) (cI cZ cO cG : ClassId) (a_self : Nat) (a_weights : Nat) (a_parents : Nat) (a_depths : Nat) (a_sorted : Nat) (a_starts : Nat) (a_p1 : Nat) (aF_p3F : Nat → Nat) (m_kinds : Int32) (m_nextKind : Int32) (m_nextJoined : Int32) (m_nodes : Int32) (m_weights : Nat → Int32) (m_parents : Nat → Int32) (m_depths : Nat → Int32) (m_sorted : Nat → Int32) (m_starts : Nat → Int32) (m_p1 : Nat → Int32) (M_p3F : Nat → Nat → Int32) (x2 : Int32) (j_p3 : Nat) (hj_p3 : j_p3 < 15) {m_kinds' : Int32} {m_nextKind' : Int32} {m_nextJoined' : Int32} {m_nodes' : Int32} {m_weights' : Nat → Int32} {m_parents' : Nat → Int32} {m_depths' : Nat → Int32} {m_sorted' : Nat → Int32} {m_starts' : Nat → Int32} {M_p3F' : Nat → Nat → Int32} (hF : fJoiner_makeLengths m_weights m_parents m_depths m_sorted m_starts m_p1 M_p3F x2 j_p3 = some (m_kinds', m_nextKind', m_nextJoined', m_nodes', m_weights', m_parents', m_depths', m_sorted', m_starts', M_p3F')) : CT l yX2_makeLengths wsX2_makeLengths rmJoiner_makeLengths D (tysG cI cZ cO cG) [.ref a_self, .ref a_p1, .int x2, .ref (aF_p3F j_p3)] [ob a_self 2 [Value.ref a_weights, Value.ref a_parents, Value.ref a_depths, Value.ref a_sorted, Value.ref a_starts, Value.int m_kinds, Value.int m_nextKind, Value.int m_nextJoined, Value.int m_nodes], ia cI a_weights 516 m_weights, ia cI a_parents 516 m_parents, ia cI a_depths 516 m_depths, ia cI a_sorted 258 m_sorted, ia cI a_starts 303 m_starts, ia cI a_p1 258 m_p1, ia cI (aF_p3F 0) 258 (M_p3F 0), ia cI (aF_p3F 1) 258 (M_p3F 1), ia cI (aF_p3F 2) 258 (M_p3F 2), ia cI (aF_p3F 3) 258 (M_p3F 3), ia cI (aF_p3F 4) 258 (M_p3F 4), ia cI (aF_p3F 5) 258 (M_p3F 5), ia cI (aF_p3F 6) 258 (M_p3F 6), ia cI (aF_p3F 7) 258 (M_p3F 7), ia cI (aF_p3F 8) 258 (M_p3F 8), ia cI (aF_p3F 9) 258 (M_p3F 9), ia cI (aF_p3F 10) 258 (M_p3F 10), ia cI (aF_p3F 11) 258 (M_p3F 11), ia cI (aF_p3F 12) 258 (M_p3F 12), ia cI (aF_p3F 13) 258 (M_p3F 13), ia cI (aF_p3F 14) 258 (M_p3F 14)] none [ob a_self 2 [Value.ref a_weights, Value.ref a_parents, Value.ref a_depths, Value.ref a_sorted, Value.ref a_starts, Value.int m_kinds', Value.int m_nextKind', Value.int m_nextJoined', Value.int m_nodes'], ia cI a_weights 516 m_weights', ia cI a_parents 516 m_parents', ia cI a_depths 516 m_depths', ia cI a_sorted 258 m_sorted', ia cI a_starts 303 m_starts', ia cI a_p1 258 m_p1, ia cI (aF_p3F 0) 258 (M_p3F' 0), ia cI (aF_p3F 1) 258 (M_p3F' 1), ia cI (aF_p3F 2) 258 (M_p3F' 2), ia cI (aF_p3F 3) 258 (M_p3F' 3), ia cI (aF_p3F 4) 258 (M_p3F' 4), ia cI (aF_p3F 5) 258 (M_p3F' 5), ia cI (aF_p3F 6) 258 (M_p3F' 6), ia cI (aF_p3F 7) 258 (M_p3F' 7), ia cI (aF_p3F 8) 258 (M_p3F' 8), ia cI (aF_p3F 9) 258 (M_p3F' 9), ia cI (aF_p3F 10) 258 (M_p3F' 10), ia cI (aF_p3F 11) 258 (M_p3F' 11), ia cI (aF_p3F 12) 258 (M_p3F' 12), ia cI (aF_p3F 13) 258 (M_p3F' 13), ia cI (aF_p3F 14) 258 (M_p3F' 14)] := by
  refine CT.of (cc := cX2_makeLengths) (maxL := 5) (ret := none) (by decide) rfl (Nat.le_of_ble_eq_true rfl) ?_
  intro p e s m below meth c A ls hx hb hr hml hts hown hlocks hK hA hP hD hS hl
  generalize hargs : ([.ref a_self, .ref a_p1, .int x2, .ref (aF_p3F j_p3)] : List Value).toArray = args at hts ⊢
  generalize hQ : MQ below (ctQ D none [ob a_self 2 [Value.ref a_weights, Value.ref a_parents, Value.ref a_depths, Value.ref a_sorted, Value.ref a_starts, Value.int m_kinds', Value.int m_nextKind', Value.int m_nextJoined', Value.int m_nodes'], ia cI a_weights 516 m_weights', ia cI a_parents 516 m_parents', ia cI a_depths 516 m_depths', ia cI a_sorted 258 m_sorted', ia cI a_starts 303 m_starts', ia cI a_p1 258 m_p1, ia cI (aF_p3F 0) 258 (M_p3F' 0), ia cI (aF_p3F 1) 258 (M_p3F' 1), ia cI (aF_p3F 2) 258 (M_p3F' 2), ia cI (aF_p3F 3) 258 (M_p3F' 3), ia cI (aF_p3F 4) 258 (M_p3F' 4), ia cI (aF_p3F 5) 258 (M_p3F' 5), ia cI (aF_p3F 6) 258 (M_p3F' 6), ia cI (aF_p3F 7) 258 (M_p3F' 7), ia cI (aF_p3F 8) 258 (M_p3F' 8), ia cI (aF_p3F 9) 258 (M_p3F' 9), ia cI (aF_p3F 10) 258 (M_p3F' 10), ia cI (aF_p3F 11) 258 (M_p3F' 11), ia cI (aF_p3F 12) 258 (M_p3F' 12), ia cI (aF_p3F 13) 258 (M_p3F' 13), ia cI (aF_p3F 14) 258 (M_p3F' 14)] A) args s 0 0 A = Q
  have hl : lv_has ls 5 [(0, .ref a_self), (1, .ref a_p1), (2, .int x2), (3, .ref (aF_p3F j_p3))] := hl
  have hW : WS D A s [ob a_self 2 [Value.ref a_weights, Value.ref a_parents, Value.ref a_depths, Value.ref a_sorted, Value.ref a_starts, Value.int m_kinds, Value.int m_nextKind, Value.int m_nextJoined, Value.int m_nodes], ia cI a_weights 516 m_weights, ia cI a_parents 516 m_parents, ia cI a_depths 516 m_depths, ia cI a_sorted 258 m_sorted, ia cI a_starts 303 m_starts, ia cI a_p1 258 m_p1, ia cI (aF_p3F 0) 258 (M_p3F 0), ia cI (aF_p3F 1) 258 (M_p3F 1), ia cI (aF_p3F 2) 258 (M_p3F 2), ia cI (aF_p3F 3) 258 (M_p3F 3), ia cI (aF_p3F 4) 258 (M_p3F 4), ia cI (aF_p3F 5) 258 (M_p3F 5), ia cI (aF_p3F 6) 258 (M_p3F 6), ia cI (aF_p3F 7) 258 (M_p3F 7), ia cI (aF_p3F 8) 258 (M_p3F 8), ia cI (aF_p3F 9) 258 (M_p3F 9), ia cI (aF_p3F 10) 258 (M_p3F 10), ia cI (aF_p3F 11) 258 (M_p3F 11), ia cI (aF_p3F 12) 258 (M_p3F 12), ia cI (aF_p3F 13) 258 (M_p3F 13), ia cI (aF_p3F 14) 258 (M_p3F 14)] s.heap [] := ⟨hP, hD, hS⟩
  clear hP hD hS
  unfold fJoiner_makeLengths at hF
  have hw0 := hts (Cond.methodLink RX2 40 Lib.Math.min.name) (by decide +kernel)
  have hw1 := hts (Cond.static Lib.Math.min.name) (by decide +kernel)
  have hw2 := hts (Cond.initialized "java/lang/Math") (by decide +kernel)
  have hw3 := hts (Cond.code Lib.Math.min.name Lib.Math.min.code 2 (some .int)) (by decide +kernel)
  have hw4 := hts (Cond.fieldLink RX2 27 "MoveFronts$Joiner" "kinds" "I") (by decide +kernel)
  have hw5 := hts (Cond.fieldLink RX2 18 "MoveFronts$Joiner" "depths" "[I") (by decide +kernel)
  have hw6 := hts (Cond.fieldLink RX2 11 "MoveFronts$Joiner" "weights" "[I") (by decide +kernel)
  have hw7 := hts (Cond.methodLink RX2 46 Lib.Math.max.name) (by decide +kernel)
  have hw8 := hts (Cond.static Lib.Math.max.name) (by decide +kernel)
  have hw9 := hts (Cond.code Lib.Math.max.name Lib.Math.max.code 2 (some .int)) (by decide +kernel)
  have hi2 : ∀ w ∈ u_ws RX2 TX2 9, w ∈ wsX2_makeLengths := by decide +kernel
  refine lv_aload_n hx hb dX2_makeLengths_0 rfl (lv_at hl 0 rfl) ?_
  refine lv_iload_n hx hb dX2_makeLengths_1 rfl (lv_at hl 2 rfl) ?_
  refine lv_sipush (v := 258) hx hb dX2_makeLengths_2 (by decide) ?_
  refine va_mmin hx hb (by rw [hml]; exact hl.1.symm) hown hw0 hw1 hw2 hw3 (Nat.le_of_ble_eq_true rfl) (Nat.le_of_ble_eq_true rfl) (Nat.zero_le _) (Nat.zero_le _) dX2_makeLengths_5 ?_
  refine va_put (D := D) (ci := 2) (v := .int (if (258 : Int32) < x2 then (258 : Int32) else x2)) (ty := .int) (C := RX2) (T := TX2) (N := 9) hx hb hts hi2 tyX2 tyX2_ok nmX2 hown hK.1 hW.1 hW.2.1 hW.2.2 0 rfl rfl 5 (by decide) hw4 (fun _ h9 => h9) rfl (by decide +kernel) rfl rfl (Nat.le_of_ble_eq_true rfl) dX2_makeLengths_8 (fun H locs hP hD hS => ?_)
  have hW : WS D A s [ob a_self 2 [Value.ref a_weights, Value.ref a_parents, Value.ref a_depths, Value.ref a_sorted, Value.ref a_starts, Value.int (if (258 : Int32) < x2 then (258 : Int32) else x2), Value.int m_nextKind, Value.int m_nextJoined, Value.int m_nodes], ia cI a_weights 516 m_weights, ia cI a_parents 516 m_parents, ia cI a_depths 516 m_depths, ia cI a_sorted 258 m_sorted, ia cI a_starts 303 m_starts, ia cI a_p1 258 m_p1, ia cI (aF_p3F 0) 258 (M_p3F 0), ia cI (aF_p3F 1) 258 (M_p3F 1), ia cI (aF_p3F 2) 258 (M_p3F 2), ia cI (aF_p3F 3) 258 (M_p3F 3), ia cI (aF_p3F 4) 258 (M_p3F 4), ia cI (aF_p3F 5) 258 (M_p3F 5), ia cI (aF_p3F 6) 258 (M_p3F 6), ia cI (aF_p3F 7) 258 (M_p3F 7), ia cI (aF_p3F 8) 258 (M_p3F 8), ia cI (aF_p3F 9) 258 (M_p3F 9), ia cI (aF_p3F 10) 258 (M_p3F 10), ia cI (aF_p3F 11) 258 (M_p3F 11), ia cI (aF_p3F 12) 258 (M_p3F 12), ia cI (aF_p3F 13) 258 (M_p3F 13), ia cI (aF_p3F 14) 258 (M_p3F 14)] H locs := ⟨hP, hD, hS⟩
  refine lv_iconst (v := 0) hx hb dX2_makeLengths_11 (by decide) ?_
  refine lv_istore (lv' := [(4, .int (0 : Int32)), (0, .ref a_self), (1, .ref a_p1), (2, .int x2), (3, .ref (aF_p3F j_p3))]) hx hb dX2_makeLengths_12 hl (by decide) rfl (fun ls hl => ?_)
  obtain ⟨m_weights_14ze, hI, hF⟩ := bd1_some hF
  obtain ⟨nn, hI⟩ := itrO_some hI
  have hX14 : ∀ (m_weights_14z : Nat → Int32), m_weights_14z = m_weights_14ze → ∀ (H : Heap) (locs : List Loc), WS D A s [ob a_self 2 [Value.ref a_weights, Value.ref a_parents, Value.ref a_depths, Value.ref a_sorted, Value.ref a_starts, Value.int (if (258 : Int32) < x2 then (258 : Int32) else x2), Value.int m_nextKind, Value.int m_nextJoined, Value.int m_nodes], ia cI a_weights 516 m_weights_14z, ia cI a_parents 516 m_parents, ia cI a_depths 516 m_depths, ia cI a_sorted 258 m_sorted, ia cI a_starts 303 m_starts, ia cI a_p1 258 m_p1, ia cI (aF_p3F 0) 258 (M_p3F 0), ia cI (aF_p3F 1) 258 (M_p3F 1), ia cI (aF_p3F 2) 258 (M_p3F 2), ia cI (aF_p3F 3) 258 (M_p3F 3), ia cI (aF_p3F 4) 258 (M_p3F 4), ia cI (aF_p3F 5) 258 (M_p3F 5), ia cI (aF_p3F 6) 258 (M_p3F 6), ia cI (aF_p3F 7) 258 (M_p3F 7), ia cI (aF_p3F 8) 258 (M_p3F 8), ia cI (aF_p3F 9) 258 (M_p3F 9), ia cI (aF_p3F 10) 258 (M_p3F 10), ia cI (aF_p3F 11) 258 (M_p3F 11), ia cI (aF_p3F 12) 258 (M_p3F 12), ia cI (aF_p3F 13) 258 (M_p3F 13), ia cI (aF_p3F 14) 258 (M_p3F 14)] H locs → ∀ ls : Array Slot, lv_has ls 5 [(0, .ref a_self), (3, .ref (aF_p3F j_p3))] → W p l e (headSpec wsX2_makeLengths rmJoiner_makeLengths).room s m args below meth c H locs 0 0 Q (F0 m 50 ls []) := by
    intro m_weights_14z he H locs hW ls hl
    subst he
    refine lv_aload_n hx hb dX2_makeLengths_50 rfl (lv_at hl 0 rfl) ?_
    obtain ⟨m_sorted_51, m_starts_51, e51, hF⟩ := bd2_some hF
    refine ctV (wn := [ob a_self 2 [Value.ref a_weights, Value.ref a_parents, Value.ref a_depths, Value.ref a_sorted, Value.ref a_starts, Value.int (if (258 : Int32) < x2 then (258 : Int32) else x2), Value.int m_nextKind, Value.int m_nextJoined, Value.int m_nodes], ia cI a_weights 516 m_weights_14z, ia cI a_parents 516 m_parents, ia cI a_depths 516 m_depths, ia cI a_sorted 258 m_sorted_51, ia cI a_starts 303 m_starts_51, ia cI a_p1 258 m_p1, ia cI (aF_p3F 0) 258 (M_p3F 0), ia cI (aF_p3F 1) 258 (M_p3F 1), ia cI (aF_p3F 2) 258 (M_p3F 2), ia cI (aF_p3F 3) 258 (M_p3F 3), ia cI (aF_p3F 4) 258 (M_p3F 4), ia cI (aF_p3F 5) 258 (M_p3F 5), ia cI (aF_p3F 6) 258 (M_p3F 6), ia cI (aF_p3F 7) 258 (M_p3F 7), ia cI (aF_p3F 8) 258 (M_p3F 8), ia cI (aF_p3F 9) 258 (M_p3F 9), ia cI (aF_p3F 10) 258 (M_p3F 10), ia cI (aF_p3F 11) 258 (M_p3F 11), ia cI (aF_p3F 12) 258 (M_p3F 12), ia cI (aF_p3F 13) 258 (M_p3F 13), ia cI (aF_p3F 14) 258 (M_p3F 14)]) (r := (RX2, TX2, 9)) (As := []) (rest := []) hx hb hml hown hts hK hW hA hl.1 (kJoiner_sortKinds l D cI cZ cO cG a_self a_weights a_parents a_depths a_sorted a_starts (if (258 : Int32) < x2 then (258 : Int32) else x2) m_nextKind m_nextJoined m_nodes m_weights_14z m_sorted m_starts e51) (cwV 0 hts gX2_makeLengths_X2_sortKinds rfl rfl rfl (by decide +kernel) ⟨Nat.le_of_ble_eq_true rfl, Nat.le_of_ble_eq_true rfl⟩) 2 0 rfl rfl [0, 1, 4, 5] [2, 3, 6, 7, 8, 9, 10, 11, 12, 13, 14, 15, 16, 17, 18, 19, 20, 21] 22 rfl rfl rfl rfl [ia cI a_parents 516 m_parents, ia cI a_depths 516 m_depths, ia cI a_p1 258 m_p1, ia cI (aF_p3F 0) 258 (M_p3F 0), ia cI (aF_p3F 1) 258 (M_p3F 1), ia cI (aF_p3F 2) 258 (M_p3F 2), ia cI (aF_p3F 3) 258 (M_p3F 3), ia cI (aF_p3F 4) 258 (M_p3F 4), ia cI (aF_p3F 5) 258 (M_p3F 5), ia cI (aF_p3F 6) 258 (M_p3F 6), ia cI (aF_p3F 7) 258 (M_p3F 7), ia cI (aF_p3F 8) 258 (M_p3F 8), ia cI (aF_p3F 9) 258 (M_p3F 9), ia cI (aF_p3F 10) 258 (M_p3F 10), ia cI (aF_p3F 11) 258 (M_p3F 11), ia cI (aF_p3F 12) 258 (M_p3F 12), ia cI (aF_p3F 13) 258 (M_p3F 13), ia cI (aF_p3F 14) 258 (M_p3F 14)] rfl rfl rfl rfl rfl (Nat.le_of_ble_eq_true rfl) rfl ⟨Nat.zero_le _, Nat.zero_le _⟩ dX2_makeLengths_51 (fun H locs hW => ?_)
    refine lv_aload_n hx hb dX2_makeLengths_54 rfl (lv_at hl 0 rfl) ?_
    obtain ⟨m_nextKind_55, m_nextJoined_55, m_nodes_55, m_weights_55, m_parents_55, e55, hF⟩ := bd5_some hF
    refine ctV (wn := [ob a_self 2 [Value.ref a_weights, Value.ref a_parents, Value.ref a_depths, Value.ref a_sorted, Value.ref a_starts, Value.int (if (258 : Int32) < x2 then (258 : Int32) else x2), Value.int m_nextKind_55, Value.int m_nextJoined_55, Value.int m_nodes_55], ia cI a_weights 516 m_weights_55, ia cI a_parents 516 m_parents_55, ia cI a_depths 516 m_depths, ia cI a_sorted 258 m_sorted_51, ia cI a_starts 303 m_starts_51, ia cI a_p1 258 m_p1, ia cI (aF_p3F 0) 258 (M_p3F 0), ia cI (aF_p3F 1) 258 (M_p3F 1), ia cI (aF_p3F 2) 258 (M_p3F 2), ia cI (aF_p3F 3) 258 (M_p3F 3), ia cI (aF_p3F 4) 258 (M_p3F 4), ia cI (aF_p3F 5) 258 (M_p3F 5), ia cI (aF_p3F 6) 258 (M_p3F 6), ia cI (aF_p3F 7) 258 (M_p3F 7), ia cI (aF_p3F 8) 258 (M_p3F 8), ia cI (aF_p3F 9) 258 (M_p3F 9), ia cI (aF_p3F 10) 258 (M_p3F 10), ia cI (aF_p3F 11) 258 (M_p3F 11), ia cI (aF_p3F 12) 258 (M_p3F 12), ia cI (aF_p3F 13) 258 (M_p3F 13), ia cI (aF_p3F 14) 258 (M_p3F 14)]) (r := (RX2, TX2, 9)) (As := []) (rest := []) hx hb hml hown hts hK hW hA hl.1 (kJoiner_joinAll l D cI cZ cO cG a_self a_weights a_parents a_depths a_sorted a_starts (if (258 : Int32) < x2 then (258 : Int32) else x2) m_nextKind m_nextJoined m_nodes m_weights_14z m_parents m_sorted_51 e55) (cwV 0 hts gX2_makeLengths_X2_joinAll rfl rfl rfl (by decide +kernel) ⟨Nat.le_of_ble_eq_true rfl, Nat.le_of_ble_eq_true rfl⟩) 2 0 rfl rfl [0, 1, 2, 4] [3, 5, 6, 7, 8, 9, 10, 11, 12, 13, 14, 15, 16, 17, 18, 19, 20, 21] 22 rfl rfl rfl rfl [ia cI a_depths 516 m_depths, ia cI a_starts 303 m_starts_51, ia cI a_p1 258 m_p1, ia cI (aF_p3F 0) 258 (M_p3F 0), ia cI (aF_p3F 1) 258 (M_p3F 1), ia cI (aF_p3F 2) 258 (M_p3F 2), ia cI (aF_p3F 3) 258 (M_p3F 3), ia cI (aF_p3F 4) 258 (M_p3F 4), ia cI (aF_p3F 5) 258 (M_p3F 5), ia cI (aF_p3F 6) 258 (M_p3F 6), ia cI (aF_p3F 7) 258 (M_p3F 7), ia cI (aF_p3F 8) 258 (M_p3F 8), ia cI (aF_p3F 9) 258 (M_p3F 9), ia cI (aF_p3F 10) 258 (M_p3F 10), ia cI (aF_p3F 11) 258 (M_p3F 11), ia cI (aF_p3F 12) 258 (M_p3F 12), ia cI (aF_p3F 13) 258 (M_p3F 13), ia cI (aF_p3F 14) 258 (M_p3F 14)] rfl rfl rfl rfl rfl (Nat.le_of_ble_eq_true rfl) rfl ⟨Nat.zero_le _, Nat.zero_le _⟩ dX2_makeLengths_55 (fun H locs hW => ?_)
    refine lv_aload_n hx hb dX2_makeLengths_58 rfl (lv_at hl 0 rfl) ?_
    obtain ⟨m_depths_59, e59, hF⟩ := bd1_some hF
    refine ctV (wn := [ob a_self 2 [Value.ref a_weights, Value.ref a_parents, Value.ref a_depths, Value.ref a_sorted, Value.ref a_starts, Value.int (if (258 : Int32) < x2 then (258 : Int32) else x2), Value.int m_nextKind_55, Value.int m_nextJoined_55, Value.int m_nodes_55], ia cI a_weights 516 m_weights_55, ia cI a_parents 516 m_parents_55, ia cI a_depths 516 m_depths_59, ia cI a_sorted 258 m_sorted_51, ia cI a_starts 303 m_starts_51, ia cI a_p1 258 m_p1, ia cI (aF_p3F 0) 258 (M_p3F 0), ia cI (aF_p3F 1) 258 (M_p3F 1), ia cI (aF_p3F 2) 258 (M_p3F 2), ia cI (aF_p3F 3) 258 (M_p3F 3), ia cI (aF_p3F 4) 258 (M_p3F 4), ia cI (aF_p3F 5) 258 (M_p3F 5), ia cI (aF_p3F 6) 258 (M_p3F 6), ia cI (aF_p3F 7) 258 (M_p3F 7), ia cI (aF_p3F 8) 258 (M_p3F 8), ia cI (aF_p3F 9) 258 (M_p3F 9), ia cI (aF_p3F 10) 258 (M_p3F 10), ia cI (aF_p3F 11) 258 (M_p3F 11), ia cI (aF_p3F 12) 258 (M_p3F 12), ia cI (aF_p3F 13) 258 (M_p3F 13), ia cI (aF_p3F 14) 258 (M_p3F 14)]) (r := (RX2, TX2, 9)) (As := []) (rest := []) hx hb hml hown hts hK hW hA hl.1 (kJoiner_findDepths l D cI cZ cO cG a_self a_weights a_parents a_depths a_sorted a_starts (if (258 : Int32) < x2 then (258 : Int32) else x2) m_nextKind_55 m_nextJoined_55 m_nodes_55 m_parents_55 m_depths e59) (cwV 0 hts gX2_makeLengths_X2_findDepths rfl rfl rfl (by decide +kernel) ⟨Nat.le_of_ble_eq_true rfl, Nat.le_of_ble_eq_true rfl⟩) 2 0 rfl rfl [0, 2, 3] [1, 4, 5, 6, 7, 8, 9, 10, 11, 12, 13, 14, 15, 16, 17, 18, 19, 20, 21] 22 rfl rfl rfl rfl [ia cI a_weights 516 m_weights_55, ia cI a_sorted 258 m_sorted_51, ia cI a_starts 303 m_starts_51, ia cI a_p1 258 m_p1, ia cI (aF_p3F 0) 258 (M_p3F 0), ia cI (aF_p3F 1) 258 (M_p3F 1), ia cI (aF_p3F 2) 258 (M_p3F 2), ia cI (aF_p3F 3) 258 (M_p3F 3), ia cI (aF_p3F 4) 258 (M_p3F 4), ia cI (aF_p3F 5) 258 (M_p3F 5), ia cI (aF_p3F 6) 258 (M_p3F 6), ia cI (aF_p3F 7) 258 (M_p3F 7), ia cI (aF_p3F 8) 258 (M_p3F 8), ia cI (aF_p3F 9) 258 (M_p3F 9), ia cI (aF_p3F 10) 258 (M_p3F 10), ia cI (aF_p3F 11) 258 (M_p3F 11), ia cI (aF_p3F 12) 258 (M_p3F 12), ia cI (aF_p3F 13) 258 (M_p3F 13), ia cI (aF_p3F 14) 258 (M_p3F 14)] rfl rfl rfl rfl rfl (Nat.le_of_ble_eq_true rfl) rfl ⟨Nat.zero_le _, Nat.zero_le _⟩ dX2_makeLengths_59 (fun H locs hW => ?_)
    refine lv_iconst (v := 0) hx hb dX2_makeLengths_62 (by decide) ?_
    refine lv_istore (lv' := [(4, .int (0 : Int32)), (0, .ref a_self), (3, .ref (aF_p3F j_p3))]) hx hb dX2_makeLengths_63 hl (by decide) rfl (fun ls hl => ?_)
    obtain ⟨M_p3F_65ze, hI, hF⟩ := bd1_some hF
    obtain ⟨nn, hI⟩ := itrO_some hI
    have hX65 : ∀ (M_p3F_65z : Nat → Nat → Int32), M_p3F_65z = M_p3F_65ze → ∀ (H : Heap) (locs : List Loc), WS D A s [ob a_self 2 [Value.ref a_weights, Value.ref a_parents, Value.ref a_depths, Value.ref a_sorted, Value.ref a_starts, Value.int (if (258 : Int32) < x2 then (258 : Int32) else x2), Value.int m_nextKind_55, Value.int m_nextJoined_55, Value.int m_nodes_55], ia cI a_weights 516 m_weights_55, ia cI a_parents 516 m_parents_55, ia cI a_depths 516 m_depths_59, ia cI a_sorted 258 m_sorted_51, ia cI a_starts 303 m_starts_51, ia cI a_p1 258 m_p1, ia cI (aF_p3F 0) 258 (M_p3F_65z 0), ia cI (aF_p3F 1) 258 (M_p3F_65z 1), ia cI (aF_p3F 2) 258 (M_p3F_65z 2), ia cI (aF_p3F 3) 258 (M_p3F_65z 3), ia cI (aF_p3F 4) 258 (M_p3F_65z 4), ia cI (aF_p3F 5) 258 (M_p3F_65z 5), ia cI (aF_p3F 6) 258 (M_p3F_65z 6), ia cI (aF_p3F 7) 258 (M_p3F_65z 7), ia cI (aF_p3F 8) 258 (M_p3F_65z 8), ia cI (aF_p3F 9) 258 (M_p3F_65z 9), ia cI (aF_p3F 10) 258 (M_p3F_65z 10), ia cI (aF_p3F 11) 258 (M_p3F_65z 11), ia cI (aF_p3F 12) 258 (M_p3F_65z 12), ia cI (aF_p3F 13) 258 (M_p3F_65z 13), ia cI (aF_p3F 14) 258 (M_p3F_65z 14)] H locs → ∀ ls : Array Slot, lv_has ls 5 [] → W p l e (headSpec wsX2_makeLengths rmJoiner_makeLengths).room s m args below meth c H locs 0 0 Q (F0 m 91 ls []) := by
      intro M_p3F_65z he H locs hW ls hl
      subst he
      cases hF
      subst hQ
      exact ct_vret hx hb hr hlocks hW.1 hW.2.2 dX2_makeLengths_91
    have hL65 : ∀ (n65 : Nat) (x4_65 : Int32) (M_p3F_65 : Nat → Nat → Int32), itr (un2 (fJoiner_makeLengths_L65 x2 j_p3 m_depths_59)) n65 (x4_65, M_p3F_65) = some M_p3F_65ze → ∀ (H : Heap) (locs : List Loc), WS D A s [ob a_self 2 [Value.ref a_weights, Value.ref a_parents, Value.ref a_depths, Value.ref a_sorted, Value.ref a_starts, Value.int (if (258 : Int32) < x2 then (258 : Int32) else x2), Value.int m_nextKind_55, Value.int m_nextJoined_55, Value.int m_nodes_55], ia cI a_weights 516 m_weights_55, ia cI a_parents 516 m_parents_55, ia cI a_depths 516 m_depths_59, ia cI a_sorted 258 m_sorted_51, ia cI a_starts 303 m_starts_51, ia cI a_p1 258 m_p1, ia cI (aF_p3F 0) 258 (M_p3F_65 0), ia cI (aF_p3F 1) 258 (M_p3F_65 1), ia cI (aF_p3F 2) 258 (M_p3F_65 2), ia cI (aF_p3F 3) 258 (M_p3F_65 3), ia cI (aF_p3F 4) 258 (M_p3F_65 4), ia cI (aF_p3F 5) 258 (M_p3F_65 5), ia cI (aF_p3F 6) 258 (M_p3F_65 6), ia cI (aF_p3F 7) 258 (M_p3F_65 7), ia cI (aF_p3F 8) 258 (M_p3F_65 8), ia cI (aF_p3F 9) 258 (M_p3F_65 9), ia cI (aF_p3F 10) 258 (M_p3F_65 10), ia cI (aF_p3F 11) 258 (M_p3F_65 11), ia cI (aF_p3F 12) 258 (M_p3F_65 12), ia cI (aF_p3F 13) 258 (M_p3F_65 13), ia cI (aF_p3F 14) 258 (M_p3F_65 14)] H locs → ∀ ls : Array Slot, lv_has ls 5 [(0, .ref a_self), (3, .ref (aF_p3F j_p3)), (4, .int x4_65)] → W p l e (headSpec wsX2_makeLengths rmJoiner_makeLengths).room s m args below meth c H locs 0 0 Q (F0 m 65 ls []) := by
      intro n65
      induction n65 with
      | zero => intro x4_65 M_p3F_65 hI; cases hI
      | succ n65 ih65 =>
        intro x4_65 M_p3F_65 hI H locs hW ls hl
        obtain ⟨sr65, hF, hN65⟩ := itr_succ hI
        have hF : fJoiner_makeLengths_L65 x2 j_p3 m_depths_59 x4_65 M_p3F_65 = some sr65 := hF
        unfold fJoiner_makeLengths_L65 at hF
        refine lv_iload hx hb dX2_makeLengths_65 (lv_at hl 2 rfl) ?_
        refine lv_aload_n hx hb dX2_makeLengths_67 rfl (lv_at hl 0 rfl) ?_
        refine va_get (D := D) (ci := 2) (v := .int (if (258 : Int32) < x2 then (258 : Int32) else x2)) (C := RX2) (T := TX2) (N := 9) hx hb hts hi2 hown hK.1 hW.1 0 rfl rfl 5 (by decide) hw4 (fun _ h9 => h9) rfl dX2_makeLengths_68 ?_
        refine lv_icmp_ge (tgt := 91) hx hb dX2_makeLengths_71 (by decide) (fun c71 => ?_) (fun c71 => ?_)
        · rw [if_pos c71] at hF
          cases hF
          exact hX65 _ (itr_out hN65) _ _ hW _ (lv_sub hl [] rfl)
        · rw [if_neg c71] at hF
          refine lv_aload_n hx hb dX2_makeLengths_74 rfl (lv_at hl 1 rfl) ?_
          refine lv_iload hx hb dX2_makeLengths_75 (lv_at hl 2 rfl) ?_
          refine lv_aload_n hx hb dX2_makeLengths_77 rfl (lv_at hl 0 rfl) ?_
          refine va_get (D := D) (ci := 2) (v := .ref a_depths) (C := RX2) (T := TX2) (N := 9) hx hb hts hi2 hown hK.1 hW.1 0 rfl rfl 2 (by decide) hw5 (fun _ h9 => h9) rfl dX2_makeLengths_78 ?_
          refine lv_iload hx hb dX2_makeLengths_81 (lv_at hl 2 rfl) ?_
          obtain ⟨g83, hF⟩ := gdI_some hF
          refine va_iald hx hb hK.1 hW.1 3 0 rfl rfl g83 dX2_makeLengths_83 ?_
          obtain ⟨g84, hF⟩ := gdI_some hF
          refine fm_iast hx hb hK.1 hW 7 15 (cA := cI) (len := 258) (aF := aF_p3F) (M := M_p3F_65) rfl hj_p3 rfl g84 dX2_makeLengths_84 (wn := [ob a_self 2 [Value.ref a_weights, Value.ref a_parents, Value.ref a_depths, Value.ref a_sorted, Value.ref a_starts, Value.int (if (258 : Int32) < x2 then (258 : Int32) else x2), Value.int m_nextKind_55, Value.int m_nextJoined_55, Value.int m_nodes_55], ia cI a_weights 516 m_weights_55, ia cI a_parents 516 m_parents_55, ia cI a_depths 516 m_depths_59, ia cI a_sorted 258 m_sorted_51, ia cI a_starts 303 m_starts_51, ia cI a_p1 258 m_p1, ia cI (aF_p3F 0) 258 ((va_up M_p3F_65 j_p3 (upd (M_p3F_65 j_p3) x4_65.toNatClampNeg (m_depths_59 x4_65.toNatClampNeg))) 0), ia cI (aF_p3F 1) 258 ((va_up M_p3F_65 j_p3 (upd (M_p3F_65 j_p3) x4_65.toNatClampNeg (m_depths_59 x4_65.toNatClampNeg))) 1), ia cI (aF_p3F 2) 258 ((va_up M_p3F_65 j_p3 (upd (M_p3F_65 j_p3) x4_65.toNatClampNeg (m_depths_59 x4_65.toNatClampNeg))) 2), ia cI (aF_p3F 3) 258 ((va_up M_p3F_65 j_p3 (upd (M_p3F_65 j_p3) x4_65.toNatClampNeg (m_depths_59 x4_65.toNatClampNeg))) 3), ia cI (aF_p3F 4) 258 ((va_up M_p3F_65 j_p3 (upd (M_p3F_65 j_p3) x4_65.toNatClampNeg (m_depths_59 x4_65.toNatClampNeg))) 4), ia cI (aF_p3F 5) 258 ((va_up M_p3F_65 j_p3 (upd (M_p3F_65 j_p3) x4_65.toNatClampNeg (m_depths_59 x4_65.toNatClampNeg))) 5), ia cI (aF_p3F 6) 258 ((va_up M_p3F_65 j_p3 (upd (M_p3F_65 j_p3) x4_65.toNatClampNeg (m_depths_59 x4_65.toNatClampNeg))) 6), ia cI (aF_p3F 7) 258 ((va_up M_p3F_65 j_p3 (upd (M_p3F_65 j_p3) x4_65.toNatClampNeg (m_depths_59 x4_65.toNatClampNeg))) 7), ia cI (aF_p3F 8) 258 ((va_up M_p3F_65 j_p3 (upd (M_p3F_65 j_p3) x4_65.toNatClampNeg (m_depths_59 x4_65.toNatClampNeg))) 8), ia cI (aF_p3F 9) 258 ((va_up M_p3F_65 j_p3 (upd (M_p3F_65 j_p3) x4_65.toNatClampNeg (m_depths_59 x4_65.toNatClampNeg))) 9), ia cI (aF_p3F 10) 258 ((va_up M_p3F_65 j_p3 (upd (M_p3F_65 j_p3) x4_65.toNatClampNeg (m_depths_59 x4_65.toNatClampNeg))) 10), ia cI (aF_p3F 11) 258 ((va_up M_p3F_65 j_p3 (upd (M_p3F_65 j_p3) x4_65.toNatClampNeg (m_depths_59 x4_65.toNatClampNeg))) 11), ia cI (aF_p3F 12) 258 ((va_up M_p3F_65 j_p3 (upd (M_p3F_65 j_p3) x4_65.toNatClampNeg (m_depths_59 x4_65.toNatClampNeg))) 12), ia cI (aF_p3F 13) 258 ((va_up M_p3F_65 j_p3 (upd (M_p3F_65 j_p3) x4_65.toNatClampNeg (m_depths_59 x4_65.toNatClampNeg))) 13), ia cI (aF_p3F 14) 258 ((va_up M_p3F_65 j_p3 (upd (M_p3F_65 j_p3) x4_65.toNatClampNeg (m_depths_59 x4_65.toNatClampNeg))) 14)]) rfl (fun H locs hW => ?_)
          refine lv_iinc (v := (x4_65 + 1)) (lv' := [(4, .int (x4_65 + 1)), (0, .ref a_self), (3, .ref (aF_p3F j_p3))]) hx hb dX2_makeLengths_85 hl (k := 2) rfl rfl (by decide) rfl (fun ls hl => ?_)
          refine lv_goto (tgt := 65) hx hb dX2_makeLengths_88 (by decide) ?_
          cases hF
          exact ih65 _ _ (itr_in hN65) _ _ hW _ (lv_sub hl [1, 2, 0] rfl)
    exact hL65 nn _ _ hI _ _ hW _ (lv_sub hl [1, 2, 0] rfl)
  have hL14 : ∀ (n14 : Nat) (x4_14 : Int32) (m_weights_14 : Nat → Int32), itr (un2 (fJoiner_makeLengths_L14 m_p1 x2)) n14 (x4_14, m_weights_14) = some m_weights_14ze → ∀ (H : Heap) (locs : List Loc), WS D A s [ob a_self 2 [Value.ref a_weights, Value.ref a_parents, Value.ref a_depths, Value.ref a_sorted, Value.ref a_starts, Value.int (if (258 : Int32) < x2 then (258 : Int32) else x2), Value.int m_nextKind, Value.int m_nextJoined, Value.int m_nodes], ia cI a_weights 516 m_weights_14, ia cI a_parents 516 m_parents, ia cI a_depths 516 m_depths, ia cI a_sorted 258 m_sorted, ia cI a_starts 303 m_starts, ia cI a_p1 258 m_p1, ia cI (aF_p3F 0) 258 (M_p3F 0), ia cI (aF_p3F 1) 258 (M_p3F 1), ia cI (aF_p3F 2) 258 (M_p3F 2), ia cI (aF_p3F 3) 258 (M_p3F 3), ia cI (aF_p3F 4) 258 (M_p3F 4), ia cI (aF_p3F 5) 258 (M_p3F 5), ia cI (aF_p3F 6) 258 (M_p3F 6), ia cI (aF_p3F 7) 258 (M_p3F 7), ia cI (aF_p3F 8) 258 (M_p3F 8), ia cI (aF_p3F 9) 258 (M_p3F 9), ia cI (aF_p3F 10) 258 (M_p3F 10), ia cI (aF_p3F 11) 258 (M_p3F 11), ia cI (aF_p3F 12) 258 (M_p3F 12), ia cI (aF_p3F 13) 258 (M_p3F 13), ia cI (aF_p3F 14) 258 (M_p3F 14)] H locs → ∀ ls : Array Slot, lv_has ls 5 [(0, .ref a_self), (1, .ref a_p1), (3, .ref (aF_p3F j_p3)), (4, .int x4_14)] → W p l e (headSpec wsX2_makeLengths rmJoiner_makeLengths).room s m args below meth c H locs 0 0 Q (F0 m 14 ls []) := by
    intro n14
    induction n14 with
    | zero => intro x4_14 m_weights_14 hI; cases hI
    | succ n14 ih14 =>
      intro x4_14 m_weights_14 hI H locs hW ls hl
      obtain ⟨sr14, hF, hN14⟩ := itr_succ hI
      have hF : fJoiner_makeLengths_L14 m_p1 x2 x4_14 m_weights_14 = some sr14 := hF
      unfold fJoiner_makeLengths_L14 at hF
      refine lv_iload hx hb dX2_makeLengths_14 (lv_at hl 3 rfl) ?_
      refine lv_aload_n hx hb dX2_makeLengths_16 rfl (lv_at hl 0 rfl) ?_
      refine va_get (D := D) (ci := 2) (v := .int (if (258 : Int32) < x2 then (258 : Int32) else x2)) (C := RX2) (T := TX2) (N := 9) hx hb hts hi2 hown hK.1 hW.1 0 rfl rfl 5 (by decide) hw4 (fun _ h9 => h9) rfl dX2_makeLengths_17 ?_
      refine lv_icmp_ge (tgt := 50) hx hb dX2_makeLengths_20 (by decide) (fun c20 => ?_) (fun c20 => ?_)
      · rw [if_pos c20] at hF
        cases hF
        exact hX14 _ (itr_out hN14) _ _ hW _ (lv_sub hl [0, 2] rfl)
      · rw [if_neg c20] at hF
        refine lv_aload_n hx hb dX2_makeLengths_23 rfl (lv_at hl 0 rfl) ?_
        refine va_get (D := D) (ci := 2) (v := .ref a_weights) (C := RX2) (T := TX2) (N := 9) hx hb hts hi2 hown hK.1 hW.1 0 rfl rfl 0 (by decide) hw6 (fun _ h9 => h9) rfl dX2_makeLengths_24 ?_
        refine lv_iload hx hb dX2_makeLengths_27 (lv_at hl 3 rfl) ?_
        refine lv_iconst (v := 0) hx hb dX2_makeLengths_29 (by decide) ?_
        refine lv_aload_n hx hb dX2_makeLengths_30 rfl (lv_at hl 1 rfl) ?_
        refine lv_iload hx hb dX2_makeLengths_31 (lv_at hl 3 rfl) ?_
        obtain ⟨g33, hF⟩ := gdI_some hF
        refine va_iald hx hb hK.1 hW.1 6 0 rfl rfl g33 dX2_makeLengths_33 ?_
        refine lv_sipush (v := 301) hx hb dX2_makeLengths_34 (by decide) ?_
        refine va_mmin hx hb (by rw [hml]; exact hl.1.symm) hown hw0 hw1 hw2 hw3 (Nat.le_of_ble_eq_true rfl) (Nat.le_of_ble_eq_true rfl) (Nat.zero_le _) (Nat.zero_le _) dX2_makeLengths_37 ?_
        refine va_mmax hx hb (by rw [hml]; exact hl.1.symm) hown hw7 hw8 hw2 hw9 (Nat.le_of_ble_eq_true rfl) (Nat.le_of_ble_eq_true rfl) (Nat.zero_le _) (Nat.zero_le _) dX2_makeLengths_40 ?_
        obtain ⟨g43, hF⟩ := gdI_some hF
        refine va_iast hx hb hK.1 hW.1 hW.2.1 hW.2.2 1 0 rfl rfl g43 dX2_makeLengths_43 (fun H locs hP hD hS => ?_)
        have hW : WS D A s [ob a_self 2 [Value.ref a_weights, Value.ref a_parents, Value.ref a_depths, Value.ref a_sorted, Value.ref a_starts, Value.int (if (258 : Int32) < x2 then (258 : Int32) else x2), Value.int m_nextKind, Value.int m_nextJoined, Value.int m_nodes], ia cI a_weights 516 (upd m_weights_14 x4_14.toNatClampNeg (if (0 : Int32) < (if (301 : Int32) < (m_p1 x4_14.toNatClampNeg) then (301 : Int32) else (m_p1 x4_14.toNatClampNeg)) then (if (301 : Int32) < (m_p1 x4_14.toNatClampNeg) then (301 : Int32) else (m_p1 x4_14.toNatClampNeg)) else (0 : Int32))), ia cI a_parents 516 m_parents, ia cI a_depths 516 m_depths, ia cI a_sorted 258 m_sorted, ia cI a_starts 303 m_starts, ia cI a_p1 258 m_p1, ia cI (aF_p3F 0) 258 (M_p3F 0), ia cI (aF_p3F 1) 258 (M_p3F 1), ia cI (aF_p3F 2) 258 (M_p3F 2), ia cI (aF_p3F 3) 258 (M_p3F 3), ia cI (aF_p3F 4) 258 (M_p3F 4), ia cI (aF_p3F 5) 258 (M_p3F 5), ia cI (aF_p3F 6) 258 (M_p3F 6), ia cI (aF_p3F 7) 258 (M_p3F 7), ia cI (aF_p3F 8) 258 (M_p3F 8), ia cI (aF_p3F 9) 258 (M_p3F 9), ia cI (aF_p3F 10) 258 (M_p3F 10), ia cI (aF_p3F 11) 258 (M_p3F 11), ia cI (aF_p3F 12) 258 (M_p3F 12), ia cI (aF_p3F 13) 258 (M_p3F 13), ia cI (aF_p3F 14) 258 (M_p3F 14)] H locs := ⟨hP, hD, hS⟩
        refine lv_iinc (v := (x4_14 + 1)) (lv' := [(4, .int (x4_14 + 1)), (0, .ref a_self), (1, .ref a_p1), (3, .ref (aF_p3F j_p3))]) hx hb dX2_makeLengths_44 hl (k := 3) rfl rfl (by decide) rfl (fun ls hl => ?_)
        refine lv_goto (tgt := 14) hx hb dX2_makeLengths_47 (by decide) ?_
        cases hF
        exact ih14 _ _ (itr_in hN14) _ _ hW _ (lv_sub hl [1, 2, 3, 0] rfl)
  exact hL14 nn _ _ hI _ _ hW _ (lv_sub hl [1, 2, 4, 0] rfl)
