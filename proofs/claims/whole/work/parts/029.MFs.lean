abbrev rmMF_groupsFor : Room := { frames := 0, cells := 0, slots := 0, locals := 0 }
set_option maxHeartbeats 4000000 in
set_option maxRecDepth 100000 in
theorem kMF_groupsFor (l : Launch) (D : va_G) (cI cZ cO cG : ClassId) (x0 : Int32) {rv : Int32} (hF : fMF_groupsFor x0 = some rv) : CT l yX8_groupsFor wsX8_groupsFor rmMF_groupsFor D (tysG cI cZ cO cG) [.int x0] [] (some (.int rv)) [] := by
  refine CT.of (cc := cX8_groupsFor) (maxL := 1) (ret := (some .int)) (by decide) rfl (Nat.le_of_ble_eq_true rfl) ?_
  intro p e s m below meth c A ls hx hb hr hml hts hown hlocks hK hA hP hD hS hl
  generalize hargs : ([.int x0] : List Value).toArray = args at hts ⊢
  generalize hQ : MQ below (ctQ D (some (.int rv)) [] A) args s 0 0 A = Q
  have hl : lv_has ls 1 [(0, .int x0)] := hl
  have hW : WS D A s [] s.heap [] := ⟨hP, hD, hS⟩
  clear hP hD hS
  unfold fMF_groupsFor at hF
  refine lv_iload_n hx hb dX8_groupsFor_0 rfl (lv_at hl 0 rfl) ?_
  refine lv_bipush (v := 10) hx hb dX8_groupsFor_1 (by decide) ?_
  refine lv_iadd hx hb dX8_groupsFor_3 ?_
  refine lv_iconst (v := 1) hx hb dX8_groupsFor_4 (by decide) ?_
  refine lv_isub hx hb dX8_groupsFor_5 ?_
  refine lv_bipush (v := 10) hx hb dX8_groupsFor_6 (by decide) ?_
  refine lv_idiv hx hb dX8_groupsFor_8 (by decide) ?_
  cases hF
  subst hQ
  exact ct_iret hx hb hr hlocks hW.1 hW.2.2 dX8_groupsFor_9
abbrev rmMF_tablesFor : Room := { frames := 0, cells := 0, slots := 0, locals := 0 }
set_option maxHeartbeats 4000000 in
set_option maxRecDepth 100000 in
theorem kMF_tablesFor (l : Launch) (D : va_G) (cI cZ cO cG : ClassId) (x0 : Int32) {rv : Int32} (hF : fMF_tablesFor x0 = some rv) : CT l yX8_tablesFor wsX8_tablesFor rmMF_tablesFor D (tysG cI cZ cO cG) [.int x0] [] (some (.int rv)) [] := by
  refine CT.of (cc := cX8_tablesFor) (maxL := 1) (ret := (some .int)) (by decide) rfl (Nat.le_of_ble_eq_true rfl) ?_
  intro p e s m below meth c A ls hx hb hr hml hts hown hlocks hK hA hP hD hS hl
  generalize hargs : ([.int x0] : List Value).toArray = args at hts ⊢
  generalize hQ : MQ below (ctQ D (some (.int rv)) [] A) args s 0 0 A = Q
  have hl : lv_has ls 1 [(0, .int x0)] := hl
  have hW : WS D A s [] s.heap [] := ⟨hP, hD, hS⟩
  clear hP hD hS
  unfold fMF_tablesFor at hF
  refine lv_iload_n hx hb dX8_tablesFor_0 rfl (lv_at hl 0 rfl) ?_
  refine lv_if_ne (tgt := 6) hx hb dX8_tablesFor_1 (by decide) (fun c1 => ?_) (fun c1 => ?_)
  · rw [if_neg c1] at hF
    refine lv_iload_n hx hb dX8_tablesFor_6 rfl (lv_at hl 0 rfl) ?_
    refine lv_bipush (v := 20) hx hb dX8_tablesFor_7 (by decide) ?_
    refine lv_icmp_ge (tgt := 14) hx hb dX8_tablesFor_9 (by decide) (fun c9 => ?_) (fun c9 => ?_)
    · rw [if_pos c9] at hF
      refine lv_iload_n hx hb dX8_tablesFor_14 rfl (lv_at hl 0 rfl) ?_
      refine lv_bipush (v := 60) hx hb dX8_tablesFor_15 (by decide) ?_
      refine lv_icmp_ge (tgt := 24) hx hb dX8_tablesFor_17 (by decide) (fun c17 => ?_) (fun c17 => ?_)
      · rw [if_pos c17] at hF
        refine lv_iconst (v := 3) hx hb dX8_tablesFor_24 (by decide) ?_
        cases hF
        subst hQ
        exact ct_iret hx hb hr hlocks hW.1 hW.2.2 dX8_tablesFor_25
      · rw [if_neg c17] at hF
        refine lv_iconst (v := 2) hx hb dX8_tablesFor_20 (by decide) ?_
        refine lv_goto (tgt := 25) hx hb dX8_tablesFor_21 (by decide) ?_
        cases hF
        subst hQ
        exact ct_iret hx hb hr hlocks hW.1 hW.2.2 dX8_tablesFor_25
    · rw [if_neg c9] at hF
      refine lv_iconst (v := 1) hx hb dX8_tablesFor_12 (by decide) ?_
      cases hF
      subst hQ
      exact ct_iret hx hb hr hlocks hW.1 hW.2.2 dX8_tablesFor_13
  · rw [if_pos c1] at hF
    refine lv_iconst (v := 0) hx hb dX8_tablesFor_4 (by decide) ?_
    cases hF
    subst hQ
    exact ct_iret hx hb hr hlocks hW.1 hW.2.2 dX8_tablesFor_5
