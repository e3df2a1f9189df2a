/-! ===== the class: symbols, and the whole way back ===== -/
section R3
variable {T : List Nat} {tc : Int32} {tv : Nat → Int32} {fn fp : Int32}
theorem readEnd_ok (hr : rowIs tv tc T) (hn : T.length ≤ 1500) {gr i p : Nat} (hgr : gr ≤ 31) (hi : i ≤ 400) (hp : p ≤ T.length) {B : List Nat} (hBl : B.length ≤ 300) : fReader_readEnd (nI gr) (nI p) fn fp tc (nI B.length) (nI (i + 1)) = if B.length = 0 then some (0, nI 9, nI p) else if (i + 10) / 10 < gr ∨ p < T.length then some (0, nI 10, nI p) else some (1, fn, fp) := by
  have e1 : fMF_groupsFor (nI (i + 1)) = some (nI ((i + 10) / 10)) := by
    unfold fMF_groupsFor
    simp (disch := omega) only [nlit, nrm]
    exact congrArg some (nI_c (by omega))
  unfold fReader_readEnd
  rw [bd1_of (x := fRow_size (nI B.length)) rfl, bd1_of e1, bd1_of (x := fRow_size tc) rfl, hr.1]
  by_cases c0 : B.length = 0
  · rw [if_pos c0, if_pos (show nI B.length = 0 by rw [c0]; rfl)]
    rfl
  · rw [if_neg c0, if_neg (nI_zn (by omega) c0)]
    by_cases c1 : (i + 10) / 10 < gr
    · rw [if_pos (Or.inl c1), if_pos (by simp (disch := omega) only [nlit, nrm]; exact c1)]
      rfl
    · rw [if_neg (by simp (disch := omega) only [nlit, nrm]; exact c1)]
      by_cases c2 : p < T.length
      · rw [if_pos (Or.inr c2), if_neg (by simp (disch := omega) only [nlit, nrm]; omega)]
        rfl
      · rw [if_pos (show nI T.length ≤ nI p by simp (disch := omega) only [nlit, nrm]; omega), if_neg (show ¬ ((i + 10) / 10 < gr ∨ p < T.length) by omega)]
theorem readSymbolsL_ok (hr : rowIs tv tc T) (hT : ∀ x ∈ T, x < 2) (hn : T.length ≤ 1500) {K gr tb : Nat} (hK3 : 3 ≤ K) (hK : K ≤ 258) (hgr : gr ≤ 31) (htb : tb ≤ 3) {C : List Nat} (hC : C.length = gr) (hCt : ∀ x ∈ C, x < tb) {cv : Nat → Int32} (hcv : rowIs cv (nI C.length) C) {G : Nat → Nat → Nat} (hG : okT K tb G) {ck cf : Nat → Int32} {lv cd cc cs : Nat → Nat → Int32} (hR : RTB K tb G ck cf lv cd cc cs) : ∀ f i B l z p sv ll, i + f = 10 * gr → p ≤ T.length → B.length ≤ 300 → z ≤ B.length + 1 → rowIs sv (nI B.length) B → (∀ j, j < K - 2 → ll j = nI (l j)) → (∀ q, smG T K gr C G f i B l z p = .inl q → ∃ z' sc' sv' ll', bs (itrO (un8 (fReader_readSymbols_L14 (nI gr) (nI K) tc tv (nI C.length) cv (nI (K - 2)) ck cf lv cd cc cs)) (nI i, nI z, nI p, fn, fp, nI B.length, sv, ll)) (un7 (fun m_zeroPower_14z m_position_14z m_faultNumber_14z m_faultPosition_14z m_signs_count_14z m_signs_values_14z m_list_list_14z => bd3 (fReader_fail m_position_14z (9 : Int32)) (fun r_85 m_faultNumber_85 m_faultPosition_85 => gdB r_85 (some (r_85, m_zeroPower_14z, m_position_14z, m_faultNumber_85, m_faultPosition_85, m_signs_count_14z, m_signs_values_14z, m_list_list_14z))))) (fun rr => some rr) = some (0, z', nI q.2, nI q.1, nI q.2, sc', sv', ll')) ∧ (∀ q, smG T K gr C G f i B l z p = .inr q → ∃ z' sv' ll', bs (itrO (un8 (fReader_readSymbols_L14 (nI gr) (nI K) tc tv (nI C.length) cv (nI (K - 2)) ck cf lv cd cc cs)) (nI i, nI z, nI p, fn, fp, nI B.length, sv, ll)) (un7 (fun m_zeroPower_14z m_position_14z m_faultNumber_14z m_faultPosition_14z m_signs_count_14z m_signs_values_14z m_list_list_14z => bd3 (fReader_fail m_position_14z (9 : Int32)) (fun r_85 m_faultNumber_85 m_faultPosition_85 => gdB r_85 (some (r_85, m_zeroPower_14z, m_position_14z, m_faultNumber_85, m_faultPosition_85, m_signs_count_14z, m_signs_values_14z, m_list_list_14z))))) (fun rr => some rr) = some (1, z', nI q.2, fn, fp, nI q.1.length, sv', ll') ∧ rowIs sv' (nI q.1.length) q.1)
  | 0, i, B, l, z, p, sv, ll, hf, hp, hBl, hz, hB, hll => ⟨fun q h => by
      cases h
      have h1 : un8 (fReader_readSymbols_L14 (nI gr) (nI K) tc tv (nI C.length) cv (nI (K - 2)) ck cf lv cd cc cs) (nI i, nI z, nI p, fn, fp, nI B.length, sv, ll) = some (.inr (.inl (nI z, nI p, fn, fp, nI B.length, sv, ll))) := by
        show fReader_readSymbols_L14 (nI gr) (nI K) tc tv (nI C.length) cv (nI (K - 2)) ck cf lv cd cc cs (nI i) (nI z) (nI p) fn fp (nI B.length) sv ll = _
        unfold fReader_readSymbols_L14
        rw [if_pos (by simp (disch := omega) only [nlit, nrm]; omega)]
      exact ⟨nI z, nI B.length, sv, ll, by rw [bs_l (itrO_1 h1)]; rfl⟩, fun q h => (by cases h)⟩
  | f + 1, i, B, l, z, p, sv, ll, hf, hp, hBl, hz, hB, hll => by
    unfold smG
    have hCi : C.getD (i / 10) 0 < tb := hCt _ (getD_mem (by omega))
    obtain ⟨hG1, hG2⟩ := hG _ hCi
    have hnk := nextKind_ok (fn := fn) (fp := fp) hr hT hn hK (t := C.getD (i / 10) 0) (by omega) hG1 hG2 (hR _ hCi) hp
    have hok := nkG_ok (T := T) (len := G (C.getD (i / 10) 0)) (K := K) 20 1 0 p hp
    have hge := fRow_get_ok hcv (n := 31) (by omega) (by decide) (k := i / 10) (by omega)
    have ei : nI i / (10 : Int32) = nI (i / 10) := by simp (disch := omega) only [nlit, nrm]
    have egr : ¬ nI gr * (10 : Int32) ≤ nI i := by simp (disch := omega) only [nlit, nrm]; omega
    cases h : nkG T (G (C.getD (i / 10) 0)) K 20 1 0 p with
    | inl q =>
      rw [h] at hnk
      have hnk : fReader_nextKind (nI p) fn fp tc tv ck cf lv cd cc cs (nI (C.getD (i / 10) 0)) = some (-1, nI q.2, nI q.1, nI q.2) := hnk
      refine ⟨fun q' h' => ?_, fun q' h' => (by cases h')⟩
      cases h'
      have h1 : un8 (fReader_readSymbols_L14 (nI gr) (nI K) tc tv (nI C.length) cv (nI (K - 2)) ck cf lv cd cc cs) (nI i, nI z, nI p, fn, fp, nI B.length, sv, ll) = some (.inr (.inr (0, nI z, nI q.2, nI q.1, nI q.2, nI B.length, sv, ll))) := by
        show fReader_readSymbols_L14 (nI gr) (nI K) tc tv (nI C.length) cv (nI (K - 2)) ck cf lv cd cc cs (nI i) (nI z) (nI p) fn fp (nI B.length) sv ll = _
        unfold fReader_readSymbols_L14
        rw [if_neg egr, ei, bd1_of hge, bd4_of hnk, if_pos rfl]
      exact ⟨nI z, nI B.length, sv, ll, by rw [bs_r (itrO_1 h1)]⟩
    | inr u =>
      obtain ⟨u1, u2⟩ := hok.2 u h
      rw [h] at hnk
      have hnk : fReader_nextKind (nI p) fn fp tc tv ck cf lv cd cc cs (nI (C.getD (i / 10) 0)) = some (nI u.1, nI u.2, fn, fp) := hnk
      dsimp only
      have eK : nI K - (1 : Int32) = nI (K - 1) := pk_sub (a := K) (b := 1) (by omega)
      by_cases c1 : u.1 = K - 1
      · rw [if_pos c1]
        have hre := readEnd_ok (fn := fn) (fp := fp) hr hn (gr := gr) (i := i) (p := u.2) hgr (by omega) u1 hBl
        rw [← nI_s] at hre
        have hgo : ∀ a b c, fReader_readEnd (nI gr) (nI u.2) fn fp tc (nI B.length) (nI i + 1) = some (a, b, c) → (a = 0 ∨ a = 1) → un8 (fReader_readSymbols_L14 (nI gr) (nI K) tc tv (nI C.length) cv (nI (K - 2)) ck cf lv cd cc cs) (nI i, nI z, nI p, fn, fp, nI B.length, sv, ll) = some (.inr (.inr (a, nI z, nI u.2, b, c, nI B.length, sv, ll))) := fun a b c hx ha => by
          show fReader_readSymbols_L14 (nI gr) (nI K) tc tv (nI C.length) cv (nI (K - 2)) ck cf lv cd cc cs (nI i) (nI z) (nI p) fn fp (nI B.length) sv ll = _
          unfold fReader_readSymbols_L14
          rw [if_neg egr, ei, bd1_of hge, bd4_of hnk, if_neg (m1_nI (by omega)), eK, c1, if_pos rfl, bd3_of hx, gdB_of ha]
        by_cases c2 : B.length = 0
        · rw [if_pos c2] at hre ⊢
          refine ⟨fun q' h' => ?_, fun q' h' => (by cases h')⟩
          cases h'
          exact ⟨nI z, nI B.length, sv, ll, by rw [bs_r (itrO_1 (hgo _ _ _ hre (Or.inl rfl)))]⟩
        · rw [if_neg c2] at hre ⊢
          by_cases c3 : (i + 10) / 10 < gr ∨ u.2 < T.length
          · rw [if_pos c3] at hre ⊢
            refine ⟨fun q' h' => ?_, fun q' h' => (by cases h')⟩
            cases h'
            exact ⟨nI z, nI B.length, sv, ll, by rw [bs_r (itrO_1 (hgo _ _ _ hre (Or.inl rfl)))]⟩
          · rw [if_neg c3] at hre ⊢
            refine ⟨fun q' h' => (by cases h'), fun q' h' => ?_⟩
            cases h'
            exact ⟨nI z, sv, ll, by rw [bs_r (itrO_1 (hgo _ _ _ hre (Or.inr rfl)))], hB⟩
      · rw [if_neg c1]
        have c1' : ¬ nI u.1 = nI (K - 1) := by rw [nI_eq' (by omega) (by omega)]; exact c1
        have hgo : ∀ x, fReader_takeSymbol (nI z) (nI u.2) fn fp (nI B.length) sv (nI (K - 2)) ll (nI u.1) = some x → un8 (fReader_readSymbols_L14 (nI gr) (nI K) tc tv (nI C.length) cv (nI (K - 2)) ck cf lv cd cc cs) (nI i, nI z, nI p, fn, fp, nI B.length, sv, ll) = if x.1 = 0 then some (.inr (.inr (0, x.2.1, nI u.2, x.2.2))) else some (.inl (nI (i + 1), x.2.1, nI u.2, x.2.2)) := fun x hx => by
          show fReader_readSymbols_L14 (nI gr) (nI K) tc tv (nI C.length) cv (nI (K - 2)) ck cf lv cd cc cs (nI i) (nI z) (nI p) fn fp (nI B.length) sv ll = _
          unfold fReader_readSymbols_L14
          rw [if_neg egr, ei, bd1_of hge, bd4_of hnk, if_neg (m1_nI (by omega)), eK, if_neg c1', bd7_of (a0 := x.1) (a1 := x.2.1) (a2 := x.2.2.1) (a3 := x.2.2.2.1) (a4 := x.2.2.2.2.1) (a5 := x.2.2.2.2.2.1) (a6 := x.2.2.2.2.2.2) hx, nI_s]
        by_cases c2 : 1 < u.1
        · rw [if_pos c2]
          have e1 : nI u.1 - (1 : Int32) = nI (u.1 - 1) := pk_sub (a := u.1) (b := 1) (by omega)
          have e3 := fFront_bringUp_ok (n := K - 2) (N := 256) (p := u.1 - 1) (f := ll) (by omega) (by omega) (by omega)
          rw [hll (u.1 - 1) (by omega)] at e3
          obtain ⟨t1, t2⟩ := takeSigns_ok (fn := fn) (fp := fp) hB hBl (m := 1) (x := l (u.1 - 1)) (p := u.2) (by omega)
          by_cases c3 : B.length + 1 ≤ 300
          · rw [if_pos c3]
            obtain ⟨sv', k2, h2⟩ := t1 c3
            have k2 : fReader_takeSigns (nI u.2) fn fp (nI B.length) sv (nI (l (u.1 - 1))) 1 = some (1, fn, fp, nI (B ++ [l (u.1 - 1)]).length, sv') := k2
            have h2 : rowIs sv' (nI (B ++ [l (u.1 - 1)]).length) (B ++ [l (u.1 - 1)]) := h2
            have hx : fReader_takeSymbol (nI z) (nI u.2) fn fp (nI B.length) sv (nI (K - 2)) ll (nI u.1) = some (1, nI 1, fn, fp, nI (B ++ [l (u.1 - 1)]).length, sv', mtf ll (u.1 - 1)) := by
              unfold fReader_takeSymbol
              rw [if_neg (by simp (disch := omega) only [nlit, nrm]; omega), e1, bd2_of e3, bd5_of k2, gdB_of (Or.inr rfl)]
              rfl
            have hg := hgo _ hx
            rw [if_neg (show ¬ (1 : Int32) = 0 by decide)] at hg
            rw [itrO_s hg]
            exact readSymbolsL_ok hr hT hn hK3 hK hgr htb hC hCt hcv hG hR f (i + 1) (B ++ [l (u.1 - 1)]) (mtf l (u.1 - 1)) 1 u.2 sv' (mtf ll (u.1 - 1)) (by omega) u1 (by rw [List.length_append, List.length_singleton]; exact c3) (by omega) h2 (mtf_nI (by omega) hll)
          · rw [if_neg c3]
            refine ⟨fun q' h' => ?_, fun q' h' => (by cases h')⟩
            cases h'
            have k2 : fReader_takeSigns (nI u.2) fn fp (nI B.length) sv (nI (l (u.1 - 1))) 1 = some (0, nI 8, nI u.2, nI B.length, sv) := t2 c3
            have hx : fReader_takeSymbol (nI z) (nI u.2) fn fp (nI B.length) sv (nI (K - 2)) ll (nI u.1) = some (0, nI 1, nI 8, nI u.2, nI B.length, sv, mtf ll (u.1 - 1)) := by
              unfold fReader_takeSymbol
              rw [if_neg (by simp (disch := omega) only [nlit, nrm]; omega), e1, bd2_of e3, bd5_of k2, gdB_of (Or.inl rfl)]
              rfl
            have hg := hgo _ hx
            rw [if_pos rfl] at hg
            exact ⟨_, _, _, _, by rw [bs_r (itrO_1 hg)]⟩
        · rw [if_neg c2]
          have e3 := fFront_bringUp_ok (n := K - 2) (N := 256) (p := 0) (f := ll) (by omega) (by omega) (by omega)
          rw [hll 0 (by omega), mtf_0] at e3
          have e3 : fFront_bringUp 256 (nI (K - 2)) ll 0 = some (nI (l 0), ll) := e3
          have hzm : z * (u.1 + 1) ≤ 602 := by
            have : z * (u.1 + 1) ≤ 301 * 2 := Nat.mul_le_mul (by omega) (by omega)
            omega
          have em : nI z * (nI u.1 + 1) = nI (z * (u.1 + 1)) := by rw [nI_s, pk_mul]
          have ez : nI z * (2 : Int32) = nI (z * 2) := pk_mul z 2
          obtain ⟨t1, t2⟩ := takeSigns_ok (fn := fn) (fp := fp) hB hBl (m := z * (u.1 + 1)) (x := l 0) (p := u.2) (by omega)
          by_cases c3 : B.length + z * (u.1 + 1) ≤ 300
          · rw [if_pos c3]
            obtain ⟨sv', k2, h2⟩ := t1 c3
            have hx : fReader_takeSymbol (nI z) (nI u.2) fn fp (nI B.length) sv (nI (K - 2)) ll (nI u.1) = some (1, nI (z * 2), fn, fp, nI (B ++ List.replicate (z * (u.1 + 1)) (l 0)).length, sv', ll) := by
              unfold fReader_takeSymbol
              rw [if_pos (by simp (disch := omega) only [nlit, nrm]; omega), em, ez, bd2_of e3, bd5_of k2, gdB_of (Or.inr rfl)]
            have hg := hgo _ hx
            rw [if_neg (show ¬ (1 : Int32) = 0 by decide)] at hg
            rw [itrO_s hg]
            have hz2 : z * 1 ≤ z * (u.1 + 1) := Nat.mul_le_mul_left _ (by omega)
            exact readSymbolsL_ok hr hT hn hK3 hK hgr htb hC hCt hcv hG hR f (i + 1) (B ++ List.replicate (z * (u.1 + 1)) (l 0)) l (z * 2) u.2 sv' ll (by omega) u1 (by rw [List.length_append, List.length_replicate]; exact c3) (by rw [List.length_append, List.length_replicate]; omega) h2 hll
          · rw [if_neg c3]
            refine ⟨fun q' h' => ?_, fun q' h' => (by cases h')⟩
            cases h'
            have k2 := t2 c3
            have hx : fReader_takeSymbol (nI z) (nI u.2) fn fp (nI B.length) sv (nI (K - 2)) ll (nI u.1) = some (0, nI (z * 2), nI 8, nI u.2, nI B.length, sv, ll) := by
              unfold fReader_takeSymbol
              rw [if_pos (by simp (disch := omega) only [nlit, nrm]; omega), em, ez, bd2_of e3, bd5_of k2, gdB_of (Or.inl rfl)]
            have hg := hgo _ hx
            rw [if_pos rfl] at hg
            exact ⟨_, _, _, _, by rw [bs_r (itrO_1 hg)]⟩
/-- the whole of it -/
theorem readTape_ok (hr : rowIs tv tc T) (hT : ∀ x ∈ T, x < 2) (hn : T.length ≤ 1500) (a1 a2 a3 a4 a5 a6 a7 : Int32) (v1 v2 v3 v4 ck cf : Nat → Int32) (lv cd cc cs cn : Nat → Nat → Int32) : (∀ q, rdG T = .inl q → ∃ b1 b2 b3 b4 b5 b6 b7 b8 w1 w2 w3 w4 ck' cf' lv' cd' cc' cs' cn', fReader_readTape a1 a2 a3 a4 tc tv a5 v1 a6 v2 v3 a7 v4 ck cf lv cd cc cs cn = some (0, b1, b2, b3, b4, nI q.2, nI q.1, nI q.2, b5, w1, b6, w2, b7, w3, b8, w4, ck', cf', lv', cd', cc', cs', cn')) ∧ (∀ q, rdG T = .inr q → ∃ b1 b2 b3 b4 b6 b7 b8 w1 w2 w3 w4 ck' cf' lv' cd' cc' cs' cn', fReader_readTape a1 a2 a3 a4 tc tv a5 v1 a6 v2 v3 a7 v4 ck cf lv cd cc cs cn = some (1, b1, b2, b3, b4, nI q.2, 0, -1, nI q.1.length, w1, b6, w2, b7, w3, b8, w4, ck', cf', lv', cd', cc', cs', cn') ∧ rowIs w1 (nI q.1.length) q.1) := by
  unfold rdG
  obtain ⟨m1, m2⟩ := readMap_ok (fn := 0) (fp := -1) hr hT hn a3 v3
  have ok1 := r1G_ok hT
  cases e1 : r1G T with
  | inl q =>
    refine ⟨fun q' h' => ?_, fun q' h' => (by cases h')⟩
    cases h'
    obtain ⟨lc', lv', k1⟩ := m1 q e1
    unfold fReader_readTape
    rw [bd7_of k1, if_pos rfl]
    exact ⟨_, _, _, _, _, _, _, _, _, _, _, _, _, _, _, _, _, _, _, rfl⟩
  | inr q1 =>
    obtain ⟨l1, k1, r1⟩ := m2 q1 e1
    obtain ⟨o1, o2, o3, o4⟩ := ok1.2 q1 e1
    dsimp only
    obtain ⟨m3, m4⟩ := readCounts_ok (fn := 0) (fp := -1) hr hT hn a2 o1
    have ok2 := r2G_ok hT (p := q1.2)
    cases e2 : r2G T q1.2 with
    | inl q =>
      refine ⟨fun q' h' => ?_, fun q' h' => (by cases h')⟩
      cases h'
      obtain ⟨x, y, k2⟩ := m3 q e2
      unfold fReader_readTape
      rw [bd7_of k1, if_neg (by decide), bd6_of k2, if_pos rfl]
      exact ⟨_, _, _, _, _, _, _, _, _, _, _, _, _, _, _, _, _, _, _, rfl⟩
    | inr q2 =>
      have k2 := m4 q2 e2
      obtain ⟨o5, o6, o7, o8, o9⟩ := ok2.2 q2 e2
      dsimp only
      obtain ⟨m5, m6⟩ := readChoices_ok (fn := 0) (fp := -1) hr hT hn (tb := q2.1.1) (gr := q2.1.2) o7 o9 o5 v2 v4
      have ok3 := rcG_ok (T := T) (tb := q2.1.1) q2.1.2 [] (fun i => i) q2.2 o5 (fun x hx => by simp at hx) (fun i hi => hi)
      cases e3 : rcG T q2.1.1 q2.1.2 [] (fun i => i) q2.2 with
      | inl q =>
        refine ⟨fun q' h' => ?_, fun q' h' => (by cases h')⟩
        cases h'
        obtain ⟨x1, x2, x3, x4, k3⟩ := m5 q e3
        unfold fReader_readTape
        rw [bd7_of k1, if_neg (by decide), bd6_of k2, if_neg (by decide), bd8_of k3, if_pos rfl]
        exact ⟨_, _, _, _, _, _, _, _, _, _, _, _, _, _, _, _, _, _, _, rfl⟩
      | inr q3 =>
        obtain ⟨x2, x3, x4, k3, r3⟩ := m6 q3 e3
        obtain ⟨o10, o11, o12⟩ := ok3.2 q3 e3
        dsimp only
        obtain ⟨m7, m8⟩ := readTablesL_ok (fn := 0) (fp := -1) hr hT hn (K := q1.1.length + 2) (tb := q2.1.1) (by omega) o7 q2.1.1 0 (fun _ _ => 0) q3.2 ck cf lv cd cc cs cn (by omega) o10 (fun t ht => by omega)
        have ok4 := tbG_ok hT (K := q1.1.length + 2) q2.1.1 0 (fun _ _ => 0) q3.2 o10 (fun t ht => by omega)
        cases e4 : tbG T (q1.1.length + 2) q2.1.1 0 (fun _ _ => 0) q3.2 with
        | inl q =>
          refine ⟨fun q' h' => ?_, fun q' h' => (by cases h')⟩
          cases h'
          obtain ⟨y1, y2, y3, y4, y5, y6, y7, k4⟩ := m7 q e4
          have k4' : fReader_readTables (nI q2.1.1) (nI (q1.1.length + 2)) (nI q3.2) 0 (-1) tc tv ck cf lv cd cc cs cn = some (0, nI q.2, nI q.1, nI q.2, y1, y2, y3, y4, y5, y6, y7) := by
            unfold fReader_readTables
            rw [bs_r (x := itrO (un11 (fReader_readTables_L2 (nI q2.1.1) (nI (q1.1.length + 2)) tc tv)) (0, nI q3.2, 0, -1, ck, cf, lv, cd, cc, cs, cn)) k4]
          unfold fReader_readTape
          rw [bd7_of k1, if_neg (by decide), bd6_of k2, if_neg (by decide), bd8_of k3, if_neg (by decide), bd11_of k4', if_pos rfl]
          exact ⟨_, _, _, _, _, _, _, _, _, _, _, _, _, _, _, _, _, _, _, rfl⟩
        | inr q4 =>
          obtain ⟨y1, y2, y3, y4, y5, y6, y7, k4, r4⟩ := m8 q4 e4
          obtain ⟨o13, o14⟩ := ok4.2 q4 e4
          rw [Nat.zero_add] at o14
          have k4' : fReader_readTables (nI q2.1.1) (nI (q1.1.length + 2)) (nI q3.2) 0 (-1) tc tv ck cf lv cd cc cs cn = some (1, nI q4.2, 0, -1, y1, y2, y3, y4, y5, y6, y7) := by
            unfold fReader_readTables
            rw [bs_l (x := itrO (un11 (fReader_readTables_L2 (nI q2.1.1) (nI (q1.1.length + 2)) tc tv)) (0, nI q3.2, 0, -1, ck, cf, lv, cd, cc, cs, cn)) k4]
            rfl
          dsimp only
          have hC : q3.1.length = q2.1.2 := by rw [o11, List.length_nil, Nat.zero_add]
          obtain ⟨m9, m10⟩ := readSymbolsL_ok (fn := 0) (fp := -1) hr hT hn (K := q1.1.length + 2) (gr := q2.1.2) (tb := q2.1.1) (by omega) (by omega) o9 o7 hC o12 r3 o14 r4 (10 * q2.1.2) 0 [] (fun i => q1.1.getD i 0) 1 q4.2 v1 l1 (by omega) o13 (Nat.zero_le _) (by simp) rowIs.nil (fun j hj => r1.2 j (by omega))
          have eK : nI q1.1.length = nI (q1.1.length + 2 - 2) := nI_c (by omega)
          refine ⟨fun q hq => ?_, fun q hq => ?_⟩
          · obtain ⟨z1, z2, z3, z4, k5⟩ := m9 q hq
            have k5' : fReader_readSymbols (nI q2.1.2) (nI (q1.1.length + 2)) (nI q4.2) 0 (-1) tc tv v1 (nI q3.1.length) x2 (nI q1.1.length) l1 y1 y2 y3 y4 y5 y6 = some (0, z1, nI q.2, nI q.1, nI q.2, z2, z3, z4) := by
              unfold fReader_readSymbols
              rw [bd1_of (x := fRow_clear) rfl, eK]
              exact k5
            unfold fReader_readTape
            rw [bd7_of k1, if_neg (by decide), bd6_of k2, if_neg (by decide), bd8_of k3, if_neg (by decide), bd11_of k4', if_neg (by decide), bd8_of k5', if_pos rfl]
            exact ⟨_, _, _, _, _, _, _, _, _, _, _, _, _, _, _, _, _, _, _, rfl⟩
          · obtain ⟨z1, z3, z4, k5, r5⟩ := m10 q hq
            have k5' : fReader_readSymbols (nI q2.1.2) (nI (q1.1.length + 2)) (nI q4.2) 0 (-1) tc tv v1 (nI q3.1.length) x2 (nI q1.1.length) l1 y1 y2 y3 y4 y5 y6 = some (1, z1, nI q.2, 0, -1, nI q.1.length, z3, z4) := by
              unfold fReader_readSymbols
              rw [bd1_of (x := fRow_clear) rfl, eK]
              exact k5
            unfold fReader_readTape
            rw [bd7_of k1, if_neg (by decide), bd6_of k2, if_neg (by decide), bd8_of k3, if_neg (by decide), bd11_of k4', if_neg (by decide), bd8_of k5', if_neg (by decide)]
            exact ⟨_, _, _, _, _, _, _, _, _, _, _, _, _, _, _, _, _, _, rfl, r5⟩
end R3
