/-! ===== the class: all rounds ===== -/
theorem hlen_is {K : Nat} {W : Nat → Nat} (hK2 : 2 ≤ K) (hK : K ≤ 258) (hW : ∀ k, k < K → 1 ≤ W k ∧ W k ≤ 301) (ht : sumN W K < 1024) : IsLen W K (hlen W K) := by
  obtain ⟨q1, q2, q3, wv', pv', dv', so', st', M', k1, h1, h2, h3⟩ := fJoiner_makeLengths_ok hK2 hK (kw := fun k => nI (W k)) (W := W) (fun k hk => ⟨rfl, hW k hk⟩) ht (fun _ => 0) (fun _ => 0) (fun _ => 0) (fun _ => 0) (fun _ => 0) (fun _ _ => 0) 0
  exact h2
section BU
variable {S : List Nat} {K : Nat}
theorem lenS_ok (hS : ∀ x ∈ S, x < K) (hl : S.length ≤ 301) (hK2 : 2 ≤ K) (hK : K ≤ 258) : ∀ r t k, k < K → 1 ≤ lenS S K r t k ∧ lenS S K r t k ≤ 20
  | 0, t, k, _ => by
    show 1 ≤ len0 S K t k ∧ len0 S K t k ≤ 20
    unfold len0
    split <;> omega
  | r + 1, t, k, hk => by
    obtain ⟨w1, w2, w3⟩ := wt_ok hS hl hK (tk (lenS S K r) S) t
    have h1 := hlen_is hK2 hK (W := wt (tk (lenS S K r) S) S t) (fun k hk => ⟨w1 k, w2 k hk⟩) w3
    have h2 := (h1.facts hK2 (fun k _ => w1 k) w3).1 k hk
    show 1 ≤ hlen (wt (tk (lenS S K r) S) S t) K k ∧ hlen (wt (tk (lenS S K r) S) S t) K k ≤ 20
    omega
theorem lenS_fil (hS : ∀ x ∈ S, x < K) (hl : S.length ≤ 301) (hK2 : 2 ≤ K) (hK : K ≤ 258) (r t : Nat) : fil (lenS S K (r + 1) t) K = 2 ^ 20 := by
  obtain ⟨w1, w2, w3⟩ := wt_ok hS hl hK (tk (lenS S K r) S) t
  have h1 := hlen_is hK2 hK (W := wt (tk (lenS S K r) S) S t) (fun k hk => ⟨w1 k, w2 k hk⟩) w3
  exact (h1.facts hK2 (fun k _ => w1 k) w3).2
theorem tk_lt (hS0 : S.length ≠ 0) (len : Nat → Nat → Nat) (g : Nat) : tk len S g < nTb S := by
  have := (pk_le2 (fun t => bt (len t) S g) (nTb S - 1)).1
  have := nTb_pos hS0
  unfold tk
  omega
/-- what build leaves -/
def BuildOK (S : List Nat) (K : Nat) (Mt M : Nat → Nat → Int32) (ck : Nat → Int32) (cd : Nat → Nat → Int32) : Prop :=
  (∀ r, r < 4 → ∀ g, g < nGr S → Mt (r + 1) g = nI (tkS S K (r + 1) g)) ∧ (∀ r, r < 5 → ∀ t, t < nTb S → ∀ k, k < K → M (3 * r + t) k = nI (lenS S K r t k)) ∧ (∀ t, t < nTb S → ck t = nI K) ∧ ∀ t, t < nTb S → ∀ k, k < K → cd t k = nI (cod (lenS S K 4 t) K k)
theorem fRounds_build_ok {sv : Nat → Int32} (hs : rowIs sv (nI S.length) S) (hS : ∀ x ∈ S, x < K) (hl : S.length ≤ 301) (hK2 : 2 ≤ K) (hK : K ≤ 258) (Mt M : Nat → Nat → Int32) (wv : Nat → Int32) (q1 q2 q3 q4 : Int32) (jw jp jd js jt ck cf : Nat → Int32) (cd cc cs cn : Nat → Nat → Int32) : ∃ Mt' M' wv' p1 p2 p3 p4 jw' jp' jd' js' jt' ck' cf' cd' cc' cs' cn', fRounds_build (nI S.length) sv Mt M wv q1 q2 q3 q4 jw jp jd js jt ck cf cd cc cs cn (nI K) = some (nI K, nI (nGr S), nI (nTb S), Mt', M', wv', p1, p2, p3, p4, jw', jp', jd', js', jt', ck', cf', cd', cc', cs', cn') ∧ BuildOK S K Mt' M' ck' cd' := by
  have hG := nGr_le hl
  have hT := nTb_le S
  have hKm : (if (258 : Int32) < nI K then (258 : Int32) else nI K) = nI K := by
    rw [if_neg]
    simp (disch := omega) only [nlit, nrm]
    omega
  have hGm : (if (31 : Int32) < nI (nGr S) then (31 : Int32) else nI (nGr S)) = nI (nGr S) := by
    rw [if_neg]
    simp (disch := omega) only [nlit, nrm]
    omega
  have hgr : fMF_groupsFor (nI S.length) = some (nI (nGr S)) := by
    unfold fMF_groupsFor nGr
    simp (disch := omega) only [nlit, nrm]
    exact congrArg some (nI_c (by omega))
  have htb : fMF_tablesFor (nI S.length) = some (nI (nTb S)) := by
    unfold fMF_tablesFor nTb
    simp (disch := omega) only [nlit, nrm]
    repeat' split
    all_goals first | rfl | omega
  have hlen := lenS_ok hS hl hK2 hK
  obtain ⟨M1, wv1, k1, h1⟩ := fRounds_shareKinds_ok hs hS hl hK M wv
  obtain ⟨r2, k2, Mt', M', wv', p1, p2, p3, p4, jw', jp', jd', js', jt', e2, h2, h3⟩ : ∃ r2, itrO (un13 (fRounds_build_L50 (nI S.length) sv (nI K) (nI (nGr S)) (nI (nTb S)))) ((1 : Int32), Mt, M1, wv1, q1, q2, q3, q4, jw, jp, jd, js, jt) = some r2 ∧ ∃ Mt' M' wv' p1 p2 p3 p4 jw' jp' jd' js' jt', r2 = (Mt', M', wv', p1, p2, p3, p4, jw', jp', jd', js', jt') ∧ (∀ r, r < 4 → ∀ g, g < nGr S → Mt' (r + 1) g = nI (tkS S K (r + 1) g)) ∧ (∀ r, r < 5 → ∀ t, t < nTb S → ∀ k, k < K → M' (3 * r + t) k = nI (lenS S K r t k)) := by
    refine lp_up (step := un13 (fRounds_build_L50 (nI S.length) sv (nI K) (nI (nGr S)) (nI (nTb S)))) (fun r s => ∃ Mt' M' wv' p1 p2 p3 p4 jw' jp' jd' js' jt', s = (nI (r + 1), Mt', M', wv', p1, p2, p3, p4, jw', jp', jd', js', jt') ∧ (∀ r', r' < r → ∀ g, g < nGr S → Mt' (r' + 1) g = nI (tkS S K (r' + 1) g)) ∧ (∀ r', r' ≤ r → ∀ t, t < nTb S → ∀ k, k < K → M' (3 * r' + t) k = nI (lenS S K r' t k))) _ 4 (fun r s hr hs1 => ?_) (fun s hs1 => ?_) 0 _ (by omega) ⟨Mt, M1, wv1, q1, q2, q3, q4, jw, jp, jd, js, jt, rfl, fun r' q => by omega, fun r' q t ht k hk => by rw [show r' = 0 by omega, show 3 * 0 + t = t by omega]; exact h1 t ht k hk⟩
    · obtain ⟨Mt1, M2, wv2, p1, p2, p3, p4, jw1, jp1, jd1, js1, jt1, rfl, h2, h3⟩ := hs1
      obtain ⟨Mt2, k3, h4, h5⟩ := fRounds_chooseTables_ok hs hS hl hK (M := M2) (Mt := Mt1) (len := lenS S K r) hr (fun t ht k hk => ⟨h3 r (Nat.le_refl _) t ht k hk, (hlen r t k hk).2⟩)
      obtain ⟨r4, k4, M3, wv3, o1, o2, o3, o4, jw2, jp2, jd2, js2, jt2, e4, h6, h7⟩ : ∃ r4, itrO (un12 (fRounds_build_L62 (nI S.length) sv (nI K) (nI (nGr S)) (nI (nTb S)) (nI (r + 1)) Mt2)) ((0 : Int32), M2, wv2, p1, p2, p3, p4, jw1, jp1, jd1, js1, jt1) = some r4 ∧ ∃ M3 wv3 o1 o2 o3 o4 jw2 jp2 jd2 js2 jt2, r4 = (M3, wv3, o1, o2, o3, o4, jw2, jp2, jd2, js2, jt2) ∧ (∀ t, t < nTb S → ∀ k, k < K → M3 (3 * (r + 1) + t) k = nI (lenS S K (r + 1) t k)) ∧ ∀ q, q < 3 * (r + 1) → M3 q = M2 q := by
        refine lp_up (step := un12 (fRounds_build_L62 (nI S.length) sv (nI K) (nI (nGr S)) (nI (nTb S)) (nI (r + 1)) Mt2)) (fun t s => ∃ M3 wv3 o1 o2 o3 o4 jw2 jp2 jd2 js2 jt2, s = (nI t, M3, wv3, o1, o2, o3, o4, jw2, jp2, jd2, js2, jt2) ∧ (∀ t', t' < t → ∀ k, k < K → M3 (3 * (r + 1) + t') k = nI (lenS S K (r + 1) t' k)) ∧ ∀ q, q < 3 * (r + 1) → M3 q = M2 q) _ (nTb S) (fun t s ht hs2 => ?_) (fun s hs2 => ?_) 0 _ (by omega) ⟨M2, wv2, p1, p2, p3, p4, jw1, jp1, jd1, js1, jt1, rfl, fun t' q => by omega, fun _ _ => rfl⟩
        · obtain ⟨M3, wv3, o1, o2, o3, o4, jw2, jp2, jd2, js2, jt2, rfl, h6, h7⟩ := hs2
          have hS0 : S.length ≠ 0 := by
            intro q
            unfold nTb at ht
            rw [if_pos q] at ht
            omega
          obtain ⟨wv4, k5, h8⟩ := fRounds_weigh_ok hs hS hl hK (Mt := Mt2) (T := tk (lenS S K r) S) (r := r + 1) (t := t) (by omega) (by omega) (fun g hg => ⟨h4 g hg, by have := tk_lt hS0 (lenS S K r) g; omega⟩) wv3
          obtain ⟨w1, w2, w3⟩ := wt_ok hS hl hK (tk (lenS S K r) S) t
          obtain ⟨n1, n2, n3, jw3, jp3, jd3, js3, jt3, M4, k6, h9, h10, h11⟩ := fJoiner_makeLengths_ok hK2 hK (kw := wv4) (W := wt (tk (lenS S K r) S) S t) (fun k hk => ⟨h8 k hk, w1 k, w2 k hk⟩) w3 jw2 jp2 jd2 js2 jt2 M3 (3 * (r + 1) + t)
          refine Or.inl ⟨(nI (t + 1), M4, wv4, nI K, n1, n2, n3, jw3, jp3, jd3, js3, jt3), ?_, _, _, _, _, _, _, _, _, _, _, _, rfl, fun t' q k hk => ?_, fun q hq => ?_⟩
          · show fRounds_build_L62 (nI S.length) sv (nI K) (nI (nGr S)) (nI (nTb S)) (nI (r + 1)) Mt2 (nI t) _ _ _ _ _ _ _ _ _ _ _ = _
            unfold fRounds_build_L62
            rw [hKm, hGm, bd1_of k5, bd1_of (fRounds_lengthsBehind_ok (r := r + 1) (t := t) (by omega) (by omega)), bd10_of k6]
            simp (disch := omega) only [nlit, nrm, if_neg]
          · by_cases e : t' = t
            · rw [e, h9 k hk]
              rfl
            · rw [h11 _ (by omega), h6 t' (by omega) k hk]
          · rw [h11 _ (by omega), h7 q hq]
        · obtain ⟨M3, wv3, o1, o2, o3, o4, jw2, jp2, jd2, js2, jt2, rfl, h6, h7⟩ := hs2
          refine ⟨_, ?_, M3, wv3, o1, o2, o3, o4, jw2, jp2, jd2, js2, jt2, rfl, h6, h7⟩
          show fRounds_build_L62 (nI S.length) sv (nI K) (nI (nGr S)) (nI (nTb S)) (nI (r + 1)) Mt2 (nI (nTb S)) _ _ _ _ _ _ _ _ _ _ _ = _
          unfold fRounds_build_L62
          simp (disch := omega) only [nrm, if_pos, ↓reduceIte]
      subst e4
      refine Or.inl ⟨(nI (r + 1 + 1), Mt2, M3, wv3, o1, o2, o3, o4, jw2, jp2, jd2, js2, jt2), ?_, _, _, _, _, _, _, _, _, _, _, _, _, rfl, fun r' q g hg => ?_, fun r' q t ht k hk => ?_⟩
      · show fRounds_build_L50 (nI S.length) sv (nI K) (nI (nGr S)) (nI (nTb S)) (nI (r + 1)) _ _ _ _ _ _ _ _ _ _ _ _ = _
        unfold fRounds_build_L50
        rw [hKm, hGm, bd1_of k3, bd11_of k4]
        simp (disch := omega) only [nlit, nrm, if_neg]
      · by_cases e : r' = r
        · rw [e, h4 g hg]
          rfl
        · rw [h5 _ (by omega), h2 r' (by omega) g hg]
      · by_cases e : r' = r + 1
        · rw [e]
          exact h6 t ht k hk
        · rw [h7 _ (by omega)]
          exact h3 r' (by omega) t ht k hk
    · obtain ⟨Mt1, M2, wv2, p1, p2, p3, p4, jw1, jp1, jd1, js1, jt1, rfl, h2, h3⟩ := hs1
      refine ⟨_, ?_, Mt1, M2, wv2, p1, p2, p3, p4, jw1, jp1, jd1, js1, jt1, rfl, h2, fun r q => h3 r (by omega)⟩
      show fRounds_build_L50 (nI S.length) sv (nI K) (nI (nGr S)) (nI (nTb S)) (nI (4 + 1)) _ _ _ _ _ _ _ _ _ _ _ _ = _
      unfold fRounds_build_L50
      simp (disch := omega) only [nlit, nrm, if_pos, ↓reduceIte]
  subst e2
  obtain ⟨r5, k5, ck', cf', cd', cc', cs', cn', e5, h5, h6⟩ : ∃ r5, itrO (un7 (fRounds_build_L111 (nI K) (nI (nTb S)) M')) ((0 : Int32), ck, cf, cd, cc, cs, cn) = some r5 ∧ ∃ ck' cf' cd' cc' cs' cn', r5 = (ck', cf', cd', cc', cs', cn') ∧ (∀ t, t < nTb S → ck' t = nI K) ∧ ∀ t, t < nTb S → ∀ k, k < K → cd' t k = nI (cod (lenS S K 4 t) K k) := by
    refine lp_up (step := un7 (fRounds_build_L111 (nI K) (nI (nTb S)) M')) (fun t s => ∃ ck' cf' cd' cc' cs' cn', s = (nI t, ck', cf', cd', cc', cs', cn') ∧ (∀ t', t' < t → ck' t' = nI K) ∧ ∀ t', t' < t → ∀ k, k < K → cd' t' k = nI (cod (lenS S K 4 t') K k)) _ (nTb S) (fun t s ht hs1 => ?_) (fun s hs1 => ?_) 0 _ (by omega) ⟨ck, cf, cd, cc, cs, cn, rfl, fun t q => by omega, fun t q => by omega⟩
    · obtain ⟨ck1, cf1, cd1, cc1, cs1, cn1, rfl, h4, h5⟩ := hs1
      have hML : ∀ k, k < K → M' (12 + t) k = nI (lenS S K 4 t k) ∧ 1 ≤ lenS S K 4 t k ∧ lenS S K 4 t k ≤ 20 := fun k hk => ⟨by have := h3 4 (by omega) t ht k hk; rw [show 3 * 4 + t = 12 + t by omega] at this; exact this, hlen 4 t k hk⟩
      obtain ⟨d1, c1, f1, n1, k6, h7, h8, h9⟩ := fCodes_settle_ok hK hML (by rw [lenS_fil hS hl hK2 hK 3 t]; exact Nat.le_refl _) (cd1 t) (cc1 t) (cs1 t) (cn1 t)
      refine Or.inl ⟨(nI (t + 1), va_up ck1 t (nI K), va_up cf1 t (nI (fil (lenS S K 4 t) K)), va_up cd1 t d1, va_up cc1 t c1, va_up cs1 t f1, va_up cn1 t n1), ?_, _, _, _, _, _, _, rfl, fun t' q => ?_, fun t' q k hk => ?_⟩
      · show fRounds_build_L111 (nI K) (nI (nTb S)) M' (nI t) _ _ _ _ _ _ = _
        unfold fRounds_build_L111
        have et : (nI t).toNatClampNeg = t := nI_clamp (by omega)
        rw [hKm, et, bd7_of k6]
        simp (disch := omega) only [nlit, nrm, gdI_n, if_neg]
      · by_cases e : t' = t
        · rw [e, va_up_self]
        · rw [va_up_ne _ _ e, h4 t' (by omega)]
      · by_cases e : t' = t
        · rw [e, va_up_self, h7 k hk]
        · rw [va_up_ne _ _ e, h5 t' (by omega) k hk]
    · obtain ⟨ck1, cf1, cd1, cc1, cs1, cn1, rfl, h4, h5⟩ := hs1
      refine ⟨_, ?_, ck1, cf1, cd1, cc1, cs1, cn1, rfl, h4, h5⟩
      show fRounds_build_L111 (nI K) (nI (nTb S)) M' (nI (nTb S)) _ _ _ _ _ _ = _
      unfold fRounds_build_L111
      simp (disch := omega) only [nrm, if_pos, ↓reduceIte]
  subst e5
  refine ⟨Mt', M', wv', p1, p2, p3, p4, jw', jp', jd', js', jt', ck', cf', cd', cc', cs', cn', ?_, h2, h3, h5, h6⟩
  unfold fRounds_build
  rw [bd1_of (x := fRow_size (nI S.length)) rfl, bd1_of hgr, bd1_of (x := fRow_size (nI S.length)) rfl, bd1_of htb, hKm, hGm, bd2_of k1, bd12_of k2, bd6_of k5]
end BU
