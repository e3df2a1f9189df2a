/-! ===== the reference: all that is told of a block ===== -/
theorem dg_lt2 (r x : Nat) (h : x ∈ dg r) : x < 2 := dg_lt r x h
theorem syF_lt {B : List Nat} (hB : ∀ v ∈ B, v < 256) : ∀ i, i ≤ B.length → ∀ x ∈ (syF (plL B) i).2, x < (mapL B).length + 2
  | 0, _, x, hx => by simp [syF] at hx
  | i + 1, hi, x, hx => by
    by_cases e : (plL B).getD i 0 = 0
    · rw [syF_z e] at hx
      exact syF_lt hB i (by omega) x hx
    · rw [syF_n e] at hx
      have hp := plL_lt hB (i := i) (by omega)
      simp only [List.mem_append, List.mem_singleton] at hx
      rcases hx with (hx | hx) | hx
      · exact syF_lt hB i (by omega) x hx
      · have := dg_lt _ _ hx; omega
      · omega
theorem symL_lt {B : List Nat} (hB : ∀ v ∈ B, v < 256) : ∀ x ∈ symL B, x < (mapL B).length + 2 := by
  intro x hx
  unfold symL at hx
  split at hx
  · simp at hx
  · simp only [List.mem_append, List.mem_singleton] at hx
    rcases hx with (hx | hx) | hx
    · exact syF_lt hB _ (Nat.le_refl _) x hx
    · have := dg_lt _ _ hx; omega
    · omega
theorem symL_ne {B : List Nat} (h : B.length ≠ 0) : (symL B).length ≠ 0 := by
  unfold symL
  rw [if_neg h]
  simp
theorem symL_e {B : List Nat} (h : B.length = 0) : symL B = [] := by
  unfold symL
  rw [if_pos h]
def KB (B : List Nat) : Nat := (mapL B).length + 2
theorem KB_le (B : List Nat) : KB B ≤ 258 := by have := mapL_len B; unfold KB; omega
theorem KB_ge (B : List Nat) : 2 ≤ KB B := by unfold KB; omega
/-- what the reference's work leaves -/
def WorkOK (B : List Nat) (lv tv cv : Nat → Int32) : Prop :=
  (∀ r, r < 4 → ∀ g, g < nGr (symL B) → tv (31 * (r + 1) + g) = nI (tkS (symL B) (KB B) (r + 1) g)) ∧ (∀ r, r < 5 → ∀ t, t < nTb (symL B) → ∀ k, k < KB B → lv (258 * (3 * r + t) + k) = nI (lenS (symL B) (KB B) r t k)) ∧ ∀ t, t < nTb (symL B) → ∀ k, k < KB B → cv (258 * t + k) = nI (cod (lenS (symL B) (KB B) 4 t) (KB B) k)
section MW
variable {S : List Nat} {K : Nat} {sv : Nat → Int32}
theorem fMo_work_rounds (hs : rowIs sv (nI S.length) S) (hS : ∀ x ∈ S, x < K) (hS0 : S.length ≠ 0) (hl : S.length ≤ 301) (hK2 : 2 ≤ K) (hK : K ≤ 258) {lv : Nat → Int32} (h0 : ∀ t, t < nTb S → ∀ k, k < K → lv (258 * t + k) = nI (len0 S K t k)) (tv wv ov : Nat → Int32) : ∃ lv' tv' wv' ov', itrO (un5 (fMo_work_L95 (nI (K - 2)) (nI S.length) (nI (nGr S)) sv (nI (nTb S)))) ((1 : Int32), lv, tv, wv, ov) = some (lv', tv', wv', ov') ∧ (∀ r, r < 4 → ∀ g, g < nGr S → tv' (31 * (r + 1) + g) = nI (tkS S K (r + 1) g)) ∧ ∀ r, r < 5 → ∀ t, t < nTb S → ∀ k, k < K → lv' (258 * (3 * r + t) + k) = nI (lenS S K r t k) := by
  have hG := nGr_le hl
  have hT := nTb_le S
  have hlen := lenS_ok hS hl hK2 hK
  obtain ⟨r1, k1, lv', tv', wv', ov', e1, h1, h2⟩ : ∃ r1, itrO (un5 (fMo_work_L95 (nI (K - 2)) (nI S.length) (nI (nGr S)) sv (nI (nTb S)))) ((1 : Int32), lv, tv, wv, ov) = some r1 ∧ ∃ lv' tv' wv' ov', r1 = (lv', tv', wv', ov') ∧ (∀ r, r < 4 → ∀ g, g < nGr S → tv' (31 * (r + 1) + g) = nI (tkS S K (r + 1) g)) ∧ ∀ r, r < 5 → ∀ t, t < nTb S → ∀ k, k < K → lv' (258 * (3 * r + t) + k) = nI (lenS S K r t k) := by
    refine lp_up (step := un5 (fMo_work_L95 (nI (K - 2)) (nI S.length) (nI (nGr S)) sv (nI (nTb S)))) (fun r s => ∃ lv' tv' wv' ov', s = (nI (r + 1), lv', tv', wv', ov') ∧ (∀ r', r' < r → ∀ g, g < nGr S → tv' (31 * (r' + 1) + g) = nI (tkS S K (r' + 1) g)) ∧ ∀ r', r' ≤ r → ∀ t, t < nTb S → ∀ k, k < K → lv' (258 * (3 * r' + t) + k) = nI (lenS S K r' t k)) _ 4 (fun r s hr hs1 => ?_) (fun s hs1 => ?_) 0 _ (by omega) ⟨lv, tv, wv, ov, rfl, fun r' q => by omega, fun r' q t ht k hk => by rw [show r' = 0 by omega, show 3 * 0 + t = t by omega]; exact h0 t ht k hk⟩
    · obtain ⟨l1, t1, w1, o1, rfl, h1, h2⟩ := hs1
      obtain ⟨t2, k2, h3, h4⟩ : ∃ t2, itrO (un2 (fMo_work_L102 (nI S.length) (nI (nGr S)) sv (nI (nTb S)) (nI (r + 1)) l1)) ((0 : Int32), t1) = some t2 ∧ (∀ g, g < nGr S → t2 (31 * (r + 1) + g) = nI (tk (lenS S K r) S g)) ∧ ∀ q, q < 31 * (r + 1) → t2 q = t1 q := by
        refine lp_up (step := un2 (fMo_work_L102 (nI S.length) (nI (nGr S)) sv (nI (nTb S)) (nI (r + 1)) l1)) (fun g s => g ≤ nGr S ∧ ∃ t2, s = (nI g, t2) ∧ (∀ g', g' < g → t2 (31 * (r + 1) + g') = nI (tk (lenS S K r) S g')) ∧ ∀ q, q < 31 * (r + 1) → t2 q = t1 q) _ (nGr S) (fun g s hg hs2 => ?_) (fun s hs2 => ?_) 0 _ (by omega) ⟨by omega, t1, rfl, fun g' q => by omega, fun _ _ => rfl⟩
        · obtain ⟨-, t2, rfl, h3, h4⟩ := hs2
          have k3 := fMo_lightest_ok hs hS hS0 hl hK (lv := l1) (len := lenS S K r) (r := r) (g := g) (by omega) (fun t ht k hk => ⟨h2 r (Nat.le_refl _) t ht k hk, (hlen r t k hk).2⟩) hg
          refine Or.inl ⟨(nI (g + 1), upd t2 (31 * (r + 1) + g) (nI (tk (lenS S K r) S g))), ?_, by omega, _, rfl, fun g' q => ?_, fun q hq => ?_⟩
          · show fMo_work_L102 (nI S.length) (nI (nGr S)) sv (nI (nTb S)) (nI (r + 1)) l1 (nI g) t2 = _
            unfold fMo_work_L102
            rw [show nI (r + 1) - (1 : Int32) = nI r from by rw [show (1 : Int32) = nI 1 from rfl, pk_sub (a := r + 1) (b := 1) (by omega)]; rfl, bd1_of k3]
            simp (disch := omega) only [nlit, nrm, gdI_n, if_neg]
          · by_cases e : g' = g
            · rw [e, upd_s]
            · rw [upd_n (by omega), h3 g' (by omega)]
          · rw [upd_n (by omega), h4 q hq]
        · obtain ⟨-, t2, rfl, h3, h4⟩ := hs2
          refine ⟨t2, ?_, h3, h4⟩
          show fMo_work_L102 (nI S.length) (nI (nGr S)) sv (nI (nTb S)) (nI (r + 1)) l1 (nI (nGr S)) t2 = _
          unfold fMo_work_L102
          simp (disch := omega) only [nrm, if_pos, ↓reduceIte]
      obtain ⟨r4, k4, l3, w3, o3, e4, h5, h6⟩ : ∃ r4, itrO (un4 (fMo_work_L137 (nI (K - 2)) (nI S.length) (nI (nGr S)) sv (nI (nTb S)) (nI (r + 1)) t2)) ((0 : Int32), l1, w1, o1) = some r4 ∧ ∃ l3 w3 o3, r4 = (l3, w3, o3) ∧ (∀ t, t < nTb S → ∀ k, k < K → l3 (258 * (3 * (r + 1) + t) + k) = nI (lenS S K (r + 1) t k)) ∧ ∀ q, q < 258 * (3 * (r + 1)) → l3 q = l1 q := by
        refine lp_up (step := un4 (fMo_work_L137 (nI (K - 2)) (nI S.length) (nI (nGr S)) sv (nI (nTb S)) (nI (r + 1)) t2)) (fun t s => ∃ l3 w3 o3, s = (nI t, l3, w3, o3) ∧ (∀ t', t' < t → ∀ k, k < K → l3 (258 * (3 * (r + 1) + t') + k) = nI (lenS S K (r + 1) t' k)) ∧ ∀ q, q < 258 * (3 * (r + 1)) → l3 q = l1 q) _ (nTb S) (fun t s ht hs2 => ?_) (fun s hs2 => ?_) 0 _ (by omega) ⟨l1, w1, o1, rfl, fun t' q => by omega, fun _ _ => rfl⟩
        · obtain ⟨l3, w3, o3, rfl, h5, h6⟩ := hs2
          obtain ⟨l4, w4, o4, k5, h7, h8⟩ := fMo_weigh_ok hs hS hl hK2 hK (tv := t2) (T := tk (lenS S K r) S) (r := r + 1) (t := t) (by omega) (by omega) (fun g hg => ⟨h3 g hg, by have := tk_lt hS0 (lenS S K r) g; omega⟩) l3 w3 o3
          refine Or.inl ⟨(nI (t + 1), l4, w4, o4), ?_, l4, w4, o4, rfl, fun t' q k hk => ?_, fun q hq => ?_⟩
          · show fMo_work_L137 (nI (K - 2)) (nI S.length) (nI (nGr S)) sv (nI (nTb S)) (nI (r + 1)) t2 (nI t) l3 w3 o3 = _
            unfold fMo_work_L137
            rw [bd3_of k5]
            simp (disch := omega) only [nlit, nrm, if_neg]
          · by_cases e : t' = t
            · rw [e, h7 k hk]
              rfl
            · rw [h8 _ (by omega)]
              exact h5 t' (by omega) k hk
          · rw [h8 _ (by omega), h6 q hq]
        · obtain ⟨l3, w3, o3, rfl, h5, h6⟩ := hs2
          refine ⟨_, ?_, l3, w3, o3, rfl, h5, h6⟩
          show fMo_work_L137 (nI (K - 2)) (nI S.length) (nI (nGr S)) sv (nI (nTb S)) (nI (r + 1)) t2 (nI (nTb S)) l3 w3 o3 = _
          unfold fMo_work_L137
          simp (disch := omega) only [nrm, if_pos, ↓reduceIte]
      subst e4
      refine Or.inl ⟨(nI (r + 1 + 1), l3, t2, w3, o3), ?_, l3, t2, w3, o3, rfl, fun r' q g hg => ?_, fun r' q t ht k hk => ?_⟩
      · show fMo_work_L95 (nI (K - 2)) (nI S.length) (nI (nGr S)) sv (nI (nTb S)) (nI (r + 1)) l1 t1 w1 o1 = _
        unfold fMo_work_L95
        rw [bd1_of k2, bd3_of k4]
        simp (disch := omega) only [nlit, nrm, if_neg]
      · by_cases e : r' = r
        · rw [e, h3 g hg]
          rfl
        · rw [h4 _ (by omega)]
          exact h1 r' (by omega) g hg
      · by_cases e : r' = r + 1
        · rw [e]
          exact h5 t ht k hk
        · rw [h6 _ (by omega)]
          exact h2 r' (by omega) t ht k hk
    · obtain ⟨l1, t1, w1, o1, rfl, h1, h2⟩ := hs1
      refine ⟨_, ?_, l1, t1, w1, o1, rfl, h1, fun r q => h2 r (by omega)⟩
      show fMo_work_L95 (nI (K - 2)) (nI S.length) (nI (nGr S)) sv (nI (nTb S)) (nI (4 + 1)) l1 t1 w1 o1 = _
      unfold fMo_work_L95
      simp (disch := omega) only [nlit, nrm, if_pos, ↓reduceIte]
  subst e1
  exact ⟨lv', tv', wv', ov', k1, h1, h2⟩
theorem fMo_work_codes (hS : ∀ x ∈ S, x < K) (hl : S.length ≤ 301) (hK2 : 2 ≤ K) (hK : K ≤ 258) {lv : Nat → Int32} (h0 : ∀ t, t < nTb S → ∀ k, k < K → lv (258 * (12 + t) + k) = nI (lenS S K 4 t k)) (cv : Nat → Int32) : ∃ cv', itrO (un2 (fMo_work_L165 (nI (K - 2)) (nI (nTb S)) lv)) ((0 : Int32), cv) = some cv' ∧ ∀ t, t < nTb S → ∀ k, k < K → cv' (258 * t + k) = nI (cod (lenS S K 4 t) K k) := by
  have hT := nTb_le S
  have hlen := lenS_ok hS hl hK2 hK
  have eK : nI (K - 2) + (2 : Int32) = nI K := by simp only [nlit, nrm]; exact nI_c (by omega)
  refine lp_up (step := un2 (fMo_work_L165 (nI (K - 2)) (nI (nTb S)) lv)) (fun t s => ∃ c1, s = (nI t, c1) ∧ ∀ t', t' < t → ∀ k, k < K → c1 (258 * t' + k) = nI (cod (lenS S K 4 t') K k)) _ (nTb S) (fun t s ht hs1 => ?_) (fun s hs1 => ?_) 0 _ (by omega) ⟨cv, rfl, fun t' q => by omega⟩
  · obtain ⟨c1, rfl, h1⟩ := hs1
    obtain ⟨c2, k2, h2, h3⟩ := fMo_findCodes_ok (n0 := 3870) (n2 := 774) (fr := 258 * (12 + t)) (ap := 258 * t) (K := K) hK (by omega) (by omega) (by omega) (by omega) (rv := lv) (len := lenS S K 4 t) (fun k hk => ⟨h0 t ht k hk, hlen 4 t k hk⟩) (by rw [lenS_fil hS hl hK2 hK 3 t]; exact Nat.le_refl _) c1
    refine Or.inl ⟨(nI (t + 1), c2), ?_, c2, rfl, fun t' q k hk => ?_⟩
    · show fMo_work_L165 (nI (K - 2)) (nI (nTb S)) lv (nI t) c1 = _
      unfold fMo_work_L165
      rw [eK, show (258 : Int32) * ((12 : Int32) + nI t) = nI (258 * (12 + t)) by simp only [nlit, nrm], show (258 : Int32) * nI t = nI (258 * t) by simp only [nlit, nrm], bd1_of k2]
      simp (disch := omega) only [nlit, nrm, if_neg]
    · by_cases e : t' = t
      · rw [e]; exact h2 k hk
      · rw [h3 _ (by omega)]
        exact h1 t' (by omega) k hk
  · obtain ⟨c1, rfl, h1⟩ := hs1
    refine ⟨c1, ?_, h1⟩
    show fMo_work_L165 (nI (K - 2)) (nI (nTb S)) lv (nI (nTb S)) c1 = _
    unfold fMo_work_L165
    simp (disch := omega) only [nrm, if_pos, ↓reduceIte]
end MW
theorem fMo_work_ok {bv : Nat → Int32} {B : List Nat} (hb : rowIs bv (nI B.length) B) (hB : ∀ v ∈ B, v < 256) (hl : B.length ≤ 300) (q1 q2 q3 q4 : Int32) (mv pv sv lv tv cv li wv ov : Nat → Int32) : ∃ mv' pv' sv' lv' tv' cv' li' wv' ov', fMo_work (nI B.length) (0 : Int32) q1 q2 q3 q4 bv mv pv sv lv tv cv li wv ov = some ((1 : Int32), nI (mapL B).length, nI (symL B).length, nI (nGr (symL B)), nI (nTb (symL B)), mv', pv', sv', lv', tv', cv', li', wv', ov') ∧ rowIs mv' (nI (mapL B).length) (mapL B) ∧ rowIs pv' (nI B.length) (plL B) ∧ rowIs sv' (nI (symL B).length) (symL B) ∧ WorkOK B lv' tv' cv' := by
  have hsl := symL_len B
  have hK := KB_le B
  have hK2 := KB_ge B
  have hml := mapL_len B
  obtain ⟨mv', k1, h1⟩ := fMo_findMap_ok hb hB hl mv
  obtain ⟨pv', li', k2, h2⟩ := fMo_findPlaces_ok hb hB hl h1 pv li
  obtain ⟨sv', k3, h3⟩ := fMo_findSymbols_ok hB hl h2 sv
  have hS : ∀ x ∈ symL B, x < KB B := symL_lt hB
  have eG : (nI (symL B).length + (9 : Int32)) / (10 : Int32) = nI (nGr (symL B)) := by
    simp (disch := omega) only [nlit, nrm]
    rfl
  have key : ∃ lv' tv' cv' wv' ov', fMo_work_J78 (1 : Int32) (nI (mapL B).length) (nI (symL B).length) (nI (nGr (symL B))) q4 mv' pv' sv' lv tv cv li' wv ov (nI (nTb (symL B))) = some ((1 : Int32), nI (mapL B).length, nI (symL B).length, nI (nGr (symL B)), nI (nTb (symL B)), mv', pv', sv', lv', tv', cv', li', wv', ov') ∧ WorkOK B lv' tv' cv' := by
    by_cases h0 : B.length = 0
    · have e := symL_e h0
      refine ⟨lv, tv, cv, wv, ov, ?_, ?_⟩
      · unfold fMo_work_J78
        rw [e, if_pos (show nI ([] : List Nat).length = 0 from rfl)]
      · have eg : nGr (symL B) = 0 := by rw [e]; rfl
        have et : nTb (symL B) = 0 := by rw [e]; rfl
        exact ⟨fun r _ g hg => by omega, fun r _ t ht => by omega, fun t ht => by omega⟩
    · have hS0 := symL_ne h0
      have en : nI (mapL B).length = nI (KB B - 2) := nI_c (by unfold KB; omega)
      obtain ⟨l1, k4, h4⟩ := fMo_begin_ok h3 hS (by omega) hK2 hK lv
      obtain ⟨l2, t2, w2, o2, k5, h5, h6⟩ := fMo_work_rounds h3 hS hS0 (by omega) hK2 hK h4 tv wv ov
      obtain ⟨c2, k6, h7⟩ := fMo_work_codes hS (by omega) hK2 hK (lv := l2) (fun t ht k hk => h6 4 (by omega) t ht k hk) cv
      refine ⟨l2, t2, c2, w2, o2, ?_, h5, h6, h7⟩
      unfold fMo_work_J78
      rw [if_neg (by simp (disch := omega) only [nlit, nrm]; exact hS0), en, bd1_of k4, bd4_of k5, bd1_of k6]
  obtain ⟨lv', tv', cv', wv', ov', k4, h4⟩ := key
  refine ⟨mv', pv', sv', lv', tv', cv', li', wv', ov', ?_, h1, h2, h3, h4⟩
  unfold fMo_work
  rw [if_pos rfl, bd2_of k1, bd2_of k2, bd2_of k3, eG, ← k4]
  unfold nTb
  simp (disch := omega) only [nlit, nrm]
  repeat' split
  all_goals first | rfl | omega
