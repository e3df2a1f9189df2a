/-! ===== the class: joining ===== -/
/-- ahead of, by weight, then by number -/
def ltW (W : Nat → Nat) (j k : Nat) : Prop := W j < W k ∨ (W j = W k ∧ j < k)
def rk (W : Nat → Nat) (K k : Nat) : Nat := sumN (fun j => if W j < W k ∨ (W j = W k ∧ j < k) then 1 else 0) K
theorem rk_lt {W : Nat → Nat} {K k : Nat} (hk : k < K) : rk W K k < K := by
  have h1 := sumN_out (f := fun _ => 1) hk
  have h2 : rk W K k ≤ sumN (fun i => if i = k then 0 else 1) K := sumN_le (fun i _ => by
    by_cases e : i = k
    · rw [if_pos e, if_neg (by rw [e]; omega)]
      exact Nat.le_refl _
    · rw [if_neg e]
      split <;> omega)
  rw [sumN_const] at h1
  omega
theorem rk_mono {W : Nat → Nat} {K j k : Nat} (hj : j < K) (h : ltW W j k) : rk W K j < rk W K k := by
  have h1 := sumN_out (f := fun i => if W i < W k ∨ (W i = W k ∧ i < k) then 1 else 0) hj
  have h3 : (if W j < W k ∨ (W j = W k ∧ j < k) then 1 else 0) = 1 := if_pos h
  rw [h3] at h1
  have h2 : rk W K j ≤ sumN (fun i => if i = j then 0 else if W i < W k ∨ (W i = W k ∧ i < k) then 1 else 0) K := sumN_le (fun i _ => by
    unfold ltW at h
    by_cases e : i = j
    · rw [if_pos e, if_neg (by rw [e]; omega)]
      exact Nat.le_refl _
    · rw [if_neg e]
      by_cases c : W i < W j ∨ (W i = W j ∧ i < j)
      · rw [if_pos c, if_pos (by omega)]
        exact Nat.le_refl _
      · rw [if_neg c]
        exact Nat.zero_le _)
  unfold rk at *
  omega
theorem rk_inj {W : Nat → Nat} {K a b : Nat} (ha : a < K) (hb : b < K) (h : rk W K a = rk W K b) : a = b := by
  rcases Nat.lt_trichotomy a b with c | c | c
  · exfalso
    by_cases d : W b < W a
    · have := rk_mono (W := W) (j := b) (k := a) hb (Or.inl d); omega
    · have := rk_mono (W := W) (j := a) (k := b) ha (by unfold ltW; omega); omega
  · exact c
  · exfalso
    by_cases d : W a < W b
    · have := rk_mono (W := W) (j := a) (k := b) ha (Or.inl d); omega
    · have := rk_mono (W := W) (j := b) (k := a) hb (by unfold ltW; omega); omega
theorem rk_lex {W : Nat → Nat} {K a b : Nat} (hb : b < K) (h : rk W K a < rk W K b) : ltW W a b := by
  by_cases c : ltW W a b
  · exact c
  · exfalso
    by_cases e : a = b
    · rw [e] at h; omega
    · have := rk_mono (W := W) (j := b) (k := a) hb (by unfold ltW at *; omega)
      omega
theorem rk_split (W : Nat → Nat) (K k : Nat) (hk : k ≤ K) : rk W K k = sumN (fun j => if W j < W k then 1 else 0) K + sumN (fun j => if W j = W k then 1 else 0) k := by
  have key : ∀ m, k ≤ m → sumN (fun j => if W j < W k ∨ (W j = W k ∧ j < k) then 1 else 0) m = sumN (fun j => if W j < W k then 1 else 0) m + sumN (fun j => if W j = W k then 1 else 0) k := by
    intro m
    induction m with
    | zero =>
      intro h
      rw [show k = 0 by omega]
      rfl
    | succ m ih =>
      intro h
      by_cases e : k = m + 1
      · subst e
        rw [← sumN_add]
        refine sumN_congr (fun j hj => ?_)
        by_cases c1 : W j < W (m + 1)
        · rw [if_pos (Or.inl c1), if_pos c1, if_neg (by omega)]
        · by_cases c2 : W j = W (m + 1)
          · rw [if_pos (Or.inr ⟨c2, hj⟩), if_neg c1, if_pos c2]
          · rw [if_neg (by omega), if_neg c1, if_neg c2]
      · rw [sumN_succ, sumN_succ, ih (by omega)]
        have : (if W m < W k ∨ (W m = W k ∧ m < k) then 1 else 0) = if W m < W k then 1 else 0 := by
          by_cases c1 : W m < W k
          · rw [if_pos (Or.inl c1), if_pos c1]
          · rw [if_neg (by omega), if_neg c1]
        omega
  exact key K hk
theorem cL_succ (W : Nat → Nat) (K v : Nat) : sumN (fun j => if W j < v + 1 then 1 else 0) K = sumN (fun j => if W j < v then 1 else 0) K + sumN (fun j => if W j = v then 1 else 0) K := by
  rw [← sumN_add]
  refine sumN_congr (fun j _ => ?_)
  by_cases c1 : W j < v
  · rw [if_pos (by omega), if_pos c1, if_neg (by omega)]
  · by_cases c2 : W j = v
    · rw [if_pos (by omega), if_neg c1, if_pos c2]
    · rw [if_neg (by omega), if_neg c1, if_neg c2]
theorem cnt_le (p : Nat → Prop) [DecidablePred p] (n : Nat) : sumN (fun j => if p j then 1 else 0) n ≤ n := by
  have := sumN_le (f := fun j => if p j then 1 else 0) (g := fun _ => 1) (n := n) (fun i _ => by split <;> omega)
  rw [sumN_const] at this
  omega
theorem fJoiner_sortKinds_ok {K : Nat} (hK : K ≤ 258) {wv : Nat → Int32} {W : Nat → Nat} (hw : ∀ k, k < K → wv k = nI (W k) ∧ W k ≤ 301) (so st : Nat → Int32) : ∃ so' st', fJoiner_sortKinds (nI K) wv so st = some (so', st') ∧ ∀ k, k < K → so' (rk W K k) = nI k := by
  obtain ⟨s1, k1, h1⟩ : ∃ r, itrO (un2 fJoiner_sortKinds_L2) ((0 : Int32), st) = some r ∧ ∀ v, v < 303 → r v = nI 0 := by
    refine lp_up (step := un2 fJoiner_sortKinds_L2) (fun i s => ∃ w', s = (nI i, w') ∧ ∀ k, k < i → w' k = nI 0) _ 303 (fun i s hi hs => ?_) (fun s hs => ?_) 0 _ (by omega) ⟨st, rfl, fun k hk => by omega⟩
    · obtain ⟨w1, rfl, h1⟩ := hs
      refine Or.inl ⟨(nI (i + 1), upd w1 i (nI 0)), ?_, _, rfl, fun k hk => ?_⟩
      · show fJoiner_sortKinds_L2 (nI i) _ = _
        unfold fJoiner_sortKinds_L2
        simp (disch := omega) only [show Int32.ofNat 303 = nI 303 from rfl, nlit, nrm, gdI_n, if_neg]
      · by_cases e : k = i
        · rw [e, upd_s]
        · rw [upd_n e, h1 k (by omega)]
    · obtain ⟨w1, rfl, h1⟩ := hs
      refine ⟨w1, ?_, h1⟩
      show fJoiner_sortKinds_L2 (nI 303) _ = _
      unfold fJoiner_sortKinds_L2
      simp (disch := omega) only [show Int32.ofNat 303 = nI 303 from rfl, nrm, if_pos, ↓reduceIte]
  obtain ⟨s2, k2, h2⟩ : ∃ r, itrO (un2 (fJoiner_sortKinds_L26 (nI K) wv)) ((0 : Int32), s1) = some r ∧ ∀ v, v < 303 → r v = nI (sumN (fun j => if W j + 1 = v then 1 else 0) K) := by
    refine lp_up (step := un2 (fJoiner_sortKinds_L26 (nI K) wv)) (fun i s => ∃ w', s = (nI i, w') ∧ ∀ v, v < 303 → w' v = nI (sumN (fun j => if W j + 1 = v then 1 else 0) i)) _ K (fun i s hi hs => ?_) (fun s hs => ?_) 0 _ (by omega) ⟨s1, rfl, h1⟩
    · obtain ⟨w1, rfl, h3⟩ := hs
      obtain ⟨hwi, hwl⟩ := hw i hi
      have h4 := h3 (W i + 1) (by omega)
      have h5 := cnt_le (fun j => W j + 1 = W i + 1) i
      refine Or.inl ⟨(nI (i + 1), upd w1 (W i + 1) (nI (sumN (fun j => if W j + 1 = W i + 1 then 1 else 0) i + 1))), ?_, _, rfl, fun v hv => ?_⟩
      · show fJoiner_sortKinds_L26 (nI K) wv (nI i) _ = _
        unfold fJoiner_sortKinds_L26
        simp (disch := omega) only [nlit, nrm, gdI_n, if_neg, hwi, h4]
      · rw [sumN_succ]
        by_cases e : v = W i + 1
        · rw [e, upd_s, if_pos rfl]
        · rw [upd_n e, if_neg (fun q => e q.symm), h3 v hv, Nat.add_zero]
    · obtain ⟨w1, rfl, h3⟩ := hs
      refine ⟨w1, ?_, h3⟩
      show fJoiner_sortKinds_L26 (nI K) wv (nI K) _ = _
      unfold fJoiner_sortKinds_L26
      simp (disch := omega) only [nrm, if_pos, ↓reduceIte]
  obtain ⟨s3, k3, h3⟩ : ∃ r, itrO (un2 fJoiner_sortKinds_L59) ((1 : Int32), s2) = some r ∧ ∀ v, v < 303 → r v = nI (sumN (fun j => if W j < v then 1 else 0) K) := by
    refine lp_up (step := un2 fJoiner_sortKinds_L59) (fun i s => 1 ≤ i ∧ ∃ w', s = (nI i, w') ∧ (∀ v, v < i → w' v = nI (sumN (fun j => if W j < v then 1 else 0) K)) ∧ ∀ v, i ≤ v → v < 303 → w' v = nI (sumN (fun j => if W j + 1 = v then 1 else 0) K)) _ 303 (fun i s hi hs => ?_) (fun s hs => ?_) 1 _ (by omega) ⟨Nat.le_refl _, s2, rfl, fun v hv => ?_, fun v _ hv => h2 v hv⟩
    · obtain ⟨hi1, w1, rfl, h3, h4⟩ := hs
      have h5 := h3 (i - 1) (by omega)
      have h6 := h4 i (Nat.le_refl _) hi
      have h7 := cnt_le (fun j => W j < i - 1) K
      have h8 := cnt_le (fun j => W j + 1 = i) K
      have e9 : sumN (fun j => if W j < i then 1 else 0) K = sumN (fun j => if W j + 1 = i then 1 else 0) K + sumN (fun j => if W j < i - 1 then 1 else 0) K := by
        have := cL_succ W K (i - 1)
        rw [show i - 1 + 1 = i by omega] at this
        rw [this, Nat.add_comm]
        congr 1
        refine sumN_congr (fun j _ => ?_)
        by_cases c : W j = i - 1
        · rw [if_pos c, if_pos (by omega)]
        · rw [if_neg c, if_neg (by omega)]
      refine Or.inl ⟨(nI (i + 1), upd w1 i (nI (sumN (fun j => if W j < i then 1 else 0) K))), ?_, by omega, _, rfl, fun v hv => ?_, fun v hv1 hv2 => ?_⟩
      · show fJoiner_sortKinds_L59 (nI i) _ = _
        unfold fJoiner_sortKinds_L59
        rw [e9]
        simp (disch := omega) only [show Int32.ofNat 303 = nI 303 from rfl, nlit, nrm, gdI_n, if_neg, h5, h6]
      · by_cases e : v = i
        · rw [e, upd_s]
        · rw [upd_n e, h3 v (by omega)]
      · rw [upd_n (by omega), h4 v (by omega) hv2]
    · obtain ⟨hi1, w1, rfl, h3, h4⟩ := hs
      refine ⟨w1, ?_, h3⟩
      show fJoiner_sortKinds_L59 (nI 303) _ = _
      unfold fJoiner_sortKinds_L59
      simp (disch := omega) only [show Int32.ofNat 303 = nI 303 from rfl, nrm, if_pos, ↓reduceIte]
    · have hv0 : v = 0 := by omega
      subst hv0
      rw [h2 0 (by omega)]
      refine nI_c (sumN_congr (fun j _ => ?_))
      rw [if_neg (by omega), if_neg (by omega)]
  obtain ⟨r4, k4, so', st', e4, h4⟩ : ∃ r, itrO (un3 (fJoiner_sortKinds_L93 (nI K) wv)) ((0 : Int32), so, s3) = some r ∧ ∃ so' st', r = (so', st') ∧ ∀ k, k < K → so' (rk W K k) = nI k := by
    refine lp_up (step := un3 (fJoiner_sortKinds_L93 (nI K) wv)) (fun i s => ∃ so' st', s = (nI i, so', st') ∧ (∀ k, k < i → so' (rk W K k) = nI k) ∧ ∀ v, v < 303 → st' v = nI (sumN (fun j => if W j < v then 1 else 0) K + sumN (fun j => if W j = v then 1 else 0) i)) _ K (fun i s hi hs => ?_) (fun s hs => ?_) 0 _ (by omega) ⟨so, s3, rfl, fun k hk => by omega, h3⟩
    · obtain ⟨so1, st1, rfl, h5, h6⟩ := hs
      obtain ⟨hwi, hwl⟩ := hw i hi
      have h7 := h6 (W i) (by omega)
      rw [← rk_split W K i (by omega)] at h7
      have h8 := rk_lt (W := W) hi
      refine Or.inl ⟨(nI (i + 1), upd so1 (rk W K i) (nI i), upd st1 (W i) (nI (rk W K i + 1))), ?_, _, _, rfl, fun k hk => ?_, fun v hv => ?_⟩
      · show fJoiner_sortKinds_L93 (nI K) wv (nI i) _ _ = _
        unfold fJoiner_sortKinds_L93
        simp (disch := omega) only [nlit, nrm, gdI_n, if_neg, hwi, h7]
      · by_cases e : k = i
        · rw [e, upd_s]
        · rw [upd_n (fun q => e (rk_inj (by omega) hi q)), h5 k (by omega)]
      · rw [sumN_succ]
        by_cases e : v = W i
        · rw [e, upd_s, if_pos rfl, rk_split W K i (by omega)]
          exact nI_c (by omega)
        · rw [upd_n e, if_neg (fun q => e q.symm), h6 v hv, Nat.add_zero]
    · obtain ⟨so1, st1, rfl, h5, h6⟩ := hs
      refine ⟨(so1, st1), ?_, so1, st1, rfl, h5⟩
      show fJoiner_sortKinds_L93 (nI K) wv (nI K) _ _ = _
      unfold fJoiner_sortKinds_L93
      simp (disch := omega) only [nrm, if_pos, ↓reduceIte]
  subst e4
  refine ⟨so', st', ?_, h4⟩
  unfold fJoiner_sortKinds
  rw [bd1_of k1, bd1_of k2, bd1_of k3, bd2_of k4]
/-- the row of kinds in their order -/
theorem sorted_ok {W : Nat → Nat} {K : Nat} {so' : Nat → Int32} (h : ∀ k, k < K → so' (rk W K k) = nI k) : ∃ so : Nat → Nat, (∀ i, i < K → so' i = nI (so i) ∧ so i < K ∧ rk W K (so i) = i) := by
  have hp := pigeon K (rk W K) (fun k hk => rk_lt hk) (fun a b ha hb e => rk_inj ha hb e)
  refine ⟨fun i => @dite Nat (i < K) (Nat.decLt i K) (fun hi => (hp i hi).choose) (fun _ => 0), fun i hi => ?_⟩
  have hs := (hp i hi).choose_spec
  have e : (@dite Nat (i < K) (Nat.decLt i K) (fun hi => (hp i hi).choose) (fun _ => 0)) = (hp i hi).choose := dif_pos hi
  dsimp only
  rw [e]
  refine ⟨?_, hs.1, hs.2⟩
  rw [← h _ hs.1, hs.2]
