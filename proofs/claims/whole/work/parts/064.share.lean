/-! ===== the class: ROUND 0 ===== -/
section SH0
variable {S : List Nat} {K : Nat} {sv : Nat → Int32}
theorem fRounds_startLengths_ok (hK : K ≤ 258) (M : Nat → Nat → Int32) (j : Nat) {a b : Nat} (ha : a ≤ 258) (hb : b ≤ 258) : ∃ M', fRounds_startLengths (nI K) M j (nI a) (nI b) = some M' ∧ (∀ k, k < K → M' j k = nI (if a ≤ k ∧ k < b then 1 else 9)) ∧ ∀ q, q ≠ j → M' q = M q := by
  obtain ⟨r, k1, h1, h2⟩ : ∃ r, itrO (un2 (fRounds_startLengths_L3 (nI K) j (nI a) (nI b))) ((0 : Int32), M) = some r ∧ (∀ k, k < K → r j k = nI (if a ≤ k ∧ k < b then 1 else 9)) ∧ ∀ q, q ≠ j → r q = M q := by
    refine lp_up (step := un2 (fRounds_startLengths_L3 (nI K) j (nI a) (nI b))) (fun i s => ∃ M', s = (nI i, M') ∧ (∀ k, k < i → M' j k = nI (if a ≤ k ∧ k < b then 1 else 9)) ∧ ∀ q, q ≠ j → M' q = M q) _ K (fun i s hi hs => ?_) (fun s hs => ?_) 0 _ (by omega) ⟨M, rfl, fun k hk => by omega, fun _ _ => rfl⟩
    · obtain ⟨M', rfl, h1, h2⟩ := hs
      refine Or.inl ⟨(nI (i + 1), va_up M' j (upd (M' j) i (nI (if a ≤ i ∧ i < b then 1 else 9)))), ?_, _, rfl, fun k hk => ?_, fun q hq => by rw [va_up_ne _ _ hq, h2 q hq]⟩
      · show fRounds_startLengths_L3 (nI K) j (nI a) (nI b) (nI i) _ = _
        unfold fRounds_startLengths_L3
        by_cases c1 : i < a
        · rw [if_neg (show ¬ (a ≤ i ∧ i < b) by omega)]
          simp (disch := omega) only [nlit, nrm, gdI_n, if_neg, if_pos, ↓reduceIte]
        · by_cases c2 : b ≤ i
          · rw [if_neg (show ¬ (a ≤ i ∧ i < b) by omega)]
            simp (disch := omega) only [nlit, nrm, gdI_n, if_neg, if_pos, ↓reduceIte]
          · rw [if_pos (show a ≤ i ∧ i < b by omega)]
            simp (disch := omega) only [nlit, nrm, gdI_n, if_neg, if_pos, ↓reduceIte]
      · rw [va_up_self]
        by_cases e : k = i
        · rw [e, upd_s]
        · rw [upd_n e, h1 k (by omega)]
    · obtain ⟨M', rfl, h1, h2⟩ := hs
      refine ⟨M', ?_, h1, h2⟩
      show fRounds_startLengths_L3 (nI K) j (nI a) (nI b) (nI K) _ = _
      unfold fRounds_startLengths_L3
      simp (disch := omega) only [nrm, if_pos, ↓reduceIte]
  refine ⟨r, ?_, h1, h2⟩
  unfold fRounds_startLengths
  rw [bd1_of k1]
theorem fRounds_shareKinds_L40_ok (hK : K ≤ 258) {w : Nat → Int32} {c : Nat → Nat} (hw : ∀ k, k < K → w k = nI (c k)) (hc : sumN c K ≤ 301) {left T t : Nat} (hl : left ≤ 301) (hT : T ≤ 3) (ht : t < T) : ∀ (f nx has : Nat), nx + f = K → has ≤ sumN c nx → itrO (un2 (fRounds_shareKinds_L40 (nI K) (nI T) w (nI left) (nI t))) (nI nx, nI has) = some (nI (shW c K (left / (T - t)) f nx has).1, nI (shW c K (left / (T - t)) f nx has).2) := by
  intro f
  have hdv : nI left / (nI T - nI t) = nI (left / (T - t)) := by
    rw [pk_sub (by omega), pk_div (by omega) (by omega) (by omega)]
  have hdl : left / (T - t) ≤ 301 := Nat.le_trans (Nat.div_le_self _ _) hl
  induction f with
  | zero =>
    intro nx has h1 h2
    refine itrO_1 ?_
    show fRounds_shareKinds_L40 (nI K) (nI T) w (nI left) (nI t) (nI nx) (nI has) = _
    unfold fRounds_shareKinds_L40
    simp (disch := omega) only [nrm, if_pos, ↓reduceIte]
    rfl
  | succ f ih =>
    intro nx has h1 h2
    have h3 := sumN_mono (f := c) (a := nx) (b := K) (by omega)
    by_cases hh : has < left / (T - t)
    · have e : shW c K (left / (T - t)) (f + 1) nx has = shW c K (left / (T - t)) f (nx + 1) (has + c nx) := by
        rw [shW, if_pos (by omega)]
      rw [e, ← ih (nx + 1) (has + c nx) (by omega) (by rw [sumN_succ]; omega)]
      refine itrO_s ?_
      show fRounds_shareKinds_L40 (nI K) (nI T) w (nI left) (nI t) (nI nx) (nI has) = _
      unfold fRounds_shareKinds_L40
      have hwn := hw nx (by omega)
      rw [hdv]
      simp (disch := omega) only [nlit, nrm, gdI_n, if_neg, hwn]
    · have e : shW c K (left / (T - t)) (f + 1) nx has = (nx, has) := by
        rw [shW, if_neg (by omega)]
      rw [e]
      refine itrO_1 ?_
      show fRounds_shareKinds_L40 (nI K) (nI T) w (nI left) (nI t) (nI nx) (nI has) = _
      unfold fRounds_shareKinds_L40
      rw [hdv]
      simp (disch := omega) only [nrm, if_neg, if_pos, ↓reduceIte]
theorem fRounds_shareKinds_ok (hs : rowIs sv (nI S.length) S) (hS : ∀ x ∈ S, x < K) (hl : S.length ≤ 301) (hK : K ≤ 258) (M : Nat → Nat → Int32) (w : Nat → Int32) : ∃ M' w', fRounds_shareKinds (nI K) (nI (nTb S)) (nI S.length) sv M w = some (M', w') ∧ (∀ t, t < nTb S → ∀ k, k < K → M' t k = nI (len0 S K t k)) := by
  have hT := nTb_le S
  obtain ⟨w1, k1, h1⟩ := fRounds_weighAll_ok hs hS hl hK w
  have hcs : sumN (oc S 0 S.length) K = S.length := oc_sum S 0 K S.length (fun i hi => hS _ (by rw [Nat.zero_add]; exact getD_mem hi))
  obtain ⟨r, k2, h2⟩ : ∃ r, itrO (un4 (fRounds_shareKinds_L16 (nI K) (nI (nTb S)) w1)) (nI S.length, (0 : Int32), (0 : Int32), M) = some r ∧ (∀ t, t < nTb S → ∀ k, k < K → r t k = nI (len0 S K t k)) := by
    refine lp_up (step := un4 (fRounds_shareKinds_L16 (nI K) (nI (nTb S)) w1)) (fun t s => ∃ M', s = (nI (shF S K t).2, nI (shF S K t).1, nI t, M') ∧ (∀ t', t' < t → ∀ k, k < K → M' t' k = nI (len0 S K t' k))) _ (nTb S) (fun t s ht hs1 => ?_) (fun s hs1 => ?_) 0 _ (by omega) ⟨M, rfl, fun t ht => by omega⟩
    · obtain ⟨M', rfl, h3⟩ := hs1
      have o1 := shF_ok hS t
      have o2 := shF_ok hS (t + 1)
      have kk := fRounds_shareKinds_L40_ok hK h1 (by omega) (left := (shF S K t).2) (T := nTb S) (t := t) (by omega) hT ht (K - (shF S K t).1) (shF S K t).1 0 (by omega) (by omega)
      have mm := shW_sum (oc S 0 S.length) K ((shF S K t).2 / (nTb S - t)) (K - (shF S K t).1) (shF S K t).1 0
      have mm2 := shW_mono (oc S 0 S.length) K ((shF S K t).2 / (nTb S - t)) (K - (shF S K t).1) (shF S K t).1 0
      have e1 : (shF S K (t + 1)).1 = (shW (oc S 0 S.length) K ((shF S K t).2 / (nTb S - t)) (K - (shF S K t).1) (shF S K t).1 0).1 := rfl
      have e2 : (shF S K (t + 1)).2 = (shF S K t).2 - (shW (oc S 0 S.length) K ((shF S K t).2 / (nTb S - t)) (K - (shF S K t).1) (shF S K t).1 0).2 := rfl
      have m3 := sumN_mono (f := oc S 0 S.length) (mm2.2 o1.1)
      obtain ⟨M2, k3, h4, h5⟩ := fRounds_startLengths_ok hK M' t (a := (shF S K t).1) (b := (shF S K (t + 1)).1) (by omega) (by omega)
      refine Or.inl ⟨(nI (shF S K (t + 1)).2, nI (shF S K (t + 1)).1, nI (t + 1), M2), ?_, M2, rfl, fun t' ht' k hk => ?_⟩
      · show fRounds_shareKinds_L16 (nI K) (nI (nTb S)) w1 _ _ (nI t) _ = _
        unfold fRounds_shareKinds_L16
        rw [bd2_of (x := itrO (un2 (fRounds_shareKinds_L40 (nI K) (nI (nTb S)) w1 (nI (shF S K t).2) (nI t))) (nI (shF S K t).1, 0)) kk, bd1_of (x := fRounds_lengthsBehind 0 (nI t)) (fRounds_lengthsBehind_ok (r := 0) (t := t) (by omega) (by omega))]
        rw [show 3 * 0 + t = t by omega, ← e1, bd1_of k3]
        rw [e1] at *
        simp (disch := omega) only [nlit, nrm, gdZ_n, if_neg]
        rw [e2]
      · by_cases e : t' = t
        · rw [e, h4 k hk]
          rfl
        · rw [h5 t' e, h3 t' (by omega) k hk]
    · obtain ⟨M', rfl, h3⟩ := hs1
      refine ⟨M', ?_, h3⟩
      show fRounds_shareKinds_L16 (nI K) (nI (nTb S)) w1 _ _ (nI (nTb S)) _ = _
      unfold fRounds_shareKinds_L16
      simp (disch := omega) only [nrm, if_pos, ↓reduceIte]
  refine ⟨r, w1, ?_, h2⟩
  unfold fRounds_shareKinds
  rw [bd1_of k1, bd1_of (x := fRow_size (nI S.length)) rfl, bd1_of k2]
end SH0
