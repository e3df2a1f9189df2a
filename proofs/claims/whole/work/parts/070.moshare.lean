/-! ===== the reference: round 0 and the choice ===== -/
section MA
variable {S : List Nat} {K : Nat} {sv : Nat → Int32}
theorem nI0m1 : nI 0 - nI 1 = (-1 : Int32) := by decide
theorem fMo_within_ok {k a b : Nat} (hk : k < 2 ^ 31) (ha : a < 2 ^ 31) (hb : b < 2 ^ 31) : fMo_within (nI k) (nI a) (nI b - nI 1) = some (if a ≤ k ∧ k < b then nI 1 else nI 0) := by
  unfold fMo_within
  by_cases h0 : b = 0
  · subst h0
    rw [nI0m1, if_neg (show ¬ (a ≤ k ∧ k < 0) by omega)]
    by_cases h1 : k < a
    · rw [if_pos (by simp (disch := omega) only [nrm]; exact h1)]
      rfl
    · rw [if_neg (by simp (disch := omega) only [nrm]; exact h1), if_pos (by rw [m1_lt hk]; trivial)]
      rfl
  · simp (disch := omega) only [nlit, nrm]
    by_cases h1 : k < a
    · rw [if_pos h1, if_neg (by omega)]
    · rw [if_neg h1]
      by_cases h2 : b - 1 < k
      · rw [if_pos h2, if_neg (by omega)]
      · rw [if_neg h2, if_pos (by omega)]
theorem fMo_often_ok (hs : rowIs sv (nI S.length) S) (hS : ∀ x ∈ S, x < K) (hl : S.length ≤ 301) (hK : K ≤ 258) {k : Nat} (hk : k < K) : fMo_often (nI S.length) sv (nI k) = some (nI (oc S 0 S.length k)) := by
  have k1 : itrO (un2 (fMo_often_L4 (nI S.length) sv (nI k))) ((0 : Int32), (0 : Int32)) = some (nI (oc S 0 S.length k)) := by
    refine lp_c (step := un2 (fMo_often_L4 (nI S.length) sv (nI k))) (fun i => (nI (oc S 0 i k), nI i)) (nI (oc S 0 S.length k)) S.length (fun i hi => ?_) ?_ 0 (by omega)
    · show fMo_often_L4 (nI S.length) sv (nI k) _ (nI i) = _
      unfold fMo_often_L4
      have hx := hS _ (getD_mem hi)
      have hg := hs.2 i hi
      rw [oc_s, Nat.zero_add]
      by_cases e : S.getD i 0 = k
      · rw [if_pos e]
        simp (disch := omega) only [nlit, nrm, gdI_n, if_neg, if_pos, ↓reduceIte, hg]
      · rw [if_neg e]
        simp (disch := omega) only [nlit, nrm, gdI_n, if_neg, ↓reduceIte, hg]
    · show fMo_often_L4 (nI S.length) sv (nI k) _ (nI S.length) = _
      unfold fMo_often_L4
      simp (disch := omega) only [nrm, if_pos, ↓reduceIte]
  unfold fMo_often
  rw [bd1_of k1]
theorem fMo_begin_L33_ok (hs : rowIs sv (nI S.length) S) (hS : ∀ x ∈ S, x < K) (hl : S.length ≤ 301) (hK2 : 2 ≤ K) (hK : K ≤ 258) {left T t : Nat} (hlf : left ≤ 301) (hT : T ≤ 3) (ht : t < T) : ∀ (f nx has : Nat), nx + f = K → has ≤ sumN (oc S 0 S.length) nx → itrO (un2 (fMo_begin_L33 (nI (K - 2)) (nI S.length) (nI T) sv (nI left) (nI t))) (nI nx, nI has) = some (nI (shW (oc S 0 S.length) K (left / (T - t)) f nx has).1, nI (shW (oc S 0 S.length) K (left / (T - t)) f nx has).2) := by
  have hsum := oc_sum S 0 K S.length (fun i hi => hS _ (by rw [Nat.zero_add]; exact getD_mem hi))
  have hdv : left / (T - t) ≤ 301 := Nat.le_trans (Nat.div_le_self _ _) hlf
  have eK : nI (K - 2) + nI 2 = nI K := by simp only [nrm]; exact nI_c (by omega)
  intro f
  induction f with
  | zero =>
    intro nx has hf hh
    have hm := sumN_mono (f := oc S 0 S.length) (a := nx) (b := K) (by omega)
    have hm2 : has ≤ 301 := Nat.le_trans hh (Nat.le_trans hm (by rw [hsum]; exact hl))
    refine itrO_1 ?_
    show fMo_begin_L33 (nI (K - 2)) (nI S.length) (nI T) sv (nI left) (nI t) (nI nx) (nI has) = _
    unfold fMo_begin_L33 shW
    simp (disch := omega) only [nlit, nrm]
    split
    · rfl
    · rw [if_pos (by omega)]
  | succ f ih =>
    intro nx has hf hh
    have hm := sumN_mono (f := oc S 0 S.length) (a := nx + 1) (b := K) (by omega)
    have hm1 := hm
    rw [sumN_succ, hsum] at hm
    unfold shW
    by_cases c : nx < K ∧ has < left / (T - t)
    · rw [if_pos c, ← ih (nx + 1) (has + oc S 0 S.length nx) (by omega) (by rw [sumN_succ]; omega)]
      refine itrO_s ?_
      show fMo_begin_L33 (nI (K - 2)) (nI S.length) (nI T) sv (nI left) (nI t) (nI nx) (nI has) = _
      unfold fMo_begin_L33
      rw [bd1_of (fMo_often_ok hs hS hl hK c.1)]
      simp (disch := omega) only [nlit, nrm, if_neg]
    · rw [if_neg c]
      refine itrO_1 ?_
      show fMo_begin_L33 (nI (K - 2)) (nI S.length) (nI T) sv (nI left) (nI t) (nI nx) (nI has) = _
      unfold fMo_begin_L33
      simp (disch := omega) only [nlit, nrm]
      split
      · rfl
      · rw [if_pos (by omega)]
theorem fMo_begin_ok (hs : rowIs sv (nI S.length) S) (hS : ∀ x ∈ S, x < K) (hl : S.length ≤ 301) (hK2 : 2 ≤ K) (hK : K ≤ 258) (lv : Nat → Int32) : ∃ lv', fMo_begin (nI (K - 2)) (nI S.length) (nI (nTb S)) sv lv = some lv' ∧ ∀ t, t < nTb S → ∀ k, k < K → lv' (258 * t + k) = nI (len0 S K t k) := by
  have hT := nTb_le S
  obtain ⟨r, k1, h1⟩ : ∃ r, itrO (un4 (fMo_begin_L9 (nI (K - 2)) (nI S.length) (nI (nTb S)) sv)) ((0 : Int32), nI S.length, (0 : Int32), lv) = some r ∧ ∀ t, t < nTb S → ∀ k, k < K → r (258 * t + k) = nI (len0 S K t k) := by
    refine lp_up (step := un4 (fMo_begin_L9 (nI (K - 2)) (nI S.length) (nI (nTb S)) sv)) (fun t s => ∃ lv', s = (nI (shF S K t).1, nI (shF S K t).2, nI t, lv') ∧ ∀ t', t' < t → ∀ k, k < K → lv' (258 * t' + k) = nI (len0 S K t' k)) _ (nTb S) (fun t s ht hs1 => ?_) (fun s hs1 => ?_) 0 _ (by omega) ⟨lv, rfl, fun t' q => by omega⟩
    · obtain ⟨l1, rfl, h1⟩ := hs1
      obtain ⟨f1, f2⟩ := shF_ok hS t
      obtain ⟨f3, f4⟩ := shF_ok hS (t + 1)
      have hw := shW_sum (oc S 0 S.length) K ((shF S K t).2 / (nTb S - t)) (K - (shF S K t).1) (shF S K t).1 0
      have hsum := oc_sum S 0 K S.length (fun i hi => hS _ (by rw [Nat.zero_add]; exact getD_mem hi))
      have hm := sumN_mono (f := oc S 0 S.length) f3
      have e1 : (shF S K (t + 1)).1 = (shW (oc S 0 S.length) K ((shF S K t).2 / (nTb S - t)) (K - (shF S K t).1) (shF S K t).1 0).1 := rfl
      have e2 : (shF S K (t + 1)).2 = (shF S K t).2 - (shW (oc S 0 S.length) K ((shF S K t).2 / (nTb S - t)) (K - (shF S K t).1) (shF S K t).1 0).2 := rfl
      rw [← e1] at hw
      have k2 := fMo_begin_L33_ok hs hS hl hK2 hK (left := (shF S K t).2) (T := nTb S) (t := t) (by omega) hT ht (K - (shF S K t).1) (shF S K t).1 0 (by omega) (Nat.zero_le _)
      rw [← e1, show nI 0 = (0 : Int32) from rfl] at k2
      obtain ⟨l2, k3, h2, h3⟩ : ∃ r, itrO (un2 (fMo_begin_L74 (nI (K - 2)) (nI (shF S K t).1) (nI t) (nI (shF S K (t + 1)).1))) ((0 : Int32), l1) = some r ∧ (∀ k, k < K → r (258 * t + k) = nI (len0 S K t k)) ∧ ∀ q, q < 258 * t → r q = l1 q := by
        refine lp_up (step := un2 (fMo_begin_L74 (nI (K - 2)) (nI (shF S K t).1) (nI t) (nI (shF S K (t + 1)).1))) (fun i s => i ≤ K ∧ ∃ l2, s = (nI i, l2) ∧ (∀ k, k < i → l2 (258 * t + k) = nI (len0 S K t k)) ∧ ∀ q, q < 258 * t → l2 q = l1 q) _ K (fun i s hi hs2 => ?_) (fun s hs2 => ?_) 0 _ (by omega) ⟨by omega, l1, rfl, fun k q => by omega, fun _ _ => rfl⟩
        · obtain ⟨-, l2, rfl, h2, h3⟩ := hs2
          refine Or.inl ⟨(nI (i + 1), upd l2 (258 * t + i) (nI (len0 S K t i))), ?_, by omega, _, rfl, fun k hk => ?_, fun q hq => ?_⟩
          · show fMo_begin_L74 (nI (K - 2)) (nI (shF S K t).1) (nI t) (nI (shF S K (t + 1)).1) (nI i) _ = _
            unfold fMo_begin_L74 len0
            have hwi := fMo_within_ok (k := i) (a := (shF S K t).1) (b := (shF S K (t + 1)).1) (by omega) (by omega) (by omega)
            rw [show (1 : Int32) = nI 1 from rfl, bd1_of hwi]
            by_cases c : (shF S K t).1 ≤ i ∧ i < (shF S K (t + 1)).1
            · rw [if_pos c, if_pos c]
              simp (disch := omega) only [nlit, nrm, gdI_n, if_neg]
            · rw [if_neg c, if_neg c]
              simp (disch := omega) only [nlit, nrm, gdI_n, if_neg, if_pos, ↓reduceIte]
          · by_cases e : k = i
            · rw [e, upd_s]
            · rw [upd_n (by omega), h2 k (by omega)]
          · rw [upd_n (by omega), h3 q hq]
        · obtain ⟨-, l2, rfl, h2, h3⟩ := hs2
          refine ⟨l2, ?_, h2, h3⟩
          show fMo_begin_L74 (nI (K - 2)) (nI (shF S K t).1) (nI t) (nI (shF S K (t + 1)).1) (nI K) _ = _
          unfold fMo_begin_L74
          simp (disch := omega) only [nlit, nrm, if_pos, ↓reduceIte]
      refine Or.inl ⟨(nI (shF S K (t + 1)).1, nI (shF S K (t + 1)).2, nI (t + 1), l2), ?_, l2, rfl, fun t' q k hk => ?_⟩
      · show fMo_begin_L9 (nI (K - 2)) (nI S.length) (nI (nTb S)) sv (nI (shF S K t).1) (nI (shF S K t).2) (nI t) l1 = _
        unfold fMo_begin_L9
        rw [bd2_of k2, bd1_of k3, e2]
        have hz : (nI (nTb S) - nI t) = nI (nTb S - t) := pk_sub (a := nTb S) (b := t) (by omega)
        rw [hz, gdZ_n (by omega) (by omega)]
        simp (disch := omega) only [nlit, nrm, if_neg]
      · by_cases e : t' = t
        · rw [e]; exact h2 k hk
        · rw [h3 _ (by omega)]; exact h1 t' (by omega) k hk
    · obtain ⟨l1, rfl, h1⟩ := hs1
      refine ⟨l1, ?_, h1⟩
      show fMo_begin_L9 (nI (K - 2)) (nI S.length) (nI (nTb S)) sv _ _ (nI (nTb S)) _ = _
      unfold fMo_begin_L9
      simp (disch := omega) only [nrm, if_pos, ↓reduceIte]
  refine ⟨r, ?_, h1⟩
  unfold fMo_begin
  rw [bd1_of k1]
theorem fMo_groupEnd_ok (hl : S.length ≤ 301) {g : Nat} (hg : g < 1000) : fMo_groupEnd (nI S.length) (nI g) = some (nI (gE S g)) := by
  unfold fMo_groupEnd gE
  simp (disch := omega) only [nlit, nrm]
  by_cases c : 10 * g + 10 < S.length
  · rw [if_neg (by omega), if_pos c]
  · rw [if_pos (by omega), if_neg c]
theorem fMo_lightest_L26_ok (hs : rowIs sv (nI S.length) S) (hS : ∀ x ∈ S, x < K) (hl : S.length ≤ 301) (hK : K ≤ 258) {lv : Nat → Int32} {len : Nat → Nat} {r t g : Nat} (hr : r < 5) (ht : t < 3) (hM : ∀ k, k < K → lv (258 * (3 * r + t) + k) = nI (len k) ∧ len k ≤ 20) (hg : g < nGr S) : itrO (un2 (fMo_lightest_L26 (nI S.length) sv lv (nI r) (nI g) (nI t))) ((0 : Int32), nI (10 * g)) = some (nI (bt len S g)) := by
  have hgE := gE_lt hg
  have hG := nGr_le hl
  have := lp_c (step := un2 (fMo_lightest_L26 (nI S.length) sv lv (nI r) (nI g) (nI t))) (fun i => (nI (sumN (fun i => len (S.getD (10 * g + i) 0)) i), nI (10 * g + i))) (nI (bt len S g)) (gE S g - 10 * g) (fun i hi => by
    show fMo_lightest_L26 (nI S.length) sv lv (nI r) (nI g) (nI t) _ (nI (10 * g + i)) = _
    unfold fMo_lightest_L26
    have hx := hS _ (getD_mem (B := S) (k := 10 * g + i) (by omega))
    have hgi := hs.2 (10 * g + i) (by omega)
    obtain ⟨hm1, hm2⟩ := hM _ hx
    rw [bd1_of (fMo_groupEnd_ok hl (by omega)), sumN_succ]
    simp (disch := omega) only [nlit, nrm, gdI_n, if_neg, hgi, hm1]
    rfl) (by
    show fMo_lightest_L26 (nI S.length) sv lv (nI r) (nI g) (nI t) _ (nI (10 * g + (gE S g - 10 * g))) = _
    unfold fMo_lightest_L26
    rw [bd1_of (fMo_groupEnd_ok hl (by omega))]
    simp (disch := omega) only [nrm, if_pos, ↓reduceIte]
    rfl) 0 (by omega)
  exact this
theorem fMo_lightest_ok (hs : rowIs sv (nI S.length) S) (hS : ∀ x ∈ S, x < K) (hS0 : S.length ≠ 0) (hl : S.length ≤ 301) (hK : K ≤ 258) {lv : Nat → Int32} {len : Nat → Nat → Nat} {r g : Nat} (hr : r < 5) (hM : ∀ t, t < nTb S → ∀ k, k < K → lv (258 * (3 * r + t) + k) = nI (len t k) ∧ len t k ≤ 20) (hg : g < nGr S) : fMo_lightest (nI S.length) (nI (nTb S)) sv lv (nI r) (nI g) = some (nI (tk len S g)) := by
  have hT := nTb_le S
  have hT1 := nTb_pos hS0
  have hG := nGr_le hl
  have hb : ∀ t, t < nTb S → bt (len t) S g ≤ 200 := fun t ht => bt_le hS hl (fun k hk => (hM t ht k hk).2) hg
  have k1 : itrO (un3 (fMo_lightest_L8 (nI S.length) (nI (nTb S)) sv lv (nI r) (nI g))) ((0 : Int32), (0 : Int32), (0 : Int32)) = some (nI (tk len S g)) := by
    refine lp_c (step := un3 (fMo_lightest_L8 (nI S.length) (nI (nTb S)) sv lv (nI r) (nI g))) (fun t => if t = 0 then (nI 0, nI 0, nI 0) else (nI (pk (fun t => bt (len t) S g) (t - 1)).1, nI (pk (fun t => bt (len t) S g) (t - 1)).2, nI t)) (nI (tk len S g)) (nTb S) (fun t ht => ?_) ?_ 0 (by omega)
    · have k2 := fMo_lightest_L26_ok hs hS hl hK hr (t := t) (by omega) (hM t ht) hg
      have hbt := hb t ht
      have eg : (10 : Int32) * nI g = nI (10 * g) := by simp only [nlit, nrm]
      by_cases e : t = 0
      · subst e
        show fMo_lightest_L8 (nI S.length) (nI (nTb S)) sv lv (nI r) (nI g) (nI 0) (nI 0) (nI 0) = _
        unfold fMo_lightest_L8 fMo_lightest_J82 fMo_lightest_J88
        rw [eg, bd1_of k2]
        simp (disch := omega) only [nlit, nrm, if_neg, if_pos, ↓reduceIte]
        rfl
      · obtain ⟨t, rfl⟩ : ∃ t', t = t' + 1 := ⟨t - 1, by omega⟩
        obtain ⟨p1, p2⟩ := pk_le2 (fun t => bt (len t) S g) t
        have p3 : (pk (fun t => bt (len t) S g) t).2 ≤ 200 := by rw [p2]; exact hb _ (by omega)
        rw [if_neg e, if_neg (by omega), show t + 1 + 1 - 1 = t + 1 by omega, show t + 1 - 1 = t by omega]
        show fMo_lightest_L8 (nI S.length) (nI (nTb S)) sv lv (nI r) (nI g) (nI _) (nI _) (nI (t + 1)) = _
        unfold fMo_lightest_L8 fMo_lightest_J82 fMo_lightest_J88
        rw [eg, bd1_of k2]
        have es : pk (fun t => bt (len t) S g) (t + 1) = if bt (len (t + 1)) S g < (pk (fun t => bt (len t) S g) t).2 then (t + 1, bt (len (t + 1)) S g) else pk (fun t => bt (len t) S g) t := rfl
        rw [es]
        by_cases c : bt (len (t + 1)) S g < (pk (fun t => bt (len t) S g) t).2
        · rw [if_pos c]
          simp (disch := omega) only [nlit, nrm, if_neg]
        · rw [if_neg c]
          simp (disch := omega) only [nlit, nrm, if_neg, if_pos, ↓reduceIte]
    · show un3 (fMo_lightest_L8 (nI S.length) (nI (nTb S)) sv lv (nI r) (nI g)) (if nTb S = 0 then _ else _) = _
      rw [if_neg (by omega)]
      show fMo_lightest_L8 (nI S.length) (nI (nTb S)) sv lv (nI r) (nI g) (nI _) (nI _) (nI (nTb S)) = _
      unfold fMo_lightest_L8
      simp (disch := omega) only [nrm, if_pos, ↓reduceIte]
      rfl
  unfold fMo_lightest
  rw [bd1_of k1]
end MA
