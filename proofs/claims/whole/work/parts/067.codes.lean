/-! ===== CODES ===== -/
def cnt (len : Nat → Nat) (K l : Nat) : Nat := sumN (fun j => if len j = l then 1 else 0) K
def fil (len : Nat → Nat) (K : Nat) : Nat := sumN (fun j => 2 ^ (20 - len j)) K
theorem cnt_le2 (len : Nat → Nat) (K l : Nat) : cnt len K l ≤ K := cnt_le (fun j => len j = l) K
theorem codN_split (len : Nat → Nat) (l : Nat) : ∀ (K k : Nat), k ≤ K → codN len K l k = codN len K l 0 + cnt len k l := by
  intro K
  induction K with
  | zero => intro k hk; rw [show k = 0 by omega]; rfl
  | succ K ih =>
    intro k hk
    unfold codN
    rw [sumN_succ, sumN_succ]
    by_cases e : k = K + 1
    · subst e
      have h1 := ih K (Nat.le_refl _)
      unfold codN at h1
      have h2 : sumN (fun j => if len j < l ∨ (len j = l ∧ j < K + 1) then 2 ^ (l - len j) else 0) K = sumN (fun j => if len j < l ∨ (len j = l ∧ j < K) then 2 ^ (l - len j) else 0) K := sumN_congr (fun j hj => by
        by_cases c : len j < l ∨ (len j = l ∧ j < K)
        · rw [if_pos c, if_pos (by omega)]
        · rw [if_neg c, if_neg (by omega)])
      rw [h2, h1]
      unfold cnt
      rw [sumN_succ]
      by_cases c1 : len K < l
      · rw [if_pos (Or.inl c1), if_pos (Or.inl c1), if_neg (by omega)]
        omega
      · by_cases c2 : len K = l
        · rw [if_pos (Or.inr ⟨c2, by omega⟩), if_neg (by omega), if_pos c2, c2, Nat.sub_self]
          omega
        · rw [if_neg (by omega), if_neg (by omega), if_neg c2]
          omega
    · have h1 := ih k (by omega)
      unfold codN at h1
      rw [h1]
      have : (if len K < l ∨ (len K = l ∧ K < k) then 2 ^ (l - len K) else 0) = if len K < l ∨ (len K = l ∧ K < 0) then 2 ^ (l - len K) else 0 := by
        by_cases c1 : len K < l
        · rw [if_pos (Or.inl c1), if_pos (Or.inl c1)]
        · rw [if_neg (by omega), if_neg (by omega)]
      omega
theorem codN_next (len : Nat → Nat) (l : Nat) : ∀ K, codN len K (l + 1) 0 = (codN len K l 0 + cnt len K l) * 2
  | 0 => rfl
  | K + 1 => by
    have ih := codN_next len l K
    unfold codN cnt at *
    rw [sumN_succ, sumN_succ, sumN_succ, ih]
    by_cases c1 : len K < l
    · rw [if_pos (Or.inl (by omega)), if_pos (Or.inl c1), if_neg (by omega), show l + 1 - len K = (l - len K) + 1 by omega, Nat.pow_succ]
      omega
    · by_cases c2 : len K = l
      · rw [if_pos (Or.inl (by omega)), if_neg (by omega), if_pos c2, c2, show l + 1 - l = 1 by omega]
        omega
      · rw [if_neg (by omega), if_neg (by omega), if_neg c2]
        omega
theorem codN_one {len : Nat → Nat} (h : ∀ j, 1 ≤ len j) : ∀ K, codN len K 1 0 = 0
  | 0 => rfl
  | K + 1 => by
    have ih := codN_one h K
    have := h K
    unfold codN at *
    rw [sumN_succ, ih, if_neg (by omega)]
theorem codN_one' {len : Nat → Nat} {K : Nat} (h : ∀ j, j < K → 1 ≤ len j) : codN len K 1 0 = 0 := by
  unfold codN
  rw [sumN_congr (g := fun _ => 0) (fun j hj => if_neg (by have := h j hj; omega)), sumN_0]
/-- the codes of a length, and those ahead, fit the room -/
theorem codN_fil {len : Nat → Nat} {l : Nat} (hl : l ≤ 20) : ∀ K, (codN len K l 0 + cnt len K l) * 2 ^ (20 - l) ≤ fil len K
  | 0 => by simp [codN, cnt, fil, sumN]
  | K + 1 => by
    have ih := codN_fil (len := len) hl K
    unfold codN cnt fil at *
    rw [sumN_succ, sumN_succ, sumN_succ]
    by_cases c1 : len K < l
    · rw [if_pos (Or.inl c1), if_neg (by omega)]
      have e : 2 ^ (20 - len K) = 2 ^ (l - len K) * 2 ^ (20 - l) := by
        rw [← Nat.pow_add]
        congr 1
        omega
      rw [e]
      have : (sumN (fun j => if len j < l ∨ (len j = l ∧ j < 0) then 2 ^ (l - len j) else 0) K + 2 ^ (l - len K) + (sumN (fun j => if len j = l then 1 else 0) K + 0)) * 2 ^ (20 - l) = (sumN (fun j => if len j < l ∨ (len j = l ∧ j < 0) then 2 ^ (l - len j) else 0) K + sumN (fun j => if len j = l then 1 else 0) K) * 2 ^ (20 - l) + 2 ^ (l - len K) * 2 ^ (20 - l) := by
        rw [← Nat.add_mul]
        congr 1
        omega
      omega
    · by_cases c2 : len K = l
      · rw [if_neg (by omega), if_pos c2, c2]
        have : (sumN (fun j => if len j < l ∨ (len j = l ∧ j < 0) then 2 ^ (l - len j) else 0) K + 0 + (sumN (fun j => if len j = l then 1 else 0) K + 1)) * 2 ^ (20 - l) = (sumN (fun j => if len j < l ∨ (len j = l ∧ j < 0) then 2 ^ (l - len j) else 0) K + sumN (fun j => if len j = l then 1 else 0) K) * 2 ^ (20 - l) + 2 ^ (20 - l) := by
          rw [show sumN (fun j => if len j < l ∨ (len j = l ∧ j < 0) then 2 ^ (l - len j) else 0) K + 0 + (sumN (fun j => if len j = l then 1 else 0) K + 1) = (sumN (fun j => if len j < l ∨ (len j = l ∧ j < 0) then 2 ^ (l - len j) else 0) K + sumN (fun j => if len j = l then 1 else 0) K) + 1 by omega, Nat.succ_mul]
        omega
      · rw [if_neg (by omega), if_neg c2]
        simp only [Nat.add_zero]
        exact Nat.le_trans ih (Nat.le_add_right _ _)
theorem codN_small {len : Nat → Nat} {K l : Nat} (hl : l ≤ 20) (hf : fil len K ≤ 2 ^ 20) : codN len K l 0 + cnt len K l ≤ 2 ^ 20 := by
  have h1 := codN_fil (len := len) hl K
  have h2 : (codN len K l 0 + cnt len K l) * 1 ≤ (codN len K l 0 + cnt len K l) * 2 ^ (20 - l) := Nat.mul_le_mul_left _ (Nat.one_le_two_pow)
  omega
theorem shl1 : ∀ s, s < 21 → (1 : Int32) <<< (nI s &&& 31) = nI (2 ^ s) := by decide
theorem fil_le {len : Nat → Nat} {K : Nat} (hK : K ≤ 258) (h : ∀ j, j < K → 1 ≤ len j) : fil len K ≤ 258 * 2 ^ 19 := by
  have h1 : fil len K ≤ sumN (fun _ => 2 ^ 19) K := sumN_le (fun j hj => Nat.pow_le_pow_right (by omega) (by have := h j hj; omega))
  rw [sumN_const] at h1
  exact Nat.le_trans h1 (Nat.mul_le_mul_right _ hK)
section CO
variable {K : Nat} {len : Nat → Nat} {lv : Nat → Int32}
theorem fCodes_countLengths_ok (hK : K ≤ 258) (hl : ∀ k, k < K → lv k = nI (len k) ∧ 1 ≤ len k ∧ len k ≤ 20) (cv : Nat → Int32) : ∃ cv', fCodes_countLengths (nI K) lv cv = some (nI (fil len K), cv') ∧ ∀ l, l < 21 → cv' l = nI (cnt len K l) := by
  have hfl := fil_le hK (fun j hj => (hl j hj).2.1)
  obtain ⟨c1, k1, h1⟩ : ∃ r, itrO (un2 fCodes_countLengths_L7) ((0 : Int32), cv) = some r ∧ ∀ v, v < 21 → r v = nI 0 := by
    refine lp_up (step := un2 fCodes_countLengths_L7) (fun i s => ∃ w', s = (nI i, w') ∧ ∀ k, k < i → w' k = nI 0) _ 21 (fun i s hi hs => ?_) (fun s hs => ?_) 0 _ (by omega) ⟨cv, rfl, fun k hk => by omega⟩
    · obtain ⟨w1, rfl, h1⟩ := hs
      refine Or.inl ⟨(nI (i + 1), upd w1 i (nI 0)), ?_, _, rfl, fun k hk => ?_⟩
      · show fCodes_countLengths_L7 (nI i) _ = _
        unfold fCodes_countLengths_L7
        simp (disch := omega) only [nlit, nrm, gdI_n, if_neg]
      · by_cases e : k = i
        · rw [e, upd_s]
        · rw [upd_n e, h1 k (by omega)]
    · obtain ⟨w1, rfl, h1⟩ := hs
      refine ⟨w1, ?_, h1⟩
      show fCodes_countLengths_L7 (nI 21) _ = _
      unfold fCodes_countLengths_L7
      simp (disch := omega) only [nlit, nrm, if_pos, ↓reduceIte]
  obtain ⟨r2, k2, c2, e2, h2⟩ : ∃ r, itrO (un3 (fCodes_countLengths_L28 (nI K) lv)) ((0 : Int32), (0 : Int32), c1) = some r ∧ ∃ c', r = (nI (fil len K), c') ∧ ∀ l, l < 21 → c' l = nI (cnt len K l) := by
    refine lp_up (step := un3 (fCodes_countLengths_L28 (nI K) lv)) (fun i s => i ≤ K ∧ ∃ c', s = (nI i, nI (fil len i), c') ∧ ∀ l, l < 21 → c' l = nI (cnt len i l)) _ K (fun i s hi hs => ?_) (fun s hs => ?_) 0 _ (by omega) ⟨by omega, c1, rfl, h1⟩
    · obtain ⟨-, c', rfl, h3⟩ := hs
      obtain ⟨l1, l2, l3⟩ := hl i hi
      have h4 := h3 (len i) (by omega)
      have h5 := cnt_le2 len i (len i)
      have h6 : fil len i ≤ fil len K := sumN_mono (by omega)
      have h7 := shl1 (20 - len i) (by omega)
      have h8 : fil len (i + 1) = fil len i + 2 ^ (20 - len i) := rfl
      refine Or.inl ⟨(nI (i + 1), nI (fil len (i + 1)), upd c' (len i) (nI (cnt len i (len i) + 1))), ?_, by omega, _, rfl, fun l hl2 => ?_⟩
      · show fCodes_countLengths_L28 (nI K) lv (nI i) _ _ = _
        unfold fCodes_countLengths_L28
        have e9 : (1 : Int32) <<< ((20 - lv i) &&& 31) = nI (2 ^ (20 - len i)) := by
          rw [← h7, l1, show (20 : Int32) = nI 20 from rfl, pk_sub l3]
        simp (disch := omega) only [nrm, gdI_n, if_neg, e9]
        simp (disch := omega) only [nlit, nrm, gdI_n, l1, h4, h8]
      · unfold cnt
        rw [sumN_succ]
        by_cases e : l = len i
        · rw [e, upd_s, if_pos rfl]
        · rw [upd_n e, if_neg (fun q => e q.symm), h3 l hl2]
          rfl
    · obtain ⟨-, c', rfl, h3⟩ := hs
      refine ⟨_, ?_, c', rfl, h3⟩
      show fCodes_countLengths_L28 (nI K) lv (nI K) _ _ = _
      unfold fCodes_countLengths_L28
      simp (disch := omega) only [nrm, if_pos, ↓reduceIte]
  subst e2
  refine ⟨c2, ?_, h2⟩
  unfold fCodes_countLengths
  rw [bd1_of k1, bd2_of k2]
theorem fCodes_settle_bad (hK : K ≤ 258) (hl : ∀ k, k < K → lv k = nI (len k) ∧ 1 ≤ len k ∧ len k ≤ 20) (hf : 2 ^ 20 < fil len K) (cd cv fv nv : Nat → Int32) : ∃ cv', fCodes_settle lv cd cv fv nv (nI K) = some (0, nI K, nI (fil len K), cd, cv', fv, nv) := by
  have hfl := fil_le hK (fun j hj => (hl j hj).2.1)
  have hKm : (if (258 : Int32) < nI K then (258 : Int32) else nI K) = nI K := by
    rw [if_neg]
    simp (disch := omega) only [nlit, nrm]
    omega
  obtain ⟨c1, k1, h1⟩ := fCodes_countLengths_ok hK hl cv
  refine ⟨c1, ?_⟩
  unfold fCodes_settle
  rw [hKm, bd2_of k1, if_neg]
  simp (disch := omega) only [nlit, nrm]
  omega
theorem fCodes_settle_ok (hK : K ≤ 258) (hl : ∀ k, k < K → lv k = nI (len k) ∧ 1 ≤ len k ∧ len k ≤ 20) (hf : fil len K ≤ 2 ^ 20) (cd cv fv nv : Nat → Int32) : ∃ cd' cv' fv' nv', fCodes_settle lv cd cv fv nv (nI K) = some (1, nI K, nI (fil len K), cd', cv', fv', nv') ∧ (∀ k, k < K → cd' k = nI (cod len K k)) ∧ (∀ l, l < 21 → cv' l = nI (cnt len K l)) ∧ ∀ l, 1 ≤ l → l < 21 → fv' l = nI (codN len K l 0) := by
  have hKm : (if (258 : Int32) < nI K then (258 : Int32) else nI K) = nI K := by
    rw [if_neg]
    simp (disch := omega) only [nlit, nrm]
    omega
  obtain ⟨c1, k1, h1⟩ := fCodes_countLengths_ok hK hl cv
  have hsm : ∀ l, l ≤ 20 → codN len K l 0 + cnt len K l ≤ 1048576 := fun l q => codN_small q hf
  obtain ⟨r2, k2, f2, n2, e2, h2, h3⟩ : ∃ r, itrO (un4 (fCodes_settle_L30 c1)) ((0 : Int32), (1 : Int32), fv, nv) = some r ∧ ∃ f' n', r = (f', n') ∧ (∀ l, 1 ≤ l → l < 21 → f' l = nI (codN len K l 0)) ∧ ∀ l, 1 ≤ l → l < 21 → n' l = nI (codN len K l 0) := by
    refine lp_up (step := un4 (fCodes_settle_L30 c1)) (fun i s => 1 ≤ i ∧ i ≤ 21 ∧ ∃ f' n', s = (nI (codN len K i 0), nI i, f', n') ∧ (∀ l, 1 ≤ l → l < i → f' l = nI (codN len K l 0)) ∧ ∀ l, 1 ≤ l → l < i → n' l = nI (codN len K l 0)) _ 21 (fun i s hi hs => ?_) (fun s hs => ?_) 1 _ (by omega) ⟨by omega, by omega, fv, nv, by rw [codN_one' (fun j hj => (hl j hj).2.1)]; rfl, fun l q1 q2 => by omega, fun l q1 q2 => by omega⟩
    · obtain ⟨hi1, -, f', n', rfl, h3, h4⟩ := hs
      have h5 := h1 i hi
      have h6 := hsm i (by omega)
      refine Or.inl ⟨(nI (codN len K (i + 1) 0), nI (i + 1), upd f' i (nI (codN len K i 0)), upd n' i (nI (codN len K i 0))), ?_, by omega, by omega, _, _, rfl, fun l q1 q2 => ?_, fun l q1 q2 => ?_⟩
      · show fCodes_settle_L30 c1 _ (nI i) _ _ = _
        unfold fCodes_settle_L30
        rw [codN_next]
        simp (disch := omega) only [nlit, nrm, gdI_n, if_neg, h5]
      · by_cases e : l = i
        · rw [e, upd_s]
        · rw [upd_n e, h3 l q1 (by omega)]
      · by_cases e : l = i
        · rw [e, upd_s]
        · rw [upd_n e, h4 l q1 (by omega)]
    · obtain ⟨hi1, -, f', n', rfl, h3, h4⟩ := hs
      refine ⟨(f', n'), ?_, f', n', rfl, h3, h4⟩
      show fCodes_settle_L30 c1 _ (nI 21) _ _ = _
      unfold fCodes_settle_L30
      rw [if_pos (by decide)]
  subst e2
  obtain ⟨r3, k3, d3, n3, e3, h4⟩ : ∃ r, itrO (un3 (fCodes_settle_L69 lv (nI K))) ((0 : Int32), cd, n2) = some r ∧ ∃ d' n', r = (d', n') ∧ ∀ k, k < K → d' k = nI (cod len K k) := by
    refine lp_up (step := un3 (fCodes_settle_L69 lv (nI K))) (fun i s => i ≤ K ∧ ∃ d' n', s = (nI i, d', n') ∧ (∀ k, k < i → d' k = nI (cod len K k)) ∧ ∀ l, 1 ≤ l → l < 21 → n' l = nI (codN len K l 0 + cnt len i l)) _ K (fun i s hi hs => ?_) (fun s hs => ?_) 0 _ (by omega) ⟨by omega, cd, n2, rfl, fun k hk => by omega, h3⟩
    · obtain ⟨-, d', n', rfl, h5, h6⟩ := hs
      obtain ⟨l1, l2, l3⟩ := hl i hi
      have h7 := h6 (len i) l2 (by omega)
      have h8 := hsm (len i) l3
      have h9 : cnt len i (len i) ≤ cnt len K (len i) := sumN_mono (by omega)
      have h10 : cod len K i = codN len K (len i) 0 + cnt len i (len i) := codN_split len (len i) K i (by omega)
      refine Or.inl ⟨(nI (i + 1), upd d' i (nI (cod len K i)), upd n' (len i) (nI (codN len K (len i) 0 + cnt len i (len i) + 1))), ?_, by omega, _, _, rfl, fun k hk => ?_, fun l q1 q2 => ?_⟩
      · show fCodes_settle_L69 lv (nI K) (nI i) _ _ = _
        unfold fCodes_settle_L69
        rw [hKm, h10]
        simp (disch := omega) only [nlit, nrm, gdI_n, if_neg, l1, h7]
      · by_cases e : k = i
        · rw [e, upd_s]
        · rw [upd_n e, h5 k (by omega)]
      · have h11 : cnt len (i + 1) l = cnt len i l + if len i = l then 1 else 0 := rfl
        rw [h11]
        by_cases e : l = len i
        · rw [e, upd_s, if_pos rfl]
          exact nI_c (by omega)
        · rw [upd_n e, if_neg (fun q => e q.symm), h6 l q1 q2]
          rfl
    · obtain ⟨-, d', n', rfl, h5, h6⟩ := hs
      refine ⟨(d', n'), ?_, d', n', rfl, h5⟩
      show fCodes_settle_L69 lv (nI K) (nI K) _ _ = _
      unfold fCodes_settle_L69
      rw [hKm]
      simp (disch := omega) only [nrm, if_pos, ↓reduceIte]
  subst e3
  refine ⟨d3, c1, f2, n3, ?_, h4, h1, h2⟩
  unfold fCodes_settle
  rw [hKm, bd2_of k1, if_pos, bd2_of k2, bd2_of k3]
  have : fil len K ≤ 1048576 := hf
  simp (disch := omega) only [nlit, nrm]
  exact this
end CO
