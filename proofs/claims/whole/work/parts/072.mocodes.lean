/-! ===== the reference: codes ===== -/
theorem smod31 : ∀ d, d < 32 → ((nI d &&& 31).toBitVec.smod 32).toNat = d := by decide
theorem shlN {a d : Nat} (hd : d < 32) (h : a * 2 ^ d < 2 ^ 32) : nI a <<< (nI d &&& 31) = nI (a * 2 ^ d) := pk_shlN _ d (smod31 d hd) h
theorem cnt_mono (len : Nat → Nat) (l : Nat) {a b : Nat} (h : a ≤ b) : cnt len a l ≤ cnt len b l := sumN_mono h
theorem cnt_s (len : Nat → Nat) (k l : Nat) : cnt len (k + 1) l = cnt len k l + if len k = l then 1 else 0 := rfl
def CI (len : Nat → Nat) (K c b L k : Nat) : Prop := c ≤ 2 ^ 20 ∧ b ≤ 40 ∧ ((b = 0 ∧ codN len K L k = 0) ∨ (1 ≤ b ∧ b ≤ L ∧ codN len K L k = (c + 1) * 2 ^ (L - b)))
theorem CI.next {len : Nat → Nat} {K c b L : Nat} (h : CI len K c b L K) : CI len K c b (L + 1) 0 := by
  obtain ⟨h1, h2, h3⟩ := h
  have e1 := codN_next len L K
  have e2 := codN_split len L K K (Nat.le_refl _)
  rw [← e2] at e1
  refine ⟨h1, h2, ?_⟩
  rcases h3 with ⟨q1, q2⟩ | ⟨q1, q2, q3⟩
  · exact Or.inl ⟨q1, by rw [e1, q2]⟩
  · exact Or.inr ⟨q1, by omega, by rw [e1, q3, show L + 1 - b = (L - b) + 1 by omega, Nat.pow_succ, Nat.mul_assoc]⟩
theorem CI.skip {len : Nat → Nat} {K c b L k : Nat} (h : CI len K c b L k) (hk : k < K) (hL : len k ≠ L) : CI len K c b L (k + 1) := by
  have e : codN len K L (k + 1) = codN len K L k := by
    rw [codN_split len L K (k + 1) (by omega), codN_split len L K k (by omega), cnt_s, if_neg hL]
    omega
  obtain ⟨h1, h2, h3⟩ := h
  exact ⟨h1, h2, by rw [e]; exact h3⟩
theorem CI.set {len : Nat → Nat} {K L k : Nat} (hL1 : 1 ≤ L) (hL2 : L ≤ 20) (hf : fil len K ≤ 2 ^ 20) (hk : k < K) (hL : len k = L) : CI len K (codN len K L k) L L (k + 1) ∧ codN len K L k ≤ 2 ^ 20 := by
  have e : codN len K L (k + 1) = codN len K L k + 1 := by
    rw [codN_split len L K (k + 1) (by omega), codN_split len L K k (by omega), cnt_s, if_pos hL]
    omega
  have h1 := codN_small hL2 hf
  have h2 : codN len K L k ≤ 2 ^ 20 := by
    rw [codN_split len L K k (by omega)]
    have := cnt_mono len L (Nat.le_of_lt hk)
    omega
  refine ⟨⟨h2, by omega, Or.inr ⟨hL1, Nat.le_refl _, ?_⟩⟩, h2⟩
  rw [e, Nat.sub_self, Nat.pow_zero, Nat.mul_one]
theorem fMo_findCodes_ok {n0 n2 fr ap K : Nat} (hK : K ≤ 258) (h0 : fr + K ≤ n0) (hn0 : n0 < 10000) (h2 : ap + K ≤ n2) (hn2 : n2 < 10000) {rv : Nat → Int32} {len : Nat → Nat} (hl : ∀ k, k < K → rv (fr + k) = nI (len k) ∧ 1 ≤ len k ∧ len k ≤ 20) (hf : fil len K ≤ 2 ^ 20) (iv : Nat → Int32) : ∃ iv', fMo_findCodes n0 n2 rv iv (nI fr) (nI ap) (nI K) = some iv' ∧ (∀ k, k < K → iv' (ap + k) = nI (cod len K k)) ∧ ∀ q, (q < ap ∨ ap + K ≤ q) → iv' q = iv q := by
  obtain ⟨r, k1, h3, h4⟩ : ∃ r, itrO (un4 (fMo_findCodes_L9 n0 n2 rv (nI fr) (nI ap) (nI K))) ((0 : Int32), (0 : Int32), (1 : Int32), iv) = some r ∧ (∀ k, k < K → r (ap + k) = nI (cod len K k)) ∧ ∀ q, (q < ap ∨ ap + K ≤ q) → r q = iv q := by
    refine lp_up (step := un4 (fMo_findCodes_L9 n0 n2 rv (nI fr) (nI ap) (nI K))) (fun i s => ∃ c b v, s = (nI c, nI b, nI (i + 1), v) ∧ CI len K c b (i + 1) 0 ∧ (∀ k, k < K → len k < i + 1 → v (ap + k) = nI (cod len K k)) ∧ ∀ q, (q < ap ∨ ap + K ≤ q) → v q = iv q) _ 40 (fun i s hi hs1 => ?_) (fun s hs1 => ?_) 0 _ (by omega) ⟨0, 0, iv, rfl, ⟨by omega, by omega, Or.inl ⟨rfl, codN_one' (fun j hj => (hl j hj).2.1)⟩⟩, fun k hk q => by have := (hl k hk).2.1; omega, fun _ _ => rfl⟩
    · obtain ⟨c, b, v, rfl, hC, hv, hfr⟩ := hs1
      obtain ⟨r2, k2, c', b', v', e2, hC', hv', hfr'⟩ : ∃ r2, itrO (un4 (fMo_findCodes_L19 n0 n2 rv (nI fr) (nI ap) (nI K) (nI (i + 1)))) (nI c, nI b, (0 : Int32), v) = some r2 ∧ ∃ c' b' v', r2 = (nI c', nI b', v') ∧ CI len K c' b' (i + 1) K ∧ (∀ k, k < K → len k < i + 2 → v' (ap + k) = nI (cod len K k)) ∧ ∀ q, (q < ap ∨ ap + K ≤ q) → v' q = iv q := by
        refine lp_up (step := un4 (fMo_findCodes_L19 n0 n2 rv (nI fr) (nI ap) (nI K) (nI (i + 1)))) (fun k s => k ≤ K ∧ ∃ c b v, s = (nI c, nI b, nI k, v) ∧ CI len K c b (i + 1) k ∧ (∀ j, j < K → (len j < i + 1 ∨ (len j = i + 1 ∧ j < k)) → v (ap + j) = nI (cod len K j)) ∧ ∀ q, (q < ap ∨ ap + K ≤ q) → v q = iv q) _ K (fun k s hk hs2 => ?_) (fun s hs2 => ?_) 0 _ (by omega) ⟨by omega, c, b, v, rfl, hC, fun j hj q => hv j hj (by omega), hfr⟩
        · obtain ⟨-, c, b, v, rfl, hC, hv, hfr⟩ := hs2
          obtain ⟨l1, l2, l3⟩ := hl k hk
          have hb := hC.2.1
          refine Or.inl ?_
          by_cases e : len k = i + 1
          · obtain ⟨hC2, hsm⟩ := CI.set (len := len) (K := K) (L := i + 1) (k := k) (by omega) (by omega) hf hk e
            refine ⟨(nI (codN len K (i + 1) k), nI (i + 1), nI (k + 1), upd v (ap + k) (nI (codN len K (i + 1) k))), ?_, by omega, _, _, _, rfl, hC2, fun j hj q => ?_, fun q hq => ?_⟩
            · show fMo_findCodes_L19 n0 n2 rv (nI fr) (nI ap) (nI K) (nI (i + 1)) (nI c) (nI b) (nI k) v = _
              unfold fMo_findCodes_L19 fMo_findCodes_J56
              rcases hC.2.2 with ⟨q1, q2⟩ | ⟨q1, q2, q3⟩
              · rw [q2, q1]
                simp (disch := omega) only [nlit, nrm, gdI_n, if_neg, if_pos, ↓reduceIte, l1, e]
              · have hsh : (nI c + 1) <<< ((nI (i + 1) - nI b) &&& 31) = nI (codN len K (i + 1) k) := by
                  rw [nI_s, pk_sub (a := i + 1) (b := b) q2, shlN (by omega) (by omega), q3]
                rw [hsh]
                simp (disch := omega) only [nlit, nrm, gdI_n, if_neg, if_pos, ↓reduceIte, l1, e]
            · by_cases ej : j = k
              · rw [ej, upd_s]
                unfold cod
                rw [e]
              · rw [upd_n (by omega)]
                exact hv j hj (by omega)
            · rw [upd_n (by omega), hfr q hq]
          · refine ⟨(nI c, nI b, nI (k + 1), v), ?_, by omega, _, _, _, rfl, hC.skip hk e, fun j hj q => ?_, hfr⟩
            · show fMo_findCodes_L19 n0 n2 rv (nI fr) (nI ap) (nI K) (nI (i + 1)) (nI c) (nI b) (nI k) v = _
              unfold fMo_findCodes_L19
              simp (disch := omega) only [nlit, nrm, gdI_n, if_neg, ↓reduceIte, l1]
            · by_cases ej : j = k
              · rw [ej] at q; exact hv j hj (by rw [ej]; omega)
              · exact hv j hj (by omega)
        · obtain ⟨-, c, b, v, rfl, hC, hv, hfr⟩ := hs2
          refine ⟨_, ?_, c, b, v, rfl, hC, fun j hj q => hv j hj (by omega), hfr⟩
          show fMo_findCodes_L19 n0 n2 rv (nI fr) (nI ap) (nI K) (nI (i + 1)) (nI c) (nI b) (nI K) v = _
          unfold fMo_findCodes_L19
          simp (disch := omega) only [nrm, if_pos, ↓reduceIte]
      subst e2
      refine Or.inl ⟨(nI c', nI b', nI (i + 1 + 1), v'), ?_, c', b', v', rfl, hC'.next, fun k hk q => hv' k hk q, hfr'⟩
      show fMo_findCodes_L9 n0 n2 rv (nI fr) (nI ap) (nI K) (nI c) (nI b) (nI (i + 1)) v = _
      unfold fMo_findCodes_L9
      rw [bd3_of k2]
      simp (disch := omega) only [nlit, nrm, if_neg]
    · obtain ⟨c, b, v, rfl, hC, hv, hfr⟩ := hs1
      refine ⟨v, ?_, fun k hk => hv k hk (by have := (hl k hk).2.2; omega), hfr⟩
      show fMo_findCodes_L9 n0 n2 rv (nI fr) (nI ap) (nI K) (nI c) (nI b) (nI (40 + 1)) v = _
      unfold fMo_findCodes_L9
      simp (disch := omega) only [nlit, nrm, if_pos, ↓reduceIte]
  refine ⟨r, ?_, h3, h4⟩
  unfold fMo_findCodes
  rw [bd1_of k1]
