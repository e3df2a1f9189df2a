/-! ===== codes stand side by side ===== -/
section TI
variable {K : Nat} {len : Nat → Nat}
theorem tile (hl : ∀ j, 1 ≤ len j ∧ len j ≤ 20) {x : Nat} (hx : x < fil len K) : ∃ k, k < K ∧ cod len K k * 2 ^ (20 - len k) ≤ x ∧ x < (cod len K k + 1) * 2 ^ (20 - len k) := by
  have inner : ∀ L, L ≤ 20 → (x < codN len K L 0 * 2 ^ (20 - L) → ∃ k, k < K ∧ cod len K k * 2 ^ (20 - len k) ≤ x ∧ x < (cod len K k + 1) * 2 ^ (20 - len k)) → ∀ k, k ≤ K → x < codN len K L k * 2 ^ (20 - L) → ∃ k, k < K ∧ cod len K k * 2 ^ (20 - len k) ≤ x ∧ x < (cod len K k + 1) * 2 ^ (20 - len k) := by
    intro L hL h0 k
    induction k with
    | zero => intro _ h; exact h0 h
    | succ k ih =>
      intro hk h
      by_cases c : x < codN len K L k * 2 ^ (20 - L)
      · exact ih (by omega) c
      · by_cases e : len k = L
        · have e2 : codN len K L (k + 1) = codN len K L k + 1 := by
            rw [codN_split len L K (k + 1) (by omega), codN_split len L K k (by omega), cnt_s, if_pos e]
            omega
          rw [e2] at h
          refine ⟨k, by omega, ?_, ?_⟩
          · unfold cod
            rw [e]
            omega
          · unfold cod
            rw [e]
            exact h
        · have e2 : codN len K L (k + 1) = codN len K L k := by
            rw [codN_split len L K (k + 1) (by omega), codN_split len L K k (by omega), cnt_s, if_neg e]
            omega
          rw [e2] at h
          exact absurd h c
  have outer : ∀ m, m + 1 ≤ 20 → ∀ k, k ≤ K → x < codN len K (m + 1) k * 2 ^ (20 - (m + 1)) → ∃ k, k < K ∧ cod len K k * 2 ^ (20 - len k) ≤ x ∧ x < (cod len K k + 1) * 2 ^ (20 - len k) := by
    intro m
    induction m with
    | zero =>
      intro hm
      refine inner 1 hm (fun h => ?_)
      rw [codN_one' (fun j _ => (hl j).1), Nat.zero_mul] at h
      omega
    | succ m ih =>
      intro hm
      refine inner (m + 1 + 1) hm (fun h => ?_)
      rw [codN_next, ← codN_split len (m + 1) K K (Nat.le_refl _), Nat.mul_assoc, show 2 * 2 ^ (20 - (m + 1 + 1)) = 2 ^ (20 - (m + 1)) by rw [show 20 - (m + 1) = (20 - (m + 1 + 1)) + 1 by omega, Nat.pow_succ, Nat.mul_comm]] at h
      exact ih (by omega) K (Nat.le_refl _) h
  refine outer 19 (by omega) K (Nat.le_refl _) ?_
  have e : codN len K 20 K = fil len K := by
    unfold codN fil
    refine sumN_congr (fun j hj => ?_)
    rw [if_pos (by have := hl j; omega)]
  rw [show 19 + 1 = 20 from rfl, e, Nat.sub_self, Nat.pow_zero, Nat.mul_one]
  exact hx
theorem cod_top (hl : ∀ j, 1 ≤ len j ∧ len j ≤ 20) {k : Nat} (hk : k < K) : (cod len K k + 1) * 2 ^ (20 - len k) ≤ fil len K := by
  have h1 := (cod_rng hl hk).2
  have h2 := codN_fil (len := len) (hl k).2 K
  exact Nat.le_trans (Nat.mul_le_mul_right _ h1) h2
def mayP (len : Nat → Nat) (K L v k : Nat) : Prop := k < K ∧ L < len k ∧ cod len K k / 2 ^ (len k - L) = v
theorem may_iff (hl : ∀ j, 1 ≤ len j ∧ len j ≤ 20) {L v : Nat} (hL : L ≤ 20) (hN : ∀ k, k < K → len k ≤ L → cod len K k ≠ v / 2 ^ (L - len k)) : (v * 2 ^ (20 - L) < fil len K) ↔ ∃ k, mayP len K L v k := by
  constructor
  · intro h
    obtain ⟨k, hk, h1, h2⟩ := tile hl h
    have hlk := hl k
    have hP : 0 < 2 ^ (20 - len k) := Nat.two_pow_pos _
    have hd : v * 2 ^ (20 - L) / 2 ^ (20 - len k) = cod len K k := by
      refine Nat.div_eq_of_lt_le (by rw [Nat.mul_comm] at h1; rw [Nat.mul_comm]; exact h1) ?_
      exact h2
    by_cases c : len k ≤ L
    · exfalso
      apply hN k hk c
      rw [← hd, show 20 - len k = (L - len k) + (20 - L) by omega, Nat.pow_add, Nat.mul_div_mul_right _ _ (Nat.two_pow_pos _)]
    · refine ⟨k, hk, by omega, ?_⟩
      rw [← hd, show 20 - L = (len k - L) + (20 - len k) by omega, Nat.pow_add, ← Nat.mul_assoc, Nat.mul_div_cancel _ hP, Nat.mul_div_cancel _ (Nat.two_pow_pos _)]
  · rintro ⟨k, hk, h1, h2⟩
    have hlk := hl k
    have h3 : v * 2 ^ (len k - L) ≤ cod len K k := by
      rw [← h2]
      exact Nat.div_mul_le_self _ _
    have h4 := cod_top hl hk
    have h5 : v * 2 ^ (20 - L) ≤ cod len K k * 2 ^ (20 - len k) := by
      rw [show 20 - L = (len k - L) + (20 - len k) by omega, Nat.pow_add, ← Nat.mul_assoc]
      exact Nat.mul_le_mul_right _ h3
    have h6 : cod len K k * 2 ^ (20 - len k) < (cod len K k + 1) * 2 ^ (20 - len k) := Nat.mul_lt_mul_of_pos_right (by omega) (Nat.two_pow_pos _)
    omega
end TI
/-! ===== the reference: tables ===== -/
section MT
variable {T : List Nat} {tp : Nat → Int32}
theorem mlen_ok (hr : ∀ i, i < T.length → tp i = nI (T.getD i 0)) (hT : ∀ x ∈ T, x < 2) (hn : T.length ≤ 1500) : ∀ f n p, T.length < p + f → p ≤ T.length → 1 ≤ n → n ≤ 20 → (∀ q, nlG T f n p = .inl q → ∃ x, itrO (un3 (fMo_readLengths_L45 (nI T.length) tp)) (nI n, nI p, 0) = some (x, nI q.2, nI q.1)) ∧ (∀ q, nlG T f n p = .inr q → itrO (un3 (fMo_readLengths_L45 (nI T.length) tp)) (nI n, nI p, 0) = some (nI q.1, nI q.2, 0))
  | 0, n, p, hf, hp, h1, h2 => by omega
  | f + 1, n, p, hf, hp, h1, h2 => by
    have hw : ∀ x rd a, 1 ≤ a → a < 100 → un3 (fMo_readLengths_L45 (nI T.length) tp) (x, rd, nI a) = some (.inr (x, rd, nI a)) := fun x rd a ha ha2 => by
      show fMo_readLengths_L45 (nI T.length) tp x rd (nI a) = _
      unfold fMo_readLengths_L45
      rw [if_neg (nI_zn (by omega) (by omega))]
    unfold nlG
    by_cases c : p < T.length
    · rw [if_pos c]
      have hb := getD_lt2 hT p
      have ht := take1_y hr hT hn c
      by_cases e : T.getD p 0 = 0
      · rw [if_pos e]
        refine ⟨fun q h => (by cases h), fun q h => ?_⟩
        cases h
        refine itrO_1 (show fMo_readLengths_L45 (nI T.length) tp (nI n) (nI p) 0 = _ from ?_)
        unfold fMo_readLengths_L45
        rw [if_pos rfl, bd3_of ht, e, if_neg (by decide)]
      · have e1 : T.getD p 0 = 1 := by omega
        rw [if_neg e]
        by_cases c2 : p + 1 < T.length
        · rw [if_pos c2]
          have hb2 := getD_lt2 hT (p + 1)
          have ht2 := take1_y hr hT hn c2
          have hs : un3 (fMo_readLengths_L45 (nI T.length) tp) (nI n, nI p, 0) = some (.inl (nI (if T.getD (p + 1) 0 = 1 then n - 1 else n + 1), nI (p + 2), if 1 ≤ (if T.getD (p + 1) 0 = 1 then n - 1 else n + 1) ∧ (if T.getD (p + 1) 0 = 1 then n - 1 else n + 1) ≤ 20 then 0 else nI 5)) := by
            show fMo_readLengths_L45 (nI T.length) tp (nI n) (nI p) 0 = _
            unfold fMo_readLengths_L45
            rw [if_pos rfl, bd3_of ht, e1, if_pos (show nI 1 = 1 from rfl), bd3_of ht2, if_pos (by decide)]
            have hJ : ∀ t1 m, nI n + t1 = nI m → m ≤ 21 → fMo_readLengths_J91 (nI (p + 1 + 1)) 0 (nI n) t1 = some (.inl (nI m, nI (p + 2), if 1 ≤ m ∧ m ≤ 20 then 0 else nI 5)) := fun t1 m hm hm2 => by
              unfold fMo_readLengths_J91 fMo_within
              rw [hm]
              by_cases c3 : m < 1
              · rw [if_pos (show nI m < 1 by simp (disch := omega) only [nlit, nrm]; exact c3), if_neg (show ¬ (1 ≤ m ∧ m ≤ 20) by omega)]
                rfl
              · rw [if_neg (show ¬ nI m < 1 by simp (disch := omega) only [nlit, nrm]; exact c3)]
                by_cases c4 : 20 < m
                · rw [if_pos (show (20 : Int32) < nI m by simp (disch := omega) only [nlit, nrm]; exact c4), if_neg (show ¬ (1 ≤ m ∧ m ≤ 20) by omega)]
                  rfl
                · rw [if_neg (show ¬ (20 : Int32) < nI m by simp (disch := omega) only [nlit, nrm]; exact c4), if_pos (show 1 ≤ m ∧ m ≤ 20 by omega)]
                  rfl
            by_cases c3 : T.getD (p + 1) 0 = 1
            · rw [if_pos c3, if_pos (show nI (T.getD (p + 1) 0) = 1 by rw [c3]; rfl)]
              exact hJ (-1) (n - 1) (sb_m1 (by omega)) (by omega)
            · have c4 : T.getD (p + 1) 0 = 0 := by omega
              rw [if_neg c3, if_neg (show ¬ nI (T.getD (p + 1) 0) = 1 by rw [c4]; decide)]
              exact hJ 1 (n + 1) (nI_s n) (by omega)
          generalize (if T.getD (p + 1) 0 = 1 then n - 1 else n + 1) = m at hs ⊢
          rw [itrO_s hs]
          by_cases c3 : 1 ≤ m ∧ m ≤ 20
          · rw [if_pos c3, if_pos c3]
            exact mlen_ok hr hT hn f m (p + 2) (by omega) (by omega) c3.1 c3.2
          · rw [if_neg c3, if_neg c3]
            refine ⟨fun q h => ?_, fun q h => (by cases h)⟩
            cases h
            exact ⟨_, itrO_1 (hw _ _ 5 (by omega) (by omega))⟩
        · rw [if_neg c2]
          refine ⟨fun q h => ?_, fun q h => (by cases h)⟩
          cases h
          have hs : un3 (fMo_readLengths_L45 (nI T.length) tp) (nI n, nI p, 0) = some (.inl (nI n + 0, nI (p + 1), nI 1)) := by
            show fMo_readLengths_L45 (nI T.length) tp (nI n) (nI p) 0 = _
            unfold fMo_readLengths_L45 fMo_readLengths_J91
            rw [if_pos rfl, bd3_of ht, e1, if_pos (show nI 1 = 1 from rfl), bd3_of (take1_n hr hT hn (by omega)), if_neg (by decide), bd1_of (fails_w (a := 1) (by omega) (by omega) 1 5), bd1_of (fails_w (a := 1) (by omega) (by omega) 0 5)]
            have : ∃ z, fMo_within (nI n + 0) 1 20 = some z := by
              unfold fMo_within
              split
              · exact ⟨_, rfl⟩
              · split
                · exact ⟨_, rfl⟩
                · exact ⟨_, rfl⟩
            obtain ⟨z, hz⟩ := this
            rw [bd1_of hz]
            split <;> rfl
          rw [itrO_s hs]
          exact ⟨_, itrO_1 (hw _ _ 1 (by omega) (by omega))⟩
    · rw [if_neg c]
      refine ⟨fun q h => ?_, fun q h => (by cases h)⟩
      cases h
      refine ⟨nI n, itrO_1 (show fMo_readLengths_L45 (nI T.length) tp (nI n) (nI p) 0 = _ from ?_)⟩
      unfold fMo_readLengths_L45
      rw [if_pos rfl, bd3_of (take1_n hr hT hn (by omega)), if_neg (by decide)]
theorem mlens_ok (hr : ∀ i, i < T.length → tp i = nI (T.getD i 0)) (hT : ∀ x ∈ T, x < 2) (hn : T.length ≤ 1500) {K t : Nat} (hK2 : 2 ≤ K) (hK : K ≤ 258) (ht : t < 3) : ∀ f k g n p lv, k + f = K → p ≤ T.length → 1 ≤ n → n ≤ 20 → (∀ j, j < k → lv (258 * t + j) = nI (g j)) → (∀ q, leG T f k g n p = .inl q → ∃ lv', itrO (un5 (fMo_readLengths_L28 (nI T.length) (nI (K - 2)) tp (nI t))) (nI n, nI k, nI p, 0, lv) = some (nI q.2, nI q.1, lv')) ∧ (∀ q, leG T f k g n p = .inr q → ∃ lv', itrO (un5 (fMo_readLengths_L28 (nI T.length) (nI (K - 2)) tp (nI t))) (nI n, nI k, nI p, 0, lv) = some (nI q.2, 0, lv') ∧ (∀ j, j < K → lv' (258 * t + j) = nI (q.1 j)) ∧ ∀ i, i < 258 * t → lv' i = lv i)
  | 0, k, g, n, p, lv, hf, hp, hn1, hn2, hg => ⟨fun q h => (by cases h), fun q h => by
      cases h
      refine ⟨lv, itrO_1 ?_, fun j hj => hg j (by omega), fun _ _ => rfl⟩
      show fMo_readLengths_L28 (nI T.length) (nI (K - 2)) tp (nI t) (nI n) (nI k) (nI p) 0 lv = _
      unfold fMo_readLengths_L28
      rw [if_pos (by simp (disch := omega) only [nlit, nrm]; omega)]⟩
  | f + 1, k, g, n, p, lv, hf, hp, hn1, hn2, hg => by
    unfold leG
    obtain ⟨m1, m2⟩ := mlen_ok hr hT hn (T.length + 1 - p) n p (by omega) hp hn1 hn2
    have hok := nlG_ok (T := T) (T.length + 1 - p) n p hp hn1 hn2
    have ek : (258 : Int32) * nI t + nI k = nI (258 * t + k) := by simp only [nlit, nrm]
    have hc : ¬ nI (K - 2) + (2 : Int32) ≤ nI k := by simp (disch := omega) only [nlit, nrm]; omega
    cases h : nlG T (T.length + 1 - p) n p with
    | inl q =>
      obtain ⟨x, k1⟩ := m1 q h
      obtain ⟨q1, q2, q3⟩ := hok.1 q h
      refine ⟨fun q' h' => ?_, fun q' h' => (by cases h')⟩
      cases h'
      have hs : un5 (fMo_readLengths_L28 (nI T.length) (nI (K - 2)) tp (nI t)) (nI n, nI k, nI p, 0, lv) = some (.inl (x, nI (k + 1), nI q.2, nI q.1, upd lv (258 * t + k) x)) := by
        show fMo_readLengths_L28 (nI T.length) (nI (K - 2)) tp (nI t) (nI n) (nI k) (nI p) 0 lv = _
        unfold fMo_readLengths_L28
        rw [if_neg hc, if_pos rfl, bd3_of k1, ek, gdI_n (by omega) (by omega), nI_clamp (by omega : 258 * t + k < 2 ^ 31), nI_s]
      rw [itrO_s hs]
      refine ⟨_, itrO_1 (show fMo_readLengths_L28 (nI T.length) (nI (K - 2)) tp (nI t) x (nI (k + 1)) (nI q.2) (nI q.1) _ = some (.inr (nI q.2, nI q.1, upd lv (258 * t + k) x)) from ?_)⟩
      unfold fMo_readLengths_L28
      rw [if_neg (show ¬ nI q.1 = 0 from nI_zn (by omega) (by omega))]
      split <;> rfl
    | inr u =>
      have k1 := m2 u h
      obtain ⟨h1, h2, h3⟩ := hok.2 u h
      dsimp only
      have hs : un5 (fMo_readLengths_L28 (nI T.length) (nI (K - 2)) tp (nI t)) (nI n, nI k, nI p, 0, lv) = some (.inl (nI u.1, nI (k + 1), nI u.2, 0, upd lv (258 * t + k) (nI u.1))) := by
        show fMo_readLengths_L28 (nI T.length) (nI (K - 2)) tp (nI t) (nI n) (nI k) (nI p) 0 lv = _
        unfold fMo_readLengths_L28
        rw [if_neg hc, if_pos rfl, bd3_of k1, ek, gdI_n (by omega) (by omega), nI_clamp (by omega : 258 * t + k < 2 ^ 31), nI_s]
      rw [itrO_s hs]
      obtain ⟨i1, i2⟩ := mlens_ok hr hT hn hK2 hK ht f (k + 1) (va_up g k u.1) u.1 u.2 (upd lv (258 * t + k) (nI u.1)) (by omega) h1 h2 h3 (fun j hj => by
        by_cases e : j = k
        · rw [e, upd_s, va_up_self]
        · rw [upd_n (by omega), va_up_ne _ _ e, hg j (by omega)])
      refine ⟨i1, fun q hq => ?_⟩
      obtain ⟨lv', k2, h4, h5⟩ := i2 q hq
      exact ⟨lv', k2, h4, fun i hi => by rw [h5 i hi, upd_n (by omega)]⟩
theorem lsh1 : ∀ s, s < 21 → (1 : Int64) <<< ((nI s).toInt64 &&& 63) = lN (2 ^ s) := by decide
theorem mreadLengths_ok (hr : ∀ i, i < T.length → tp i = nI (T.getD i 0)) (hT : ∀ x ∈ T, x < 2) (hn : T.length ≤ 1500) {K t p : Nat} (hK2 : 2 ≤ K) (hK : K ≤ 258) (ht : t < 3) (hp : p ≤ T.length) (lv cv : Nat → Int32) : (∀ q, t1G T K p = .inl q → ∃ lv' cv', fMo_readLengths (nI T.length) (nI p) 0 (nI (K - 2)) tp lv cv (nI t) = some (nI q.2, nI q.1, lv', cv')) ∧ (∀ q, t1G T K p = .inr q → ∃ lv' cv', fMo_readLengths (nI T.length) (nI p) 0 (nI (K - 2)) tp lv cv (nI t) = some (nI q.2, 0, lv', cv') ∧ (∀ j, j < K → lv' (258 * t + j) = nI (q.1 j)) ∧ (∀ j, j < K → cv' (258 * t + j) = nI (cod q.1 K j)) ∧ ∀ i, i < 258 * t → lv' i = lv i ∧ cv' i = cv i) := by
  have eK : nI (K - 2) + (2 : Int32) = nI K := by simp only [nlit, nrm]; exact nI_c (by omega)
  have et : (258 : Int32) * nI t = nI (258 * t) := by simp only [nlit, nrm]
  -- what comes behind the loop where something is wrong
  have htail : ∀ b rd a lv', 1 ≤ a → a < 100 → ∀ x w, fMo_fails w b 5 = some (nI a) → itrO (un5 (fMo_readLengths_L28 (nI T.length) (nI (K - 2)) tp (nI t))) (x, (0 : Int32), rd, nI a, lv) = some (rd, nI a, lv') → fMo_readLengths_J22 (nI T.length) (nI (K - 2)) tp (nI t) x rd w lv cv b = some (rd, nI a, lv', cv) := fun b rd a lv' ha ha2 x w hw hl => by
    have h140 : itrO (un2 (fMo_readLengths_L140 (nI (K - 2)) (nI t) (nI a) lv')) ((0 : Int64), (0 : Int32)) = some 0 := by
      refine itrO_1 (show fMo_readLengths_L140 (nI (K - 2)) (nI t) (nI a) lv' 0 0 = _ from ?_)
      unfold fMo_readLengths_L140
      rw [if_neg (show ¬ nI a = 0 from nI_zn (by omega) (by omega))]
      split <;> rfl
    unfold fMo_readLengths_J22 fMo_readLengths_J199
    rw [bd1_of hw, bd3_of hl, bd1_of h140, if_pos (by decide), bd1_of (fails_w ha ha2 0 6), if_neg (nI_zn (by omega) (by omega))]
  have hwrong : ∀ x rd a, 1 ≤ a → a < 100 → itrO (un5 (fMo_readLengths_L28 (nI T.length) (nI (K - 2)) tp (nI t))) (x, (0 : Int32), rd, nI a, lv) = some (rd, nI a, lv) := fun x rd a ha ha2 => by
    refine itrO_1 (show fMo_readLengths_L28 (nI T.length) (nI (K - 2)) tp (nI t) x 0 rd (nI a) lv = _ from ?_)
    unfold fMo_readLengths_L28
    rw [if_neg (show ¬ nI a = 0 from nI_zn (by omega) (by omega))]
    split <;> rfl
  have hwi : ∀ u, u < 100 → fMo_within (nI u) 1 20 = some (if 1 ≤ u ∧ u ≤ 20 then 1 else 0) := fun u hu => by
    unfold fMo_within
    by_cases c3 : u < 1
    · rw [if_pos (show nI u < 1 by simp (disch := omega) only [nlit, nrm]; exact c3), if_neg (show ¬ (1 ≤ u ∧ u ≤ 20) by omega)]
    · rw [if_neg (show ¬ nI u < 1 by simp (disch := omega) only [nlit, nrm]; exact c3)]
      by_cases c4 : 20 < u
      · rw [if_pos (show (20 : Int32) < nI u by simp (disch := omega) only [nlit, nrm]; exact c4), if_neg (show ¬ (1 ≤ u ∧ u ≤ 20) by omega)]
      · rw [if_neg (show ¬ (20 : Int32) < nI u by simp (disch := omega) only [nlit, nrm]; exact c4), if_pos (show 1 ≤ u ∧ u ≤ 20 by omega)]
  have h0 := take_ok hr hT hn (p := p) (w := 5) hp (by omega)
  unfold t1G
  cases h : rN T 5 p with
  | inl q =>
    rw [h] at h0
    obtain ⟨rfl, -⟩ := rN_inl h
    have h0 : fMo_take (nI T.length) (nI p) 0 tp 5 = some (nI 0, nI T.length, nI 1) := h0
    refine ⟨fun q' h' => ?_, fun q' h' => (by cases h')⟩
    cases h'
    refine ⟨lv, cv, ?_⟩
    unfold fMo_readLengths
    rw [bd3_of h0, bd1_of (hwi 0 (by omega)), if_neg (by omega), if_pos rfl]
    exact htail 1 _ 1 lv (by omega) (by omega) _ _ (fails_w (by omega) (by omega) _ _) (hwrong _ _ _ (by omega) (by omega))
  | inr u =>
    obtain ⟨u1, u2, u3, u4⟩ := rN_inr hT h
    rw [h] at h0
    have h0 : fMo_take (nI T.length) (nI p) 0 tp 5 = some (nI u.1, nI u.2, 0) := h0
    dsimp only
    unfold fMo_readLengths
    rw [bd3_of h0, bd1_of (hwi u.1 (by omega))]
    by_cases c : 1 ≤ u.1 ∧ u.1 ≤ 20
    · rw [if_pos c, if_pos c, if_neg (by decide)]
      obtain ⟨m1, m2⟩ := mlens_ok hr hT hn hK2 hK ht K 0 (fun _ => 1) u.1 u.2 lv (by omega) (by omega) c.1 c.2 (fun j hj => by omega)
      have hlk := leG_ok (T := T) K 0 (fun _ => 1) u.1 u.2 (by omega) c.1 c.2 (fun j => ⟨Nat.le_refl _, by omega⟩)
      have hf0 : fMo_fails 0 0 5 = some 0 := rfl
      cases h2 : leG T K 0 (fun _ => 1) u.1 u.2 with
      | inl q =>
        refine ⟨fun q' h' => ?_, fun q' h' => (by cases h')⟩
        cases h'
        obtain ⟨lv', k1⟩ := m1 q h2
        obtain ⟨q1, q2, q3⟩ := hlk.1 q h2
        refine ⟨lv', cv, ?_⟩
        have h140 : itrO (un2 (fMo_readLengths_L140 (nI (K - 2)) (nI t) (nI q.1) lv')) ((0 : Int64), (0 : Int32)) = some 0 := by
          refine itrO_1 (show fMo_readLengths_L140 (nI (K - 2)) (nI t) (nI q.1) lv' 0 0 = _ from ?_)
          unfold fMo_readLengths_L140
          rw [if_neg (show ¬ nI q.1 = 0 from nI_zn (by omega) (by omega))]
          split <;> rfl
        unfold fMo_readLengths_J22 fMo_readLengths_J199
        rw [bd1_of hf0, bd3_of (x := itrO (un5 (fMo_readLengths_L28 (nI T.length) (nI (K - 2)) tp (nI t))) (nI u.1, 0, nI u.2, 0, lv)) k1, bd1_of h140, if_pos (by decide), bd1_of (fails_w q1 (by omega) 0 6), if_neg (nI_zn (by omega) (by omega))]
      | inr w =>
        obtain ⟨a1, a2⟩ := hlk.2 w h2
        obtain ⟨lv', k1, hlv, hfr⟩ := m2 w h2
        have hfl := fil_le (len := w.1) hK (fun j _ => (a2 j).1)
        have h140 : itrO (un2 (fMo_readLengths_L140 (nI (K - 2)) (nI t) 0 lv')) ((0 : Int64), (0 : Int32)) = some (lN (fil w.1 K)) := by
          refine lp_c (step := un2 (fMo_readLengths_L140 (nI (K - 2)) (nI t) 0 lv')) (fun k => (lN (fil w.1 k), nI k)) (lN (fil w.1 K)) K (fun k hk => ?_) ?_ 0 (by omega)
          · show fMo_readLengths_L140 (nI (K - 2)) (nI t) 0 lv' (lN (fil w.1 k)) (nI k) = _
            unfold fMo_readLengths_L140
            have hak := a2 k
            have ek : (258 : Int32) * nI t + nI k = nI (258 * t + k) := by simp only [nlit, nrm]
            rw [eK, if_neg (by simp (disch := omega) only [nlit, nrm]; omega), if_pos rfl, ek, gdI_n (by omega) (by omega), nI_clamp (by omega : 258 * t + k < 2 ^ 31), hlv k hk, show (20 : Int32) = nI 20 from rfl, pk_sub (a := 20) (b := w.1 k) (by omega), lsh1 _ (by omega), lN_add, nI_s]
            rfl
          · show fMo_readLengths_L140 (nI (K - 2)) (nI t) 0 lv' (lN (fil w.1 K)) (nI K) = _
            unfold fMo_readLengths_L140
            rw [eK, if_pos (by simp (disch := omega) only [nlit, nrm]; omega)]
        dsimp only
        have hcmp : (lg_cmp (lN (fil w.1 K)) (1048576 : Int64) ≤ 0) ↔ fil w.1 K ≤ 2 ^ 20 := by
          rw [lg_cmp_le, show (1048576 : Int64) = lN 1048576 from rfl, lN_le (by omega) (by omega)]
        by_cases c2 : fil w.1 K ≤ 2 ^ 20
        · rw [if_pos c2]
          refine ⟨fun q' h' => (by cases h'), fun q' h' => ?_⟩
          cases h'
          obtain ⟨cv', k3, h3, h4⟩ := fMo_findCodes_ok (n0 := 774) (n2 := 774) (fr := 258 * t) (ap := 258 * t) hK (by omega) (by omega) (by omega) (by omega) (rv := lv') (len := w.1) (fun k hk => ⟨hlv k hk, a2 k⟩) c2 cv
          refine ⟨lv', cv', ?_, hlv, h3, fun i hi => ⟨hfr i hi, h4 i (Or.inl hi)⟩⟩
          unfold fMo_readLengths_J22 fMo_readLengths_J199
          rw [bd1_of hf0, bd3_of (x := itrO (un5 (fMo_readLengths_L28 (nI T.length) (nI (K - 2)) tp (nI t))) (nI u.1, 0, nI u.2, 0, lv)) k1, bd1_of h140, if_pos (hcmp.mpr c2), bd1_of (x := fMo_fails 0 0 6) rfl, if_pos rfl, et, eK, bd1_of k3]
        · rw [if_neg c2]
          refine ⟨fun q' h' => ?_, fun q' h' => (by cases h')⟩
          cases h'
          refine ⟨lv', cv, ?_⟩
          unfold fMo_readLengths_J22 fMo_readLengths_J199
          rw [bd1_of hf0, bd3_of (x := itrO (un5 (fMo_readLengths_L28 (nI T.length) (nI (K - 2)) tp (nI t))) (nI u.1, 0, nI u.2, 0, lv)) k1, bd1_of h140, if_neg (fun q => c2 (hcmp.mp q)), bd1_of (x := fMo_fails 0 1 6) rfl, if_neg (by decide)]
          rfl
    · rw [if_neg c, if_neg c, if_pos rfl]
      refine ⟨fun q' h' => ?_, fun q' h' => (by cases h')⟩
      cases h'
      exact ⟨lv, cv, htail 1 _ 5 lv (by omega) (by omega) _ _ rfl (hwrong _ _ _ (by omega) (by omega))⟩
/-- lengths and codes of the tables that were read -/
def MTB (K tb : Nat) (G : Nat → Nat → Nat) (lv cv : Nat → Int32) : Prop := ∀ t, t < tb → ∀ j, j < K → lv (258 * t + j) = nI (G t j) ∧ cv (258 * t + j) = nI (cod (G t) K j)
theorem mtables_ok (hr : ∀ i, i < T.length → tp i = nI (T.getD i 0)) (hT : ∀ x ∈ T, x < 2) (hn : T.length ≤ 1500) {K tb : Nat} (hK2 : 2 ≤ K) (hK : K ≤ 258) (htb : tb ≤ 3) : ∀ f t G p lv cv, t + f = tb → p ≤ T.length → MTB K t G lv cv → (∀ q, tbG T K f t G p = .inl q → ∃ lv' cv', itrO (un5 (fMo_read_L27 (nI T.length) tp (nI (K - 2)) (nI tb))) (nI t, nI p, 0, lv, cv) = some (nI q.2, nI q.1, lv', cv')) ∧ (∀ q, tbG T K f t G p = .inr q → ∃ lv' cv', itrO (un5 (fMo_read_L27 (nI T.length) tp (nI (K - 2)) (nI tb))) (nI t, nI p, 0, lv, cv) = some (nI q.2, 0, lv', cv') ∧ MTB K tb q.1 lv' cv')
  | 0, t, G, p, lv, cv, hf, hp, hM => ⟨fun q h => (by cases h), fun q h => by
      cases h
      refine ⟨lv, cv, itrO_1 ?_, fun s hs => hM s (by omega)⟩
      show fMo_read_L27 (nI T.length) tp (nI (K - 2)) (nI tb) (nI t) (nI p) 0 lv cv = _
      unfold fMo_read_L27
      rw [if_pos (by simp (disch := omega) only [nlit, nrm]; omega)]⟩
  | f + 1, t, G, p, lv, cv, hf, hp, hM => by
    unfold tbG
    obtain ⟨m1, m2⟩ := mreadLengths_ok hr hT hn hK2 hK (t := t) (by omega) hp lv cv
    have hok := t1G_ok hT (K := K) hp
    have hc : ¬ nI tb ≤ nI t := by simp (disch := omega) only [nlit, nrm]; omega
    cases h : t1G T K p with
    | inl q =>
      obtain ⟨lv', cv', k1⟩ := m1 q h
      obtain ⟨q1, q2, q3⟩ := hok.1 q h
      refine ⟨fun q' h' => ?_, fun q' h' => (by cases h')⟩
      cases h'
      have hs : un5 (fMo_read_L27 (nI T.length) tp (nI (K - 2)) (nI tb)) (nI t, nI p, 0, lv, cv) = some (.inl (nI (t + 1), nI q.2, nI q.1, lv', cv')) := by
        show fMo_read_L27 (nI T.length) tp (nI (K - 2)) (nI tb) (nI t) (nI p) 0 lv cv = _
        unfold fMo_read_L27
        rw [if_neg hc, if_pos rfl, bd4_of k1, nI_s]
      rw [itrO_s hs]
      refine ⟨lv', cv', itrO_1 (show fMo_read_L27 (nI T.length) tp (nI (K - 2)) (nI tb) (nI (t + 1)) (nI q.2) (nI q.1) lv' cv' = _ from ?_)⟩
      unfold fMo_read_L27
      rw [if_neg (show ¬ nI q.1 = 0 from nI_zn (by omega) (by omega))]
      split <;> rfl
    | inr u =>
      obtain ⟨lv', cv', k1, h1, h2, h3⟩ := m2 u h
      obtain ⟨a1, a2, a3⟩ := hok.2 u h
      dsimp only
      have hs : un5 (fMo_read_L27 (nI T.length) tp (nI (K - 2)) (nI tb)) (nI t, nI p, 0, lv, cv) = some (.inl (nI (t + 1), nI u.2, 0, lv', cv')) := by
        show fMo_read_L27 (nI T.length) tp (nI (K - 2)) (nI tb) (nI t) (nI p) 0 lv cv = _
        unfold fMo_read_L27
        rw [if_neg hc, if_pos rfl, bd4_of k1, nI_s]
      rw [itrO_s hs]
      refine mtables_ok hr hT hn hK2 hK htb f (t + 1) (va_up G t u.1) u.2 lv' cv' (by omega) a1 (fun s hs j hj => ?_)
      by_cases e : s = t
      · rw [e, va_up_self]
        exact ⟨h1 j hj, h2 j hj⟩
      · rw [va_up_ne _ _ e]
        have hfr := h3 (258 * s + j) (by omega)
        rw [hfr.1, hfr.2]
        exact hM s (by omega) j hj
end MT
