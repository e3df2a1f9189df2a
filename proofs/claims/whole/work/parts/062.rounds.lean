/-! ===== the class: rounds ===== -/
theorem nI_ite {c : Prop} [Decidable c] {a b : Nat} : (if c then nI a else nI b) = nI (if c then a else b) := by split <;> rfl
theorem fRounds_clearWeights_ok {K : Nat} (hK : K ≤ 258) (w : Nat → Int32) : ∃ w', fRounds_clearWeights (nI K) w = some w' ∧ ∀ k, k < K → w' k = nI 0 := by
  obtain ⟨r, k1, h1⟩ : ∃ r, itrO (un2 (fRounds_clearWeights_L2 (nI K))) ((0 : Int32), w) = some r ∧ ∀ k, k < K → r k = nI 0 := by
    refine lp_up (step := un2 (fRounds_clearWeights_L2 (nI K))) (fun i s => ∃ w', s = (nI i, w') ∧ ∀ k, k < i → w' k = nI 0) _ K (fun i s hi hs => ?_) (fun s hs => ?_) 0 _ (by omega) ⟨w, rfl, fun k hk => by omega⟩
    · obtain ⟨w1, rfl, h1⟩ := hs
      refine Or.inl ⟨(nI (i + 1), upd w1 i (nI 0)), ?_, _, rfl, fun k hk => ?_⟩
      · show fRounds_clearWeights_L2 (nI K) (nI i) _ = _
        unfold fRounds_clearWeights_L2
        simp (disch := omega) only [nlit, nrm, gdI_n, if_neg]
      · by_cases e : k = i
        · rw [e, upd_s]
        · rw [upd_n e, h1 k (by omega)]
    · obtain ⟨w1, rfl, h1⟩ := hs
      refine ⟨w1, ?_, h1⟩
      show fRounds_clearWeights_L2 (nI K) (nI K) _ = _
      unfold fRounds_clearWeights_L2
      simp (disch := omega) only [nrm, if_pos, ↓reduceIte]
  refine ⟨r, ?_, h1⟩
  unfold fRounds_clearWeights
  rw [bd1_of k1]
section RC
variable {S : List Nat} {K : Nat} {sv : Nat → Int32}
theorem fRounds_weighSymbols_ok (hs : rowIs sv (nI S.length) S) (hS : ∀ x ∈ S, x < K) (hl : S.length ≤ 301) (hK : K ≤ 258) {w : Nat → Int32} {v : Nat → Nat} (hw : ∀ k, k < K → w k = nI (v k)) (hv : ∀ k, k < K → v k ≤ 1000) {a b e : Nat} (he : (if S.length < b then S.length else b) = e) (hb : b ≤ 1000) (ha : a ≤ e) : ∃ w', fRounds_weighSymbols (nI K) (nI S.length) sv w (nI a) (nI b) = some w' ∧ ∀ k, k < K → w' k = nI (v k + oc S a (e - a) k) := by
  have hee : e ≤ S.length := by rw [← he]; split <;> omega
  have hmin : (if nI S.length < nI b then nI S.length else nI b) = nI e := by
    simp (disch := omega) only [nrm]
    rw [nI_ite, he]
  obtain ⟨r, k1, h1⟩ : ∃ r, itrO (un2 (fRounds_weighSymbols_L15 (nI K) (nI S.length) sv (nI b) (nI S.length))) (nI a, w) = some r ∧ ∀ k, k < K → r k = nI (v k + oc S a (e - a) k) := by
    refine lp_up (step := un2 (fRounds_weighSymbols_L15 (nI K) (nI S.length) sv (nI b) (nI S.length))) (fun i s => a ≤ i ∧ ∃ w', s = (nI i, w') ∧ ∀ k, k < K → w' k = nI (v k + oc S a (i - a) k)) _ e (fun i s hi hs1 => ?_) (fun s hs1 => ?_) a _ ha ⟨Nat.le_refl _, w, rfl, fun k hk => by rw [Nat.sub_self, oc_0, Nat.add_zero]; exact hw k hk⟩
    · obtain ⟨hai, w1, rfl, h1⟩ := hs1
      have hx := hS _ (getD_mem (B := S) (k := i) (by omega))
      have hoc := oc_le S a (i - a) (S.getD i 0)
      have hv1 := hv _ hx
      have hw1 := h1 _ hx
      refine Or.inl ⟨(nI (i + 1), upd w1 (S.getD i 0) (nI (v (S.getD i 0) + oc S a (i - a) (S.getD i 0) + 1))), ?_, by omega, _, rfl, fun k hk => ?_⟩
      · show fRounds_weighSymbols_L15 (nI K) (nI S.length) sv (nI b) (nI S.length) (nI i) _ = _
        unfold fRounds_weighSymbols_L15
        rw [hmin, bd1_of (fRow_get_ok hs hl (by decide) (by omega))]
        simp (disch := omega) only [nlit, nrm, gdI_n, if_neg, hw1]
      · rw [show i + 1 - a = (i - a) + 1 by omega, oc_s, show a + (i - a) = i by omega]
        by_cases ek : S.getD i 0 = k
        · rw [← ek, upd_s, if_pos rfl]
          exact nI_c (by omega)
        · rw [upd_n (fun q => ek q.symm), if_neg ek, h1 k hk]
          exact nI_c (by omega)
    · obtain ⟨hai, w1, rfl, h1⟩ := hs1
      refine ⟨w1, ?_, h1⟩
      show fRounds_weighSymbols_L15 (nI K) (nI S.length) sv (nI b) (nI S.length) (nI e) _ = _
      unfold fRounds_weighSymbols_L15
      rw [hmin]
      simp (disch := omega) only [nrm, if_pos, ↓reduceIte]
  refine ⟨r, ?_, h1⟩
  unfold fRounds_weighSymbols
  rw [bd1_of (x := fRow_size (nI S.length)) rfl, bd1_of k1]
theorem fRounds_weighAll_ok (hs : rowIs sv (nI S.length) S) (hS : ∀ x ∈ S, x < K) (hl : S.length ≤ 301) (hK : K ≤ 258) (w : Nat → Int32) : ∃ w', fRounds_weighAll (nI K) (nI S.length) sv w = some w' ∧ ∀ k, k < K → w' k = nI (oc S 0 S.length k) := by
  obtain ⟨w1, k1, h1⟩ := fRounds_clearWeights_ok hK w
  obtain ⟨w2, k2, h2⟩ := fRounds_weighSymbols_ok hs hS hl hK (v := fun _ => 0) h1 (fun _ _ => by omega) (a := 0) (b := S.length) (e := S.length) (by split <;> omega) (by omega) (by omega)
  refine ⟨w2, ?_, fun k hk => by rw [h2 k hk]; exact nI_c (by simp)⟩
  unfold fRounds_weighAll
  rw [bd1_of k1, bd1_of (x := fRow_size (nI S.length)) rfl, bd1_of (x := fRounds_weighSymbols (nI K) (nI S.length) sv w1 0 (nI S.length)) k2]
/-- the weights of a table behind a choice -/
theorem fRounds_weigh_ok (hs : rowIs sv (nI S.length) S) (hS : ∀ x ∈ S, x < K) (hl : S.length ≤ 301) (hK : K ≤ 258) {Mt : Nat → Nat → Int32} {T : Nat → Nat} {r t : Nat} (hr : r < 5) (ht : t < 3) (hT : ∀ g, g < nGr S → Mt r g = nI (T g) ∧ T g < 3) (w : Nat → Int32) : ∃ w', fRounds_weigh (nI K) (nI (nGr S)) (nI S.length) sv Mt w (nI r) (nI t) = some w' ∧ ∀ k, k < K → w' k = nI (wt T S t k) := by
  have hG := nGr_le hl
  obtain ⟨w0, k0, h0⟩ := fRounds_clearWeights_ok hK w
  have hwq : ∀ G, G ≤ nGr S → ∀ k, k < K → sumN (fun g => if T g = t then oc S (10 * g) (gE S g - 10 * g) k else 0) G ≤ 310 := by
    intro G hG2 k hk
    have h1 : sumN (fun g => if T g = t then oc S (10 * g) (gE S g - 10 * g) k else 0) G ≤ sumN (fun _ => 10) G := sumN_le (fun g hg => by
      have := gE_lt (S := S) (g := g) (by omega)
      have := oc_le S (10 * g) (gE S g - 10 * g) k
      split <;> omega)
    rw [sumN_const] at h1
    omega
  obtain ⟨w1, k1, h1⟩ : ∃ r1, itrO (un2 (fRounds_weigh_L6 (nI K) (nI (nGr S)) (nI S.length) sv Mt (nI r) (nI t))) ((0 : Int32), w0) = some r1 ∧ ∀ k, k < K → r1 k = nI (wq T S t k) := by
    refine lp_up (step := un2 (fRounds_weigh_L6 (nI K) (nI (nGr S)) (nI S.length) sv Mt (nI r) (nI t))) (fun G s => G ≤ nGr S ∧ ∃ w', s = (nI G, w') ∧ ∀ k, k < K → w' k = nI (sumN (fun g => if T g = t then oc S (10 * g) (gE S g - 10 * g) k else 0) G)) _ (nGr S) (fun G s hG1 hs1 => ?_) (fun s hs1 => ?_) 0 _ (by omega) ⟨by omega, w0, rfl, h0⟩
    · obtain ⟨-, w', rfl, h1⟩ := hs1
      obtain ⟨hT1, hT2⟩ := hT G hG1
      have hg := gE_lt (S := S) (g := G) hG1
      refine Or.inl ?_
      by_cases et : T G = t
      · obtain ⟨w2, k2, h2⟩ := fRounds_weighSymbols_ok hs hS hl hK h1 (fun k hk => by have := hwq G (by omega) k hk; omega) (a := 10 * G) (b := 10 * (G + 1)) (e := gE S G) (by unfold gE; split <;> split <;> omega) (by omega) (by omega)
        refine ⟨(nI (G + 1), w2), ?_, by omega, w2, rfl, fun k hk => ?_⟩
        · show fRounds_weigh_L6 (nI K) (nI (nGr S)) (nI S.length) sv Mt (nI r) (nI t) (nI G) _ = _
          unfold fRounds_weigh_L6
          have e1 : nI G * 10 = nI (10 * G) := by
            simp only [nlit, nrm]
            exact nI_c (by omega)
          have e2 : (nI G + 1) * 10 = nI (10 * (G + 1)) := by
            simp only [nlit, nrm]
            exact nI_c (by omega)
          rw [e1, e2, bd1_of k2]
          simp (disch := omega) only [nlit, nrm, gdI_n, if_neg, if_pos, ↓reduceIte, hT1]
        · rw [h2 k hk, sumN_succ, if_pos et]
      · refine ⟨(nI (G + 1), w'), ?_, by omega, w', rfl, fun k hk => ?_⟩
        · show fRounds_weigh_L6 (nI K) (nI (nGr S)) (nI S.length) sv Mt (nI r) (nI t) (nI G) _ = _
          unfold fRounds_weigh_L6
          simp (disch := omega) only [nlit, nrm, gdI_n, if_neg, ↓reduceIte, hT1]
        · rw [h1 k hk, sumN_succ, if_neg et, Nat.add_zero]
    · obtain ⟨-, w', rfl, h1⟩ := hs1
      refine ⟨w', ?_, h1⟩
      show fRounds_weigh_L6 (nI K) (nI (nGr S)) (nI S.length) sv Mt (nI r) (nI t) (nI (nGr S)) _ = _
      unfold fRounds_weigh_L6
      simp (disch := omega) only [nrm, if_pos, ↓reduceIte]
  obtain ⟨w2, k2, h2⟩ : ∃ r1, itrO (un2 (fRounds_weigh_L48 (nI K))) ((0 : Int32), w1) = some r1 ∧ ∀ k, k < K → r1 k = nI (wt T S t k) := by
    refine lp_up (step := un2 (fRounds_weigh_L48 (nI K))) (fun i s => i ≤ K ∧ ∃ w', s = (nI i, w') ∧ (∀ k, k < i → w' k = nI (wt T S t k)) ∧ ∀ k, i ≤ k → k < K → w' k = nI (wq T S t k)) _ K (fun i s hi hs1 => ?_) (fun s hs1 => ?_) 0 _ (by omega) ⟨by omega, w1, rfl, fun k hk => by omega, fun k _ hk => h1 k hk⟩
    · obtain ⟨-, w', rfl, h3, h4⟩ := hs1
      have h5 := h4 i (Nat.le_refl _) hi
      have h6 := hwq (nGr S) (Nat.le_refl _) i hi
      have h7 : wq T S t i ≤ 310 := h6
      refine Or.inl ⟨(nI (i + 1), upd w' i (nI (wt T S t i))), ?_, by omega, _, rfl, fun k hk => ?_, fun k hk1 hk2 => ?_⟩
      · show fRounds_weigh_L48 (nI K) (nI i) _ = _
        unfold fRounds_weigh_L48
        have e1 : (if (1 : Int32) < w' i then w' i else 1) = nI (wt T S t i) := by
          rw [h5]
          simp (disch := omega) only [nlit, nrm]
          rw [nI_ite]
          unfold wt
          exact nI_c (by split <;> split <;> omega)
        simp (disch := omega) only [nrm, gdI_n, if_neg, e1]
        simp (disch := omega) only [nlit, nrm]
      · by_cases e : k = i
        · rw [e, upd_s]
        · rw [upd_n e, h3 k (by omega)]
      · rw [upd_n (by omega), h4 k (by omega) hk2]
    · obtain ⟨-, w', rfl, h3, h4⟩ := hs1
      refine ⟨w', ?_, h3⟩
      show fRounds_weigh_L48 (nI K) (nI K) _ = _
      unfold fRounds_weigh_L48
      simp (disch := omega) only [nrm, if_pos, ↓reduceIte]
  refine ⟨w2, ?_, h2⟩
  unfold fRounds_weigh
  rw [bd1_of k0, bd1_of k1, bd1_of k2]
theorem fRounds_bitsOfGroup_ok (hs : rowIs sv (nI S.length) S) (hS : ∀ x ∈ S, x < K) (hl : S.length ≤ 301) (hK : K ≤ 258) {M : Nat → Nat → Int32} {len : Nat → Nat} {j g : Nat} (hM : ∀ k, k < K → M j k = nI (len k) ∧ len k ≤ 20) (hg : g < nGr S) : fRounds_bitsOfGroup (nI K) (nI S.length) sv M (nI g) j = some (nI (bt len S g)) := by
  have hG := nGr_le hl
  have hge := gE_lt hg
  have hmin : (if nI S.length < (nI g + 1) * 10 then nI S.length else (nI g + 1) * 10) = nI (gE S g) := by
    simp (disch := omega) only [nlit, nrm]
    rw [nI_ite]
    unfold gE
    exact nI_c (by split <;> split <;> omega)
  obtain ⟨r, k1, h1⟩ : ∃ r, itrO (un2 (fRounds_bitsOfGroup_L26 (nI K) (nI S.length) sv M (nI g) j (nI S.length))) ((0 : Int32), nI (10 * g)) = some r ∧ r = nI (bt len S g) := by
    refine lp_up (step := un2 (fRounds_bitsOfGroup_L26 (nI K) (nI S.length) sv M (nI g) j (nI S.length))) (fun i s => 10 * g ≤ i ∧ s = (nI (sumN (fun i => len (S.getD (10 * g + i) 0)) (i - 10 * g)), nI i)) _ (gE S g) (fun i s hi hs1 => ?_) (fun s hs1 => ?_) (10 * g) _ (by omega) ⟨Nat.le_refl _, by rw [Nat.sub_self]; rfl⟩
    · obtain ⟨hgi, rfl⟩ := hs1
      have hx := hS _ (getD_mem (B := S) (k := i) (by omega))
      obtain ⟨hm1, hm2⟩ := hM _ hx
      have hsum : sumN (fun i => len (S.getD (10 * g + i) 0)) (i - 10 * g) ≤ 1000 := by
        have h1 : sumN (fun i => len (S.getD (10 * g + i) 0)) (i - 10 * g) ≤ sumN (fun _ => 20) (i - 10 * g) := sumN_le (fun i hi => (hM _ (hS _ (getD_mem (by omega)))).2)
        rw [sumN_const] at h1
        omega
      refine Or.inl ⟨_, ?_, by omega, rfl⟩
      show fRounds_bitsOfGroup_L26 (nI K) (nI S.length) sv M (nI g) j (nI S.length) _ (nI i) = _
      unfold fRounds_bitsOfGroup_L26
      rw [hmin, bd1_of (fRow_get_ok hs hl (by decide) (by omega))]
      simp (disch := omega) only [nlit, nrm, gdI_n, if_neg, hm1]
      refine il2 (nI_c ?_) rfl
      rw [show i + 1 - 10 * g = (i - 10 * g) + 1 by omega, sumN_succ, show 10 * g + (i - 10 * g) = i by omega]
    · obtain ⟨hgi, rfl⟩ := hs1
      refine ⟨_, ?_, rfl⟩
      show fRounds_bitsOfGroup_L26 (nI K) (nI S.length) sv M (nI g) j (nI S.length) _ (nI (gE S g)) = _
      unfold fRounds_bitsOfGroup_L26
      rw [hmin]
      simp (disch := omega) only [nrm, if_pos, ↓reduceIte]
      rfl
  unfold fRounds_bitsOfGroup
  have e1 : nI g * 10 = nI (10 * g) := by
    simp only [nlit, nrm]
    exact nI_c (by omega)
  rw [bd1_of (x := fRow_size (nI S.length)) rfl, e1, bd1_of k1, h1]
theorem bt_le (hS : ∀ x ∈ S, x < K) (hl : S.length ≤ 301) {len : Nat → Nat} (hM : ∀ k, k < K → len k ≤ 20) {g : Nat} (hg : g < nGr S) : bt len S g ≤ 200 := by
  have hge := gE_lt hg
  have h1 : bt len S g ≤ sumN (fun _ => 20) (gE S g - 10 * g) := sumN_le (fun i hi => hM _ (hS _ (getD_mem (by omega))))
  rw [sumN_const] at h1
  omega
theorem fRounds_lengthsBehind_ok {r t : Nat} (hr : r < 5) (ht : t < 3) : fRounds_lengthsBehind (nI r) (nI t) = some (3 * r + t) := by
  unfold fRounds_lengthsBehind
  simp (disch := omega) only [nlit, nrm, gdI_n]
  exact congrArg some (by omega)
/-- which tables the groups take in a round -/
theorem fRounds_chooseTables_ok (hs : rowIs sv (nI S.length) S) (hS : ∀ x ∈ S, x < K) (hl : S.length ≤ 301) (hK : K ≤ 258) {M Mt : Nat → Nat → Int32} {len : Nat → Nat → Nat} {r : Nat} (hr : r < 4) (hM : ∀ t, t < nTb S → ∀ k, k < K → M (3 * r + t) k = nI (len t k) ∧ len t k ≤ 20) : ∃ Mt', fRounds_chooseTables (nI K) (nI (nGr S)) (nI (nTb S)) (nI S.length) sv Mt M (nI (r + 1)) = some Mt' ∧ (∀ g, g < nGr S → Mt' (r + 1) g = nI (tk len S g)) ∧ ∀ q, q ≠ r + 1 → Mt' q = Mt q := by
  have hG := nGr_le hl
  have hT := nTb_le S
  have er : nI (r + 1) - 1 = nI r := by
    show nI (r + 1) - nI 1 = nI r
    rw [pk_sub (by omega)]
    exact nI_c (by omega)
  obtain ⟨r1, k1, h1, h2⟩ : ∃ r1, itrO (un2 (fRounds_chooseTables_L2 (nI K) (nI (nGr S)) (nI (nTb S)) (nI S.length) sv M (nI (r + 1)))) ((0 : Int32), Mt) = some r1 ∧ (∀ g, g < nGr S → r1 (r + 1) g = nI (tk len S g)) ∧ ∀ q, q ≠ r + 1 → r1 q = Mt q := by
    refine lp_up (step := un2 (fRounds_chooseTables_L2 (nI K) (nI (nGr S)) (nI (nTb S)) (nI S.length) sv M (nI (r + 1)))) (fun G s => ∃ M', s = (nI G, M') ∧ (∀ g, g < G → M' (r + 1) g = nI (tk len S g)) ∧ ∀ q, q ≠ r + 1 → M' q = Mt q) _ (nGr S) (fun G s hG1 hs1 => ?_) (fun s hs1 => ?_) 0 _ (by omega) ⟨Mt, rfl, fun g hg => by omega, fun _ _ => rfl⟩
    · obtain ⟨M', rfl, h1, h2⟩ := hs1
      have hS0 : S.length ≠ 0 := by unfold nGr at hG1; omega
      have hT1 := nTb_pos hS0
      have hb : ∀ t, t < nTb S → fRounds_bitsOfGroup (nI K) (nI S.length) sv M (nI G) (3 * r + t) = some (nI (bt (len t) S G)) := fun t ht => fRounds_bitsOfGroup_ok hs hS hl hK (hM t ht) hG1
      have hbl : ∀ t, t < nTb S → bt (len t) S G ≤ 200 := fun t ht => bt_le hS hl (fun k hk => (hM t ht k hk).2) hG1
      have k2 : itrO (un3 (fRounds_chooseTables_L30 (nI K) (nI (nTb S)) (nI S.length) sv M (nI (r + 1)) (nI G))) ((0 : Int32), nI (bt (len 0) S G), (1 : Int32)) = some (nI (tk len S G)) := by
        have := lp_c (step := un3 (fRounds_chooseTables_L30 (nI K) (nI (nTb S)) (nI S.length) sv M (nI (r + 1)) (nI G))) (fun t => (nI (pk (fun t => bt (len t) S G) (t - 1)).1, nI (pk (fun t => bt (len t) S G) (t - 1)).2, nI t)) (nI (tk len S G)) (nTb S) (fun t ht => by
          show fRounds_chooseTables_L30 (nI K) (nI (nTb S)) (nI S.length) sv M (nI (r + 1)) (nI G) _ _ (nI t) = _
          unfold fRounds_chooseTables_L30
          rw [er, bd1_of (fRounds_lengthsBehind_ok (t := t) (by omega) (by omega)), bd1_of (hb t ht)]
          have hp := pk_le2 (fun t => bt (len t) S G) (t - 1)
          have hq := hbl (pk (fun t => bt (len t) S G) (t - 1)).1 (by omega)
          have hq2 := hbl t ht
          have hp2 : (pk (fun t => bt (len t) S G) (t - 1)).2 = bt (len (pk (fun t => bt (len t) S G) (t - 1)).1) S G := hp.2
          rw [← hp2] at hq
          have hnx : pk (fun t => bt (len t) S G) (t + 1 - 1) = if bt (len t) S G < (pk (fun t => bt (len t) S G) (t - 1)).2 then (t, bt (len t) S G) else pk (fun t => bt (len t) S G) (t - 1) := by
            cases t with
            | zero =>
              show (0, bt (len 0) S G) = if bt (len 0) S G < bt (len 0) S G then _ else (0, bt (len 0) S G)
              rw [if_neg (by omega)]
            | succ t => rfl
          rw [hnx]
          by_cases hc : bt (len t) S G < (pk (fun t => bt (len t) S G) (t - 1)).2
          · rw [if_pos hc]
            simp (disch := omega) only [nlit, nrm, if_neg]
          · rw [if_neg hc]
            simp (disch := omega) only [nlit, nrm, if_neg, if_pos, ↓reduceIte]) (by
          show fRounds_chooseTables_L30 (nI K) (nI (nTb S)) (nI S.length) sv M (nI (r + 1)) (nI G) _ _ (nI (nTb S)) = _
          unfold fRounds_chooseTables_L30
          simp (disch := omega) only [nrm, if_pos, ↓reduceIte]
          rfl) 1 hT1
        exact this
      have htk : tk len S G < 3 := by
        have := (pk_le2 (fun t => bt (len t) S G) (nTb S - 1)).1
        unfold tk
        omega
      refine Or.inl ⟨(nI (G + 1), va_up M' (r + 1) (upd (M' (r + 1)) G (nI (tk len S G)))), ?_, _, rfl, fun g hg => ?_, fun q hq => ?_⟩
      · show fRounds_chooseTables_L2 (nI K) (nI (nGr S)) (nI (nTb S)) (nI S.length) sv M (nI (r + 1)) (nI G) _ = _
        unfold fRounds_chooseTables_L2
        rw [er, bd1_of (x := fRounds_lengthsBehind (nI r) 0) (fRounds_lengthsBehind_ok (t := 0) (by omega) (by omega)), bd1_of (hb 0 (by omega)), bd1_of k2]
        simp (disch := omega) only [nlit, nrm, gdI_n, if_neg]
      · rw [va_up_self]
        by_cases e : g = G
        · rw [e, upd_s]
        · rw [upd_n e, h1 g (by omega)]
      · rw [va_up_ne _ _ hq, h2 q hq]
    · obtain ⟨M', rfl, h1, h2⟩ := hs1
      refine ⟨M', ?_, h1, h2⟩
      show fRounds_chooseTables_L2 (nI K) (nI (nGr S)) (nI (nTb S)) (nI S.length) sv M (nI (r + 1)) (nI (nGr S)) _ = _
      unfold fRounds_chooseTables_L2
      simp (disch := omega) only [nrm, if_pos, ↓reduceIte]
  refine ⟨r1, ?_, h1, h2⟩
  unfold fRounds_chooseTables
  rw [bd1_of k1]
end RC
