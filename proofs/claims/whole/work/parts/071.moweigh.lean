/-! ===== the reference: joining ===== -/
theorem nI_s (i : Nat) : nI i + 1 = nI (i + 1) := nI_add i 1
theorem m1_nI {n : Nat} (h : n < 2 ^ 31) : ¬ nI n = (-1 : Int32) := by rw [nI_m1 h]; exact id
section MB
variable {K : Nat} {w A B : Nat → Nat} {n : Nat}
theorem Huff.cnt (h : Huff K w A B n) : ∀ j, j ≤ n → ∃ g : Nat → Nat, (∀ x, Rt A B K j x → g x = 1) ∧ (∀ x, x < K + j → ¬ Rt A B K j x → g x = 0) ∧ sumN g (K + j) + j = K := by
  intro j
  induction j with
  | zero => intro _; exact ⟨fun _ => 1, fun _ _ => rfl, fun x hx hn => absurd ⟨hx, fun i hi => by omega⟩ hn, by rw [Nat.add_zero, Nat.add_zero, sumN_const]; omega⟩
  | succ j ih =>
    intro hj
    obtain ⟨g, h1, h2, h3⟩ := ih (by omega)
    obtain ⟨ha, hb, hab⟩ := h.lt (j := j) (by omega)
    obtain ⟨j1, j2, j3⟩ := h j (by omega)
    refine ⟨fun x => if x = K + j then 1 else if x = A j then 0 else if x = B j then 0 else g x, fun x hx => ?_, fun x hx hn => ?_, ?_⟩
    · show (if x = K + j then 1 else if x = A j then 0 else if x = B j then 0 else g x) = 1
      by_cases e : x = K + j
      · rw [if_pos e]
      · have hx1 := hx.1
        have := hx.2 j (by omega)
        rw [if_neg e, if_neg (fun q => this.1 q.symm), if_neg (fun q => this.2 q.symm)]
        exact h1 x (hx.mono (by omega))
    · show (if x = K + j then 1 else if x = A j then 0 else if x = B j then 0 else g x) = 0
      by_cases e : x = K + j
      · exfalso
        apply hn
        refine ⟨by omega, fun i hi => ?_⟩
        by_cases e2 : i = j
        · subst e2; omega
        · have := h.lt (j := i) (by omega)
          omega
      · rw [if_neg e]
        by_cases e1 : x = A j
        · rw [if_pos e1]
        · rw [if_neg e1]
          by_cases e2 : x = B j
          · rw [if_pos e2]
          · rw [if_neg e2]
            refine h2 x (by omega) (fun hr => hn ⟨by omega, fun i hi => ?_⟩)
            by_cases e3 : i = j
            · subst e3; exact ⟨fun q => e1 q.symm, fun q => e2 q.symm⟩
            · exact hr.2 i (by omega)
    · rw [show K + (j + 1) = K + j + 1 from rfl, sumN_succ, if_pos rfl]
      have s1 : sumN (fun x => if x = K + j then 1 else if x = A j then 0 else if x = B j then 0 else g x) (K + j) = sumN (fun i => if i = A j then 0 else if i = B j then 0 else g i) (K + j) := sumN_congr (fun i hi => by
        show (if i = K + j then 1 else if i = A j then 0 else if i = B j then 0 else g i) = _
        rw [if_neg (by omega)])
      have s2 := sumN_out (f := fun x => if x = B j then 0 else g x) ha
      have s3 := sumN_out (f := g) hb
      have s4 : (if A j = B j then 0 else g (A j)) = 1 := by
        rw [if_neg hab]
        exact h1 _ j1.1
      have s5 := h1 _ j2.1.1
      rw [s1]
      rw [s4] at s2
      omega
/-- as long as joins are left there are two to join -/
theorem Huff.two (h : Huff K w A B n) (hn : n + 1 < K) (x : Nat) : ∃ y, Rt A B K n y ∧ y ≠ x := by
  rcases Classical.em (∃ y, Rt A B K n y ∧ y ≠ x) with q | q
  · exact q
  · exfalso
    obtain ⟨g, h1, h2, h3⟩ := h.cnt n (Nat.le_refl _)
    have h4 : sumN g (K + n) ≤ 1 := by
      by_cases hx : x < K + n
      · have s1 := sumN_out (f := g) hx
        have s2 : sumN (fun i => if i = x then 0 else g i) (K + n) = 0 := by
          rw [sumN_congr (g := fun _ => 0) (fun i hi => ?_), sumN_0]
          show (if i = x then 0 else g i) = 0
          by_cases e : i = x
          · rw [if_pos e]
          · rw [if_neg e]
            exact h2 i hi (fun r => q ⟨i, r, e⟩)
        have s3 : g x ≤ 1 := by
          rcases Classical.em (Rt A B K n x) with r | r
          · rw [h1 x r]; exact Nat.le_refl _
          · rw [h2 x hx r]; omega
        omega
      · rw [sumN_congr (g := fun _ => 0) (fun i hi => ?_), sumN_0]
        · omega
        · exact h2 i hi (fun r => q ⟨i, r, by omega⟩)
    omega
theorem fMo_light_ok {wv ov : Nat → Int32} {R : Nat → Prop} {all : Nat} (hall : all ≤ 516) (hw : ∀ k, k < all → wv k = nI (w k) ∧ w k < 5000) (hR1 : ∀ k, R k → k < all ∧ ov k = -1) (hR2 : ∀ k, k < all → ¬ R k → ¬ ov k = -1) (hy : ∃ y, R y) : ∃ x, fMo_light wv ov (nI all) = some (nI x) ∧ IsL w R x := by
  obtain ⟨r, k1, x, e, hx⟩ : ∃ r, itrO (un2 (fMo_light_L4 wv ov (nI all))) ((-1 : Int32), (0 : Int32)) = some r ∧ ∃ x, r = nI x ∧ IsL w R x := by
    refine lp_up (step := un2 (fMo_light_L4 wv ov (nI all))) (fun i s => i ≤ all ∧ ((s = ((-1 : Int32), nI i) ∧ ∀ k, R k → ¬ k < i) ∨ ∃ x, s = (nI x, nI i) ∧ x < i ∧ IsL w (fun y => R y ∧ y < i) x)) _ all (fun i s hi hs => ?_) (fun s hs => ?_) 0 _ (by omega) ⟨by omega, Or.inl ⟨rfl, fun k _ => by omega⟩⟩
    · obtain ⟨-, hs⟩ := hs
      obtain ⟨hw1, hw2⟩ := hw i hi
      refine Or.inl ?_
      rcases hs with ⟨rfl, h1⟩ | ⟨x, rfl, hxi, h1⟩
      · rcases Classical.em (R i) with hRi | hRi
        · refine ⟨(nI i, nI (i + 1)), ?_, by omega, Or.inr ⟨i, rfl, by omega, ⟨hRi, by omega⟩, fun y hy => ?_⟩⟩
          · show fMo_light_L4 wv ov (nI all) (-1) (nI i) = _
            have ho := (hR1 i hRi).2
            unfold fMo_light_L4
            rw [nI_clamp (by omega : i < 2 ^ 31), ho, if_neg (by simp (disch := omega) only [nrm]; omega), if_pos rfl, if_pos rfl, gdI_n (by omega) (by omega)]
            rw [nI_s]
          · have := h1 y hy.1
            have : y = i := by have := hy.2; omega
            rw [this]
            exact Or.inr ⟨rfl, Nat.le_refl _⟩
        · refine ⟨((-1 : Int32), nI (i + 1)), ?_, by omega, Or.inl ⟨rfl, fun k hk => ?_⟩⟩
          · show fMo_light_L4 wv ov (nI all) (-1) (nI i) = _
            have ho := hR2 i hi hRi
            unfold fMo_light_L4
            rw [nI_clamp (by omega : i < 2 ^ 31), if_neg (by simp (disch := omega) only [nrm]; omega), if_neg ho, gdI_n (by omega) (by omega)]
            rw [nI_s]
          · have := h1 k hk
            by_cases e : k = i
            · rw [e] at hk; exact absurd hk hRi
            · omega
      · obtain ⟨hx1, hx2⟩ := hw x (by omega)
        have hxm : ¬ nI x = (-1 : Int32) := m1_nI (by omega)
        rcases Classical.em (R i) with hRi | hRi
        · have ho := (hR1 i hRi).2
          by_cases c : w x ≤ w i
          · refine ⟨(nI x, nI (i + 1)), ?_, by omega, Or.inr ⟨x, rfl, by omega, ⟨h1.1.1, by omega⟩, fun y hy => ?_⟩⟩
            · show fMo_light_L4 wv ov (nI all) (nI x) (nI i) = _
              unfold fMo_light_L4
              rw [nI_clamp (by omega : i < 2 ^ 31), nI_clamp (by omega : x < 2 ^ 31), ho, if_neg (by simp (disch := omega) only [nrm]; omega), if_pos rfl, if_neg hxm, gdI_n (by omega) (by omega), gdI_n (by omega) (by omega), gdI_n (by omega) (by omega), hx1, hw1, if_pos (by simp (disch := omega) only [nrm]; exact c)]
              rw [nI_s]
            · by_cases e : y = i
              · rw [e]
                by_cases e2 : w x = w i
                · exact Or.inr ⟨e2, by omega⟩
                · exact Or.inl (by omega)
              · exact h1.2 y ⟨hy.1, by have := hy.2; omega⟩
          · refine ⟨(nI i, nI (i + 1)), ?_, by omega, Or.inr ⟨i, rfl, by omega, ⟨hRi, by omega⟩, fun y hy => ?_⟩⟩
            · show fMo_light_L4 wv ov (nI all) (nI x) (nI i) = _
              unfold fMo_light_L4
              rw [nI_clamp (by omega : i < 2 ^ 31), nI_clamp (by omega : x < 2 ^ 31), ho, if_neg (by simp (disch := omega) only [nrm]; omega), if_pos rfl, if_neg hxm, gdI_n (by omega) (by omega), gdI_n (by omega) (by omega), gdI_n (by omega) (by omega), hx1, hw1, if_neg (by simp (disch := omega) only [nrm]; exact c)]
              rw [nI_s]
            · by_cases e : y = i
              · rw [e]; exact Or.inr ⟨rfl, Nat.le_refl _⟩
              · rcases h1.2 y ⟨hy.1, by have := hy.2; omega⟩ with q | q
                · exact Or.inl (by omega)
                · exact Or.inl (by omega)
        · have ho := hR2 i hi hRi
          refine ⟨(nI x, nI (i + 1)), ?_, by omega, Or.inr ⟨x, rfl, by omega, ⟨h1.1.1, by omega⟩, fun y hy => ?_⟩⟩
          · show fMo_light_L4 wv ov (nI all) (nI x) (nI i) = _
            unfold fMo_light_L4
            rw [nI_clamp (by omega : i < 2 ^ 31), if_neg (by simp (disch := omega) only [nrm]; omega), if_neg ho, gdI_n (by omega) (by omega)]
            rw [nI_s]
          · have e : y ≠ i := fun q => hRi (by rw [← q]; exact hy.1)
            exact h1.2 y ⟨hy.1, by have := hy.2; omega⟩
    · obtain ⟨-, hs⟩ := hs
      rcases hs with ⟨rfl, h1⟩ | ⟨x, rfl, hxi, h1⟩
      · obtain ⟨y, hy⟩ := hy
        exact absurd (hR1 y hy).1 (h1 y hy)
      · refine ⟨nI x, ?_, x, rfl, h1.1.1, fun y hy => h1.2 y ⟨hy, (hR1 y hy).1⟩⟩
        show fMo_light_L4 wv ov (nI all) (nI x) (nI all) = _
        unfold fMo_light_L4
        simp (disch := omega) only [nrm, if_pos, ↓reduceIte]
  subst e
  refine ⟨x, ?_, hx⟩
  unfold fMo_light
  rw [bd1_of k1]
end MB
section MC
variable {S : List Nat} {K : Nat} {sv : Nat → Int32}
theorem fMo_weigh_L57_ok (hs : rowIs sv (nI S.length) S) (hS : ∀ x ∈ S, x < K) (hl : S.length ≤ 301) (hK : K ≤ 258) {tv : Nat → Int32} {T : Nat → Nat} {r t g : Nat} (hr : r < 5) (ht : t < 3) (hg : g < nGr S) (hT : tv (31 * r + g) = nI (T g) ∧ T g < 3) {w : Nat → Int32} {v : Nat → Nat} (hw : ∀ k, k < K → w k = nI (v k) ∧ v k ≤ 1000) : ∃ w', itrO (un2 (fMo_weigh_L57 (nI S.length) sv tv (nI r) (nI t) (nI g))) (nI (10 * g), w) = some w' ∧ ∀ k, k < K → w' k = nI (v k + if T g = t then oc S (10 * g) (gE S g - 10 * g) k else 0) := by
  have hgE := gE_lt hg
  have hG := nGr_le hl
  obtain ⟨hT1, hT2⟩ := hT
  by_cases e : T g = t
  · simp only [if_pos e]
    refine lp_up (step := un2 (fMo_weigh_L57 (nI S.length) sv tv (nI r) (nI t) (nI g))) (fun i s => 10 * g ≤ i ∧ ∃ w', s = (nI i, w') ∧ ∀ k, k < K → w' k = nI (v k + oc S (10 * g) (i - 10 * g) k)) _ (gE S g) (fun i s hi hs1 => ?_) (fun s hs1 => ?_) (10 * g) _ (by omega) ⟨Nat.le_refl _, w, rfl, fun k hk => by rw [Nat.sub_self, oc_0, Nat.add_zero]; exact (hw k hk).1⟩
    · obtain ⟨hai, w1, rfl, h1⟩ := hs1
      have hx := hS _ (getD_mem (B := S) (k := i) (by omega))
      have hgi := hs.2 i (by omega)
      have hoc := oc_le S (10 * g) (i - 10 * g) (S.getD i 0)
      have hv1 := (hw _ hx).2
      have hw1 := h1 _ hx
      refine Or.inl ⟨(nI (i + 1), upd w1 (S.getD i 0) (nI (v (S.getD i 0) + oc S (10 * g) (i - 10 * g) (S.getD i 0) + 1))), ?_, by omega, _, rfl, fun k hk => ?_⟩
      · show fMo_weigh_L57 (nI S.length) sv tv (nI r) (nI t) (nI g) (nI i) w1 = _
        unfold fMo_weigh_L57
        rw [bd1_of (fMo_groupEnd_ok hl (by omega))]
        simp (disch := omega) only [nlit, nrm, gdI_n, if_neg, if_pos, ↓reduceIte, hgi, hw1, hT1, e]
      · rw [show i + 1 - 10 * g = (i - 10 * g) + 1 by omega, oc_s, show 10 * g + (i - 10 * g) = i by omega]
        by_cases ek : S.getD i 0 = k
        · rw [← ek, upd_s, if_pos rfl]
          exact nI_c (by omega)
        · rw [upd_n (fun q => ek q.symm), if_neg ek, h1 k hk]
          exact nI_c (by omega)
    · obtain ⟨hai, w1, rfl, h1⟩ := hs1
      refine ⟨w1, ?_, h1⟩
      show fMo_weigh_L57 (nI S.length) sv tv (nI r) (nI t) (nI g) (nI (gE S g)) w1 = _
      unfold fMo_weigh_L57
      rw [bd1_of (fMo_groupEnd_ok hl (by omega))]
      simp (disch := omega) only [nrm, if_pos, ↓reduceIte]
  · simp only [if_neg e, Nat.add_zero]
    refine ⟨w, itrO_1 ?_, fun k hk => (hw k hk).1⟩
    show fMo_weigh_L57 (nI S.length) sv tv (nI r) (nI t) (nI g) (nI (10 * g)) w = _
    unfold fMo_weigh_L57
    rw [bd1_of (fMo_groupEnd_ok hl (by omega))]
    simp (disch := omega) only [nlit, nrm, gdI_n, if_neg, ↓reduceIte, hT1]
theorem fMo_weigh_ok (hs : rowIs sv (nI S.length) S) (hS : ∀ x ∈ S, x < K) (hl : S.length ≤ 301) (hK2 : 2 ≤ K) (hK : K ≤ 258) {tv : Nat → Int32} {T : Nat → Nat} {r t : Nat} (hr : r < 5) (ht : t < 3) (hT : ∀ g, g < nGr S → tv (31 * r + g) = nI (T g) ∧ T g < 3) (lv wv ov : Nat → Int32) : ∃ lv' wv' ov', fMo_weigh (nI (K - 2)) (nI S.length) (nI (nGr S)) sv lv tv wv ov (nI r) (nI t) = some (lv', wv', ov') ∧ (∀ k, k < K → lv' (258 * (3 * r + t) + k) = nI (hlen (wt T S t) K k)) ∧ ∀ q, (q < 258 * (3 * r + t) ∨ 258 * (3 * r + t) + K ≤ q) → lv' q = lv q := by
  have hG := nGr_le hl
  have eK : nI (K - 2) + (2 : Int32) = nI K := by simp only [nlit, nrm]; exact nI_c (by omega)
  obtain ⟨wt1, wt2, wt3⟩ := wt_ok hS hl hK T t
  have hwq : ∀ G, G ≤ nGr S → ∀ k, k < K → sumN (fun g => if T g = t then oc S (10 * g) (gE S g - 10 * g) k else 0) G ≤ 310 := by
    intro G hG2 k hk
    have h1 : sumN (fun g => if T g = t then oc S (10 * g) (gE S g - 10 * g) k else 0) G ≤ sumN (fun _ => 10) G := sumN_le (fun g hg => by
      have := gE_lt (S := S) (g := g) (by omega)
      have := oc_le S (10 * g) (gE S g - 10 * g) k
      split <;> omega)
    rw [sumN_const] at h1
    omega
  obtain ⟨r0, k0, w0, o0, e0, h0, h0'⟩ : ∃ r0, itrO (un3 (fMo_weigh_L10 (nI (K - 2)))) ((0 : Int32), wv, ov) = some r0 ∧ ∃ w0 o0, r0 = (w0, o0) ∧ (∀ k, k < K → w0 k = nI 0) ∧ ∀ k, k < K → o0 k = (-1 : Int32) := by
    refine lp_up (step := un3 (fMo_weigh_L10 (nI (K - 2)))) (fun i s => i ≤ K ∧ ∃ w0 o0, s = (nI i, w0, o0) ∧ (∀ k, k < i → w0 k = nI 0) ∧ ∀ k, k < i → o0 k = (-1 : Int32)) _ K (fun i s hi hs1 => ?_) (fun s hs1 => ?_) 0 _ (by omega) ⟨by omega, wv, ov, rfl, fun k q => by omega, fun k q => by omega⟩
    · obtain ⟨-, w0, o0, rfl, h1, h2⟩ := hs1
      refine Or.inl ⟨(nI (i + 1), upd w0 i (nI 0), upd o0 i (-1 : Int32)), ?_, by omega, _, _, rfl, fun k hk => ?_, fun k hk => ?_⟩
      · show fMo_weigh_L10 (nI (K - 2)) (nI i) w0 o0 = _
        unfold fMo_weigh_L10
        rw [eK]
        simp (disch := omega) only [nlit, nrm, gdI_n, if_neg]
      · by_cases e : k = i
        · rw [e, upd_s]
        · rw [upd_n e, h1 k (by omega)]
      · by_cases e : k = i
        · rw [e, upd_s]
        · rw [upd_n e, h2 k (by omega)]
    · obtain ⟨-, w0, o0, rfl, h1, h2⟩ := hs1
      refine ⟨(w0, o0), ?_, w0, o0, rfl, h1, h2⟩
      show fMo_weigh_L10 (nI (K - 2)) (nI K) w0 o0 = _
      unfold fMo_weigh_L10
      rw [eK]
      simp (disch := omega) only [nrm, if_pos, ↓reduceIte]
  subst e0
  obtain ⟨w1, k1, h1⟩ : ∃ r1, itrO (un2 (fMo_weigh_L41 (nI S.length) (nI (nGr S)) sv tv (nI r) (nI t))) ((0 : Int32), w0) = some r1 ∧ ∀ k, k < K → r1 k = nI (wq T S t k) := by
    refine lp_up (step := un2 (fMo_weigh_L41 (nI S.length) (nI (nGr S)) sv tv (nI r) (nI t))) (fun G s => G ≤ nGr S ∧ ∃ w', s = (nI G, w') ∧ ∀ k, k < K → w' k = nI (sumN (fun g => if T g = t then oc S (10 * g) (gE S g - 10 * g) k else 0) G)) _ (nGr S) (fun G s hG1 hs1 => ?_) (fun s hs1 => ?_) 0 _ (by omega) ⟨by omega, w0, rfl, h0⟩
    · obtain ⟨-, w', rfl, h1⟩ := hs1
      obtain ⟨w2, k2, h2⟩ := fMo_weigh_L57_ok hs hS hl hK hr ht hG1 (hT G hG1) (fun k hk => ⟨h1 k hk, by have := hwq G (by omega) k hk; omega⟩)
      refine Or.inl ⟨(nI (G + 1), w2), ?_, by omega, w2, rfl, fun k hk => ?_⟩
      · show fMo_weigh_L41 (nI S.length) (nI (nGr S)) sv tv (nI r) (nI t) (nI G) w' = _
        unfold fMo_weigh_L41
        rw [show (10 : Int32) * nI G = nI (10 * G) by simp only [nlit, nrm], bd1_of k2]
        simp (disch := omega) only [nlit, nrm, if_neg]
      · rw [h2 k hk, sumN_succ]
    · obtain ⟨-, w', rfl, h1⟩ := hs1
      refine ⟨w', ?_, h1⟩
      show fMo_weigh_L41 (nI S.length) (nI (nGr S)) sv tv (nI r) (nI t) (nI (nGr S)) w' = _
      unfold fMo_weigh_L41
      simp (disch := omega) only [nrm, if_pos, ↓reduceIte]
  obtain ⟨w2, k2, h2⟩ : ∃ r1, itrO (un2 (fMo_weigh_L115 (nI (K - 2)))) ((0 : Int32), w1) = some r1 ∧ ∀ k, k < K → r1 k = nI (wt T S t k) := by
    refine lp_up (step := un2 (fMo_weigh_L115 (nI (K - 2)))) (fun i s => i ≤ K ∧ ∃ w', s = (nI i, w') ∧ (∀ k, k < i → w' k = nI (wt T S t k)) ∧ ∀ k, i ≤ k → k < K → w' k = nI (wq T S t k)) _ K (fun i s hi hs1 => ?_) (fun s hs1 => ?_) 0 _ (by omega) ⟨by omega, w1, rfl, fun k hk => by omega, fun k _ hk => h1 k hk⟩
    · obtain ⟨-, w', rfl, h3, h4⟩ := hs1
      have h5 := h4 i (Nat.le_refl _) hi
      have h7 : wq T S t i ≤ 310 := hwq (nGr S) (Nat.le_refl _) i hi
      refine Or.inl ⟨(nI (i + 1), upd w' i (nI (wt T S t i))), ?_, by omega, _, rfl, fun k hk => ?_, fun k hk1 hk2 => ?_⟩
      · show fMo_weigh_L115 (nI (K - 2)) (nI i) w' = _
        unfold fMo_weigh_L115 wt
        rw [eK]
        by_cases c : wq T S t i = 0
        · rw [if_pos c]
          simp (disch := omega) only [nlit, nrm, gdI_n, if_neg, if_pos, ↓reduceIte, h5]
        · rw [if_neg c]
          simp (disch := omega) only [nlit, nrm, gdI_n, if_neg, ↓reduceIte, h5]
      · by_cases e : k = i
        · rw [e, upd_s]
        · rw [upd_n e, h3 k (by omega)]
      · rw [upd_n (by omega), h4 k (by omega) hk2]
    · obtain ⟨-, w', rfl, h3, h4⟩ := hs1
      refine ⟨w', ?_, h3⟩
      show fMo_weigh_L115 (nI (K - 2)) (nI K) w' = _
      unfold fMo_weigh_L115
      rw [eK]
      simp (disch := omega) only [nrm, if_pos, ↓reduceIte]
  obtain ⟨r3, k3, w3, o3, w, A, B, e3, hwW, hH, hA, hroot⟩ : ∃ r3, itrO (un4 (fMo_weigh_L158 (nI (K - 2)))) (nI K, (1 : Int32), w2, o0) = some r3 ∧ ∃ w3 o3 w A B, r3 = (w3, o3) ∧ (∀ k, k < K → w k = wt T S t k) ∧ Huff K w A B (K - 1) ∧ (∀ i, i < K - 1 → o3 (A i) = nI (K + i) ∧ o3 (B i) = nI (K + i)) ∧ o3 (K + (K - 1) - 1) = (-1 : Int32) := by
    refine lp_up (step := un4 (fMo_weigh_L158 (nI (K - 2)))) (fun j s => j ≤ K - 1 ∧ ∃ w3 o3 w A B, s = (nI (K + j), nI (j + 1), w3, o3) ∧ (∀ k, k < K → w k = wt T S t k) ∧ Huff K w A B j ∧ (∀ x, x < K + j → w3 x = nI (w x)) ∧ (∀ i, i < j → o3 (A i) = nI (K + i) ∧ o3 (B i) = nI (K + i)) ∧ ∀ x, Rt A B K j x → o3 x = (-1 : Int32)) _ (K - 1) (fun j s hj hs1 => ?_) (fun s hs1 => ?_) 0 _ (by omega) ⟨by omega, w2, o0, wt T S t, fun _ => 0, fun _ => 0, rfl, fun _ _ => rfl, fun j hj => by omega, h2, fun i hi => by omega, fun x hx => h0' x hx.1⟩
    · obtain ⟨-, w3, o3, w, A, B, rfl, g1, g2, g3, g4, g5⟩ := hs1
      have hbd : ∀ x, x < K + j → w x < 5000 := fun x hx => by
        have := g2.bound hx
        rw [sumN_congr g1] at this
        omega
      have hnr : ∀ k, k < K + j → ¬ Rt A B K j k → ∃ i, i < j ∧ o3 k = nI (K + i) := fun k hk hn => by
        rcases Classical.em (∃ i, i < j ∧ (A i = k ∨ B i = k)) with ⟨i, hi, q⟩ | q
        · exact ⟨i, hi, by rcases q with q | q <;> rw [← q]; exact (g4 i hi).1; exact (g4 i hi).2⟩
        · exact absurd ⟨hk, fun i hi => ⟨fun e => q ⟨i, hi, Or.inl e⟩, fun e => q ⟨i, hi, Or.inr e⟩⟩⟩ hn
      obtain ⟨a, ka, ha⟩ := fMo_light_ok (w := w) (wv := w3) (ov := o3) (R := Rt A B K j) (all := K + j) (by omega) (fun k hk => ⟨g3 k hk, hbd k hk⟩) (fun k hk => ⟨hk.1, g5 k hk⟩) (fun k hk hn => by
        obtain ⟨i, hi, e⟩ := hnr k hk hn
        rw [e]
        exact m1_nI (by omega)) (by
        obtain ⟨y, hy, -⟩ := g2.two (by omega) (K + j)
        exact ⟨y, hy⟩)
      obtain ⟨b, kb, hb⟩ := fMo_light_ok (w := w) (wv := w3) (ov := upd o3 a (nI (K + j))) (R := fun y => Rt A B K j y ∧ y ≠ a) (all := K + j) (by omega) (fun k hk => ⟨g3 k hk, hbd k hk⟩) (fun k hk => ⟨hk.1.1, by rw [upd_n hk.2]; exact g5 k hk.1⟩) (fun k hk hn => by
        by_cases e : k = a
        · rw [e, upd_s]
          exact m1_nI (by omega)
        · rw [upd_n e]
          obtain ⟨i, hi, e2⟩ := hnr k hk (fun q => hn ⟨q, e⟩)
          rw [e2]
          exact m1_nI (by omega)) (g2.two (by omega) a)
      have ha1 := ha.1.1
      have hb1 := hb.1.1.1
      have hab : b ≠ a := hb.1.2
      obtain ⟨s1, s2⟩ := g2.snoc ha hb
      have hba := hbd a ha1
      have hbb := hbd b hb1
      refine Or.inl ⟨(nI (K + (j + 1)), nI (j + 1 + 1), upd w3 (K + j) (nI (w a + w b)), upd (upd (upd o3 a (nI (K + j))) b (nI (K + j))) (K + j) (-1 : Int32)), ?_, by omega, _, _, va_up w (K + j) (w a + w b), va_up A j a, va_up B j b, rfl, fun k hk => ?_, s1, fun x hx => ?_, fun i hi => ?_, fun x hx => ?_⟩
      · show fMo_weigh_L158 (nI (K - 2)) (nI (K + j)) (nI (j + 1)) w3 o3 = _
        unfold fMo_weigh_L158
        rw [eK, bd1_of ka, nI_clamp (by omega : a < 2 ^ 31), bd1_of kb]
        have ga := g3 a ha1
        have gb := g3 b hb1
        rw [nI_clamp (by omega : b < 2 ^ 31), nI_clamp (by omega : K + j < 2 ^ 31), ga, gb]
        rw [if_neg (by simp (disch := omega) only [nrm]; omega), gdI_n (by omega) (by omega), gdI_n (by omega) (by omega), gdI_n (by omega) (by omega), gdI_n (by omega) (by omega), gdI_n (by omega) (by omega), gdI_n (by omega) (by omega)]
        simp only [show (1 : Int32) = nI 1 from rfl, nI_add]
        rfl
      · rw [va_up_ne _ _ (by omega), g1 k hk]
      · by_cases e : x = K + j
        · rw [e, upd_s, va_up_self]
        · rw [upd_n e, va_up_ne _ _ e, g3 x (by omega)]
      · by_cases e : i = j
        · rw [e, va_up_self, va_up_self]
          refine ⟨?_, ?_⟩
          · rw [upd_n (by omega), upd_n (fun q => hab q.symm), upd_s]
          · rw [upd_n (by omega), upd_s]
        · rw [va_up_ne _ _ e, va_up_ne _ _ e]
          have hlt := g2.lt (j := i) (by omega)
          have hra := ha.1.2 i (by omega)
          have hrb := hb.1.1.2 i (by omega)
          have hg := g4 i (by omega)
          refine ⟨?_, ?_⟩
          · rw [upd_n (by omega), upd_n hrb.1, upd_n hra.1]
            exact hg.1
          · rw [upd_n (by omega), upd_n hrb.2, upd_n hra.2]
            exact hg.2
      · rcases (s2 x).mp hx with ⟨q1, q2, q3⟩ | q
        · rw [upd_n (by have := q1.1; omega), upd_n q3, upd_n q2]
          exact g5 x q1
        · rw [q, upd_s]
    · obtain ⟨-, w3, o3, w, A, B, rfl, g1, g2, g3, g4, g5⟩ := hs1
      refine ⟨(w3, o3), ?_, w3, o3, w, A, B, rfl, g1, g2, g4, g5 _ ⟨by omega, fun i hi => by have := g2.lt hi; omega⟩⟩
      show fMo_weigh_L158 (nI (K - 2)) (nI (K + (K - 1))) (nI (K - 1 + 1)) w3 o3 = _
      unfold fMo_weigh_L158
      rw [eK]
      simp (disch := omega) only [nrm, if_pos, ↓reduceIte]
  subst e3
  obtain ⟨d, hd⟩ := hH.dep (by omega)
  have hlen : IsLen (wt T S t) K d := ⟨w, A, B, d, hwW, hH, hd, fun _ _ => rfl⟩
  have hd19 := Dep.le19 (by omega) hH hd (fun k hk => by rw [hwW k hk]; exact wt1 k) (by rw [sumN_congr hwW]; exact wt3)
  have hchain : ∀ m x, x + m = K + (K - 1) - 1 → ∀ c, c ≤ 1000 → itrO (un2 (fMo_weigh_L262 o3)) (nI c, o3 x) = some (nI (c + d x)) := by
    intro m
    induction m using Nat.strongRecOn with
    | _ m ih =>
      intro x hx c hc
      by_cases e : m = 0
      · rw [show x = K + (K - 1) - 1 by omega, hroot, hd.1]
        refine itrO_1 ?_
        show fMo_weigh_L262 o3 (nI c) (-1) = _
        unfold fMo_weigh_L262
        rw [if_pos rfl]
        rfl
      · obtain ⟨j, hj, hxj, hab⟩ := hH.taken (by omega) (x := x) (by omega)
        have hox : o3 x = nI (K + j) ∧ d x = d (K + j) + 1 := by
          rcases hab with rfl | rfl
          · exact ⟨(hA j hj).1, (hd.2 j hj).1⟩
          · exact ⟨(hA j hj).2, (hd.2 j hj).2⟩
        have h19 := hd19 x (by omega)
        have hrec : itrO (un2 (fMo_weigh_L262 o3)) (nI (c + 1), o3 (K + j)) = some (nI (c + d x)) := by
          by_cases hc2 : c + 1 ≤ 1000
          · have := ih (K + (K - 1) - 1 - (K + j)) (by omega) (K + j) (by omega) (c + 1) hc2
            rw [this, hox.2]
            exact congrArg some (nI_c (by omega))
          · have : c = 1000 := by omega
            subst this
            have h2 : ∀ m2 y, y + m2 = K + (K - 1) - 1 → m2 < m → ∀ c2, itrO (un2 (fMo_weigh_L262 o3)) (nI c2, o3 y) = some (nI (c2 + d y)) := by
              intro m2
              induction m2 using Nat.strongRecOn with
              | _ m2 ih2 =>
                intro y hy hlt c2
                by_cases e : m2 = 0
                · rw [show y = K + (K - 1) - 1 by omega, hroot, hd.1]
                  refine itrO_1 ?_
                  show fMo_weigh_L262 o3 (nI c2) (-1) = _
                  unfold fMo_weigh_L262
                  rw [if_pos rfl]
                  rfl
                · obtain ⟨j, hj, hxj, hab⟩ := hH.taken (by omega) (x := y) (by omega)
                  have hox : o3 y = nI (K + j) ∧ d y = d (K + j) + 1 := by
                    rcases hab with rfl | rfl
                    · exact ⟨(hA j hj).1, (hd.2 j hj).1⟩
                    · exact ⟨(hA j hj).2, (hd.2 j hj).2⟩
                  have := ih2 (K + (K - 1) - 1 - (K + j)) (by omega) (K + j) (by omega) (by omega) (c2 + 1)
                  rw [hox.2, ← Nat.add_assoc, Nat.add_right_comm, ← this, hox.1]
                  refine itrO_s ?_
                  show fMo_weigh_L262 o3 (nI c2) (nI (K + j)) = _
                  unfold fMo_weigh_L262
                  rw [if_neg (m1_nI (by omega)), gdI_n (by omega) (by omega), nI_clamp (by omega : K + j < 2 ^ 31), nI_s]
            have := h2 (K + (K - 1) - 1 - (K + j)) (K + j) (by omega) (by omega) (1000 + 1)
            rw [this, hox.2]
            exact congrArg some (nI_c (by omega))
        rw [← hrec, hox.1]
        refine itrO_s ?_
        show fMo_weigh_L262 o3 (nI c) (nI (K + j)) = _
        unfold fMo_weigh_L262
        rw [if_neg (m1_nI (by omega)), gdI_n (by omega) (by omega), nI_clamp (by omega : K + j < 2 ^ 31), nI_s]
  obtain ⟨l4, k4, h4, h5⟩ : ∃ r4, itrO (un2 (fMo_weigh_L239 (nI (K - 2)) (nI r) (nI t) o3)) ((0 : Int32), lv) = some r4 ∧ (∀ k, k < K → r4 (258 * (3 * r + t) + k) = nI (d k)) ∧ ∀ q, (q < 258 * (3 * r + t) ∨ 258 * (3 * r + t) + K ≤ q) → r4 q = lv q := by
    refine lp_up (step := un2 (fMo_weigh_L239 (nI (K - 2)) (nI r) (nI t) o3)) (fun i s => i ≤ K ∧ ∃ l4, s = (nI i, l4) ∧ (∀ k, k < i → l4 (258 * (3 * r + t) + k) = nI (d k)) ∧ ∀ q, (q < 258 * (3 * r + t) ∨ 258 * (3 * r + t) + K ≤ q) → l4 q = lv q) _ K (fun i s hi hs1 => ?_) (fun s hs1 => ?_) 0 _ (by omega) ⟨by omega, lv, rfl, fun k q => by omega, fun _ _ => rfl⟩
    · obtain ⟨-, l4, rfl, h4, h5⟩ := hs1
      have hc := hchain (K + (K - 1) - 1 - i) i (by omega) 0 (by omega)
      rw [Nat.zero_add, show nI 0 = (0 : Int32) from rfl] at hc
      refine Or.inl ⟨(nI (i + 1), upd l4 (258 * (3 * r + t) + i) (nI (d i))), ?_, by omega, _, rfl, fun k hk => ?_, fun q hq => ?_⟩
      · show fMo_weigh_L239 (nI (K - 2)) (nI r) (nI t) o3 (nI i) l4 = _
        unfold fMo_weigh_L239
        rw [eK, nI_clamp (by omega : i < 2 ^ 31), bd1_of hc]
        simp (disch := omega) only [nlit, nrm, gdI_n, if_neg]
      · by_cases e : k = i
        · rw [e, upd_s]
        · rw [upd_n (by omega), h4 k (by omega)]
      · rw [upd_n (by omega), h5 q hq]
    · obtain ⟨-, l4, rfl, h4, h5⟩ := hs1
      refine ⟨l4, ?_, h4, h5⟩
      show fMo_weigh_L239 (nI (K - 2)) (nI r) (nI t) o3 (nI K) l4 = _
      unfold fMo_weigh_L239
      rw [eK]
      simp (disch := omega) only [nrm, if_pos, ↓reduceIte]
  refine ⟨l4, w3, o3, ?_, fun k hk => by rw [h4 k hk, hlen_eq hlen hk], h5⟩
  unfold fMo_weigh
  rw [bd2_of k0, bd1_of k1, bd1_of k2, eK, bd2_of k3, bd1_of k4]
end MC
