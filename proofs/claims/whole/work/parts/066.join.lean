/-! ===== the class: the lightest of two queues; all joins ===== -/
theorem Huff.bound {K : Nat} {w A B : Nat → Nat} {n : Nat} (h : Huff K w A B n) {x : Nat} (hx : x < K + n) : w x ≤ sumN w K := by
  by_cases e : x < K
  · exact sumN_term e
  · obtain ⟨g, h1, h2, h3⟩ := h.sum w (fun j hj => (h j hj).2.2) (x - K + 1) (by omega)
    rw [← h3]
    have hr : Rt A B K (x - K + 1) x := ⟨by omega, fun i hi => by
      have := h.lt (j := i) (by omega)
      omega⟩
    rw [← h1 x hr]
    exact sumN_term (by omega)
/-- what is left: the kinds from a on in their order, the joined ones from b on -/
def Lf (so : Nat → Nat) (K a b j x : Nat) : Prop := (∃ i, a ≤ i ∧ i < K ∧ x = so i) ∨ (∃ i, b ≤ i ∧ i < j ∧ x = K + i)
section JO
variable {K : Nat} {W so : Nat → Nat} {wv sv : Nat → Int32} {w : Nat → Nat}
theorem fJoiner_takeLightest_ok (hK : K ≤ 258) (hso : ∀ i, i < K → sv i = nI (so i) ∧ so i < K ∧ rk W K (so i) = i) {j : Nat} (hj : j ≤ 258) (hw : ∀ x, x < K + j → wv x = nI (w x) ∧ w x ≤ 5000) (hWw : ∀ k, k < K → w k = W k) (hup : ∀ i i', i ≤ i' → i' < j → w (K + i) ≤ w (K + i')) {a b : Nat} (ha : a ≤ K) (hb : b ≤ j) (hne : a < K ∨ b < j) : ∃ x a' b', fJoiner_takeLightest (nI K) (nI a) (nI (K + b)) (nI (K + j)) wv sv = some (nI x, nI a', nI (K + b')) ∧ IsL w (Lf so K a b j) x ∧ a' + b' = a + b + 1 ∧ a' ≤ K ∧ b' ≤ j ∧ (∀ y, Lf so K a' b' j y ↔ Lf so K a b j y ∧ y ≠ x) := by
  have hsi : ∀ i i', i < K → i' < K → so i = so i' → i = i' := fun i i' h1 h2 e => by
    have := (hso i h1).2.2
    have := (hso i' h2).2.2
    rw [e] at *
    omega
  have takeK : a < K → (b < j → w (so a) ≤ w (K + b)) → IsL w (Lf so K a b j) (so a) ∧ ∀ y, Lf so K (a + 1) b j y ↔ Lf so K a b j y ∧ y ≠ so a := by
    intro h1 h2
    refine ⟨⟨Or.inl ⟨a, Nat.le_refl _, h1, rfl⟩, fun y hy => ?_⟩, fun y => ⟨fun hy => ?_, fun hy => ?_⟩⟩
    · rcases hy with ⟨i, i1, i2, rfl⟩ | ⟨i, i1, i2, rfl⟩
      · by_cases e : i = a
        · rw [e]; exact Or.inr ⟨rfl, Nat.le_refl _⟩
        · have h3 := rk_lex (W := W) (K := K) (a := so a) (b := so i) (hso i i2).2.1 (by rw [(hso a h1).2.2, (hso i i2).2.2]; omega)
          rw [hWw _ (hso a h1).2.1, hWw _ (hso i i2).2.1]
          unfold ltW at h3
          omega
      · have h3 := h2 (by omega)
        have h4 := hup b i i1 i2
        have h5 := (hso a h1).2.1
        omega
    · rcases hy with ⟨i, i1, i2, rfl⟩ | ⟨i, i1, i2, rfl⟩
      · exact ⟨Or.inl ⟨i, by omega, i2, rfl⟩, fun q => by have := hsi i a i2 h1 q; omega⟩
      · exact ⟨Or.inr ⟨i, i1, i2, rfl⟩, fun q => by have := (hso a h1).2.1; omega⟩
    · obtain ⟨hy, hny⟩ := hy
      rcases hy with ⟨i, i1, i2, rfl⟩ | ⟨i, i1, i2, rfl⟩
      · refine Or.inl ⟨i, ?_, i2, rfl⟩
        have : i ≠ a := fun q => hny (by rw [q])
        omega
      · exact Or.inr ⟨i, i1, i2, rfl⟩
  have takeJ : b < j → (a < K → w (K + b) < w (so a)) → IsL w (Lf so K a b j) (K + b) ∧ ∀ y, Lf so K a (b + 1) j y ↔ Lf so K a b j y ∧ y ≠ K + b := by
    intro h1 h2
    refine ⟨⟨Or.inr ⟨b, Nat.le_refl _, h1, rfl⟩, fun y hy => ?_⟩, fun y => ⟨fun hy => ?_, fun hy => ?_⟩⟩
    · rcases hy with ⟨i, i1, i2, rfl⟩ | ⟨i, i1, i2, rfl⟩
      · have h3 := h2 (by omega)
        by_cases e : i = a
        · rw [e]; exact Or.inl h3
        · have h4 := rk_lex (W := W) (K := K) (a := so a) (b := so i) (hso i i2).2.1 (by rw [(hso a (by omega)).2.2, (hso i i2).2.2]; omega)
          have h5 := hWw _ (hso a (by omega)).2.1
          have h6 := hWw _ (hso i i2).2.1
          unfold ltW at h4
          omega
      · have h4 := hup b i i1 i2
        omega
    · rcases hy with ⟨i, i1, i2, rfl⟩ | ⟨i, i1, i2, rfl⟩
      · exact ⟨Or.inl ⟨i, i1, i2, rfl⟩, fun q => by have := (hso i i2).2.1; omega⟩
      · exact ⟨Or.inr ⟨i, by omega, i2, rfl⟩, fun q => by omega⟩
    · obtain ⟨hy, hny⟩ := hy
      rcases hy with ⟨i, i1, i2, rfl⟩ | ⟨i, i1, i2, rfl⟩
      · exact Or.inl ⟨i, i1, i2, rfl⟩
      · refine Or.inr ⟨i, ?_, i2, rfl⟩
        omega
  unfold fJoiner_takeLightest fJoiner_takeLightest_J16 fJoiner_takeLightest_J33 fJoiner_takeLightest_J68 fJoiner_takeLightest_J90
  by_cases c1 : a < K
  · have hsa := hso a c1
    by_cases c2 : b < j
    · have hwa := hw (so a) (by omega)
      have hwb := hw (K + b) (by omega)
      by_cases c3 : w (K + b) < w (so a)
      · obtain ⟨t1, t2⟩ := takeJ c2 (fun _ => c3)
        refine ⟨K + b, a, b + 1, ?_, t1, by omega, by omega, by omega, t2⟩
        simp (disch := omega) only [nlit, nrm, gdI_n, if_neg, if_pos, ↓reduceIte, hsa.1, hwa.1, hwb.1]
        congr 1
      · obtain ⟨t1, t2⟩ := takeK c1 (fun _ => by omega)
        refine ⟨so a, a + 1, b, ?_, t1, by omega, by omega, by omega, t2⟩
        simp (disch := omega) only [nlit, nrm, gdI_n, if_neg, if_pos, ↓reduceIte, hsa.1, hwa.1, hwb.1, Nat.add_sub_cancel]
    · obtain ⟨t1, t2⟩ := takeK c1 (fun q => absurd q c2)
      refine ⟨so a, a + 1, b, ?_, t1, by omega, by omega, by omega, t2⟩
      simp (disch := omega) only [nlit, nrm, gdI_n, if_neg, if_pos, ↓reduceIte, hsa.1, Nat.add_sub_cancel]
  · have c2 : b < j := by omega
    obtain ⟨t1, t2⟩ := takeJ c2 (fun q => absurd q c1)
    refine ⟨K + b, a, b + 1, ?_, t1, by omega, by omega, by omega, t2⟩
    simp (disch := omega) only [nlit, nrm, gdI_n, if_neg, if_pos, ↓reduceIte]
    congr 1
end JO
section JP
variable {K : Nat} {w A B : Nat → Nat} {n : Nat}
theorem Rt.ext {A' B' : Nat → Nat} {j x : Nat} (e : ∀ i, i < j → A' i = A i ∧ B' i = B i) : Rt A' B' K j x ↔ Rt A B K j x := ⟨fun q => ⟨q.1, fun i hi => by rw [← (e i hi).1, ← (e i hi).2]; exact q.2 i hi⟩, fun q => ⟨q.1, fun i hi => by rw [(e i hi).1, (e i hi).2]; exact q.2 i hi⟩⟩
theorem Huff.ext {w' A' B' : Nat → Nat} (h : Huff K w A B n) (e : ∀ i, i < n → A' i = A i ∧ B' i = B i) (hw : ∀ x, x < K + n → w' x = w x) : Huff K w' A' B' n := by
  intro j hj
  obtain ⟨a1, a2, a3⟩ := h j hj
  have hR : ∀ x, Rt A' B' K j x ↔ Rt A B K j x := fun x => Rt.ext (fun i hi => e i (by omega))
  have ej := e j hj
  refine ⟨⟨by rw [ej.1]; exact (hR _).mpr a1.1, fun y hy => ?_⟩, ⟨⟨by rw [ej.2]; exact (hR _).mpr a2.1.1, by rw [ej.1, ej.2]; exact a2.1.2⟩, fun y hy => ?_⟩, ?_⟩
  · have h1 := ((hR y).mp hy)
    rw [ej.1, hw _ (by have := a1.1.1; omega), hw y (by have := h1.1; omega)]
    exact a1.2 y h1
  · have h1 := ((hR y).mp hy.1)
    rw [ej.2, hw _ (by have := a2.1.1.1; omega), hw y (by have := h1.1; omega)]
    exact a2.2 y ⟨h1, by rw [← ej.1]; exact hy.2⟩
  · rw [ej.1, ej.2, hw _ (by omega), hw _ (by have := a1.1.1; omega), hw _ (by have := a2.1.1.1; omega)]
    exact a3
/-- one join more -/
theorem Huff.snoc (h : Huff K w A B n) {x1 x2 : Nat} (h1 : IsL w (Rt A B K n) x1) (h2 : IsL w (fun y => Rt A B K n y ∧ y ≠ x1) x2) : Huff K (va_up w (K + n) (w x1 + w x2)) (va_up A n x1) (va_up B n x2) (n + 1) ∧ ∀ y, Rt (va_up A n x1) (va_up B n x2) K (n + 1) y ↔ (Rt A B K n y ∧ y ≠ x1 ∧ y ≠ x2) ∨ y = K + n := by
  have eA : ∀ i, i < n → va_up A n x1 i = A i ∧ va_up B n x2 i = B i := fun i hi => ⟨va_up_ne _ _ (by omega), va_up_ne _ _ (by omega)⟩
  have hw : ∀ x, x < K + n → va_up w (K + n) (w x1 + w x2) x = w x := fun x hx => va_up_ne _ _ (by omega)
  have hR : ∀ x, Rt (va_up A n x1) (va_up B n x2) K n x ↔ Rt A B K n x := fun x => Rt.ext eA
  have h0 := h.ext eA hw
  refine ⟨fun j hj => ?_, fun y => ⟨fun hy => ?_, fun hy => ?_⟩⟩
  · by_cases e : j = n
    · subst e
      refine ⟨⟨by rw [va_up_self]; exact (hR _).mpr h1.1, fun y hy => ?_⟩, ⟨⟨by rw [va_up_self]; exact (hR _).mpr h2.1.1, by rw [va_up_self, va_up_self]; exact h2.1.2⟩, fun y hy => ?_⟩, ?_⟩
      · have q := (hR y).mp hy
        rw [va_up_self, hw _ h1.1.1, hw _ q.1]
        exact h1.2 y q
      · have q := (hR y).mp hy.1
        rw [va_up_self, hw _ h2.1.1.1, hw _ q.1]
        exact h2.2 y ⟨q, by have := hy.2; rw [va_up_self] at this; exact this⟩
      · rw [va_up_self, va_up_self, va_up_self, hw _ h1.1.1, hw _ h2.1.1.1]
    · exact h0 j (by omega)
  · by_cases e : y = K + n
    · exact Or.inr e
    · refine Or.inl ⟨⟨by have := hy.1; omega, fun i hi => ?_⟩, ?_, ?_⟩
      · have := hy.2 i (by omega)
        rw [(eA i hi).1, (eA i hi).2] at this
        exact this
      · have := (hy.2 n (by omega)).1
        rw [va_up_self] at this
        exact fun q => this q.symm
      · have := (hy.2 n (by omega)).2
        rw [va_up_self] at this
        exact fun q => this q.symm
  · rcases hy with ⟨hy, hy1, hy2⟩ | hy
    · refine ⟨by have := hy.1; omega, fun i hi => ?_⟩
      by_cases e : i = n
      · subst e
        rw [va_up_self, va_up_self]
        exact ⟨fun q => hy1 q.symm, fun q => hy2 q.symm⟩
      · rw [(eA i (by omega)).1, (eA i (by omega)).2]
        exact hy.2 i (by omega)
    · subst hy
      refine ⟨by omega, fun i hi => ?_⟩
      by_cases e : i = n
      · subst e
        rw [va_up_self, va_up_self]
        have := h1.1.1
        have := h2.1.1.1
        omega
      · rw [(eA i (by omega)).1, (eA i (by omega)).2]
        have := h.lt (j := i) (by omega)
        omega
theorem Huff.once (h : Huff K w A B n) {i j x : Nat} (hi : i < n) (hj : j < n) (h1 : A i = x ∨ B i = x) (h2 : A j = x ∨ B j = x) : i = j := by
  rcases Nat.lt_trichotomy i j with c | c | c
  · exfalso
    have ha := (h j hj).1.1.2 i c
    have hb := (h j hj).2.1.1.1.2 i c
    rcases h1 with rfl | rfl <;> rcases h2 with e | e
    · exact ha.1 e.symm
    · exact hb.1 e.symm
    · exact ha.2 e.symm
    · exact hb.2 e.symm
  · exact c
  · exfalso
    have ha := (h i hi).1.1.2 j c
    have hb := (h i hi).2.1.1.1.2 j c
    rcases h1 with rfl | rfl <;> rcases h2 with e | e
    · exact ha.1 e
    · exact ha.2 e
    · exact hb.1 e
    · exact hb.2 e
theorem Huff.dep (hK : 0 < K) (h : Huff K w A B (K - 1)) : ∃ d, Dep K A B d := by
  have key : ∀ m, m ≤ K + (K - 1) - 1 → ∃ d : Nat → Nat, d (K + (K - 1) - 1) = 0 ∧ ∀ j, j < K - 1 → (K + (K - 1) - 1 - m ≤ A j → d (A j) = d (K + j) + 1) ∧ (K + (K - 1) - 1 - m ≤ B j → d (B j) = d (K + j) + 1) := by
    intro m
    induction m with
    | zero =>
      intro _
      refine ⟨fun _ => 0, rfl, fun j hj => ?_⟩
      have := h.lt hj
      exact ⟨fun q => by omega, fun q => by omega⟩
    | succ m ih =>
      intro hm
      obtain ⟨d, h1, h2⟩ := ih (by omega)
      obtain ⟨j, hj, hxj, hab⟩ := h.taken hK (x := K + (K - 1) - 1 - (m + 1)) (by omega)
      refine ⟨va_up d (K + (K - 1) - 1 - (m + 1)) (d (K + j) + 1), by rw [va_up_ne _ _ (by omega)]; exact h1, fun i hi => ?_⟩
      have hlt := h.lt hi
      refine ⟨fun q => ?_, fun q => ?_⟩
      · by_cases e : A i = K + (K - 1) - 1 - (m + 1)
        · have hij := h.once hi hj (Or.inl e) hab
          rw [e, va_up_self, va_up_ne _ _ (by omega), hij]
        · rw [va_up_ne _ _ e, va_up_ne _ _ (by omega)]
          exact (h2 i hi).1 (by omega)
      · by_cases e : B i = K + (K - 1) - 1 - (m + 1)
        · have hij := h.once hi hj (Or.inr e) hab
          rw [e, va_up_self, va_up_ne _ _ (by omega), hij]
        · rw [va_up_ne _ _ e, va_up_ne _ _ (by omega)]
          exact (h2 i hi).2 (by omega)
  obtain ⟨d, h1, h2⟩ := key (K + (K - 1) - 1) (Nat.le_refl _)
  exact ⟨d, h1, fun j hj => ⟨(h2 j hj).1 (by omega), (h2 j hj).2 (by omega)⟩⟩
theorem Dep.le19 (hK : 0 < K) (h : Huff K w A B (K - 1)) {d : Nat → Nat} (hd : Dep K A B d) (hw : ∀ k, k < K → 1 ≤ w k) (ht : sumN w K < 1024) : ∀ x, x ≤ K + (K - 1) - 1 → d x ≤ 19 := by
  have htot : w (K + (K - 1) - 1) < 1024 := by
    rw [← h.total hK w (fun j hj => (h j hj).2.2)]
    exact ht
  have hpos : ∀ j, j ≤ K - 1 → ∀ x, x < K + j → 1 ≤ w x := by
    intro j
    induction j with
    | zero => intro _ x hx; exact hw x hx
    | succ j ih =>
      intro hj x hx
      by_cases e : x = K + j
      · rw [e, (h j (by omega)).2.2]
        have := ih (by omega) (A j) (h.lt (by omega)).1
        omega
      · exact ih (by omega) x (by omega)
  intro x hx
  have h1 := Dep.heavy hK h hd (K + (K - 1) - 1 - x) x (by omega)
  have h2 := hpos (K - 1) (Nat.le_refl _) x (by omega)
  have h3 : 2 ^ (d x / 2) < 2 ^ 10 := by
    have : 2 ^ (d x / 2) * 1 ≤ 2 ^ (d x / 2) * w x := Nat.mul_le_mul_left _ h2
    omega
  have h4 := (Nat.pow_lt_pow_iff_right (by omega : 1 < 2)).mp h3
  omega
end JP
theorem fJoiner_joinAll_ok {K : Nat} {W so : Nat → Nat} {wv sv : Nat → Int32} (hK2 : 1 ≤ K) (hK : K ≤ 258) (hso : ∀ i, i < K → sv i = nI (so i) ∧ so i < K ∧ rk W K (so i) = i) (hw : ∀ k, k < K → wv k = nI (W k)) (ht : sumN W K < 1024) (pv : Nat → Int32) : ∃ q1 q2 wv' pv' w A B, fJoiner_joinAll (nI K) wv pv sv = some (q1, q2, nI (K + (K - 1)), wv', pv') ∧ (∀ k, k < K → w k = W k) ∧ Huff K w A B (K - 1) ∧ ∀ i, i < K - 1 → pv' (A i) = nI (K + i) ∧ pv' (B i) = nI (K + i) := by
  have hso' : ∀ k, k < K → ∃ i, i < K ∧ so i = k := fun k hk => by
    have h1 := hso (rk W K k) (rk_lt hk)
    exact ⟨rk W K k, rk_lt hk, rk_inj h1.2.1 hk h1.2.2⟩
  obtain ⟨r, k1, h1⟩ : ∃ r, itrO (un6 (fJoiner_joinAll_L23 (nI K) sv)) ((1 : Int32), (0 : Int32), nI K, nI K, wv, pv) = some r ∧ ∃ q1 q2 wv' pv' w A B, r = (q1, q2, nI (K + (K - 1)), wv', pv') ∧ (∀ k, k < K → w k = W k) ∧ Huff K w A B (K - 1) ∧ ∀ i, i < K - 1 → pv' (A i) = nI (K + i) ∧ pv' (B i) = nI (K + i) := by
    refine lp_up (step := un6 (fJoiner_joinAll_L23 (nI K) sv)) (fun j s => ∃ a b wv' pv' w A B, s = (nI (j + 1), nI a, nI (K + b), nI (K + j), wv', pv') ∧ a + b = 2 * j ∧ a ≤ K ∧ b ≤ j ∧ (∀ x, x < K + j → wv' x = nI (w x)) ∧ (∀ k, k < K → w k = W k) ∧ Huff K w A B j ∧ (∀ y, Lf so K a b j y ↔ Rt A B K j y) ∧ ∀ i, i < j → pv' (A i) = nI (K + i) ∧ pv' (B i) = nI (K + i)) _ (K - 1) (fun j s hj hs => ?_) (fun s hs => ?_) 0 _ (by omega) ⟨0, 0, wv, pv, W, fun _ => 0, fun _ => 0, rfl, rfl, by omega, by omega, hw, fun _ _ => rfl, fun j hj => by omega, fun y => ⟨fun q => ?_, fun q => ?_⟩, fun i hi => by omega⟩
    · obtain ⟨a, b, wv', pv', w, A, B, rfl, hab, ha, hb, hwv, hwW, hH, hLR, hpv⟩ := hs
      have htw : sumN w K < 1024 := by rw [sumN_congr hwW]; exact ht
      have hwv2 : ∀ x, x < K + j → wv' x = nI (w x) ∧ w x ≤ 5000 := fun x hx => ⟨hwv x hx, by have := hH.bound hx; omega⟩
      have hup : ∀ i i', i ≤ i' → i' < j → w (K + i) ≤ w (K + i') := by
        intro i i'
        induction i' with
        | zero => intro q _; rw [show i = 0 by omega]; exact Nat.le_refl _
        | succ i' ih =>
          intro q1 q2
          by_cases e : i = i' + 1
          · rw [e]; exact Nat.le_refl _
          · have := ih (by omega) (by omega)
            have := hH.up (j := i') (by omega)
            omega
      obtain ⟨x1, a1, b1, t1, t2, t3, t4, t5, t6⟩ := fJoiner_takeLightest_ok hK hso (j := j) (by omega) hwv2 hwW hup ha hb (by omega)
      obtain ⟨x2, a2, b2, u1, u2, u3, u4, u5, u6⟩ := fJoiner_takeLightest_ok hK hso (j := j) (by omega) hwv2 hwW hup t4 t5 (by omega)
      have l1 : IsL w (Rt A B K j) x1 := ⟨(hLR _).mp t2.1, fun y hy => t2.2 y ((hLR _).mpr hy)⟩
      have l2 : IsL w (fun y => Rt A B K j y ∧ y ≠ x1) x2 := by
        refine ⟨⟨(hLR _).mp ((t6 x2).mp u2.1).1, ((t6 x2).mp u2.1).2⟩, fun y hy => u2.2 y ((t6 y).mpr ⟨(hLR y).mpr hy.1, hy.2⟩)⟩
      obtain ⟨s1, s2⟩ := hH.snoc l1 l2
      have hx1 := l1.1.1
      have hx2 := l2.1.1.1
      have hb1 := hH.bound hx1
      have hb2 := hH.bound hx2
      refine Or.inl ⟨(nI (j + 1 + 1), nI a2, nI (K + b2), nI (K + (j + 1)), upd wv' (K + j) (nI (w x1 + w x2)), upd (upd pv' x1 (nI (K + j))) x2 (nI (K + j))), ?_, a2, b2, _, _, va_up w (K + j) (w x1 + w x2), va_up A j x1, va_up B j x2, rfl, by omega, by omega, by omega, fun x hx => ?_, fun k hk => ?_, s1, fun y => ?_, fun i hi => ?_⟩
      · show fJoiner_joinAll_L23 (nI K) sv (nI (j + 1)) _ _ _ _ _ = _
        unfold fJoiner_joinAll_L23
        have hw1 := hwv x1 hx1
        have hw2 := hwv x2 hx2
        rw [bd3_of t1, bd3_of u1]
        simp (disch := omega) only [nlit, nrm, gdI_n, if_neg, hw1, hw2]
        rfl
      · by_cases e : x = K + j
        · rw [e, upd_s, va_up_self]
        · rw [upd_n e, va_up_ne _ _ e, hwv x (by omega)]
      · rw [va_up_ne _ _ (by omega), hwW k hk]
      · rw [s2 y]
        have e1 : Lf so K a2 b2 (j + 1) y ↔ Lf so K a2 b2 j y ∨ y = K + j := by
          constructor
          · intro q
            rcases q with ⟨i, i1, i2, i3⟩ | ⟨i, i1, i2, i3⟩
            · exact Or.inl (Or.inl ⟨i, i1, i2, i3⟩)
            · by_cases e : i = j
              · right; omega
              · exact Or.inl (Or.inr ⟨i, i1, by omega, i3⟩)
          · intro q
            rcases q with (⟨i, i1, i2, i3⟩ | ⟨i, i1, i2, i3⟩) | q
            · exact Or.inl ⟨i, i1, i2, i3⟩
            · exact Or.inr ⟨i, i1, by omega, i3⟩
            · exact Or.inr ⟨j, by omega, by omega, q⟩
        rw [e1, u6 y, t6 y, hLR y]
        constructor
        · rintro (⟨⟨q1, q2⟩, q3⟩ | q)
          · exact Or.inl ⟨q1, q2, q3⟩
          · exact Or.inr q
        · rintro (⟨q1, q2, q3⟩ | q)
          · exact Or.inl ⟨⟨q1, q2⟩, q3⟩
          · exact Or.inr q
      · by_cases e : i = j
        · subst e
          rw [va_up_self, va_up_self]
          refine ⟨?_, upd_s⟩
          by_cases e2 : x1 = x2
          · rw [e2, upd_s]
          · rw [upd_n e2, upd_s]
        · rw [va_up_ne _ _ e, va_up_ne _ _ e]
          have q1 := l1.1.2 i (by omega)
          have q2 := l2.1.1.2 i (by omega)
          have q3 := hpv i (by omega)
          rw [upd_n q2.1, upd_n q1.1, upd_n q2.2, upd_n q1.2]
          exact q3
    · obtain ⟨a, b, wv', pv', w, A, B, rfl, hab, ha, hb, hwv, hwW, hH, hLR, hpv⟩ := hs
      refine ⟨(nI a, nI (K + b), nI (K + (K - 1)), wv', pv'), ?_, _, _, wv', pv', w, A, B, rfl, hwW, hH, hpv⟩
      show fJoiner_joinAll_L23 (nI K) sv (nI (K - 1 + 1)) _ _ _ _ _ = _
      unfold fJoiner_joinAll_L23
      simp (disch := omega) only [nrm, if_pos, ↓reduceIte]
    · rcases q with ⟨i, i1, i2, rfl⟩ | ⟨i, i1, i2, i3⟩
      · exact ⟨(hso i i2).2.1, fun i hi => by omega⟩
      · omega
    · obtain ⟨i, i1, i2⟩ := hso' y q.1
      exact Or.inl ⟨i, by omega, i1, i2.symm⟩
  obtain ⟨q1, q2, wv', pv', w, A, B, rfl, h2, h3, h4⟩ := h1
  refine ⟨q1, q2, wv', pv', w, A, B, ?_, h2, h3, h4⟩
  unfold fJoiner_joinAll
  rw [bd5_of k1]
theorem fJoiner_findDepths_ok {K : Nat} {w A B d : Nat → Nat} {pv : Nat → Int32} (hK2 : 1 ≤ K) (hK : K ≤ 258) (hH : Huff K w A B (K - 1)) (hd : Dep K A B d) (hdl : ∀ x, x ≤ K + (K - 1) - 1 → d x ≤ 19) (hpv : ∀ i, i < K - 1 → pv (A i) = nI (K + i) ∧ pv (B i) = nI (K + i)) (dv : Nat → Int32) : ∃ dv', fJoiner_findDepths (nI (K + (K - 1))) pv dv = some dv' ∧ ∀ x, x < K + (K - 1) → dv' x = nI (d x) := by
  have e1 : nI (K + (K - 1)) - 1 = nI (K + (K - 1) - 1) := pk_sub (a := K + (K - 1)) (b := 1) (by omega)
  obtain ⟨r, k1, h1⟩ : ∃ r, itrO (un2 (fJoiner_findDepths_L27 pv)) (nI (K + (K - 1)) - 2, upd dv (K + (K - 1) - 1) (nI 0)) = some r ∧ ∀ x, x < K + (K - 1) → r x = nI (d x) := by
    have hst : ∀ (m : Nat) (dv1 : Nat → Int32), m ≤ K + (K - 1) - 1 → (∀ x, m ≤ x → x < K + (K - 1) → dv1 x = nI (d x)) → ∃ r, itrO (un2 (fJoiner_findDepths_L27 pv)) (nI m - 1, dv1) = some r ∧ ∀ x, x < K + (K - 1) → r x = nI (d x) := by
      intro m
      induction m with
      | zero =>
        intro dv1 hm h
        refine ⟨dv1, itrO_1 ?_, fun x hx => h x (by omega) hx⟩
        show fJoiner_findDepths_L27 pv (nI 0 - 1) dv1 = _
        unfold fJoiner_findDepths_L27
        rw [if_pos (by decide)]
      | succ m ih =>
        intro dv1 hm h
        obtain ⟨j, hj, hxj, hab⟩ := hH.taken hK2 (x := m) (by omega)
        have hp : pv m = nI (K + j) := by
          rcases hab with q | q
          · rw [← q]; exact (hpv j hj).1
          · rw [← q]; exact (hpv j hj).2
        have hdm : d m = d (K + j) + 1 := by
          rcases hab with q | q
          · rw [← q]; exact (hd.2 j hj).1
          · rw [← q]; exact (hd.2 j hj).2
        have hdk := h (K + j) (by omega) (by omega)
        have hdl2 := hdl (K + j) (by omega)
        obtain ⟨r, k1, h2⟩ := ih (upd dv1 m (nI (d m))) (by omega) (fun x hx1 hx2 => by
          by_cases e : x = m
          · rw [e, upd_s]
          · rw [upd_n e, h x (by omega) hx2])
        refine ⟨r, ?_, h2⟩
        rw [← k1]
        have e2 : nI (m + 1) - 1 = nI m := pk_sub (a := m + 1) (b := 1) (by omega)
        rw [e2]
        refine itrO_s ?_
        show fJoiner_findDepths_L27 pv (nI m) dv1 = _
        unfold fJoiner_findDepths_L27
        have e3 : nI m + (-1) = nI m - 1 := by
          show nI m + -nI 1 = nI m - nI 1
          rw [Int32.sub_eq_add_neg]
        rw [e3, hdm]
        simp (disch := omega) only [nrm, gdI_n, hp, hdk]
        rw [if_neg (nI_pos (by omega))]
        show some (Sum.inl (_, upd dv1 m (nI (d (K + j)) + nI 1))) = _
        rw [nI_add]
    have h0 : nI (K + (K - 1)) - 2 = nI (K + (K - 1) - 1) - 1 := by
      rw [← e1]
      generalize nI (K + (K - 1)) = z
      show z - 2 = z - 1 - 1
      rw [Int32.sub_eq_add_neg, Int32.sub_eq_add_neg, Int32.sub_eq_add_neg, Int32.add_assoc]
      rfl
    rw [h0]
    refine hst (K + (K - 1) - 1) _ (by omega) (fun x hx1 hx2 => ?_)
    have hx : x = K + (K - 1) - 1 := by omega
    rw [hx, upd_s, hd.1]
  refine ⟨r, ?_, h1⟩
  unfold fJoiner_findDepths
  rw [e1]
  simp (disch := omega) only [nrm, gdI_n]
  rw [if_neg (nI_ne0 (by omega) (by omega)), bd1_of (x := itrO (un2 (fJoiner_findDepths_L27 pv)) (nI (K + (K - 1)) - 2, upd dv (K + (K - 1) - 1) 0)) k1]
theorem fJoiner_makeLengths_ok {K : Nat} (hK2 : 2 ≤ K) (hK : K ≤ 258) {kw : Nat → Int32} {W : Nat → Nat} (hw : ∀ k, k < K → kw k = nI (W k) ∧ 1 ≤ W k ∧ W k ≤ 301) (ht : sumN W K < 1024) (wv pv dv so st : Nat → Int32) (M : Nat → Nat → Int32) (j : Nat) : ∃ q1 q2 q3 wv' pv' dv' so' st' M', fJoiner_makeLengths wv pv dv so st kw M (nI K) j = some (nI K, q1, q2, q3, wv', pv', dv', so', st', M') ∧ (∀ k, k < K → M' j k = nI (hlen W K k)) ∧ IsLen W K (hlen W K) ∧ ∀ q, q ≠ j → M' q = M q := by
  have hKm : (if (258 : Int32) < nI K then (258 : Int32) else nI K) = nI K := by
    rw [if_neg]
    simp (disch := omega) only [nlit, nrm]
    omega
  obtain ⟨w1, k1, h1⟩ : ∃ r, itrO (un2 (fJoiner_makeLengths_L14 kw (nI K))) ((0 : Int32), wv) = some r ∧ ∀ k, k < K → r k = nI (W k) := by
    refine lp_up (step := un2 (fJoiner_makeLengths_L14 kw (nI K))) (fun i s => ∃ w', s = (nI i, w') ∧ ∀ k, k < i → w' k = nI (W k)) _ K (fun i s hi hs => ?_) (fun s hs => ?_) 0 _ (by omega) ⟨wv, rfl, fun k hk => by omega⟩
    · obtain ⟨w1, rfl, h1⟩ := hs
      obtain ⟨hk1, hk2, hk3⟩ := hw i hi
      refine Or.inl ⟨(nI (i + 1), upd w1 i (nI (W i))), ?_, _, rfl, fun k hk => ?_⟩
      · show fJoiner_makeLengths_L14 kw (nI K) (nI i) _ = _
        unfold fJoiner_makeLengths_L14
        rw [hKm]
        simp (disch := omega) only [nlit, nrm, gdI_n, if_neg, if_pos, ↓reduceIte, hk1]
      · by_cases e : k = i
        · rw [e, upd_s]
        · rw [upd_n e, h1 k (by omega)]
    · obtain ⟨w1, rfl, h1⟩ := hs
      refine ⟨w1, ?_, h1⟩
      show fJoiner_makeLengths_L14 kw (nI K) (nI K) _ = _
      unfold fJoiner_makeLengths_L14
      rw [hKm]
      simp (disch := omega) only [nrm, if_pos, ↓reduceIte]
  obtain ⟨so', st', k2, h2⟩ := fJoiner_sortKinds_ok hK (W := W) (fun k hk => ⟨h1 k hk, (hw k hk).2.2⟩) so st
  obtain ⟨sn, h3⟩ := sorted_ok h2
  obtain ⟨q1, q2, wv', pv', w, A, B, k3, h4, h5, h6⟩ := fJoiner_joinAll_ok (by omega) hK h3 h1 ht pv
  obtain ⟨d, h7⟩ := h5.dep (by omega)
  have htw : sumN w K < 1024 := by rw [sumN_congr h4]; exact ht
  have h8 := Dep.le19 (by omega) h5 h7 (fun k hk => by rw [h4 k hk]; exact (hw k hk).2.1) htw
  obtain ⟨dv', k4, h9⟩ := fJoiner_findDepths_ok (by omega) hK h5 h7 h8 h6 dv
  have hlen1 : IsLen W K d := ⟨w, A, B, d, h4, h5, h7, fun _ _ => rfl⟩
  have hlen2 : ∀ k, k < K → hlen W K k = d k := fun k hk => hlen_eq hlen1 hk
  obtain ⟨M', k5, h10, h11⟩ : ∃ r, itrO (un2 (fJoiner_makeLengths_L65 (nI K) j dv')) ((0 : Int32), M) = some r ∧ (∀ k, k < K → r j k = nI (hlen W K k)) ∧ ∀ q, q ≠ j → r q = M q := by
    refine lp_up (step := un2 (fJoiner_makeLengths_L65 (nI K) j dv')) (fun i s => ∃ M', s = (nI i, M') ∧ (∀ k, k < i → M' j k = nI (hlen W K k)) ∧ ∀ q, q ≠ j → M' q = M q) _ K (fun i s hi hs => ?_) (fun s hs => ?_) 0 _ (by omega) ⟨M, rfl, fun k hk => by omega, fun _ _ => rfl⟩
    · obtain ⟨M', rfl, m1, m2⟩ := hs
      have hdi := h9 i (by omega)
      rw [← hlen2 i hi] at hdi
      refine Or.inl ⟨(nI (i + 1), va_up M' j (upd (M' j) i (nI (hlen W K i)))), ?_, _, rfl, fun k hk => ?_, fun q hq => by rw [va_up_ne _ _ hq, m2 q hq]⟩
      · show fJoiner_makeLengths_L65 (nI K) j dv' (nI i) _ = _
        unfold fJoiner_makeLengths_L65
        rw [hKm]
        simp (disch := omega) only [nlit, nrm, gdI_n, if_neg, hdi]
      · rw [va_up_self]
        by_cases e : k = i
        · rw [e, upd_s]
        · rw [upd_n e, m1 k (by omega)]
    · obtain ⟨M', rfl, m1, m2⟩ := hs
      refine ⟨M', ?_, m1, m2⟩
      show fJoiner_makeLengths_L65 (nI K) j dv' (nI K) _ = _
      unfold fJoiner_makeLengths_L65
      rw [hKm]
      simp (disch := omega) only [nrm, if_pos, ↓reduceIte]
  refine ⟨q1, q2, nI (K + (K - 1)), wv', pv', dv', so', st', M', ?_, h10, ?_, h11⟩
  · unfold fJoiner_makeLengths
    rw [hKm, bd1_of k1, bd2_of k2, bd5_of k3, bd1_of k4, bd1_of k5]
  · exact ⟨w, A, B, d, h4, h5, h7, hlen2⟩
