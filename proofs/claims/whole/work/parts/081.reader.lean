/-! ===== the class: the way back ===== -/
theorem bs_l {α β γ : Type} {x : Option (α ⊕ β)} {k : α → Option γ} {j : β → Option γ} {a : α} (h : x = some (.inl a)) : bs x k j = k a := by rw [h]; rfl
theorem bs_r {α β γ : Type} {x : Option (α ⊕ β)} {k : α → Option γ} {j : β → Option γ} {b : β} (h : x = some (.inr b)) : bs x k j = j b := by rw [h]; rfl
def cR (x : (Nat × Nat) ⊕ (Nat × Nat)) (fn fp : Int32) : Int32 × Int32 × Int32 × Int32 := match x with
  | .inl q => (-1, nI q.2, nI q.1, nI q.2)
  | .inr q => (nI q.1, nI q.2, fn, fp)
theorem mtf_0 {α : Type} (l : Nat → α) : mtf l 0 = l := by
  funext i
  unfold mtf
  split
  · rename_i h; rw [h]
  · rw [if_neg (by omega)]
section RD
variable {T : List Nat} {tc : Int32} {tv : Nat → Int32} {fn fp : Int32}
theorem nextBit_y (hr : rowIs tv tc T) (hT : ∀ x ∈ T, x < 2) (hn : T.length ≤ 1500) {p : Nat} (hp : p < T.length) : fReader_nextBit (nI p) fn fp tc tv = some (nI (T.getD p 0), nI (p + 1), fn, fp) := by
  unfold fReader_nextBit
  have := getD_lt2 hT p
  rw [bd1_of (fRow_get_ok hr hn (by decide) hp), if_neg (m1_nI (by omega)), nI_s]
theorem nextBit_n (hr : rowIs tv tc T) (hn : T.length ≤ 1500) {p : Nat} (hp : p = T.length) : fReader_nextBit (nI p) fn fp tc tv = some (-1, nI p, nI 1, nI p) := by
  have e : fRow_get 1500 tc tv (nI p) = some (-1) := by
    unfold fRow_get
    rw [hr.1, if_neg (by simp (disch := omega) only [nlit, nrm]; omega), if_neg (by simp (disch := omega) only [nlit, nrm]; omega)]
  unfold fReader_nextBit
  rw [bd1_of e, if_pos rfl]
  rfl
theorem nextNumber_ok (hr : rowIs tv tc T) (hT : ∀ x ∈ T, x < 2) (hn : T.length ≤ 1500) {p w : Nat} (hp : p ≤ T.length) (hw : w ≤ 16) : fReader_nextNumber (nI p) fn fp tc tv (nI w) = some (cR (rN T w p) fn fp) := by
  have hstep : ∀ i, i < w → p + i < T.length → un5 (fReader_nextNumber_L4 tc tv (nI w)) (nI (hN (fun i => T.getD (p + i) 0) i), nI i, nI (p + i), fn, fp) = some (.inl (nI (hN (fun i => T.getD (p + i) 0) (i + 1)), nI (i + 1), nI (p + (i + 1)), fn, fp)) := fun i hi hpi => by
    show fReader_nextNumber_L4 tc tv (nI w) (nI _) (nI i) (nI (p + i)) fn fp = _
    unfold fReader_nextNumber_L4
    have := getD_lt2 hT (p + i)
    rw [if_neg (by simp (disch := omega) only [nlit, nrm]; omega), bd4_of (nextBit_y hr hT hn hpi), if_neg (m1_nI (by omega)), hN_s, nI_s, show (2 : Int32) = nI 2 from rfl, pk_mul, nI_add, Nat.mul_comm]
    rfl
  unfold rN fReader_nextNumber
  by_cases c : p + w ≤ T.length
  · rw [if_pos c]
    have k1 := lp_c (step := un5 (fReader_nextNumber_L4 tc tv (nI w))) (fun i => (nI (hN (fun i => T.getD (p + i) 0) i), nI i, nI (p + i), fn, fp)) (.inl (nI (hN (fun i => T.getD (p + i) 0) w), nI (p + w), fn, fp)) w (fun i hi => hstep i hi (by omega)) (by
      show fReader_nextNumber_L4 tc tv (nI w) (nI _) (nI w) (nI (p + w)) fn fp = _
      unfold fReader_nextNumber_L4
      rw [if_pos (by simp (disch := omega) only [nlit, nrm]; omega)]) 0 (by omega)
    rw [bs_l (x := itrO (un5 (fReader_nextNumber_L4 tc tv (nI w))) (0, 0, nI p, fn, fp)) k1]
    rfl
  · rw [if_neg c]
    have k1 := lp_c (step := un5 (fReader_nextNumber_L4 tc tv (nI w))) (fun i => (nI (hN (fun i => T.getD (p + i) 0) i), nI i, nI (p + i), fn, fp)) (.inr (-1, nI T.length, nI 1, nI T.length)) (T.length - p) (fun i hi => hstep i (by omega) (by omega)) (by
      show fReader_nextNumber_L4 tc tv (nI w) (nI _) (nI (T.length - p)) (nI (p + (T.length - p))) fn fp = _
      unfold fReader_nextNumber_L4
      rw [if_neg (by simp (disch := omega) only [nlit, nrm]; omega), show p + (T.length - p) = T.length by omega, bd4_of (nextBit_n hr hn rfl), if_pos rfl]) 0 (by omega)
    rw [bs_r (x := itrO (un5 (fReader_nextNumber_L4 tc tv (nI w))) (0, 0, nI p, fn, fp)) k1]
    rfl
theorem bit15 {u i : Nat} (hu : u < 2 ^ 31) (hi : i < 16) : (nI u >>> (((15 : Int32) - nI i) &&& 31)) &&& (1 : Int32) = nI (u / 2 ^ (15 - i) % 2) := by
  rw [show (15 : Int32) = nI 15 from rfl, pk_sub (a := 15) (b := i) (by omega)]
  exact bit_at hu (by omega)
theorem readField_ok (hr : rowIs tv tc T) (hT : ∀ x ∈ T, x < 2) (hn : T.length ≤ 1500) {p k : Nat} (hp : p ≤ T.length) (hk : k < 16) {l : List Nat} {lv : Nat → Int32} (hl : rowIs lv (nI l.length) l) (hll : l.length ≤ 16 * k) : (∀ q, rN T 16 p = .inl q → fReader_readField (nI p) fn fp tc tv (nI l.length) lv (nI (16 * k)) = some (0, nI q.2, nI q.1, nI q.2, nI l.length, lv)) ∧ (∀ q, rN T 16 p = .inr q → (q.1 = 0 → fReader_readField (nI p) fn fp tc tv (nI l.length) lv (nI (16 * k)) = some (0, nI q.2, nI 2, nI q.2, nI l.length, lv)) ∧ (q.1 ≠ 0 → ∃ lv', fReader_readField (nI p) fn fp tc tv (nI l.length) lv (nI (16 * k)) = some (1, nI q.2, fn, fp, nI (l ++ fdL k q.1).length, lv') ∧ rowIs lv' (nI (l ++ fdL k q.1).length) (l ++ fdL k q.1))) := by
  have h0 := nextNumber_ok (fn := fn) (fp := fp) hr hT hn (w := 16) hp (by omega)
  refine ⟨fun q h => ?_, fun q h => ⟨fun e => ?_, fun e => ?_⟩⟩
  · rw [h] at h0
    have h0 : fReader_nextNumber (nI p) fn fp tc tv 16 = some (-1, nI q.2, nI q.1, nI q.2) := h0
    unfold fReader_readField
    rw [bd4_of h0, if_pos rfl]
  · rw [h] at h0
    have h0 : fReader_nextNumber (nI p) fn fp tc tv 16 = some (nI q.1, nI q.2, fn, fp) := h0
    unfold fReader_readField
    rw [bd4_of h0, e, if_neg (by decide), if_pos (show nI 0 = (0 : Int32) from rfl)]
    rfl
  · obtain ⟨-, -, -, hu⟩ := rN_inr hT h
    rw [h] at h0
    have h0 : fReader_nextNumber (nI p) fn fp tc tv 16 = some (nI q.1, nI q.2, fn, fp) := h0
    have hfl : ∀ n, (catN (fun i => if q.1 / 2 ^ (15 - i) % 2 = 1 then [16 * k + i] else []) n).length ≤ n := by
      intro n
      induction n with
      | zero => exact Nat.le_refl _
      | succ n ih =>
        rw [catN_s, List.length_append]
        have : (if q.1 / 2 ^ (15 - n) % 2 = 1 then [16 * k + n] else []).length ≤ 1 := by split <;> simp
        omega
    obtain ⟨r, k1, lv', e1, h1⟩ : ∃ r, itrO (un3 (fReader_readField_L26 (nI (16 * k)) (nI q.1))) ((0 : Int32), nI l.length, lv) = some r ∧ ∃ lv', r = (nI (l ++ fdL k q.1).length, lv') ∧ rowIs lv' (nI (l ++ fdL k q.1).length) (l ++ fdL k q.1) := by
      refine lp_up (step := un3 (fReader_readField_L26 (nI (16 * k)) (nI q.1))) (fun i s => ∃ lv', s = (nI i, nI (l ++ catN (fun i => if q.1 / 2 ^ (15 - i) % 2 = 1 then [16 * k + i] else []) i).length, lv') ∧ rowIs lv' (nI (l ++ catN (fun i => if q.1 / 2 ^ (15 - i) % 2 = 1 then [16 * k + i] else []) i).length) (l ++ catN (fun i => if q.1 / 2 ^ (15 - i) % 2 = 1 then [16 * k + i] else []) i)) _ 16 (fun i s hi hs => ?_) (fun s hs => ?_) 0 _ (by omega) ⟨lv, by rw [show catN (fun i => if q.1 / 2 ^ (15 - i) % 2 = 1 then [16 * k + i] else []) 0 = [] from rfl, List.append_nil]; rfl, by rw [show catN (fun i => if q.1 / 2 ^ (15 - i) % 2 = 1 then [16 * k + i] else []) 0 = [] from rfl, List.append_nil]; exact hl⟩
      · obtain ⟨l1, rfl, h1⟩ := hs
        have hlen := hfl i
        rw [catN_s]
        generalize hX : catN (fun i => if q.1 / 2 ^ (15 - i) % 2 = 1 then [16 * k + i] else []) i = X at h1 hlen ⊢
        refine Or.inl ?_
        by_cases c : q.1 / 2 ^ (15 - i) % 2 = 1
        · rw [if_pos c, ← List.append_assoc]
          have ha := fFront_add_ok h1 (n := 256) (by rw [List.length_append]; omega) (by decide) (nI (16 * k + i))
          refine ⟨(nI (i + 1), nI ((l ++ X).length + 1), upd l1 (l ++ X).length (nI (16 * k + i))), ?_, _, by rw [List.length_append (as := l ++ X)]; rfl, ?_⟩
          · show fReader_readField_L26 (nI (16 * k)) (nI q.1) (nI i) _ l1 = _
            unfold fReader_readField_L26
            rw [bit15 (by omega) hi, c, if_neg (by simp (disch := omega) only [nlit, nrm]; omega), if_pos (show nI 1 = 1 from rfl), nI_add, bd2_of ha, nI_s]
          · have := h1.push (16 * k + i)
            rw [List.length_append (as := l ++ X)]
            exact this
        · rw [if_neg c, List.append_nil]
          refine ⟨(nI (i + 1), nI (l ++ X).length, l1), ?_, l1, rfl, h1⟩
          show fReader_readField_L26 (nI (16 * k)) (nI q.1) (nI i) _ l1 = _
          unfold fReader_readField_L26
          have hm : q.1 / 2 ^ (15 - i) % 2 = 0 := by omega
          rw [bit15 (by omega) hi, hm, if_neg (by simp (disch := omega) only [nlit, nrm]; omega), if_neg (by decide), nI_s]
      · obtain ⟨l1, rfl, h1⟩ := hs
        refine ⟨_, ?_, l1, rfl, h1⟩
        show fReader_readField_L26 (nI (16 * k)) (nI q.1) (nI 16) _ l1 = _
        unfold fReader_readField_L26
        rw [if_pos (by decide)]
        rfl
    subst e1
    refine ⟨lv', ?_, h1⟩
    unfold fReader_readField
    rw [bd4_of h0, if_neg (m1_nI (by omega)), if_neg (nI_zn (by omega) e), bd2_of k1]
theorem readMapL_ok (hr : rowIs tv tc T) (hT : ∀ x ∈ T, x < 2) (hn : T.length ≤ 1500) (kn : Int32) {v : Nat} (hv : v < 65536) : ∀ f k l p lv, k + f = 16 → p ≤ T.length → l.length ≤ 16 * k → rowIs lv (nI l.length) l → (∀ q, mpG T v f k l p = .inl q → ∃ lc' lv', itrO (un6 (fReader_readMap_L33 kn tc tv (nI v))) (nI k, nI p, fn, fp, nI l.length, lv) = some (.inr (0, kn, nI q.2, nI q.1, nI q.2, lc', lv'))) ∧ (∀ q, mpG T v f k l p = .inr q → ∃ lv', itrO (un6 (fReader_readMap_L33 kn tc tv (nI v))) (nI k, nI p, fn, fp, nI l.length, lv) = some (.inl (nI q.2, fn, fp, nI q.1.length, lv')) ∧ rowIs lv' (nI q.1.length) q.1)
  | 0, k, l, p, lv, hf, hp, hl, hrow => ⟨fun q h => (by cases h), fun q h => by
      cases h
      refine ⟨lv, itrO_1 ?_, hrow⟩
      show fReader_readMap_L33 kn tc tv (nI v) (nI k) (nI p) fn fp (nI l.length) lv = _
      unfold fReader_readMap_L33
      rw [if_pos (by simp (disch := omega) only [nlit, nrm]; omega)]⟩
  | f + 1, k, l, p, lv, hf, hp, hl, hrow => by
    unfold mpG
    have e16 : nI k * (16 : Int32) = nI (16 * k) := by simp only [nlit, nrm]; exact nI_c (by omega)
    have hfd := readField_ok (fn := fn) (fp := fp) hr hT hn hp (k := k) (by omega) hrow hl
    by_cases c : v / 2 ^ (15 - k) % 2 = 1
    · rw [if_pos c]
      have h0 : ∀ x, fReader_readField (nI p) fn fp tc tv (nI l.length) lv (nI (16 * k)) = some x → un6 (fReader_readMap_L33 kn tc tv (nI v)) (nI k, nI p, fn, fp, nI l.length, lv) = if x.1 = 0 then some (.inr (.inr (0, kn, x.2))) else some (.inl (nI (k + 1), x.2)) := fun x hx => by
        show fReader_readMap_L33 kn tc tv (nI v) (nI k) (nI p) fn fp (nI l.length) lv = _
        unfold fReader_readMap_L33
        rw [bit15 (by omega) (by omega), c, if_neg (by simp (disch := omega) only [nlit, nrm]; omega), if_pos (show nI 1 = 1 from rfl), e16, bd6_of (a0 := x.1) (a1 := x.2.1) (a2 := x.2.2.1) (a3 := x.2.2.2.1) (a4 := x.2.2.2.2.1) (a5 := x.2.2.2.2.2) hx, nI_s]
      cases h : rN T 16 p with
      | inl q =>
        refine ⟨fun q' h' => ?_, fun q' h' => (by cases h')⟩
        cases h'
        have := h0 _ (hfd.1 q h)
        rw [if_pos rfl] at this
        exact ⟨_, _, itrO_1 this⟩
      | inr u =>
        obtain ⟨h1, h2, h3, h4⟩ := rN_inr hT h
        dsimp only
        by_cases e : u.1 = 0
        · rw [if_pos e]
          refine ⟨fun q' h' => ?_, fun q' h' => (by cases h')⟩
          cases h'
          have := h0 _ ((hfd.2 u h).1 e)
          rw [if_pos rfl] at this
          exact ⟨_, _, itrO_1 this⟩
        · rw [if_neg e]
          obtain ⟨lv', h5, h6⟩ := (hfd.2 u h).2 e
          have := h0 _ h5
          rw [if_neg (show ¬ (1 : Int32) = 0 by decide)] at this
          have hfl := fdL_len k u.1
          have ih := readMapL_ok hr hT hn kn hv f (k + 1) (l ++ fdL k u.1) u.2 lv' (by omega) (by omega) (by rw [List.length_append]; omega) h6
          rw [itrO_s this]
          exact ih
    · rw [if_neg c]
      have hm : v / 2 ^ (15 - k) % 2 = 0 := by omega
      have : un6 (fReader_readMap_L33 kn tc tv (nI v)) (nI k, nI p, fn, fp, nI l.length, lv) = some (.inl (nI (k + 1), nI p, fn, fp, nI l.length, lv)) := by
        show fReader_readMap_L33 kn tc tv (nI v) (nI k) (nI p) fn fp (nI l.length) lv = _
        unfold fReader_readMap_L33
        rw [bit15 (by omega) (by omega), hm, if_neg (by simp (disch := omega) only [nlit, nrm]; omega), if_neg (by decide), nI_s]
      rw [itrO_s this]
      exact readMapL_ok hr hT hn kn hv f (k + 1) l p lv (by omega) hp (by omega) hrow
theorem readMap_ok (hr : rowIs tv tc T) (hT : ∀ x ∈ T, x < 2) (hn : T.length ≤ 1500) (kn : Int32) (lv : Nat → Int32) : (∀ q, r1G T = .inl q → ∃ lc' lv', fReader_readMap kn 0 fn fp tc tv lv = some (0, kn, nI q.2, nI q.1, nI q.2, lc', lv')) ∧ (∀ q, r1G T = .inr q → ∃ lv', fReader_readMap kn 0 fn fp tc tv lv = some (1, nI (q.1.length + 2), nI q.2, fn, fp, nI q.1.length, lv') ∧ rowIs lv' (nI q.1.length) q.1) := by
  have h0 := nextNumber_ok (fn := fn) (fp := fp) hr hT hn (p := 0) (w := 16) (Nat.zero_le _) (by omega)
  unfold r1G
  cases h : rN T 16 0 with
  | inl q =>
    rw [h] at h0
    have h0 : fReader_nextNumber 0 fn fp tc tv 16 = some (-1, nI q.2, nI q.1, nI q.2) := h0
    refine ⟨fun q' h' => ?_, fun q' h' => (by cases h')⟩
    cases h'
    refine ⟨0, lv, ?_⟩
    unfold fReader_readMap
    rw [bd1_of (x := fFront_clear) rfl, bd4_of h0, if_pos rfl]
  | inr u =>
    obtain ⟨h1, h2, h3, h4⟩ := rN_inr hT h
    rw [h] at h0
    have h0 : fReader_nextNumber 0 fn fp tc tv 16 = some (nI u.1, nI u.2, fn, fp) := h0
    dsimp only
    by_cases e : u.1 = 0
    · rw [if_pos e]
      refine ⟨fun q' h' => ?_, fun q' h' => (by cases h')⟩
      cases h'
      refine ⟨0, lv, ?_⟩
      unfold fReader_readMap
      rw [bd1_of (x := fFront_clear) rfl, bd4_of h0, e, if_neg (by decide), if_pos (show nI 0 = (0 : Int32) from rfl)]
      rfl
    · rw [if_neg e]
      obtain ⟨i1, i2⟩ := readMapL_ok (fn := fn) (fp := fp) hr hT hn kn (v := u.1) (by omega) 16 0 [] u.2 lv rfl (by omega) (Nat.zero_le _) rowIs.nil
      refine ⟨fun q hq => ?_, fun q hq => ?_⟩
      · obtain ⟨lc', lv', k1⟩ := i1 q hq
        refine ⟨lc', lv', ?_⟩
        unfold fReader_readMap
        rw [bd1_of (x := fFront_clear) rfl, bd4_of h0, if_neg (m1_nI (by omega)), if_neg (nI_zn (by omega) e), bs_r (x := itrO (un6 (fReader_readMap_L33 kn tc tv (nI u.1))) (0, nI u.2, fn, fp, 0, lv)) k1]
      · obtain ⟨lv', k1, h5⟩ := i2 q hq
        refine ⟨lv', ?_, h5⟩
        unfold fReader_readMap
        rw [bd1_of (x := fFront_clear) rfl, bd4_of h0, if_neg (m1_nI (by omega)), if_neg (nI_zn (by omega) e), bs_l (x := itrO (un6 (fReader_readMap_L33 kn tc tv (nI u.1))) (0, nI u.2, fn, fp, 0, lv)) k1]
        refine Eq.trans (show _ = some ((1 : Int32), nI q.1.length + 2, nI q.2, fn, fp, nI q.1.length, lv') from rfl) ?_
        rw [show (2 : Int32) = nI 2 from rfl, nI_add]
theorem readCounts_ok (hr : rowIs tv tc T) (hT : ∀ x ∈ T, x < 2) (hn : T.length ≤ 1500) (g0 : Int32) {p : Nat} (hp : p ≤ T.length) : (∀ q, r2G T p = .inl q → ∃ a b, fReader_readCounts g0 (nI p) fn fp tc tv = some (0, a, b, nI q.2, nI q.1, nI q.2)) ∧ (∀ q, r2G T p = .inr q → fReader_readCounts g0 (nI p) fn fp tc tv = some (1, nI q.1.1, nI q.1.2, nI q.2, fn, fp)) := by
  have h0 := nextNumber_ok (fn := fn) (fp := fp) hr hT hn (p := p) (w := 2) hp (by omega)
  unfold r2G fReader_readCounts
  cases h : rN T 2 p with
  | inl q =>
    rw [h] at h0
    have h0 : fReader_nextNumber (nI p) fn fp tc tv 2 = some (-1, nI q.2, nI q.1, nI q.2) := h0
    refine ⟨fun q' h' => ?_, fun q' h' => (by cases h')⟩
    cases h'
    exact ⟨_, _, by rw [bd4_of h0, if_pos rfl]⟩
  | inr u =>
    obtain ⟨h1, h2, h3, h4⟩ := rN_inr hT h
    rw [h] at h0
    have h0 : fReader_nextNumber (nI p) fn fp tc tv 2 = some (nI u.1, nI u.2, fn, fp) := h0
    have h0' := nextNumber_ok (fn := fn) (fp := fp) hr hT hn (p := u.2) (w := 5) (by omega) (by omega)
    dsimp only
    rw [bd4_of h0, if_neg (m1_nI (by omega))]
    cases h' : rN T 5 u.2 with
    | inl q =>
      rw [h'] at h0'
      have h0' : fReader_nextNumber (nI u.2) fn fp tc tv 5 = some (-1, nI q.2, nI q.1, nI q.2) := h0'
      refine ⟨fun q' h' => ?_, fun q' h' => (by cases h')⟩
      cases h'
      exact ⟨_, _, by rw [bd4_of h0', if_pos rfl]⟩
    | inr u' =>
      obtain ⟨g1, g2, g3, g4⟩ := rN_inr hT h'
      rw [h'] at h0'
      have h0' : fReader_nextNumber (nI u.2) fn fp tc tv 5 = some (nI u'.1, nI u'.2, fn, fp) := h0'
      dsimp only
      rw [bd4_of h0', if_neg (m1_nI (by omega))]
      have hJ : fReader_readCounts_J52 (nI u.1) (nI u'.1) (nI u'.2) fn fp = some (0, nI u.1, nI u'.1, nI u'.2, nI 3, nI u'.2) := rfl
      by_cases c : u.1 = 0 ∨ u'.1 = 0
      · rw [if_pos c]
        refine ⟨fun q' h' => ?_, fun q' h' => (by cases h')⟩
        cases h'
        refine ⟨nI u.1, nI u'.1, ?_⟩
        by_cases c1 : u.1 = 0
        · rw [if_pos (show nI u.1 = 0 by rw [c1]; rfl), hJ]
        · rw [if_neg (nI_zn (by omega) c1), if_pos (show nI u'.1 = 0 by rw [c.resolve_left c1]; rfl), hJ]
      · rw [if_neg c]
        refine ⟨fun q' h' => (by cases h'), fun q' h' => ?_⟩
        cases h'
        rw [if_neg (nI_zn (by omega) (fun q => c (Or.inl q))), if_neg (nI_zn (by omega) (fun q => c (Or.inr q)))]
theorem nextChoice_ok (hr : rowIs tv tc T) (hT : ∀ x ∈ T, x < 2) (hn : T.length ≤ 1500) {tb p : Nat} (htb : tb ≤ 3) (hp : p ≤ T.length) : fReader_nextChoice (nI tb) (nI p) fn fp tc tv = some (cR (chG T tb 0 p) fn fp) := by
  have key : ∀ f o p, o + f = tb → p ≤ T.length → bs (itrO (un4 (fReader_nextChoice_L2 (nI tb) tc tv)) (nI o, nI p, fn, fp)) (un3 (fun m_position_2z m_faultNumber_2z m_faultPosition_2z => bd3 (fReader_fail m_position_2z (4 : Int32)) (fun r_36 m_faultNumber_36 m_faultPosition_36 => some ((-1 : Int32), m_position_2z, m_faultNumber_36, m_faultPosition_36)))) (fun rr => some rr) = some (cR (chG T f o p) fn fp) := by
    intro f
    induction f with
    | zero =>
      intro o p hf hp
      have h1 : un4 (fReader_nextChoice_L2 (nI tb) tc tv) (nI o, nI p, fn, fp) = some (.inr (.inl (nI p, fn, fp))) := by
        show fReader_nextChoice_L2 (nI tb) tc tv (nI o) (nI p) fn fp = _
        unfold fReader_nextChoice_L2
        rw [if_pos (by simp (disch := omega) only [nlit, nrm]; omega)]
      rw [bs_l (itrO_1 h1)]
      rfl
    | succ f ih =>
      intro o p hf hp
      unfold chG
      by_cases c : p < T.length
      · have hb := getD_lt2 hT p
        have h1 : un4 (fReader_nextChoice_L2 (nI tb) tc tv) (nI o, nI p, fn, fp) = if nI (T.getD p 0) = 0 then some (.inr (.inr (nI o, nI (p + 1), fn, fp))) else some (.inl (nI (o + 1), nI (p + 1), fn, fp)) := by
          show fReader_nextChoice_L2 (nI tb) tc tv (nI o) (nI p) fn fp = _
          unfold fReader_nextChoice_L2
          rw [if_neg (by simp (disch := omega) only [nlit, nrm]; omega), bd4_of (nextBit_y hr hT hn c), if_neg (m1_nI (by omega)), nI_s]
        rw [if_pos c]
        by_cases e : T.getD p 0 = 0
        · rw [if_pos (show nI (T.getD p 0) = 0 by rw [e]; rfl)] at h1
          rw [if_pos e, bs_r (itrO_1 h1)]
          rfl
        · rw [if_neg (nI_zn (by omega) e)] at h1
          rw [if_neg e, itrO_s h1]
          exact ih (o + 1) (p + 1) (by omega) (by omega)
      · rw [if_neg c]
        have h1 : un4 (fReader_nextChoice_L2 (nI tb) tc tv) (nI o, nI p, fn, fp) = some (.inr (.inr (-1, nI p, nI 1, nI p))) := by
          show fReader_nextChoice_L2 (nI tb) tc tv (nI o) (nI p) fn fp = _
          unfold fReader_nextChoice_L2
          rw [if_neg (by simp (disch := omega) only [nlit, nrm]; omega), bd4_of (nextBit_n hr hn (by omega)), if_pos rfl]
        rw [bs_r (itrO_1 h1)]
        rfl
  exact key tb 0 p (by omega) hp
theorem mtf_nI {l : Nat → Nat} {lv : Nat → Int32} {n p : Nat} (hp : p < n) (h : ∀ i, i < n → lv i = nI (l i)) : ∀ i, i < n → mtf lv p i = nI (mtf l p i) := by
  intro i hi
  unfold mtf
  split
  · exact h p hp
  · split
    · exact h _ (by omega)
    · exact h i hi
theorem readChoicesL_ok (hr : rowIs tv tc T) (hT : ∀ x ∈ T, x < 2) (hn : T.length ≤ 1500) {tb gr : Nat} (htb : tb ≤ 3) (hgr : gr ≤ 31) : ∀ f C l p cv ol, C.length + f = gr → p ≤ T.length → rowIs cv (nI C.length) C → (∀ i, i < tb → ol i = nI (l i)) → (∀ q, rcG T tb f C l p = .inl q → ∃ cc' cv' ol', itrO (un7 (fReader_readChoices_L20 (nI tb) (nI gr) tc tv (nI tb))) (nI C.length, nI p, fn, fp, nI C.length, cv, ol) = some (.inr (0, nI q.2, nI q.1, nI q.2, cc', cv', nI tb, ol'))) ∧ (∀ q, rcG T tb f C l p = .inr q → ∃ cv' ol', itrO (un7 (fReader_readChoices_L20 (nI tb) (nI gr) tc tv (nI tb))) (nI C.length, nI p, fn, fp, nI C.length, cv, ol) = some (.inl (nI q.2, fn, fp, nI q.1.length, cv', ol')) ∧ rowIs cv' (nI q.1.length) q.1)
  | 0, C, l, p, cv, ol, hf, hp, hC, hol => ⟨fun q h => (by cases h), fun q h => by
      cases h
      refine ⟨cv, ol, itrO_1 ?_, hC⟩
      show fReader_readChoices_L20 (nI tb) (nI gr) tc tv (nI tb) (nI C.length) (nI p) fn fp (nI C.length) cv ol = _
      unfold fReader_readChoices_L20
      rw [if_pos (by simp (disch := omega) only [nlit, nrm]; omega)]⟩
  | f + 1, C, l, p, cv, ol, hf, hp, hC, hol => by
    unfold rcG
    have h0 := nextChoice_ok (fn := fn) (fp := fp) hr hT hn htb hp
    have hok := chG_ok (T := T) tb 0 p hp
    cases h : chG T tb 0 p with
    | inl q =>
      rw [h] at h0
      have h0 : fReader_nextChoice (nI tb) (nI p) fn fp tc tv = some (-1, nI q.2, nI q.1, nI q.2) := h0
      refine ⟨fun q' h' => ?_, fun q' h' => (by cases h')⟩
      cases h'
      refine ⟨nI C.length, cv, ol, itrO_1 (show fReader_readChoices_L20 (nI tb) (nI gr) tc tv (nI tb) (nI C.length) (nI p) fn fp (nI C.length) cv ol = _ from ?_)⟩
      unfold fReader_readChoices_L20
      rw [if_neg (by simp (disch := omega) only [nlit, nrm]; omega), bd4_of h0, if_pos rfl]
    | inr u =>
      obtain ⟨h1, h2⟩ := hok.2 u h
      rw [h] at h0
      have h0 : fReader_nextChoice (nI tb) (nI p) fn fp tc tv = some (nI u.1, nI u.2, fn, fp) := h0
      dsimp only
      have e3 := fFront_bringUp_ok (n := tb) (N := 3) (p := u.1) (f := ol) (by omega) htb (by omega)
      have ha := fRow_add_ok hC (n := 31) (by omega) (by decide) (ol u.1)
      have hs : un7 (fReader_readChoices_L20 (nI tb) (nI gr) tc tv (nI tb)) (nI C.length, nI p, fn, fp, nI C.length, cv, ol) = some (.inl (nI (C.length + 1), nI u.2, fn, fp, nI (C.length + 1), upd cv C.length (ol u.1), mtf ol u.1)) := by
        show fReader_readChoices_L20 (nI tb) (nI gr) tc tv (nI tb) (nI C.length) (nI p) fn fp (nI C.length) cv ol = _
        unfold fReader_readChoices_L20
        rw [if_neg (by simp (disch := omega) only [nlit, nrm]; omega), bd4_of h0, if_neg (m1_nI (by omega)), bd2_of e3, bd2_of ha, nI_s]
      rw [itrO_s hs]
      have ih := readChoicesL_ok hr hT hn htb hgr f (C ++ [l u.1]) (mtf l u.1) u.2 (upd cv C.length (ol u.1)) (mtf ol u.1) (by rw [List.length_append, List.length_singleton]; omega) h1 (by
        rw [List.length_append, List.length_singleton, hol u.1 (by omega)]
        exact hC.push (l u.1)) (mtf_nI (by omega) hol)
      rw [List.length_append, List.length_singleton] at ih
      exact ih
theorem readChoices_ok (hr : rowIs tv tc T) (hT : ∀ x ∈ T, x < 2) (hn : T.length ≤ 1500) {tb gr p : Nat} (htb : tb ≤ 3) (hgr : gr ≤ 31) (hp : p ≤ T.length) (cv ol : Nat → Int32) : (∀ q, rcG T tb gr [] (fun i => i) p = .inl q → ∃ cc' cv' oc' ol', fReader_readChoices (nI tb) (nI gr) (nI p) fn fp tc tv cv ol = some (0, nI q.2, nI q.1, nI q.2, cc', cv', oc', ol')) ∧ (∀ q, rcG T tb gr [] (fun i => i) p = .inr q → ∃ cv' oc' ol', fReader_readChoices (nI tb) (nI gr) (nI p) fn fp tc tv cv ol = some (1, nI q.2, fn, fp, nI q.1.length, cv', oc', ol') ∧ rowIs cv' (nI q.1.length) q.1) := by
  obtain ⟨l0, k0, h0⟩ := restart_ok (N := 3) (n := tb) htb (by omega) ol
  obtain ⟨i1, i2⟩ := readChoicesL_ok (fn := fn) (fp := fp) hr hT hn htb hgr gr [] (fun i => i) p cv l0 (by simp) hp rowIs.nil h0
  refine ⟨fun q hq => ?_, fun q hq => ?_⟩
  · obtain ⟨cc', cv', ol', k1⟩ := i1 q hq
    refine ⟨cc', cv', nI tb, ol', ?_⟩
    unfold fReader_readChoices
    rw [bd1_of (x := fRow_clear) rfl, bd2_of k0, bs_r (x := itrO (un7 (fReader_readChoices_L20 (nI tb) (nI gr) tc tv (nI tb))) (0, nI p, fn, fp, 0, cv, l0)) k1]
  · obtain ⟨cv', ol', k1, h1⟩ := i2 q hq
    refine ⟨cv', nI tb, ol', ?_, h1⟩
    unfold fReader_readChoices
    rw [bd1_of (x := fRow_clear) rfl, bd2_of k0, bs_l (x := itrO (un7 (fReader_readChoices_L20 (nI tb) (nI gr) tc tv (nI tb))) (0, nI p, fn, fp, 0, cv, l0)) k1]
    rfl
theorem nextLength_ok (hr : rowIs tv tc T) (hT : ∀ x ∈ T, x < 2) (hn : T.length ≤ 1500) {n p : Nat} (hn1 : 1 ≤ n) (hn2 : n ≤ 20) (hp : p ≤ T.length) : fReader_nextLength (nI p) fn fp tc tv (nI n) = some (cR (nlG T (T.length + 1 - p) n p) fn fp) := by
  have key : ∀ f n s p, T.length < p + f → s ≤ p → p ≤ T.length → 1 ≤ n → n ≤ 20 → bs (itrO (un5 (fReader_nextLength_L4 tc tv)) (nI n, nI s, nI p, fn, fp)) (un3 (fun m_position_4z m_faultNumber_4z m_faultPosition_4z => bd3 (fReader_fail m_position_4z (1 : Int32)) (fun r_89 m_faultNumber_89 m_faultPosition_89 => some ((-1 : Int32), m_position_4z, m_faultNumber_89, m_faultPosition_89)))) (fun rr => some rr) = some (cR (nlG T f n p) fn fp) := by
    intro f
    induction f with
    | zero => intro n s p hf hs hp _ _; omega
    | succ f ih =>
      intro n s p hf hs hp hn1 hn2
      unfold nlG
      by_cases c : p < T.length
      · have hb := getD_lt2 hT p
        rw [if_pos c]
        by_cases e : T.getD p 0 = 0
        · have h1 : un5 (fReader_nextLength_L4 tc tv) (nI n, nI s, nI p, fn, fp) = some (.inr (.inr (nI n, nI (p + 1), fn, fp))) := by
            show fReader_nextLength_L4 tc tv (nI n) (nI s) (nI p) fn fp = _
            unfold fReader_nextLength_L4
            rw [if_neg (by simp (disch := omega) only [nlit, nrm]; omega), bd4_of (nextBit_y hr hT hn c), if_pos (show nI (T.getD p 0) = 0 by rw [e]; rfl)]
          rw [if_pos e, bs_r (itrO_1 h1)]
          rfl
        · rw [if_neg e]
          have hz := nI_zn (n := T.getD p 0) (by omega) e
          by_cases c2 : p + 1 < T.length
          · rw [if_pos c2]
            have hb2 := getD_lt2 hT (p + 1)
            have h1 : un5 (fReader_nextLength_L4 tc tv) (nI n, nI s, nI p, fn, fp) = if 1 ≤ (if T.getD (p + 1) 0 = 1 then n - 1 else n + 1) ∧ (if T.getD (p + 1) 0 = 1 then n - 1 else n + 1) ≤ 20 then some (.inl (nI (if T.getD (p + 1) 0 = 1 then n - 1 else n + 1), nI (s + 1), nI (p + 2), fn, fp)) else some (.inr (.inr (-1, nI (p + 2), nI 5, nI (p + 2)))) := by
              show fReader_nextLength_L4 tc tv (nI n) (nI s) (nI p) fn fp = _
              unfold fReader_nextLength_L4 fReader_nextLength_J38 fReader_nextLength_J60 fReader_nextLength_J73
              rw [if_neg (by simp (disch := omega) only [nlit, nrm]; omega), bd4_of (nextBit_y hr hT hn c), if_neg hz, if_neg (m1_nI (by omega)), bd4_of (nextBit_y hr hT hn c2), if_neg (m1_nI (by omega)), nI_s]
              have hfl : fReader_fail (nI (p + 1 + 1)) 5 = some (0, nI 5, nI (p + 2)) := rfl
              rw [bd3_of hfl]
              by_cases c3 : T.getD (p + 1) 0 = 1
              · have e3 : nI n + (-1) = nI (n - 1) := sb_m1 (by omega)
                rw [if_pos c3, if_pos (show nI (T.getD (p + 1) 0) = 1 by rw [c3]; rfl), e3]
                by_cases c4 : 1 ≤ n - 1 ∧ n - 1 ≤ 20
                · rw [if_pos c4, if_neg (by simp (disch := omega) only [nlit, nrm]; omega), if_pos (by simp (disch := omega) only [nlit, nrm]; omega)]
                · rw [if_neg c4, if_pos (by simp (disch := omega) only [nlit, nrm]; omega)]
              · have e3 : nI n + 1 = nI (n + 1) := nI_s n
                rw [if_neg c3, if_neg (fun q => c3 (by have := q; rw [show (1 : Int32) = nI 1 from rfl, nI_eq' (by omega) (by omega)] at this; exact this)), e3]
                by_cases c4 : 1 ≤ n + 1 ∧ n + 1 ≤ 20
                · rw [if_pos c4, if_neg (by simp (disch := omega) only [nlit, nrm]; omega), if_pos (by simp (disch := omega) only [nlit, nrm]; omega)]
                · rw [if_neg c4, if_neg (by simp (disch := omega) only [nlit, nrm]; omega), if_neg (by simp (disch := omega) only [nlit, nrm]; omega)]
            generalize (if T.getD (p + 1) 0 = 1 then n - 1 else n + 1) = m at h1 ⊢
            by_cases c3 : 1 ≤ m ∧ m ≤ 20
            · rw [if_pos c3] at h1
              rw [if_pos c3, itrO_s h1]
              exact ih m (s + 1) (p + 2) (by omega) (by omega) (by omega) c3.1 c3.2
            · rw [if_neg c3] at h1
              rw [if_neg c3, bs_r (itrO_1 h1)]
              rfl
          · rw [if_neg c2]
            have h1 : un5 (fReader_nextLength_L4 tc tv) (nI n, nI s, nI p, fn, fp) = some (.inr (.inr (-1, nI (p + 1), nI 1, nI (p + 1)))) := by
              show fReader_nextLength_L4 tc tv (nI n) (nI s) (nI p) fn fp = _
              unfold fReader_nextLength_L4 fReader_nextLength_J38
              rw [if_neg (by simp (disch := omega) only [nlit, nrm]; omega), bd4_of (nextBit_y hr hT hn c), if_neg hz, if_neg (m1_nI (by omega)), bd4_of (nextBit_n hr hn (by omega)), if_pos rfl]
            rw [bs_r (itrO_1 h1)]
            rfl
      · rw [if_neg c]
        have h1 : un5 (fReader_nextLength_L4 tc tv) (nI n, nI s, nI p, fn, fp) = some (.inr (.inr (-1, nI p, nI 1, nI p))) := by
          show fReader_nextLength_L4 tc tv (nI n) (nI s) (nI p) fn fp = _
          unfold fReader_nextLength_L4 fReader_nextLength_J38
          rw [if_neg (by simp (disch := omega) only [nlit, nrm]; omega), bd4_of (nextBit_n hr hn (by omega)), if_neg (by decide), if_pos rfl, if_pos rfl]
        rw [bs_r (itrO_1 h1)]
        rfl
  exact key (T.length + 1 - p) n 0 p (by omega) (by omega) hp hn1 hn2
theorem setLength_ok {k a : Nat} (hk : k < 258) (h1 : 1 ≤ a) (h2 : a ≤ 20) (lv : Nat → Int32) : fCodes_setLength lv (nI k) (nI a) = some (upd lv k (nI a)) := by
  unfold fCodes_setLength
  rw [if_neg (by simp (disch := omega) only [nlit, nrm]; omega), if_neg (by rw [show Int32.ofNat 258 = nI 258 from rfl]; simp (disch := omega) only [nlit, nrm]; omega), if_neg (by simp (disch := omega) only [nlit, nrm]; omega), if_neg (by simp (disch := omega) only [nlit, nrm]; omega), gdI_n (by omega) (by omega), nI_clamp (by omega : k < 2 ^ 31)]
theorem readLengthsL_ok (hr : rowIs tv tc T) (hT : ∀ x ∈ T, x < 2) (hn : T.length ≤ 1500) {K : Nat} (hK : K ≤ 258) : ∀ f k g n p lv, k + f = K → p ≤ T.length → 1 ≤ n → n ≤ 20 → (∀ j, j < k → lv j = nI (g j)) → (∀ q, leG T f k g n p = .inl q → ∃ lv', itrO (un6 (fReader_readLengths_L32 (nI K) tc tv)) (nI n, nI k, nI p, fn, fp, lv) = some (.inr (0, nI q.2, nI q.1, nI q.2, lv'))) ∧ (∀ q, leG T f k g n p = .inr q → ∃ lv', itrO (un6 (fReader_readLengths_L32 (nI K) tc tv)) (nI n, nI k, nI p, fn, fp, lv) = some (.inl (nI q.2, fn, fp, lv')) ∧ ∀ j, j < K → lv' j = nI (q.1 j))
  | 0, k, g, n, p, lv, hf, hp, hn1, hn2, hg => ⟨fun q h => (by cases h), fun q h => by
      cases h
      refine ⟨lv, itrO_1 ?_, fun j hj => hg j (by omega)⟩
      show fReader_readLengths_L32 (nI K) tc tv (nI n) (nI k) (nI p) fn fp lv = _
      unfold fReader_readLengths_L32
      rw [if_pos (by simp (disch := omega) only [nlit, nrm]; omega)]⟩
  | f + 1, k, g, n, p, lv, hf, hp, hn1, hn2, hg => by
    unfold leG
    have h0 := nextLength_ok (fn := fn) (fp := fp) hr hT hn hn1 hn2 hp
    have hok := nlG_ok (T := T) (T.length + 1 - p) n p hp hn1 hn2
    cases h : nlG T (T.length + 1 - p) n p with
    | inl q =>
      rw [h] at h0
      have h0 : fReader_nextLength (nI p) fn fp tc tv (nI n) = some (-1, nI q.2, nI q.1, nI q.2) := h0
      refine ⟨fun q' h' => ?_, fun q' h' => (by cases h')⟩
      cases h'
      refine ⟨lv, itrO_1 (show fReader_readLengths_L32 (nI K) tc tv (nI n) (nI k) (nI p) fn fp lv = _ from ?_)⟩
      unfold fReader_readLengths_L32
      rw [if_neg (by simp (disch := omega) only [nlit, nrm]; omega), bd4_of h0, if_pos rfl]
    | inr u =>
      obtain ⟨h1, h2, h3⟩ := hok.2 u h
      rw [h] at h0
      have h0 : fReader_nextLength (nI p) fn fp tc tv (nI n) = some (nI u.1, nI u.2, fn, fp) := h0
      dsimp only
      have hs : un6 (fReader_readLengths_L32 (nI K) tc tv) (nI n, nI k, nI p, fn, fp, lv) = some (.inl (nI u.1, nI (k + 1), nI u.2, fn, fp, upd lv k (nI u.1))) := by
        show fReader_readLengths_L32 (nI K) tc tv (nI n) (nI k) (nI p) fn fp lv = _
        unfold fReader_readLengths_L32
        rw [if_neg (by simp (disch := omega) only [nlit, nrm]; omega), bd4_of h0, if_neg (m1_nI (by omega)), bd1_of (setLength_ok (by omega) h2 h3 lv), nI_s]
      rw [itrO_s hs]
      exact readLengthsL_ok hr hT hn hK f (k + 1) (va_up g k u.1) u.1 u.2 _ (by omega) h1 h2 h3 (fun j hj => by
        by_cases e : j = k
        · rw [e, upd_s, va_up_self]
        · rw [upd_n e, va_up_ne _ _ e, hg j (by omega)])
end RD
