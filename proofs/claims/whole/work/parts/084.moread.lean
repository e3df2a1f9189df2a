/-! ===== the reference: the way back ===== -/
section MR
variable {T : List Nat} {tp : Nat → Int32}
theorem take_w {p w : Nat} {a : Nat} (ha : 1 ≤ a) (ha2 : a < 100) (hw : 0 < w) (hw2 : w < 100) (bits : Int32) : fMo_take bits (nI p) (nI a) tp (nI w) = some (0, nI p, nI a) := by
  have h1 : un4 (fMo_take_L4 bits tp (nI w)) ((0 : Int32), (0 : Int32), nI p, nI a) = some (.inr (.inl (0, nI p, nI a))) := by
    show fMo_take_L4 bits tp (nI w) 0 0 (nI p) (nI a) = _
    unfold fMo_take_L4
    rw [if_neg (by rw [show (0 : Int32) = nI 0 from rfl]; simp (disch := omega) only [nlit, nrm]; omega), if_neg (nI_zn (by omega) (by omega))]
  unfold fMo_take
  rw [bs_l (itrO_1 h1)]
  rfl
def mR (x : (Nat × Nat) ⊕ (Nat × Nat)) : Int32 × Int32 × Int32 := match x with
  | .inl q => (0, nI q.2, nI q.1)
  | .inr q => (nI q.1, nI q.2, 0)
theorem take_ok (hr : ∀ i, i < T.length → tp i = nI (T.getD i 0)) (hT : ∀ x ∈ T, x < 2) (hn : T.length ≤ 1500) {p w : Nat} (hp : p ≤ T.length) (hw : w ≤ 16) : fMo_take (nI T.length) (nI p) 0 tp (nI w) = some (mR (rN T w p)) := by
  have hstep : ∀ i, i < w → p + i < T.length → un4 (fMo_take_L4 (nI T.length) tp (nI w)) (nI (hN (fun i => T.getD (p + i) 0) i), nI i, nI (p + i), (0 : Int32)) = some (.inl (nI (hN (fun i => T.getD (p + i) 0) (i + 1)), nI (i + 1), nI (p + (i + 1)), (0 : Int32))) := fun i hi hpi => by
    show fMo_take_L4 (nI T.length) tp (nI w) (nI _) (nI i) (nI (p + i)) 0 = _
    unfold fMo_take_L4 fMo_take_J54
    have hb := getD_lt2 hT (p + i)
    rw [if_neg (by simp (disch := omega) only [nlit, nrm]; omega), if_pos rfl, if_neg (by rw [nI_eq' (by omega) (by omega)]; omega), gdI_n (by omega) (by omega), nI_clamp (by omega : p + i < 2 ^ 31), hr _ hpi, hN_s, nI_s, nI_s, show (2 : Int32) = nI 2 from rfl, pk_mul]
    by_cases c : T.getD (p + i) 0 = 0
    · rw [c, if_pos (show nI 0 = (0 : Int32) from rfl), show (0 : Int32) = nI 0 from rfl, nI_add]
      rfl
    · have c : T.getD (p + i) 0 = 1 := by omega
      rw [c, if_neg (by decide), show (1 : Int32) = nI 1 from rfl, nI_add]
      rfl
  unfold rN fMo_take
  by_cases c : p + w ≤ T.length
  · rw [if_pos c]
    have k1 := lp_c (step := un4 (fMo_take_L4 (nI T.length) tp (nI w))) (fun i => (nI (hN (fun i => T.getD (p + i) 0) i), nI i, nI (p + i), (0 : Int32))) (.inl (nI (hN (fun i => T.getD (p + i) 0) w), nI (p + w), (0 : Int32))) w (fun i hi => hstep i hi (by omega)) (by
      show fMo_take_L4 (nI T.length) tp (nI w) (nI _) (nI w) (nI (p + w)) 0 = _
      unfold fMo_take_L4
      rw [if_pos (by simp (disch := omega) only [nlit, nrm]; omega)]) 0 (by omega)
    rw [bs_l (x := itrO (un4 (fMo_take_L4 (nI T.length) tp (nI w))) (0, 0, nI p, 0)) k1]
    rfl
  · rw [if_neg c]
    have k1 := lp_c (step := un4 (fMo_take_L4 (nI T.length) tp (nI w))) (fun i => (nI (hN (fun i => T.getD (p + i) 0) i), nI i, nI (p + i), (0 : Int32))) (.inr ((0 : Int32), nI T.length, nI 1)) (T.length - p) (fun i hi => hstep i (by omega) (by omega)) (by
      show fMo_take_L4 (nI T.length) tp (nI w) (nI _) (nI (T.length - p)) (nI (p + (T.length - p))) 0 = _
      unfold fMo_take_L4
      rw [if_neg (by simp (disch := omega) only [nlit, nrm]; omega), if_pos rfl, show p + (T.length - p) = T.length by omega, if_pos rfl]
      rfl) 0 (by omega)
    rw [bs_r (x := itrO (un4 (fMo_take_L4 (nI T.length) tp (nI w))) (0, 0, nI p, 0)) k1]
    rfl
theorem take1_y (hr : ∀ i, i < T.length → tp i = nI (T.getD i 0)) (hT : ∀ x ∈ T, x < 2) (hn : T.length ≤ 1500) {p : Nat} (hp : p < T.length) : fMo_take (nI T.length) (nI p) 0 tp 1 = some (nI (T.getD p 0), nI (p + 1), 0) := by
  have := take_ok hr hT hn (p := p) (w := 1) (by omega) (by omega)
  unfold rN at this
  rw [if_pos (by omega)] at this
  have e : hN (fun i => T.getD (p + i) 0) 1 = T.getD p 0 := by
    show 2 * 0 + T.getD (p + 0) 0 = _
    rw [Nat.add_zero, Nat.mul_zero, Nat.zero_add]
  rw [e] at this
  exact this
theorem take1_n (hr : ∀ i, i < T.length → tp i = nI (T.getD i 0)) (hT : ∀ x ∈ T, x < 2) (hn : T.length ≤ 1500) {p : Nat} (hp : p = T.length) : fMo_take (nI T.length) (nI p) 0 tp 1 = some (0, nI p, nI 1) := by
  have := take_ok hr hT hn (p := p) (w := 1) (by omega) (by omega)
  unfold rN at this
  rw [if_neg (by omega)] at this
  rw [hp] at this ⊢
  exact this
theorem fails_0 (x : Int32) (c : Prop) [Decidable c] : fMo_fails 0 (if c then 1 else 0) x = some (if c then x else 0) := by
  unfold fMo_fails
  rw [if_pos rfl]
  by_cases h : c
  · rw [if_pos h, if_pos h, if_neg (by decide)]
  · rw [if_neg h, if_neg h, if_pos rfl]
theorem fails_w {a : Nat} (ha : 1 ≤ a) (ha2 : a < 100) (x y : Int32) : fMo_fails (nI a) x y = some (nI a) := by
  unfold fMo_fails
  rw [if_neg (nI_zn (by omega) (by omega))]
theorem rs77_ok {k u : Nat} (hk : k < 16) (hu : u < 65536) {l : List Nat} {lv : Nat → Int32} (hl : rowIs lv (nI l.length) l) (hll : l.length ≤ 16 * k) : ∃ lv', itrO (un3 (fMo_readSigns_L77 (nI k) (nI u))) ((0 : Int32), nI l.length, lv) = some (nI (l ++ fdL k u).length, lv') ∧ rowIs lv' (nI (l ++ fdL k u).length) (l ++ fdL k u) := by
  have hfl : ∀ n, (catN (fun i => if u / 2 ^ (15 - i) % 2 = 1 then [16 * k + i] else []) n).length ≤ n := by
    intro n
    induction n with
    | zero => exact Nat.le_refl _
    | succ n ih =>
      rw [catN_s, List.length_append]
      have : (if u / 2 ^ (15 - n) % 2 = 1 then [16 * k + n] else []).length ≤ 1 := by split <;> simp
      omega
  obtain ⟨r, k1, lv', e1, h1⟩ : ∃ r, itrO (un3 (fMo_readSigns_L77 (nI k) (nI u))) ((0 : Int32), nI l.length, lv) = some r ∧ ∃ lv', r = (nI (l ++ fdL k u).length, lv') ∧ rowIs lv' (nI (l ++ fdL k u).length) (l ++ fdL k u) := by
    refine lp_up (step := un3 (fMo_readSigns_L77 (nI k) (nI u))) (fun i s => ∃ lv', s = (nI i, nI (l ++ catN (fun i => if u / 2 ^ (15 - i) % 2 = 1 then [16 * k + i] else []) i).length, lv') ∧ rowIs lv' (nI (l ++ catN (fun i => if u / 2 ^ (15 - i) % 2 = 1 then [16 * k + i] else []) i).length) (l ++ catN (fun i => if u / 2 ^ (15 - i) % 2 = 1 then [16 * k + i] else []) i)) _ 16 (fun i s hi hs => ?_) (fun s hs => ?_) 0 _ (by omega) ⟨lv, by rw [show catN (fun i => if u / 2 ^ (15 - i) % 2 = 1 then [16 * k + i] else []) 0 = [] from rfl, List.append_nil]; rfl, by rw [show catN (fun i => if u / 2 ^ (15 - i) % 2 = 1 then [16 * k + i] else []) 0 = [] from rfl, List.append_nil]; exact hl⟩
    · obtain ⟨l1, rfl, h1⟩ := hs
      have hlen := hfl i
      rw [catN_s]
      generalize hX : catN (fun i => if u / 2 ^ (15 - i) % 2 = 1 then [16 * k + i] else []) i = X at h1 hlen ⊢
      refine Or.inl ?_
      have hXl : (l ++ X).length < 256 := by rw [List.length_append]; omega
      by_cases c : u / 2 ^ (15 - i) % 2 = 1
      · rw [if_pos c, ← List.append_assoc]
        refine ⟨(nI (i + 1), nI ((l ++ X).length + 1), upd l1 (l ++ X).length (nI (16 * k + i))), ?_, _, by rw [List.length_append (as := l ++ X)]; rfl, ?_⟩
        · show fMo_readSigns_L77 (nI k) (nI u) (nI i) _ l1 = _
          unfold fMo_readSigns_L77
          rw [bit15 (by omega) hi, c, if_neg (by simp (disch := omega) only [nlit, nrm]; omega), if_pos (show nI 1 = 1 from rfl), gdI_n hXl (by omega), nI_clamp (by omega : (l ++ X).length < 2 ^ 31), nI_s, nI_s, show (16 : Int32) = nI 16 from rfl, pk_mul, nI_add]
        · have := h1.push (16 * k + i)
          rw [List.length_append (as := l ++ X)]
          exact this
      · rw [if_neg c, List.append_nil]
        refine ⟨(nI (i + 1), nI (l ++ X).length, l1), ?_, l1, rfl, h1⟩
        show fMo_readSigns_L77 (nI k) (nI u) (nI i) _ l1 = _
        unfold fMo_readSigns_L77
        have hm : u / 2 ^ (15 - i) % 2 = 0 := by omega
        rw [bit15 (by omega) hi, hm, if_neg (by simp (disch := omega) only [nlit, nrm]; omega), if_neg (by decide), nI_s]
    · obtain ⟨l1, rfl, h1⟩ := hs
      refine ⟨_, ?_, l1, rfl, h1⟩
      show fMo_readSigns_L77 (nI k) (nI u) (nI 16) _ l1 = _
      unfold fMo_readSigns_L77
      rw [if_pos (by decide)]
      rfl
  subst e1
  exact ⟨lv', k1, h1⟩
theorem fdL_0 (k : Nat) : fdL k 0 = [] := by
  have key : ∀ n, catN (fun i => if 0 / 2 ^ (15 - i) % 2 = 1 then [16 * k + i] else []) n = [] := by
    intro n
    induction n with
    | zero => rfl
    | succ n ih =>
      rw [catN_s, ih, Nat.zero_div]
      rfl
  exact key 16
/-- a loop that is left at once where something is wrong -/
theorem rs28_w {v k a : Nat} (ha : 1 ≤ a) (ha2 : a < 100) (bits rd c : Int32) (lv : Nat → Int32) : un5 (fMo_readSigns_L28 bits tp (nI v)) (nI k, rd, nI a, c, lv) = some (.inr (rd, nI a, c, lv)) := by
  show fMo_readSigns_L28 bits tp (nI v) (nI k) rd (nI a) c lv = _
  unfold fMo_readSigns_L28
  rw [if_neg (nI_zn (by omega) (by omega))]
  split <;> rfl
theorem mreadMapL_ok (hr : ∀ i, i < T.length → tp i = nI (T.getD i 0)) (hT : ∀ x ∈ T, x < 2) (hn : T.length ≤ 1500) {v : Nat} (hv : v < 65536) : ∀ f k l p lv, k + f = 16 → p ≤ T.length → l.length ≤ 16 * k → rowIs lv (nI l.length) l → (∀ q, mpG T v f k l p = .inl q → ∃ lc' lv', itrO (un5 (fMo_readSigns_L28 (nI T.length) tp (nI v))) (nI k, nI p, 0, nI l.length, lv) = some (nI q.2, nI q.1, lc', lv')) ∧ (∀ q, mpG T v f k l p = .inr q → ∃ lv', itrO (un5 (fMo_readSigns_L28 (nI T.length) tp (nI v))) (nI k, nI p, 0, nI l.length, lv) = some (nI q.2, 0, nI q.1.length, lv') ∧ rowIs lv' (nI q.1.length) q.1)
  | 0, k, l, p, lv, hf, hp, hl, hrow => ⟨fun q h => (by cases h), fun q h => by
      cases h
      refine ⟨lv, itrO_1 ?_, hrow⟩
      show fMo_readSigns_L28 (nI T.length) tp (nI v) (nI k) (nI p) 0 (nI l.length) lv = _
      unfold fMo_readSigns_L28
      rw [if_pos (by simp (disch := omega) only [nlit, nrm]; omega)]⟩
  | f + 1, k, l, p, lv, hf, hp, hl, hrow => by
    unfold mpG
    have h0 := take_ok hr hT hn (p := p) (w := 16) hp (by omega)
    by_cases c : v / 2 ^ (15 - k) % 2 = 1
    · rw [if_pos c]
      have hgo : ∀ u rd w, fMo_take (nI T.length) (nI p) 0 tp 16 = some (nI u, rd, w) → u < 65536 → ∀ w', fMo_fails w (if u = 0 then 1 else 0) 2 = some w' → ∃ lv', un5 (fMo_readSigns_L28 (nI T.length) tp (nI v)) (nI k, nI p, 0, nI l.length, lv) = some (.inl (nI (k + 1), rd, w', nI (l ++ fdL k u).length, lv')) ∧ rowIs lv' (nI (l ++ fdL k u).length) (l ++ fdL k u) := fun u rd w hx hu w' hw' => by
        obtain ⟨lv', k1, h1⟩ := rs77_ok (k := k) (u := u) (by omega) hu hrow hl
        refine ⟨lv', ?_, h1⟩
        show fMo_readSigns_L28 (nI T.length) tp (nI v) (nI k) (nI p) 0 (nI l.length) lv = _
        unfold fMo_readSigns_L28 fMo_readSigns_J70
        rw [bit15 (by omega) (by omega), c, if_neg (by simp (disch := omega) only [nlit, nrm]; omega), if_pos rfl, if_pos (show nI 1 = 1 from rfl), bd3_of hx]
        by_cases e : u = 0
        · rw [if_pos e] at hw'
          rw [if_pos (show nI u = 0 by rw [e]; rfl), bd1_of hw', bd2_of k1, nI_s]
        · rw [if_neg e] at hw'
          rw [if_neg (nI_zn (by omega) e), bd1_of hw', bd2_of k1, nI_s]
      cases h : rN T 16 p with
      | inl q =>
        rw [h] at h0
        obtain ⟨rfl, -⟩ := rN_inl h
        refine ⟨fun q' h' => ?_, fun q' h' => (by cases h')⟩
        cases h'
        obtain ⟨lv', k1, h1⟩ := hgo 0 _ _ h0 (by omega) (nI 1) (fails_w (by omega) (by omega) _ _)
        rw [itrO_s k1]
        exact ⟨_, _, itrO_1 (rs28_w (by omega) (by omega) _ _ _ _)⟩
      | inr u =>
        obtain ⟨h1, h2, h3, h4⟩ := rN_inr hT h
        rw [h] at h0
        dsimp only
        obtain ⟨lv', k1, h5⟩ := hgo u.1 _ _ h0 (by omega) _ (fails_0 2 (u.1 = 0))
        by_cases e : u.1 = 0
        · rw [if_pos e] at k1 ⊢
          refine ⟨fun q' h' => ?_, fun q' h' => (by cases h')⟩
          cases h'
          rw [itrO_s k1]
          exact ⟨_, _, itrO_1 (rs28_w (a := 2) (by omega) (by omega) _ _ _ _)⟩
        · rw [if_neg e] at k1 ⊢
          have hfl := fdL_len k u.1
          rw [itrO_s k1]
          exact mreadMapL_ok hr hT hn hv f (k + 1) (l ++ fdL k u.1) u.2 lv' (by omega) (by omega) (by rw [List.length_append]; omega) h5
    · rw [if_neg c]
      have hm : v / 2 ^ (15 - k) % 2 = 0 := by omega
      have : un5 (fMo_readSigns_L28 (nI T.length) tp (nI v)) (nI k, nI p, 0, nI l.length, lv) = some (.inl (nI (k + 1), nI p, 0, nI l.length, lv)) := by
        show fMo_readSigns_L28 (nI T.length) tp (nI v) (nI k) (nI p) 0 (nI l.length) lv = _
        unfold fMo_readSigns_L28
        rw [bit15 (by omega) (by omega), hm, if_neg (by simp (disch := omega) only [nlit, nrm]; omega), if_pos rfl, if_neg (by decide), nI_s]
      rw [itrO_s this]
      exact mreadMapL_ok hr hT hn hv f (k + 1) l p lv (by omega) hp (by omega) hrow
theorem mreadSigns_ok (hr : ∀ i, i < T.length → tp i = nI (T.getD i 0)) (hT : ∀ x ∈ T, x < 2) (hn : T.length ≤ 1500) (lv : Nat → Int32) : (∀ q, r1G T = .inl q → ∃ lc' lv', fMo_readSigns (nI T.length) 0 0 tp lv = some (nI q.2, nI q.1, lc', lv')) ∧ (∀ q, r1G T = .inr q → ∃ lv', fMo_readSigns (nI T.length) 0 0 tp lv = some (nI q.2, 0, nI q.1.length, lv') ∧ rowIs lv' (nI q.1.length) q.1) := by
  have h0 := take_ok hr hT hn (p := 0) (w := 16) (Nat.zero_le _) (by omega)
  have hgo : ∀ u rd w, fMo_take (nI T.length) 0 0 tp 16 = some (nI u, rd, w) → u < 65536 → ∀ w', fMo_fails w (if u = 0 then 1 else 0) 2 = some w' → ∀ x, itrO (un5 (fMo_readSigns_L28 (nI T.length) tp (nI u))) ((0 : Int32), rd, w', (0 : Int32), lv) = some x → fMo_readSigns (nI T.length) 0 0 tp lv = some x := fun u rd w hx hu w' hw' x hx2 => by
    unfold fMo_readSigns fMo_readSigns_J22
    rw [bd3_of hx]
    by_cases e : u = 0
    · rw [if_pos e] at hw'
      rw [if_pos (show nI u = 0 by rw [e]; rfl), bd1_of hw', bd4_of (a0 := x.1) (a1 := x.2.1) (a2 := x.2.2.1) (a3 := x.2.2.2) hx2]
    · rw [if_neg e] at hw'
      rw [if_neg (nI_zn (by omega) e), bd1_of hw', bd4_of (a0 := x.1) (a1 := x.2.1) (a2 := x.2.2.1) (a3 := x.2.2.2) hx2]
  unfold r1G
  cases h : rN T 16 0 with
  | inl q =>
    rw [h] at h0
    obtain ⟨rfl, -⟩ := rN_inl h
    refine ⟨fun q' h' => ?_, fun q' h' => (by cases h')⟩
    cases h'
    exact ⟨_, _, hgo 0 _ _ h0 (by omega) (nI 1) (fails_w (by omega) (by omega) _ _) _ (itrO_1 (rs28_w (k := 0) (by omega) (by omega) _ _ _ _))⟩
  | inr u =>
    obtain ⟨h1, h2, h3, h4⟩ := rN_inr hT h
    rw [h] at h0
    dsimp only
    have hx := hgo u.1 _ _ h0 (by omega) _ (fails_0 2 (u.1 = 0))
    by_cases e : u.1 = 0
    · rw [if_pos e] at hx ⊢
      refine ⟨fun q' h' => ?_, fun q' h' => (by cases h')⟩
      cases h'
      exact ⟨_, _, hx _ (itrO_1 (rs28_w (k := 0) (a := 2) (by omega) (by omega) _ _ _ _))⟩
    · rw [if_neg e] at hx ⊢
      obtain ⟨i1, i2⟩ := mreadMapL_ok hr hT hn (v := u.1) (by omega) 16 0 [] u.2 lv rfl (by omega) (Nat.zero_le _) rowIs.nil
      refine ⟨fun q hq => ?_, fun q hq => ?_⟩
      · obtain ⟨lc', lv', k1⟩ := i1 q hq
        exact ⟨lc', lv', hx _ k1⟩
      · obtain ⟨lv', k1, h5⟩ := i2 q hq
        exact ⟨lv', hx _ k1, h5⟩
theorem mchoice_ok (hr : ∀ i, i < T.length → tp i = nI (T.getD i 0)) (hT : ∀ x ∈ T, x < 2) (hn : T.length ≤ 1500) {tb : Nat} (htb : tb ≤ 3) : ∀ f o p, o + f = tb → 1 ≤ f → p ≤ T.length → (∀ q, chG T f o p = .inl q → ∃ x, itrO (un3 (fMo_readTaken_L81 (nI T.length) tp (nI tb))) (nI o, nI p, 0) = some (x, nI q.2, nI q.1)) ∧ (∀ q, chG T f o p = .inr q → itrO (un3 (fMo_readTaken_L81 (nI T.length) tp (nI tb))) (nI o, nI p, 0) = some (nI q.1, nI q.2, 0))
  | 0, o, p, hf, hf1, hp => by omega
  | f + 1, o, p, hf, hf1, hp => by
    unfold chG
    by_cases c : p < T.length
    · rw [if_pos c]
      have hb := getD_lt2 hT p
      have ht := take1_y hr hT hn c
      by_cases e : T.getD p 0 = 0
      · rw [if_pos e]
        refine ⟨fun q h => (by cases h), fun q h => ?_⟩
        cases h
        refine itrO_1 (show fMo_readTaken_L81 (nI T.length) tp (nI tb) (nI o) (nI p) 0 = _ from ?_)
        unfold fMo_readTaken_L81
        rw [bd3_of ht, e, if_neg (by decide)]
      · have e1 : T.getD p 0 = 1 := by omega
        rw [if_neg e]
        have hs : un3 (fMo_readTaken_L81 (nI T.length) tp (nI tb)) (nI o, nI p, 0) = some (.inl (nI (o + 1), nI (p + 1), if o + 1 = tb then nI 4 else 0)) := by
          show fMo_readTaken_L81 (nI T.length) tp (nI tb) (nI o) (nI p) 0 = _
          unfold fMo_readTaken_L81
          rw [bd3_of ht, e1, if_pos (show nI 1 = 1 from rfl), if_pos rfl, nI_s]
          by_cases c2 : o + 1 = tb
          · rw [if_pos c2, if_pos (by rw [c2])]
            rfl
          · rw [if_neg c2, if_neg (by rw [nI_eq' (by omega) (by omega)]; exact c2)]
            rfl
        rw [itrO_s hs]
        by_cases c2 : f = 0
        · subst c2
          rw [if_pos (by omega)]
          unfold chG
          refine ⟨fun q h => ?_, fun q h => (by cases h)⟩
          cases h
          refine ⟨nI (o + 1), itrO_1 (show fMo_readTaken_L81 (nI T.length) tp (nI tb) (nI (o + 1)) (nI (p + 1)) (nI 4) = _ from ?_)⟩
          unfold fMo_readTaken_L81
          rw [bd3_of (x := fMo_take (nI T.length) (nI (p + 1)) (nI 4) tp 1) (take_w (w := 1) (by omega) (by omega) (by omega) (by omega) _), if_neg (by decide)]
        · rw [if_neg (by omega)]
          exact mchoice_ok hr hT hn htb f (o + 1) (p + 1) (by omega) (by omega) (by omega)
    · rw [if_neg c]
      refine ⟨fun q h => ?_, fun q h => (by cases h)⟩
      cases h
      refine ⟨nI o, itrO_1 (show fMo_readTaken_L81 (nI T.length) tp (nI tb) (nI o) (nI p) 0 = _ from ?_)⟩
      unfold fMo_readTaken_L81
      rw [bd3_of (take1_n hr hT hn (by omega)), if_neg (by decide)]
theorem rt64_w {a g : Nat} (ha : 1 ≤ a) (ha2 : a < 100) (bits tb gr rd : Int32) (rw tk : Nat → Int32) : un5 (fMo_readTaken_L64 bits tp tb gr) (nI g, rd, nI a, rw, tk) = some (.inr (rd, nI a, rw, tk)) := by
  show fMo_readTaken_L64 bits tp tb gr (nI g) rd (nI a) rw tk = _
  unfold fMo_readTaken_L64
  rw [if_neg (show ¬ nI a = 0 from nI_zn (by omega) (by omega))]
  split <;> rfl
theorem mchoices_ok (hr : ∀ i, i < T.length → tp i = nI (T.getD i 0)) (hT : ∀ x ∈ T, x < 2) (hn : T.length ≤ 1500) {tb gr : Nat} (htb1 : 1 ≤ tb) (htb : tb ≤ 3) (hgr : gr ≤ 31) : ∀ f C l p rw tk, C.length + f = gr → p ≤ T.length → (∀ i, i < C.length → tk i = nI (C.getD i 0)) → (∀ i, i < tb → rw i = nI (l i)) → (∀ q, rcG T tb f C l p = .inl q → ∃ rw' tk', itrO (un5 (fMo_readTaken_L64 (nI T.length) tp (nI tb) (nI gr))) (nI C.length, nI p, 0, rw, tk) = some (nI q.2, nI q.1, rw', tk')) ∧ (∀ q, rcG T tb f C l p = .inr q → ∃ rw' tk', itrO (un5 (fMo_readTaken_L64 (nI T.length) tp (nI tb) (nI gr))) (nI C.length, nI p, 0, rw, tk) = some (nI q.2, 0, rw', tk') ∧ ∀ i, i < q.1.length → tk' i = nI (q.1.getD i 0))
  | 0, C, l, p, rw, tk, hf, hp, hC, hrw => ⟨fun q h => (by cases h), fun q h => by
      cases h
      refine ⟨rw, tk, itrO_1 ?_, hC⟩
      show fMo_readTaken_L64 (nI T.length) tp (nI tb) (nI gr) (nI C.length) (nI p) 0 rw tk = _
      unfold fMo_readTaken_L64
      rw [if_pos (by simp (disch := omega) only [nlit, nrm]; omega)]⟩
  | f + 1, C, l, p, rw, tk, hf, hp, hC, hrw => by
    unfold rcG
    obtain ⟨m1, m2⟩ := mchoice_ok hr hT hn htb tb 0 p (by omega) htb1 hp
    have hok := chG_ok (T := T) tb 0 p hp
    cases h : chG T tb 0 p with
    | inl q =>
      obtain ⟨x, k1⟩ := m1 q h
      obtain ⟨q1, q2, q3⟩ := hok.1 q h
      refine ⟨fun q' h' => ?_, fun q' h' => (by cases h')⟩
      cases h'
      have hs : un5 (fMo_readTaken_L64 (nI T.length) tp (nI tb) (nI gr)) (nI C.length, nI p, 0, rw, tk) = some (.inl (nI (C.length + 1), nI q.2, nI q.1, rw, tk)) := by
        show fMo_readTaken_L64 (nI T.length) tp (nI tb) (nI gr) (nI C.length) (nI p) 0 rw tk = _
        unfold fMo_readTaken_L64
        rw [if_neg (by simp (disch := omega) only [nlit, nrm]; omega), if_pos rfl, bd3_of (x := itrO (un3 (fMo_readTaken_L81 (nI T.length) tp (nI tb))) (0, nI p, 0)) k1, if_neg (nI_zn (by omega) (by omega)), nI_s]
      rw [itrO_s hs]
      exact ⟨_, _, itrO_1 (rt64_w q1 (by omega) _ _ _ _ _ _)⟩
    | inr u =>
      have k1 := m2 u h
      obtain ⟨h1, h2⟩ := hok.2 u h
      dsimp only
      have e3 := fMo_toFront_ok (N := 3) (p := u.1) (f := rw) (by omega) (by omega)
      rw [hrw u.1 (by omega)] at e3
      have hs : un5 (fMo_readTaken_L64 (nI T.length) tp (nI tb) (nI gr)) (nI C.length, nI p, 0, rw, tk) = some (.inl (nI (C.length + 1), nI u.2, 0, mtf rw u.1, upd tk C.length (nI (l u.1)))) := by
        show fMo_readTaken_L64 (nI T.length) tp (nI tb) (nI gr) (nI C.length) (nI p) 0 rw tk = _
        unfold fMo_readTaken_L64
        rw [if_neg (by simp (disch := omega) only [nlit, nrm]; omega), if_pos rfl, bd3_of (x := itrO (un3 (fMo_readTaken_L81 (nI T.length) tp (nI tb))) (0, nI p, 0)) k1, if_pos rfl, bd2_of e3, gdI_n (by omega) (by omega), nI_clamp (by omega : C.length < 2 ^ 31), nI_s]
      rw [itrO_s hs]
      have hp := (show rowIs tk (nI C.length) C from ⟨rfl, hC⟩).push (l u.1)
      have ih := mchoices_ok hr hT hn htb1 htb hgr f (C ++ [l u.1]) (mtf l u.1) u.2 (mtf rw u.1) (upd tk C.length (nI (l u.1))) (by rw [List.length_append, List.length_singleton]; omega) h1 hp.2 (mtf_nI (by omega) hrw)
      rw [List.length_append, List.length_singleton] at ih
      exact ih
theorem mreadTaken_ok (hr : ∀ i, i < T.length → tp i = nI (T.getD i 0)) (hT : ∀ x ∈ T, x < 2) (hn : T.length ≤ 1500) {p : Nat} (hp : p ≤ T.length) (rw tk : Nat → Int32) : (∀ q, r2G T p = .inl q → ∃ a b rw' tk', fMo_readTaken (nI T.length) (nI p) 0 tp rw tk = some (nI q.2, nI q.1, a, b, rw', tk')) ∧ (∀ q, r2G T p = .inr q → (∀ q', rcG T q.1.1 q.1.2 [] (fun i => i) q.2 = .inl q' → ∃ a b rw' tk', fMo_readTaken (nI T.length) (nI p) 0 tp rw tk = some (nI q'.2, nI q'.1, a, b, rw', tk')) ∧ (∀ q', rcG T q.1.1 q.1.2 [] (fun i => i) q.2 = .inr q' → ∃ rw' tk', fMo_readTaken (nI T.length) (nI p) 0 tp rw tk = some (nI q'.2, 0, nI q.1.1, nI q.1.2, rw', tk') ∧ ∀ i, i < q'.1.length → tk' i = nI (q'.1.getD i 0))) := by
  obtain ⟨l0, k5, hl0⟩ : ∃ r, itrO (un2 fMo_readTaken_L44) ((0 : Int32), rw) = some r ∧ ∀ i, i < 3 → r i = nI i := by
    refine lp_up (step := un2 fMo_readTaken_L44) (fun i s => ∃ r, s = (nI i, r) ∧ ∀ j, j < i → r j = nI j) _ 3 (fun i s hi hs1 => ?_) (fun s hs1 => ?_) 0 _ (by omega) ⟨rw, rfl, fun j q => by omega⟩
    · obtain ⟨r, rfl, h1⟩ := hs1
      refine Or.inl ⟨(nI (i + 1), upd r i (nI i)), ?_, _, rfl, fun j hj => ?_⟩
      · show fMo_readTaken_L44 (nI i) r = _
        unfold fMo_readTaken_L44
        simp (disch := omega) only [nlit, nrm, gdI_n, if_neg]
      · by_cases e : j = i
        · rw [e, upd_s]
        · rw [upd_n e, h1 j (by omega)]
    · obtain ⟨r, rfl, h1⟩ := hs1
      refine ⟨r, ?_, h1⟩
      show fMo_readTaken_L44 (nI 3) r = _
      unfold fMo_readTaken_L44
      rw [if_pos (by decide)]
  have hgo : ∀ a rd w b rd2 w2, fMo_take (nI T.length) (nI p) 0 tp 2 = some (nI a, rd, w) → a < 100 → fMo_take (nI T.length) rd w tp 5 = some (nI b, rd2, w2) → b < 100 → ∀ w', fMo_fails w2 (if a = 0 ∨ b = 0 then 1 else 0) 3 = some w' → ∀ x, itrO (un5 (fMo_readTaken_L64 (nI T.length) tp (nI a) (nI b))) ((0 : Int32), rd2, w', l0, tk) = some x → fMo_readTaken (nI T.length) (nI p) 0 tp rw tk = some (x.1, x.2.1, nI a, nI b, x.2.2) := fun a rd w b rd2 w2 hx ha hy hb w' hw' x hx2 => by
    unfold fMo_readTaken fMo_readTaken_J33 fMo_readTaken_J38
    rw [bd3_of hx, bd3_of hy]
    have hx2 : itrO (un5 (fMo_readTaken_L64 (nI T.length) tp (nI a) (nI b))) ((0 : Int32), rd2, w', l0, tk) = some (x.1, x.2.1, x.2.2.1, x.2.2.2) := hx2
    by_cases e1 : a = 0
    · rw [if_pos (Or.inl e1)] at hw'
      rw [if_pos (show nI a = 0 by rw [e1]; rfl), bd1_of hw', bd1_of k5, bd4_of hx2]
    · rw [if_neg (nI_zn (by omega) e1)]
      by_cases e2 : b = 0
      · rw [if_pos (Or.inr e2)] at hw'
        rw [if_pos (show nI b = 0 by rw [e2]; rfl), bd1_of hw', bd1_of k5, bd4_of hx2]
      · rw [if_neg (by omega)] at hw'
        rw [if_neg (nI_zn (by omega) e2), bd1_of hw', bd1_of k5, bd4_of hx2]
  have h0 := take_ok hr hT hn (p := p) (w := 2) hp (by omega)
  unfold r2G
  cases h : rN T 2 p with
  | inl q =>
    rw [h] at h0
    obtain ⟨rfl, -⟩ := rN_inl h
    refine ⟨fun q' h' => ?_, fun q' h' => (by cases h')⟩
    cases h'
    exact ⟨_, _, _, _, hgo 0 _ _ 0 _ _ h0 (by omega) (take_w (w := 5) (a := 1) (by omega) (by omega) (by omega) (by omega) _) (by omega) (nI 1) (fails_w (by omega) (by omega) _ _) _ (itrO_1 (rt64_w (g := 0) (by omega) (by omega) _ _ _ _ _ _))⟩
  | inr u =>
    obtain ⟨h1, h2, h3, h4⟩ := rN_inr hT h
    rw [h] at h0
    have h0' := take_ok hr hT hn (p := u.2) (w := 5) (by omega) (by omega)
    dsimp only
    cases h' : rN T 5 u.2 with
    | inl q =>
      rw [h'] at h0'
      obtain ⟨rfl, -⟩ := rN_inl h'
      refine ⟨fun q' h' => ?_, fun q' h' => (by cases h')⟩
      cases h'
      exact ⟨_, _, _, _, hgo u.1 _ _ 0 _ _ h0 (by omega) h0' (by omega) (nI 1) (fails_w (by omega) (by omega) _ _) _ (itrO_1 (rt64_w (g := 0) (by omega) (by omega) _ _ _ _ _ _))⟩
    | inr u' =>
      obtain ⟨g1, g2, g3, g4⟩ := rN_inr hT h'
      rw [h'] at h0'
      dsimp only
      have hx := hgo u.1 _ _ u'.1 _ _ h0 (by omega) h0' (by omega) _ (fails_0 3 (u.1 = 0 ∨ u'.1 = 0))
      by_cases c : u.1 = 0 ∨ u'.1 = 0
      · rw [if_pos c] at hx ⊢
        refine ⟨fun q' h' => ?_, fun q' h' => (by cases h')⟩
        cases h'
        exact ⟨_, _, _, _, hx _ (itrO_1 (rt64_w (g := 0) (a := 3) (by omega) (by omega) _ _ _ _ _ _))⟩
      · rw [if_neg c] at hx ⊢
        refine ⟨fun q' h' => (by cases h'), fun q' h' => ?_⟩
        cases h'
        obtain ⟨i1, i2⟩ := mchoices_ok hr hT hn (tb := u.1) (gr := u'.1) (by omega) (by omega) (by omega) u'.1 [] (fun i => i) u'.2 l0 tk (by simp) (by omega) (fun i hi => by simp at hi) (fun i hi => hl0 i (by omega))
        refine ⟨fun q hq => ?_, fun q hq => ?_⟩
        · obtain ⟨rw', tk', k1⟩ := i1 q hq
          exact ⟨_, _, _, _, hx _ k1⟩
        · obtain ⟨rw', tk', k1, h6⟩ := i2 q hq
          exact ⟨_, _, hx _ k1, h6⟩
end MR
