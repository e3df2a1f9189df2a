/-! ===== the class: a block as bits ===== -/
def PC (m tc0 : Int32) (tv0 : Nat → Int32) (L : List Nat) (w : Int32 × Int32 × (Nat → Int32)) : Prop := w.1 = nI L.length ∧ ((m = 1 ∧ w.2.1 = tc0 ∧ w.2.2 = tv0) ∨ (m = 0 ∧ rowIs w.2.2 w.2.1 L))
section WR
variable {m tc0 : Int32} {tv0 : Nat → Int32}
theorem put_ok (x : Nat) : Em (PC m tc0 tv0) (m = 0) [x] (fun w => fWriter_put m w.1 w.2.1 w.2.2 (nI x)) := by
  intro L w hP hb
  obtain ⟨h1, h2⟩ := hP
  obtain ⟨b, tc, tv⟩ := w
  have h1 : b = nI L.length := h1
  subst h1
  rcases h2 with ⟨rfl, h3, h4⟩ | ⟨rfl, h3⟩
  · refine ⟨(nI (L.length + 1), tc, tv), ?_, by rw [List.length_append]; rfl, Or.inl ⟨rfl, h3, h4⟩⟩
    show fWriter_put 1 (nI L.length) tc tv (nI x) = _
    unfold fWriter_put
    rw [if_neg (by decide), nI_s]
  · have hb := hb rfl
    rw [List.length_singleton] at hb
    have h3 : rowIs tv tc L := h3
    refine ⟨(nI (L.length + 1), nI (L.length + 1), upd tv L.length (nI x)), ?_, by rw [List.length_append]; rfl, Or.inr ⟨rfl, ?_⟩⟩
    · show fWriter_put 0 (nI L.length) tc tv (nI x) = _
      unfold fWriter_put
      rw [if_pos rfl, bd2_of (fRow_add_ok h3 (by omega) (by decide) (nI x)), nI_s]
    · have := h3.push x
      exact this
theorem nI_zn {n : Nat} (h : n < 2 ^ 31) (c : n ≠ 0) : ¬ nI n = (0 : Int32) := nI_ne0 (by omega) h
theorem dn_s {wd k : Nat} (hk : k < wd) : nI (wd - 1 - k) + (-1) = if k + 1 < wd then nI (wd - 1 - (k + 1)) else -1 := by
  by_cases c : k + 1 < wd
  · rw [if_pos c, sb_m1 (by omega : 0 < wd - 1 - k)]
    exact nI_c (by omega)
  · rw [if_neg c, show wd - 1 - k = 0 by omega]
    rfl
theorem putNumber_ok {v wd : Nat} (hv : v < 2 ^ 31) (hw0 : 0 < wd) (hw : wd < 32) : Em (PC m tc0 tv0) (m = 0) (bitN v wd) (fun w => fWriter_putNumber m w.1 w.2.1 w.2.2 (nI v) (nI wd)) := by
  intro L w hP hb
  obtain ⟨w', h1, h2⟩ := em_loop (PC m tc0 tv0) (m = 0) (step := un4 (fWriter_putNumber_L4 m (nI v))) (fun k w => (if k < wd then nI (wd - 1 - k) else (-1 : Int32), w)) (fun w => w) (fun k => [v / 2 ^ (wd - 1 - k) % 2]) wd (fun k hk L w hP hb => by
    obtain ⟨w', h1, h2⟩ := put_ok (v / 2 ^ (wd - 1 - k) % 2) L w hP hb
    refine ⟨w', ?_, h2⟩
    rw [if_pos hk]
    show fWriter_putNumber_L4 m (nI v) (nI (wd - 1 - k)) w.1 w.2.1 w.2.2 = _
    unfold fWriter_putNumber_L4
    have h1 : fWriter_put m w.1 w.2.1 w.2.2 (nI (v / 2 ^ (wd - 1 - k) % 2)) = some (w'.1, w'.2.1, w'.2.2) := h1
    rw [bit_at hv (by omega), if_neg (by simp (disch := omega) only [nlit, nrm]; omega), bd3_of h1, dn_s hk]) (fun w => by
    rw [if_neg (by omega)]
    show fWriter_putNumber_L4 m (nI v) (-1) w.1 w.2.1 w.2.2 = _
    unfold fWriter_putNumber_L4
    rw [if_pos (by decide)]) L w hP hb
  refine ⟨w', ?_, h2⟩
  show fWriter_putNumber m w.1 w.2.1 w.2.2 (nI v) (nI wd) = _
  unfold fWriter_putNumber
  rw [if_pos hw0] at h1
  have h1 : itrO (un4 (fWriter_putNumber_L4 m (nI v))) (nI (wd - 1), w.1, w.2.1, w.2.2) = some (w'.1, w'.2.1, w'.2.2) := h1
  rw [show (1 : Int32) = nI 1 from rfl, pk_sub (a := wd) (b := 1) (by omega), bd3_of h1]
theorem fieldOf_ok {B : List Nat} {pr : Nat → Int32} (hpr : ∀ v, v < 256 → pr v = if v ∈ B then 1 else 0) {k : Nat} (hk : k < 16) : fWriter_fieldOf pr (nI k) = some (nI (fld B k)) := by
  have hb : ∀ i, (if 16 * k + i ∈ B then 1 else 0) < 2 := fun i => by split <;> omega
  have k1 : itrO (un2 (fWriter_fieldOf_L4 pr (nI k))) ((0 : Int32), (0 : Int32)) = some (nI (fld B k)) := by
    refine lp_c (step := un2 (fWriter_fieldOf_L4 pr (nI k))) (fun i => (nI (hN (fun i => if 16 * k + i ∈ B then 1 else 0) i), nI i)) (nI (fld B k)) 16 (fun i hi => ?_) ?_ 0 (by omega)
    · show fWriter_fieldOf_L4 pr (nI k) (nI _) (nI i) = _
      unfold fWriter_fieldOf_L4 fTelling_has
      have hp := hpr (16 * k + i) (by omega)
      have e : nI k * (16 : Int32) + nI i = nI (16 * k + i) := by
        simp only [nlit, nrm]
        exact nI_c (by omega)
      rw [e, hN_s]
      by_cases c : 16 * k + i ∈ B
      · rw [if_pos c] at hp
        rw [if_pos c]
        simp (disch := omega) only [nlit, nrm, gdI_n, if_neg, hp, bd1_of]
        exact il2 (nI_c (by omega)) rfl
      · rw [if_neg c] at hp
        rw [if_neg c]
        simp (disch := omega) only [nlit, nrm, gdI_n, if_neg, if_pos, ↓reduceIte, hp, bd1_of]
        exact il2 (nI_c (by omega)) rfl
    · show fWriter_fieldOf_L4 pr (nI k) (nI _) (nI 16) = _
      unfold fWriter_fieldOf_L4
      simp (disch := omega) only [nlit, nrm, if_pos, ↓reduceIte]
      rfl
  unfold fWriter_fieldOf
  rw [bd1_of k1]
theorem nI_z {n : Nat} (h : n < 2 ^ 31) : (nI n = (0 : Int32)) = (n = 0) := nI_eq' (b := 0) h (by omega)
theorem putMap_ok {B : List Nat} {pr : Nat → Int32} (hpr : ∀ v, v < 256 → pr v = if v ∈ B then 1 else 0) : Em (PC m tc0 tv0) (m = 0) (mapB1 B ++ mapB2 B) (fun w => fWriter_putMap m w.1 pr w.2.1 w.2.2) := by
  intro L w hP hb
  rw [List.length_append] at hb
  obtain ⟨w1, k1, h1⟩ := em_loop (PC m tc0 tv0) (m = 0) (step := un4 (fWriter_putMap_L2 m pr)) (fun k w => (nI k, w)) (fun w => w) (fun k => [if fld B k = 0 then 0 else 1]) 16 (fun k hk L w hP hb => by
    obtain ⟨w', h1, h2⟩ := put_ok (if fld B k = 0 then 0 else 1) L w hP hb
    refine ⟨w', ?_, h2⟩
    show fWriter_putMap_L2 m pr (nI k) w.1 w.2.1 w.2.2 = _
    unfold fWriter_putMap_L2
    have hf := fld_lt B k
    rw [if_neg (by simp (disch := omega) only [nlit, nrm]; omega), bd1_of (fieldOf_ok hpr hk)]
    by_cases c : fld B k = 0
    · rw [if_pos c] at h1
      have h1 : fWriter_put m w.1 w.2.1 w.2.2 0 = some (w'.1, w'.2.1, w'.2.2) := h1
      rw [if_pos (show nI (fld B k) = 0 by rw [c]; rfl), bd3_of h1, nI_s]
    · rw [if_neg c] at h1
      have h1 : fWriter_put m w.1 w.2.1 w.2.2 1 = some (w'.1, w'.2.1, w'.2.2) := h1
      rw [if_neg (nI_zn (by omega) c), bd3_of h1, nI_s]) (fun w => rfl) L w hP (fun q => by have := hb q; unfold mapB1 at this; omega)
  obtain ⟨w2, k2, h2⟩ := em_loop (PC m tc0 tv0) (m = 0) (step := un4 (fWriter_putMap_L33 m pr)) (fun k w => (nI k, w)) (fun w => w) (fun k => if fld B k = 0 then [] else bitN (fld B k) 16) 16 (fun k hk L w hP hb => by
    have hf := fld_lt B k
    by_cases c : fld B k = 0
    · refine ⟨w, ?_, by rw [if_pos c, List.append_nil]; exact hP⟩
      show fWriter_putMap_L33 m pr (nI k) w.1 w.2.1 w.2.2 = _
      unfold fWriter_putMap_L33
      rw [if_neg (by simp (disch := omega) only [nlit, nrm]; omega), bd1_of (fieldOf_ok hpr hk), if_pos (show nI (fld B k) = 0 by rw [c]; rfl), nI_s]
    · rw [if_neg c] at hb
      obtain ⟨w', h1, h2⟩ := putNumber_ok (v := fld B k) (wd := 16) (by omega) (by omega) (by omega) L w hP hb
      refine ⟨w', ?_, by rw [if_neg c]; exact h2⟩
      show fWriter_putMap_L33 m pr (nI k) w.1 w.2.1 w.2.2 = _
      unfold fWriter_putMap_L33
      have h1 : fWriter_putNumber m w.1 w.2.1 w.2.2 (nI (fld B k)) 16 = some (w'.1, w'.2.1, w'.2.2) := h1
      rw [if_neg (by simp (disch := omega) only [nlit, nrm]; omega), bd1_of (fieldOf_ok hpr hk), if_neg (nI_zn (by omega) c), bd3_of h1, nI_s]) (fun w => rfl) (L ++ mapB1 B) w1 h1 (fun q => by have := hb q; rw [List.length_append]; unfold mapB2 at this; omega)
  refine ⟨w2, ?_, by rw [← List.append_assoc]; exact h2⟩
  show fWriter_putMap m w.1 pr w.2.1 w.2.2 = _
  unfold fWriter_putMap
  have k1 : itrO (un4 (fWriter_putMap_L2 m pr)) ((0 : Int32), w.1, w.2.1, w.2.2) = some (w1.1, w1.2.1, w1.2.2) := k1
  have k2 : itrO (un4 (fWriter_putMap_L33 m pr)) ((0 : Int32), w1.1, w1.2.1, w1.2.2) = some (w2.1, w2.2.1, w2.2.2) := k2
  rw [bd3_of k1, bd3_of k2]
section WS
variable {S : List Nat} {K : Nat} {Mt M : Nat → Nat → Int32} {ck : Nat → Int32} {cd : Nat → Nat → Int32}
theorem tkS_lt (hS0 : S.length ≠ 0) (r g : Nat) : tkS S K r g < nTb S := tk_lt hS0 _ g
theorem tableOf_ok (hl : S.length ≤ 301) (hB : BuildOK S K Mt M ck cd) {r g : Nat} (hr : r < 4) (hg : g < nGr S) : fRounds_tableOf (nI (nGr S)) Mt (nI (r + 1)) (nI g) = some (nI (tkS S K (r + 1) g)) := by
  have hG := nGr_le hl
  unfold fRounds_tableOf
  have := hB.1 r hr g hg
  simp (disch := omega) only [nlit, nrm, gdI_n, if_neg, if_pos, ↓reduceIte, this]
theorem hasKind_ok (hK : K ≤ 258) {t k : Nat} (ht : t < nTb S) (hk : k < K) : fRounds_hasKind (nI K) (nI (nTb S)) (nI t) (nI k) = some 1 := by
  have hT := nTb_le S
  unfold fRounds_hasKind
  rw [if_neg (by simp (disch := omega) only [nlit, nrm]; omega), if_neg (by simp (disch := omega) only [nlit, nrm]; omega), if_neg (by simp (disch := omega) only [nlit, nrm]; omega), if_neg (by simp (disch := omega) only [nlit, nrm]; omega)]
theorem lengthOf_ok (hK : K ≤ 258) (hB : BuildOK S K Mt M ck cd) {r t k : Nat} (hr : r < 5) (ht : t < nTb S) (hk : k < K) : fRounds_lengthOf (nI K) (nI (nTb S)) M (nI r) (nI t) (nI k) = some (nI (lenS S K r t k)) := by
  have hT := nTb_le S
  unfold fRounds_lengthOf
  have := hB.2.1 r hr t ht k hk
  rw [bd1_of (hasKind_ok hK ht hk), if_neg (by simp (disch := omega) only [nlit, nrm]; omega), if_neg (by simp (disch := omega) only [nlit, nrm]; omega), if_neg (by decide), bd1_of (fRounds_lengthsBehind_ok hr (by omega)), gdI_n (by omega) (by omega), nI_clamp (by omega : k < 2 ^ 31), this]
theorem codeOf_ok (hK : K ≤ 258) (hB : BuildOK S K Mt M ck cd) {t k : Nat} (ht : t < nTb S) (hk : k < K) : fRounds_codeOf (nI K) (nI (nTb S)) ck cd (nI t) (nI k) = some (nI (cod (lenS S K 4 t) K k)) := by
  have hT := nTb_le S
  have h1 := hB.2.2.1 t ht
  have h2 := hB.2.2.2 t ht k hk
  have e : fCodes_codeOf (ck t) (cd t) (nI k) = some (nI (cod (lenS S K 4 t) K k)) := by
    unfold fCodes_codeOf
    rw [h1]
    simp (disch := omega) only [nlit, nrm, gdI_n, if_neg, if_pos, ↓reduceIte, h2]
  unfold fRounds_codeOf
  rw [bd1_of (hasKind_ok hK ht hk), if_neg (by decide), gdI_n (by omega) (by omega), nI_clamp (by omega : t < 2 ^ 31), bd1_of e]
theorem restart_ok {N n : Nat} (hn : n ≤ N) (hN : N < 2 ^ 31) (lv : Nat → Int32) : ∃ lv', fFront_restart N lv (nI n) = some (nI n, lv') ∧ ∀ i, i < n → lv' i = nI i := by
  obtain ⟨r, k1, lv', e, h1⟩ : ∃ r, itrO (un3 (fFront_restart_L6 N (nI n))) ((0 : Int32), (0 : Int32), lv) = some r ∧ ∃ lv', r = (nI n, lv') ∧ rowIs lv' (nI (List.range n).length) (List.range n) := by
    refine lp_up (step := un3 (fFront_restart_L6 N (nI n))) (fun k s => k ≤ n ∧ ∃ lv', s = (nI k, nI k, lv') ∧ rowIs lv' (nI (List.range k).length) (List.range k)) _ n (fun k s hk hs => ?_) (fun s hs => ?_) 0 _ (by omega) ⟨by omega, lv, rfl, rowIs.nil⟩
    · obtain ⟨-, l1, rfl, h1⟩ := hs
      have hlen : (List.range k).length = k := List.length_range
      have ha := fFront_add_ok h1 (n := N) (by omega) hN (nI k)
      rw [hlen] at ha
      refine Or.inl ⟨(nI (k + 1), nI (k + 1), upd l1 k (nI k)), ?_, by omega, _, rfl, ?_⟩
      · show fFront_restart_L6 N (nI n) (nI k) (nI k) l1 = _
        unfold fFront_restart_L6
        rw [if_neg (by simp (disch := omega) only [nlit, nrm]; omega), bd2_of ha, nI_s]
      · have := h1.push k
        rw [hlen] at this
        rw [List.range_succ, List.length_append, List.length_singleton, hlen]
        exact this
    · obtain ⟨-, l1, rfl, h1⟩ := hs
      refine ⟨(nI n, l1), ?_, l1, rfl, h1⟩
      show fFront_restart_L6 N (nI n) (nI n) (nI n) l1 = _
      unfold fFront_restart_L6
      rw [if_pos (by simp (disch := omega) only [nlit, nrm]; omega)]
  subst e
  refine ⟨lv', ?_, fun i hi => ?_⟩
  · unfold fFront_restart
    rw [bd1_of (x := fFront_clear) rfl, bd2_of k1]
  · rw [h1.2 i (by rw [List.length_range]; exact hi), List.getD_eq_getElem?_getD, List.getElem?_range hi]
    rfl
noncomputable def chV (S : List Nat) (K : Nat) (l0 : Nat → Int32) : Nat → Nat → Int32
  | 0 => l0
  | g + 1 => mtf (chV S K l0 g) (chP S K g)
theorem chV_ok (hT : ∀ g, tkS S K 4 g < nTb S) {l0 : Nat → Int32} (h0 : ∀ i, i < nTb S → l0 i = nI i) : ∀ g i, i < nTb S → chV S K l0 g i = nI (chF S K g i)
  | 0, i, hi => h0 i hi
  | g + 1, i, hi => by
    have hp := chP_lt S K hT g
    show mtf (chV S K l0 g) (chP S K g) i = nI (mtf (chF S K g) (chP S K g) i)
    unfold mtf
    split
    · exact chV_ok hT h0 g _ hp
    · split
      · exact chV_ok hT h0 g _ (by omega)
      · exact chV_ok hT h0 g i hi
theorem putChoices_ok (hS0 : S.length ≠ 0) (hl : S.length ≤ 301) (hB : BuildOK S K Mt M ck cd) (ol : Nat → Int32) : ∀ L w, PC m tc0 tv0 L w → (m = 0 → L.length + (chB S K).length ≤ 1500) → ∃ w' ol', fWriter_putChoices m w.1 (nI (nGr S)) (nI (nTb S)) Mt w.2.1 w.2.2 ol = some (w'.1, w'.2.1, w'.2.2, nI (nTb S), ol') ∧ PC m tc0 tv0 (L ++ chB S K) w' := by
  intro L w hP hb
  have hG := nGr_le hl
  have hT3 := nTb_le S
  have hT := fun g => tkS_lt (K := K) hS0 4 g
  obtain ⟨l0, k0, h0⟩ := restart_ok (N := 3) (n := nTb S) hT3 (by omega) ol
  obtain ⟨w1, k1, h1⟩ := em_loop (PC m tc0 tv0) (m = 0) (step := un5 (fWriter_putChoices_L16 m (nI (nGr S)) Mt (nI (nTb S)))) (fun g w => (nI g, w.1, w.2.1, w.2.2, chV S K l0 g)) (fun w => (w.1, w.2.1, w.2.2, chV S K l0 (nGr S))) (fun g => catN (fun _ => [1]) (chP S K g) ++ [0]) (nGr S) (fun g hg L w hP hb => by
    have hp := chP_lt S K hT g
    have hv := chV_ok hT h0 g
    rw [List.length_append, List.length_singleton] at hb
    obtain ⟨w1, k1, h1⟩ := em_loop (PC m tc0 tv0) (m = 0) (step := un4 (fWriter_putChoices_L55 m (nI (chP S K g)))) (fun k w => (nI k, w)) (fun w => w) (fun _ => [1]) (chP S K g) (fun k hk L w hP hb => by
      obtain ⟨w', h1, h2⟩ := put_ok 1 L w hP hb
      refine ⟨w', ?_, h2⟩
      show fWriter_putChoices_L55 m (nI (chP S K g)) (nI k) w.1 w.2.1 w.2.2 = _
      unfold fWriter_putChoices_L55
      have h1 : fWriter_put m w.1 w.2.1 w.2.2 1 = some (w'.1, w'.2.1, w'.2.2) := h1
      rw [if_neg (by simp (disch := omega) only [nlit, nrm]; omega), bd3_of h1, nI_s]) (fun w => by
      show fWriter_putChoices_L55 m (nI (chP S K g)) (nI (chP S K g)) w.1 w.2.1 w.2.2 = _
      unfold fWriter_putChoices_L55
      rw [if_pos (by simp (disch := omega) only [nlit, nrm]; omega)]) L w hP (fun q => by have := hb q; omega)
    obtain ⟨w2, k2, h2⟩ := put_ok 0 _ w1 h1 (fun q => by have := hb q; rw [List.length_append, List.length_singleton]; omega)
    refine ⟨w2, ?_, by rw [← List.append_assoc]; exact h2⟩
    show fWriter_putChoices_L16 m (nI (nGr S)) Mt (nI (nTb S)) (nI g) w.1 w.2.1 w.2.2 (chV S K l0 g) = _
    unfold fWriter_putChoices_L16
    have k1 : itrO (un4 (fWriter_putChoices_L55 m (nI (chP S K g)))) ((0 : Int32), w.1, w.2.1, w.2.2) = some (w1.1, w1.2.1, w1.2.2) := k1
    have k2 : fWriter_put m w1.1 w1.2.1 w1.2.2 0 = some (w2.1, w2.2.1, w2.2.2) := k2
    have e1 := tableOf_ok hl hB (r := 3) (g := g) (by omega) hg
    have hTg := hT g
    have e2 : fFront_find 3 (nI (nTb S)) (chV S K l0 g) (nI (tkS S K 4 g)) = some (nI (chP S K g)) := fFront_find_ok (n := nTb S) (N := 3) (f := chV S K l0 g) (l := chF S K g) (v := tkS S K 4 g) hv (fun i hi => by have := chF_lt S K hT g i hi; omega) hT3 (by omega) (by omega) hp
    have e3 := fFront_bringUp_ok (n := nTb S) (N := 3) (p := chP S K g) (f := chV S K l0 g) hp hT3 (by omega)
    rw [if_neg (by simp (disch := omega) only [nlit, nrm]; omega), bd1_of (x := fRounds_tableOf (nI (nGr S)) Mt 4 (nI g)) e1, bd1_of e2, bd2_of e3, bd3_of k1, bd3_of k2, nI_s]
    rfl) (fun w => by
    show fWriter_putChoices_L16 m (nI (nGr S)) Mt (nI (nTb S)) (nI (nGr S)) w.1 w.2.1 w.2.2 _ = _
    unfold fWriter_putChoices_L16
    rw [if_pos (by simp (disch := omega) only [nlit, nrm]; omega)]) L w hP hb
  refine ⟨w1, chV S K l0 (nGr S), ?_, h1⟩
  unfold fWriter_putChoices
  have k1 : itrO (un5 (fWriter_putChoices_L16 m (nI (nGr S)) Mt (nI (nTb S)))) ((0 : Int32), w.1, w.2.1, w.2.2, l0) = some (w1.1, w1.2.1, w1.2.2, chV S K l0 (nGr S)) := k1
  rw [bd2_of k0, bd4_of k1]
theorem putLengths_ok (hS : ∀ x ∈ S, x < K) (hl : S.length ≤ 301) (hK2 : 2 ≤ K) (hK : K ≤ 258) (hB : BuildOK S K Mt M ck cd) {t : Nat} (ht : t < nTb S) : Em (PC m tc0 tv0) (m = 0) (tblB (lenS S K 4 t) K) (fun w => fWriter_putLengths m w.1 (nI K) (nI (nTb S)) M w.2.1 w.2.2 (nI t)) := by
  intro L w hP hb
  have hlen := lenS_ok hS hl hK2 hK 4 t
  unfold tblB at hb ⊢
  rw [List.length_append] at hb
  generalize hle : lenS S K 4 t = len at hlen hb ⊢
  have hlo : ∀ k, k < K → fRounds_lengthOf (nI K) (nI (nTb S)) M 4 (nI t) (nI k) = some (nI (len k)) := fun k hk => by rw [← hle]; exact lengthOf_ok hK hB (r := 4) (by omega) ht hk
  have hl0 := hlen 0 (by omega)
  obtain ⟨w1, k1, h1⟩ := putNumber_ok (v := len 0) (wd := 5) (by omega) (by omega) (by omega) L w hP (fun q => by have := hb q; omega)
  obtain ⟨w2, k2, h2⟩ := em_loop (PC m tc0 tv0) (m = 0) (step := un5 (fWriter_putLengths_L19 m (nI K) (nI (nTb S)) M (nI t))) (fun k w => (nI (len (k - 1)), nI k, w)) (fun w => w) (lnB len) K (fun k hk L w hP hb => by
    have q1 := hlen k hk
    have q2 := hlen (k - 1) (by omega)
    unfold lnB at hb
    simp only [List.length_append, List.length_singleton] at hb
    obtain ⟨w3, k3, h3⟩ := em_loop (PC m tc0 tv0) (m = 0) (step := un4 (fWriter_putLengths_L45 m (nI (len k)))) (fun i w => (nI (len (k - 1) + i), w)) (fun w => w) (fun _ => bitN 2 2) (len k - len (k - 1)) (fun i hi L w hP hb => by
      obtain ⟨w', h1, h2⟩ := putNumber_ok (v := 2) (wd := 2) (by omega) (by omega) (by omega) L w hP hb
      refine ⟨w', ?_, h2⟩
      show fWriter_putLengths_L45 m (nI (len k)) (nI (len (k - 1) + i)) w.1 w.2.1 w.2.2 = _
      unfold fWriter_putLengths_L45
      have h1 : fWriter_putNumber m w.1 w.2.1 w.2.2 2 2 = some (w'.1, w'.2.1, w'.2.2) := h1
      rw [if_neg (by simp (disch := omega) only [nlit, nrm]; omega), bd3_of h1, nI_s]
      rfl) (fun w => by
      show fWriter_putLengths_L45 m (nI (len k)) (nI (len (k - 1) + (len k - len (k - 1)))) w.1 w.2.1 w.2.2 = _
      unfold fWriter_putLengths_L45
      rw [if_pos (by simp (disch := omega) only [nlit, nrm]; omega)]) L w hP (fun q => by have := hb q; omega)
    obtain ⟨w4, k4, h4⟩ := em_loop (PC m tc0 tv0) (m = 0) (step := un4 (fWriter_putLengths_L67 m (nI (len k)))) (fun i w => (nI (len (k - 1) - i), w)) (fun w => w) (fun _ => bitN 3 2) (len (k - 1) - len k) (fun i hi L w hP hb => by
      obtain ⟨w', h1, h2⟩ := putNumber_ok (v := 3) (wd := 2) (by omega) (by omega) (by omega) L w hP hb
      refine ⟨w', ?_, h2⟩
      show fWriter_putLengths_L67 m (nI (len k)) (nI (len (k - 1) - i)) w.1 w.2.1 w.2.2 = _
      unfold fWriter_putLengths_L67
      have h1 : fWriter_putNumber m w.1 w.2.1 w.2.2 3 2 = some (w'.1, w'.2.1, w'.2.2) := h1
      rw [if_neg (by simp (disch := omega) only [nlit, nrm]; omega), bd3_of h1, sb_m1 (by omega : 0 < len (k - 1) - i)]
      rfl) (fun w => by
      show fWriter_putLengths_L67 m (nI (len k)) (nI (len (k - 1) - (len (k - 1) - len k))) w.1 w.2.1 w.2.2 = _
      unfold fWriter_putLengths_L67
      rw [if_pos (by simp (disch := omega) only [nlit, nrm]; omega)]) _ w3 h3 (fun q => by have := hb q; rw [List.length_append]; omega)
    obtain ⟨w5, k5, h5⟩ := put_ok 0 _ w4 h4 (fun q => by have := hb q; simp only [List.length_append, List.length_singleton]; omega)
    refine ⟨w5, ?_, by unfold lnB; rw [← List.append_assoc, ← List.append_assoc]; exact h5⟩
    show fWriter_putLengths_L19 m (nI K) (nI (nTb S)) M (nI t) (nI (len (k - 1))) (nI k) w.1 w.2.1 w.2.2 = _
    unfold fWriter_putLengths_L19
    have k3 : itrO (un4 (fWriter_putLengths_L45 m (nI (len k)))) (nI (len (k - 1)), w.1, w.2.1, w.2.2) = some (w3.1, w3.2.1, w3.2.2) := k3
    have k4 : itrO (un4 (fWriter_putLengths_L67 m (nI (len k)))) (nI (len (k - 1)), w3.1, w3.2.1, w3.2.2) = some (w4.1, w4.2.1, w4.2.2) := k4
    have k5 : fWriter_put m w4.1 w4.2.1 w4.2.2 0 = some (w5.1, w5.2.1, w5.2.2) := k5
    rw [if_neg (by simp (disch := omega) only [nlit, nrm]; omega), bd1_of (hlo k hk), bd3_of k3, bd3_of k4, bd3_of k5, nI_s]
    rfl) (fun w => by
    show fWriter_putLengths_L19 m (nI K) (nI (nTb S)) M (nI t) _ (nI K) w.1 w.2.1 w.2.2 = _
    unfold fWriter_putLengths_L19
    rw [if_pos (by simp (disch := omega) only [nlit, nrm]; omega)]) _ w1 h1 (fun q => by have := hb q; rw [List.length_append]; omega)
  refine ⟨w2, ?_, by rw [← List.append_assoc]; exact h2⟩
  show fWriter_putLengths m w.1 (nI K) (nI (nTb S)) M w.2.1 w.2.2 (nI t) = _
  unfold fWriter_putLengths
  have k1 : fWriter_putNumber m w.1 w.2.1 w.2.2 (nI (len 0)) 5 = some (w1.1, w1.2.1, w1.2.2) := k1
  have k2 : itrO (un5 (fWriter_putLengths_L19 m (nI K) (nI (nTb S)) M (nI t))) (nI (len 0), (0 : Int32), w1.1, w1.2.1, w1.2.2) = some (w2.1, w2.2.1, w2.2.2) := k2
  rw [bd1_of (x := fRounds_lengthOf (nI K) (nI (nTb S)) M 4 (nI t) 0) (hlo 0 (by omega)), bd3_of k1, bd3_of k2]
theorem cod_le (hS : ∀ x ∈ S, x < K) (hl : S.length ≤ 301) (hK2 : 2 ≤ K) (hK : K ≤ 258) (t : Nat) {k : Nat} (hk : k < K) : cod (lenS S K 4 t) K k ≤ 2 ^ 20 := by
  have h1 := lenS_ok hS hl hK2 hK 4 t k hk
  exact (CI.set (len := lenS S K 4 t) (K := K) (L := lenS S K 4 t k) (k := k) h1.1 h1.2 (by rw [lenS_fil hS hl hK2 hK 3 t]; exact Nat.le_refl _) hk rfl).2
theorem putSymbols_ok {sv : Nat → Int32} (hs : rowIs sv (nI S.length) S) (hS : ∀ x ∈ S, x < K) (hS0 : S.length ≠ 0) (hl : S.length ≤ 301) (hK2 : 2 ≤ K) (hK : K ≤ 258) (hB : BuildOK S K Mt M ck cd) : Em (PC m tc0 tv0) (m = 0) (symB S K) (fun w => fWriter_putSymbols m w.1 (nI S.length) sv (nI K) (nI (nGr S)) (nI (nTb S)) Mt M ck cd w.2.1 w.2.2) := by
  intro L w hP hb
  obtain ⟨w1, k1, h1⟩ := em_loop (PC m tc0 tv0) (m = 0) (step := un4 (fWriter_putSymbols_L2 m (nI S.length) sv (nI K) (nI (nGr S)) (nI (nTb S)) Mt M ck cd)) (fun k w => (nI k, w)) (fun w => w) (fun i => bitN (cod (lenS S K 4 (tkS S K 4 (i / 10))) K (S.getD i 0)) (lenS S K 4 (tkS S K 4 (i / 10)) (S.getD i 0))) S.length (fun i hi L w hP hb => by
    have hx := hS _ (getD_mem hi)
    have hT := tkS_lt (K := K) hS0 4 (i / 10)
    have hc := cod_le hS hl hK2 hK (tkS S K 4 (i / 10)) hx
    have hle := lenS_ok hS hl hK2 hK 4 (tkS S K 4 (i / 10)) _ hx
    obtain ⟨w', h1, h2⟩ := putNumber_ok (v := cod (lenS S K 4 (tkS S K 4 (i / 10))) K (S.getD i 0)) (wd := lenS S K 4 (tkS S K 4 (i / 10)) (S.getD i 0)) (by omega) (by omega) (by omega) L w hP hb
    refine ⟨w', ?_, h2⟩
    show fWriter_putSymbols_L2 m (nI S.length) sv (nI K) (nI (nGr S)) (nI (nTb S)) Mt M ck cd (nI i) w.1 w.2.1 w.2.2 = _
    unfold fWriter_putSymbols_L2
    have h1 : fWriter_putNumber m w.1 w.2.1 w.2.2 (nI (cod (lenS S K 4 (tkS S K 4 (i / 10))) K (S.getD i 0))) (nI (lenS S K 4 (tkS S K 4 (i / 10)) (S.getD i 0))) = some (w'.1, w'.2.1, w'.2.2) := h1
    have ei : nI i / (10 : Int32) = nI (i / 10) := by simp (disch := omega) only [nlit, nrm]
    rw [bd1_of (x := fRow_size (nI S.length)) rfl, if_neg (by simp (disch := omega) only [nlit, nrm]; omega), bd1_of (fRow_get_ok hs hl (by decide) hi), ei, bd1_of (x := fRounds_tableOf (nI (nGr S)) Mt 4 (nI (i / 10))) (tableOf_ok hl hB (r := 3) (g := i / 10) (by omega) (by unfold nGr; omega)), bd1_of (codeOf_ok hK hB hT hx), bd1_of (x := fRounds_lengthOf (nI K) (nI (nTb S)) M 4 (nI (tkS S K 4 (i / 10))) (nI (S.getD i 0))) (lengthOf_ok hK hB (r := 4) (by omega) hT hx), bd3_of h1, nI_s]) (fun w => by
    show fWriter_putSymbols_L2 m (nI S.length) sv (nI K) (nI (nGr S)) (nI (nTb S)) Mt M ck cd (nI S.length) w.1 w.2.1 w.2.2 = _
    unfold fWriter_putSymbols_L2
    rw [bd1_of (x := fRow_size (nI S.length)) rfl, if_pos (by simp (disch := omega) only [nlit, nrm]; omega)]) L w hP hb
  refine ⟨w1, ?_, h1⟩
  show fWriter_putSymbols m w.1 (nI S.length) sv (nI K) (nI (nGr S)) (nI (nTb S)) Mt M ck cd w.2.1 w.2.2 = _
  unfold fWriter_putSymbols
  have k1 : itrO (un4 (fWriter_putSymbols_L2 m (nI S.length) sv (nI K) (nI (nGr S)) (nI (nTb S)) Mt M ck cd)) ((0 : Int32), w.1, w.2.1, w.2.2) = some (w1.1, w1.2.1, w1.2.2) := k1
  rw [bd3_of k1]
end WS
theorem putAll_ok {B : List Nat} (hBl : B.length ≠ 0) (hB3 : B.length ≤ 300) (hB : ∀ v ∈ B, v < 256) {pr sv : Nat → Int32} (hpr : ∀ v, v < 256 → pr v = if v ∈ B then 1 else 0) (hs : rowIs sv (nI (symL B).length) (symL B)) {Mt M : Nat → Nat → Int32} {ck : Nat → Int32} {cd : Nat → Nat → Int32} (hBO : BuildOK (symL B) (KB B) Mt M ck cd) (tc : Int32) (tv ol : Nat → Int32) (hP : PC m tc0 tv0 [] ((0 : Int32), tc, tv)) (hb : m = 0 → (tapeB B).length ≤ 1500) : ∃ b' tc' tv' oc' ol', fWriter_putAll m (nI (symL B).length) sv pr (nI (KB B)) (nI (nGr (symL B))) (nI (nTb (symL B))) Mt M ck cd tc tv ol = some (b', b', tc', tv', oc', ol') ∧ PC m tc0 tv0 (tapeB B) (b', tc', tv') := by
  have hsl := symL_len B
  have hl : (symL B).length ≤ 301 := by omega
  have hS : ∀ x ∈ symL B, x < KB B := symL_lt hB
  have hS0 := symL_ne hBl
  have hG := nGr_le hl
  have hT3 := nTb_le (symL B)
  have hK := KB_le B
  have hK2 := KB_ge B
  unfold tapeB at hb ⊢
  simp only [List.length_append] at hb
  obtain ⟨w1, k1, h1⟩ := putMap_ok hpr [] ((0 : Int32), tc, tv) hP (fun q => by have := hb q; rw [List.length_append, List.length_nil]; omega)
  rw [List.nil_append] at h1
  obtain ⟨w2, k2, h2⟩ := putNumber_ok (v := nTb (symL B)) (wd := 2) (by omega) (by omega) (by omega) _ w1 h1 (fun q => by have := hb q; simp only [List.length_append]; omega)
  obtain ⟨w3, k3, h3⟩ := putNumber_ok (v := nGr (symL B)) (wd := 5) (by omega) (by omega) (by omega) _ w2 h2 (fun q => by have := hb q; simp only [List.length_append]; omega)
  obtain ⟨w4, ol4, k4, h4⟩ := putChoices_ok hS0 hl hBO ol _ w3 h3 (fun q => by have := hb q; simp only [List.length_append]; omega)
  obtain ⟨w5, k5, h5⟩ := em_loop (PC m tc0 tv0) (m = 0) (step := un4 (fWriter_putAll_L39 m (nI (KB B)) (nI (nTb (symL B))) M)) (fun k w => (nI k, w)) (fun w => w) (fun t => tblB (lenS (symL B) (KB B) 4 t) (KB B)) (nTb (symL B)) (fun t ht L w hP hb => by
    obtain ⟨w', h1, h2⟩ := putLengths_ok hS hl hK2 hK hBO ht L w hP hb
    refine ⟨w', ?_, h2⟩
    show fWriter_putAll_L39 m (nI (KB B)) (nI (nTb (symL B))) M (nI t) w.1 w.2.1 w.2.2 = _
    unfold fWriter_putAll_L39
    have h1 : fWriter_putLengths m w.1 (nI (KB B)) (nI (nTb (symL B))) M w.2.1 w.2.2 (nI t) = some (w'.1, w'.2.1, w'.2.2) := h1
    rw [if_neg (by simp (disch := omega) only [nlit, nrm]; omega), bd3_of h1, nI_s]) (fun w => by
    show fWriter_putAll_L39 m (nI (KB B)) (nI (nTb (symL B))) M (nI (nTb (symL B))) w.1 w.2.1 w.2.2 = _
    unfold fWriter_putAll_L39
    rw [if_pos (by simp (disch := omega) only [nlit, nrm]; omega)]) _ w4 h4 (fun q => by have := hb q; simp only [List.length_append]; omega)
  obtain ⟨w6, k6, h6⟩ := putSymbols_ok hs hS hS0 hl hK2 hK hBO _ w5 h5 (fun q => by have := hb q; simp only [List.length_append]; omega)
  refine ⟨w6.1, w6.2.1, w6.2.2, nI (nTb (symL B)), ol4, ?_, h6⟩
  unfold fWriter_putAll
  have k1 : fWriter_putMap m 0 pr tc tv = some (w1.1, w1.2.1, w1.2.2) := k1
  have k2 : fWriter_putNumber m w1.1 w1.2.1 w1.2.2 (nI (nTb (symL B))) 2 = some (w2.1, w2.2.1, w2.2.2) := k2
  have k3 : fWriter_putNumber m w2.1 w2.2.1 w2.2.2 (nI (nGr (symL B))) 5 = some (w3.1, w3.2.1, w3.2.2) := k3
  have k5 : itrO (un4 (fWriter_putAll_L39 m (nI (KB B)) (nI (nTb (symL B))) M)) ((0 : Int32), w4.1, w4.2.1, w4.2.2) = some (w5.1, w5.2.1, w5.2.2) := k5
  have k6 : fWriter_putSymbols m w5.1 (nI (symL B).length) sv (nI (KB B)) (nI (nGr (symL B))) (nI (nTb (symL B))) Mt M ck cd w5.2.1 w5.2.2 = some (w6.1, w6.2.1, w6.2.2) := k6
  rw [bd3_of k1, bd3_of k2, bd3_of k3, bd5_of k4, bd3_of k5, bd3_of k6]
end WR
