/-! ===== the reference: a block as bits ===== -/
def PM (ly : Int32) (tp0 : Nat → Int32) (L : List Nat) (w : Int32 × (Nat → Int32)) : Prop := w.1 = nI L.length ∧ ((ly = 0 ∧ w.2 = tp0) ∨ (ly = 1 ∧ ∀ i, i < L.length → w.2 i = nI (L.getD i 0)))
section ML
variable {ly : Int32} {tp0 : Nat → Int32}
theorem mput_ok {v wd : Nat} (hv : v < 2 ^ 31) (hw0 : 0 < wd) (hw : wd < 32) : Em (PM ly tp0) (ly = 1) (bitN v wd) (fun w => fMo_put ly w.1 w.2 (nI v) (nI wd)) := by
  intro L w hP hb
  obtain ⟨w', h1, h2⟩ := em_loop (PM ly tp0) (ly = 1) (step := un3 (fMo_put_L4 ly (nI v))) (fun k w => (if k < wd then nI (wd - 1 - k) else (-1 : Int32), w)) (fun w => w) (fun k => [v / 2 ^ (wd - 1 - k) % 2]) wd (fun k hk L w hP hb => by
    obtain ⟨h1, h2⟩ := hP
    obtain ⟨b, tp⟩ := w
    have h1 : b = nI L.length := h1
    subst h1
    rw [if_pos hk]
    show ∃ w', fMo_put_L4 ly (nI v) (nI (wd - 1 - k)) (nI L.length) tp = _ ∧ _
    unfold fMo_put_L4
    rw [bit_at hv (by omega), if_neg (by simp (disch := omega) only [nlit, nrm]; omega), dn_s hk]
    rcases h2 with ⟨rfl, h3⟩ | ⟨rfl, h3⟩
    · rw [if_pos rfl, nI_s]
      exact ⟨(nI (L.length + 1), tp), rfl, by rw [List.length_append]; rfl, Or.inl ⟨rfl, h3⟩⟩
    · have hb := hb rfl
      rw [List.length_singleton] at hb
      have h3 : ∀ i, i < L.length → tp i = nI (L.getD i 0) := h3
      have hr : rowIs tp (nI L.length) L := ⟨rfl, h3⟩
      rw [if_neg (by decide), gdI_n (by omega) (by omega), gdI_n (by omega) (by omega), nI_clamp (by omega : L.length < 2 ^ 31), nI_s]
      have hm : v / 2 ^ (wd - 1 - k) % 2 < 2 := Nat.mod_lt _ (by omega)
      refine ⟨(nI (L.length + 1), upd tp L.length (nI (v / 2 ^ (wd - 1 - k) % 2))), ?_, by rw [List.length_append]; rfl, Or.inr ⟨rfl, ?_⟩⟩
      · by_cases c : v / 2 ^ (wd - 1 - k) % 2 = 1
        · rw [c, if_pos (show nI 1 = 1 from rfl)]
          rfl
        · have c : v / 2 ^ (wd - 1 - k) % 2 = 0 := by omega
          rw [c, if_neg (by decide)]
          rfl
      · have := (hr.push (v / 2 ^ (wd - 1 - k) % 2)).2
        exact this) (fun w => by
    rw [if_neg (by omega)]
    show fMo_put_L4 ly (nI v) (-1) w.1 w.2 = _
    unfold fMo_put_L4
    rw [if_pos (by decide)]) L w hP hb
  refine ⟨w', ?_, h2⟩
  show fMo_put ly w.1 w.2 (nI v) (nI wd) = _
  unfold fMo_put
  rw [if_pos hw0] at h1
  have h1 : itrO (un3 (fMo_put_L4 ly (nI v))) (nI (wd - 1), w.1, w.2) = some (w'.1, w'.2) := h1
  rw [show (1 : Int32) = nI 1 from rfl, pk_sub (a := wd) (b := 1) (by omega), bd2_of h1]
/-- marks: what stands in a sixteenth, as a number -/
def mkS (l : List Nat) (k : Nat) : Nat → Nat
  | 0 => 0
  | i + 1 => mkS l k i + if l.getD i 0 / 16 = k then 2 ^ (15 - l.getD i 0 % 16) else 0
theorem mkS_app (l m : List Nat) (k : Nat) : ∀ i, i ≤ l.length → mkS (l ++ m) k i = mkS l k i
  | 0, _ => rfl
  | i + 1, h => by
    unfold mkS
    rw [mkS_app l m k i (by omega), getD_app_l (by omega)]
theorem mkS_snoc (l : List Nat) (v k : Nat) : mkS (l ++ [v]) k (l ++ [v]).length = mkS l k l.length + if v / 16 = k then 2 ^ (15 - v % 16) else 0 := by
  rw [List.length_append, List.length_singleton]
  have h := getD_app_r (L := l) (M := [v]) (i := 0)
  rw [Nat.add_zero] at h
  have h : (l ++ [v]).getD l.length 0 = v := h
  show mkS (l ++ [v]) k l.length + (if (l ++ [v]).getD l.length 0 / 16 = k then 2 ^ (15 - (l ++ [v]).getD l.length 0 % 16) else 0) = _
  rw [mkS_app l [v] k _ (Nat.le_refl _), h]
theorem mkS_rng (B : List Nat) {k : Nat} : ∀ V, mkS ((List.range V).filter (pres B)) k ((List.range V).filter (pres B)).length = if V ≤ 16 * k then 0 else if V ≤ 16 * k + 16 then hN (fun i => if 16 * k + i ∈ B then 1 else 0) (V - 16 * k) * 2 ^ (16 - (V - 16 * k)) else fld B k
  | 0 => by rw [if_pos (Nat.zero_le _)]; rfl
  | V + 1 => by
    have ih := mkS_rng B (k := k) V
    have hstep : mkS ((List.range (V + 1)).filter (pres B)) k ((List.range (V + 1)).filter (pres B)).length = mkS ((List.range V).filter (pres B)) k ((List.range V).filter (pres B)).length + if V ∈ B ∧ V / 16 = k then 2 ^ (15 - V % 16) else 0 := by
      by_cases hv : V ∈ B
      · have hf : (List.range (V + 1)).filter (pres B) = (List.range V).filter (pres B) ++ [V] := by
          rw [List.range_succ, List.filter_append]
          congr 1
          simp [pres, hv]
        rw [hf, mkS_snoc]
        by_cases c : V / 16 = k
        · rw [if_pos c, if_pos ⟨hv, c⟩]
        · rw [if_neg c, if_neg (fun q => c q.2)]
      · have hf : (List.range (V + 1)).filter (pres B) = (List.range V).filter (pres B) := by
          rw [List.range_succ, List.filter_append]
          simp [pres, hv]
        rw [hf, if_neg (fun q => hv q.1), Nat.add_zero]
    rw [hstep, ih]
    by_cases c1 : V + 1 ≤ 16 * k
    · rw [if_pos c1, if_pos (by omega), if_neg (by omega)]
    · rw [if_neg c1]
      by_cases c2 : V + 1 ≤ 16 * k + 16
      · rw [if_pos c2]
        have e1 : V / 16 = k := by omega
        have e2 : V % 16 = V - 16 * k := by omega
        have e3 : 16 * k + (V - 16 * k) = V := by omega
        rw [show V + 1 - 16 * k = (V - 16 * k) + 1 by omega, hN_s, e3]
        have hl : (if V ≤ 16 * k then 0 else if V ≤ 16 * k + 16 then hN (fun i => if 16 * k + i ∈ B then 1 else 0) (V - 16 * k) * 2 ^ (16 - (V - 16 * k)) else fld B k) = hN (fun i => if 16 * k + i ∈ B then 1 else 0) (V - 16 * k) * 2 ^ (16 - (V - 16 * k)) := by
          by_cases c3 : V ≤ 16 * k
          · rw [if_pos c3, show V - 16 * k = 0 by omega]
            simp [hN]
          · rw [if_neg c3, if_pos (by omega)]
        rw [hl, show 16 - (V - 16 * k) = (16 - (V - 16 * k + 1)) + 1 by omega, Nat.pow_succ, e2, show 15 - (V - 16 * k) = 16 - (V - 16 * k + 1) by omega]
        generalize 2 ^ (16 - (V - 16 * k + 1)) = P
        generalize hN (fun i => if 16 * k + i ∈ B then 1 else 0) (V - 16 * k) = h
        have ea : h * (P * 2) = 2 * h * P := by rw [Nat.mul_comm P 2, ← Nat.mul_assoc, Nat.mul_comm h 2]
        by_cases hv : V ∈ B
        · rw [if_pos ⟨hv, e1⟩, if_pos hv, ea, Nat.add_mul, Nat.one_mul]
        · rw [if_neg (fun q => hv q.1), if_neg hv, ea, Nat.add_zero, Nat.add_zero]
      · rw [if_neg c2, if_neg (by omega : ¬ (V ∈ B ∧ V / 16 = k)), Nat.add_zero, if_neg (by omega)]
        by_cases c3 : V ≤ 16 * k + 16
        · rw [if_pos c3, show V - 16 * k = 16 by omega, Nat.sub_self, Nat.pow_zero, Nat.mul_one]
          rfl
        · rw [if_neg c3]
theorem mkS_map (B : List Nat) {k : Nat} (hk : k < 16) : mkS (mapL B) k (mapL B).length = fld B k := by
  have := mkS_rng B (k := k) 256
  rw [if_neg (by omega)] at this
  by_cases c : 256 ≤ 16 * k + 16
  · rw [if_pos c, show 256 - 16 * k = 16 by omega, Nat.sub_self, Nat.pow_zero, Nat.mul_one] at this
    exact this
  · rw [if_neg c] at this
    exact this
theorem marks_ok {B : List Nat} {mv : Nat → Int32} (hm : rowIs mv (nI (mapL B).length) (mapL B)) {k : Nat} (hk : k < 16) : fMo_marks (nI (mapL B).length) mv (nI k) = some (nI (fld B k)) := by
  have hml := mapL_len B
  have k1 : itrO (un2 (fMo_marks_L4 (nI (mapL B).length) mv (nI k))) ((0 : Int32), (0 : Int32)) = some (nI (fld B k)) := by
    refine lp_c (step := un2 (fMo_marks_L4 (nI (mapL B).length) mv (nI k))) (fun i => (nI (mkS (mapL B) k i), nI i)) (nI (fld B k)) (mapL B).length (fun i hi => ?_) ?_ 0 (by omega)
    · show fMo_marks_L4 (nI (mapL B).length) mv (nI k) (nI _) (nI i) = _
      unfold fMo_marks_L4
      have hg := hm.2 i hi
      have hv : (mapL B).getD i 0 < 256 := mapL_lt hi
      generalize hx : (mapL B).getD i 0 = x at hg hv
      have e1 : nI x / (16 : Int32) = nI (x / 16) := by simp (disch := omega) only [nlit, nrm]
      have e2 : (1 : Int32) <<< (((15 : Int32) - (nI x - nI x / (16 : Int32) * (16 : Int32))) &&& 31) = nI (2 ^ (15 - x % 16)) := by
        rw [e1, show (16 : Int32) = nI 16 from rfl, pk_mul, pk_sub (a := x) (b := x / 16 * 16) (by omega), show (15 : Int32) = nI 15 from rfl, pk_sub (a := 15) (b := x - x / 16 * 16) (by omega), show 15 - (x - x / 16 * 16) = 15 - x % 16 by omega]
        exact shl1 _ (by omega)
      have es : mkS (mapL B) k (i + 1) = mkS (mapL B) k i + if x / 16 = k then 2 ^ (15 - x % 16) else 0 := by
        rw [← hx]; rfl
      rw [if_neg (by simp (disch := omega) only [nlit, nrm]; omega), gdI_n (by omega) (by omega), gdI_n (by omega) (by omega), nI_clamp (by omega : i < 2 ^ 31), hg, e2, e1, es, nI_s]
      by_cases c : x / 16 = k
      · rw [if_pos c, if_pos (by rw [c]), nI_add]
      · rw [if_neg c, if_neg (by simp (disch := omega) only [nlit, nrm]; exact c)]
        exact il2 (Int32.add_zero _) rfl
    · show fMo_marks_L4 (nI (mapL B).length) mv (nI k) (nI _) (nI (mapL B).length) = _
      unfold fMo_marks_L4
      rw [if_pos (by simp (disch := omega) only [nlit, nrm]; omega), mkS_map B hk]
  unfold fMo_marks
  rw [bd1_of k1]
section MS
variable {S : List Nat} {K : Nat} {tv lv cv : Nat → Int32}
theorem layLengths_ok (hS : ∀ x ∈ S, x < K) (hl : S.length ≤ 301) (hK2 : 2 ≤ K) (hK : K ≤ 258) {t : Nat} (ht : t < 3) (hL : ∀ k, k < K → lv (258 * (12 + t) + k) = nI (lenS S K 4 t k)) : Em (PM ly tp0) (ly = 1) (tblB (lenS S K 4 t) K) (fun w => fMo_layLengths (nI (K - 2)) ly w.1 w.2 lv (nI (258 * (12 + t)))) := by
  intro L w hP hb
  have hlen := lenS_ok hS hl hK2 hK 4 t
  unfold tblB at hb ⊢
  rw [List.length_append] at hb
  generalize lenS S K 4 t = len at hlen hb hL ⊢
  have eK : nI (K - 2) + (2 : Int32) = nI K := by simp only [nlit, nrm]; exact nI_c (by omega)
  have hl0 := hlen 0 (by omega)
  obtain ⟨w1, k1, h1⟩ := mput_ok (v := len 0) (wd := 5) (by omega) (by omega) (by omega) L w hP (fun q => by have := hb q; omega)
  obtain ⟨w2, k2, h2⟩ := em_loop (PM ly tp0) (ly = 1) (step := un4 (fMo_layLengths_L15 (nI (K - 2)) ly lv (nI (258 * (12 + t))))) (fun k w => (nI (len (k - 1)), nI k, w)) (fun w => w) (lnB len) K (fun k hk L w hP hb => by
    have q1 := hlen k hk
    have q2 := hlen (k - 1) (by omega)
    have hg := hL k hk
    have ek : nI (258 * (12 + t)) + nI k = nI (258 * (12 + t) + k) := nI_add _ _
    unfold lnB at hb
    simp only [List.length_append, List.length_singleton] at hb
    obtain ⟨w3, k3, h3⟩ := em_loop (PM ly tp0) (ly = 1) (step := un3 (fMo_layLengths_L25 ly lv (nI (258 * (12 + t))) (nI k))) (fun i w => (nI (len (k - 1) + i), w)) (fun w => (nI (len (k - 1) + (len k - len (k - 1))), w)) (fun _ => bitN 2 2) (len k - len (k - 1)) (fun i hi L w hP hb => by
      obtain ⟨w', h1, h2⟩ := mput_ok (v := 2) (wd := 2) (by omega) (by omega) (by omega) L w hP hb
      refine ⟨w', ?_, h2⟩
      show fMo_layLengths_L25 ly lv (nI (258 * (12 + t))) (nI k) (nI (len (k - 1) + i)) w.1 w.2 = _
      unfold fMo_layLengths_L25
      have h1 : fMo_put ly w.1 w.2 2 2 = some (w'.1, w'.2) := h1
      rw [ek, gdI_n (by omega) (by omega), nI_clamp (by omega : 258 * (12 + t) + k < 2 ^ 31), hg, if_neg (by simp (disch := omega) only [nlit, nrm]; omega), bd2_of h1, nI_s]
      rfl) (fun w => by
      show fMo_layLengths_L25 ly lv (nI (258 * (12 + t))) (nI k) (nI (len (k - 1) + (len k - len (k - 1)))) w.1 w.2 = _
      unfold fMo_layLengths_L25
      rw [ek, gdI_n (by omega) (by omega), nI_clamp (by omega : 258 * (12 + t) + k < 2 ^ 31), hg, if_pos (by simp (disch := omega) only [nlit, nrm]; omega)]) L w hP (fun q => by have := hb q; omega)
    obtain ⟨w4, k4, h4⟩ := em_loop (PM ly tp0) (ly = 1) (step := un3 (fMo_layLengths_L49 ly lv (nI (258 * (12 + t))) (nI k))) (fun i w => (nI (len (k - 1) + (len k - len (k - 1)) - i), w)) (fun w => (nI (len k), w)) (fun _ => bitN 3 2) (len (k - 1) - len k) (fun i hi L w hP hb => by
      obtain ⟨w', h1, h2⟩ := mput_ok (v := 3) (wd := 2) (by omega) (by omega) (by omega) L w hP hb
      refine ⟨w', ?_, h2⟩
      show fMo_layLengths_L49 ly lv (nI (258 * (12 + t))) (nI k) (nI (len (k - 1) + (len k - len (k - 1)) - i)) w.1 w.2 = _
      unfold fMo_layLengths_L49
      have h1 : fMo_put ly w.1 w.2 3 2 = some (w'.1, w'.2) := h1
      rw [ek, gdI_n (by omega) (by omega), nI_clamp (by omega : 258 * (12 + t) + k < 2 ^ 31), hg, if_neg (by simp (disch := omega) only [nlit, nrm]; omega), bd2_of h1, sb_m1 (by omega : 0 < len (k - 1) + (len k - len (k - 1)) - i)]
      rfl) (fun w => by
      show fMo_layLengths_L49 ly lv (nI (258 * (12 + t))) (nI k) (nI (len (k - 1) + (len k - len (k - 1)) - (len (k - 1) - len k))) w.1 w.2 = _
      unfold fMo_layLengths_L49
      rw [show len (k - 1) + (len k - len (k - 1)) - (len (k - 1) - len k) = len k by omega, ek, gdI_n (by omega) (by omega), nI_clamp (by omega : 258 * (12 + t) + k < 2 ^ 31), hg, if_pos (by simp (disch := omega) only [nlit, nrm]; omega)]) _ w3 h3 (fun q => by have := hb q; rw [List.length_append]; omega)
    obtain ⟨w5, k5, h5⟩ := mput_ok (v := 0) (wd := 1) (by omega) (by omega) (by omega) _ w4 h4 (fun q => by have := hb q; simp only [List.length_append]; show _ + 1 ≤ _; omega)
    refine ⟨w5, ?_, by unfold lnB; rw [← List.append_assoc, ← List.append_assoc]; exact h5⟩
    show fMo_layLengths_L15 (nI (K - 2)) ly lv (nI (258 * (12 + t))) (nI (len (k - 1))) (nI k) w.1 w.2 = _
    unfold fMo_layLengths_L15
    have k3 : itrO (un3 (fMo_layLengths_L25 ly lv (nI (258 * (12 + t))) (nI k))) (nI (len (k - 1)), w.1, w.2) = some (nI (len (k - 1) + (len k - len (k - 1))), w3.1, w3.2) := k3
    have k4 : itrO (un3 (fMo_layLengths_L49 ly lv (nI (258 * (12 + t))) (nI k))) (nI (len (k - 1) + (len k - len (k - 1))), w3.1, w3.2) = some (nI (len k), w4.1, w4.2) := k4
    have k5 : fMo_put ly w4.1 w4.2 0 1 = some (w5.1, w5.2) := k5
    rw [eK, if_neg (by simp (disch := omega) only [nlit, nrm]; omega), bd3_of k3, bd3_of k4, bd2_of k5, nI_s]
    rfl) (fun w => by
    show fMo_layLengths_L15 (nI (K - 2)) ly lv (nI (258 * (12 + t))) _ (nI K) w.1 w.2 = _
    unfold fMo_layLengths_L15
    rw [eK, if_pos (by simp (disch := omega) only [nlit, nrm]; omega)]) _ w1 h1 (fun q => by have := hb q; rw [List.length_append]; omega)
  refine ⟨w2, ?_, by rw [← List.append_assoc]; exact h2⟩
  show fMo_layLengths (nI (K - 2)) ly w.1 w.2 lv (nI (258 * (12 + t))) = _
  unfold fMo_layLengths
  have hg : lv (258 * (12 + t)) = nI (len 0) := hL 0 (by omega)
  have k1 : fMo_put ly w.1 w.2 (nI (len 0)) 5 = some (w1.1, w1.2) := k1
  have k2 : itrO (un4 (fMo_layLengths_L15 (nI (K - 2)) ly lv (nI (258 * (12 + t))))) (nI (len 0), (0 : Int32), w1.1, w1.2) = some (w2.1, w2.2) := k2
  rw [gdI_n (by omega) (by omega), nI_clamp (by omega : 258 * (12 + t) < 2 ^ 31), hg, bd2_of k1, bd2_of k2]
theorem layChoices_ok (hS0 : S.length ≠ 0) (hl : S.length ≤ 301) (hT4 : ∀ g, g < nGr S → tv (124 + g) = nI (tkS S K 4 g)) {l0 : Nat → Int32} (h0 : ∀ i, i < nTb S → l0 i = nI i) : ∀ L w, PM ly tp0 L w → (ly = 1 → L.length + (chB S K).length ≤ 1500) → ∃ w' ol', itrO (un4 (fMo_lay_L127 (nI (nGr S)) tv ly)) ((0 : Int32), w.1, w.2, l0) = some (w'.1, w'.2, ol') ∧ PM ly tp0 (L ++ chB S K) w' := by
  intro L w hP hb
  have hG := nGr_le hl
  have hT3 := nTb_le S
  have hT := fun g => tkS_lt (K := K) hS0 4 g
  obtain ⟨w1, k1, h1⟩ := em_loop (PM ly tp0) (ly = 1) (step := un4 (fMo_lay_L127 (nI (nGr S)) tv ly)) (fun g w => (nI g, w.1, w.2, chV S K l0 g)) (fun w => (w.1, w.2, chV S K l0 (nGr S))) (fun g => catN (fun _ => [1]) (chP S K g) ++ [0]) (nGr S) (fun g hg L w hP hb => by
    have hp := chP_lt S K hT g
    have hv := chV_ok hT h0 g
    have hTg := hT g
    have htv := hT4 g hg
    have eg : (124 : Int32) + nI g = nI (124 + g) := nI_add 124 g
    rw [List.length_append, List.length_singleton] at hb
    obtain ⟨w1, k1, h1⟩ := em_loop (PM ly tp0) (ly = 1) (step := un3 (fMo_lay_L138 tv ly (nI g) (chV S K l0 g))) (fun k w => (nI k, w)) (fun w => (nI (chP S K g), w)) (fun _ => [1]) (chP S K g) (fun k hk L w hP hb => by
      obtain ⟨w', h1, h2⟩ := mput_ok (v := 1) (wd := 1) (by omega) (by omega) (by omega) L w hP hb
      refine ⟨w', ?_, h2⟩
      show fMo_lay_L138 tv ly (nI g) (chV S K l0 g) (nI k) w.1 w.2 = _
      unfold fMo_lay_L138
      have h1 : fMo_put ly w.1 w.2 1 1 = some (w'.1, w'.2) := h1
      have hne : chF S K g k ≠ tkS S K 4 g := fnd_min (chF S K g) (tkS S K 4 g) (nTb S) k hk
      have hlt := chF_lt S K hT g k (by omega)
      rw [eg, gdI_n (by omega) (by omega), gdI_n (by omega) (by omega), nI_clamp (by omega : k < 2 ^ 31), nI_clamp (by omega : 124 + g < 2 ^ 31), htv, hv k (by omega), if_neg (by simp (disch := omega) only [nlit, nrm]; exact hne), bd2_of h1, nI_s]) (fun w => by
      show fMo_lay_L138 tv ly (nI g) (chV S K l0 g) (nI (chP S K g)) w.1 w.2 = _
      unfold fMo_lay_L138
      have he : chF S K g (chP S K g) = tkS S K 4 g := fnd_at (chF S K g) (tkS S K 4 g) (nTb S) hp
      rw [eg, gdI_n (by omega) (by omega), gdI_n (by omega) (by omega), nI_clamp (by omega : chP S K g < 2 ^ 31), nI_clamp (by omega : 124 + g < 2 ^ 31), htv, hv _ hp, he, if_pos rfl]) L w hP (fun q => by have := hb q; omega)
    obtain ⟨w2, k2, h2⟩ := mput_ok (v := 0) (wd := 1) (by omega) (by omega) (by omega) _ w1 h1 (fun q => by have := hb q; rw [List.length_append]; show _ + 1 ≤ _; omega)
    refine ⟨w2, ?_, by rw [← List.append_assoc]; exact h2⟩
    show fMo_lay_L127 (nI (nGr S)) tv ly (nI g) w.1 w.2 (chV S K l0 g) = _
    unfold fMo_lay_L127
    have k1 : itrO (un3 (fMo_lay_L138 tv ly (nI g) (chV S K l0 g))) ((0 : Int32), w.1, w.2) = some (nI (chP S K g), w1.1, w1.2) := k1
    have k2 : fMo_put ly w1.1 w1.2 0 1 = some (w2.1, w2.2) := k2
    have e3 := fMo_toFront_ok (N := 3) (p := chP S K g) (f := chV S K l0 g) (by omega) (by omega)
    rw [if_neg (by simp (disch := omega) only [nlit, nrm]; omega), bd3_of k1, bd2_of k2, bd2_of e3, nI_s]
    rfl) (fun w => by
    show fMo_lay_L127 (nI (nGr S)) tv ly (nI (nGr S)) w.1 w.2 _ = _
    unfold fMo_lay_L127
    rw [if_pos (by simp (disch := omega) only [nlit, nrm]; omega)]) L w hP hb
  exact ⟨w1, _, k1, h1⟩
theorem laySymbols_ok {sv : Nat → Int32} (hs : rowIs sv (nI S.length) S) (hS : ∀ x ∈ S, x < K) (hS0 : S.length ≠ 0) (hl : S.length ≤ 301) (hK2 : 2 ≤ K) (hK : K ≤ 258) (hT4 : ∀ g, g < nGr S → tv (124 + g) = nI (tkS S K 4 g)) (hL : ∀ t, t < nTb S → ∀ k, k < K → lv (258 * (12 + t) + k) = nI (lenS S K 4 t k)) (hC : ∀ t, t < nTb S → ∀ k, k < K → cv (258 * t + k) = nI (cod (lenS S K 4 t) K k)) : Em (PM ly tp0) (ly = 1) (symB S K) (fun w => itrO (un3 (fMo_lay_L223 (nI S.length) sv lv tv cv ly)) ((0 : Int32), w)) := by
  have hT3 := nTb_le S
  exact em_loop (PM ly tp0) (ly = 1) (step := un3 (fMo_lay_L223 (nI S.length) sv lv tv cv ly)) (fun k w => (nI k, w)) (fun w => w) (fun i => bitN (cod (lenS S K 4 (tkS S K 4 (i / 10))) K (S.getD i 0)) (lenS S K 4 (tkS S K 4 (i / 10)) (S.getD i 0))) S.length (fun i hi L w hP hb => by
    have hx := hS _ (getD_mem hi)
    have hg := hs.2 i hi
    have hT := tkS_lt (K := K) hS0 4 (i / 10)
    have hc := cod_le hS hl hK2 hK (tkS S K 4 (i / 10)) hx
    have hle := lenS_ok hS hl hK2 hK 4 (tkS S K 4 (i / 10)) _ hx
    have htv := hT4 (i / 10) (by unfold nGr; omega)
    have hlv := hL _ hT _ hx
    have hcv := hC _ hT _ hx
    obtain ⟨w', h1, h2⟩ := mput_ok (v := cod (lenS S K 4 (tkS S K 4 (i / 10))) K (S.getD i 0)) (wd := lenS S K 4 (tkS S K 4 (i / 10)) (S.getD i 0)) (by omega) (by omega) (by omega) L w hP hb
    refine ⟨w', ?_, h2⟩
    show fMo_lay_L223 (nI S.length) sv lv tv cv ly (nI i) w.1 w.2 = _
    unfold fMo_lay_L223
    have h1 : fMo_put ly w.1 w.2 (nI (cod (lenS S K 4 (tkS S K 4 (i / 10))) K (S.getD i 0))) (nI (lenS S K 4 (tkS S K 4 (i / 10)) (S.getD i 0))) = some (w'.1, w'.2) := h1
    have ei : (124 : Int32) + nI i / (10 : Int32) = nI (124 + i / 10) := by simp (disch := omega) only [nlit, nrm]
    have e1 : (258 : Int32) * nI (tkS S K 4 (i / 10)) + nI (S.getD i 0) = nI (258 * tkS S K 4 (i / 10) + S.getD i 0) := by simp only [nlit, nrm]
    have e2 : (258 : Int32) * ((12 : Int32) + nI (tkS S K 4 (i / 10))) + nI (S.getD i 0) = nI (258 * (12 + tkS S K 4 (i / 10)) + S.getD i 0) := by simp only [nlit, nrm]
    rw [if_neg (by simp (disch := omega) only [nlit, nrm]; omega), ei, nI_clamp (by omega : 124 + i / 10 < 2 ^ 31), nI_clamp (by omega : i < 2 ^ 31), htv, hg, e1, e2, gdI_n (by omega) (by omega), gdI_n (by omega) (by omega), gdI_n (by omega) (by omega), gdI_n (by omega) (by omega), gdI_n (by omega) (by omega), nI_clamp (by omega : 258 * tkS S K 4 (i / 10) + S.getD i 0 < 2 ^ 31), nI_clamp (by omega : 258 * (12 + tkS S K 4 (i / 10)) + S.getD i 0 < 2 ^ 31), hlv, hcv, bd2_of h1, nI_s]) (fun w => by
    show fMo_lay_L223 (nI S.length) sv lv tv cv ly (nI S.length) w.1 w.2 = _
    unfold fMo_lay_L223
    rw [if_pos (by simp (disch := omega) only [nlit, nrm]; omega)])
end MS
theorem lay_ok {B : List Nat} (hBl : B.length ≠ 0) (hB3 : B.length ≤ 300) (hB : ∀ v ∈ B, v < 256) (hly : ly = 0 ∨ ly = 1) {mv sv lv tv cv : Nat → Int32} (hm : rowIs mv (nI (mapL B).length) (mapL B)) (hs : rowIs sv (nI (symL B).length) (symL B)) (hW : WorkOK B lv tv cv) (tp rw : Nat → Int32) (hP : PM ly tp0 [] ((0 : Int32), tp)) (hb : ly = 1 → (tapeB B).length ≤ 1500) : ∃ ld' tp' rw', fMo_lay (nI (mapL B).length) (nI (symL B).length) (nI (nGr (symL B))) (nI (nTb (symL B))) tp mv sv lv tv cv rw ly = some (ly, ld', tp', rw') ∧ PM ly tp0 (tapeB B) (ld', tp') := by
  have hsl := symL_len B
  have hl : (symL B).length ≤ 301 := by omega
  have hS : ∀ x ∈ symL B, x < KB B := symL_lt hB
  have hS0 := symL_ne hBl
  have hG := nGr_le hl
  have hT3 := nTb_le (symL B)
  have hK := KB_le B
  have hK2 := KB_ge B
  obtain ⟨hW1, hW2, hW3⟩ := hW
  have hT4 : ∀ g, g < nGr (symL B) → tv (124 + g) = nI (tkS (symL B) (KB B) 4 g) := fun g hg => hW1 3 (by omega) g hg
  have hL : ∀ t, t < nTb (symL B) → ∀ k, k < KB B → lv (258 * (12 + t) + k) = nI (lenS (symL B) (KB B) 4 t k) := fun t ht k hk => hW2 4 (by omega) t ht k hk
  have en : nI (mapL B).length = nI (KB B - 2) := nI_c (by unfold KB; omega)
  unfold tapeB at hb ⊢
  simp only [List.length_append] at hb
  have k0 : itrO (un2 (fMo_lay_L14 (nI (mapL B).length) mv)) ((0 : Int32), (0 : Int32)) = some (nI (hN (fun k => if fld B k = 0 then 0 else 1) 16)) := by
    refine lp_c (step := un2 (fMo_lay_L14 (nI (mapL B).length) mv)) (fun i => (nI (hN (fun k => if fld B k = 0 then 0 else 1) i), nI i)) _ 16 (fun i hi => ?_) ?_ 0 (by omega)
    · show fMo_lay_L14 (nI (mapL B).length) mv (nI _) (nI i) = _
      unfold fMo_lay_L14
      have hf := fld_lt B i
      rw [if_neg (by simp (disch := omega) only [nlit, nrm]; omega), bd1_of (marks_ok hm hi), hN_s, nI_s]
      by_cases c : fld B i = 0
      · rw [if_pos c, if_pos (by rw [c]; decide)]
        refine il2 ?_ rfl
        simp only [nlit, nrm]
      · rw [if_neg c, if_neg (by simp (disch := omega) only [nlit, nrm]; omega)]
        refine il2 ?_ rfl
        simp only [nlit, nrm]
    · rfl
  have hh : hN (fun k => if fld B k = 0 then 0 else 1) 16 < 2 ^ 16 := hN_lt (fun k _ => by show (if fld B k = 0 then 0 else 1) < 2; split <;> omega)
  have eb : bitN (hN (fun k => if fld B k = 0 then 0 else 1) 16) 16 = mapB1 B := bitN_hN (fun k _ => by show (if fld B k = 0 then 0 else 1) < 2; split <;> omega)
  obtain ⟨w1, k1, h1⟩ := mput_ok (v := hN (fun k => if fld B k = 0 then 0 else 1) 16) (wd := 16) (by omega) (by omega) (by omega) [] ((0 : Int32), tp) hP (fun q => by have := hb q; rw [eb, List.length_nil]; omega)
  rw [eb, List.nil_append] at h1
  obtain ⟨w2, k2, h2⟩ := em_loop (PM ly tp0) (ly = 1) (step := un3 (fMo_lay_L53 (nI (mapL B).length) mv ly)) (fun k w => (nI k, w)) (fun w => w) (fun k => if fld B k = 0 then [] else bitN (fld B k) 16) 16 (fun k hk L w hP hb => by
    have hf := fld_lt B k
    by_cases c : fld B k = 0
    · refine ⟨w, ?_, by rw [if_pos c, List.append_nil]; exact hP⟩
      show fMo_lay_L53 (nI (mapL B).length) mv ly (nI k) w.1 w.2 = _
      unfold fMo_lay_L53
      rw [if_neg (by simp (disch := omega) only [nlit, nrm]; omega), bd1_of (marks_ok hm hk), if_pos (by rw [c]; decide), nI_s]
    · rw [if_neg c] at hb
      obtain ⟨w', h1, h2⟩ := mput_ok (v := fld B k) (wd := 16) (by omega) (by omega) (by omega) L w hP hb
      refine ⟨w', ?_, by rw [if_neg c]; exact h2⟩
      show fMo_lay_L53 (nI (mapL B).length) mv ly (nI k) w.1 w.2 = _
      unfold fMo_lay_L53
      have h1 : fMo_put ly w.1 w.2 (nI (fld B k)) 16 = some (w'.1, w'.2) := h1
      rw [if_neg (by simp (disch := omega) only [nlit, nrm]; omega), bd1_of (marks_ok hm hk), if_neg (by simp (disch := omega) only [nlit, nrm]; omega), bd1_of (marks_ok hm hk), bd2_of h1, nI_s]) (fun w => rfl) _ w1 h1 (fun q => by have := hb q; unfold mapB2 at this; omega)
  obtain ⟨w3, k3, h3⟩ := mput_ok (v := nTb (symL B)) (wd := 2) (by omega) (by omega) (by omega) _ w2 h2 (fun q => by have := hb q; rw [List.length_append]; unfold mapB2 at this; omega)
  obtain ⟨w4, k4, h4⟩ := mput_ok (v := nGr (symL B)) (wd := 5) (by omega) (by omega) (by omega) _ w3 h3 (fun q => by have := hb q; simp only [List.length_append]; unfold mapB2 at this; omega)
  obtain ⟨l0, k5, hl0⟩ : ∃ r, itrO (un2 (fMo_lay_L104 (nI (nTb (symL B))))) ((0 : Int32), rw) = some r ∧ ∀ i, i < nTb (symL B) → r i = nI i := by
    refine lp_up (step := un2 (fMo_lay_L104 (nI (nTb (symL B))))) (fun i s => ∃ r, s = (nI i, r) ∧ ∀ j, j < i → r j = nI j) _ (nTb (symL B)) (fun i s hi hs1 => ?_) (fun s hs1 => ?_) 0 _ (by omega) ⟨rw, rfl, fun j q => by omega⟩
    · obtain ⟨r, rfl, h1⟩ := hs1
      refine Or.inl ⟨(nI (i + 1), upd r i (nI i)), ?_, _, rfl, fun j hj => ?_⟩
      · show fMo_lay_L104 (nI (nTb (symL B))) (nI i) r = _
        unfold fMo_lay_L104
        simp (disch := omega) only [nlit, nrm, gdI_n, if_neg]
      · by_cases e : j = i
        · rw [e, upd_s]
        · rw [upd_n e, h1 j (by omega)]
    · obtain ⟨r, rfl, h1⟩ := hs1
      refine ⟨r, ?_, h1⟩
      show fMo_lay_L104 (nI (nTb (symL B))) (nI (nTb (symL B))) r = _
      unfold fMo_lay_L104
      simp (disch := omega) only [nrm, if_pos, ↓reduceIte]
  obtain ⟨w6, ol6, k6, h6⟩ := layChoices_ok hS0 hl hT4 hl0 _ w4 h4 (fun q => by have := hb q; simp only [List.length_append]; unfold mapB2 at this; omega)
  obtain ⟨w7, k7, h7⟩ := em_loop (PM ly tp0) (ly = 1) (step := un3 (fMo_lay_L195 (nI (mapL B).length) (nI (nTb (symL B))) lv ly)) (fun k w => (nI k, w)) (fun w => w) (fun t => tblB (lenS (symL B) (KB B) 4 t) (KB B)) (nTb (symL B)) (fun t ht L w hP hb => by
    obtain ⟨w', h1, h2⟩ := layLengths_ok hS hl hK2 hK (t := t) (by omega) (hL t ht) L w hP hb
    refine ⟨w', ?_, h2⟩
    show fMo_lay_L195 (nI (mapL B).length) (nI (nTb (symL B))) lv ly (nI t) w.1 w.2 = _
    unfold fMo_lay_L195
    have h1 : fMo_layLengths (nI (KB B - 2)) ly w.1 w.2 lv (nI (258 * (12 + t))) = some (w'.1, w'.2) := h1
    rw [if_neg (by simp (disch := omega) only [nlit, nrm]; omega), en, show (258 : Int32) * ((12 : Int32) + nI t) = nI (258 * (12 + t)) by simp only [nlit, nrm], bd2_of h1, nI_s]) (fun w => by
    show fMo_lay_L195 (nI (mapL B).length) (nI (nTb (symL B))) lv ly (nI (nTb (symL B))) w.1 w.2 = _
    unfold fMo_lay_L195
    rw [if_pos (by simp (disch := omega) only [nlit, nrm]; omega)]) _ w6 h6 (fun q => by have := hb q; simp only [List.length_append]; unfold mapB2 at this; omega)
  obtain ⟨w8, k8, h8⟩ := laySymbols_ok hs hS hS0 hl hK2 hK hT4 hL hW3 _ w7 h7 (fun q => by have := hb q; simp only [List.length_append]; unfold mapB2 at this; omega)
  refine ⟨w8.1, w8.2, ol6, ?_, h8⟩
  unfold fMo_lay
  have k1 : fMo_put ly 0 tp (nI (hN (fun k => if fld B k = 0 then 0 else 1) 16)) 16 = some (w1.1, w1.2) := k1
  have k2 : itrO (un3 (fMo_lay_L53 (nI (mapL B).length) mv ly)) ((0 : Int32), w1.1, w1.2) = some (w2.1, w2.2) := k2
  have k3 : fMo_put ly w2.1 w2.2 (nI (nTb (symL B))) 2 = some (w3.1, w3.2) := k3
  have k4 : fMo_put ly w3.1 w3.2 (nI (nGr (symL B))) 5 = some (w4.1, w4.2) := k4
  have k7 : itrO (un3 (fMo_lay_L195 (nI (mapL B).length) (nI (nTb (symL B))) lv ly)) ((0 : Int32), w6.1, w6.2) = some (w7.1, w7.2) := k7
  have k8 : itrO (un3 (fMo_lay_L223 (nI (symL B).length) sv lv tv cv ly)) ((0 : Int32), w7.1, w7.2) = some (w8.1, w8.2) := k8
  rw [gdB_of hly, bd1_of k0, bd2_of k1, bd2_of k2, bd2_of k3, bd2_of k4, bd1_of k5, bd3_of k6, bd2_of k7, bd2_of k8]
end ML
