/-! ===== the reference: what it tells of the block ===== -/
theorem fMo_comes_ok {bv : Nat → Int32} {B : List Nat} (hb : rowIs bv (nI B.length) B) (hB : ∀ v ∈ B, v < 256) (hl : B.length ≤ 300) {v : Nat} (hv : v < 256) : fMo_comes (nI B.length) bv (nI v) = some (if v ∈ B then 1 else 0) := by
  have k1 : itrO (un2 (fMo_comes_L4 (nI B.length) bv (nI v))) ((0 : Int32), (0 : Int32)) = some (if v ∈ B then 1 else 0) := by
    have := lp_c (step := un2 (fMo_comes_L4 (nI B.length) bv (nI v))) (fun k => ((if v ∈ B.take k then (1 : Int32) else 0), nI k)) (if v ∈ B then 1 else 0) B.length (fun k hk => by
      show fMo_comes_L4 (nI B.length) bv (nI v) _ (nI k) = _
      unfold fMo_comes_L4
      have hg := hb.2 k hk
      have hlt := hB _ (getD_mem hk)
      rw [getD_take_succ hk]
      by_cases h2 : v ∈ B.take k
      · rw [if_pos h2, if_pos (List.mem_append_left _ h2)]
        simp (disch := omega) only [nlit, nrm, gdI_n, if_neg]
      · rw [if_neg h2]
        by_cases h1 : v = B.getD k 0
        · have hm : v ∈ B.take k ++ [B.getD k 0] := by rw [← h1]; simp
          rw [if_pos hm]
          simp (disch := omega) only [nlit, nrm, gdI_n, if_neg, if_pos, ↓reduceIte, hg]
        · have hm : ¬ v ∈ B.take k ++ [B.getD k 0] := by simp only [List.mem_append, List.mem_singleton, not_or]; exact ⟨h2, h1⟩
          rw [if_neg hm]
          have h3 : ¬ B.getD k 0 = v := fun e => h1 e.symm
          simp (disch := omega) only [nlit, nrm, gdI_n, if_neg, if_pos, ↓reduceIte, hg]) (by
      show fMo_comes_L4 (nI B.length) bv (nI v) _ (nI B.length) = _
      unfold fMo_comes_L4
      simp (disch := omega) only [nrm, if_pos, ↓reduceIte, List.take_length]) 0 (by omega)
    simp only [List.take_zero, List.not_mem_nil, if_false] at this
    exact this
  unfold fMo_comes
  rw [bd1_of k1]
  exact gdB_of (by by_cases h : v ∈ B <;> simp [h])
theorem fMo_findMap_ok {bv : Nat → Int32} {B : List Nat} (hb : rowIs bv (nI B.length) B) (hB : ∀ v ∈ B, v < 256) (hl : B.length ≤ 300) (mv : Nat → Int32) : ∃ mv', fMo_findMap (nI B.length) bv mv = some (nI (mapL B).length, mv') ∧ rowIs mv' (nI (mapL B).length) (mapL B) := by
  obtain ⟨r, k3, mv', hr, hm⟩ : ∃ r, itrO (un3 (fMo_findMap_L7 (nI B.length) bv)) ((0 : Int32), (0 : Int32), mv) = some r ∧ ∃ mv', r = (nI (mapL B).length, mv') ∧ rowIs mv' (nI (mapL B).length) (mapL B) := by
    refine lp_up (step := un3 (fMo_findMap_L7 (nI B.length) bv)) (fun v s => ∃ mv', s = (nI v, nI ((List.range v).filter (pres B)).length, mv') ∧ rowIs mv' (nI ((List.range v).filter (pres B)).length) ((List.range v).filter (pres B))) _ 256 (fun v s hv hs => ?_) (fun s hs => ?_) 0 _ (by omega) ⟨mv, rfl, rowIs.nil⟩
    · obtain ⟨m1, rfl, h1⟩ := hs
      have hlen : ((List.range v).filter (pres B)).length ≤ v := by
        have := List.length_filter_le (pres B) (List.range v)
        rwa [List.length_range] at this
      refine Or.inl ?_
      have hc := fMo_comes_ok hb hB hl hv
      by_cases hvB : v ∈ B
      · have hf : (List.range (v + 1)).filter (pres B) = (List.range v).filter (pres B) ++ [v] := by
          rw [List.range_succ, List.filter_append]
          congr 1
          simp [pres, hvB]
        rw [if_pos hvB] at hc
        rw [hf]
        refine ⟨(nI (v + 1), nI (((List.range v).filter (pres B)).length + 1), _), ?_, _, by rw [List.length_append]; rfl, by rw [List.length_append]; exact h1.push v⟩
        show fMo_findMap_L7 (nI B.length) bv (nI v) _ _ = _
        unfold fMo_findMap_L7
        rw [bd1_of hc]
        simp (disch := omega) only [nlit, nrm, gdI_n, if_neg]
      · have hf : (List.range (v + 1)).filter (pres B) = (List.range v).filter (pres B) := by
          rw [List.range_succ, List.filter_append]
          simp [pres, hvB]
        rw [if_neg hvB] at hc
        rw [hf]
        refine ⟨(nI (v + 1), nI ((List.range v).filter (pres B)).length, m1), ?_, m1, rfl, h1⟩
        show fMo_findMap_L7 (nI B.length) bv (nI v) _ _ = _
        unfold fMo_findMap_L7
        rw [bd1_of hc]
        simp (disch := omega) only [nlit, nrm, if_neg, if_pos, ↓reduceIte]
    · obtain ⟨m1, rfl, h1⟩ := hs
      refine ⟨_, ?_, m1, rfl, h1⟩
      show fMo_findMap_L7 (nI B.length) bv (nI 256) _ _ = _
      unfold fMo_findMap_L7
      simp (disch := omega) only [nlit, nrm, if_pos, ↓reduceIte]
      rfl
  subst hr
  refine ⟨mv', ?_, hm⟩
  unfold fMo_findMap
  rw [bd2_of k3]
theorem fMo_toFront_ok {N p : Nat} {f : Nat → Int32} (hp : p < N) (hN : N < 2 ^ 31) : fMo_toFront N f (nI p) = some (f p, mtf f p) := by
  have key : itrO (un2 (fMo_toFront_L7 N)) (nI p, f) = some (fun i => if 0 < i ∧ i ≤ p then f (i - 1) else f i) := by
    have := lp_c (step := un2 (fMo_toFront_L7 N)) (fun k => (nI (p - k), fun i => if p - k < i ∧ i ≤ p then f (i - 1) else f i)) (fun i => if 0 < i ∧ i ≤ p then f (i - 1) else f i) p (fun k hk => by
      show fMo_toFront_L7 N (nI (p - k)) _ = _
      unfold fMo_toFront_L7
      simp (disch := omega) only [nlit, nrm, gdI_n, if_neg]
      refine il2 (nI_c (by omega)) ?_
      funext i
      unfold upd
      dsimp only
      by_cases h1 : i = p - k
      · rw [if_pos h1, if_pos (by omega)]
        congr 1
        omega
      · rw [if_neg h1]
        by_cases h2 : p - k < i ∧ i ≤ p
        · rw [if_pos h2, if_pos (by omega)]
        · rw [if_neg h2, if_neg (by omega)]) (by
      show fMo_toFront_L7 N (nI (p - p)) _ = _
      unfold fMo_toFront_L7
      simp (disch := omega) only [nlit, nrm, if_pos, ↓reduceIte]
      refine ir1 ?_
      funext i
      rw [show p - p = 0 by omega]) 0 (Nat.zero_le _)
    have e : (fun i => if p - 0 < i ∧ i ≤ p then f (i - 1) else f i) = f := by
      funext i
      rw [if_neg (by omega)]
    rw [show p - 0 = p by omega] at this
    rw [show p - 0 = p by omega] at e
    rw [e] at this
    exact this
  unfold fMo_toFront
  simp (disch := omega) only [nlit, nrm, gdI_n]
  rw [bd1_of key]
  congr 2
  funext i
  unfold upd mtf
  dsimp only
  by_cases h1 : i = 0
  · rw [if_pos h1, if_pos h1]
  · rw [if_neg h1, if_neg h1]
    by_cases h2 : i ≤ p
    · rw [if_pos (by omega), if_pos h2]
    · rw [if_neg (by omega), if_neg h2]
theorem fMo_findPlaces_ok {bv : Nat → Int32} {B : List Nat} (hb : rowIs bv (nI B.length) B) (hB : ∀ v ∈ B, v < 256) (hl : B.length ≤ 300) {mv : Nat → Int32} (hmv : rowIs mv (nI (mapL B).length) (mapL B)) (pv lv : Nat → Int32) : ∃ pv' lv', fMo_findPlaces (nI B.length) (nI (mapL B).length) bv mv pv lv = some (pv', lv') ∧ rowIs pv' (nI B.length) (plL B) := by
  have hn := mapL_len B
  have k0 : ∃ l0, itrO (un2 (fMo_findPlaces_L2 (nI (mapL B).length) mv)) ((0 : Int32), lv) = some l0 ∧ ∀ q, q < (mapL B).length → l0 q = nI (map0 B q) := by
    refine lp_up (step := un2 (fMo_findPlaces_L2 (nI (mapL B).length) mv)) (fun k s => ∃ l0, s = (nI k, l0) ∧ ∀ q, q < k → l0 q = nI (map0 B q)) _ (mapL B).length (fun k s hk hs => ?_) (fun s hs => ?_) 0 _ (by omega) ⟨lv, rfl, fun q hq => by omega⟩
    · obtain ⟨l0, rfl, h1⟩ := hs
      refine Or.inl ⟨(nI (k + 1), upd l0 k (mv k)), ?_, _, rfl, fun q hq => ?_⟩
      · show fMo_findPlaces_L2 (nI (mapL B).length) mv (nI k) _ = _
        unfold fMo_findPlaces_L2
        simp (disch := omega) only [nlit, nrm, gdI_n, if_neg]
      · by_cases e : q = k
        · subst e
          rw [upd_s, hmv.2 q hk]
          rfl
        · rw [upd_n e, h1 q (by omega)]
    · obtain ⟨l0, rfl, h1⟩ := hs
      refine ⟨l0, ?_, h1⟩
      show fMo_findPlaces_L2 (nI (mapL B).length) mv (nI (mapL B).length) _ = _
      unfold fMo_findPlaces_L2
      simp (disch := omega) only [nrm, if_pos, ↓reduceIte]
  obtain ⟨l0, k0, hl0⟩ := k0
  obtain ⟨r, k1, pv', lv', hr, hp⟩ : ∃ r, itrO (un3 (fMo_findPlaces_L30 (nI B.length) bv)) ((0 : Int32), pv, l0) = some r ∧ ∃ pv' lv', r = (pv', lv') ∧ rowIs pv' (nI B.length) (plL B) := by
    refine lp_up (step := un3 (fMo_findPlaces_L30 (nI B.length) bv)) (fun i s => i ≤ B.length ∧ ∃ pv' lv', s = (nI i, pv', lv') ∧ rowIs pv' (nI i) (plF B (mapL B).length (map0 B) i).1 ∧ ∀ q, q < (mapL B).length → lv' q = nI ((plF B (mapL B).length (map0 B) i).2 q)) _ B.length (fun i s hi hs => ?_) (fun s hs => ?_) 0 _ (by omega) ⟨by omega, pv, l0, rfl, rowIs.nil, hl0⟩
    · obtain ⟨-, p1, l1, rfl, h1, h2⟩ := hs
      refine Or.inl ?_
      have hf := plF_fnd hB hi
      have hlt : ∀ q, q < (mapL B).length → (plF B (mapL B).length (map0 B) i).2 q < 2 ^ 31 := fun q hq => by
        have := plF_lt hB i (by omega) q hq
        omega
      have hv := hB _ (getD_mem hi)
      have hpl := plF_len B (mapL B).length (map0 B) i
      have hfa := fnd_at (plF B (mapL B).length (map0 B) i).2 (B.getD i 0) (mapL B).length hf
      have hfm := fnd_min (plF B (mapL B).length (map0 B) i).2 (B.getD i 0) (mapL B).length
      have hpush := h1.push (fnd (plF B (mapL B).length (map0 B) i).2 (B.getD i 0) (mapL B).length)
      rw [hpl] at hpush
      have hnext : plF B (mapL B).length (map0 B) (i + 1) = ((plF B (mapL B).length (map0 B) i).1 ++ [fnd (plF B (mapL B).length (map0 B) i).2 (B.getD i 0) (mapL B).length], mtf (plF B (mapL B).length (map0 B) i).2 (fnd (plF B (mapL B).length (map0 B) i).2 (B.getD i 0) (mapL B).length)) := rfl
      rw [hnext]
      generalize fnd (plF B (mapL B).length (map0 B) i).2 (B.getD i 0) (mapL B).length = p at hf hfa hfm hpush ⊢
      have hbi := hb.2 i hi
      have kp : itrO (un1 (fMo_findPlaces_L40 bv (nI i) l1)) (0 : Int32) = some (nI p) := by
        refine lp_c (step := un1 (fMo_findPlaces_L40 bv (nI i) l1)) (fun k => nI k) (nI p) p (fun k hk => ?_) ?_ 0 (by omega)
        · show fMo_findPlaces_L40 bv (nI i) l1 (nI k) = _
          unfold fMo_findPlaces_L40
          have h3 := hlt k (by omega)
          have h4 := hfm k hk
          have h5 := h2 k (by omega)
          simp (disch := omega) only [nlit, nrm, gdI_n, if_neg, hbi, h5]
        · show fMo_findPlaces_L40 bv (nI i) l1 (nI p) = _
          unfold fMo_findPlaces_L40
          have h3 := hlt p hf
          have h5 := h2 p hf
          simp (disch := omega) only [nlit, nrm, gdI_n, if_pos, ↓reduceIte, hbi, h5]
      refine ⟨(nI (i + 1), upd p1 i (nI p), mtf l1 p), ?_, by omega, _, _, rfl, hpush, ?_⟩
      · show fMo_findPlaces_L30 (nI B.length) bv (nI i) _ _ = _
        unfold fMo_findPlaces_L30
        simp (disch := omega) only [nrm, gdI_n, if_neg]
        rw [bd1_of kp, bd2_of (fMo_toFront_ok (by omega) (by decide))]
        simp (disch := omega) only [nlit, nrm, gdI_n]
      · intro q hq
        show mtf l1 _ q = nI (mtf _ _ q)
        unfold mtf
        split
        · exact h2 _ hf
        · split
          · exact h2 _ (by omega)
          · exact h2 _ hq
    · obtain ⟨-, p1, l1, rfl, h1, h2⟩ := hs
      refine ⟨_, ?_, p1, l1, rfl, h1⟩
      show fMo_findPlaces_L30 (nI B.length) bv (nI B.length) _ _ = _
      unfold fMo_findPlaces_L30
      simp (disch := omega) only [nrm, if_pos, ↓reduceIte]
  subst hr
  refine ⟨pv', lv', ?_, hp⟩
  unfold fMo_findPlaces
  rw [bd1_of k0, bd2_of k1]
theorem fMo_tellRun_ok : ∀ (r : Nat) {f : Nat → Int32} {L : List Nat}, r < 2 ^ 31 → rowIs f (nI L.length) L → L.length + (dg r).length ≤ 301 → ∃ f', fMo_tellRun (nI L.length) f (nI r) = some (nI (L ++ dg r).length, f') ∧ rowIs f' (nI (L ++ dg r).length) (L ++ dg r) := by
  have key : ∀ (r : Nat) {f : Nat → Int32} {L : List Nat}, r < 2 ^ 31 → rowIs f (nI L.length) L → L.length + (dg r).length ≤ 301 → ∃ f', itrO (un3 fMo_tellRun_L2) (nI r, nI L.length, f) = some (nI (L ++ dg r).length, f') ∧ rowIs f' (nI (L ++ dg r).length) (L ++ dg r) := by
    intro r
    induction r using Nat.strongRecOn with
    | _ r ih =>
      intro f L hr h hlen
      by_cases h0 : r = 0
      · subst h0
        refine ⟨f, ?_, ?_⟩
        · refine itrO_1 ?_
          show fMo_tellRun_L2 (nI 0) _ _ = _
          unfold fMo_tellRun_L2
          simp (disch := omega) only [nlit, nrm, if_pos, ↓reduceIte, dg_0, List.append_nil]
        · rw [dg_0, List.append_nil]
          exact h
      · rw [dg_s h0, List.length_cons] at hlen
        obtain ⟨f', h1, h2⟩ := ih ((r - 1) / 2) (by omega) (f := upd f L.length (nI ((r - 1) % 2))) (L := L ++ [(r - 1) % 2]) (by omega) (by rw [List.length_append]; exact h.push _) (by rw [List.length_append]; simp only [List.length_singleton]; omega)
        rw [List.append_assoc, List.singleton_append, ← dg_s h0] at h1 h2
        refine ⟨f', ?_, h2⟩
        rw [← h1]
        refine itrO_s ?_
        show fMo_tellRun_L2 (nI r) _ _ = _
        unfold fMo_tellRun_L2 fMo_tellRun_J26
        have e : nI r - nI r / 2 * 2 = nI (r % 2) := by
          simp (disch := omega) only [nlit, nrm]
          congr 1
          omega
        rw [e]
        rcases Nat.mod_two_eq_zero_or_one r with hm | hm
        · have e2 : (r - 1) % 2 = 1 := by omega
          rw [hm, e2]
          simp (disch := omega) only [nlit, nrm, gdI_n, if_neg, List.length_append, List.length_singleton]
        · have e2 : (r - 1) % 2 = 0 := by omega
          rw [hm, e2]
          simp (disch := omega) only [nlit, nrm, gdI_n, if_neg, if_pos, ↓reduceIte, List.length_append, List.length_singleton]
  intro r f L hr h hlen
  obtain ⟨f', h1, h2⟩ := key r hr h hlen
  refine ⟨f', ?_, h2⟩
  unfold fMo_tellRun
  rw [bd2_of h1]
theorem fMo_findSymbols_ok {B : List Nat} (hB : ∀ v ∈ B, v < 256) (hl : B.length ≤ 300) {pv : Nat → Int32} (hp : rowIs pv (nI B.length) (plL B)) (sv : Nat → Int32) : ∃ sv', fMo_findSymbols (nI B.length) (nI (mapL B).length) pv sv = some (nI (symL B).length, sv') ∧ rowIs sv' (nI (symL B).length) (symL B) := by
  have hn := mapL_len B
  have hpl := plL_len B
  have hplt : ∀ i, i < B.length → (plL B).getD i 0 < 256 := by
    intro i hi
    have := plL_lt hB hi
    omega
  obtain ⟨r, k1, sv1, hr, hs1⟩ : ∃ r, itrO (un4 (fMo_findSymbols_L9 (nI B.length) pv)) ((0 : Int32), (0 : Int32), (0 : Int32), sv) = some r ∧ ∃ sv', r = (nI (syF (plL B) B.length).1, nI (syF (plL B) B.length).2.length, sv') ∧ rowIs sv' (nI (syF (plL B) B.length).2.length) (syF (plL B) B.length).2 := by
    refine lp_up (step := un4 (fMo_findSymbols_L9 (nI B.length) pv)) (fun i s => ∃ sv', s = (nI (syF (plL B) i).1, nI i, nI (syF (plL B) i).2.length, sv') ∧ rowIs sv' (nI (syF (plL B) i).2.length) (syF (plL B) i).2) _ B.length (fun i s hi hs => ?_) (fun s hs => ?_) 0 _ (by omega) ⟨sv, rfl, rowIs.nil⟩
    · obtain ⟨s1, rfl, h1⟩ := hs
      have hle := syF_len (plL B) i
      have hdg := dg_len (syF (plL B) i).1
      have hpi := hplt i hi
      have hpv := hp.2 i (by omega)
      refine Or.inl ?_
      by_cases hz : (plL B).getD i 0 = 0
      · refine ⟨(nI ((syF (plL B) i).1 + 1), nI (i + 1), nI (syF (plL B) i).2.length, s1), ?_, s1, by rw [syF_z hz], by rw [syF_z hz]; exact h1⟩
        show fMo_findSymbols_L9 (nI B.length) pv _ (nI i) _ _ = _
        unfold fMo_findSymbols_L9
        rw [hz] at hpv
        simp (disch := omega) only [nlit, nrm, gdI_n, if_neg, if_pos, ↓reduceIte, hpv]
      · obtain ⟨f', h2, h3⟩ := fMo_tellRun_ok (syF (plL B) i).1 (by omega) h1 (by omega)
        have h4 := h3.push ((plL B).getD i 0 + 1)
        have e : syF (plL B) (i + 1) = (0, (syF (plL B) i).2 ++ dg (syF (plL B) i).1 ++ [(plL B).getD i 0 + 1]) := by
          rw [syF_n hz]
        have hll : ((syF (plL B) i).2 ++ dg (syF (plL B) i).1).length = (syF (plL B) i).2.length + (dg (syF (plL B) i).1).length := List.length_append
        rw [e]
        refine ⟨(nI 0, nI (i + 1), nI (((syF (plL B) i).2 ++ dg (syF (plL B) i).1).length + 1), _), ?_, _, by rw [List.length_append (bs := [(plL B).getD i 0 + 1])]; rfl, by rw [List.length_append (bs := [(plL B).getD i 0 + 1])]; exact h4⟩
        show fMo_findSymbols_L9 (nI B.length) pv _ (nI i) _ _ = _
        unfold fMo_findSymbols_L9
        rw [bd2_of h2]
        simp (disch := omega) only [nlit, nrm, gdI_n, if_neg, hpv]
    · obtain ⟨s1, rfl, h1⟩ := hs
      refine ⟨_, ?_, s1, rfl, h1⟩
      show fMo_findSymbols_L9 (nI B.length) pv _ (nI B.length) _ _ = _
      unfold fMo_findSymbols_L9
      simp (disch := omega) only [nrm, if_pos, ↓reduceIte]
  subst hr
  have hle := syF_len (plL B) B.length
  have hdg := dg_len (syF (plL B) B.length).1
  obtain ⟨f', h2, h3⟩ := fMo_tellRun_ok (syF (plL B) B.length).1 (by omega) hs1 (by omega)
  have h4 := h3.push ((mapL B).length + 1)
  have hll : ((syF (plL B) B.length).2 ++ dg (syF (plL B) B.length).1).length = (syF (plL B) B.length).2.length + (dg (syF (plL B) B.length).1).length := List.length_append
  unfold fMo_findSymbols
  rw [bd3_of k1, bd2_of h2]
  by_cases h0 : B.length = 0
  · have e : symL B = [] := by
      unfold symL
      rw [if_pos h0]
    have e2 : (syF (plL B) B.length).2 ++ dg (syF (plL B) B.length).1 = [] := by
      rw [h0]
      rfl
    rw [e2] at h3
    rw [e, e2]
    refine ⟨f', ?_, h3⟩
    simp (disch := omega) only [nlit, nrm, if_pos, ↓reduceIte]
  · have e : symL B = (syF (plL B) B.length).2 ++ dg (syF (plL B) B.length).1 ++ [(mapL B).length + 1] := by
      unfold symL
      rw [if_neg h0]
    rw [e]
    refine ⟨_, ?_, by rw [List.length_append (bs := [(mapL B).length + 1])]; exact h4⟩
    rw [List.length_append (bs := [(mapL B).length + 1])]
    simp (disch := omega) only [nlit, nrm, gdI_n, if_neg, List.length_singleton]
