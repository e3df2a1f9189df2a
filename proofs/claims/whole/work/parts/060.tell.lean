/-! ===== the class: what it tells of the block ===== -/
theorem fFront_add_ok {n : Nat} {f : Nat → Int32} {c : Int32} {L : List Nat} (h : rowIs f c L) (hl : L.length < n) (hn : n < 2 ^ 31) (x : Int32) : fFront_add n c f x = some (nI (L.length + 1), upd f L.length x) := by
  obtain ⟨rfl, -⟩ := h
  unfold fFront_add
  simp (disch := omega) only [show Int32.ofNat n = nI n from rfl, nlit, nrm, gdI_n, if_neg]
theorem fFront_find_ok {n N : Nat} {f : Nat → Int32} {l : Nat → Nat} {v : Nat} (hf : ∀ i, i < n → f i = nI (l i)) (hl : ∀ i, i < n → l i < 2 ^ 31) (hn : n ≤ N) (hN : N < 2 ^ 31) (hv : v < 2 ^ 31) (h : fnd l v n < n) : fFront_find N (nI n) f (nI v) = some (nI (fnd l v n)) := by
  have hp := fnd_at l v n h
  have hm := fnd_min l v n
  generalize hpe : fnd l v n = p at h hp hm ⊢
  have key : itrO (un1 (fFront_find_L2 N (nI n) f (nI v))) (0 : Int32) = some (.inr (nI p)) := by
    obtain ⟨r, h1, h2⟩ := lp_up (step := un1 (fFront_find_L2 N (nI n) f (nI v))) (fun k s => s = nI k) (fun r => r = .inr (nI p)) p (fun k s hk e => by
      subst e
      refine Or.inl ⟨nI (k + 1), ?_, rfl⟩
      have h3 := hl k (by omega)
      have h4 := hm k hk
      show fFront_find_L2 N (nI n) f (nI v) (nI k) = _
      unfold fFront_find_L2
      simp (disch := omega) only [nlit, nrm, gdI_n, if_neg, hf]) (fun s e => by
      subst e
      refine ⟨.inr (nI p), ?_, rfl⟩
      have h3 := hl p h
      show fFront_find_L2 N (nI n) f (nI v) (nI p) = _
      unfold fFront_find_L2
      simp (disch := omega) only [nlit, nrm, gdI_n, if_neg, if_pos, ↓reduceIte, hf]) 0 _ (Nat.zero_le _) rfl
    have h1 : itrO (un1 (fFront_find_L2 N (nI n) f (nI v))) (0 : Int32) = some r := h1
    rw [h1, h2]
  unfold fFront_find
  rw [key]
  rfl
theorem fFront_bringUp_ok {n N p : Nat} {f : Nat → Int32} (hp : p < n) (hn : n ≤ N) (hN : N < 2 ^ 31) : fFront_bringUp N (nI n) f (nI p) = some (f p, mtf f p) := by
  have key : itrO (un2 (fFront_bringUp_L23 N)) (nI p, f) = some (fun i => if 0 < i ∧ i ≤ p then f (i - 1) else f i) := by
    have := lp_c (step := un2 (fFront_bringUp_L23 N)) (fun k => (nI (p - k), fun i => if p - k < i ∧ i ≤ p then f (i - 1) else f i)) (fun i => if 0 < i ∧ i ≤ p then f (i - 1) else f i) p (fun k hk => by
      show fFront_bringUp_L23 N (nI (p - k)) _ = _
      unfold fFront_bringUp_L23
      simp (disch := omega) only [nlit, nrm, gdI_n, if_neg]
      refine il2 (nI_c (by omega)) ?_
      funext i
      unfold upd
      dsimp only
      by_cases h1 : i = p - k
      · rw [if_pos h1, if_pos (by omega)]
        congr 1
        omega
      · rw [if_neg h1]
        by_cases h2 : p - k < i ∧ i ≤ p
        · rw [if_pos h2, if_pos (by omega)]
        · rw [if_neg h2, if_neg (by omega)]) (by
      show fFront_bringUp_L23 N (nI (p - p)) _ = _
      unfold fFront_bringUp_L23
      simp (disch := omega) only [nlit, nrm, if_pos, ↓reduceIte]
      refine ir1 ?_
      funext i
      rw [show p - p = 0 by omega]) 0 (Nat.zero_le _)
    have e : (fun i => if p - 0 < i ∧ i ≤ p then f (i - 1) else f i) = f := by
      funext i
      rw [if_neg (by omega)]
    rw [show p - 0 = p by omega] at this
    rw [show p - 0 = p by omega] at e
    rw [e] at this
    exact this
  unfold fFront_bringUp
  simp (disch := omega) only [nlit, nrm, gdI_n, if_neg, if_pos, ↓reduceIte]
  rw [bd1_of key]
  congr 2
  funext i
  unfold upd mtf
  dsimp only
  by_cases h1 : i = 0
  · rw [if_pos h1, if_pos h1]
  · rw [if_neg h1, if_neg h1]
    by_cases h2 : i ≤ p
    · rw [if_pos (by omega), if_pos h2]
    · rw [if_neg (by omega), if_neg h2]
theorem fTelling_mark_ok {pr : Nat → Int32} {v : Nat} (h : v < 256) : fTelling_mark pr (nI v) = some (upd pr v 1) := by
  unfold fTelling_mark
  rw [nar1]
  simp (disch := omega) only [nlit, nrm, gdI_n, if_neg]
theorem fTelling_tellMap_ok {bc : Int32} {bv : Nat → Int32} {B : List Nat} (hb : rowIs bv bc B) (hB : ∀ v ∈ B, v < 256) (hl : B.length ≤ 300) (mv lv pr : Nat → Int32) : ∃ mv' lv' pr', fTelling_tellMap bc bv mv lv pr = some (nI (mapL B).length, mv', nI (mapL B).length, lv', pr') ∧ rowIs mv' (nI (mapL B).length) (mapL B) ∧ rowIs lv' (nI (mapL B).length) (mapL B) ∧ ∀ v, v < 256 → pr' v = if v ∈ B then 1 else 0 := by
  have k1 : itrO (un2 fTelling_tellMap_L16) ((0 : Int32), pr) = some (fun i => if i < 256 then 0 else pr i) := by
    have := lp_c (step := un2 fTelling_tellMap_L16) (fun k => (nI k, fun i => if i < k then 0 else pr i)) (fun i => if i < 256 then 0 else pr i) 256 (fun k hk => by
      show fTelling_tellMap_L16 (nI k) _ = _
      unfold fTelling_tellMap_L16
      rw [nar0]
      simp (disch := omega) only [nlit, nrm, gdI_n, if_neg]
      refine il2 rfl ?_
      funext i
      unfold upd
      dsimp only
      by_cases h1 : i = k
      · rw [if_pos h1, if_pos (by omega)]
      · rw [if_neg h1]
        by_cases h2 : i < k
        · rw [if_pos h2, if_pos (by omega)]
        · rw [if_neg h2, if_neg (by omega)]) (by
      show fTelling_tellMap_L16 (nI 256) _ = _
      unfold fTelling_tellMap_L16
      simp (disch := omega) only [nlit, nrm, if_pos, ↓reduceIte]) 0 (by omega)
    have e : (fun i : Nat => if i < 0 then (0 : Int32) else pr i) = pr := by
      funext i
      rw [if_neg (by omega)]
    rw [e] at this
    exact this
  have hp0 : ∀ v, v < 256 → (fun i : Nat => if i < 256 then (0 : Int32) else pr i) v = 0 := fun v h => if_pos h
  generalize (fun i : Nat => if i < 256 then (0 : Int32) else pr i) = p0 at k1 hp0
  have hbc := hb.1
  subst hbc
  have k2 : itrO (un2 (fTelling_tellMap_L38 (nI B.length) bv)) ((0 : Int32), p0) = some (fun v => if v ∈ B then 1 else p0 v) := by
    have := lp_c (step := un2 (fTelling_tellMap_L38 (nI B.length) bv)) (fun k => (nI k, fun v => if v ∈ B.take k then 1 else p0 v)) (fun v => if v ∈ B then 1 else p0 v) B.length (fun k hk => by
      show fTelling_tellMap_L38 (nI B.length) bv (nI k) _ = _
      unfold fTelling_tellMap_L38
      rw [bd1_of (x := fRow_size (nI B.length)) rfl]
      simp (disch := omega) only [nrm, if_neg]
      rw [bd1_of (fRow_get_ok hb hl (by decide) hk), bd1_of (fTelling_mark_ok (hB _ (getD_mem hk)))]
      simp (disch := omega) only [nlit, nrm]
      refine il2 rfl ?_
      funext v
      rw [getD_take_succ hk]
      unfold upd
      dsimp only
      by_cases h1 : v = B.getD k 0
      · rw [if_pos h1, if_pos (by rw [h1]; simp)]
      · rw [if_neg h1]
        by_cases h2 : v ∈ B.take k
        · rw [if_pos h2, if_pos (List.mem_append_left _ h2)]
        · rw [if_neg h2, if_neg (by simp only [List.mem_append, List.mem_singleton, not_or]; exact ⟨h2, h1⟩)]) (by
      show fTelling_tellMap_L38 (nI B.length) bv (nI B.length) _ = _
      unfold fTelling_tellMap_L38
      rw [bd1_of (x := fRow_size (nI B.length)) rfl]
      simp (disch := omega) only [nrm, if_pos, ↓reduceIte, List.take_length]) 0 (by omega)
    have e : (fun v : Nat => if v ∈ B.take 0 then (1 : Int32) else p0 v) = p0 := by
      funext i
      simp
    rw [e] at this
    exact this
  have hp1 : ∀ v, v < 256 → (fun v : Nat => if v ∈ B then (1 : Int32) else p0 v) v = if v ∈ B then 1 else 0 := fun v h => by
    show (if v ∈ B then (1 : Int32) else p0 v) = _
    rw [hp0 v h]
  generalize (fun v : Nat => if v ∈ B then (1 : Int32) else p0 v) = p1 at k2 hp1
  obtain ⟨r, k3, mv', lv', hr, hm, hli⟩ : ∃ r, itrO (un5 (fTelling_tellMap_L69 p1)) ((0 : Int32), (0 : Int32), mv, (0 : Int32), lv) = some r ∧ ∃ mv' lv', r = (nI (mapL B).length, mv', nI (mapL B).length, lv') ∧ rowIs mv' (nI (mapL B).length) (mapL B) ∧ rowIs lv' (nI (mapL B).length) (mapL B) := by
    refine lp_up (step := un5 (fTelling_tellMap_L69 p1)) (fun v s => ∃ mv' lv', s = (nI v, nI ((List.range v).filter (pres B)).length, mv', nI ((List.range v).filter (pres B)).length, lv') ∧ rowIs mv' (nI ((List.range v).filter (pres B)).length) ((List.range v).filter (pres B)) ∧ rowIs lv' (nI ((List.range v).filter (pres B)).length) ((List.range v).filter (pres B))) _ 256 (fun v s hv hs => ?_) (fun s hs => ?_) 0 _ (by omega) ⟨mv, lv, rfl, rowIs.nil, rowIs.nil⟩
    · obtain ⟨m1, l1, rfl, h1, h2⟩ := hs
      have hlen : ((List.range v).filter (pres B)).length ≤ v := by
        have := List.length_filter_le (pres B) (List.range v)
        rwa [List.length_range] at this
      refine Or.inl ?_
      by_cases hvB : v ∈ B
      · have hf : (List.range (v + 1)).filter (pres B) = (List.range v).filter (pres B) ++ [v] := by
          rw [List.range_succ, List.filter_append]
          congr 1
          simp [pres, hvB]
        rw [hf]
        refine ⟨(nI (v + 1), nI (((List.range v).filter (pres B)).length + 1), _, nI (((List.range v).filter (pres B)).length + 1), _), ?_, _, _, by rw [List.length_append]; rfl, by rw [List.length_append]; exact h1.push v, by rw [List.length_append]; exact h2.push v⟩
        show fTelling_tellMap_L69 p1 (nI v) _ _ _ _ = _
        unfold fTelling_tellMap_L69
        rw [bd2_of (fRow_add_ok h1 (by omega) (by decide) (nI v)), bd2_of (fFront_add_ok h2 (by omega) (by decide) (nI v))]
        have h9 := hp1 v hv
        rw [if_pos hvB] at h9
        simp (disch := omega) only [nlit, nrm, gdI_n, if_neg, h9]
      · have hf : (List.range (v + 1)).filter (pres B) = (List.range v).filter (pres B) := by
          rw [List.range_succ, List.filter_append]
          simp [pres, hvB]
        rw [hf]
        refine ⟨(nI (v + 1), nI ((List.range v).filter (pres B)).length, m1, nI ((List.range v).filter (pres B)).length, l1), ?_, m1, l1, rfl, h1, h2⟩
        show fTelling_tellMap_L69 p1 (nI v) _ _ _ _ = _
        unfold fTelling_tellMap_L69
        have h9 := hp1 v hv
        rw [if_neg hvB] at h9
        simp (disch := omega) only [nlit, nrm, gdI_n, if_neg, if_pos, ↓reduceIte, h9]
    · obtain ⟨m1, l1, rfl, h1, h2⟩ := hs
      refine ⟨_, ?_, m1, l1, rfl, h1, h2⟩
      show fTelling_tellMap_L69 p1 (nI 256) _ _ _ _ = _
      unfold fTelling_tellMap_L69
      simp (disch := omega) only [nlit, nrm, if_pos, ↓reduceIte]
      rfl
  subst hr
  refine ⟨mv', lv', p1, ?_, hm, hli, hp1⟩
  unfold fTelling_tellMap
  rw [bd1_of (x := fRow_clear) rfl, bd1_of (x := fFront_clear) rfl, bd1_of k1, bd1_of k2, bd4_of k3]
theorem fTelling_tellPlaces_ok {bv : Nat → Int32} {B : List Nat} (hb : rowIs bv (nI B.length) B) (hB : ∀ v ∈ B, v < 256) (hl : B.length ≤ 300) {lv : Nat → Int32} (hlv : rowIs lv (nI (mapL B).length) (mapL B)) (pv : Nat → Int32) : ∃ pv' lv', fTelling_tellPlaces (nI B.length) bv pv (nI (mapL B).length) lv = some (nI B.length, pv', lv') ∧ rowIs pv' (nI B.length) (plL B) := by
  have hn := mapL_len B
  obtain ⟨r, k1, pv', lv', hr, hp⟩ : ∃ r, itrO (un4 (fTelling_tellPlaces_L9 (nI B.length) bv (nI (mapL B).length))) ((0 : Int32), (0 : Int32), pv, lv) = some r ∧ ∃ pv' lv', r = (nI B.length, pv', lv') ∧ rowIs pv' (nI B.length) (plL B) := by
    refine lp_up (step := un4 (fTelling_tellPlaces_L9 (nI B.length) bv (nI (mapL B).length))) (fun i s => i ≤ B.length ∧ ∃ pv' lv', s = (nI i, nI i, pv', lv') ∧ rowIs pv' (nI i) (plF B (mapL B).length (map0 B) i).1 ∧ ∀ q, q < (mapL B).length → lv' q = nI ((plF B (mapL B).length (map0 B) i).2 q)) _ B.length (fun i s hi hs => ?_) (fun s hs => ?_) 0 _ (by omega) ⟨by omega, pv, lv, rfl, rowIs.nil, fun q hq => hlv.2 q hq⟩
    · obtain ⟨-, p1, l1, rfl, h1, h2⟩ := hs
      refine Or.inl ?_
      have hf := plF_fnd hB hi
      have hlt : ∀ q, q < (mapL B).length → (plF B (mapL B).length (map0 B) i).2 q < 2 ^ 31 := fun q hq => by
        have := plF_lt hB i (by omega) q hq
        omega
      have hv := hB _ (getD_mem hi)
      have hpl := plF_len B (mapL B).length (map0 B) i
      refine ⟨(nI (i + 1), nI (i + 1), upd p1 i (nI (fnd (plF B (mapL B).length (map0 B) i).2 (B.getD i 0) (mapL B).length)), mtf l1 (fnd (plF B (mapL B).length (map0 B) i).2 (B.getD i 0) (mapL B).length)), ?_, by omega, _, _, rfl, ?_, ?_⟩
      · show fTelling_tellPlaces_L9 (nI B.length) bv (nI (mapL B).length) (nI i) _ _ _ = _
        unfold fTelling_tellPlaces_L9
        rw [bd1_of (x := fRow_size (nI B.length)) rfl]
        simp (disch := omega) only [nrm, if_neg]
        rw [bd1_of (fRow_get_ok hb hl (by decide) hi), bd1_of (fFront_find_ok h2 hlt hn (by decide) (by omega) hf), bd2_of (fFront_bringUp_ok hf hn (by decide)), bd2_of (fRow_add_ok h1 (by omega) (by decide) _)]
        simp (disch := omega) only [nlit, nrm, hpl]
      · have := h1.push (fnd (plF B (mapL B).length (map0 B) i).2 (B.getD i 0) (mapL B).length)
        rw [hpl] at this
        exact this
      · intro q hq
        show mtf l1 _ q = nI (mtf _ _ q)
        unfold mtf
        split
        · exact h2 _ hf
        · split
          · exact h2 _ (by omega)
          · exact h2 _ hq
    · obtain ⟨-, p1, l1, rfl, h1, h2⟩ := hs
      refine ⟨_, ?_, p1, l1, rfl, h1⟩
      show fTelling_tellPlaces_L9 (nI B.length) bv (nI (mapL B).length) (nI B.length) _ _ _ = _
      unfold fTelling_tellPlaces_L9
      rw [bd1_of (x := fRow_size (nI B.length)) rfl]
      simp (disch := omega) only [nrm, if_pos, ↓reduceIte]
  subst hr
  refine ⟨pv', lv', ?_, hp⟩
  unfold fTelling_tellPlaces
  rw [bd1_of (x := fRow_clear) rfl, bd3_of k1]
theorem fTelling_tellZeros_ok : ∀ (r : Nat) {f : Nat → Int32} {L : List Nat}, r < 2 ^ 31 → rowIs f (nI L.length) L → L.length + (dg r).length ≤ 301 → ∃ f', fTelling_tellZeros (nI L.length) f (nI r) = some (nI (L ++ dg r).length, f') ∧ rowIs f' (nI (L ++ dg r).length) (L ++ dg r) := by
  have key : ∀ (r : Nat) {f : Nat → Int32} {L : List Nat}, r < 2 ^ 31 → rowIs f (nI L.length) L → L.length + (dg r).length ≤ 301 → ∃ f', itrO (un3 fTelling_tellZeros_L2) (nI r, nI L.length, f) = some (nI (L ++ dg r).length, f') ∧ rowIs f' (nI (L ++ dg r).length) (L ++ dg r) := by
    intro r
    induction r using Nat.strongRecOn with
    | _ r ih =>
      intro f L hr h hlen
      by_cases h0 : r = 0
      · subst h0
        refine ⟨f, ?_, ?_⟩
        · refine itrO_1 ?_
          show fTelling_tellZeros_L2 (nI 0) _ _ = _
          unfold fTelling_tellZeros_L2
          simp (disch := omega) only [nlit, nrm, if_pos, ↓reduceIte, dg_0, List.append_nil]
        · rw [dg_0, List.append_nil]
          exact h
      · rw [dg_s h0, List.length_cons] at hlen
        obtain ⟨f', h1, h2⟩ := ih ((r - 1) / 2) (by omega) (f := upd f L.length (nI ((r - 1) % 2))) (L := L ++ [(r - 1) % 2]) (by omega) (by rw [List.length_append]; exact h.push _) (by rw [List.length_append]; simp only [List.length_singleton]; omega)
        rw [List.append_assoc, List.singleton_append, ← dg_s h0] at h1 h2
        refine ⟨f', ?_, h2⟩
        rw [← h1]
        refine itrO_s ?_
        show fTelling_tellZeros_L2 (nI r) _ _ = _
        unfold fTelling_tellZeros_L2
        have e : (nI r - 1) - (nI r - 1) / 2 * 2 = nI ((r - 1) % 2) := by
          simp (disch := omega) only [nlit, nrm]
          congr 1
          omega
        rw [e, bd2_of (fRow_add_ok h (by omega) (by decide) _)]
        simp (disch := omega) only [nlit, nrm, if_neg, List.length_append, List.length_singleton]
  intro r f L hr h hlen
  obtain ⟨f', h1, h2⟩ := key r hr h hlen
  refine ⟨f', ?_, h2⟩
  unfold fTelling_tellZeros
  rw [bd2_of h1]
theorem fTelling_tellSymbols_ok {B : List Nat} (hB : ∀ v ∈ B, v < 256) (hl : B.length ≤ 300) {pv : Nat → Int32} (hp : rowIs pv (nI B.length) (plL B)) (sv : Nat → Int32) : ∃ sv', fTelling_tellSymbols (nI (mapL B).length) (nI B.length) pv sv = some (nI (symL B).length, sv') ∧ rowIs sv' (nI (symL B).length) (symL B) := by
  have hn := mapL_len B
  have hpl := plL_len B
  have hplt : ∀ i, i < B.length → (plL B).getD i 0 < 256 := by
    intro i hi
    have := plL_lt hB hi
    omega
  unfold fTelling_tellSymbols
  rw [bd1_of (x := fRow_clear) rfl, bd1_of (x := fRow_size (nI B.length)) rfl]
  by_cases h0 : B.length = 0
  · refine ⟨sv, ?_, ?_⟩
    · simp (disch := omega) only [nlit, nrm, if_pos, ↓reduceIte]
      unfold symL
      rw [if_pos h0]
      rfl
    · unfold symL
      rw [if_pos h0]
      exact rowIs.nil
  · simp (disch := omega) only [nlit, nrm, if_neg]
    obtain ⟨r, k1, sv1, hr, hs1⟩ : ∃ r, itrO (un4 (fTelling_tellSymbols_L22 (nI B.length) pv)) (nI 0, nI 0, nI 0, sv) = some r ∧ ∃ sv', r = (nI (syF (plL B) B.length).1, nI (syF (plL B) B.length).2.length, sv') ∧ rowIs sv' (nI (syF (plL B) B.length).2.length) (syF (plL B) B.length).2 := by
      refine lp_up (step := un4 (fTelling_tellSymbols_L22 (nI B.length) pv)) (fun i s => ∃ sv', s = (nI (syF (plL B) i).1, nI i, nI (syF (plL B) i).2.length, sv') ∧ rowIs sv' (nI (syF (plL B) i).2.length) (syF (plL B) i).2) _ B.length (fun i s hi hs => ?_) (fun s hs => ?_) 0 _ (by omega) ⟨sv, rfl, rowIs.nil⟩
      · obtain ⟨s1, rfl, h1⟩ := hs
        have hle := syF_len (plL B) i
        have hdg := dg_len (syF (plL B) i).1
        have hpi := hplt i hi
        refine Or.inl ?_
        by_cases hz : (plL B).getD i 0 = 0
        · refine ⟨(nI ((syF (plL B) i).1 + 1), nI (i + 1), nI (syF (plL B) i).2.length, s1), ?_, s1, by rw [syF_z hz], by rw [syF_z hz]; exact h1⟩
          show fTelling_tellSymbols_L22 (nI B.length) pv _ (nI i) _ _ = _
          unfold fTelling_tellSymbols_L22
          rw [bd1_of (x := fRow_size (nI B.length)) rfl]
          simp (disch := omega) only [nrm, if_neg]
          rw [bd1_of (fRow_get_ok hp (by omega) (by decide) (by omega)), hz]
          simp (disch := omega) only [nlit, nrm, if_pos, ↓reduceIte]
        · obtain ⟨f', h2, h3⟩ := fTelling_tellZeros_ok (syF (plL B) i).1 (by omega) h1 (by omega)
          have h4 := h3.push ((plL B).getD i 0 + 1)
          have e : syF (plL B) (i + 1) = (0, (syF (plL B) i).2 ++ dg (syF (plL B) i).1 ++ [(plL B).getD i 0 + 1]) := by
            rw [syF_n hz]
          rw [e]
          refine ⟨(nI 0, nI (i + 1), nI (((syF (plL B) i).2 ++ dg (syF (plL B) i).1).length + 1), _), ?_, _, by rw [List.length_append (bs := [(plL B).getD i 0 + 1])]; rfl, by rw [List.length_append (bs := [(plL B).getD i 0 + 1])]; exact h4⟩
          show fTelling_tellSymbols_L22 (nI B.length) pv _ (nI i) _ _ = _
          unfold fTelling_tellSymbols_L22
          rw [bd1_of (x := fRow_size (nI B.length)) rfl]
          simp (disch := omega) only [nrm, if_neg]
          rw [bd1_of (fRow_get_ok hp (by omega) (by decide) (by omega))]
          simp (disch := omega) only [nlit, nrm, if_neg]
          rw [bd2_of h2, bd2_of (fRow_add_ok h3 (by simp only [List.length_append]; omega) (by decide) _)]
      · obtain ⟨s1, rfl, h1⟩ := hs
        refine ⟨_, ?_, s1, rfl, h1⟩
        show fTelling_tellSymbols_L22 (nI B.length) pv _ (nI B.length) _ _ = _
        unfold fTelling_tellSymbols_L22
        rw [bd1_of (x := fRow_size (nI B.length)) rfl]
        simp (disch := omega) only [nrm, if_pos, ↓reduceIte]
    subst hr
    have hle := syF_len (plL B) B.length
    have hdg := dg_len (syF (plL B) B.length).1
    obtain ⟨f', h2, h3⟩ := fTelling_tellZeros_ok (syF (plL B) B.length).1 (by omega) hs1 (by omega)
    have h4 := h3.push ((mapL B).length + 1)
    rw [bd3_of k1, bd2_of h2, bd1_of (x := fRow_size (nI (mapL B).length)) rfl]
    simp (disch := omega) only [nrm]
    rw [bd2_of (fRow_add_ok h3 (by simp only [List.length_append]; omega) (by decide) _)]
    have e : symL B = (syF (plL B) B.length).2 ++ dg (syF (plL B) B.length).1 ++ [(mapL B).length + 1] := by
      unfold symL
      rw [if_neg h0]
    rw [e]
    refine ⟨_, ?_, by rw [List.length_append (bs := [(mapL B).length + 1])]; exact h4⟩
    rw [List.length_append (bs := [(mapL B).length + 1])]
    rfl
/-- what tell() leaves: map, places, symbols, presence -/
theorem fTelling_tell_ok {bc : Int32} {bv : Nat → Int32} {B : List Nat} (hb : rowIs bv bc B) (hB : ∀ v ∈ B, v < 256) (hl : B.length ≤ 300) (mv pv sv lv pr : Nat → Int32) : ∃ mv' pv' sv' lv' pr', fTelling_tell bc bv mv pv sv lv pr = some (nI (mapL B).length, mv', nI B.length, pv', nI (symL B).length, sv', nI (mapL B).length, lv', pr') ∧ rowIs mv' (nI (mapL B).length) (mapL B) ∧ rowIs pv' (nI B.length) (plL B) ∧ rowIs sv' (nI (symL B).length) (symL B) ∧ ∀ v, v < 256 → pr' v = if v ∈ B then 1 else 0 := by
  obtain ⟨mv', lv1, pr', h1, h2, h3, h4⟩ := fTelling_tellMap_ok hb hB hl mv lv pr
  have hbc := hb.1
  subst hbc
  obtain ⟨pv', lv', h5, h6⟩ := fTelling_tellPlaces_ok hb hB hl h3 pv
  obtain ⟨sv', h7, h8⟩ := fTelling_tellSymbols_ok hB hl h6 sv
  refine ⟨mv', pv', sv', lv', pr', ?_, h2, h6, h8, h4⟩
  unfold fTelling_tell
  rw [bd5_of h1, bd3_of h5, bd2_of h7]
