/-! ===== the class: tables, symbols and the whole way back ===== -/
theorem nI_sub_lt0 {a b : Nat} (ha : a < 2 ^ 30) (hb : b < 2 ^ 30) : (nI a - nI b < (0 : Int32)) = (a < b) := by
  by_cases h : a < b
  · refine propext ⟨fun _ => h, fun _ => ?_⟩
    rw [Int32.lt_iff_toInt_lt, Int32.toInt_sub, nI_toInt (by omega), nI_toInt (by omega)]
    have e : ((a : Int) - (b : Int)).bmod (2 ^ 32) = (a : Int) - b := Int.bmod_eq_of_le (by omega) (by omega)
    rw [e, show (0 : Int32).toInt = 0 by decide]
    omega
  · refine propext ⟨fun q => ?_, fun q => absurd q h⟩
    rw [pk_sub (a := a) (b := b) (by omega), show (0 : Int32) = nI 0 from rfl, nI_lt' (by omega) (by omega)] at q
    omega
/-- codes and counts of a table -/
def CTB (K : Nat) (len : Nat → Nat) (ck cf : Int32) (lv cd cc cs : Nat → Int32) : Prop := ck = nI K ∧ cf = nI (fil len K) ∧ (∀ j, j < K → lv j = nI (len j)) ∧ (∀ j, j < K → cd j = nI (cod len K j)) ∧ (∀ l, l < 21 → cc l = nI (cnt len K l)) ∧ ∀ l, 1 ≤ l → l < 21 → cs l = nI (codN len K l 0)
section KI
variable {K : Nat} {len : Nat → Nat} {ck cf : Int32} {lv cd cc cs : Nat → Int32}
theorem cod_rng (hl : ∀ j, 1 ≤ len j ∧ len j ≤ 20) {k : Nat} (hk : k < K) : codN len K (len k) 0 ≤ cod len K k ∧ cod len K k < codN len K (len k) 0 + cnt len K (len k) := by
  unfold cod
  rw [codN_split len (len k) K k (by omega)]
  have h1 := cnt_mono len (len k) (a := k + 1) (b := K) (by omega)
  rw [cnt_s, if_pos rfl] at h1
  omega
theorem cod_small (hl : ∀ j, 1 ≤ len j ∧ len j ≤ 20) (hf : fil len K ≤ 2 ^ 20) {k : Nat} (hk : k < K) : cod len K k ≤ 2 ^ 20 := by
  have h1 := cod_rng hl hk
  have h2 := codN_small (len := len) (K := K) (hl k).2 hf
  omega
theorem fkN_at {L v : Nat} (h : fkN len K L v < K) : len (fkN len K L v) = L ∧ cod len K (fkN len K L v) = v := by
  have := fnd_at (fun i => if len i = L then cod len K i + 1 else 0) (v + 1) K h
  have e : (if len (fkN len K L v) = L then cod len K (fkN len K L v) + 1 else 0) = v + 1 := this
  by_cases c : len (fkN len K L v) = L
  · rw [if_pos c] at e
    exact ⟨c, by omega⟩
  · rw [if_neg c] at e
    omega
theorem fkN_min {L v q : Nat} (h : q < fkN len K L v) : ¬ (len q = L ∧ cod len K q = v) := by
  have := fnd_min (fun i => if len i = L then cod len K i + 1 else 0) (v + 1) K q h
  intro e
  apply this
  show (if len q = L then cod len K q + 1 else 0) = v + 1
  rw [if_pos e.1, e.2]
theorem fkN_lt {L v q : Nat} (hq : q < K) (h : len q = L ∧ cod len K q = v) : fkN len K L v < K := fnd_lt (p := q) hq (by
  show (if len q = L then cod len K q + 1 else 0) = v + 1
  rw [if_pos h.1, h.2])
theorem fkN_le (L v : Nat) : fkN len K L v ≤ K := fnd_le _ _ _
theorem kindOf_ok (hK : K ≤ 258) (hl : ∀ j, 1 ≤ len j ∧ len j ≤ 20) (hf : fil len K ≤ 2 ^ 20) (hC : CTB K len ck cf lv cd cc cs) {L v : Nat} (hL1 : 1 ≤ L) (hL2 : L ≤ 20) (hv : v < 2 ^ 20) : fCodes_kindOf ck lv cd cc cs (nI v) (nI L) = some (if fkN len K L v < K then nI (fkN len K L v) else -1) := by
  obtain ⟨rfl, -, h3, h4, h5, h6⟩ := hC
  have hsm := codN_small (len := len) (K := K) hL2 hf
  unfold fCodes_kindOf
  rw [if_neg (by simp (disch := omega) only [nlit, nrm]; omega), if_pos (by simp (disch := omega) only [nlit, nrm]; omega), gdI_n (by omega) (by omega), gdI_n (by omega) (by omega), nI_clamp (by omega : L < 2 ^ 31), h5 L (by omega), h6 L hL1 (by omega)]
  by_cases c1 : v < codN len K L 0
  · rw [if_pos (by rw [nI_sub_lt0 (by omega) (by omega)]; exact c1), if_neg]
    intro c
    obtain ⟨e1, e2⟩ := fkN_at c
    have := cod_rng hl (k := fkN len K L v) c
    rw [e1, e2] at this
    omega
  · rw [if_neg (by rw [nI_sub_lt0 (by omega) (by omega)]; exact c1), pk_sub (a := v) (b := codN len K L 0) (by omega)]
    by_cases c2 : v - codN len K L 0 < cnt len K L
    · rw [if_pos (by simp (disch := omega) only [nlit, nrm]; exact c2)]
      have hstep : ∀ i, i < fkN len K L v → un1 (fCodes_kindOf_L41 (nI K) lv cd (nI v) (nI L)) (nI i) = some (.inl (nI (i + 1))) := fun i hi => by
        have hle := fkN_le (len := len) (K := K) L v
        have hn := fkN_min hi
        have hli := hl i
        have hci := cod_small hl hf (k := i) (by omega)
        show fCodes_kindOf_L41 (nI K) lv cd (nI v) (nI L) (nI i) = _
        unfold fCodes_kindOf_L41
        rw [if_neg (by simp (disch := omega) only [nlit, nrm]; omega), gdI_n (by omega) (by omega), gdI_n (by omega) (by omega), nI_clamp (by omega : i < 2 ^ 31), h3 i (by omega), h4 i (by omega), nI_s]
        by_cases e1 : len i = L
        · rw [if_pos (by rw [e1]), if_neg (by simp (disch := omega) only [nlit, nrm]; exact fun q => hn ⟨e1, q⟩)]
        · rw [if_neg (by simp (disch := omega) only [nlit, nrm]; exact e1)]
      by_cases c3 : fkN len K L v < K
      · rw [if_pos c3]
        obtain ⟨e1, e2⟩ := fkN_at c3
        have k1 := lp_c (step := un1 (fCodes_kindOf_L41 (nI K) lv cd (nI v) (nI L))) (fun i => nI i) (.inr (nI (fkN len K L v))) (fkN len K L v) hstep (by
          show fCodes_kindOf_L41 (nI K) lv cd (nI v) (nI L) (nI (fkN len K L v)) = _
          unfold fCodes_kindOf_L41
          rw [if_neg (by simp (disch := omega) only [nlit, nrm]; omega), gdI_n (by omega) (by omega), gdI_n (by omega) (by omega), nI_clamp (by omega : fkN len K L v < 2 ^ 31), h3 _ c3, h4 _ c3, e1, e2, if_pos rfl, if_pos rfl]) 0 (by omega)
        rw [bs_r (x := itrO (un1 (fCodes_kindOf_L41 (nI K) lv cd (nI v) (nI L))) 0) k1]
      · rw [if_neg c3]
        have hle := fkN_le (len := len) (K := K) L v
        have k1 := lp_c (step := un1 (fCodes_kindOf_L41 (nI K) lv cd (nI v) (nI L))) (fun i => nI i) (.inl ()) (fkN len K L v) hstep (by
          show fCodes_kindOf_L41 (nI K) lv cd (nI v) (nI L) (nI (fkN len K L v)) = _
          unfold fCodes_kindOf_L41
          rw [if_pos (by simp (disch := omega) only [nlit, nrm]; omega)]) 0 (by omega)
        rw [bs_l (x := itrO (un1 (fCodes_kindOf_L41 (nI K) lv cd (nI v) (nI L))) 0) k1]
    · have hc := cnt_le2 len K L
      rw [if_neg (by simp (disch := omega) only [nlit, nrm]; exact c2), if_neg]
      intro c
      obtain ⟨e1, e2⟩ := fkN_at c
      have := cod_rng hl (k := fkN len K L v) c
      rw [e1, e2] at this
      omega
theorem pow_split {L : Nat} (hL : L ≤ 20) : 2 ^ L * 2 ^ (20 - L) = 2 ^ 20 := by
  rw [← Nat.pow_add, show L + (20 - L) = 20 by omega]
theorem canBegin_ok (hf : fil len K ≤ 2 ^ 20) {L v : Nat} (hL2 : L ≤ 20) (hv : v < 2 ^ L) : fCodes_canBegin (nI (fil len K)) (nI v) (nI L) = some (if v * 2 ^ (20 - L) < fil len K then 1 else 0) := by
  have hb : v * 2 ^ (20 - L) < 2 ^ 20 := by
    rw [← pow_split hL2]
    exact Nat.mul_lt_mul_of_pos_right hv (Nat.two_pow_pos _)
  unfold fCodes_canBegin
  rw [if_neg (by simp (disch := omega) only [nlit, nrm]; omega), show (20 : Int32) = nI 20 from rfl, pk_sub (a := 20) (b := L) hL2, shlN (by omega) (by omega)]
  by_cases c : v * 2 ^ (20 - L) < fil len K
  · rw [if_pos c, if_neg (by rw [nI_le' (by omega) (by omega)]; omega)]
  · rw [if_neg c, if_pos (by rw [nI_le' (by omega) (by omega)]; omega)]
end KI
section R2
variable {T : List Nat} {tc : Int32} {tv : Nat → Int32} {fn fp : Int32}
theorem nextKind_ok (hr : rowIs tv tc T) (hT : ∀ x ∈ T, x < 2) (hn : T.length ≤ 1500) {K t : Nat} (hK : K ≤ 258) (ht : t < 3) {len : Nat → Nat} (hl : ∀ j, 1 ≤ len j ∧ len j ≤ 20) (hf : fil len K ≤ 2 ^ 20) {ck cf : Nat → Int32} {lv cd cc cs : Nat → Nat → Int32} (hC : CTB K len (ck t) (cf t) (lv t) (cd t) (cc t) (cs t)) {p : Nat} (hp : p ≤ T.length) : fReader_nextKind (nI p) fn fp tc tv ck cf lv cd cc cs (nI t) = some (cR (nkG T len K 20 1 0 p) fn fp) := by
  have key : ∀ f L v p, L + f = 21 → 1 ≤ L → v < 2 ^ (L - 1) → p ≤ T.length → bs (itrO (un5 (fReader_nextKind_L4 tc tv ck cf lv cd cc cs (nI t))) (nI v, nI L, nI p, fn, fp)) (un3 (fun m_position_4z m_faultNumber_4z m_faultPosition_4z => bd3 (fReader_fail m_position_4z (7 : Int32)) (fun r_88 m_faultNumber_88 m_faultPosition_88 => some ((-1 : Int32), m_position_4z, m_faultNumber_88, m_faultPosition_88)))) (fun rr => some rr) = some (cR (nkG T len K f L v p) fn fp) := by
    intro f
    induction f with
    | zero =>
      intro L v p hf1 hL1 hv hp
      have h1 : un5 (fReader_nextKind_L4 tc tv ck cf lv cd cc cs (nI t)) (nI v, nI L, nI p, fn, fp) = some (.inr (.inl (nI p, fn, fp))) := by
        show fReader_nextKind_L4 tc tv ck cf lv cd cc cs (nI t) (nI v) (nI L) (nI p) fn fp = _
        unfold fReader_nextKind_L4
        rw [if_pos (by simp (disch := omega) only [nlit, nrm]; omega)]
      rw [bs_l (itrO_1 h1)]
      rfl
    | succ f ih =>
      intro L v p hf1 hL1 hv hp
      unfold nkG
      have hv20 : 2 ^ (L - 1) ≤ 2 ^ 19 := Nat.pow_le_pow_right (by omega) (by omega)
      by_cases c : p < T.length
      · have hb := getD_lt2 hT p
        rw [if_pos c]
        have hw : 2 * v + T.getD p 0 < 2 ^ L := by
          rw [show L = (L - 1) + 1 by omega, Nat.pow_succ]
          omega
        have hw20 : 2 * v + T.getD p 0 < 2 ^ 20 := by omega
        have e0 : nI v * 2 + nI (T.getD p 0) = nI (2 * v + T.getD p 0) := by
          rw [show (2 : Int32) = nI 2 from rfl, pk_mul, nI_add, Nat.mul_comm]
        have h1 : un5 (fReader_nextKind_L4 tc tv ck cf lv cd cc cs (nI t)) (nI v, nI L, nI p, fn, fp) = if fkN len K L (2 * v + T.getD p 0) < K then some (.inr (.inr (nI (fkN len K L (2 * v + T.getD p 0)), nI (p + 1), fn, fp))) else if (2 * v + T.getD p 0) * 2 ^ (20 - L) < fil len K then some (.inl (nI (2 * v + T.getD p 0), nI (L + 1), nI (p + 1), fn, fp)) else some (.inr (.inl (nI (p + 1), fn, fp))) := by
          show fReader_nextKind_L4 tc tv ck cf lv cd cc cs (nI t) (nI v) (nI L) (nI p) fn fp = _
          unfold fReader_nextKind_L4
          rw [if_neg (by simp (disch := omega) only [nlit, nrm]; omega), if_neg (by simp (disch := omega) only [nlit, nrm]; omega), if_neg (by simp (disch := omega) only [nlit, nrm]; omega), bd4_of (nextBit_y hr hT hn c), if_neg (m1_nI (by omega)), gdI_n (by omega) (by omega), gdI_n (by omega) (by omega), nI_clamp (by omega : t < 2 ^ 31), e0, bd1_of (kindOf_ok hK hl hf hC hL1 (by omega) hw20), hC.2.1, bd1_of (canBegin_ok hf (by omega) hw), nI_s]
          by_cases c1 : fkN len K L (2 * v + T.getD p 0) < K
          · rw [if_pos c1, if_pos c1, if_neg (m1_nI (by omega))]
          · rw [if_neg c1, if_neg c1, if_pos rfl]
            by_cases c2 : (2 * v + T.getD p 0) * 2 ^ (20 - L) < fil len K
            · rw [if_pos c2, if_pos c2, if_neg (by decide)]
            · rw [if_neg c2, if_neg c2, if_pos rfl]
        by_cases c1 : fkN len K L (2 * v + T.getD p 0) < K
        · rw [if_pos c1] at h1 ⊢
          rw [bs_r (itrO_1 h1)]
          rfl
        · rw [if_neg c1] at h1 ⊢
          by_cases c2 : (2 * v + T.getD p 0) * 2 ^ (20 - L) < fil len K
          · rw [if_pos c2] at h1 ⊢
            rw [itrO_s h1]
            exact ih (L + 1) _ (p + 1) (by omega) (by omega) (by rw [show L + 1 - 1 = L by omega]; exact hw) (by omega)
          · rw [if_neg c2] at h1 ⊢
            rw [bs_l (itrO_1 h1)]
            rfl
      · rw [if_neg c]
        have h1 : un5 (fReader_nextKind_L4 tc tv ck cf lv cd cc cs (nI t)) (nI v, nI L, nI p, fn, fp) = some (.inr (.inr (-1, nI p, nI 1, nI p))) := by
          show fReader_nextKind_L4 tc tv ck cf lv cd cc cs (nI t) (nI v) (nI L) (nI p) fn fp = _
          unfold fReader_nextKind_L4
          rw [if_neg (by simp (disch := omega) only [nlit, nrm]; omega), if_neg (by simp (disch := omega) only [nlit, nrm]; omega), if_neg (by simp (disch := omega) only [nlit, nrm]; omega), bd4_of (nextBit_n hr hn (by omega)), if_pos rfl]
        rw [bs_r (itrO_1 h1)]
        rfl
  exact key 20 1 0 p rfl (by omega) (by decide) hp
theorem readLengths_ok (hr : rowIs tv tc T) (hT : ∀ x ∈ T, x < 2) (hn : T.length ≤ 1500) {K p : Nat} (hK : K ≤ 258) (hp : p ≤ T.length) (lv : Nat → Int32) : (∀ q, rN T 5 p = .inl q → fReader_readLengths (nI K) (nI p) fn fp tc tv lv = some (0, nI q.2, nI q.1, nI q.2, lv)) ∧ (∀ q, rN T 5 p = .inr q → (¬ (1 ≤ q.1 ∧ q.1 ≤ 20) → fReader_readLengths (nI K) (nI p) fn fp tc tv lv = some (0, nI q.2, nI 5, nI q.2, lv)) ∧ ((1 ≤ q.1 ∧ q.1 ≤ 20) → (∀ q', leG T K 0 (fun _ => 1) q.1 q.2 = .inl q' → ∃ lv', fReader_readLengths (nI K) (nI p) fn fp tc tv lv = some (0, nI q'.2, nI q'.1, nI q'.2, lv')) ∧ (∀ q', leG T K 0 (fun _ => 1) q.1 q.2 = .inr q' → ∃ lv', fReader_readLengths (nI K) (nI p) fn fp tc tv lv = some (1, nI q'.2, fn, fp, lv') ∧ ∀ j, j < K → lv' j = nI (q'.1 j)))) := by
  have h0 := nextNumber_ok (fn := fn) (fp := fp) hr hT hn (p := p) (w := 5) hp (by omega)
  refine ⟨fun q h => ?_, fun q h => ⟨fun e => ?_, fun e => ?_⟩⟩
  · rw [h] at h0
    have h0 : fReader_nextNumber (nI p) fn fp tc tv 5 = some (-1, nI q.2, nI q.1, nI q.2) := h0
    unfold fReader_readLengths
    rw [bd4_of h0, if_pos rfl]
  · obtain ⟨-, -, -, hu⟩ := rN_inr hT h
    rw [h] at h0
    have h0 : fReader_nextNumber (nI p) fn fp tc tv 5 = some (nI q.1, nI q.2, fn, fp) := h0
    unfold fReader_readLengths
    rw [bd4_of h0, if_neg (m1_nI (by omega))]
    by_cases c : q.1 < 1
    · rw [if_pos (by simp (disch := omega) only [nlit, nrm]; exact c)]
      rfl
    · rw [if_neg (by simp (disch := omega) only [nlit, nrm]; exact c), if_neg (by simp (disch := omega) only [nlit, nrm]; omega)]
      rfl
  · obtain ⟨h1, h2, -, hu⟩ := rN_inr hT h
    rw [h] at h0
    have h0 : fReader_nextNumber (nI p) fn fp tc tv 5 = some (nI q.1, nI q.2, fn, fp) := h0
    obtain ⟨i1, i2⟩ := readLengthsL_ok (fn := fn) (fp := fp) hr hT hn hK K 0 (fun _ => 1) q.1 q.2 lv (by omega) (by omega) e.1 e.2 (fun j hj => by omega)
    refine ⟨fun q' hq' => ?_, fun q' hq' => ?_⟩
    · obtain ⟨lv', k1⟩ := i1 q' hq'
      refine ⟨lv', ?_⟩
      unfold fReader_readLengths
      rw [bd4_of h0, if_neg (m1_nI (by omega)), if_neg (by simp (disch := omega) only [nlit, nrm]; omega), if_pos (by simp (disch := omega) only [nlit, nrm]; omega), bs_r (x := itrO (un6 (fReader_readLengths_L32 (nI K) tc tv)) (nI q.1, 0, nI q.2, fn, fp, lv)) k1]
    · obtain ⟨lv', k1, h5⟩ := i2 q' hq'
      refine ⟨lv', ?_, h5⟩
      unfold fReader_readLengths
      rw [bd4_of h0, if_neg (m1_nI (by omega)), if_neg (by simp (disch := omega) only [nlit, nrm]; omega), if_pos (by simp (disch := omega) only [nlit, nrm]; omega), bs_l (x := itrO (un6 (fReader_readLengths_L32 (nI K) tc tv)) (nI q.1, 0, nI q.2, fn, fp, lv)) k1]
      rfl
/-- what the tables hold that were read -/
def RTB (K tb : Nat) (G : Nat → Nat → Nat) (ck cf : Nat → Int32) (lv cd cc cs : Nat → Nat → Int32) : Prop := ∀ t, t < tb → CTB K (G t) (ck t) (cf t) (lv t) (cd t) (cc t) (cs t)
theorem readTablesL_ok (hr : rowIs tv tc T) (hT : ∀ x ∈ T, x < 2) (hn : T.length ≤ 1500) {K tb : Nat} (hK : K ≤ 258) (htb : tb ≤ 3) : ∀ f t G p ck cf lv cd cc cs cn, t + f = tb → p ≤ T.length → RTB K t G ck cf lv cd cc cs → (∀ q, tbG T K f t G p = .inl q → ∃ ck' cf' lv' cd' cc' cs' cn', itrO (un11 (fReader_readTables_L2 (nI tb) (nI K) tc tv)) (nI t, nI p, fn, fp, ck, cf, lv, cd, cc, cs, cn) = some (.inr (0, nI q.2, nI q.1, nI q.2, ck', cf', lv', cd', cc', cs', cn'))) ∧ (∀ q, tbG T K f t G p = .inr q → ∃ ck' cf' lv' cd' cc' cs' cn', itrO (un11 (fReader_readTables_L2 (nI tb) (nI K) tc tv)) (nI t, nI p, fn, fp, ck, cf, lv, cd, cc, cs, cn) = some (.inl (nI q.2, fn, fp, ck', cf', lv', cd', cc', cs', cn')) ∧ RTB K tb q.1 ck' cf' lv' cd' cc' cs')
  | 0, t, G, p, ck, cf, lv, cd, cc, cs, cn, hf, hp, hR => ⟨fun q h => (by cases h), fun q h => by
      cases h
      refine ⟨ck, cf, lv, cd, cc, cs, cn, itrO_1 ?_, fun s hs => hR s (by omega)⟩
      show fReader_readTables_L2 (nI tb) (nI K) tc tv (nI t) (nI p) fn fp ck cf lv cd cc cs cn = _
      unfold fReader_readTables_L2
      rw [if_pos (by simp (disch := omega) only [nlit, nrm]; omega)]⟩
  | f + 1, t, G, p, ck, cf, lv, cd, cc, cs, cn, hf, hp, hR => by
    unfold tbG t1G
    obtain ⟨g1, g2⟩ := readLengths_ok (fn := fn) (fp := fp) hr hT hn hK hp (lv t)
    have hfail : ∀ q lv', fReader_readLengths (nI K) (nI p) fn fp tc tv (lv t) = some (0, nI q.2, nI q.1, nI q.2, lv') → ∃ ck' cf' lv' cd' cc' cs' cn', itrO (un11 (fReader_readTables_L2 (nI tb) (nI K) tc tv)) (nI t, nI p, fn, fp, ck, cf, lv, cd, cc, cs, cn) = some (.inr (0, nI (q : Nat × Nat).2, nI q.1, nI q.2, ck', cf', lv', cd', cc', cs', cn')) := fun q lv' h => by
      refine ⟨ck, cf, va_up lv t lv', cd, cc, cs, cn, itrO_1 (show fReader_readTables_L2 (nI tb) (nI K) tc tv (nI t) (nI p) fn fp ck cf lv cd cc cs cn = _ from ?_)⟩
      unfold fReader_readTables_L2
      rw [if_neg (by simp (disch := omega) only [nlit, nrm]; omega), if_neg (by simp (disch := omega) only [nlit, nrm]; omega), gdI_n (by omega) (by omega), nI_clamp (by omega : t < 2 ^ 31), bd5_of h, if_pos rfl]
    cases h : rN T 5 p with
    | inl q =>
      refine ⟨fun q' h' => ?_, fun q' h' => (by cases h')⟩
      cases h'
      exact hfail q _ (g1 q h)
    | inr u =>
      obtain ⟨u1, u2, u3, u4⟩ := rN_inr hT h
      dsimp only
      by_cases c : 1 ≤ u.1 ∧ u.1 ≤ 20
      · rw [if_pos c]
        have hlk := leG_ok (T := T) K 0 (fun _ => 1) u.1 u.2 (by omega) c.1 c.2 (fun j => ⟨Nat.le_refl _, by omega⟩)
        cases h2 : leG T K 0 (fun _ => 1) u.1 u.2 with
        | inl q =>
          refine ⟨fun q' h' => ?_, fun q' h' => (by cases h')⟩
          cases h'
          obtain ⟨lv', k1⟩ := ((g2 u h).2 c).1 q h2
          exact hfail q lv' k1
        | inr w =>
          obtain ⟨a1, a2⟩ := hlk.2 w h2
          obtain ⟨lv', k1, hlv⟩ := ((g2 u h).2 c).2 w h2
          dsimp only
          have hL : ∀ k, k < K → lv' k = nI (w.1 k) ∧ 1 ≤ w.1 k ∧ w.1 k ≤ 20 := fun k hk => ⟨hlv k hk, a2 k⟩
          by_cases c2 : fil w.1 K ≤ 2 ^ 20
          · rw [if_pos c2]
            dsimp only
            obtain ⟨cd1, cc1, cs1, cn1, k2, d1, d2, d3⟩ := fCodes_settle_ok hK hL c2 (cd t) (cc t) (cs t) (cn t)
            have hs : un11 (fReader_readTables_L2 (nI tb) (nI K) tc tv) (nI t, nI p, fn, fp, ck, cf, lv, cd, cc, cs, cn) = some (.inl (nI (t + 1), nI w.2, fn, fp, va_up ck t (nI K), va_up cf t (nI (fil w.1 K)), va_up lv t lv', va_up cd t cd1, va_up cc t cc1, va_up cs t cs1, va_up cn t cn1)) := by
              show fReader_readTables_L2 (nI tb) (nI K) tc tv (nI t) (nI p) fn fp ck cf lv cd cc cs cn = _
              unfold fReader_readTables_L2
              rw [if_neg (by simp (disch := omega) only [nlit, nrm]; omega), if_neg (by simp (disch := omega) only [nlit, nrm]; omega), gdI_n (by omega) (by omega), nI_clamp (by omega : t < 2 ^ 31), bd5_of k1, if_neg (by decide), gdI_n (by omega) (by omega), va_up_self, bd7_of k2, if_neg (by decide), nI_s]
            rw [itrO_s hs]
            refine readTablesL_ok hr hT hn hK htb f (t + 1) (va_up G t w.1) w.2 _ _ _ _ _ _ _ (by omega) a1 (fun s hs => ?_)
            by_cases e : s = t
            · rw [e]
              simp only [va_up_self]
              exact ⟨rfl, rfl, hlv, d1, d2, d3⟩
            · rw [va_up_ne _ _ e, va_up_ne _ _ e, va_up_ne _ _ e, va_up_ne _ _ e, va_up_ne _ _ e, va_up_ne _ _ e, va_up_ne _ _ e]
              exact hR s (by omega)
          · rw [if_neg c2]
            refine ⟨fun q' h' => ?_, fun q' h' => (by cases h')⟩
            cases h'
            obtain ⟨cc1, k2⟩ := fCodes_settle_bad hK hL (by omega) (cd t) (cc t) (cs t) (cn t)
            refine ⟨va_up ck t (nI K), va_up cf t (nI (fil w.1 K)), va_up lv t lv', va_up cd t (cd t), va_up cc t cc1, va_up cs t (cs t), va_up cn t (cn t), itrO_1 (show fReader_readTables_L2 (nI tb) (nI K) tc tv (nI t) (nI p) fn fp ck cf lv cd cc cs cn = _ from ?_)⟩
            unfold fReader_readTables_L2
            rw [if_neg (by simp (disch := omega) only [nlit, nrm]; omega), if_neg (by simp (disch := omega) only [nlit, nrm]; omega), gdI_n (by omega) (by omega), nI_clamp (by omega : t < 2 ^ 31), bd5_of k1, if_neg (by decide), gdI_n (by omega) (by omega), va_up_self, bd7_of k2, if_pos rfl]
            rfl
      · rw [if_neg c]
        refine ⟨fun q' h' => ?_, fun q' h' => (by cases h')⟩
        cases h'
        exact hfail (5, u.2) _ ((g2 u h).1 c)
theorem takeSigns_ok {B : List Nat} {sv : Nat → Int32} (hB : rowIs sv (nI B.length) B) (hBl : B.length ≤ 300) {m x p : Nat} (hm : m ≤ 1000) : (B.length + m ≤ 300 → ∃ sv', fReader_takeSigns (nI p) fn fp (nI B.length) sv (nI x) (nI m) = some (1, fn, fp, nI (B ++ List.replicate m x).length, sv') ∧ rowIs sv' (nI (B ++ List.replicate m x).length) (B ++ List.replicate m x)) ∧ (¬ B.length + m ≤ 300 → fReader_takeSigns (nI p) fn fp (nI B.length) sv (nI x) (nI m) = some (0, nI 8, nI p, nI B.length, sv)) := by
  unfold fReader_takeSigns
  rw [bd1_of (x := fRow_size (nI B.length)) rfl, nI_add]
  refine ⟨fun h => ?_, fun h => ?_⟩
  · obtain ⟨r, k1, sv', e, h1⟩ : ∃ r, itrO (un3 (fReader_takeSigns_L24 (nI x) (nI m))) ((0 : Int32), nI B.length, sv) = some r ∧ ∃ sv', r = (nI (B ++ List.replicate m x).length, sv') ∧ rowIs sv' (nI (B ++ List.replicate m x).length) (B ++ List.replicate m x) := by
      refine lp_up (step := un3 (fReader_takeSigns_L24 (nI x) (nI m))) (fun i s => ∃ sv', s = (nI i, nI (B ++ List.replicate i x).length, sv') ∧ rowIs sv' (nI (B ++ List.replicate i x).length) (B ++ List.replicate i x)) _ m (fun i s hi hs => ?_) (fun s hs => ?_) 0 _ (by omega) ⟨sv, by rw [List.replicate_zero, List.append_nil]; rfl, by rw [List.replicate_zero, List.append_nil]; exact hB⟩
      · obtain ⟨s1, rfl, h1⟩ := hs
        have ha := fRow_add_ok h1 (n := 300) (by rw [List.length_append, List.length_replicate]; omega) (by decide) (nI x)
        have hp := h1.push x
        have e : B ++ List.replicate (i + 1) x = B ++ List.replicate i x ++ [x] := by rw [List.replicate_succ', ← List.append_assoc]
        have el : (B ++ List.replicate (i + 1) x).length = (B ++ List.replicate i x).length + 1 := by rw [e, List.length_append (as := B ++ List.replicate i x)]; rfl
        refine Or.inl ⟨(nI (i + 1), nI ((B ++ List.replicate i x).length + 1), upd s1 (B ++ List.replicate i x).length (nI x)), ?_, _, by rw [el], by rw [el, e]; exact hp⟩
        show fReader_takeSigns_L24 (nI x) (nI m) (nI i) _ s1 = _
        unfold fReader_takeSigns_L24
        rw [if_neg (by simp (disch := omega) only [nlit, nrm]; omega), bd2_of ha, nI_s]
      · obtain ⟨s1, rfl, h1⟩ := hs
        refine ⟨_, ?_, s1, rfl, h1⟩
        show fReader_takeSigns_L24 (nI x) (nI m) (nI m) _ s1 = _
        unfold fReader_takeSigns_L24
        rw [if_pos (by simp (disch := omega) only [nlit, nrm]; omega)]
    subst e
    refine ⟨sv', ?_, h1⟩
    rw [if_pos (by simp (disch := omega) only [nlit, nrm]; omega), bd2_of k1]
  · rw [if_neg (by simp (disch := omega) only [nlit, nrm]; omega)]
    rfl
end R2
