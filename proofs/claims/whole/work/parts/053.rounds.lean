/-! ===== THE SPEC of the rounds ===== -/
/-- how often k is among S's places a .. a + m - 1 -/
def oc (S : List Nat) (a m k : Nat) : Nat := sumN (fun i => if S.getD (a + i) 0 = k then 1 else 0) m
theorem oc_0 (S : List Nat) (a k : Nat) : oc S a 0 k = 0 := rfl
theorem oc_s (S : List Nat) (a m k : Nat) : oc S a (m + 1) k = oc S a m k + if S.getD (a + m) 0 = k then 1 else 0 := rfl
theorem oc_le (S : List Nat) (a m k : Nat) : oc S a m k ≤ m := by
  have := sumN_le (f := fun i => if S.getD (a + i) 0 = k then 1 else 0) (g := fun _ => 1) (n := m) (fun i _ => by split <;> omega)
  rw [sumN_const] at this
  unfold oc
  omega
/-- all kinds together -/
theorem oc_sum (S : List Nat) (a K : Nat) : ∀ m, (∀ i, i < m → S.getD (a + i) 0 < K) → sumN (fun k => oc S a m k) K = m
  | 0, _ => by
    rw [sumN_congr (g := fun _ => 0) (fun i _ => oc_0 S a i), sumN_0]
  | m + 1, h => by
    have ih := oc_sum S a K m (fun i hi => h i (by omega))
    rw [sumN_congr (g := fun k => oc S a m k + if S.getD (a + m) 0 = k then 1 else 0) (fun i _ => oc_s S a m i), sumN_add, ih]
    have hm := h m (by omega)
    have := sumN_out (f := fun k => if S.getD (a + m) 0 = k then 1 else 0) hm
    rw [if_pos rfl, sumN_congr (g := fun _ => 0) (fun i _ => by
      show (if i = S.getD (a + m) 0 then 0 else if S.getD (a + m) 0 = i then 1 else 0) = 0
      by_cases e : i = S.getD (a + m) 0
      · rw [if_pos e]
      · rw [if_neg e, if_neg (fun q => e q.symm)]), sumN_0] at this
    omega
def nGr (S : List Nat) : Nat := (S.length + 9) / 10
def nTb (S : List Nat) : Nat := if S.length = 0 then 0 else if S.length < 20 then 1 else if S.length < 60 then 2 else 3
def gE (S : List Nat) (g : Nat) : Nat := if 10 * g + 10 < S.length then 10 * g + 10 else S.length
theorem nGr_le {S : List Nat} (h : S.length ≤ 301) : nGr S ≤ 31 := by unfold nGr; omega
theorem nTb_le (S : List Nat) : nTb S ≤ 3 := by unfold nTb; split; omega; split; omega; split <;> omega
theorem nTb_pos {S : List Nat} (h : S.length ≠ 0) : 1 ≤ nTb S := by unfold nTb; rw [if_neg h]; split; omega; split <;> omega
theorem gE_lt {S : List Nat} {g : Nat} (h : g < nGr S) : 10 * g < gE S g ∧ gE S g ≤ 10 * g + 10 ∧ gE S g ≤ S.length := by unfold nGr at h; unfold gE; split <;> omega
/-- ROUND 0: a table takes kinds till it has its share -/
def shW (c : Nat → Nat) (K share : Nat) : Nat → Nat → Nat → Nat × Nat
  | 0, nx, has => (nx, has)
  | f + 1, nx, has => if nx < K ∧ has < share then shW c K share f (nx + 1) (has + c nx) else (nx, has)
def shF (S : List Nat) (K : Nat) : Nat → Nat × Nat
  | 0 => (0, S.length)
  | t + 1 => ((shW (oc S 0 S.length) K ((shF S K t).2 / (nTb S - t)) (K - (shF S K t).1) (shF S K t).1 0).1, (shF S K t).2 - (shW (oc S 0 S.length) K ((shF S K t).2 / (nTb S - t)) (K - (shF S K t).1) (shF S K t).1 0).2)
def len0 (S : List Nat) (K t k : Nat) : Nat := if (shF S K t).1 ≤ k ∧ k < (shF S K (t + 1)).1 then 1 else 9
theorem shW_mono (c : Nat → Nat) (K share : Nat) : ∀ f nx has, nx ≤ (shW c K share f nx has).1 ∧ (nx ≤ K → (shW c K share f nx has).1 ≤ K)
  | 0, nx, has => ⟨Nat.le_refl _, fun h => h⟩
  | f + 1, nx, has => by
    unfold shW
    by_cases h : nx < K ∧ has < share
    · rw [if_pos h]
      have := shW_mono c K share f (nx + 1) (has + c nx)
      exact ⟨by omega, fun _ => this.2 (by omega)⟩
    · rw [if_neg h]
      exact ⟨Nat.le_refl _, fun h => h⟩
/-- what a table has is what its kinds come -/
theorem shW_sum (c : Nat → Nat) (K share : Nat) : ∀ f nx has, (shW c K share f nx has).2 + sumN c nx = has + sumN c (shW c K share f nx has).1
  | 0, nx, has => rfl
  | f + 1, nx, has => by
    unfold shW
    by_cases h : nx < K ∧ has < share
    · rw [if_pos h]
      have := shW_sum c K share f (nx + 1) (has + c nx)
      rw [sumN_succ] at this
      omega
    · rw [if_neg h]
theorem sumN_mono {f : Nat → Nat} : ∀ {a b : Nat}, a ≤ b → sumN f a ≤ sumN f b := by
  intro a b h
  induction b with
  | zero => rw [show a = 0 by omega]; exact Nat.le_refl _
  | succ b ih =>
    by_cases e : a = b + 1
    · rw [e]; exact Nat.le_refl _
    · have := ih (by omega)
      rw [sumN_succ]
      omega
theorem shF_ok {S : List Nat} {K : Nat} (hS : ∀ x ∈ S, x < K) : ∀ t, (shF S K t).1 ≤ K ∧ (shF S K t).2 + sumN (oc S 0 S.length) (shF S K t).1 = S.length
  | 0 => ⟨Nat.zero_le _, rfl⟩
  | t + 1 => by
    obtain ⟨h1, h2⟩ := shF_ok hS t
    have m1 := shW_mono (oc S 0 S.length) K ((shF S K t).2 / (nTb S - t)) (K - (shF S K t).1) (shF S K t).1 0
    have m2 := shW_sum (oc S 0 S.length) K ((shF S K t).2 / (nTb S - t)) (K - (shF S K t).1) (shF S K t).1 0
    have m3 := oc_sum S 0 K S.length (fun i hi => hS _ (by rw [Nat.zero_add]; exact getD_mem hi))
    have m4 := sumN_mono (f := oc S 0 S.length) (m1.2 h1)
    refine ⟨m1.2 h1, ?_⟩
    show (shF S K t).2 - (shW (oc S 0 S.length) K ((shF S K t).2 / (nTb S - t)) (K - (shF S K t).1) (shF S K t).1 0).2 + sumN (oc S 0 S.length) (shW (oc S 0 S.length) K ((shF S K t).2 / (nTb S - t)) (K - (shF S K t).1) (shF S K t).1 0).1 = S.length
    have m5 : sumN (oc S 0 S.length) K = S.length := m3
    omega
/-- which table is taken -/
def bt (len : Nat → Nat) (S : List Nat) (g : Nat) : Nat := sumN (fun i => len (S.getD (10 * g + i) 0)) (gE S g - 10 * g)
def pk (f : Nat → Nat) : Nat → Nat × Nat
  | 0 => (0, f 0)
  | t + 1 => if f (t + 1) < (pk f t).2 then (t + 1, f (t + 1)) else pk f t
theorem pk_le2 (f : Nat → Nat) : ∀ t, (pk f t).1 ≤ t ∧ (pk f t).2 = f (pk f t).1
  | 0 => ⟨Nat.le_refl _, rfl⟩
  | t + 1 => by
    have := pk_le2 f t
    unfold pk
    split
    · exact ⟨Nat.le_refl _, rfl⟩
    · exact ⟨by omega, this.2⟩
def tk (len : Nat → Nat → Nat) (S : List Nat) (g : Nat) : Nat := (pk (fun t => bt (len t) S g) (nTb S - 1)).1
/-- weights -/
def wq (T : Nat → Nat) (S : List Nat) (t k : Nat) : Nat := sumN (fun g => if T g = t then oc S (10 * g) (gE S g - 10 * g) k else 0) (nGr S)
def wt (T : Nat → Nat) (S : List Nat) (t k : Nat) : Nat := if wq T S t k = 0 then 1 else wq T S t k
theorem gE_sum (S : List Nat) : ∀ G, G ≤ nGr S → sumN (fun g => gE S g - 10 * g) G = if 10 * G < S.length then 10 * G else S.length
  | 0, _ => by
    show 0 = _
    split <;> omega
  | G + 1, h => by
    have ih := gE_sum S G (by omega)
    unfold nGr at h
    rw [sumN_succ, ih]
    unfold gE
    repeat' split
    all_goals omega
theorem wq_sum {S : List Nat} {K : Nat} (hS : ∀ x ∈ S, x < K) (T : Nat → Nat) (t : Nat) : sumN (wq T S t) K ≤ S.length := by
  have key : ∀ G, G ≤ nGr S → sumN (fun k => sumN (fun g => if T g = t then oc S (10 * g) (gE S g - 10 * g) k else 0) G) K ≤ sumN (fun g => gE S g - 10 * g) G := by
    intro G
    induction G with
    | zero => intro _; show sumN (fun _ => 0) K ≤ 0; rw [sumN_0]; exact Nat.le_refl _
    | succ G ih =>
      intro h
      have ih := ih (by omega)
      have hg := gE_lt (S := S) (g := G) (by omega)
      show sumN (fun k => sumN (fun g => if T g = t then oc S (10 * g) (gE S g - 10 * g) k else 0) G + if T G = t then oc S (10 * G) (gE S G - 10 * G) k else 0) K ≤ sumN (fun g => gE S g - 10 * g) G + (gE S G - 10 * G)
      rw [sumN_add]
      have : sumN (fun k => if T G = t then oc S (10 * G) (gE S G - 10 * G) k else 0) K ≤ gE S G - 10 * G := by
        by_cases e : T G = t
        · rw [sumN_congr (g := fun k => oc S (10 * G) (gE S G - 10 * G) k) (fun i _ => if_pos e), oc_sum S (10 * G) K _ (fun i hi => hS _ (getD_mem (by omega)))]
          exact Nat.le_refl _
        · rw [sumN_congr (g := fun _ => 0) (fun i _ => if_neg e), sumN_0]
          exact Nat.zero_le _
      omega
  have h1 := key (nGr S) (Nat.le_refl _)
  have h2 := gE_sum S (nGr S) (Nat.le_refl _)
  have h3 : sumN (fun g => gE S g - 10 * g) (nGr S) ≤ S.length := by
    rw [h2]
    split <;> omega
  exact Nat.le_trans h1 h3
theorem wt_ok {S : List Nat} {K : Nat} (hS : ∀ x ∈ S, x < K) (hl : S.length ≤ 301) (hK : K ≤ 258) (T : Nat → Nat) (t : Nat) : (∀ k, 1 ≤ wt T S t k) ∧ (∀ k, k < K → wt T S t k ≤ 301) ∧ sumN (wt T S t) K < 1024 := by
  have h1 := wq_sum hS T t
  refine ⟨fun k => by unfold wt; split <;> omega, fun k hk => ?_, ?_⟩
  · have := sumN_term (f := wq T S t) hk
    unfold wt
    split <;> omega
  · have h2 : sumN (wt T S t) K ≤ sumN (fun k => wq T S t k + 1) K := sumN_le (fun k _ => by unfold wt; split <;> omega)
    rw [sumN_add, sumN_const] at h2
    omega
noncomputable def hlen (w : Nat → Nat) (K k : Nat) : Nat := @dite Nat (∃ d, IsLen w K d) (Classical.propDecidable _) (fun h => h.choose k) (fun _ => 0)
theorem hlen_eq {w : Nat → Nat} {K : Nat} {d : Nat → Nat} (h : IsLen w K d) {k : Nat} (hk : k < K) : hlen w K k = d k := by
  have hx : ∃ d, IsLen w K d := ⟨d, h⟩
  unfold hlen
  rw [dif_pos hx]
  exact hx.choose_spec.uniq h k hk
theorem IsLen.congr {w w' : Nat → Nat} {K : Nat} {d : Nat → Nat} (h : IsLen w K d) (e : ∀ k, k < K → w k = w' k) : IsLen w' K d := by
  obtain ⟨w1, A, B, d1, h1, h2⟩ := h
  exact ⟨w1, A, B, d1, fun k hk => by rw [h1 k hk, e k hk], h2⟩
/-- LENGTHS behind a round -/
noncomputable def lenS (S : List Nat) (K : Nat) : Nat → Nat → Nat → Nat
  | 0 => len0 S K
  | r + 1 => fun t => hlen (wt (tk (lenS S K r) S) S t) K
noncomputable def tkS (S : List Nat) (K r g : Nat) : Nat := tk (lenS S K (r - 1)) S g
/-- CODES -/
def codN (len : Nat → Nat) (K L k : Nat) : Nat := sumN (fun j => if len j < L ∨ (len j = L ∧ j < k) then 2 ^ (L - len j) else 0) K
def cod (len : Nat → Nat) (K k : Nat) : Nat := codN len K (len k) k
