/-! ===== THE SPEC: what is told of a block ===== -/
def pres (B : List Nat) (v : Nat) : Bool := decide (v ∈ B)
def mapL (B : List Nat) : List Nat := (List.range 256).filter (pres B)
/-- the first place below n at which v stands; n if it stands nowhere -/
def fnd (l : Nat → Nat) (v : Nat) : Nat → Nat
  | 0 => 0
  | n + 1 => if fnd l v n < n then fnd l v n else if l n = v then n else n + 1
/-- what stands at p comes to the front -/
def mtf {α : Type} (l : Nat → α) (p : Nat) : Nat → α := fun i => if i = 0 then l p else if i ≤ p then l (i - 1) else l i
def plF (B : List Nat) (n : Nat) (l0 : Nat → Nat) : Nat → List Nat × (Nat → Nat)
  | 0 => ([], l0)
  | i + 1 => ((plF B n l0 i).1 ++ [fnd (plF B n l0 i).2 (B.getD i 0) n], mtf (plF B n l0 i).2 (fnd (plF B n l0 i).2 (B.getD i 0) n))
def map0 (B : List Nat) : Nat → Nat := fun i => (mapL B).getD i 0
def plL (B : List Nat) : List Nat := (plF B (mapL B).length (map0 B) B.length).1
def dgF : Nat → Nat → List Nat
  | 0, _ => []
  | f + 1, r => if r = 0 then [] else (r - 1) % 2 :: dgF f ((r - 1) / 2)
def dg (r : Nat) : List Nat := dgF r r
def syF (P : List Nat) : Nat → Nat × List Nat
  | 0 => (0, [])
  | i + 1 => if P.getD i 0 = 0 then ((syF P i).1 + 1, (syF P i).2) else (0, (syF P i).2 ++ dg (syF P i).1 ++ [P.getD i 0 + 1])
def symL (B : List Nat) : List Nat := if B.length = 0 then [] else (syF (plL B) B.length).2 ++ dg (syF (plL B) B.length).1 ++ [(mapL B).length + 1]
/-! facts -/
theorem fnd_le (l : Nat → Nat) (v : Nat) : ∀ n, fnd l v n ≤ n
  | 0 => Nat.le_refl _
  | n + 1 => by
    have := fnd_le l v n
    unfold fnd
    split
    · omega
    · split <;> omega
theorem fnd_at (l : Nat → Nat) (v : Nat) : ∀ n, fnd l v n < n → l (fnd l v n) = v
  | 0, h => by unfold fnd at h; omega
  | n + 1, h => by
    have ih := fnd_at l v n
    unfold fnd at h ⊢
    by_cases h1 : fnd l v n < n
    · rw [if_pos h1]; exact ih h1
    · rw [if_neg h1] at h ⊢
      by_cases h2 : l n = v
      · rw [if_pos h2]; exact h2
      · rw [if_neg h2] at h; omega
theorem fnd_min (l : Nat → Nat) (v : Nat) : ∀ n q, q < fnd l v n → l q ≠ v
  | 0, q, h => by unfold fnd at h; omega
  | n + 1, q, h => by
    have ih := fnd_min l v n q
    have hle := fnd_le l v n
    unfold fnd at h
    by_cases h1 : fnd l v n < n
    · rw [if_pos h1] at h; exact ih h
    · rw [if_neg h1] at h
      have h3 : fnd l v n = n := by omega
      by_cases h2 : l n = v
      · rw [if_pos h2] at h; exact ih (by omega)
      · rw [if_neg h2] at h
        by_cases h4 : q = n
        · rw [h4]; exact h2
        · exact ih (by omega)
theorem fnd_lt {l : Nat → Nat} {v n p : Nat} (hp : p < n) (h : l p = v) : fnd l v n < n := by
  rcases Nat.lt_or_ge (fnd l v n) n with h1 | h1
  · exact h1
  · have := fnd_le l v n
    exact absurd h (fnd_min l v n p (by omega))
theorem dgF_eq : ∀ (f r : Nat), r ≤ f → dgF f r = dg r := by
  have key : ∀ (n f g r : Nat), r ≤ n → r ≤ f → r ≤ g → dgF f r = dgF g r := by
    intro n
    induction n with
    | zero =>
      intro f g r h1 h2 h3
      have h0 : r = 0 := by omega
      subst h0
      cases f <;> cases g <;> simp [dgF]
    | succ n ih =>
      intro f g r h1 h2 h3
      cases f with
      | zero =>
        have h0 : r = 0 := by omega
        subst h0
        cases g <;> simp [dgF]
      | succ f =>
        cases g with
        | zero =>
          have h0 : r = 0 := by omega
          subst h0
          simp [dgF]
        | succ g =>
          unfold dgF
          by_cases h0 : r = 0
          · rw [if_pos h0, if_pos h0]
          · rw [if_neg h0, if_neg h0, ih f g ((r - 1) / 2) (by omega) (by omega) (by omega)]
  intro f r h
  exact key r f r r (Nat.le_refl _) h (Nat.le_refl _)
theorem dg_0 : dg 0 = [] := rfl
theorem dg_s {r : Nat} (h : r ≠ 0) : dg r = (r - 1) % 2 :: dg ((r - 1) / 2) := by
  obtain ⟨f, rfl⟩ : ∃ f, r = f + 1 := ⟨r - 1, by omega⟩
  show dgF (f + 1) (f + 1) = _
  unfold dgF
  rw [if_neg h, dgF_eq f _ (by omega)]
theorem dg_len : ∀ r, (dg r).length ≤ r := by
  intro r
  induction r using Nat.strongRecOn with
  | _ r ih =>
    by_cases h : r = 0
    · subst h; simp [dg_0]
    · rw [dg_s h, List.length_cons]
      have := ih ((r - 1) / 2) (by omega)
      omega
theorem dg_lt : ∀ r, ∀ x ∈ dg r, x < 2 := by
  intro r
  induction r using Nat.strongRecOn with
  | _ r ih =>
    intro x hx
    by_cases h : r = 0
    · subst h; simp [dg_0] at hx
    · rw [dg_s h, List.mem_cons] at hx
      rcases hx with rfl | hx
      · omega
      · exact ih ((r - 1) / 2) (by omega) x hx
theorem plF_len (B : List Nat) (n : Nat) (l0 : Nat → Nat) : ∀ i, (plF B n l0 i).1.length = i
  | 0 => rfl
  | i + 1 => by unfold plF; rw [List.length_append, plF_len B n l0 i]; rfl
theorem plL_len (B : List Nat) : (plL B).length = B.length := plF_len ..
theorem mapL_len (B : List Nat) : (mapL B).length ≤ 256 := by
  have := List.length_filter_le (pres B) (List.range 256)
  rw [List.length_range] at this
  exact this
theorem mapL_mem {B : List Nat} {v : Nat} : v ∈ mapL B ↔ v < 256 ∧ v ∈ B := by
  unfold mapL pres
  rw [List.mem_filter, List.mem_range, decide_eq_true_eq]
theorem mapL_lt {B : List Nat} {i : Nat} (h : i < (mapL B).length) : map0 B i < 256 := by
  have : map0 B i ∈ mapL B := by
    unfold map0
    rw [List.getD_eq_getElem?_getD, List.getElem?_eq_getElem h]
    exact List.getElem_mem h
  exact (mapL_mem.mp this).1
/-- the list holds every sign of the map, at every time -/
theorem mtf_has {l : Nat → Nat} {n p v : Nat} (hp : p < n) (h : ∃ q, q < n ∧ l q = v) : ∃ q, q < n ∧ mtf l p q = v := by
  obtain ⟨q, h1, h2⟩ := h
  by_cases e : q = p
  · exact ⟨0, by omega, by unfold mtf; rw [if_pos rfl, ← e]; exact h2⟩
  · by_cases h3 : q < p
    · exact ⟨q + 1, by omega, by unfold mtf; rw [if_neg (by omega), if_pos (by omega)]; exact h2⟩
    · exact ⟨q, h1, by unfold mtf; rw [if_neg (by omega), if_neg (by omega)]; exact h2⟩
theorem plF_has {B : List Nat} (hB : ∀ v ∈ B, v < 256) : ∀ i, i ≤ B.length → (∀ v, v ∈ B → ∃ q, q < (mapL B).length ∧ (plF B (mapL B).length (map0 B) i).2 q = v)
  | 0, _, v, hv => by
    have hm : v ∈ mapL B := mapL_mem.mpr ⟨hB v hv, hv⟩
    obtain ⟨q, hq, e⟩ := List.getElem_of_mem hm
    refine ⟨q, hq, ?_⟩
    show map0 B q = v
    unfold map0
    rw [List.getD_eq_getElem?_getD, List.getElem?_eq_getElem hq]
    exact e
  | i + 1, hi, v, hv => by
    have hs : B.getD i 0 ∈ B := by
      rw [List.getD_eq_getElem?_getD, List.getElem?_eq_getElem (by omega)]
      exact List.getElem_mem _
    obtain ⟨q, h1, h2⟩ := plF_has hB i (by omega) _ hs
    unfold plF
    exact mtf_has (fnd_lt h1 h2) (plF_has hB i (by omega) v hv)
theorem plF_fnd {B : List Nat} (hB : ∀ v ∈ B, v < 256) {i : Nat} (hi : i < B.length) : fnd (plF B (mapL B).length (map0 B) i).2 (B.getD i 0) (mapL B).length < (mapL B).length := by
  have hs : B.getD i 0 ∈ B := by
    rw [List.getD_eq_getElem?_getD, List.getElem?_eq_getElem hi]
    exact List.getElem_mem _
  obtain ⟨q, h1, h2⟩ := plF_has hB i (by omega) _ hs
  exact fnd_lt h1 h2
theorem mtf_lt {l : Nat → Nat} {n p b : Nat} (hp : p < n) (h : ∀ i, i < n → l i < b) : ∀ i, i < n → mtf l p i < b := by
  intro i hi
  unfold mtf
  split
  · exact h p hp
  · split
    · exact h _ (by omega)
    · exact h i hi
theorem plF_lt {B : List Nat} (hB : ∀ v ∈ B, v < 256) : ∀ i, i ≤ B.length → ∀ q, q < (mapL B).length → (plF B (mapL B).length (map0 B) i).2 q < 256
  | 0, _, q, hq => mapL_lt hq
  | i + 1, hi, q, hq => by
    unfold plF
    exact mtf_lt (plF_fnd hB (by omega)) (plF_lt hB i (by omega)) q hq
theorem syF_len (P : List Nat) : ∀ i, (syF P i).2.length + (syF P i).1 ≤ i
  | 0 => by simp [syF]
  | i + 1 => by
    have ih := syF_len P i
    have := dg_len (syF P i).1
    unfold syF
    split
    · show (syF P i).2.length + ((syF P i).1 + 1) ≤ i + 1
      omega
    · show ((syF P i).2 ++ dg (syF P i).1 ++ [P.getD i 0 + 1]).length + 0 ≤ i + 1
      simp only [List.length_append, List.length_singleton]
      omega
theorem symL_len (B : List Nat) : (symL B).length ≤ B.length + 1 := by
  unfold symL
  split
  · simp
  · have := syF_len (plL B) B.length
    have := dg_len (syF (plL B) B.length).1
    simp only [List.length_append, List.length_singleton]
    omega
theorem getD_app_l {L M : List Nat} {i : Nat} (h : i < L.length) : (L ++ M).getD i 0 = L.getD i 0 := by
  rw [List.getD_eq_getElem?_getD, List.getD_eq_getElem?_getD, List.getElem?_append_left h]
theorem getD_app_r {L M : List Nat} {i : Nat} : (L ++ M).getD (L.length + i) 0 = M.getD i 0 := by
  rw [List.getD_eq_getElem?_getD, List.getD_eq_getElem?_getD, List.getElem?_append_right (by omega), Nat.add_sub_cancel_left]
theorem plF_get (B : List Nat) (n : Nat) (l0 : Nat → Nat) : ∀ (k i : Nat), i < k → (plF B n l0 k).1.getD i 0 = fnd (plF B n l0 i).2 (B.getD i 0) n
  | 0, i, h => by omega
  | k + 1, i, h => by
    have hl := plF_len B n l0 k
    show ((plF B n l0 k).1 ++ [fnd (plF B n l0 k).2 (B.getD k 0) n]).getD i 0 = _
    by_cases e : i = k
    · subst e
      have := getD_app_r (L := (plF B n l0 i).1) (M := [fnd (plF B n l0 i).2 (B.getD i 0) n]) (i := 0)
      rw [hl] at this
      exact this
    · rw [getD_app_l (by omega)]
      exact plF_get B n l0 k i (by omega)
theorem plL_lt {B : List Nat} (hB : ∀ v ∈ B, v < 256) {i : Nat} (hi : i < B.length) : (plL B).getD i 0 < (mapL B).length := by
  unfold plL
  rw [plF_get _ _ _ _ _ hi]
  exact plF_fnd hB hi
theorem syF_z {P : List Nat} {i : Nat} (h : P.getD i 0 = 0) : syF P (i + 1) = ((syF P i).1 + 1, (syF P i).2) := by rw [syF, if_pos h]
theorem syF_n {P : List Nat} {i : Nat} (h : ¬ P.getD i 0 = 0) : syF P (i + 1) = (0, (syF P i).2 ++ dg (syF P i).1 ++ [P.getD i 0 + 1]) := by rw [syF, if_neg h]
theorem getD_take_succ {B : List Nat} {k : Nat} (h : k < B.length) : B.take (k + 1) = B.take k ++ [B.getD k 0] := by
  rw [List.take_succ, List.getElem?_eq_getElem h, List.getD_eq_getElem?_getD, List.getElem?_eq_getElem h]
  rfl
theorem getD_mem {B : List Nat} {k : Nat} (h : k < B.length) : B.getD k 0 ∈ B := by
  rw [List.getD_eq_getElem?_getD, List.getElem?_eq_getElem h]
  exact List.getElem_mem _
