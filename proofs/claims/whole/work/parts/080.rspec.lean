/-! ===== THE SPEC: the way back. A fault and its position, or what is read and the position behind it ===== -/
def rN (T : List Nat) (w p : Nat) : (Nat × Nat) ⊕ (Nat × Nat) := if p + w ≤ T.length then .inr (hN (fun i => T.getD (p + i) 0) w, p + w) else .inl (1, T.length)
def fdL (k v : Nat) : List Nat := catN (fun i => if v / 2 ^ (15 - i) % 2 = 1 then [16 * k + i] else []) 16
def mpG (T : List Nat) (v : Nat) : Nat → Nat → List Nat → Nat → (Nat × Nat) ⊕ (List Nat × Nat)
  | 0, _, l, p => .inr (l, p)
  | f + 1, k, l, p => if v / 2 ^ (15 - k) % 2 = 1 then (match rN T 16 p with
    | .inl q => .inl q
    | .inr q => if q.1 = 0 then .inl (2, q.2) else mpG T v f (k + 1) (l ++ fdL k q.1) q.2) else mpG T v f (k + 1) l p
def chG (T : List Nat) : Nat → Nat → Nat → (Nat × Nat) ⊕ (Nat × Nat)
  | 0, _, p => .inl (4, p)
  | f + 1, o, p => if p < T.length then (if T.getD p 0 = 0 then .inr (o, p + 1) else chG T f (o + 1) (p + 1)) else .inl (1, p)
def rcG (T : List Nat) (tb : Nat) : Nat → List Nat → (Nat → Nat) → Nat → (Nat × Nat) ⊕ (List Nat × Nat)
  | 0, C, _, p => .inr (C, p)
  | f + 1, C, l, p => match chG T tb 0 p with
    | .inl q => .inl q
    | .inr q => rcG T tb f (C ++ [l q.1]) (mtf l q.1) q.2
def nlG (T : List Nat) : Nat → Nat → Nat → (Nat × Nat) ⊕ (Nat × Nat)
  | 0, _, p => .inl (1, p)
  | f + 1, n, p => if p < T.length then (if T.getD p 0 = 0 then .inr (n, p + 1) else if p + 1 < T.length then (if 1 ≤ (if T.getD (p + 1) 0 = 1 then n - 1 else n + 1) ∧ (if T.getD (p + 1) 0 = 1 then n - 1 else n + 1) ≤ 20 then nlG T f (if T.getD (p + 1) 0 = 1 then n - 1 else n + 1) (p + 2) else .inl (5, p + 2)) else .inl (1, p + 1)) else .inl (1, p)
def leG (T : List Nat) : Nat → Nat → (Nat → Nat) → Nat → Nat → (Nat × Nat) ⊕ ((Nat → Nat) × Nat)
  | 0, _, g, _, p => .inr (g, p)
  | f + 1, k, g, n, p => match nlG T (T.length + 1 - p) n p with
    | .inl q => .inl q
    | .inr q => leG T f (k + 1) (va_up g k q.1) q.1 q.2
def t1G (T : List Nat) (K p : Nat) : (Nat × Nat) ⊕ ((Nat → Nat) × Nat) := match rN T 5 p with
  | .inl q => .inl q
  | .inr q => if 1 ≤ q.1 ∧ q.1 ≤ 20 then (match leG T K 0 (fun _ => 1) q.1 q.2 with
    | .inl q => .inl q
    | .inr q => if fil q.1 K ≤ 2 ^ 20 then .inr q else .inl (6, q.2)) else .inl (5, q.2)
def tbG (T : List Nat) (K : Nat) : Nat → Nat → (Nat → Nat → Nat) → Nat → (Nat × Nat) ⊕ ((Nat → Nat → Nat) × Nat)
  | 0, _, G, p => .inr (G, p)
  | f + 1, t, G, p => match t1G T K p with
    | .inl q => .inl q
    | .inr q => tbG T K f (t + 1) (va_up G t q.1) q.2
/-- the first KIND of this CODE -/
def fkN (len : Nat → Nat) (K L v : Nat) : Nat := fnd (fun i => if len i = L then cod len K i + 1 else 0) (v + 1) K
def nkG (T : List Nat) (len : Nat → Nat) (K : Nat) : Nat → Nat → Nat → Nat → (Nat × Nat) ⊕ (Nat × Nat)
  | 0, _, _, p => .inl (7, p)
  | f + 1, L, v, p => if p < T.length then (if fkN len K L (2 * v + T.getD p 0) < K then .inr (fkN len K L (2 * v + T.getD p 0), p + 1) else if (2 * v + T.getD p 0) * 2 ^ (20 - L) < fil len K then nkG T len K f (L + 1) (2 * v + T.getD p 0) (p + 1) else .inl (7, p + 1)) else .inl (1, p)
def smG (T : List Nat) (K gr : Nat) (C : List Nat) (G : Nat → Nat → Nat) : Nat → Nat → List Nat → (Nat → Nat) → Nat → Nat → (Nat × Nat) ⊕ (List Nat × Nat)
  | 0, _, _, _, _, p => .inl (9, p)
  | f + 1, i, B, l, z, p => match nkG T (G (C.getD (i / 10) 0)) K 20 1 0 p with
    | .inl q => .inl q
    | .inr q => if q.1 = K - 1 then (if B.length = 0 then .inl (9, q.2) else if (i + 10) / 10 < gr ∨ q.2 < T.length then .inl (10, q.2) else .inr (B, q.2))
      else if 1 < q.1 then (if B.length + 1 ≤ 300 then smG T K gr C G f (i + 1) (B ++ [l (q.1 - 1)]) (mtf l (q.1 - 1)) 1 q.2 else .inl (8, q.2))
      else (if B.length + z * (q.1 + 1) ≤ 300 then smG T K gr C G f (i + 1) (B ++ List.replicate (z * (q.1 + 1)) (l 0)) l (z * 2) q.2 else .inl (8, q.2))
/-- the first sixteen bits, then the MAP -/
def r1G (T : List Nat) : (Nat × Nat) ⊕ (List Nat × Nat) := match rN T 16 0 with
  | .inl q => .inl q
  | .inr q => if q.1 = 0 then .inl (2, q.2) else mpG T q.1 16 0 [] q.2
/-- how many TABLES and GROUPS -/
def r2G (T : List Nat) (p : Nat) : (Nat × Nat) ⊕ ((Nat × Nat) × Nat) := match rN T 2 p with
  | .inl q => .inl q
  | .inr q => match rN T 5 q.2 with
    | .inl q' => .inl q'
    | .inr q' => if q.1 = 0 ∨ q'.1 = 0 then .inl (3, q'.2) else .inr ((q.1, q'.1), q'.2)
def rdG (T : List Nat) : (Nat × Nat) ⊕ (List Nat × Nat) := match r1G T with
  | .inl q => .inl q
  | .inr q1 => match r2G T q1.2 with
    | .inl q => .inl q
    | .inr q2 => match rcG T q2.1.1 q2.1.2 [] (fun i => i) q2.2 with
      | .inl q => .inl q
      | .inr q3 => match tbG T (q1.1.length + 2) q2.1.1 0 (fun _ _ => 0) q3.2 with
        | .inl q => .inl q
        | .inr q4 => smG T (q1.1.length + 2) q2.1.2 q3.1 q4.1 (10 * q2.1.2) 0 [] (fun i => q1.1.getD i 0) 1 q4.2
/-! facts -/
def okF (T : List Nat) (q : Nat × Nat) : Prop := 1 ≤ q.1 ∧ q.1 ≤ 10 ∧ q.2 ≤ T.length
section RF
variable {T : List Nat}
theorem getD_lt2 (hT : ∀ x ∈ T, x < 2) (p : Nat) : T.getD p 0 < 2 := by
  by_cases h : p < T.length
  · exact hT _ (getD_mem h)
  · rw [List.getD_eq_getElem?_getD, List.getElem?_eq_none (by omega)]
    decide
theorem rN_inl {w p : Nat} {q : Nat × Nat} (h : rN T w p = .inl q) : q = (1, T.length) ∧ T.length < p + w := by
  unfold rN at h
  split at h
  · cases h
  · cases h
    exact ⟨rfl, by omega⟩
theorem rN_inr (hT : ∀ x ∈ T, x < 2) {w p : Nat} {q : Nat × Nat} (h : rN T w p = .inr q) : q.2 = p + w ∧ p + w ≤ T.length ∧ q.1 = hN (fun i => T.getD (p + i) 0) w ∧ q.1 < 2 ^ w := by
  unfold rN at h
  split at h
  · cases h
    exact ⟨rfl, by assumption, rfl, hN_lt (fun k _ => getD_lt2 hT _)⟩
  · cases h
theorem hN_0 {β : Nat → Nat} : ∀ {n : Nat}, (∀ k, k < n → β k = 0) → hN β n = 0
  | 0, _ => rfl
  | n + 1, h => by rw [hN_s, hN_0 (fun k hk => h k (by omega)), h n (by omega)]
theorem bit_ex {v : Nat} {β : Nat → Nat} (hb : ∀ k, k < 16 → β k < 2) (e : v = hN β 16) (h : v ≠ 0) : ∃ k, k < 16 ∧ v / 2 ^ (15 - k) % 2 = 1 := by
  rcases Classical.em (∃ k, k < 16 ∧ v / 2 ^ (15 - k) % 2 = 1) with q | q
  · exact q
  · exfalso
    apply h
    rw [e]
    refine hN_0 (fun k hk => ?_)
    have h1 := hN_bit hb k hk
    rw [← e] at h1
    have h2 : ¬ v / 2 ^ (15 - k) % 2 = 1 := fun c => q ⟨k, hk, c⟩
    have h3 := hb k hk
    rw [show 16 - 1 - k = 15 - k by omega] at h1
    omega
theorem catN_ne {X : Nat → List Nat} : ∀ {n k : Nat}, k < n → X k ≠ [] → catN X n ≠ []
  | 0, k, h, _ => by omega
  | n + 1, k, h, hx => by
    rw [catN_s]
    by_cases e : k = n
    · rw [e] at hx
      exact fun q => hx (List.append_eq_nil_iff.mp q).2
    · exact fun q => catN_ne (X := X) (n := n) (k := k) (by omega) hx (List.append_eq_nil_iff.mp q).1
theorem fdL_len (k v : Nat) : (fdL k v).length ≤ 16 := by
  have key : ∀ n, (catN (fun i => if v / 2 ^ (15 - i) % 2 = 1 then [16 * k + i] else []) n).length ≤ n := by
    intro n
    induction n with
    | zero => exact Nat.le_refl _
    | succ n ih =>
      rw [catN_s, List.length_append]
      have : (if v / 2 ^ (15 - n) % 2 = 1 then [16 * k + n] else []).length ≤ 1 := by split <;> simp
      omega
  exact key 16
theorem fdL_lt {k v : Nat} (hk : k < 16) : ∀ x ∈ fdL k v, x < 256 := catN_all (fun i hi x hx => by
  split at hx
  · rw [List.mem_singleton] at hx; omega
  · simp at hx)
theorem fdL_ne {k v : Nat} {β : Nat → Nat} (hb : ∀ k, k < 16 → β k < 2) (e : v = hN β 16) (h : v ≠ 0) : fdL k v ≠ [] := by
  obtain ⟨j, hj, h1⟩ := bit_ex hb e h
  exact catN_ne (k := j) hj (by rw [if_pos h1]; simp)
theorem mpG_ok (hT : ∀ x ∈ T, x < 2) {v : Nat} : ∀ f k l p, k + f = 16 → p ≤ T.length → l.length ≤ 16 * k → (∀ x ∈ l, x < 256) → (∀ q, mpG T v f k l p = .inl q → okF T q) ∧ ∀ q, mpG T v f k l p = .inr q → q.2 ≤ T.length ∧ q.1.length ≤ 256 ∧ (∀ x ∈ q.1, x < 256) ∧ ((l ≠ [] ∨ ∃ j, k ≤ j ∧ j < 16 ∧ v / 2 ^ (15 - j) % 2 = 1) → q.1 ≠ [])
  | 0, k, l, p, hf, hp, hl, hx => ⟨fun q h => (by cases h), fun q h => by
      cases h
      exact ⟨hp, by show l.length ≤ 256; omega, hx, fun c => by
        rcases c with c | ⟨j, h1, h2, -⟩
        · exact c
        · omega⟩⟩
  | f + 1, k, l, p, hf, hp, hl, hx => by
    unfold mpG
    by_cases c : v / 2 ^ (15 - k) % 2 = 1
    · rw [if_pos c]
      cases h : rN T 16 p with
      | inl q =>
        obtain ⟨rfl, h2⟩ := rN_inl h
        exact ⟨fun q h => by cases h; exact ⟨by show 1 ≤ 1; omega, by show 1 ≤ 10; omega, Nat.le_refl _⟩, fun q h => by cases h⟩
      | inr u =>
        obtain ⟨h1, h2, h3, h4⟩ := rN_inr hT h
        dsimp only
        by_cases e : u.1 = 0
        · rw [if_pos e]
          exact ⟨fun q h => by cases h; exact ⟨by show 1 ≤ 2; omega, by show 2 ≤ 10; omega, by show u.2 ≤ _; omega⟩, fun q h => by cases h⟩
        · rw [if_neg e]
          have hfd := fdL_len k u.1
          obtain ⟨i1, i2⟩ := mpG_ok hT (v := v) f (k + 1) (l ++ fdL k u.1) u.2 (by omega) (by omega) (by rw [List.length_append]; omega) (fun x hx2 => by
            rw [List.mem_append] at hx2
            rcases hx2 with hx2 | hx2
            · exact hx x hx2
            · exact fdL_lt (by omega) x hx2)
          refine ⟨i1, fun q hq => ?_⟩
          obtain ⟨a1, a2, a3, a4⟩ := i2 q hq
          exact ⟨a1, a2, a3, fun _ => a4 (Or.inl (fun q => fdL_ne (fun k _ => getD_lt2 hT _) h3 e (List.append_eq_nil_iff.mp q).2))⟩
    · rw [if_neg c]
      obtain ⟨i1, i2⟩ := mpG_ok hT (v := v) f (k + 1) l p (by omega) hp (by omega) hx
      refine ⟨i1, fun q hq => ?_⟩
      obtain ⟨a1, a2, a3, a4⟩ := i2 q hq
      refine ⟨a1, a2, a3, fun d => a4 ?_⟩
      rcases d with d | ⟨j, h1, h2, h3⟩
      · exact Or.inl d
      · refine Or.inr ⟨j, ?_, h2, h3⟩
        by_cases e : j = k
        · rw [e] at h3; exact absurd h3 c
        · omega
theorem chG_ok : ∀ f o p, p ≤ T.length → (∀ q, chG T f o p = .inl q → okF T q) ∧ ∀ q, chG T f o p = .inr q → q.2 ≤ T.length ∧ q.1 < o + f
  | 0, o, p, hp => ⟨fun q h => by cases h; exact ⟨by show 1 ≤ 4; omega, by show 4 ≤ 10; omega, hp⟩, fun q h => by cases h⟩
  | f + 1, o, p, hp => by
    unfold chG
    by_cases c : p < T.length
    · rw [if_pos c]
      by_cases e : T.getD p 0 = 0
      · rw [if_pos e]
        exact ⟨fun q h => (by cases h), fun q h => by cases h; exact ⟨by show p + 1 ≤ _; omega, by show o < _; omega⟩⟩
      · rw [if_neg e]
        obtain ⟨i1, i2⟩ := chG_ok f (o + 1) (p + 1) (by omega)
        exact ⟨i1, fun q h => ⟨(i2 q h).1, by have := (i2 q h).2; omega⟩⟩
    · rw [if_neg c]
      exact ⟨fun q h => by cases h; exact ⟨by show 1 ≤ 1; omega, by show 1 ≤ 10; omega, hp⟩, fun q h => by cases h⟩
theorem rcG_ok {tb : Nat} : ∀ f C l p, p ≤ T.length → (∀ x ∈ C, x < tb) → (∀ i, i < tb → l i < tb) → (∀ q, rcG T tb f C l p = .inl q → okF T q) ∧ ∀ q, rcG T tb f C l p = .inr q → q.2 ≤ T.length ∧ q.1.length = C.length + f ∧ ∀ x ∈ q.1, x < tb
  | 0, C, l, p, hp, hC, hl => ⟨fun q h => (by cases h), fun q h => by cases h; exact ⟨hp, rfl, hC⟩⟩
  | f + 1, C, l, p, hp, hC, hl => by
    unfold rcG
    have hc := chG_ok (T := T) tb 0 p hp
    cases h : chG T tb 0 p with
    | inl q => exact ⟨fun q' h' => by cases h'; exact hc.1 q h, fun q h => by cases h⟩
    | inr u =>
      obtain ⟨h1, h2⟩ := hc.2 u h
      dsimp only
      obtain ⟨i1, i2⟩ := rcG_ok (tb := tb) f (C ++ [l u.1]) (mtf l u.1) u.2 h1 (fun x hx => by
        rw [List.mem_append, List.mem_singleton] at hx
        rcases hx with hx | hx
        · exact hC x hx
        · rw [hx]; exact hl _ (by omega)) (mtf_lt (by omega) hl)
      refine ⟨i1, fun q hq => ?_⟩
      obtain ⟨a1, a2, a3⟩ := i2 q hq
      exact ⟨a1, by rw [a2, List.length_append, List.length_singleton]; omega, a3⟩
theorem nlG_ok : ∀ f n p, p ≤ T.length → 1 ≤ n → n ≤ 20 → (∀ q, nlG T f n p = .inl q → okF T q) ∧ ∀ q, nlG T f n p = .inr q → q.2 ≤ T.length ∧ 1 ≤ q.1 ∧ q.1 ≤ 20
  | 0, n, p, hp, h1, h2 => ⟨fun q h => by cases h; exact ⟨by show 1 ≤ 1; omega, by show 1 ≤ 10; omega, hp⟩, fun q h => by cases h⟩
  | f + 1, n, p, hp, h1, h2 => by
    unfold nlG
    generalize (if T.getD (p + 1) 0 = 1 then n - 1 else n + 1) = m
    by_cases c : p < T.length
    · rw [if_pos c]
      by_cases e : T.getD p 0 = 0
      · rw [if_pos e]
        exact ⟨fun q h => (by cases h), fun q h => by cases h; exact ⟨by show p + 1 ≤ _; omega, h1, h2⟩⟩
      · rw [if_neg e]
        by_cases c2 : p + 1 < T.length
        · rw [if_pos c2]
          by_cases c3 : 1 ≤ m ∧ m ≤ 20
          · rw [if_pos c3]
            exact nlG_ok f m (p + 2) (by omega) c3.1 c3.2
          · rw [if_neg c3]
            exact ⟨fun q h => by cases h; exact ⟨by show 1 ≤ 5; omega, by show 5 ≤ 10; omega, by show p + 2 ≤ _; omega⟩, fun q h => by cases h⟩
        · rw [if_neg c2]
          exact ⟨fun q h => by cases h; exact ⟨by show 1 ≤ 1; omega, by show 1 ≤ 10; omega, by show p + 1 ≤ _; omega⟩, fun q h => by cases h⟩
    · rw [if_neg c]
      exact ⟨fun q h => by cases h; exact ⟨by show 1 ≤ 1; omega, by show 1 ≤ 10; omega, hp⟩, fun q h => by cases h⟩
theorem leG_ok : ∀ f k g n p, p ≤ T.length → 1 ≤ n → n ≤ 20 → (∀ j, 1 ≤ g j ∧ g j ≤ 20) → (∀ q, leG T f k g n p = .inl q → okF T q) ∧ ∀ q, leG T f k g n p = .inr q → q.2 ≤ T.length ∧ ∀ j, 1 ≤ q.1 j ∧ q.1 j ≤ 20
  | 0, k, g, n, p, hp, h1, h2, hg => ⟨fun q h => (by cases h), fun q h => by cases h; exact ⟨hp, hg⟩⟩
  | f + 1, k, g, n, p, hp, h1, h2, hg => by
    unfold leG
    have hn := nlG_ok (T := T) (T.length + 1 - p) n p hp h1 h2
    cases h : nlG T (T.length + 1 - p) n p with
    | inl q => exact ⟨fun q' h' => by cases h'; exact hn.1 q h, fun q h => by cases h⟩
    | inr u =>
      obtain ⟨a1, a2, a3⟩ := hn.2 u h
      exact leG_ok f (k + 1) (va_up g k u.1) u.1 u.2 a1 a2 a3 (fun j => by
        by_cases e : j = k
        · rw [e, va_up_self]; exact ⟨a2, a3⟩
        · rw [va_up_ne _ _ e]; exact hg j)
theorem t1G_ok (hT : ∀ x ∈ T, x < 2) {K p : Nat} (hp : p ≤ T.length) : (∀ q, t1G T K p = .inl q → okF T q) ∧ ∀ q, t1G T K p = .inr q → q.2 ≤ T.length ∧ (∀ j, 1 ≤ q.1 j ∧ q.1 j ≤ 20) ∧ fil q.1 K ≤ 2 ^ 20 := by
  unfold t1G
  cases h : rN T 5 p with
  | inl q =>
    obtain ⟨rfl, h2⟩ := rN_inl h
    exact ⟨fun q h => by cases h; exact ⟨by show 1 ≤ 1; omega, by show 1 ≤ 10; omega, Nat.le_refl _⟩, fun q h => by cases h⟩
  | inr u =>
    obtain ⟨h1, h2, h3, h4⟩ := rN_inr hT h
    dsimp only
    by_cases c : 1 ≤ u.1 ∧ u.1 ≤ 20
    · rw [if_pos c]
      have hl := leG_ok (T := T) K 0 (fun _ => 1) u.1 u.2 (by omega) c.1 c.2 (fun j => ⟨Nat.le_refl _, by omega⟩)
      cases h : leG T K 0 (fun _ => 1) u.1 u.2 with
      | inl q => exact ⟨fun q' h' => by cases h'; exact hl.1 q h, fun q h => by cases h⟩
      | inr u =>
        obtain ⟨a1, a2⟩ := hl.2 u h
        dsimp only
        by_cases c : fil u.1 K ≤ 2 ^ 20
        · rw [if_pos c]
          exact ⟨fun q h => (by cases h), fun q h => by cases h; exact ⟨a1, a2, c⟩⟩
        · rw [if_neg c]
          exact ⟨fun q h => by cases h; exact ⟨by show 1 ≤ 6; omega, by show 6 ≤ 10; omega, a1⟩, fun q h => by cases h⟩
    · rw [if_neg c]
      exact ⟨fun q h => by cases h; exact ⟨by show 1 ≤ 5; omega, by show 5 ≤ 10; omega, by show u.2 ≤ _; omega⟩, fun q h => by cases h⟩
/-- lengths and codes of the tables that were read -/
def okT (K tb : Nat) (G : Nat → Nat → Nat) : Prop := ∀ t, t < tb → (∀ j, 1 ≤ G t j ∧ G t j ≤ 20) ∧ fil (G t) K ≤ 2 ^ 20
theorem tbG_ok (hT : ∀ x ∈ T, x < 2) {K : Nat} : ∀ f t G p, p ≤ T.length → okT K t G → (∀ q, tbG T K f t G p = .inl q → okF T q) ∧ ∀ q, tbG T K f t G p = .inr q → q.2 ≤ T.length ∧ okT K (t + f) q.1
  | 0, t, G, p, hp, hG => ⟨fun q h => (by cases h), fun q h => by cases h; exact ⟨hp, hG⟩⟩
  | f + 1, t, G, p, hp, hG => by
    unfold tbG
    have hn := t1G_ok hT (K := K) hp
    cases h : t1G T K p with
    | inl q => exact ⟨fun q' h' => by cases h'; exact hn.1 q h, fun q h => by cases h⟩
    | inr u =>
      obtain ⟨a1, a2, a3⟩ := hn.2 u h
      have := tbG_ok hT (K := K) f (t + 1) (va_up G t u.1) u.2 a1 (fun s hs => by
        by_cases e : s = t
        · rw [e, va_up_self]; exact ⟨a2, a3⟩
        · rw [va_up_ne _ _ e]; exact hG s (by omega))
      rw [show t + (f + 1) = t + 1 + f by omega]
      exact this
theorem nkG_ok {len : Nat → Nat} {K : Nat} : ∀ f L v p, p ≤ T.length → (∀ q, nkG T len K f L v p = .inl q → okF T q) ∧ ∀ q, nkG T len K f L v p = .inr q → q.2 ≤ T.length ∧ q.1 < K
  | 0, L, v, p, hp => ⟨fun q h => by cases h; exact ⟨by show 1 ≤ 7; omega, by show 7 ≤ 10; omega, hp⟩, fun q h => by cases h⟩
  | f + 1, L, v, p, hp => by
    unfold nkG
    generalize 2 * v + T.getD p 0 = w
    by_cases c : p < T.length
    · rw [if_pos c]
      by_cases e : fkN len K L w < K
      · rw [if_pos e]
        exact ⟨fun q h => (by cases h), fun q h => by cases h; exact ⟨by show p + 1 ≤ _; omega, e⟩⟩
      · rw [if_neg e]
        by_cases c2 : w * 2 ^ (20 - L) < fil len K
        · rw [if_pos c2]
          exact nkG_ok f (L + 1) w (p + 1) (by omega)
        · rw [if_neg c2]
          exact ⟨fun q h => by cases h; exact ⟨by show 1 ≤ 7; omega, by show 7 ≤ 10; omega, by show p + 1 ≤ _; omega⟩, fun q h => by cases h⟩
    · rw [if_neg c]
      exact ⟨fun q h => by cases h; exact ⟨by show 1 ≤ 1; omega, by show 1 ≤ 10; omega, hp⟩, fun q h => by cases h⟩
theorem smG_ok {K gr : Nat} {C : List Nat} {G : Nat → Nat → Nat} (hK : 3 ≤ K) : ∀ f i B l z p, p ≤ T.length → B.length ≤ 300 → (∀ x ∈ B, x < 256) → (∀ i, i < K - 2 → l i < 256) → (∀ q, smG T K gr C G f i B l z p = .inl q → okF T q) ∧ ∀ q, smG T K gr C G f i B l z p = .inr q → q.2 ≤ T.length ∧ q.1.length ≤ 300 ∧ ∀ x ∈ q.1, x < 256
  | 0, i, B, l, z, p, hp, hB, hx, hl => ⟨fun q h => by cases h; exact ⟨by show 1 ≤ 9; omega, by show 9 ≤ 10; omega, hp⟩, fun q h => by cases h⟩
  | f + 1, i, B, l, z, p, hp, hB, hx, hl => by
    unfold smG
    have hn := nkG_ok (T := T) (len := G (C.getD (i / 10) 0)) (K := K) 20 1 0 p hp
    cases h : nkG T (G (C.getD (i / 10) 0)) K 20 1 0 p with
    | inl q => exact ⟨fun q' h' => by cases h'; exact hn.1 q h, fun q h => by cases h⟩
    | inr u =>
      obtain ⟨a1, a2⟩ := hn.2 u h
      dsimp only
      by_cases c1 : u.1 = K - 1
      · rw [if_pos c1]
        by_cases c2 : B.length = 0
        · rw [if_pos c2]
          exact ⟨fun q h => by cases h; exact ⟨by show 1 ≤ 9; omega, by show 9 ≤ 10; omega, a1⟩, fun q h => by cases h⟩
        · rw [if_neg c2]
          by_cases c3 : (i + 10) / 10 < gr ∨ u.2 < T.length
          · rw [if_pos c3]
            exact ⟨fun q h => by cases h; exact ⟨by show 1 ≤ 10; omega, by show 10 ≤ 10; omega, a1⟩, fun q h => by cases h⟩
          · rw [if_neg c3]
            exact ⟨fun q h => (by cases h), fun q h => by cases h; exact ⟨a1, hB, hx⟩⟩
      · rw [if_neg c1]
        by_cases c2 : 1 < u.1
        · rw [if_pos c2]
          by_cases c3 : B.length + 1 ≤ 300
          · rw [if_pos c3]
            exact smG_ok hK f (i + 1) _ _ 1 u.2 a1 (by rw [List.length_append, List.length_singleton]; exact c3) (fun x hx2 => by
              rw [List.mem_append, List.mem_singleton] at hx2
              rcases hx2 with hx2 | hx2
              · exact hx x hx2
              · rw [hx2]; exact hl _ (by omega)) (mtf_lt (by omega) hl)
          · rw [if_neg c3]
            exact ⟨fun q h => by cases h; exact ⟨by show 1 ≤ 8; omega, by show 8 ≤ 10; omega, a1⟩, fun q h => by cases h⟩
        · rw [if_neg c2]
          by_cases c3 : B.length + z * (u.1 + 1) ≤ 300
          · rw [if_pos c3]
            exact smG_ok hK f (i + 1) _ _ _ u.2 a1 (by rw [List.length_append, List.length_replicate]; exact c3) (fun x hx2 => by
              rw [List.mem_append] at hx2
              rcases hx2 with hx2 | hx2
              · exact hx x hx2
              · rw [List.eq_of_mem_replicate hx2]; exact hl _ (by omega)) hl
          · rw [if_neg c3]
            exact ⟨fun q h => by cases h; exact ⟨by show 1 ≤ 8; omega, by show 8 ≤ 10; omega, a1⟩, fun q h => by cases h⟩
theorem r1G_ok (hT : ∀ x ∈ T, x < 2) : (∀ q, r1G T = .inl q → okF T q) ∧ ∀ q, r1G T = .inr q → q.2 ≤ T.length ∧ 1 ≤ q.1.length ∧ q.1.length ≤ 256 ∧ ∀ x ∈ q.1, x < 256 := by
  unfold r1G
  cases h : rN T 16 0 with
  | inl q =>
    obtain ⟨rfl, h2⟩ := rN_inl h
    exact ⟨fun q h => by cases h; exact ⟨by show 1 ≤ 1; omega, by show 1 ≤ 10; omega, Nat.le_refl _⟩, fun q h => by cases h⟩
  | inr u =>
    obtain ⟨h1, h2, h3, h4⟩ := rN_inr hT h
    dsimp only
    by_cases c : u.1 = 0
    · rw [if_pos c]
      exact ⟨fun q h => by cases h; exact ⟨by show 1 ≤ 2; omega, by show 2 ≤ 10; omega, by show u.2 ≤ _; omega⟩, fun q h => by cases h⟩
    · rw [if_neg c]
      obtain ⟨i1, i2⟩ := mpG_ok hT (v := u.1) 16 0 [] u.2 rfl (by omega) (Nat.zero_le _) (fun x hx => by simp at hx)
      refine ⟨i1, fun q hq => ?_⟩
      obtain ⟨a1, a2, a3, a4⟩ := i2 q hq
      obtain ⟨j, hj, hb⟩ := bit_ex (fun k _ => getD_lt2 hT _) h3 c
      have := a4 (Or.inr ⟨j, by omega, hj, hb⟩)
      exact ⟨a1, List.length_pos_iff.mpr this, a2, a3⟩
theorem r2G_ok (hT : ∀ x ∈ T, x < 2) {p : Nat} : (∀ q, r2G T p = .inl q → okF T q) ∧ ∀ q, r2G T p = .inr q → q.2 ≤ T.length ∧ 1 ≤ q.1.1 ∧ q.1.1 ≤ 3 ∧ 1 ≤ q.1.2 ∧ q.1.2 ≤ 31 := by
  unfold r2G
  cases h : rN T 2 p with
  | inl q =>
    obtain ⟨rfl, h2⟩ := rN_inl h
    exact ⟨fun q h => by cases h; exact ⟨by show 1 ≤ 1; omega, by show 1 ≤ 10; omega, Nat.le_refl _⟩, fun q h => by cases h⟩
  | inr u =>
    obtain ⟨h1, h2, h3, h4⟩ := rN_inr hT h
    dsimp only
    cases h' : rN T 5 u.2 with
    | inl q =>
      obtain ⟨rfl, h2⟩ := rN_inl h'
      exact ⟨fun q h => by cases h; exact ⟨by show 1 ≤ 1; omega, by show 1 ≤ 10; omega, Nat.le_refl _⟩, fun q h => by cases h⟩
    | inr u' =>
      obtain ⟨g1, g2, g3, g4⟩ := rN_inr hT h'
      dsimp only
      by_cases c : u.1 = 0 ∨ u'.1 = 0
      · rw [if_pos c]
        exact ⟨fun q h => by cases h; exact ⟨by show 1 ≤ 3; omega, by show 3 ≤ 10; omega, by show u'.2 ≤ _; omega⟩, fun q h => by cases h⟩
      · rw [if_neg c]
        exact ⟨fun q h => (by cases h), fun q h => by cases h; exact ⟨by show u'.2 ≤ _; omega, by show 1 ≤ u.1; omega, by show u.1 ≤ 3; omega, by show 1 ≤ u'.1; omega, by show u'.1 ≤ 31; omega⟩⟩
end RF
