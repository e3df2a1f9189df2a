/-! ===== THE SPEC: a block as bits ===== -/
def catN (X : Nat → List Nat) : Nat → List Nat
  | 0 => []
  | n + 1 => catN X n ++ X n
theorem catN_s (X : Nat → List Nat) (n : Nat) : catN X (n + 1) = catN X n ++ X n := rfl
theorem catN_congr {X Y : Nat → List Nat} : ∀ {n : Nat}, (∀ k, k < n → X k = Y k) → catN X n = catN Y n
  | 0, _ => rfl
  | n + 1, h => by rw [catN_s, catN_s, catN_congr (fun k hk => h k (by omega)), h n (by omega)]
theorem catN_le (X : Nat → List Nat) : ∀ {a b : Nat}, a ≤ b → (catN X a).length ≤ (catN X b).length := by
  intro a b h
  induction b with
  | zero => rw [show a = 0 by omega]; exact Nat.le_refl _
  | succ b ih =>
    by_cases e : a = b + 1
    · rw [e]; exact Nat.le_refl _
    · have := ih (by omega)
      rw [catN_s, List.length_append]
      omega
theorem catN_all {X : Nat → List Nat} {p : Nat → Prop} : ∀ {n : Nat}, (∀ k, k < n → ∀ x ∈ X k, p x) → ∀ x ∈ catN X n, p x
  | 0, _, x, hx => by simp [catN] at hx
  | n + 1, h, x, hx => by
    rw [catN_s, List.mem_append] at hx
    rcases hx with hx | hx
    · exact catN_all (fun k hk => h k (by omega)) x hx
    · exact h n (by omega) x hx
def bitN (v w : Nat) : List Nat := catN (fun k => [v / 2 ^ (w - 1 - k) % 2]) w
theorem bitN_lt (v w : Nat) : ∀ x ∈ bitN v w, x < 2 := catN_all (fun k _ x hx => by
  rw [List.mem_singleton] at hx
  omega)
theorem bit_at {v s : Nat} (hv : v < 2 ^ 31) (hs : s < 32) : (nI v >>> (nI s &&& 31)) &&& (1 : Int32) = nI (v / 2 ^ s % 2) := by
  rw [pk_shrN hv _ s (smod31 s hs)]
  have : v / 2 ^ s ≤ v := Nat.div_le_self _ _
  exact pk_andN (by omega) 1 rfl
/-- digits, the first one counting most -/
def hN (β : Nat → Nat) : Nat → Nat
  | 0 => 0
  | n + 1 => 2 * hN β n + β n
theorem hN_s (β : Nat → Nat) (n : Nat) : hN β (n + 1) = 2 * hN β n + β n := rfl
theorem hN_lt {β : Nat → Nat} : ∀ {n : Nat}, (∀ k, k < n → β k < 2) → hN β n < 2 ^ n
  | 0, _ => Nat.zero_lt_one
  | n + 1, h => by
    have h1 := hN_lt (n := n) (fun k hk => h k (by omega))
    have h2 := h n (by omega)
    rw [hN_s, Nat.pow_succ]
    omega
theorem hN_bit {β : Nat → Nat} : ∀ {n : Nat}, (∀ k, k < n → β k < 2) → ∀ k, k < n → hN β n / 2 ^ (n - 1 - k) % 2 = β k
  | 0, _, k, hk => by omega
  | n + 1, h, k, hk => by
    have h2 := h n (by omega)
    rw [hN_s]
    by_cases e : k = n
    · rw [e, show n + 1 - 1 - n = 0 by omega, Nat.pow_zero, Nat.div_one]
      omega
    · have h1 := hN_bit (n := n) (fun k hk => h k (by omega)) k (by omega)
      rw [show n + 1 - 1 - k = (n - 1 - k) + 1 by omega, Nat.pow_succ, Nat.mul_comm (2 ^ (n - 1 - k)) 2, ← Nat.div_div_eq_div_mul, show (2 * hN β n + β n) / 2 = hN β n by omega]
      exact h1
theorem bitN_hN {β : Nat → Nat} {n : Nat} (h : ∀ k, k < n → β k < 2) : bitN (hN β n) n = catN (fun k => [β k]) n := catN_congr (fun k hk => by rw [hN_bit h k hk])
def fld (B : List Nat) (k : Nat) : Nat := hN (fun i => if 16 * k + i ∈ B then 1 else 0) 16
theorem fld_lt (B : List Nat) (k : Nat) : fld B k < 65536 := hN_lt (n := 16) (fun i _ => by show (if 16 * k + i ∈ B then 1 else 0) < 2; split <;> omega)
noncomputable def chF (S : List Nat) (K : Nat) : Nat → Nat → Nat
  | 0 => fun i => i
  | g + 1 => mtf (chF S K g) (fnd (chF S K g) (tkS S K 4 g) (nTb S))
noncomputable def chP (S : List Nat) (K g : Nat) : Nat := fnd (chF S K g) (tkS S K 4 g) (nTb S)
theorem chF_has (S : List Nat) (K : Nat) (hT : ∀ g, tkS S K 4 g < nTb S) : ∀ g v, v < nTb S → ∃ q, q < nTb S ∧ chF S K g q = v
  | 0, v, hv => ⟨v, hv, rfl⟩
  | g + 1, v, hv => by
    obtain ⟨q, h1, h2⟩ := chF_has S K hT g _ (hT g)
    exact mtf_has (fnd_lt h1 h2) (chF_has S K hT g v hv)
theorem chP_lt (S : List Nat) (K : Nat) (hT : ∀ g, tkS S K 4 g < nTb S) (g : Nat) : chP S K g < nTb S := by
  obtain ⟨q, h1, h2⟩ := chF_has S K hT g _ (hT g)
  exact fnd_lt h1 h2
theorem chF_lt (S : List Nat) (K : Nat) (hT : ∀ g, tkS S K 4 g < nTb S) : ∀ g q, q < nTb S → chF S K g q < nTb S
  | 0, q, hq => hq
  | g + 1, q, hq => mtf_lt (chP_lt S K hT g) (chF_lt S K hT g) q hq
def lnB (len : Nat → Nat) (k : Nat) : List Nat := catN (fun _ => bitN 2 2) (len k - len (k - 1)) ++ catN (fun _ => bitN 3 2) (len (k - 1) - len k) ++ [0]
def tblB (len : Nat → Nat) (K : Nat) : List Nat := bitN (len 0) 5 ++ catN (lnB len) K
def mapB1 (B : List Nat) : List Nat := catN (fun k => [if fld B k = 0 then 0 else 1]) 16
def mapB2 (B : List Nat) : List Nat := catN (fun k => if fld B k = 0 then [] else bitN (fld B k) 16) 16
noncomputable def chB (S : List Nat) (K : Nat) : List Nat := catN (fun g => catN (fun _ => [1]) (chP S K g) ++ [0]) (nGr S)
noncomputable def symB (S : List Nat) (K : Nat) : List Nat := catN (fun i => bitN (cod (lenS S K 4 (tkS S K 4 (i / 10))) K (S.getD i 0)) (lenS S K 4 (tkS S K 4 (i / 10)) (S.getD i 0))) S.length
noncomputable def tapeB (B : List Nat) : List Nat := mapB1 B ++ mapB2 B ++ bitN (nTb (symL B)) 2 ++ bitN (nGr (symL B)) 5 ++ chB (symL B) (KB B) ++ catN (fun t => tblB (lenS (symL B) (KB B) 4 t) (KB B)) (nTb (symL B)) ++ symB (symL B) (KB B)
theorem tapeB_lt (B : List Nat) : ∀ x ∈ tapeB B, x < 2 := by
  intro x hx
  simp only [tapeB, List.mem_append] at hx
  rcases hx with (((((h | h) | h) | h) | h) | h) | h
  · exact catN_all (p := fun x => x < 2) (fun k _ x hx => by rw [List.mem_singleton] at hx; rw [hx]; split <;> omega) x h
  · exact catN_all (p := fun x => x < 2) (fun k _ x hx => by
      split at hx
      · simp at hx
      · exact bitN_lt _ _ x hx) x h
  · exact bitN_lt _ _ x h
  · exact bitN_lt _ _ x h
  · exact catN_all (p := fun x => x < 2) (fun k _ x hx => by
      rw [List.mem_append, List.mem_singleton] at hx
      rcases hx with hx | hx
      · exact catN_all (p := fun x => x < 2) (fun k _ x hx => by rw [List.mem_singleton] at hx; omega) x hx
      · omega) x h
  · refine catN_all (p := fun x => x < 2) (fun k _ x hx => ?_) x h
    unfold tblB at hx
    rw [List.mem_append] at hx
    rcases hx with hx | hx
    · exact bitN_lt _ _ x hx
    · refine catN_all (p := fun x => x < 2) (fun k _ x hx => ?_) x hx
      simp only [lnB, List.mem_append, List.mem_singleton] at hx
      rcases hx with (hx | hx) | hx
      · exact catN_all (p := fun x => x < 2) (fun k _ => bitN_lt _ _) x hx
      · exact catN_all (p := fun x => x < 2) (fun k _ => bitN_lt _ _) x hx
      · omega
  · exact catN_all (p := fun x => x < 2) (fun k _ => bitN_lt _ _) x h
/-! what puts a list of bits behind those that stand -/
def Em {W : Type} (P : List Nat → W → Prop) (fl : Prop) (X : List Nat) (f : W → Option W) : Prop := ∀ L w, P L w → (fl → L.length + X.length ≤ 1500) → ∃ w', f w = some w' ∧ P (L ++ X) w'
theorem em_loop {W σ ρ : Type} (P : List Nat → W → Prop) (fl : Prop) {step : σ → Option (σ ⊕ ρ)} (emb : Nat → W → σ) (out : W → ρ) (X : Nat → List Nat) (n : Nat) (hs : ∀ k, k < n → ∀ L w, P L w → (fl → L.length + (X k).length ≤ 1500) → ∃ w', step (emb k w) = some (.inl (emb (k + 1) w')) ∧ P (L ++ X k) w') (he : ∀ w, step (emb n w) = some (.inr (out w))) : ∀ L w, P L w → (fl → L.length + (catN X n).length ≤ 1500) → ∃ w', itrO step (emb 0 w) = some (out w') ∧ P (L ++ catN X n) w' := by
  intro L w hP hb
  obtain ⟨r, k1, w', e, hw⟩ : ∃ r, itrO step (emb 0 w) = some r ∧ ∃ w', r = out w' ∧ P (L ++ catN X n) w' := by
    refine lp_up (step := step) (fun k s => k ≤ n ∧ ∃ w', s = emb k w' ∧ P (L ++ catN X k) w') _ n (fun k s hk hs1 => ?_) (fun s hs1 => ?_) 0 _ (by omega) ⟨by omega, w, rfl, by rw [show catN X 0 = [] from rfl, List.append_nil]; exact hP⟩
    · obtain ⟨-, w1, rfl, h1⟩ := hs1
      obtain ⟨w2, k2, h2⟩ := hs k hk _ w1 h1 (fun hf => by
        have := hb hf
        have h3 := catN_le X (a := k + 1) (b := n) (by omega)
        rw [catN_s, List.length_append] at h3
        rw [List.length_append]
        omega)
      exact Or.inl ⟨_, k2, by omega, w2, rfl, by rw [catN_s, ← List.append_assoc]; exact h2⟩
    · obtain ⟨-, w1, rfl, h1⟩ := hs1
      exact ⟨out w1, he w1, w1, rfl, h1⟩
  subst e
  exact ⟨w', k1, hw⟩
