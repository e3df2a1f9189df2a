/-! ===== TOOLS for the pure programs ===== -/
theorem lp_m {σ ρ : Type} {step : σ → Option (σ ⊕ ρ)} (I : σ → Prop) (μ : σ → Nat) (Q : ρ → Prop) (hs : ∀ s, I s → (∃ s', step s = some (.inl s') ∧ I s' ∧ μ s' < μ s) ∨ (∃ r, step s = some (.inr r) ∧ Q r)) (s : σ) (h : I s) : ∃ r, itrO step s = some r ∧ Q r := by
  have key : ∀ (n : Nat) (s : σ), μ s < n → I s → ∃ r, itr step n s = some r ∧ Q r := by
    intro n
    induction n with
    | zero => intro s h1; omega
    | succ n ih =>
      intro s h1 h2
      rcases hs s h2 with ⟨s', e, h3, h4⟩ | ⟨r, e, h3⟩
      · obtain ⟨r, h5, h6⟩ := ih s' (by omega) h3
        exact ⟨r, by unfold itr; rw [e]; exact h5, h6⟩
      · exact ⟨r, by unfold itr; rw [e], h3⟩
  obtain ⟨r, h1, h2⟩ := key (μ s + 1) s (Nat.lt_succ_self _) h
  exact ⟨r, itrO_of h1, h2⟩
theorem lp_up {σ ρ : Type} {step : σ → Option (σ ⊕ ρ)} (P : Nat → σ → Prop) (Q : ρ → Prop) (b : Nat) (hs : ∀ k s, k < b → P k s → (∃ s', step s = some (.inl s') ∧ P (k + 1) s') ∨ (∃ r, step s = some (.inr r) ∧ Q r)) (he : ∀ s, P b s → ∃ r, step s = some (.inr r) ∧ Q r) : ∀ (a : Nat) (s : σ), a ≤ b → P a s → ∃ r, itrO step s = some r ∧ Q r := by
  have key : ∀ (d a : Nat) (s : σ), a + d = b → P a s → ∃ r, itr step (d + 1) s = some r ∧ Q r := by
    intro d
    induction d with
    | zero =>
      intro a s h1 h2
      have h1 : a = b := h1
      subst h1
      obtain ⟨r, e, h3⟩ := he s h2
      exact ⟨r, by unfold itr; rw [e], h3⟩
    | succ d ih =>
      intro a s h1 h2
      rcases hs a s (by omega) h2 with ⟨s', e, h3⟩ | ⟨r, e, h3⟩
      · obtain ⟨r, h5, h6⟩ := ih (a + 1) s' (by omega) h3
        exact ⟨r, by unfold itr; rw [e]; exact h5, h6⟩
      · exact ⟨r, by unfold itr; rw [e], h3⟩
  intro a s h1 h2
  obtain ⟨r, h3, h4⟩ := key (b - a) a s (by omega) h2
  exact ⟨r, itrO_of h3, h4⟩
/-- a counted loop without a way out: what it answers -/
theorem lp_c {σ ρ : Type} {step : σ → Option (σ ⊕ ρ)} (st : Nat → σ) (r : ρ) (b : Nat) (hs : ∀ k, k < b → step (st k) = some (.inl (st (k + 1)))) (he : step (st b) = some (.inr r)) (a : Nat) (h : a ≤ b) : itrO step (st a) = some r := by
  obtain ⟨r', h1, h2⟩ := lp_up (fun k s => s = st k) (fun q => q = r) b (fun k s hk e => Or.inl ⟨st (k + 1), by rw [e]; exact hs k hk, rfl⟩) (fun s e => ⟨r, by rw [e]; exact he, rfl⟩) a (st a) h rfl
  rw [h1, h2]
theorem itrO_1 {σ ρ : Type} {step : σ → Option (σ ⊕ ρ)} {s : σ} {r : ρ} (h : step s = some (.inr r)) : itrO step s = some r := itrO_of (n := 1) (by unfold itr; rw [h])
theorem itrO_s {σ ρ : Type} {step : σ → Option (σ ⊕ ρ)} {s s' : σ} (h : step s = some (.inl s')) : itrO step s = itrO step s' := by
  cases e : itrO step s' with
  | some r =>
    obtain ⟨n, hn⟩ := itrO_some e
    exact itrO_of (n := n + 1) (by unfold itr; rw [h]; exact hn)
  | none =>
    cases e2 : itrO step s with
    | none => rfl
    | some r =>
      obtain ⟨n, hn⟩ := itrO_some e2
      cases n with
      | zero => cases hn
      | succ n =>
        have h3 : itr step n s' = some r := by
          unfold itr at hn
          rw [h] at hn
          exact hn
        rw [itrO_of h3] at e
        cases e
/-- numbers as they stand in the programs -/
theorem nlit : (0 : Int32) = nI 0 ∧ (1 : Int32) = nI 1 ∧ (2 : Int32) = nI 2 ∧ (3 : Int32) = nI 3 ∧ (4 : Int32) = nI 4 ∧ (5 : Int32) = nI 5 ∧ (6 : Int32) = nI 6 ∧ (7 : Int32) = nI 7 ∧ (8 : Int32) = nI 8 ∧ (9 : Int32) = nI 9 ∧ (10 : Int32) = nI 10 ∧ (12 : Int32) = nI 12 ∧ (15 : Int32) = nI 15 ∧ (16 : Int32) = nI 16 ∧ (19 : Int32) = nI 19 ∧ (20 : Int32) = nI 20 ∧ (31 : Int32) = nI 31 ∧ (40 : Int32) = nI 40 ∧ (60 : Int32) = nI 60 ∧ (124 : Int32) = nI 124 ∧ (255 : Int32) = nI 255 ∧ (256 : Int32) = nI 256 ∧ (258 : Int32) = nI 258 ∧ (300 : Int32) = nI 300 ∧ (301 : Int32) = nI 301 ∧ (303 : Int32) = nI 303 ∧ (1500 : Int32) = nI 1500 ∧ (1048576 : Int32) = nI 1048576 := by
  refine ⟨rfl, rfl, rfl, rfl, rfl, rfl, rfl, rfl, rfl, rfl, rfl, rfl, rfl, rfl, rfl, rfl, rfl, rfl, rfl, rfl, rfl, rfl, rfl, rfl, rfl, rfl, rfl, rfl⟩
theorem gdI_n {α : Type} {k n : Nat} {x : Option α} (h : k < n) (hn : n < 2 ^ 31) : gdI (nI k) n x = x := gdI_of (vp_in_nI h hn)
theorem gdZ_n {α : Type} {k : Nat} {x : Option α} (h : 0 < k) (hn : k < 2 ^ 31) : gdZ (nI k) x = x := gdZ_of (nI_ne0 h hn)
theorem nI_le' {a b : Nat} (ha : a < 2 ^ 31) (hb : b < 2 ^ 31) : (nI a ≤ nI b) = (a ≤ b) := propext (nI_leI ha hb)
theorem nI_lt' {a b : Nat} (ha : a < 2 ^ 31) (hb : b < 2 ^ 31) : (nI a < nI b) = (a < b) := propext (nI_ltI ha hb)
theorem nI_eq' {a b : Nat} (ha : a < 2 ^ 31) (hb : b < 2 ^ 31) : (nI a = nI b) = (a = b) := propext (nI_eq ha hb)
theorem nI_m1 {n : Nat} (h : n < 2 ^ 31) : (nI n = -1) = False := by
  refine eq_false (fun q => ?_)
  have a := nI_toInt h
  rw [q] at a
  have : (-1 : Int32).toInt = -1 := by decide
  omega
theorem m1_lt {n : Nat} (h : n < 2 ^ 31) : ((-1 : Int32) < nI n) = True := by
  refine eq_true ?_
  rw [Int32.lt_iff_toInt_lt, nI_toInt h]
  have : (-1 : Int32).toInt = -1 := by decide
  omega
theorem nrm : (∀ a b : Nat, nI a + nI b = nI (a + b)) ∧ (∀ a b : Nat, nI a * nI b = nI (a * b)) ∧ (∀ a b : Nat, b ≤ a → nI a - nI b = nI (a - b)) ∧ (∀ a d : Nat, a < 2 ^ 31 → 0 < d → d < 2 ^ 31 → nI a / nI d = nI (a / d)) ∧ (∀ a b : Nat, a < 2 ^ 31 → b < 2 ^ 31 → (nI a ≤ nI b) = (a ≤ b)) ∧ (∀ a b : Nat, a < 2 ^ 31 → b < 2 ^ 31 → (nI a < nI b) = (a < b)) ∧ (∀ a b : Nat, a < 2 ^ 31 → b < 2 ^ 31 → (nI a = nI b) = (a = b)) ∧ (∀ a : Nat, a < 2 ^ 31 → (nI a).toNatClampNeg = a) ∧ (∀ a : Nat, 0 < a → nI a + -nI 1 = nI (a - 1)) ∧ (∀ a : Nat, a < 2 ^ 31 → (nI a = -nI 1) = False) :=
  ⟨nI_add, pk_mul, fun _ _ h => pk_sub h, fun _ _ h1 h2 h3 => pk_div h1 h2 h3, fun _ _ => nI_le', fun _ _ => nI_lt', fun _ _ => nI_eq', fun _ => nI_clamp, fun _ h => sb_m1 h, fun _ => nI_m1⟩
theorem nar0 : vp_nar .boolean (0 : Int32) = 0 := rfl
theorem nar1 : vp_nar .boolean (1 : Int32) = 1 := rfl
theorem upd_s {f : Nat → Int32} {k : Nat} {x : Int32} : upd f k x k = x := pk_us
theorem upd_n {f : Nat → Int32} {k j : Nat} {x : Int32} (h : j ≠ k) : upd f k x j = f j := pk_un h
/-- a row that holds a list of numbers -/
def rowIs (f : Nat → Int32) (c : Int32) (L : List Nat) : Prop := c = nI L.length ∧ ∀ i, i < L.length → f i = nI (L.getD i 0)
theorem rowIs.nil {f : Nat → Int32} : rowIs f 0 [] := ⟨rfl, fun i h => by simp at h⟩
theorem rowIs.push {f : Nat → Int32} {c : Int32} {L : List Nat} (h : rowIs f c L) (v : Nat) : rowIs (upd f L.length (nI v)) (nI (L.length + 1)) (L ++ [v]) := by
  refine ⟨by simp, fun i hi => ?_⟩
  rw [List.length_append, List.length_singleton] at hi
  by_cases e : i = L.length
  · subst e
    rw [upd_s]
    simp
  · rw [upd_n e, h.2 i (by omega)]
    rw [List.getD_eq_getElem?_getD, List.getD_eq_getElem?_getD, List.getElem?_append_left (by omega)]
theorem fRow_add_ok {n : Nat} {f : Nat → Int32} {c : Int32} {L : List Nat} (h : rowIs f c L) (hl : L.length < n) (hn : n < 2 ^ 31) (x : Int32) : fRow_add n c f x = some (nI (L.length + 1), upd f L.length x) := by
  obtain ⟨rfl, -⟩ := h
  unfold fRow_add
  simp (disch := omega) only [show Int32.ofNat n = nI n from rfl, nlit, nrm, gdI_n, if_neg]
theorem fRow_get_ok {n : Nat} {f : Nat → Int32} {c : Int32} {L : List Nat} (h : rowIs f c L) (hl : L.length ≤ n) (hn : n < 2 ^ 31) {k : Nat} (hk : k < L.length) : fRow_get n c f (nI k) = some (nI (L.getD k 0)) := by
  obtain ⟨rfl, h2⟩ := h
  unfold fRow_get
  simp (disch := omega) only [nlit, nrm, gdI_n, if_neg, if_pos, h2]
theorem il2 {α β ρ : Type} {a a' : α} {b b' : β} (ha : a = a') (hb : b = b') : (some (.inl (a, b)) : Option ((α × β) ⊕ ρ)) = some (.inl (a', b')) := by rw [ha, hb]
theorem il3 {α β γ ρ : Type} {a a' : α} {b b' : β} {c c' : γ} (ha : a = a') (hb : b = b') (hc : c = c') : (some (.inl (a, b, c)) : Option ((α × β × γ) ⊕ ρ)) = some (.inl (a', b', c')) := by rw [ha, hb, hc]
theorem ir1 {σ ρ : Type} {a a' : ρ} (ha : a = a') : (some (.inr a) : Option (σ ⊕ ρ)) = some (.inr a') := by rw [ha]
theorem nI_c {a b : Nat} (h : a = b) : nI a = nI b := by rw [h]
