def nwF : List (String × Nat × String × String × String × String) := [("MoveFronts", 129, "MoveFronts$Reader", "faultNumber", "I", "MoveFronts"), ("MoveFronts", 133, "MoveFronts$Reader", "signs", "LMoveFronts$Row;", "MoveFronts"), ("MoveFronts", 139, "MoveFronts$Reader", "faultPosition", "I", "MoveFronts"), ("MoveFronts", 32, "MoveFronts$Telling", "symbols", "LMoveFronts$Row;", "MoveFronts"), ("MoveFronts", 83, "MoveFronts$Telling", "map", "LMoveFronts$Row;", "MoveFronts"), ("MoveFronts", 96, "MoveFronts$Telling", "places", "LMoveFronts$Row;", "MoveFronts"), ("MoveFronts$Writer", 106, "MoveFronts$Rounds", "kinds", "I", "MoveFronts"), ("MoveFronts$Writer", 109, "MoveFronts$Telling", "symbols", "LMoveFronts$Row;", "MoveFronts"), ("MoveFronts$Writer", 52, "MoveFronts$Rounds", "tables", "I", "MoveFronts"), ("MoveFronts$Writer", 61, "MoveFronts$Rounds", "groups", "I", "MoveFronts")]
def nwM : List (String × Nat × MethodName × String) := [("MoveFronts$Reader", 156, ⟨"MoveFronts", "groupsFor", "(I)I"⟩, "MoveFronts"), ("MoveFronts$Rounds", 65, ⟨"MoveFronts", "groupsFor", "(I)I"⟩, "MoveFronts"), ("MoveFronts$Rounds", 69, ⟨"MoveFronts", "tablesFor", "(I)I"⟩, "MoveFronts")]
/-- the words on links between nest mates -/
def nwA (U : State) : Prop := (∀ q ∈ nwF, va_Nw (.fieldLinkNest q.1 q.2.1 q.2.2.1 q.2.2.2.1 q.2.2.2.2.1 q.2.2.2.2.2) U) ∧ ∀ q ∈ nwM, va_Nw (.methodLinkNest q.1 q.2.1 q.2.2.1 q.2.2.2) U
theorem nwA.warm {s U : State} (hW : s.WarmedH U.vm) (h : nwA s) : nwA U := ⟨fun q hq => (h.1 q hq).warmF hW, fun q hq => (h.2 q hq).warmM hW⟩
theorem nwA.same {s U : State} (e : s.vm = U.vm) (h : nwA s) : nwA U := ⟨fun q hq => (h.1 q hq).same rfl e, fun q hq => (h.2 q hq).same rfl e⟩
/-! ===== BASE: contracts of methods that make nothing: the world before and behind, cell by cell in place ===== -/
/-- what every contract carries along: the tables' facts, and the nest's links -/
def cK (D : va_G) (tys : List (ClassId × FieldType)) (U : State) : Prop := va_K D vwCl tys U ∧ nwA U
theorem cK.warm {D : va_G} {tys : List (ClassId × FieldType)} {s U : State} (hW : s.WarmedH U.vm) (h : cK D tys s) : cK D tys U := ⟨va_K.moved hW.alike h.1, nwA.warm hW h.2⟩
theorem cK.same {D : va_G} {tys : List (ClassId × FieldType)} {s : State} {g : JFrame} {mk : MethodId} {a : Array Value} (h : cK D tys s) : cK D tys (s.calling g mk a) := ⟨va_K.moved (u := s) (U := s.calling g mk a) (Vm.Alike.refl s.vm) h.1, nwA.same rfl h.2⟩
def ctP (D : va_G) (tys : List (ClassId × FieldType)) (w : va_W) (sz : Nat) : State → Prop := fun U => U.heap.size = sz ∧ va_P D vwCl w U.heap ∧ cK D tys U ∧ va_D (fun _ => True) w
def ctQ (D : va_G) (rv : Option Value) (w' : va_W) (A : Nat → Prop) : Array Value → State → Outcome → State → Prop := fun _ st oc t => (oc = .returned rv ∧ va_P D vwCl w' t.heap) ∧ va_F A st t
/-- the contract: with the arguments av and the world w it answers rv and leaves the world w' -/
def CT (l : Launch) (y : MethodName) (ws : List Cond) (rm : Room) (D : va_G) (tys : List (ClassId × FieldType)) (av : List Value) (w : va_W) (rv : Option Value) (w' : va_W) : Prop :=
  ∀ sz : Nat, Met l y ws rm (va_Pc av (ctP D tys w sz)) (ctQ D rv w' (va_A w sz)) 0 0 (va_A w sz)
theorem CT.of {l : Launch} {y : MethodName} {ws ws' : List Cond} {rm : Room} {D : va_G} {tys : List (ClassId × FieldType)} {av : List Value} {w w' : va_W} {rv : Option Value} {cc : ByteArray} {maxL : Nat} {ret : Option FieldType} (hy : plainName y.cls = true) (hw : ws = Cond.code y cc maxL ret :: ws') (hnl : (lg_sl av).length ≤ maxL)
    (body : ∀ (p : Program) (e : Env) (s : State) (m : MethodId) (below : List Frame) (meth : Method) (c : Code) (A : Nat → Prop) (ls : Array Slot), p.tables.exec = Jvm.exec → c.code = cc → meth.sig.returnType = ret → c.maxLocals = maxL → (∀ w ∈ ws, w.before av.toArray s = true) → s.vm.findClass y.cls = some m.cls → meth.locks = false → cK D tys s → (∀ q, s.heap.size ≤ q → A q) → va_P D vwCl w s.heap → va_D A w → va_S A s.heap s.heap [] → lv_has ls maxL (lv_args 0 av) →
      W p l e (headSpec ws rm).room s m av.toArray below meth c s.heap [] 0 0 (MQ below (ctQ D rv w' A) av.toArray s 0 0 A) (F0 m 0 ls [])) : CT l y ws rm D tys av w rv w' := by
  intro sz
  refine Met.ofW (cc := cc) (maxL := maxL) (ret := ret) hy hw ?_
  intro p e s m args below meth c s₁ B hml hv
  obtain ⟨rfl, hsz, hP, hK, hD0⟩ := hv
  subst hsz
  rw [lg_entry_eq]
  exact body p e s m below meth c (va_A w s.heap.size) _ B.exec B.bytes B.returns hml (atoms_spec (ws := ws) B.pre) (findClass_of_methodNamed B.named) B.notSynchronized hK (fun q h => Or.inr h) hP hD0.self va_S.rf (lv_entry av hnl)
/-- cells of a world replaced, by their places -/
def putAll : va_W → List Nat → va_W → va_W
  | ws, i :: is, q :: qs => putAll (ws.set i q) is qs
  | ws, _, _ => ws
theorem putAll_spec : ∀ (is : List Nat) (ws qs : va_W), is.length = qs.length → ∀ (k : Nat) (q : Nat × va_E), (putAll ws is qs)[k]? = some q → (∃ j : Nat, is[j]? = some k ∧ qs[j]? = some q) ∨ (k ∉ is ∧ ws[k]? = some q)
  | [], ws, qs, _, k, q, h => Or.inr ⟨List.not_mem_nil, by cases qs <;> exact h⟩
  | i :: is, ws, [], hl, k, q, h => by simp at hl
  | i :: is, ws, q0 :: qs, hl, k, q, h => by
    have h' : (putAll (ws.set i q0) is qs)[k]? = some q := h
    rcases putAll_spec is (ws.set i q0) qs (by simpa using hl) k q h' with ⟨j, h1, h2⟩ | ⟨h1, h2⟩
    · exact Or.inl ⟨j + 1, by simpa using h1, by simpa using h2⟩
    · by_cases hk : i = k
      · subst hk
        by_cases hl2 : i < ws.length
        · rw [List.getElem?_set_self hl2] at h2
          exact Or.inl ⟨0, by simp, by simpa using h2⟩
        · rw [List.getElem?_eq_none (by rw [List.length_set]; omega)] at h2
          cases h2
      · rw [List.getElem?_set_ne hk] at h2
        exact Or.inr ⟨by simp only [List.mem_cons, not_or]; exact ⟨Ne.symm hk, h1⟩, h2⟩
theorem va_D.alike {A : Nat → Prop} {ws ws' : va_W} (hD : va_D A ws) (h : ∀ (k : Nat) (q : Nat × va_E), ws'[k]? = some q → ∃ q0, ws[k]? = some q0 ∧ q0.1 = q.1) : va_D A ws' := by
  refine ⟨fun i j x y hi hj hxy => ?_, fun k q hk => ?_⟩
  · obtain ⟨x0, h1, h2⟩ := h i x hi
    obtain ⟨y0, h3, h4⟩ := h j y hj
    exact hD.1 i j x0 y0 h1 h3 (h2.trans (hxy.trans h4.symm))
  · obtain ⟨q0, h1, h2⟩ := h k q hk
    rw [← h2]
    exact hD.2 k q0 h1
/-- cells: an array of numbers, an array of references, an object -/
abbrev ia (c : ClassId) (a n : Nat) (f : Nat → Int32) : Nat × va_E := (a, .inl (c, n, .inl f))
abbrev ra (c : ClassId) (a n : Nat) (g : Nat → Option Nat) : Nat × va_E := (a, .inl (c, n, .inr (.inr (.inr (.inr g)))))
abbrev ob (a k : Nat) (fs : List Value) : Nat × va_E := (a, .inr (k, fs))
/-- the array types in use -/
abbrev tysG (cI cZ cO cG : ClassId) : List (ClassId × FieldType) := [(cI, .int), (cZ, .boolean), (cO, .object "MoveFronts$Codes"), (cG, .array .int)]
/-- the heap holds the world, its cells are apart, nothing else has changed -/
def WS (D : va_G) (A : Nat → Prop) (s : State) (ws : va_W) (H : Heap) (locs : List Loc) : Prop := va_P D vwCl ws H ∧ va_D A ws ∧ va_S A s.heap H locs
section CTS
variable {p : Program} {l : Launch} {e : Env} {R : Room} {s : State} {m : MethodId} {args : Array Value} {below : List Frame} {meth : Method} {c : Code} {H : Heap} {locs : List Loc} {cells slots : Nat} {Q : State → Prop}
variable {pc : Nat} {ls : Array Slot} {rest st0 : List Value} {D : va_G} {A : Nat → Prop} {tys : List (ClassId × FieldType)}
theorem ct_go {a : Array Value} {ws wc wc' wn : va_W} {rv : Option Value} (hr : va_Run p l e R s m args below meth c H locs cells slots 0 0 (F0 m pc ls st0) rest (ctQ D rv wc' (va_A wc H.size) a) (va_A wc H.size)) (hW : WS D A s ws H locs) (hA : ∀ q, s.heap.size ≤ q → A q)
    (is isR : List Nat) (nn : Nat) (hC : is.map (fun i => ws[i]?) = wc.map some) (hadr : wc'.map Prod.fst = wc.map Prod.fst) (hN : is.map (fun i => wn[i]?) = wc'.map some) (wr : va_W) (hR1 : isR.map (fun i => wn[i]?) = wr.map some) (hR2 : isR.map (fun i => ws[i]?) = wr.map some) (hlen : wn.length = nn) (hcov : (List.range nn).all (fun k => decide (k ∈ is) || decide (k ∈ isR)) = true)
    (kk : ∀ (H1 : Heap) (locs1 : List Loc), WS D A s wn H1 locs1 → W p l e R s m args below meth c H1 locs1 cells slots Q (F0 m (pc + 3) ls (rv.toList ++ rest))) : W p l e R s m args below meth c H locs cells slots Q (F0 m pc ls st0) := by
  obtain ⟨hP, hD, hS⟩ := hW
  intro T hT X
  obtain ⟨v, st₀, t, T', L, h0, X', hL, e1, e2, ⟨⟨hv, hp1⟩, hz, hk⟩, st⟩ := hr T hT X
  cases hv
  rw [h0] at hz hk
  have pick : ∀ {w1 w2 : va_W} {is : List Nat}, is.map (fun i => w1[i]?) = w2.map some → ∀ (j : Nat) (q : Nat × va_E), w2[j]? = some q → ∃ i, is[j]? = some i ∧ w1[i]? = some q := by
    intro w1 w2 is hs j q hq
    have h1 : (is.map (fun i => w1[i]?))[j]? = some (some q) := by rw [hs, List.getElem?_map, hq]; rfl
    rw [List.getElem?_map] at h1
    cases hi : is[j]? with
    | none => rw [hi] at h1; cases h1
    | some i => rw [hi] at h1; exact ⟨i, rfl, Option.some.inj h1⟩
  have back : ∀ {w1 w2 : va_W} {is : List Nat}, is.map (fun i => w1[i]?) = w2.map some → ∀ (j i : Nat) (q : Nat × va_E), is[j]? = some i → w1[i]? = some q → w2[j]? = some q := by
    intro w1 w2 is hs j i q hi hq
    have h1 : (w2.map some)[j]? = some (some q) := by rw [← hs, List.getElem?_map, hi]; exact congrArg some hq
    rw [List.getElem?_map] at h1
    cases hx : w2[j]? with
    | none => rw [hx] at h1; cases h1
    | some x => rw [hx] at h1; exact Option.some.inj h1
  have hat := pick hC
  have hF : ∀ q, va_A wc H.size q → A q := by
    intro q h
    rcases h with ⟨k, e, h⟩ | h
    · obtain ⟨i, -, h2⟩ := hat k _ h
      exact hD.2 i _ h2
    · exact hA q (Nat.le_trans hS.1 h)
  have hadr' : ∀ (j : Nat) (q : Nat × va_E), wc'[j]? = some q → ∃ q0, wc[j]? = some q0 ∧ q0.1 = q.1 := by
    intro j q hq
    have h1 : (wc'.map Prod.fst)[j]? = some q.1 := by rw [List.getElem?_map, hq]; rfl
    rw [hadr, List.getElem?_map] at h1
    cases hi : wc[j]? with
    | none => rw [hi] at h1; cases h1
    | some i => rw [hi] at h1; exact ⟨i, rfl, Option.some.inj h1⟩
  have hsp : ∀ (k : Nat) (q : Nat × va_E), wn[k]? = some q → (∃ j : Nat, is[j]? = some k ∧ wc'[j]? = some q) ∨ (k ∉ is ∧ ws[k]? = some q) := by
    intro k q hq
    have hkl : k < nn := by rw [← hlen]; exact (List.getElem?_eq_some_iff.mp hq).1
    by_cases hki : k ∈ is
    · obtain ⟨j, hj⟩ := List.getElem?_of_mem hki
      exact Or.inl ⟨j, hj, back hN j k q hj hq⟩
    · have h1 := List.all_eq_true.mp hcov k (List.mem_range.mpr hkl)
      rw [decide_eq_false hki, Bool.false_or] at h1
      have h2 : k ∈ isR := of_decide_eq_true h1
      obtain ⟨j, hj⟩ := List.getElem?_of_mem h2
      have h3 : (isR.map (fun i => wn[i]?))[j]? = some (some q) := by rw [List.getElem?_map, hj]; exact congrArg some hq
      rw [hR1, ← hR2, List.getElem?_map, hj] at h3
      exact Or.inr ⟨hki, Option.some.inj h3⟩
  have hP' : va_P D vwCl wn t.heap := by
    intro k q hq
    rcases hsp k q hq with ⟨j, h1, h2⟩ | ⟨h1, h2⟩
    · exact hp1 j q h2
    · refine (hP k q h2).kept (hk q.1 (hP k q h2).lt ?_)
      intro h
      rcases h with ⟨k2, e, h⟩ | h
      · obtain ⟨i, h3, h4⟩ := hat k2 _ h
        have := hD.1 k i q _ h2 h4 rfl
        subst this
        exact h1 (List.mem_of_getElem? h3)
      · exact absurd ((hP k q h2).lt) (by omega)
  have hD' : va_D A wn := by
    refine hD.alike (fun k q hq => ?_)
    rcases hsp k q hq with ⟨j, h1, h2⟩ | ⟨h1, h2⟩
    · obtain ⟨q0, h3, h4⟩ := hadr' j q h2
      obtain ⟨i, h5, h6⟩ := hat j q0 h3
      have : i = k := Option.some.inj (h5.symm.trans h1)
      subst this
      exact ⟨q0, h6, h4⟩
    · exact ⟨q, h2, rfl⟩
  obtain ⟨t2, a1, b1⟩ := kk T'.heap (locs ++ L) ⟨by rw [e1]; exact hP', hD',
    ⟨Nat.le_trans hS.1 (by rw [e1]; exact hz), fun q h1 h2 => by rw [e1, hk q (Nat.lt_of_lt_of_le h1 hS.1) (fun z => h2 (hF q z))]; exact hS.2.1 q h1 h2, fun q hq => by
      rcases List.mem_append.mp hq with h | h
      · exact hS.2.2 q h
      · exact hF _ (hL q h)⟩⟩ T' rfl X'
  exact ⟨t2, st t2 a1, b1⟩
theorem ctP.blind {w : va_W} {sz : Nat} {av : List Value} : FrameBlind (va_Pc av (ctP D tys w sz)) := fun a U g mk q => by
  obtain ⟨q0, q1, qP, qK, qD⟩ := q
  exact ⟨q0, q1, qP, qK.same, qD⟩
theorem ctP.at {ws wc : va_W} (hP : va_P D vwCl ws H) (hD : va_D A ws) (hK : cK D tys s) (is : List Nat) (hn : va_nd is = true) (hC : is.map (fun i => ws[i]?) = wc.map some) (U : State) (hU : U.heap = H) (hW : s.WarmedH U.vm) : ctP D tys wc H.size U := by
  refine ⟨by rw [hU], ?_, hK.warm hW, (hD.sub is hn hC).weaken (fun _ _ _ _ => trivial)⟩
  rw [hU]
  intro k q hk
  have h1 : (is.map (fun i => ws[i]?))[k]? = some (some q) := by rw [hC, List.getElem?_map, hk]; rfl
  rw [List.getElem?_map] at h1
  cases hi : is[k]? with
  | none => rw [hi] at h1; cases h1
  | some i => rw [hi] at h1; exact hP i q (Option.some.inj h1)
variable {y : MethodName} {bytes cc : ByteArray} {maxL nL n index : Nat} {ret : Option FieldType} {ws' : List Cond} {rm : Room} {Ts : List Cond} {own C : String} {b : Nat} {As : List Value}
/-- a call of a method of an object -/
theorem ctV {ws wc wc' wn : va_W} {rv : Option Value} {r : vw_C} (hx : p.tables.exec = Jvm.exec) (hb : c.code = cc) (hml : c.maxLocals = nL) (hown : s.vm.findClass own = some m.cls) (hts : ∀ w ∈ Ts, w.before args s = true) (hK : cK D tys s) (hW : WS D A s ws H locs) (hA : ∀ q, s.heap.size ≤ q → A q) (hl : ls.size = nL)
    (hM : CT l y ws' rm D tys (.ref b :: As) wc rv wc') (cw : CallW R s args own r.1 index y bytes maxL ret ws' rm 0 0 n) (ci q0 : Nat) {fs : List Value} (hc : vwCl[ci]? = some r) (he : ws[q0]? = some (b, .inr (ci, fs)))
    (is isR : List Nat) (nn : Nat) (hn : va_nd is = true) (hC : is.map (fun i => ws[i]?) = wc.map some) (hadr : wc'.map Prod.fst = wc.map Prod.fst) (hN : is.map (fun i => wn[i]?) = wc'.map some) (wr : va_W) (hR1 : isR.map (fun i => wn[i]?) = wr.map some) (hR2 : isR.map (fun i => ws[i]?) = wr.map some) (hwl : wn.length = nn) (hcov : (List.range nn).all (fun k => decide (k ∈ is) || decide (k ∈ isR)) = true) (hlen : As.length = n) (hWd : (rest.map fun v => v.category).sum ≤ 8) (hst : st0 = As.reverse ++ .ref b :: rest) (hcells : cells ≤ R.cells ∧ slots ≤ R.slots) (hdg : decode cc pc = .ok (.invokevirtual index, 3))
    (kk : ∀ (H : Heap) (locs : List Loc), WS D A s wn H locs → W p l e R s m args below meth c H locs cells slots Q (F0 m (pc + 3) ls (rv.toList ++ rest))) : W p l e R s m args below meth c H locs cells slots Q (F0 m pc ls st0) := by
  subst hst
  exact ct_go (va_runV (As := As) (rest := rest) ⟨hx, hb, hml, hown, hts⟩ (hM H.size) cw ⟨ctP.blind, va_recv hK.1 hW.1 hc he, fun U hU hWm => ⟨rfl, ctP.at hW.1 hW.2.1 hK is hn hC U hU hWm⟩⟩ rfl hlen hl rfl (lv_room hWd) hdg hcells) hW hA is isR nn hC hadr hN wr hR1 hR2 hwl hcov kk
/-- a call of a static method -/
theorem ctS {ws wc wc' wn : va_W} {rv : Option Value} (hx : p.tables.exec = Jvm.exec) (hb : c.code = cc) (hml : c.maxLocals = nL) (hown : s.vm.findClass own = some m.cls) (hts : ∀ w ∈ Ts, w.before args s = true) (hK : cK D tys s) (hW : WS D A s ws H locs) (hA : ∀ q, s.heap.size ≤ q → A q) (hl : ls.size = nL)
    (hM : CT l y ws' rm D tys As wc rv wc') (cw : CallB R s args own index y bytes maxL ret ws' rm 0 0 n ∧ (Cond.static y).before args s = true)
    (is isR : List Nat) (nn : Nat) (hn : va_nd is = true) (hC : is.map (fun i => ws[i]?) = wc.map some) (hadr : wc'.map Prod.fst = wc.map Prod.fst) (hN : is.map (fun i => wn[i]?) = wc'.map some) (wr : va_W) (hR1 : isR.map (fun i => wn[i]?) = wr.map some) (hR2 : isR.map (fun i => ws[i]?) = wr.map some) (hwl : wn.length = nn) (hcov : (List.range nn).all (fun k => decide (k ∈ is) || decide (k ∈ isR)) = true) (hlen : As.length = n) (hWd : (rest.map fun v => v.category).sum ≤ 8) (hst : st0 = As.reverse ++ rest) (hcells : cells ≤ R.cells ∧ slots ≤ R.slots) (hdg : decode cc pc = .ok (.invokestatic index, 3))
    (kk : ∀ (H : Heap) (locs : List Loc), WS D A s wn H locs → W p l e R s m args below meth c H locs cells slots Q (F0 m (pc + 3) ls (rv.toList ++ rest))) : W p l e R s m args below meth c H locs cells slots Q (F0 m pc ls st0) := by
  subst hst
  exact ct_go (va_runS (As := As) (rest := rest) ⟨hx, hb, hml, hown, hts⟩ (hM H.size) cw ⟨ctP.blind, fun U hU hWm => ⟨rfl, ctP.at hW.1 hW.2.1 hK is hn hC U hU hWm⟩⟩ rfl hlen hl rfl (lv_room hWd) hdg hcells) hW hA is isR nn hC hadr hN wr hR1 hR2 hwl hcov kk
/-- a call of a nest mate's static method -/
theorem ctSN {ws wc wc' wn : va_W} {rv : Option Value} {host : String} (hx : p.tables.exec = Jvm.exec) (hb : c.code = cc) (hml : c.maxLocals = nL) (hown : s.vm.findClass own = some m.cls) (hts : ∀ w ∈ Ts, w.before args s = true) (hK : cK D tys s) (hW : WS D A s ws H locs) (hA : ∀ q, s.heap.size ≤ q → A q) (hl : ls.size = nL)
    (hM : CT l y ws' rm D tys As wc rv wc') (cw : va_CN R s args own index y host bytes maxL ret ws' rm 0 0 n ∧ (Cond.static y).before args s = true ∧ True)
    (is isR : List Nat) (nn : Nat) (hn : va_nd is = true) (hC : is.map (fun i => ws[i]?) = wc.map some) (hadr : wc'.map Prod.fst = wc.map Prod.fst) (hN : is.map (fun i => wn[i]?) = wc'.map some) (wr : va_W) (hR1 : isR.map (fun i => wn[i]?) = wr.map some) (hR2 : isR.map (fun i => ws[i]?) = wr.map some) (hwl : wn.length = nn) (hcov : (List.range nn).all (fun k => decide (k ∈ is) || decide (k ∈ isR)) = true) (hlen : As.length = n) (hWd : (rest.map fun v => v.category).sum ≤ 8) (hst : st0 = As.reverse ++ rest) (hcells : cells ≤ R.cells ∧ slots ≤ R.slots) (hdg : decode cc pc = .ok (.invokestatic index, 3))
    (kk : ∀ (H : Heap) (locs : List Loc), WS D A s wn H locs → W p l e R s m args below meth c H locs cells slots Q (F0 m (pc + 3) ls (rv.toList ++ rest))) : W p l e R s m args below meth c H locs cells slots Q (F0 m pc ls st0) := by
  subst hst
  exact ct_go (va_runSN (As := As) (rest := rest) ⟨hx, hb, hml, hown, hts⟩ (hM H.size) cw ⟨ctP.blind, fun U hU hWm => ⟨rfl, ctP.at hW.1 hW.2.1 hK is hn hC U hU hWm⟩⟩ rfl hlen hl rfl (lv_room hWd) hdg hcells) hW hA is isR nn hC hadr hN wr hR1 hR2 hwl hcov kk
/-- the ends -/
theorem ct_iret {w' : va_W} {v : Int32} (hx : p.tables.exec = Jvm.exec) (hb : c.code = cc) (hr : meth.sig.returnType = some .int) (hlocks : meth.locks = false) (hP : va_P D vwCl w' H) (hS : va_S A s.heap H locs) (hdg : decode cc pc = .ok (.ireturn, 1)) : W p l e R s m args below meth c H locs cells slots (MQ below (ctQ D (some (.int v)) w' A) args s cells slots A) (F0 m pc ls [.int v]) :=
  W.iret hx hb hr (fun t ht hW => ⟨⟨rfl, by rw [ht]; exact hP⟩, hS.F ht⟩) hS.2.2 hdg hlocks
theorem ct_zret {w' : va_W} {v : Int32} (hx : p.tables.exec = Jvm.exec) (hb : c.code = cc) (hr : meth.sig.returnType = some .boolean) (hlocks : meth.locks = false) (hn : narrow .boolean (.int v) = .int v) (hP : va_P D vwCl w' H) (hS : va_S A s.heap H locs) (hdg : decode cc pc = .ok (.ireturn, 1)) : W p l e R s m args below meth c H locs cells slots (MQ below (ctQ D (some (.int v)) w' A) args s cells slots A) (F0 m pc ls [.int v]) :=
  W.zret hx hb hr hn (fun t ht hW => ⟨⟨rfl, by rw [ht]; exact hP⟩, hS.F ht⟩) hS.2.2 hdg hlocks
theorem ct_vret {w' : va_W} (hx : p.tables.exec = Jvm.exec) (hb : c.code = cc) (hr : meth.sig.returnType = none) (hlocks : meth.locks = false) (hP : va_P D vwCl w' H) (hS : va_S A s.heap H locs) (hdg : decode cc pc = .ok (.return_, 1)) : W p l e R s m args below meth c H locs cells slots (MQ below (ctQ D none w' A) args s cells slots A) (F0 m pc ls []) :=
  W.vret hx hb hr (fun t ht hW => ⟨⟨rfl, by rw [ht]; exact hP⟩, hS.F ht⟩) hS.2.2 hdg hlocks
theorem ct_aret {w' : va_W} {a : Nat} {t0 : FieldType} (hx : p.tables.exec = Jvm.exec) (hb : c.code = cc) (hr : meth.sig.returnType = some (.array t0)) (hlocks : meth.locks = false) (hP : va_P D vwCl w' H) (hS : va_S A s.heap H locs) (hdg : decode cc pc = .ok (.areturn, 1)) : W p l e R s m args below meth c H locs cells slots (MQ below (ctQ D (some (.ref a)) w' A) args s cells slots A) (F0 m pc ls [.ref a]) :=
  W.aret hx hb hr (Or.inr ⟨_, rfl⟩) (Or.inr ⟨_, rfl⟩) (fun t ht hW => ⟨⟨rfl, by rw [ht]; exact hP⟩, hS.F ht⟩) hS.2.2 hdg hlocks
/-- a place of an array of references, of any kind -/
theorem ct_aald {ws : va_W} {a : Nat} (hx : p.tables.exec = Jvm.exec) (hb : c.code = cc) (hK : va_K D vwCl tys s) (hP : va_P D vwCl ws H) (q0 t0 : Nat) {cA : ClassId} {ty : FieldType} {n : Nat} {f : Nat → Option Nat} (ha : ws[q0]? = some (a, .inl (cA, n, .inr (.inr (.inr (.inr f)))))) (ht : tys[t0]? = some (cA, ty)) (hty : ty.isReference = true) {i : Int32} (hin : vp_in i n) {b : Nat} (hf : f i.toNatClampNeg = some b) (hdg : decode cc pc = .ok (.aaload, 1))
    (kk : W p l e R s m args below meth c H locs cells slots Q (F0 m (pc + 1) ls (.ref b :: rest))) : W p l e R s m args below meth c H locs cells slots Q (F0 m pc ls (.int i :: .ref a :: rest)) := by
  have hlt : i.toNatClampNeg < n := Nat.not_le.mp fun q => hin (Or.inr q)
  exact W.aald (v := .ref b) (ty := ty) hx hb (hP q0 _ ha) ((hK.2 t0 _ ht).1 n (fun j => va_rf (f j))) hty (fun q => by cases q) (by show ¬ (i < 0 ∨ (arrV _ _ _).slots.size ≤ _); rw [arrV_size]; exact hin) (by show (arrV _ _ _).slots[_]? = _; rw [arrV_read _ _ hlt, hf]; rfl) rfl rfl hdg kk
end CTS
/-! ===== the pure programs: what a loop answers ===== -/
def itr {σ ρ : Type} (step : σ → Option (σ ⊕ ρ)) : Nat → σ → Option ρ
  | 0, _ => none
  | n + 1, s => match step s with
    | none => none
    | some (.inl s') => itr step n s'
    | some (.inr r) => some r
theorem itr_succ {σ ρ : Type} {step : σ → Option (σ ⊕ ρ)} {n : Nat} {s : σ} {r : ρ} (h : itr step (n + 1) s = some r) : ∃ sr, step s = some sr ∧ ((∃ s', sr = .inl s' ∧ itr step n s' = some r) ∨ sr = .inr r) := by
  unfold itr at h
  cases hs : step s with
  | none => rw [hs] at h; cases h
  | some sr =>
    rw [hs] at h
    cases sr with
    | inl s' => exact ⟨_, rfl, Or.inl ⟨s', rfl, h⟩⟩
    | inr r' => exact ⟨_, rfl, Or.inr (by cases h; rfl)⟩
theorem itr_mono {σ ρ : Type} {step : σ → Option (σ ⊕ ρ)} : ∀ {n : Nat} {s : σ} {r : ρ} (_ : itr step n s = some r) (k : Nat), itr step (n + k) s = some r
  | 0, _, _, h, _ => by cases h
  | n + 1, s, r, h, k => by
    obtain ⟨sr, h1, h2⟩ := itr_succ h
    rw [show n + 1 + k = (n + k) + 1 by omega]
    unfold itr
    rw [h1]
    rcases h2 with ⟨s', rfl, h3⟩ | rfl
    · exact itr_mono h3 k
    · rfl
theorem itr_det {σ ρ : Type} {step : σ → Option (σ ⊕ ρ)} {n n' : Nat} {s : σ} {r r' : ρ} (h : itr step n s = some r) (h' : itr step n' s = some r') : r = r' := by
  have h1 := itr_mono h n'
  have h2 := itr_mono h' n
  rw [Nat.add_comm] at h2
  exact Option.some.inj (h1.symm.trans h2)
noncomputable def itrO {σ ρ : Type} (step : σ → Option (σ ⊕ ρ)) (s : σ) : Option ρ := @dite (Option ρ) (∃ r, ∃ n, itr step n s = some r) (Classical.propDecidable _) (fun h => some h.choose) (fun _ => none)
theorem itrO_some {σ ρ : Type} {step : σ → Option (σ ⊕ ρ)} {s : σ} {r : ρ} (h : itrO step s = some r) : ∃ n, itr step n s = some r := by
  unfold itrO at h
  by_cases hx : ∃ r, ∃ n, itr step n s = some r
  · rw [dif_pos hx] at h
    cases h
    exact hx.choose_spec
  · rw [dif_neg hx] at h
    cases h
theorem itrO_of {σ ρ : Type} {step : σ → Option (σ ⊕ ρ)} {s : σ} {r : ρ} {n : Nat} (h : itr step n s = some r) : itrO step s = some r := by
  have hx : ∃ r, ∃ n, itr step n s = some r := ⟨r, n, h⟩
  unfold itrO
  rw [dif_pos hx]
  obtain ⟨n', h'⟩ := hx.choose_spec
  rw [itr_det h' h]
/-- a place that is there -/
def inB (i : Int32) (n : Nat) : Bool := decide (¬ (i < 0 ∨ n ≤ i.toNatClampNeg))
theorem inB_in {i : Int32} {n : Nat} (h : inB i n = true) : vp_in i n := of_decide_eq_true (p := ¬ (i < 0 ∨ n ≤ i.toNatClampNeg)) h
theorem inB_of {i : Int32} {n : Nat} (h : vp_in i n) : inB i n = true := decide_eq_true (p := ¬ (i < 0 ∨ n ≤ i.toNatClampNeg)) h
def gdI {α : Type} (i : Int32) (n : Nat) (x : Option α) : Option α := if inB i n = true then x else none
theorem gdI_some {α : Type} {i : Int32} {n : Nat} {x : Option α} {r : α} (h : gdI i n x = some r) : vp_in i n ∧ x = some r := by
  unfold gdI at h
  by_cases hc : inB i n = true
  · rw [if_pos hc] at h; exact ⟨inB_in hc, h⟩
  · rw [if_neg hc] at h; cases h
theorem gdI_of {α : Type} {i : Int32} {n : Nat} {x : Option α} (h : vp_in i n) : gdI i n x = x := if_pos (inB_of h)
def gdZ {α : Type} (d : Int32) (x : Option α) : Option α := if d = 0 then none else x
theorem gdZ_some {α : Type} {d : Int32} {x : Option α} {r : α} (h : gdZ d x = some r) : ¬ d = 0 ∧ x = some r := by
  unfold gdZ at h
  by_cases hc : d = 0
  · rw [if_pos hc] at h; cases h
  · rw [if_neg hc] at h; exact ⟨hc, h⟩
theorem gdZ_of {α : Type} {d : Int32} {x : Option α} (h : ¬ d = 0) : gdZ d x = x := if_neg h
/-- a number that is 0 or 1 -/
def gdB {α : Type} (v : Int32) (x : Option α) : Option α := if v = 0 ∨ v = 1 then x else none
theorem gdB_some {α : Type} {v : Int32} {x : Option α} {r : α} (h : gdB v x = some r) : (v = 0 ∨ v = 1) ∧ x = some r := by
  unfold gdB at h
  by_cases hc : v = 0 ∨ v = 1
  · rw [if_pos hc] at h; exact ⟨hc, h⟩
  · rw [if_neg hc] at h; cases h
theorem gdB_of {α : Type} {v : Int32} {x : Option α} (h : v = 0 ∨ v = 1) : gdB v x = x := if_pos h
theorem gdB_n {v : Int32} (h : v = 0 ∨ v = 1) : narrow .boolean (.int v) = .int v := by rcases h with rfl | rfl <;> rfl
/-- a row of a family of cells -/
def bs {α β γ : Type} (x : Option (α ⊕ β)) (k : α → Option γ) (j : β → Option γ) : Option γ := match x with
  | none => none
  | some (.inl a) => k a
  | some (.inr b) => j b
theorem bs_some {α β γ : Type} {x : Option (α ⊕ β)} {k : α → Option γ} {j : β → Option γ} {r : γ} (h : bs x k j = some r) : ∃ q, x = some q ∧ ((∃ a, q = .inl a ∧ k a = some r) ∨ (∃ b, q = .inr b ∧ j b = some r)) := by
  unfold bs at h
  cases x with
  | none => cases h
  | some q => cases q with
    | inl a => exact ⟨_, rfl, Or.inl ⟨a, rfl, h⟩⟩
    | inr b => exact ⟨_, rfl, Or.inr ⟨b, rfl, h⟩⟩
theorem ne_toInt {x k : Int32} (h : ¬ x = k) : x.toInt ≠ k.toInt := fun e => h (Int32.toInt_inj.mp e)
theorem itr_in {σ ρ : Type} {step : σ → Option (σ ⊕ ρ)} {n : Nat} {t : σ} {r : ρ} (h : (∃ s', (.inl t : σ ⊕ ρ) = .inl s' ∧ itr step n s' = some r) ∨ (.inl t : σ ⊕ ρ) = .inr r) : itr step n t = some r := by
  rcases h with ⟨s', h1, h2⟩ | h
  · cases h1; exact h2
  · cases h
theorem itr_out {σ ρ : Type} {step : σ → Option (σ ⊕ ρ)} {n : Nat} {u r : ρ} (h : (∃ s', (.inr u : σ ⊕ ρ) = .inl s' ∧ itr step n s' = some r) ∨ (.inr u : σ ⊕ ρ) = .inr r) : u = r := by
  rcases h with ⟨s', h1, h2⟩ | h
  · cases h1
  · cases h; rfl
theorem bs_inl {α β γ : Type} {k : α → Option γ} {j : β → Option γ} {r : γ} {a : α} (h : (∃ a', (.inl a : α ⊕ β) = .inl a' ∧ k a' = some r) ∨ (∃ b, (.inl a : α ⊕ β) = .inr b ∧ j b = some r)) : k a = some r := by
  rcases h with ⟨a', h1, h2⟩ | ⟨b, h1, h2⟩
  · cases h1; exact h2
  · cases h1
theorem bs_inr {α β γ : Type} {k : α → Option γ} {j : β → Option γ} {r : γ} {b : β} (h : (∃ a', (.inr b : α ⊕ β) = .inl a' ∧ k a' = some r) ∨ (∃ b', (.inr b : α ⊕ β) = .inr b' ∧ j b' = some r)) : j b = some r := by
  rcases h with ⟨a', h1, h2⟩ | ⟨b', h1, h2⟩
  · cases h1
  · cases h1; exact h2
theorem gdB_f {v : Int32} (h : v = 0 ∨ v = 1) : fits .boolean (.int v) = true := by rcases h with rfl | rfl <;> rfl
theorem in_lt {i : Int32} {n : Nat} (h : vp_in i n) : i.toNatClampNeg < n := Nat.not_le.mp fun q => h (Or.inr q)
theorem in_lt3 {i : Int32} (h : vp_in i 3) : i.toNatClampNeg = 0 ∨ i.toNatClampNeg = 1 ∨ i.toNatClampNeg = 2 := by have := in_lt h; omega
/-- a family of rows of one length -/
def fam (cA : ClassId) (len n : Nat) (aF : Nat → Nat) (M : Nat → Nat → Int32) : va_W := (List.range n).map (fun i => (aF i, .inl (cA, len, .inl (M i))))
theorem fam_at {cA : ClassId} {len n : Nat} {aF : Nat → Nat} {M : Nat → Nat → Int32} {j : Nat} (hj : j < n) : (fam cA len n aF M)[j]? = some (aF j, .inl (cA, len, .inl (M j))) := by
  unfold fam
  rw [List.getElem?_map, List.getElem?_range hj]
  rfl
theorem fam_get {ws : va_W} (k n : Nat) {cA : ClassId} {len : Nat} {aF : Nat → Nat} {M : Nat → Nat → Int32} {j : Nat} (hw : (ws.drop k).take n = fam cA len n aF M) (hj : j < n) : ws[k + j]? = some (aF j, .inl (cA, len, .inl (M j))) := by
  have h := fam_at (cA := cA) (len := len) (aF := aF) (M := M) hj
  rw [← hw, List.getElem?_take_of_lt hj, List.getElem?_drop] at h
  exact h
theorem fam_set {ws : va_W} (k n : Nat) {cA : ClassId} {len : Nat} {aF : Nat → Nat} {M : Nat → Nat → Int32} {j : Nat} (hw : (ws.drop k).take n = fam cA len n aF M) (hj : j < n) (r : Nat → Int32) : ws.set (k + j) (aF j, .inl (cA, len, .inl r)) = ws.take k ++ (fam cA len n aF (va_up M j r) ++ ws.drop (k + n)) := by
  have hg := fam_get k n hw hj
  have hl : k + j < ws.length := (List.getElem?_eq_some_iff.mp hg).1
  have hlen : ((ws.drop k).take n).length = n := by rw [hw]; simp [fam]
  have hkn : k + n ≤ ws.length := by
    rw [List.length_take, List.length_drop] at hlen
    omega
  apply List.ext_getElem?
  intro i
  by_cases hi : i = k + j
  · subst hi
    rw [List.getElem?_set_self hl, List.getElem?_append_right (by rw [List.length_take]; omega), List.getElem?_append_left (by simp [fam, List.length_take]; omega)]
    rw [show k + j - (ws.take k).length = j by rw [List.length_take]; omega, fam_at hj, va_up_self]
  · rw [List.getElem?_set_ne (Ne.symm hi)]
    by_cases h1 : i < k
    · rw [List.getElem?_append_left (by rw [List.length_take]; omega), List.getElem?_take_of_lt h1]
    · by_cases h2 : i < k + n
      · rw [List.getElem?_append_right (by rw [List.length_take]; omega), List.getElem?_append_left (by simp [fam, List.length_take]; omega)]
        rw [show i - (ws.take k).length = i - k by rw [List.length_take]; omega, fam_at (by omega), va_up_ne _ _ (by omega)]
        have := fam_get k n hw (j := i - k) (by omega)
        rw [show k + (i - k) = i by omega] at this
        exact this
      · rw [List.getElem?_append_right (by rw [List.length_take]; omega), List.getElem?_append_right (by simp [fam, List.length_take]; omega), List.getElem?_drop]
        congr 1
        simp [fam, List.length_take]
        omega
section FMS
variable {p : Program} {l : Launch} {e : Env} {R : Room} {s : State} {m : MethodId} {args : Array Value} {below : List Frame} {meth : Method} {c : Code} {H : Heap} {locs : List Loc} {cells slots : Nat} {Q : State → Prop}
variable {cc : ByteArray} {pc : Nat} {ls : Array Slot} {rest : List Value} {D : va_G} {A : Nat → Prop} {tys : List (ClassId × FieldType)}
/-- a number into a row of a family -/
theorem fm_iast {ws wn : va_W} (hx : p.tables.exec = Jvm.exec) (hb : c.code = cc) (hK : va_K D vwCl tys s) (hW : WS D A s ws H locs) (k n : Nat) {cA : ClassId} {len : Nat} {aF : Nat → Nat} {M : Nat → Nat → Int32} {j : Nat} (hw : (ws.drop k).take n = fam cA len n aF M) (hj : j < n) (ht : tys[0]? = some (cA, .int)) {i x : Int32} (hin : vp_in i len) (hdg : decode cc pc = .ok (.iastore, 1))
    (hwn : ws.take k ++ (fam cA len n aF (va_up M j (upd (M j) i.toNatClampNeg x)) ++ ws.drop (k + n)) = wn)
    (kk : ∀ (H1 : Heap) (locs1 : List Loc), WS D A s wn H1 locs1 → W p l e R s m args below meth c H1 locs1 cells slots Q (F0 m (pc + 1) ls rest)) : W p l e R s m args below meth c H locs cells slots Q (F0 m pc ls (.int x :: .int i :: .ref (aF j) :: rest)) := by
  refine va_iast hx hb hK hW.1 hW.2.1 hW.2.2 (k + j) 0 (fam_get k n hw hj) ht hin hdg (fun H1 locs1 hP hD hS => ?_)
  rw [fam_set k n hw hj, hwn] at hP hD
  exact kk H1 locs1 ⟨hP, hD, hS⟩
end FMS
