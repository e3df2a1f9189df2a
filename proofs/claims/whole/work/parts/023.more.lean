theorem lt_lengthsBehind {x1 x2 : Int32} {r : Nat} (h : fRounds_lengthsBehind x1 x2 = some r) : r < 15 := by
  unfold fRounds_lengthsBehind at h
  obtain ⟨g, h⟩ := gdI_some h
  cases h
  exact in_lt g
