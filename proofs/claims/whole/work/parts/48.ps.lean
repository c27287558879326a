/-! PURE PART S: a bout told -/
theorem pair_v {N n : Nat} (x y : Int32) (hn : n ≤ 8) : (o_X8_isPair N (nI n) x y = some 0 ∧ ∀ {w : Nat → Int32} {k d f : Nat → Nat}, MA w n k d f → o_X9_notTwo N w x y = some (-1000001)) ∨ ∃ a b, a < n ∧ b < n ∧ a ≠ b ∧ x = nI a ∧ y = nI b ∧ o_X8_isPair N (nI n) x y = some 1 := by
  by_cases c : ∃ r, r < n ∧ x = nI r
  · by_cases c2 : ∃ r, r < n ∧ y = nI r
    · by_cases e : x = y
      · refine Or.inl ⟨?_, fun h => ?_⟩
        · rw [o_X8_isPair, x_isPl hn, if_pos c, Option.bind_some, if_neg (by decide), x_isPl hn, if_pos c2, Option.bind_some, if_neg (by decide), if_pos e]
        · rw [o_X9_notTwo, m_isPl h hn, if_pos c, Option.bind_some, if_neg (by decide), m_isPl h hn, if_pos c2, Option.bind_some, if_neg (by decide), if_pos e]
      · refine Or.inr ?_
        have g : o_X8_isPair N (nI n) x y = some 1 := by rw [o_X8_isPair, x_isPl hn, if_pos c, Option.bind_some, if_neg (by decide), x_isPl hn, if_pos c2, Option.bind_some, if_neg (by decide), if_neg e]
        obtain ⟨a, ha, rfl⟩ := c
        obtain ⟨b, hb, rfl⟩ := c2
        exact ⟨a, b, ha, hb, fun q => e (by rw [q]), rfl, rfl, g⟩
    · refine Or.inl ⟨?_, fun h => ?_⟩
      · rw [o_X8_isPair, x_isPl hn, if_pos c, Option.bind_some, if_neg (by decide), x_isPl hn, if_neg c2, Option.bind_some, if_pos rfl]
      · rw [o_X9_notTwo, m_isPl h hn, if_pos c, Option.bind_some, if_neg (by decide), m_isPl h hn, if_neg c2, Option.bind_some, if_pos rfl]
  · refine Or.inl ⟨?_, fun h => ?_⟩
    · rw [o_X8_isPair, x_isPl hn, if_neg c, Option.bind_some, if_pos rfl]
    · rw [o_X9_notTwo, m_isPl h hn, if_neg c, Option.bind_some, if_pos rfl]
