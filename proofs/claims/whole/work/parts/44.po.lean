/-! PURE PART O: the acts -/
theorem m_keep_51 {N c : Nat} {w : Nat → Int32} (hc : c < 24) : ∀ j i m (B : Nat → Int32), i + j = 27 → j < m → (∀ q, q < i → B (27 * c + q) = w q) →
    ∃ B', o_X9_keepAct_51 N (nI c) w m B (nI i) = some (nI (c + 1), B') ∧ (∀ q, q < 27 → B' (27 * c + q) = w q) ∧ ∀ q, (q < 27 * c ∨ 27 * c + 27 ≤ q) → B' q = B q := by
  intro j
  induction j with
  | zero =>
    intro i m B h1 h2 h3
    obtain ⟨m, rfl⟩ := mem_succ h2
    refine ⟨B, ?_, fun q hq => h3 q (by omega), fun _ _ => rfl⟩
    rw [o_X9_keepAct_51]
    dsimp only
    rw [l27_, ifle (by omega) (by omega), if_pos (by omega), nI_1]
  | succ j ih =>
    intro i m B h1 h2 h3
    obtain ⟨m, rfl⟩ := mem_succ h2
    obtain ⟨B', g1, g2, g3⟩ := ih (i + 1) m (upd B (27 * c + i) (w i)) (by omega) (by omega) (fun q hq => by
      by_cases e : q = i
      · subst e; rw [upd_eq]
      · rw [upd_ne (by omega)]; exact h3 q (by omega))
    refine ⟨B', ?_, g2, fun q hq => ?_⟩
    · rw [o_X9_keepAct_51]
      dsimp only
      rw [l27_, ifle (by omega) (by omega), if_neg (by omega), pk_mul, nI_add, ogd_t (inb_ok (by omega) (by omega)), ogd_t (inb_ok (by omega) (by omega)), cl_nI (by omega), cl_nI (by omega), nI_1]
      exact g1
    · rw [g3 q hq, upd_ne (by omega)]
theorem m_keep_11 {N : Nat} {w : Nat → Int32} (hN : 30 < N) (B0 : Nat → Int32) : ∀ j i m (B : Nat → Int32), i + j = 621 → j < m → (∀ q, q < i → B q = B0 (q + 27)) → (∀ q, i ≤ q → B q = B0 q) →
    ∃ B', o_X9_keepAct_11 N (nI 24) w m B (nI i) = some (nI 24, B') ∧ (∀ q, q < 27 → B' (621 + q) = w q) ∧ ∀ q, q < 621 → B' q = B0 (q + 27) := by
  intro j
  induction j with
  | zero =>
    intro i m B h1 h2 h3 h4
    obtain ⟨m, rfl⟩ := mem_succ h2
    obtain ⟨B', g1, g2, g3⟩ := m_keep_51 (N := N) (c := 23) (w := w) (by omega) 27 0 N B (by omega) (by omega) (fun q hq => by omega)
    refine ⟨B', ?_, g2, fun q hq => by rw [g3 q (by omega), h3 q (by omega)]⟩
    rw [o_X9_keepAct_11]
    dsimp only
    rw [show (621 : Int32) = nI 621 from rfl, ifle (by omega) (by omega), if_pos (by omega), show nI 24 - 1 = nI 23 from nI_pred 23]
    exact g1
  | succ j ih =>
    intro i m B h1 h2 h3 h4
    obtain ⟨m, rfl⟩ := mem_succ h2
    obtain ⟨B', g1, g2, g3⟩ := ih (i + 1) m (upd B i (B (i + 27))) (by omega) (by omega) (fun q hq => by
      by_cases e : q = i
      · subst e; rw [upd_eq, h4 _ (by omega)]
      · rw [upd_ne e]; exact h3 q (by omega)) (fun q hq => by rw [upd_ne (by omega)]; exact h4 q (by omega))
    refine ⟨B', ?_, g2, g3⟩
    rw [o_X9_keepAct_11]
    dsimp only
    rw [show (621 : Int32) = nI 621 from rfl, ifle (by omega) (by omega), if_neg (by omega), l27_, nI_add, ogd_t (inb_ok (by omega) (by omega)), ogd_t (inb_ok (by omega) (by omega)), cl_nI (by omega), cl_nI (by omega), nI_1]
    exact g1
theorem m_keep {N c : Nat} {w B : Nat → Int32} (hN : 630 < N) (hc : c ≤ 24) : ∃ B', o_X9_keepAct N (nI c) w B = some (nI (if c = 24 then 24 else c + 1), B') ∧
    (c = 24 → (∀ q, q < 27 → B' (621 + q) = w q) ∧ ∀ q, q < 621 → B' q = B (q + 27)) ∧ (c < 24 → (∀ q, q < 27 → B' (27 * c + q) = w q) ∧ ∀ q, q < 27 * c → B' q = B q) := by
  rw [o_X9_keepAct, show (24 : Int32) = nI 24 from rfl, ifeq (by omega) (by omega)]
  by_cases e : c = 24
  · subst e
    obtain ⟨B', g1, g2, g3⟩ := m_keep_11 (N := N) (w := w) (by omega) B 621 0 N B (by omega) (by omega) (fun q hq => by omega) (fun _ _ => rfl)
    rw [if_pos rfl, if_pos rfl]
    exact ⟨B', g1, fun _ => ⟨g2, g3⟩, fun h => by omega⟩
  · obtain ⟨B', g1, g2, g3⟩ := m_keep_51 (N := N) (c := c) (w := w) (by omega) 27 0 N B (by omega) (by omega) (fun q hq => by omega)
    rw [if_neg e, if_neg e]
    exact ⟨B', g1, fun h => absurd h e, fun _ => ⟨g2, fun q hq => g3 q (Or.inl hq)⟩⟩
