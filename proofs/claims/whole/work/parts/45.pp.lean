/-! PURE PART P: an act undone -/
theorem m_undo_22 {N c : Nat} {B : Nat → Int32} (hc : c < 24) : ∀ j i m (w : Nat → Int32), i + j = 27 → j < m → (∀ q, q < i → w q = B (27 * c + q)) →
    ∃ w', o_X9_undo_22 N (nI c) B m w (nI i) = some (nI c, nI c, w') ∧ ∀ q, q < 27 → w' q = B (27 * c + q) := by
  intro j
  induction j with
  | zero =>
    intro i m w h1 h2 h3
    obtain ⟨m, rfl⟩ := mem_succ h2
    refine ⟨w, ?_, fun q hq => h3 q (by omega)⟩
    rw [o_X9_undo_22]
    dsimp only
    rw [l27_, ifle (by omega) (by omega), if_pos (by omega)]
  | succ j ih =>
    intro i m w h1 h2 h3
    obtain ⟨m, rfl⟩ := mem_succ h2
    obtain ⟨w', g1, g2⟩ := ih (i + 1) m (upd w i (B (27 * c + i))) (by omega) (by omega) (fun q hq => by
      by_cases e : q = i
      · subst e; rw [upd_eq]
      · rw [upd_ne e]; exact h3 q (by omega))
    refine ⟨w', ?_, g2⟩
    rw [o_X9_undo_22]
    dsimp only
    rw [l27_, ifle (by omega) (by omega), if_neg (by omega), pk_mul, nI_add, ogd_t (inb_ok (by omega) (by omega)), ogd_t (inb_ok (by omega) (by omega)), cl_nI (by omega), cl_nI (by omega), nI_1]
    exact g1
theorem s_undo {N : Nat} {xk xn mk xp R T : Int32} {A B K D L w : Nat → Int32} (hN : 630 < N) (h : AR xk xn A mk B) (hh : HREL xp R T K D L w) :
    ∃ r xp' R' T' K' D' L' xk' xn' w', o_X8_undo N xp R T K D L xk xn A = some (r, xp', R', T', K', D', L', xk', xn') ∧ o_X9_undo N mk w B = some (r, xk', w') ∧ AR xk' xn' A xk' B ∧ HREL xp' R' T' K' D' L' w' := by
  obtain ⟨c, q, hc, hq, rfl, rfl, rfl, hs⟩ := h
  by_cases e : c = 0
  · subst e
    refine ⟨-1000002, xp, R, T, K, D, L, nI 0, nI q, w, ?_, ?_, ⟨0, q, hc, hq, rfl, rfl, rfl, hs⟩, hh⟩
    · rw [o_X8_undo, l0, if_pos rfl]
    · rw [o_X9_undo, l0, if_pos rfl]
  · obtain ⟨c, rfl⟩ : ∃ p, c = p + 1 := ⟨c - 1, by omega⟩
    obtain ⟨w', g1, g2⟩ := m_undo_22 (N := N) (B := B) (c := c) (by omega) 27 0 N w (by omega) (by omega) (fun q hq => by omega)
    obtain ⟨K', D', L', f1, f2⟩ := p_load (N := N) (M := 648) (b := 27 * ((q + 23) % 24)) (K := K) (D := D) (L := L) (A := A) (by omega) (by omega) (by omega)
    have e24 : nI q + 24 - 1 - (nI q + 24 - 1) / 24 * 24 = nI ((q + 23) % 24) := by
      rw [show (24 : Int32) = nI 24 from rfl, nI_add, show nI (q + 24) - 1 = nI (q + 23) from nI_pred (q + 23), m24 (by omega)]
    refine ⟨nI c, A (27 * ((q + 23) % 24)), A (27 * ((q + 23) % 24) + 1), A (27 * ((q + 23) % 24) + 2), K', D', L', nI c, nI ((q + 23) % 24), w', ?_, ?_, ⟨c, (q + 23) % 24, by omega, by omega, rfl, rfl, rfl, fun i hi => ?_⟩, ?_⟩
    · rw [o_X8_undo, l0, ifeq (by omega) (by omega), if_neg e, o_X0_takeBack, e24, l27_, pk_mul, Nat.mul_comm, f1, Option.bind_some, Option.bind_some, show nI (c + 1) - 1 = nI c from nI_pred c]
    · rw [o_X9_undo, l0, ifeq (by omega) (by omega), if_neg e, show nI (c + 1) - 1 = nI c from nI_pred c, g1]
    · rw [show ((q + 23) % 24 + 24 - c + i) % 24 = (q + 24 - (c + 1) + i) % 24 by omega]
      exact hs i (by omega)
    · have := hs c (by omega)
      rw [show (q + 24 - (c + 1) + c) % 24 = (q + 23) % 24 by congr 1; omega] at this
      exact HREL_congr this (fun j hj => f2 j hj) (fun j hj => g2 j hj)
