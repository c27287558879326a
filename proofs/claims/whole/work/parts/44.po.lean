/-! PURE PART O: the acts -/
theorem m_keep_51 {N c : Nat} {w : Nat → Int32} (hc : c < 24) : ∀ j i m (B : Nat → Int32), i + j = 27 → j < m → (∀ q, q < i → B (27 * c + q) = w q) →
    ∃ B', o_X9_keepAct_51 N (nI c) w m B (nI i) = some (nI (c + 1), B') ∧ (∀ q, q < 27 → B' (27 * c + q) = w q) ∧ ∀ q, (q < 27 * c ∨ 27 * c + 27 ≤ q) → B' q = B q := by
  intro j
  induction j with
  | zero =>
    intro i m B h1 h2 h3
    obtain ⟨m, rfl⟩ := mem_succ h2
    refine ⟨B, ?_, fun q hq => h3 q (by omega), fun _ _ => rfl⟩
    rw [o_X9_keepAct_51]
    dsimp only
    rw [l27_, ifle (by omega) (by omega), if_pos (by omega), nI_1]
  | succ j ih =>
    intro i m B h1 h2 h3
    obtain ⟨m, rfl⟩ := mem_succ h2
    obtain ⟨B', g1, g2, g3⟩ := ih (i + 1) m (upd B (27 * c + i) (w i)) (by omega) (by omega) (fun q hq => by
      by_cases e : q = i
      · subst e; rw [upd_eq]
      · rw [upd_ne (by omega)]; exact h3 q (by omega))
    refine ⟨B', ?_, g2, fun q hq => ?_⟩
    · rw [o_X9_keepAct_51]
      dsimp only
      rw [l27_, ifle (by omega) (by omega), if_neg (by omega), pk_mul, nI_add, ogd_t (inb_ok (by omega) (by omega)), ogd_t (inb_ok (by omega) (by omega)), cl_nI (by omega), cl_nI (by omega), nI_1]
      exact g1
    · rw [g3 q hq, upd_ne (by omega)]
theorem m_keep_11 {N : Nat} {w : Nat → Int32} (hN : 30 < N) (B0 : Nat → Int32) : ∀ j i m (B : Nat → Int32), i + j = 621 → j < m → (∀ q, q < i → B q = B0 (q + 27)) → (∀ q, i ≤ q → B q = B0 q) →
    ∃ B', o_X9_keepAct_11 N (nI 24) w m B (nI i) = some (nI 24, B') ∧ (∀ q, q < 27 → B' (621 + q) = w q) ∧ ∀ q, q < 621 → B' q = B0 (q + 27) := by
  intro j
  induction j with
  | zero =>
    intro i m B h1 h2 h3 h4
    obtain ⟨m, rfl⟩ := mem_succ h2
    obtain ⟨B', g1, g2, g3⟩ := m_keep_51 (N := N) (c := 23) (w := w) (by omega) 27 0 N B (by omega) (by omega) (fun q hq => by omega)
    refine ⟨B', ?_, g2, fun q hq => by rw [g3 q (by omega), h3 q (by omega)]⟩
    rw [o_X9_keepAct_11]
    dsimp only
    rw [show (621 : Int32) = nI 621 from rfl, ifle (by omega) (by omega), if_pos (by omega), show nI 24 - 1 = nI 23 from nI_pred 23]
    exact g1
  | succ j ih =>
    intro i m B h1 h2 h3 h4
    obtain ⟨m, rfl⟩ := mem_succ h2
    obtain ⟨B', g1, g2, g3⟩ := ih (i + 1) m (upd B i (B (i + 27))) (by omega) (by omega) (fun q hq => by
      by_cases e : q = i
      · subst e; rw [upd_eq, h4 _ (by omega)]
      · rw [upd_ne e]; exact h3 q (by omega)) (fun q hq => by rw [upd_ne (by omega)]; exact h4 q (by omega))
    refine ⟨B', ?_, g2, g3⟩
    rw [o_X9_keepAct_11]
    dsimp only
    rw [show (621 : Int32) = nI 621 from rfl, ifle (by omega) (by omega), if_neg (by omega), l27_, nI_add, ogd_t (inb_ok (by omega) (by omega)), ogd_t (inb_ok (by omega) (by omega)), cl_nI (by omega), cl_nI (by omega), nI_1]
    exact g1
theorem m_keep {N c : Nat} {w B : Nat → Int32} (hN : 630 < N) (hc : c ≤ 24) : ∃ B', o_X9_keepAct N (nI c) w B = some (nI (if c = 24 then 24 else c + 1), B') ∧
    (c = 24 → (∀ q, q < 27 → B' (621 + q) = w q) ∧ ∀ q, q < 621 → B' q = B (q + 27)) ∧ (c < 24 → (∀ q, q < 27 → B' (27 * c + q) = w q) ∧ ∀ q, q < 27 * c → B' q = B q) := by
  rw [o_X9_keepAct, show (24 : Int32) = nI 24 from rfl, ifeq (by omega) (by omega)]
  by_cases e : c = 24
  · subst e
    obtain ⟨B', g1, g2, g3⟩ := m_keep_11 (N := N) (w := w) (by omega) B 621 0 N B (by omega) (by omega) (fun q hq => by omega) (fun _ _ => rfl)
    rw [if_pos rfl, if_pos rfl]
    exact ⟨B', g1, fun _ => ⟨g2, g3⟩, fun h => by omega⟩
  · obtain ⟨B', g1, g2, g3⟩ := m_keep_51 (N := N) (c := c) (w := w) (by omega) 27 0 N B (by omega) (by omega) (fun q hq => by omega)
    rw [if_neg e, if_neg e]
    exact ⟨B', g1, fun h => absurd h e, fun _ => ⟨g2, fun q hq => g3 q (Or.inl hq)⟩⟩
theorem m24 {p : Nat} (h : p < 1000) : nI p - nI p / nI 24 * nI 24 = nI (p % 24) := by
  rw [pk_div (by omega) (by omega) (by omega), pk_mul, pk_sub (by omega)]
  congr 1
  omega
/-- the acts of both sides: the class keeps them in a ring, the model in a row -/
def AR (xk xn : Int32) (A : Nat → Int32) (mk : Int32) (B : Nat → Int32) : Prop := ∃ c q, c ≤ 24 ∧ q < 24 ∧ xk = nI c ∧ mk = nI c ∧ xn = nI q ∧ ∀ i, i < c → SV A (27 * ((q + 24 - c + i) % 24)) B (27 * i)
theorem s_keep {N : Nat} {xk xn mk xp R T : Int32} {A B K D L w : Nat → Int32} (hN : 630 < N) (h : AR xk xn A mk B) (hh : HREL xp R T K D L w) :
    ∃ xk' xn' A' B', o_X0_keep N xk xn A xp R T K D L = some (xk', xn', A') ∧ o_X9_keepAct N mk w B = some (xk', B') ∧ AR xk' xn' A' xk' B' := by
  obtain ⟨c, q, hc, hq, rfl, rfl, rfl, hs⟩ := h
  obtain ⟨B', g1, g2, g3⟩ := m_keep (w := w) (B := B) hN hc
  obtain ⟨A', f1, f2, f3, f4, f5, f6⟩ := p_save (N := N) (M := 648) (b := 27 * q) (xp := xp) (R := R) (T := T) (K := K) (D := D) (L := L) (A := A) (by omega) (by omega) (by omega)
  refine ⟨nI (if c = 24 then 24 else c + 1), nI ((q + 1) % 24), A', B', ?_, g1, ?_⟩
  · rw [o_X0_keep, l27_, pk_mul, Nat.mul_comm, f1, Option.bind_some, show (24 : Int32) = nI 24 from rfl, nI_1, nI_1, iflt (by omega) (by omega), m24 (by omega)]
    by_cases e : c = 24
    · rw [if_pos e, if_pos (by omega)]
    · rw [if_neg e, if_neg (by omega)]
  · have new : ∀ i, (∀ j, j < 27 → B' (27 * i + j) = w j) → SV A' (27 * q) B' (27 * i) := by
      intro i hi
      unfold SV
      rw [f2, f3, f4]
      exact HREL_congr hh f5 (fun j hj => hi j hj)
    by_cases e : c = 24
    · subst e
      refine ⟨24, (q + 1) % 24, by omega, by omega, by rw [if_pos rfl], by rw [if_pos rfl], rfl, fun i hi => ?_⟩
      by_cases e2 : i = 23
      · subst e2
        rw [show ((q + 1) % 24 + 24 - 24 + 23) % 24 = q by omega]
        exact new 23 (fun j hj => (g2 rfl).1 j hj)
      · rw [show ((q + 1) % 24 + 24 - 24 + i) % 24 = (q + 24 - 24 + (i + 1)) % 24 by omega]
        refine SV_congr (hs (i + 1) (by omega)) (fun j hj => f6 _ (by omega)) (fun j hj => ?_)
        rw [(g2 rfl).2 _ (by omega)]
        congr 1
        omega
    · refine ⟨c + 1, (q + 1) % 24, by omega, by omega, by rw [if_neg e], by rw [if_neg e], rfl, fun i hi => ?_⟩
      by_cases e2 : i = c
      · subst e2
        rw [show ((q + 1) % 24 + 24 - (i + 1) + i) % 24 = q by omega]
        exact new i (fun j hj => (g3 (by omega)).1 j hj)
      · rw [show ((q + 1) % 24 + 24 - (c + 1) + i) % 24 = (q + 24 - c + i) % 24 by omega]
        exact SV_congr (hs i (by omega)) (fun j hj => f6 _ (by omega)) (fun j hj => (g3 (by omega)).2 _ (by omega))
