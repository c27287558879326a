/-! PURE PART R: a round told -/
theorem s_round {N : Nat} {xk xn mk xp R T c1 c2 c3 t1 t2 t3 t4 : Int32} {A B K D L w I E : Nat → Int32} (hN : 630 < N) (h : AR xk xn A mk B) (hh : HREL xp R T K D L w) :
    ∃ r R' T' D' L' c1' c2' c3' xk' xn' A' t1' t2' t3' t4' w' B' I' E', o_X8_round N xp R T K D L c1 c2 c3 xk xn A = some (r, R', T', D', L', c1', c2', c3', xk', xn', A') ∧ o_X9_round N mk t1 t2 t3 t4 w B I E = some (r, xk', t1', t2', t3', t4', w', B', I', E') ∧ AR xk' xn' A' xk' B' ∧ HREL xp R' T' K D' L' w' := by
  have hmk : xk = mk := by obtain ⟨c, q, -, -, e1, e2, -⟩ := h; rw [e1, e2]
  have h0 := hh
  obtain ⟨n, k, k', s, s', ⟨rfl, rfl, rfl, hK, hD, hL⟩, hM, hb, hb', hk, hs, h1⟩ := hh
  have hn := hb.1.1
  have t := lds_le n s.2.1
  have t' : lds n s'.2.1 ≤ n := lds_le n s'.2.1
  by_cases c : 2 ≤ lds n s.2.1
  · obtain ⟨xk', xn', A', B', g1, g2, g3⟩ := s_keep (N := N) hN h h0
    obtain ⟨D1, L1, e1, e2, e3, f1, f2, f3⟩ := p_X3_playRound (N := N) (R := s.2.2.1) (T := s.2.2.2) (c1 := c1) (c2 := c2) (c3 := c3) (by omega) hn hK hD hL
    obtain ⟨a1, a2, a3, a4, w1, A1, E1, m1, m2⟩ := p_round (N := N) (A := I) (E := E) (t1 := t1) (t2 := t2) (t3 := t3) (t4 := t4) (by omega) hM hb'
    have r1 := (rstep_ok hb).1
    have r2 := (rstep_ok hb').1
    have sg := sg_rstep hk hs
    refine ⟨nI (lds n (rstep n k s).2.1), _, _, D1, L1, e1, e2, e3, xk', xn', A', a1, a2, a3, a4, w1, B', A1, E1, ?_, ?_, g3, ⟨n, k, k', rstep n k s, rstep n k' s', ⟨rfl, rfl, rfl, hK, f2, f3⟩, m2, r1, r2, hk, sg, h1⟩⟩
    · rw [o_X8_round, p_X3_leaders (by omega) hn hL, Option.bind_some, l2_, ifle (by omega) (by omega), if_pos c, g1, Option.bind_some, f1, Option.bind_some, p_X3_leaders (by omega) hn f3]
      rfl
    · rw [o_X9_round, p_X9_leaders (by omega) hM.1 hb'.1, Option.bind_some, l2_, ifle (by omega) (by omega), ← ag_lds hs.2.1, if_pos c, g2, Option.bind_some, m1, Option.bind_some, p_X9_leaders (by omega) m2.1 r2.1, ag_lds sg.2.1]
      rfl
  · refine ⟨-1000002, s.2.2.1, s.2.2.2, D, L, c1, c2, c3, xk, xn, A, t1, t2, t3, t4, w, B, I, E, ?_, ?_, by rw [← hmk] at h; exact h, h0⟩
    · rw [o_X8_round, p_X3_leaders (by omega) hn hL, Option.bind_some, l2_, ifle (by omega) (by omega), if_neg c]
    · rw [o_X9_round, p_X9_leaders (by omega) hM.1 hb'.1, Option.bind_some, l2_, ifle (by omega) (by omega), ← ag_lds hs.2.1, if_neg c, hmk]
