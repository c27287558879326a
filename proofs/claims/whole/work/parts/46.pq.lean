/-! PURE PART Q: a hand told anew -/
theorem s_hand {N : Nat} {xk xn mk xp R T x y : Int32} {A B K D L w : Nat → Int32} (hN : 630 < N) (h : AR xk xn A mk B) (hh : HREL xp R T K D L w) :
    ∃ r D' xk' xn' A' w' B', o_X8_hand N xp R T K D L xk xn A x y = some (r, D', xk', xn', A') ∧ o_X9_hand N mk w B x y = some (r, xk', w', B') ∧ AR xk' xn' A' xk' B' ∧ HREL xp R T K D' L w' := by
  have hmk : xk = mk := by obtain ⟨c, q, -, -, e1, e2, -⟩ := h; rw [e1, e2]
  have h0 := hh
  obtain ⟨n, k, k', s, s', ⟨rfl, rfl, rfl, hK, hD, hL⟩, hM, hb, hb', hk, hs, h1⟩ := hh
  have hn := hb.1.1
  have no : ∀ r : Int32, (∃ r', r = r' ∧ o_X8_hand N (nI n) s.2.2.1 s.2.2.2 K D L xk xn A x y = some (r', D, xk, xn, A) ∧ o_X9_hand N mk w B x y = some (r', xk, w, B)) → ∃ r D' xk' xn' A' w' B', o_X8_hand N (nI n) s.2.2.1 s.2.2.2 K D L xk xn A x y = some (r, D', xk', xn', A') ∧ o_X9_hand N mk w B x y = some (r, xk', w', B') ∧ AR xk' xn' A' xk' B' ∧ HREL (nI n) s.2.2.1 s.2.2.2 K D' L w' := by
    rintro r ⟨r', -, g1, g2⟩
    exact ⟨r', D, xk, xn, A, w, B, g1, g2, by rw [← hmk] at h; exact h, h0⟩
  by_cases c : ∃ r, r < n ∧ x = nI r
  · by_cases c2 : ∃ r, r < 2 + 1 ∧ y = nI r
    · obtain ⟨xk', xn', A', B', g1, g2, g3⟩ := s_keep (N := N) hN h h0
      obtain ⟨r, hr, rfl⟩ := c
      obtain ⟨v, hv, rfl⟩ := c2
      refine ⟨D r, upd D r (nI v), xk', xn', A', upd w (9 + r) (nI v), B', ?_, ?_, g3, ?_⟩
      · rw [o_X8_hand, x_isPl hn, if_pos ⟨r, hr, rfl⟩, Option.bind_some, if_neg (by decide), x_isHand, if_pos ⟨v, hv, rfl⟩, Option.bind_some, if_neg (by decide), g1, Option.bind_some, ogd_t (inb_ok (by omega) (by omega)), ogd_t (inb_ok (by omega) (by omega)), cl_nI (by omega)]
      · rw [o_X9_hand, m_isPl hM.1 hn, if_pos ⟨r, hr, rfl⟩, Option.bind_some, if_neg (by decide), in_yes (by omega) w2 hv, Option.bind_some, if_neg (by decide), g2, Option.bind_some, l9_, nI_add, ogd_t (inb_ok (by omega) (by omega)), ogd_t (inb_ok (by omega) (by omega)), cl_nI (by omega), (hM.1.2 r (by omega)).2.1, (hD r (by omega)).1, hs.1 r hr]
      · refine ⟨n, k, k', (up2 s.1 r v, s.2), (up2 s'.1 r v, s'.2), ⟨rfl, rfl, rfl, hK, IA_upd hD hv, hL⟩, ⟨MA_d hM.1 (by omega), ?_, ?_⟩, ⟨⟨hn, fun p hp => ?_⟩, hb.2⟩, ⟨⟨hn, fun p hp => ?_⟩, hb'.2⟩, hk, ⟨ag_up2 hs.1 r v, hs.2⟩, h1⟩
        · rw [upd_ne (by omega)]; exact hM.2.1
        · rw [upd_ne (by omega)]; exact hM.2.2
        · have := hb.1.2 p hp
          refine ⟨this.1, ?_, this.2.2⟩
          show up2 s.1 r v p < 3
          unfold up2
          split
          · exact hv
          · exact this.2.1
        · have := hb'.1.2 p hp
          refine ⟨this.1, ?_, this.2.2⟩
          show up2 s'.1 r v p < 3
          unfold up2
          split
          · exact hv
          · exact this.2.1
    · refine no (-1000001) ⟨-1000001, rfl, ?_, ?_⟩
      · rw [o_X8_hand, x_isPl hn, if_pos c, Option.bind_some, if_neg (by decide), x_isHand, if_neg c2, Option.bind_some, if_pos rfl]
      · rw [o_X9_hand, m_isPl hM.1 hn, if_pos c, Option.bind_some, if_neg (by decide), p_in0 (by omega) w2, if_neg c2, Option.bind_some, if_pos rfl, hmk]
  · refine no (-1000001) ⟨-1000001, rfl, ?_, ?_⟩
    · rw [o_X8_hand, x_isPl hn, if_neg c, Option.bind_some, if_pos rfl]
    · rw [o_X9_hand, m_isPl hM.1 hn, if_neg c, Option.bind_some, if_pos rfl, hmk]
