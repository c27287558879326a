/-! PURE PART M: count, trace -/
theorem s_present {N : Nat} {la sz it ln lg th im : Nat → Int32} (h : RR la sz it ln lg th im) (hN : 9 < N) : ∃ r, o_X5_present N la = some r ∧ o_X9_count_48 N th N 0 0 = some r := by
  have loop : ∀ j i m m' a, i + j = 8 → j < m → j < m' → ∃ r, o_X5_present_4 N la m (nI a) (nI i) = some r ∧ o_X9_count_48 N th m' (nI a) (nI i) = some r := by
    intro j
    induction j with
    | zero =>
      intro i m m' a h1 h2 h3
      obtain ⟨m, rfl⟩ := mem_succ h2
      obtain ⟨m', rfl⟩ := mem_succ h3
      refine ⟨nI a, ?_, ?_⟩
      · rw [o_X5_present_4]
        dsimp only
        rw [l8_, ifle (by omega) (by omega), if_pos (by omega)]
      · rw [o_X9_count_48]
        dsimp only
        rw [l8_, ifle (by omega) (by omega), if_pos (by omega)]
    | succ j ih =>
      intro i m m' a h1 h2 h3
      obtain ⟨m, rfl⟩ := mem_succ h2
      obtain ⟨m', rfl⟩ := mem_succ h3
      rcases RW_size (h i (by omega)) with ⟨e1, e2⟩ | ⟨l, s, e1, e2, e3, e4, e5, e6, e7⟩
      · obtain ⟨r, g1, g2⟩ := ih (i + 1) m m' a (by omega) (by omega) (by omega)
        refine ⟨r, ?_, ?_⟩
        · rw [o_X5_present_4]
          dsimp only
          rw [l8_, ifle (by omega) (by omega), if_neg (by omega), o_X5_isMissing, ogd_t (inb_ok (by omega) (by omega)), cl_nI (by omega), e1, if_pos rfl, Option.bind_some, if_neg (by decide), nI_1]
          exact g1
        · rw [o_X9_count_48]
          dsimp only
          rw [l8_, ifle (by omega) (by omega), if_neg (by omega), ogd_t (inb_ok (by omega) (by omega)), cl_nI (by omega), e2, if_pos rfl, o_X9_count_69, nI_1, l0, nI_add]
          exact g2
      · obtain ⟨r, g1, g2⟩ := ih (i + 1) m m' (a + 1) (by omega) (by omega) (by omega)
        have l3' : l = 0 ∨ l = 1 ∨ l = 2 := by omega
        have ne : ¬ la i = -1 := by rw [e1]; rcases l3' with rfl | rfl | rfl <;> decide
        refine ⟨r, ?_, ?_⟩
        · rw [o_X5_present_4]
          dsimp only
          rw [l8_, ifle (by omega) (by omega), if_neg (by omega), o_X5_isMissing, ogd_t (inb_ok (by omega) (by omega)), cl_nI (by omega), if_neg ne, Option.bind_some, if_pos rfl, nI_1, nI_1]
          exact g1
        · rw [o_X9_count_48]
          dsimp only
          rw [l8_, ifle (by omega) (by omega), if_neg (by omega), ogd_t (inb_ok (by omega) (by omega)), cl_nI (by omega), e7, if_neg (by decide), o_X9_count_69, nI_1, nI_1]
          exact g2
  exact loop 8 0 N N 0 rfl (by omega) (by omega)
theorem s_count {N : Nat} {la sz it ln lg th im : Nat → Int32} {xp R T xl ml ac ac' : Int32} {K D L w : Nat → Int32} {x : Int32} (hN : 9 < N) (h : RR la sz it ln lg th im) (hh : HREL xp R T K D L w) (hl : xl = ml) (ha : ac = ac') :
    ∃ r, o_X8_count N la xl xp R T L ac x = some r ∧ o_X9_count N ac' ml w th x = some r := by
  subst hl ha
  obtain ⟨n, k, k', s, s', ⟨rfl, rfl, rfl, hK, hD, hL⟩, hM, hb, hb', hk, hs, h1⟩ := hh
  have hn := hb.1.1
  rw [o_X8_count, o_X9_count]
  by_cases c0 : x = 0
  · rw [if_pos c0, if_pos c0]
    obtain ⟨r, g1, g2⟩ := s_present h hN
    exact ⟨r, by rw [g1]; rfl, g2⟩
  rw [if_neg c0, if_neg c0]
  by_cases c1 : x = 1
  · rw [if_pos c1, if_pos c1, p_X9_players hM.1]
    exact ⟨nI n, rfl, rfl⟩
  rw [if_neg c1, if_neg c1]
  by_cases c2 : x = 2
  · rw [if_pos c2, if_pos c2, p_X9_leaders (by omega) hM.1 hb'.1, p_X3_leaders (by omega) hn hL, ag_lds hs.2.1]
    exact ⟨_, rfl, rfl⟩
  rw [if_neg c2, if_neg c2]
  by_cases c3 : x = 3
  · rw [if_pos c3, if_pos c3, ogd_t (by decide), show Int32.toNatClampNeg 25 = 25 from rfl, hM.2.1, hs.2.2]
    exact ⟨_, rfl, rfl⟩
  rw [if_neg c3, if_neg c3]
  by_cases c4 : x = 4
  · rw [if_pos c4, if_pos c4, ogd_t (by decide), show Int32.toNatClampNeg 26 = 26 from rfl, hM.2.2, hs.2.2]
    exact ⟨_, rfl, rfl⟩
  rw [if_neg c4, if_neg c4]
  by_cases c5 : x = 5
  · rw [if_pos c5]
    exact ⟨_, rfl, rfl⟩
  rw [if_neg c5]
  by_cases c6 : x = 6
  · rw [if_pos c6]
    exact ⟨_, rfl, rfl⟩
  rw [if_neg c6]
  exact ⟨_, rfl, rfl⟩
/-- the traces: alike below their length -/
def TC (xl : Int32) (xb : Nat → Int32) (ml : Int32) (mb : Nat → Int32) : Prop := ∃ n, n ≤ 16 ∧ xl = nI n ∧ ml = nI n ∧ ∀ i, i < n → xb i = mb i
theorem s_trace {N : Nat} {xl ml x : Int32} {xb mb : Nat → Int32} (h : TC xl xb ml mb) : ∃ r, o_X8_trace N xl xb x = some r ∧ o_X9_trace N ml mb x = some r := by
  obtain ⟨n, hn, rfl, rfl, hb⟩ := h
  have em : o_X9_in N x.toInt64 0 (nI n - 1).toInt64 = some (if (∃ r, r < n ∧ x = nI r) then 1 else 0) := by
    match n, hn with
    | 0, _ =>
      rw [show (0 : Int64) = (0 : Int32).toInt64 from rfl, p_in32, if_neg, if_neg]
      · rintro ⟨r, hr, -⟩
        omega
      · intro ⟨h1, h2⟩
        have h3 : (nI 0 - 1).toInt = -1 := rfl
        rw [qle] at h1 h2
        rw [h3] at h2
        rw [q0] at h1
        omega
    | n + 1, hn => rw [show nI (n + 1) - 1 = nI n from nI_pred n, p_in0 (by omega) rfl]
  rw [o_X8_trace, o_X9_trace, em, Option.bind_some]
  rcases icase x n (by omega) with h1 | h1 | ⟨h1, h2⟩
  · rw [if_pos h1]
    obtain ⟨r, hr, rfl⟩ := h1
    refine ⟨xb r, ?_, ?_⟩
    · rw [if_neg (nlt0 (by omega)), ifle (by omega) (by omega), if_neg (by omega), ogd_t (inb_ok (by omega) (by omega)), cl_nI (by omega)]
    · rw [if_neg (show ¬ (1 : Int32) = 0 by decide), ogd_t (inb_ok (by omega) (by omega)), cl_nI (by omega), hb r hr]
  · refine ⟨_, by rw [if_pos h1], ?_⟩
    rw [if_neg (c := ∃ r, r < n ∧ x = nI r), if_pos rfl]
    rintro ⟨r, hr, rfl⟩
    exact nlt0 (by omega) h1
  · refine ⟨_, by rw [if_neg h2, if_pos h1], ?_⟩
    rw [if_neg (c := ∃ r, r < n ∧ x = nI r), if_pos rfl]
    rintro ⟨r, hr, rfl⟩
    rw [nI_leI (by omega) (by omega)] at h1
    omega
