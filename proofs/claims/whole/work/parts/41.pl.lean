/-! PURE PART L: who plays; kinds; counts -/
theorem x_isPl {N n : Nat} {x : Int32} (hn : n ≤ 8) : o_X8_isPlayer N (nI n) x = some (if (∃ r, r < n ∧ x = nI r) then 1 else 0) := by
  rw [o_X8_isPlayer]
  rcases icase x n (by omega) with h1 | h1 | ⟨h1, h2⟩
  · rw [if_pos h1]
    obtain ⟨r, hr, rfl⟩ := h1
    rw [if_neg (nlt0 (by omega)), ifle (by omega) (by omega), if_neg (by omega)]
  · rw [if_pos h1, if_neg]
    rintro ⟨r, hr, rfl⟩
    exact nlt0 (by omega) h1
  · rw [if_neg h2, if_pos h1, if_neg]
    rintro ⟨r, hr, rfl⟩
    rw [nI_leI (by omega) (by omega)] at h1
    omega
theorem m_isPl {N n : Nat} {w : Nat → Int32} {k d f : Nat → Nat} {x : Int32} (h : MA w n k d f) (hn : n ≤ 8) : o_X9_isPlayer N w x = some (if (∃ r, r < n ∧ x = nI r) then 1 else 0) := by
  rw [o_X9_isPlayer, p_X9_players h, Option.bind_some]
  match n, hn with
  | 0, _ =>
    have e : o_X9_in N x.toInt64 0 (nI 0 - 1).toInt64 = some 0 := by
      rw [show (0 : Int64) = (0 : Int32).toInt64 from rfl, p_in32, if_neg]
      intro ⟨h1, h2⟩
      have h3 : (nI 0 - 1).toInt = -1 := rfl
      rw [qle] at h1 h2
      rw [h3] at h2
      rw [q0] at h1
      omega
    rw [e, Option.bind_some, ogd_t (by decide), if_neg]
    rintro ⟨r, hr, -⟩
    omega
  | n + 1, hn =>
    rw [show nI (n + 1) - 1 = nI n from nI_pred n, p_in0 (by omega) rfl, Option.bind_some]
    by_cases c : ∃ r, r < n + 1 ∧ x = nI r
    · rw [if_pos c, ogd_t (by decide)]
    · rw [if_neg c, ogd_t (by decide)]
theorem m_n {w : Nat → Int32} {n : Nat} {k : Nat → Nat} {s : RS} (h : MR w n k s) : w 0 = nI n := h.1.1
theorem s_kind {N : Nat} {xp R T : Int32} {K D L w : Nat → Int32} {x : Int32} (h : HREL xp R T K D L w) : ∃ r, o_X8_kind N xp K x = some r ∧ o_X9_kind N w x = some r := by
  obtain ⟨n, k, k', s, s', ⟨rfl, -, -, hK, -, -⟩, hM, hb, hb', hk, hs, -⟩ := h
  have hn := hb.1.1
  by_cases c : ∃ r, r < n ∧ x = nI r
  · refine ⟨K x.toNatClampNeg, ?_, ?_⟩
    · obtain ⟨r, hr, rfl⟩ := c
      rw [o_X8_kind, x_isPl hn, if_pos ⟨r, hr, rfl⟩, Option.bind_some, if_neg (by decide), ogd_t (inb_ok (by omega) (by omega))]
    · obtain ⟨r, hr, rfl⟩ := c
      rw [o_X9_kind, m_isPl hM.1 hn, if_pos ⟨r, hr, rfl⟩, Option.bind_some, if_neg (by decide), l1_, nI_add, ogd_t (inb_ok (by omega) (by omega)), cl_nI (by omega), cl_nI (by omega), (hM.1.2 r (by omega)).1, (hK r (by omega)).1, hk r hr]
  · refine ⟨-1000001, ?_, ?_⟩
    · rw [o_X8_kind, x_isPl hn, if_neg c, Option.bind_some, if_pos rfl]
    · rw [o_X9_kind, m_isPl hM.1 hn, if_neg c, Option.bind_some, if_pos rfl]
def abv (k : Nat) : Nat := if k = 5 then 4 else if k = 2 then 1 else if k = 3 then 1 else 0
theorem abv_lt (k : Nat) : abv k < 6 := by
  unfold abv
  repeat' split
  all_goals omega
theorem m_abv {N k : Nat} (hk : k < 6) : o_X9_above N (nI k) = some (nI (abv k)) := by
  rw [o_X9_above, l5_, l4_, l2_, l1_, l3_, l0, ifeq (by omega) (by omega), ifeq (by omega) (by omega), ifeq (by omega) (by omega)]
  unfold abv
  repeat' split
  all_goals rfl
theorem as_st {N m k j : Nat} {x : Int32} (hk : k < 6) (hj : j < 6) : o_X9_as_32 N x (nI j) (m + 1) (nI k) = if k = j then some (x, 0) else if k = 0 then some (-1000010 - 3, 3) else o_X9_as_32 N x (nI j) m (nI (abv k)) := by
  rw [o_X9_as_32]
  dsimp only
  rw [l0, ifeq (by omega) (by omega), ifeq (by omega) (by omega), m_abv hk, Option.bind_some, o_X9_as_49, ifeq (by omega) (by omega)]
  by_cases h : k = j
  · rw [if_pos h, if_pos h, if_pos h]; rfl
  · rw [if_neg h, if_neg h, if_neg h]; rfl
def one (k j : Nat) : Bool := if j = 1 then (k == 1 || k == 2 || k == 3) else if j = 4 then (k == 4 || k == 5) else if j = 0 then true else j == k
theorem x_one {N k j : Nat} (hk : k < 6) (hj : j < 6) : o_X8_isOne N (nI k) (nI j) = some (if one k j = true then 1 else 0) := by
  have hk' : k = 0 ∨ k = 1 ∨ k = 2 ∨ k = 3 ∨ k = 4 ∨ k = 5 := by omega
  have hj' : j = 0 ∨ j = 1 ∨ j = 2 ∨ j = 3 ∨ j = 4 ∨ j = 5 := by omega
  rw [o_X8_isOne, o_X8_isBoyish, l5_, l4_, l2_, l3_, l1_, l0]
  simp only [ifeq (show j < 100000 by omega) (show 1 < 100000 by omega), ifeq (show j < 100000 by omega) (show 4 < 100000 by omega), ifeq (show j < 100000 by omega) (show 0 < 100000 by omega), ifeq (show k < 100000 by omega) (show 1 < 100000 by omega), ifeq (show k < 100000 by omega) (show 2 < 100000 by omega), ifeq (show k < 100000 by omega) (show 3 < 100000 by omega), ifeq (show k < 100000 by omega) (show 4 < 100000 by omega), ifeq (show k < 100000 by omega) (show 5 < 100000 by omega), ifeq (show j < 100000 by omega) (show k < 100000 by omega)]
  rcases hk' with rfl | rfl | rfl | rfl | rfl | rfl <;> rcases hj' with rfl | rfl | rfl | rfl | rfl | rfl <;> rfl
theorem as_v (N m k j : Nat) (x : Int32) (hk : k < 6) (h1 : 1 ≤ k) (hj : j < 6) : ∃ b : Int32, (b = 0 ∨ b = 1) ∧ o_X8_isOne N (nI k) (nI j) = some b ∧ o_X9_as_32 N x (nI j) (m + 5) (nI k) = (if b = 0 then some (-1000010 - 3, 3) else some (x, 0)) := by
  have hk' : k = 0 ∨ k = 1 ∨ k = 2 ∨ k = 3 ∨ k = 4 ∨ k = 5 := by omega
  have hj' : j = 0 ∨ j = 1 ∨ j = 2 ∨ j = 3 ∨ j = 4 ∨ j = 5 := by omega
  have a1 : abv k < 6 := abv_lt k
  have a2 : abv (abv k) < 6 := abv_lt _
  rw [x_one hk hj, as_st hk hj, as_st a1 hj, as_st a2 hj]
  by_cases c : one k j = true
  · refine ⟨1, Or.inr rfl, by rw [if_pos c], ?_⟩
    rw [if_neg (show ¬ (1 : Int32) = 0 by decide)]
    have : k = j ∨ (k ≠ j ∧ k ≠ 0 ∧ (abv k = j ∨ (abv k ≠ j ∧ abv k ≠ 0 ∧ abv (abv k) = j))) := by
      clear a1 a2
      revert c h1
      rcases hk' with rfl | rfl | rfl | rfl | rfl | rfl <;> rcases hj' with rfl | rfl | rfl | rfl | rfl | rfl <;> decide
    rcases this with e | ⟨e1, e2, e | ⟨e3, e4, e⟩⟩
    · rw [if_pos e]
    · rw [if_neg e1, if_neg e2, if_pos e]
    · rw [if_neg e1, if_neg e2, if_neg e3, if_neg e4, if_pos e]
  · refine ⟨0, Or.inl rfl, by rw [if_neg c], ?_⟩
    rw [if_pos (show (0 : Int32) = 0 from rfl)]
    have : k ≠ j ∧ k ≠ 0 ∧ abv k ≠ j ∧ (abv k = 0 ∨ (abv k ≠ 0 ∧ abv (abv k) ≠ j ∧ abv (abv k) = 0)) := by
      clear a1 a2
      revert c h1
      rcases hk' with rfl | rfl | rfl | rfl | rfl | rfl <;> rcases hj' with rfl | rfl | rfl | rfl | rfl | rfl <;> decide
    obtain ⟨e1, e2, e3, e4 | ⟨e4, e5, e6⟩⟩ := this
    · rw [if_neg e1, if_neg e2, if_neg e3, if_pos e4]
    · rw [if_neg e1, if_neg e2, if_neg e3, if_neg e4, if_neg e5, if_pos e6]
theorem s_as {N : Nat} {xp R T st st' : Int32} {K D L w : Nat → Int32} {x y : Int32} (hN : 9 < N) (hst : st = st') (h : HREL xp R T K D L w) : ∃ r, o_X8_as N st xp K x y = some r ∧ o_X9_as N st' w x y = some r := by
  subst hst
  obtain ⟨n, k, k', s, s', ⟨rfl, -, -, hK, -, -⟩, hM, hb, hb', hk, hs, h1⟩ := h
  have hn := hb.1.1
  by_cases c : ∃ r, r < n ∧ x = nI r
  · obtain ⟨r, hr, rfl⟩ := c
    rcases icase y 6 (by omega) with ⟨j, hj, rfl⟩ | hy
    · obtain ⟨m, rfl⟩ : ∃ m, N = m + 5 := ⟨N - 5, by omega⟩
      obtain ⟨b, hb0, e1, e2⟩ := as_v (m + 5) m (k r) j (nI r) (hK r (by omega)).2 (h1 r hr) hj
      refine ⟨if b = 0 then (-1000010 - 3, 3) else (nI r, 0), ?_, ?_⟩
      · rw [o_X8_as, x_isPl hn, if_pos ⟨r, hr, rfl⟩, Option.bind_some, if_neg (by decide), if_neg (nlt0 (by omega)), l5_, ifle (by omega) (by omega), if_pos (by omega), ogd_t (inb_ok (by omega) (by omega)), cl_nI (by omega), (hK r (by omega)).1, e1, Option.bind_some]
        rcases hb0 with rfl | rfl
        · rfl
        · rfl
      · rw [o_X9_as, m_isPl hM.1 hn, if_pos ⟨r, hr, rfl⟩, Option.bind_some, if_neg (by decide), in_yes (by omega) w5 (by omega), Option.bind_some, if_neg (by decide), l1_, nI_add, ogd_t (inb_ok (by omega) (by omega)), cl_nI (by omega), (hM.1.2 r (by omega)).1, ← hk r hr, e2]
        rcases hb0 with rfl | rfl
        · rfl
        · rfl
    · refine ⟨(-1000001, st), ?_, ?_⟩
      · rw [o_X8_as, x_isPl hn, if_pos ⟨r, hr, rfl⟩, Option.bind_some, if_neg (by decide)]
        rcases hy with hy | ⟨hy, hy2⟩
        · rw [if_pos hy]
        · rw [if_neg hy2, l5_, if_neg (nle_s (by omega) hy)]
      · rw [o_X9_as, m_isPl hM.1 hn, if_pos ⟨r, hr, rfl⟩, Option.bind_some, if_neg (by decide), in_no (by omega) w5 hy, Option.bind_some, if_pos rfl]
  · refine ⟨(-1000001, st), ?_, ?_⟩
    · rw [o_X8_as, x_isPl hn, if_neg c, Option.bind_some, if_pos rfl]
    · rw [o_X9_as, m_isPl hM.1 hn, if_neg c, Option.bind_some, if_pos rfl]
