/-! PURE PART F: args, and the rows of both sides -/
theorem qlt (a b : Int32) : a < b ↔ a.toInt < b.toInt := Int32.lt_iff_toInt_lt
theorem qle (a b : Int32) : a ≤ b ↔ a.toInt ≤ b.toInt := Int32.le_iff_toInt_le
theorem qlt64 (a b : Int64) : a < b ↔ a.toInt < b.toInt := Int64.lt_iff_toInt_lt
theorem qle64 (a b : Int64) : a ≤ b ↔ a.toInt ≤ b.toInt := Int64.le_iff_toInt_le
theorem qwle (a b : Int32) : a.toInt64 ≤ b.toInt64 ↔ a ≤ b := by rw [qle64, qle, Int32.toInt_toInt64, Int32.toInt_toInt64]
theorem qwlt (a b : Int32) : a.toInt64 < b.toInt64 ↔ a < b := by rw [qlt64, qlt, Int32.toInt_toInt64, Int32.toInt_toInt64]
theorem q0 : (0 : Int32).toInt = 0 := rfl
theorem qnI {n : Nat} (h : n < 100000) : (nI n).toInt = (n : Int) := nI_toInt (by omega)
/-- an arg is a number below n, or below 0, or n or more -/
theorem icase (x : Int32) (n : Nat) (hn : n < 100000) : (∃ r, r < n ∧ x = nI r) ∨ x < 0 ∨ (nI n ≤ x ∧ ¬ x < 0) := by
  by_cases h0 : x < 0
  · exact Or.inr (Or.inl h0)
  · by_cases h1 : nI n ≤ x
    · exact Or.inr (Or.inr ⟨h1, h0⟩)
    · obtain ⟨j, hj, rfl⟩ := nI_of h0
      refine Or.inl ⟨j, ?_, rfl⟩
      rw [nI_leI (by omega) (by omega)] at h1
      omega
theorem nlt0 {r : Nat} (h : r < 100000) : ¬ nI r < 0 := nI_pos (by omega)
theorem le0 {r : Nat} (h : r < 100000) : (0 : Int32) ≤ nI r := nI_pos' (by omega)
theorem gt_s {x : Int32} {a : Nat} (ha : a < 90000) (h : nI (a + 1) ≤ x) : nI a < x := by
  rw [qle, qnI (by omega)] at h
  rw [qlt, qnI (by omega)]
  omega
theorem nle_s {x : Int32} {a : Nat} (ha : a < 90000) (h : nI (a + 1) ≤ x) : ¬ x ≤ nI a := by
  rw [qle, qnI (by omega)] at h
  rw [qle, qnI (by omega)]
  omega
theorem neg_le {x : Int32} {a : Nat} (ha : a < 90000) (h : x < 0) : x ≤ nI a ∧ ¬ nI a < x ∧ ¬ 0 ≤ x ∧ ¬ nI a ≤ x ∧ x < nI a := by
  rw [qlt, q0] at h
  rw [qle, qlt, qle, qle, qlt, q0, qnI (by omega)]
  omega
theorem p_in (N : Nat) (a lo hi : Int64) : o_X9_in N a lo hi = some (if lo ≤ a ∧ a ≤ hi then 1 else 0) := by
  rw [o_X9_in]
  by_cases h1 : lg_cmp a lo < 0
  · rw [if_pos h1]
    rw [lg_cmp_lt] at h1
    rw [if_neg (fun h => by have := h.1; rw [qle64] at this; rw [qlt64] at h1; omega)]
  · rw [if_neg h1]
    rw [lg_cmp_lt] at h1
    by_cases h2 : 0 < lg_cmp a hi
    · rw [if_pos h2]
      rw [lg_cmp_gt] at h2
      rw [if_neg (fun h => by have := h.2; rw [qle64] at this; rw [qlt64] at h2; omega)]
    · rw [if_neg h2]
      rw [lg_cmp_gt] at h2
      rw [if_pos]
      rw [qlt64] at h1 h2
      rw [qle64, qle64]
      omega
/-- the model's in, of ints: an arg from lo to hi -/
theorem p_in32 (N : Nat) (x lo hi : Int32) : o_X9_in N x.toInt64 lo.toInt64 hi.toInt64 = some (if lo ≤ x ∧ x ≤ hi then 1 else 0) := by
  rw [p_in]
  simp only [qwle]
theorem p_in_yes {N : Nat} {x lo hi : Int32} (h1 : lo ≤ x) (h2 : x ≤ hi) : o_X9_in N x.toInt64 lo.toInt64 hi.toInt64 = some 1 := by rw [p_in32, if_pos ⟨h1, h2⟩]
theorem p_in_lo {N : Nat} {x lo hi : Int32} (h1 : ¬ lo ≤ x) : o_X9_in N x.toInt64 lo.toInt64 hi.toInt64 = some 0 := by rw [p_in32, if_neg (fun h => h1 h.1)]
theorem p_in_hi {N : Nat} {x lo hi : Int32} (h1 : ¬ x ≤ hi) : o_X9_in N x.toInt64 lo.toInt64 hi.toInt64 = some 0 := by rw [p_in32, if_neg (fun h => h1 h.2)]
/-- from 0 to h: the arg's cases -/
theorem p_in0 {N h : Nat} {x : Int32} {hi : Int64} (hh : h < 90000) (e : hi = (nI h).toInt64) : o_X9_in N x.toInt64 0 hi = some (if (∃ r, r < h + 1 ∧ x = nI r) then 1 else 0) := by
  subst e
  rw [show (0 : Int64) = (0 : Int32).toInt64 from rfl, p_in32]
  by_cases c : ∃ r, r < h + 1 ∧ x = nI r
  · rw [if_pos c]
    obtain ⟨r, hr, rfl⟩ := c
    rw [if_pos ⟨le0 (by omega), nI_le (by omega) (by omega)⟩]
  · rw [if_neg c, if_neg]
    intro ⟨h1, h2⟩
    rcases icase x (h + 1) (by omega) with h3 | h3 | ⟨h3, h4⟩
    · exact c h3
    · exact (neg_le (a := h) (by omega) h3).2.2.1 h1
    · exact nle_s (by omega) h3 h2
theorem in_yes {N h r : Nat} {hi : Int64} (hh : h < 90000) (e : hi = (nI h).toInt64) (hr : r < h + 1) : o_X9_in N (nI r).toInt64 0 hi = some 1 := by rw [p_in0 hh e, if_pos ⟨r, hr, rfl⟩]
theorem in_no {N h : Nat} {x : Int32} {hi : Int64} (hh : h < 90000) (e : hi = (nI h).toInt64) (h1 : x < 0 ∨ (nI (h + 1) ≤ x ∧ ¬ x < 0)) : o_X9_in N x.toInt64 0 hi = some 0 := by
  rw [p_in0 hh e, if_neg]
  rintro ⟨r, hr, rfl⟩
  rcases h1 with h1 | ⟨h1, -⟩
  · exact nlt0 (by omega) h1
  · rw [nI_leI (by omega) (by omega)] at h1; omega
theorem w7 : (7 : Int64) = (nI 7).toInt64 := rfl
theorem w2 : (2 : Int64) = (nI 2).toInt64 := rfl
theorem w1 : (1 : Int64) = (nI 1).toInt64 := rfl
theorem w5 : (5 : Int64) = (nI 5).toInt64 := rfl
theorem w9 : (9 : Int64) = (nI 9).toInt64 := rfl
theorem x_isRow {N r : Nat} (h : r < 8) : o_X8_isRow N (nI r) = some 1 := by rw [o_X8_isRow, if_neg (nlt0 (by omega)), l8_, ifle (by omega) (by omega), if_neg (by omega)]
theorem x_noRow {N : Nat} {x : Int32} (h : x < 0 ∨ (nI 8 ≤ x ∧ ¬ x < 0)) : o_X8_isRow N x = some 0 := by
  rw [o_X8_isRow]
  rcases h with h | ⟨h, h2⟩
  · rw [if_pos h]
  · rw [if_neg h2, l8_, if_pos h]
theorem m_isRow {N r : Nat} (h : r < 8) : o_X9_isRow N (nI r) = some 1 := by rw [o_X9_isRow, in_yes (by omega) w7 (by omega), Option.bind_some, ogd_t (by decide)]
theorem m_noRow {N : Nat} {x : Int32} (h : x < 0 ∨ (nI 8 ≤ x ∧ ¬ x < 0)) : o_X9_isRow N x = some 0 := by rw [o_X9_isRow, in_no (by omega) w7 h, Option.bind_some, ogd_t (by decide)]
/-- the rows of both sides: missing alike, or of one lane and length with like items -/
def RW (la sz it ln lg th im : Nat → Int32) (r : Nat) : Prop := (la r = -1 ∧ th r = 0) ∨ ∃ l s, la r = nI l ∧ ln r = nI l ∧ l < 3 ∧ sz r = nI s ∧ lg r = nI s ∧ s ≤ 40 ∧ th r = 1 ∧ ∀ i, i < s → it (40 * r + i) = im (40 * r + i)
def RR (la sz it ln lg th im : Nat → Int32) : Prop := ∀ r, r < 8 → RW la sz it ln lg th im r
theorem x_place {N r i : Nat} : o_X5_placeOf N (nI r) (nI i) = some (nI (40 * r + i)) := by
  rw [o_X5_placeOf, show (40 : Int32) = nI 40 from rfl, pk_mul, nI_add, Nat.mul_comm]
def zf (it : Nat → Int32) (b n : Nat) : Nat → Int32 := fun j => if b ≤ j ∧ j < b + n then 0 else it j
theorem zf_0 (it : Nat → Int32) (b : Nat) : zf it b 0 = it := by
  funext j
  unfold zf
  rw [if_neg (by omega)]
theorem zf_s (it : Nat → Int32) (b i : Nat) : upd (zf it b i) (b + i) 0 = zf it b (i + 1) := by
  funext j
  unfold zf upd
  by_cases h : j = b + i
  · rw [if_pos h, if_pos (by omega)]
  · rw [if_neg h]
    dsimp only
    by_cases h2 : b ≤ j ∧ j < b + i
    · rw [if_pos h2, if_pos (by omega)]
    · rw [if_neg h2, if_neg (by omega)]
theorem x_make {N r n : Nat} {la sz it : Nat → Int32} {l : Int32} (hN : 40 < N) (hr : r < 8) (hn : n ≤ 40) : o_X5_make N la sz it (nI r) l (nI n) = some (upd la r l, upd sz r (nI n), zf it (40 * r) n) := by
  have key : ∀ j i m, i + j = n → j < m → o_X5_make_17 N (upd la r l) (upd sz r (nI n)) (nI r) (nI n) m (zf it (40 * r) i) (nI i) = some (upd la r l, upd sz r (nI n), zf it (40 * r) n) := by
    intro j
    induction j with
    | zero =>
      intro i m h1 h2
      obtain ⟨m, rfl⟩ := mem_succ h2
      rw [o_X5_make_17]
      dsimp only
      rw [ifle (by omega) (by omega), if_pos (by omega), show i = n by omega]
    | succ j ih =>
      intro i m h1 h2
      obtain ⟨m, rfl⟩ := mem_succ h2
      rw [o_X5_make_17]
      dsimp only
      rw [ifle (by omega) (by omega), if_neg (by omega), x_place, Option.bind_some, ogd_t (inb_ok (by omega) (by omega)), cl_nI (by omega), zf_s, nI_1]
      exact ih (i + 1) m (by omega) (by omega)
  have := key n 0 N (by omega) (by omega)
  rw [zf_0] at this
  rw [o_X5_make, ogd_t (inb_ok hr (by omega)), ogd_t (inb_ok hr (by omega)), cl_nI (by omega), l0]
  exact this
theorem m_row_62 {N r n : Nat} {ln lg th im : Nat → Int32} (hN : 40 < N) (hr : r < 8) : o_X9_row_62 N ln lg th (nI r) (nI n) N im 0 = some (nI n, 0, ln, lg, th, zf im (40 * r) 40) := by
  have key : ∀ j i m, i + j = 40 → j < m → o_X9_row_62 N ln lg th (nI r) (nI n) m (zf im (40 * r) i) (nI i) = some (nI n, 0, ln, lg, th, zf im (40 * r) 40) := by
    intro j
    induction j with
    | zero =>
      intro i m h1 h2
      obtain ⟨m, rfl⟩ := mem_succ h2
      rw [o_X9_row_62]
      dsimp only
      rw [show (40 : Int32) = nI 40 from rfl, ifle (by omega) (by omega), if_pos (by omega), show i = 40 by omega]
      rfl
    | succ j ih =>
      intro i m h1 h2
      obtain ⟨m, rfl⟩ := mem_succ h2
      rw [o_X9_row_62]
      dsimp only
      rw [show (40 : Int32) = nI 40 from rfl, ifle (by omega) (by omega), if_neg (by omega), pk_mul, nI_add, ogd_t (inb_ok (by omega) (by omega)), cl_nI (by omega), zf_s, nI_1]
      exact ih (i + 1) m (by omega) (by omega)
  have := key 40 0 N (by omega) (by omega)
  rw [zf_0] at this
  exact this
theorem upd_eq (f : Nat → Int32) (i : Nat) (x : Int32) : upd f i x i = x := by unfold upd; rw [if_pos rfl]
/-- a change within row r leaves the others -/
theorem RW_other {la sz it ln lg th im la' sz' it' ln' lg' th' im' : Nat → Int32} {q : Nat} (h : RW la sz it ln lg th im q) (h1 : la' q = la q) (h2 : sz' q = sz q) (h3 : ln' q = ln q) (h4 : lg' q = lg q) (h5 : th' q = th q) (h6 : ∀ i, i < 40 → it' (40 * q + i) = it (40 * q + i) ∧ im' (40 * q + i) = im (40 * q + i)) : RW la' sz' it' ln' lg' th' im' q := by
  rcases h with ⟨a, b⟩ | ⟨l, s, e1, e2, e3, e4, e5, e6, e7, e8⟩
  · exact Or.inl ⟨by rw [h1]; exact a, by rw [h5]; exact b⟩
  · exact Or.inr ⟨l, s, by rw [h1]; exact e1, by rw [h3]; exact e2, e3, by rw [h2]; exact e4, by rw [h4]; exact e5, e6, by rw [h5]; exact e7, fun i hi => by rw [(h6 i (by omega)).1, (h6 i (by omega)).2]; exact e8 i hi⟩
theorem s_row {N : Nat} {st la sz it ln lg th im : Nat → Int32} {fs : Int32} {a b c : Int32} (hN : 40 < N) (h : RR la sz it ln lg th im) :
    ∃ r fs' la' sz' it' ln' lg' th' im', o_X8_row N fs la sz it a b c = some (r, fs', la', sz', it') ∧ o_X9_row N fs ln lg th im a b c = some (r, fs', ln', lg', th', im') ∧ RR la' sz' it' ln' lg' th' im' := by
  rcases icase a 8 (by omega) with ⟨r, hr, rfl⟩ | ha
  · rcases icase b 3 (by omega) with ⟨l, hl, rfl⟩ | hb
    · rcases icase c 41 (by omega) with ⟨n, hn, rfl⟩ | hc | ⟨hc, hc0⟩
      · refine ⟨nI n, 0, upd la r (nI l), upd sz r (nI n), zf it (40 * r) n, upd ln r (nI l), upd lg r (nI n), upd th r 1, zf im (40 * r) 40, ?_, ?_, fun q hq => ?_⟩
        · rw [o_X8_row, x_isRow hr, Option.bind_some, if_neg (by decide), if_neg (nlt0 (by omega)), l2_, iflt (by omega) (by omega), if_neg (by omega), show (40 : Int32) = nI 40 from rfl, ifle (by omega) (by omega), if_pos (by omega), if_pos (le0 (by omega)), x_make hN hr (by omega)]
          rfl
        · rw [o_X9_row, m_isRow hr, Option.bind_some, if_neg (by decide), in_yes (by omega) w2 (by omega), Option.bind_some, if_neg (by decide), show (40 : Int32) = nI 40 from rfl, ifle (by omega) (by omega), if_pos (by omega), if_pos (le0 (by omega)), ogd_t (inb_ok hr (by omega)), ogd_t (inb_ok hr (by omega)), ogd_t (inb_ok hr (by omega)), cl_nI (by omega), m_row_62 hN hr]
          rfl
        · by_cases e : q = r
          · subst e
            refine Or.inr ⟨l, n, upd_eq _ _ _, upd_eq _ _ _, hl, upd_eq _ _ _, upd_eq _ _ _, by omega, upd_eq _ _ _, fun i hi => ?_⟩
            unfold zf
            rw [if_pos (by omega), if_pos (by omega)]
          · exact RW_other (h q hq) (upd_ne e) (upd_ne e) (upd_ne e) (upd_ne e) (upd_ne e) (fun i hi => ⟨by unfold zf; rw [if_neg (by omega)], by unfold zf; rw [if_neg (by omega)]⟩)
      · obtain ⟨c1, c2, c3, c4, c5⟩ := neg_le (a := 40) (by omega) hc
        refine ⟨-1000014, 4, la, sz, it, ln, lg, th, im, ?_, ?_, h⟩
        · rw [o_X8_row, x_isRow hr, Option.bind_some, if_neg (by decide), if_neg (nlt0 (by omega)), l2_, iflt (by omega) (by omega), if_neg (by omega), show (40 : Int32) = nI 40 from rfl, if_pos c1, if_neg c3]
          rfl
        · rw [o_X9_row, m_isRow hr, Option.bind_some, if_neg (by decide), in_yes (by omega) w2 (by omega), Option.bind_some, if_neg (by decide), show (40 : Int32) = nI 40 from rfl, if_pos c1, if_neg c3]
          rfl
      · refine ⟨-1000001, fs, la, sz, it, ln, lg, th, im, ?_, ?_, h⟩
        · rw [o_X8_row, x_isRow hr, Option.bind_some, if_neg (by decide), if_neg (nlt0 (by omega)), l2_, iflt (by omega) (by omega), if_neg (by omega), show (40 : Int32) = nI 40 from rfl, if_neg (nle_s (by omega) hc)]
        · rw [o_X9_row, m_isRow hr, Option.bind_some, if_neg (by decide), in_yes (by omega) w2 (by omega), Option.bind_some, if_neg (by decide), show (40 : Int32) = nI 40 from rfl, if_neg (nle_s (by omega) hc)]
    · refine ⟨-1000001, fs, la, sz, it, ln, lg, th, im, ?_, ?_, h⟩
      · rw [o_X8_row, x_isRow hr, Option.bind_some, if_neg (by decide)]
        rcases hb with hb | ⟨hb, hb0⟩
        · rw [if_pos hb]
        · rw [if_neg hb0, l2_, if_pos (gt_s (by omega) hb)]
      · rw [o_X9_row, m_isRow hr, Option.bind_some, if_neg (by decide), in_no (by omega) w2 hb, Option.bind_some, if_pos rfl]
  · refine ⟨-1000001, fs, la, sz, it, ln, lg, th, im, ?_, ?_, h⟩
    · rw [o_X8_row, x_noRow ha, Option.bind_some, if_pos rfl]
    · rw [o_X9_row, m_noRow ha, Option.bind_some, if_pos rfl]
