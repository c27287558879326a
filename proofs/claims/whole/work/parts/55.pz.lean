/-! PURE PART Z: images -/
def IR (A F B G : Nat → Int32) : Prop := ∀ i, i < 2 → (F i = 0 ∧ G i = 0) ∨ (F i = 1 ∧ G i = 1 ∧ SV A (27 * i) B (27 * i))
theorem x_isIm {N : Nat} {x : Int32} : o_X8_isImage N x = some (if (∃ r, r < 1 + 1 ∧ x = nI r) then 1 else 0) := by
  rw [o_X8_isImage, l2_, x_rng (by omega)]
theorem nar1 : vp_nar .boolean 1 = 1 := rfl
theorem m_image_25 {N a : Nat} {w G : Nat → Int32} (ha : a < 2) : ∀ j i m (B : Nat → Int32), i + j = 27 → j < m → (∀ q, q < i → B (27 * a + q) = w q) →
    ∃ B', o_X9_image_25 N w G (nI a) m B (nI i) = some (1, B', upd G a 1) ∧ (∀ q, q < 27 → B' (27 * a + q) = w q) ∧ ∀ q, (q < 27 * a ∨ 27 * a + 27 ≤ q) → B' q = B q := by
  intro j
  induction j with
  | zero =>
    intro i m B h1 h2 h3
    obtain ⟨m, rfl⟩ := mem_succ h2
    refine ⟨B, ?_, fun q hq => h3 q (by omega), fun q _ => rfl⟩
    rw [o_X9_image_25]
    dsimp only
    rw [l27_, ifle (by omega) (by omega), if_pos (by omega), ogd_t (inb_ok ha (by omega)), cl_nI (by omega), nar1]
  | succ j ih =>
    intro i m B h1 h2 h3
    obtain ⟨m, rfl⟩ := mem_succ h2
    obtain ⟨B', g1, g2, g3⟩ := ih (i + 1) m (upd B (27 * a + i) (w i)) (by omega) (by omega) (fun q hq => by
      by_cases e : q = i
      · subst e; exact upd_eq _ _ _
      · rw [upd_ne (by omega)]; exact h3 q (by omega))
    refine ⟨B', ?_, g2, fun q hq => by rw [g3 q hq, upd_ne (by omega)]⟩
    rw [o_X9_image_25]
    dsimp only
    rw [l27_, ifle (by omega) (by omega), if_neg (by omega), pk_mul, nI_add, ogd_t (inb_ok (by omega) (by omega)), ogd_t (inb_ok (by omega) (by omega)), cl_nI (by omega), cl_nI (by omega), nI_1]
    exact g1
theorem m_restore_27 {N a : Nat} {B : Nat → Int32} (ha : a < 2) : ∀ j i m (w : Nat → Int32), i + j = 27 → j < m → (∀ q, q < i → w q = B (27 * a + q)) →
    ∃ w', o_X9_restore_27 N B (nI a) m w (nI i) = some (1, 0, w') ∧ ∀ q, q < 27 → w' q = B (27 * a + q) := by
  intro j
  induction j with
  | zero =>
    intro i m w h1 h2 h3
    obtain ⟨m, rfl⟩ := mem_succ h2
    refine ⟨w, ?_, fun q hq => h3 q (by omega)⟩
    rw [o_X9_restore_27]
    dsimp only
    rw [l27_, ifle (by omega) (by omega), if_pos (by omega)]
  | succ j ih =>
    intro i m w h1 h2 h3
    obtain ⟨m, rfl⟩ := mem_succ h2
    obtain ⟨w', g1, g2⟩ := ih (i + 1) m (upd w i (B (27 * a + i))) (by omega) (by omega) (fun q hq => by
      by_cases e : q = i
      · subst e; exact upd_eq _ _ _
      · rw [upd_ne (by omega)]; exact h3 q (by omega))
    refine ⟨w', ?_, g2⟩
    rw [o_X9_restore_27]
    dsimp only
    rw [l27_, ifle (by omega) (by omega), if_neg (by omega), pk_mul, nI_add, ogd_t (inb_ok (by omega) (by omega)), ogd_t (inb_ok (by omega) (by omega)), cl_nI (by omega), cl_nI (by omega), nI_1]
    exact g1
theorem s_image {N : Nat} {xp R T x : Int32} {A F B G K D L w : Nat → Int32} (hN : 630 < N) (hi : IR A F B G) (hh : HREL xp R T K D L w) :
    ∃ r A' F' B' G', o_X8_image N xp R T K D L A F x = some (r, A', F') ∧ o_X9_image N w B G x = some (r, B', G') ∧ IR A' F' B' G' := by
  have h0 := hh
  obtain ⟨n, k, k', s, s', ⟨rfl, rfl, rfl, hK, hD, hL⟩, hM, hb, hb', hk, hs, h1⟩ := hh
  have hn := hb.1.1
  by_cases c : ∃ r, r < 1 + 1 ∧ x = nI r
  · have xi : o_X8_isImage N x = some 1 := by rw [x_isIm, if_pos c]
    have mi : o_X9_in N x.toInt64 0 1 = some 1 := by rw [p_in0 (h := 1) (hi := 1) (by omega) rfl, if_pos c]
    by_cases n0 : n = 0
    · refine ⟨-1000002, A, F, B, G, ?_, ?_, hi⟩
      · rw [o_X8_image, xi, Option.bind_some, if_neg (by decide), x_miss hn, if_pos n0, Option.bind_some, if_neg (by decide)]
      · rw [o_X9_image, mi, Option.bind_some, if_neg (by decide), p_X9_players hM.1, Option.bind_some, l0, ifeq (by omega) (by omega), if_pos n0]
    · obtain ⟨a, ha, rfl⟩ := c
      obtain ⟨A', f1, f2, f3, f4, f5, f6⟩ := p_save (N := N) (M := 54) (b := 27 * a) (xp := nI n) (R := s.2.2.1) (T := s.2.2.2) (K := K) (D := D) (L := L) (A := A) (by omega) (by omega) (by omega)
      obtain ⟨B', g1, g2, g3⟩ := m_image_25 (N := N) (w := w) (G := G) (show a < 2 by omega) 27 0 N B (by omega) (by omega) (fun q hq => by omega)
      refine ⟨1, A', upd F a 1, B', upd G a 1, ?_, ?_, fun i h => ?_⟩
      · rw [o_X8_image, xi, Option.bind_some, if_neg (by decide), x_miss hn, if_neg n0, Option.bind_some, if_pos rfl, l27_, pk_mul, Nat.mul_comm, f1, Option.bind_some, ogd_t (inb_ok (by omega) (by omega)), cl_nI (by omega), nar1]
      · rw [o_X9_image, mi, Option.bind_some, if_neg (by decide), p_X9_players hM.1, Option.bind_some, if_neg (show ¬ nI n = 0 from fun q => n0 ((nI_eq (a := n) (b := 0) (by omega) (by omega)).mp q)), l0]
        exact g1
      · by_cases e : i = a
        · subst e
          refine Or.inr ⟨upd_eq _ _ _, upd_eq _ _ _, ?_⟩
          unfold SV
          rw [f2, f3, f4]
          exact HREL_congr h0 (fun j hj => ⟨(f5 j hj).1, (f5 j hj).2.1, (f5 j hj).2.2⟩) (fun j hj => g2 j hj)
        · rw [upd_ne e, upd_ne e]
          rcases hi i h with q | ⟨q1, q2, q3⟩
          · exact Or.inl q
          · exact Or.inr ⟨q1, q2, SV_congr q3 (fun j hj => f6 _ (by omega)) (fun j hj => g3 _ (by omega))⟩
  · refine ⟨-1000001, A, F, B, G, ?_, ?_, hi⟩
    · rw [o_X8_image, x_isIm, if_neg c, Option.bind_some, if_pos rfl]
    · rw [o_X9_image, p_in0 (h := 1) (hi := 1) (by omega) rfl, if_neg c, Option.bind_some, if_pos rfl]
theorem s_restore {N : Nat} {xk xn mk xp R T x : Int32} {Q QB A F B G K D L w : Nat → Int32} (hN : 630 < N) (h : AR xk xn Q mk QB) (hi : IR A F B G) (hh : HREL xp R T K D L w) :
    ∃ r xp' R' T' K' D' L' xk' w', o_X8_restore N xp R T K D L xk A F x = some (r, xp', R', T', K', D', L', xk') ∧ o_X9_restore N mk w B G x = some (r, xk', w') ∧ AR xk' xn Q xk' QB ∧ HREL xp' R' T' K' D' L' w' := by
  have hmk : xk = mk := by obtain ⟨c, q, -, -, e1, e2, -⟩ := h; rw [e1, e2]
  by_cases c : ∃ r, r < 1 + 1 ∧ x = nI r
  · have xi : o_X8_isImage N x = some 1 := by rw [x_isIm, if_pos c]
    have mi : o_X9_in N x.toInt64 0 1 = some 1 := by rw [p_in0 (h := 1) (hi := 1) (by omega) rfl, if_pos c]
    obtain ⟨a, ha, rfl⟩ := c
    have gi : inb (nI a) 2 = true := inb_ok (by omega) (by omega)
    rcases hi a (by omega) with ⟨q1, q2⟩ | ⟨q1, q2, q3⟩
    · refine ⟨-1000002, xp, R, T, K, D, L, xk, w, ?_, ?_, by rw [← hmk] at h; exact h, hh⟩
      · rw [o_X8_restore, xi, Option.bind_some, if_neg (by decide), ogd_t gi, cl_nI (by omega), q1, if_pos rfl]
      · rw [o_X9_restore, mi, Option.bind_some, if_neg (by decide), ogd_t gi, cl_nI (by omega), q2, if_pos rfl, hmk]
    · obtain ⟨K', D', L', f1, f2⟩ := p_load (N := N) (M := 54) (b := 27 * a) (K := K) (D := D) (L := L) (A := A) (by omega) (by omega) (by omega)
      obtain ⟨w', g1, g2⟩ := m_restore_27 (N := N) (B := B) (show a < 2 by omega) 27 0 N w (by omega) (by omega) (fun q hq => by omega)
      refine ⟨1, A (27 * a), A (27 * a + 1), A (27 * a + 2), K', D', L', 0, w', ?_, ?_, ?_, ?_⟩
      · rw [o_X8_restore, xi, Option.bind_some, if_neg (by decide), ogd_t gi, cl_nI (by omega), q1, if_neg (by decide), l27_, pk_mul, Nat.mul_comm, f1, Option.bind_some]
        rfl
      · rw [o_X9_restore, mi, Option.bind_some, if_neg (by decide), ogd_t gi, cl_nI (by omega), q2, if_neg (by decide), l0]
        exact g1
      · obtain ⟨c, q, e1, e2, e3, e4, e5, e6⟩ := h
        exact ⟨0, q, by omega, e2, rfl, rfl, e5, fun i hi => by omega⟩
      · exact HREL_congr q3 (fun j hj => ⟨(f2 j hj).1, (f2 j hj).2.1, (f2 j hj).2.2⟩) (fun j hj => g2 j hj)
  · refine ⟨-1000001, xp, R, T, K, D, L, xk, w, ?_, ?_, by rw [← hmk] at h; exact h, hh⟩
    · rw [o_X8_restore, x_isIm, if_neg c, Option.bind_some, if_pos rfl]
    · rw [o_X9_restore, p_in0 (h := 1) (hi := 1) (by omega) rfl, if_neg c, Option.bind_some, if_pos rfl, hmk]
