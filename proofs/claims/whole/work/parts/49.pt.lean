/-! PURE PART T: a bout told -/
theorem mD_b {n a b p : Nat} {k d f : Nat → Nat} (hb : HB n k d f) (ha : a < 8) (hb8 : b < 8) (hp : p < 8) : mD k d a b p < 3 ∧ mF n k d f a b p < 8 := by
  obtain ⟨q1, q2, q3⟩ := bc_lt (k := k) (hb.2 a ha).2.1 (hb.2 b hb8).2.1
  have w8 : win n k d f a b < 8 := by rcases win_or n k d f a b with e | e <;> rw [e] <;> omega
  refine ⟨?_, ?_⟩
  · unfold mD up2
    split
    · exact q2
    · split
      · exact q1
      · exact (hb.2 p hp).2.1
  · unfold mF jn
    split
    · exact w8
    · exact (hb.2 p hp).2.2
theorem s_bout {N : Nat} {xk xn mk xp R T c1 c2 c3 t1 t2 t3 t4 x y : Int32} {A B K D L w : Nat → Int32} (hN : 630 < N) (h : AR xk xn A mk B) (hh : HREL xp R T K D L w) :
    ∃ r T' D' L' c1' c2' c3' xk' xn' A' t1' t2' t3' t4' w' B', o_X8_bout N xp R T K D L c1 c2 c3 xk xn A x y = some (r, T', D', L', c1', c2', c3', xk', xn', A') ∧ o_X9_bout N mk t1 t2 t3 t4 w B x y = some (r, xk', t1', t2', t3', t4', w', B') ∧ AR xk' xn' A' xk' B' ∧ HREL xp R T' K D' L' w' := by
  have hmk : xk = mk := by obtain ⟨c, q, -, -, e1, e2, -⟩ := h; rw [e1, e2]
  have h0 := hh
  obtain ⟨n, k, k', s, s', ⟨rfl, rfl, rfl, hK, hD, hL⟩, hM, hb, hb', hk, hs, h1⟩ := hh
  have hn := hb.1.1
  have no : ∀ r : Int32, o_X8_bout N (nI n) s.2.2.1 s.2.2.2 K D L c1 c2 c3 xk xn A x y = some (r, s.2.2.2, D, L, c1, c2, c3, xk, xn, A) → o_X9_bout N mk t1 t2 t3 t4 w B x y = some (r, mk, t1, t2, t3, t4, w, B) → ∃ r T' D' L' c1' c2' c3' xk' xn' A' t1' t2' t3' t4' w' B', o_X8_bout N (nI n) s.2.2.1 s.2.2.2 K D L c1 c2 c3 xk xn A x y = some (r, T', D', L', c1', c2', c3', xk', xn', A') ∧ o_X9_bout N mk t1 t2 t3 t4 w B x y = some (r, xk', t1', t2', t3', t4', w', B') ∧ AR xk' xn' A' xk' B' ∧ HREL (nI n) s.2.2.1 T' K D' L' w' := by
    intro r g1 g2
    exact ⟨r, _, D, L, c1, c2, c3, xk, xn, A, t1, t2, t3, t4, w, B, g1, by rw [g2, hmk], by rw [← hmk] at h; exact h, h0⟩
  rcases pair_v (N := N) x y hn with ⟨p1, p2⟩ | ⟨a, b, ha, hb8, hab, rfl, rfl, p1⟩
  · refine no (-1000001) ?_ ?_
    · rw [o_X8_bout, p1, Option.bind_some, if_pos rfl]
    · rw [o_X9_bout, p2 hM.1, Option.bind_some, if_neg (by decide)]
  · have na : ∃ r, r < n ∧ nI a = nI r := ⟨a, ha, rfl⟩
    have nb : ∃ r, r < n ∧ nI b = nI r := ⟨b, hb8, rfl⟩
    have ne : ¬ nI a = nI b := fun q => hab ((nI_eq (by omega) (by omega)).mp q)
    have xb : ∀ {α : Type} (K' : Int32 → Option α), (o_X8_isPair N (nI n) (nI a) (nI b)).bind K' = K' 1 := fun K' => by rw [p1, Option.bind_some]
    have m2 : o_X9_notTwo N w (nI a) (nI b) = some (if s'.2.1 a = a ∧ s'.2.1 b = b then 0 else -1000002) := by
      rw [o_X9_notTwo, m_isPl hM.1 hn, if_pos na, Option.bind_some, if_neg (by decide), m_isPl hM.1 hn, if_pos nb, Option.bind_some, if_neg (by decide), if_neg ne, p_X9_leads_if hM.1 hb'.1 (by omega) _ (fun r => rfl), p_X9_leads_if hM.1 hb'.1 (by omega) _ (fun r => rfl)]
      by_cases e1 : s'.2.1 a = a
      · rw [if_pos e1]
        by_cases e2 : s'.2.1 b = b
        · rw [if_pos e2, if_pos ⟨e1, e2⟩]
        · rw [if_neg e2, if_neg (fun q => e2 q.2)]
      · rw [if_neg e1, if_neg (fun q => e1 q.1)]
    by_cases fa : s.2.1 a = a
    · by_cases fb : s.2.1 b = b
      · have fa' : s'.2.1 a = a := by rw [← hs.2.1 a ha]; exact fa
        have fb' : s'.2.1 b = b := by rw [← hs.2.1 b hb8]; exact fb
        obtain ⟨xk', xn', A', B', g1, g2, g3⟩ := s_keep (N := N) hN h h0
        obtain ⟨D1, L1, f1, f2, f3⟩ := p_X3_meet (N := N) (by omega) hn hK hD hL (show a < 8 by omega) (show b < 8 by omega) fa fb
        have pl := p_X9_play (N := N) (by omega) hM.1 hb'.1 (show a < 8 by omega) (show b < 8 by omega)
        obtain ⟨q1, q2, q3⟩ := bc_lt (k := k') (hb'.1.2 a (by omega)).2.1 (hb'.1.2 b (by omega)).2.1
        have w8 : win n k' s'.1 s'.2.1 a b < 8 := by rcases win_or n k' s'.1 s'.2.1 a b with e | e <;> rw [e] <;> omega
        obtain ⟨w1, j1, j2, j3, j4⟩ := p_X9_join (N := N) (by omega) hM.1 hb'.1 (show a < 8 by omega) (show b < 8 by omega) w8 q1 q2
        have eb := ag_bc hk hs.1 ha hb8
        have ew := ag_win hk hs.1 hs.2.1 ha hb8
        have gg1 : o_X9_bout N mk t1 t2 t3 t4 w B (nI a) (nI b) = some (nI (win n k s.1 s.2.1 a b), xk', nI (win n k' s'.1 s'.2.1 a b), nI (bc k' s'.1 a b).2.2, nI (bc k' s'.1 a b).1, nI (bc k' s'.1 a b).2.1, upd w1 26 (w1 26 + nI (bc k' s'.1 a b).2.2), B') := by
          rw [o_X9_bout, m2, if_pos ⟨fa', fb'⟩, Option.bind_some, if_pos rfl, g2, Option.bind_some, pl, Option.bind_some, j1, Option.bind_some, ogd_t (by decide), ogd_t (by decide), show Int32.toNatClampNeg 26 = 26 from rfl, ew]
        have gg2 : o_X8_bout N (nI n) s.2.2.1 s.2.2.2 K D L c1 c2 c3 xk xn A (nI a) (nI b) = some (nI (win n k s.1 s.2.1 a b), s.2.2.2 + nI (bc k s.1 a b).2.2, D1, L1, nI (bc k s.1 a b).1, nI (bc k s.1 a b).2.1, nI (bc k s.1 a b).2.2, xk', xn', A') := by
          rw [o_X8_bout, xb, if_neg (by decide), p_X3_leads_if hL (by omega) _ (fun r => rfl), if_pos fa, p_X3_leads_if hL (by omega) _ (fun r => rfl), if_pos fb, g1, Option.bind_some, f1, Option.bind_some]
        refine ⟨nI (win n k s.1 s.2.1 a b), s.2.2.2 + nI (bc k s.1 a b).2.2, D1, L1, _, _, _, xk', xn', A', _, _, _, _, upd w1 26 (w1 26 + nI (bc k' s'.1 a b).2.2), B', gg2, gg1, g3, ?_⟩
        refine ⟨n, k, k', (mD k s.1 a b, mF n k s.1 s.2.1 a b, s.2.2.1, s.2.2.2 + nI (bc k s.1 a b).2.2), (mD k' s'.1 a b, mF n k' s'.1 s'.2.1 a b, s'.2.2.1, s'.2.2.2 + nI (bc k' s'.1 a b).2.2), ⟨rfl, rfl, rfl, hK, f2, f3⟩, ⟨⟨?_, fun p hp => ?_⟩, ?_, ?_⟩, ?_, ?_, hk, ⟨ag_mD hk hs.1 ha hb8, ag_mF hk hs.1 hs.2.1 ha hb8, ?_⟩, h1⟩
        · rw [upd_ne (by omega)]; exact j2.1
        · rw [upd_ne (by omega), upd_ne (by omega), upd_ne (by omega)]; exact j2.2 p hp
        · rw [upd_ne (by omega), j3]; exact hM.2.1
        · unfold upd; rw [if_pos rfl, j4, hM.2.2]
        · exact ⟨⟨hn, fun p hp => ⟨(hb.1.2 p hp).1, (f2 p hp).2, (f3 p hp).2⟩⟩, mF_HI hb.2 ha hb8 fa fb hab⟩
        · exact ⟨⟨hb'.1.1, fun p hp => ⟨(hb'.1.2 p hp).1, (mD_b hb'.1 (show a < 8 by omega) (show b < 8 by omega) hp).1, (mD_b hb'.1 (show a < 8 by omega) (show b < 8 by omega) hp).2⟩⟩, mF_HI hb'.2 ha hb8 fa' fb' hab⟩
        · rw [eb, show s.2.2.1 = s'.2.2.1 from congrArg (·.1) hs.2.2, show s.2.2.2 = s'.2.2.2 from congrArg (·.2) hs.2.2]
      · refine no (-1000002) ?_ ?_
        · rw [o_X8_bout, xb, if_neg (by decide), p_X3_leads_if hL (by omega) _ (fun r => rfl), if_pos fa, p_X3_leads_if hL (by omega) _ (fun r => rfl), if_neg fb]
        · rw [o_X9_bout, m2, if_neg (fun q => fb (by rw [hs.2.1 b hb8]; exact q.2)), Option.bind_some, if_neg (by decide)]
    · refine no (-1000002) ?_ ?_
      · rw [o_X8_bout, xb, if_neg (by decide), p_X3_leads_if hL (by omega) _ (fun r => rfl), if_neg fa]
      · rw [o_X9_bout, m2, if_neg (fun q => fa (by rw [hs.2.1 a ha]; exact q.1)), Option.bind_some, if_neg (by decide)]
