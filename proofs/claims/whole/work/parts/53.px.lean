/-! PURE PART X: begin, seek, begun -/
theorem nIle {a b : Nat} (ha : a < 100000) (hb : b < 100000) : nI a ≤ nI b ↔ a ≤ b := by
  refine ⟨fun h => ?_, fun h => nI_le h (by omega)⟩
  rcases Nat.lt_or_ge b a with g | g
  · exact absurd h (nI_ge g (by omega))
  · exact g
theorem nle_m1 {a : Nat} (ha : a < 90000) : ¬ nI a ≤ -1 := by
  intro h
  rw [qle, qnI (by omega)] at h
  have : (-1 : Int32).toInt = -1 := by decide
  omega
def LR (x y : Int32) : Prop := (∃ r, r ≤ 7 ∧ x = nI r ∧ y = nI (r + 1)) ∨ (x = nI 8 ∧ y = nI 100)
def BR (x y : Int32) : Prop := (x = -1 ∧ y = -1) ∨ LR x y
theorem LR_le {x y a b : Int32} (h : LR x y) (g : BR a b) : x ≤ a ↔ y ≤ b := by
  rcases g with ⟨rfl, rfl⟩ | ⟨r', hr', rfl, rfl⟩ | ⟨rfl, rfl⟩
  · rcases h with ⟨r, hr, rfl, rfl⟩ | ⟨rfl, rfl⟩
    · exact ⟨fun q => absurd q (nle_m1 (by omega)), fun q => absurd q (nle_m1 (by omega))⟩
    · exact ⟨fun q => absurd q (nle_m1 (by omega)), fun q => absurd q (nle_m1 (by omega))⟩
  · rcases h with ⟨r, hr, rfl, rfl⟩ | ⟨rfl, rfl⟩
    · rw [nIle (by omega) (by omega), nIle (by omega) (by omega)]; omega
    · rw [nIle (by omega) (by omega), nIle (by omega) (by omega)]; omega
  · rcases h with ⟨r, hr, rfl, rfl⟩ | ⟨rfl, rfl⟩
    · rw [nIle (by omega) (by omega), nIle (by omega) (by omega)]; omega
    · rw [nIle (by omega) (by omega), nIle (by omega) (by omega)]; omega
theorem p_led {N n p : Nat} {K : Nat → Int32} {k k' : Nat → Nat} (hN : 9 < N) (hp : p < n) (hK : IA K k 8 6) (hk : AG n k k') : ∀ j i m m' (s s' : RS) (D L : Nat → Int32) (c1 c2 c3 : Int32) (t1 t2 t3 t4 : Int32) (w I E : Nat → Int32), lds n s.2.1 ≤ j + 1 → i + j ≤ 7 → j < m → j + 1 < m' → IA D s.1 8 3 → IA L s.2.1 8 8 → RB n k s → MR w n k' s' → RB n k' s' → SG n s s' → s.2.1 p = p →
    ∃ x y X Y, o_X3_roundsLed_2 N (nI n) K (nI p) m s.2.2.1 s.2.2.2 D L c1 c2 c3 (nI i) = some (x, X) ∧ o_X9_leadsLong_2 N (nI p) m' t1 t2 t3 t4 w I E (nI i) = some (y, Y) ∧ LR x y ∧ IB X.2.2.1 3 ∧ IB X.2.2.2.1 8 := by
  intro j
  have fin : ∀ i m m' (s s' : RS) (D L : Nat → Int32) (c1 c2 c3 : Int32) (t1 t2 t3 t4 : Int32) (w I E : Nat → Int32), lds n s.2.1 ≤ 1 → i ≤ 7 → 0 < m → 0 < m' → IA D s.1 8 3 → IA L s.2.1 8 8 → RB n k s → MR w n k' s' → RB n k' s' → SG n s s' → s.2.1 p = p → ∃ x y X Y, o_X3_roundsLed_2 N (nI n) K (nI p) m s.2.2.1 s.2.2.2 D L c1 c2 c3 (nI i) = some (x, X) ∧ o_X9_leadsLong_2 N (nI p) m' t1 t2 t3 t4 w I E (nI i) = some (y, Y) ∧ LR x y ∧ IB X.2.2.1 3 ∧ IB X.2.2.2.1 8 := by
    intro i m m' s s' D L c1 c2 c3 t1 t2 t3 t4 w I E h1 h2 h3 h4 hD hL hb hM hb' hs e
    obtain ⟨m, rfl⟩ := mem_succ h3
    obtain ⟨m', rfl⟩ := mem_succ h4
    have hn := hb.1.1
    have t := lds_le n s.2.1
    have e' : s'.2.1 p = p := by rw [← hs.2.1 p hp]; exact e
    refine ⟨8, 100, (s.2.2.1, s.2.2.2, D, L, c1, c2, c3), (t1, t2, t3, t4, w, I, E), ?_, ?_, Or.inr ⟨rfl, rfl⟩, ⟨_, hD⟩, ⟨_, hL⟩⟩
    · rw [o_X3_roundsLed_2]
      dsimp only
      rw [l8_, ifle (by omega) (by omega), if_neg (by omega), p_X3_leaders (by omega) hn hL, Option.bind_some, l1_, ifle (by omega) (by omega), if_pos h1]
    · rw [o_X9_leadsLong_2]
      dsimp only
      rw [p_X9_leads_if hM.1 hb'.1 (by omega) _ (fun r => rfl), if_pos e', p_X9_leaders (by omega) hM.1 hb'.1, Option.bind_some, l1_, ifle (by rw [← ag_lds hs.2.1]; omega) (by omega), if_pos (by rw [← ag_lds hs.2.1]; exact h1), o_X9_leadsLong_28, p_X9_leads_if hM.1 hb'.1 (by omega) _ (fun r => rfl), if_pos e']
  induction j with
  | zero =>
    intro i m m' s s' D L c1 c2 c3 t1 t2 t3 t4 w I E h1 h2 h3 h4 hD hL hb hM hb' hs e
    exact fin i m m' s s' D L c1 c2 c3 t1 t2 t3 t4 w I E (by omega) (by omega) h3 (by omega) hD hL hb hM hb' hs e
  | succ j ih =>
    intro i m m' s s' D L c1 c2 c3 t1 t2 t3 t4 w I E h1 h2 h3 h4 hD hL hb hM hb' hs e
    by_cases g : lds n s.2.1 ≤ 1
    · exact fin i m m' s s' D L c1 c2 c3 t1 t2 t3 t4 w I E g (by omega) (by omega) (by omega) hD hL hb hM hb' hs e
    · obtain ⟨m, rfl⟩ := mem_succ h3
      obtain ⟨m', rfl⟩ := mem_succ h4
      have hn := hb.1.1
      have t := lds_le n s.2.1
      have e' : s'.2.1 p = p := by rw [← hs.2.1 p hp]; exact e
      obtain ⟨D1, L1, d1, d2, d3, f1, f2, f3⟩ := p_X3_playRound (N := N) (R := s.2.2.1) (T := s.2.2.2) (c1 := c1) (c2 := c2) (c3 := c3) hN hn hK hD hL
      obtain ⟨a1, a2, a3, a4, w1, A1, E1, m1, m2⟩ := p_round (N := N) (A := I) (E := E) (t1 := t1) (t2 := t2) (t3 := t3) (t4 := t4) hN hM hb'
      obtain ⟨r1, -, r2⟩ := rstep_ok hb
      have r1' := (rstep_ok hb').1
      have sg := sg_rstep hk hs
      have key : o_X3_roundsLed_2 N (nI n) K (nI p) (m + 1) s.2.2.1 s.2.2.2 D L c1 c2 c3 (nI i) = if (rstep n k s).2.1 p = p then o_X3_roundsLed_2 N (nI n) K (nI p) m (rstep n k s).2.2.1 (rstep n k s).2.2.2 D1 L1 d1 d2 d3 (nI (i + 1)) else some (nI i, (rstep n k s).2.2.1, (rstep n k s).2.2.2, D1, L1, d1, d2, d3) := by
        rw [o_X3_roundsLed_2]
        dsimp only
        rw [l8_, ifle (by omega) (by omega), if_neg (by omega), p_X3_leaders (by omega) hn hL, Option.bind_some, l1_, ifle (by omega) (by omega), if_neg g, f1, Option.bind_some, p_X3_leads_if f3 (by omega) _ (fun r => rfl), nI_add]
        rfl
      have key' : o_X9_leadsLong_2 N (nI p) (m' + 1) t1 t2 t3 t4 w I E (nI i) = o_X9_leadsLong_2 N (nI p) m' a1 a2 a3 a4 w1 A1 E1 (nI (i + 1)) := by
        rw [o_X9_leadsLong_2]
        dsimp only
        rw [p_X9_leads_if hM.1 hb'.1 (by omega) _ (fun r => rfl), if_pos e', p_X9_leaders (by omega) hM.1 hb'.1, Option.bind_some, l1_, ifle (by rw [← ag_lds hs.2.1]; omega) (by omega), if_neg (by rw [← ag_lds hs.2.1]; exact g), m1, Option.bind_some, nI_add]
      rw [key, key']
      by_cases q : (rstep n k s).2.1 p = p
      · rw [if_pos q]
        exact ih (i + 1) m m' (rstep n k s) (rstep n k' s') D1 L1 d1 d2 d3 a1 a2 a3 a4 w1 A1 E1 (by have := r2 (by omega); omega) (by omega) (by omega) (by omega) f2 f3 r1 m2 r1' sg q
      · rw [if_neg q]
        obtain ⟨m', rfl⟩ := mem_succ (show 0 < m' by omega)
        have q' : ¬ (rstep n k' s').2.1 p = p := by rw [← sg.2.1 p hp]; exact q
        refine ⟨nI i, nI (i + 1), _, (a1, a2, a3, a4, w1, A1, E1), rfl, ?_, Or.inl ⟨i, by omega, rfl, rfl⟩, ⟨_, f2⟩, ⟨_, f3⟩⟩
        rw [o_X9_leadsLong_2]
        dsimp only
        rw [p_X9_leads_if m2.1 r1'.1 (by omega) _ (fun r => rfl), if_neg q', o_X9_leadsLong_28, p_X9_leads_if m2.1 r1'.1 (by omega) _ (fun r => rfl), if_neg q']
/-- the hall with p's hand another -/
abbrev sh (s : RS) (p v : Nat) : RS := (up2 s.1 p v, s.2)
theorem RB_sh {n : Nat} {k : Nat → Nat} {s : RS} {p v : Nat} (hb : RB n k s) (hv : v < 3) : RB n k (sh s p v) := by
  refine ⟨⟨hb.1.1, fun q hq => ?_⟩, hb.2⟩
  have := hb.1.2 q hq
  refine ⟨this.1, ?_, this.2.2⟩
  show up2 s.1 p v q < 3
  unfold up2
  split
  · exact hv
  · exact this.2.1
theorem MR_sh {w : Nat → Int32} {n : Nat} {k : Nat → Nat} {s : RS} {p v : Nat} (h : MR w n k s) (hp : p < 8) : MR (upd w (9 + p) (nI v)) n k (sh s p v) :=
  ⟨MA_d h.1 hp, by rw [upd_ne (by omega)]; exact h.2.1, by rw [upd_ne (by omega)]; exact h.2.2⟩
theorem SG_sh {n : Nat} {s s' : RS} {p v : Nat} (h : SG n s s') : SG n (sh s p v) (sh s' p v) := ⟨ag_up2 h.1 p v, h.2⟩
theorem x_tryHand {N n p v : Nat} {k : Nat → Nat} {s : RS} {K D L A B C : Nat → Int32} (hN : 9 < N) (hp : p < 8) (hv : v < 3) (hK : IA K k 8 6) (hD : IA D s.1 8 3) (hL : IA L s.2.1 8 8) :
    ∃ A' B' C', o_X8_tryHand N (nI n) s.2.2.1 s.2.2.2 K D L A B C (nI p) (nI v) = some (nI n, s.2.2.1, s.2.2.2, A', B', C') ∧ IA A' k 8 6 ∧ IA B' (up2 s.1 p v) 8 3 ∧ IA C' s.2.1 8 8 := by
  obtain ⟨A', B', C', b1, b2⟩ := p_become (N := N) (p1 := nI n) (p2 := s.2.2.1) (p3 := s.2.2.2) (K := K) (D := D) (L := L) (A := A) (B := B) (C := C) hN
  refine ⟨A', upd B' p (nI v), C', ?_, IA_eq hK (fun q hq => (b2 q hq).1), IA_upd (IA_eq hD (fun q hq => (b2 q hq).2.1)) hv, IA_eq hL (fun q hq => (b2 q hq).2.2)⟩
  rw [o_X8_tryHand, b1, Option.bind_some, ogd_t (inb_ok hp (by omega)), cl_nI (by omega)]
theorem p_begin {N n p : Nat} {K D L w0 v : Nat → Int32} {k k' : Nat → Nat} {s s' : RS} (hN : 28 < N) (hp : p < n) (hK : IA K k 8 6) (hD : IA D s.1 8 3) (hL : IA L s.2.1 8 8) (hb : RB n k s) (hM : MR w0 n k' s') (hb' : RB n k' s') (hk : AG n k k') (hs : SG n s s') (e : s.2.1 p = p) (hv : ∀ q, q < 27 → v q = w0 q) :
    ∀ j i m m' (lx bx bm : Int32), i + j = 3 → j < m → j < m' → BR bx bm → ∀ (tp tR tT : Int32) (tK tD tL : Nat → Int32) (c1 c2 c3 t1 t2 t3 t4 : Int32) (w I E : Nat → Int32), TB tK tD tL → (∀ q, q < 27 → w q = w0 q) →
    ∃ r X t1' t2' t3' t4' w' Y, o_X8_begin_32 N (nI n) s.2.2.1 s.2.2.2 K D L (nI p) m tp tR tT tK tD tL c1 c2 c3 lx bx (nI i) = some (r, X) ∧ o_X9_begin_24 N v (nI p) m' t1 t2 t3 t4 w I E lx bm (nI i) = some (r, t1', t2', t3', t4', w', Y) ∧ (∀ q, q < 27 → w' q = w0 q) ∧ TB X.2.2.2.1 X.2.2.2.2.1 X.2.2.2.2.2.1 := by
  have hn := hb.1.1
  intro j
  induction j with
  | zero =>
    intro i m m' lx bx bm h1 h2 h3 hB tp tR tT tK tD tL c1 c2 c3 t1 t2 t3 t4 w I E hT hw
    obtain ⟨m, rfl⟩ := mem_succ h2
    obtain ⟨m', rfl⟩ := mem_succ h3
    refine ⟨lx, (tp, tR, tT, tK, tD, tL, c1, c2, c3), t1, t2, t3, t4, w, (v, I, E), ?_, ?_, hw, hT⟩
    · rw [o_X8_begin_32]
      dsimp only
      rw [l3_, ifle (by omega) (by omega), if_pos (by omega)]
    · rw [o_X9_begin_24]
      dsimp only
      rw [l3_, ifle (by omega) (by omega), if_pos (by omega)]
  | succ j ih =>
    intro i m m' lx bx bm h1 h2 h3 hB tp tR tT tK tD tL c1 c2 c3 t1 t2 t3 t4 w I E hT hw
    obtain ⟨m, rfl⟩ := mem_succ h2
    obtain ⟨m', rfl⟩ := mem_succ h3
    obtain ⟨A', B', C', g1, g2, g3, g4⟩ := x_tryHand (N := N) (n := n) (A := tK) (B := tD) (C := tL) (v := i) (by omega) (show p < 8 by omega) (by omega) hK hD hL
    have hMw : MR w n k' s' := MR_eq hM hw
    have t := lds_le n s.2.1
    obtain ⟨x, y, X, ⟨a1, a2, a3, a4, w1, I1, E1⟩, q1, q2, q3, q4, q5⟩ := p_led (N := N) (K := A') (by omega) hp g2 hk 7 0 N N (sh s p i) (sh s' p i) B' C' c1 c2 c3 t1 t2 t3 t4 (upd w (9 + p) (nI i)) I E (by show lds n s.2.1 ≤ 7 + 1; omega) (by omega) (by omega) (by omega) g3 g4 (RB_sh hb (by omega)) (MR_sh hMw (by omega)) (RB_sh hb' (by omega)) (SG_sh hs) e
    obtain ⟨w2, u1, u2⟩ := p_back (N := N) (w := v) (A := w1) (by omega)
    have hw2 : ∀ q, q < 27 → w2 q = w0 q := fun q hq => by rw [u2 q hq, hv q hq]
    have iff := LR_le q3 hB
    have st : o_X8_begin_32 N (nI n) s.2.2.1 s.2.2.2 K D L (nI p) (m + 1) tp tR tT tK tD tL c1 c2 c3 lx bx (nI i) = if x ≤ bx then o_X8_begin_32 N (nI n) s.2.2.1 s.2.2.2 K D L (nI p) m (nI n) X.1 X.2.1 A' X.2.2.1 X.2.2.2.1 X.2.2.2.2.1 X.2.2.2.2.2.1 X.2.2.2.2.2.2 lx bx (nI (i + 1)) else o_X8_begin_32 N (nI n) s.2.2.1 s.2.2.2 K D L (nI p) m (nI n) X.1 X.2.1 A' X.2.2.1 X.2.2.2.1 X.2.2.2.2.1 X.2.2.2.2.2.1 X.2.2.2.2.2.2 (nI i) x (nI (i + 1)) := by
      rw [o_X8_begin_32]
      dsimp only
      rw [l3_, ifle (by omega) (by omega), if_neg (by omega), g1, Option.bind_some]
      dsimp only
      rw [o_X3_roundsLed, l0, q1, Option.bind_some, nI_1]
    have st' : o_X9_begin_24 N v (nI p) (m' + 1) t1 t2 t3 t4 w I E lx bm (nI i) = if y ≤ bm then o_X9_begin_24 N v (nI p) m' a1 a2 a3 a4 w2 I1 E1 lx bm (nI (i + 1)) else o_X9_begin_24 N v (nI p) m' a1 a2 a3 a4 w2 I1 E1 (nI i) y (nI (i + 1)) := by
      rw [o_X9_begin_24]
      dsimp only
      rw [l3_, ifle (by omega) (by omega), if_neg (by omega), l9_, nI_add, ogd_t (inb_ok (by omega) (by omega)), cl_nI (by omega), o_X9_leadsLong, l0, q2, Option.bind_some]
      dsimp only
      rw [u1, Option.bind_some, o_X9_begin_65, o_X9_begin_65, nI_1]
      by_cases z : y ≤ bm
      · rw [if_pos z, if_pos z, if_pos z]
      · rw [if_neg z, if_neg z, if_neg z]
    rw [st, st']
    by_cases z : x ≤ bx
    · rw [if_pos z, if_pos (iff.mp z)]
      exact ih (i + 1) m m' lx bx bm (by omega) (by omega) (by omega) hB _ _ _ _ _ _ _ _ _ _ _ _ _ w2 _ _ ⟨⟨_, g2⟩, q4, q5⟩ hw2
    · rw [if_neg z, if_neg (fun q => z (iff.mpr q))]
      exact ih (i + 1) m m' (nI i) x y (by omega) (by omega) (by omega) (Or.inr q3) _ _ _ _ _ _ _ _ _ _ _ _ _ w2 _ _ ⟨⟨_, g2⟩, q4, q5⟩ hw2
theorem m_notL {N n : Nat} {w : Nat → Int32} {k d f : Nat → Nat} {x : Int32} (hM : MA w n k d f) (hb : HB n k d f) : (¬ (∃ r, r < n ∧ x = nI r) → o_X9_notLeading N w x = some (-1000001)) ∧ ∀ p, p < n → x = nI p → o_X9_notLeading N w x = some (if f p = p then 0 else -1000002) := by
  have hn := hb.1
  refine ⟨fun h => ?_, ?_⟩
  · rw [o_X9_notLeading, m_isPl hM hn, if_neg h, Option.bind_some, if_pos rfl]
  · rintro p hp rfl
    rw [o_X9_notLeading, m_isPl hM hn, if_pos (show ∃ r, r < n ∧ nI p = nI r from ⟨p, hp, rfl⟩), Option.bind_some, if_neg (by decide), p_X9_leads_if hM hb (by omega) _ (fun r => rfl)]
    split <;> rfl
theorem s_begin {N : Nat} {xp R T tp tR tT c1 c2 c3 t1 t2 t3 t4 x : Int32} {K D L tK tD tL w v I E : Nat → Int32} (hN : 28 < N) (hT : TB tK tD tL) (hh : HREL xp R T K D L w) :
    ∃ r X t1' t2' t3' t4' w' Y, o_X8_begin N xp R T K D L tp tR tT tK tD tL c1 c2 c3 x = some (r, X) ∧ o_X9_begin N t1 t2 t3 t4 w v I E x = some (r, t1', t2', t3', t4', w', Y) ∧ HREL xp R T K D L w' ∧ TB X.2.2.2.1 X.2.2.2.2.1 X.2.2.2.2.2.1 := by
  have h0 := hh
  obtain ⟨n, k, k', s, s', ⟨rfl, rfl, rfl, hK, hD, hL⟩, hM, hb, hb', hk, hs, h1⟩ := hh
  have hn := hb.1.1
  obtain ⟨nl1, nl2⟩ := m_notL (N := N) (x := x) hM.1 hb'.1
  have no : ∀ r : Int32, ¬ r = 0 → o_X9_notLeading N w x = some r → o_X8_begin N (nI n) s.2.2.1 s.2.2.2 K D L tp tR tT tK tD tL c1 c2 c3 x = some (r, tp, tR, tT, tK, tD, tL, c1, c2, c3) → ∃ r X t1' t2' t3' t4' w' Y, o_X8_begin N (nI n) s.2.2.1 s.2.2.2 K D L tp tR tT tK tD tL c1 c2 c3 x = some (r, X) ∧ o_X9_begin N t1 t2 t3 t4 w v I E x = some (r, t1', t2', t3', t4', w', Y) ∧ HREL (nI n) s.2.2.1 s.2.2.2 K D L w' ∧ TB X.2.2.2.1 X.2.2.2.2.1 X.2.2.2.2.2.1 := by
    intro r hr g1 g2
    refine ⟨r, _, t1, t2, t3, t4, w, (v, I, E), g2, ?_, h0, hT⟩
    rw [o_X9_begin, g1, Option.bind_some, if_neg hr]
  by_cases c : ∃ r, r < n ∧ x = nI r
  · obtain ⟨p, hp, rfl⟩ := c
    have xpl : o_X8_isPlayer N (nI n) (nI p) = some 1 := by rw [x_isPl hn, if_pos ⟨p, hp, rfl⟩]
    have ml := nl2 p hp rfl
    by_cases e : s.2.1 p = p
    · have e' : s'.2.1 p = p := by rw [← hs.2.1 p hp]; exact e
      rw [if_pos e'] at ml
      obtain ⟨v', v1, v2⟩ := p_start (N := N) (w := w) (A := v) (by omega)
      obtain ⟨r, X, a1, a2, a3, a4, w', Y, g1, g2, g3, g4⟩ := p_begin (N := N) (by omega) hp hK hD hL hb hM hb' hk hs e v2 3 0 N N 0 (-1) (-1) (by omega) (by omega) (by omega) (Or.inl ⟨rfl, rfl⟩) tp tR tT tK tD tL c1 c2 c3 t1 t2 t3 t4 w I E hT (fun q _ => rfl)
      refine ⟨r, X, a1, a2, a3, a4, w', Y, ?_, ?_, HREL_congr h0 (fun j hj => ⟨rfl, rfl, rfl⟩) g3, g4⟩
      · rw [o_X8_begin, xpl, Option.bind_some, if_neg (by decide), p_X3_leads_if hL (by omega) _ (fun r => rfl), if_pos e]
        exact g1
      · rw [o_X9_begin, ml, Option.bind_some, if_pos rfl, v1, Option.bind_some]
        exact g2
    · have e' : ¬ s'.2.1 p = p := by rw [← hs.2.1 p hp]; exact e
      rw [if_neg e'] at ml
      refine no (-1000002) (by decide) ml ?_
      rw [o_X8_begin, xpl, Option.bind_some, if_neg (by decide), p_X3_leads_if hL (by omega) _ (fun r => rfl), if_neg e]
  · refine no (-1000001) (by decide) (nl1 c) ?_
    rw [o_X8_begin, x_isPl hn, if_neg c, Option.bind_some, if_pos rfl]
