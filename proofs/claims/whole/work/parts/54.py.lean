/-! PURE PART Y: seek, begun -/
theorem lead_iff {n p : Nat} {f : Nat → Nat} (h : HI n f) (h1 : lds n f ≤ 1) (hp : p < n) : f p = p ↔ f 0 = p := by
  obtain ⟨a, b⟩ := h 0 (by omega)
  refine ⟨fun e => ?_, fun e => by rw [← e]; exact b⟩
  refine Classical.byContradiction fun g => ?_
  have c1 : cn (fun _ => false) 0 n < cn (fun q => q == p) 0 n := cn_strict (q := p) n 0 (fun j _ _ e => by cases e) (by omega) (by omega) (beq_iff_eq.mpr rfl) (by decide)
  have c2 : cn (fun q => q == p) 0 n < lds n f := cn_strict (q := f 0) n 0 (fun j _ _ q => by
    have : j = p := beq_iff_eq.mp q
    subst this; exact beq_iff_eq.mpr e) (by omega) (by omega) (beq_iff_eq.mpr b) (fun q => g (beq_iff_eq.mp q))
  omega
theorem toE_lead {n p : Nat} {k : Nat → Nat} {s : RS} (hb : RB n k s) (hp : p < n) : (toE n k 8 s).2.1 p = p ↔ (toE n k 8 s).2.1 0 = p := by
  obtain ⟨a, b⟩ := toE_ok (n := n) (k := k) 8 s hb
  have t := lds_le n s.2.1
  have hn := hb.1.1
  exact lead_iff a.2 (b (by omega)) hp
theorem or0 (x : Int32) : x ||| 0 = x := Int32.or_zero
/-- one bout more -/
abbrev bs (n : Nat) (k : Nat → Nat) (s : RS) (a b : Nat) : RS := (mD k s.1 a b, mF n k s.1 s.2.1 a b, s.2.2)
theorem RB_bs {n a b : Nat} {k : Nat → Nat} {s : RS} (hb : RB n k s) (ha : a < n) (hb8 : b < n) (fa : s.2.1 a = a) (fb : s.2.1 b = b) (hab : a ≠ b) : RB n k (bs n k s a b) := by
  have hn := hb.1.1
  exact ⟨⟨hn, fun p hp => ⟨(hb.1.2 p hp).1, (mD_b hb.1 (show a < 8 by omega) (show b < 8 by omega) hp).1, (mD_b hb.1 (show a < 8 by omega) (show b < 8 by omega) hp).2⟩⟩, mF_HI hb.2 ha hb8 fa fb hab⟩
theorem SG_bs {n a b : Nat} {k k' : Nat → Nat} {s s' : RS} (hk : AG n k k') (hs : SG n s s') (ha : a < n) (hb8 : b < n) : SG n (bs n k s a b) (bs n k' s' a b) := ⟨ag_mD hk hs.1 ha hb8, ag_mF hk hs.1 hs.2.1 ha hb8, hs.2.2⟩
theorem m_bs {N n a b : Nat} {k : Nat → Nat} {s : RS} {w : Nat → Int32} (hN : 9 < N) (hM : MR w n k s) (hb : RB n k s) (ha : a < 8) (hb8 : b < 8) : ∃ w', o_X9_join N w (nI a) (nI b) (nI (bc k s.1 a b).1) (nI (bc k s.1 a b).2.1) (nI (win n k s.1 s.2.1 a b)) = some w' ∧ MR w' n k (bs n k s a b) := by
  obtain ⟨q1, q2, q3⟩ := bc_lt (k := k) (hb.1.2 a ha).2.1 (hb.1.2 b hb8).2.1
  have w8 : win n k s.1 s.2.1 a b < 8 := by rcases win_or n k s.1 s.2.1 a b with e | e <;> rw [e] <;> omega
  obtain ⟨w1, j1, j2, j3, j4⟩ := p_X9_join (N := N) hN hM.1 hb.1 ha hb8 w8 q1 q2
  exact ⟨w1, j1, j2, by rw [j3]; exact hM.2.1, by rw [j4]; exact hM.2.2⟩
theorem p_seek {N n p : Nat} {K D L w0 v : Nat → Int32} {k k' : Nat → Nat} {s s' : RS} (hN : 28 < N) (hp : p < n) (hK : IA K k 8 6) (hD : IA D s.1 8 3) (hL : IA L s.2.1 8 8) (hb : RB n k s) (hM : MR w0 n k' s') (hb' : RB n k' s') (hk : AG n k k') (hs : SG n s s') (e : s.2.1 p = p) (hv : ∀ q, q < 27 → v q = w0 q) :
    ∀ j i m m' (lx : Int32), i + j = n → j < m → j < m' → ∀ (tp tR tT : Int32) (tK tD tL : Nat → Int32) (c1 c2 c3 t1 t2 t3 t4 : Int32) (w I E : Nat → Int32), TB tK tD tL → (∀ q, q < 27 → w q = w0 q) →
    ∃ r X t1' t2' t3' t4' w' Y, o_X8_seek_29 N (nI n) s.2.2.1 s.2.2.2 K D L (nI p) m tp tR tT tK tD tL c1 c2 c3 lx (nI i) = some (r, X) ∧ o_X9_seek_21 N v (nI p) m' t1 t2 t3 t4 w I E lx (nI i) = some (r, t1', t2', t3', t4', w', Y) ∧ (∀ q, q < 27 → w' q = w0 q) ∧ TB X.2.2.2.1 X.2.2.2.2.1 X.2.2.2.2.2.1 := by
  have hn := hb.1.1
  intro j
  induction j with
  | zero =>
    intro i m m' lx h1 h2 h3 tp tR tT tK tD tL c1 c2 c3 t1 t2 t3 t4 w I E hT hw
    obtain ⟨m, rfl⟩ := mem_succ h2
    obtain ⟨m', rfl⟩ := mem_succ h3
    have hMw : MR w n k' s' := MR_eq hM hw
    refine ⟨lx, (tp, tR, tT, tK, tD, tL, c1, c2, c3), t1, t2, t3, t4, w, (v, I, E), ?_, ?_, hw, hT⟩
    · rw [o_X8_seek_29]
      dsimp only
      rw [ifle (by omega) (by omega), if_pos (by omega)]
    · rw [o_X9_seek_21]
      dsimp only
      rw [p_X9_players hMw.1, Option.bind_some, ifle (by omega) (by omega), if_pos (by omega)]
  | succ j ih =>
    intro i m m' lx h1 h2 h3 tp tR tT tK tD tL c1 c2 c3 t1 t2 t3 t4 w I E hT hw
    obtain ⟨m, rfl⟩ := mem_succ h2
    obtain ⟨m', rfl⟩ := mem_succ h3
    have hMw : MR w n k' s' := MR_eq hM hw
    by_cases q : i = p
    · have st : o_X8_seek_29 N (nI n) s.2.2.1 s.2.2.2 K D L (nI p) (m + 1) tp tR tT tK tD tL c1 c2 c3 lx (nI i) = o_X8_seek_29 N (nI n) s.2.2.1 s.2.2.2 K D L (nI p) m tp tR tT tK tD tL c1 c2 c3 lx (nI (i + 1)) := by
        rw [o_X8_seek_29]
        dsimp only
        rw [ifle (by omega) (by omega), if_neg (by omega), ifeq (by omega) (by omega), if_pos q, nI_1]
      have st' : o_X9_seek_21 N v (nI p) (m' + 1) t1 t2 t3 t4 w I E lx (nI i) = o_X9_seek_21 N v (nI p) m' t1 t2 t3 t4 w I E lx (nI (i + 1)) := by
        rw [o_X9_seek_21]
        dsimp only
        rw [p_X9_players hMw.1, Option.bind_some, ifle (by omega) (by omega), if_neg (by omega), ifeq (by omega) (by omega), if_pos q, nI_1]
      rw [st, st']
      exact ih (i + 1) m m' lx (by omega) (by omega) (by omega) _ _ _ _ _ _ _ _ _ _ _ _ _ w _ _ hT hw
    · by_cases f : s.2.1 i = i
      · have f' : s'.2.1 i = i := by rw [← hs.2.1 i (by omega)]; exact f
        obtain ⟨A', B', C', b1, b2⟩ := p_become (N := N) (p1 := nI n) (p2 := s.2.2.1) (p3 := s.2.2.2) (K := K) (D := D) (L := L) (A := tK) (B := tD) (C := tL) (by omega)
        have kA := IA_eq hK (fun q hq => (b2 q hq).1)
        obtain ⟨D1, L1, f1, f2, f3⟩ := p_X3_meet (N := N) (by omega) hn kA (IA_eq hD (fun q hq => (b2 q hq).2.1)) (IA_eq hL (fun q hq => (b2 q hq).2.2)) (show p < 8 by omega) (show i < 8 by omega) e f
        obtain ⟨D2, L2, d1, d2, d3, e1, e2, e3⟩ := p_X3_playToTheEnd (N := N) (n := n) (c1 := nI (bc k s.1 p i).1) (c2 := nI (bc k s.1 p i).2.1) (c3 := nI (bc k s.1 p i).2.2) (bs n k s p i) (by omega) hn kA f2 f3
        obtain ⟨w1, j1, j2⟩ := m_bs (N := N) (by omega) hMw hb' (show p < 8 by omega) (show i < 8 by omega)
        have rb := RB_bs hb hp (show i < n by omega) e f (fun z => q z.symm)
        have rb' := RB_bs hb' hp (show i < n by omega) (by rw [← hs.2.1 p hp]; exact e) f' (fun z => q z.symm)
        obtain ⟨a1, a2, a3, a4, w2, I1, E1, g1, g2⟩ := p_goLeft (N := N) (A := I) (E := E) (t1 := nI (win n k' s'.1 s'.2.1 p i)) (t2 := nI (bc k' s'.1 p i).2.2) (t3 := nI (bc k' s'.1 p i).1) (t4 := nI (bc k' s'.1 p i).2.1) (by omega) j2 rb'
        obtain ⟨w3, u1, u2⟩ := p_back (N := N) (w := v) (A := w2) (by omega)
        have hw3 : ∀ q, q < 27 → w3 q = w0 q := fun q hq => by rw [u2 q hq, hv q hq]
        have sg := sg_toE hk 8 _ _ (SG_bs hk hs hp (show i < n by omega))
        have fin : (toE n k 8 (bs n k s p i)).2.1 p = p ↔ (toE n k' 8 (bs n k' s' p i)).2.1 0 = p := by
          rw [toE_lead rb hp, sg.2.1 0 (by omega)]
        have l8 := ((toE_ok (n := n) (k := k') 8 _ rb').1.1.2 0 (by omega)).2.2
        have st : o_X8_seek_29 N (nI n) s.2.2.1 s.2.2.2 K D L (nI p) (m + 1) tp tR tT tK tD tL c1 c2 c3 lx (nI i) = if (toE n k 8 (bs n k s p i)).2.1 p = p then o_X8_seek_29 N (nI n) s.2.2.1 s.2.2.2 K D L (nI p) m (nI n) (toE n k 8 (bs n k s p i)).2.2.1 (toE n k 8 (bs n k s p i)).2.2.2 A' D2 L2 d1 d2 d3 (lx ||| (1 <<< (nI i &&& 31))) (nI (i + 1)) else o_X8_seek_29 N (nI n) s.2.2.1 s.2.2.2 K D L (nI p) m (nI n) (toE n k 8 (bs n k s p i)).2.2.1 (toE n k 8 (bs n k s p i)).2.2.2 A' D2 L2 d1 d2 d3 lx (nI (i + 1)) := by
          rw [o_X8_seek_29]
          dsimp only
          rw [ifle (by omega) (by omega), if_neg (by omega), ifeq (by omega) (by omega), if_neg q, p_X3_leads_if hL (by omega) _ (fun r => rfl), if_pos f, b1, Option.bind_some]
          dsimp only
          rw [f1, Option.bind_some]
          dsimp only
          rw [e1, Option.bind_some]
          dsimp only
          rw [p_X3_leads_if e3 (by omega) _ (fun r => rfl), nI_1]
        have st' : o_X9_seek_21 N v (nI p) (m' + 1) t1 t2 t3 t4 w I E lx (nI i) = if (toE n k' 8 (bs n k' s' p i)).2.1 0 = p then o_X9_seek_21 N v (nI p) m' a1 a2 a3 a4 w3 I1 E1 (lx ||| (1 <<< (nI i &&& 31))) (nI (i + 1)) else o_X9_seek_21 N v (nI p) m' a1 a2 a3 a4 w3 I1 E1 lx (nI (i + 1)) := by
          rw [o_X9_seek_21]
          dsimp only
          rw [p_X9_players hMw.1, Option.bind_some, ifle (by omega) (by omega), if_neg (by omega), ifeq (by omega) (by omega), if_neg q, p_X9_leads_if hMw.1 hb'.1 (by omega) _ (fun r => rfl), if_pos f', p_X9_play (by omega) hMw.1 hb'.1 (by omega) (by omega), Option.bind_some]
          dsimp only
          rw [j1, Option.bind_some, g1, Option.bind_some]
          dsimp only
          rw [u1, Option.bind_some, ifeq (by omega) (by omega), o_X9_seek_96, o_X9_seek_96, or0, nI_1]
        rw [st, st']
        by_cases z : (toE n k 8 (bs n k s p i)).2.1 p = p
        · rw [if_pos z, if_pos (fin.mp z)]
          exact ih (i + 1) m m' _ (by omega) (by omega) (by omega) _ _ _ _ _ _ _ _ _ _ _ _ _ w3 _ _ ⟨⟨_, kA⟩, ⟨_, e2⟩, ⟨_, e3⟩⟩ hw3
        · rw [if_neg z, if_neg (fun y => z (fin.mpr y))]
          exact ih (i + 1) m m' _ (by omega) (by omega) (by omega) _ _ _ _ _ _ _ _ _ _ _ _ _ w3 _ _ ⟨⟨_, kA⟩, ⟨_, e2⟩, ⟨_, e3⟩⟩ hw3
      · have f' : ¬ s'.2.1 i = i := by rw [← hs.2.1 i (by omega)]; exact f
        have st : o_X8_seek_29 N (nI n) s.2.2.1 s.2.2.2 K D L (nI p) (m + 1) tp tR tT tK tD tL c1 c2 c3 lx (nI i) = o_X8_seek_29 N (nI n) s.2.2.1 s.2.2.2 K D L (nI p) m tp tR tT tK tD tL c1 c2 c3 lx (nI (i + 1)) := by
          rw [o_X8_seek_29]
          dsimp only
          rw [ifle (by omega) (by omega), if_neg (by omega), ifeq (by omega) (by omega), if_neg q, p_X3_leads_if hL (by omega) _ (fun r => rfl), if_neg f, nI_1]
        have st' : o_X9_seek_21 N v (nI p) (m' + 1) t1 t2 t3 t4 w I E lx (nI i) = o_X9_seek_21 N v (nI p) m' t1 t2 t3 t4 w I E lx (nI (i + 1)) := by
          rw [o_X9_seek_21]
          dsimp only
          rw [p_X9_players hMw.1, Option.bind_some, ifle (by omega) (by omega), if_neg (by omega), ifeq (by omega) (by omega), if_neg q, p_X9_leads_if hMw.1 hb'.1 (by omega) _ (fun r => rfl), if_neg f', nI_1]
        rw [st, st']
        exact ih (i + 1) m m' lx (by omega) (by omega) (by omega) _ _ _ _ _ _ _ _ _ _ _ _ _ w _ _ hT hw
theorem s_seek {N : Nat} {xp R T tp tR tT c1 c2 c3 t1 t2 t3 t4 x : Int32} {K D L tK tD tL w v I E : Nat → Int32} (hN : 28 < N) (hT : TB tK tD tL) (hh : HREL xp R T K D L w) :
    ∃ r X t1' t2' t3' t4' w' Y, o_X8_seek N xp R T K D L tp tR tT tK tD tL c1 c2 c3 x = some (r, X) ∧ o_X9_seek N t1 t2 t3 t4 w v I E x = some (r, t1', t2', t3', t4', w', Y) ∧ HREL xp R T K D L w' ∧ TB X.2.2.2.1 X.2.2.2.2.1 X.2.2.2.2.2.1 := by
  have h0 := hh
  obtain ⟨n, k, k', s, s', ⟨rfl, rfl, rfl, hK, hD, hL⟩, hM, hb, hb', hk, hs, h1⟩ := hh
  have hn := hb.1.1
  obtain ⟨nl1, nl2⟩ := m_notL (N := N) (x := x) hM.1 hb'.1
  have no : ∀ r : Int32, ¬ r = 0 → o_X9_notLeading N w x = some r → o_X8_seek N (nI n) s.2.2.1 s.2.2.2 K D L tp tR tT tK tD tL c1 c2 c3 x = some (r, tp, tR, tT, tK, tD, tL, c1, c2, c3) → ∃ r X t1' t2' t3' t4' w' Y, o_X8_seek N (nI n) s.2.2.1 s.2.2.2 K D L tp tR tT tK tD tL c1 c2 c3 x = some (r, X) ∧ o_X9_seek N t1 t2 t3 t4 w v I E x = some (r, t1', t2', t3', t4', w', Y) ∧ HREL (nI n) s.2.2.1 s.2.2.2 K D L w' ∧ TB X.2.2.2.1 X.2.2.2.2.1 X.2.2.2.2.2.1 := by
    intro r hr g1 g2
    refine ⟨r, _, t1, t2, t3, t4, w, (v, I, E), g2, ?_, h0, hT⟩
    rw [o_X9_seek, g1, Option.bind_some, if_neg hr]
  by_cases c : ∃ r, r < n ∧ x = nI r
  · obtain ⟨p, hp, rfl⟩ := c
    have xpl : o_X8_isPlayer N (nI n) (nI p) = some 1 := by rw [x_isPl hn, if_pos ⟨p, hp, rfl⟩]
    have ml := nl2 p hp rfl
    by_cases e : s.2.1 p = p
    · have e' : s'.2.1 p = p := by rw [← hs.2.1 p hp]; exact e
      rw [if_pos e'] at ml
      obtain ⟨v', v1, v2⟩ := p_start (N := N) (w := w) (A := v) (by omega)
      obtain ⟨r, X, a1, a2, a3, a4, w', Y, g1, g2, g3, g4⟩ := p_seek (N := N) (by omega) hp hK hD hL hb hM hb' hk hs e v2 n 0 N N 0 (by omega) (by omega) (by omega) tp tR tT tK tD tL c1 c2 c3 t1 t2 t3 t4 w I E hT (fun q _ => rfl)
      refine ⟨r, X, a1, a2, a3, a4, w', Y, ?_, ?_, HREL_congr h0 (fun j hj => ⟨rfl, rfl, rfl⟩) g3, g4⟩
      · rw [o_X8_seek, xpl, Option.bind_some, if_neg (by decide), p_X3_leads_if hL (by omega) _ (fun r => rfl), if_pos e]
        exact g1
      · rw [o_X9_seek, ml, Option.bind_some, if_pos rfl, v1, Option.bind_some]
        exact g2
    · have e' : ¬ s'.2.1 p = p := by rw [← hs.2.1 p hp]; exact e
      rw [if_neg e'] at ml
      refine no (-1000002) (by decide) ml ?_
      rw [o_X8_seek, xpl, Option.bind_some, if_neg (by decide), p_X3_leads_if hL (by omega) _ (fun r => rfl), if_neg e]
  · refine no (-1000001) (by decide) (nl1 c) ?_
    rw [o_X8_seek, x_isPl hn, if_neg c, Option.bind_some, if_pos rfl]
theorem p_begun {N n p l : Nat} {K D L w0 v : Nat → Int32} {k k' : Nat → Nat} {s s' : RS} (hN : 28 < N) (hp : p < n) (hl : l < n) (hK : IA K k 8 6) (hD : IA D s.1 8 3) (hL : IA L s.2.1 8 8) (hb : RB n k s) (hM : MR w0 n k' s') (hb' : RB n k' s') (hk : AG n k k') (hs : SG n s s') (hv : ∀ q, q < 27 → v q = w0 q) :
    ∀ j i m m' (lx : Int32), i + j = 3 → j < m → j < m' → ∀ (tp tR tT : Int32) (tK tD tL : Nat → Int32) (c1 c2 c3 t1 t2 t3 t4 : Int32) (w I E : Nat → Int32), TB tK tD tL → (∀ q, q < 27 → w q = w0 q) →
    ∃ r X t1' t2' t3' t4' w' Y, o_X8_begun_49 N (nI n) s.2.2.1 s.2.2.2 K D L (nI p) (nI l) m tp tR tT tK tD tL c1 c2 c3 lx (nI i) = some (r, X) ∧ o_X9_begun_47 N v (nI p) (nI l) m' t1 t2 t3 t4 w I E lx (nI i) = some (r, t1', t2', t3', t4', w', Y) ∧ (∀ q, q < 27 → w' q = w0 q) ∧ TB X.2.2.2.1 X.2.2.2.2.1 X.2.2.2.2.2.1 := by
  have hn := hb.1.1
  intro j
  induction j with
  | zero =>
    intro i m m' lx h1 h2 h3 tp tR tT tK tD tL c1 c2 c3 t1 t2 t3 t4 w I E hT hw
    obtain ⟨m, rfl⟩ := mem_succ h2
    obtain ⟨m', rfl⟩ := mem_succ h3
    refine ⟨lx, (tp, tR, tT, tK, tD, tL, c1, c2, c3), t1, t2, t3, t4, w, (v, I, E), ?_, ?_, hw, hT⟩
    · rw [o_X8_begun_49]
      dsimp only
      rw [l3_, ifle (by omega) (by omega), if_pos (by omega)]
    · rw [o_X9_begun_47]
      dsimp only
      rw [l3_, ifle (by omega) (by omega), if_pos (by omega)]
  | succ j ih =>
    intro i m m' lx h1 h2 h3 tp tR tT tK tD tL c1 c2 c3 t1 t2 t3 t4 w I E hT hw
    obtain ⟨m, rfl⟩ := mem_succ h2
    obtain ⟨m', rfl⟩ := mem_succ h3
    have hMw : MR w n k' s' := MR_eq hM hw
    obtain ⟨A', B', C', b1, b2, b3, b4⟩ := x_tryHand (N := N) (n := n) (A := tK) (B := tD) (C := tL) (v := i) (by omega) (show p < 8 by omega) (by omega) hK hD hL
    obtain ⟨D2, L2, d1, d2, d3, e1, e2, e3⟩ := p_X3_playToTheEnd (N := N) (n := n) (c1 := c1) (c2 := c2) (c3 := c3) (sh s p i) (by omega) hn b2 b3 b4
    have rb := RB_sh (p := p) (v := i) hb (by omega)
    have rb' := RB_sh (p := p) (v := i) hb' (by omega)
    obtain ⟨a1, a2, a3, a4, w2, I1, E1, g1, g2⟩ := p_goLeft (N := N) (A := I) (E := E) (t1 := t1) (t2 := t2) (t3 := t3) (t4 := t4) (by omega) (MR_sh (p := p) (v := i) hMw (by omega)) rb'
    obtain ⟨w3, u1, u2⟩ := p_back (N := N) (w := v) (A := w2) (by omega)
    have hw3 : ∀ q, q < 27 → w3 q = w0 q := fun q hq => by rw [u2 q hq, hv q hq]
    have sg := sg_toE hk 8 _ _ (SG_sh (p := p) (v := i) hs)
    have fin : (toE n k 8 (sh s p i)).2.1 l = l ↔ (toE n k' 8 (sh s' p i)).2.1 0 = l := by
      rw [toE_lead rb hl, sg.2.1 0 (by omega)]
    have l8 := ((toE_ok (n := n) (k := k') 8 _ rb').1.1.2 0 (by omega)).2.2
    have st : o_X8_begun_49 N (nI n) s.2.2.1 s.2.2.2 K D L (nI p) (nI l) (m + 1) tp tR tT tK tD tL c1 c2 c3 lx (nI i) = if (toE n k 8 (sh s p i)).2.1 l = l then o_X8_begun_49 N (nI n) s.2.2.1 s.2.2.2 K D L (nI p) (nI l) m (nI n) (toE n k 8 (sh s p i)).2.2.1 (toE n k 8 (sh s p i)).2.2.2 A' D2 L2 d1 d2 d3 (lx ||| (1 <<< (nI i &&& 31))) (nI (i + 1)) else o_X8_begun_49 N (nI n) s.2.2.1 s.2.2.2 K D L (nI p) (nI l) m (nI n) (toE n k 8 (sh s p i)).2.2.1 (toE n k 8 (sh s p i)).2.2.2 A' D2 L2 d1 d2 d3 lx (nI (i + 1)) := by
      rw [o_X8_begun_49]
      dsimp only
      rw [l3_, ifle (by omega) (by omega), if_neg (by omega), b1, Option.bind_some]
      dsimp only
      rw [e1, Option.bind_some]
      dsimp only
      rw [p_X3_leads_if e3 (by omega) _ (fun r => rfl), nI_1]
    have st' : o_X9_begun_47 N v (nI p) (nI l) (m' + 1) t1 t2 t3 t4 w I E lx (nI i) = if (toE n k' 8 (sh s' p i)).2.1 0 = l then o_X9_begun_47 N v (nI p) (nI l) m' a1 a2 a3 a4 w3 I1 E1 (lx ||| (1 <<< (nI i &&& 31))) (nI (i + 1)) else o_X9_begun_47 N v (nI p) (nI l) m' a1 a2 a3 a4 w3 I1 E1 lx (nI (i + 1)) := by
      rw [o_X9_begun_47]
      dsimp only
      rw [l3_, ifle (by omega) (by omega), if_neg (by omega), l9_, nI_add, ogd_t (inb_ok (by omega) (by omega)), cl_nI (by omega), g1, Option.bind_some]
      dsimp only
      rw [u1, Option.bind_some, ifeq (by omega) (by omega), o_X9_begun_89, o_X9_begun_89, or0, nI_1]
    rw [st, st']
    by_cases z : (toE n k 8 (sh s p i)).2.1 l = l
    · rw [if_pos z, if_pos (fin.mp z)]
      exact ih (i + 1) m m' _ (by omega) (by omega) (by omega) _ _ _ _ _ _ _ _ _ _ _ _ _ w3 _ _ ⟨⟨_, b2⟩, ⟨_, e2⟩, ⟨_, e3⟩⟩ hw3
    · rw [if_neg z, if_neg (fun y => z (fin.mpr y))]
      exact ih (i + 1) m m' _ (by omega) (by omega) (by omega) _ _ _ _ _ _ _ _ _ _ _ _ _ w3 _ _ ⟨⟨_, b2⟩, ⟨_, e2⟩, ⟨_, e3⟩⟩ hw3
theorem s_begun {N : Nat} {xp R T tp tR tT c1 c2 c3 t1 t2 t3 t4 x y : Int32} {K D L tK tD tL w v I E : Nat → Int32} (hN : 28 < N) (hT : TB tK tD tL) (hh : HREL xp R T K D L w) :
    ∃ r X t1' t2' t3' t4' w' Y, o_X8_begun N xp R T K D L tp tR tT tK tD tL c1 c2 c3 x y = some (r, X) ∧ o_X9_begun N t1 t2 t3 t4 w v I E x y = some (r, t1', t2', t3', t4', w', Y) ∧ HREL xp R T K D L w' ∧ TB X.2.2.2.1 X.2.2.2.2.1 X.2.2.2.2.2.1 := by
  have h0 := hh
  obtain ⟨n, k, k', s, s', ⟨rfl, rfl, rfl, hK, hD, hL⟩, hM, hb, hb', hk, hs, h1⟩ := hh
  have hn := hb.1.1
  have no : ∀ r : Int32, o_X9_begun N t1 t2 t3 t4 w v I E x y = some (r, t1, t2, t3, t4, w, v, I, E) → o_X8_begun N (nI n) s.2.2.1 s.2.2.2 K D L tp tR tT tK tD tL c1 c2 c3 x y = some (r, tp, tR, tT, tK, tD, tL, c1, c2, c3) → ∃ r X t1' t2' t3' t4' w' Y, o_X8_begun N (nI n) s.2.2.1 s.2.2.2 K D L tp tR tT tK tD tL c1 c2 c3 x y = some (r, X) ∧ o_X9_begun N t1 t2 t3 t4 w v I E x y = some (r, t1', t2', t3', t4', w', Y) ∧ HREL (nI n) s.2.2.1 s.2.2.2 K D L w' ∧ TB X.2.2.2.1 X.2.2.2.2.1 X.2.2.2.2.2.1 := by
    intro r g1 g2
    exact ⟨r, _, t1, t2, t3, t4, w, (v, I, E), g2, g1, h0, hT⟩
  by_cases c : ∃ r, r < n ∧ x = nI r
  · by_cases d : ∃ r, r < n ∧ y = nI r
    · obtain ⟨p, hp, rfl⟩ := c
      obtain ⟨l, hl, rfl⟩ := d
      have xpl : o_X8_isPlayer N (nI n) (nI p) = some 1 := by rw [x_isPl hn, if_pos ⟨p, hp, rfl⟩]
      have xll : o_X8_isPlayer N (nI n) (nI l) = some 1 := by rw [x_isPl hn, if_pos ⟨l, hl, rfl⟩]
      have mpl : o_X9_isPlayer N w (nI p) = some 1 := by rw [m_isPl hM.1 hn, if_pos ⟨p, hp, rfl⟩]
      have mll : o_X9_isPlayer N w (nI l) = some 1 := by rw [m_isPl hM.1 hn, if_pos ⟨l, hl, rfl⟩]
      have xz : ∀ {z}, (if s.2.1 p = p then (if s.2.1 l = l then o_X8_begun_49 N (nI n) s.2.2.1 s.2.2.2 K D L (nI p) (nI l) N tp tR tT tK tD tL c1 c2 c3 0 0 else some (-1000002, tp, tR, tT, tK, tD, tL, c1, c2, c3)) else some (-1000002, tp, tR, tT, tK, tD, tL, c1, c2, c3)) = z → o_X8_begun N (nI n) s.2.2.1 s.2.2.2 K D L tp tR tT tK tD tL c1 c2 c3 (nI p) (nI l) = z := by
        intro z hz
        rw [o_X8_begun, xpl, Option.bind_some, if_neg (by decide), xll, Option.bind_some, if_neg (by decide), p_X3_leads_if hL (by omega) _ (fun r => rfl), p_X3_leads_if hL (by omega) _ (fun r => rfl)]
        exact hz
      have mz : ∀ {z}, (if s'.2.1 p = p then (if s'.2.1 l = l then (o_X9_start N w v).bind (fun r41 => o_X9_begun_47 N r41 (nI p) (nI l) N t1 t2 t3 t4 w I E 0 0) else some (-1000002, t1, t2, t3, t4, w, v, I, E)) else some (-1000002, t1, t2, t3, t4, w, v, I, E)) = z → o_X9_begun N t1 t2 t3 t4 w v I E (nI p) (nI l) = z := by
        intro z hz
        rw [o_X9_begun, mpl, Option.bind_some, if_neg (by decide), mll, Option.bind_some, if_neg (by decide), p_X9_leads_if hM.1 hb'.1 (by omega) _ (fun r => rfl), p_X9_leads_if hM.1 hb'.1 (by omega) _ (fun r => rfl)]
        exact hz
      rw [← hs.2.1 p hp, ← hs.2.1 l hl] at mz
      by_cases e : s.2.1 p = p
      · by_cases f : s.2.1 l = l
        · obtain ⟨v', v1, v2⟩ := p_start (N := N) (w := w) (A := v) (by omega)
          obtain ⟨r, X, a1, a2, a3, a4, w', Y, g1, g2, g3, g4⟩ := p_begun (N := N) (by omega) hp hl hK hD hL hb hM hb' hk hs v2 3 0 N N 0 (by omega) (by omega) (by omega) tp tR tT tK tD tL c1 c2 c3 t1 t2 t3 t4 w I E hT (fun q _ => rfl)
          refine ⟨r, X, a1, a2, a3, a4, w', Y, xz ?_, mz ?_, HREL_congr h0 (fun j hj => ⟨rfl, rfl, rfl⟩) g3, g4⟩
          · rw [if_pos e, if_pos f]; exact g1
          · rw [if_pos e, if_pos f, v1, Option.bind_some]; exact g2
        · exact no (-1000002) (mz (by rw [if_pos e, if_neg f])) (xz (by rw [if_pos e, if_neg f]))
      · exact no (-1000002) (mz (by rw [if_neg e])) (xz (by rw [if_neg e]))
    · refine no (-1000001) ?_ ?_
      · rw [o_X9_begun, m_isPl hM.1 hn, if_pos c, Option.bind_some, if_neg (by decide), m_isPl hM.1 hn, if_neg d, Option.bind_some, if_pos rfl]
      · rw [o_X8_begun, x_isPl hn, if_pos c, Option.bind_some, if_neg (by decide), x_isPl hn, if_neg d, Option.bind_some, if_pos rfl]
  · refine no (-1000001) ?_ ?_
    · rw [o_X9_begun, m_isPl hM.1 hn, if_neg c, Option.bind_some, if_pos rfl]
    · rw [o_X8_begun, x_isPl hn, if_neg c, Option.bind_some, if_pos rfl]
