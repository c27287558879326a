/-! PURE PART U: player, beats, the trial hall, left -/
theorem s_player {N : Nat} {xp R T x y : Int32} {K D L w : Nat → Int32} (hN : 8 < N) (h : HREL xp R T K D L w) : ∃ r, o_X8_player N xp D L x y = some r ∧ o_X9_player N w x y = some r := by
  obtain ⟨n, k, k', s, s', ⟨rfl, rfl, rfl, hK, hD, hL⟩, hM, hb, hb', hk, hs, h1⟩ := h
  have hn := hb.1.1
  by_cases e : ∃ r, r < n ∧ x = nI r
  · obtain ⟨a, ha, rfl⟩ := e
    have xa : o_X8_isPlayer N (nI n) (nI a) = some 1 := by rw [x_isPl hn, if_pos ⟨a, ha, rfl⟩]
    have ma : o_X9_isPlayer N w (nI a) = some 1 := by rw [m_isPl hM.1 hn, if_pos ⟨a, ha, rfl⟩]
    have ea := hM.1.2 a (by omega)
    by_cases ey : ∃ r, r < 2 + 1 ∧ y = nI r
    · obtain ⟨r, hr, rfl⟩ := ey
      have i1 : o_X9_in N (nI r).toInt64 0 2 = some 1 := in_yes (by omega) rfl hr
      have m0 : ∀ {z : Option Int32}, (if r = 0 then some (nI (s'.1 a)) else if r = 1 then some (nI (s'.2.1 a)) else some (nI (trn n s'.2.1 (s'.2.1 a)))) = z → o_X9_player N w (nI a) (nI r) = z := by
        intro z hz
        rw [o_X9_player, ma, Option.bind_some, if_neg (by decide), i1, Option.bind_some, if_neg (by decide), l17_, nI_add, ogd_t (inb_ok (by omega) (by omega)), l9_, nI_add, ogd_t (inb_ok (by omega) (by omega)), cl_nI (by omega), cl_nI (by omega), ea.2.1, ea.2.2, l0, l1_, ifeq (by omega) (by omega), ifeq (by omega) (by omega), p_X9_sizeOf hN hM.1 hb'.1 (by have := (hb'.1.2 a (by omega)).2.2; omega)]
        exact hz
      have m8 : ∀ {z : Option Int32}, (if r = 0 then some (nI (s.1 a)) else if r = 1 then some (nI (s.2.1 a)) else some (nI (trn n s.2.1 (s.2.1 a)))) = z → o_X8_player N (nI n) D L (nI a) (nI r) = z := by
        intro z hz
        rw [o_X8_player, xa, Option.bind_some, if_neg (by decide), ogd_t (inb_ok (by omega) (by omega)), ogd_t (inb_ok (by omega) (by omega)), cl_nI (by omega), (hD a (by omega)).1, (hL a (by omega)).1, l0, l1_, l2_, ifeq (by omega) (by omega), ifeq (by omega) (by omega), ifeq (by omega) (by omega), p_X3_trainOf hN hn (by omega) hL, Option.bind_some]
        by_cases r0 : r = 0
        · rw [if_pos r0]; rw [if_pos r0] at hz; exact hz
        · by_cases r1 : r = 1
          · rw [if_neg r0, if_pos r1]; rw [if_neg r0, if_pos r1] at hz; exact hz
          · rw [if_neg r0, if_neg r1, if_pos (by omega)]; rw [if_neg r0, if_neg r1] at hz; exact hz
      refine ⟨if r = 0 then nI (s.1 a) else if r = 1 then nI (s.2.1 a) else nI (trn n s.2.1 (s.2.1 a)), m8 ?_, m0 ?_⟩
      · split; rfl; split; rfl; rfl
      · rw [hs.1 a ha, hs.2.1 a ha, ag_trn hs.2.1]; split; rfl; split; rfl; rfl
    · have n0 : ∀ r, r < 3 → ¬ y = nI r := fun r hr q => ey ⟨r, by omega, q⟩
      refine ⟨-1000001, ?_, ?_⟩
      · rw [o_X8_player, xa, Option.bind_some, if_neg (by decide), l0, l1_, l2_, if_neg (n0 0 (by omega)), if_neg (n0 1 (by omega)), if_neg (n0 2 (by omega))]
      · rw [o_X9_player, ma, Option.bind_some, if_neg (by decide), p_in0 (h := 2) (hi := 2) (by omega) rfl, if_neg ey, Option.bind_some, if_pos rfl]
  · refine ⟨-1000001, ?_, ?_⟩
    · rw [o_X8_player, x_isPl hn, if_neg e, Option.bind_some, if_pos rfl]
    · rw [o_X9_player, m_isPl hM.1 hn, if_neg e, Option.bind_some, if_pos rfl]
/-- beats -/
theorem s_beats {N : Nat} {xp R T c1 c2 c3 t1 t2 t3 t4 x y z : Int32} {K D L w : Nat → Int32} (hN : 9 < N) (hh : HREL xp R T K D L w) :
    ∃ r c1' c2' c3' t1' t2' t3' t4', o_X8_beats N xp K D L c1 c2 c3 x y z = some (r, c1', c2', c3') ∧ o_X9_beats N t1 t2 t3 t4 w x y z = some (r, t1', t2', t3', t4') := by
  obtain ⟨n, k, k', s, s', ⟨rfl, rfl, rfl, hK, hD, hL⟩, hM, hb, hb', hk, hs, h1⟩ := hh
  have hn := hb.1.1
  have no : ∀ r : Int32, o_X8_beats N (nI n) K D L c1 c2 c3 x y z = some (r, c1, c2, c3) → o_X9_beats N t1 t2 t3 t4 w x y z = some (r, t1, t2, t3, t4) → ∃ r c1' c2' c3' t1' t2' t3' t4', o_X8_beats N (nI n) K D L c1 c2 c3 x y z = some (r, c1', c2', c3') ∧ o_X9_beats N t1 t2 t3 t4 w x y z = some (r, t1', t2', t3', t4') :=
    fun r g1 g2 => ⟨r, c1, c2, c3, t1, t2, t3, t4, g1, g2⟩
  have mz : (∃ r, r < 1 + 1 ∧ z = nI r) → o_X9_in N z.toInt64 0 1 = some 1 := fun e => by rw [p_in0 (h := 1) (hi := 1) (by omega) rfl, if_pos e]
  have mz' : (¬ ∃ r, r < 1 + 1 ∧ z = nI r) → o_X9_in N z.toInt64 0 1 = some 0 := fun e => by rw [p_in0 (h := 1) (hi := 1) (by omega) rfl, if_neg e]
  have no1 : o_X9_in N z.toInt64 0 1 = some 0 → o_X9_beats N t1 t2 t3 t4 w x y z = some (-1000001, t1, t2, t3, t4) := fun g => by
    rw [o_X9_beats, g, Option.bind_some, if_pos rfl, o_X9_beats_21, if_neg (by decide)]
  rcases pair_v (N := N) x y hn with ⟨p1, p2⟩ | ⟨a, b, ha, hb8, hab, rfl, rfl, p1⟩
  · refine no (-1000001) ?_ ?_
    · rw [o_X8_beats, p1, Option.bind_some, if_pos rfl]
    · by_cases e : ∃ r, r < 1 + 1 ∧ z = nI r
      · rw [o_X9_beats, mz e, Option.bind_some, if_neg (by decide), p2 hM.1, Option.bind_some, o_X9_beats_21, if_neg (by decide)]
      · exact no1 (mz' e)
  · by_cases e : ∃ r, r < 1 + 1 ∧ z = nI r
    · obtain ⟨r, hr, rfl⟩ := e
      have m1 := mz ⟨r, hr, rfl⟩
      have na : ∃ r, r < n ∧ nI a = nI r := ⟨a, ha, rfl⟩
      have nb : ∃ r, r < n ∧ nI b = nI r := ⟨b, hb8, rfl⟩
      have ne : ¬ nI a = nI b := fun q => hab ((nI_eq (by omega) (by omega)).mp q)
      have m2 : o_X9_notTwo N w (nI a) (nI b) = some (if s'.2.1 a = a ∧ s'.2.1 b = b then 0 else -1000002) := by
        rw [o_X9_notTwo, m_isPl hM.1 hn, if_pos na, Option.bind_some, if_neg (by decide), m_isPl hM.1 hn, if_pos nb, Option.bind_some, if_neg (by decide), if_neg ne, p_X9_leads_if hM.1 hb'.1 (by omega) _ (fun r => rfl), p_X9_leads_if hM.1 hb'.1 (by omega) _ (fun r => rfl)]
        by_cases e1 : s'.2.1 a = a
        · rw [if_pos e1]
          by_cases e2 : s'.2.1 b = b
          · rw [if_pos e2, if_pos ⟨e1, e2⟩]
          · rw [if_neg e2, if_neg (fun q => e2 q.2)]
        · rw [if_neg e1, if_neg (fun q => e1 q.1)]
      have x1 : ∀ {q : Option (Int32 × Int32 × Int32 × Int32)}, (if s.2.1 a = a then (if s.2.1 b = b then (if r = 0 then some (nI (win n k s.1 s.2.1 a b), nI (bc k s.1 a b).1, nI (bc k s.1 a b).2.1, nI (bc k s.1 a b).2.2) else some (nI (bc k s.1 a b).2.2, nI (bc k s.1 a b).1, nI (bc k s.1 a b).2.1, nI (bc k s.1 a b).2.2)) else some (-1000002, c1, c2, c3)) else some (-1000002, c1, c2, c3)) = q → o_X8_beats N (nI n) K D L c1 c2 c3 (nI a) (nI b) (nI r) = q := by
        intro q hq
        rw [o_X8_beats, p1, Option.bind_some, if_neg (by decide), if_neg (nlt0 (by omega)), l1_, ifle (by omega) (by omega), if_pos (by omega), p_X3_leads_if hL (by omega) _ (fun r => rfl), p_X3_leads_if hL (by omega) _ (fun r => rfl)]
        by_cases e1 : s.2.1 a = a
        · by_cases e2 : s.2.1 b = b
          · rw [if_pos e1, if_pos e2] at hq ⊢
            rw [p_X3_foretell hN hn hK hD hL (by omega) (by omega) e1 e2, Option.bind_some, l0, ifeq (by omega) (by omega)]
            exact hq
          · rw [if_pos e1, if_neg e2] at hq ⊢; exact hq
        · rw [if_neg e1] at hq ⊢; exact hq
      by_cases c : s.2.1 a = a ∧ s.2.1 b = b
      · have c' : s'.2.1 a = a ∧ s'.2.1 b = b := by rw [← hs.2.1 a ha, ← hs.2.1 b hb8]; exact c
        have eb := ag_bc hk hs.1 ha hb8
        have ew := ag_win hk hs.1 hs.2.1 ha hb8
        have gm : o_X9_beats N t1 t2 t3 t4 w (nI a) (nI b) (nI r) = if r = 0 then some (nI (win n k' s'.1 s'.2.1 a b), nI (win n k' s'.1 s'.2.1 a b), nI (bc k' s'.1 a b).2.2, nI (bc k' s'.1 a b).1, nI (bc k' s'.1 a b).2.1) else some (nI (bc k' s'.1 a b).2.2, nI (win n k' s'.1 s'.2.1 a b), nI (bc k' s'.1 a b).2.2, nI (bc k' s'.1 a b).1, nI (bc k' s'.1 a b).2.1) := by
          rw [o_X9_beats, m1, Option.bind_some, if_neg (by decide), m2, if_pos c', Option.bind_some, o_X9_beats_21, if_pos rfl, p_X9_play hN hM.1 hb'.1 (by omega) (by omega), Option.bind_some, l0, ifeq (by omega) (by omega)]
        by_cases r0 : r = 0
        · refine ⟨nI (win n k s.1 s.2.1 a b), _, _, _, nI (win n k' s'.1 s'.2.1 a b), nI (bc k' s'.1 a b).2.2, nI (bc k' s'.1 a b).1, nI (bc k' s'.1 a b).2.1, x1 (by rw [if_pos c.1, if_pos c.2, if_pos r0]), ?_⟩
          rw [gm, if_pos r0, ew]
        · refine ⟨nI (bc k s.1 a b).2.2, _, _, _, nI (win n k' s'.1 s'.2.1 a b), nI (bc k' s'.1 a b).2.2, nI (bc k' s'.1 a b).1, nI (bc k' s'.1 a b).2.1, x1 (by rw [if_pos c.1, if_pos c.2, if_neg r0]), ?_⟩
          rw [gm, if_neg r0, eb]
      · refine no (-1000002) (x1 ?_) ?_
        · by_cases e1 : s.2.1 a = a
          · rw [if_pos e1, if_neg (fun q => c ⟨e1, q⟩)]
          · rw [if_neg e1]
        · rw [o_X9_beats, m1, Option.bind_some, if_neg (by decide), m2, if_neg (by rw [← hs.2.1 a ha, ← hs.2.1 b hb8]; exact c), Option.bind_some, o_X9_beats_21, if_neg (by decide)]
    · refine no (-1000001) ?_ (no1 (mz' e))
      rw [o_X8_beats, p1, Option.bind_some, if_neg (by decide)]
      by_cases z0 : z < 0
      · rw [if_pos z0]
      · rw [if_neg z0, if_neg]
        intro z1
        rw [l1_] at z1
        rcases icase z 2 (by omega) with ⟨r, hr, rfl⟩ | q | q
        · exact e ⟨r, by omega, rfl⟩
        · exact z0 q
        · exact nle_s (by omega) q.1 z1
/-! the trial hall; start and back -/
theorem p_become_26 {N : Nat} {p1 p2 p3 : Int32} {K D L : Nat → Int32} : ∀ j i m (A B C : Nat → Int32), i + j = 8 → j < m → (∀ q, q < i → A q = K q ∧ B q = D q ∧ C q = L q) →
    ∃ A' B' C', o_X3_become_26 N p1 p2 p3 K D L m A B C (nI i) = some (p1, p2, p3, A', B', C') ∧ ∀ q, q < 8 → A' q = K q ∧ B' q = D q ∧ C' q = L q := by
  intro j
  induction j with
  | zero =>
    intro i m A B C h1 h2 h3
    obtain ⟨m, rfl⟩ := mem_succ h2
    refine ⟨A, B, C, ?_, fun q hq => h3 q (by omega)⟩
    rw [o_X3_become_26]
    dsimp only
    rw [l8_, ifle (by omega) (by omega), if_pos (by omega)]
  | succ j ih =>
    intro i m A B C h1 h2 h3
    obtain ⟨m, rfl⟩ := mem_succ h2
    obtain ⟨A', B', C', g1, g2⟩ := ih (i + 1) m (upd A i (K i)) (upd B i (D i)) (upd C i (L i)) (by omega) (by omega) (fun q hq => by
      by_cases e : q = i
      · subst e; exact ⟨upd_eq _ _ _, upd_eq _ _ _, upd_eq _ _ _⟩
      · rw [upd_ne e, upd_ne e, upd_ne e]; exact h3 q (by omega))
    refine ⟨A', B', C', ?_, g2⟩
    have gi : inb (nI i) 8 = true := inb_ok (by omega) (by omega)
    rw [o_X3_become_26]
    dsimp only
    rw [l8_, ifle (by omega) (by omega), if_neg (by omega), ogd_t gi, ogd_t gi, ogd_t gi, ogd_t gi, ogd_t gi, ogd_t gi, cl_nI (by omega), nI_1]
    exact g1
theorem p_become {N : Nat} {p1 p2 p3 : Int32} {K D L A B C : Nat → Int32} (hN : 9 < N) :
    ∃ A' B' C', o_X3_become N A B C p1 p2 p3 K D L = some (p1, p2, p3, A', B', C') ∧ ∀ q, q < 8 → A' q = K q ∧ B' q = D q ∧ C' q = L q := by
  obtain ⟨A', B', C', g1, g2⟩ := p_become_26 (N := N) (p1 := p1) (p2 := p2) (p3 := p3) (K := K) (D := D) (L := L) 8 0 N A B C (by omega) (by omega) (fun q hq => by omega)
  exact ⟨A', B', C', by rw [o_X3_become, l0]; exact g1, g2⟩
theorem IA_eq {A B : Nat → Int32} {g : Nat → Nat} {m b : Nat} (h : IA A g m b) (e : ∀ q, q < m → B q = A q) : IA B g m b := fun j hj => ⟨by rw [e j hj]; exact (h j hj).1, (h j hj).2⟩
theorem p_start_2 {N : Nat} {w : Nat → Int32} : ∀ j i m (A : Nat → Int32), i + j = 27 → j < m → (∀ q, q < i → A q = w q) → ∃ A', o_X9_start_2 N w m A (nI i) = some A' ∧ ∀ q, q < 27 → A' q = w q := by
  intro j
  induction j with
  | zero =>
    intro i m A h1 h2 h3
    obtain ⟨m, rfl⟩ := mem_succ h2
    refine ⟨A, ?_, fun q hq => h3 q (by omega)⟩
    rw [o_X9_start_2]
    dsimp only
    rw [show (27 : Int32) = nI 27 from rfl, ifle (by omega) (by omega), if_pos (by omega)]
  | succ j ih =>
    intro i m A h1 h2 h3
    obtain ⟨m, rfl⟩ := mem_succ h2
    obtain ⟨A', g1, g2⟩ := ih (i + 1) m (upd A i (w i)) (by omega) (by omega) (fun q hq => by
      by_cases e : q = i
      · subst e; exact upd_eq _ _ _
      · rw [upd_ne e]; exact h3 q (by omega))
    refine ⟨A', ?_, g2⟩
    have gi : inb (nI i) 27 = true := inb_ok (by omega) (by omega)
    rw [o_X9_start_2]
    dsimp only
    rw [show (27 : Int32) = nI 27 from rfl, ifle (by omega) (by omega), if_neg (by omega), ogd_t gi, ogd_t gi, cl_nI (by omega), nI_1]
    exact g1
theorem p_start {N : Nat} {w A : Nat → Int32} (hN : 28 < N) : ∃ A', o_X9_start N w A = some A' ∧ ∀ q, q < 27 → A' q = w q := by
  obtain ⟨A', g1, g2⟩ := p_start_2 (N := N) (w := w) 27 0 N A (by omega) (by omega) (fun q hq => by omega)
  exact ⟨A', by rw [o_X9_start, l0]; exact g1, g2⟩
theorem p_back_2 {N : Nat} {w : Nat → Int32} : ∀ j i m (A : Nat → Int32), i + j = 27 → j < m → (∀ q, q < i → A q = w q) → ∃ A', o_X9_back_2 N w m A (nI i) = some A' ∧ ∀ q, q < 27 → A' q = w q := by
  intro j
  induction j with
  | zero =>
    intro i m A h1 h2 h3
    obtain ⟨m, rfl⟩ := mem_succ h2
    refine ⟨A, ?_, fun q hq => h3 q (by omega)⟩
    rw [o_X9_back_2]
    dsimp only
    rw [show (27 : Int32) = nI 27 from rfl, ifle (by omega) (by omega), if_pos (by omega)]
  | succ j ih =>
    intro i m A h1 h2 h3
    obtain ⟨m, rfl⟩ := mem_succ h2
    obtain ⟨A', g1, g2⟩ := ih (i + 1) m (upd A i (w i)) (by omega) (by omega) (fun q hq => by
      by_cases e : q = i
      · subst e; exact upd_eq _ _ _
      · rw [upd_ne e]; exact h3 q (by omega))
    refine ⟨A', ?_, g2⟩
    have gi : inb (nI i) 27 = true := inb_ok (by omega) (by omega)
    rw [o_X9_back_2]
    dsimp only
    rw [show (27 : Int32) = nI 27 from rfl, ifle (by omega) (by omega), if_neg (by omega), ogd_t gi, ogd_t gi, cl_nI (by omega), nI_1]
    exact g1
theorem p_back {N : Nat} {w A : Nat → Int32} (hN : 28 < N) : ∃ A', o_X9_back N A w = some A' ∧ ∀ q, q < 27 → A' q = w q := by
  obtain ⟨A', g1, g2⟩ := p_back_2 (N := N) (w := w) 27 0 N A (by omega) (by omega) (fun q hq => by omega)
  exact ⟨A', by rw [o_X9_back, l0]; exact g1, g2⟩
theorem MR_eq {w v : Nat → Int32} {n : Nat} {k : Nat → Nat} {s : RS} (h : MR w n k s) (e : ∀ q, q < 27 → v q = w q) : MR v n k s := by
  obtain ⟨⟨a, b⟩, c, d⟩ := h
  refine ⟨⟨by rw [e 0 (by omega)]; exact a, fun p hp => ?_⟩, by rw [e 25 (by omega)]; exact c, by rw [e 26 (by omega)]; exact d⟩
  rw [e (1 + p) (by omega), e (9 + p) (by omega), e (17 + p) (by omega)]
  exact b p hp
theorem x_miss {N n : Nat} (hn : n ≤ 8) : o_X3_isMissing N (nI n) = some (if n = 0 then 1 else 0) := by
  rw [o_X3_isMissing, l0, ifeq (by omega) (by omega)]
  split <;> rfl
/-- the trial hall's entries are such as a hall has -/
def IB (A : Nat → Int32) (b : Nat) : Prop := ∃ g, IA A g 8 b
def TB (tK tD tL : Nat → Int32) : Prop := IB tK 6 ∧ IB tD 3 ∧ IB tL 8
/-- left -/
theorem s_left {N : Nat} {xp R T tp tR tT c1 c2 c3 t1 t2 t3 t4 x : Int32} {K D L tK tD tL w v I E : Nat → Int32} (hN : 28 < N) (hT : TB tK tD tL) (hh : HREL xp R T K D L w) :
    ∃ r tp' tR' tT' tK' tD' tL' c1' c2' c3' t1' t2' t3' t4' w' v' I' E', o_X8_left N xp R T K D L tp tR tT tK tD tL c1 c2 c3 x = some (r, tp', tR', tT', tK', tD', tL', c1', c2', c3') ∧ o_X9_left N t1 t2 t3 t4 w v I E x = some (r, t1', t2', t3', t4', w', v', I', E') ∧ HREL xp R T K D L w' ∧ TB tK' tD' tL' := by
  have h0 := hh
  obtain ⟨n, k, k', s, s', ⟨rfl, rfl, rfl, hK, hD, hL⟩, hM, hb, hb', hk, hs, h1⟩ := hh
  have hn := hb.1.1
  by_cases n0 : n = 0
  · refine ⟨-1000002, tp, tR, tT, tK, tD, tL, c1, c2, c3, t1, t2, t3, t4, w, v, I, E, ?_, ?_, h0, hT⟩
    · rw [o_X8_left, x_miss hn, if_pos n0, Option.bind_some, if_neg (by decide)]
    · rw [o_X9_left, p_X9_players hM.1, Option.bind_some, l0, ifeq (by omega) (by omega), if_pos n0]
  · obtain ⟨tK', tD', tL', b1, b2⟩ := p_become (N := N) (p1 := nI n) (p2 := s.2.2.1) (p3 := s.2.2.2) (K := K) (D := D) (L := L) (A := tK) (B := tD) (C := tL) (by omega)
    obtain ⟨D', L', c1', c2', c3', e1, e2, e3⟩ := p_X3_playToTheEnd (N := N) (n := n) (c1 := c1) (c2 := c2) (c3 := c3) s (by omega) hn (IA_eq hK (fun q hq => (b2 q hq).1)) (IA_eq hD (fun q hq => (b2 q hq).2.1)) (IA_eq hL (fun q hq => (b2 q hq).2.2))
    have sg := sg_toE hk 8 s s' hs
    have fx : ∀ {r : Int32}, (∃ w' v' I' E' t1' t2' t3' t4', o_X9_left N t1 t2 t3 t4 w v I E x = some (r, t1', t2', t3', t4', w', v', I', E') ∧ HREL (nI n) s.2.2.1 s.2.2.2 K D L w') → o_X8_left N (nI n) s.2.2.1 s.2.2.2 K D L tp tR tT tK tD tL c1 c2 c3 x = some (r, nI n, (toE n k 8 s).2.2.1, (toE n k 8 s).2.2.2, tK', D', L', c1', c2', c3') →
        ∃ r tp' tR' tT' tK' tD' tL' c1' c2' c3' t1' t2' t3' t4' w' v' I' E', o_X8_left N (nI n) s.2.2.1 s.2.2.2 K D L tp tR tT tK tD tL c1 c2 c3 x = some (r, tp', tR', tT', tK', tD', tL', c1', c2', c3') ∧ o_X9_left N t1 t2 t3 t4 w v I E x = some (r, t1', t2', t3', t4', w', v', I', E') ∧ HREL (nI n) s.2.2.1 s.2.2.2 K D L w' ∧ TB tK' tD' tL' := by
      rintro r ⟨w', v', I', E', t1', t2', t3', t4', a1, a2⟩ a3
      exact ⟨r, _, _, _, _, _, _, _, _, _, t1', t2', t3', t4', w', v', I', E', a3, a1, a2, ⟨k, IA_eq hK (fun q hq => (b2 q hq).1)⟩, ⟨_, e2⟩, ⟨_, e3⟩⟩
    by_cases ex : ∃ r, r < 2 + 1 ∧ x = nI r
    · obtain ⟨v', v1, v2⟩ := p_start (N := N) (w := w) (A := v) (by omega)
      obtain ⟨t1', t2', t3', t4', w1, I', E', g1, g2⟩ := p_goLeft (N := N) (A := I) (E := E) (t1 := t1) (t2 := t2) (t3 := t3) (t4 := t4) (by omega) hM hb'
      obtain ⟨w2, u1, u2⟩ := p_back (N := N) (w := v') (A := w1) (by omega)
      have hw : ∀ q, q < 27 → w2 q = w q := fun q hq => by rw [u2 q hq, v2 q hq]
      have hr : HREL (nI n) s.2.2.1 s.2.2.2 K D L w2 := HREL_congr h0 (fun j hj => ⟨rfl, rfl, rfl⟩) hw
      have mi : o_X9_in N x.toInt64 0 2 = some 1 := by rw [p_in0 (h := 2) (hi := 2) (by omega) rfl, if_pos ex]
      have gm : o_X9_left N t1 t2 t3 t4 w v I E x = if x = 0 then some (nI ((toE n k' 8 s').2.1 0), t1', t2', t3', t4', w2, v', I', E') else if x = 1 then some ((toE n k' 8 s').2.2.1 - s'.2.2.1, t1', t2', t3', t4', w2, v', I', E') else some ((toE n k' 8 s').2.2.2 - s'.2.2.2, t1', t2', t3', t4', w2, v', I', E') := by
        rw [o_X9_left, p_X9_players hM.1, Option.bind_some, l0, ifeq (by omega) (by omega), if_neg n0, ← l0, mi, Option.bind_some, if_neg (by decide), v1, Option.bind_some, g1, Option.bind_some, ogd_t (by decide), ogd_t (by decide), ogd_t (by decide), ogd_t (by decide), u1, Option.bind_some, show Int32.toNatClampNeg 25 = 25 from rfl, show Int32.toNatClampNeg 26 = 26 from rfl]
        dsimp only
        rw [g2.2.1, g2.2.2, v2 25 (by omega), v2 26 (by omega), hM.2.1, hM.2.2]
      have gx : ∀ {z}, (if x = 0 then some (nI ((toE n k 8 s).2.1 0), nI n, (toE n k 8 s).2.2.1, (toE n k 8 s).2.2.2, tK', D', L', c1', c2', c3') else if x = 1 then some ((toE n k 8 s).2.2.1 - s.2.2.1, nI n, (toE n k 8 s).2.2.1, (toE n k 8 s).2.2.2, tK', D', L', c1', c2', c3') else if x = 2 then some ((toE n k 8 s).2.2.2 - s.2.2.2, nI n, (toE n k 8 s).2.2.1, (toE n k 8 s).2.2.2, tK', D', L', c1', c2', c3') else some (-1000001, nI n, (toE n k 8 s).2.2.1, (toE n k 8 s).2.2.2, tK', D', L', c1', c2', c3')) = z → o_X8_left N (nI n) s.2.2.1 s.2.2.2 K D L tp tR tT tK tD tL c1 c2 c3 x = z := by
        intro z hz
        rw [o_X8_left, x_miss hn, if_neg n0, Option.bind_some, if_pos rfl, b1, Option.bind_some, e1, Option.bind_some, ogd_t (by decide), show Int32.toNatClampNeg 0 = 0 from rfl]
        dsimp only
        rw [(e3 0 (by omega)).1]
        exact hz
      have q1 := sg.2.1 0 (by omega)
      have q2 : (toE n k 8 s).2.2.1 = (toE n k' 8 s').2.2.1 := congrArg (·.1) sg.2.2
      have q3 : (toE n k 8 s).2.2.2 = (toE n k' 8 s').2.2.2 := congrArg (·.2) sg.2.2
      have q4 : s.2.2.1 = s'.2.2.1 := congrArg (·.1) hs.2.2
      have q5 : s.2.2.2 = s'.2.2.2 := congrArg (·.2) hs.2.2
      by_cases x0 : x = 0
      · exact fx (r := nI ((toE n k 8 s).2.1 0)) ⟨w2, v', I', E', t1', t2', t3', t4', by rw [gm, if_pos x0, q1], hr⟩ (gx (by rw [if_pos x0]))
      · by_cases x1 : x = 1
        · exact fx (r := (toE n k 8 s).2.2.1 - s.2.2.1) ⟨w2, v', I', E', t1', t2', t3', t4', by rw [gm, if_neg x0, if_pos x1, q2, q4], hr⟩ (gx (by rw [if_neg x0, if_pos x1]))
        · have x2 : x = 2 := by
            obtain ⟨r, hr, rfl⟩ := ex
            have : r = 2 := by
              rcases (show r = 0 ∨ r = 1 ∨ r = 2 by omega) with e | e | e
              · subst e; exact absurd rfl x0
              · subst e; exact absurd rfl x1
              · exact e
            rw [this]; rfl
          exact fx (r := (toE n k 8 s).2.2.2 - s.2.2.2) ⟨w2, v', I', E', t1', t2', t3', t4', by rw [gm, if_neg x0, if_neg x1, q3, q5], hr⟩ (gx (by rw [if_neg x0, if_neg x1, if_pos x2]))
    · have n3 : ∀ r, r < 3 → ¬ x = nI r := fun r hr q => ex ⟨r, by omega, q⟩
      refine fx (r := -1000001) ⟨w, v, I, E, t1, t2, t3, t4, ?_, h0⟩ ?_
      · rw [o_X9_left, p_X9_players hM.1, Option.bind_some, l0, ifeq (by omega) (by omega), if_neg n0, ← l0, p_in0 (h := 2) (hi := 2) (by omega) rfl, if_neg ex, Option.bind_some, if_pos rfl]
      · rw [o_X8_left, x_miss hn, if_neg n0, Option.bind_some, if_pos rfl, b1, Option.bind_some, e1, Option.bind_some, if_neg (show ¬ x = 0 from n3 0 (by omega)), if_neg (show ¬ x = 1 from n3 1 (by omega)), if_neg (show ¬ x = 2 from n3 2 (by omega))]
