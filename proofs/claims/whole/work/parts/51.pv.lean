/-! PURE PART V: the longest train -/
theorem p_long_48 {N n a : Nat} {K : Nat → Int32} {k : Nat → Nat} {l2 : Int32} (hN : 9 < N) (hn : n ≤ 8) (hK : IA K k 8 6) (ha : a < 1000) : ∀ j i m (s : RS) (D L : Nat → Int32) (c1 c2 c3 : Int32), i + j = a → j < m → IA D s.1 8 3 → IA L s.2.1 8 8 →
    ∃ D' L' c1' c2' c3', o_X8_longest_48 N (nI n) K (nI a) l2 m s.2.2.1 s.2.2.2 D L c1 c2 c3 (nI i) = o_X8_longest_77 N (nI n) (toE n k j s).2.2.1 (toE n k j s).2.2.2 K D' L' c1' c2' c3' l2 ∧ IA D' (toE n k j s).1 8 3 ∧ IA L' (toE n k j s).2.1 8 8 := by
  intro j
  induction j with
  | zero =>
    intro i m s D L c1 c2 c3 h1 h2 hD hL
    obtain ⟨m, rfl⟩ := mem_succ h2
    refine ⟨D, L, c1, c2, c3, ?_, hD, hL⟩
    rw [o_X8_longest_48]
    dsimp only
    rw [ifle (by omega) (by omega), if_pos (by omega)]
    rfl
  | succ j ih =>
    intro i m s D L c1 c2 c3 h1 h2 hD hL
    obtain ⟨m, rfl⟩ := mem_succ h2
    have t := lds_le n s.2.1
    rw [toE]
    by_cases e : lds n s.2.1 ≤ 1
    · rw [if_pos e]
      refine ⟨D, L, c1, c2, c3, ?_, hD, hL⟩
      rw [o_X8_longest_48]
      dsimp only
      rw [ifle (by omega) (by omega), if_neg (by omega), p_X3_leaders (by omega) hn hL, Option.bind_some, l1_, ifle (by omega) (by omega), if_pos e]
    · rw [if_neg e]
      obtain ⟨D1, L1, d1, d2, d3, f1, f2, f3⟩ := p_X3_playRound (N := N) (R := s.2.2.1) (T := s.2.2.2) (c1 := c1) (c2 := c2) (c3 := c3) hN hn hK hD hL
      obtain ⟨D2, L2, e1, e2, e3, g1, g2, g3⟩ := ih (i + 1) m (rstep n k s) D1 L1 d1 d2 d3 (by omega) (by omega) f2 f3
      refine ⟨D2, L2, e1, e2, e3, ?_, g2, g3⟩
      rw [o_X8_longest_48]
      dsimp only
      rw [ifle (by omega) (by omega), if_neg (by omega), p_X3_leaders (by omega) hn hL, Option.bind_some, l1_, ifle (by omega) (by omega), if_neg e, f1, Option.bind_some, nI_add]
      exact g1
theorem p_long_41 {N n a : Nat} {v : Nat → Int32} {k : Nat → Nat} {l2 : Int32} (hN : 9 < N) (ha : a < 1000) : ∀ j i m (s : RS) (w I E : Nat → Int32) (t1 t2 t3 t4 : Int32), i + j = a → j < m → MR w n k s → RB n k s →
    ∃ t1' t2' t3' t4' w' I' E', o_X9_longest_41 N v (nI a) l2 m t1 t2 t3 t4 w I E (nI i) = o_X9_longest_64 N t1' t2' t3' t4' w' v I' E' l2 ∧ MR w' n k (toE n k j s) := by
  intro j
  induction j with
  | zero =>
    intro i m s w I E t1 t2 t3 t4 h1 h2 h hb
    obtain ⟨m, rfl⟩ := mem_succ h2
    refine ⟨t1, t2, t3, t4, w, I, E, ?_, h⟩
    rw [o_X9_longest_41]
    dsimp only
    rw [ifle (by omega) (by omega), if_pos (by omega)]
  | succ j ih =>
    intro i m s w I E t1 t2 t3 t4 h1 h2 h hb
    obtain ⟨m, rfl⟩ := mem_succ h2
    have t := lds_le n s.2.1
    have hn := hb.1.1
    rw [toE]
    by_cases e : lds n s.2.1 ≤ 1
    · rw [if_pos e]
      refine ⟨t1, t2, t3, t4, w, I, E, ?_, h⟩
      rw [o_X9_longest_41]
      dsimp only
      rw [ifle (by omega) (by omega), if_neg (by omega), p_X9_leaders (by omega) h.1 hb.1, Option.bind_some, l1_, ifle (by omega) (by omega), if_pos e]
    · rw [if_neg e]
      obtain ⟨a1, a2, a3, a4, w1, A1, E1, g1, g2⟩ := p_round (N := N) (A := I) (E := E) (t1 := t1) (t2 := t2) (t3 := t3) (t4 := t4) hN h hb
      obtain ⟨b1, b2, b3, b4, w2, A2, E2, u1, u2⟩ := ih (i + 1) m (rstep n k s) w1 A1 E1 a1 a2 a3 a4 (by omega) (by omega) g2 (rstep_ok hb).1
      refine ⟨b1, b2, b3, b4, w2, A2, E2, ?_, u2⟩
      rw [o_X9_longest_41]
      dsimp only
      rw [ifle (by omega) (by omega), if_neg (by omega), p_X9_leaders (by omega) h.1 hb.1, Option.bind_some, l1_, ifle (by omega) (by omega), if_neg e, g1, Option.bind_some, nI_add]
      exact u1
/-- the longest train: its size and who leads it, the first of them -/
def ltr (n : Nat) (f : Nat → Nat) : Nat → Nat → Nat → Nat → Nat × Nat
  | 0, _, b, q => (b, q)
  | j + 1, i, b, q => if f i = i ∧ b < trn n f i then ltr n f j (i + 1) (trn n f i) i else ltr n f j (i + 1) b q
theorem ltr_ge {n : Nat} {f : Nat → Nat} : ∀ j i b q, b ≤ (ltr n f j i b q).1
  | 0, _, b, _ => Nat.le_refl b
  | j + 1, i, b, q => by
    rw [ltr]
    split
    · have := ltr_ge (n := n) (f := f) j (i + 1) (trn n f i) i
      omega
    · exact ltr_ge j (i + 1) b q
theorem ltr_all {n : Nat} {f : Nat → Nat} : ∀ j i b q p, i ≤ p → p < i + j → f p = p → trn n f p ≤ (ltr n f j i b q).1
  | 0, _, _, _, p, h1, h2, _ => by omega
  | j + 1, i, b, q, p, h1, h2, h3 => by
    rw [ltr]
    by_cases e : p = i
    · subst e
      split
      · exact ltr_ge j (p + 1) (trn n f p) p
      · rename_i hh
        have : trn n f p ≤ b := by
          rcases Nat.lt_or_ge b (trn n f p) with g | g
          · exact absurd ⟨h3, g⟩ hh
          · exact g
        exact Nat.le_trans this (ltr_ge j (p + 1) b q)
    · split
      · exact ltr_all j (i + 1) _ _ p (by omega) (by omega) h3
      · exact ltr_all j (i + 1) _ _ p (by omega) (by omega) h3
theorem ltr_inv {n : Nat} {f : Nat → Nat} : ∀ j i b q, i + j ≤ n → (b = 0 ∧ q = 0) ∨ (f q = q ∧ b = trn n f q ∧ q < n) → ((ltr n f j i b q).1 = 0 ∧ (ltr n f j i b q).2 = 0) ∨ (f (ltr n f j i b q).2 = (ltr n f j i b q).2 ∧ (ltr n f j i b q).1 = trn n f (ltr n f j i b q).2 ∧ (ltr n f j i b q).2 < n)
  | 0, _, _, _, _, h => h
  | j + 1, i, b, q, h1, h => by
    rw [ltr]
    split
    · rename_i hh
      exact ltr_inv j (i + 1) _ _ (by omega) (Or.inr ⟨hh.1, rfl, by omega⟩)
    · exact ltr_inv j (i + 1) _ _ (by omega) h
theorem ltr_n {n : Nat} {f : Nat → Nat} (hn : 0 < n) (h : HI n f) : f (ltr n f n 0 0 0).2 = (ltr n f n 0 0 0).2 ∧ (ltr n f n 0 0 0).1 = trn n f (ltr n f n 0 0 0).2 ∧ (ltr n f n 0 0 0).2 < n := by
  rcases ltr_inv (n := n) (f := f) n 0 0 0 (by omega) (Or.inl ⟨rfl, rfl⟩) with g | g
  · exfalso
    obtain ⟨h1, h2⟩ := h 0 hn
    have a := ltr_all (n := n) (f := f) n 0 0 0 (f 0) (by omega) (by omega) h2
    have b : cn (fun _ => false) 0 n < trn n f (f 0) := cn_strict (q := f 0) n 0 (fun j _ _ e => by cases e) (by omega) (by omega) (beq_iff_eq.mpr h2) (by decide)
    omega
  · exact g
theorem ltr_congr {n : Nat} {f g : Nat → Nat} (h : AG n f g) : ∀ j i b q, i + j ≤ n → ltr n f j i b q = ltr n g j i b q
  | 0, _, _, _, _ => rfl
  | j + 1, i, b, q, h1 => by
    rw [ltr, ltr, h i (by omega), ag_trn h]
    split
    · exact ltr_congr h j (i + 1) _ _ (by omega)
    · exact ltr_congr h j (i + 1) _ _ (by omega)
theorem p_longestTrain_6 {N n : Nat} {L : Nat → Int32} {f : Nat → Nat} (hN : 9 < N) (hn : n ≤ 8) (hL : IA L f 8 8) : ∀ j i m b q, i + j = n → j < m → b ≤ n → o_X3_longestTrain_6 N (nI n) L m (nI b) (nI q) (nI i) = some (nI (ltr n f j i b q).2) := by
  intro j
  induction j with
  | zero =>
    intro i m b q h1 h2 h3
    obtain ⟨m, rfl⟩ := mem_succ h2
    rw [o_X3_longestTrain_6]
    dsimp only
    rw [ifle (by omega) (by omega), if_pos (by omega)]
    rfl
  | succ j ih =>
    intro i m b q h1 h2 h3
    obtain ⟨m, rfl⟩ := mem_succ h2
    have t := trn_le n f i
    rw [o_X3_longestTrain_6]
    dsimp only
    rw [ifle (by omega) (by omega), if_neg (by omega), p_X3_leads_if hL (by omega) _ (fun r => rfl), ltr]
    by_cases e : f i = i
    · rw [if_pos e, p_X3_trainOf (by omega) hn (by omega) hL, Option.bind_some, Option.bind_some, e, ifle (by omega) (by omega)]
      by_cases g : b < trn n f i
      · rw [if_neg (by omega), if_pos ⟨rfl, g⟩, nI_1]
        exact ih (i + 1) m _ i (by omega) (by omega) t
      · rw [if_pos (by omega), if_neg (fun x => g x.2), nI_1]
        exact ih (i + 1) m _ q (by omega) (by omega) h3
    · rw [if_neg e, if_neg (fun x => e x.1), nI_1]
      exact ih (i + 1) m _ q (by omega) (by omega) h3
theorem p_long_72 {N n : Nat} {w v I E : Nat → Int32} {k d f : Nat → Nat} {l2 t1 t2 t3 t4 : Int32} (hN : 28 < N) (hM : MA w n k d f) (hb : HB n k d f) : ∀ j i m b q, i + j = n → j < m → b ≤ n → ∃ w', o_X9_longest_72 N t1 t2 t3 t4 w v I E l2 m (nI b) (nI q) (nI i) = (if l2 = 0 then some (nI (ltr n f j i b q).1, t1, t2, t3, t4, w', v, I, E) else some (nI (ltr n f j i b q).2, t1, t2, t3, t4, w', v, I, E)) ∧ ∀ q, q < 27 → w' q = v q := by
  have hn := hb.1
  intro j
  induction j with
  | zero =>
    intro i m b q h1 h2 h3
    obtain ⟨m, rfl⟩ := mem_succ h2
    obtain ⟨w2, u1, u2⟩ := p_back (N := N) (w := v) (A := w) (by omega)
    refine ⟨w2, ?_, u2⟩
    rw [o_X9_longest_72]
    dsimp only
    rw [p_X9_players hM, Option.bind_some, ifle (by omega) (by omega), if_pos (by omega), u1, Option.bind_some]
    rfl
  | succ j ih =>
    intro i m b q h1 h2 h3
    obtain ⟨m, rfl⟩ := mem_succ h2
    have t := trn_le n f i
    have key : ∀ s0 : Nat, s0 ≤ n → (∃ w', (if b < s0 then o_X9_longest_72 N t1 t2 t3 t4 w v I E l2 m (nI s0) (nI i) (nI (i + 1)) else o_X9_longest_72 N t1 t2 t3 t4 w v I E l2 m (nI b) (nI q) (nI (i + 1))) = (if l2 = 0 then some (nI (ltr n f (j + 1) i b q).1, t1, t2, t3, t4, w', v, I, E) else some (nI (ltr n f (j + 1) i b q).2, t1, t2, t3, t4, w', v, I, E)) ∧ ∀ q, q < 27 → w' q = v q) →
        ∃ w', o_X9_longest_100 N (o_X9_longest_72 N t1 t2 t3 t4 w v I E l2 m) t1 t2 t3 t4 w v I E l2 (nI b) (nI q) (nI i) (nI s0) = (if l2 = 0 then some (nI (ltr n f (j + 1) i b q).1, t1, t2, t3, t4, w', v, I, E) else some (nI (ltr n f (j + 1) i b q).2, t1, t2, t3, t4, w', v, I, E)) ∧ ∀ q, q < 27 → w' q = v q := by
      rintro s0 hs ⟨w', g1, g2⟩
      refine ⟨w', ?_, g2⟩
      rw [o_X9_longest_100, ifle (by omega) (by omega)]
      by_cases e : s0 ≤ b
      · rw [if_neg (by omega)] at g1
        rw [if_pos e, o_X9_longest_115, ifle (by omega) (by omega), if_pos e, nI_1]
        exact g1
      · rw [if_pos (by omega)] at g1
        rw [if_neg e, o_X9_longest_115, ifle (by omega) (by omega), if_neg e, nI_1]
        exact g1
    have fin : ∀ s0 : Nat, s0 ≤ n → (∃ w', o_X9_longest_100 N (o_X9_longest_72 N t1 t2 t3 t4 w v I E l2 m) t1 t2 t3 t4 w v I E l2 (nI b) (nI q) (nI i) (nI s0) = (if l2 = 0 then some (nI (ltr n f (j + 1) i b q).1, t1, t2, t3, t4, w', v, I, E) else some (nI (ltr n f (j + 1) i b q).2, t1, t2, t3, t4, w', v, I, E)) ∧ ∀ q, q < 27 → w' q = v q) → (if f i = i then trn n f i else 0) = s0 →
        ∃ w', o_X9_longest_72 N t1 t2 t3 t4 w v I E l2 (m + 1) (nI b) (nI q) (nI i) = (if l2 = 0 then some (nI (ltr n f (j + 1) i b q).1, t1, t2, t3, t4, w', v, I, E) else some (nI (ltr n f (j + 1) i b q).2, t1, t2, t3, t4, w', v, I, E)) ∧ ∀ q, q < 27 → w' q = v q := by
      rintro s0 hs ⟨w', g1, g2⟩ hh
      refine ⟨w', ?_, g2⟩
      rw [o_X9_longest_72]
      dsimp only
      rw [p_X9_players hM, Option.bind_some, ifle (by omega) (by omega), if_neg (by omega), p_X9_leads_if hM hb (by omega) _ (fun r => rfl)]
      by_cases e : f i = i
      · rw [if_pos e] at hh ⊢
        rw [p_X9_sizeOf (by omega) hM hb (by omega), Option.bind_some, hh]
        exact g1
      · rw [if_neg e] at hh ⊢
        subst hh
        exact g1
    refine fin _ (by split; exact t; omega) (key _ (by split; exact t; omega) ?_) rfl
    rw [ltr]
    by_cases e : f i = i
    · rw [if_pos e]
      by_cases g : b < trn n f i
      · rw [if_pos g, if_pos ⟨e, g⟩]; exact ih (i + 1) m _ i (by omega) (by omega) t
      · rw [if_neg g, if_neg (fun x => g x.2)]; exact ih (i + 1) m _ q (by omega) (by omega) h3
    · rw [if_neg e, if_neg (by omega), if_neg (fun x => e x.1)]; exact ih (i + 1) m _ q (by omega) (by omega) h3
/-- longest -/
theorem s_longest {N : Nat} {xp R T tp tR tT c1 c2 c3 t1 t2 t3 t4 x y : Int32} {K D L tK tD tL w v I E : Nat → Int32} (hN : 28 < N) (hT : TB tK tD tL) (hh : HREL xp R T K D L w) :
    ∃ r tp' tR' tT' tK' tD' tL' c1' c2' c3' t1' t2' t3' t4' w' v' I' E', o_X8_longest N xp R T K D L tp tR tT tK tD tL c1 c2 c3 x y = some (r, tp', tR', tT', tK', tD', tL', c1', c2', c3') ∧ o_X9_longest N t1 t2 t3 t4 w v I E x y = some (r, t1', t2', t3', t4', w', v', I', E') ∧ HREL xp R T K D L w' ∧ TB tK' tD' tL' := by
  have h0 := hh
  obtain ⟨n, k, k', s, s', ⟨rfl, rfl, rfl, hK, hD, hL⟩, hM, hb, hb', hk, hs, h1⟩ := hh
  have hn := hb.1.1
  have no : ∀ r : Int32, o_X8_longest N (nI n) s.2.2.1 s.2.2.2 K D L tp tR tT tK tD tL c1 c2 c3 x y = some (r, tp, tR, tT, tK, tD, tL, c1, c2, c3) → o_X9_longest N t1 t2 t3 t4 w v I E x y = some (r, t1, t2, t3, t4, w, v, I, E) →
      ∃ r tp' tR' tT' tK' tD' tL' c1' c2' c3' t1' t2' t3' t4' w' v' I' E', o_X8_longest N (nI n) s.2.2.1 s.2.2.2 K D L tp tR tT tK tD tL c1 c2 c3 x y = some (r, tp', tR', tT', tK', tD', tL', c1', c2', c3') ∧ o_X9_longest N t1 t2 t3 t4 w v I E x y = some (r, t1', t2', t3', t4', w', v', I', E') ∧ HREL (nI n) s.2.2.1 s.2.2.2 K D L w' ∧ TB tK' tD' tL' :=
    fun r g1 g2 => ⟨r, _, _, _, _, _, _, _, _, _, t1, t2, t3, t4, w, v, I, E, g1, g2, h0, hT⟩
  by_cases n0 : n = 0
  · refine no (-1000002) ?_ ?_
    · rw [o_X8_longest, x_miss hn, if_pos n0, Option.bind_some, if_neg (by decide)]
    · rw [o_X9_longest, p_X9_players hM.1, Option.bind_some, l0, ifeq (by omega) (by omega), if_pos n0]
  · have mx : o_X9_in N x.toInt64 0 9 = some (if (∃ r, r < 9 + 1 ∧ x = nI r) then 1 else 0) := p_in0 (h := 9) (hi := 9) (by omega) rfl
    have my : o_X9_in N y.toInt64 0 1 = some (if (∃ r, r < 1 + 1 ∧ y = nI r) then 1 else 0) := p_in0 (h := 1) (hi := 1) (by omega) rfl
    have m0 : o_X9_longest N t1 t2 t3 t4 w v I E x y = if (∃ r, r < 9 + 1 ∧ x = nI r) then (if (∃ r, r < 1 + 1 ∧ y = nI r) then Option.bind (o_X9_start N w v) (fun r36 => o_X9_longest_41 N r36 x y N t1 t2 t3 t4 w I E 0) else some (-1000001, t1, t2, t3, t4, w, v, I, E)) else some (-1000001, t1, t2, t3, t4, w, v, I, E) := by
      rw [o_X9_longest, p_X9_players hM.1, Option.bind_some, l0, ifeq (by omega) (by omega), if_neg n0, ← l0, mx, my, Option.bind_some]
      by_cases ex : ∃ r, r < 9 + 1 ∧ x = nI r
      · rw [if_pos ex, if_pos ex, if_neg (by decide), Option.bind_some]
        by_cases ey : ∃ r, r < 1 + 1 ∧ y = nI r
        · rw [if_pos ey, if_pos ey, if_neg (by decide)]
        · rw [if_neg ey, if_neg ey, if_pos rfl]
      · rw [if_neg ex, if_neg ex, if_pos rfl]
    have x0 : o_X8_longest N (nI n) s.2.2.1 s.2.2.2 K D L tp tR tT tK tD tL c1 c2 c3 x y = if (∃ r, r < 9 + 1 ∧ x = nI r) then (if (∃ r, r < 1 + 1 ∧ y = nI r) then Option.bind (o_X3_become N tK tD tL (nI n) s.2.2.1 s.2.2.2 K D L) (fun r43 => o_X8_longest_48 N r43.1 r43.2.2.2.1 x y N r43.2.1 r43.2.2.1 r43.2.2.2.2.1 r43.2.2.2.2.2 c1 c2 c3 0) else some (-1000001, tp, tR, tT, tK, tD, tL, c1, c2, c3)) else some (-1000001, tp, tR, tT, tK, tD, tL, c1, c2, c3) := by
      rw [o_X8_longest, x_miss hn, if_neg n0, Option.bind_some, if_pos rfl]
      rcases icase x 10 (by omega) with ⟨r, hr, rfl⟩ | q | q
      · have px : ∃ r', r' < 9 + 1 ∧ nI r = nI r' := ⟨r, hr, rfl⟩
        rw [if_neg (nlt0 (by omega)), l9_, iflt (by omega) (by omega), if_neg (by omega), if_pos px]
        rcases icase y 2 (by omega) with ⟨u, hu, rfl⟩ | q | q
        · have py : ∃ r', r' < 1 + 1 ∧ nI u = nI r' := ⟨u, hu, rfl⟩
          rw [if_neg (nlt0 (by omega)), l1_, ifle (by omega) (by omega), if_pos (by omega), if_pos py]
        · have py : ¬ ∃ r', r' < 1 + 1 ∧ y = nI r' := by
            rintro ⟨u, hu, rfl⟩
            exact nlt0 (by omega) q
          rw [if_pos q, if_neg py]
        · have py : ¬ ∃ r', r' < 1 + 1 ∧ y = nI r' := by
            rintro ⟨u, hu, rfl⟩
            exact absurd q.1 (nI_ge (by omega) (by omega))
          rw [if_neg q.2, l1_, if_neg (nle_s (by omega) q.1), if_neg py]
      · have px : ¬ ∃ r', r' < 9 + 1 ∧ x = nI r' := by
          rintro ⟨u, hu, rfl⟩
          exact nlt0 (by omega) q
        rw [if_pos q, if_neg px]
      · have px : ¬ ∃ r', r' < 9 + 1 ∧ x = nI r' := by
          rintro ⟨u, hu, rfl⟩
          exact absurd q.1 (nI_ge (by omega) (by omega))
        rw [if_neg q.2, l9_, if_pos (gt_s (by omega) q.1), if_neg px]
    by_cases ex : ∃ r, r < 9 + 1 ∧ x = nI r
    · by_cases ey : ∃ r, r < 1 + 1 ∧ y = nI r
      · rw [if_pos ex, if_pos ey] at m0 x0
        obtain ⟨a, ha, rfl⟩ := ex
        obtain ⟨tK', tD', tL', b1, b2⟩ := p_become (N := N) (p1 := nI n) (p2 := s.2.2.1) (p3 := s.2.2.2) (K := K) (D := D) (L := L) (A := tK) (B := tD) (C := tL) (by omega)
        rw [b1, Option.bind_some] at x0
        obtain ⟨D', L', e1, e2, e3, f1, f2, f3⟩ := p_long_48 (N := N) (n := n) (K := tK') (k := k) (l2 := y) (by omega) hn (IA_eq hK (fun q hq => (b2 q hq).1)) (show a < 1000 by omega) a 0 N s tD' tL' c1 c2 c3 (by omega) (by omega) (IA_eq hD (fun q hq => (b2 q hq).2.1)) (IA_eq hL (fun q hq => (b2 q hq).2.2))
        obtain ⟨v', v1, v2⟩ := p_start (N := N) (w := w) (A := v) (by omega)
        rw [v1, Option.bind_some] at m0
        obtain ⟨a1, a2, a3, a4, w1, I1, E1, g1, g2⟩ := p_long_41 (N := N) (v := v') (l2 := y) (by omega) (show a < 1000 by omega) a 0 N s' w I E t1 t2 t3 t4 (by omega) (by omega) hM hb'
        have r1 := (toE_ok (n := n) (k := k) a s hb).1
        have r2 := (toE_ok (n := n) (k := k') a s' hb').1
        obtain ⟨w2, u1, u2⟩ := p_long_72 (N := N) (v := v') (I := I1) (E := E1) (l2 := y) (t1 := a1) (t2 := a2) (t3 := a3) (t4 := a4) (by omega) g2.1 r2.1 n 0 N 0 0 (by omega) (by omega) (by omega)
        have sg := sg_toE hk a s s' hs
        obtain ⟨z1, z2, z3⟩ := ltr_n (show 0 < n by omega) r1.2
        have hr : HREL (nI n) s.2.2.1 s.2.2.2 K D L w2 := HREL_congr h0 (fun j hj => ⟨rfl, rfl, rfl⟩) (fun q hq => by rw [u2 q hq, v2 q hq])
        have zc := ltr_congr sg.2.1 n 0 0 0 (by omega)
        have xx : o_X8_longest_77 N (nI n) (toE n k a s).2.2.1 (toE n k a s).2.2.2 tK' D' L' e1 e2 e3 y = if y = 0 then some (nI (ltr n (toE n k a s).2.1 n 0 0 0).1, nI n, (toE n k a s).2.2.1, (toE n k a s).2.2.2, tK', D', L', e1, e2, e3) else some (nI (ltr n (toE n k a s).2.1 n 0 0 0).2, nI n, (toE n k a s).2.2.1, (toE n k a s).2.2.2, tK', D', L', e1, e2, e3) := by
          have hx := p_longestTrain_6 (N := N) (by omega) hn f3 n 0 N 0 0 (by omega) (by omega) (by omega)
          rw [o_X8_longest_77, o_X3_longestTrain, l0, hx, Option.bind_some, p_X3_trainOf (by omega) hn (by omega) f3, Option.bind_some, z1, ← z2]
        rw [show (nI n, s.2.2.1, s.2.2.2, tK', tD', tL').1 = nI n from rfl] at x0
        dsimp only at x0
        rw [l0, f1, xx] at x0
        rw [l0, g1, o_X9_longest_64, l0, u1] at m0
        by_cases y0 : y = 0
        · rw [if_pos y0] at x0 m0
          exact ⟨_, _, _, _, _, _, _, _, _, _, _, _, _, _, w2, _, _, _, x0, by rw [m0, zc], hr, ⟨k, IA_eq hK (fun q hq => (b2 q hq).1)⟩, ⟨_, f2⟩, ⟨_, f3⟩⟩
        · rw [if_neg y0] at x0 m0
          exact ⟨_, _, _, _, _, _, _, _, _, _, _, _, _, _, w2, _, _, _, x0, by rw [m0, zc], hr, ⟨k, IA_eq hK (fun q hq => (b2 q hq).1)⟩, ⟨_, f2⟩, ⟨_, f3⟩⟩
      · rw [if_pos ex, if_neg ey] at m0 x0
        exact no _ x0 m0
    · rw [if_neg ex] at m0 x0
      exact no _ x0 m0
