/-! PURE PART QJ: a round of groups -/
theorem m1_ne (a : Nat) (ha : a < 100000) : ¬ (-1 : Int32) = nI a := fun q => nlt0 (r := a) (by omega) (by rw [← q]; decide)
theorem rem2 {x : Nat} (h : x < 100000) : nI x - nI x / 2 * 2 = nI (x % 2) := pk_rem (a := x) (d := 2) (by omega) (by omega) (by omega)
theorem div2 {x : Nat} (h : x < 100000) : nI x / 2 = nI (x / 2) := pk_div (a := x) (d := 2) (by omega) (by omega) (by omega)
section JOIN
variable {N n r bd : Nat} {k f : Nat → Nat} {Kd G Tr Be : Nat → Int32} {gs : Int32}
theorem x_keep {a : Nat} (ha : a < 8) : ∀ j i m (V : Nat → Int32), i + j = 3 → j < m → ∃ V', o_X7_keepWays_2 N Be (nI a) m V (nI i) = some V' ∧ (∀ h, i ≤ h → h < 3 → V' (3 * a + h) = Be (3 * a + h)) ∧ ∀ q, (q < 3 * a + i ∨ 3 * a + 3 ≤ q) → V' q = V q := by
  intro j
  induction j with
  | zero =>
    intro i m V h1 h2
    obtain ⟨m, rfl⟩ := mem_succ h2
    refine ⟨V, ?_, fun h a b => by omega, fun q _ => rfl⟩
    rw [o_X7_keepWays_2]
    dsimp only
    rw [l3_, ifle (by omega) (by omega), if_pos (by omega)]
  | succ j ih =>
    intro i m V h1 h2
    obtain ⟨m, rfl⟩ := mem_succ h2
    obtain ⟨V', g1, g2, g3⟩ := ih (i + 1) m (upd V (3 * a + i) (Be (3 * a + i))) (by omega) (by omega)
    refine ⟨V', ?_, fun h x y => ?_, fun q hq => by rw [g3 q (by omega), upd_ne (by omega)]⟩
    · have e : nI a * nI 3 + nI i = nI (3 * a + i) := by rw [pk_mul, nI_add, Nat.mul_comm]
      have g : inb (nI (3 * a + i)) 24 = true := inb_ok (by omega) (by omega)
      rw [o_X7_keepWays_2]
      dsimp only
      rw [l3_, ifle (by omega) (by omega), if_neg (by omega), e, ogd_t g, ogd_t g, cl_nI (by omega), nI_1]
      exact g1
    · by_cases e : h = i
      · subst e; rw [g3 _ (by omega), upd_eq]
      · exact g2 h (by omega) y
def PAIR (f : Nat → Nat) (r a b : Nat) : Prop := f a = a ∧ f b = b ∧ blk f r a % 2 = 0 ∧ blk f r b = blk f r a + 1
def KP (n : Nat) (f : Nat → Nat) (r a : Nat) : Prop := f a = a ∧ blk f r a % 2 = 0 ∧ blk f r a + 1 = MM (lds n f) r
def NR (n : Nat) (k f : Nat → Nat) (Be : Nat → Int32) (bd r a b q h c : Nat) : Prop := NP k Be bd a b (TT n f r (blk f r a)) (TT n f r (blk f r b)) q h c
def KR (Be : Nat → Int32) (bd q h c : Nat) : Prop := h < 3 ∧ Be (3 * q + h) = nI c ∧ c < bd
theorem x_row {K24 : (Nat → Int32) → Int32 → Int32 → Int32 → Int32 → Option (Int32 × Nat × Nat × (Nat → Int32) × (Nat → Int32) × (Nat → Int32) × (Nat → Int32) × Int32 × Int32 × Int32)} {u v a : Nat} (hN : 9 < N) (hn : n ≤ 8) (ha : a < n) (hbd : bd ≤ 500000000) (hK : IA Kd k 8 6) (hv : BV Be bd) (hG : GST n f r gs G Tr) (hM1 : 1 ≤ MM (lds n f) r) (hM : MM (lds n f) r ≤ 8) (hT : ∀ g, TT n f r g < 100000) :
    ∀ j b m (V : Nat → Int32) (c1 c2 c3 : Int32) (S : Nat → Nat → Nat → Prop), b + j = n → a < b → j < m → AM V S (2 * bd) → (KP n f r a → ∀ h c, ¬ S a h c) →
    ∃ V' c1' c2' c3', o_X7_pairGroups_36 N K24 u v gs G Tr Be (nI n) Kd (nI a) m V c1 c2 c3 (nI b) = K24 V' c1' c2' c3' (nI (a + 1)) ∧ AM V' (fun q h c => S q h c ∨ (∃ b', b ≤ b' ∧ b' < n ∧ PAIR f r a b' ∧ NR n k f Be bd r a b' q h c) ∨ (q = a ∧ KP n f r a ∧ KR Be bd a h c)) (2 * bd) := by
  obtain ⟨rfl, hg, ht⟩ := hG
  have ia : inb (nI a) 8 = true := inb_ok (by omega) (by omega)
  have ga := hg a ha
  intro j
  induction j with
  | zero =>
    intro b m V c1 c2 c3 S h1 hab h2 hA hE
    obtain ⟨m, rfl⟩ := mem_succ h2
    have nob : ∀ q h c, (∃ b', b ≤ b' ∧ b' < n ∧ PAIR f r a b' ∧ NR n k f Be bd r a b' q h c) → False := fun q h c ⟨b', z1, z2, _⟩ => by omega
    have no : ¬ KP n f r a → o_X7_pairGroups_36 N K24 u v (nI (MM (lds n f) r)) G Tr Be (nI n) Kd (nI a) (m + 1) V c1 c2 c3 (nI b) = K24 V c1 c2 c3 (nI (a + 1)) → ∃ V' c1' c2' c3', o_X7_pairGroups_36 N K24 u v (nI (MM (lds n f) r)) G Tr Be (nI n) Kd (nI a) (m + 1) V c1 c2 c3 (nI b) = K24 V' c1' c2' c3' (nI (a + 1)) ∧ AM V' (fun q h c => S q h c ∨ (∃ b', b ≤ b' ∧ b' < n ∧ PAIR f r a b' ∧ NR n k f Be bd r a b' q h c) ∨ (q = a ∧ KP n f r a ∧ KR Be bd a h c)) (2 * bd) := by
      intro nk st
      exact ⟨V, c1, c2, c3, st, AM_congr hA (fun p h c => ⟨Or.inl, fun q => q.elim id (fun q => q.elim (fun z => (nob _ _ _ z).elim) (fun z => absurd z.2.1 nk))⟩)⟩
    have b0 : o_X7_pairGroups_36 N K24 u v (nI (MM (lds n f) r)) G Tr Be (nI n) Kd (nI a) (m + 1) V c1 c2 c3 (nI b) = if G a = nI (MM (lds n f) r - 1) then (if G a - G a / 2 * 2 = 0 then Option.bind (o_X7_keepWays N Be V (nI a)) (fun r122 => K24 r122 c1 c2 c3 (nI (a + 1))) else K24 V c1 c2 c3 (nI (a + 1))) else K24 V c1 c2 c3 (nI (a + 1)) := by
      rw [o_X7_pairGroups_36]
      dsimp only
      rw [ifle (by omega) (by omega), if_pos (by omega), ogd_t ia, ogd_t ia, cl_nI (by omega), nI_1, show nI (MM (lds n f) r) - 1 = nI (MM (lds n f) r - 1) from pk_sub (b := 1) hM1]
    by_cases fa : f a = a
    · rw [if_pos fa] at ga
      have bl := blk_lt ha fa r
      rw [ga, ifeq (by omega) (by omega), rem2 (by omega), l0, ifeq (by omega) (by omega)] at b0
      by_cases e1 : blk f r a = MM (lds n f) r - 1
      · by_cases e2 : blk f r a % 2 = 0
        · rw [if_pos e1, if_pos e2] at b0
          obtain ⟨V', g1, g2, g3⟩ := x_keep (N := N) (Be := Be) (show a < 8 by omega) 3 0 N V (by omega) (by omega)
          have kp : KP n f r a := ⟨fa, e2, by omega⟩
          refine ⟨V', c1, c2, c3, by rw [b0, o_X7_keepWays, l0, g1, Option.bind_some], fun p hp h hh => ?_⟩
          by_cases z : p = a
          · subst z
            rw [g2 h (by omega) hh]
            rcases hv p hp h hh with y | ⟨c, y1, y2⟩
            · rw [y]
              refine Or.inl ⟨rfl, fun c q => ?_⟩
              rcases q with q | q | ⟨-, -, q⟩
              · exact hE kp h c q
              · exact nob _ _ _ q
              · obtain ⟨z1, z2, z3⟩ := q
                rw [y] at z2
                exact nw_ne (by omega) z2.symm
            · rw [y1]
              refine Or.inr ⟨c, rfl, by omega, Or.inr (Or.inr ⟨rfl, kp, hh, y1, y2⟩), fun c' q => ?_⟩
              rcases q with q | q | ⟨-, -, q⟩
              · exact absurd q (hE kp h c')
              · exact (nob _ _ _ q).elim
              · obtain ⟨z1, z2, z3⟩ := q
                rw [y1] at z2
                have := (nI_eq (a := c) (b := c') (by omega) (by omega)).mp z2
                omega
          · rw [g3 _ (by omega)]
            exact MN_congr (hA p hp h hh) (fun c => ⟨Or.inl, fun q => q.elim id (fun q => q.elim (fun y => (nob _ _ _ y).elim) (fun y => absurd y.1 z))⟩)
        · exact no (fun q => e2 q.2.1) (by rw [b0, if_pos e1, if_neg e2])
      · exact no (fun q => e1 (by have := q.2.2; omega)) (by rw [b0, if_neg e1])
    · rw [if_neg fa] at ga
      exact no (fun q => fa q.1) (by rw [b0, ga, if_neg (m1_ne _ (by omega))])
  | succ j ih =>
    intro b m V c1 c2 c3 S h1 hab h2 hA hE
    obtain ⟨m, rfl⟩ := mem_succ h2
    have ib : inb (nI b) 8 = true := inb_ok (by omega) (by omega)
    have no : ¬ PAIR f r a b → o_X7_pairGroups_36 N K24 u v (nI (MM (lds n f) r)) G Tr Be (nI n) Kd (nI a) (m + 1) V c1 c2 c3 (nI b) = o_X7_pairGroups_36 N K24 u v (nI (MM (lds n f) r)) G Tr Be (nI n) Kd (nI a) m V c1 c2 c3 (nI (b + 1)) → ∃ V' c1' c2' c3', o_X7_pairGroups_36 N K24 u v (nI (MM (lds n f) r)) G Tr Be (nI n) Kd (nI a) (m + 1) V c1 c2 c3 (nI b) = K24 V' c1' c2' c3' (nI (a + 1)) ∧ AM V' (fun q h c => S q h c ∨ (∃ b', b ≤ b' ∧ b' < n ∧ PAIR f r a b' ∧ NR n k f Be bd r a b' q h c) ∨ (q = a ∧ KP n f r a ∧ KR Be bd a h c)) (2 * bd) := by
      intro np st
      obtain ⟨V', d1, d2, d3, g1, g2⟩ := ih (b + 1) m V c1 c2 c3 S (by omega) (by omega) (by omega) hA hE
      refine ⟨V', d1, d2, d3, by rw [st]; exact g1, AM_congr g2 (fun p h c => ⟨?_, ?_⟩)⟩
      · rintro (q | ⟨b', z1, z2, z3⟩ | q)
        · exact Or.inl q
        · exact Or.inr (Or.inl ⟨b', by omega, z2, z3⟩)
        · exact Or.inr (Or.inr q)
      · rintro (q | ⟨b', z1, z2, z3, z4⟩ | q)
        · exact Or.inl q
        · refine Or.inr (Or.inl ⟨b', ?_, z2, z3, z4⟩)
          rcases Nat.lt_or_ge b b' with y | y
          · exact y
          · have : b' = b := by omega
            subst this; exact absurd z3 np
        · exact Or.inr (Or.inr q)
    have b0 : o_X7_pairGroups_36 N K24 u v (nI (MM (lds n f) r)) G Tr Be (nI n) Kd (nI a) (m + 1) V c1 c2 c3 (nI b) = if G a < 0 then o_X7_pairGroups_36 N K24 u v (nI (MM (lds n f) r)) G Tr Be (nI n) Kd (nI a) m V c1 c2 c3 (nI (b + 1)) else if G a - G a / 2 * 2 = 0 then (if G b = G a + 1 then Option.bind (o_X7_pairPlayers N G Tr Be V c1 c2 c3 Kd (nI a) (nI b)) (fun r85 => o_X7_pairGroups_36 N K24 u v (nI (MM (lds n f) r)) G Tr Be (nI n) Kd (nI a) m r85.1 r85.2.1 r85.2.2.1 r85.2.2.2 (nI (b + 1))) else o_X7_pairGroups_36 N K24 u v (nI (MM (lds n f) r)) G Tr Be (nI n) Kd (nI a) m V c1 c2 c3 (nI (b + 1))) else o_X7_pairGroups_36 N K24 u v (nI (MM (lds n f) r)) G Tr Be (nI n) Kd (nI a) m V c1 c2 c3 (nI (b + 1)) := by
      rw [o_X7_pairGroups_36]
      dsimp only
      rw [ifle (by omega) (by omega), if_neg (by omega), ogd_t ia, ogd_t ia, ogd_t ia, ogd_t ib, cl_nI (by omega), cl_nI (by omega), nI_1]
    have gb := hg b (by omega)
    by_cases fa : f a = a
    · rw [if_pos fa] at ga
      have bla := blk_lt ha fa r
      rw [ga, if_neg (nlt0 (by omega)), rem2 (by omega), l0, ifeq (by omega) (by omega), nI_1] at b0
      by_cases e2 : blk f r a % 2 = 0
      · by_cases fb : f b = b
        · rw [if_pos fb] at gb
          have blb := blk_lt (show b < n by omega) fb r
          rw [gb, ifeq (by omega) (by omega), if_pos e2] at b0
          by_cases e3 : blk f r b = blk f r a + 1
          · have pr : PAIR f r a b := ⟨fa, fb, e2, e3⟩
            obtain ⟨V1, d1, d2, d3, w1, w2⟩ := x_pair (G := G) (Tr := Tr) (V := V) (c1 := c1) (c2 := c2) (c3 := c3) hN hbd (show a < 8 by omega) (show b < 8 by omega) hK hv (show blk f r a < 8 by omega) (show blk f r b < 8 by omega) ga gb (ht _ bla) (ht _ blb) (hT _) (hT _) hA
            obtain ⟨V', x1, x2, x3, g1, g2⟩ := ih (b + 1) m V1 d1 d2 d3 _ (by omega) (by omega) (by omega) w2 (fun kp h c q => by
              have := kp.2.2
              omega)
            rw [if_pos e3, w1, Option.bind_some] at b0
            refine ⟨V', x1, x2, x3, by rw [b0]; exact g1, AM_congr g2 (fun p h c => ⟨?_, ?_⟩)⟩
            · rintro ((q | q) | ⟨b', z1, z2, z3⟩ | q)
              · exact Or.inl q
              · exact Or.inr (Or.inl ⟨b, Nat.le_refl b, by omega, pr, q⟩)
              · exact Or.inr (Or.inl ⟨b', by omega, z2, z3⟩)
              · exact Or.inr (Or.inr q)
            · rintro (q | ⟨b', z1, z2, z3, z4⟩ | q)
              · exact Or.inl (Or.inl q)
              · by_cases y : b' = b
                · subst y; exact Or.inl (Or.inr z4)
                · exact Or.inr (Or.inl ⟨b', by omega, z2, z3, z4⟩)
              · exact Or.inr (Or.inr q)
          · exact no (fun q => e3 q.2.2.2) (by rw [b0, if_neg e3])
        · rw [if_neg fb] at gb
          exact no (fun q => fb q.2.1) (by rw [b0, if_pos e2, gb, if_neg (m1_ne _ (by omega))])
      · exact no (fun q => e2 q.2.2.1) (by rw [b0, if_neg e2])
    · rw [if_neg fa] at ga
      exact no (fun q => fa q.1) (by rw [b0, ga, if_pos (by decide)])
theorem x_join_69 {J : Int32} {Tr' : Nat → Int32} (hn : n ≤ 8) : ∀ j i m (G' : Nat → Int32), i + j = n → j < m → (∀ p, i ≤ p → p < n → G' p = if f p = p then nI (blk f r p) else -1) → (∀ p, p < n → f p = p → blk f r p < 100) → (∀ p, p < i → G' p = if f p = p then nI (blk f (r + 1) p) else -1) →
    ∃ G2, o_X7_joinGroups_69 N Tr' (nI n) J m G' (nI i) = some (J, G2, Tr') ∧ ∀ p, p < n → G2 p = if f p = p then nI (blk f (r + 1) p) else -1 := by
  intro j
  induction j with
  | zero =>
    intro i m G' h1 h2 h3 h4 h5
    obtain ⟨m, rfl⟩ := mem_succ h2
    refine ⟨G', ?_, fun p hp => h5 p (by omega)⟩
    rw [o_X7_joinGroups_69]
    dsimp only
    rw [ifle (by omega) (by omega), if_pos (by omega)]
  | succ j ih =>
    intro i m G' h1 h2 h3 h4 h5
    obtain ⟨m, rfl⟩ := mem_succ h2
    have gi : inb (nI i) 8 = true := inb_ok (by omega) (by omega)
    have g := h3 i (Nat.le_refl i) (by omega)
    by_cases e : f i = i
    · rw [if_pos e] at g
      have b := h4 i (by omega) e
      obtain ⟨G2, g1, g2⟩ := ih (i + 1) m (upd G' i (nI (blk f (r + 1) i))) (by omega) (by omega) (fun p a c => by rw [upd_ne (by omega)]; exact h3 p (by omega) c) h4 (fun p hp => by
        by_cases z : p = i
        · subst z; rw [upd_eq, if_pos e]
        · rw [upd_ne z]; exact h5 p (by omega))
      refine ⟨G2, ?_, g2⟩
      rw [o_X7_joinGroups_69]
      dsimp only
      rw [ifle (by omega) (by omega), if_neg (by omega), ogd_t gi, ogd_t gi, ogd_t gi, cl_nI (by omega), g, if_neg (nlt0 (by omega)), div2 (by omega), nI_1]
      exact g1
    · rw [if_neg e] at g
      obtain ⟨G2, g1, g2⟩ := ih (i + 1) m G' (by omega) (by omega) (fun p a c => h3 p (by omega) c) h4 (fun p hp => by
        by_cases z : p = i
        · subst z; rw [if_neg e]; exact g
        · exact h5 p (by omega))
      refine ⟨G2, ?_, g2⟩
      rw [o_X7_joinGroups_69]
      dsimp only
      rw [ifle (by omega) (by omega), if_neg (by omega), ogd_t gi, cl_nI (by omega), g, if_pos (by decide), nI_1]
      exact g1
theorem x_join_11 (hN : 9 < N) (hM : MM (lds n f) r ≤ 8) : ∀ j i m (T : Nat → Int32), i + j = MM (lds n f) (r + 1) → j < m → (∀ g, g < i → T g = nI (TT n f (r + 1) g)) → (∀ g, i ≤ g → g < MM (lds n f) r → T g = nI (TT n f r g)) →
    ∃ T', o_X7_joinGroups_11 N (nI (MM (lds n f) r)) G (nI n) (nI (MM (lds n f) (r + 1))) m T (nI i) = o_X7_joinGroups_69 N T' (nI n) (nI (MM (lds n f) (r + 1))) N G 0 ∧ ∀ g, g < MM (lds n f) (r + 1) → T' g = nI (TT n f (r + 1) g) := by
  have m1 : MM (lds n f) (r + 1) = (MM (lds n f) r + 1) / 2 := rfl
  intro j
  induction j with
  | zero =>
    intro i m T h1 h2 h3 h4
    obtain ⟨m, rfl⟩ := mem_succ h2
    refine ⟨T, ?_, fun g hg => h3 g (by omega)⟩
    rw [o_X7_joinGroups_11]
    dsimp only
    rw [ifle (by omega) (by omega), if_pos (by omega)]
  | succ j ih =>
    intro i m T h1 h2 h3 h4
    obtain ⟨m, rfl⟩ := mem_succ h2
    obtain ⟨T', g1, g2⟩ := ih (i + 1) m (upd T i (nI (TT n f (r + 1) i))) (by omega) (by omega) (fun g hg => by
      by_cases z : g = i
      · subst z; rw [upd_eq]
      · rw [upd_ne z]; exact h3 g (by omega)) (fun g a b => by rw [upd_ne (by omega)]; exact h4 g (by omega) b)
    refine ⟨T', ?_, g2⟩
    have gi : inb (nI i) 8 = true := inb_ok (by omega) (by omega)
    have g0 : inb (nI (2 * i)) 8 = true := inb_ok (by omega) (by omega)
    rw [o_X7_joinGroups_11]
    dsimp only
    rw [ifle (by omega) (by omega), if_neg (by omega), l2_, pk_mul, nI_1, ogd_t g0, ifle (by omega) (by omega), o_X7_joinGroups_53, o_X7_joinGroups_53, ogd_t gi, ogd_t gi, cl_nI (by omega), cl_nI (by omega), h4 (2 * i) (by omega) (by omega), nI_1]
    by_cases e : 2 * i + 1 < MM (lds n f) r
    · rw [if_neg (by omega), ogd_t (inb_ok (by omega) (by omega)), cl_nI (by omega), h4 (2 * i + 1) (by omega) e, nI_add]
      rw [TT, if_pos e] at g1
      exact g1
    · rw [if_pos (by omega)]
      rw [TT, if_neg e] at g1
      exact g1
theorem x_join (hN : 9 < N) (hn : n ≤ 8) (hG : GST n f r gs G Tr) (hM : MM (lds n f) r ≤ 8) : ∃ gs' G' Tr', o_X7_joinGroups N gs G Tr (nI n) = some (gs', G', Tr') ∧ GST n f (r + 1) gs' G' Tr' := by
  obtain ⟨rfl, hg, ht⟩ := hG
  have m1 : MM (lds n f) (r + 1) = (MM (lds n f) r + 1) / 2 := rfl
  obtain ⟨T', g1, g2⟩ := x_join_11 (N := N) (n := n) (f := f) (r := r) (G := G) hN hM (MM (lds n f) (r + 1)) 0 N Tr (by omega) (by omega) (fun g hg => by omega) (fun g _ hg => ht g hg)
  obtain ⟨G2, f1, f2⟩ := x_join_69 (N := N) (J := nI (MM (lds n f) (r + 1))) (Tr' := T') (f := f) (r := r) hn n 0 N G (by omega) (by omega) (fun p _ hp => hg p hp) (fun p hp e => by have := blk_lt hp e r; omega) (fun p hp => by omega)
  refine ⟨nI (MM (lds n f) (r + 1)), G2, T', ?_, rfl, f2, g2⟩
  rw [o_X7_joinGroups, nI_1, div2 (by omega), ← m1, l0, g1, l0, f1]
theorem x_rows {u v : Nat} (hN : 9 < N) (hn : n ≤ 8) (hbd : bd ≤ 500000000) (hK : IA Kd k 8 6) (hv : BV Be bd) (hG : GST n f r gs G Tr) (hM1 : 1 ≤ MM (lds n f) r) (hM : MM (lds n f) r ≤ 8) (hT : ∀ g, TT n f r g < 100000) :
    ∀ j a m (V : Nat → Int32) (c1 c2 c3 : Int32) (S : Nat → Nat → Nat → Prop), a + j = n → j < m → AM V S (2 * bd) → (∀ q h c, S q h c → 2 * (blk f r q / 2) + 1 < MM (lds n f) r ∨ q < a) →
    ∃ gs' G' Tr' V' c1' c2' c3', o_X7_pairGroups_24 N u v gs G Tr Be (nI n) Kd m V c1 c2 c3 (nI a) = some (gs', v, u, G', Tr', V', Be, c1', c2', c3') ∧ GST n f (r + 1) gs' G' Tr' ∧ AM V' (fun q h c => S q h c ∨ (∃ a' b', a ≤ a' ∧ a' < b' ∧ b' < n ∧ PAIR f r a' b' ∧ NR n k f Be bd r a' b' q h c) ∨ (a ≤ q ∧ q < n ∧ KP n f r q ∧ KR Be bd q h c)) (2 * bd) := by
  intro j
  induction j with
  | zero =>
    intro a m V c1 c2 c3 S h1 h2 hA hE
    obtain ⟨m, rfl⟩ := mem_succ h2
    obtain ⟨gs', G', Tr', g1, g2⟩ := x_join hN hn hG hM
    refine ⟨gs', G', Tr', V, c1, c2, c3, ?_, g2, AM_congr hA (fun p h c => ⟨Or.inl, ?_⟩)⟩
    · rw [o_X7_pairGroups_24]
      dsimp only
      rw [ifle (by omega) (by omega), if_pos (by omega), g1, Option.bind_some]
    · rintro (q | ⟨a', b', z1, z2, z3, _⟩ | ⟨z1, z2, _⟩)
      · exact q
      · omega
      · omega
  | succ j ih =>
    intro a m V c1 c2 c3 S h1 h2 hA hE
    obtain ⟨m, rfl⟩ := mem_succ h2
    obtain ⟨V1, d1, d2, d3, w1, w2⟩ := x_row (K24 := o_X7_pairGroups_24 N u v gs G Tr Be (nI n) Kd m) (u := u) (v := v) (a := a) hN hn (by omega) hbd hK hv hG hM1 hM hT (n - (a + 1)) (a + 1) N V c1 c2 c3 S (by omega) (by omega) (by omega) hA (fun kp h c q => by
      rcases hE a h c q with z | z
      · have := kp.2.1; have := kp.2.2; omega
      · omega)
    obtain ⟨gs', G', Tr', V', x1, x2, x3, g1, g2, g3⟩ := ih (a + 1) m V1 d1 d2 d3 _ (by omega) (by omega) w2 (fun q h c z => by
      rcases z with z | ⟨b', z1, z2, ⟨p1, p2, p3, p4⟩, z4⟩ | ⟨z, -⟩
      · rcases hE q h c z with y | y
        · exact Or.inl y
        · exact Or.inr (by omega)
      · left
        obtain ⟨ha, hb, -, -, ca, cb, -, -, -, -, o1, -⟩ := z4
        have bl := blk_lt z2 p2 r
        rcases out_p k (a, ha, TT n f r (blk f r a)) (b', hb, TT n f r (blk f r b')) with y | y
        · rw [y] at o1; dsimp only at o1; rw [← o1]; omega
        · rw [y] at o1; dsimp only at o1; rw [← o1]; omega
      · exact Or.inr (by omega))
    refine ⟨gs', G', Tr', V', x1, x2, x3, ?_, g2, AM_congr g3 (fun p h c => ⟨?_, ?_⟩)⟩
    · rw [o_X7_pairGroups_24]
      dsimp only
      rw [ifle (by omega) (by omega), if_neg (by omega), nI_1, w1]
      exact g1
    · rintro ((q | ⟨b', z1, z2, z3⟩ | ⟨rfl, z1, z2⟩) | ⟨a', b', z1, z2⟩ | ⟨z1, z2⟩)
      · exact Or.inl q
      · exact Or.inr (Or.inl ⟨a, b', Nat.le_refl a, by omega, z2, z3⟩)
      · exact Or.inr (Or.inr ⟨Nat.le_refl _, by omega, z1, z2⟩)
      · exact Or.inr (Or.inl ⟨a', b', by omega, z2⟩)
      · exact Or.inr (Or.inr ⟨by omega, z2⟩)
    · rintro (q | ⟨a', b', z1, z2, z3, z4⟩ | ⟨z1, z2, z3, z4⟩)
      · exact Or.inl (Or.inl q)
      · by_cases e : a' = a
        · subst e; exact Or.inl (Or.inr (Or.inl ⟨b', by omega, z3, z4⟩))
        · exact Or.inr (Or.inl ⟨a', b', by omega, z2, z3, z4⟩)
      · by_cases e : p = a
        · subst e; exact Or.inl (Or.inr (Or.inr ⟨rfl, z3, z4⟩))
        · exact Or.inr (Or.inr ⟨by omega, z2, z3, z4⟩)
theorem x_fill {u v : Nat} {c1 c2 c3 : Int32} : ∀ j i m (V : Nat → Int32), i + j = 24 → j < m → (∀ q, q < i → V q = 1073741824) → ∃ V', o_X7_pairGroups_2 N u v gs G Tr Be c1 c2 c3 (nI n) Kd m V (nI i) = o_X7_pairGroups_24 N u v gs G Tr Be (nI n) Kd N V' c1 c2 c3 0 ∧ ∀ q, q < 24 → V' q = 1073741824 := by
  intro j
  induction j with
  | zero =>
    intro i m V h1 h2 h3
    obtain ⟨m, rfl⟩ := mem_succ h2
    refine ⟨V, ?_, fun q hq => h3 q (by omega)⟩
    rw [o_X7_pairGroups_2]
    dsimp only
    rw [show (24 : Int32) = nI 24 from rfl, ifle (by omega) (by omega), if_pos (by omega)]
  | succ j ih =>
    intro i m V h1 h2 h3
    obtain ⟨m, rfl⟩ := mem_succ h2
    obtain ⟨V', g1, g2⟩ := ih (i + 1) m (upd V i 1073741824) (by omega) (by omega) (fun q hq => by
      by_cases e : q = i
      · subst e; exact upd_eq _ _ _
      · rw [upd_ne e]; exact h3 q (by omega))
    refine ⟨V', ?_, g2⟩
    rw [o_X7_pairGroups_2]
    dsimp only
    rw [show (24 : Int32) = nI 24 from rfl, ifle (by omega) (by omega), if_neg (by omega), ogd_t (inb_ok (by omega) (by omega)), cl_nI (by omega), nI_1]
    exact g1
theorem x_stage {u v : Nat} {c1 c2 c3 : Int32} {V : Nat → Int32} {w : Nat → Nat → Nat} (hN : 28 < N) (hn : n ≤ 8) (hbd : bd ≤ 500000000) (hK : IA Kd k 8 6) (hG : GST n f r gs G Tr) (hM1 : 1 ≤ MM (lds n f) r) (hM : MM (lds n f) r ≤ 8) (hT : ∀ g, TT n f r g < 100000) (hA : AM Be (SS n k f w r) bd) :
    ∃ gs' G' Tr' V' c1' c2' c3', o_X7_pairGroups N u v gs G Tr Be V c1 c2 c3 (nI n) Kd = some (gs', v, u, G', Tr', V', Be, c1', c2', c3') ∧ GST n f (r + 1) gs' G' Tr' ∧ AM V' (SS n k f w (r + 1)) (2 * bd) := by
  have hv : BV Be bd := fun p hp h hh => by
    rcases hA p hp h hh with ⟨a, -⟩ | ⟨c, h1, h2, -⟩
    · exact Or.inl a
    · exact Or.inr ⟨c, h1, h2⟩
  obtain ⟨V0, w1, w2⟩ := x_fill (N := N) (n := n) (Kd := Kd) (G := G) (Tr := Tr) (Be := Be) (gs := gs) (u := u) (v := v) (c1 := c1) (c2 := c2) (c3 := c3) 24 0 N V (by omega) (by omega) (fun q hq => by omega)
  obtain ⟨gs', G', Tr', V', x1, x2, x3, g1, g2, g3⟩ := x_rows (N := N) (u := u) (v := v) (by omega) hn hbd hK hv hG hM1 hM hT n 0 N V0 c1 c2 c3 (fun _ _ _ => False) (by omega) (by omega) (fun p hp h hh => Or.inl ⟨w2 (3 * p + h) (by omega), fun _ q => q⟩) (fun q h c z => z.elim)
  refine ⟨gs', G', Tr', V', x1, x2, x3, ?_, g2, fun p hp h hh => ?_⟩
  · rw [o_X7_pairGroups, l0, w1, l0]; exact g1
  · have get : ∀ a ha c, SS n k f w r a ha c → a < 8 → ha < 3 → ∃ c', Be (3 * a + ha) = nI c' ∧ c' < bd ∧ SS n k f w r a ha c' ∧ c' ≤ c := by
      intro a ha c hs h1 h2
      rcases hA a h1 ha h2 with ⟨_, z⟩ | ⟨c', z1, z2, z3, z4⟩
      · exact absurd hs (z c)
      · exact ⟨c', z1, z2, z3, z4 c hs⟩
    have got : ∀ a ha c, a < 8 → ha < 3 → Be (3 * a + ha) = nI c → c < bd → SS n k f w r a ha c := by
      intro a ha c h1 h2 h3 h4
      rcases hA a h1 ha h2 with ⟨z, _⟩ | ⟨c', z1, z2, z3, z4⟩
      · rw [z] at h3; exact absurd h3.symm (nw_ne (by omega))
      · rw [z1] at h3
        have := (nI_eq (a := c') (b := c) (by omega) (by omega)).mp h3
        subst this; exact z3
    have hand : ∀ a ha c, SS n k f w r a ha c → ha < 3 ∧ a < n := by
      rintro a ha c ⟨d, y1, y2, y3, y4, y5, y6⟩
      refine ⟨?_, y2⟩
      rw [← y5]
      exact EE_h y1 r _ (blk_lt y2 y3 r)
    refine MN_sub (g3 p hp h hh) ?_ ?_
    · rintro c (q | ⟨a, b, z1, z2, z3, ⟨p1, p2, p3, p4⟩, ha, hb, y1, y2, ca, cb, y3, y4, y5, y6, y7, y8, y9⟩ | ⟨z1, z2, ⟨p1, p2, p3⟩, y1, y2, y3⟩)
      · exact q.elim
      · exact SS_s.mpr (Or.inl ⟨a, b, ha, hb, ca, cb, got a ha ca (by omega) y1 y3 y4, got b hb cb (by omega) y2 y5 y6, p3, p4, y7, y8, y9⟩)
      · exact SS_s.mpr (Or.inr ⟨got p h c hp y1 y2 y3, p2, p3⟩)
    · intro c hs
      rcases SS_s.mp hs with ⟨a, b, ha, hb, ca, cb, s1, s2, e1, e2, o1, o2, rfl⟩ | ⟨s1, e1, e2⟩
      · obtain ⟨h1, h2⟩ := hand a ha ca s1
        obtain ⟨h3, h4⟩ := hand b hb cb s2
        obtain ⟨ca', u1, u2, u3, u4⟩ := get a ha ca s1 (by omega) h1
        obtain ⟨cb', v1, v2, v3, v4⟩ := get b hb cb s2 (by omega) h3
        obtain ⟨d1, -, -, fa, -⟩ := s1
        obtain ⟨d2, -, -, fb, -⟩ := s2
        refine ⟨ca' + cb', Or.inr (Or.inl ⟨a, b, by omega, ?_, h4, ⟨fa, fb, e1, e2⟩, ha, hb, h1, h3, ca', cb', u1, u2, v1, v2, o1, o2, rfl⟩), by omega⟩
        rcases Nat.lt_or_ge a b with z | z
        · exact z
        · have := blk_mono (f := f) z r; omega
      · obtain ⟨h1, h2⟩ := hand p h c s1
        obtain ⟨c', u1, u2, u3, u4⟩ := get p h c s1 hp h1
        obtain ⟨d1, -, -, fa, -⟩ := s1
        exact ⟨c', Or.inr (Or.inr ⟨by omega, h2, ⟨fa, e1, e2⟩, h1, u1, u2⟩), u4⟩
end JOIN
