/-! PURE PART QI: pairs of players, of groups -/
section PAIRS
variable {N n : Nat} {k f : Nat → Nat} {Kd G Tr Be : Nat → Int32}
/-- what a pair of hands brings -/
def NW (k : Nat → Nat) (Be : Nat → Int32) (bd a b ta tb ha hb q h c : Nat) : Prop := ∃ ca cb, Be (3 * a + ha) = nI ca ∧ ca < bd ∧ Be (3 * b + hb) = nI cb ∧ cb < bd ∧ (out k (a, ha, ta) (b, hb, tb)).1 = q ∧ (out k (a, ha, ta) (b, hb, tb)).2.1 = h ∧ c = ca + cb
def BV (Be : Nat → Int32) (bd : Nat) : Prop := ∀ p, p < 8 → ∀ h, h < 3 → Be (3 * p + h) = 1073741824 ∨ ∃ c, Be (3 * p + h) = nI c ∧ c < bd
def AM (V : Nat → Int32) (S : Nat → Nat → Nat → Prop) (bd : Nat) : Prop := ∀ p, p < 8 → ∀ h, h < 3 → MN (V (3 * p + h)) (S p h) bd
theorem AM_congr {V : Nat → Int32} {S S' : Nat → Nat → Nat → Prop} {bd : Nat} (h : AM V S bd) (e : ∀ p h c, S p h c ↔ S' p h c) : AM V S' bd := fun p hp q hq => MN_congr (h p hp q hq) (e p q)
theorem AM_put {V : Nat → Int32} {S : Nat → Nat → Nat → Prop} {bd p h c0 : Nat} (g : AM V S bd) (hb : bd ≤ 1000000000) (hp : p < 8) (hh : h < 3) (hc : c0 < bd) : AM (upd V (3 * p + h) (if nI c0 < V (3 * p + h) then nI c0 else V (3 * p + h))) (fun p' h' c => S p' h' c ∨ (p' = p ∧ h' = h ∧ c = c0)) bd := by
  intro p' hp' h' hh'
  by_cases e : p' = p ∧ h' = h
  · obtain ⟨rfl, rfl⟩ := e
    rw [upd_eq]
    exact MN_congr (MN_add (g p' hp' h' hh') hb hc) (fun c => ⟨fun q => q.elim Or.inl (fun z => Or.inr ⟨rfl, rfl, z⟩), fun q => q.elim Or.inl (fun z => Or.inr z.2.2)⟩)
  · rw [upd_ne (by omega)]
    exact MN_congr (g p' hp' h' hh') (fun c => ⟨Or.inl, fun q => q.elim id (fun z => absurd ⟨z.1, z.2.1⟩ e)⟩)
theorem x_pair_44 {K35 : (Nat → Int32) → Int32 → Int32 → Int32 → Int32 → Option ((Nat → Int32) × Int32 × Int32 × Int32)} {a b ha ta tb tie bd : Nat} (hN : 9 < N) (hbd : bd ≤ 500000000) (hab : a < 8) (hb8 : b < 8) (hh : ha < 3) (ht : tie = if ta < tb then 1 else 0) (hK : IA Kd k 8 6) (hv : BV Be bd) :
    ∀ j i m (V : Nat → Int32) (c1 c2 c3 : Int32) (S : Nat → Nat → Nat → Prop), i + j = 3 → j < m → AM V S (2 * bd) →
    ∃ V' c1' c2' c3', o_X7_pairPlayers_44 N K35 Be Kd (nI a) (nI b) (nI tie) (nI ha) m V c1 c2 c3 (nI i) = K35 V' c1' c2' c3' (nI (ha + 1)) ∧ AM V' (fun q h c => S q h c ∨ ∃ hb, i ≤ hb ∧ hb < 3 ∧ NW k Be bd a b ta tb ha hb q h c) (2 * bd) := by
  intro j
  induction j with
  | zero =>
    intro i m V c1 c2 c3 S h1 h2 hA
    obtain ⟨m, rfl⟩ := mem_succ h2
    refine ⟨V, c1, c2, c3, ?_, AM_congr hA (fun p h c => ⟨Or.inl, fun q => q.elim id (fun ⟨hb, z1, z2, _⟩ => by omega)⟩)⟩
    rw [o_X7_pairPlayers_44]
    dsimp only
    rw [l3_, ifle (by omega) (by omega), if_pos (by omega), nI_1]
  | succ j ih =>
    intro i m V c1 c2 c3 S h1 h2 hA
    obtain ⟨m, rfl⟩ := mem_succ h2
    have ga : nI a * nI 3 + nI ha = nI (3 * a + ha) := by rw [pk_mul, nI_add, Nat.mul_comm]
    have gb : nI b * nI 3 + nI i = nI (3 * b + i) := by rw [pk_mul, nI_add, Nat.mul_comm]
    have i1 : inb (nI (3 * a + ha)) 24 = true := inb_ok (by omega) (by omega)
    have i2 : inb (nI (3 * b + i)) 24 = true := inb_ok (by omega) (by omega)
    have skip : (¬ ∃ q h c, NW k Be bd a b ta tb ha i q h c) → o_X7_pairPlayers_44 N K35 Be Kd (nI a) (nI b) (nI tie) (nI ha) (m + 1) V c1 c2 c3 (nI i) = o_X7_pairPlayers_44 N K35 Be Kd (nI a) (nI b) (nI tie) (nI ha) m V c1 c2 c3 (nI (i + 1)) →
        ∃ V' c1' c2' c3', o_X7_pairPlayers_44 N K35 Be Kd (nI a) (nI b) (nI tie) (nI ha) (m + 1) V c1 c2 c3 (nI i) = K35 V' c1' c2' c3' (nI (ha + 1)) ∧ AM V' (fun q h c => S q h c ∨ ∃ hb, i ≤ hb ∧ hb < 3 ∧ NW k Be bd a b ta tb ha hb q h c) (2 * bd) := by
      intro no st
      obtain ⟨V', d1, d2, d3, g1, g2⟩ := ih (i + 1) m V c1 c2 c3 S (by omega) (by omega) hA
      refine ⟨V', d1, d2, d3, by rw [st]; exact g1, AM_congr g2 (fun p h c => ⟨fun q => q.elim Or.inl (fun ⟨hb, z1, z2, z3⟩ => Or.inr ⟨hb, by omega, z2, z3⟩), fun q => q.elim Or.inl (fun ⟨hb, z1, z2, z3⟩ => Or.inr ⟨hb, ?_, z2, z3⟩)⟩)⟩
      rcases Nat.lt_or_ge i hb with z | z
      · exact z
      · have : hb = i := by omega
        subst this
        exact absurd ⟨p, h, c, z3⟩ no
    rcases hv a hab ha hh with e1 | ⟨ca, e1, b1⟩
    · refine skip ?_ ?_
      · rintro ⟨q, h, c, ca, cb, z1, z2, _⟩
        rw [e1] at z1
        exact nw_ne (by omega) z1.symm
      · rw [o_X7_pairPlayers_44]
        dsimp only
        rw [l3_, ifle (by omega) (by omega), if_neg (by omega), ga, gb, ogd_t i1, ogd_t i2, cl_nI (by omega), e1, if_pos rfl, nI_1]
    · rcases hv b hb8 i (by omega) with e2 | ⟨cb, e2, b2⟩
      · refine skip ?_ ?_
        · rintro ⟨q, h, c, ca', cb, z1, z2, z3, z4, _⟩
          rw [e2] at z3
          exact nw_ne (by omega) z3.symm
        · rw [o_X7_pairPlayers_44]
          dsimp only
          rw [l3_, ifle (by omega) (by omega), if_neg (by omega), ga, gb, ogd_t i1, ogd_t i2, cl_nI (by omega), cl_nI (by omega), e1, e2, if_neg (nw_ne (by omega)), if_pos rfl, nI_1]
      · have pl : o_X2_play N (nI (k a)) (nI ha) (nI (k b)) (nI i) = some (nI (crs (k a) ha (k b) i).1, nI (crs (k a) ha (k b) i).2.1, nI (crs (k a) ha (k b) i).2.2) := p_X2_play hN (by have := (hK a hab).2; omega) (by have := (hK b hb8).2; omega) hh (by omega)
        obtain ⟨x3, y3, -⟩ := crs_lt (ka := k a) (kb := k b) (ha := ha) (hb := i) hh (by omega)
        have ot : out k (a, ha, ta) (b, i, tb) = if (crs (k a) ha (k b) i).1 = nx (crs (k a) ha (k b) i).2.1 then (a, (crs (k a) ha (k b) i).1, ta + tb) else if (crs (k a) ha (k b) i).1 = (crs (k a) ha (k b) i).2.1 then (if ta < tb then (b, (crs (k a) ha (k b) i).2.1, ta + tb) else (a, (crs (k a) ha (k b) i).1, ta + tb)) else (b, (crs (k a) ha (k b) i).2.1, ta + tb) := rfl
        generalize crs (k a) ha (k b) i = cr at *
        obtain ⟨x, y, t⟩ := cr
        dsimp only at pl x3 y3 ot
        have nxy := nx_lt y y3
        -- who wins, and with which hand
        have go : ∀ (p h : Nat), p < 8 → h < 3 → (out k (a, ha, ta) (b, i, tb)).1 = p → (out k (a, ha, ta) (b, i, tb)).2.1 = h → (o_X7_pairPlayers_44 N K35 Be Kd (nI a) (nI b) (nI tie) (nI ha) (m + 1) V c1 c2 c3 (nI i) = o_X7_pairPlayers_44 N K35 Be Kd (nI a) (nI b) (nI tie) (nI ha) m (upd V (3 * p + h) (if nI (ca + cb) < V (3 * p + h) then nI (ca + cb) else V (3 * p + h))) (nI x) (nI y) (nI t) (nI (i + 1))) →
            ∃ V' c1' c2' c3', o_X7_pairPlayers_44 N K35 Be Kd (nI a) (nI b) (nI tie) (nI ha) (m + 1) V c1 c2 c3 (nI i) = K35 V' c1' c2' c3' (nI (ha + 1)) ∧ AM V' (fun q h c => S q h c ∨ ∃ hb, i ≤ hb ∧ hb < 3 ∧ NW k Be bd a b ta tb ha hb q h c) (2 * bd) := by
          intro p h hp hh' o1 o2 st
          obtain ⟨V', d1, d2, d3, g1, g2⟩ := ih (i + 1) m (upd V (3 * p + h) (if nI (ca + cb) < V (3 * p + h) then nI (ca + cb) else V (3 * p + h))) (nI x) (nI y) (nI t) (fun p' h' c => S p' h' c ∨ (p' = p ∧ h' = h ∧ c = ca + cb)) (by omega) (by omega) (AM_put hA (by omega) hp hh' (by omega))
          refine ⟨V', d1, d2, d3, by rw [st]; exact g1, AM_congr g2 (fun p' h' c => ⟨?_, ?_⟩)⟩
          · rintro ((q | ⟨rfl, rfl, rfl⟩) | ⟨hb, z1, z2, z3⟩)
            · exact Or.inl q
            · exact Or.inr ⟨i, Nat.le_refl i, by omega, ca, cb, e1, b1, e2, b2, o1, o2, rfl⟩
            · exact Or.inr ⟨hb, by omega, z2, z3⟩
          · rintro (q | ⟨hb, z1, z2, z3⟩)
            · exact Or.inl (Or.inl q)
            · by_cases e : hb = i
              · subst e
                obtain ⟨ca', cb', w1, w2, w3, w4, w5, w6, w7⟩ := z3
                rw [e1] at w1
                rw [e2] at w3
                have := (nI_eq (a := ca) (b := ca') (by omega) (by omega)).mp w1
                have := (nI_eq (a := cb) (b := cb') (by omega) (by omega)).mp w3
                subst ca' cb'
                exact Or.inl (Or.inr ⟨by rw [← w5, o1], by rw [← w6, o2], w7⟩)
              · exact Or.inr ⟨hb, by omega, z2, z3⟩
        have pA : nI a * nI 3 + nI x = nI (3 * a + x) := by rw [pk_mul, nI_add, Nat.mul_comm]
        have pB : nI b * nI 3 + nI y = nI (3 * b + y) := by rw [pk_mul, nI_add, Nat.mul_comm]
        have iA : inb (nI (3 * a + x)) 24 = true := inb_ok (by omega) (by omega)
        have iB : inb (nI (3 * b + y)) 24 = true := inb_ok (by omega) (by omega)
        have base : o_X7_pairPlayers_44 N K35 Be Kd (nI a) (nI b) (nI tie) (nI ha) (m + 1) V c1 c2 c3 (nI i) = (if x = y then (if tie = 0 then o_X7_pairPlayers_44 N K35 Be Kd (nI a) (nI b) (nI tie) (nI ha) m (upd V (3 * a + x) (if nI (ca + cb) < V (3 * a + x) then nI (ca + cb) else V (3 * a + x))) (nI x) (nI y) (nI t) (nI (i + 1)) else o_X7_pairPlayers_44 N K35 Be Kd (nI a) (nI b) (nI tie) (nI ha) m (upd V (3 * b + y) (if nI (ca + cb) < V (3 * b + y) then nI (ca + cb) else V (3 * b + y))) (nI x) (nI y) (nI t) (nI (i + 1))) else if x = nx y then o_X7_pairPlayers_44 N K35 Be Kd (nI a) (nI b) (nI tie) (nI ha) m (upd V (3 * a + x) (if nI (ca + cb) < V (3 * a + x) then nI (ca + cb) else V (3 * a + x))) (nI x) (nI y) (nI t) (nI (i + 1)) else o_X7_pairPlayers_44 N K35 Be Kd (nI a) (nI b) (nI tie) (nI ha) m (upd V (3 * b + y) (if nI (ca + cb) < V (3 * b + y) then nI (ca + cb) else V (3 * b + y))) (nI x) (nI y) (nI t) (nI (i + 1))) := by
          have t1 : tie < 2 := by rw [ht]; split <;> omega
          rw [o_X7_pairPlayers_44]
          dsimp only
          rw [l3_, ifle (by omega) (by omega), if_neg (by omega), ga, gb, ogd_t i1, ogd_t i2, cl_nI (by omega), cl_nI (by omega), e1, e2, if_neg (nw_ne (by omega)), if_neg (nw_ne (by omega)), ogd_t (inb_ok hab (by omega)), ogd_t (inb_ok hb8 (by omega)), cl_nI (by omega), cl_nI (by omega), (hK a hab).1, (hK b hb8).1, pl, Option.bind_some]
          dsimp only
          rw [p_isTie x3 y3, Option.bind_some, p_fhb x3 y3, Option.bind_some]
          have w143 : ∀ s : Int32, o_X7_pairPlayers_143 N (o_X7_pairPlayers_44 N K35 Be Kd (nI a) (nI b) (nI tie) (nI ha) m) Be V (nI x) (nI y) (nI t) Kd (nI a) (nI b) (nI tie) (nI ha) (nI i) (nI ca) (nI cb) s = if s = 0 then o_X7_pairPlayers_44 N K35 Be Kd (nI a) (nI b) (nI tie) (nI ha) m (upd V (3 * a + x) (if nI (ca + cb) < V (3 * a + x) then nI (ca + cb) else V (3 * a + x))) (nI x) (nI y) (nI t) (nI (i + 1)) else o_X7_pairPlayers_44 N K35 Be Kd (nI a) (nI b) (nI tie) (nI ha) m (upd V (3 * b + y) (if nI (ca + cb) < V (3 * b + y) then nI (ca + cb) else V (3 * b + y))) (nI x) (nI y) (nI t) (nI (i + 1)) := by
            intro s
            rw [o_X7_pairPlayers_143, o_X7_pairPlayers_175, o_X7_pairPlayers_175, l3_, pA, pB, ogd_t iA, ogd_t iA, ogd_t iB, ogd_t iB, cl_nI (by omega), cl_nI (by omega), nI_add, nI_1]
          rw [w143, w143, w143]
          by_cases q1 : x = y
          · rw [if_pos q1, if_pos q1, if_neg (show ¬ (1 : Int32) = 0 by decide), l0, ifeq (by omega) (by omega)]
          · rw [if_neg q1, if_neg q1, if_pos (show (0 : Int32) = 0 from rfl)]
            by_cases q2 : x = nx y
            · rw [if_pos q2, if_pos q2, if_neg (show ¬ (1 : Int32) = 0 by decide), if_pos (show (0 : Int32) = 0 from rfl)]
            · rw [if_neg q2, if_neg q2, if_pos (show (0 : Int32) = 0 from rfl), if_neg (show ¬ (1 : Int32) = 0 by decide)]
        by_cases q2 : x = nx y
        · have q1 : ¬ x = y := fun z => nx_ne y y3 (by rw [← q2, z])
          refine go a x hab x3 (by rw [ot, if_pos q2]) (by rw [ot, if_pos q2]) ?_
          rw [base, if_neg q1, if_pos q2]
        · by_cases q1 : x = y
          · by_cases q3 : ta < tb
            · refine go b y hb8 y3 (by rw [ot, if_neg q2, if_pos q1, if_pos q3]) (by rw [ot, if_neg q2, if_pos q1, if_pos q3]) ?_
              rw [base, if_pos q1, if_neg (by rw [ht, if_pos q3]; omega)]
            · refine go a x hab x3 (by rw [ot, if_neg q2, if_pos q1, if_neg q3]) (by rw [ot, if_neg q2, if_pos q1, if_neg q3]) ?_
              rw [base, if_pos q1, if_pos (by rw [ht, if_neg q3])]
          · refine go b y hb8 y3 (by rw [ot, if_neg q2, if_neg q1]) (by rw [ot, if_neg q2, if_neg q1]) ?_
            rw [base, if_neg q1, if_neg q2]
theorem x_pair_35 {a b ta tb tie bd : Nat} (hN : 9 < N) (hbd : bd ≤ 500000000) (hab : a < 8) (hb8 : b < 8) (ht : tie = if ta < tb then 1 else 0) (hK : IA Kd k 8 6) (hv : BV Be bd) :
    ∀ j i m (V : Nat → Int32) (c1 c2 c3 : Int32) (S : Nat → Nat → Nat → Prop), i + j = 3 → j < m → AM V S (2 * bd) →
    ∃ V' c1' c2' c3', o_X7_pairPlayers_35 N Be Kd (nI a) (nI b) (nI tie) m V c1 c2 c3 (nI i) = some (V', c1', c2', c3') ∧ AM V' (fun q h c => S q h c ∨ ∃ ha, i ≤ ha ∧ ha < 3 ∧ ∃ hb, 0 ≤ hb ∧ hb < 3 ∧ NW k Be bd a b ta tb ha hb q h c) (2 * bd) := by
  intro j
  induction j with
  | zero =>
    intro i m V c1 c2 c3 S h1 h2 hA
    obtain ⟨m, rfl⟩ := mem_succ h2
    refine ⟨V, c1, c2, c3, ?_, AM_congr hA (fun p h c => ⟨Or.inl, fun q => q.elim id (fun ⟨hb, z1, z2, _⟩ => by omega)⟩)⟩
    rw [o_X7_pairPlayers_35]
    dsimp only
    rw [l3_, ifle (by omega) (by omega), if_pos (by omega)]
  | succ j ih =>
    intro i m V c1 c2 c3 S h1 h2 hA
    obtain ⟨m, rfl⟩ := mem_succ h2
    obtain ⟨V1, d1, d2, d3, f1, f2⟩ := x_pair_44 (K35 := o_X7_pairPlayers_35 N Be Kd (nI a) (nI b) (nI tie) m) (ha := i) hN hbd hab hb8 (by omega) ht hK hv 3 0 N V c1 c2 c3 S (by omega) (by omega) hA
    obtain ⟨V', e1, e2, e3, g1, g2⟩ := ih (i + 1) m V1 d1 d2 d3 _ (by omega) (by omega) f2
    refine ⟨V', e1, e2, e3, ?_, AM_congr g2 (fun p h c => ⟨?_, ?_⟩)⟩
    · rw [o_X7_pairPlayers_35]
      dsimp only
      rw [l3_, ifle (by omega) (by omega), if_neg (by omega), l0, f1]
      exact g1
    · rintro ((q | q) | ⟨ha, z1, z2, z3⟩)
      · exact Or.inl q
      · exact Or.inr ⟨i, Nat.le_refl i, by omega, q⟩
      · exact Or.inr ⟨ha, by omega, z2, z3⟩
    · rintro (q | ⟨ha, z1, z2, z3⟩)
      · exact Or.inl (Or.inl q)
      · by_cases e : ha = i
        · subst e; exact Or.inl (Or.inr z3)
        · exact Or.inr ⟨ha, by omega, z2, z3⟩
def NP (k : Nat → Nat) (Be : Nat → Int32) (bd a b ta tb q h c : Nat) : Prop := ∃ ha hb, ha < 3 ∧ hb < 3 ∧ NW k Be bd a b ta tb ha hb q h c
theorem x_pair {a b ga gb ta tb bd : Nat} {V : Nat → Int32} {c1 c2 c3 : Int32} {S : Nat → Nat → Nat → Prop} (hN : 9 < N) (hbd : bd ≤ 500000000) (hab : a < 8) (hb8 : b < 8) (hK : IA Kd k 8 6) (hv : BV Be bd) (ga8 : ga < 8) (gb8 : gb < 8) (e1 : G a = nI ga) (e2 : G b = nI gb) (e3 : Tr ga = nI ta) (e4 : Tr gb = nI tb) (t1 : ta < 100000) (t2 : tb < 100000) (hA : AM V S (2 * bd)) :
    ∃ V' c1' c2' c3', o_X7_pairPlayers N G Tr Be V c1 c2 c3 Kd (nI a) (nI b) = some (V', c1', c2', c3') ∧ AM V' (fun q h c => S q h c ∨ NP k Be bd a b ta tb q h c) (2 * bd) := by
  obtain ⟨V', d1, d2, d3, g1, g2⟩ := x_pair_35 (ta := ta) (tb := tb) (tie := if ta < tb then 1 else 0) hN hbd hab hb8 rfl hK hv 3 0 N V c1 c2 c3 S (by omega) (by omega) hA
  refine ⟨V', d1, d2, d3, ?_, AM_congr g2 (fun p h c => ⟨?_, ?_⟩)⟩
  · rw [o_X7_pairPlayers, ogd_t (inb_ok hb8 (by omega)), cl_nI (by omega), e2, ogd_t (inb_ok gb8 (by omega)), ogd_t (inb_ok hab (by omega)), cl_nI (by omega), cl_nI (by omega), e1, ogd_t (inb_ok ga8 (by omega)), cl_nI (by omega), e3, e4, ifle (by omega) (by omega), ← g1]
    by_cases z : ta < tb
    · rw [if_neg (by omega), if_pos z]; rfl
    · rw [if_pos (by omega), if_neg z]; rfl
  · rintro (q | ⟨ha, z1, z2, hb, z3, z4, z5⟩)
    · exact Or.inl q
    · exact Or.inr ⟨ha, hb, z2, z4, z5⟩
  · rintro (q | ⟨ha, hb, z2, z4, z5⟩)
    · exact Or.inl q
    · exact Or.inr ⟨ha, by omega, z2, hb, by omega, z4, z5⟩
end PAIRS
