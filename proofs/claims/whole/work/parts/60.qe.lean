/-! PURE PART QE: a hall is read -/
def TKS (n : Nat) (B : Nat → Nat) (xt xs xp xv ma ml mk mv : Int32) : Prop := ∃ t st en v, t ≤ 4 ∧ st ≤ en ∧ en ≤ n ∧ v < 1000 ∧ xt = nI t ∧ xs = nI st ∧ xp = nI en ∧ (t = 2 → xv = nI v) ∧ ma = nI st ∧ ml = nI (en - st) ∧ mk = nI t ∧ (t = 2 → mv = nI v)
def PRS (c : Nat) (K D L S H : Nat → Int32) : Prop := ∀ p, p < c → ∃ k d, 1 ≤ k ∧ k ≤ 5 ∧ d < 3 ∧ K p = nI k ∧ S p = nI k ∧ D p = nI d ∧ H p = nI d ∧ L p = nI p
section READ
variable {N n : Nat} {x mt : Nat → Int32} {B : Nat → Nat}
theorem tks_new (h : BY n x mt B) (hN : 201 < N) {i : Nat} {v : Int32} (hi : i ≤ n) : ∃ xt xs xp xv ma ml mk mv, o_X4_step N (nI i) v (nI n) x = some (xt, xs, xp, xv) ∧ o_X9_look N (nI n) mt (nI i) = some (ma, ml, mk, mv) ∧ TKS n B xt xs xp xv ma ml mk mv := by
  obtain ⟨V, g1, g2⟩ := x_step h (v := v) hN hi
  obtain ⟨W, f1, f2⟩ := m_look h hN hi
  obtain ⟨b1, b2, b3, b4, b5⟩ := TOK_b (B := B) hi
  have b6 := TOK_v h hi
  exact ⟨_, _, _, V, _, _, _, W, g1, f1, _, _, _, _, b4, b2, b3, b6, rfl, rfl, rfl, g2, rfl, rfl, rfl, f2⟩
theorem tks_on (h : BY n x mt B) (hN : 201 < N) {xt xs xp xv ma ml mk mv v : Int32} (k : TKS n B xt xs xp xv ma ml mk mv) : ∃ xt' xs' xp' xv' ma' ml' mk' mv', o_X4_step N xp v (nI n) x = some (xt', xs', xp', xv') ∧ o_X9_goOn N (nI n) ma ml mt = some (ma', ml', mk', mv') ∧ TKS n B xt' xs' xp' xv' ma' ml' mk' mv' := by
  obtain ⟨t, st, en, v', a1, a2, a3, a4, rfl, rfl, rfl, a5, rfl, rfl, rfl, a6⟩ := k
  obtain ⟨xt', xs', xp', xv', ma', ml', mk', mv', g1, g2, g3⟩ := tks_new h hN (v := v) a3
  refine ⟨xt', xs', xp', xv', ma', ml', mk', mv', g1, ?_, g3⟩
  rw [o_X9_goOn, nI_add, show st + (en - st) = en by omega, g2, Option.bind_some]
theorem IB_upd {A : Nat → Int32} {b i v : Nat} (h : IB A b) (hv : v < b) : IB (upd A i (nI v)) b := by
  obtain ⟨g, h⟩ := h
  exact ⟨_, IA_upd h hv⟩
/-- readPlayer's outcome, of both -/
def RP (n : Nat) (B : Nat → Nat) (c : Nat) (X : Option (Int32 × Int32 × Int32 × Int32 × Int32 × Int32 × (Nat → Int32) × (Nat → Int32) × (Nat → Int32))) (M : Option (Int32 × Int32 × Int32 × Int32 × Int32 × (Nat → Int32) × (Nat → Int32))) (q : Prop) : Prop :=
  ∃ f xt xs xp xv ma ml mk mv K D L S H, X = some (nI f, xt, xs, xp, xv, nI (if f = 0 then c + 1 else c), K, D, L) ∧ M = some (nI f, ma, ml, mk, mv, S, H) ∧ f ≤ 3 ∧ TKS n B xt xs xp xv ma ml mk mv ∧ TB K D L ∧ (f = 0 → PRS (c + 1) K D L S H ∧ c < 8) ∧ (q → f ≠ 0)
theorem s_readPlayer (h : BY n x mt B) (hN : 201 < N) {c : Nat} {xt xs xp xv ma ml mk mv : Int32} {K D L S H : Nat → Int32} (k : TKS n B xt xs xp xv ma ml mk mv) (hc : c ≤ 8) (hp : PRS c K D L S H) (hT : TB K D L) : RP n B c (o_X4_readPlayer N xt xs xp xv (nI n) x (nI c) K D L) (o_X9_readPlayer N (nI n) ma ml mk mv mt S H (nI c)) (xt = 0) := by
  have h200 := h.1
  have k0 := k
  obtain ⟨t, st, en, v, a1, a2, a3, a4, rfl, rfl, rfl, a5, rfl, rfl, rfl, a6⟩ := k
  obtain ⟨p1, p2⟩ := x_isWord h hN (si := 0) (by omega) a1 a2 a3
  obtain ⟨q1, q2⟩ := m_player h hN a1 a2 a3
  rw [o_X4_readPlayer, o_X9_readPlayer]
  by_cases w : WD B t st en 0
  · rw [p1 w, q1 w, Option.bind_some, Option.bind_some, if_neg (show ¬ (1 : Int32) = 0 by decide), if_neg (show ¬ (1 : Int32) = 0 by decide), l8_, ifeq (by omega) (by omega), ifeq (by omega) (by omega)]
    have tn : nI t = 0 → False := fun z => by rw [w.1] at z; exact absurd z (by decide)
    by_cases c8 : c = 8
    · rw [if_pos c8, if_pos c8]
      exact ⟨3, _, _, _, _, _, _, _, _, K, D, L, S, H, rfl, rfl, by omega, k0, hT, fun z => by omega, fun z => by omega⟩
    · have gc : inb (nI c) 8 = true := inb_ok (by omega) (by omega)
      rw [if_neg c8, if_neg c8]
      obtain ⟨xt1, xs1, xp1, xv1, ma1, ml1, mk1, mv1, g1, g2, g3⟩ := tks_on h hN (v := xv) k0
      rw [g1, g2, Option.bind_some, Option.bind_some]
      dsimp only
      obtain ⟨t1, st1, en1, v1, b1, b2, b3, b4, rfl, rfl, rfl, b5, rfl, rfl, rfl, b6⟩ := id g3
      obtain ⟨r, r5, s1, s2⟩ := s_sort h hN b1 b2 b3
      rw [s1, s2, Option.bind_some, Option.bind_some, ogd_t gc, ogd_t gc, cl_nI (by omega), upd_eq, l0, ifeq (by omega) (by omega), ifeq (by omega) (by omega)]
      by_cases r0 : r = 0
      · rw [if_pos r0, if_pos r0]
        exact ⟨1, _, _, _, _, _, _, _, _, K, D, L, upd S c (nI r), H, rfl, rfl, by omega, g3, hT, fun z => by omega, fun z => by omega⟩
      · rw [if_neg r0, if_neg r0]
        obtain ⟨xt2, xs2, xp2, xv2, ma2, ml2, mk2, mv2, g4, g5, g6⟩ := tks_on h hN (v := xv1) g3
        rw [g4, g5, Option.bind_some, Option.bind_some]
        dsimp only
        obtain ⟨t2, st2, en2, v2, c1, c2, c3, c4, rfl, rfl, rfl, c5, rfl, rfl, rfl, c6⟩ := id g6
        rw [l2_, ifeq (by omega) (by omega), ifeq (by omega) (by omega)]
        by_cases e2 : t2 = 2
        · rw [if_pos e2, if_pos e2, c5 e2, c6 e2, x_isHand, Option.bind_some, ifle (by omega) (by omega)]
          by_cases e3 : v2 ≤ 2
          · have ex : ∃ r, r < 2 + 1 ∧ nI v2 = nI r := ⟨v2, by omega, rfl⟩
            rw [if_pos e3, if_pos ex, if_neg (show ¬ (1 : Int32) = nI 0 by decide), ogd_t gc]
            obtain ⟨xt3, xs3, xp3, xv3, ma3, ml3, mk3, mv3, g7, g8, g9⟩ := tks_on h hN (v := nI v2) g6
            rw [g7, g8, Option.bind_some, Option.bind_some]
            dsimp only
            obtain ⟨t3, st3, en3, v3, d1, d2, d3, d4, rfl, rfl, rfl, d5, rfl, rfl, rfl, d6⟩ := id g9
            rw [l3_, ifeq (by omega) (by omega), ifeq (by omega) (by omega)]
            by_cases e4 : t3 = 3
            · rw [if_pos e4, if_pos e4, o_X3_enter, l8_, ifle (by omega) (by omega), if_neg (by omega), ogd_t gc, ogd_t gc, ogd_t gc, Option.bind_some, cl_nI (by omega), nI_1]
              obtain ⟨xt4, xs4, xp4, xv4, ma4, ml4, mk4, mv4, g10, g11, g12⟩ := tks_on h hN (v := xv3) g9
              rw [g10, g11, Option.bind_some, Option.bind_some]
              dsimp only
              refine ⟨0, xt4, xs4, xp4, xv4, ma4, ml4, mk4, mv4, upd K c (nI r), upd D c (nI v2), upd L c (nI c), upd S c (nI r), upd H c (nI v2), rfl, rfl, by omega, g12, ⟨IB_upd hT.1 (by omega), IB_upd hT.2.1 (by omega), IB_upd hT.2.2 (by omega)⟩, fun _ => ⟨fun p hp' => ?_, by omega⟩, fun z => (tn z).elim⟩
              by_cases e : p = c
              · subst e
                exact ⟨r, v2, by omega, r5, by omega, upd_eq _ _ _, upd_eq _ _ _, upd_eq _ _ _, upd_eq _ _ _, upd_eq _ _ _⟩
              · rw [upd_ne e, upd_ne e, upd_ne e, upd_ne e, upd_ne e]
                exact hp p (by omega)
            · rw [if_neg e4, if_neg e4]
              exact ⟨1, _, _, _, _, _, _, _, _, K, D, L, _, _, rfl, rfl, by omega, g9, hT, fun z => by omega, fun z => by omega⟩
          · have ex : ¬ ∃ r, r < 2 + 1 ∧ nI v2 = nI r := by
              rintro ⟨r, hr, e⟩
              have := (nI_eq (a := v2) (b := r) (by omega) (by omega)).mp e
              omega
            rw [if_neg e3, if_neg ex, if_pos (show (0 : Int32) = nI 0 from rfl)]
            exact ⟨2, _, _, _, _, _, _, _, _, K, D, L, _, _, rfl, rfl, by omega, ⟨t2, st2, en2, v2, c1, c2, c3, c4, rfl, rfl, rfl, fun _ => rfl, rfl, rfl, rfl, fun _ => rfl⟩, hT, fun z => by omega, fun z => by omega⟩
        · rw [if_neg e2, if_neg e2]
          exact ⟨1, _, _, _, _, _, _, _, _, K, D, L, _, _, rfl, rfl, by omega, g6, hT, fun z => by omega, fun z => by omega⟩
  · rw [p2 w, q2 w, Option.bind_some, Option.bind_some, if_pos rfl, if_pos rfl]
    exact ⟨1, _, _, _, _, _, _, _, _, K, D, L, S, H, rfl, rfl, by omega, k0, hT, fun z => by omega, fun z => by omega⟩
end READ
section READ2
variable {N n : Nat} {x mt : Nat → Int32} {B : Nat → Nat}
theorem s_read (h : BY n x mt B) (hN : 201 < N) {mk fl : Int32} {w : Nat → Int32} : ∀ j i m m' (f c : Nat) (xt xs xp xv ma ml mtk mv : Int32) (K D L S H : Nat → Int32), i + j = 8 → j < m → j < m' → f ≤ 3 → 1 ≤ c ∨ f ≠ 0 → (f = 0 → c = i + 1) → c ≤ 8 → TKS n B xt xs xp xv ma ml mtk mv → (f = 0 → PRS c K D L S H) → TB K D L →
    ∃ f' c' xt' xs' xp' xv' ma' ml' mtk' mv' K' D' L' S' H', o_X4_read_21 N (nI n) x 0 0 m xt xs xp xv (nI c) K D L (nI f) (nI i) = some (nI f', xt', xs', xp', xv', nI c', 0, 0, K', D', L') ∧ o_X9_hall_9 N mk (nI n) fl w mt m' ma ml mtk mv S H (nI c) (nI f) = o_X9_hall_45 N mk fl ma' ml' mtk' mv' w S' H' (nI c') (nI f') ∧ f' ≤ 3 ∧ c' ≤ 8 ∧ (1 ≤ c' ∨ f' ≠ 0) ∧ xs' = ma' ∧ (f' = 0 → PRS c' K' D' L' S' H') ∧ TB K' D' L' := by
  intro j
  have fin : ∀ i m m' (f c : Nat) (xt xs xp xv ma ml mtk mv : Int32) (K D L S H : Nat → Int32), i ≤ 8 → 0 < m → 0 < m' → f ≤ 3 → 1 ≤ c ∨ f ≠ 0 → (f = 0 → c = i + 1) → c ≤ 8 → TKS n B xt xs xp xv ma ml mtk mv → (f = 0 → PRS c K D L S H) → TB K D L → (f ≠ 0 ∨ xt = 0) →
      ∃ f' c' xt' xs' xp' xv' ma' ml' mtk' mv' K' D' L' S' H', o_X4_read_21 N (nI n) x 0 0 m xt xs xp xv (nI c) K D L (nI f) (nI i) = some (nI f', xt', xs', xp', xv', nI c', 0, 0, K', D', L') ∧ o_X9_hall_9 N mk (nI n) fl w mt m' ma ml mtk mv S H (nI c) (nI f) = o_X9_hall_45 N mk fl ma' ml' mtk' mv' w S' H' (nI c') (nI f') ∧ f' ≤ 3 ∧ c' ≤ 8 ∧ (1 ≤ c' ∨ f' ≠ 0) ∧ xs' = ma' ∧ (f' = 0 → PRS c' K' D' L' S' H') ∧ TB K' D' L' := by
    intro i m m' f c xt xs xp xv ma ml mtk mv K D L S H h1 h2 h3 h4 h5 h6 h7 h8 h9 hT h10
    obtain ⟨m, rfl⟩ := mem_succ h2
    obtain ⟨m', rfl⟩ := mem_succ h3
    obtain ⟨t, st, en, v, a1, a2, a3, a4, rfl, rfl, rfl, a5, rfl, rfl, rfl, a6⟩ := id h8
    refine ⟨f, c, nI t, nI st, nI en, xv, nI st, nI (en - st), nI t, mv, K, D, L, S, H, ?_, ?_, h4, h7, h5, rfl, h9, hT⟩
    · rw [o_X4_read_21]
      dsimp only
      rw [l8_, ifle (by omega) (by omega)]
      by_cases e : 8 ≤ i
      · rw [if_pos e]
      · rw [if_neg e, l0, ifeq (by omega) (by omega), ifeq (by omega) (by omega)]
        by_cases g : f = 0
        · rw [if_pos g, if_pos]
          rcases h10 with h10 | h10
          · exact absurd g h10
          · exact (nI_eq (a := t) (b := 0) (by omega) (by omega)).mp h10
        · rw [if_neg g]
    · rw [o_X9_hall_9]
      dsimp only
      rw [l0, ifeq (by omega) (by omega), ifeq (by omega) (by omega), ifeq (by omega) (by omega)]
      by_cases g : f = 0
      · rw [if_pos g, if_pos, if_neg (show ¬ c = 0 by have := h6 g; omega)]
        rcases h10 with h10 | h10
        · exact absurd g h10
        · exact (nI_eq (a := t) (b := 0) (by omega) (by omega)).mp h10
      · rw [if_neg g]
  induction j with
  | zero =>
    intro i m m' f c xt xs xp xv ma ml mtk mv K D L S H h1 h2 h3 h4 h5 h6 h7 h8 h9 hT
    exact fin i m m' f c xt xs xp xv ma ml mtk mv K D L S H (by omega) h2 h3 h4 h5 h6 h7 h8 h9 hT (Or.inl (fun z => by have := h6 z; omega))
  | succ j ih =>
    intro i m m' f c xt xs xp xv ma ml mtk mv K D L S H h1 h2 h3 h4 h5 h6 h7 h8 h9 hT
    by_cases ex : f ≠ 0 ∨ xt = 0
    · exact fin i m m' f c xt xs xp xv ma ml mtk mv K D L S H (by omega) (by omega) (by omega) h4 h5 h6 h7 h8 h9 hT ex
    · have f0 : f = 0 := Classical.byContradiction fun z => ex (Or.inl z)
      have x0 : ¬ xt = 0 := fun z => ex (Or.inr z)
      obtain ⟨m, rfl⟩ := mem_succ (show 0 < m by omega)
      obtain ⟨m', rfl⟩ := mem_succ (show 0 < m' by omega)
      have hc := h6 f0
      obtain ⟨f1, xt1, xs1, xp1, xv1, ma1, ml1, mk1, mv1, K1, D1, L1, S1, H1, g1, g2, g3, g4, g5, g6, g7⟩ := s_readPlayer h hN h8 h7 (h9 f0) hT
      have st : o_X4_read_21 N (nI n) x 0 0 (m + 1) xt xs xp xv (nI c) K D L (nI f) (nI i) = o_X4_read_21 N (nI n) x 0 0 m xt1 xs1 xp1 xv1 (nI (if f1 = 0 then c + 1 else c)) K1 D1 L1 (nI f1) (nI (i + 1)) := by
        rw [o_X4_read_21]
        dsimp only
        rw [l8_, ifle (by omega) (by omega), if_neg (by omega), if_pos (by rw [f0]; rfl), if_neg x0, g1, Option.bind_some, nI_1]
      have st' : o_X9_hall_9 N mk (nI n) fl w mt (m' + 1) ma ml mtk mv S H (nI c) (nI f) = o_X9_hall_9 N mk (nI n) fl w mt m' ma1 ml1 mk1 mv1 S1 H1 (nI (if f1 = 0 then c + 1 else c)) (nI f1) := by
        have mt0 : ¬ mtk = 0 := by
          obtain ⟨t, st, en, v, a1, a2, a3, a4, rfl, rfl, rfl, a5, rfl, rfl, rfl, a6⟩ := h8
          exact x0
        rw [o_X9_hall_9]
        dsimp only
        rw [if_pos (show nI f = 0 by rw [f0]; rfl), if_neg mt0, o_X9_hall_24, g2, Option.bind_some]
        dsimp only
        by_cases e : f1 = 0
        · rw [if_pos e, if_pos (show nI f1 = 0 by rw [e]; rfl), nI_1]
        · rw [if_neg e, if_neg (show ¬ nI f1 = 0 from fun q => e ((nI_eq (a := f1) (b := 0) (by omega) (by omega)).mp q)), l0, nI_add, Nat.add_zero]
      rw [st, st']
      refine ih (i + 1) m m' f1 (if f1 = 0 then c + 1 else c) xt1 xs1 xp1 xv1 ma1 ml1 mk1 mv1 K1 D1 L1 S1 H1 (by omega) (by omega) (by omega) g3 ?_ (fun z => by rw [if_pos z]; omega) ?_ g4 (fun z => by rw [if_pos z]; exact (g6 z).1) g5
      · by_cases e : f1 = 0
        · rw [if_pos e]; exact Or.inl (by omega)
        · exact Or.inr e
      · by_cases e : f1 = 0
        · rw [if_pos e]; have := (g6 e).2; omega
        · rw [if_neg e]; exact h7
theorem m_hall_97 {c : Nat} {tl fl ma ml mtk mv : Int32} {S H : Nat → Int32} (hc : c ≤ 8) : ∀ j i m (w : Nat → Int32), i + j = c → j < m →
    ∃ w', o_X9_hall_97 N tl fl ma ml mtk mv S H (nI c) m w (nI i) = some (nI c, 0, tl, fl, ma, ml, mtk, mv, w', S, H) ∧ (∀ p, i ≤ p → p < c → w' (1 + p) = S p ∧ w' (9 + p) = H p ∧ w' (17 + p) = nI p) ∧ (∀ q, (q = 0 ∨ 25 ≤ q) → w' q = w q) ∧ ∀ p, p < 8 → (p < i ∨ c ≤ p) → w' (1 + p) = w (1 + p) ∧ w' (9 + p) = w (9 + p) ∧ w' (17 + p) = w (17 + p) := by
  intro j
  induction j with
  | zero =>
    intro i m w h1 h2
    obtain ⟨m, rfl⟩ := mem_succ h2
    refine ⟨w, ?_, fun p a b => by omega, fun q _ => rfl, fun p _ _ => ⟨rfl, rfl, rfl⟩⟩
    rw [o_X9_hall_97]
    dsimp only
    rw [ifle (by omega) (by omega), if_pos (by omega)]
  | succ j ih =>
    intro i m w h1 h2
    obtain ⟨m, rfl⟩ := mem_succ h2
    obtain ⟨w', g1, g2, g3, g4⟩ := ih (i + 1) m (upd (upd (upd w (1 + i) (S i)) (9 + i) (H i)) (17 + i) (nI i)) (by omega) (by omega)
    refine ⟨w', ?_, fun p a b => ?_, fun q hq => ?_, fun p hp hq => ?_⟩
    · have gi : inb (nI i) 8 = true := inb_ok (by omega) (by omega)
      rw [o_X9_hall_97]
      dsimp only
      rw [ifle (by omega) (by omega), if_neg (by omega), ogd_t gi, ogd_t gi, l1_, l9_, l17_, nI_add, nI_add, nI_add, nI_add, ogd_t (inb_ok (by omega) (by omega)), ogd_t (inb_ok (by omega) (by omega)), ogd_t (inb_ok (by omega) (by omega)), cl_nI (by omega), cl_nI (by omega), cl_nI (by omega), cl_nI (by omega)]
      exact g1
    · by_cases e : p = i
      · subst e
        obtain ⟨f1, f2, f3⟩ := g4 p (by omega) (Or.inl (by omega))
        refine ⟨?_, ?_, ?_⟩
        · rw [f1, upd_ne (by omega), upd_ne (by omega), upd_eq]
        · rw [f2, upd_ne (by omega), upd_eq]
        · rw [f3, upd_eq]
      · exact g2 p (by omega) b
    · rw [g3 q hq, upd_ne (by omega), upd_ne (by omega), upd_ne (by omega)]
    · obtain ⟨f1, f2, f3⟩ := g4 p hp (by omega)
      rw [f1, f2, f3, upd_ne (by omega), upd_ne (by omega), upd_ne (by omega), upd_ne (by omega), upd_ne (by omega), upd_ne (by omega), upd_ne (by omega), upd_ne (by omega), upd_ne (by omega)]
      exact ⟨rfl, rfl, rfl⟩
theorem m_hall_69 {c : Nat} {tl fl ma ml mtk mv : Int32} {S H : Nat → Int32} (hN : 28 < N) (hc : c ≤ 8) : ∀ j i m (w : Nat → Int32), i + j = 27 → j < m → (∀ q, q < i → w q = 0) →
    ∃ w', o_X9_hall_69 N tl fl ma ml mtk mv S H (nI c) m w (nI i) = some (nI c, 0, tl, fl, ma, ml, mtk, mv, w', S, H) ∧ w' 0 = nI c ∧ w' 25 = 0 ∧ w' 26 = 0 ∧ (∀ p, p < c → w' (1 + p) = S p ∧ w' (9 + p) = H p ∧ w' (17 + p) = nI p) ∧ ∀ p, p < 8 → c ≤ p → w' (1 + p) = 0 ∧ w' (9 + p) = 0 ∧ w' (17 + p) = 0 := by
  intro j
  induction j with
  | zero =>
    intro i m w h1 h2 h3
    obtain ⟨m, rfl⟩ := mem_succ h2
    obtain ⟨w', g1, g2, g3, g4⟩ := m_hall_97 (N := N) (tl := tl) (fl := fl) (ma := ma) (ml := ml) (mtk := mtk) (mv := mv) (S := S) (H := H) hc c 0 N (upd w 0 (nI c)) (by omega) (by omega)
    refine ⟨w', ?_, by rw [g3 0 (Or.inl rfl), upd_eq], by rw [g3 25 (by omega), upd_ne (by omega), h3 25 (by omega)], by rw [g3 26 (by omega), upd_ne (by omega), h3 26 (by omega)], fun p hp => g2 p (by omega) hp, fun p hp hq => ?_⟩
    · rw [o_X9_hall_69]
      dsimp only
      rw [l27_, ifle (by omega) (by omega), if_pos (by omega), ogd_t (by decide), show Int32.toNatClampNeg 0 = 0 from rfl]
      exact g1
    · obtain ⟨f1, f2, f3⟩ := g4 p hp (Or.inr hq)
      rw [f1, f2, f3, upd_ne (by omega), upd_ne (by omega), upd_ne (by omega), h3 _ (by omega), h3 _ (by omega), h3 _ (by omega)]
      exact ⟨rfl, rfl, rfl⟩
  | succ j ih =>
    intro i m w h1 h2 h3
    obtain ⟨m, rfl⟩ := mem_succ h2
    obtain ⟨w', g1, g2⟩ := ih (i + 1) m (upd w i 0) (by omega) (by omega) (fun q hq => by
      by_cases e : q = i
      · subst e; exact upd_eq _ _ _
      · rw [upd_ne e]; exact h3 q (by omega))
    refine ⟨w', ?_, g2⟩
    rw [o_X9_hall_69]
    dsimp only
    rw [l27_, ifle (by omega) (by omega), if_neg (by omega), ogd_t (inb_ok (by omega) (by omega)), cl_nI (by omega), nI_1]
    exact g1
end READ2
theorem s_hall {N : Nat} {fl xl ml rv xp R T tp tR tT xk xn mk : Int32} {xb mt K D L tK tD tL A Bm w S H : Nat → Int32} (hN : 300 < N) (hR : TR xl xb ml mt) (hA : AR xk xn A mk Bm) (hT : TB tK tD tL) (hh : HREL xp R T K D L w) :
    ∃ r fl' X1 X2 X3 X4 xp' R' T' K' D' L' tp' tR' tT' tK' tD' tL' xk' Y1 Y2 Y3 Y4 w' S' H', o_X8_hall N fl xl xb rv xp R T K D L tK tD tL xk = some (r, fl', 0, X1, X2, X3, X4, xp', R', T', K', D', L', tp', tR', tT', tK', tD', tL', xk') ∧ o_X9_hall N mk ml fl w mt S H = some (r, xk', 0, fl', Y1, Y2, Y3, Y4, w', S', H') ∧ AR xk' xn A xk' Bm ∧ HREL xp' R' T' K' D' L' w' ∧ TB tK' tD' tL' := by
  have hmk : xk = mk := by obtain ⟨c, q, -, -, e1, e2, -⟩ := hA; rw [e1, e2]
  obtain ⟨n, B, rfl, rfl, h⟩ := BY_of hR
  obtain ⟨xt, xs, xpa, xv, ma, mlo, mtk, mv, g1, g2, g3⟩ := tks_new h (N := N) (by omega) (i := 0) (v := rv) (by omega)
  obtain ⟨f1, xt1, xs1, xp1, xv1, ma1, ml1, mk1, mv1, K1, D1, L1, S1, H1, e1, e2, e3, e4, e5, e6, e7⟩ := s_readPlayer h (N := N) (by omega) (c := 0) (K := tK) (D := tD) (L := tL) (S := S) (H := H) g3 (by omega) (fun p hp => by omega) hT
  obtain ⟨f, c, xt2, xs2, xp2, xv2, ma2, ml2, mk2, mv2, K2, D2, L2, S2, H2, u1, u2, u3, u4, u5, u6, u7, u8⟩ := s_read h (N := N) (by omega) (mk := mk) (fl := fl) (w := w) 8 0 N (N - 1) f1 (if f1 = 0 then 0 + 1 else 0) xt1 xs1 xp1 xv1 ma1 ml1 mk1 mv1 K1 D1 L1 S1 H1 (by omega) (by omega) (by omega) e3 (by
      by_cases z : f1 = 0
      · rw [if_pos z]; exact Or.inl (by omega)
      · exact Or.inr z) (fun z => by rw [if_pos z]) (by split <;> omega) e4 (fun z => by rw [if_pos z]; exact (e6 z).1) e5
  have xr : o_X4_read N rv (nI n) xb tK tD tL = some (nI f, xt2, xs2, xp2, xv2, nI c, 0, 0, K2, D2, L2) := by
    rw [o_X4_read, o_X3_clear, Option.bind_some, l0, g1, Option.bind_some]
    dsimp only
    rw [e1, Option.bind_some]
    exact u1
  have mr : o_X9_hall N mk (nI n) fl w mt S H = o_X9_hall_45 N mk fl ma2 ml2 mk2 mv2 w S2 H2 (nI c) (nI f) := by
    rw [o_X9_hall, l0, g2, Option.bind_some, ← u2]
    dsimp only
    obtain ⟨M, hM⟩ := mem_succ (show 0 < N by omega)
    have key : o_X9_hall_9 N mk (nI n) fl w mt (M + 1) ma mlo mtk mv S H (nI 0) (nI 0) = o_X9_hall_9 N mk (nI n) fl w mt M ma1 ml1 mk1 mv1 S1 H1 (nI (if f1 = 0 then 0 + 1 else 0)) (nI f1) := by
      rw [o_X9_hall_9]
      dsimp only
      have h24 : o_X9_hall_24 N (o_X9_hall_9 N mk (nI n) fl w mt M) mk (nI n) fl ma mlo mtk mv w mt S H (nI 0) = o_X9_hall_9 N mk (nI n) fl w mt M ma1 ml1 mk1 mv1 S1 H1 (nI (if f1 = 0 then 0 + 1 else 0)) (nI f1) := by
        rw [o_X9_hall_24, e2, Option.bind_some]
        dsimp only
        by_cases e : f1 = 0
        · rw [if_pos e, if_pos (show nI f1 = 0 by rw [e]; rfl), nI_1]
        · rw [if_neg e, if_neg (show ¬ nI f1 = 0 from fun q => e ((nI_eq (a := f1) (b := 0) (by omega) (by omega)).mp q))]
          rfl
      rw [if_pos (show nI 0 = 0 from rfl), h24, if_pos (show nI 0 = 0 from rfl), ite_self]
    have eN : M = N - 1 := by omega
    rw [← eN]
    rw [← hM] at key
    exact key
  rw [o_X8_hall, xr, Option.bind_some, mr, o_X9_hall_45]
  dsimp only
  by_cases z : f = 0
  · subst z
    rw [if_pos (show nI 0 = 0 from rfl), if_pos (show nI 0 = 0 from rfl)]
    obtain ⟨K3, D3, L3, b1, b2⟩ := p_become (N := N) (p1 := nI c) (p2 := 0) (p3 := 0) (K := K2) (D := D2) (L := L2) (A := K) (B := D) (C := L) (by omega)
    obtain ⟨w', v1, v2, v3, v4, v5, v6⟩ := m_hall_69 (N := N) (tl := 0) (fl := fl) (ma := ma2) (ml := ml2) (mtk := mk2) (mv := mv2) (S := S2) (H := H2) (by omega) u4 27 0 N w (by omega) (by omega) (fun q hq => by omega)
    have pr := u7 rfl
    refine ⟨nI c, fl, xt2, xs2, xp2, xv2, nI c, 0, 0, K3, D3, L3, nI c, 0, 0, K2, D2, L2, 0, ma2, ml2, mk2, mv2, w', S2, H2, ?_, ?_, ?_, ?_, u8⟩
    · rw [b1, Option.bind_some]
      rfl
    · exact v1
    · obtain ⟨c', q, a1, a2, a3, a4, a5, a6⟩ := hA
      exact ⟨0, q, by omega, a2, rfl, rfl, a5, fun i hi => by omega⟩
    · obtain ⟨⟨gk, hk⟩, ⟨gd, hd⟩, ⟨gl, hl⟩⟩ := u8
      have kk : ∀ p, p < c → 1 ≤ gk p ∧ gk p ≤ 5 ∧ gl p = p ∧ w' (1 + p) = nI (gk p) ∧ w' (9 + p) = nI (gd p) ∧ w' (17 + p) = nI (gl p) := by
        intro p hp
        obtain ⟨k, d, q1, q2, q3, q4, q5, q6, q7, q8⟩ := pr p hp
        have y1 := (hk p (by omega)).1
        have y2 := (hd p (by omega)).1
        have y3 := (hl p (by omega)).1
        have y4 := (hk p (by omega)).2
        have y5 := (hd p (by omega)).2
        have y6 := (hl p (by omega)).2
        have z1 : k = gk p := (nI_eq (by omega) (by omega)).mp (by rw [← q4, y1])
        have z2 : d = gd p := (nI_eq (by omega) (by omega)).mp (by rw [← q6, y2])
        have z3 : p = gl p := (nI_eq (by omega) (by omega)).mp (by rw [← q8, y3])
        obtain ⟨s1, s2, s3⟩ := v5 p hp
        refine ⟨by omega, by omega, z3.symm, by rw [s1, q5, z1], by rw [s2, q7, z2], by rw [s3, ← z3]⟩
      refine ⟨c, gk, fun p => if p < c then gk p else 0, (gd, gl, 0, 0), (fun p => if p < c then gd p else 0, fun p => if p < c then gl p else 0, 0, 0), ⟨rfl, rfl, rfl, IA_eq hk (fun q hq => (b2 q hq).1), IA_eq hd (fun q hq => (b2 q hq).2.1), IA_eq hl (fun q hq => (b2 q hq).2.2)⟩, ⟨⟨v2, fun p hp => ?_⟩, v3, v4⟩, ⟨⟨u4, fun p hp => ⟨by have := (hk p hp).2; omega, (hd p hp).2, (hl p hp).2⟩⟩, fun p hp => ?_⟩, ⟨⟨u4, fun p hp => ?_⟩, fun p hp => ?_⟩, fun p hp => ?_, ⟨fun p hp => ?_, fun p hp => ?_, rfl⟩, fun p hp => (kk p hp).1⟩
      · dsimp only
        by_cases e : p < c
        · obtain ⟨-, -, -, s1, s2, s3⟩ := kk p e
          rw [if_pos e, if_pos e, if_pos e]; exact ⟨s1, s2, s3⟩
        · rw [if_neg e, if_neg e, if_neg e]; exact v6 p hp (by omega)
      · obtain ⟨-, -, s, -⟩ := kk p hp
        dsimp only
        rw [s, s]; exact ⟨hp, rfl⟩
      · dsimp only
        by_cases e : p < c
        · obtain ⟨-, s, -⟩ := kk p e
          rw [if_pos e, if_pos e, if_pos e]; exact ⟨s, (hd p hp).2, (hl p hp).2⟩
        · rw [if_neg e, if_neg e, if_neg e]; omega
      · obtain ⟨-, -, s, -⟩ := kk p hp
        dsimp only
        rw [if_pos hp, s, if_pos hp, s]; exact ⟨hp, rfl⟩
      · dsimp only; rw [if_pos hp]
      · dsimp only; rw [if_pos hp]
      · dsimp only; rw [if_pos hp]
  · have z' : ¬ nI f = 0 := fun q => z ((nI_eq (a := f) (b := 0) (by omega) (by omega)).mp q)
    rw [if_neg z', if_neg z']
    refine ⟨-1000100 - xs2, nI f, xt2, xs2, xp2, xv2, xp, R, T, K, D, L, nI c, 0, 0, K2, D2, L2, xk, ma2, ml2, mk2, mv2, w, S2, H2, rfl, by rw [u6, hmk], by rw [← hmk] at hA; exact hA, hh, u8⟩
