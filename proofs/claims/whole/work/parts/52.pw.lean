/-! PURE PART W: hands -/
def tk (d v : Nat → Nat) (i : Nat) : Nat → Nat := fun p => if p < i then v p else d p
theorem tk_s (d v : Nat → Nat) (i : Nat) : up2 (tk d v i) i (v i) = tk d v (i + 1) := by
  funext p
  unfold up2 tk
  by_cases e : p = i
  · subst e; rw [if_pos rfl, if_pos (by omega)]
  · rw [if_neg e]
    by_cases g : p < i
    · rw [if_pos g, if_pos (by omega)]
    · rw [if_neg g, if_neg (by omega)]
theorem tk_i (d v : Nat → Nat) (i : Nat) : tk d v i i = d i := by unfold tk; rw [if_neg (by omega)]
theorem x_item {N a i : Nat} {it : Nat → Int32} (ha : a < 8) (hi : i < 40) : o_X5_itemOf N it (nI a) (nI i) = some (it (40 * a + i)) := by
  rw [o_X5_itemOf, x_place, Option.bind_some, ogd_t (inb_ok (by omega) (by omega)), cl_nI (by omega)]
def PH (it : Nat → Int32) (a q : Nat) : Prop := ∃ r, r < 2 + 1 ∧ it (40 * a + q) = nI r
theorem x_hands_67 {N n a : Nat} {fs R T xk xn : Int32} {it K D L A : Nat → Int32} (hn : n ≤ 8) (ha : a < 8) : ∀ j i m, i + j = n → j < m →
    ((∀ q, i ≤ q → q < n → PH it a q) → o_X8_hands_67 N fs it (nI n) R T K D L xk xn A (nI a) m (nI i) = Option.bind (o_X0_keep N xk xn A (nI n) R T K D L) (fun r110 => Option.bind (o_X8_takeHands N it (nI n) D (nI a)) (fun r116 => some (r116.1, 0, r116.2, r110.1, r110.2.1, r110.2.2)))) ∧
    ((∃ q, i ≤ q ∧ q < n ∧ ¬ PH it a q) → o_X8_hands_67 N fs it (nI n) R T K D L xk xn A (nI a) m (nI i) = some (-1000001, fs, D, xk, xn, A)) := by
  intro j
  induction j with
  | zero =>
    intro i m h1 h2
    obtain ⟨m, rfl⟩ := mem_succ h2
    refine ⟨fun _ => ?_, ?_⟩
    · rw [o_X8_hands_67]
      dsimp only
      rw [ifle (by omega) (by omega), if_pos (by omega)]
      rfl
    · rintro ⟨q, h3, h4, -⟩; omega
  | succ j ih =>
    intro i m h1 h2
    obtain ⟨m, rfl⟩ := mem_succ h2
    obtain ⟨g1, g2⟩ := ih (i + 1) m (by omega) (by omega)
    by_cases e : PH it a i
    · have st : o_X8_hands_67 N fs it (nI n) R T K D L xk xn A (nI a) (m + 1) (nI i) = o_X8_hands_67 N fs it (nI n) R T K D L xk xn A (nI a) m (nI (i + 1)) := by
        rw [o_X8_hands_67]
        dsimp only
        rw [ifle (by omega) (by omega), if_neg (by omega), x_item ha (by omega), Option.bind_some, x_isHand, if_pos (show ∃ r, r < 2 + 1 ∧ it (40 * a + i) = nI r from e), Option.bind_some, if_neg (by decide), nI_1]
      refine ⟨fun h => ?_, ?_⟩
      · rw [st]; exact g1 (fun q a b => h q (by omega) b)
      · rintro ⟨q, h3, h4, h5⟩
        rw [st]
        refine g2 ⟨q, ?_, h4, h5⟩
        rcases Nat.lt_or_ge i q with g | g
        · exact g
        · exact absurd (show PH it a q by rw [show q = i by omega]; exact e) h5
    · refine ⟨fun h => absurd (h i (Nat.le_refl i) (by omega)) e, fun _ => ?_⟩
      rw [o_X8_hands_67]
      dsimp only
      rw [ifle (by omega) (by omega), if_neg (by omega), x_item ha (by omega), Option.bind_some, x_isHand, if_neg (show ¬ ∃ r, r < 2 + 1 ∧ it (40 * a + i) = nI r from e), Option.bind_some, if_pos rfl]
theorem m_hands_58 {N n a : Nat} {mk fs : Int32} {w im B : Nat → Int32} {k d f : Nat → Nat} (hM : MA w n k d f) (hn : n ≤ 8) (ha : a < 8) : ∀ j i m, i + j = n → j < m →
    ((∀ q, i ≤ q → q < n → PH im a q) → o_X9_hands_58 N mk fs w B im (nI a) m 1 (nI i) = Option.bind (o_X9_keepAct N mk w B) (fun r112 => o_X9_hands_120 N r112.1 r112.2 im (nI a) N w 0 0)) ∧
    ((∃ q, i ≤ q ∧ q < n ∧ ¬ PH im a q) → o_X9_hands_58 N mk fs w B im (nI a) m 1 (nI i) = some (-1000001, mk, fs, w, B)) ∧ o_X9_hands_58 N mk fs w B im (nI a) m 0 (nI i) = some (-1000001, mk, fs, w, B) := by
  intro j
  induction j with
  | zero =>
    intro i m h1 h2
    obtain ⟨m, rfl⟩ := mem_succ h2
    refine ⟨fun _ => ?_, ?_, ?_⟩
    · rw [o_X9_hands_58]
      dsimp only
      rw [p_X9_players hM, Option.bind_some, ifle (by omega) (by omega), if_pos (by omega), if_neg (by decide)]
    · rintro ⟨q, h3, h4, -⟩; omega
    · rw [o_X9_hands_58]
      dsimp only
      rw [p_X9_players hM, Option.bind_some, ifle (by omega) (by omega), if_pos (by omega), if_pos rfl]
  | succ j ih =>
    intro i m h1 h2
    obtain ⟨m, rfl⟩ := mem_succ h2
    obtain ⟨g1, g2, g3⟩ := ih (i + 1) m (by omega) (by omega)
    have z0 : o_X9_hands_58 N mk fs w B im (nI a) (m + 1) 0 (nI i) = some (-1000001, mk, fs, w, B) := by
      rw [o_X9_hands_58]
      dsimp only
      rw [p_X9_players hM, Option.bind_some, ifle (by omega) (by omega), if_neg (by omega), if_pos rfl, o_X9_hands_96, nI_1]
      exact g3
    have st : o_X9_hands_58 N mk fs w B im (nI a) (m + 1) 1 (nI i) = if (∃ r, r < 2 + 1 ∧ im (40 * a + i) = nI r) then o_X9_hands_58 N mk fs w B im (nI a) m 1 (nI (i + 1)) else o_X9_hands_58 N mk fs w B im (nI a) m 0 (nI (i + 1)) := by
      rw [o_X9_hands_58]
      dsimp only
      rw [p_X9_players hM, Option.bind_some, ifle (by omega) (by omega), if_neg (by omega), if_neg (by decide), show (40 : Int32) = nI 40 from rfl, pk_mul, nI_add, ogd_t (inb_ok (by omega) (by omega)), cl_nI (by omega), p_in0 (by omega) w2, Option.bind_some, o_X9_hands_96, nI_1]
      by_cases e : ∃ r, r < 2 + 1 ∧ im (40 * a + i) = nI r
      · rw [if_pos e, if_pos e, if_neg (by decide)]
      · rw [if_neg e, if_neg e, if_pos rfl]
    by_cases e : PH im a i
    · rw [if_pos (show ∃ r, r < 2 + 1 ∧ im (40 * a + i) = nI r from e)] at st
      refine ⟨fun h => ?_, ?_, z0⟩
      · rw [st]; exact g1 (fun q a b => h q (by omega) b)
      · rintro ⟨q, h3, h4, h5⟩
        rw [st]
        refine g2 ⟨q, ?_, h4, h5⟩
        rcases Nat.lt_or_ge i q with g | g
        · exact g
        · exact absurd (show PH im a q by rw [show q = i by omega]; exact e) h5
    · rw [if_neg (show ¬ ∃ r, r < 2 + 1 ∧ im (40 * a + i) = nI r from e)] at st
      exact ⟨fun h => absurd (h i (Nat.le_refl i) (by omega)) e, fun _ => by rw [st]; exact g3, z0⟩
theorem x_take_4 {N n a : Nat} {it : Nat → Int32} {d v : Nat → Nat} (hn : n ≤ 8) (ha : a < 8) (hd : ∀ p, p < 8 → d p < 3) (hv : ∀ q, q < n → it (40 * a + q) = nI (v q) ∧ v q < 3) : ∀ j i m c (D : Nat → Int32), i + j = n → j < m → c + j < 100 → IA D (tk d v i) 8 3 →
    ∃ D', o_X8_takeHands_4 N it (nI n) (nI a) m D (nI c) (nI i) = some (nI (c + cn (fun p => !(d p == v p)) i j), D') ∧ IA D' (tk d v n) 8 3 := by
  intro j
  induction j with
  | zero =>
    intro i m c D h1 h2 h3 hD
    obtain ⟨m, rfl⟩ := mem_succ h2
    refine ⟨D, ?_, by rw [show n = i by omega]; exact hD⟩
    rw [o_X8_takeHands_4]
    dsimp only
    rw [ifle (by omega) (by omega), if_pos (by omega)]
    rfl
  | succ j ih =>
    intro i m c D h1 h2 h3 hD
    obtain ⟨m, rfl⟩ := mem_succ h2
    have vi := hv i (by omega)
    have hD' : IA (upd D i (nI (v i))) (tk d v (i + 1)) 8 3 := by rw [← tk_s]; exact IA_upd hD vi.2
    obtain ⟨D', g1, g2⟩ := ih (i + 1) m (c + (if (!(d i == v i)) = true then 1 else 0)) (upd D i (nI (v i))) (by omega) (by omega) (by split <;> omega) hD'
    refine ⟨D', ?_, g2⟩
    have gi : inb (nI i) 8 = true := inb_ok (by omega) (by omega)
    have e0 := (hD i (by omega)).1
    rw [tk_i] at e0
    have dd := hd i (by omega)
    rw [o_X8_takeHands_4]
    dsimp only
    rw [ifle (by omega) (by omega), if_neg (by omega), x_item ha (by omega), Option.bind_some, ogd_t gi, cl_nI (by omega), vi.1, e0, ifeq (by omega) (by omega), o_X8_takeHands_43, o_X8_takeHands_43, ogd_t gi, ogd_t gi, cl_nI (by omega), nI_1, nI_1, cn, ← Nat.add_assoc, ← g1]
    by_cases e : d i = v i
    · rw [if_pos e, if_neg (by rw [e]; simp)]; rfl
    · rw [if_neg e, if_pos (by simp [e])]
theorem m_take_120 {N n a : Nat} {im B : Nat → Int32} {mk : Int32} {k d v : Nat → Nat} {fo : (Nat → Nat) × Int32 × Int32} (hn : n ≤ 8) (ha : a < 8) (hd : ∀ p, p < 8 → d p < 3) (hv : ∀ q, q < n → im (40 * a + q) = nI (v q) ∧ v q < 3) : ∀ j i m c (w : Nat → Int32), i + j = n → j < m → c + j < 100 → MR w n k (tk d v i, fo) →
    ∃ w', o_X9_hands_120 N mk B im (nI a) m w (nI c) (nI i) = some (nI (c + cn (fun p => !(d p == v p)) i j), mk, 0, w', B) ∧ MR w' n k (tk d v n, fo) := by
  intro j
  induction j with
  | zero =>
    intro i m c w h1 h2 h3 hD
    obtain ⟨m, rfl⟩ := mem_succ h2
    refine ⟨w, ?_, by have e : i = n := by omega
                      rw [e] at hD; exact hD⟩
    rw [o_X9_hands_120]
    dsimp only
    rw [p_X9_players hD.1, Option.bind_some, ifle (by omega) (by omega), if_pos (by omega)]
    rfl
  | succ j ih =>
    intro i m c w h1 h2 h3 hD
    obtain ⟨m, rfl⟩ := mem_succ h2
    have vi := hv i (by omega)
    have hD' : MR (upd w (9 + i) (nI (v i))) n k (tk d v (i + 1), fo) := by
      refine ⟨?_, ?_, ?_⟩
      · have := MA_d (x := v i) hD.1 (show i < 8 by omega)
        dsimp only at this
        rw [tk_s] at this
        exact this
      · rw [upd_ne (by omega)]; exact hD.2.1
      · rw [upd_ne (by omega)]; exact hD.2.2
    obtain ⟨D', g1, g2⟩ := ih (i + 1) m (c + (if (!(d i == v i)) = true then 1 else 0)) (upd w (9 + i) (nI (v i))) (by omega) (by omega) (by split <;> omega) hD'
    refine ⟨D', ?_, g2⟩
    have gi : inb (nI (9 + i)) 27 = true := inb_ok (by omega) (by omega)
    have gj : inb (nI (40 * a + i)) 320 = true := inb_ok (by omega) (by omega)
    have e0 := (hD.1.2 i (by omega)).2.1
    dsimp only at e0
    rw [tk_i] at e0
    have dd := hd i (by omega)
    rw [o_X9_hands_120]
    dsimp only
    rw [p_X9_players hD.1, Option.bind_some, ifle (by omega) (by omega), if_neg (by omega), l9_, show (40 : Int32) = nI 40 from rfl, pk_mul, nI_add, nI_add, ogd_t gi, ogd_t gj, cl_nI (by omega), cl_nI (by omega), vi.1, e0, ifeq (by omega) (by omega), o_X9_hands_160, o_X9_hands_160, show (40 : Int32) = nI 40 from rfl, l9_, pk_mul, nI_add, nI_add, ogd_t gj, ogd_t gj, ogd_t gi, ogd_t gi, cl_nI (by omega), cl_nI (by omega), vi.1, nI_1, nI_1, cn, ← Nat.add_assoc, ← g1]
    by_cases e : d i = v i
    · rw [if_pos e, if_neg (by rw [e]; simp), l0, nI_add]
    · rw [if_neg e, if_pos (by simp [e])]
theorem s_hands {N : Nat} {fs xk xn mk xp R T x : Int32} {la sz it ln lg th im A B K D L w : Nat → Int32} (hN : 630 < N) (hr : RR la sz it ln lg th im) (h : AR xk xn A mk B) (hh : HREL xp R T K D L w) :
    ∃ r fs' D' xk' xn' A' w' B', o_X8_hands N fs la sz it xp R T K D L xk xn A x = some (r, fs', D', xk', xn', A') ∧ o_X9_hands N mk fs w B lg th im x = some (r, xk', fs', w', B') ∧ AR xk' xn' A' xk' B' ∧ HREL xp R T K D' L w' := by
  have hmk : xk = mk := by obtain ⟨c, q, -, -, e1, e2, -⟩ := h; rw [e1, e2]
  have h0 := hh
  obtain ⟨n, k, k', s, s', ⟨rfl, rfl, rfl, hK, hD, hL⟩, hM, hb, hb', hk, hs, h1⟩ := hh
  have hn := hb.1.1
  have no : ∀ (r f : Int32), o_X8_hands N fs la sz it (nI n) s.2.2.1 s.2.2.2 K D L xk xn A x = some (r, f, D, xk, xn, A) → o_X9_hands N mk fs w B lg th im x = some (r, mk, f, w, B) → ∃ r fs' D' xk' xn' A' w' B', o_X8_hands N fs la sz it (nI n) s.2.2.1 s.2.2.2 K D L xk xn A x = some (r, fs', D', xk', xn', A') ∧ o_X9_hands N mk fs w B lg th im x = some (r, xk', fs', w', B') ∧ AR xk' xn' A' xk' B' ∧ HREL (nI n) s.2.2.1 s.2.2.2 K D' L w' := by
    intro r f g1 g2
    exact ⟨r, f, D, xk, xn, A, w, B, g1, by rw [g2, hmk], by rw [← hmk] at h; exact h, h0⟩
  by_cases n0 : n = 0
  · refine no (-1000002) fs ?_ ?_
    · rw [o_X8_hands, x_miss hn, if_pos n0, Option.bind_some, if_neg (by decide)]
    · rw [o_X9_hands, p_X9_players hM.1, Option.bind_some, l0, ifeq (by omega) (by omega), if_pos n0]
  · have xs : ∀ {z}, (o_X8_isRow N x).bind (fun r14 => if r14 = 0 then some (-1000001, fs, D, xk, xn, A) else (o_X5_isMissing N la x).bind (fun r28 => if r28 = 0 then ogd (inb x 8) (if nI n ≤ sz x.toNatClampNeg then o_X8_hands_67 N fs it (nI n) s.2.2.1 s.2.2.2 K D L xk xn A x N 0 else some (-1000012, 2, D, xk, xn, A)) else some (-1000011, 1, D, xk, xn, A))) = z → o_X8_hands N fs la sz it (nI n) s.2.2.1 s.2.2.2 K D L xk xn A x = z := by
      intro z hz
      rw [o_X8_hands, x_miss hn, if_neg n0, Option.bind_some, if_pos rfl]
      exact hz
    have ms : ∀ {z}, (o_X9_isRow N x).bind (fun r11 => if r11 = 0 then some (-1000001, mk, fs, w, B) else ogd (inb x 8) (if th x.toNatClampNeg = 0 then some (-1000011, mk, 1, w, B) else ogd (inb x 8) (if nI n ≤ lg x.toNatClampNeg then o_X9_hands_58 N mk fs w B im x N 1 0 else some (-1000012, mk, 2, w, B)))) = z → o_X9_hands N mk fs w B lg th im x = z := by
      intro z hz
      rw [o_X9_hands, p_X9_players hM.1, Option.bind_some, if_neg (show ¬ nI n = 0 from fun q => n0 ((nI_eq (a := n) (b := 0) (by omega) (by omega)).mp q)), Option.bind_some]
      exact hz
    rcases icase x 8 (by omega) with ⟨a, ha, rfl⟩ | q
    · rcases hr a ha with ⟨e1, e2⟩ | ⟨l, sz', e1, e2, e3, e4, e5, e6, e7, e8⟩
      · refine no (-1000011) 1 (xs ?_) (ms ?_)
        · rw [x_isRow ha, Option.bind_some, if_neg (by decide), x_miss0 ha e1, Option.bind_some, if_neg (by decide)]
        · rw [m_isRow ha, Option.bind_some, if_neg (by decide), ogd_t (inb_ok ha (by omega)), cl_nI (by omega), e2, if_pos rfl]
      · have x1 : ∀ {z}, (if n ≤ sz' then o_X8_hands_67 N fs it (nI n) s.2.2.1 s.2.2.2 K D L xk xn A (nI a) N 0 else some (-1000012, 2, D, xk, xn, A)) = z → o_X8_hands N fs la sz it (nI n) s.2.2.1 s.2.2.2 K D L xk xn A (nI a) = z := by
          intro z hz
          refine xs ?_
          rw [x_isRow ha, Option.bind_some, if_neg (by decide), x_miss1 ha e3 e1, Option.bind_some, if_pos rfl, ogd_t (inb_ok ha (by omega)), cl_nI (by omega), e4, ifle (by omega) (by omega)]
          exact hz
        have m1 : ∀ {z}, (if n ≤ sz' then o_X9_hands_58 N mk fs w B im (nI a) N 1 0 else some (-1000012, mk, 2, w, B)) = z → o_X9_hands N mk fs w B lg th im (nI a) = z := by
          intro z hz
          refine ms ?_
          rw [m_isRow ha, Option.bind_some, if_neg (by decide), ogd_t (inb_ok ha (by omega)), ogd_t (inb_ok ha (by omega)), cl_nI (by omega), e7, e5, if_neg (by decide), ifle (by omega) (by omega)]
          exact hz
        by_cases ns : n ≤ sz'
        · rw [if_pos ns] at x1 m1
          obtain ⟨q1, q2⟩ := x_hands_67 (N := N) (fs := fs) (R := s.2.2.1) (T := s.2.2.2) (xk := xk) (xn := xn) (it := it) (K := K) (D := D) (L := L) (A := A) hn ha n 0 N (by omega) (by omega)
          obtain ⟨u1, u2, -⟩ := m_hands_58 (N := N) (mk := mk) (fs := fs) (im := im) (B := B) hM.1 hn ha n 0 N (by omega) (by omega)
          by_cases al : ∀ q, 0 ≤ q → q < n → PH it a q
          · have al' : ∀ q, 0 ≤ q → q < n → PH im a q := by
              intro q h3 h4
              obtain ⟨r, h5, h6⟩ := al q h3 h4
              exact ⟨r, h5, by rw [← h6, e8 q (by omega)]⟩
            have hv : ∀ q, q < n → it (40 * a + q) = nI ((it (40 * a + q)).toNatClampNeg) ∧ (it (40 * a + q)).toNatClampNeg < 3 := by
              intro q h4
              obtain ⟨r, h5, h6⟩ := al q (by omega) h4
              rw [h6, cl_nI (by omega)]
              exact ⟨rfl, h5⟩
            have hv' : ∀ q, q < n → im (40 * a + q) = nI ((it (40 * a + q)).toNatClampNeg) ∧ (it (40 * a + q)).toNatClampNeg < 3 := fun q h4 => by
              rw [← e8 q (by omega)]; exact hv q h4
            obtain ⟨xk', xn', A', B', g1, g2, g3⟩ := s_keep (N := N) hN h h0
            have dl : ∀ p, p < 8 → s.1 p < 3 := fun p hp => (hb.1.2 p hp).2.1
            have dl' : ∀ p, p < 8 → s'.1 p < 3 := fun p hp => (hb'.1.2 p hp).2.1
            have t0 : tk s.1 (fun q => (it (40 * a + q)).toNatClampNeg) 0 = s.1 := by funext p; unfold tk; rw [if_neg (by omega)]
            have t0' : tk s'.1 (fun q => (it (40 * a + q)).toNatClampNeg) 0 = s'.1 := by funext p; unfold tk; rw [if_neg (by omega)]
            obtain ⟨D', f1, f2⟩ := x_take_4 (N := N) (it := it) (d := s.1) (v := fun q => (it (40 * a + q)).toNatClampNeg) hn ha dl hv n 0 N 0 D (by omega) (by omega) (by omega) (by rw [t0]; exact hD)
            obtain ⟨w', f3, f4⟩ := m_take_120 (N := N) (im := im) (B := B') (mk := xk') (k := k') (d := s'.1) (v := fun q => (it (40 * a + q)).toNatClampNeg) (fo := s'.2) hn ha dl' hv' n 0 N 0 w (by omega) (by omega) (by omega) (by rw [t0']; exact hM)
            have ce : cn (fun p => !(s'.1 p == (it (40 * a + p)).toNatClampNeg)) 0 n = cn (fun p => !(s.1 p == (it (40 * a + p)).toNatClampNeg)) 0 n := cn_congr n 0 (fun j _ hj => by rw [hs.1 j (by omega)])
            have tl : ∀ d : Nat → Nat, (∀ p, p < 8 → d p < 3) → ∀ p, p < 8 → tk d (fun q => (it (40 * a + q)).toNatClampNeg) n p < 3 := by
              intro d hd p hp
              unfold tk
              split
              · exact (hv p (by assumption)).2
              · exact hd p hp
            refine ⟨nI (0 + cn (fun p => !(s.1 p == (it (40 * a + p)).toNatClampNeg)) 0 n), 0, D', xk', xn', A', w', B', x1 ?_, m1 ?_, g3, ⟨n, k, k', (tk s.1 (fun q => (it (40 * a + q)).toNatClampNeg) n, s.2), (tk s'.1 (fun q => (it (40 * a + q)).toNatClampNeg) n, s'.2), ⟨rfl, rfl, rfl, hK, f2, hL⟩, f4, ⟨⟨hn, fun p hp => ⟨(hb.1.2 p hp).1, tl s.1 dl p hp, (hb.1.2 p hp).2.2⟩⟩, hb.2⟩, ⟨⟨hn, fun p hp => ⟨(hb'.1.2 p hp).1, tl s'.1 dl' p hp, (hb'.1.2 p hp).2.2⟩⟩, hb'.2⟩, hk, ⟨fun p hp => ?_, hs.2⟩, h1⟩⟩
            · rw [l0, q1 al, g1, Option.bind_some, o_X8_takeHands, l0, f1, Option.bind_some]
            · rw [l0, u1 al', g2, Option.bind_some]
              dsimp only
              rw [l0, f3, ce]
              rfl
            · dsimp only
              unfold tk
              rw [if_pos hp, if_pos hp]
          · have ex : ∃ q, 0 ≤ q ∧ q < n ∧ ¬ PH it a q := by
              refine Classical.byContradiction fun g => al fun q h3 h4 => Classical.byContradiction fun h5 => g ⟨q, h3, h4, h5⟩
            have ex' : ∃ q, 0 ≤ q ∧ q < n ∧ ¬ PH im a q := by
              obtain ⟨q, h3, h4, h5⟩ := ex
              refine ⟨q, h3, h4, fun ⟨r, h6, h7⟩ => h5 ⟨r, h6, by rw [← h7, e8 q (by omega)]⟩⟩
            exact no (-1000001) fs (x1 (q2 ex)) (m1 (u2 ex'))
        · rw [if_neg ns] at x1 m1
          exact no (-1000012) 2 (x1 rfl) (m1 rfl)
    · refine no (-1000001) fs (xs ?_) (ms ?_)
      · rw [x_noRow q, Option.bind_some, if_pos rfl]
      · rw [m_noRow q, Option.bind_some, if_pos rfl]
