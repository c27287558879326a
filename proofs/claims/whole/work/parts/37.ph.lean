/-! PURE PART H: copy -/
theorem x_has {N r s : Nat} {sz : Nat → Int32} {i n : Int32} (hr : r < 8) (hs : s ≤ 40) (e : sz r = nI s) : o_X5_hasPlaces N sz (nI r) i n = some (if 0 ≤ i.toInt ∧ 0 ≤ n.toInt ∧ i.toInt + n.toInt ≤ s then 1 else 0) := by
  have es := qnI (n := s) (by omega)
  rw [o_X5_hasPlaces, ogd_t (inb_ok hr (by omega)), ogd_t (inb_ok hr (by omega)), cl_nI (by omega), e]
  by_cases h1 : i < 0
  · rw [if_pos h1]
    rw [qlt, q0] at h1
    rw [if_neg (by omega)]
  · rw [if_neg h1]
    rw [qlt, q0] at h1
    by_cases h2 : n < 0
    · rw [if_pos h2]
      rw [qlt, q0] at h2
      rw [if_neg (by omega)]
    · rw [if_neg h2]
      rw [qlt, q0] at h2
      by_cases h3 : nI s < i
      · rw [if_pos h3]
        rw [qlt, es] at h3
        rw [if_neg (by omega)]
      · rw [if_neg h3]
        rw [qlt, es] at h3
        have e2 : (nI s - i).toInt = (s : Int) - i.toInt := by
          rw [Int32.toInt_sub, es]
          exact Int.bmod_eq_of_le (by omega) (by omega)
        by_cases h4 : nI s - i < n
        · rw [if_pos h4]
          rw [qlt, e2] at h4
          rw [if_neg (by omega)]
        · rw [if_neg h4]
          rw [qlt, e2] at h4
          rw [if_pos (by omega)]
theorem of_toInt {x : Int32} {s : Nat} (hs : s ≤ 1000) (h0 : 0 ≤ x.toInt) (h : x.toInt ≤ s) : ∃ i : Nat, i ≤ s ∧ x = nI i := by
  refine ⟨x.toInt.toNat, by omega, ?_⟩
  apply Int32.toInt_inj.mp
  rw [qnI (by omega)]
  omega
theorem cpy_s {C im : Nat → Int32} {D k : Nat} : upd (va_cpy C im 0 D k) (D + k) (C k) = va_cpy C im 0 D (k + 1) := by
  funext x
  unfold va_cpy upd
  by_cases h : x = D + k
  · subst h
    rw [if_pos rfl, if_pos (by omega)]
    congr 1
    omega
  · rw [if_neg h]
    dsimp only
    by_cases h2 : D ≤ x ∧ x < D + k
    · rw [if_pos h2, if_pos (by omega)]
    · rw [if_neg h2, if_neg (by omega)]
theorem cpy_0 {C im : Nat → Int32} {D : Nat} : va_cpy C im 0 D 0 = im := by
  funext x
  unfold va_cpy
  rw [if_neg (by omega)]
theorem m_copy_157 {N b j n : Nat} {C im : Nat → Int32} (hN : 40 < N) (hb : b < 8) (hj : j + n ≤ 40) : o_X9_copy_157 N C (nI b) (nI j) (nI n) N im 0 = some (nI n, 0, va_cpy C im 0 (40 * b + j) n, C) := by
  have key : ∀ q k m, k + q = n → q < m → o_X9_copy_157 N C (nI b) (nI j) (nI n) m (va_cpy C im 0 (40 * b + j) k) (nI k) = some (nI n, 0, va_cpy C im 0 (40 * b + j) n, C) := by
    intro q
    induction q with
    | zero =>
      intro k m h1 h2
      obtain ⟨m, rfl⟩ := mem_succ h2
      rw [o_X9_copy_157]
      dsimp only
      rw [ifle (by omega) (by omega), if_pos (by omega), show k = n by omega]
      rfl
    | succ q ih =>
      intro k m h1 h2
      obtain ⟨m, rfl⟩ := mem_succ h2
      rw [o_X9_copy_157]
      dsimp only
      rw [ifle (by omega) (by omega), if_neg (by omega), show (40 : Int32) = nI 40 from rfl, pk_mul, nI_add, nI_add, ogd_t (inb_ok (by omega) (by omega)), ogd_t (inb_ok (by omega) (by omega)), cl_nI (by omega), cl_nI (by omega), cpy_s, nI_1]
      exact ih (k + 1) m (by omega) (by omega)
  have := key n 0 N (by omega) (by omega)
  rw [cpy_0] at this
  exact this
theorem m_copy_120 {N a i b j n : Nat} {cp im : Nat → Int32} (hN : 40 < N) (ha : a < 8) (hi : i + n ≤ 40) (hb : b < 8) (hj : j + n ≤ 40) : ∃ C, o_X9_copy_120 N im (nI a) (nI i) (nI b) (nI j) (nI n) N cp 0 = some (nI n, 0, va_cpy C im 0 (40 * b + j) n, C) ∧ ∀ x, x < n → C x = im (40 * a + i + x) := by
  have key : ∀ q k m (cp : Nat → Int32), k + q = n → q < m → (∀ x, x < k → cp x = im (40 * a + i + x)) → ∃ C, o_X9_copy_120 N im (nI a) (nI i) (nI b) (nI j) (nI n) m cp (nI k) = some (nI n, 0, va_cpy C im 0 (40 * b + j) n, C) ∧ ∀ x, x < n → C x = im (40 * a + i + x) := by
    intro q
    induction q with
    | zero =>
      intro k m cp h1 h2 h3
      obtain ⟨m, rfl⟩ := mem_succ h2
      refine ⟨cp, ?_, fun x hx => h3 x (by omega)⟩
      rw [o_X9_copy_120]
      dsimp only
      rw [ifle (by omega) (by omega), if_pos (by omega), m_copy_157 hN hb hj]
    | succ q ih =>
      intro k m cp h1 h2 h3
      obtain ⟨m, rfl⟩ := mem_succ h2
      rw [o_X9_copy_120]
      dsimp only
      rw [ifle (by omega) (by omega), if_neg (by omega), show (40 : Int32) = nI 40 from rfl, pk_mul, nI_add, nI_add, ogd_t (inb_ok (by omega) (by omega)), ogd_t (inb_ok (by omega) (by omega)), cl_nI (by omega), cl_nI (by omega), nI_1]
      refine ih (k + 1) m _ (by omega) (by omega) (fun x hx => ?_)
      by_cases e : x = k
      · subst e; exact upd_eq _ _ _
      · rw [upd_ne e]; exact h3 x (by omega)
  exact key n 0 N cp (by omega) (by omega) (fun x hx => absurd hx (Nat.not_lt_zero x))
theorem long_le {x y : Int32} {s : Nat} (hs : s ≤ 40) : (lg_cmp (x.toInt64 + y.toInt64) (nI s).toInt64 ≤ 0 ↔ x.toInt + y.toInt ≤ s) ∧ (0 < lg_cmp (x.toInt64 + y.toInt64) (nI s).toInt64 ↔ ¬ x.toInt + y.toInt ≤ s) := by
  have e : (x.toInt64 + y.toInt64).toInt = x.toInt + y.toInt := by
    have h1 := x.le_toInt
    have h2 := x.toInt_lt
    have h3 := y.le_toInt
    have h4 := y.toInt_lt
    rw [Int64.toInt_add, Int32.toInt_toInt64, Int32.toInt_toInt64]
    exact Int.bmod_eq_of_le (by omega) (by omega)
  rw [lg_cmp_le, lg_cmp_gt, qle64, qlt64, e, Int32.toInt_toInt64, qnI (by omega)]
  omega
theorem s_copy {N : Nat} {la sz it ln lg th im cp : Nat → Int32} {fs a i b j n : Int32} (hN : 40 < N) (h : RR la sz it ln lg th im) :
    ∃ r fs' it' im' cp', o_X8_copy N fs la sz it a i b j n = some (r, fs', it') ∧ o_X9_copy N fs ln lg th im cp a i b j n = some (r, fs', im', cp') ∧ RR la sz it' ln lg th im' := by
  rcases icase a 8 (by omega) with ⟨a, ha, rfl⟩ | ha
  · rcases icase b 8 (by omega) with ⟨b, hb, rfl⟩ | hb
    · rcases h a ha with ⟨a1, a2⟩ | ⟨l, s, a1, a2, a3, a4, a5, a6, a7, a8⟩
      · refine ⟨-1000011, 1, it, im, cp, ?_, ?_, h⟩
        · rw [o_X8_copy, x_isRow ha, Option.bind_some, if_neg (by decide), x_isRow hb, Option.bind_some, if_neg (by decide), x_miss0 ha a1]
          rfl
        · rw [o_X9_copy, m_isRow ha, Option.bind_some, if_neg (by decide), m_isRow hb, Option.bind_some, if_neg (by decide), ogd_t (inb_ok ha (by omega)), cl_nI (by omega), a2, if_pos rfl]
          rfl
      · rcases h b hb with ⟨b1, b2⟩ | ⟨l', s', b1, b2, b3, b4, b5, b6, b7, b8⟩
        · refine ⟨-1000011, 1, it, im, cp, ?_, ?_, h⟩
          · rw [o_X8_copy, x_isRow ha, Option.bind_some, if_neg (by decide), x_isRow hb, Option.bind_some, if_neg (by decide), x_miss1 ha a3 a1, Option.bind_some, if_pos rfl, x_miss0 hb b1]
            rfl
          · rw [o_X9_copy, m_isRow ha, Option.bind_some, if_neg (by decide), m_isRow hb, Option.bind_some, if_neg (by decide), ogd_t (inb_ok ha (by omega)), cl_nI (by omega), a7, if_neg (by decide), ogd_t (inb_ok hb (by omega)), cl_nI (by omega), b2, if_pos rfl]
            rfl
        · by_cases hl : l = l'
          · subst hl
            by_cases ok : (0 ≤ i.toInt ∧ 0 ≤ n.toInt ∧ i.toInt + n.toInt ≤ s) ∧ (0 ≤ j.toInt ∧ 0 ≤ n.toInt ∧ j.toInt + n.toInt ≤ s')
            · obtain ⟨⟨o1, o2, o3⟩, o4, -, o5⟩ := ok
              obtain ⟨i, i1, rfl⟩ := of_toInt (x := i) (s := 40) (by omega) o1 (by omega)
              obtain ⟨j, j1, rfl⟩ := of_toInt (x := j) (s := 40) (by omega) o4 (by omega)
              obtain ⟨n, n1, rfl⟩ := of_toInt (x := n) (s := 40) (by omega) o2 (by omega)
              rw [qnI (by omega), qnI (by omega)] at o3 o5
              have oa : 0 ≤ (nI i).toInt ∧ 0 ≤ (nI n).toInt ∧ (nI i).toInt + (nI n).toInt ≤ s := ⟨o1, o2, by rw [qnI (by omega), qnI (by omega)]; omega⟩
              have ob : 0 ≤ (nI j).toInt ∧ 0 ≤ (nI n).toInt ∧ (nI j).toInt + (nI n).toInt ≤ s' := ⟨o4, o2, by rw [qnI (by omega), qnI (by omega)]; omega⟩
              obtain ⟨C, c1, c2⟩ := m_copy_120 (N := N) (a := a) (i := i) (b := b) (j := j) (n := n) (cp := cp) (im := im) hN ha (by omega) hb (by omega)
              refine ⟨nI n, 0, va_cpy it it (40 * a + i) (40 * b + j) n, va_cpy C im 0 (40 * b + j) n, C, ?_, ?_, fun q hq => ?_⟩
              · rw [o_X8_copy, x_isRow ha, Option.bind_some, if_neg (by decide), x_isRow hb, Option.bind_some, if_neg (by decide), x_miss1 ha a3 a1, Option.bind_some, if_pos rfl, x_miss1 hb b3 b1, Option.bind_some, if_pos rfl, ogd_t (inb_ok ha (by omega)), ogd_t (inb_ok hb (by omega)), cl_nI (by omega), cl_nI (by omega), a1, b1, if_pos rfl, x_has ha a6 a4, Option.bind_some, if_pos oa, if_neg (by decide), x_has hb b6 b4, Option.bind_some, if_pos ob, if_neg (by decide), x_place, Option.bind_some, x_place, Option.bind_some, cl_nI (by omega), cl_nI (by omega), cl_nI (by omega), ogd_t (by
                  unfold acp
                  rw [cl_nI (by omega), cl_nI (by omega), cl_nI (by omega)]
                  exact decide_eq_true ⟨⟨nlt0 (by omega), nlt0 (by omega), nlt0 (by omega)⟩, by omega, by omega⟩)]
                rfl
              · rw [o_X9_copy, m_isRow ha, Option.bind_some, if_neg (by decide), m_isRow hb, Option.bind_some, if_neg (by decide), ogd_t (inb_ok ha (by omega)), cl_nI (by omega), a7, if_neg (by decide), ogd_t (inb_ok hb (by omega)), cl_nI (by omega), b7, if_neg (by decide), ogd_t (inb_ok ha (by omega)), ogd_t (inb_ok hb (by omega)), a2, b2, if_pos rfl, if_neg (nlt0 (by omega)), if_neg (nlt0 (by omega)), if_neg (nlt0 (by omega)), ogd_t (inb_ok ha (by omega)), a5, if_neg (fun q => (long_le a6).2.mp q (by rw [qnI (by omega), qnI (by omega)]; omega)), ogd_t (inb_ok hb (by omega)), b5, if_pos ((long_le b6).1.mpr (by rw [qnI (by omega), qnI (by omega)]; omega)), c1]
              · rcases h q hq with ⟨q1, q2⟩ | ⟨l2, s2, q1, q2, q3, q4, q5, q6, q7, q8⟩
                · exact Or.inl ⟨q1, q2⟩
                · refine Or.inr ⟨l2, s2, q1, q2, q3, q4, q5, q6, q7, fun x hx => ?_⟩
                  unfold va_cpy
                  by_cases e : 40 * b + j ≤ 40 * q + x ∧ 40 * q + x < 40 * b + j + n
                  · rw [if_pos e, if_pos e, Nat.zero_add, c2 _ (by omega)]
                    have := a8 (i + (40 * q + x - (40 * b + j))) (by omega)
                    rw [← Nat.add_assoc] at this
                    exact this
                  · rw [if_neg e, if_neg e]
                    exact q8 x hx
            · refine ⟨-1000012, 2, it, im, cp, ?_, ?_, h⟩
              · rw [o_X8_copy, x_isRow ha, Option.bind_some, if_neg (by decide), x_isRow hb, Option.bind_some, if_neg (by decide), x_miss1 ha a3 a1, Option.bind_some, if_pos rfl, x_miss1 hb b3 b1, Option.bind_some, if_pos rfl, ogd_t (inb_ok ha (by omega)), ogd_t (inb_ok hb (by omega)), cl_nI (by omega), cl_nI (by omega), a1, b1, if_pos rfl, x_has ha a6 a4, Option.bind_some]
                by_cases o1 : 0 ≤ i.toInt ∧ 0 ≤ n.toInt ∧ i.toInt + n.toInt ≤ s
                · rw [if_pos o1, if_neg (by decide), x_has hb b6 b4, Option.bind_some, if_neg (fun o2 => ok ⟨o1, o2⟩)]
                  rfl
                · rw [if_neg o1]
                  rfl
              · rw [o_X9_copy, m_isRow ha, Option.bind_some, if_neg (by decide), m_isRow hb, Option.bind_some, if_neg (by decide), ogd_t (inb_ok ha (by omega)), cl_nI (by omega), a7, if_neg (by decide), ogd_t (inb_ok hb (by omega)), cl_nI (by omega), b7, if_neg (by decide), ogd_t (inb_ok ha (by omega)), ogd_t (inb_ok hb (by omega)), a2, b2, if_pos rfl, ogd_t (inb_ok ha (by omega)), a5, ogd_t (inb_ok hb (by omega)), b5]
                by_cases c1 : i < 0
                · rw [if_pos c1]; rfl
                · rw [if_neg c1]
                  by_cases c2 : j < 0
                  · rw [if_pos c2]; rfl
                  · rw [if_neg c2]
                    by_cases c3 : n < 0
                    · rw [if_pos c3]; rfl
                    · rw [if_neg c3]
                      by_cases c4 : i.toInt + n.toInt ≤ s
                      · rw [if_neg (fun q => (long_le a6).2.mp q c4), if_neg (fun q => by
                          have c5 := (long_le b6).1.mp q
                          rw [qlt, q0] at c1 c2 c3
                          exact ok ⟨⟨by omega, by omega, c4⟩, by omega, by omega, c5⟩)]
                        rfl
                      · rw [if_pos ((long_le a6).2.mpr c4)]; rfl
          · have hne : ¬ nI l = nI l' := fun q => hl ((nI_eq (by omega) (by omega)).mp q)
            refine ⟨-1000015, 5, it, im, cp, ?_, ?_, h⟩
            · rw [o_X8_copy, x_isRow ha, Option.bind_some, if_neg (by decide), x_isRow hb, Option.bind_some, if_neg (by decide), x_miss1 ha a3 a1, Option.bind_some, if_pos rfl, x_miss1 hb b3 b1, Option.bind_some, if_pos rfl, ogd_t (inb_ok ha (by omega)), ogd_t (inb_ok hb (by omega)), cl_nI (by omega), cl_nI (by omega), a1, b1, if_neg hne]
              rfl
            · rw [o_X9_copy, m_isRow ha, Option.bind_some, if_neg (by decide), m_isRow hb, Option.bind_some, if_neg (by decide), ogd_t (inb_ok ha (by omega)), cl_nI (by omega), a7, if_neg (by decide), ogd_t (inb_ok hb (by omega)), cl_nI (by omega), b7, if_neg (by decide), ogd_t (inb_ok ha (by omega)), ogd_t (inb_ok hb (by omega)), a2, b2, if_neg hne]
              rfl
    · refine ⟨-1000001, fs, it, im, cp, ?_, ?_, h⟩
      · rw [o_X8_copy, x_isRow ha, Option.bind_some, if_neg (by decide), x_noRow hb, Option.bind_some, if_pos rfl]
      · rw [o_X9_copy, m_isRow ha, Option.bind_some, if_neg (by decide), m_noRow hb, Option.bind_some, if_pos rfl]
  · refine ⟨-1000001, fs, it, im, cp, ?_, ?_, h⟩
    · rw [o_X8_copy, x_noRow ha, Option.bind_some, if_pos rfl]
    · rw [o_X9_copy, m_noRow ha, Option.bind_some, if_pos rfl]
