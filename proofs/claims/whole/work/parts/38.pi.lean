/-! PURE PART I: the tape -/
theorem sh_x : ∀ i, i < 8 → ((Int32.toInt64 (8 * nI i) &&& 63).toBitVec.smod 64) = BitVec.ofNat 64 (8 * i) := by decide
theorem sh_m : ∀ i, i < 8 → (((Int32.toInt64 (8 * nI i)).toUInt64 &&& Int64.toUInt64 63).toBitVec % 64) = BitVec.ofNat 64 (8 * i) := by decide
theorem feed_x (L : Int64) {i j : Nat} (hi : i < 8) (hj : j < 8) : (Int32.toInt8 (Int64.toInt32 (L >>> (Int32.toInt64 (8 * nI i) &&& 63)))).toBitVec.getLsbD j = L.toBitVec.getLsbD (8 * i + j) := by
  have h := sh_x i hi
  have e : (L >>> (Int32.toInt64 (8 * nI i) &&& 63)).toBitVec = L.toBitVec.sshiftRight' ((Int32.toInt64 (8 * nI i) &&& 63).toBitVec.smod 64) := rfl
  rw [Int32.toBitVec_toInt8, Int64.toBitVec_toInt32, e, h, BitVec.getLsbD_signExtend, BitVec.getLsbD_signExtend]
  simp only [BitVec.sshiftRight', BitVec.toNat_ofNat]
  rw [Nat.mod_eq_of_lt (by omega), BitVec.getLsbD_sshiftRight]
  have h1 : j < 32 := by omega
  have h2 : j < 64 := by omega
  have h3 : 8 * i + j < 64 := by omega
  simp [hj, h1, h2, h3, Nat.not_le.mpr h2]
theorem feed_m (L : Int64) {i j : Nat} (hi : i < 8) (hj : j < 32) : (Int64.toInt32 (((Int64.toUInt64 L >>> ((Int32.toInt64 (8 * nI i)).toUInt64 &&& Int64.toUInt64 63)).toInt64) &&& 255)).toBitVec.getLsbD j = (decide (j < 8) && L.toBitVec.getLsbD (8 * i + j)) := by
  have h := sh_m i hi
  have e : (Int64.toUInt64 L >>> ((Int32.toInt64 (8 * nI i)).toUInt64 &&& Int64.toUInt64 63)).toBitVec = L.toBitVec >>> (((Int32.toInt64 (8 * nI i)).toUInt64 &&& Int64.toUInt64 63).toBitVec % 64) := rfl
  have e2 : (((Int64.toUInt64 L >>> ((Int32.toInt64 (8 * nI i)).toUInt64 &&& Int64.toUInt64 63)).toInt64) &&& 255).toBitVec = (Int64.toUInt64 L >>> ((Int32.toInt64 (8 * nI i)).toUInt64 &&& Int64.toUInt64 63)).toBitVec &&& 255#64 := rfl
  rw [Int64.toBitVec_toInt32, e2, e, h, BitVec.getLsbD_signExtend, BitVec.getLsbD_and]
  have h2 : j < 64 := by omega
  have h255 : (255#64).getLsbD j = decide (j < 8) := by
    have : ∀ j, j < 32 → (255#64).getLsbD j = decide (j < 8) := by decide
    exact this j hj
  rw [h255, BitVec.ushiftRight_eq', BitVec.getLsbD_ushiftRight, BitVec.toNat_ofNat, Nat.mod_eq_of_lt (by omega)]
  simp [hj, h2, Bool.and_comm]
/-- a byte as the class holds it (with its sign) and as the model does -/
def BYT (x m : Int32) : Prop := ∃ c, c < 256 ∧ m = nI c ∧ x = (nI c).toInt8.toInt32
theorem feed_b (L : Int64) {i : Nat} (hi : i < 8) : BYT (vp_nar .byte (Int8.toInt32 (Int32.toInt8 (Int64.toInt32 (L >>> (Int32.toInt64 (8 * nI i) &&& 63)))))) (Int64.toInt32 (((Int64.toUInt64 L >>> ((Int32.toInt64 (8 * nI i)).toUInt64 &&& Int64.toUInt64 63)).toInt64) &&& 255)) := by
  have hm := fun j (hj : j < 32) => feed_m L hi hj
  have hx := fun j (hj : j < 8) => feed_x L hi hj
  generalize Int64.toInt32 (((Int64.toUInt64 L >>> ((Int32.toInt64 (8 * nI i)).toUInt64 &&& Int64.toUInt64 63)).toInt64) &&& 255) = m at hm ⊢
  generalize Int32.toInt8 (Int64.toInt32 (L >>> (Int32.toInt64 (8 * nI i) &&& 63))) = x at hx ⊢
  have hc : m.toBitVec.toNat < 2 ^ 8 := by
    apply Nat.lt_pow_two_of_testBit
    intro j hj
    rw [BitVec.testBit_toNat]
    by_cases h : j < 32
    · rw [hm j h, decide_eq_false (by omega), Bool.false_and]
    · exact BitVec.getLsbD_of_ge _ _ (by omega)
  have e : m = nI m.toBitVec.toNat := by
    apply Int32.toBitVec_inj.mp
    show m.toBitVec = BitVec.ofNat 32 m.toBitVec.toNat
    rw [BitVec.ofNat_toNat, BitVec.setWidth_eq]
  refine ⟨m.toBitVec.toNat, by omega, e, ?_⟩
  rw [← e]
  have e2 : x = m.toInt8 := by
    apply Int8.toBitVec_inj.mp
    apply BitVec.eq_of_getLsbD_eq
    intro j hj
    rw [hx j hj, Int32.toBitVec_toInt8, BitVec.getLsbD_signExtend, hm j (by omega)]
    have h1 : j < 32 := by omega
    simp [hj, h1]
  rw [e2]
  exact pk_vb m
/-- the tapes: n bytes, alike -/
def TR (xl : Int32) (xb : Nat → Int32) (ml : Int32) (mt : Nat → Int32) : Prop := ∃ n, n ≤ 200 ∧ xl = nI n ∧ ml = nI n ∧ ∀ i, i < n → BYT (xb i) (mt i)
theorem s_feed {N : Nat} {xl ml : Int32} {xb mt : Nat → Int32} {L : Int64} {a : Int32} (hN : 40 < N) (h : TR xl xb ml mt) :
    ∃ r xl' xb' ml' mt', o_X8_feed N xl xb L a = some (r, xl', xb') ∧ o_X9_feed N ml mt L a = some (r, ml', mt') ∧ TR xl' xb' ml' mt' := by
  obtain ⟨n, hn, rfl, rfl, hb⟩ := h
  have loop : ∀ j n m m' (xb mt : Nat → Int32), n + j ≤ 200 → j ≤ 8 → j < m → j < m' → (∀ i, i < n → BYT (xb i) (mt i)) → ∃ xb' mt', o_X6_add_5 N L m (nI n) xb (nI j - 1) = some (nI (n + j), xb') ∧ o_X9_feed_35 N L m' (nI n) mt (nI j - 1) = some (nI (n + j), nI (n + j), mt') ∧ ∀ i, i < n + j → BYT (xb' i) (mt' i) := by
    intro j
    induction j with
    | zero =>
      intro n m m' xb mt h1 h2 h3 h4 hb
      obtain ⟨m, rfl⟩ := mem_succ h3
      obtain ⟨m', rfl⟩ := mem_succ h4
      refine ⟨xb, mt, ?_, ?_, hb⟩
      · rw [o_X6_add_5]
        dsimp only
        rw [if_pos (by decide)]
        rfl
      · rw [o_X9_feed_35]
        dsimp only
        rw [if_pos (by decide)]
        rfl
    | succ j ih =>
      intro n m m' xb mt h1 h2 h3 h4 hb
      obtain ⟨m, rfl⟩ := mem_succ h3
      obtain ⟨m', rfl⟩ := mem_succ h4
      have e : nI (j + 1) - 1 = nI j := nI_pred j
      have e2 : nI j + (-1) = nI j - 1 := by rw [Int32.sub_eq_add_neg]
      obtain ⟨xb', mt', g1, g2, g3⟩ := ih (n + 1) m m' (upd xb n (vp_nar .byte (Int8.toInt32 (Int32.toInt8 (Int64.toInt32 (L >>> (Int32.toInt64 (8 * nI j) &&& 63))))))) (upd mt n (Int64.toInt32 (((Int64.toUInt64 L >>> ((Int32.toInt64 (8 * nI j)).toUInt64 &&& Int64.toUInt64 63)).toInt64) &&& 255))) (by omega) (by omega) (by omega) (by omega) (fun i hi => by
        by_cases c : i = n
        · subst c
          rw [upd_eq, upd_eq]
          exact feed_b L (by omega)
        · rw [upd_ne c, upd_ne c]
          exact hb i (by omega))
      rw [show n + (j + 1) = n + 1 + j by omega]
      refine ⟨xb', mt', ?_, ?_, g3⟩
      · rw [o_X6_add_5]
        dsimp only
        rw [e, if_neg (nlt0 (by omega)), ogd_t (inb_ok (by omega) (by omega)), cl_nI (by omega), e2, nI_1]
        exact g1
      · rw [o_X9_feed_35]
        dsimp only
        rw [e, if_neg (nlt0 (by omega)), ogd_t (inb_ok (by omega) (by omega)), cl_nI (by omega), e2, nI_1]
        exact g2
  have t2 : (200 : Int32) = nI 200 := rfl
  by_cases c : 1 ≤ a.toInt ∧ a.toInt ≤ 8
  · obtain ⟨j, hj, rfl⟩ := of_toInt (x := a) (s := 8) (by omega) (by omega) (by omega)
    rw [qnI (by omega)] at c
    have xh : o_X6_hasRoom N (nI n) (nI j) = some (if n + j ≤ 200 then 1 else 0) := by
      rw [o_X6_hasRoom, t2, pk_sub (by omega), iflt (by omega) (by omega)]
      by_cases d : n + j ≤ 200
      · rw [if_pos d, if_neg (by omega)]
      · rw [if_neg d, if_pos (by omega)]
    have mh : o_X9_in N (nI j).toInt64 1 8 = some 1 := by
      rw [show (1 : Int64) = (nI 1).toInt64 from rfl, show (8 : Int64) = (nI 8).toInt64 from rfl]
      exact p_in_yes (nI_le (by omega) (by omega)) (nI_le (by omega) (by omega))
    by_cases d : n + j ≤ 200
    · obtain ⟨xb', mt', g1, g2, g3⟩ := loop j n N N xb mt d (by omega) (by omega) (by omega) hb
      refine ⟨nI (n + j), nI (n + j), xb', nI (n + j), mt', ?_, ?_, ⟨n + j, d, rfl, rfl, g3⟩⟩
      · rw [o_X8_feed, l1_, l8_, iflt (by omega) (by omega), if_neg (by omega), ifle (by omega) (by omega), if_pos (by omega), xh, Option.bind_some, if_pos d, if_neg (by decide), o_X6_add, g1]
        rfl
      · rw [o_X9_feed, mh, Option.bind_some, if_neg (by decide), nI_add, t2, ifle (by omega) (by omega), if_pos d, g2]
    · refine ⟨-1000003, nI n, xb, nI n, mt, ?_, ?_, ⟨n, hn, rfl, rfl, hb⟩⟩
      · rw [o_X8_feed, l1_, l8_, iflt (by omega) (by omega), if_neg (by omega), ifle (by omega) (by omega), if_pos (by omega), xh, Option.bind_some, if_neg d, if_pos rfl]
      · rw [o_X9_feed, mh, Option.bind_some, if_neg (by decide), nI_add, t2, ifle (by omega) (by omega), if_neg d]
  · refine ⟨-1000001, nI n, xb, nI n, mt, ?_, ?_, ⟨n, hn, rfl, rfl, hb⟩⟩
    · rw [o_X8_feed, l1_, l8_]
      by_cases c1 : a < nI 1
      · rw [if_pos c1]
      · rw [if_neg c1, if_neg (fun q => c ⟨by rw [qlt, qnI (by omega)] at c1; omega, by rw [qle, qnI (by omega)] at q; omega⟩)]
    · rw [o_X9_feed, show (1 : Int64) = (nI 1).toInt64 from rfl, show (8 : Int64) = (nI 8).toInt64 from rfl, p_in32, if_neg (fun q => c ⟨by have := q.1; rw [qle, qnI (by omega)] at this; omega, by have := q.2; rw [qle, qnI (by omega)] at this; omega⟩), Option.bind_some, if_pos rfl]
