/-! PURE PART G: set, drop, copy -/
theorem x_miss0 {N r : Nat} {la : Nat → Int32} (hr : r < 8) (h : la r = -1) : o_X5_isMissing N la (nI r) = some 1 := by rw [o_X5_isMissing, ogd_t (inb_ok hr (by omega)), cl_nI (by omega), if_pos h]
theorem x_miss1 {N r l : Nat} {la : Nat → Int32} (hr : r < 8) (hl : l < 3) (h : la r = nI l) : o_X5_isMissing N la (nI r) = some 0 := by
  rw [o_X5_isMissing, ogd_t (inb_ok hr (by omega)), cl_nI (by omega), h, if_neg]
  intro e
  have h1 : nI l < 0 := by rw [e]; decide
  exact nlt0 (by omega) h1
/-- what a lane keeps of a value -/
def lane_v (l : Nat) (v : Int32) : Int32 := if l = 0 then v.toInt8.toInt32 else if l = 1 then v.toInt16.toInt32 else v
theorem bmg (w h b : Nat) (hb : 0 < b) (hw : w < 2 * h) : (((w * b : Nat) : Int).bmod (2 * h * b)) / (b : Int) = ((w : Nat) : Int).bmod (2 * h) := by
  have hb0 : (b : Int) ≠ 0 := by omega
  have a1 : w * b < 2 * h * b := Nat.mul_lt_mul_of_pos_right hw hb
  have e1 : ((w * b : Nat) : Int) % ((2 * h * b : Nat) : Int) = ((w * b : Nat) : Int) := Int.emod_eq_of_lt (by omega) (by omega)
  have e2 : ((w : Nat) : Int) % ((2 * h : Nat) : Int) = ((w : Nat) : Int) := Int.emod_eq_of_lt (by omega) (by omega)
  have a2 : 2 * h * b = 2 * (h * b) := Nat.mul_assoc 2 h b
  unfold Int.bmod
  dsimp only
  rw [e1, e2]
  by_cases c : w < h
  · have c2 : w * b < h * b := Nat.mul_lt_mul_of_pos_right c hb
    rw [if_pos (by omega), if_pos (by omega), Int.natCast_mul, Int.mul_ediv_cancel _ hb0]
  · have c2 : h * b ≤ w * b := Nat.mul_le_mul_right b (by omega)
    rw [if_neg (by omega), if_neg (by omega), Int.natCast_mul, Int.natCast_mul, ← Int.sub_mul, Int.mul_ediv_cancel _ hb0]
theorem bsh (v : Int32) (s : Int32) (k h b : Nat) (hs : ((s &&& 31).toBitVec.smod 32).toNat = k) (hb : 2 ^ k = b) (hm : 2 ^ 32 = 2 * h * b) (hb0 : 0 < b) (hh : 0 < h) (hd : (2 * h) ∣ 2 ^ 32) : ((v <<< (s &&& 31)) >>> (s &&& 31)).toInt = v.toInt.bmod (2 * h) := by
  have h1 := pk_shl v (s &&& 31) k hs
  have h2 : (v <<< (s &&& 31)).toInt = ((v <<< (s &&& 31)).toBitVec.toNat : Int).bmod (2 ^ 32) := BitVec.toInt_eq_toNat_bmod _
  have h3 : v.toInt = (v.toBitVec.toNat : Int).bmod (2 ^ 32) := BitVec.toInt_eq_toNat_bmod _
  rw [pk_shr _ (s &&& 31) k hs, h2, h3, h1, Int.shiftRight_eq_div_pow, Int.bmod_bmod_of_dvd hd, hb, hm, Nat.mul_mod_mul_right, bmg _ h b hb0 (Nat.mod_lt _ (by omega)), Int.natCast_emod, Int.emod_bmod]
theorem b24 (v : Int32) : (v <<< ((24 : Int32) &&& 31)) >>> ((24 : Int32) &&& 31) = v.toInt8.toInt32 := by
  apply Int32.toInt_inj.mp
  rw [bsh v 24 24 128 16777216 (by decide) (by decide) (by decide) (by decide) (by decide) (by decide), Int8.toInt_toInt32, Int32.toInt_toInt8]
theorem b16 (v : Int32) : (v <<< ((16 : Int32) &&& 31)) >>> ((16 : Int32) &&& 31) = v.toInt16.toInt32 := by
  apply Int32.toInt_inj.mp
  rw [bsh v 16 16 32768 65536 (by decide) (by decide) (by decide) (by decide) (by decide) (by decide), Int16.toInt_toInt32, Int32.toInt_toInt16]
theorem x_put {N r i l : Nat} {la it : Nat → Int32} {v : Int32} (hr : r < 8) (hi : i < 40) (hl : l < 3) (e : la r = nI l) : o_X5_put N la it (nI r) (nI i) v = some (lane_v l v, upd it (40 * r + i) (lane_v l v)) := by
  rw [o_X5_put, ogd_t (inb_ok hr (by omega)), ogd_t (inb_ok hr (by omega)), cl_nI (by omega), e, l0, l1_, ifeq (by omega) (by omega), ifeq (by omega) (by omega), lane_v]
  have key : ∀ z, o_X5_put_33 N it (nI r) (nI i) z = some (z, upd it (40 * r + i) z) := fun z => by rw [o_X5_put_33, x_place, Option.bind_some, ogd_t (inb_ok (by omega) (by omega)), cl_nI (by omega)]
  rw [key, key, key]
  repeat' split
  all_goals rfl
/-- an item of row r changes alike on both sides -/
theorem RW_put {la sz it ln lg th im : Nat → Int32} {q r i : Nat} {z : Int32} (h : RW la sz it ln lg th im q) (hi : i < 40) : RW la sz (upd it (40 * r + i) z) ln lg th (upd im (40 * r + i) z) q := by
  rcases h with h | ⟨l, s, e1, e2, e3, e4, e5, e6, e7, e8⟩
  · exact Or.inl h
  · refine Or.inr ⟨l, s, e1, e2, e3, e4, e5, e6, e7, fun j hj => ?_⟩
    unfold upd
    split
    · rfl
    · exact e8 j hj
theorem RW_size {la sz it ln lg th im : Nat → Int32} {q : Nat} (h : RW la sz it ln lg th im q) : (la q = -1 ∧ th q = 0) ∨ ∃ l s, la q = nI l ∧ ln q = nI l ∧ l < 3 ∧ sz q = nI s ∧ lg q = nI s ∧ s ≤ 40 ∧ th q = 1 := by
  rcases h with h | ⟨l, s, e1, e2, e3, e4, e5, e6, e7, -⟩
  · exact Or.inl h
  · exact Or.inr ⟨l, s, e1, e2, e3, e4, e5, e6, e7⟩
/-- 0 .. s-1, by the model -/
theorem in_lt {N s i : Nat} (hs : s ≤ 40) (hi : i < s) : o_X9_in N (nI i).toInt64 0 (nI s - 1).toInt64 = some 1 := by
  rw [show (0 : Int64) = (0 : Int32).toInt64 from rfl, l1_, pk_sub (by omega)]
  exact p_in_yes (le0 (by omega)) (nI_le (by omega) (by omega))
theorem in_ge {N s : Nat} {x : Int32} (hs : s ≤ 40) (h : x < 0 ∨ (nI s ≤ x ∧ ¬ x < 0)) : o_X9_in N x.toInt64 0 (nI s - 1).toInt64 = some 0 := by
  rw [show (0 : Int64) = (0 : Int32).toInt64 from rfl]
  have e1 : (nI s - 1).toInt = (s : Int) - 1 := by
    rw [l1_, pk_sub_toInt (by omega) (by omega)]; omega
  rcases h with h | ⟨h, h0⟩
  · exact p_in_lo (neg_le (a := 0) (by omega) h).2.2.1
  · refine p_in_hi (fun q => ?_)
    rw [qle, e1] at q
    rw [qle, qnI (by omega)] at h
    omega
theorem s_set {N : Nat} {la sz it ln lg th im : Nat → Int32} {fs : Int32} {a b c : Int32} (h : RR la sz it ln lg th im) :
    ∃ r fs' it' im', o_X8_set N fs la sz it a b c = some (r, fs', it') ∧ o_X9_set N fs ln lg th im a b c = some (r, fs', im') ∧ RR la sz it' ln lg th im' := by
  rcases icase a 8 (by omega) with ⟨r, hr, rfl⟩ | ha
  · rcases h r hr with ⟨e1, e2⟩ | ⟨l, s, e1, e2, e3, e4, e5, e6, e7, e8⟩
    · refine ⟨-1000011, 1, it, im, ?_, ?_, h⟩
      · rw [o_X8_set, x_isRow hr, Option.bind_some, if_neg (by decide), x_miss0 hr e1]
        rfl
      · rw [o_X9_set, m_isRow hr, Option.bind_some, if_neg (by decide), ogd_t (inb_ok hr (by omega)), cl_nI (by omega), e2, if_pos rfl]
        rfl
    · rcases icase b s (by omega) with ⟨i, hi, rfl⟩ | hb
      · refine ⟨lane_v l c, 0, upd it (40 * r + i) (lane_v l c), upd im (40 * r + i) (lane_v l c), ?_, ?_, fun q hq => RW_put (h q hq) (by omega)⟩
        · rw [o_X8_set, x_isRow hr, Option.bind_some, if_neg (by decide), x_miss1 hr e3 e1, Option.bind_some, if_pos rfl, ogd_t (inb_ok hr (by omega)), cl_nI (by omega), e4]
          rw [if_neg (nlt0 (by omega)), iflt (by omega) (by omega), if_pos hi, x_put hr (by omega) e3 e1]
          rfl
        · rw [o_X9_set, m_isRow hr, Option.bind_some, if_neg (by decide), ogd_t (inb_ok hr (by omega)), cl_nI (by omega), e7, if_neg (by decide), ogd_t (inb_ok hr (by omega)), e5]
          rw [in_lt e6 hi, Option.bind_some, if_neg (by decide), ogd_t (inb_ok hr (by omega)), ogd_t (inb_ok hr (by omega)), e2, l0, l1_, ifeq (by omega) (by omega), ifeq (by omega) (by omega), b24, b16, lane_v]
          have key : ∀ z, o_X9_set_89 N im (nI r) (nI i) z = some (z, 0, upd im (40 * r + i) z) := fun z => by
            rw [o_X9_set_89, show (40 : Int32) = nI 40 from rfl, pk_mul, nI_add, ogd_t (inb_ok (by omega) (by omega)), cl_nI (by omega)]
            rfl
          rw [key, key, key]
          repeat' split
          all_goals rfl
      · refine ⟨-1000012, 2, it, im, ?_, ?_, h⟩
        · rw [o_X8_set, x_isRow hr, Option.bind_some, if_neg (by decide), x_miss1 hr e3 e1, Option.bind_some, if_pos rfl, ogd_t (inb_ok hr (by omega)), cl_nI (by omega), e4]
          rcases hb with hb | ⟨hb, hb0⟩
          · rw [if_pos hb]; rfl
          · rw [if_neg hb0, if_neg (fun q => by rw [qlt, qnI (by omega)] at q; rw [qle, qnI (by omega)] at hb; omega)]; rfl
        · rw [o_X9_set, m_isRow hr, Option.bind_some, if_neg (by decide), ogd_t (inb_ok hr (by omega)), cl_nI (by omega), e7, if_neg (by decide), ogd_t (inb_ok hr (by omega)), e5]
          rw [in_ge e6 hb, Option.bind_some, if_pos rfl]
          rfl
  · refine ⟨-1000001, fs, it, im, ?_, ?_, h⟩
    · rw [o_X8_set, x_noRow ha, Option.bind_some, if_pos rfl]
    · rw [o_X9_set, m_noRow ha, Option.bind_some, if_pos rfl]
theorem s_drop {N : Nat} {la sz it ln lg th im : Nat → Int32} {fs : Int32} {a : Int32} (h : RR la sz it ln lg th im) :
    ∃ r fs' la' sz' th', o_X8_drop N fs la sz a = some (r, fs', la', sz') ∧ o_X9_drop N fs lg th a = some (r, fs', th') ∧ RR la' sz' it ln lg th' im := by
  rcases icase a 8 (by omega) with ⟨r, hr, rfl⟩ | ha
  · rcases h r hr with ⟨e1, e2⟩ | ⟨l, s, e1, e2, e3, e4, e5, e6, e7, e8⟩
    · refine ⟨-1000011, 1, la, sz, th, ?_, ?_, h⟩
      · rw [o_X8_drop, x_isRow hr, Option.bind_some, if_neg (by decide), x_miss0 hr e1]
        rfl
      · rw [o_X9_drop, m_isRow hr, Option.bind_some, if_neg (by decide), ogd_t (inb_ok hr (by omega)), cl_nI (by omega), e2, if_pos rfl]
        rfl
    · refine ⟨nI s, 0, upd la r (-1), upd sz r 0, upd th r 0, ?_, ?_, fun q hq => ?_⟩
      · rw [o_X8_drop, x_isRow hr, Option.bind_some, if_neg (by decide), x_miss1 hr e3 e1, Option.bind_some, if_pos rfl, o_X5_remove, ogd_t (inb_ok hr (by omega)), ogd_t (inb_ok hr (by omega)), ogd_t (inb_ok hr (by omega)), cl_nI (by omega), e4]
        rfl
      · rw [o_X9_drop, m_isRow hr, Option.bind_some, if_neg (by decide), ogd_t (inb_ok hr (by omega)), cl_nI (by omega), e7, if_neg (by decide), ogd_t (inb_ok hr (by omega)), ogd_t (inb_ok hr (by omega)), e5]
        rfl
      · by_cases e : q = r
        · subst e
          exact Or.inl ⟨upd_eq _ _ _, upd_eq _ _ _⟩
        · exact RW_other (h q hq) (upd_ne e) (upd_ne e) rfl rfl (upd_ne e) (fun i hi => ⟨rfl, rfl⟩)
  · refine ⟨-1000001, fs, la, sz, th, ?_, ?_, h⟩
    · rw [o_X8_drop, x_noRow ha, Option.bind_some, if_pos rfl]
    · rw [o_X9_drop, m_noRow ha, Option.bind_some, if_pos rfl]
