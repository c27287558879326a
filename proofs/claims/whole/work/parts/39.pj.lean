/-! PURE PART J: odds and gain -/
def odq (a b h w : Nat) : Bool := decide (o_X8_odds 7000 (nI h) (nI a) (nI b) (nI (9 - a - b)) (nI w) = o_X9_odds 7000 (nI h) (nI a) (nI b) (nI (9 - a - b)) (nI w))
def gaq (a b : Nat) : Bool := decide (o_X8_gain 7000 (nI a) (nI b) (nI (9 - a - b)) = o_X9_gain 7000 (nI a) (nI b) (nI (9 - a - b)))
theorem odds_fin : ∀ a, a < 10 → ∀ b, b < 10 - a → ∀ h, h < 3 → ∀ w, w < 2 → odq a b h w = true := by
  decide +kernel
theorem gain_fin : ∀ a, a < 10 → ∀ b, b < 10 - a → gaq a b = true := by
  decide +kernel
theorem x_rng {x : Int32} {h : Nat} (hh : h < 80000) : (if x < 0 then some (0 : Int32) else if nI (h + 1) ≤ x then some 0 else some 1) = some (if (∃ r, r < h + 1 ∧ x = nI r) then 1 else 0) := by
  rcases icase x (h + 1) (by omega) with h1 | h1 | ⟨h1, h2⟩
  · rw [if_pos h1]
    obtain ⟨r, hr, rfl⟩ := h1
    rw [if_neg (nlt0 (by omega)), if_neg (by rw [nI_leI (by omega) (by omega)]; omega)]
  · rw [if_pos h1, if_neg]
    rintro ⟨r, hr, rfl⟩
    exact nlt0 (by omega) h1
  · rw [if_neg h2, if_pos h1, if_neg]
    rintro ⟨r, hr, rfl⟩
    rw [nI_leI (by omega) (by omega)] at h1
    omega
theorem x_rng2 {x : Int32} {h : Nat} (hh : h < 80000) : (if x < 0 then some (0 : Int32) else if nI h < x then some 0 else some 1) = some (if (∃ r, r < h + 1 ∧ x = nI r) then 1 else 0) := by
  rw [← x_rng hh]
  by_cases c : nI h < x
  · have c2 : nI (h + 1) ≤ x := by
      rw [qlt, qnI (by omega)] at c
      rw [qle, qnI (by omega)]
      omega
    rw [if_pos c, if_pos c2]
  · have c2 : ¬ nI (h + 1) ≤ x := by
      rw [qlt, qnI (by omega)] at c
      rw [qle, qnI (by omega)]
      omega
    rw [if_neg c, if_neg c2]
theorem x_share {N : Nat} {x : Int32} : o_X8_isShare N x = some (if (∃ r, r < 9 + 1 ∧ x = nI r) then 1 else 0) := by
  rw [o_X8_isShare, l9_, x_rng2 (by omega)]
theorem x_isHand {N : Nat} {x : Int32} : o_X8_isHand N x = some (if (∃ r, r < 2 + 1 ∧ x = nI r) then 1 else 0) := by
  rw [o_X8_isHand, l3_, x_rng (by omega)]
theorem s_lots {N : Nat} {x y z : Int32} : o_X8_areOdds N x y z = o_X9_isLot N x y z := by
  rw [o_X8_areOdds, o_X9_isLot, x_share, x_share, x_share, p_in0 (by omega) w9, p_in0 (by omega) w9, p_in0 (by omega) w9]
theorem lots_v {N : Nat} (x y z : Int32) : o_X9_isLot N x y z = some 0 ∨ (o_X9_isLot N x y z = some 1 ∧ ∃ a b, a < 10 ∧ b < 10 - a ∧ x = nI a ∧ y = nI b ∧ z = nI (9 - a - b)) := by
  rw [o_X9_isLot, p_in0 (by omega) w9, p_in0 (by omega) w9, p_in0 (by omega) w9]
  simp only [Option.bind_some]
  by_cases hx : ∃ r, r < 9 + 1 ∧ x = nI r
  · by_cases hy : ∃ r, r < 9 + 1 ∧ y = nI r
    · by_cases hz : ∃ r, r < 9 + 1 ∧ z = nI r
      · rw [if_pos hx, if_pos hy, if_pos hz, if_neg (by decide), if_neg (by decide), if_neg (by decide)]
        obtain ⟨a, ha, rfl⟩ := hx
        obtain ⟨b, hb, rfl⟩ := hy
        obtain ⟨c, hc, rfl⟩ := hz
        rw [nI_add, nI_add, l9_]
        by_cases s : a + b + c = 9
        · right
          rw [ifeq (by omega) (by omega), if_pos s]
          refine ⟨rfl, a, b, by omega, by omega, rfl, rfl, ?_⟩
          congr 1
          omega
        · left
          rw [ifeq (by omega) (by omega), if_neg s]
      · left
        rw [if_pos hx, if_pos hy, if_neg hz, if_neg (by decide), if_neg (by decide), if_pos rfl]
    · left
      rw [if_pos hx, if_neg hy, if_neg (by decide), if_pos rfl]
  · left
    rw [if_neg hx, if_pos rfl]
theorem s_odds {h x y z w : Int32} : o_X8_odds 7000 h x y z w = o_X9_odds 7000 h x y z w := by
  rcases icase h 3 (by omega) with ⟨i, hi, rfl⟩ | hh
  · rcases lots_v (N := 7000) x y z with hl | ⟨hl, a, b, ha, hb, rfl, rfl, rfl⟩
    · rw [o_X8_odds, o_X9_odds, x_isHand, if_pos ⟨i, hi, rfl⟩, in_yes (by omega) w2 hi, s_lots, hl]
      rfl
    · rcases icase w 2 (by omega) with ⟨j, hj, rfl⟩ | hw
      · exact of_decide_eq_true (odds_fin a ha b hb i hi j hj)
      · rw [o_X8_odds, o_X9_odds, x_isHand, if_pos ⟨i, hi, rfl⟩, in_yes (by omega) w2 hi, s_lots, hl, in_no (by omega) w1 hw]
        simp only [Option.bind_some]
        rw [if_neg (by decide), if_neg (by decide)]
        rcases hw with hw | ⟨hw, hw2⟩
        · rw [if_pos hw]; rfl
        · rw [if_neg hw2, l1_, if_neg (nle_s (by omega) hw)]; rfl
  · have e : ¬ ∃ r, r < 2 + 1 ∧ h = nI r := by
      rintro ⟨r, hr, rfl⟩
      rcases hh with hh | ⟨hh, -⟩
      · exact nlt0 (by omega) hh
      · rw [nI_leI (by omega) (by omega)] at hh; omega
    rw [o_X8_odds, o_X9_odds, x_isHand, if_neg e, in_no (by omega) w2 hh]
    rfl
theorem s_gain {x y z : Int32} : o_X8_gain 7000 x y z = o_X9_gain 7000 x y z := by
  rcases lots_v (N := 7000) x y z with hl | ⟨hl, a, b, ha, hb, rfl, rfl, rfl⟩
  · rw [o_X8_gain, o_X9_gain, s_lots, hl]
    simp only [Option.bind_some]
    rw [if_pos trivial, if_pos trivial]
  · have h := gain_fin a ha b hb
    unfold gaq at h
    exact of_decide_eq_true h
