/-! PURE PART QO: the relation of both sides; each call keeps it. Made by wip/gen/lawops.py -/
def odi (a b h w : Nat) : Bool := (o_X8_odds 7000 (nI h) (nI a) (nI b) (nI (9 - a - b)) (nI w)).isSome
def gai (a b : Nat) : Bool := (o_X8_gain 7000 (nI a) (nI b) (nI (9 - a - b))).isSome
theorem odds_is : ∀ a, a < 10 → ∀ b, b < 10 - a → ∀ h, h < 3 → ∀ w, w < 2 → odi a b h w = true := by
  decide +kernel
theorem gain_is : ∀ a, a < 10 → ∀ b, b < 10 - a → gai a b = true := by
  decide +kernel
theorem odds_some {h x y z w : Int32} : ∃ r, o_X8_odds 7000 h x y z w = some r := by
  rcases icase h 3 (by omega) with ⟨i, hi, rfl⟩ | hh
  · rcases lots_v (N := 7000) x y z with hl | ⟨hl, a, b, ha, hb, rfl, rfl, rfl⟩
    · rw [o_X8_odds, x_isHand, if_pos ⟨i, hi, rfl⟩, s_lots, hl]
      exact ⟨_, rfl⟩
    · rcases icase w 2 (by omega) with ⟨j, hj, rfl⟩ | hw
      · exact Option.isSome_iff_exists.mp (odds_is a ha b hb i hi j hj)
      · rw [o_X8_odds, x_isHand, if_pos ⟨i, hi, rfl⟩, s_lots, hl]
        simp only [Option.bind_some]
        rw [if_neg (by decide), if_neg (by decide)]
        rcases hw with hw | ⟨hw, hw2⟩
        · rw [if_pos hw]; exact ⟨_, rfl⟩
        · rw [if_neg hw2, l1_, if_neg (nle_s (by omega) hw)]; exact ⟨_, rfl⟩
  · have e : ¬ ∃ r, r < 2 + 1 ∧ h = nI r := by
      rintro ⟨r, hr, rfl⟩
      rcases hh with hh | ⟨hh, -⟩
      · exact nlt0 (by omega) hh
      · rw [nI_leI (by omega) (by omega)] at hh; omega
    rw [o_X8_odds, x_isHand, if_neg e]
    exact ⟨_, rfl⟩
theorem gain_some {x y z : Int32} : ∃ r, o_X8_gain 7000 x y z = some r := by
  rcases lots_v (N := 7000) x y z with hl | ⟨hl, a, b, ha, hb, rfl, rfl, rfl⟩
  · rw [o_X8_gain, s_lots, hl]
    exact ⟨_, rfl⟩
  · exact Option.isSome_iff_exists.mp (gain_is a ha b hb)
def REL (p1_latestFault : Int32) (p1_latestFinding : Int32) (p1_rows_lane : (Nat → Int32)) (p1_rows_size : (Nat → Int32)) (p1_rows_items : (Nat → Int32)) (p1_tape_length : Int32) (p1_tape_bytes : (Nat → Int32)) (p1_now_players : Int32) (p1_now_round : Int32) (p1_now_time : Int32) (p1_now_kind : (Nat → Int32)) (p1_now_hand : (Nat → Int32)) (p1_now_leader : (Nat → Int32)) (p1_trial_kind : (Nat → Int32)) (p1_trial_hand : (Nat → Int32)) (p1_trial_leader : (Nat → Int32)) (p1_acts_kept : Int32) (p1_acts_next : Int32) (p1_acts_halls : (Nat → Int32)) (p1_asks_length : Int32) (p1_asks_numbers : (Nat → Int32)) (p1_images : (Nat → Int32)) (p1_imageKept : (Nat → Int32)) (p2_manyActs : Int32) (p2_status : Int32) (p2_tapeLong : Int32) (p2_fault : Int32) (p2_traced : Int32) (p2_now : (Nat → Int32)) (p2_kept : (Nat → Int32)) (p2_isKept : (Nat → Int32)) (p2_acts : (Nat → Int32)) (p2_lanes : (Nat → Int32)) (p2_longs : (Nat → Int32)) (p2_isThere : (Nat → Int32)) (p2_items : (Nat → Int32)) (p2_tape : (Nat → Int32)) (p2_traces : (Nat → Int32)) : Prop :=
  p1_latestFault = p2_fault ∧ p1_latestFinding = p2_status ∧ RR p1_rows_lane p1_rows_size p1_rows_items p2_lanes p2_longs p2_isThere p2_items ∧ TR p1_tape_length p1_tape_bytes p2_tapeLong p2_tape ∧ HREL p1_now_players p1_now_round p1_now_time p1_now_kind p1_now_hand p1_now_leader p2_now ∧ TB p1_trial_kind p1_trial_hand p1_trial_leader ∧ AR p1_acts_kept p1_acts_next p1_acts_halls p2_manyActs p2_acts ∧ IR p1_images p1_imageKept p2_kept p2_isKept ∧ TC p1_asks_length p1_asks_numbers p2_traced p2_traces
theorem REL.hfl {p1_latestFault : Int32} {p1_latestFinding : Int32} {p1_rows_lane : (Nat → Int32)} {p1_rows_size : (Nat → Int32)} {p1_rows_items : (Nat → Int32)} {p1_tape_length : Int32} {p1_tape_bytes : (Nat → Int32)} {p1_now_players : Int32} {p1_now_round : Int32} {p1_now_time : Int32} {p1_now_kind : (Nat → Int32)} {p1_now_hand : (Nat → Int32)} {p1_now_leader : (Nat → Int32)} {p1_trial_kind : (Nat → Int32)} {p1_trial_hand : (Nat → Int32)} {p1_trial_leader : (Nat → Int32)} {p1_acts_kept : Int32} {p1_acts_next : Int32} {p1_acts_halls : (Nat → Int32)} {p1_asks_length : Int32} {p1_asks_numbers : (Nat → Int32)} {p1_images : (Nat → Int32)} {p1_imageKept : (Nat → Int32)} {p2_manyActs : Int32} {p2_status : Int32} {p2_tapeLong : Int32} {p2_fault : Int32} {p2_traced : Int32} {p2_now : (Nat → Int32)} {p2_kept : (Nat → Int32)} {p2_isKept : (Nat → Int32)} {p2_acts : (Nat → Int32)} {p2_lanes : (Nat → Int32)} {p2_longs : (Nat → Int32)} {p2_isThere : (Nat → Int32)} {p2_items : (Nat → Int32)} {p2_tape : (Nat → Int32)} {p2_traces : (Nat → Int32)} (h : REL p1_latestFault p1_latestFinding p1_rows_lane p1_rows_size p1_rows_items p1_tape_length p1_tape_bytes p1_now_players p1_now_round p1_now_time p1_now_kind p1_now_hand p1_now_leader p1_trial_kind p1_trial_hand p1_trial_leader p1_acts_kept p1_acts_next p1_acts_halls p1_asks_length p1_asks_numbers p1_images p1_imageKept p2_manyActs p2_status p2_tapeLong p2_fault p2_traced p2_now p2_kept p2_isKept p2_acts p2_lanes p2_longs p2_isThere p2_items p2_tape p2_traces) : p1_latestFault = p2_fault := h.1
theorem REL.hst {p1_latestFault : Int32} {p1_latestFinding : Int32} {p1_rows_lane : (Nat → Int32)} {p1_rows_size : (Nat → Int32)} {p1_rows_items : (Nat → Int32)} {p1_tape_length : Int32} {p1_tape_bytes : (Nat → Int32)} {p1_now_players : Int32} {p1_now_round : Int32} {p1_now_time : Int32} {p1_now_kind : (Nat → Int32)} {p1_now_hand : (Nat → Int32)} {p1_now_leader : (Nat → Int32)} {p1_trial_kind : (Nat → Int32)} {p1_trial_hand : (Nat → Int32)} {p1_trial_leader : (Nat → Int32)} {p1_acts_kept : Int32} {p1_acts_next : Int32} {p1_acts_halls : (Nat → Int32)} {p1_asks_length : Int32} {p1_asks_numbers : (Nat → Int32)} {p1_images : (Nat → Int32)} {p1_imageKept : (Nat → Int32)} {p2_manyActs : Int32} {p2_status : Int32} {p2_tapeLong : Int32} {p2_fault : Int32} {p2_traced : Int32} {p2_now : (Nat → Int32)} {p2_kept : (Nat → Int32)} {p2_isKept : (Nat → Int32)} {p2_acts : (Nat → Int32)} {p2_lanes : (Nat → Int32)} {p2_longs : (Nat → Int32)} {p2_isThere : (Nat → Int32)} {p2_items : (Nat → Int32)} {p2_tape : (Nat → Int32)} {p2_traces : (Nat → Int32)} (h : REL p1_latestFault p1_latestFinding p1_rows_lane p1_rows_size p1_rows_items p1_tape_length p1_tape_bytes p1_now_players p1_now_round p1_now_time p1_now_kind p1_now_hand p1_now_leader p1_trial_kind p1_trial_hand p1_trial_leader p1_acts_kept p1_acts_next p1_acts_halls p1_asks_length p1_asks_numbers p1_images p1_imageKept p2_manyActs p2_status p2_tapeLong p2_fault p2_traced p2_now p2_kept p2_isKept p2_acts p2_lanes p2_longs p2_isThere p2_items p2_tape p2_traces) : p1_latestFinding = p2_status := h.2.1
theorem REL.hrr {p1_latestFault : Int32} {p1_latestFinding : Int32} {p1_rows_lane : (Nat → Int32)} {p1_rows_size : (Nat → Int32)} {p1_rows_items : (Nat → Int32)} {p1_tape_length : Int32} {p1_tape_bytes : (Nat → Int32)} {p1_now_players : Int32} {p1_now_round : Int32} {p1_now_time : Int32} {p1_now_kind : (Nat → Int32)} {p1_now_hand : (Nat → Int32)} {p1_now_leader : (Nat → Int32)} {p1_trial_kind : (Nat → Int32)} {p1_trial_hand : (Nat → Int32)} {p1_trial_leader : (Nat → Int32)} {p1_acts_kept : Int32} {p1_acts_next : Int32} {p1_acts_halls : (Nat → Int32)} {p1_asks_length : Int32} {p1_asks_numbers : (Nat → Int32)} {p1_images : (Nat → Int32)} {p1_imageKept : (Nat → Int32)} {p2_manyActs : Int32} {p2_status : Int32} {p2_tapeLong : Int32} {p2_fault : Int32} {p2_traced : Int32} {p2_now : (Nat → Int32)} {p2_kept : (Nat → Int32)} {p2_isKept : (Nat → Int32)} {p2_acts : (Nat → Int32)} {p2_lanes : (Nat → Int32)} {p2_longs : (Nat → Int32)} {p2_isThere : (Nat → Int32)} {p2_items : (Nat → Int32)} {p2_tape : (Nat → Int32)} {p2_traces : (Nat → Int32)} (h : REL p1_latestFault p1_latestFinding p1_rows_lane p1_rows_size p1_rows_items p1_tape_length p1_tape_bytes p1_now_players p1_now_round p1_now_time p1_now_kind p1_now_hand p1_now_leader p1_trial_kind p1_trial_hand p1_trial_leader p1_acts_kept p1_acts_next p1_acts_halls p1_asks_length p1_asks_numbers p1_images p1_imageKept p2_manyActs p2_status p2_tapeLong p2_fault p2_traced p2_now p2_kept p2_isKept p2_acts p2_lanes p2_longs p2_isThere p2_items p2_tape p2_traces) : RR p1_rows_lane p1_rows_size p1_rows_items p2_lanes p2_longs p2_isThere p2_items := h.2.2.1
theorem REL.htr {p1_latestFault : Int32} {p1_latestFinding : Int32} {p1_rows_lane : (Nat → Int32)} {p1_rows_size : (Nat → Int32)} {p1_rows_items : (Nat → Int32)} {p1_tape_length : Int32} {p1_tape_bytes : (Nat → Int32)} {p1_now_players : Int32} {p1_now_round : Int32} {p1_now_time : Int32} {p1_now_kind : (Nat → Int32)} {p1_now_hand : (Nat → Int32)} {p1_now_leader : (Nat → Int32)} {p1_trial_kind : (Nat → Int32)} {p1_trial_hand : (Nat → Int32)} {p1_trial_leader : (Nat → Int32)} {p1_acts_kept : Int32} {p1_acts_next : Int32} {p1_acts_halls : (Nat → Int32)} {p1_asks_length : Int32} {p1_asks_numbers : (Nat → Int32)} {p1_images : (Nat → Int32)} {p1_imageKept : (Nat → Int32)} {p2_manyActs : Int32} {p2_status : Int32} {p2_tapeLong : Int32} {p2_fault : Int32} {p2_traced : Int32} {p2_now : (Nat → Int32)} {p2_kept : (Nat → Int32)} {p2_isKept : (Nat → Int32)} {p2_acts : (Nat → Int32)} {p2_lanes : (Nat → Int32)} {p2_longs : (Nat → Int32)} {p2_isThere : (Nat → Int32)} {p2_items : (Nat → Int32)} {p2_tape : (Nat → Int32)} {p2_traces : (Nat → Int32)} (h : REL p1_latestFault p1_latestFinding p1_rows_lane p1_rows_size p1_rows_items p1_tape_length p1_tape_bytes p1_now_players p1_now_round p1_now_time p1_now_kind p1_now_hand p1_now_leader p1_trial_kind p1_trial_hand p1_trial_leader p1_acts_kept p1_acts_next p1_acts_halls p1_asks_length p1_asks_numbers p1_images p1_imageKept p2_manyActs p2_status p2_tapeLong p2_fault p2_traced p2_now p2_kept p2_isKept p2_acts p2_lanes p2_longs p2_isThere p2_items p2_tape p2_traces) : TR p1_tape_length p1_tape_bytes p2_tapeLong p2_tape := h.2.2.2.1
theorem REL.hh {p1_latestFault : Int32} {p1_latestFinding : Int32} {p1_rows_lane : (Nat → Int32)} {p1_rows_size : (Nat → Int32)} {p1_rows_items : (Nat → Int32)} {p1_tape_length : Int32} {p1_tape_bytes : (Nat → Int32)} {p1_now_players : Int32} {p1_now_round : Int32} {p1_now_time : Int32} {p1_now_kind : (Nat → Int32)} {p1_now_hand : (Nat → Int32)} {p1_now_leader : (Nat → Int32)} {p1_trial_kind : (Nat → Int32)} {p1_trial_hand : (Nat → Int32)} {p1_trial_leader : (Nat → Int32)} {p1_acts_kept : Int32} {p1_acts_next : Int32} {p1_acts_halls : (Nat → Int32)} {p1_asks_length : Int32} {p1_asks_numbers : (Nat → Int32)} {p1_images : (Nat → Int32)} {p1_imageKept : (Nat → Int32)} {p2_manyActs : Int32} {p2_status : Int32} {p2_tapeLong : Int32} {p2_fault : Int32} {p2_traced : Int32} {p2_now : (Nat → Int32)} {p2_kept : (Nat → Int32)} {p2_isKept : (Nat → Int32)} {p2_acts : (Nat → Int32)} {p2_lanes : (Nat → Int32)} {p2_longs : (Nat → Int32)} {p2_isThere : (Nat → Int32)} {p2_items : (Nat → Int32)} {p2_tape : (Nat → Int32)} {p2_traces : (Nat → Int32)} (h : REL p1_latestFault p1_latestFinding p1_rows_lane p1_rows_size p1_rows_items p1_tape_length p1_tape_bytes p1_now_players p1_now_round p1_now_time p1_now_kind p1_now_hand p1_now_leader p1_trial_kind p1_trial_hand p1_trial_leader p1_acts_kept p1_acts_next p1_acts_halls p1_asks_length p1_asks_numbers p1_images p1_imageKept p2_manyActs p2_status p2_tapeLong p2_fault p2_traced p2_now p2_kept p2_isKept p2_acts p2_lanes p2_longs p2_isThere p2_items p2_tape p2_traces) : HREL p1_now_players p1_now_round p1_now_time p1_now_kind p1_now_hand p1_now_leader p2_now := h.2.2.2.2.1
theorem REL.htb {p1_latestFault : Int32} {p1_latestFinding : Int32} {p1_rows_lane : (Nat → Int32)} {p1_rows_size : (Nat → Int32)} {p1_rows_items : (Nat → Int32)} {p1_tape_length : Int32} {p1_tape_bytes : (Nat → Int32)} {p1_now_players : Int32} {p1_now_round : Int32} {p1_now_time : Int32} {p1_now_kind : (Nat → Int32)} {p1_now_hand : (Nat → Int32)} {p1_now_leader : (Nat → Int32)} {p1_trial_kind : (Nat → Int32)} {p1_trial_hand : (Nat → Int32)} {p1_trial_leader : (Nat → Int32)} {p1_acts_kept : Int32} {p1_acts_next : Int32} {p1_acts_halls : (Nat → Int32)} {p1_asks_length : Int32} {p1_asks_numbers : (Nat → Int32)} {p1_images : (Nat → Int32)} {p1_imageKept : (Nat → Int32)} {p2_manyActs : Int32} {p2_status : Int32} {p2_tapeLong : Int32} {p2_fault : Int32} {p2_traced : Int32} {p2_now : (Nat → Int32)} {p2_kept : (Nat → Int32)} {p2_isKept : (Nat → Int32)} {p2_acts : (Nat → Int32)} {p2_lanes : (Nat → Int32)} {p2_longs : (Nat → Int32)} {p2_isThere : (Nat → Int32)} {p2_items : (Nat → Int32)} {p2_tape : (Nat → Int32)} {p2_traces : (Nat → Int32)} (h : REL p1_latestFault p1_latestFinding p1_rows_lane p1_rows_size p1_rows_items p1_tape_length p1_tape_bytes p1_now_players p1_now_round p1_now_time p1_now_kind p1_now_hand p1_now_leader p1_trial_kind p1_trial_hand p1_trial_leader p1_acts_kept p1_acts_next p1_acts_halls p1_asks_length p1_asks_numbers p1_images p1_imageKept p2_manyActs p2_status p2_tapeLong p2_fault p2_traced p2_now p2_kept p2_isKept p2_acts p2_lanes p2_longs p2_isThere p2_items p2_tape p2_traces) : TB p1_trial_kind p1_trial_hand p1_trial_leader := h.2.2.2.2.2.1
theorem REL.har {p1_latestFault : Int32} {p1_latestFinding : Int32} {p1_rows_lane : (Nat → Int32)} {p1_rows_size : (Nat → Int32)} {p1_rows_items : (Nat → Int32)} {p1_tape_length : Int32} {p1_tape_bytes : (Nat → Int32)} {p1_now_players : Int32} {p1_now_round : Int32} {p1_now_time : Int32} {p1_now_kind : (Nat → Int32)} {p1_now_hand : (Nat → Int32)} {p1_now_leader : (Nat → Int32)} {p1_trial_kind : (Nat → Int32)} {p1_trial_hand : (Nat → Int32)} {p1_trial_leader : (Nat → Int32)} {p1_acts_kept : Int32} {p1_acts_next : Int32} {p1_acts_halls : (Nat → Int32)} {p1_asks_length : Int32} {p1_asks_numbers : (Nat → Int32)} {p1_images : (Nat → Int32)} {p1_imageKept : (Nat → Int32)} {p2_manyActs : Int32} {p2_status : Int32} {p2_tapeLong : Int32} {p2_fault : Int32} {p2_traced : Int32} {p2_now : (Nat → Int32)} {p2_kept : (Nat → Int32)} {p2_isKept : (Nat → Int32)} {p2_acts : (Nat → Int32)} {p2_lanes : (Nat → Int32)} {p2_longs : (Nat → Int32)} {p2_isThere : (Nat → Int32)} {p2_items : (Nat → Int32)} {p2_tape : (Nat → Int32)} {p2_traces : (Nat → Int32)} (h : REL p1_latestFault p1_latestFinding p1_rows_lane p1_rows_size p1_rows_items p1_tape_length p1_tape_bytes p1_now_players p1_now_round p1_now_time p1_now_kind p1_now_hand p1_now_leader p1_trial_kind p1_trial_hand p1_trial_leader p1_acts_kept p1_acts_next p1_acts_halls p1_asks_length p1_asks_numbers p1_images p1_imageKept p2_manyActs p2_status p2_tapeLong p2_fault p2_traced p2_now p2_kept p2_isKept p2_acts p2_lanes p2_longs p2_isThere p2_items p2_tape p2_traces) : AR p1_acts_kept p1_acts_next p1_acts_halls p2_manyActs p2_acts := h.2.2.2.2.2.2.1
theorem REL.hir {p1_latestFault : Int32} {p1_latestFinding : Int32} {p1_rows_lane : (Nat → Int32)} {p1_rows_size : (Nat → Int32)} {p1_rows_items : (Nat → Int32)} {p1_tape_length : Int32} {p1_tape_bytes : (Nat → Int32)} {p1_now_players : Int32} {p1_now_round : Int32} {p1_now_time : Int32} {p1_now_kind : (Nat → Int32)} {p1_now_hand : (Nat → Int32)} {p1_now_leader : (Nat → Int32)} {p1_trial_kind : (Nat → Int32)} {p1_trial_hand : (Nat → Int32)} {p1_trial_leader : (Nat → Int32)} {p1_acts_kept : Int32} {p1_acts_next : Int32} {p1_acts_halls : (Nat → Int32)} {p1_asks_length : Int32} {p1_asks_numbers : (Nat → Int32)} {p1_images : (Nat → Int32)} {p1_imageKept : (Nat → Int32)} {p2_manyActs : Int32} {p2_status : Int32} {p2_tapeLong : Int32} {p2_fault : Int32} {p2_traced : Int32} {p2_now : (Nat → Int32)} {p2_kept : (Nat → Int32)} {p2_isKept : (Nat → Int32)} {p2_acts : (Nat → Int32)} {p2_lanes : (Nat → Int32)} {p2_longs : (Nat → Int32)} {p2_isThere : (Nat → Int32)} {p2_items : (Nat → Int32)} {p2_tape : (Nat → Int32)} {p2_traces : (Nat → Int32)} (h : REL p1_latestFault p1_latestFinding p1_rows_lane p1_rows_size p1_rows_items p1_tape_length p1_tape_bytes p1_now_players p1_now_round p1_now_time p1_now_kind p1_now_hand p1_now_leader p1_trial_kind p1_trial_hand p1_trial_leader p1_acts_kept p1_acts_next p1_acts_halls p1_asks_length p1_asks_numbers p1_images p1_imageKept p2_manyActs p2_status p2_tapeLong p2_fault p2_traced p2_now p2_kept p2_isKept p2_acts p2_lanes p2_longs p2_isThere p2_items p2_tape p2_traces) : IR p1_images p1_imageKept p2_kept p2_isKept := h.2.2.2.2.2.2.2.1
theorem REL.htc {p1_latestFault : Int32} {p1_latestFinding : Int32} {p1_rows_lane : (Nat → Int32)} {p1_rows_size : (Nat → Int32)} {p1_rows_items : (Nat → Int32)} {p1_tape_length : Int32} {p1_tape_bytes : (Nat → Int32)} {p1_now_players : Int32} {p1_now_round : Int32} {p1_now_time : Int32} {p1_now_kind : (Nat → Int32)} {p1_now_hand : (Nat → Int32)} {p1_now_leader : (Nat → Int32)} {p1_trial_kind : (Nat → Int32)} {p1_trial_hand : (Nat → Int32)} {p1_trial_leader : (Nat → Int32)} {p1_acts_kept : Int32} {p1_acts_next : Int32} {p1_acts_halls : (Nat → Int32)} {p1_asks_length : Int32} {p1_asks_numbers : (Nat → Int32)} {p1_images : (Nat → Int32)} {p1_imageKept : (Nat → Int32)} {p2_manyActs : Int32} {p2_status : Int32} {p2_tapeLong : Int32} {p2_fault : Int32} {p2_traced : Int32} {p2_now : (Nat → Int32)} {p2_kept : (Nat → Int32)} {p2_isKept : (Nat → Int32)} {p2_acts : (Nat → Int32)} {p2_lanes : (Nat → Int32)} {p2_longs : (Nat → Int32)} {p2_isThere : (Nat → Int32)} {p2_items : (Nat → Int32)} {p2_tape : (Nat → Int32)} {p2_traces : (Nat → Int32)} (h : REL p1_latestFault p1_latestFinding p1_rows_lane p1_rows_size p1_rows_items p1_tape_length p1_tape_bytes p1_now_players p1_now_round p1_now_time p1_now_kind p1_now_hand p1_now_leader p1_trial_kind p1_trial_hand p1_trial_leader p1_acts_kept p1_acts_next p1_acts_halls p1_asks_length p1_asks_numbers p1_images p1_imageKept p2_manyActs p2_status p2_tapeLong p2_fault p2_traced p2_now p2_kept p2_isKept p2_acts p2_lanes p2_longs p2_isThere p2_items p2_tape p2_traces) : TC p1_asks_length p1_asks_numbers p2_traced p2_traces := h.2.2.2.2.2.2.2.2
def LIH (L : Nat) (xs : Nat → Int32) (m c : Nat) : Prop := ∀ (a_p1_ways_best : Nat) (a_p1_ways_better : Nat) (p1_latestFault : Int32) (p1_latestFinding : Int32) (p1_rows_lane : (Nat → Int32)) (p1_rows_size : (Nat → Int32)) (p1_rows_items : (Nat → Int32)) (p1_tape_length : Int32) (p1_tape_bytes : (Nat → Int32)) (p1_reader_value : Int32) (p1_now_players : Int32) (p1_now_round : Int32) (p1_now_time : Int32) (p1_now_kind : (Nat → Int32)) (p1_now_hand : (Nat → Int32)) (p1_now_leader : (Nat → Int32)) (p1_now_course_first : Int32) (p1_now_course_second : Int32) (p1_now_course_thrown : Int32) (p1_trial_players : Int32) (p1_trial_round : Int32) (p1_trial_time : Int32) (p1_trial_kind : (Nat → Int32)) (p1_trial_hand : (Nat → Int32)) (p1_trial_leader : (Nat → Int32)) (p1_trial_course_first : Int32) (p1_trial_course_second : Int32) (p1_trial_course_thrown : Int32) (p1_acts_kept : Int32) (p1_acts_next : Int32) (p1_acts_halls : (Nat → Int32)) (p1_ways_groups : Int32) (p1_ways_group : (Nat → Int32)) (p1_ways_train : (Nat → Int32)) (p1_ways_best : (Nat → Int32)) (p1_ways_better : (Nat → Int32)) (p1_ways_course_first : Int32) (p1_ways_course_second : Int32) (p1_ways_course_thrown : Int32) (p1_asks_length : Int32) (p1_asks_numbers : (Nat → Int32)) (p1_images : (Nat → Int32)) (p1_imageKept : (Nat → Int32)) (p2_manyActs : Int32) (p2_status : Int32) (p2_tapeLong : Int32) (p2_fault : Int32) (p2_winner : Int32) (p2_throwsOf : Int32) (p2_handA : Int32) (p2_handB : Int32) (p2_fewestSo : Int32) (p2_traced : Int32) (p2_now : (Nat → Int32)) (p2_kept : (Nat → Int32)) (p2_isKept : (Nat → Int32)) (p2_acts : (Nat → Int32)) (p2_was : (Nat → Int32)) (p2_lanes : (Nat → Int32)) (p2_longs : (Nat → Int32)) (p2_isThere : (Nat → Int32)) (p2_items : (Nat → Int32)) (p2_copied : (Nat → Int32)) (p2_tape : (Nat → Int32)) (p2_readSorts : (Nat → Int32)) (p2_readHands : (Nat → Int32)) (p2_inTurn : (Nat → Int32)) (p2_ends : (Nat → Int32)) (p2_bestHands : (Nat → Int32)) (p2_traces : (Nat → Int32)), REL p1_latestFault p1_latestFinding p1_rows_lane p1_rows_size p1_rows_items p1_tape_length p1_tape_bytes p1_now_players p1_now_round p1_now_time p1_now_kind p1_now_hand p1_now_leader p1_trial_kind p1_trial_hand p1_trial_leader p1_acts_kept p1_acts_next p1_acts_halls p1_asks_length p1_asks_numbers p1_images p1_imageKept p2_manyActs p2_status p2_tapeLong p2_fault p2_traced p2_now p2_kept p2_isKept p2_acts p2_lanes p2_longs p2_isThere p2_items p2_tape p2_traces → o_L_law 7000 L xs m a_p1_ways_best a_p1_ways_better p1_latestFault p1_latestFinding p1_rows_lane p1_rows_size p1_rows_items p1_tape_length p1_tape_bytes p1_reader_value p1_now_players p1_now_round p1_now_time p1_now_kind p1_now_hand p1_now_leader p1_now_course_first p1_now_course_second p1_now_course_thrown p1_trial_players p1_trial_round p1_trial_time p1_trial_kind p1_trial_hand p1_trial_leader p1_trial_course_first p1_trial_course_second p1_trial_course_thrown p1_acts_kept p1_acts_next p1_acts_halls p1_ways_groups p1_ways_group p1_ways_train p1_ways_best p1_ways_better p1_ways_course_first p1_ways_course_second p1_ways_course_thrown p1_asks_length p1_asks_numbers p1_images p1_imageKept p2_manyActs p2_status p2_tapeLong p2_fault p2_winner p2_throwsOf p2_handA p2_handB p2_fewestSo p2_traced p2_now p2_kept p2_isKept p2_acts p2_was p2_lanes p2_longs p2_isThere p2_items p2_copied p2_tape p2_readSorts p2_readHands p2_inTurn p2_ends p2_bestHands p2_traces (nI c + 6) = some 1
theorem li_ok {L c i : Nat} (hc : c + 6 ≤ L) (hL : L ≤ 384) (hi : i < 6) : inb (nI c + nI i) L = true := by rw [nI_add]; exact inb_ok (by omega) (by omega)
theorem li_0 {L c : Nat} (hc : c + 6 ≤ L) (hL : L ≤ 384) : inb (nI c) L = true := inb_ok (by omega) (by omega)
theorem li_g {L c : Nat} (hc : c + 6 ≤ L) (hL : L ≤ 384) : ¬ (Int32.ofNat L) - 6 < nI c := by
  rw [show (Int32.ofNat L) - 6 = nI (L - 6) from pk_sub (a := L) (b := 6) (by omega)]
  exact nI_nlt (by omega) (by omega)
theorem law_op_0 {L m c : Nat} {xs : Nat → Int32} {a_p1_ways_best : Nat} {a_p1_ways_better : Nat} {p1_latestFault : Int32} {p1_latestFinding : Int32} {p1_rows_lane : (Nat → Int32)} {p1_rows_size : (Nat → Int32)} {p1_rows_items : (Nat → Int32)} {p1_tape_length : Int32} {p1_tape_bytes : (Nat → Int32)} {p1_reader_value : Int32} {p1_now_players : Int32} {p1_now_round : Int32} {p1_now_time : Int32} {p1_now_kind : (Nat → Int32)} {p1_now_hand : (Nat → Int32)} {p1_now_leader : (Nat → Int32)} {p1_now_course_first : Int32} {p1_now_course_second : Int32} {p1_now_course_thrown : Int32} {p1_trial_players : Int32} {p1_trial_round : Int32} {p1_trial_time : Int32} {p1_trial_kind : (Nat → Int32)} {p1_trial_hand : (Nat → Int32)} {p1_trial_leader : (Nat → Int32)} {p1_trial_course_first : Int32} {p1_trial_course_second : Int32} {p1_trial_course_thrown : Int32} {p1_acts_kept : Int32} {p1_acts_next : Int32} {p1_acts_halls : (Nat → Int32)} {p1_ways_groups : Int32} {p1_ways_group : (Nat → Int32)} {p1_ways_train : (Nat → Int32)} {p1_ways_best : (Nat → Int32)} {p1_ways_better : (Nat → Int32)} {p1_ways_course_first : Int32} {p1_ways_course_second : Int32} {p1_ways_course_thrown : Int32} {p1_asks_length : Int32} {p1_asks_numbers : (Nat → Int32)} {p1_images : (Nat → Int32)} {p1_imageKept : (Nat → Int32)} {p2_manyActs : Int32} {p2_status : Int32} {p2_tapeLong : Int32} {p2_fault : Int32} {p2_winner : Int32} {p2_throwsOf : Int32} {p2_handA : Int32} {p2_handB : Int32} {p2_fewestSo : Int32} {p2_traced : Int32} {p2_now : (Nat → Int32)} {p2_kept : (Nat → Int32)} {p2_isKept : (Nat → Int32)} {p2_acts : (Nat → Int32)} {p2_was : (Nat → Int32)} {p2_lanes : (Nat → Int32)} {p2_longs : (Nat → Int32)} {p2_isThere : (Nat → Int32)} {p2_items : (Nat → Int32)} {p2_copied : (Nat → Int32)} {p2_tape : (Nat → Int32)} {p2_readSorts : (Nat → Int32)} {p2_readHands : (Nat → Int32)} {p2_inTurn : (Nat → Int32)} {p2_ends : (Nat → Int32)} {p2_bestHands : (Nat → Int32)} {p2_traces : (Nat → Int32)} (hc : c + 6 ≤ L) (hL : L ≤ 384) (hs : xs (nI c).toNatClampNeg &&& 31 = 0) (h : REL p1_latestFault p1_latestFinding p1_rows_lane p1_rows_size p1_rows_items p1_tape_length p1_tape_bytes p1_now_players p1_now_round p1_now_time p1_now_kind p1_now_hand p1_now_leader p1_trial_kind p1_trial_hand p1_trial_leader p1_acts_kept p1_acts_next p1_acts_halls p1_asks_length p1_asks_numbers p1_images p1_imageKept p2_manyActs p2_status p2_tapeLong p2_fault p2_traced p2_now p2_kept p2_isKept p2_acts p2_lanes p2_longs p2_isThere p2_items p2_tape p2_traces) (ih : LIH L xs m c) : o_L_law 7000 L xs (m + 1) a_p1_ways_best a_p1_ways_better p1_latestFault p1_latestFinding p1_rows_lane p1_rows_size p1_rows_items p1_tape_length p1_tape_bytes p1_reader_value p1_now_players p1_now_round p1_now_time p1_now_kind p1_now_hand p1_now_leader p1_now_course_first p1_now_course_second p1_now_course_thrown p1_trial_players p1_trial_round p1_trial_time p1_trial_kind p1_trial_hand p1_trial_leader p1_trial_course_first p1_trial_course_second p1_trial_course_thrown p1_acts_kept p1_acts_next p1_acts_halls p1_ways_groups p1_ways_group p1_ways_train p1_ways_best p1_ways_better p1_ways_course_first p1_ways_course_second p1_ways_course_thrown p1_asks_length p1_asks_numbers p1_images p1_imageKept p2_manyActs p2_status p2_tapeLong p2_fault p2_winner p2_throwsOf p2_handA p2_handB p2_fewestSo p2_traced p2_now p2_kept p2_isKept p2_acts p2_was p2_lanes p2_longs p2_isThere p2_items p2_copied p2_tape p2_readSorts p2_readHands p2_inTurn p2_ends p2_bestHands p2_traces (nI c) = some 1 := by
  have ne : ∀ j : Int32, ¬ (0 : Int32) = j → ¬ xs (nI c).toNatClampNeg &&& 31 = j := fun j z q => z (by rw [← hs]; exact q)
  obtain ⟨r, fs', la', sz', it', ln', lg', th', im', g1, g2, g3⟩ := s_row (N := 7000) (st := fun _ => 0) (fs := p1_latestFinding) (a := (xs (nI c + 1).toNatClampNeg)) (b := (xs (nI c + 2).toNatClampNeg)) (c := (xs (nI c + 3).toNatClampNeg)) (by omega) h.hrr
  rw [o_L_law]
  refine (if_neg (li_g hc hL)).trans ?_
  refine (ogd_t (li_0 hc hL)).trans ?_
  refine (if_pos hs).trans ?_
  refine (ogd_t (li_ok (i := 1) hc hL (by omega))).trans ?_
  refine (ogd_t (li_ok (i := 2) hc hL (by omega))).trans ?_
  refine (ogd_t (li_ok (i := 3) hc hL (by omega))).trans ?_
  rw [g1, Option.bind_some]
  refine (ogd_t (li_ok (i := 1) hc hL (by omega))).trans ?_
  refine (ogd_t (li_ok (i := 2) hc hL (by omega))).trans ?_
  refine (ogd_t (li_ok (i := 3) hc hL (by omega))).trans ?_
  rw [show p2_status = p1_latestFinding from h.hst.symm, g2, Option.bind_some]
  refine (if_pos ?_).trans ?_
  · rfl
  · exact ih _ _ _ _ _ _ _ _ _ _ _ _ _ _ _ _ _ _ _ _ _ _ _ _ _ _ _ _ _ _ _ _ _ _ _ _ _ _ _ _ _ _ _ _ _ _ _ _ _ _ _ _ _ _ _ _ _ _ _ _ _ _ _ _ _ _ _ _ _ _ ⟨h.hfl, rfl, g3, h.htr, h.hh, h.htb, h.har, h.hir, h.htc⟩
theorem law_op_1 {L m c : Nat} {xs : Nat → Int32} {a_p1_ways_best : Nat} {a_p1_ways_better : Nat} {p1_latestFault : Int32} {p1_latestFinding : Int32} {p1_rows_lane : (Nat → Int32)} {p1_rows_size : (Nat → Int32)} {p1_rows_items : (Nat → Int32)} {p1_tape_length : Int32} {p1_tape_bytes : (Nat → Int32)} {p1_reader_value : Int32} {p1_now_players : Int32} {p1_now_round : Int32} {p1_now_time : Int32} {p1_now_kind : (Nat → Int32)} {p1_now_hand : (Nat → Int32)} {p1_now_leader : (Nat → Int32)} {p1_now_course_first : Int32} {p1_now_course_second : Int32} {p1_now_course_thrown : Int32} {p1_trial_players : Int32} {p1_trial_round : Int32} {p1_trial_time : Int32} {p1_trial_kind : (Nat → Int32)} {p1_trial_hand : (Nat → Int32)} {p1_trial_leader : (Nat → Int32)} {p1_trial_course_first : Int32} {p1_trial_course_second : Int32} {p1_trial_course_thrown : Int32} {p1_acts_kept : Int32} {p1_acts_next : Int32} {p1_acts_halls : (Nat → Int32)} {p1_ways_groups : Int32} {p1_ways_group : (Nat → Int32)} {p1_ways_train : (Nat → Int32)} {p1_ways_best : (Nat → Int32)} {p1_ways_better : (Nat → Int32)} {p1_ways_course_first : Int32} {p1_ways_course_second : Int32} {p1_ways_course_thrown : Int32} {p1_asks_length : Int32} {p1_asks_numbers : (Nat → Int32)} {p1_images : (Nat → Int32)} {p1_imageKept : (Nat → Int32)} {p2_manyActs : Int32} {p2_status : Int32} {p2_tapeLong : Int32} {p2_fault : Int32} {p2_winner : Int32} {p2_throwsOf : Int32} {p2_handA : Int32} {p2_handB : Int32} {p2_fewestSo : Int32} {p2_traced : Int32} {p2_now : (Nat → Int32)} {p2_kept : (Nat → Int32)} {p2_isKept : (Nat → Int32)} {p2_acts : (Nat → Int32)} {p2_was : (Nat → Int32)} {p2_lanes : (Nat → Int32)} {p2_longs : (Nat → Int32)} {p2_isThere : (Nat → Int32)} {p2_items : (Nat → Int32)} {p2_copied : (Nat → Int32)} {p2_tape : (Nat → Int32)} {p2_readSorts : (Nat → Int32)} {p2_readHands : (Nat → Int32)} {p2_inTurn : (Nat → Int32)} {p2_ends : (Nat → Int32)} {p2_bestHands : (Nat → Int32)} {p2_traces : (Nat → Int32)} (hc : c + 6 ≤ L) (hL : L ≤ 384) (hs : xs (nI c).toNatClampNeg &&& 31 = 1) (h : REL p1_latestFault p1_latestFinding p1_rows_lane p1_rows_size p1_rows_items p1_tape_length p1_tape_bytes p1_now_players p1_now_round p1_now_time p1_now_kind p1_now_hand p1_now_leader p1_trial_kind p1_trial_hand p1_trial_leader p1_acts_kept p1_acts_next p1_acts_halls p1_asks_length p1_asks_numbers p1_images p1_imageKept p2_manyActs p2_status p2_tapeLong p2_fault p2_traced p2_now p2_kept p2_isKept p2_acts p2_lanes p2_longs p2_isThere p2_items p2_tape p2_traces) (ih : LIH L xs m c) : o_L_law 7000 L xs (m + 1) a_p1_ways_best a_p1_ways_better p1_latestFault p1_latestFinding p1_rows_lane p1_rows_size p1_rows_items p1_tape_length p1_tape_bytes p1_reader_value p1_now_players p1_now_round p1_now_time p1_now_kind p1_now_hand p1_now_leader p1_now_course_first p1_now_course_second p1_now_course_thrown p1_trial_players p1_trial_round p1_trial_time p1_trial_kind p1_trial_hand p1_trial_leader p1_trial_course_first p1_trial_course_second p1_trial_course_thrown p1_acts_kept p1_acts_next p1_acts_halls p1_ways_groups p1_ways_group p1_ways_train p1_ways_best p1_ways_better p1_ways_course_first p1_ways_course_second p1_ways_course_thrown p1_asks_length p1_asks_numbers p1_images p1_imageKept p2_manyActs p2_status p2_tapeLong p2_fault p2_winner p2_throwsOf p2_handA p2_handB p2_fewestSo p2_traced p2_now p2_kept p2_isKept p2_acts p2_was p2_lanes p2_longs p2_isThere p2_items p2_copied p2_tape p2_readSorts p2_readHands p2_inTurn p2_ends p2_bestHands p2_traces (nI c) = some 1 := by
  have ne : ∀ j : Int32, ¬ (1 : Int32) = j → ¬ xs (nI c).toNatClampNeg &&& 31 = j := fun j z q => z (by rw [← hs]; exact q)
  obtain ⟨r, fs', it', im', g1, g2, g3⟩ := s_set (N := 7000) (fs := p1_latestFinding) (a := (xs (nI c + 1).toNatClampNeg)) (b := (xs (nI c + 2).toNatClampNeg)) (c := (xs (nI c + 3).toNatClampNeg)) h.hrr
  rw [o_L_law]
  refine (if_neg (li_g hc hL)).trans ?_
  refine (ogd_t (li_0 hc hL)).trans ?_
  refine (if_neg (ne 0 (by decide))).trans ?_
  refine (if_pos hs).trans ?_
  refine (ogd_t (li_ok (i := 1) hc hL (by omega))).trans ?_
  refine (ogd_t (li_ok (i := 2) hc hL (by omega))).trans ?_
  refine (ogd_t (li_ok (i := 3) hc hL (by omega))).trans ?_
  rw [g1, Option.bind_some]
  refine (ogd_t (li_ok (i := 1) hc hL (by omega))).trans ?_
  refine (ogd_t (li_ok (i := 2) hc hL (by omega))).trans ?_
  refine (ogd_t (li_ok (i := 3) hc hL (by omega))).trans ?_
  rw [show p2_status = p1_latestFinding from h.hst.symm, g2, Option.bind_some]
  refine (if_pos ?_).trans ?_
  · rfl
  · exact ih _ _ _ _ _ _ _ _ _ _ _ _ _ _ _ _ _ _ _ _ _ _ _ _ _ _ _ _ _ _ _ _ _ _ _ _ _ _ _ _ _ _ _ _ _ _ _ _ _ _ _ _ _ _ _ _ _ _ _ _ _ _ _ _ _ _ _ _ _ _ ⟨h.hfl, rfl, g3, h.htr, h.hh, h.htb, h.har, h.hir, h.htc⟩
theorem law_op_2 {L m c : Nat} {xs : Nat → Int32} {a_p1_ways_best : Nat} {a_p1_ways_better : Nat} {p1_latestFault : Int32} {p1_latestFinding : Int32} {p1_rows_lane : (Nat → Int32)} {p1_rows_size : (Nat → Int32)} {p1_rows_items : (Nat → Int32)} {p1_tape_length : Int32} {p1_tape_bytes : (Nat → Int32)} {p1_reader_value : Int32} {p1_now_players : Int32} {p1_now_round : Int32} {p1_now_time : Int32} {p1_now_kind : (Nat → Int32)} {p1_now_hand : (Nat → Int32)} {p1_now_leader : (Nat → Int32)} {p1_now_course_first : Int32} {p1_now_course_second : Int32} {p1_now_course_thrown : Int32} {p1_trial_players : Int32} {p1_trial_round : Int32} {p1_trial_time : Int32} {p1_trial_kind : (Nat → Int32)} {p1_trial_hand : (Nat → Int32)} {p1_trial_leader : (Nat → Int32)} {p1_trial_course_first : Int32} {p1_trial_course_second : Int32} {p1_trial_course_thrown : Int32} {p1_acts_kept : Int32} {p1_acts_next : Int32} {p1_acts_halls : (Nat → Int32)} {p1_ways_groups : Int32} {p1_ways_group : (Nat → Int32)} {p1_ways_train : (Nat → Int32)} {p1_ways_best : (Nat → Int32)} {p1_ways_better : (Nat → Int32)} {p1_ways_course_first : Int32} {p1_ways_course_second : Int32} {p1_ways_course_thrown : Int32} {p1_asks_length : Int32} {p1_asks_numbers : (Nat → Int32)} {p1_images : (Nat → Int32)} {p1_imageKept : (Nat → Int32)} {p2_manyActs : Int32} {p2_status : Int32} {p2_tapeLong : Int32} {p2_fault : Int32} {p2_winner : Int32} {p2_throwsOf : Int32} {p2_handA : Int32} {p2_handB : Int32} {p2_fewestSo : Int32} {p2_traced : Int32} {p2_now : (Nat → Int32)} {p2_kept : (Nat → Int32)} {p2_isKept : (Nat → Int32)} {p2_acts : (Nat → Int32)} {p2_was : (Nat → Int32)} {p2_lanes : (Nat → Int32)} {p2_longs : (Nat → Int32)} {p2_isThere : (Nat → Int32)} {p2_items : (Nat → Int32)} {p2_copied : (Nat → Int32)} {p2_tape : (Nat → Int32)} {p2_readSorts : (Nat → Int32)} {p2_readHands : (Nat → Int32)} {p2_inTurn : (Nat → Int32)} {p2_ends : (Nat → Int32)} {p2_bestHands : (Nat → Int32)} {p2_traces : (Nat → Int32)} (hc : c + 6 ≤ L) (hL : L ≤ 384) (hs : xs (nI c).toNatClampNeg &&& 31 = 2) (h : REL p1_latestFault p1_latestFinding p1_rows_lane p1_rows_size p1_rows_items p1_tape_length p1_tape_bytes p1_now_players p1_now_round p1_now_time p1_now_kind p1_now_hand p1_now_leader p1_trial_kind p1_trial_hand p1_trial_leader p1_acts_kept p1_acts_next p1_acts_halls p1_asks_length p1_asks_numbers p1_images p1_imageKept p2_manyActs p2_status p2_tapeLong p2_fault p2_traced p2_now p2_kept p2_isKept p2_acts p2_lanes p2_longs p2_isThere p2_items p2_tape p2_traces) (ih : LIH L xs m c) : o_L_law 7000 L xs (m + 1) a_p1_ways_best a_p1_ways_better p1_latestFault p1_latestFinding p1_rows_lane p1_rows_size p1_rows_items p1_tape_length p1_tape_bytes p1_reader_value p1_now_players p1_now_round p1_now_time p1_now_kind p1_now_hand p1_now_leader p1_now_course_first p1_now_course_second p1_now_course_thrown p1_trial_players p1_trial_round p1_trial_time p1_trial_kind p1_trial_hand p1_trial_leader p1_trial_course_first p1_trial_course_second p1_trial_course_thrown p1_acts_kept p1_acts_next p1_acts_halls p1_ways_groups p1_ways_group p1_ways_train p1_ways_best p1_ways_better p1_ways_course_first p1_ways_course_second p1_ways_course_thrown p1_asks_length p1_asks_numbers p1_images p1_imageKept p2_manyActs p2_status p2_tapeLong p2_fault p2_winner p2_throwsOf p2_handA p2_handB p2_fewestSo p2_traced p2_now p2_kept p2_isKept p2_acts p2_was p2_lanes p2_longs p2_isThere p2_items p2_copied p2_tape p2_readSorts p2_readHands p2_inTurn p2_ends p2_bestHands p2_traces (nI c) = some 1 := by
  have ne : ∀ j : Int32, ¬ (2 : Int32) = j → ¬ xs (nI c).toNatClampNeg &&& 31 = j := fun j z q => z (by rw [← hs]; exact q)
  obtain ⟨r, fs', it', im', cp', g1, g2, g3⟩ := s_copy (N := 7000) (cp := p2_copied) (fs := p1_latestFinding) (a := (xs (nI c + 1).toNatClampNeg)) (i := (xs (nI c + 2).toNatClampNeg)) (b := (xs (nI c + 3).toNatClampNeg)) (j := (xs (nI c + 4).toNatClampNeg)) (n := (xs (nI c + 5).toNatClampNeg)) (by omega) h.hrr
  rw [o_L_law]
  refine (if_neg (li_g hc hL)).trans ?_
  refine (ogd_t (li_0 hc hL)).trans ?_
  refine (if_neg (ne 0 (by decide))).trans ?_
  refine (if_neg (ne 1 (by decide))).trans ?_
  refine (if_pos hs).trans ?_
  refine (ogd_t (li_ok (i := 1) hc hL (by omega))).trans ?_
  refine (ogd_t (li_ok (i := 2) hc hL (by omega))).trans ?_
  refine (ogd_t (li_ok (i := 3) hc hL (by omega))).trans ?_
  refine (ogd_t (li_ok (i := 4) hc hL (by omega))).trans ?_
  refine (ogd_t (li_ok (i := 5) hc hL (by omega))).trans ?_
  rw [g1, Option.bind_some]
  refine (ogd_t (li_ok (i := 1) hc hL (by omega))).trans ?_
  refine (ogd_t (li_ok (i := 2) hc hL (by omega))).trans ?_
  refine (ogd_t (li_ok (i := 3) hc hL (by omega))).trans ?_
  refine (ogd_t (li_ok (i := 4) hc hL (by omega))).trans ?_
  refine (ogd_t (li_ok (i := 5) hc hL (by omega))).trans ?_
  rw [show p2_status = p1_latestFinding from h.hst.symm, g2, Option.bind_some]
  refine (if_pos ?_).trans ?_
  · rfl
  · exact ih _ _ _ _ _ _ _ _ _ _ _ _ _ _ _ _ _ _ _ _ _ _ _ _ _ _ _ _ _ _ _ _ _ _ _ _ _ _ _ _ _ _ _ _ _ _ _ _ _ _ _ _ _ _ _ _ _ _ _ _ _ _ _ _ _ _ _ _ _ _ ⟨h.hfl, rfl, g3, h.htr, h.hh, h.htb, h.har, h.hir, h.htc⟩
theorem law_op_3 {L m c : Nat} {xs : Nat → Int32} {a_p1_ways_best : Nat} {a_p1_ways_better : Nat} {p1_latestFault : Int32} {p1_latestFinding : Int32} {p1_rows_lane : (Nat → Int32)} {p1_rows_size : (Nat → Int32)} {p1_rows_items : (Nat → Int32)} {p1_tape_length : Int32} {p1_tape_bytes : (Nat → Int32)} {p1_reader_value : Int32} {p1_now_players : Int32} {p1_now_round : Int32} {p1_now_time : Int32} {p1_now_kind : (Nat → Int32)} {p1_now_hand : (Nat → Int32)} {p1_now_leader : (Nat → Int32)} {p1_now_course_first : Int32} {p1_now_course_second : Int32} {p1_now_course_thrown : Int32} {p1_trial_players : Int32} {p1_trial_round : Int32} {p1_trial_time : Int32} {p1_trial_kind : (Nat → Int32)} {p1_trial_hand : (Nat → Int32)} {p1_trial_leader : (Nat → Int32)} {p1_trial_course_first : Int32} {p1_trial_course_second : Int32} {p1_trial_course_thrown : Int32} {p1_acts_kept : Int32} {p1_acts_next : Int32} {p1_acts_halls : (Nat → Int32)} {p1_ways_groups : Int32} {p1_ways_group : (Nat → Int32)} {p1_ways_train : (Nat → Int32)} {p1_ways_best : (Nat → Int32)} {p1_ways_better : (Nat → Int32)} {p1_ways_course_first : Int32} {p1_ways_course_second : Int32} {p1_ways_course_thrown : Int32} {p1_asks_length : Int32} {p1_asks_numbers : (Nat → Int32)} {p1_images : (Nat → Int32)} {p1_imageKept : (Nat → Int32)} {p2_manyActs : Int32} {p2_status : Int32} {p2_tapeLong : Int32} {p2_fault : Int32} {p2_winner : Int32} {p2_throwsOf : Int32} {p2_handA : Int32} {p2_handB : Int32} {p2_fewestSo : Int32} {p2_traced : Int32} {p2_now : (Nat → Int32)} {p2_kept : (Nat → Int32)} {p2_isKept : (Nat → Int32)} {p2_acts : (Nat → Int32)} {p2_was : (Nat → Int32)} {p2_lanes : (Nat → Int32)} {p2_longs : (Nat → Int32)} {p2_isThere : (Nat → Int32)} {p2_items : (Nat → Int32)} {p2_copied : (Nat → Int32)} {p2_tape : (Nat → Int32)} {p2_readSorts : (Nat → Int32)} {p2_readHands : (Nat → Int32)} {p2_inTurn : (Nat → Int32)} {p2_ends : (Nat → Int32)} {p2_bestHands : (Nat → Int32)} {p2_traces : (Nat → Int32)} (hc : c + 6 ≤ L) (hL : L ≤ 384) (hs : xs (nI c).toNatClampNeg &&& 31 = 3) (h : REL p1_latestFault p1_latestFinding p1_rows_lane p1_rows_size p1_rows_items p1_tape_length p1_tape_bytes p1_now_players p1_now_round p1_now_time p1_now_kind p1_now_hand p1_now_leader p1_trial_kind p1_trial_hand p1_trial_leader p1_acts_kept p1_acts_next p1_acts_halls p1_asks_length p1_asks_numbers p1_images p1_imageKept p2_manyActs p2_status p2_tapeLong p2_fault p2_traced p2_now p2_kept p2_isKept p2_acts p2_lanes p2_longs p2_isThere p2_items p2_tape p2_traces) (ih : LIH L xs m c) : o_L_law 7000 L xs (m + 1) a_p1_ways_best a_p1_ways_better p1_latestFault p1_latestFinding p1_rows_lane p1_rows_size p1_rows_items p1_tape_length p1_tape_bytes p1_reader_value p1_now_players p1_now_round p1_now_time p1_now_kind p1_now_hand p1_now_leader p1_now_course_first p1_now_course_second p1_now_course_thrown p1_trial_players p1_trial_round p1_trial_time p1_trial_kind p1_trial_hand p1_trial_leader p1_trial_course_first p1_trial_course_second p1_trial_course_thrown p1_acts_kept p1_acts_next p1_acts_halls p1_ways_groups p1_ways_group p1_ways_train p1_ways_best p1_ways_better p1_ways_course_first p1_ways_course_second p1_ways_course_thrown p1_asks_length p1_asks_numbers p1_images p1_imageKept p2_manyActs p2_status p2_tapeLong p2_fault p2_winner p2_throwsOf p2_handA p2_handB p2_fewestSo p2_traced p2_now p2_kept p2_isKept p2_acts p2_was p2_lanes p2_longs p2_isThere p2_items p2_copied p2_tape p2_readSorts p2_readHands p2_inTurn p2_ends p2_bestHands p2_traces (nI c) = some 1 := by
  have ne : ∀ j : Int32, ¬ (3 : Int32) = j → ¬ xs (nI c).toNatClampNeg &&& 31 = j := fun j z q => z (by rw [← hs]; exact q)
  obtain ⟨r, fs', la', sz', th', g1, g2, g3⟩ := s_drop (N := 7000) (fs := p1_latestFinding) (a := (xs (nI c + 1).toNatClampNeg)) h.hrr
  rw [o_L_law]
  refine (if_neg (li_g hc hL)).trans ?_
  refine (ogd_t (li_0 hc hL)).trans ?_
  refine (if_neg (ne 0 (by decide))).trans ?_
  refine (if_neg (ne 1 (by decide))).trans ?_
  refine (if_neg (ne 2 (by decide))).trans ?_
  refine (if_pos hs).trans ?_
  refine (ogd_t (li_ok (i := 1) hc hL (by omega))).trans ?_
  rw [g1, Option.bind_some]
  refine (ogd_t (li_ok (i := 1) hc hL (by omega))).trans ?_
  rw [show p2_status = p1_latestFinding from h.hst.symm, g2, Option.bind_some]
  refine (if_pos ?_).trans ?_
  · rfl
  · exact ih _ _ _ _ _ _ _ _ _ _ _ _ _ _ _ _ _ _ _ _ _ _ _ _ _ _ _ _ _ _ _ _ _ _ _ _ _ _ _ _ _ _ _ _ _ _ _ _ _ _ _ _ _ _ _ _ _ _ _ _ _ _ _ _ _ _ _ _ _ _ ⟨h.hfl, rfl, g3, h.htr, h.hh, h.htb, h.har, h.hir, h.htc⟩
theorem law_op_4 {L m c : Nat} {xs : Nat → Int32} {a_p1_ways_best : Nat} {a_p1_ways_better : Nat} {p1_latestFault : Int32} {p1_latestFinding : Int32} {p1_rows_lane : (Nat → Int32)} {p1_rows_size : (Nat → Int32)} {p1_rows_items : (Nat → Int32)} {p1_tape_length : Int32} {p1_tape_bytes : (Nat → Int32)} {p1_reader_value : Int32} {p1_now_players : Int32} {p1_now_round : Int32} {p1_now_time : Int32} {p1_now_kind : (Nat → Int32)} {p1_now_hand : (Nat → Int32)} {p1_now_leader : (Nat → Int32)} {p1_now_course_first : Int32} {p1_now_course_second : Int32} {p1_now_course_thrown : Int32} {p1_trial_players : Int32} {p1_trial_round : Int32} {p1_trial_time : Int32} {p1_trial_kind : (Nat → Int32)} {p1_trial_hand : (Nat → Int32)} {p1_trial_leader : (Nat → Int32)} {p1_trial_course_first : Int32} {p1_trial_course_second : Int32} {p1_trial_course_thrown : Int32} {p1_acts_kept : Int32} {p1_acts_next : Int32} {p1_acts_halls : (Nat → Int32)} {p1_ways_groups : Int32} {p1_ways_group : (Nat → Int32)} {p1_ways_train : (Nat → Int32)} {p1_ways_best : (Nat → Int32)} {p1_ways_better : (Nat → Int32)} {p1_ways_course_first : Int32} {p1_ways_course_second : Int32} {p1_ways_course_thrown : Int32} {p1_asks_length : Int32} {p1_asks_numbers : (Nat → Int32)} {p1_images : (Nat → Int32)} {p1_imageKept : (Nat → Int32)} {p2_manyActs : Int32} {p2_status : Int32} {p2_tapeLong : Int32} {p2_fault : Int32} {p2_winner : Int32} {p2_throwsOf : Int32} {p2_handA : Int32} {p2_handB : Int32} {p2_fewestSo : Int32} {p2_traced : Int32} {p2_now : (Nat → Int32)} {p2_kept : (Nat → Int32)} {p2_isKept : (Nat → Int32)} {p2_acts : (Nat → Int32)} {p2_was : (Nat → Int32)} {p2_lanes : (Nat → Int32)} {p2_longs : (Nat → Int32)} {p2_isThere : (Nat → Int32)} {p2_items : (Nat → Int32)} {p2_copied : (Nat → Int32)} {p2_tape : (Nat → Int32)} {p2_readSorts : (Nat → Int32)} {p2_readHands : (Nat → Int32)} {p2_inTurn : (Nat → Int32)} {p2_ends : (Nat → Int32)} {p2_bestHands : (Nat → Int32)} {p2_traces : (Nat → Int32)} (hc : c + 6 ≤ L) (hL : L ≤ 384) (hs : xs (nI c).toNatClampNeg &&& 31 = 4) (h : REL p1_latestFault p1_latestFinding p1_rows_lane p1_rows_size p1_rows_items p1_tape_length p1_tape_bytes p1_now_players p1_now_round p1_now_time p1_now_kind p1_now_hand p1_now_leader p1_trial_kind p1_trial_hand p1_trial_leader p1_acts_kept p1_acts_next p1_acts_halls p1_asks_length p1_asks_numbers p1_images p1_imageKept p2_manyActs p2_status p2_tapeLong p2_fault p2_traced p2_now p2_kept p2_isKept p2_acts p2_lanes p2_longs p2_isThere p2_items p2_tape p2_traces) (ih : LIH L xs m c) : o_L_law 7000 L xs (m + 1) a_p1_ways_best a_p1_ways_better p1_latestFault p1_latestFinding p1_rows_lane p1_rows_size p1_rows_items p1_tape_length p1_tape_bytes p1_reader_value p1_now_players p1_now_round p1_now_time p1_now_kind p1_now_hand p1_now_leader p1_now_course_first p1_now_course_second p1_now_course_thrown p1_trial_players p1_trial_round p1_trial_time p1_trial_kind p1_trial_hand p1_trial_leader p1_trial_course_first p1_trial_course_second p1_trial_course_thrown p1_acts_kept p1_acts_next p1_acts_halls p1_ways_groups p1_ways_group p1_ways_train p1_ways_best p1_ways_better p1_ways_course_first p1_ways_course_second p1_ways_course_thrown p1_asks_length p1_asks_numbers p1_images p1_imageKept p2_manyActs p2_status p2_tapeLong p2_fault p2_winner p2_throwsOf p2_handA p2_handB p2_fewestSo p2_traced p2_now p2_kept p2_isKept p2_acts p2_was p2_lanes p2_longs p2_isThere p2_items p2_copied p2_tape p2_readSorts p2_readHands p2_inTurn p2_ends p2_bestHands p2_traces (nI c) = some 1 := by
  have ne : ∀ j : Int32, ¬ (4 : Int32) = j → ¬ xs (nI c).toNatClampNeg &&& 31 = j := fun j z q => z (by rw [← hs]; exact q)
  obtain ⟨r, xl', xb', ml', mt', g1, g2, g3⟩ := s_feed (N := 7000) (L := (((Int32.toInt64 (xs (nI c + 1).toNatClampNeg)) <<< (Int32.toInt64 32 &&& 63)) ||| ((Int32.toInt64 (xs (nI c + 2).toNatClampNeg)) &&& 4294967295))) (a := (xs (nI c + 3).toNatClampNeg)) (by omega) h.htr
  rw [o_L_law]
  refine (if_neg (li_g hc hL)).trans ?_
  refine (ogd_t (li_0 hc hL)).trans ?_
  refine (if_neg (ne 0 (by decide))).trans ?_
  refine (if_neg (ne 1 (by decide))).trans ?_
  refine (if_neg (ne 2 (by decide))).trans ?_
  refine (if_neg (ne 3 (by decide))).trans ?_
  refine (if_pos hs).trans ?_
  refine (ogd_t (li_ok (i := 1) hc hL (by omega))).trans ?_
  refine (ogd_t (li_ok (i := 2) hc hL (by omega))).trans ?_
  refine (ogd_t (li_ok (i := 3) hc hL (by omega))).trans ?_
  rw [g1, Option.bind_some]
  refine (ogd_t (li_ok (i := 1) hc hL (by omega))).trans ?_
  refine (ogd_t (li_ok (i := 2) hc hL (by omega))).trans ?_
  refine (ogd_t (li_ok (i := 3) hc hL (by omega))).trans ?_
  rw [g2, Option.bind_some]
  refine (if_pos ?_).trans ?_
  · rfl
  · exact ih _ _ _ _ _ _ _ _ _ _ _ _ _ _ _ _ _ _ _ _ _ _ _ _ _ _ _ _ _ _ _ _ _ _ _ _ _ _ _ _ _ _ _ _ _ _ _ _ _ _ _ _ _ _ _ _ _ _ _ _ _ _ _ _ _ _ _ _ _ _ ⟨h.hfl, h.hst, h.hrr, g3, h.hh, h.htb, h.har, h.hir, h.htc⟩
theorem law_op_5 {L m c : Nat} {xs : Nat → Int32} {a_p1_ways_best : Nat} {a_p1_ways_better : Nat} {p1_latestFault : Int32} {p1_latestFinding : Int32} {p1_rows_lane : (Nat → Int32)} {p1_rows_size : (Nat → Int32)} {p1_rows_items : (Nat → Int32)} {p1_tape_length : Int32} {p1_tape_bytes : (Nat → Int32)} {p1_reader_value : Int32} {p1_now_players : Int32} {p1_now_round : Int32} {p1_now_time : Int32} {p1_now_kind : (Nat → Int32)} {p1_now_hand : (Nat → Int32)} {p1_now_leader : (Nat → Int32)} {p1_now_course_first : Int32} {p1_now_course_second : Int32} {p1_now_course_thrown : Int32} {p1_trial_players : Int32} {p1_trial_round : Int32} {p1_trial_time : Int32} {p1_trial_kind : (Nat → Int32)} {p1_trial_hand : (Nat → Int32)} {p1_trial_leader : (Nat → Int32)} {p1_trial_course_first : Int32} {p1_trial_course_second : Int32} {p1_trial_course_thrown : Int32} {p1_acts_kept : Int32} {p1_acts_next : Int32} {p1_acts_halls : (Nat → Int32)} {p1_ways_groups : Int32} {p1_ways_group : (Nat → Int32)} {p1_ways_train : (Nat → Int32)} {p1_ways_best : (Nat → Int32)} {p1_ways_better : (Nat → Int32)} {p1_ways_course_first : Int32} {p1_ways_course_second : Int32} {p1_ways_course_thrown : Int32} {p1_asks_length : Int32} {p1_asks_numbers : (Nat → Int32)} {p1_images : (Nat → Int32)} {p1_imageKept : (Nat → Int32)} {p2_manyActs : Int32} {p2_status : Int32} {p2_tapeLong : Int32} {p2_fault : Int32} {p2_winner : Int32} {p2_throwsOf : Int32} {p2_handA : Int32} {p2_handB : Int32} {p2_fewestSo : Int32} {p2_traced : Int32} {p2_now : (Nat → Int32)} {p2_kept : (Nat → Int32)} {p2_isKept : (Nat → Int32)} {p2_acts : (Nat → Int32)} {p2_was : (Nat → Int32)} {p2_lanes : (Nat → Int32)} {p2_longs : (Nat → Int32)} {p2_isThere : (Nat → Int32)} {p2_items : (Nat → Int32)} {p2_copied : (Nat → Int32)} {p2_tape : (Nat → Int32)} {p2_readSorts : (Nat → Int32)} {p2_readHands : (Nat → Int32)} {p2_inTurn : (Nat → Int32)} {p2_ends : (Nat → Int32)} {p2_bestHands : (Nat → Int32)} {p2_traces : (Nat → Int32)} (hc : c + 6 ≤ L) (hL : L ≤ 384) (hs : xs (nI c).toNatClampNeg &&& 31 = 5) (h : REL p1_latestFault p1_latestFinding p1_rows_lane p1_rows_size p1_rows_items p1_tape_length p1_tape_bytes p1_now_players p1_now_round p1_now_time p1_now_kind p1_now_hand p1_now_leader p1_trial_kind p1_trial_hand p1_trial_leader p1_acts_kept p1_acts_next p1_acts_halls p1_asks_length p1_asks_numbers p1_images p1_imageKept p2_manyActs p2_status p2_tapeLong p2_fault p2_traced p2_now p2_kept p2_isKept p2_acts p2_lanes p2_longs p2_isThere p2_items p2_tape p2_traces) (ih : LIH L xs m c) : o_L_law 7000 L xs (m + 1) a_p1_ways_best a_p1_ways_better p1_latestFault p1_latestFinding p1_rows_lane p1_rows_size p1_rows_items p1_tape_length p1_tape_bytes p1_reader_value p1_now_players p1_now_round p1_now_time p1_now_kind p1_now_hand p1_now_leader p1_now_course_first p1_now_course_second p1_now_course_thrown p1_trial_players p1_trial_round p1_trial_time p1_trial_kind p1_trial_hand p1_trial_leader p1_trial_course_first p1_trial_course_second p1_trial_course_thrown p1_acts_kept p1_acts_next p1_acts_halls p1_ways_groups p1_ways_group p1_ways_train p1_ways_best p1_ways_better p1_ways_course_first p1_ways_course_second p1_ways_course_thrown p1_asks_length p1_asks_numbers p1_images p1_imageKept p2_manyActs p2_status p2_tapeLong p2_fault p2_winner p2_throwsOf p2_handA p2_handB p2_fewestSo p2_traced p2_now p2_kept p2_isKept p2_acts p2_was p2_lanes p2_longs p2_isThere p2_items p2_copied p2_tape p2_readSorts p2_readHands p2_inTurn p2_ends p2_bestHands p2_traces (nI c) = some 1 := by
  have ne : ∀ j : Int32, ¬ (5 : Int32) = j → ¬ xs (nI c).toNatClampNeg &&& 31 = j := fun j z q => z (by rw [← hs]; exact q)
  obtain ⟨r, fl', X1, X2, X3, X4, xp', R', T', K', D', L', tp', tR', tT', tK', tD', tL', xk', Y1, Y2, Y3, Y4, w', S', H', g1, g2, g3, g4, g5⟩ := s_hall (N := 7000) (fl := p1_latestFault) (rv := p1_reader_value) (tp := 0) (tR := 0) (tT := 0) (S := p2_readSorts) (H := p2_readHands) (by omega) h.htr h.har h.htb h.hh
  rw [o_L_law]
  refine (if_neg (li_g hc hL)).trans ?_
  refine (ogd_t (li_0 hc hL)).trans ?_
  refine (if_neg (ne 0 (by decide))).trans ?_
  refine (if_neg (ne 1 (by decide))).trans ?_
  refine (if_neg (ne 2 (by decide))).trans ?_
  refine (if_neg (ne 3 (by decide))).trans ?_
  refine (if_neg (ne 4 (by decide))).trans ?_
  refine (if_pos hs).trans ?_
  rw [g1, Option.bind_some]
  rw [show p2_fault = p1_latestFault from h.hfl.symm, g2, Option.bind_some]
  refine (if_pos ?_).trans ?_
  · rfl
  · exact ih _ _ _ _ _ _ _ _ _ _ _ _ _ _ _ _ _ _ _ _ _ _ _ _ _ _ _ _ _ _ _ _ _ _ _ _ _ _ _ _ _ _ _ _ _ _ _ _ _ _ _ _ _ _ _ _ _ _ _ _ _ _ _ _ _ _ _ _ _ _ ⟨rfl, h.hst, h.hrr, ⟨0, by omega, rfl, rfl, fun i hi => by omega⟩, g4, g5, g3, h.hir, h.htc⟩
theorem law_op_6 {L m c : Nat} {xs : Nat → Int32} {a_p1_ways_best : Nat} {a_p1_ways_better : Nat} {p1_latestFault : Int32} {p1_latestFinding : Int32} {p1_rows_lane : (Nat → Int32)} {p1_rows_size : (Nat → Int32)} {p1_rows_items : (Nat → Int32)} {p1_tape_length : Int32} {p1_tape_bytes : (Nat → Int32)} {p1_reader_value : Int32} {p1_now_players : Int32} {p1_now_round : Int32} {p1_now_time : Int32} {p1_now_kind : (Nat → Int32)} {p1_now_hand : (Nat → Int32)} {p1_now_leader : (Nat → Int32)} {p1_now_course_first : Int32} {p1_now_course_second : Int32} {p1_now_course_thrown : Int32} {p1_trial_players : Int32} {p1_trial_round : Int32} {p1_trial_time : Int32} {p1_trial_kind : (Nat → Int32)} {p1_trial_hand : (Nat → Int32)} {p1_trial_leader : (Nat → Int32)} {p1_trial_course_first : Int32} {p1_trial_course_second : Int32} {p1_trial_course_thrown : Int32} {p1_acts_kept : Int32} {p1_acts_next : Int32} {p1_acts_halls : (Nat → Int32)} {p1_ways_groups : Int32} {p1_ways_group : (Nat → Int32)} {p1_ways_train : (Nat → Int32)} {p1_ways_best : (Nat → Int32)} {p1_ways_better : (Nat → Int32)} {p1_ways_course_first : Int32} {p1_ways_course_second : Int32} {p1_ways_course_thrown : Int32} {p1_asks_length : Int32} {p1_asks_numbers : (Nat → Int32)} {p1_images : (Nat → Int32)} {p1_imageKept : (Nat → Int32)} {p2_manyActs : Int32} {p2_status : Int32} {p2_tapeLong : Int32} {p2_fault : Int32} {p2_winner : Int32} {p2_throwsOf : Int32} {p2_handA : Int32} {p2_handB : Int32} {p2_fewestSo : Int32} {p2_traced : Int32} {p2_now : (Nat → Int32)} {p2_kept : (Nat → Int32)} {p2_isKept : (Nat → Int32)} {p2_acts : (Nat → Int32)} {p2_was : (Nat → Int32)} {p2_lanes : (Nat → Int32)} {p2_longs : (Nat → Int32)} {p2_isThere : (Nat → Int32)} {p2_items : (Nat → Int32)} {p2_copied : (Nat → Int32)} {p2_tape : (Nat → Int32)} {p2_readSorts : (Nat → Int32)} {p2_readHands : (Nat → Int32)} {p2_inTurn : (Nat → Int32)} {p2_ends : (Nat → Int32)} {p2_bestHands : (Nat → Int32)} {p2_traces : (Nat → Int32)} (hc : c + 6 ≤ L) (hL : L ≤ 384) (hs : xs (nI c).toNatClampNeg &&& 31 = 6) (h : REL p1_latestFault p1_latestFinding p1_rows_lane p1_rows_size p1_rows_items p1_tape_length p1_tape_bytes p1_now_players p1_now_round p1_now_time p1_now_kind p1_now_hand p1_now_leader p1_trial_kind p1_trial_hand p1_trial_leader p1_acts_kept p1_acts_next p1_acts_halls p1_asks_length p1_asks_numbers p1_images p1_imageKept p2_manyActs p2_status p2_tapeLong p2_fault p2_traced p2_now p2_kept p2_isKept p2_acts p2_lanes p2_longs p2_isThere p2_items p2_tape p2_traces) (ih : LIH L xs m c) : o_L_law 7000 L xs (m + 1) a_p1_ways_best a_p1_ways_better p1_latestFault p1_latestFinding p1_rows_lane p1_rows_size p1_rows_items p1_tape_length p1_tape_bytes p1_reader_value p1_now_players p1_now_round p1_now_time p1_now_kind p1_now_hand p1_now_leader p1_now_course_first p1_now_course_second p1_now_course_thrown p1_trial_players p1_trial_round p1_trial_time p1_trial_kind p1_trial_hand p1_trial_leader p1_trial_course_first p1_trial_course_second p1_trial_course_thrown p1_acts_kept p1_acts_next p1_acts_halls p1_ways_groups p1_ways_group p1_ways_train p1_ways_best p1_ways_better p1_ways_course_first p1_ways_course_second p1_ways_course_thrown p1_asks_length p1_asks_numbers p1_images p1_imageKept p2_manyActs p2_status p2_tapeLong p2_fault p2_winner p2_throwsOf p2_handA p2_handB p2_fewestSo p2_traced p2_now p2_kept p2_isKept p2_acts p2_was p2_lanes p2_longs p2_isThere p2_items p2_copied p2_tape p2_readSorts p2_readHands p2_inTurn p2_ends p2_bestHands p2_traces (nI c) = some 1 := by
  have ne : ∀ j : Int32, ¬ (6 : Int32) = j → ¬ xs (nI c).toNatClampNeg &&& 31 = j := fun j z q => z (by rw [← hs]; exact q)
  rw [o_L_law]
  refine (if_neg (li_g hc hL)).trans ?_
  refine (ogd_t (li_0 hc hL)).trans ?_
  refine (if_neg (ne 0 (by decide))).trans ?_
  refine (if_neg (ne 1 (by decide))).trans ?_
  refine (if_neg (ne 2 (by decide))).trans ?_
  refine (if_neg (ne 3 (by decide))).trans ?_
  refine (if_neg (ne 4 (by decide))).trans ?_
  refine (if_neg (ne 5 (by decide))).trans ?_
  refine (if_pos hs).trans ?_
  rw [o_X8_fault, o_X9_fault, Option.bind_some, Option.bind_some]
  refine (if_pos h.hfl).trans ?_
  exact ih _ _ _ _ _ _ _ _ _ _ _ _ _ _ _ _ _ _ _ _ _ _ _ _ _ _ _ _ _ _ _ _ _ _ _ _ _ _ _ _ _ _ _ _ _ _ _ _ _ _ _ _ _ _ _ _ _ _ _ _ _ _ _ _ _ _ _ _ _ _ ⟨h.hfl, h.hst, h.hrr, h.htr, h.hh, h.htb, h.har, h.hir, h.htc⟩
theorem law_op_7 {L m c : Nat} {xs : Nat → Int32} {a_p1_ways_best : Nat} {a_p1_ways_better : Nat} {p1_latestFault : Int32} {p1_latestFinding : Int32} {p1_rows_lane : (Nat → Int32)} {p1_rows_size : (Nat → Int32)} {p1_rows_items : (Nat → Int32)} {p1_tape_length : Int32} {p1_tape_bytes : (Nat → Int32)} {p1_reader_value : Int32} {p1_now_players : Int32} {p1_now_round : Int32} {p1_now_time : Int32} {p1_now_kind : (Nat → Int32)} {p1_now_hand : (Nat → Int32)} {p1_now_leader : (Nat → Int32)} {p1_now_course_first : Int32} {p1_now_course_second : Int32} {p1_now_course_thrown : Int32} {p1_trial_players : Int32} {p1_trial_round : Int32} {p1_trial_time : Int32} {p1_trial_kind : (Nat → Int32)} {p1_trial_hand : (Nat → Int32)} {p1_trial_leader : (Nat → Int32)} {p1_trial_course_first : Int32} {p1_trial_course_second : Int32} {p1_trial_course_thrown : Int32} {p1_acts_kept : Int32} {p1_acts_next : Int32} {p1_acts_halls : (Nat → Int32)} {p1_ways_groups : Int32} {p1_ways_group : (Nat → Int32)} {p1_ways_train : (Nat → Int32)} {p1_ways_best : (Nat → Int32)} {p1_ways_better : (Nat → Int32)} {p1_ways_course_first : Int32} {p1_ways_course_second : Int32} {p1_ways_course_thrown : Int32} {p1_asks_length : Int32} {p1_asks_numbers : (Nat → Int32)} {p1_images : (Nat → Int32)} {p1_imageKept : (Nat → Int32)} {p2_manyActs : Int32} {p2_status : Int32} {p2_tapeLong : Int32} {p2_fault : Int32} {p2_winner : Int32} {p2_throwsOf : Int32} {p2_handA : Int32} {p2_handB : Int32} {p2_fewestSo : Int32} {p2_traced : Int32} {p2_now : (Nat → Int32)} {p2_kept : (Nat → Int32)} {p2_isKept : (Nat → Int32)} {p2_acts : (Nat → Int32)} {p2_was : (Nat → Int32)} {p2_lanes : (Nat → Int32)} {p2_longs : (Nat → Int32)} {p2_isThere : (Nat → Int32)} {p2_items : (Nat → Int32)} {p2_copied : (Nat → Int32)} {p2_tape : (Nat → Int32)} {p2_readSorts : (Nat → Int32)} {p2_readHands : (Nat → Int32)} {p2_inTurn : (Nat → Int32)} {p2_ends : (Nat → Int32)} {p2_bestHands : (Nat → Int32)} {p2_traces : (Nat → Int32)} (hc : c + 6 ≤ L) (hL : L ≤ 384) (hs : xs (nI c).toNatClampNeg &&& 31 = 7) (h : REL p1_latestFault p1_latestFinding p1_rows_lane p1_rows_size p1_rows_items p1_tape_length p1_tape_bytes p1_now_players p1_now_round p1_now_time p1_now_kind p1_now_hand p1_now_leader p1_trial_kind p1_trial_hand p1_trial_leader p1_acts_kept p1_acts_next p1_acts_halls p1_asks_length p1_asks_numbers p1_images p1_imageKept p2_manyActs p2_status p2_tapeLong p2_fault p2_traced p2_now p2_kept p2_isKept p2_acts p2_lanes p2_longs p2_isThere p2_items p2_tape p2_traces) (ih : LIH L xs m c) : o_L_law 7000 L xs (m + 1) a_p1_ways_best a_p1_ways_better p1_latestFault p1_latestFinding p1_rows_lane p1_rows_size p1_rows_items p1_tape_length p1_tape_bytes p1_reader_value p1_now_players p1_now_round p1_now_time p1_now_kind p1_now_hand p1_now_leader p1_now_course_first p1_now_course_second p1_now_course_thrown p1_trial_players p1_trial_round p1_trial_time p1_trial_kind p1_trial_hand p1_trial_leader p1_trial_course_first p1_trial_course_second p1_trial_course_thrown p1_acts_kept p1_acts_next p1_acts_halls p1_ways_groups p1_ways_group p1_ways_train p1_ways_best p1_ways_better p1_ways_course_first p1_ways_course_second p1_ways_course_thrown p1_asks_length p1_asks_numbers p1_images p1_imageKept p2_manyActs p2_status p2_tapeLong p2_fault p2_winner p2_throwsOf p2_handA p2_handB p2_fewestSo p2_traced p2_now p2_kept p2_isKept p2_acts p2_was p2_lanes p2_longs p2_isThere p2_items p2_copied p2_tape p2_readSorts p2_readHands p2_inTurn p2_ends p2_bestHands p2_traces (nI c) = some 1 := by
  have ne : ∀ j : Int32, ¬ (7 : Int32) = j → ¬ xs (nI c).toNatClampNeg &&& 31 = j := fun j z q => z (by rw [← hs]; exact q)
  obtain ⟨r, T', D', L', c1', c2', c3', xk', xn', A', t1', t2', t3', t4', w', B', g1, g2, g3, g4⟩ := s_bout (N := 7000) (c1 := p1_now_course_first) (c2 := p1_now_course_second) (c3 := p1_now_course_thrown) (t1 := p2_winner) (t2 := p2_throwsOf) (t3 := p2_handA) (t4 := p2_handB) (x := (xs (nI c + 1).toNatClampNeg)) (y := (xs (nI c + 2).toNatClampNeg)) (by omega) h.har h.hh
  rw [o_L_law]
  refine (if_neg (li_g hc hL)).trans ?_
  refine (ogd_t (li_0 hc hL)).trans ?_
  refine (if_neg (ne 0 (by decide))).trans ?_
  refine (if_neg (ne 1 (by decide))).trans ?_
  refine (if_neg (ne 2 (by decide))).trans ?_
  refine (if_neg (ne 3 (by decide))).trans ?_
  refine (if_neg (ne 4 (by decide))).trans ?_
  refine (if_neg (ne 5 (by decide))).trans ?_
  refine (if_neg (ne 6 (by decide))).trans ?_
  refine (if_pos hs).trans ?_
  refine (ogd_t (li_ok (i := 1) hc hL (by omega))).trans ?_
  refine (ogd_t (li_ok (i := 2) hc hL (by omega))).trans ?_
  rw [g1, Option.bind_some]
  refine (ogd_t (li_ok (i := 1) hc hL (by omega))).trans ?_
  refine (ogd_t (li_ok (i := 2) hc hL (by omega))).trans ?_
  rw [g2, Option.bind_some]
  refine (if_pos ?_).trans ?_
  · rfl
  · exact ih _ _ _ _ _ _ _ _ _ _ _ _ _ _ _ _ _ _ _ _ _ _ _ _ _ _ _ _ _ _ _ _ _ _ _ _ _ _ _ _ _ _ _ _ _ _ _ _ _ _ _ _ _ _ _ _ _ _ _ _ _ _ _ _ _ _ _ _ _ _ ⟨h.hfl, h.hst, h.hrr, h.htr, g4, h.htb, g3, h.hir, h.htc⟩
theorem law_op_8 {L m c : Nat} {xs : Nat → Int32} {a_p1_ways_best : Nat} {a_p1_ways_better : Nat} {p1_latestFault : Int32} {p1_latestFinding : Int32} {p1_rows_lane : (Nat → Int32)} {p1_rows_size : (Nat → Int32)} {p1_rows_items : (Nat → Int32)} {p1_tape_length : Int32} {p1_tape_bytes : (Nat → Int32)} {p1_reader_value : Int32} {p1_now_players : Int32} {p1_now_round : Int32} {p1_now_time : Int32} {p1_now_kind : (Nat → Int32)} {p1_now_hand : (Nat → Int32)} {p1_now_leader : (Nat → Int32)} {p1_now_course_first : Int32} {p1_now_course_second : Int32} {p1_now_course_thrown : Int32} {p1_trial_players : Int32} {p1_trial_round : Int32} {p1_trial_time : Int32} {p1_trial_kind : (Nat → Int32)} {p1_trial_hand : (Nat → Int32)} {p1_trial_leader : (Nat → Int32)} {p1_trial_course_first : Int32} {p1_trial_course_second : Int32} {p1_trial_course_thrown : Int32} {p1_acts_kept : Int32} {p1_acts_next : Int32} {p1_acts_halls : (Nat → Int32)} {p1_ways_groups : Int32} {p1_ways_group : (Nat → Int32)} {p1_ways_train : (Nat → Int32)} {p1_ways_best : (Nat → Int32)} {p1_ways_better : (Nat → Int32)} {p1_ways_course_first : Int32} {p1_ways_course_second : Int32} {p1_ways_course_thrown : Int32} {p1_asks_length : Int32} {p1_asks_numbers : (Nat → Int32)} {p1_images : (Nat → Int32)} {p1_imageKept : (Nat → Int32)} {p2_manyActs : Int32} {p2_status : Int32} {p2_tapeLong : Int32} {p2_fault : Int32} {p2_winner : Int32} {p2_throwsOf : Int32} {p2_handA : Int32} {p2_handB : Int32} {p2_fewestSo : Int32} {p2_traced : Int32} {p2_now : (Nat → Int32)} {p2_kept : (Nat → Int32)} {p2_isKept : (Nat → Int32)} {p2_acts : (Nat → Int32)} {p2_was : (Nat → Int32)} {p2_lanes : (Nat → Int32)} {p2_longs : (Nat → Int32)} {p2_isThere : (Nat → Int32)} {p2_items : (Nat → Int32)} {p2_copied : (Nat → Int32)} {p2_tape : (Nat → Int32)} {p2_readSorts : (Nat → Int32)} {p2_readHands : (Nat → Int32)} {p2_inTurn : (Nat → Int32)} {p2_ends : (Nat → Int32)} {p2_bestHands : (Nat → Int32)} {p2_traces : (Nat → Int32)} (hc : c + 6 ≤ L) (hL : L ≤ 384) (hs : xs (nI c).toNatClampNeg &&& 31 = 8) (h : REL p1_latestFault p1_latestFinding p1_rows_lane p1_rows_size p1_rows_items p1_tape_length p1_tape_bytes p1_now_players p1_now_round p1_now_time p1_now_kind p1_now_hand p1_now_leader p1_trial_kind p1_trial_hand p1_trial_leader p1_acts_kept p1_acts_next p1_acts_halls p1_asks_length p1_asks_numbers p1_images p1_imageKept p2_manyActs p2_status p2_tapeLong p2_fault p2_traced p2_now p2_kept p2_isKept p2_acts p2_lanes p2_longs p2_isThere p2_items p2_tape p2_traces) (ih : LIH L xs m c) : o_L_law 7000 L xs (m + 1) a_p1_ways_best a_p1_ways_better p1_latestFault p1_latestFinding p1_rows_lane p1_rows_size p1_rows_items p1_tape_length p1_tape_bytes p1_reader_value p1_now_players p1_now_round p1_now_time p1_now_kind p1_now_hand p1_now_leader p1_now_course_first p1_now_course_second p1_now_course_thrown p1_trial_players p1_trial_round p1_trial_time p1_trial_kind p1_trial_hand p1_trial_leader p1_trial_course_first p1_trial_course_second p1_trial_course_thrown p1_acts_kept p1_acts_next p1_acts_halls p1_ways_groups p1_ways_group p1_ways_train p1_ways_best p1_ways_better p1_ways_course_first p1_ways_course_second p1_ways_course_thrown p1_asks_length p1_asks_numbers p1_images p1_imageKept p2_manyActs p2_status p2_tapeLong p2_fault p2_winner p2_throwsOf p2_handA p2_handB p2_fewestSo p2_traced p2_now p2_kept p2_isKept p2_acts p2_was p2_lanes p2_longs p2_isThere p2_items p2_copied p2_tape p2_readSorts p2_readHands p2_inTurn p2_ends p2_bestHands p2_traces (nI c) = some 1 := by
  have ne : ∀ j : Int32, ¬ (8 : Int32) = j → ¬ xs (nI c).toNatClampNeg &&& 31 = j := fun j z q => z (by rw [← hs]; exact q)
  obtain ⟨r, R', T', D', L', c1', c2', c3', xk', xn', A', t1', t2', t3', t4', w', B', I', E', g1, g2, g3, g4⟩ := s_round (N := 7000) (c1 := p1_now_course_first) (c2 := p1_now_course_second) (c3 := p1_now_course_thrown) (t1 := p2_winner) (t2 := p2_throwsOf) (t3 := p2_handA) (t4 := p2_handB) (I := p2_inTurn) (E := p2_ends) (by omega) h.har h.hh
  rw [o_L_law]
  refine (if_neg (li_g hc hL)).trans ?_
  refine (ogd_t (li_0 hc hL)).trans ?_
  refine (if_neg (ne 0 (by decide))).trans ?_
  refine (if_neg (ne 1 (by decide))).trans ?_
  refine (if_neg (ne 2 (by decide))).trans ?_
  refine (if_neg (ne 3 (by decide))).trans ?_
  refine (if_neg (ne 4 (by decide))).trans ?_
  refine (if_neg (ne 5 (by decide))).trans ?_
  refine (if_neg (ne 6 (by decide))).trans ?_
  refine (if_neg (ne 7 (by decide))).trans ?_
  refine (if_pos hs).trans ?_
  rw [g1, Option.bind_some]
  rw [g2, Option.bind_some]
  refine (if_pos ?_).trans ?_
  · rfl
  · exact ih _ _ _ _ _ _ _ _ _ _ _ _ _ _ _ _ _ _ _ _ _ _ _ _ _ _ _ _ _ _ _ _ _ _ _ _ _ _ _ _ _ _ _ _ _ _ _ _ _ _ _ _ _ _ _ _ _ _ _ _ _ _ _ _ _ _ _ _ _ _ ⟨h.hfl, h.hst, h.hrr, h.htr, g4, h.htb, g3, h.hir, h.htc⟩
theorem law_op_9 {L m c : Nat} {xs : Nat → Int32} {a_p1_ways_best : Nat} {a_p1_ways_better : Nat} {p1_latestFault : Int32} {p1_latestFinding : Int32} {p1_rows_lane : (Nat → Int32)} {p1_rows_size : (Nat → Int32)} {p1_rows_items : (Nat → Int32)} {p1_tape_length : Int32} {p1_tape_bytes : (Nat → Int32)} {p1_reader_value : Int32} {p1_now_players : Int32} {p1_now_round : Int32} {p1_now_time : Int32} {p1_now_kind : (Nat → Int32)} {p1_now_hand : (Nat → Int32)} {p1_now_leader : (Nat → Int32)} {p1_now_course_first : Int32} {p1_now_course_second : Int32} {p1_now_course_thrown : Int32} {p1_trial_players : Int32} {p1_trial_round : Int32} {p1_trial_time : Int32} {p1_trial_kind : (Nat → Int32)} {p1_trial_hand : (Nat → Int32)} {p1_trial_leader : (Nat → Int32)} {p1_trial_course_first : Int32} {p1_trial_course_second : Int32} {p1_trial_course_thrown : Int32} {p1_acts_kept : Int32} {p1_acts_next : Int32} {p1_acts_halls : (Nat → Int32)} {p1_ways_groups : Int32} {p1_ways_group : (Nat → Int32)} {p1_ways_train : (Nat → Int32)} {p1_ways_best : (Nat → Int32)} {p1_ways_better : (Nat → Int32)} {p1_ways_course_first : Int32} {p1_ways_course_second : Int32} {p1_ways_course_thrown : Int32} {p1_asks_length : Int32} {p1_asks_numbers : (Nat → Int32)} {p1_images : (Nat → Int32)} {p1_imageKept : (Nat → Int32)} {p2_manyActs : Int32} {p2_status : Int32} {p2_tapeLong : Int32} {p2_fault : Int32} {p2_winner : Int32} {p2_throwsOf : Int32} {p2_handA : Int32} {p2_handB : Int32} {p2_fewestSo : Int32} {p2_traced : Int32} {p2_now : (Nat → Int32)} {p2_kept : (Nat → Int32)} {p2_isKept : (Nat → Int32)} {p2_acts : (Nat → Int32)} {p2_was : (Nat → Int32)} {p2_lanes : (Nat → Int32)} {p2_longs : (Nat → Int32)} {p2_isThere : (Nat → Int32)} {p2_items : (Nat → Int32)} {p2_copied : (Nat → Int32)} {p2_tape : (Nat → Int32)} {p2_readSorts : (Nat → Int32)} {p2_readHands : (Nat → Int32)} {p2_inTurn : (Nat → Int32)} {p2_ends : (Nat → Int32)} {p2_bestHands : (Nat → Int32)} {p2_traces : (Nat → Int32)} (hc : c + 6 ≤ L) (hL : L ≤ 384) (hs : xs (nI c).toNatClampNeg &&& 31 = 9) (h : REL p1_latestFault p1_latestFinding p1_rows_lane p1_rows_size p1_rows_items p1_tape_length p1_tape_bytes p1_now_players p1_now_round p1_now_time p1_now_kind p1_now_hand p1_now_leader p1_trial_kind p1_trial_hand p1_trial_leader p1_acts_kept p1_acts_next p1_acts_halls p1_asks_length p1_asks_numbers p1_images p1_imageKept p2_manyActs p2_status p2_tapeLong p2_fault p2_traced p2_now p2_kept p2_isKept p2_acts p2_lanes p2_longs p2_isThere p2_items p2_tape p2_traces) (ih : LIH L xs m c) : o_L_law 7000 L xs (m + 1) a_p1_ways_best a_p1_ways_better p1_latestFault p1_latestFinding p1_rows_lane p1_rows_size p1_rows_items p1_tape_length p1_tape_bytes p1_reader_value p1_now_players p1_now_round p1_now_time p1_now_kind p1_now_hand p1_now_leader p1_now_course_first p1_now_course_second p1_now_course_thrown p1_trial_players p1_trial_round p1_trial_time p1_trial_kind p1_trial_hand p1_trial_leader p1_trial_course_first p1_trial_course_second p1_trial_course_thrown p1_acts_kept p1_acts_next p1_acts_halls p1_ways_groups p1_ways_group p1_ways_train p1_ways_best p1_ways_better p1_ways_course_first p1_ways_course_second p1_ways_course_thrown p1_asks_length p1_asks_numbers p1_images p1_imageKept p2_manyActs p2_status p2_tapeLong p2_fault p2_winner p2_throwsOf p2_handA p2_handB p2_fewestSo p2_traced p2_now p2_kept p2_isKept p2_acts p2_was p2_lanes p2_longs p2_isThere p2_items p2_copied p2_tape p2_readSorts p2_readHands p2_inTurn p2_ends p2_bestHands p2_traces (nI c) = some 1 := by
  have ne : ∀ j : Int32, ¬ (9 : Int32) = j → ¬ xs (nI c).toNatClampNeg &&& 31 = j := fun j z q => z (by rw [← hs]; exact q)
  obtain ⟨r, D', xk', xn', A', w', B', g1, g2, g3, g4⟩ := s_hand (N := 7000) (x := (xs (nI c + 1).toNatClampNeg)) (y := (xs (nI c + 2).toNatClampNeg)) (by omega) h.har h.hh
  rw [o_L_law]
  refine (if_neg (li_g hc hL)).trans ?_
  refine (ogd_t (li_0 hc hL)).trans ?_
  refine (if_neg (ne 0 (by decide))).trans ?_
  refine (if_neg (ne 1 (by decide))).trans ?_
  refine (if_neg (ne 2 (by decide))).trans ?_
  refine (if_neg (ne 3 (by decide))).trans ?_
  refine (if_neg (ne 4 (by decide))).trans ?_
  refine (if_neg (ne 5 (by decide))).trans ?_
  refine (if_neg (ne 6 (by decide))).trans ?_
  refine (if_neg (ne 7 (by decide))).trans ?_
  refine (if_neg (ne 8 (by decide))).trans ?_
  refine (if_pos hs).trans ?_
  refine (ogd_t (li_ok (i := 1) hc hL (by omega))).trans ?_
  refine (ogd_t (li_ok (i := 2) hc hL (by omega))).trans ?_
  rw [g1, Option.bind_some]
  refine (ogd_t (li_ok (i := 1) hc hL (by omega))).trans ?_
  refine (ogd_t (li_ok (i := 2) hc hL (by omega))).trans ?_
  rw [g2, Option.bind_some]
  refine (if_pos ?_).trans ?_
  · rfl
  · exact ih _ _ _ _ _ _ _ _ _ _ _ _ _ _ _ _ _ _ _ _ _ _ _ _ _ _ _ _ _ _ _ _ _ _ _ _ _ _ _ _ _ _ _ _ _ _ _ _ _ _ _ _ _ _ _ _ _ _ _ _ _ _ _ _ _ _ _ _ _ _ ⟨h.hfl, h.hst, h.hrr, h.htr, g4, h.htb, g3, h.hir, h.htc⟩
theorem law_op_10 {L m c : Nat} {xs : Nat → Int32} {a_p1_ways_best : Nat} {a_p1_ways_better : Nat} {p1_latestFault : Int32} {p1_latestFinding : Int32} {p1_rows_lane : (Nat → Int32)} {p1_rows_size : (Nat → Int32)} {p1_rows_items : (Nat → Int32)} {p1_tape_length : Int32} {p1_tape_bytes : (Nat → Int32)} {p1_reader_value : Int32} {p1_now_players : Int32} {p1_now_round : Int32} {p1_now_time : Int32} {p1_now_kind : (Nat → Int32)} {p1_now_hand : (Nat → Int32)} {p1_now_leader : (Nat → Int32)} {p1_now_course_first : Int32} {p1_now_course_second : Int32} {p1_now_course_thrown : Int32} {p1_trial_players : Int32} {p1_trial_round : Int32} {p1_trial_time : Int32} {p1_trial_kind : (Nat → Int32)} {p1_trial_hand : (Nat → Int32)} {p1_trial_leader : (Nat → Int32)} {p1_trial_course_first : Int32} {p1_trial_course_second : Int32} {p1_trial_course_thrown : Int32} {p1_acts_kept : Int32} {p1_acts_next : Int32} {p1_acts_halls : (Nat → Int32)} {p1_ways_groups : Int32} {p1_ways_group : (Nat → Int32)} {p1_ways_train : (Nat → Int32)} {p1_ways_best : (Nat → Int32)} {p1_ways_better : (Nat → Int32)} {p1_ways_course_first : Int32} {p1_ways_course_second : Int32} {p1_ways_course_thrown : Int32} {p1_asks_length : Int32} {p1_asks_numbers : (Nat → Int32)} {p1_images : (Nat → Int32)} {p1_imageKept : (Nat → Int32)} {p2_manyActs : Int32} {p2_status : Int32} {p2_tapeLong : Int32} {p2_fault : Int32} {p2_winner : Int32} {p2_throwsOf : Int32} {p2_handA : Int32} {p2_handB : Int32} {p2_fewestSo : Int32} {p2_traced : Int32} {p2_now : (Nat → Int32)} {p2_kept : (Nat → Int32)} {p2_isKept : (Nat → Int32)} {p2_acts : (Nat → Int32)} {p2_was : (Nat → Int32)} {p2_lanes : (Nat → Int32)} {p2_longs : (Nat → Int32)} {p2_isThere : (Nat → Int32)} {p2_items : (Nat → Int32)} {p2_copied : (Nat → Int32)} {p2_tape : (Nat → Int32)} {p2_readSorts : (Nat → Int32)} {p2_readHands : (Nat → Int32)} {p2_inTurn : (Nat → Int32)} {p2_ends : (Nat → Int32)} {p2_bestHands : (Nat → Int32)} {p2_traces : (Nat → Int32)} (hc : c + 6 ≤ L) (hL : L ≤ 384) (hs : xs (nI c).toNatClampNeg &&& 31 = 10) (h : REL p1_latestFault p1_latestFinding p1_rows_lane p1_rows_size p1_rows_items p1_tape_length p1_tape_bytes p1_now_players p1_now_round p1_now_time p1_now_kind p1_now_hand p1_now_leader p1_trial_kind p1_trial_hand p1_trial_leader p1_acts_kept p1_acts_next p1_acts_halls p1_asks_length p1_asks_numbers p1_images p1_imageKept p2_manyActs p2_status p2_tapeLong p2_fault p2_traced p2_now p2_kept p2_isKept p2_acts p2_lanes p2_longs p2_isThere p2_items p2_tape p2_traces) (ih : LIH L xs m c) : o_L_law 7000 L xs (m + 1) a_p1_ways_best a_p1_ways_better p1_latestFault p1_latestFinding p1_rows_lane p1_rows_size p1_rows_items p1_tape_length p1_tape_bytes p1_reader_value p1_now_players p1_now_round p1_now_time p1_now_kind p1_now_hand p1_now_leader p1_now_course_first p1_now_course_second p1_now_course_thrown p1_trial_players p1_trial_round p1_trial_time p1_trial_kind p1_trial_hand p1_trial_leader p1_trial_course_first p1_trial_course_second p1_trial_course_thrown p1_acts_kept p1_acts_next p1_acts_halls p1_ways_groups p1_ways_group p1_ways_train p1_ways_best p1_ways_better p1_ways_course_first p1_ways_course_second p1_ways_course_thrown p1_asks_length p1_asks_numbers p1_images p1_imageKept p2_manyActs p2_status p2_tapeLong p2_fault p2_winner p2_throwsOf p2_handA p2_handB p2_fewestSo p2_traced p2_now p2_kept p2_isKept p2_acts p2_was p2_lanes p2_longs p2_isThere p2_items p2_copied p2_tape p2_readSorts p2_readHands p2_inTurn p2_ends p2_bestHands p2_traces (nI c) = some 1 := by
  have ne : ∀ j : Int32, ¬ (10 : Int32) = j → ¬ xs (nI c).toNatClampNeg &&& 31 = j := fun j z q => z (by rw [← hs]; exact q)
  obtain ⟨r, fs', D', xk', xn', A', w', B', g1, g2, g3, g4⟩ := s_hands (N := 7000) (fs := p1_latestFinding) (x := (xs (nI c + 1).toNatClampNeg)) (by omega) h.hrr h.har h.hh
  rw [o_L_law]
  refine (if_neg (li_g hc hL)).trans ?_
  refine (ogd_t (li_0 hc hL)).trans ?_
  refine (if_neg (ne 0 (by decide))).trans ?_
  refine (if_neg (ne 1 (by decide))).trans ?_
  refine (if_neg (ne 2 (by decide))).trans ?_
  refine (if_neg (ne 3 (by decide))).trans ?_
  refine (if_neg (ne 4 (by decide))).trans ?_
  refine (if_neg (ne 5 (by decide))).trans ?_
  refine (if_neg (ne 6 (by decide))).trans ?_
  refine (if_neg (ne 7 (by decide))).trans ?_
  refine (if_neg (ne 8 (by decide))).trans ?_
  refine (if_neg (ne 9 (by decide))).trans ?_
  refine (if_pos hs).trans ?_
  refine (ogd_t (li_ok (i := 1) hc hL (by omega))).trans ?_
  rw [g1, Option.bind_some]
  refine (ogd_t (li_ok (i := 1) hc hL (by omega))).trans ?_
  rw [show p2_status = p1_latestFinding from h.hst.symm, g2, Option.bind_some]
  refine (if_pos ?_).trans ?_
  · rfl
  · exact ih _ _ _ _ _ _ _ _ _ _ _ _ _ _ _ _ _ _ _ _ _ _ _ _ _ _ _ _ _ _ _ _ _ _ _ _ _ _ _ _ _ _ _ _ _ _ _ _ _ _ _ _ _ _ _ _ _ _ _ _ _ _ _ _ _ _ _ _ _ _ ⟨h.hfl, rfl, h.hrr, h.htr, g4, h.htb, g3, h.hir, h.htc⟩
theorem law_op_11 {L m c : Nat} {xs : Nat → Int32} {a_p1_ways_best : Nat} {a_p1_ways_better : Nat} {p1_latestFault : Int32} {p1_latestFinding : Int32} {p1_rows_lane : (Nat → Int32)} {p1_rows_size : (Nat → Int32)} {p1_rows_items : (Nat → Int32)} {p1_tape_length : Int32} {p1_tape_bytes : (Nat → Int32)} {p1_reader_value : Int32} {p1_now_players : Int32} {p1_now_round : Int32} {p1_now_time : Int32} {p1_now_kind : (Nat → Int32)} {p1_now_hand : (Nat → Int32)} {p1_now_leader : (Nat → Int32)} {p1_now_course_first : Int32} {p1_now_course_second : Int32} {p1_now_course_thrown : Int32} {p1_trial_players : Int32} {p1_trial_round : Int32} {p1_trial_time : Int32} {p1_trial_kind : (Nat → Int32)} {p1_trial_hand : (Nat → Int32)} {p1_trial_leader : (Nat → Int32)} {p1_trial_course_first : Int32} {p1_trial_course_second : Int32} {p1_trial_course_thrown : Int32} {p1_acts_kept : Int32} {p1_acts_next : Int32} {p1_acts_halls : (Nat → Int32)} {p1_ways_groups : Int32} {p1_ways_group : (Nat → Int32)} {p1_ways_train : (Nat → Int32)} {p1_ways_best : (Nat → Int32)} {p1_ways_better : (Nat → Int32)} {p1_ways_course_first : Int32} {p1_ways_course_second : Int32} {p1_ways_course_thrown : Int32} {p1_asks_length : Int32} {p1_asks_numbers : (Nat → Int32)} {p1_images : (Nat → Int32)} {p1_imageKept : (Nat → Int32)} {p2_manyActs : Int32} {p2_status : Int32} {p2_tapeLong : Int32} {p2_fault : Int32} {p2_winner : Int32} {p2_throwsOf : Int32} {p2_handA : Int32} {p2_handB : Int32} {p2_fewestSo : Int32} {p2_traced : Int32} {p2_now : (Nat → Int32)} {p2_kept : (Nat → Int32)} {p2_isKept : (Nat → Int32)} {p2_acts : (Nat → Int32)} {p2_was : (Nat → Int32)} {p2_lanes : (Nat → Int32)} {p2_longs : (Nat → Int32)} {p2_isThere : (Nat → Int32)} {p2_items : (Nat → Int32)} {p2_copied : (Nat → Int32)} {p2_tape : (Nat → Int32)} {p2_readSorts : (Nat → Int32)} {p2_readHands : (Nat → Int32)} {p2_inTurn : (Nat → Int32)} {p2_ends : (Nat → Int32)} {p2_bestHands : (Nat → Int32)} {p2_traces : (Nat → Int32)} (hc : c + 6 ≤ L) (hL : L ≤ 384) (hs : xs (nI c).toNatClampNeg &&& 31 = 11) (h : REL p1_latestFault p1_latestFinding p1_rows_lane p1_rows_size p1_rows_items p1_tape_length p1_tape_bytes p1_now_players p1_now_round p1_now_time p1_now_kind p1_now_hand p1_now_leader p1_trial_kind p1_trial_hand p1_trial_leader p1_acts_kept p1_acts_next p1_acts_halls p1_asks_length p1_asks_numbers p1_images p1_imageKept p2_manyActs p2_status p2_tapeLong p2_fault p2_traced p2_now p2_kept p2_isKept p2_acts p2_lanes p2_longs p2_isThere p2_items p2_tape p2_traces) (ih : LIH L xs m c) : o_L_law 7000 L xs (m + 1) a_p1_ways_best a_p1_ways_better p1_latestFault p1_latestFinding p1_rows_lane p1_rows_size p1_rows_items p1_tape_length p1_tape_bytes p1_reader_value p1_now_players p1_now_round p1_now_time p1_now_kind p1_now_hand p1_now_leader p1_now_course_first p1_now_course_second p1_now_course_thrown p1_trial_players p1_trial_round p1_trial_time p1_trial_kind p1_trial_hand p1_trial_leader p1_trial_course_first p1_trial_course_second p1_trial_course_thrown p1_acts_kept p1_acts_next p1_acts_halls p1_ways_groups p1_ways_group p1_ways_train p1_ways_best p1_ways_better p1_ways_course_first p1_ways_course_second p1_ways_course_thrown p1_asks_length p1_asks_numbers p1_images p1_imageKept p2_manyActs p2_status p2_tapeLong p2_fault p2_winner p2_throwsOf p2_handA p2_handB p2_fewestSo p2_traced p2_now p2_kept p2_isKept p2_acts p2_was p2_lanes p2_longs p2_isThere p2_items p2_copied p2_tape p2_readSorts p2_readHands p2_inTurn p2_ends p2_bestHands p2_traces (nI c) = some 1 := by
  have ne : ∀ j : Int32, ¬ (11 : Int32) = j → ¬ xs (nI c).toNatClampNeg &&& 31 = j := fun j z q => z (by rw [← hs]; exact q)
  obtain ⟨r, xp', R', T', K', D', L', xk', xn', w', g1, g2, g3, g4⟩ := s_undo (N := 7000) (by omega) h.har h.hh
  rw [o_L_law]
  refine (if_neg (li_g hc hL)).trans ?_
  refine (ogd_t (li_0 hc hL)).trans ?_
  refine (if_neg (ne 0 (by decide))).trans ?_
  refine (if_neg (ne 1 (by decide))).trans ?_
  refine (if_neg (ne 2 (by decide))).trans ?_
  refine (if_neg (ne 3 (by decide))).trans ?_
  refine (if_neg (ne 4 (by decide))).trans ?_
  refine (if_neg (ne 5 (by decide))).trans ?_
  refine (if_neg (ne 6 (by decide))).trans ?_
  refine (if_neg (ne 7 (by decide))).trans ?_
  refine (if_neg (ne 8 (by decide))).trans ?_
  refine (if_neg (ne 9 (by decide))).trans ?_
  refine (if_neg (ne 10 (by decide))).trans ?_
  refine (if_pos hs).trans ?_
  rw [g1, Option.bind_some]
  rw [g2, Option.bind_some]
  refine (if_pos ?_).trans ?_
  · rfl
  · exact ih _ _ _ _ _ _ _ _ _ _ _ _ _ _ _ _ _ _ _ _ _ _ _ _ _ _ _ _ _ _ _ _ _ _ _ _ _ _ _ _ _ _ _ _ _ _ _ _ _ _ _ _ _ _ _ _ _ _ _ _ _ _ _ _ _ _ _ _ _ _ ⟨h.hfl, h.hst, h.hrr, h.htr, g4, h.htb, g3, h.hir, h.htc⟩
theorem law_op_12 {L m c : Nat} {xs : Nat → Int32} {a_p1_ways_best : Nat} {a_p1_ways_better : Nat} {p1_latestFault : Int32} {p1_latestFinding : Int32} {p1_rows_lane : (Nat → Int32)} {p1_rows_size : (Nat → Int32)} {p1_rows_items : (Nat → Int32)} {p1_tape_length : Int32} {p1_tape_bytes : (Nat → Int32)} {p1_reader_value : Int32} {p1_now_players : Int32} {p1_now_round : Int32} {p1_now_time : Int32} {p1_now_kind : (Nat → Int32)} {p1_now_hand : (Nat → Int32)} {p1_now_leader : (Nat → Int32)} {p1_now_course_first : Int32} {p1_now_course_second : Int32} {p1_now_course_thrown : Int32} {p1_trial_players : Int32} {p1_trial_round : Int32} {p1_trial_time : Int32} {p1_trial_kind : (Nat → Int32)} {p1_trial_hand : (Nat → Int32)} {p1_trial_leader : (Nat → Int32)} {p1_trial_course_first : Int32} {p1_trial_course_second : Int32} {p1_trial_course_thrown : Int32} {p1_acts_kept : Int32} {p1_acts_next : Int32} {p1_acts_halls : (Nat → Int32)} {p1_ways_groups : Int32} {p1_ways_group : (Nat → Int32)} {p1_ways_train : (Nat → Int32)} {p1_ways_best : (Nat → Int32)} {p1_ways_better : (Nat → Int32)} {p1_ways_course_first : Int32} {p1_ways_course_second : Int32} {p1_ways_course_thrown : Int32} {p1_asks_length : Int32} {p1_asks_numbers : (Nat → Int32)} {p1_images : (Nat → Int32)} {p1_imageKept : (Nat → Int32)} {p2_manyActs : Int32} {p2_status : Int32} {p2_tapeLong : Int32} {p2_fault : Int32} {p2_winner : Int32} {p2_throwsOf : Int32} {p2_handA : Int32} {p2_handB : Int32} {p2_fewestSo : Int32} {p2_traced : Int32} {p2_now : (Nat → Int32)} {p2_kept : (Nat → Int32)} {p2_isKept : (Nat → Int32)} {p2_acts : (Nat → Int32)} {p2_was : (Nat → Int32)} {p2_lanes : (Nat → Int32)} {p2_longs : (Nat → Int32)} {p2_isThere : (Nat → Int32)} {p2_items : (Nat → Int32)} {p2_copied : (Nat → Int32)} {p2_tape : (Nat → Int32)} {p2_readSorts : (Nat → Int32)} {p2_readHands : (Nat → Int32)} {p2_inTurn : (Nat → Int32)} {p2_ends : (Nat → Int32)} {p2_bestHands : (Nat → Int32)} {p2_traces : (Nat → Int32)} (hc : c + 6 ≤ L) (hL : L ≤ 384) (hs : xs (nI c).toNatClampNeg &&& 31 = 12) (h : REL p1_latestFault p1_latestFinding p1_rows_lane p1_rows_size p1_rows_items p1_tape_length p1_tape_bytes p1_now_players p1_now_round p1_now_time p1_now_kind p1_now_hand p1_now_leader p1_trial_kind p1_trial_hand p1_trial_leader p1_acts_kept p1_acts_next p1_acts_halls p1_asks_length p1_asks_numbers p1_images p1_imageKept p2_manyActs p2_status p2_tapeLong p2_fault p2_traced p2_now p2_kept p2_isKept p2_acts p2_lanes p2_longs p2_isThere p2_items p2_tape p2_traces) (ih : LIH L xs m c) : o_L_law 7000 L xs (m + 1) a_p1_ways_best a_p1_ways_better p1_latestFault p1_latestFinding p1_rows_lane p1_rows_size p1_rows_items p1_tape_length p1_tape_bytes p1_reader_value p1_now_players p1_now_round p1_now_time p1_now_kind p1_now_hand p1_now_leader p1_now_course_first p1_now_course_second p1_now_course_thrown p1_trial_players p1_trial_round p1_trial_time p1_trial_kind p1_trial_hand p1_trial_leader p1_trial_course_first p1_trial_course_second p1_trial_course_thrown p1_acts_kept p1_acts_next p1_acts_halls p1_ways_groups p1_ways_group p1_ways_train p1_ways_best p1_ways_better p1_ways_course_first p1_ways_course_second p1_ways_course_thrown p1_asks_length p1_asks_numbers p1_images p1_imageKept p2_manyActs p2_status p2_tapeLong p2_fault p2_winner p2_throwsOf p2_handA p2_handB p2_fewestSo p2_traced p2_now p2_kept p2_isKept p2_acts p2_was p2_lanes p2_longs p2_isThere p2_items p2_copied p2_tape p2_readSorts p2_readHands p2_inTurn p2_ends p2_bestHands p2_traces (nI c) = some 1 := by
  have ne : ∀ j : Int32, ¬ (12 : Int32) = j → ¬ xs (nI c).toNatClampNeg &&& 31 = j := fun j z q => z (by rw [← hs]; exact q)
  obtain ⟨r, g1, g2⟩ := s_player (N := 7000) (x := (xs (nI c + 1).toNatClampNeg)) (y := (xs (nI c + 2).toNatClampNeg)) (by omega) h.hh
  rw [o_L_law]
  refine (if_neg (li_g hc hL)).trans ?_
  refine (ogd_t (li_0 hc hL)).trans ?_
  refine (if_neg (ne 0 (by decide))).trans ?_
  refine (if_neg (ne 1 (by decide))).trans ?_
  refine (if_neg (ne 2 (by decide))).trans ?_
  refine (if_neg (ne 3 (by decide))).trans ?_
  refine (if_neg (ne 4 (by decide))).trans ?_
  refine (if_neg (ne 5 (by decide))).trans ?_
  refine (if_neg (ne 6 (by decide))).trans ?_
  refine (if_neg (ne 7 (by decide))).trans ?_
  refine (if_neg (ne 8 (by decide))).trans ?_
  refine (if_neg (ne 9 (by decide))).trans ?_
  refine (if_neg (ne 10 (by decide))).trans ?_
  refine (if_neg (ne 11 (by decide))).trans ?_
  refine (if_pos hs).trans ?_
  refine (ogd_t (li_ok (i := 1) hc hL (by omega))).trans ?_
  refine (ogd_t (li_ok (i := 2) hc hL (by omega))).trans ?_
  rw [g1, Option.bind_some]
  refine (ogd_t (li_ok (i := 1) hc hL (by omega))).trans ?_
  refine (ogd_t (li_ok (i := 2) hc hL (by omega))).trans ?_
  rw [g2, Option.bind_some]
  refine (if_pos ?_).trans ?_
  · rfl
  · exact ih _ _ _ _ _ _ _ _ _ _ _ _ _ _ _ _ _ _ _ _ _ _ _ _ _ _ _ _ _ _ _ _ _ _ _ _ _ _ _ _ _ _ _ _ _ _ _ _ _ _ _ _ _ _ _ _ _ _ _ _ _ _ _ _ _ _ _ _ _ _ ⟨h.hfl, h.hst, h.hrr, h.htr, h.hh, h.htb, h.har, h.hir, h.htc⟩
theorem law_op_13 {L m c : Nat} {xs : Nat → Int32} {a_p1_ways_best : Nat} {a_p1_ways_better : Nat} {p1_latestFault : Int32} {p1_latestFinding : Int32} {p1_rows_lane : (Nat → Int32)} {p1_rows_size : (Nat → Int32)} {p1_rows_items : (Nat → Int32)} {p1_tape_length : Int32} {p1_tape_bytes : (Nat → Int32)} {p1_reader_value : Int32} {p1_now_players : Int32} {p1_now_round : Int32} {p1_now_time : Int32} {p1_now_kind : (Nat → Int32)} {p1_now_hand : (Nat → Int32)} {p1_now_leader : (Nat → Int32)} {p1_now_course_first : Int32} {p1_now_course_second : Int32} {p1_now_course_thrown : Int32} {p1_trial_players : Int32} {p1_trial_round : Int32} {p1_trial_time : Int32} {p1_trial_kind : (Nat → Int32)} {p1_trial_hand : (Nat → Int32)} {p1_trial_leader : (Nat → Int32)} {p1_trial_course_first : Int32} {p1_trial_course_second : Int32} {p1_trial_course_thrown : Int32} {p1_acts_kept : Int32} {p1_acts_next : Int32} {p1_acts_halls : (Nat → Int32)} {p1_ways_groups : Int32} {p1_ways_group : (Nat → Int32)} {p1_ways_train : (Nat → Int32)} {p1_ways_best : (Nat → Int32)} {p1_ways_better : (Nat → Int32)} {p1_ways_course_first : Int32} {p1_ways_course_second : Int32} {p1_ways_course_thrown : Int32} {p1_asks_length : Int32} {p1_asks_numbers : (Nat → Int32)} {p1_images : (Nat → Int32)} {p1_imageKept : (Nat → Int32)} {p2_manyActs : Int32} {p2_status : Int32} {p2_tapeLong : Int32} {p2_fault : Int32} {p2_winner : Int32} {p2_throwsOf : Int32} {p2_handA : Int32} {p2_handB : Int32} {p2_fewestSo : Int32} {p2_traced : Int32} {p2_now : (Nat → Int32)} {p2_kept : (Nat → Int32)} {p2_isKept : (Nat → Int32)} {p2_acts : (Nat → Int32)} {p2_was : (Nat → Int32)} {p2_lanes : (Nat → Int32)} {p2_longs : (Nat → Int32)} {p2_isThere : (Nat → Int32)} {p2_items : (Nat → Int32)} {p2_copied : (Nat → Int32)} {p2_tape : (Nat → Int32)} {p2_readSorts : (Nat → Int32)} {p2_readHands : (Nat → Int32)} {p2_inTurn : (Nat → Int32)} {p2_ends : (Nat → Int32)} {p2_bestHands : (Nat → Int32)} {p2_traces : (Nat → Int32)} (hc : c + 6 ≤ L) (hL : L ≤ 384) (hs : xs (nI c).toNatClampNeg &&& 31 = 13) (h : REL p1_latestFault p1_latestFinding p1_rows_lane p1_rows_size p1_rows_items p1_tape_length p1_tape_bytes p1_now_players p1_now_round p1_now_time p1_now_kind p1_now_hand p1_now_leader p1_trial_kind p1_trial_hand p1_trial_leader p1_acts_kept p1_acts_next p1_acts_halls p1_asks_length p1_asks_numbers p1_images p1_imageKept p2_manyActs p2_status p2_tapeLong p2_fault p2_traced p2_now p2_kept p2_isKept p2_acts p2_lanes p2_longs p2_isThere p2_items p2_tape p2_traces) (ih : LIH L xs m c) : o_L_law 7000 L xs (m + 1) a_p1_ways_best a_p1_ways_better p1_latestFault p1_latestFinding p1_rows_lane p1_rows_size p1_rows_items p1_tape_length p1_tape_bytes p1_reader_value p1_now_players p1_now_round p1_now_time p1_now_kind p1_now_hand p1_now_leader p1_now_course_first p1_now_course_second p1_now_course_thrown p1_trial_players p1_trial_round p1_trial_time p1_trial_kind p1_trial_hand p1_trial_leader p1_trial_course_first p1_trial_course_second p1_trial_course_thrown p1_acts_kept p1_acts_next p1_acts_halls p1_ways_groups p1_ways_group p1_ways_train p1_ways_best p1_ways_better p1_ways_course_first p1_ways_course_second p1_ways_course_thrown p1_asks_length p1_asks_numbers p1_images p1_imageKept p2_manyActs p2_status p2_tapeLong p2_fault p2_winner p2_throwsOf p2_handA p2_handB p2_fewestSo p2_traced p2_now p2_kept p2_isKept p2_acts p2_was p2_lanes p2_longs p2_isThere p2_items p2_copied p2_tape p2_readSorts p2_readHands p2_inTurn p2_ends p2_bestHands p2_traces (nI c) = some 1 := by
  have ne : ∀ j : Int32, ¬ (13 : Int32) = j → ¬ xs (nI c).toNatClampNeg &&& 31 = j := fun j z q => z (by rw [← hs]; exact q)
  obtain ⟨r, c1', c2', c3', t1', t2', t3', t4', g1, g2⟩ := s_beats (N := 7000) (c1 := p1_now_course_first) (c2 := p1_now_course_second) (c3 := p1_now_course_thrown) (t1 := p2_winner) (t2 := p2_throwsOf) (t3 := p2_handA) (t4 := p2_handB) (x := (xs (nI c + 1).toNatClampNeg)) (y := (xs (nI c + 2).toNatClampNeg)) (z := (xs (nI c + 3).toNatClampNeg)) (by omega) h.hh
  rw [o_L_law]
  refine (if_neg (li_g hc hL)).trans ?_
  refine (ogd_t (li_0 hc hL)).trans ?_
  refine (if_neg (ne 0 (by decide))).trans ?_
  refine (if_neg (ne 1 (by decide))).trans ?_
  refine (if_neg (ne 2 (by decide))).trans ?_
  refine (if_neg (ne 3 (by decide))).trans ?_
  refine (if_neg (ne 4 (by decide))).trans ?_
  refine (if_neg (ne 5 (by decide))).trans ?_
  refine (if_neg (ne 6 (by decide))).trans ?_
  refine (if_neg (ne 7 (by decide))).trans ?_
  refine (if_neg (ne 8 (by decide))).trans ?_
  refine (if_neg (ne 9 (by decide))).trans ?_
  refine (if_neg (ne 10 (by decide))).trans ?_
  refine (if_neg (ne 11 (by decide))).trans ?_
  refine (if_neg (ne 12 (by decide))).trans ?_
  refine (if_pos hs).trans ?_
  refine (ogd_t (li_ok (i := 1) hc hL (by omega))).trans ?_
  refine (ogd_t (li_ok (i := 2) hc hL (by omega))).trans ?_
  refine (ogd_t (li_ok (i := 3) hc hL (by omega))).trans ?_
  rw [g1, Option.bind_some]
  refine (ogd_t (li_ok (i := 1) hc hL (by omega))).trans ?_
  refine (ogd_t (li_ok (i := 2) hc hL (by omega))).trans ?_
  refine (ogd_t (li_ok (i := 3) hc hL (by omega))).trans ?_
  rw [g2, Option.bind_some]
  refine (if_pos ?_).trans ?_
  · rfl
  · exact ih _ _ _ _ _ _ _ _ _ _ _ _ _ _ _ _ _ _ _ _ _ _ _ _ _ _ _ _ _ _ _ _ _ _ _ _ _ _ _ _ _ _ _ _ _ _ _ _ _ _ _ _ _ _ _ _ _ _ _ _ _ _ _ _ _ _ _ _ _ _ ⟨h.hfl, h.hst, h.hrr, h.htr, h.hh, h.htb, h.har, h.hir, h.htc⟩
theorem law_op_14 {L m c : Nat} {xs : Nat → Int32} {a_p1_ways_best : Nat} {a_p1_ways_better : Nat} {p1_latestFault : Int32} {p1_latestFinding : Int32} {p1_rows_lane : (Nat → Int32)} {p1_rows_size : (Nat → Int32)} {p1_rows_items : (Nat → Int32)} {p1_tape_length : Int32} {p1_tape_bytes : (Nat → Int32)} {p1_reader_value : Int32} {p1_now_players : Int32} {p1_now_round : Int32} {p1_now_time : Int32} {p1_now_kind : (Nat → Int32)} {p1_now_hand : (Nat → Int32)} {p1_now_leader : (Nat → Int32)} {p1_now_course_first : Int32} {p1_now_course_second : Int32} {p1_now_course_thrown : Int32} {p1_trial_players : Int32} {p1_trial_round : Int32} {p1_trial_time : Int32} {p1_trial_kind : (Nat → Int32)} {p1_trial_hand : (Nat → Int32)} {p1_trial_leader : (Nat → Int32)} {p1_trial_course_first : Int32} {p1_trial_course_second : Int32} {p1_trial_course_thrown : Int32} {p1_acts_kept : Int32} {p1_acts_next : Int32} {p1_acts_halls : (Nat → Int32)} {p1_ways_groups : Int32} {p1_ways_group : (Nat → Int32)} {p1_ways_train : (Nat → Int32)} {p1_ways_best : (Nat → Int32)} {p1_ways_better : (Nat → Int32)} {p1_ways_course_first : Int32} {p1_ways_course_second : Int32} {p1_ways_course_thrown : Int32} {p1_asks_length : Int32} {p1_asks_numbers : (Nat → Int32)} {p1_images : (Nat → Int32)} {p1_imageKept : (Nat → Int32)} {p2_manyActs : Int32} {p2_status : Int32} {p2_tapeLong : Int32} {p2_fault : Int32} {p2_winner : Int32} {p2_throwsOf : Int32} {p2_handA : Int32} {p2_handB : Int32} {p2_fewestSo : Int32} {p2_traced : Int32} {p2_now : (Nat → Int32)} {p2_kept : (Nat → Int32)} {p2_isKept : (Nat → Int32)} {p2_acts : (Nat → Int32)} {p2_was : (Nat → Int32)} {p2_lanes : (Nat → Int32)} {p2_longs : (Nat → Int32)} {p2_isThere : (Nat → Int32)} {p2_items : (Nat → Int32)} {p2_copied : (Nat → Int32)} {p2_tape : (Nat → Int32)} {p2_readSorts : (Nat → Int32)} {p2_readHands : (Nat → Int32)} {p2_inTurn : (Nat → Int32)} {p2_ends : (Nat → Int32)} {p2_bestHands : (Nat → Int32)} {p2_traces : (Nat → Int32)} (hc : c + 6 ≤ L) (hL : L ≤ 384) (hs : xs (nI c).toNatClampNeg &&& 31 = 14) (h : REL p1_latestFault p1_latestFinding p1_rows_lane p1_rows_size p1_rows_items p1_tape_length p1_tape_bytes p1_now_players p1_now_round p1_now_time p1_now_kind p1_now_hand p1_now_leader p1_trial_kind p1_trial_hand p1_trial_leader p1_acts_kept p1_acts_next p1_acts_halls p1_asks_length p1_asks_numbers p1_images p1_imageKept p2_manyActs p2_status p2_tapeLong p2_fault p2_traced p2_now p2_kept p2_isKept p2_acts p2_lanes p2_longs p2_isThere p2_items p2_tape p2_traces) (ih : LIH L xs m c) : o_L_law 7000 L xs (m + 1) a_p1_ways_best a_p1_ways_better p1_latestFault p1_latestFinding p1_rows_lane p1_rows_size p1_rows_items p1_tape_length p1_tape_bytes p1_reader_value p1_now_players p1_now_round p1_now_time p1_now_kind p1_now_hand p1_now_leader p1_now_course_first p1_now_course_second p1_now_course_thrown p1_trial_players p1_trial_round p1_trial_time p1_trial_kind p1_trial_hand p1_trial_leader p1_trial_course_first p1_trial_course_second p1_trial_course_thrown p1_acts_kept p1_acts_next p1_acts_halls p1_ways_groups p1_ways_group p1_ways_train p1_ways_best p1_ways_better p1_ways_course_first p1_ways_course_second p1_ways_course_thrown p1_asks_length p1_asks_numbers p1_images p1_imageKept p2_manyActs p2_status p2_tapeLong p2_fault p2_winner p2_throwsOf p2_handA p2_handB p2_fewestSo p2_traced p2_now p2_kept p2_isKept p2_acts p2_was p2_lanes p2_longs p2_isThere p2_items p2_copied p2_tape p2_readSorts p2_readHands p2_inTurn p2_ends p2_bestHands p2_traces (nI c) = some 1 := by
  have ne : ∀ j : Int32, ¬ (14 : Int32) = j → ¬ xs (nI c).toNatClampNeg &&& 31 = j := fun j z q => z (by rw [← hs]; exact q)
  obtain ⟨r, tp', tR', tT', tK', tD', tL', c1', c2', c3', t1', t2', t3', t4', w', v', I', E', g1, g2, g3, g4⟩ := s_left (N := 7000) (tp := p1_trial_players) (tR := p1_trial_round) (tT := p1_trial_time) (c1 := p1_trial_course_first) (c2 := p1_trial_course_second) (c3 := p1_trial_course_thrown) (t1 := p2_winner) (t2 := p2_throwsOf) (t3 := p2_handA) (t4 := p2_handB) (v := p2_was) (I := p2_inTurn) (E := p2_ends) (x := (xs (nI c + 1).toNatClampNeg)) (by omega) h.htb h.hh
  rw [o_L_law]
  refine (if_neg (li_g hc hL)).trans ?_
  refine (ogd_t (li_0 hc hL)).trans ?_
  refine (if_neg (ne 0 (by decide))).trans ?_
  refine (if_neg (ne 1 (by decide))).trans ?_
  refine (if_neg (ne 2 (by decide))).trans ?_
  refine (if_neg (ne 3 (by decide))).trans ?_
  refine (if_neg (ne 4 (by decide))).trans ?_
  refine (if_neg (ne 5 (by decide))).trans ?_
  refine (if_neg (ne 6 (by decide))).trans ?_
  refine (if_neg (ne 7 (by decide))).trans ?_
  refine (if_neg (ne 8 (by decide))).trans ?_
  refine (if_neg (ne 9 (by decide))).trans ?_
  refine (if_neg (ne 10 (by decide))).trans ?_
  refine (if_neg (ne 11 (by decide))).trans ?_
  refine (if_neg (ne 12 (by decide))).trans ?_
  refine (if_neg (ne 13 (by decide))).trans ?_
  refine (if_pos hs).trans ?_
  refine (ogd_t (li_ok (i := 1) hc hL (by omega))).trans ?_
  rw [g1, Option.bind_some]
  refine (ogd_t (li_ok (i := 1) hc hL (by omega))).trans ?_
  rw [g2, Option.bind_some]
  refine (if_pos ?_).trans ?_
  · rfl
  · exact ih _ _ _ _ _ _ _ _ _ _ _ _ _ _ _ _ _ _ _ _ _ _ _ _ _ _ _ _ _ _ _ _ _ _ _ _ _ _ _ _ _ _ _ _ _ _ _ _ _ _ _ _ _ _ _ _ _ _ _ _ _ _ _ _ _ _ _ _ _ _ ⟨h.hfl, h.hst, h.hrr, h.htr, g3, g4, h.har, h.hir, h.htc⟩
theorem law_op_15 {L m c : Nat} {xs : Nat → Int32} {a_p1_ways_best : Nat} {a_p1_ways_better : Nat} {p1_latestFault : Int32} {p1_latestFinding : Int32} {p1_rows_lane : (Nat → Int32)} {p1_rows_size : (Nat → Int32)} {p1_rows_items : (Nat → Int32)} {p1_tape_length : Int32} {p1_tape_bytes : (Nat → Int32)} {p1_reader_value : Int32} {p1_now_players : Int32} {p1_now_round : Int32} {p1_now_time : Int32} {p1_now_kind : (Nat → Int32)} {p1_now_hand : (Nat → Int32)} {p1_now_leader : (Nat → Int32)} {p1_now_course_first : Int32} {p1_now_course_second : Int32} {p1_now_course_thrown : Int32} {p1_trial_players : Int32} {p1_trial_round : Int32} {p1_trial_time : Int32} {p1_trial_kind : (Nat → Int32)} {p1_trial_hand : (Nat → Int32)} {p1_trial_leader : (Nat → Int32)} {p1_trial_course_first : Int32} {p1_trial_course_second : Int32} {p1_trial_course_thrown : Int32} {p1_acts_kept : Int32} {p1_acts_next : Int32} {p1_acts_halls : (Nat → Int32)} {p1_ways_groups : Int32} {p1_ways_group : (Nat → Int32)} {p1_ways_train : (Nat → Int32)} {p1_ways_best : (Nat → Int32)} {p1_ways_better : (Nat → Int32)} {p1_ways_course_first : Int32} {p1_ways_course_second : Int32} {p1_ways_course_thrown : Int32} {p1_asks_length : Int32} {p1_asks_numbers : (Nat → Int32)} {p1_images : (Nat → Int32)} {p1_imageKept : (Nat → Int32)} {p2_manyActs : Int32} {p2_status : Int32} {p2_tapeLong : Int32} {p2_fault : Int32} {p2_winner : Int32} {p2_throwsOf : Int32} {p2_handA : Int32} {p2_handB : Int32} {p2_fewestSo : Int32} {p2_traced : Int32} {p2_now : (Nat → Int32)} {p2_kept : (Nat → Int32)} {p2_isKept : (Nat → Int32)} {p2_acts : (Nat → Int32)} {p2_was : (Nat → Int32)} {p2_lanes : (Nat → Int32)} {p2_longs : (Nat → Int32)} {p2_isThere : (Nat → Int32)} {p2_items : (Nat → Int32)} {p2_copied : (Nat → Int32)} {p2_tape : (Nat → Int32)} {p2_readSorts : (Nat → Int32)} {p2_readHands : (Nat → Int32)} {p2_inTurn : (Nat → Int32)} {p2_ends : (Nat → Int32)} {p2_bestHands : (Nat → Int32)} {p2_traces : (Nat → Int32)} (hc : c + 6 ≤ L) (hL : L ≤ 384) (hs : xs (nI c).toNatClampNeg &&& 31 = 15) (h : REL p1_latestFault p1_latestFinding p1_rows_lane p1_rows_size p1_rows_items p1_tape_length p1_tape_bytes p1_now_players p1_now_round p1_now_time p1_now_kind p1_now_hand p1_now_leader p1_trial_kind p1_trial_hand p1_trial_leader p1_acts_kept p1_acts_next p1_acts_halls p1_asks_length p1_asks_numbers p1_images p1_imageKept p2_manyActs p2_status p2_tapeLong p2_fault p2_traced p2_now p2_kept p2_isKept p2_acts p2_lanes p2_longs p2_isThere p2_items p2_tape p2_traces) (ih : LIH L xs m c) : o_L_law 7000 L xs (m + 1) a_p1_ways_best a_p1_ways_better p1_latestFault p1_latestFinding p1_rows_lane p1_rows_size p1_rows_items p1_tape_length p1_tape_bytes p1_reader_value p1_now_players p1_now_round p1_now_time p1_now_kind p1_now_hand p1_now_leader p1_now_course_first p1_now_course_second p1_now_course_thrown p1_trial_players p1_trial_round p1_trial_time p1_trial_kind p1_trial_hand p1_trial_leader p1_trial_course_first p1_trial_course_second p1_trial_course_thrown p1_acts_kept p1_acts_next p1_acts_halls p1_ways_groups p1_ways_group p1_ways_train p1_ways_best p1_ways_better p1_ways_course_first p1_ways_course_second p1_ways_course_thrown p1_asks_length p1_asks_numbers p1_images p1_imageKept p2_manyActs p2_status p2_tapeLong p2_fault p2_winner p2_throwsOf p2_handA p2_handB p2_fewestSo p2_traced p2_now p2_kept p2_isKept p2_acts p2_was p2_lanes p2_longs p2_isThere p2_items p2_copied p2_tape p2_readSorts p2_readHands p2_inTurn p2_ends p2_bestHands p2_traces (nI c) = some 1 := by
  have ne : ∀ j : Int32, ¬ (15 : Int32) = j → ¬ xs (nI c).toNatClampNeg &&& 31 = j := fun j z q => z (by rw [← hs]; exact q)
  obtain ⟨r, tp', tR', tT', tK', tD', tL', c1', c2', c3', t1', t2', t3', t4', w', v', I', E', g1, g2, g3, g4⟩ := s_longest (N := 7000) (tp := p1_trial_players) (tR := p1_trial_round) (tT := p1_trial_time) (c1 := p1_trial_course_first) (c2 := p1_trial_course_second) (c3 := p1_trial_course_thrown) (t1 := p2_winner) (t2 := p2_throwsOf) (t3 := p2_handA) (t4 := p2_handB) (v := p2_was) (I := p2_inTurn) (E := p2_ends) (x := (xs (nI c + 1).toNatClampNeg)) (y := (xs (nI c + 2).toNatClampNeg)) (by omega) h.htb h.hh
  rw [o_L_law]
  refine (if_neg (li_g hc hL)).trans ?_
  refine (ogd_t (li_0 hc hL)).trans ?_
  refine (if_neg (ne 0 (by decide))).trans ?_
  refine (if_neg (ne 1 (by decide))).trans ?_
  refine (if_neg (ne 2 (by decide))).trans ?_
  refine (if_neg (ne 3 (by decide))).trans ?_
  refine (if_neg (ne 4 (by decide))).trans ?_
  refine (if_neg (ne 5 (by decide))).trans ?_
  refine (if_neg (ne 6 (by decide))).trans ?_
  refine (if_neg (ne 7 (by decide))).trans ?_
  refine (if_neg (ne 8 (by decide))).trans ?_
  refine (if_neg (ne 9 (by decide))).trans ?_
  refine (if_neg (ne 10 (by decide))).trans ?_
  refine (if_neg (ne 11 (by decide))).trans ?_
  refine (if_neg (ne 12 (by decide))).trans ?_
  refine (if_neg (ne 13 (by decide))).trans ?_
  refine (if_neg (ne 14 (by decide))).trans ?_
  refine (if_pos hs).trans ?_
  refine (ogd_t (li_ok (i := 1) hc hL (by omega))).trans ?_
  refine (ogd_t (li_ok (i := 2) hc hL (by omega))).trans ?_
  rw [g1, Option.bind_some]
  refine (ogd_t (li_ok (i := 1) hc hL (by omega))).trans ?_
  refine (ogd_t (li_ok (i := 2) hc hL (by omega))).trans ?_
  rw [g2, Option.bind_some]
  refine (if_pos ?_).trans ?_
  · rfl
  · exact ih _ _ _ _ _ _ _ _ _ _ _ _ _ _ _ _ _ _ _ _ _ _ _ _ _ _ _ _ _ _ _ _ _ _ _ _ _ _ _ _ _ _ _ _ _ _ _ _ _ _ _ _ _ _ _ _ _ _ _ _ _ _ _ _ _ _ _ _ _ _ ⟨h.hfl, h.hst, h.hrr, h.htr, g3, g4, h.har, h.hir, h.htc⟩
theorem law_op_16 {L m c : Nat} {xs : Nat → Int32} {a_p1_ways_best : Nat} {a_p1_ways_better : Nat} {p1_latestFault : Int32} {p1_latestFinding : Int32} {p1_rows_lane : (Nat → Int32)} {p1_rows_size : (Nat → Int32)} {p1_rows_items : (Nat → Int32)} {p1_tape_length : Int32} {p1_tape_bytes : (Nat → Int32)} {p1_reader_value : Int32} {p1_now_players : Int32} {p1_now_round : Int32} {p1_now_time : Int32} {p1_now_kind : (Nat → Int32)} {p1_now_hand : (Nat → Int32)} {p1_now_leader : (Nat → Int32)} {p1_now_course_first : Int32} {p1_now_course_second : Int32} {p1_now_course_thrown : Int32} {p1_trial_players : Int32} {p1_trial_round : Int32} {p1_trial_time : Int32} {p1_trial_kind : (Nat → Int32)} {p1_trial_hand : (Nat → Int32)} {p1_trial_leader : (Nat → Int32)} {p1_trial_course_first : Int32} {p1_trial_course_second : Int32} {p1_trial_course_thrown : Int32} {p1_acts_kept : Int32} {p1_acts_next : Int32} {p1_acts_halls : (Nat → Int32)} {p1_ways_groups : Int32} {p1_ways_group : (Nat → Int32)} {p1_ways_train : (Nat → Int32)} {p1_ways_best : (Nat → Int32)} {p1_ways_better : (Nat → Int32)} {p1_ways_course_first : Int32} {p1_ways_course_second : Int32} {p1_ways_course_thrown : Int32} {p1_asks_length : Int32} {p1_asks_numbers : (Nat → Int32)} {p1_images : (Nat → Int32)} {p1_imageKept : (Nat → Int32)} {p2_manyActs : Int32} {p2_status : Int32} {p2_tapeLong : Int32} {p2_fault : Int32} {p2_winner : Int32} {p2_throwsOf : Int32} {p2_handA : Int32} {p2_handB : Int32} {p2_fewestSo : Int32} {p2_traced : Int32} {p2_now : (Nat → Int32)} {p2_kept : (Nat → Int32)} {p2_isKept : (Nat → Int32)} {p2_acts : (Nat → Int32)} {p2_was : (Nat → Int32)} {p2_lanes : (Nat → Int32)} {p2_longs : (Nat → Int32)} {p2_isThere : (Nat → Int32)} {p2_items : (Nat → Int32)} {p2_copied : (Nat → Int32)} {p2_tape : (Nat → Int32)} {p2_readSorts : (Nat → Int32)} {p2_readHands : (Nat → Int32)} {p2_inTurn : (Nat → Int32)} {p2_ends : (Nat → Int32)} {p2_bestHands : (Nat → Int32)} {p2_traces : (Nat → Int32)} (hc : c + 6 ≤ L) (hL : L ≤ 384) (hs : xs (nI c).toNatClampNeg &&& 31 = 16) (h : REL p1_latestFault p1_latestFinding p1_rows_lane p1_rows_size p1_rows_items p1_tape_length p1_tape_bytes p1_now_players p1_now_round p1_now_time p1_now_kind p1_now_hand p1_now_leader p1_trial_kind p1_trial_hand p1_trial_leader p1_acts_kept p1_acts_next p1_acts_halls p1_asks_length p1_asks_numbers p1_images p1_imageKept p2_manyActs p2_status p2_tapeLong p2_fault p2_traced p2_now p2_kept p2_isKept p2_acts p2_lanes p2_longs p2_isThere p2_items p2_tape p2_traces) (ih : LIH L xs m c) : o_L_law 7000 L xs (m + 1) a_p1_ways_best a_p1_ways_better p1_latestFault p1_latestFinding p1_rows_lane p1_rows_size p1_rows_items p1_tape_length p1_tape_bytes p1_reader_value p1_now_players p1_now_round p1_now_time p1_now_kind p1_now_hand p1_now_leader p1_now_course_first p1_now_course_second p1_now_course_thrown p1_trial_players p1_trial_round p1_trial_time p1_trial_kind p1_trial_hand p1_trial_leader p1_trial_course_first p1_trial_course_second p1_trial_course_thrown p1_acts_kept p1_acts_next p1_acts_halls p1_ways_groups p1_ways_group p1_ways_train p1_ways_best p1_ways_better p1_ways_course_first p1_ways_course_second p1_ways_course_thrown p1_asks_length p1_asks_numbers p1_images p1_imageKept p2_manyActs p2_status p2_tapeLong p2_fault p2_winner p2_throwsOf p2_handA p2_handB p2_fewestSo p2_traced p2_now p2_kept p2_isKept p2_acts p2_was p2_lanes p2_longs p2_isThere p2_items p2_copied p2_tape p2_readSorts p2_readHands p2_inTurn p2_ends p2_bestHands p2_traces (nI c) = some 1 := by
  have ne : ∀ j : Int32, ¬ (16 : Int32) = j → ¬ xs (nI c).toNatClampNeg &&& 31 = j := fun j z q => z (by rw [← hs]; exact q)
  obtain ⟨r, X, t1', t2', t3', t4', w', Y, g1, g2, g3, g4⟩ := s_begin (N := 7000) (tp := p1_trial_players) (tR := p1_trial_round) (tT := p1_trial_time) (c1 := p1_trial_course_first) (c2 := p1_trial_course_second) (c3 := p1_trial_course_thrown) (t1 := p2_winner) (t2 := p2_throwsOf) (t3 := p2_handA) (t4 := p2_handB) (v := p2_was) (I := p2_inTurn) (E := p2_ends) (x := (xs (nI c + 1).toNatClampNeg)) (by omega) h.htb h.hh
  rw [o_L_law]
  refine (if_neg (li_g hc hL)).trans ?_
  refine (ogd_t (li_0 hc hL)).trans ?_
  refine (if_neg (ne 0 (by decide))).trans ?_
  refine (if_neg (ne 1 (by decide))).trans ?_
  refine (if_neg (ne 2 (by decide))).trans ?_
  refine (if_neg (ne 3 (by decide))).trans ?_
  refine (if_neg (ne 4 (by decide))).trans ?_
  refine (if_neg (ne 5 (by decide))).trans ?_
  refine (if_neg (ne 6 (by decide))).trans ?_
  refine (if_neg (ne 7 (by decide))).trans ?_
  refine (if_neg (ne 8 (by decide))).trans ?_
  refine (if_neg (ne 9 (by decide))).trans ?_
  refine (if_neg (ne 10 (by decide))).trans ?_
  refine (if_neg (ne 11 (by decide))).trans ?_
  refine (if_neg (ne 12 (by decide))).trans ?_
  refine (if_neg (ne 13 (by decide))).trans ?_
  refine (if_neg (ne 14 (by decide))).trans ?_
  refine (if_neg (ne 15 (by decide))).trans ?_
  refine (if_pos hs).trans ?_
  refine (ogd_t (li_ok (i := 1) hc hL (by omega))).trans ?_
  rw [g1, Option.bind_some]
  refine (ogd_t (li_ok (i := 1) hc hL (by omega))).trans ?_
  rw [g2, Option.bind_some]
  refine (if_pos ?_).trans ?_
  · rfl
  · exact ih _ _ _ _ _ _ _ _ _ _ _ _ _ _ _ _ _ _ _ _ _ _ _ _ _ _ _ _ _ _ _ _ _ _ _ _ _ _ _ _ _ _ _ _ _ _ _ _ _ _ _ _ _ _ _ _ _ _ _ _ _ _ _ _ _ _ _ _ _ _ ⟨h.hfl, h.hst, h.hrr, h.htr, g3, g4, h.har, h.hir, h.htc⟩
theorem law_op_17 {L m c : Nat} {xs : Nat → Int32} {a_p1_ways_best : Nat} {a_p1_ways_better : Nat} {p1_latestFault : Int32} {p1_latestFinding : Int32} {p1_rows_lane : (Nat → Int32)} {p1_rows_size : (Nat → Int32)} {p1_rows_items : (Nat → Int32)} {p1_tape_length : Int32} {p1_tape_bytes : (Nat → Int32)} {p1_reader_value : Int32} {p1_now_players : Int32} {p1_now_round : Int32} {p1_now_time : Int32} {p1_now_kind : (Nat → Int32)} {p1_now_hand : (Nat → Int32)} {p1_now_leader : (Nat → Int32)} {p1_now_course_first : Int32} {p1_now_course_second : Int32} {p1_now_course_thrown : Int32} {p1_trial_players : Int32} {p1_trial_round : Int32} {p1_trial_time : Int32} {p1_trial_kind : (Nat → Int32)} {p1_trial_hand : (Nat → Int32)} {p1_trial_leader : (Nat → Int32)} {p1_trial_course_first : Int32} {p1_trial_course_second : Int32} {p1_trial_course_thrown : Int32} {p1_acts_kept : Int32} {p1_acts_next : Int32} {p1_acts_halls : (Nat → Int32)} {p1_ways_groups : Int32} {p1_ways_group : (Nat → Int32)} {p1_ways_train : (Nat → Int32)} {p1_ways_best : (Nat → Int32)} {p1_ways_better : (Nat → Int32)} {p1_ways_course_first : Int32} {p1_ways_course_second : Int32} {p1_ways_course_thrown : Int32} {p1_asks_length : Int32} {p1_asks_numbers : (Nat → Int32)} {p1_images : (Nat → Int32)} {p1_imageKept : (Nat → Int32)} {p2_manyActs : Int32} {p2_status : Int32} {p2_tapeLong : Int32} {p2_fault : Int32} {p2_winner : Int32} {p2_throwsOf : Int32} {p2_handA : Int32} {p2_handB : Int32} {p2_fewestSo : Int32} {p2_traced : Int32} {p2_now : (Nat → Int32)} {p2_kept : (Nat → Int32)} {p2_isKept : (Nat → Int32)} {p2_acts : (Nat → Int32)} {p2_was : (Nat → Int32)} {p2_lanes : (Nat → Int32)} {p2_longs : (Nat → Int32)} {p2_isThere : (Nat → Int32)} {p2_items : (Nat → Int32)} {p2_copied : (Nat → Int32)} {p2_tape : (Nat → Int32)} {p2_readSorts : (Nat → Int32)} {p2_readHands : (Nat → Int32)} {p2_inTurn : (Nat → Int32)} {p2_ends : (Nat → Int32)} {p2_bestHands : (Nat → Int32)} {p2_traces : (Nat → Int32)} (hc : c + 6 ≤ L) (hL : L ≤ 384) (hs : xs (nI c).toNatClampNeg &&& 31 = 17) (h : REL p1_latestFault p1_latestFinding p1_rows_lane p1_rows_size p1_rows_items p1_tape_length p1_tape_bytes p1_now_players p1_now_round p1_now_time p1_now_kind p1_now_hand p1_now_leader p1_trial_kind p1_trial_hand p1_trial_leader p1_acts_kept p1_acts_next p1_acts_halls p1_asks_length p1_asks_numbers p1_images p1_imageKept p2_manyActs p2_status p2_tapeLong p2_fault p2_traced p2_now p2_kept p2_isKept p2_acts p2_lanes p2_longs p2_isThere p2_items p2_tape p2_traces) (ih : LIH L xs m c) : o_L_law 7000 L xs (m + 1) a_p1_ways_best a_p1_ways_better p1_latestFault p1_latestFinding p1_rows_lane p1_rows_size p1_rows_items p1_tape_length p1_tape_bytes p1_reader_value p1_now_players p1_now_round p1_now_time p1_now_kind p1_now_hand p1_now_leader p1_now_course_first p1_now_course_second p1_now_course_thrown p1_trial_players p1_trial_round p1_trial_time p1_trial_kind p1_trial_hand p1_trial_leader p1_trial_course_first p1_trial_course_second p1_trial_course_thrown p1_acts_kept p1_acts_next p1_acts_halls p1_ways_groups p1_ways_group p1_ways_train p1_ways_best p1_ways_better p1_ways_course_first p1_ways_course_second p1_ways_course_thrown p1_asks_length p1_asks_numbers p1_images p1_imageKept p2_manyActs p2_status p2_tapeLong p2_fault p2_winner p2_throwsOf p2_handA p2_handB p2_fewestSo p2_traced p2_now p2_kept p2_isKept p2_acts p2_was p2_lanes p2_longs p2_isThere p2_items p2_copied p2_tape p2_readSorts p2_readHands p2_inTurn p2_ends p2_bestHands p2_traces (nI c) = some 1 := by
  have ne : ∀ j : Int32, ¬ (17 : Int32) = j → ¬ xs (nI c).toNatClampNeg &&& 31 = j := fun j z q => z (by rw [← hs]; exact q)
  obtain ⟨r, X, t1', t2', t3', t4', w', Y, g1, g2, g3, g4⟩ := s_seek (N := 7000) (tp := p1_trial_players) (tR := p1_trial_round) (tT := p1_trial_time) (c1 := p1_trial_course_first) (c2 := p1_trial_course_second) (c3 := p1_trial_course_thrown) (t1 := p2_winner) (t2 := p2_throwsOf) (t3 := p2_handA) (t4 := p2_handB) (v := p2_was) (I := p2_inTurn) (E := p2_ends) (x := (xs (nI c + 1).toNatClampNeg)) (by omega) h.htb h.hh
  rw [o_L_law]
  refine (if_neg (li_g hc hL)).trans ?_
  refine (ogd_t (li_0 hc hL)).trans ?_
  refine (if_neg (ne 0 (by decide))).trans ?_
  refine (if_neg (ne 1 (by decide))).trans ?_
  refine (if_neg (ne 2 (by decide))).trans ?_
  refine (if_neg (ne 3 (by decide))).trans ?_
  refine (if_neg (ne 4 (by decide))).trans ?_
  refine (if_neg (ne 5 (by decide))).trans ?_
  refine (if_neg (ne 6 (by decide))).trans ?_
  refine (if_neg (ne 7 (by decide))).trans ?_
  refine (if_neg (ne 8 (by decide))).trans ?_
  refine (if_neg (ne 9 (by decide))).trans ?_
  refine (if_neg (ne 10 (by decide))).trans ?_
  refine (if_neg (ne 11 (by decide))).trans ?_
  refine (if_neg (ne 12 (by decide))).trans ?_
  refine (if_neg (ne 13 (by decide))).trans ?_
  refine (if_neg (ne 14 (by decide))).trans ?_
  refine (if_neg (ne 15 (by decide))).trans ?_
  refine (if_neg (ne 16 (by decide))).trans ?_
  refine (if_pos hs).trans ?_
  refine (ogd_t (li_ok (i := 1) hc hL (by omega))).trans ?_
  rw [g1, Option.bind_some]
  refine (ogd_t (li_ok (i := 1) hc hL (by omega))).trans ?_
  rw [g2, Option.bind_some]
  refine (if_pos ?_).trans ?_
  · rfl
  · exact ih _ _ _ _ _ _ _ _ _ _ _ _ _ _ _ _ _ _ _ _ _ _ _ _ _ _ _ _ _ _ _ _ _ _ _ _ _ _ _ _ _ _ _ _ _ _ _ _ _ _ _ _ _ _ _ _ _ _ _ _ _ _ _ _ _ _ _ _ _ _ ⟨h.hfl, h.hst, h.hrr, h.htr, g3, g4, h.har, h.hir, h.htc⟩
theorem law_op_18 {L m c : Nat} {xs : Nat → Int32} {a_p1_ways_best : Nat} {a_p1_ways_better : Nat} {p1_latestFault : Int32} {p1_latestFinding : Int32} {p1_rows_lane : (Nat → Int32)} {p1_rows_size : (Nat → Int32)} {p1_rows_items : (Nat → Int32)} {p1_tape_length : Int32} {p1_tape_bytes : (Nat → Int32)} {p1_reader_value : Int32} {p1_now_players : Int32} {p1_now_round : Int32} {p1_now_time : Int32} {p1_now_kind : (Nat → Int32)} {p1_now_hand : (Nat → Int32)} {p1_now_leader : (Nat → Int32)} {p1_now_course_first : Int32} {p1_now_course_second : Int32} {p1_now_course_thrown : Int32} {p1_trial_players : Int32} {p1_trial_round : Int32} {p1_trial_time : Int32} {p1_trial_kind : (Nat → Int32)} {p1_trial_hand : (Nat → Int32)} {p1_trial_leader : (Nat → Int32)} {p1_trial_course_first : Int32} {p1_trial_course_second : Int32} {p1_trial_course_thrown : Int32} {p1_acts_kept : Int32} {p1_acts_next : Int32} {p1_acts_halls : (Nat → Int32)} {p1_ways_groups : Int32} {p1_ways_group : (Nat → Int32)} {p1_ways_train : (Nat → Int32)} {p1_ways_best : (Nat → Int32)} {p1_ways_better : (Nat → Int32)} {p1_ways_course_first : Int32} {p1_ways_course_second : Int32} {p1_ways_course_thrown : Int32} {p1_asks_length : Int32} {p1_asks_numbers : (Nat → Int32)} {p1_images : (Nat → Int32)} {p1_imageKept : (Nat → Int32)} {p2_manyActs : Int32} {p2_status : Int32} {p2_tapeLong : Int32} {p2_fault : Int32} {p2_winner : Int32} {p2_throwsOf : Int32} {p2_handA : Int32} {p2_handB : Int32} {p2_fewestSo : Int32} {p2_traced : Int32} {p2_now : (Nat → Int32)} {p2_kept : (Nat → Int32)} {p2_isKept : (Nat → Int32)} {p2_acts : (Nat → Int32)} {p2_was : (Nat → Int32)} {p2_lanes : (Nat → Int32)} {p2_longs : (Nat → Int32)} {p2_isThere : (Nat → Int32)} {p2_items : (Nat → Int32)} {p2_copied : (Nat → Int32)} {p2_tape : (Nat → Int32)} {p2_readSorts : (Nat → Int32)} {p2_readHands : (Nat → Int32)} {p2_inTurn : (Nat → Int32)} {p2_ends : (Nat → Int32)} {p2_bestHands : (Nat → Int32)} {p2_traces : (Nat → Int32)} (hc : c + 6 ≤ L) (hL : L ≤ 384) (hs : xs (nI c).toNatClampNeg &&& 31 = 18) (h : REL p1_latestFault p1_latestFinding p1_rows_lane p1_rows_size p1_rows_items p1_tape_length p1_tape_bytes p1_now_players p1_now_round p1_now_time p1_now_kind p1_now_hand p1_now_leader p1_trial_kind p1_trial_hand p1_trial_leader p1_acts_kept p1_acts_next p1_acts_halls p1_asks_length p1_asks_numbers p1_images p1_imageKept p2_manyActs p2_status p2_tapeLong p2_fault p2_traced p2_now p2_kept p2_isKept p2_acts p2_lanes p2_longs p2_isThere p2_items p2_tape p2_traces) (ih : LIH L xs m c) : o_L_law 7000 L xs (m + 1) a_p1_ways_best a_p1_ways_better p1_latestFault p1_latestFinding p1_rows_lane p1_rows_size p1_rows_items p1_tape_length p1_tape_bytes p1_reader_value p1_now_players p1_now_round p1_now_time p1_now_kind p1_now_hand p1_now_leader p1_now_course_first p1_now_course_second p1_now_course_thrown p1_trial_players p1_trial_round p1_trial_time p1_trial_kind p1_trial_hand p1_trial_leader p1_trial_course_first p1_trial_course_second p1_trial_course_thrown p1_acts_kept p1_acts_next p1_acts_halls p1_ways_groups p1_ways_group p1_ways_train p1_ways_best p1_ways_better p1_ways_course_first p1_ways_course_second p1_ways_course_thrown p1_asks_length p1_asks_numbers p1_images p1_imageKept p2_manyActs p2_status p2_tapeLong p2_fault p2_winner p2_throwsOf p2_handA p2_handB p2_fewestSo p2_traced p2_now p2_kept p2_isKept p2_acts p2_was p2_lanes p2_longs p2_isThere p2_items p2_copied p2_tape p2_readSorts p2_readHands p2_inTurn p2_ends p2_bestHands p2_traces (nI c) = some 1 := by
  have ne : ∀ j : Int32, ¬ (18 : Int32) = j → ¬ xs (nI c).toNatClampNeg &&& 31 = j := fun j z q => z (by rw [← hs]; exact q)
  obtain ⟨r, X, t1', t2', t3', t4', F', w', Y, g1, g2, g3⟩ := s_fewest (N := 7000) (u := a_p1_ways_best) (v := a_p1_ways_better) (gs := p1_ways_groups) (c1 := p1_ways_course_first) (c2 := p1_ways_course_second) (c3 := p1_ways_course_thrown) (t1 := p2_winner) (t2 := p2_throwsOf) (t3 := p2_handA) (t4 := p2_handB) (fs := p2_fewestSo) (x := (xs (nI c + 1).toNatClampNeg)) (y := (xs (nI c + 2).toNatClampNeg)) (was := p2_was) (cp := p2_copied) (I := p2_inTurn) (E := p2_ends) (bh := p2_bestHands) (G := p1_ways_group) (Tr := p1_ways_train) (B := p1_ways_best) (V := p1_ways_better) (by omega) h.hh
  rw [o_L_law]
  refine (if_neg (li_g hc hL)).trans ?_
  refine (ogd_t (li_0 hc hL)).trans ?_
  refine (if_neg (ne 0 (by decide))).trans ?_
  refine (if_neg (ne 1 (by decide))).trans ?_
  refine (if_neg (ne 2 (by decide))).trans ?_
  refine (if_neg (ne 3 (by decide))).trans ?_
  refine (if_neg (ne 4 (by decide))).trans ?_
  refine (if_neg (ne 5 (by decide))).trans ?_
  refine (if_neg (ne 6 (by decide))).trans ?_
  refine (if_neg (ne 7 (by decide))).trans ?_
  refine (if_neg (ne 8 (by decide))).trans ?_
  refine (if_neg (ne 9 (by decide))).trans ?_
  refine (if_neg (ne 10 (by decide))).trans ?_
  refine (if_neg (ne 11 (by decide))).trans ?_
  refine (if_neg (ne 12 (by decide))).trans ?_
  refine (if_neg (ne 13 (by decide))).trans ?_
  refine (if_neg (ne 14 (by decide))).trans ?_
  refine (if_neg (ne 15 (by decide))).trans ?_
  refine (if_neg (ne 16 (by decide))).trans ?_
  refine (if_neg (ne 17 (by decide))).trans ?_
  refine (if_pos hs).trans ?_
  refine (ogd_t (li_ok (i := 1) hc hL (by omega))).trans ?_
  refine (ogd_t (li_ok (i := 2) hc hL (by omega))).trans ?_
  rw [g1, Option.bind_some]
  refine (ogd_t (li_ok (i := 1) hc hL (by omega))).trans ?_
  refine (ogd_t (li_ok (i := 2) hc hL (by omega))).trans ?_
  rw [g2, Option.bind_some]
  refine (if_pos ?_).trans ?_
  · rfl
  · exact ih _ _ _ _ _ _ _ _ _ _ _ _ _ _ _ _ _ _ _ _ _ _ _ _ _ _ _ _ _ _ _ _ _ _ _ _ _ _ _ _ _ _ _ _ _ _ _ _ _ _ _ _ _ _ _ _ _ _ _ _ _ _ _ _ _ _ _ _ _ _ ⟨h.hfl, h.hst, h.hrr, h.htr, g3, h.htb, h.har, h.hir, h.htc⟩
theorem law_op_19 {L m c : Nat} {xs : Nat → Int32} {a_p1_ways_best : Nat} {a_p1_ways_better : Nat} {p1_latestFault : Int32} {p1_latestFinding : Int32} {p1_rows_lane : (Nat → Int32)} {p1_rows_size : (Nat → Int32)} {p1_rows_items : (Nat → Int32)} {p1_tape_length : Int32} {p1_tape_bytes : (Nat → Int32)} {p1_reader_value : Int32} {p1_now_players : Int32} {p1_now_round : Int32} {p1_now_time : Int32} {p1_now_kind : (Nat → Int32)} {p1_now_hand : (Nat → Int32)} {p1_now_leader : (Nat → Int32)} {p1_now_course_first : Int32} {p1_now_course_second : Int32} {p1_now_course_thrown : Int32} {p1_trial_players : Int32} {p1_trial_round : Int32} {p1_trial_time : Int32} {p1_trial_kind : (Nat → Int32)} {p1_trial_hand : (Nat → Int32)} {p1_trial_leader : (Nat → Int32)} {p1_trial_course_first : Int32} {p1_trial_course_second : Int32} {p1_trial_course_thrown : Int32} {p1_acts_kept : Int32} {p1_acts_next : Int32} {p1_acts_halls : (Nat → Int32)} {p1_ways_groups : Int32} {p1_ways_group : (Nat → Int32)} {p1_ways_train : (Nat → Int32)} {p1_ways_best : (Nat → Int32)} {p1_ways_better : (Nat → Int32)} {p1_ways_course_first : Int32} {p1_ways_course_second : Int32} {p1_ways_course_thrown : Int32} {p1_asks_length : Int32} {p1_asks_numbers : (Nat → Int32)} {p1_images : (Nat → Int32)} {p1_imageKept : (Nat → Int32)} {p2_manyActs : Int32} {p2_status : Int32} {p2_tapeLong : Int32} {p2_fault : Int32} {p2_winner : Int32} {p2_throwsOf : Int32} {p2_handA : Int32} {p2_handB : Int32} {p2_fewestSo : Int32} {p2_traced : Int32} {p2_now : (Nat → Int32)} {p2_kept : (Nat → Int32)} {p2_isKept : (Nat → Int32)} {p2_acts : (Nat → Int32)} {p2_was : (Nat → Int32)} {p2_lanes : (Nat → Int32)} {p2_longs : (Nat → Int32)} {p2_isThere : (Nat → Int32)} {p2_items : (Nat → Int32)} {p2_copied : (Nat → Int32)} {p2_tape : (Nat → Int32)} {p2_readSorts : (Nat → Int32)} {p2_readHands : (Nat → Int32)} {p2_inTurn : (Nat → Int32)} {p2_ends : (Nat → Int32)} {p2_bestHands : (Nat → Int32)} {p2_traces : (Nat → Int32)} (hc : c + 6 ≤ L) (hL : L ≤ 384) (hs : xs (nI c).toNatClampNeg &&& 31 = 19) (h : REL p1_latestFault p1_latestFinding p1_rows_lane p1_rows_size p1_rows_items p1_tape_length p1_tape_bytes p1_now_players p1_now_round p1_now_time p1_now_kind p1_now_hand p1_now_leader p1_trial_kind p1_trial_hand p1_trial_leader p1_acts_kept p1_acts_next p1_acts_halls p1_asks_length p1_asks_numbers p1_images p1_imageKept p2_manyActs p2_status p2_tapeLong p2_fault p2_traced p2_now p2_kept p2_isKept p2_acts p2_lanes p2_longs p2_isThere p2_items p2_tape p2_traces) (ih : LIH L xs m c) : o_L_law 7000 L xs (m + 1) a_p1_ways_best a_p1_ways_better p1_latestFault p1_latestFinding p1_rows_lane p1_rows_size p1_rows_items p1_tape_length p1_tape_bytes p1_reader_value p1_now_players p1_now_round p1_now_time p1_now_kind p1_now_hand p1_now_leader p1_now_course_first p1_now_course_second p1_now_course_thrown p1_trial_players p1_trial_round p1_trial_time p1_trial_kind p1_trial_hand p1_trial_leader p1_trial_course_first p1_trial_course_second p1_trial_course_thrown p1_acts_kept p1_acts_next p1_acts_halls p1_ways_groups p1_ways_group p1_ways_train p1_ways_best p1_ways_better p1_ways_course_first p1_ways_course_second p1_ways_course_thrown p1_asks_length p1_asks_numbers p1_images p1_imageKept p2_manyActs p2_status p2_tapeLong p2_fault p2_winner p2_throwsOf p2_handA p2_handB p2_fewestSo p2_traced p2_now p2_kept p2_isKept p2_acts p2_was p2_lanes p2_longs p2_isThere p2_items p2_copied p2_tape p2_readSorts p2_readHands p2_inTurn p2_ends p2_bestHands p2_traces (nI c) = some 1 := by
  have ne : ∀ j : Int32, ¬ (19 : Int32) = j → ¬ xs (nI c).toNatClampNeg &&& 31 = j := fun j z q => z (by rw [← hs]; exact q)
  obtain ⟨r, X, t1', t2', t3', t4', w', Y, g1, g2, g3, g4⟩ := s_begun (N := 7000) (tp := p1_trial_players) (tR := p1_trial_round) (tT := p1_trial_time) (c1 := p1_trial_course_first) (c2 := p1_trial_course_second) (c3 := p1_trial_course_thrown) (t1 := p2_winner) (t2 := p2_throwsOf) (t3 := p2_handA) (t4 := p2_handB) (v := p2_was) (I := p2_inTurn) (E := p2_ends) (x := (xs (nI c + 1).toNatClampNeg)) (y := (xs (nI c + 2).toNatClampNeg)) (by omega) h.htb h.hh
  rw [o_L_law]
  refine (if_neg (li_g hc hL)).trans ?_
  refine (ogd_t (li_0 hc hL)).trans ?_
  refine (if_neg (ne 0 (by decide))).trans ?_
  refine (if_neg (ne 1 (by decide))).trans ?_
  refine (if_neg (ne 2 (by decide))).trans ?_
  refine (if_neg (ne 3 (by decide))).trans ?_
  refine (if_neg (ne 4 (by decide))).trans ?_
  refine (if_neg (ne 5 (by decide))).trans ?_
  refine (if_neg (ne 6 (by decide))).trans ?_
  refine (if_neg (ne 7 (by decide))).trans ?_
  refine (if_neg (ne 8 (by decide))).trans ?_
  refine (if_neg (ne 9 (by decide))).trans ?_
  refine (if_neg (ne 10 (by decide))).trans ?_
  refine (if_neg (ne 11 (by decide))).trans ?_
  refine (if_neg (ne 12 (by decide))).trans ?_
  refine (if_neg (ne 13 (by decide))).trans ?_
  refine (if_neg (ne 14 (by decide))).trans ?_
  refine (if_neg (ne 15 (by decide))).trans ?_
  refine (if_neg (ne 16 (by decide))).trans ?_
  refine (if_neg (ne 17 (by decide))).trans ?_
  refine (if_neg (ne 18 (by decide))).trans ?_
  refine (if_pos hs).trans ?_
  refine (ogd_t (li_ok (i := 1) hc hL (by omega))).trans ?_
  refine (ogd_t (li_ok (i := 2) hc hL (by omega))).trans ?_
  rw [g1, Option.bind_some]
  refine (ogd_t (li_ok (i := 1) hc hL (by omega))).trans ?_
  refine (ogd_t (li_ok (i := 2) hc hL (by omega))).trans ?_
  rw [g2, Option.bind_some]
  refine (if_pos ?_).trans ?_
  · rfl
  · exact ih _ _ _ _ _ _ _ _ _ _ _ _ _ _ _ _ _ _ _ _ _ _ _ _ _ _ _ _ _ _ _ _ _ _ _ _ _ _ _ _ _ _ _ _ _ _ _ _ _ _ _ _ _ _ _ _ _ _ _ _ _ _ _ _ _ _ _ _ _ _ ⟨h.hfl, h.hst, h.hrr, h.htr, g3, g4, h.har, h.hir, h.htc⟩
theorem law_op_20 {L m c : Nat} {xs : Nat → Int32} {a_p1_ways_best : Nat} {a_p1_ways_better : Nat} {p1_latestFault : Int32} {p1_latestFinding : Int32} {p1_rows_lane : (Nat → Int32)} {p1_rows_size : (Nat → Int32)} {p1_rows_items : (Nat → Int32)} {p1_tape_length : Int32} {p1_tape_bytes : (Nat → Int32)} {p1_reader_value : Int32} {p1_now_players : Int32} {p1_now_round : Int32} {p1_now_time : Int32} {p1_now_kind : (Nat → Int32)} {p1_now_hand : (Nat → Int32)} {p1_now_leader : (Nat → Int32)} {p1_now_course_first : Int32} {p1_now_course_second : Int32} {p1_now_course_thrown : Int32} {p1_trial_players : Int32} {p1_trial_round : Int32} {p1_trial_time : Int32} {p1_trial_kind : (Nat → Int32)} {p1_trial_hand : (Nat → Int32)} {p1_trial_leader : (Nat → Int32)} {p1_trial_course_first : Int32} {p1_trial_course_second : Int32} {p1_trial_course_thrown : Int32} {p1_acts_kept : Int32} {p1_acts_next : Int32} {p1_acts_halls : (Nat → Int32)} {p1_ways_groups : Int32} {p1_ways_group : (Nat → Int32)} {p1_ways_train : (Nat → Int32)} {p1_ways_best : (Nat → Int32)} {p1_ways_better : (Nat → Int32)} {p1_ways_course_first : Int32} {p1_ways_course_second : Int32} {p1_ways_course_thrown : Int32} {p1_asks_length : Int32} {p1_asks_numbers : (Nat → Int32)} {p1_images : (Nat → Int32)} {p1_imageKept : (Nat → Int32)} {p2_manyActs : Int32} {p2_status : Int32} {p2_tapeLong : Int32} {p2_fault : Int32} {p2_winner : Int32} {p2_throwsOf : Int32} {p2_handA : Int32} {p2_handB : Int32} {p2_fewestSo : Int32} {p2_traced : Int32} {p2_now : (Nat → Int32)} {p2_kept : (Nat → Int32)} {p2_isKept : (Nat → Int32)} {p2_acts : (Nat → Int32)} {p2_was : (Nat → Int32)} {p2_lanes : (Nat → Int32)} {p2_longs : (Nat → Int32)} {p2_isThere : (Nat → Int32)} {p2_items : (Nat → Int32)} {p2_copied : (Nat → Int32)} {p2_tape : (Nat → Int32)} {p2_readSorts : (Nat → Int32)} {p2_readHands : (Nat → Int32)} {p2_inTurn : (Nat → Int32)} {p2_ends : (Nat → Int32)} {p2_bestHands : (Nat → Int32)} {p2_traces : (Nat → Int32)} (hc : c + 6 ≤ L) (hL : L ≤ 384) (hs : xs (nI c).toNatClampNeg &&& 31 = 20) (h : REL p1_latestFault p1_latestFinding p1_rows_lane p1_rows_size p1_rows_items p1_tape_length p1_tape_bytes p1_now_players p1_now_round p1_now_time p1_now_kind p1_now_hand p1_now_leader p1_trial_kind p1_trial_hand p1_trial_leader p1_acts_kept p1_acts_next p1_acts_halls p1_asks_length p1_asks_numbers p1_images p1_imageKept p2_manyActs p2_status p2_tapeLong p2_fault p2_traced p2_now p2_kept p2_isKept p2_acts p2_lanes p2_longs p2_isThere p2_items p2_tape p2_traces) (ih : LIH L xs m c) : o_L_law 7000 L xs (m + 1) a_p1_ways_best a_p1_ways_better p1_latestFault p1_latestFinding p1_rows_lane p1_rows_size p1_rows_items p1_tape_length p1_tape_bytes p1_reader_value p1_now_players p1_now_round p1_now_time p1_now_kind p1_now_hand p1_now_leader p1_now_course_first p1_now_course_second p1_now_course_thrown p1_trial_players p1_trial_round p1_trial_time p1_trial_kind p1_trial_hand p1_trial_leader p1_trial_course_first p1_trial_course_second p1_trial_course_thrown p1_acts_kept p1_acts_next p1_acts_halls p1_ways_groups p1_ways_group p1_ways_train p1_ways_best p1_ways_better p1_ways_course_first p1_ways_course_second p1_ways_course_thrown p1_asks_length p1_asks_numbers p1_images p1_imageKept p2_manyActs p2_status p2_tapeLong p2_fault p2_winner p2_throwsOf p2_handA p2_handB p2_fewestSo p2_traced p2_now p2_kept p2_isKept p2_acts p2_was p2_lanes p2_longs p2_isThere p2_items p2_copied p2_tape p2_readSorts p2_readHands p2_inTurn p2_ends p2_bestHands p2_traces (nI c) = some 1 := by
  have ne : ∀ j : Int32, ¬ (20 : Int32) = j → ¬ xs (nI c).toNatClampNeg &&& 31 = j := fun j z q => z (by rw [← hs]; exact q)
  obtain ⟨r, g1⟩ := odds_some (h := (xs (nI c + 1).toNatClampNeg)) (x := (xs (nI c + 2).toNatClampNeg)) (y := (xs (nI c + 3).toNatClampNeg)) (z := (xs (nI c + 4).toNatClampNeg)) (w := (xs (nI c + 5).toNatClampNeg))
  rw [o_L_law]
  refine (if_neg (li_g hc hL)).trans ?_
  refine (ogd_t (li_0 hc hL)).trans ?_
  refine (if_neg (ne 0 (by decide))).trans ?_
  refine (if_neg (ne 1 (by decide))).trans ?_
  refine (if_neg (ne 2 (by decide))).trans ?_
  refine (if_neg (ne 3 (by decide))).trans ?_
  refine (if_neg (ne 4 (by decide))).trans ?_
  refine (if_neg (ne 5 (by decide))).trans ?_
  refine (if_neg (ne 6 (by decide))).trans ?_
  refine (if_neg (ne 7 (by decide))).trans ?_
  refine (if_neg (ne 8 (by decide))).trans ?_
  refine (if_neg (ne 9 (by decide))).trans ?_
  refine (if_neg (ne 10 (by decide))).trans ?_
  refine (if_neg (ne 11 (by decide))).trans ?_
  refine (if_neg (ne 12 (by decide))).trans ?_
  refine (if_neg (ne 13 (by decide))).trans ?_
  refine (if_neg (ne 14 (by decide))).trans ?_
  refine (if_neg (ne 15 (by decide))).trans ?_
  refine (if_neg (ne 16 (by decide))).trans ?_
  refine (if_neg (ne 17 (by decide))).trans ?_
  refine (if_neg (ne 18 (by decide))).trans ?_
  refine (if_neg (ne 19 (by decide))).trans ?_
  refine (if_pos hs).trans ?_
  refine (ogd_t (li_ok (i := 1) hc hL (by omega))).trans ?_
  refine (ogd_t (li_ok (i := 2) hc hL (by omega))).trans ?_
  refine (ogd_t (li_ok (i := 3) hc hL (by omega))).trans ?_
  refine (ogd_t (li_ok (i := 4) hc hL (by omega))).trans ?_
  refine (ogd_t (li_ok (i := 5) hc hL (by omega))).trans ?_
  rw [← s_odds, g1, Option.bind_some]
  refine (ogd_t (li_ok (i := 1) hc hL (by omega))).trans ?_
  refine (ogd_t (li_ok (i := 2) hc hL (by omega))).trans ?_
  refine (ogd_t (li_ok (i := 3) hc hL (by omega))).trans ?_
  refine (ogd_t (li_ok (i := 4) hc hL (by omega))).trans ?_
  refine (ogd_t (li_ok (i := 5) hc hL (by omega))).trans ?_
  rw [Option.bind_some]
  refine (if_pos ?_).trans ?_
  · rfl
  · exact ih _ _ _ _ _ _ _ _ _ _ _ _ _ _ _ _ _ _ _ _ _ _ _ _ _ _ _ _ _ _ _ _ _ _ _ _ _ _ _ _ _ _ _ _ _ _ _ _ _ _ _ _ _ _ _ _ _ _ _ _ _ _ _ _ _ _ _ _ _ _ ⟨h.hfl, h.hst, h.hrr, h.htr, h.hh, h.htb, h.har, h.hir, h.htc⟩
theorem law_op_21 {L m c : Nat} {xs : Nat → Int32} {a_p1_ways_best : Nat} {a_p1_ways_better : Nat} {p1_latestFault : Int32} {p1_latestFinding : Int32} {p1_rows_lane : (Nat → Int32)} {p1_rows_size : (Nat → Int32)} {p1_rows_items : (Nat → Int32)} {p1_tape_length : Int32} {p1_tape_bytes : (Nat → Int32)} {p1_reader_value : Int32} {p1_now_players : Int32} {p1_now_round : Int32} {p1_now_time : Int32} {p1_now_kind : (Nat → Int32)} {p1_now_hand : (Nat → Int32)} {p1_now_leader : (Nat → Int32)} {p1_now_course_first : Int32} {p1_now_course_second : Int32} {p1_now_course_thrown : Int32} {p1_trial_players : Int32} {p1_trial_round : Int32} {p1_trial_time : Int32} {p1_trial_kind : (Nat → Int32)} {p1_trial_hand : (Nat → Int32)} {p1_trial_leader : (Nat → Int32)} {p1_trial_course_first : Int32} {p1_trial_course_second : Int32} {p1_trial_course_thrown : Int32} {p1_acts_kept : Int32} {p1_acts_next : Int32} {p1_acts_halls : (Nat → Int32)} {p1_ways_groups : Int32} {p1_ways_group : (Nat → Int32)} {p1_ways_train : (Nat → Int32)} {p1_ways_best : (Nat → Int32)} {p1_ways_better : (Nat → Int32)} {p1_ways_course_first : Int32} {p1_ways_course_second : Int32} {p1_ways_course_thrown : Int32} {p1_asks_length : Int32} {p1_asks_numbers : (Nat → Int32)} {p1_images : (Nat → Int32)} {p1_imageKept : (Nat → Int32)} {p2_manyActs : Int32} {p2_status : Int32} {p2_tapeLong : Int32} {p2_fault : Int32} {p2_winner : Int32} {p2_throwsOf : Int32} {p2_handA : Int32} {p2_handB : Int32} {p2_fewestSo : Int32} {p2_traced : Int32} {p2_now : (Nat → Int32)} {p2_kept : (Nat → Int32)} {p2_isKept : (Nat → Int32)} {p2_acts : (Nat → Int32)} {p2_was : (Nat → Int32)} {p2_lanes : (Nat → Int32)} {p2_longs : (Nat → Int32)} {p2_isThere : (Nat → Int32)} {p2_items : (Nat → Int32)} {p2_copied : (Nat → Int32)} {p2_tape : (Nat → Int32)} {p2_readSorts : (Nat → Int32)} {p2_readHands : (Nat → Int32)} {p2_inTurn : (Nat → Int32)} {p2_ends : (Nat → Int32)} {p2_bestHands : (Nat → Int32)} {p2_traces : (Nat → Int32)} (hc : c + 6 ≤ L) (hL : L ≤ 384) (hs : xs (nI c).toNatClampNeg &&& 31 = 21) (h : REL p1_latestFault p1_latestFinding p1_rows_lane p1_rows_size p1_rows_items p1_tape_length p1_tape_bytes p1_now_players p1_now_round p1_now_time p1_now_kind p1_now_hand p1_now_leader p1_trial_kind p1_trial_hand p1_trial_leader p1_acts_kept p1_acts_next p1_acts_halls p1_asks_length p1_asks_numbers p1_images p1_imageKept p2_manyActs p2_status p2_tapeLong p2_fault p2_traced p2_now p2_kept p2_isKept p2_acts p2_lanes p2_longs p2_isThere p2_items p2_tape p2_traces) (ih : LIH L xs m c) : o_L_law 7000 L xs (m + 1) a_p1_ways_best a_p1_ways_better p1_latestFault p1_latestFinding p1_rows_lane p1_rows_size p1_rows_items p1_tape_length p1_tape_bytes p1_reader_value p1_now_players p1_now_round p1_now_time p1_now_kind p1_now_hand p1_now_leader p1_now_course_first p1_now_course_second p1_now_course_thrown p1_trial_players p1_trial_round p1_trial_time p1_trial_kind p1_trial_hand p1_trial_leader p1_trial_course_first p1_trial_course_second p1_trial_course_thrown p1_acts_kept p1_acts_next p1_acts_halls p1_ways_groups p1_ways_group p1_ways_train p1_ways_best p1_ways_better p1_ways_course_first p1_ways_course_second p1_ways_course_thrown p1_asks_length p1_asks_numbers p1_images p1_imageKept p2_manyActs p2_status p2_tapeLong p2_fault p2_winner p2_throwsOf p2_handA p2_handB p2_fewestSo p2_traced p2_now p2_kept p2_isKept p2_acts p2_was p2_lanes p2_longs p2_isThere p2_items p2_copied p2_tape p2_readSorts p2_readHands p2_inTurn p2_ends p2_bestHands p2_traces (nI c) = some 1 := by
  have ne : ∀ j : Int32, ¬ (21 : Int32) = j → ¬ xs (nI c).toNatClampNeg &&& 31 = j := fun j z q => z (by rw [← hs]; exact q)
  obtain ⟨r, g1⟩ := gain_some (x := (xs (nI c + 1).toNatClampNeg)) (y := (xs (nI c + 2).toNatClampNeg)) (z := (xs (nI c + 3).toNatClampNeg))
  rw [o_L_law]
  refine (if_neg (li_g hc hL)).trans ?_
  refine (ogd_t (li_0 hc hL)).trans ?_
  refine (if_neg (ne 0 (by decide))).trans ?_
  refine (if_neg (ne 1 (by decide))).trans ?_
  refine (if_neg (ne 2 (by decide))).trans ?_
  refine (if_neg (ne 3 (by decide))).trans ?_
  refine (if_neg (ne 4 (by decide))).trans ?_
  refine (if_neg (ne 5 (by decide))).trans ?_
  refine (if_neg (ne 6 (by decide))).trans ?_
  refine (if_neg (ne 7 (by decide))).trans ?_
  refine (if_neg (ne 8 (by decide))).trans ?_
  refine (if_neg (ne 9 (by decide))).trans ?_
  refine (if_neg (ne 10 (by decide))).trans ?_
  refine (if_neg (ne 11 (by decide))).trans ?_
  refine (if_neg (ne 12 (by decide))).trans ?_
  refine (if_neg (ne 13 (by decide))).trans ?_
  refine (if_neg (ne 14 (by decide))).trans ?_
  refine (if_neg (ne 15 (by decide))).trans ?_
  refine (if_neg (ne 16 (by decide))).trans ?_
  refine (if_neg (ne 17 (by decide))).trans ?_
  refine (if_neg (ne 18 (by decide))).trans ?_
  refine (if_neg (ne 19 (by decide))).trans ?_
  refine (if_neg (ne 20 (by decide))).trans ?_
  refine (if_pos hs).trans ?_
  refine (ogd_t (li_ok (i := 1) hc hL (by omega))).trans ?_
  refine (ogd_t (li_ok (i := 2) hc hL (by omega))).trans ?_
  refine (ogd_t (li_ok (i := 3) hc hL (by omega))).trans ?_
  rw [← s_gain, g1, Option.bind_some]
  refine (ogd_t (li_ok (i := 1) hc hL (by omega))).trans ?_
  refine (ogd_t (li_ok (i := 2) hc hL (by omega))).trans ?_
  refine (ogd_t (li_ok (i := 3) hc hL (by omega))).trans ?_
  rw [Option.bind_some]
  refine (if_pos ?_).trans ?_
  · rfl
  · exact ih _ _ _ _ _ _ _ _ _ _ _ _ _ _ _ _ _ _ _ _ _ _ _ _ _ _ _ _ _ _ _ _ _ _ _ _ _ _ _ _ _ _ _ _ _ _ _ _ _ _ _ _ _ _ _ _ _ _ _ _ _ _ _ _ _ _ _ _ _ _ ⟨h.hfl, h.hst, h.hrr, h.htr, h.hh, h.htb, h.har, h.hir, h.htc⟩
theorem law_op_22 {L m c : Nat} {xs : Nat → Int32} {a_p1_ways_best : Nat} {a_p1_ways_better : Nat} {p1_latestFault : Int32} {p1_latestFinding : Int32} {p1_rows_lane : (Nat → Int32)} {p1_rows_size : (Nat → Int32)} {p1_rows_items : (Nat → Int32)} {p1_tape_length : Int32} {p1_tape_bytes : (Nat → Int32)} {p1_reader_value : Int32} {p1_now_players : Int32} {p1_now_round : Int32} {p1_now_time : Int32} {p1_now_kind : (Nat → Int32)} {p1_now_hand : (Nat → Int32)} {p1_now_leader : (Nat → Int32)} {p1_now_course_first : Int32} {p1_now_course_second : Int32} {p1_now_course_thrown : Int32} {p1_trial_players : Int32} {p1_trial_round : Int32} {p1_trial_time : Int32} {p1_trial_kind : (Nat → Int32)} {p1_trial_hand : (Nat → Int32)} {p1_trial_leader : (Nat → Int32)} {p1_trial_course_first : Int32} {p1_trial_course_second : Int32} {p1_trial_course_thrown : Int32} {p1_acts_kept : Int32} {p1_acts_next : Int32} {p1_acts_halls : (Nat → Int32)} {p1_ways_groups : Int32} {p1_ways_group : (Nat → Int32)} {p1_ways_train : (Nat → Int32)} {p1_ways_best : (Nat → Int32)} {p1_ways_better : (Nat → Int32)} {p1_ways_course_first : Int32} {p1_ways_course_second : Int32} {p1_ways_course_thrown : Int32} {p1_asks_length : Int32} {p1_asks_numbers : (Nat → Int32)} {p1_images : (Nat → Int32)} {p1_imageKept : (Nat → Int32)} {p2_manyActs : Int32} {p2_status : Int32} {p2_tapeLong : Int32} {p2_fault : Int32} {p2_winner : Int32} {p2_throwsOf : Int32} {p2_handA : Int32} {p2_handB : Int32} {p2_fewestSo : Int32} {p2_traced : Int32} {p2_now : (Nat → Int32)} {p2_kept : (Nat → Int32)} {p2_isKept : (Nat → Int32)} {p2_acts : (Nat → Int32)} {p2_was : (Nat → Int32)} {p2_lanes : (Nat → Int32)} {p2_longs : (Nat → Int32)} {p2_isThere : (Nat → Int32)} {p2_items : (Nat → Int32)} {p2_copied : (Nat → Int32)} {p2_tape : (Nat → Int32)} {p2_readSorts : (Nat → Int32)} {p2_readHands : (Nat → Int32)} {p2_inTurn : (Nat → Int32)} {p2_ends : (Nat → Int32)} {p2_bestHands : (Nat → Int32)} {p2_traces : (Nat → Int32)} (hc : c + 6 ≤ L) (hL : L ≤ 384) (hs : xs (nI c).toNatClampNeg &&& 31 = 22) (h : REL p1_latestFault p1_latestFinding p1_rows_lane p1_rows_size p1_rows_items p1_tape_length p1_tape_bytes p1_now_players p1_now_round p1_now_time p1_now_kind p1_now_hand p1_now_leader p1_trial_kind p1_trial_hand p1_trial_leader p1_acts_kept p1_acts_next p1_acts_halls p1_asks_length p1_asks_numbers p1_images p1_imageKept p2_manyActs p2_status p2_tapeLong p2_fault p2_traced p2_now p2_kept p2_isKept p2_acts p2_lanes p2_longs p2_isThere p2_items p2_tape p2_traces) (ih : LIH L xs m c) : o_L_law 7000 L xs (m + 1) a_p1_ways_best a_p1_ways_better p1_latestFault p1_latestFinding p1_rows_lane p1_rows_size p1_rows_items p1_tape_length p1_tape_bytes p1_reader_value p1_now_players p1_now_round p1_now_time p1_now_kind p1_now_hand p1_now_leader p1_now_course_first p1_now_course_second p1_now_course_thrown p1_trial_players p1_trial_round p1_trial_time p1_trial_kind p1_trial_hand p1_trial_leader p1_trial_course_first p1_trial_course_second p1_trial_course_thrown p1_acts_kept p1_acts_next p1_acts_halls p1_ways_groups p1_ways_group p1_ways_train p1_ways_best p1_ways_better p1_ways_course_first p1_ways_course_second p1_ways_course_thrown p1_asks_length p1_asks_numbers p1_images p1_imageKept p2_manyActs p2_status p2_tapeLong p2_fault p2_winner p2_throwsOf p2_handA p2_handB p2_fewestSo p2_traced p2_now p2_kept p2_isKept p2_acts p2_was p2_lanes p2_longs p2_isThere p2_items p2_copied p2_tape p2_readSorts p2_readHands p2_inTurn p2_ends p2_bestHands p2_traces (nI c) = some 1 := by
  have ne : ∀ j : Int32, ¬ (22 : Int32) = j → ¬ xs (nI c).toNatClampNeg &&& 31 = j := fun j z q => z (by rw [← hs]; exact q)
  obtain ⟨r, A', F', B', G', g1, g2, g3⟩ := s_image (N := 7000) (x := (xs (nI c + 1).toNatClampNeg)) (by omega) h.hir h.hh
  rw [o_L_law]
  refine (if_neg (li_g hc hL)).trans ?_
  refine (ogd_t (li_0 hc hL)).trans ?_
  refine (if_neg (ne 0 (by decide))).trans ?_
  refine (if_neg (ne 1 (by decide))).trans ?_
  refine (if_neg (ne 2 (by decide))).trans ?_
  refine (if_neg (ne 3 (by decide))).trans ?_
  refine (if_neg (ne 4 (by decide))).trans ?_
  refine (if_neg (ne 5 (by decide))).trans ?_
  refine (if_neg (ne 6 (by decide))).trans ?_
  refine (if_neg (ne 7 (by decide))).trans ?_
  refine (if_neg (ne 8 (by decide))).trans ?_
  refine (if_neg (ne 9 (by decide))).trans ?_
  refine (if_neg (ne 10 (by decide))).trans ?_
  refine (if_neg (ne 11 (by decide))).trans ?_
  refine (if_neg (ne 12 (by decide))).trans ?_
  refine (if_neg (ne 13 (by decide))).trans ?_
  refine (if_neg (ne 14 (by decide))).trans ?_
  refine (if_neg (ne 15 (by decide))).trans ?_
  refine (if_neg (ne 16 (by decide))).trans ?_
  refine (if_neg (ne 17 (by decide))).trans ?_
  refine (if_neg (ne 18 (by decide))).trans ?_
  refine (if_neg (ne 19 (by decide))).trans ?_
  refine (if_neg (ne 20 (by decide))).trans ?_
  refine (if_neg (ne 21 (by decide))).trans ?_
  refine (if_pos hs).trans ?_
  refine (ogd_t (li_ok (i := 1) hc hL (by omega))).trans ?_
  rw [g1, Option.bind_some]
  refine (ogd_t (li_ok (i := 1) hc hL (by omega))).trans ?_
  rw [g2, Option.bind_some]
  refine (if_pos ?_).trans ?_
  · rfl
  · exact ih _ _ _ _ _ _ _ _ _ _ _ _ _ _ _ _ _ _ _ _ _ _ _ _ _ _ _ _ _ _ _ _ _ _ _ _ _ _ _ _ _ _ _ _ _ _ _ _ _ _ _ _ _ _ _ _ _ _ _ _ _ _ _ _ _ _ _ _ _ _ ⟨h.hfl, h.hst, h.hrr, h.htr, h.hh, h.htb, h.har, g3, h.htc⟩
theorem law_op_23 {L m c : Nat} {xs : Nat → Int32} {a_p1_ways_best : Nat} {a_p1_ways_better : Nat} {p1_latestFault : Int32} {p1_latestFinding : Int32} {p1_rows_lane : (Nat → Int32)} {p1_rows_size : (Nat → Int32)} {p1_rows_items : (Nat → Int32)} {p1_tape_length : Int32} {p1_tape_bytes : (Nat → Int32)} {p1_reader_value : Int32} {p1_now_players : Int32} {p1_now_round : Int32} {p1_now_time : Int32} {p1_now_kind : (Nat → Int32)} {p1_now_hand : (Nat → Int32)} {p1_now_leader : (Nat → Int32)} {p1_now_course_first : Int32} {p1_now_course_second : Int32} {p1_now_course_thrown : Int32} {p1_trial_players : Int32} {p1_trial_round : Int32} {p1_trial_time : Int32} {p1_trial_kind : (Nat → Int32)} {p1_trial_hand : (Nat → Int32)} {p1_trial_leader : (Nat → Int32)} {p1_trial_course_first : Int32} {p1_trial_course_second : Int32} {p1_trial_course_thrown : Int32} {p1_acts_kept : Int32} {p1_acts_next : Int32} {p1_acts_halls : (Nat → Int32)} {p1_ways_groups : Int32} {p1_ways_group : (Nat → Int32)} {p1_ways_train : (Nat → Int32)} {p1_ways_best : (Nat → Int32)} {p1_ways_better : (Nat → Int32)} {p1_ways_course_first : Int32} {p1_ways_course_second : Int32} {p1_ways_course_thrown : Int32} {p1_asks_length : Int32} {p1_asks_numbers : (Nat → Int32)} {p1_images : (Nat → Int32)} {p1_imageKept : (Nat → Int32)} {p2_manyActs : Int32} {p2_status : Int32} {p2_tapeLong : Int32} {p2_fault : Int32} {p2_winner : Int32} {p2_throwsOf : Int32} {p2_handA : Int32} {p2_handB : Int32} {p2_fewestSo : Int32} {p2_traced : Int32} {p2_now : (Nat → Int32)} {p2_kept : (Nat → Int32)} {p2_isKept : (Nat → Int32)} {p2_acts : (Nat → Int32)} {p2_was : (Nat → Int32)} {p2_lanes : (Nat → Int32)} {p2_longs : (Nat → Int32)} {p2_isThere : (Nat → Int32)} {p2_items : (Nat → Int32)} {p2_copied : (Nat → Int32)} {p2_tape : (Nat → Int32)} {p2_readSorts : (Nat → Int32)} {p2_readHands : (Nat → Int32)} {p2_inTurn : (Nat → Int32)} {p2_ends : (Nat → Int32)} {p2_bestHands : (Nat → Int32)} {p2_traces : (Nat → Int32)} (hc : c + 6 ≤ L) (hL : L ≤ 384) (hs : xs (nI c).toNatClampNeg &&& 31 = 23) (h : REL p1_latestFault p1_latestFinding p1_rows_lane p1_rows_size p1_rows_items p1_tape_length p1_tape_bytes p1_now_players p1_now_round p1_now_time p1_now_kind p1_now_hand p1_now_leader p1_trial_kind p1_trial_hand p1_trial_leader p1_acts_kept p1_acts_next p1_acts_halls p1_asks_length p1_asks_numbers p1_images p1_imageKept p2_manyActs p2_status p2_tapeLong p2_fault p2_traced p2_now p2_kept p2_isKept p2_acts p2_lanes p2_longs p2_isThere p2_items p2_tape p2_traces) (ih : LIH L xs m c) : o_L_law 7000 L xs (m + 1) a_p1_ways_best a_p1_ways_better p1_latestFault p1_latestFinding p1_rows_lane p1_rows_size p1_rows_items p1_tape_length p1_tape_bytes p1_reader_value p1_now_players p1_now_round p1_now_time p1_now_kind p1_now_hand p1_now_leader p1_now_course_first p1_now_course_second p1_now_course_thrown p1_trial_players p1_trial_round p1_trial_time p1_trial_kind p1_trial_hand p1_trial_leader p1_trial_course_first p1_trial_course_second p1_trial_course_thrown p1_acts_kept p1_acts_next p1_acts_halls p1_ways_groups p1_ways_group p1_ways_train p1_ways_best p1_ways_better p1_ways_course_first p1_ways_course_second p1_ways_course_thrown p1_asks_length p1_asks_numbers p1_images p1_imageKept p2_manyActs p2_status p2_tapeLong p2_fault p2_winner p2_throwsOf p2_handA p2_handB p2_fewestSo p2_traced p2_now p2_kept p2_isKept p2_acts p2_was p2_lanes p2_longs p2_isThere p2_items p2_copied p2_tape p2_readSorts p2_readHands p2_inTurn p2_ends p2_bestHands p2_traces (nI c) = some 1 := by
  have ne : ∀ j : Int32, ¬ (23 : Int32) = j → ¬ xs (nI c).toNatClampNeg &&& 31 = j := fun j z q => z (by rw [← hs]; exact q)
  obtain ⟨r, xp', R', T', K', D', L', xk', w', g1, g2, g3, g4⟩ := s_restore (N := 7000) (x := (xs (nI c + 1).toNatClampNeg)) (by omega) h.har h.hir h.hh
  rw [o_L_law]
  refine (if_neg (li_g hc hL)).trans ?_
  refine (ogd_t (li_0 hc hL)).trans ?_
  refine (if_neg (ne 0 (by decide))).trans ?_
  refine (if_neg (ne 1 (by decide))).trans ?_
  refine (if_neg (ne 2 (by decide))).trans ?_
  refine (if_neg (ne 3 (by decide))).trans ?_
  refine (if_neg (ne 4 (by decide))).trans ?_
  refine (if_neg (ne 5 (by decide))).trans ?_
  refine (if_neg (ne 6 (by decide))).trans ?_
  refine (if_neg (ne 7 (by decide))).trans ?_
  refine (if_neg (ne 8 (by decide))).trans ?_
  refine (if_neg (ne 9 (by decide))).trans ?_
  refine (if_neg (ne 10 (by decide))).trans ?_
  refine (if_neg (ne 11 (by decide))).trans ?_
  refine (if_neg (ne 12 (by decide))).trans ?_
  refine (if_neg (ne 13 (by decide))).trans ?_
  refine (if_neg (ne 14 (by decide))).trans ?_
  refine (if_neg (ne 15 (by decide))).trans ?_
  refine (if_neg (ne 16 (by decide))).trans ?_
  refine (if_neg (ne 17 (by decide))).trans ?_
  refine (if_neg (ne 18 (by decide))).trans ?_
  refine (if_neg (ne 19 (by decide))).trans ?_
  refine (if_neg (ne 20 (by decide))).trans ?_
  refine (if_neg (ne 21 (by decide))).trans ?_
  refine (if_neg (ne 22 (by decide))).trans ?_
  refine (if_pos hs).trans ?_
  refine (ogd_t (li_ok (i := 1) hc hL (by omega))).trans ?_
  rw [g1, Option.bind_some]
  refine (ogd_t (li_ok (i := 1) hc hL (by omega))).trans ?_
  rw [g2, Option.bind_some]
  refine (if_pos ?_).trans ?_
  · rfl
  · exact ih _ _ _ _ _ _ _ _ _ _ _ _ _ _ _ _ _ _ _ _ _ _ _ _ _ _ _ _ _ _ _ _ _ _ _ _ _ _ _ _ _ _ _ _ _ _ _ _ _ _ _ _ _ _ _ _ _ _ _ _ _ _ _ _ _ _ _ _ _ _ ⟨h.hfl, h.hst, h.hrr, h.htr, g4, h.htb, g3, h.hir, h.htc⟩
theorem law_op_24 {L m c : Nat} {xs : Nat → Int32} {a_p1_ways_best : Nat} {a_p1_ways_better : Nat} {p1_latestFault : Int32} {p1_latestFinding : Int32} {p1_rows_lane : (Nat → Int32)} {p1_rows_size : (Nat → Int32)} {p1_rows_items : (Nat → Int32)} {p1_tape_length : Int32} {p1_tape_bytes : (Nat → Int32)} {p1_reader_value : Int32} {p1_now_players : Int32} {p1_now_round : Int32} {p1_now_time : Int32} {p1_now_kind : (Nat → Int32)} {p1_now_hand : (Nat → Int32)} {p1_now_leader : (Nat → Int32)} {p1_now_course_first : Int32} {p1_now_course_second : Int32} {p1_now_course_thrown : Int32} {p1_trial_players : Int32} {p1_trial_round : Int32} {p1_trial_time : Int32} {p1_trial_kind : (Nat → Int32)} {p1_trial_hand : (Nat → Int32)} {p1_trial_leader : (Nat → Int32)} {p1_trial_course_first : Int32} {p1_trial_course_second : Int32} {p1_trial_course_thrown : Int32} {p1_acts_kept : Int32} {p1_acts_next : Int32} {p1_acts_halls : (Nat → Int32)} {p1_ways_groups : Int32} {p1_ways_group : (Nat → Int32)} {p1_ways_train : (Nat → Int32)} {p1_ways_best : (Nat → Int32)} {p1_ways_better : (Nat → Int32)} {p1_ways_course_first : Int32} {p1_ways_course_second : Int32} {p1_ways_course_thrown : Int32} {p1_asks_length : Int32} {p1_asks_numbers : (Nat → Int32)} {p1_images : (Nat → Int32)} {p1_imageKept : (Nat → Int32)} {p2_manyActs : Int32} {p2_status : Int32} {p2_tapeLong : Int32} {p2_fault : Int32} {p2_winner : Int32} {p2_throwsOf : Int32} {p2_handA : Int32} {p2_handB : Int32} {p2_fewestSo : Int32} {p2_traced : Int32} {p2_now : (Nat → Int32)} {p2_kept : (Nat → Int32)} {p2_isKept : (Nat → Int32)} {p2_acts : (Nat → Int32)} {p2_was : (Nat → Int32)} {p2_lanes : (Nat → Int32)} {p2_longs : (Nat → Int32)} {p2_isThere : (Nat → Int32)} {p2_items : (Nat → Int32)} {p2_copied : (Nat → Int32)} {p2_tape : (Nat → Int32)} {p2_readSorts : (Nat → Int32)} {p2_readHands : (Nat → Int32)} {p2_inTurn : (Nat → Int32)} {p2_ends : (Nat → Int32)} {p2_bestHands : (Nat → Int32)} {p2_traces : (Nat → Int32)} (hc : c + 6 ≤ L) (hL : L ≤ 384) (hs : xs (nI c).toNatClampNeg &&& 31 = 24) (h : REL p1_latestFault p1_latestFinding p1_rows_lane p1_rows_size p1_rows_items p1_tape_length p1_tape_bytes p1_now_players p1_now_round p1_now_time p1_now_kind p1_now_hand p1_now_leader p1_trial_kind p1_trial_hand p1_trial_leader p1_acts_kept p1_acts_next p1_acts_halls p1_asks_length p1_asks_numbers p1_images p1_imageKept p2_manyActs p2_status p2_tapeLong p2_fault p2_traced p2_now p2_kept p2_isKept p2_acts p2_lanes p2_longs p2_isThere p2_items p2_tape p2_traces) (ih : LIH L xs m c) : o_L_law 7000 L xs (m + 1) a_p1_ways_best a_p1_ways_better p1_latestFault p1_latestFinding p1_rows_lane p1_rows_size p1_rows_items p1_tape_length p1_tape_bytes p1_reader_value p1_now_players p1_now_round p1_now_time p1_now_kind p1_now_hand p1_now_leader p1_now_course_first p1_now_course_second p1_now_course_thrown p1_trial_players p1_trial_round p1_trial_time p1_trial_kind p1_trial_hand p1_trial_leader p1_trial_course_first p1_trial_course_second p1_trial_course_thrown p1_acts_kept p1_acts_next p1_acts_halls p1_ways_groups p1_ways_group p1_ways_train p1_ways_best p1_ways_better p1_ways_course_first p1_ways_course_second p1_ways_course_thrown p1_asks_length p1_asks_numbers p1_images p1_imageKept p2_manyActs p2_status p2_tapeLong p2_fault p2_winner p2_throwsOf p2_handA p2_handB p2_fewestSo p2_traced p2_now p2_kept p2_isKept p2_acts p2_was p2_lanes p2_longs p2_isThere p2_items p2_copied p2_tape p2_readSorts p2_readHands p2_inTurn p2_ends p2_bestHands p2_traces (nI c) = some 1 := by
  have ne : ∀ j : Int32, ¬ (24 : Int32) = j → ¬ xs (nI c).toNatClampNeg &&& 31 = j := fun j z q => z (by rw [← hs]; exact q)
  obtain ⟨r, g1, g2⟩ := s_kind (N := 7000) (x := (xs (nI c + 1).toNatClampNeg)) h.hh
  rw [o_L_law]
  refine (if_neg (li_g hc hL)).trans ?_
  refine (ogd_t (li_0 hc hL)).trans ?_
  refine (if_neg (ne 0 (by decide))).trans ?_
  refine (if_neg (ne 1 (by decide))).trans ?_
  refine (if_neg (ne 2 (by decide))).trans ?_
  refine (if_neg (ne 3 (by decide))).trans ?_
  refine (if_neg (ne 4 (by decide))).trans ?_
  refine (if_neg (ne 5 (by decide))).trans ?_
  refine (if_neg (ne 6 (by decide))).trans ?_
  refine (if_neg (ne 7 (by decide))).trans ?_
  refine (if_neg (ne 8 (by decide))).trans ?_
  refine (if_neg (ne 9 (by decide))).trans ?_
  refine (if_neg (ne 10 (by decide))).trans ?_
  refine (if_neg (ne 11 (by decide))).trans ?_
  refine (if_neg (ne 12 (by decide))).trans ?_
  refine (if_neg (ne 13 (by decide))).trans ?_
  refine (if_neg (ne 14 (by decide))).trans ?_
  refine (if_neg (ne 15 (by decide))).trans ?_
  refine (if_neg (ne 16 (by decide))).trans ?_
  refine (if_neg (ne 17 (by decide))).trans ?_
  refine (if_neg (ne 18 (by decide))).trans ?_
  refine (if_neg (ne 19 (by decide))).trans ?_
  refine (if_neg (ne 20 (by decide))).trans ?_
  refine (if_neg (ne 21 (by decide))).trans ?_
  refine (if_neg (ne 22 (by decide))).trans ?_
  refine (if_neg (ne 23 (by decide))).trans ?_
  refine (if_pos hs).trans ?_
  refine (ogd_t (li_ok (i := 1) hc hL (by omega))).trans ?_
  rw [g1, Option.bind_some]
  refine (ogd_t (li_ok (i := 1) hc hL (by omega))).trans ?_
  rw [g2, Option.bind_some]
  refine (if_pos ?_).trans ?_
  · rfl
  · exact ih _ _ _ _ _ _ _ _ _ _ _ _ _ _ _ _ _ _ _ _ _ _ _ _ _ _ _ _ _ _ _ _ _ _ _ _ _ _ _ _ _ _ _ _ _ _ _ _ _ _ _ _ _ _ _ _ _ _ _ _ _ _ _ _ _ _ _ _ _ _ ⟨h.hfl, h.hst, h.hrr, h.htr, h.hh, h.htb, h.har, h.hir, h.htc⟩
theorem law_op_25 {L m c : Nat} {xs : Nat → Int32} {a_p1_ways_best : Nat} {a_p1_ways_better : Nat} {p1_latestFault : Int32} {p1_latestFinding : Int32} {p1_rows_lane : (Nat → Int32)} {p1_rows_size : (Nat → Int32)} {p1_rows_items : (Nat → Int32)} {p1_tape_length : Int32} {p1_tape_bytes : (Nat → Int32)} {p1_reader_value : Int32} {p1_now_players : Int32} {p1_now_round : Int32} {p1_now_time : Int32} {p1_now_kind : (Nat → Int32)} {p1_now_hand : (Nat → Int32)} {p1_now_leader : (Nat → Int32)} {p1_now_course_first : Int32} {p1_now_course_second : Int32} {p1_now_course_thrown : Int32} {p1_trial_players : Int32} {p1_trial_round : Int32} {p1_trial_time : Int32} {p1_trial_kind : (Nat → Int32)} {p1_trial_hand : (Nat → Int32)} {p1_trial_leader : (Nat → Int32)} {p1_trial_course_first : Int32} {p1_trial_course_second : Int32} {p1_trial_course_thrown : Int32} {p1_acts_kept : Int32} {p1_acts_next : Int32} {p1_acts_halls : (Nat → Int32)} {p1_ways_groups : Int32} {p1_ways_group : (Nat → Int32)} {p1_ways_train : (Nat → Int32)} {p1_ways_best : (Nat → Int32)} {p1_ways_better : (Nat → Int32)} {p1_ways_course_first : Int32} {p1_ways_course_second : Int32} {p1_ways_course_thrown : Int32} {p1_asks_length : Int32} {p1_asks_numbers : (Nat → Int32)} {p1_images : (Nat → Int32)} {p1_imageKept : (Nat → Int32)} {p2_manyActs : Int32} {p2_status : Int32} {p2_tapeLong : Int32} {p2_fault : Int32} {p2_winner : Int32} {p2_throwsOf : Int32} {p2_handA : Int32} {p2_handB : Int32} {p2_fewestSo : Int32} {p2_traced : Int32} {p2_now : (Nat → Int32)} {p2_kept : (Nat → Int32)} {p2_isKept : (Nat → Int32)} {p2_acts : (Nat → Int32)} {p2_was : (Nat → Int32)} {p2_lanes : (Nat → Int32)} {p2_longs : (Nat → Int32)} {p2_isThere : (Nat → Int32)} {p2_items : (Nat → Int32)} {p2_copied : (Nat → Int32)} {p2_tape : (Nat → Int32)} {p2_readSorts : (Nat → Int32)} {p2_readHands : (Nat → Int32)} {p2_inTurn : (Nat → Int32)} {p2_ends : (Nat → Int32)} {p2_bestHands : (Nat → Int32)} {p2_traces : (Nat → Int32)} (hc : c + 6 ≤ L) (hL : L ≤ 384) (hs : xs (nI c).toNatClampNeg &&& 31 = 25) (h : REL p1_latestFault p1_latestFinding p1_rows_lane p1_rows_size p1_rows_items p1_tape_length p1_tape_bytes p1_now_players p1_now_round p1_now_time p1_now_kind p1_now_hand p1_now_leader p1_trial_kind p1_trial_hand p1_trial_leader p1_acts_kept p1_acts_next p1_acts_halls p1_asks_length p1_asks_numbers p1_images p1_imageKept p2_manyActs p2_status p2_tapeLong p2_fault p2_traced p2_now p2_kept p2_isKept p2_acts p2_lanes p2_longs p2_isThere p2_items p2_tape p2_traces) (ih : LIH L xs m c) : o_L_law 7000 L xs (m + 1) a_p1_ways_best a_p1_ways_better p1_latestFault p1_latestFinding p1_rows_lane p1_rows_size p1_rows_items p1_tape_length p1_tape_bytes p1_reader_value p1_now_players p1_now_round p1_now_time p1_now_kind p1_now_hand p1_now_leader p1_now_course_first p1_now_course_second p1_now_course_thrown p1_trial_players p1_trial_round p1_trial_time p1_trial_kind p1_trial_hand p1_trial_leader p1_trial_course_first p1_trial_course_second p1_trial_course_thrown p1_acts_kept p1_acts_next p1_acts_halls p1_ways_groups p1_ways_group p1_ways_train p1_ways_best p1_ways_better p1_ways_course_first p1_ways_course_second p1_ways_course_thrown p1_asks_length p1_asks_numbers p1_images p1_imageKept p2_manyActs p2_status p2_tapeLong p2_fault p2_winner p2_throwsOf p2_handA p2_handB p2_fewestSo p2_traced p2_now p2_kept p2_isKept p2_acts p2_was p2_lanes p2_longs p2_isThere p2_items p2_copied p2_tape p2_readSorts p2_readHands p2_inTurn p2_ends p2_bestHands p2_traces (nI c) = some 1 := by
  have ne : ∀ j : Int32, ¬ (25 : Int32) = j → ¬ xs (nI c).toNatClampNeg &&& 31 = j := fun j z q => z (by rw [← hs]; exact q)
  obtain ⟨r, g1, g2⟩ := s_as (N := 7000) (x := (xs (nI c + 1).toNatClampNeg)) (y := (xs (nI c + 2).toNatClampNeg)) (by omega) h.hst h.hh
  rw [o_L_law]
  refine (if_neg (li_g hc hL)).trans ?_
  refine (ogd_t (li_0 hc hL)).trans ?_
  refine (if_neg (ne 0 (by decide))).trans ?_
  refine (if_neg (ne 1 (by decide))).trans ?_
  refine (if_neg (ne 2 (by decide))).trans ?_
  refine (if_neg (ne 3 (by decide))).trans ?_
  refine (if_neg (ne 4 (by decide))).trans ?_
  refine (if_neg (ne 5 (by decide))).trans ?_
  refine (if_neg (ne 6 (by decide))).trans ?_
  refine (if_neg (ne 7 (by decide))).trans ?_
  refine (if_neg (ne 8 (by decide))).trans ?_
  refine (if_neg (ne 9 (by decide))).trans ?_
  refine (if_neg (ne 10 (by decide))).trans ?_
  refine (if_neg (ne 11 (by decide))).trans ?_
  refine (if_neg (ne 12 (by decide))).trans ?_
  refine (if_neg (ne 13 (by decide))).trans ?_
  refine (if_neg (ne 14 (by decide))).trans ?_
  refine (if_neg (ne 15 (by decide))).trans ?_
  refine (if_neg (ne 16 (by decide))).trans ?_
  refine (if_neg (ne 17 (by decide))).trans ?_
  refine (if_neg (ne 18 (by decide))).trans ?_
  refine (if_neg (ne 19 (by decide))).trans ?_
  refine (if_neg (ne 20 (by decide))).trans ?_
  refine (if_neg (ne 21 (by decide))).trans ?_
  refine (if_neg (ne 22 (by decide))).trans ?_
  refine (if_neg (ne 23 (by decide))).trans ?_
  refine (if_neg (ne 24 (by decide))).trans ?_
  refine (if_pos hs).trans ?_
  refine (ogd_t (li_ok (i := 1) hc hL (by omega))).trans ?_
  refine (ogd_t (li_ok (i := 2) hc hL (by omega))).trans ?_
  rw [g1, Option.bind_some]
  refine (ogd_t (li_ok (i := 1) hc hL (by omega))).trans ?_
  refine (ogd_t (li_ok (i := 2) hc hL (by omega))).trans ?_
  rw [g2, Option.bind_some]
  refine (if_pos ?_).trans ?_
  · rfl
  · exact ih _ _ _ _ _ _ _ _ _ _ _ _ _ _ _ _ _ _ _ _ _ _ _ _ _ _ _ _ _ _ _ _ _ _ _ _ _ _ _ _ _ _ _ _ _ _ _ _ _ _ _ _ _ _ _ _ _ _ _ _ _ _ _ _ _ _ _ _ _ _ ⟨h.hfl, rfl, h.hrr, h.htr, h.hh, h.htb, h.har, h.hir, h.htc⟩
theorem law_op_26 {L m c : Nat} {xs : Nat → Int32} {a_p1_ways_best : Nat} {a_p1_ways_better : Nat} {p1_latestFault : Int32} {p1_latestFinding : Int32} {p1_rows_lane : (Nat → Int32)} {p1_rows_size : (Nat → Int32)} {p1_rows_items : (Nat → Int32)} {p1_tape_length : Int32} {p1_tape_bytes : (Nat → Int32)} {p1_reader_value : Int32} {p1_now_players : Int32} {p1_now_round : Int32} {p1_now_time : Int32} {p1_now_kind : (Nat → Int32)} {p1_now_hand : (Nat → Int32)} {p1_now_leader : (Nat → Int32)} {p1_now_course_first : Int32} {p1_now_course_second : Int32} {p1_now_course_thrown : Int32} {p1_trial_players : Int32} {p1_trial_round : Int32} {p1_trial_time : Int32} {p1_trial_kind : (Nat → Int32)} {p1_trial_hand : (Nat → Int32)} {p1_trial_leader : (Nat → Int32)} {p1_trial_course_first : Int32} {p1_trial_course_second : Int32} {p1_trial_course_thrown : Int32} {p1_acts_kept : Int32} {p1_acts_next : Int32} {p1_acts_halls : (Nat → Int32)} {p1_ways_groups : Int32} {p1_ways_group : (Nat → Int32)} {p1_ways_train : (Nat → Int32)} {p1_ways_best : (Nat → Int32)} {p1_ways_better : (Nat → Int32)} {p1_ways_course_first : Int32} {p1_ways_course_second : Int32} {p1_ways_course_thrown : Int32} {p1_asks_length : Int32} {p1_asks_numbers : (Nat → Int32)} {p1_images : (Nat → Int32)} {p1_imageKept : (Nat → Int32)} {p2_manyActs : Int32} {p2_status : Int32} {p2_tapeLong : Int32} {p2_fault : Int32} {p2_winner : Int32} {p2_throwsOf : Int32} {p2_handA : Int32} {p2_handB : Int32} {p2_fewestSo : Int32} {p2_traced : Int32} {p2_now : (Nat → Int32)} {p2_kept : (Nat → Int32)} {p2_isKept : (Nat → Int32)} {p2_acts : (Nat → Int32)} {p2_was : (Nat → Int32)} {p2_lanes : (Nat → Int32)} {p2_longs : (Nat → Int32)} {p2_isThere : (Nat → Int32)} {p2_items : (Nat → Int32)} {p2_copied : (Nat → Int32)} {p2_tape : (Nat → Int32)} {p2_readSorts : (Nat → Int32)} {p2_readHands : (Nat → Int32)} {p2_inTurn : (Nat → Int32)} {p2_ends : (Nat → Int32)} {p2_bestHands : (Nat → Int32)} {p2_traces : (Nat → Int32)} (hc : c + 6 ≤ L) (hL : L ≤ 384) (hs : xs (nI c).toNatClampNeg &&& 31 = 26) (h : REL p1_latestFault p1_latestFinding p1_rows_lane p1_rows_size p1_rows_items p1_tape_length p1_tape_bytes p1_now_players p1_now_round p1_now_time p1_now_kind p1_now_hand p1_now_leader p1_trial_kind p1_trial_hand p1_trial_leader p1_acts_kept p1_acts_next p1_acts_halls p1_asks_length p1_asks_numbers p1_images p1_imageKept p2_manyActs p2_status p2_tapeLong p2_fault p2_traced p2_now p2_kept p2_isKept p2_acts p2_lanes p2_longs p2_isThere p2_items p2_tape p2_traces) (ih : LIH L xs m c) : o_L_law 7000 L xs (m + 1) a_p1_ways_best a_p1_ways_better p1_latestFault p1_latestFinding p1_rows_lane p1_rows_size p1_rows_items p1_tape_length p1_tape_bytes p1_reader_value p1_now_players p1_now_round p1_now_time p1_now_kind p1_now_hand p1_now_leader p1_now_course_first p1_now_course_second p1_now_course_thrown p1_trial_players p1_trial_round p1_trial_time p1_trial_kind p1_trial_hand p1_trial_leader p1_trial_course_first p1_trial_course_second p1_trial_course_thrown p1_acts_kept p1_acts_next p1_acts_halls p1_ways_groups p1_ways_group p1_ways_train p1_ways_best p1_ways_better p1_ways_course_first p1_ways_course_second p1_ways_course_thrown p1_asks_length p1_asks_numbers p1_images p1_imageKept p2_manyActs p2_status p2_tapeLong p2_fault p2_winner p2_throwsOf p2_handA p2_handB p2_fewestSo p2_traced p2_now p2_kept p2_isKept p2_acts p2_was p2_lanes p2_longs p2_isThere p2_items p2_copied p2_tape p2_readSorts p2_readHands p2_inTurn p2_ends p2_bestHands p2_traces (nI c) = some 1 := by
  have ne : ∀ j : Int32, ¬ (26 : Int32) = j → ¬ xs (nI c).toNatClampNeg &&& 31 = j := fun j z q => z (by rw [← hs]; exact q)
  obtain ⟨r, xl', xb', ml', mb', g1, g2, g3⟩ := s_ask (N := 7000) (x := (xs (nI c + 1).toNatClampNeg)) (y := (xs (nI c + 2).toNatClampNeg)) (by omega) h.htc h.hh
  rw [o_L_law]
  refine (if_neg (li_g hc hL)).trans ?_
  refine (ogd_t (li_0 hc hL)).trans ?_
  refine (if_neg (ne 0 (by decide))).trans ?_
  refine (if_neg (ne 1 (by decide))).trans ?_
  refine (if_neg (ne 2 (by decide))).trans ?_
  refine (if_neg (ne 3 (by decide))).trans ?_
  refine (if_neg (ne 4 (by decide))).trans ?_
  refine (if_neg (ne 5 (by decide))).trans ?_
  refine (if_neg (ne 6 (by decide))).trans ?_
  refine (if_neg (ne 7 (by decide))).trans ?_
  refine (if_neg (ne 8 (by decide))).trans ?_
  refine (if_neg (ne 9 (by decide))).trans ?_
  refine (if_neg (ne 10 (by decide))).trans ?_
  refine (if_neg (ne 11 (by decide))).trans ?_
  refine (if_neg (ne 12 (by decide))).trans ?_
  refine (if_neg (ne 13 (by decide))).trans ?_
  refine (if_neg (ne 14 (by decide))).trans ?_
  refine (if_neg (ne 15 (by decide))).trans ?_
  refine (if_neg (ne 16 (by decide))).trans ?_
  refine (if_neg (ne 17 (by decide))).trans ?_
  refine (if_neg (ne 18 (by decide))).trans ?_
  refine (if_neg (ne 19 (by decide))).trans ?_
  refine (if_neg (ne 20 (by decide))).trans ?_
  refine (if_neg (ne 21 (by decide))).trans ?_
  refine (if_neg (ne 22 (by decide))).trans ?_
  refine (if_neg (ne 23 (by decide))).trans ?_
  refine (if_neg (ne 24 (by decide))).trans ?_
  refine (if_neg (ne 25 (by decide))).trans ?_
  refine (if_pos hs).trans ?_
  refine (ogd_t (li_ok (i := 1) hc hL (by omega))).trans ?_
  refine (ogd_t (li_ok (i := 2) hc hL (by omega))).trans ?_
  rw [g1, Option.bind_some]
  refine (ogd_t (li_ok (i := 1) hc hL (by omega))).trans ?_
  refine (ogd_t (li_ok (i := 2) hc hL (by omega))).trans ?_
  rw [g2, Option.bind_some]
  refine (if_pos ?_).trans ?_
  · rfl
  · exact ih _ _ _ _ _ _ _ _ _ _ _ _ _ _ _ _ _ _ _ _ _ _ _ _ _ _ _ _ _ _ _ _ _ _ _ _ _ _ _ _ _ _ _ _ _ _ _ _ _ _ _ _ _ _ _ _ _ _ _ _ _ _ _ _ _ _ _ _ _ _ ⟨h.hfl, h.hst, h.hrr, h.htr, h.hh, h.htb, h.har, h.hir, g3⟩
theorem law_op_27 {L m c : Nat} {xs : Nat → Int32} {a_p1_ways_best : Nat} {a_p1_ways_better : Nat} {p1_latestFault : Int32} {p1_latestFinding : Int32} {p1_rows_lane : (Nat → Int32)} {p1_rows_size : (Nat → Int32)} {p1_rows_items : (Nat → Int32)} {p1_tape_length : Int32} {p1_tape_bytes : (Nat → Int32)} {p1_reader_value : Int32} {p1_now_players : Int32} {p1_now_round : Int32} {p1_now_time : Int32} {p1_now_kind : (Nat → Int32)} {p1_now_hand : (Nat → Int32)} {p1_now_leader : (Nat → Int32)} {p1_now_course_first : Int32} {p1_now_course_second : Int32} {p1_now_course_thrown : Int32} {p1_trial_players : Int32} {p1_trial_round : Int32} {p1_trial_time : Int32} {p1_trial_kind : (Nat → Int32)} {p1_trial_hand : (Nat → Int32)} {p1_trial_leader : (Nat → Int32)} {p1_trial_course_first : Int32} {p1_trial_course_second : Int32} {p1_trial_course_thrown : Int32} {p1_acts_kept : Int32} {p1_acts_next : Int32} {p1_acts_halls : (Nat → Int32)} {p1_ways_groups : Int32} {p1_ways_group : (Nat → Int32)} {p1_ways_train : (Nat → Int32)} {p1_ways_best : (Nat → Int32)} {p1_ways_better : (Nat → Int32)} {p1_ways_course_first : Int32} {p1_ways_course_second : Int32} {p1_ways_course_thrown : Int32} {p1_asks_length : Int32} {p1_asks_numbers : (Nat → Int32)} {p1_images : (Nat → Int32)} {p1_imageKept : (Nat → Int32)} {p2_manyActs : Int32} {p2_status : Int32} {p2_tapeLong : Int32} {p2_fault : Int32} {p2_winner : Int32} {p2_throwsOf : Int32} {p2_handA : Int32} {p2_handB : Int32} {p2_fewestSo : Int32} {p2_traced : Int32} {p2_now : (Nat → Int32)} {p2_kept : (Nat → Int32)} {p2_isKept : (Nat → Int32)} {p2_acts : (Nat → Int32)} {p2_was : (Nat → Int32)} {p2_lanes : (Nat → Int32)} {p2_longs : (Nat → Int32)} {p2_isThere : (Nat → Int32)} {p2_items : (Nat → Int32)} {p2_copied : (Nat → Int32)} {p2_tape : (Nat → Int32)} {p2_readSorts : (Nat → Int32)} {p2_readHands : (Nat → Int32)} {p2_inTurn : (Nat → Int32)} {p2_ends : (Nat → Int32)} {p2_bestHands : (Nat → Int32)} {p2_traces : (Nat → Int32)} (hc : c + 6 ≤ L) (hL : L ≤ 384) (hs : xs (nI c).toNatClampNeg &&& 31 = 27) (h : REL p1_latestFault p1_latestFinding p1_rows_lane p1_rows_size p1_rows_items p1_tape_length p1_tape_bytes p1_now_players p1_now_round p1_now_time p1_now_kind p1_now_hand p1_now_leader p1_trial_kind p1_trial_hand p1_trial_leader p1_acts_kept p1_acts_next p1_acts_halls p1_asks_length p1_asks_numbers p1_images p1_imageKept p2_manyActs p2_status p2_tapeLong p2_fault p2_traced p2_now p2_kept p2_isKept p2_acts p2_lanes p2_longs p2_isThere p2_items p2_tape p2_traces) (ih : LIH L xs m c) : o_L_law 7000 L xs (m + 1) a_p1_ways_best a_p1_ways_better p1_latestFault p1_latestFinding p1_rows_lane p1_rows_size p1_rows_items p1_tape_length p1_tape_bytes p1_reader_value p1_now_players p1_now_round p1_now_time p1_now_kind p1_now_hand p1_now_leader p1_now_course_first p1_now_course_second p1_now_course_thrown p1_trial_players p1_trial_round p1_trial_time p1_trial_kind p1_trial_hand p1_trial_leader p1_trial_course_first p1_trial_course_second p1_trial_course_thrown p1_acts_kept p1_acts_next p1_acts_halls p1_ways_groups p1_ways_group p1_ways_train p1_ways_best p1_ways_better p1_ways_course_first p1_ways_course_second p1_ways_course_thrown p1_asks_length p1_asks_numbers p1_images p1_imageKept p2_manyActs p2_status p2_tapeLong p2_fault p2_winner p2_throwsOf p2_handA p2_handB p2_fewestSo p2_traced p2_now p2_kept p2_isKept p2_acts p2_was p2_lanes p2_longs p2_isThere p2_items p2_copied p2_tape p2_readSorts p2_readHands p2_inTurn p2_ends p2_bestHands p2_traces (nI c) = some 1 := by
  have ne : ∀ j : Int32, ¬ (27 : Int32) = j → ¬ xs (nI c).toNatClampNeg &&& 31 = j := fun j z q => z (by rw [← hs]; exact q)
  obtain ⟨r, g1, g2⟩ := s_trace (N := 7000) (x := (xs (nI c + 1).toNatClampNeg)) h.htc
  rw [o_L_law]
  refine (if_neg (li_g hc hL)).trans ?_
  refine (ogd_t (li_0 hc hL)).trans ?_
  refine (if_neg (ne 0 (by decide))).trans ?_
  refine (if_neg (ne 1 (by decide))).trans ?_
  refine (if_neg (ne 2 (by decide))).trans ?_
  refine (if_neg (ne 3 (by decide))).trans ?_
  refine (if_neg (ne 4 (by decide))).trans ?_
  refine (if_neg (ne 5 (by decide))).trans ?_
  refine (if_neg (ne 6 (by decide))).trans ?_
  refine (if_neg (ne 7 (by decide))).trans ?_
  refine (if_neg (ne 8 (by decide))).trans ?_
  refine (if_neg (ne 9 (by decide))).trans ?_
  refine (if_neg (ne 10 (by decide))).trans ?_
  refine (if_neg (ne 11 (by decide))).trans ?_
  refine (if_neg (ne 12 (by decide))).trans ?_
  refine (if_neg (ne 13 (by decide))).trans ?_
  refine (if_neg (ne 14 (by decide))).trans ?_
  refine (if_neg (ne 15 (by decide))).trans ?_
  refine (if_neg (ne 16 (by decide))).trans ?_
  refine (if_neg (ne 17 (by decide))).trans ?_
  refine (if_neg (ne 18 (by decide))).trans ?_
  refine (if_neg (ne 19 (by decide))).trans ?_
  refine (if_neg (ne 20 (by decide))).trans ?_
  refine (if_neg (ne 21 (by decide))).trans ?_
  refine (if_neg (ne 22 (by decide))).trans ?_
  refine (if_neg (ne 23 (by decide))).trans ?_
  refine (if_neg (ne 24 (by decide))).trans ?_
  refine (if_neg (ne 25 (by decide))).trans ?_
  refine (if_neg (ne 26 (by decide))).trans ?_
  refine (if_pos hs).trans ?_
  refine (ogd_t (li_ok (i := 1) hc hL (by omega))).trans ?_
  rw [g1, Option.bind_some]
  refine (ogd_t (li_ok (i := 1) hc hL (by omega))).trans ?_
  rw [g2, Option.bind_some]
  refine (if_pos ?_).trans ?_
  · rfl
  · exact ih _ _ _ _ _ _ _ _ _ _ _ _ _ _ _ _ _ _ _ _ _ _ _ _ _ _ _ _ _ _ _ _ _ _ _ _ _ _ _ _ _ _ _ _ _ _ _ _ _ _ _ _ _ _ _ _ _ _ _ _ _ _ _ _ _ _ _ _ _ _ ⟨h.hfl, h.hst, h.hrr, h.htr, h.hh, h.htb, h.har, h.hir, h.htc⟩
theorem law_op_28 {L m c : Nat} {xs : Nat → Int32} {a_p1_ways_best : Nat} {a_p1_ways_better : Nat} {p1_latestFault : Int32} {p1_latestFinding : Int32} {p1_rows_lane : (Nat → Int32)} {p1_rows_size : (Nat → Int32)} {p1_rows_items : (Nat → Int32)} {p1_tape_length : Int32} {p1_tape_bytes : (Nat → Int32)} {p1_reader_value : Int32} {p1_now_players : Int32} {p1_now_round : Int32} {p1_now_time : Int32} {p1_now_kind : (Nat → Int32)} {p1_now_hand : (Nat → Int32)} {p1_now_leader : (Nat → Int32)} {p1_now_course_first : Int32} {p1_now_course_second : Int32} {p1_now_course_thrown : Int32} {p1_trial_players : Int32} {p1_trial_round : Int32} {p1_trial_time : Int32} {p1_trial_kind : (Nat → Int32)} {p1_trial_hand : (Nat → Int32)} {p1_trial_leader : (Nat → Int32)} {p1_trial_course_first : Int32} {p1_trial_course_second : Int32} {p1_trial_course_thrown : Int32} {p1_acts_kept : Int32} {p1_acts_next : Int32} {p1_acts_halls : (Nat → Int32)} {p1_ways_groups : Int32} {p1_ways_group : (Nat → Int32)} {p1_ways_train : (Nat → Int32)} {p1_ways_best : (Nat → Int32)} {p1_ways_better : (Nat → Int32)} {p1_ways_course_first : Int32} {p1_ways_course_second : Int32} {p1_ways_course_thrown : Int32} {p1_asks_length : Int32} {p1_asks_numbers : (Nat → Int32)} {p1_images : (Nat → Int32)} {p1_imageKept : (Nat → Int32)} {p2_manyActs : Int32} {p2_status : Int32} {p2_tapeLong : Int32} {p2_fault : Int32} {p2_winner : Int32} {p2_throwsOf : Int32} {p2_handA : Int32} {p2_handB : Int32} {p2_fewestSo : Int32} {p2_traced : Int32} {p2_now : (Nat → Int32)} {p2_kept : (Nat → Int32)} {p2_isKept : (Nat → Int32)} {p2_acts : (Nat → Int32)} {p2_was : (Nat → Int32)} {p2_lanes : (Nat → Int32)} {p2_longs : (Nat → Int32)} {p2_isThere : (Nat → Int32)} {p2_items : (Nat → Int32)} {p2_copied : (Nat → Int32)} {p2_tape : (Nat → Int32)} {p2_readSorts : (Nat → Int32)} {p2_readHands : (Nat → Int32)} {p2_inTurn : (Nat → Int32)} {p2_ends : (Nat → Int32)} {p2_bestHands : (Nat → Int32)} {p2_traces : (Nat → Int32)} (hc : c + 6 ≤ L) (hL : L ≤ 384) (hs : xs (nI c).toNatClampNeg &&& 31 = 28) (h : REL p1_latestFault p1_latestFinding p1_rows_lane p1_rows_size p1_rows_items p1_tape_length p1_tape_bytes p1_now_players p1_now_round p1_now_time p1_now_kind p1_now_hand p1_now_leader p1_trial_kind p1_trial_hand p1_trial_leader p1_acts_kept p1_acts_next p1_acts_halls p1_asks_length p1_asks_numbers p1_images p1_imageKept p2_manyActs p2_status p2_tapeLong p2_fault p2_traced p2_now p2_kept p2_isKept p2_acts p2_lanes p2_longs p2_isThere p2_items p2_tape p2_traces) (ih : LIH L xs m c) : o_L_law 7000 L xs (m + 1) a_p1_ways_best a_p1_ways_better p1_latestFault p1_latestFinding p1_rows_lane p1_rows_size p1_rows_items p1_tape_length p1_tape_bytes p1_reader_value p1_now_players p1_now_round p1_now_time p1_now_kind p1_now_hand p1_now_leader p1_now_course_first p1_now_course_second p1_now_course_thrown p1_trial_players p1_trial_round p1_trial_time p1_trial_kind p1_trial_hand p1_trial_leader p1_trial_course_first p1_trial_course_second p1_trial_course_thrown p1_acts_kept p1_acts_next p1_acts_halls p1_ways_groups p1_ways_group p1_ways_train p1_ways_best p1_ways_better p1_ways_course_first p1_ways_course_second p1_ways_course_thrown p1_asks_length p1_asks_numbers p1_images p1_imageKept p2_manyActs p2_status p2_tapeLong p2_fault p2_winner p2_throwsOf p2_handA p2_handB p2_fewestSo p2_traced p2_now p2_kept p2_isKept p2_acts p2_was p2_lanes p2_longs p2_isThere p2_items p2_copied p2_tape p2_readSorts p2_readHands p2_inTurn p2_ends p2_bestHands p2_traces (nI c) = some 1 := by
  have ne : ∀ j : Int32, ¬ (28 : Int32) = j → ¬ xs (nI c).toNatClampNeg &&& 31 = j := fun j z q => z (by rw [← hs]; exact q)
  obtain ⟨r, g1, g2⟩ := s_count (N := 7000) (xl := p1_tape_length) (ml := p2_tapeLong) (ac := p1_acts_kept) (ac' := p2_manyActs) (x := (xs (nI c + 1).toNatClampNeg)) (by omega) h.hrr h.hh (by obtain ⟨n, _, e1, e2, _⟩ := h.htr; rw [e1, e2]) (by obtain ⟨c, q, _, _, e1, e2, _⟩ := h.har; rw [e1, e2])
  rw [o_L_law]
  refine (if_neg (li_g hc hL)).trans ?_
  refine (ogd_t (li_0 hc hL)).trans ?_
  refine (if_neg (ne 0 (by decide))).trans ?_
  refine (if_neg (ne 1 (by decide))).trans ?_
  refine (if_neg (ne 2 (by decide))).trans ?_
  refine (if_neg (ne 3 (by decide))).trans ?_
  refine (if_neg (ne 4 (by decide))).trans ?_
  refine (if_neg (ne 5 (by decide))).trans ?_
  refine (if_neg (ne 6 (by decide))).trans ?_
  refine (if_neg (ne 7 (by decide))).trans ?_
  refine (if_neg (ne 8 (by decide))).trans ?_
  refine (if_neg (ne 9 (by decide))).trans ?_
  refine (if_neg (ne 10 (by decide))).trans ?_
  refine (if_neg (ne 11 (by decide))).trans ?_
  refine (if_neg (ne 12 (by decide))).trans ?_
  refine (if_neg (ne 13 (by decide))).trans ?_
  refine (if_neg (ne 14 (by decide))).trans ?_
  refine (if_neg (ne 15 (by decide))).trans ?_
  refine (if_neg (ne 16 (by decide))).trans ?_
  refine (if_neg (ne 17 (by decide))).trans ?_
  refine (if_neg (ne 18 (by decide))).trans ?_
  refine (if_neg (ne 19 (by decide))).trans ?_
  refine (if_neg (ne 20 (by decide))).trans ?_
  refine (if_neg (ne 21 (by decide))).trans ?_
  refine (if_neg (ne 22 (by decide))).trans ?_
  refine (if_neg (ne 23 (by decide))).trans ?_
  refine (if_neg (ne 24 (by decide))).trans ?_
  refine (if_neg (ne 25 (by decide))).trans ?_
  refine (if_neg (ne 26 (by decide))).trans ?_
  refine (if_neg (ne 27 (by decide))).trans ?_
  refine (if_pos hs).trans ?_
  refine (ogd_t (li_ok (i := 1) hc hL (by omega))).trans ?_
  rw [g1, Option.bind_some]
  refine (ogd_t (li_ok (i := 1) hc hL (by omega))).trans ?_
  rw [g2, Option.bind_some]
  refine (if_pos ?_).trans ?_
  · rfl
  · exact ih _ _ _ _ _ _ _ _ _ _ _ _ _ _ _ _ _ _ _ _ _ _ _ _ _ _ _ _ _ _ _ _ _ _ _ _ _ _ _ _ _ _ _ _ _ _ _ _ _ _ _ _ _ _ _ _ _ _ _ _ _ _ _ _ _ _ _ _ _ _ ⟨h.hfl, h.hst, h.hrr, h.htr, h.hh, h.htb, h.har, h.hir, h.htc⟩
theorem law_op_29 {L m c : Nat} {xs : Nat → Int32} {a_p1_ways_best : Nat} {a_p1_ways_better : Nat} {p1_latestFault : Int32} {p1_latestFinding : Int32} {p1_rows_lane : (Nat → Int32)} {p1_rows_size : (Nat → Int32)} {p1_rows_items : (Nat → Int32)} {p1_tape_length : Int32} {p1_tape_bytes : (Nat → Int32)} {p1_reader_value : Int32} {p1_now_players : Int32} {p1_now_round : Int32} {p1_now_time : Int32} {p1_now_kind : (Nat → Int32)} {p1_now_hand : (Nat → Int32)} {p1_now_leader : (Nat → Int32)} {p1_now_course_first : Int32} {p1_now_course_second : Int32} {p1_now_course_thrown : Int32} {p1_trial_players : Int32} {p1_trial_round : Int32} {p1_trial_time : Int32} {p1_trial_kind : (Nat → Int32)} {p1_trial_hand : (Nat → Int32)} {p1_trial_leader : (Nat → Int32)} {p1_trial_course_first : Int32} {p1_trial_course_second : Int32} {p1_trial_course_thrown : Int32} {p1_acts_kept : Int32} {p1_acts_next : Int32} {p1_acts_halls : (Nat → Int32)} {p1_ways_groups : Int32} {p1_ways_group : (Nat → Int32)} {p1_ways_train : (Nat → Int32)} {p1_ways_best : (Nat → Int32)} {p1_ways_better : (Nat → Int32)} {p1_ways_course_first : Int32} {p1_ways_course_second : Int32} {p1_ways_course_thrown : Int32} {p1_asks_length : Int32} {p1_asks_numbers : (Nat → Int32)} {p1_images : (Nat → Int32)} {p1_imageKept : (Nat → Int32)} {p2_manyActs : Int32} {p2_status : Int32} {p2_tapeLong : Int32} {p2_fault : Int32} {p2_winner : Int32} {p2_throwsOf : Int32} {p2_handA : Int32} {p2_handB : Int32} {p2_fewestSo : Int32} {p2_traced : Int32} {p2_now : (Nat → Int32)} {p2_kept : (Nat → Int32)} {p2_isKept : (Nat → Int32)} {p2_acts : (Nat → Int32)} {p2_was : (Nat → Int32)} {p2_lanes : (Nat → Int32)} {p2_longs : (Nat → Int32)} {p2_isThere : (Nat → Int32)} {p2_items : (Nat → Int32)} {p2_copied : (Nat → Int32)} {p2_tape : (Nat → Int32)} {p2_readSorts : (Nat → Int32)} {p2_readHands : (Nat → Int32)} {p2_inTurn : (Nat → Int32)} {p2_ends : (Nat → Int32)} {p2_bestHands : (Nat → Int32)} {p2_traces : (Nat → Int32)} (hc : c + 6 ≤ L) (hL : L ≤ 384) (hs : xs (nI c).toNatClampNeg &&& 31 = 29) (h : REL p1_latestFault p1_latestFinding p1_rows_lane p1_rows_size p1_rows_items p1_tape_length p1_tape_bytes p1_now_players p1_now_round p1_now_time p1_now_kind p1_now_hand p1_now_leader p1_trial_kind p1_trial_hand p1_trial_leader p1_acts_kept p1_acts_next p1_acts_halls p1_asks_length p1_asks_numbers p1_images p1_imageKept p2_manyActs p2_status p2_tapeLong p2_fault p2_traced p2_now p2_kept p2_isKept p2_acts p2_lanes p2_longs p2_isThere p2_items p2_tape p2_traces) (ih : LIH L xs m c) : o_L_law 7000 L xs (m + 1) a_p1_ways_best a_p1_ways_better p1_latestFault p1_latestFinding p1_rows_lane p1_rows_size p1_rows_items p1_tape_length p1_tape_bytes p1_reader_value p1_now_players p1_now_round p1_now_time p1_now_kind p1_now_hand p1_now_leader p1_now_course_first p1_now_course_second p1_now_course_thrown p1_trial_players p1_trial_round p1_trial_time p1_trial_kind p1_trial_hand p1_trial_leader p1_trial_course_first p1_trial_course_second p1_trial_course_thrown p1_acts_kept p1_acts_next p1_acts_halls p1_ways_groups p1_ways_group p1_ways_train p1_ways_best p1_ways_better p1_ways_course_first p1_ways_course_second p1_ways_course_thrown p1_asks_length p1_asks_numbers p1_images p1_imageKept p2_manyActs p2_status p2_tapeLong p2_fault p2_winner p2_throwsOf p2_handA p2_handB p2_fewestSo p2_traced p2_now p2_kept p2_isKept p2_acts p2_was p2_lanes p2_longs p2_isThere p2_items p2_copied p2_tape p2_readSorts p2_readHands p2_inTurn p2_ends p2_bestHands p2_traces (nI c) = some 1 := by
  have ne : ∀ j : Int32, ¬ (29 : Int32) = j → ¬ xs (nI c).toNatClampNeg &&& 31 = j := fun j z q => z (by rw [← hs]; exact q)
  rw [o_L_law]
  refine (if_neg (li_g hc hL)).trans ?_
  refine (ogd_t (li_0 hc hL)).trans ?_
  refine (if_neg (ne 0 (by decide))).trans ?_
  refine (if_neg (ne 1 (by decide))).trans ?_
  refine (if_neg (ne 2 (by decide))).trans ?_
  refine (if_neg (ne 3 (by decide))).trans ?_
  refine (if_neg (ne 4 (by decide))).trans ?_
  refine (if_neg (ne 5 (by decide))).trans ?_
  refine (if_neg (ne 6 (by decide))).trans ?_
  refine (if_neg (ne 7 (by decide))).trans ?_
  refine (if_neg (ne 8 (by decide))).trans ?_
  refine (if_neg (ne 9 (by decide))).trans ?_
  refine (if_neg (ne 10 (by decide))).trans ?_
  refine (if_neg (ne 11 (by decide))).trans ?_
  refine (if_neg (ne 12 (by decide))).trans ?_
  refine (if_neg (ne 13 (by decide))).trans ?_
  refine (if_neg (ne 14 (by decide))).trans ?_
  refine (if_neg (ne 15 (by decide))).trans ?_
  refine (if_neg (ne 16 (by decide))).trans ?_
  refine (if_neg (ne 17 (by decide))).trans ?_
  refine (if_neg (ne 18 (by decide))).trans ?_
  refine (if_neg (ne 19 (by decide))).trans ?_
  refine (if_neg (ne 20 (by decide))).trans ?_
  refine (if_neg (ne 21 (by decide))).trans ?_
  refine (if_neg (ne 22 (by decide))).trans ?_
  refine (if_neg (ne 23 (by decide))).trans ?_
  refine (if_neg (ne 24 (by decide))).trans ?_
  refine (if_neg (ne 25 (by decide))).trans ?_
  refine (if_neg (ne 26 (by decide))).trans ?_
  refine (if_neg (ne 27 (by decide))).trans ?_
  refine (if_neg (ne 28 (by decide))).trans ?_
  refine (if_pos hs).trans ?_
  rw [o_X8_status, o_X9_status, Option.bind_some, Option.bind_some]
  refine (if_pos h.hst).trans ?_
  exact ih _ _ _ _ _ _ _ _ _ _ _ _ _ _ _ _ _ _ _ _ _ _ _ _ _ _ _ _ _ _ _ _ _ _ _ _ _ _ _ _ _ _ _ _ _ _ _ _ _ _ _ _ _ _ _ _ _ _ _ _ _ _ _ _ _ _ _ _ _ _ ⟨h.hfl, h.hst, h.hrr, h.htr, h.hh, h.htb, h.har, h.hir, h.htc⟩
theorem law_op_d {L m c : Nat} {xs : Nat → Int32} {a_p1_ways_best : Nat} {a_p1_ways_better : Nat} {p1_latestFault : Int32} {p1_latestFinding : Int32} {p1_rows_lane : (Nat → Int32)} {p1_rows_size : (Nat → Int32)} {p1_rows_items : (Nat → Int32)} {p1_tape_length : Int32} {p1_tape_bytes : (Nat → Int32)} {p1_reader_value : Int32} {p1_now_players : Int32} {p1_now_round : Int32} {p1_now_time : Int32} {p1_now_kind : (Nat → Int32)} {p1_now_hand : (Nat → Int32)} {p1_now_leader : (Nat → Int32)} {p1_now_course_first : Int32} {p1_now_course_second : Int32} {p1_now_course_thrown : Int32} {p1_trial_players : Int32} {p1_trial_round : Int32} {p1_trial_time : Int32} {p1_trial_kind : (Nat → Int32)} {p1_trial_hand : (Nat → Int32)} {p1_trial_leader : (Nat → Int32)} {p1_trial_course_first : Int32} {p1_trial_course_second : Int32} {p1_trial_course_thrown : Int32} {p1_acts_kept : Int32} {p1_acts_next : Int32} {p1_acts_halls : (Nat → Int32)} {p1_ways_groups : Int32} {p1_ways_group : (Nat → Int32)} {p1_ways_train : (Nat → Int32)} {p1_ways_best : (Nat → Int32)} {p1_ways_better : (Nat → Int32)} {p1_ways_course_first : Int32} {p1_ways_course_second : Int32} {p1_ways_course_thrown : Int32} {p1_asks_length : Int32} {p1_asks_numbers : (Nat → Int32)} {p1_images : (Nat → Int32)} {p1_imageKept : (Nat → Int32)} {p2_manyActs : Int32} {p2_status : Int32} {p2_tapeLong : Int32} {p2_fault : Int32} {p2_winner : Int32} {p2_throwsOf : Int32} {p2_handA : Int32} {p2_handB : Int32} {p2_fewestSo : Int32} {p2_traced : Int32} {p2_now : (Nat → Int32)} {p2_kept : (Nat → Int32)} {p2_isKept : (Nat → Int32)} {p2_acts : (Nat → Int32)} {p2_was : (Nat → Int32)} {p2_lanes : (Nat → Int32)} {p2_longs : (Nat → Int32)} {p2_isThere : (Nat → Int32)} {p2_items : (Nat → Int32)} {p2_copied : (Nat → Int32)} {p2_tape : (Nat → Int32)} {p2_readSorts : (Nat → Int32)} {p2_readHands : (Nat → Int32)} {p2_inTurn : (Nat → Int32)} {p2_ends : (Nat → Int32)} {p2_bestHands : (Nat → Int32)} {p2_traces : (Nat → Int32)} (hc : c + 6 ≤ L) (hL : L ≤ 384) (ne : ∀ k : Nat, k < 30 → ¬ xs (nI c).toNatClampNeg &&& 31 = nI k) (h : REL p1_latestFault p1_latestFinding p1_rows_lane p1_rows_size p1_rows_items p1_tape_length p1_tape_bytes p1_now_players p1_now_round p1_now_time p1_now_kind p1_now_hand p1_now_leader p1_trial_kind p1_trial_hand p1_trial_leader p1_acts_kept p1_acts_next p1_acts_halls p1_asks_length p1_asks_numbers p1_images p1_imageKept p2_manyActs p2_status p2_tapeLong p2_fault p2_traced p2_now p2_kept p2_isKept p2_acts p2_lanes p2_longs p2_isThere p2_items p2_tape p2_traces) (ih : LIH L xs m c) : o_L_law 7000 L xs (m + 1) a_p1_ways_best a_p1_ways_better p1_latestFault p1_latestFinding p1_rows_lane p1_rows_size p1_rows_items p1_tape_length p1_tape_bytes p1_reader_value p1_now_players p1_now_round p1_now_time p1_now_kind p1_now_hand p1_now_leader p1_now_course_first p1_now_course_second p1_now_course_thrown p1_trial_players p1_trial_round p1_trial_time p1_trial_kind p1_trial_hand p1_trial_leader p1_trial_course_first p1_trial_course_second p1_trial_course_thrown p1_acts_kept p1_acts_next p1_acts_halls p1_ways_groups p1_ways_group p1_ways_train p1_ways_best p1_ways_better p1_ways_course_first p1_ways_course_second p1_ways_course_thrown p1_asks_length p1_asks_numbers p1_images p1_imageKept p2_manyActs p2_status p2_tapeLong p2_fault p2_winner p2_throwsOf p2_handA p2_handB p2_fewestSo p2_traced p2_now p2_kept p2_isKept p2_acts p2_was p2_lanes p2_longs p2_isThere p2_items p2_copied p2_tape p2_readSorts p2_readHands p2_inTurn p2_ends p2_bestHands p2_traces (nI c) = some 1 := by
  rw [o_L_law]
  refine (if_neg (li_g hc hL)).trans ?_
  refine (ogd_t (li_0 hc hL)).trans ?_
  refine (if_neg (ne 0 (by omega))).trans ?_
  refine (if_neg (ne 1 (by omega))).trans ?_
  refine (if_neg (ne 2 (by omega))).trans ?_
  refine (if_neg (ne 3 (by omega))).trans ?_
  refine (if_neg (ne 4 (by omega))).trans ?_
  refine (if_neg (ne 5 (by omega))).trans ?_
  refine (if_neg (ne 6 (by omega))).trans ?_
  refine (if_neg (ne 7 (by omega))).trans ?_
  refine (if_neg (ne 8 (by omega))).trans ?_
  refine (if_neg (ne 9 (by omega))).trans ?_
  refine (if_neg (ne 10 (by omega))).trans ?_
  refine (if_neg (ne 11 (by omega))).trans ?_
  refine (if_neg (ne 12 (by omega))).trans ?_
  refine (if_neg (ne 13 (by omega))).trans ?_
  refine (if_neg (ne 14 (by omega))).trans ?_
  refine (if_neg (ne 15 (by omega))).trans ?_
  refine (if_neg (ne 16 (by omega))).trans ?_
  refine (if_neg (ne 17 (by omega))).trans ?_
  refine (if_neg (ne 18 (by omega))).trans ?_
  refine (if_neg (ne 19 (by omega))).trans ?_
  refine (if_neg (ne 20 (by omega))).trans ?_
  refine (if_neg (ne 21 (by omega))).trans ?_
  refine (if_neg (ne 22 (by omega))).trans ?_
  refine (if_neg (ne 23 (by omega))).trans ?_
  refine (if_neg (ne 24 (by omega))).trans ?_
  refine (if_neg (ne 25 (by omega))).trans ?_
  refine (if_neg (ne 26 (by omega))).trans ?_
  refine (if_neg (ne 27 (by omega))).trans ?_
  refine (if_neg (ne 28 (by omega))).trans ?_
  refine (if_neg (ne 29 (by omega))).trans ?_
  exact ih _ _ _ _ _ _ _ _ _ _ _ _ _ _ _ _ _ _ _ _ _ _ _ _ _ _ _ _ _ _ _ _ _ _ _ _ _ _ _ _ _ _ _ _ _ _ _ _ _ _ _ _ _ _ _ _ _ _ _ _ _ _ _ _ _ _ _ _ _ _ h
theorem law_one {L : Nat} {xs : Nat → Int32} (hL : L ≤ 384) : ∀ (j m c : Nat), L < c + 6 * j + 6 → c < 10000 → j < m → ∀ (a_p1_ways_best : Nat) (a_p1_ways_better : Nat) (p1_latestFault : Int32) (p1_latestFinding : Int32) (p1_rows_lane : (Nat → Int32)) (p1_rows_size : (Nat → Int32)) (p1_rows_items : (Nat → Int32)) (p1_tape_length : Int32) (p1_tape_bytes : (Nat → Int32)) (p1_reader_value : Int32) (p1_now_players : Int32) (p1_now_round : Int32) (p1_now_time : Int32) (p1_now_kind : (Nat → Int32)) (p1_now_hand : (Nat → Int32)) (p1_now_leader : (Nat → Int32)) (p1_now_course_first : Int32) (p1_now_course_second : Int32) (p1_now_course_thrown : Int32) (p1_trial_players : Int32) (p1_trial_round : Int32) (p1_trial_time : Int32) (p1_trial_kind : (Nat → Int32)) (p1_trial_hand : (Nat → Int32)) (p1_trial_leader : (Nat → Int32)) (p1_trial_course_first : Int32) (p1_trial_course_second : Int32) (p1_trial_course_thrown : Int32) (p1_acts_kept : Int32) (p1_acts_next : Int32) (p1_acts_halls : (Nat → Int32)) (p1_ways_groups : Int32) (p1_ways_group : (Nat → Int32)) (p1_ways_train : (Nat → Int32)) (p1_ways_best : (Nat → Int32)) (p1_ways_better : (Nat → Int32)) (p1_ways_course_first : Int32) (p1_ways_course_second : Int32) (p1_ways_course_thrown : Int32) (p1_asks_length : Int32) (p1_asks_numbers : (Nat → Int32)) (p1_images : (Nat → Int32)) (p1_imageKept : (Nat → Int32)) (p2_manyActs : Int32) (p2_status : Int32) (p2_tapeLong : Int32) (p2_fault : Int32) (p2_winner : Int32) (p2_throwsOf : Int32) (p2_handA : Int32) (p2_handB : Int32) (p2_fewestSo : Int32) (p2_traced : Int32) (p2_now : (Nat → Int32)) (p2_kept : (Nat → Int32)) (p2_isKept : (Nat → Int32)) (p2_acts : (Nat → Int32)) (p2_was : (Nat → Int32)) (p2_lanes : (Nat → Int32)) (p2_longs : (Nat → Int32)) (p2_isThere : (Nat → Int32)) (p2_items : (Nat → Int32)) (p2_copied : (Nat → Int32)) (p2_tape : (Nat → Int32)) (p2_readSorts : (Nat → Int32)) (p2_readHands : (Nat → Int32)) (p2_inTurn : (Nat → Int32)) (p2_ends : (Nat → Int32)) (p2_bestHands : (Nat → Int32)) (p2_traces : (Nat → Int32)), REL p1_latestFault p1_latestFinding p1_rows_lane p1_rows_size p1_rows_items p1_tape_length p1_tape_bytes p1_now_players p1_now_round p1_now_time p1_now_kind p1_now_hand p1_now_leader p1_trial_kind p1_trial_hand p1_trial_leader p1_acts_kept p1_acts_next p1_acts_halls p1_asks_length p1_asks_numbers p1_images p1_imageKept p2_manyActs p2_status p2_tapeLong p2_fault p2_traced p2_now p2_kept p2_isKept p2_acts p2_lanes p2_longs p2_isThere p2_items p2_tape p2_traces → o_L_law 7000 L xs m a_p1_ways_best a_p1_ways_better p1_latestFault p1_latestFinding p1_rows_lane p1_rows_size p1_rows_items p1_tape_length p1_tape_bytes p1_reader_value p1_now_players p1_now_round p1_now_time p1_now_kind p1_now_hand p1_now_leader p1_now_course_first p1_now_course_second p1_now_course_thrown p1_trial_players p1_trial_round p1_trial_time p1_trial_kind p1_trial_hand p1_trial_leader p1_trial_course_first p1_trial_course_second p1_trial_course_thrown p1_acts_kept p1_acts_next p1_acts_halls p1_ways_groups p1_ways_group p1_ways_train p1_ways_best p1_ways_better p1_ways_course_first p1_ways_course_second p1_ways_course_thrown p1_asks_length p1_asks_numbers p1_images p1_imageKept p2_manyActs p2_status p2_tapeLong p2_fault p2_winner p2_throwsOf p2_handA p2_handB p2_fewestSo p2_traced p2_now p2_kept p2_isKept p2_acts p2_was p2_lanes p2_longs p2_isThere p2_items p2_copied p2_tape p2_readSorts p2_readHands p2_inTurn p2_ends p2_bestHands p2_traces (nI c) = some 1 := by
  have fin : ∀ (m c : Nat), L < c + 6 → c < 10000 → 0 < m → ∀ (a_p1_ways_best : Nat) (a_p1_ways_better : Nat) (p1_latestFault : Int32) (p1_latestFinding : Int32) (p1_rows_lane : (Nat → Int32)) (p1_rows_size : (Nat → Int32)) (p1_rows_items : (Nat → Int32)) (p1_tape_length : Int32) (p1_tape_bytes : (Nat → Int32)) (p1_reader_value : Int32) (p1_now_players : Int32) (p1_now_round : Int32) (p1_now_time : Int32) (p1_now_kind : (Nat → Int32)) (p1_now_hand : (Nat → Int32)) (p1_now_leader : (Nat → Int32)) (p1_now_course_first : Int32) (p1_now_course_second : Int32) (p1_now_course_thrown : Int32) (p1_trial_players : Int32) (p1_trial_round : Int32) (p1_trial_time : Int32) (p1_trial_kind : (Nat → Int32)) (p1_trial_hand : (Nat → Int32)) (p1_trial_leader : (Nat → Int32)) (p1_trial_course_first : Int32) (p1_trial_course_second : Int32) (p1_trial_course_thrown : Int32) (p1_acts_kept : Int32) (p1_acts_next : Int32) (p1_acts_halls : (Nat → Int32)) (p1_ways_groups : Int32) (p1_ways_group : (Nat → Int32)) (p1_ways_train : (Nat → Int32)) (p1_ways_best : (Nat → Int32)) (p1_ways_better : (Nat → Int32)) (p1_ways_course_first : Int32) (p1_ways_course_second : Int32) (p1_ways_course_thrown : Int32) (p1_asks_length : Int32) (p1_asks_numbers : (Nat → Int32)) (p1_images : (Nat → Int32)) (p1_imageKept : (Nat → Int32)) (p2_manyActs : Int32) (p2_status : Int32) (p2_tapeLong : Int32) (p2_fault : Int32) (p2_winner : Int32) (p2_throwsOf : Int32) (p2_handA : Int32) (p2_handB : Int32) (p2_fewestSo : Int32) (p2_traced : Int32) (p2_now : (Nat → Int32)) (p2_kept : (Nat → Int32)) (p2_isKept : (Nat → Int32)) (p2_acts : (Nat → Int32)) (p2_was : (Nat → Int32)) (p2_lanes : (Nat → Int32)) (p2_longs : (Nat → Int32)) (p2_isThere : (Nat → Int32)) (p2_items : (Nat → Int32)) (p2_copied : (Nat → Int32)) (p2_tape : (Nat → Int32)) (p2_readSorts : (Nat → Int32)) (p2_readHands : (Nat → Int32)) (p2_inTurn : (Nat → Int32)) (p2_ends : (Nat → Int32)) (p2_bestHands : (Nat → Int32)) (p2_traces : (Nat → Int32)), REL p1_latestFault p1_latestFinding p1_rows_lane p1_rows_size p1_rows_items p1_tape_length p1_tape_bytes p1_now_players p1_now_round p1_now_time p1_now_kind p1_now_hand p1_now_leader p1_trial_kind p1_trial_hand p1_trial_leader p1_acts_kept p1_acts_next p1_acts_halls p1_asks_length p1_asks_numbers p1_images p1_imageKept p2_manyActs p2_status p2_tapeLong p2_fault p2_traced p2_now p2_kept p2_isKept p2_acts p2_lanes p2_longs p2_isThere p2_items p2_tape p2_traces → o_L_law 7000 L xs m a_p1_ways_best a_p1_ways_better p1_latestFault p1_latestFinding p1_rows_lane p1_rows_size p1_rows_items p1_tape_length p1_tape_bytes p1_reader_value p1_now_players p1_now_round p1_now_time p1_now_kind p1_now_hand p1_now_leader p1_now_course_first p1_now_course_second p1_now_course_thrown p1_trial_players p1_trial_round p1_trial_time p1_trial_kind p1_trial_hand p1_trial_leader p1_trial_course_first p1_trial_course_second p1_trial_course_thrown p1_acts_kept p1_acts_next p1_acts_halls p1_ways_groups p1_ways_group p1_ways_train p1_ways_best p1_ways_better p1_ways_course_first p1_ways_course_second p1_ways_course_thrown p1_asks_length p1_asks_numbers p1_images p1_imageKept p2_manyActs p2_status p2_tapeLong p2_fault p2_winner p2_throwsOf p2_handA p2_handB p2_fewestSo p2_traced p2_now p2_kept p2_isKept p2_acts p2_was p2_lanes p2_longs p2_isThere p2_items p2_copied p2_tape p2_readSorts p2_readHands p2_inTurn p2_ends p2_bestHands p2_traces (nI c) = some 1 := by
    intro m c h1 h2 h3 a_p1_ways_best a_p1_ways_better p1_latestFault p1_latestFinding p1_rows_lane p1_rows_size p1_rows_items p1_tape_length p1_tape_bytes p1_reader_value p1_now_players p1_now_round p1_now_time p1_now_kind p1_now_hand p1_now_leader p1_now_course_first p1_now_course_second p1_now_course_thrown p1_trial_players p1_trial_round p1_trial_time p1_trial_kind p1_trial_hand p1_trial_leader p1_trial_course_first p1_trial_course_second p1_trial_course_thrown p1_acts_kept p1_acts_next p1_acts_halls p1_ways_groups p1_ways_group p1_ways_train p1_ways_best p1_ways_better p1_ways_course_first p1_ways_course_second p1_ways_course_thrown p1_asks_length p1_asks_numbers p1_images p1_imageKept p2_manyActs p2_status p2_tapeLong p2_fault p2_winner p2_throwsOf p2_handA p2_handB p2_fewestSo p2_traced p2_now p2_kept p2_isKept p2_acts p2_was p2_lanes p2_longs p2_isThere p2_items p2_copied p2_tape p2_readSorts p2_readHands p2_inTurn p2_ends p2_bestHands p2_traces h
    obtain ⟨m, rfl⟩ := mem_succ h3
    rw [o_L_law]
    refine (if_pos ?_).trans rfl
    rw [qlt, show (Int32.ofNat L) - 6 = nI L - nI 6 from rfl, pk_sub_toInt (by omega) (by omega), qnI (by omega)]
    omega
  intro j
  induction j with
  | zero =>
    intro m c h1 h2 h3
    exact fin m c (by omega) h2 h3
  | succ j ihj =>
    intro m c h1 h2 h3 a_p1_ways_best a_p1_ways_better p1_latestFault p1_latestFinding p1_rows_lane p1_rows_size p1_rows_items p1_tape_length p1_tape_bytes p1_reader_value p1_now_players p1_now_round p1_now_time p1_now_kind p1_now_hand p1_now_leader p1_now_course_first p1_now_course_second p1_now_course_thrown p1_trial_players p1_trial_round p1_trial_time p1_trial_kind p1_trial_hand p1_trial_leader p1_trial_course_first p1_trial_course_second p1_trial_course_thrown p1_acts_kept p1_acts_next p1_acts_halls p1_ways_groups p1_ways_group p1_ways_train p1_ways_best p1_ways_better p1_ways_course_first p1_ways_course_second p1_ways_course_thrown p1_asks_length p1_asks_numbers p1_images p1_imageKept p2_manyActs p2_status p2_tapeLong p2_fault p2_winner p2_throwsOf p2_handA p2_handB p2_fewestSo p2_traced p2_now p2_kept p2_isKept p2_acts p2_was p2_lanes p2_longs p2_isThere p2_items p2_copied p2_tape p2_readSorts p2_readHands p2_inTurn p2_ends p2_bestHands p2_traces h
    by_cases hc : c + 6 ≤ L
    · obtain ⟨m, rfl⟩ := mem_succ h3
      have ih : LIH L xs m c := by
        intro a_p1_ways_best a_p1_ways_better p1_latestFault p1_latestFinding p1_rows_lane p1_rows_size p1_rows_items p1_tape_length p1_tape_bytes p1_reader_value p1_now_players p1_now_round p1_now_time p1_now_kind p1_now_hand p1_now_leader p1_now_course_first p1_now_course_second p1_now_course_thrown p1_trial_players p1_trial_round p1_trial_time p1_trial_kind p1_trial_hand p1_trial_leader p1_trial_course_first p1_trial_course_second p1_trial_course_thrown p1_acts_kept p1_acts_next p1_acts_halls p1_ways_groups p1_ways_group p1_ways_train p1_ways_best p1_ways_better p1_ways_course_first p1_ways_course_second p1_ways_course_thrown p1_asks_length p1_asks_numbers p1_images p1_imageKept p2_manyActs p2_status p2_tapeLong p2_fault p2_winner p2_throwsOf p2_handA p2_handB p2_fewestSo p2_traced p2_now p2_kept p2_isKept p2_acts p2_was p2_lanes p2_longs p2_isThere p2_items p2_copied p2_tape p2_readSorts p2_readHands p2_inTurn p2_ends p2_bestHands p2_traces h
        rw [show nI c + 6 = nI (c + 6) from nI_add c 6]
        exact ihj m (c + 6) (by omega) (by omega) (by omega) _ _ _ _ _ _ _ _ _ _ _ _ _ _ _ _ _ _ _ _ _ _ _ _ _ _ _ _ _ _ _ _ _ _ _ _ _ _ _ _ _ _ _ _ _ _ _ _ _ _ _ _ _ _ _ _ _ _ _ _ _ _ _ _ _ _ _ _ _ _ h
      obtain ⟨i, hi, e⟩ := pk_andE (xs (nI c).toNatClampNeg) (m := 31) 5 (by decide)
      by_cases e0 : i = 0
      · exact law_op_0 hc hL (by rw [e, e0]; rfl) h ih
      by_cases e1 : i = 1
      · exact law_op_1 hc hL (by rw [e, e1]; rfl) h ih
      by_cases e2 : i = 2
      · exact law_op_2 hc hL (by rw [e, e2]; rfl) h ih
      by_cases e3 : i = 3
      · exact law_op_3 hc hL (by rw [e, e3]; rfl) h ih
      by_cases e4 : i = 4
      · exact law_op_4 hc hL (by rw [e, e4]; rfl) h ih
      by_cases e5 : i = 5
      · exact law_op_5 hc hL (by rw [e, e5]; rfl) h ih
      by_cases e6 : i = 6
      · exact law_op_6 hc hL (by rw [e, e6]; rfl) h ih
      by_cases e7 : i = 7
      · exact law_op_7 hc hL (by rw [e, e7]; rfl) h ih
      by_cases e8 : i = 8
      · exact law_op_8 hc hL (by rw [e, e8]; rfl) h ih
      by_cases e9 : i = 9
      · exact law_op_9 hc hL (by rw [e, e9]; rfl) h ih
      by_cases e10 : i = 10
      · exact law_op_10 hc hL (by rw [e, e10]; rfl) h ih
      by_cases e11 : i = 11
      · exact law_op_11 hc hL (by rw [e, e11]; rfl) h ih
      by_cases e12 : i = 12
      · exact law_op_12 hc hL (by rw [e, e12]; rfl) h ih
      by_cases e13 : i = 13
      · exact law_op_13 hc hL (by rw [e, e13]; rfl) h ih
      by_cases e14 : i = 14
      · exact law_op_14 hc hL (by rw [e, e14]; rfl) h ih
      by_cases e15 : i = 15
      · exact law_op_15 hc hL (by rw [e, e15]; rfl) h ih
      by_cases e16 : i = 16
      · exact law_op_16 hc hL (by rw [e, e16]; rfl) h ih
      by_cases e17 : i = 17
      · exact law_op_17 hc hL (by rw [e, e17]; rfl) h ih
      by_cases e18 : i = 18
      · exact law_op_18 hc hL (by rw [e, e18]; rfl) h ih
      by_cases e19 : i = 19
      · exact law_op_19 hc hL (by rw [e, e19]; rfl) h ih
      by_cases e20 : i = 20
      · exact law_op_20 hc hL (by rw [e, e20]; rfl) h ih
      by_cases e21 : i = 21
      · exact law_op_21 hc hL (by rw [e, e21]; rfl) h ih
      by_cases e22 : i = 22
      · exact law_op_22 hc hL (by rw [e, e22]; rfl) h ih
      by_cases e23 : i = 23
      · exact law_op_23 hc hL (by rw [e, e23]; rfl) h ih
      by_cases e24 : i = 24
      · exact law_op_24 hc hL (by rw [e, e24]; rfl) h ih
      by_cases e25 : i = 25
      · exact law_op_25 hc hL (by rw [e, e25]; rfl) h ih
      by_cases e26 : i = 26
      · exact law_op_26 hc hL (by rw [e, e26]; rfl) h ih
      by_cases e27 : i = 27
      · exact law_op_27 hc hL (by rw [e, e27]; rfl) h ih
      by_cases e28 : i = 28
      · exact law_op_28 hc hL (by rw [e, e28]; rfl) h ih
      by_cases e29 : i = 29
      · exact law_op_29 hc hL (by rw [e, e29]; rfl) h ih
      refine law_op_d hc hL (fun k hk q => ?_) h ih
      rw [e] at q
      have := (nI_eq (a := i) (b := k) (by omega) (by omega)).mp q
      omega
    · exact fin m c (by omega) h2 (by omega) _ _ _ _ _ _ _ _ _ _ _ _ _ _ _ _ _ _ _ _ _ _ _ _ _ _ _ _ _ _ _ _ _ _ _ _ _ _ _ _ _ _ _ _ _ _ _ _ _ _ _ _ _ _ _ _ _ _ _ _ _ _ _ _ _ _ _ _ _ _ h
