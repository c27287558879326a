/-! FistTrainsModel.in -/
abbrev rmX9_in : Room := { frames := 0, cells := 0, slots := 0, locals := 0 }
def o_X9_in (N : Nat) (L0 : Int64) (L2 : Int64) (L4 : Int64) : Option (Int32) :=
  if (lg_cmp L0 L2) < 0 then
    some (0)
  else
    if 0 < (lg_cmp L0 L4) then
      some (0)
    else
      some (1)
set_option maxHeartbeats 4000000 in
set_option maxRecDepth 100000 in
theorem z_X9_in_0 {sK sV : Nat → Nat} {E : ZE} {cI cB cZ : ClassId} (hC : ZC E 6 cX9_in wsX9_in RX9 rmX9_in (some .boolean) (zty cI cB cZ)) (hN : ZN sK sV (zA E) (zs E)) {N : Nat} {L0 : Int64} {L2 : Int64} {L4 : Int64} {rf : Int32} (hQ : ZQi E (zty cI cB cZ) rf []) (hR : o_X9_in N L0 L2 L4 = some rf) : Z E (0, 0) [(0, .long L0), (2, .long L2), (4, .long L4)] 0 [] [] := by
  rw [o_X9_in] at hR
  refine z_lload_n hC dX9_in_0 rfl 0 rfl ?_
  refine z_lload_n hC dX9_in_1 rfl 1 rfl ?_
  refine z_lcmp hC dX9_in_2 ?_
  refine z_if_lt hC 17 dX9_in_3 (by decide) hR (fun hR => ?_) (fun hR => ?_)
  · refine z_ic0 hC dX9_in_17 ?_
    obtain rfl := Option.some.inj hR
    exact z_iret hC hQ rfl rfl rfl dX9_in_18
  · refine z_lload_n hC dX9_in_6 rfl 0 rfl ?_
    refine z_lload hC dX9_in_7 2 rfl ?_
    refine z_lcmp hC dX9_in_9 ?_
    refine z_if_gt hC 17 dX9_in_10 (by decide) hR (fun hR => ?_) (fun hR => ?_)
    · refine z_ic0 hC dX9_in_17 ?_
      obtain rfl := Option.some.inj hR
      exact z_iret hC hQ rfl rfl rfl dX9_in_18
    · refine z_ic1 hC dX9_in_13 ?_
      refine z_goto hC 18 dX9_in_14 (by decide) ?_
      obtain rfl := Option.some.inj hR
      exact z_iret hC hQ rfl rfl rfl dX9_in_18
set_option maxHeartbeats 4000000 in
set_option maxRecDepth 100000 in
theorem c_X9_in {sK sV : Nat → Nat} {l : Launch} {D : va_G} {cI cB cZ : ClassId} {N : Nat} {L0 : Int64} {L2 : Int64} {L4 : Int64} : ∀ R : Int32, o_X9_in N L0 L2 L4 = some R → ZMi sK sV l yX9_in wsX9_in rmX9_in D (zty cI cB cZ) [.long L0, .long L2, .long L4] [] R [] := by
  intro R hR
  refine zi_of (cc := cX9_in) (maxL := 6) (ret := (some .boolean)) (by decide) rfl (Nat.le_of_ble_eq_true rfl) (fun E hE1 hE2 hC hN hQ => ?_)
  subst hE1 hE2
  exact z_X9_in_0 hC hN (N := N) (L0 := L0) (L2 := L2) (L4 := L4) hQ hR

/-! FistTrainsModel.found -/
abbrev rmX9_found : Room := { frames := 0, cells := 0, slots := 0, locals := 0 }
set_option maxRecDepth 20000 in
theorem iX9_found_X9 : ∀ w ∈ wsX90, w ∈ wsX9_found := by decide +kernel
set_option maxRecDepth 20000 in
theorem mX9_found_1 : Cond.fieldLink RX9 62 "FistTrainsModel" "status" "I" ∈ wsX9_found := List.mem_of_getElem? (i := 1) rfl
set_option maxRecDepth 20000 in
theorem mX9_found_2 : Cond.constant RX9 66 (-1000010) ∈ wsX9_found := List.mem_of_getElem? (i := 2) rfl
def o_X9_found (N : Nat) (l1 : Int32) : Option (Int32 × Int32) :=
  some (((-1000010) - l1), l1)
set_option maxHeartbeats 4000000 in
set_option maxRecDepth 100000 in
theorem z_X9_found_0 {sK sV : Nat → Nat} {E : ZE} {cI cB cZ : ClassId} (hC : ZC E 2 cX9_found wsX9_found RX9 rmX9_found (some .int) (zty cI cB cZ)) (hN : ZN sK sV (zA E) (zs E)) {N : Nat} {a_t : Nat} {a_t_now : Nat} {a_t_kept : Nat} {a_t_isKept : Nat} {a_t_acts : Nat} {a_t_was : Nat} {a_t_lanes : Nat} {a_t_longs : Nat} {a_t_isThere : Nat} {a_t_items : Nat} {a_t_copied : Nat} {a_t_tape : Nat} {a_t_readSorts : Nat} {a_t_readHands : Nat} {a_t_inTurn : Nat} {a_t_ends : Nat} {a_t_bestHands : Nat} {a_t_traces : Nat} {t_manyActs : Int32} {t_status : Int32} {t_tapeLong : Int32} {t_fault : Int32} {t_tokenAt : Int32} {t_tokenLong : Int32} {t_token : Int32} {t_value : Int32} {t_winner : Int32} {t_throwsOf : Int32} {t_handA : Int32} {t_handB : Int32} {t_fewestSo : Int32} {t_traced : Int32} {l1 : Int32} {rf : Int32 × Int32} (hQ : ZQi E (zty cI cB cZ) rf.1 [(a_t, .inr (9, [.ref a_t_now, .ref a_t_kept, .ref a_t_isKept, .ref a_t_acts, .int t_manyActs, .ref a_t_was, .int rf.2, .ref a_t_lanes, .ref a_t_longs, .ref a_t_isThere, .ref a_t_items, .ref a_t_copied, .ref a_t_tape, .int t_tapeLong, .int t_fault, .int t_tokenAt, .int t_tokenLong, .int t_token, .int t_value, .ref a_t_readSorts, .ref a_t_readHands, .int t_winner, .int t_throwsOf, .int t_handA, .int t_handB, .ref a_t_inTurn, .ref a_t_ends, .ref a_t_bestHands, .int t_fewestSo, .ref a_t_traces, .int t_traced]))]) (hR : o_X9_found N l1 = some rf) : Z E (0, 0) [(0, .ref a_t), (1, .int l1)] 0 [] [(a_t, .inr (9, [.ref a_t_now, .ref a_t_kept, .ref a_t_isKept, .ref a_t_acts, .int t_manyActs, .ref a_t_was, .int t_status, .ref a_t_lanes, .ref a_t_longs, .ref a_t_isThere, .ref a_t_items, .ref a_t_copied, .ref a_t_tape, .int t_tapeLong, .int t_fault, .int t_tokenAt, .int t_tokenLong, .int t_token, .int t_value, .ref a_t_readSorts, .ref a_t_readHands, .int t_winner, .int t_throwsOf, .int t_handA, .int t_handB, .ref a_t_inTurn, .ref a_t_ends, .ref a_t_bestHands, .int t_fewestSo, .ref a_t_traces, .int t_traced]))] := by
  rw [o_X9_found] at hR
  refine z_aload_n hC dX9_found_0 rfl 0 rfl ?_
  refine z_iload_n hC dX9_found_1 rfl 1 rfl ?_
  refine z_put hC iX9_found_X9 tyX9_ok nmX9 rfl 0 6 rfl (by decide) mX9_found_1 rfl rfl rfl rfl (Nat.le_of_ble_eq_true rfl) dX9_found_2 ?_
  refine z_ldc hC (-1000010) mX9_found_2 dX9_found_5 ?_
  refine z_iload_n hC dX9_found_7 rfl 1 rfl ?_
  refine z_isub hC dX9_found_8 ?_
  obtain rfl := Option.some.inj hR
  exact z_iret hC hQ rfl rfl rfl dX9_found_9
set_option maxHeartbeats 4000000 in
set_option maxRecDepth 100000 in
theorem c_X9_found {sK sV : Nat → Nat} {l : Launch} {D : va_G} {cI cB cZ : ClassId} {N : Nat} {a_t : Nat} {a_t_now : Nat} {a_t_kept : Nat} {a_t_isKept : Nat} {a_t_acts : Nat} {a_t_was : Nat} {a_t_lanes : Nat} {a_t_longs : Nat} {a_t_isThere : Nat} {a_t_items : Nat} {a_t_copied : Nat} {a_t_tape : Nat} {a_t_readSorts : Nat} {a_t_readHands : Nat} {a_t_inTurn : Nat} {a_t_ends : Nat} {a_t_bestHands : Nat} {a_t_traces : Nat} {t_manyActs : Int32} {t_status : Int32} {t_tapeLong : Int32} {t_fault : Int32} {t_tokenAt : Int32} {t_tokenLong : Int32} {t_token : Int32} {t_value : Int32} {t_winner : Int32} {t_throwsOf : Int32} {t_handA : Int32} {t_handB : Int32} {t_fewestSo : Int32} {t_traced : Int32} {l1 : Int32} : ∀ R : Int32 × Int32, o_X9_found N l1 = some R → ZMi sK sV l yX9_found wsX9_found rmX9_found D (zty cI cB cZ) [.ref a_t, .int l1] [(a_t, .inr (9, [.ref a_t_now, .ref a_t_kept, .ref a_t_isKept, .ref a_t_acts, .int t_manyActs, .ref a_t_was, .int t_status, .ref a_t_lanes, .ref a_t_longs, .ref a_t_isThere, .ref a_t_items, .ref a_t_copied, .ref a_t_tape, .int t_tapeLong, .int t_fault, .int t_tokenAt, .int t_tokenLong, .int t_token, .int t_value, .ref a_t_readSorts, .ref a_t_readHands, .int t_winner, .int t_throwsOf, .int t_handA, .int t_handB, .ref a_t_inTurn, .ref a_t_ends, .ref a_t_bestHands, .int t_fewestSo, .ref a_t_traces, .int t_traced]))] R.1 [(a_t, .inr (9, [.ref a_t_now, .ref a_t_kept, .ref a_t_isKept, .ref a_t_acts, .int t_manyActs, .ref a_t_was, .int R.2, .ref a_t_lanes, .ref a_t_longs, .ref a_t_isThere, .ref a_t_items, .ref a_t_copied, .ref a_t_tape, .int t_tapeLong, .int t_fault, .int t_tokenAt, .int t_tokenLong, .int t_token, .int t_value, .ref a_t_readSorts, .ref a_t_readHands, .int t_winner, .int t_throwsOf, .int t_handA, .int t_handB, .ref a_t_inTurn, .ref a_t_ends, .ref a_t_bestHands, .int t_fewestSo, .ref a_t_traces, .int t_traced]))] := by
  intro R hR
  refine zi_of (cc := cX9_found) (maxL := 2) (ret := (some .int)) (by decide) rfl (Nat.le_of_ble_eq_true rfl) (fun E hE1 hE2 hC hN hQ => ?_)
  subst hE1 hE2
  exact z_X9_found_0 hC hN (N := N) (a_t := a_t) (a_t_now := a_t_now) (a_t_kept := a_t_kept) (a_t_isKept := a_t_isKept) (a_t_acts := a_t_acts) (a_t_was := a_t_was) (a_t_lanes := a_t_lanes) (a_t_longs := a_t_longs) (a_t_isThere := a_t_isThere) (a_t_items := a_t_items) (a_t_copied := a_t_copied) (a_t_tape := a_t_tape) (a_t_readSorts := a_t_readSorts) (a_t_readHands := a_t_readHands) (a_t_inTurn := a_t_inTurn) (a_t_ends := a_t_ends) (a_t_bestHands := a_t_bestHands) (a_t_traces := a_t_traces) (t_manyActs := t_manyActs) (t_status := t_status) (t_tapeLong := t_tapeLong) (t_fault := t_fault) (t_tokenAt := t_tokenAt) (t_tokenLong := t_tokenLong) (t_token := t_token) (t_value := t_value) (t_winner := t_winner) (t_throwsOf := t_throwsOf) (t_handA := t_handA) (t_handB := t_handB) (t_fewestSo := t_fewestSo) (t_traced := t_traced) (l1 := l1) hQ hR

/-! FistTrainsModel.well -/
abbrev rmX9_well : Room := { frames := 0, cells := 0, slots := 0, locals := 0 }
set_option maxRecDepth 20000 in
theorem iX9_well_X9 : ∀ w ∈ wsX90, w ∈ wsX9_well := by decide +kernel
set_option maxRecDepth 20000 in
theorem mX9_well_1 : Cond.fieldLink RX9 62 "FistTrainsModel" "status" "I" ∈ wsX9_well := List.mem_of_getElem? (i := 1) rfl
def o_X9_well (N : Nat) (l1 : Int32) : Option (Int32 × Int32) :=
  some (l1, 0)
set_option maxHeartbeats 4000000 in
set_option maxRecDepth 100000 in
theorem z_X9_well_0 {sK sV : Nat → Nat} {E : ZE} {cI cB cZ : ClassId} (hC : ZC E 2 cX9_well wsX9_well RX9 rmX9_well (some .int) (zty cI cB cZ)) (hN : ZN sK sV (zA E) (zs E)) {N : Nat} {a_t : Nat} {a_t_now : Nat} {a_t_kept : Nat} {a_t_isKept : Nat} {a_t_acts : Nat} {a_t_was : Nat} {a_t_lanes : Nat} {a_t_longs : Nat} {a_t_isThere : Nat} {a_t_items : Nat} {a_t_copied : Nat} {a_t_tape : Nat} {a_t_readSorts : Nat} {a_t_readHands : Nat} {a_t_inTurn : Nat} {a_t_ends : Nat} {a_t_bestHands : Nat} {a_t_traces : Nat} {t_manyActs : Int32} {t_status : Int32} {t_tapeLong : Int32} {t_fault : Int32} {t_tokenAt : Int32} {t_tokenLong : Int32} {t_token : Int32} {t_value : Int32} {t_winner : Int32} {t_throwsOf : Int32} {t_handA : Int32} {t_handB : Int32} {t_fewestSo : Int32} {t_traced : Int32} {l1 : Int32} {rf : Int32 × Int32} (hQ : ZQi E (zty cI cB cZ) rf.1 [(a_t, .inr (9, [.ref a_t_now, .ref a_t_kept, .ref a_t_isKept, .ref a_t_acts, .int t_manyActs, .ref a_t_was, .int rf.2, .ref a_t_lanes, .ref a_t_longs, .ref a_t_isThere, .ref a_t_items, .ref a_t_copied, .ref a_t_tape, .int t_tapeLong, .int t_fault, .int t_tokenAt, .int t_tokenLong, .int t_token, .int t_value, .ref a_t_readSorts, .ref a_t_readHands, .int t_winner, .int t_throwsOf, .int t_handA, .int t_handB, .ref a_t_inTurn, .ref a_t_ends, .ref a_t_bestHands, .int t_fewestSo, .ref a_t_traces, .int t_traced]))]) (hR : o_X9_well N l1 = some rf) : Z E (0, 0) [(0, .ref a_t), (1, .int l1)] 0 [] [(a_t, .inr (9, [.ref a_t_now, .ref a_t_kept, .ref a_t_isKept, .ref a_t_acts, .int t_manyActs, .ref a_t_was, .int t_status, .ref a_t_lanes, .ref a_t_longs, .ref a_t_isThere, .ref a_t_items, .ref a_t_copied, .ref a_t_tape, .int t_tapeLong, .int t_fault, .int t_tokenAt, .int t_tokenLong, .int t_token, .int t_value, .ref a_t_readSorts, .ref a_t_readHands, .int t_winner, .int t_throwsOf, .int t_handA, .int t_handB, .ref a_t_inTurn, .ref a_t_ends, .ref a_t_bestHands, .int t_fewestSo, .ref a_t_traces, .int t_traced]))] := by
  rw [o_X9_well] at hR
  refine z_aload_n hC dX9_well_0 rfl 0 rfl ?_
  refine z_ic0 hC dX9_well_1 ?_
  refine z_put hC iX9_well_X9 tyX9_ok nmX9 rfl 0 6 rfl (by decide) mX9_well_1 rfl rfl rfl rfl (Nat.le_of_ble_eq_true rfl) dX9_well_2 ?_
  refine z_iload_n hC dX9_well_5 rfl 1 rfl ?_
  obtain rfl := Option.some.inj hR
  exact z_iret hC hQ rfl rfl rfl dX9_well_6
set_option maxHeartbeats 4000000 in
set_option maxRecDepth 100000 in
theorem c_X9_well {sK sV : Nat → Nat} {l : Launch} {D : va_G} {cI cB cZ : ClassId} {N : Nat} {a_t : Nat} {a_t_now : Nat} {a_t_kept : Nat} {a_t_isKept : Nat} {a_t_acts : Nat} {a_t_was : Nat} {a_t_lanes : Nat} {a_t_longs : Nat} {a_t_isThere : Nat} {a_t_items : Nat} {a_t_copied : Nat} {a_t_tape : Nat} {a_t_readSorts : Nat} {a_t_readHands : Nat} {a_t_inTurn : Nat} {a_t_ends : Nat} {a_t_bestHands : Nat} {a_t_traces : Nat} {t_manyActs : Int32} {t_status : Int32} {t_tapeLong : Int32} {t_fault : Int32} {t_tokenAt : Int32} {t_tokenLong : Int32} {t_token : Int32} {t_value : Int32} {t_winner : Int32} {t_throwsOf : Int32} {t_handA : Int32} {t_handB : Int32} {t_fewestSo : Int32} {t_traced : Int32} {l1 : Int32} : ∀ R : Int32 × Int32, o_X9_well N l1 = some R → ZMi sK sV l yX9_well wsX9_well rmX9_well D (zty cI cB cZ) [.ref a_t, .int l1] [(a_t, .inr (9, [.ref a_t_now, .ref a_t_kept, .ref a_t_isKept, .ref a_t_acts, .int t_manyActs, .ref a_t_was, .int t_status, .ref a_t_lanes, .ref a_t_longs, .ref a_t_isThere, .ref a_t_items, .ref a_t_copied, .ref a_t_tape, .int t_tapeLong, .int t_fault, .int t_tokenAt, .int t_tokenLong, .int t_token, .int t_value, .ref a_t_readSorts, .ref a_t_readHands, .int t_winner, .int t_throwsOf, .int t_handA, .int t_handB, .ref a_t_inTurn, .ref a_t_ends, .ref a_t_bestHands, .int t_fewestSo, .ref a_t_traces, .int t_traced]))] R.1 [(a_t, .inr (9, [.ref a_t_now, .ref a_t_kept, .ref a_t_isKept, .ref a_t_acts, .int t_manyActs, .ref a_t_was, .int R.2, .ref a_t_lanes, .ref a_t_longs, .ref a_t_isThere, .ref a_t_items, .ref a_t_copied, .ref a_t_tape, .int t_tapeLong, .int t_fault, .int t_tokenAt, .int t_tokenLong, .int t_token, .int t_value, .ref a_t_readSorts, .ref a_t_readHands, .int t_winner, .int t_throwsOf, .int t_handA, .int t_handB, .ref a_t_inTurn, .ref a_t_ends, .ref a_t_bestHands, .int t_fewestSo, .ref a_t_traces, .int t_traced]))] := by
  intro R hR
  refine zi_of (cc := cX9_well) (maxL := 2) (ret := (some .int)) (by decide) rfl (Nat.le_of_ble_eq_true rfl) (fun E hE1 hE2 hC hN hQ => ?_)
  subst hE1 hE2
  exact z_X9_well_0 hC hN (N := N) (a_t := a_t) (a_t_now := a_t_now) (a_t_kept := a_t_kept) (a_t_isKept := a_t_isKept) (a_t_acts := a_t_acts) (a_t_was := a_t_was) (a_t_lanes := a_t_lanes) (a_t_longs := a_t_longs) (a_t_isThere := a_t_isThere) (a_t_items := a_t_items) (a_t_copied := a_t_copied) (a_t_tape := a_t_tape) (a_t_readSorts := a_t_readSorts) (a_t_readHands := a_t_readHands) (a_t_inTurn := a_t_inTurn) (a_t_ends := a_t_ends) (a_t_bestHands := a_t_bestHands) (a_t_traces := a_t_traces) (t_manyActs := t_manyActs) (t_status := t_status) (t_tapeLong := t_tapeLong) (t_fault := t_fault) (t_tokenAt := t_tokenAt) (t_tokenLong := t_tokenLong) (t_token := t_token) (t_value := t_value) (t_winner := t_winner) (t_throwsOf := t_throwsOf) (t_handA := t_handA) (t_handB := t_handB) (t_fewestSo := t_fewestSo) (t_traced := t_traced) (l1 := l1) hQ hR

/-! FistTrainsModel.isRow -/
abbrev rmX9_isRow : Room := { frames := 1, cells := 0, slots := 0, locals := 25 }
set_option maxRecDepth 20000 in
theorem mX9_isRow_1 : Cond.constantLong RX9 67 (7) ∈ wsX9_isRow := List.mem_of_getElem? (i := 1) rfl
def o_X9_isRow (N : Nat) (l0 : Int32) : Option (Int32) :=
  Option.bind (o_X9_in N (Int32.toInt64 l0) 0 7) (fun r6 =>
  ogd (isb r6) (
  some (r6)))
set_option maxHeartbeats 4000000 in
set_option maxRecDepth 100000 in
theorem z_X9_isRow_0 {sK sV : Nat → Nat} {E : ZE} {cI cB cZ : ClassId} (hC : ZC E 1 cX9_isRow wsX9_isRow RX9 rmX9_isRow (some .boolean) (zty cI cB cZ)) (hN : ZN sK sV (zA E) (zs E)) {N : Nat} {l0 : Int32} {rf : Int32} (hQ : ZQi E (zty cI cB cZ) rf []) (hR : o_X9_isRow N l0 = some rf) : Z E (0, 0) [(0, .int l0)] 0 [] [] := by
  rw [o_X9_isRow] at hR
  refine z_iload_n hC dX9_isRow_0 rfl 0 rfl ?_
  refine z_i2l hC dX9_isRow_1 ?_
  refine z_lconst (v := 0) hC dX9_isRow_2 rfl ?_
  refine z_ldc2 hC 7 mX9_isRow_1 dX9_isRow_3 ?_
  refine z_callSi_p hC hN [.long (Int32.toInt64 l0), .long 0, .long 7] [] (c_X9_in (l := zl E) (D := zD E) (cI := cI) (cB := cB) (cZ := cZ) (N := N) (L0 := (Int32.toInt64 l0)) (L2 := 0) (L4 := 7)) rfl ⟨rfl, rfl⟩ gX9_isRow_X9_in hsX9_in ⟨Nat.le_of_ble_eq_true rfl, Nat.le_of_ble_eq_true rfl⟩ ⟨Nat.zero_le _, Nat.zero_le _⟩ rfl (Nat.le_of_ble_eq_true rfl) rfl (by decide) dX9_isRow_6 hR (fun r6 hR => ?_)
  obtain ⟨hb9, hR⟩ := ogd_s hR
  obtain rfl := Option.some.inj hR
  exact z_iret hC hQ (isb_s hb9) rfl rfl dX9_isRow_9
set_option maxHeartbeats 4000000 in
set_option maxRecDepth 100000 in
theorem c_X9_isRow {sK sV : Nat → Nat} {l : Launch} {D : va_G} {cI cB cZ : ClassId} {N : Nat} {l0 : Int32} : ∀ R : Int32, o_X9_isRow N l0 = some R → ZMi sK sV l yX9_isRow wsX9_isRow rmX9_isRow D (zty cI cB cZ) [.int l0] [] R [] := by
  intro R hR
  refine zi_of (cc := cX9_isRow) (maxL := 1) (ret := (some .boolean)) (by decide) rfl (Nat.le_of_ble_eq_true rfl) (fun E hE1 hE2 hC hN hQ => ?_)
  subst hE1 hE2
  exact z_X9_isRow_0 hC hN (N := N) (l0 := l0) hQ hR

/-! FistTrainsModel.row -/
abbrev rmX9_row : Room := { frames := 2, cells := 0, slots := 0, locals := 45 }
set_option maxRecDepth 20000 in
theorem mX9_row_2 : Cond.constant RX9 79 (-1000001) ∈ wsX9_row := List.mem_of_getElem? (i := 2) rfl
set_option maxRecDepth 20000 in
theorem mX9_row_1 : Cond.constantLong RX9 77 (2) ∈ wsX9_row := List.mem_of_getElem? (i := 1) rfl
set_option maxRecDepth 20000 in
theorem iX9_row_X9 : ∀ w ∈ wsX90, w ∈ wsX9_row := by decide +kernel
set_option maxRecDepth 20000 in
theorem mX9_row_3 : Cond.fieldLink RX9 32 "FistTrainsModel" "isThere" "[Z" ∈ wsX9_row := List.mem_of_getElem? (i := 3) rfl
set_option maxRecDepth 20000 in
theorem mX9_row_4 : Cond.fieldLink RX9 26 "FistTrainsModel" "lanes" "[I" ∈ wsX9_row := List.mem_of_getElem? (i := 4) rfl
set_option maxRecDepth 20000 in
theorem mX9_row_5 : Cond.fieldLink RX9 29 "FistTrainsModel" "longs" "[I" ∈ wsX9_row := List.mem_of_getElem? (i := 5) rfl
set_option maxRecDepth 20000 in
theorem mX9_row_6 : Cond.fieldLink RX9 35 "FistTrainsModel" "items" "[I" ∈ wsX9_row := List.mem_of_getElem? (i := 6) rfl
def o_X9_row_62 (N : Nat) (t_lanes : (Nat → Int32)) (t_longs : (Nat → Int32)) (t_isThere : (Nat → Int32)) (l1 : Int32) (l3 : Int32) : Nat → (Nat → Int32) → Int32 → Option (Int32 × Int32 × (Nat → Int32) × (Nat → Int32) × (Nat → Int32) × (Nat → Int32))
  | 0 => fun _ _ => none
  | n + 1 => fun t_items l4 => 
    if 40 ≤ l4 then
      Option.bind (o_X9_well N l3) (fun r90 =>
      some (r90.1, r90.2, t_lanes, t_longs, t_isThere, t_items))
    else
      ogd (inb ((40 * l1) + l4) 320) (
      o_X9_row_62 N t_lanes t_longs t_isThere l1 l3 n (upd t_items (Int32.toNatClampNeg ((40 * l1) + l4)) 0) (l4 + 1))
def o_X9_row (N : Nat) (t_status : Int32) (t_lanes : (Nat → Int32)) (t_longs : (Nat → Int32)) (t_isThere : (Nat → Int32)) (t_items : (Nat → Int32)) (l1 : Int32) (l2 : Int32) (l3 : Int32) : Option (Int32 × Int32 × (Nat → Int32) × (Nat → Int32) × (Nat → Int32) × (Nat → Int32)) :=
  Option.bind (o_X9_isRow N l1) (fun r1 =>
  if r1 = 0 then
    some ((-1000001), t_status, t_lanes, t_longs, t_isThere, t_items)
  else
    Option.bind (o_X9_in N (Int32.toInt64 l2) 0 2) (fun r13 =>
    if r13 = 0 then
      some ((-1000001), t_status, t_lanes, t_longs, t_isThere, t_items)
    else
      if l3 ≤ 40 then
        if 0 ≤ l3 then
          ogd (inb l1 8) (
          ogd (inb l1 8) (
          ogd (inb l1 8) (
          o_X9_row_62 N (upd t_lanes (Int32.toNatClampNeg l1) l2) (upd t_longs (Int32.toNatClampNeg l1) l3) (upd t_isThere (Int32.toNatClampNeg l1) (vp_nar .boolean 1)) l1 l3 N t_items 0)))
        else
          Option.bind (o_X9_found N 4) (fun r34 =>
          some (r34.1, r34.2, t_lanes, t_longs, t_isThere, t_items))
      else
        some ((-1000001), t_status, t_lanes, t_longs, t_isThere, t_items)))
set_option maxHeartbeats 4000000 in
set_option maxRecDepth 100000 in
theorem z_X9_row_62 {sK sV : Nat → Nat} {E : ZE} {cI cB cZ : ClassId} (hC : ZC E 5 cX9_row wsX9_row RX9 rmX9_row (some .int) (zty cI cB cZ)) (hN : ZN sK sV (zA E) (zs E)) {N : Nat} {a_t : Nat} {a_t_lanes : Nat} {a_t_longs : Nat} {a_t_isThere : Nat} {a_t_items : Nat} {a_t_now : Nat} {a_t_kept : Nat} {a_t_isKept : Nat} {a_t_acts : Nat} {a_t_was : Nat} {a_t_copied : Nat} {a_t_tape : Nat} {a_t_readSorts : Nat} {a_t_readHands : Nat} {a_t_inTurn : Nat} {a_t_ends : Nat} {a_t_bestHands : Nat} {a_t_traces : Nat} {t_manyActs : Int32} {t_status : Int32} {t_tapeLong : Int32} {t_fault : Int32} {t_tokenAt : Int32} {t_tokenLong : Int32} {t_token : Int32} {t_value : Int32} {t_winner : Int32} {t_throwsOf : Int32} {t_handA : Int32} {t_handB : Int32} {t_fewestSo : Int32} {t_traced : Int32} {t_lanes : (Nat → Int32)} {t_longs : (Nat → Int32)} {t_isThere : (Nat → Int32)} {l1 : Int32} {l3 : Int32} {rf : Int32 × Int32 × (Nat → Int32) × (Nat → Int32) × (Nat → Int32) × (Nat → Int32)} (hQ : ZQi E (zty cI cB cZ) rf.1 [(a_t, .inr (9, [.ref a_t_now, .ref a_t_kept, .ref a_t_isKept, .ref a_t_acts, .int t_manyActs, .ref a_t_was, .int rf.2.1, .ref a_t_lanes, .ref a_t_longs, .ref a_t_isThere, .ref a_t_items, .ref a_t_copied, .ref a_t_tape, .int t_tapeLong, .int t_fault, .int t_tokenAt, .int t_tokenLong, .int t_token, .int t_value, .ref a_t_readSorts, .ref a_t_readHands, .int t_winner, .int t_throwsOf, .int t_handA, .int t_handB, .ref a_t_inTurn, .ref a_t_ends, .ref a_t_bestHands, .int t_fewestSo, .ref a_t_traces, .int t_traced])), (a_t_lanes, .inl (cI, 8, .inl rf.2.2.1)), (a_t_longs, .inl (cI, 8, .inl rf.2.2.2.1)), (a_t_isThere, .inl (cZ, 8, .inl rf.2.2.2.2.1)), (a_t_items, .inl (cI, 320, .inl rf.2.2.2.2.2))]) : ∀ (n : Nat) (t_items : (Nat → Int32)) (l4 : Int32), o_X9_row_62 N t_lanes t_longs t_isThere l1 l3 n t_items l4 = some rf → Z E (0, 0) [(0, .ref a_t), (1, .int l1), (3, .int l3), (4, .int l4)] 62 [] [(a_t, .inr (9, [.ref a_t_now, .ref a_t_kept, .ref a_t_isKept, .ref a_t_acts, .int t_manyActs, .ref a_t_was, .int t_status, .ref a_t_lanes, .ref a_t_longs, .ref a_t_isThere, .ref a_t_items, .ref a_t_copied, .ref a_t_tape, .int t_tapeLong, .int t_fault, .int t_tokenAt, .int t_tokenLong, .int t_token, .int t_value, .ref a_t_readSorts, .ref a_t_readHands, .int t_winner, .int t_throwsOf, .int t_handA, .int t_handB, .ref a_t_inTurn, .ref a_t_ends, .ref a_t_bestHands, .int t_fewestSo, .ref a_t_traces, .int t_traced])), (a_t_lanes, .inl (cI, 8, .inl t_lanes)), (a_t_longs, .inl (cI, 8, .inl t_longs)), (a_t_isThere, .inl (cZ, 8, .inl t_isThere)), (a_t_items, .inl (cI, 320, .inl t_items))] := by
  intro n
  induction n with
  | zero =>
    intro t_items l4 hR
    cases hR
  | succ n ih =>
    intro t_items l4 hR
    rw [o_X9_row_62] at hR
    refine z_iload hC dX9_row_62 3 rfl ?_
    refine z_bipush (v := 40) hC dX9_row_64 (by decide) ?_
    refine z_icmp_ge hC 88 dX9_row_66 (by decide) hR (fun hR => ?_) (fun hR => ?_)
    · refine z_aload_n hC dX9_row_88 rfl 0 rfl ?_
      refine z_iload_n hC dX9_row_89 rfl 2 rfl ?_
      refine z_callVi hC hN [.int l3] [0] (c_X9_well (l := zl E) (D := zD E) (cI := cI) (cB := cB) (cZ := cZ) (N := N) (a_t := a_t) (a_t_now := a_t_now) (a_t_kept := a_t_kept) (a_t_isKept := a_t_isKept) (a_t_acts := a_t_acts) (a_t_was := a_t_was) (a_t_lanes := a_t_lanes) (a_t_longs := a_t_longs) (a_t_isThere := a_t_isThere) (a_t_items := a_t_items) (a_t_copied := a_t_copied) (a_t_tape := a_t_tape) (a_t_readSorts := a_t_readSorts) (a_t_readHands := a_t_readHands) (a_t_inTurn := a_t_inTurn) (a_t_ends := a_t_ends) (a_t_bestHands := a_t_bestHands) (a_t_traces := a_t_traces) (l1 := l3) (t_manyActs := t_manyActs) (t_status := t_status) (t_tapeLong := t_tapeLong) (t_fault := t_fault) (t_tokenAt := t_tokenAt) (t_tokenLong := t_tokenLong) (t_token := t_token) (t_value := t_value) (t_winner := t_winner) (t_throwsOf := t_throwsOf) (t_handA := t_handA) (t_handB := t_handB) (t_fewestSo := t_fewestSo) (t_traced := t_traced)) rfl ⟨rfl, rfl⟩ gX9_row_X9_well hvX9_well 0 9 rfl rfl rfl ⟨Nat.le_of_ble_eq_true rfl, Nat.le_of_ble_eq_true rfl⟩ ⟨Nat.zero_le _, Nat.zero_le _⟩ rfl (Nat.le_of_ble_eq_true rfl) rfl (by decide) (fun _ => rfl) dX9_row_90 hR (fun r90 hR => ?_)
      refine z_eq [(a_t, .inr (9, [.ref a_t_now, .ref a_t_kept, .ref a_t_isKept, .ref a_t_acts, .int t_manyActs, .ref a_t_was, .int r90.2, .ref a_t_lanes, .ref a_t_longs, .ref a_t_isThere, .ref a_t_items, .ref a_t_copied, .ref a_t_tape, .int t_tapeLong, .int t_fault, .int t_tokenAt, .int t_tokenLong, .int t_token, .int t_value, .ref a_t_readSorts, .ref a_t_readHands, .int t_winner, .int t_throwsOf, .int t_handA, .int t_handB, .ref a_t_inTurn, .ref a_t_ends, .ref a_t_bestHands, .int t_fewestSo, .ref a_t_traces, .int t_traced])), (a_t_lanes, .inl (cI, 8, .inl t_lanes)), (a_t_longs, .inl (cI, 8, .inl t_longs)), (a_t_isThere, .inl (cZ, 8, .inl t_isThere)), (a_t_items, .inl (cI, 320, .inl t_items))] rfl ?_
      obtain rfl := Option.some.inj hR
      exact z_iret hC hQ rfl rfl rfl dX9_row_93
    · refine z_aload_n hC dX9_row_69 rfl 0 rfl ?_
      refine z_get hC iX9_row_X9 rfl 0 10 rfl (by decide) mX9_row_6 rfl rfl dX9_row_70 ?_
      refine z_bipush (v := 40) hC dX9_row_73 (by decide) ?_
      refine z_iload_n hC dX9_row_75 rfl 1 rfl ?_
      refine z_imul hC dX9_row_76 ?_
      refine z_iload hC dX9_row_77 3 rfl ?_
      refine z_iadd hC dX9_row_79 ?_
      refine z_ic0 hC dX9_row_80 ?_
      refine z_iast hC 4 0 rfl rfl dX9_row_81 hR (fun hR => ?_)
      refine z_iinc1 hC [(4, .int (l4 + 1)), (0, .ref a_t), (1, .int l1), (3, .int l3)] dX9_row_82 3 rfl (by decide) rfl ?_
      refine z_goto hC 62 dX9_row_85 (by decide) ?_
      refine z_sub (lv' := [(0, .ref a_t), (1, .int l1), (3, .int l3), (4, .int (l4 + 1))]) [1, 2, 3, 0] rfl ?_
      exact ih (upd t_items (Int32.toNatClampNeg ((40 * l1) + l4)) 0) (l4 + 1) hR
set_option maxHeartbeats 4000000 in
set_option maxRecDepth 100000 in
theorem z_X9_row_0 {sK sV : Nat → Nat} {E : ZE} {cI cB cZ : ClassId} (hC : ZC E 5 cX9_row wsX9_row RX9 rmX9_row (some .int) (zty cI cB cZ)) (hN : ZN sK sV (zA E) (zs E)) {N : Nat} {a_t : Nat} {a_t_lanes : Nat} {a_t_longs : Nat} {a_t_isThere : Nat} {a_t_items : Nat} {a_t_now : Nat} {a_t_kept : Nat} {a_t_isKept : Nat} {a_t_acts : Nat} {a_t_was : Nat} {a_t_copied : Nat} {a_t_tape : Nat} {a_t_readSorts : Nat} {a_t_readHands : Nat} {a_t_inTurn : Nat} {a_t_ends : Nat} {a_t_bestHands : Nat} {a_t_traces : Nat} {t_manyActs : Int32} {t_status : Int32} {t_tapeLong : Int32} {t_fault : Int32} {t_tokenAt : Int32} {t_tokenLong : Int32} {t_token : Int32} {t_value : Int32} {t_winner : Int32} {t_throwsOf : Int32} {t_handA : Int32} {t_handB : Int32} {t_fewestSo : Int32} {t_traced : Int32} {t_lanes : (Nat → Int32)} {t_longs : (Nat → Int32)} {t_isThere : (Nat → Int32)} {t_items : (Nat → Int32)} {l1 : Int32} {l2 : Int32} {l3 : Int32} {rf : Int32 × Int32 × (Nat → Int32) × (Nat → Int32) × (Nat → Int32) × (Nat → Int32)} (hQ : ZQi E (zty cI cB cZ) rf.1 [(a_t, .inr (9, [.ref a_t_now, .ref a_t_kept, .ref a_t_isKept, .ref a_t_acts, .int t_manyActs, .ref a_t_was, .int rf.2.1, .ref a_t_lanes, .ref a_t_longs, .ref a_t_isThere, .ref a_t_items, .ref a_t_copied, .ref a_t_tape, .int t_tapeLong, .int t_fault, .int t_tokenAt, .int t_tokenLong, .int t_token, .int t_value, .ref a_t_readSorts, .ref a_t_readHands, .int t_winner, .int t_throwsOf, .int t_handA, .int t_handB, .ref a_t_inTurn, .ref a_t_ends, .ref a_t_bestHands, .int t_fewestSo, .ref a_t_traces, .int t_traced])), (a_t_lanes, .inl (cI, 8, .inl rf.2.2.1)), (a_t_longs, .inl (cI, 8, .inl rf.2.2.2.1)), (a_t_isThere, .inl (cZ, 8, .inl rf.2.2.2.2.1)), (a_t_items, .inl (cI, 320, .inl rf.2.2.2.2.2))]) (hR : o_X9_row N t_status t_lanes t_longs t_isThere t_items l1 l2 l3 = some rf) : Z E (0, 0) [(0, .ref a_t), (1, .int l1), (2, .int l2), (3, .int l3)] 0 [] [(a_t, .inr (9, [.ref a_t_now, .ref a_t_kept, .ref a_t_isKept, .ref a_t_acts, .int t_manyActs, .ref a_t_was, .int t_status, .ref a_t_lanes, .ref a_t_longs, .ref a_t_isThere, .ref a_t_items, .ref a_t_copied, .ref a_t_tape, .int t_tapeLong, .int t_fault, .int t_tokenAt, .int t_tokenLong, .int t_token, .int t_value, .ref a_t_readSorts, .ref a_t_readHands, .int t_winner, .int t_throwsOf, .int t_handA, .int t_handB, .ref a_t_inTurn, .ref a_t_ends, .ref a_t_bestHands, .int t_fewestSo, .ref a_t_traces, .int t_traced])), (a_t_lanes, .inl (cI, 8, .inl t_lanes)), (a_t_longs, .inl (cI, 8, .inl t_longs)), (a_t_isThere, .inl (cZ, 8, .inl t_isThere)), (a_t_items, .inl (cI, 320, .inl t_items))] := by
  rw [o_X9_row] at hR
  refine z_iload_n hC dX9_row_0 rfl 1 rfl ?_
  refine z_callSi_p hC hN [.int l1] [] (c_X9_isRow (l := zl E) (D := zD E) (cI := cI) (cB := cB) (cZ := cZ) (N := N) (l0 := l1)) rfl ⟨rfl, rfl⟩ gX9_row_X9_isRow hsX9_isRow ⟨Nat.le_of_ble_eq_true rfl, Nat.le_of_ble_eq_true rfl⟩ ⟨Nat.zero_le _, Nat.zero_le _⟩ rfl (Nat.le_of_ble_eq_true rfl) rfl (by decide) dX9_row_1 hR (fun r1 hR => ?_)
  refine z_if_eq hC 25 dX9_row_4 (by decide) hR (fun hR => ?_) (fun hR => ?_)
  · refine z_ldc hC (-1000001) mX9_row_2 dX9_row_25 ?_
    obtain rfl := Option.some.inj hR
    exact z_iret hC hQ rfl rfl rfl dX9_row_27
  · refine z_iload_n hC dX9_row_7 rfl 2 rfl ?_
    refine z_i2l hC dX9_row_8 ?_
    refine z_lconst (v := 0) hC dX9_row_9 rfl ?_
    refine z_ldc2 hC 2 mX9_row_1 dX9_row_10 ?_
    refine z_callSi_p hC hN [.long (Int32.toInt64 l2), .long 0, .long 2] [] (c_X9_in (l := zl E) (D := zD E) (cI := cI) (cB := cB) (cZ := cZ) (N := N) (L0 := (Int32.toInt64 l2)) (L2 := 0) (L4 := 2)) rfl ⟨rfl, rfl⟩ gX9_row_X9_in hsX9_in ⟨Nat.le_of_ble_eq_true rfl, Nat.le_of_ble_eq_true rfl⟩ ⟨Nat.zero_le _, Nat.zero_le _⟩ rfl (Nat.le_of_ble_eq_true rfl) rfl (by decide) dX9_row_13 hR (fun r13 hR => ?_)
    refine z_if_eq hC 25 dX9_row_16 (by decide) hR (fun hR => ?_) (fun hR => ?_)
    · refine z_ldc hC (-1000001) mX9_row_2 dX9_row_25 ?_
      obtain rfl := Option.some.inj hR
      exact z_iret hC hQ rfl rfl rfl dX9_row_27
    · refine z_iload_n hC dX9_row_19 rfl 3 rfl ?_
      refine z_bipush (v := 40) hC dX9_row_20 (by decide) ?_
      refine z_icmp_le hC 28 dX9_row_22 (by decide) hR (fun hR => ?_) (fun hR => ?_)
      · refine z_iload_n hC dX9_row_28 rfl 3 rfl ?_
        refine z_if_ge hC 38 dX9_row_29 (by decide) hR (fun hR => ?_) (fun hR => ?_)
        · refine z_aload_n hC dX9_row_38 rfl 0 rfl ?_
          refine z_get hC iX9_row_X9 rfl 0 9 rfl (by decide) mX9_row_3 rfl rfl dX9_row_39 ?_
          refine z_iload_n hC dX9_row_42 rfl 1 rfl ?_
          refine z_ic1 hC dX9_row_43 ?_
          refine z_zast hC 3 2 rfl rfl dX9_row_44 hR (fun hR => ?_)
          refine z_aload_n hC dX9_row_45 rfl 0 rfl ?_
          refine z_get hC iX9_row_X9 rfl 0 7 rfl (by decide) mX9_row_4 rfl rfl dX9_row_46 ?_
          refine z_iload_n hC dX9_row_49 rfl 1 rfl ?_
          refine z_iload_n hC dX9_row_50 rfl 2 rfl ?_
          refine z_iast hC 1 0 rfl rfl dX9_row_51 hR (fun hR => ?_)
          refine z_aload_n hC dX9_row_52 rfl 0 rfl ?_
          refine z_get hC iX9_row_X9 rfl 0 8 rfl (by decide) mX9_row_5 rfl rfl dX9_row_53 ?_
          refine z_iload_n hC dX9_row_56 rfl 1 rfl ?_
          refine z_iload_n hC dX9_row_57 rfl 3 rfl ?_
          refine z_iast hC 2 0 rfl rfl dX9_row_58 hR (fun hR => ?_)
          refine z_ic0 hC dX9_row_59 ?_
          refine z_istore hC [(4, .int 0), (0, .ref a_t), (1, .int l1), (2, .int l2), (3, .int l3)] dX9_row_60 (by decide) rfl ?_
          refine z_sub (lv' := [(0, .ref a_t), (1, .int l1), (3, .int l3), (4, .int 0)]) [1, 2, 4, 0] rfl ?_
          exact z_X9_row_62 hC hN (N := N) (a_t := a_t) (a_t_lanes := a_t_lanes) (a_t_longs := a_t_longs) (a_t_isThere := a_t_isThere) (a_t_items := a_t_items) (a_t_now := a_t_now) (a_t_kept := a_t_kept) (a_t_isKept := a_t_isKept) (a_t_acts := a_t_acts) (a_t_was := a_t_was) (a_t_copied := a_t_copied) (a_t_tape := a_t_tape) (a_t_readSorts := a_t_readSorts) (a_t_readHands := a_t_readHands) (a_t_inTurn := a_t_inTurn) (a_t_ends := a_t_ends) (a_t_bestHands := a_t_bestHands) (a_t_traces := a_t_traces) (t_manyActs := t_manyActs) (t_status := t_status) (t_tapeLong := t_tapeLong) (t_fault := t_fault) (t_tokenAt := t_tokenAt) (t_tokenLong := t_tokenLong) (t_token := t_token) (t_value := t_value) (t_winner := t_winner) (t_throwsOf := t_throwsOf) (t_handA := t_handA) (t_handB := t_handB) (t_fewestSo := t_fewestSo) (t_traced := t_traced) (t_lanes := (upd t_lanes (Int32.toNatClampNeg l1) l2)) (t_longs := (upd t_longs (Int32.toNatClampNeg l1) l3)) (t_isThere := (upd t_isThere (Int32.toNatClampNeg l1) (vp_nar .boolean 1))) (l1 := l1) (l3 := l3) hQ  N t_items 0 hR
        · refine z_aload_n hC dX9_row_32 rfl 0 rfl ?_
          refine z_ic4 hC dX9_row_33 ?_
          refine z_callVi hC hN [.int 4] [0] (c_X9_found (l := zl E) (D := zD E) (cI := cI) (cB := cB) (cZ := cZ) (N := N) (a_t := a_t) (a_t_now := a_t_now) (a_t_kept := a_t_kept) (a_t_isKept := a_t_isKept) (a_t_acts := a_t_acts) (a_t_was := a_t_was) (a_t_lanes := a_t_lanes) (a_t_longs := a_t_longs) (a_t_isThere := a_t_isThere) (a_t_items := a_t_items) (a_t_copied := a_t_copied) (a_t_tape := a_t_tape) (a_t_readSorts := a_t_readSorts) (a_t_readHands := a_t_readHands) (a_t_inTurn := a_t_inTurn) (a_t_ends := a_t_ends) (a_t_bestHands := a_t_bestHands) (a_t_traces := a_t_traces) (l1 := 4) (t_manyActs := t_manyActs) (t_status := t_status) (t_tapeLong := t_tapeLong) (t_fault := t_fault) (t_tokenAt := t_tokenAt) (t_tokenLong := t_tokenLong) (t_token := t_token) (t_value := t_value) (t_winner := t_winner) (t_throwsOf := t_throwsOf) (t_handA := t_handA) (t_handB := t_handB) (t_fewestSo := t_fewestSo) (t_traced := t_traced)) rfl ⟨rfl, rfl⟩ gX9_row_X9_found hvX9_found 0 9 rfl rfl rfl ⟨Nat.le_of_ble_eq_true rfl, Nat.le_of_ble_eq_true rfl⟩ ⟨Nat.zero_le _, Nat.zero_le _⟩ rfl (Nat.le_of_ble_eq_true rfl) rfl (by decide) (fun _ => rfl) dX9_row_34 hR (fun r34 hR => ?_)
          refine z_eq [(a_t, .inr (9, [.ref a_t_now, .ref a_t_kept, .ref a_t_isKept, .ref a_t_acts, .int t_manyActs, .ref a_t_was, .int r34.2, .ref a_t_lanes, .ref a_t_longs, .ref a_t_isThere, .ref a_t_items, .ref a_t_copied, .ref a_t_tape, .int t_tapeLong, .int t_fault, .int t_tokenAt, .int t_tokenLong, .int t_token, .int t_value, .ref a_t_readSorts, .ref a_t_readHands, .int t_winner, .int t_throwsOf, .int t_handA, .int t_handB, .ref a_t_inTurn, .ref a_t_ends, .ref a_t_bestHands, .int t_fewestSo, .ref a_t_traces, .int t_traced])), (a_t_lanes, .inl (cI, 8, .inl t_lanes)), (a_t_longs, .inl (cI, 8, .inl t_longs)), (a_t_isThere, .inl (cZ, 8, .inl t_isThere)), (a_t_items, .inl (cI, 320, .inl t_items))] rfl ?_
          obtain rfl := Option.some.inj hR
          exact z_iret hC hQ rfl rfl rfl dX9_row_37
      · refine z_ldc hC (-1000001) mX9_row_2 dX9_row_25 ?_
        obtain rfl := Option.some.inj hR
        exact z_iret hC hQ rfl rfl rfl dX9_row_27
set_option maxHeartbeats 4000000 in
set_option maxRecDepth 100000 in
theorem c_X9_row {sK sV : Nat → Nat} {l : Launch} {D : va_G} {cI cB cZ : ClassId} {N : Nat} {a_t : Nat} {a_t_lanes : Nat} {a_t_longs : Nat} {a_t_isThere : Nat} {a_t_items : Nat} {a_t_now : Nat} {a_t_kept : Nat} {a_t_isKept : Nat} {a_t_acts : Nat} {a_t_was : Nat} {a_t_copied : Nat} {a_t_tape : Nat} {a_t_readSorts : Nat} {a_t_readHands : Nat} {a_t_inTurn : Nat} {a_t_ends : Nat} {a_t_bestHands : Nat} {a_t_traces : Nat} {t_manyActs : Int32} {t_status : Int32} {t_tapeLong : Int32} {t_fault : Int32} {t_tokenAt : Int32} {t_tokenLong : Int32} {t_token : Int32} {t_value : Int32} {t_winner : Int32} {t_throwsOf : Int32} {t_handA : Int32} {t_handB : Int32} {t_fewestSo : Int32} {t_traced : Int32} {t_lanes : (Nat → Int32)} {t_longs : (Nat → Int32)} {t_isThere : (Nat → Int32)} {t_items : (Nat → Int32)} {l1 : Int32} {l2 : Int32} {l3 : Int32} : ∀ R : Int32 × Int32 × (Nat → Int32) × (Nat → Int32) × (Nat → Int32) × (Nat → Int32), o_X9_row N t_status t_lanes t_longs t_isThere t_items l1 l2 l3 = some R → ZMi sK sV l yX9_row wsX9_row rmX9_row D (zty cI cB cZ) [.ref a_t, .int l1, .int l2, .int l3] [(a_t, .inr (9, [.ref a_t_now, .ref a_t_kept, .ref a_t_isKept, .ref a_t_acts, .int t_manyActs, .ref a_t_was, .int t_status, .ref a_t_lanes, .ref a_t_longs, .ref a_t_isThere, .ref a_t_items, .ref a_t_copied, .ref a_t_tape, .int t_tapeLong, .int t_fault, .int t_tokenAt, .int t_tokenLong, .int t_token, .int t_value, .ref a_t_readSorts, .ref a_t_readHands, .int t_winner, .int t_throwsOf, .int t_handA, .int t_handB, .ref a_t_inTurn, .ref a_t_ends, .ref a_t_bestHands, .int t_fewestSo, .ref a_t_traces, .int t_traced])), (a_t_lanes, .inl (cI, 8, .inl t_lanes)), (a_t_longs, .inl (cI, 8, .inl t_longs)), (a_t_isThere, .inl (cZ, 8, .inl t_isThere)), (a_t_items, .inl (cI, 320, .inl t_items))] R.1 [(a_t, .inr (9, [.ref a_t_now, .ref a_t_kept, .ref a_t_isKept, .ref a_t_acts, .int t_manyActs, .ref a_t_was, .int R.2.1, .ref a_t_lanes, .ref a_t_longs, .ref a_t_isThere, .ref a_t_items, .ref a_t_copied, .ref a_t_tape, .int t_tapeLong, .int t_fault, .int t_tokenAt, .int t_tokenLong, .int t_token, .int t_value, .ref a_t_readSorts, .ref a_t_readHands, .int t_winner, .int t_throwsOf, .int t_handA, .int t_handB, .ref a_t_inTurn, .ref a_t_ends, .ref a_t_bestHands, .int t_fewestSo, .ref a_t_traces, .int t_traced])), (a_t_lanes, .inl (cI, 8, .inl R.2.2.1)), (a_t_longs, .inl (cI, 8, .inl R.2.2.2.1)), (a_t_isThere, .inl (cZ, 8, .inl R.2.2.2.2.1)), (a_t_items, .inl (cI, 320, .inl R.2.2.2.2.2))] := by
  intro R hR
  refine zi_of (cc := cX9_row) (maxL := 5) (ret := (some .int)) (by decide) rfl (Nat.le_of_ble_eq_true rfl) (fun E hE1 hE2 hC hN hQ => ?_)
  subst hE1 hE2
  exact z_X9_row_0 hC hN (N := N) (a_t := a_t) (a_t_lanes := a_t_lanes) (a_t_longs := a_t_longs) (a_t_isThere := a_t_isThere) (a_t_items := a_t_items) (a_t_now := a_t_now) (a_t_kept := a_t_kept) (a_t_isKept := a_t_isKept) (a_t_acts := a_t_acts) (a_t_was := a_t_was) (a_t_copied := a_t_copied) (a_t_tape := a_t_tape) (a_t_readSorts := a_t_readSorts) (a_t_readHands := a_t_readHands) (a_t_inTurn := a_t_inTurn) (a_t_ends := a_t_ends) (a_t_bestHands := a_t_bestHands) (a_t_traces := a_t_traces) (t_manyActs := t_manyActs) (t_status := t_status) (t_tapeLong := t_tapeLong) (t_fault := t_fault) (t_tokenAt := t_tokenAt) (t_tokenLong := t_tokenLong) (t_token := t_token) (t_value := t_value) (t_winner := t_winner) (t_throwsOf := t_throwsOf) (t_handA := t_handA) (t_handB := t_handB) (t_fewestSo := t_fewestSo) (t_traced := t_traced) (t_lanes := t_lanes) (t_longs := t_longs) (t_isThere := t_isThere) (t_items := t_items) (l1 := l1) (l2 := l2) (l3 := l3) hQ hR

/-! FistTrainsModel.set -/
abbrev rmX9_set : Room := { frames := 2, cells := 0, slots := 0, locals := 45 }
set_option maxRecDepth 20000 in
theorem iX9_set_X9 : ∀ w ∈ wsX90, w ∈ wsX9_set := by decide +kernel
set_option maxRecDepth 20000 in
theorem mX9_set_2 : Cond.fieldLink RX9 32 "FistTrainsModel" "isThere" "[Z" ∈ wsX9_set := List.mem_of_getElem? (i := 2) rfl
set_option maxRecDepth 20000 in
theorem mX9_set_3 : Cond.fieldLink RX9 29 "FistTrainsModel" "longs" "[I" ∈ wsX9_set := List.mem_of_getElem? (i := 3) rfl
set_option maxRecDepth 20000 in
theorem mX9_set_4 : Cond.fieldLink RX9 26 "FistTrainsModel" "lanes" "[I" ∈ wsX9_set := List.mem_of_getElem? (i := 4) rfl
set_option maxRecDepth 20000 in
theorem mX9_set_1 : Cond.constant RX9 79 (-1000001) ∈ wsX9_set := List.mem_of_getElem? (i := 1) rfl
set_option maxRecDepth 20000 in
theorem mX9_set_5 : Cond.fieldLink RX9 35 "FistTrainsModel" "items" "[I" ∈ wsX9_set := List.mem_of_getElem? (i := 5) rfl
def o_X9_set_89 (N : Nat) (t_items : (Nat → Int32)) (l1 : Int32) (l2 : Int32) (s0 : Int32) : Option (Int32 × Int32 × (Nat → Int32)) :=
  ogd (inb ((40 * l1) + l2) 320) (
  Option.bind (o_X9_well N s0) (fun r107 =>
  some (r107.1, r107.2, (upd t_items (Int32.toNatClampNeg ((40 * l1) + l2)) s0))))
def o_X9_set (N : Nat) (t_status : Int32) (t_lanes : (Nat → Int32)) (t_longs : (Nat → Int32)) (t_isThere : (Nat → Int32)) (t_items : (Nat → Int32)) (l1 : Int32) (l2 : Int32) (l3 : Int32) : Option (Int32 × Int32 × (Nat → Int32)) :=
  Option.bind (o_X9_isRow N l1) (fun r1 =>
  if r1 = 0 then
    some ((-1000001), t_status, t_items)
  else
    ogd (inb l1 8) (
    if (t_isThere (Int32.toNatClampNeg l1)) = 0 then
      Option.bind (o_X9_found N 1) (fun r21 =>
      some (r21.1, r21.2, t_items))
    else
      ogd (inb l1 8) (
      Option.bind (o_X9_in N (Int32.toInt64 l2) 0 (Int32.toInt64 ((t_longs (Int32.toNatClampNeg l1)) - 1))) (fun r37 =>
      if r37 = 0 then
        Option.bind (o_X9_found N 2) (fun r45 =>
        some (r45.1, r45.2, t_items))
      else
        ogd (inb l1 8) (
        if (t_lanes (Int32.toNatClampNeg l1)) = 0 then
          o_X9_set_89 N t_items l1 l2 ((l3 <<< (24 &&& 31)) >>> (24 &&& 31))
        else
          ogd (inb l1 8) (
          if (t_lanes (Int32.toNatClampNeg l1)) = 1 then
            o_X9_set_89 N t_items l1 l2 ((l3 <<< (16 &&& 31)) >>> (16 &&& 31))
          else
            o_X9_set_89 N t_items l1 l2 l3))))))
set_option maxHeartbeats 4000000 in
set_option maxRecDepth 100000 in
theorem z_X9_set_89 {sK sV : Nat → Nat} {E : ZE} {cI cB cZ : ClassId} (hC : ZC E 5 cX9_set wsX9_set RX9 rmX9_set (some .int) (zty cI cB cZ)) (hN : ZN sK sV (zA E) (zs E)) {N : Nat} {a_t : Nat} {a_t_lanes : Nat} {a_t_longs : Nat} {a_t_isThere : Nat} {a_t_items : Nat} {a_t_now : Nat} {a_t_kept : Nat} {a_t_isKept : Nat} {a_t_acts : Nat} {a_t_was : Nat} {a_t_copied : Nat} {a_t_tape : Nat} {a_t_readSorts : Nat} {a_t_readHands : Nat} {a_t_inTurn : Nat} {a_t_ends : Nat} {a_t_bestHands : Nat} {a_t_traces : Nat} {t_manyActs : Int32} {t_status : Int32} {t_tapeLong : Int32} {t_fault : Int32} {t_tokenAt : Int32} {t_tokenLong : Int32} {t_token : Int32} {t_value : Int32} {t_winner : Int32} {t_throwsOf : Int32} {t_handA : Int32} {t_handB : Int32} {t_fewestSo : Int32} {t_traced : Int32} {t_lanes : (Nat → Int32)} {t_longs : (Nat → Int32)} {t_isThere : (Nat → Int32)} {t_items : (Nat → Int32)} {l1 : Int32} {l2 : Int32} {s0 : Int32} {rf : Int32 × Int32 × (Nat → Int32)} (hQ : ZQi E (zty cI cB cZ) rf.1 [(a_t, .inr (9, [.ref a_t_now, .ref a_t_kept, .ref a_t_isKept, .ref a_t_acts, .int t_manyActs, .ref a_t_was, .int rf.2.1, .ref a_t_lanes, .ref a_t_longs, .ref a_t_isThere, .ref a_t_items, .ref a_t_copied, .ref a_t_tape, .int t_tapeLong, .int t_fault, .int t_tokenAt, .int t_tokenLong, .int t_token, .int t_value, .ref a_t_readSorts, .ref a_t_readHands, .int t_winner, .int t_throwsOf, .int t_handA, .int t_handB, .ref a_t_inTurn, .ref a_t_ends, .ref a_t_bestHands, .int t_fewestSo, .ref a_t_traces, .int t_traced])), (a_t_lanes, .inl (cI, 8, .inl t_lanes)), (a_t_longs, .inl (cI, 8, .inl t_longs)), (a_t_isThere, .inl (cZ, 8, .inl t_isThere)), (a_t_items, .inl (cI, 320, .inl rf.2.2))]) (hR : o_X9_set_89 N t_items l1 l2 s0 = some rf) : Z E (0, 0) [(0, .ref a_t), (1, .int l1), (2, .int l2)] 89 [.int s0] [(a_t, .inr (9, [.ref a_t_now, .ref a_t_kept, .ref a_t_isKept, .ref a_t_acts, .int t_manyActs, .ref a_t_was, .int t_status, .ref a_t_lanes, .ref a_t_longs, .ref a_t_isThere, .ref a_t_items, .ref a_t_copied, .ref a_t_tape, .int t_tapeLong, .int t_fault, .int t_tokenAt, .int t_tokenLong, .int t_token, .int t_value, .ref a_t_readSorts, .ref a_t_readHands, .int t_winner, .int t_throwsOf, .int t_handA, .int t_handB, .ref a_t_inTurn, .ref a_t_ends, .ref a_t_bestHands, .int t_fewestSo, .ref a_t_traces, .int t_traced])), (a_t_lanes, .inl (cI, 8, .inl t_lanes)), (a_t_longs, .inl (cI, 8, .inl t_longs)), (a_t_isThere, .inl (cZ, 8, .inl t_isThere)), (a_t_items, .inl (cI, 320, .inl t_items))] := by
  rw [o_X9_set_89] at hR
  refine z_istore hC [(4, .int s0), (0, .ref a_t), (1, .int l1), (2, .int l2)] dX9_set_89 (by decide) rfl ?_
  refine z_aload_n hC dX9_set_91 rfl 1 rfl ?_
  refine z_get hC iX9_set_X9 rfl 0 10 rfl (by decide) mX9_set_5 rfl rfl dX9_set_92 ?_
  refine z_bipush (v := 40) hC dX9_set_95 (by decide) ?_
  refine z_iload_n hC dX9_set_97 rfl 2 rfl ?_
  refine z_imul hC dX9_set_98 ?_
  refine z_iload_n hC dX9_set_99 rfl 3 rfl ?_
  refine z_iadd hC dX9_set_100 ?_
  refine z_iload hC dX9_set_101 0 rfl ?_
  refine z_iast hC 4 0 rfl rfl dX9_set_103 hR (fun hR => ?_)
  refine z_aload_n hC dX9_set_104 rfl 1 rfl ?_
  refine z_iload hC dX9_set_105 0 rfl ?_
  refine z_callVi hC hN [.int s0] [0] (c_X9_well (l := zl E) (D := zD E) (cI := cI) (cB := cB) (cZ := cZ) (N := N) (a_t := a_t) (a_t_now := a_t_now) (a_t_kept := a_t_kept) (a_t_isKept := a_t_isKept) (a_t_acts := a_t_acts) (a_t_was := a_t_was) (a_t_lanes := a_t_lanes) (a_t_longs := a_t_longs) (a_t_isThere := a_t_isThere) (a_t_items := a_t_items) (a_t_copied := a_t_copied) (a_t_tape := a_t_tape) (a_t_readSorts := a_t_readSorts) (a_t_readHands := a_t_readHands) (a_t_inTurn := a_t_inTurn) (a_t_ends := a_t_ends) (a_t_bestHands := a_t_bestHands) (a_t_traces := a_t_traces) (l1 := s0) (t_manyActs := t_manyActs) (t_status := t_status) (t_tapeLong := t_tapeLong) (t_fault := t_fault) (t_tokenAt := t_tokenAt) (t_tokenLong := t_tokenLong) (t_token := t_token) (t_value := t_value) (t_winner := t_winner) (t_throwsOf := t_throwsOf) (t_handA := t_handA) (t_handB := t_handB) (t_fewestSo := t_fewestSo) (t_traced := t_traced)) rfl ⟨rfl, rfl⟩ gX9_set_X9_well hvX9_well 0 9 rfl rfl rfl ⟨Nat.le_of_ble_eq_true rfl, Nat.le_of_ble_eq_true rfl⟩ ⟨Nat.zero_le _, Nat.zero_le _⟩ rfl (Nat.le_of_ble_eq_true rfl) rfl (by decide) (fun _ => rfl) dX9_set_107 hR (fun r107 hR => ?_)
  refine z_eq [(a_t, .inr (9, [.ref a_t_now, .ref a_t_kept, .ref a_t_isKept, .ref a_t_acts, .int t_manyActs, .ref a_t_was, .int r107.2, .ref a_t_lanes, .ref a_t_longs, .ref a_t_isThere, .ref a_t_items, .ref a_t_copied, .ref a_t_tape, .int t_tapeLong, .int t_fault, .int t_tokenAt, .int t_tokenLong, .int t_token, .int t_value, .ref a_t_readSorts, .ref a_t_readHands, .int t_winner, .int t_throwsOf, .int t_handA, .int t_handB, .ref a_t_inTurn, .ref a_t_ends, .ref a_t_bestHands, .int t_fewestSo, .ref a_t_traces, .int t_traced])), (a_t_lanes, .inl (cI, 8, .inl t_lanes)), (a_t_longs, .inl (cI, 8, .inl t_longs)), (a_t_isThere, .inl (cZ, 8, .inl t_isThere)), (a_t_items, .inl (cI, 320, .inl (upd t_items (Int32.toNatClampNeg ((40 * l1) + l2)) s0)))] rfl ?_
  obtain rfl := Option.some.inj hR
  exact z_iret hC hQ rfl rfl rfl dX9_set_110
set_option maxHeartbeats 4000000 in
set_option maxRecDepth 100000 in
theorem z_X9_set_0 {sK sV : Nat → Nat} {E : ZE} {cI cB cZ : ClassId} (hC : ZC E 5 cX9_set wsX9_set RX9 rmX9_set (some .int) (zty cI cB cZ)) (hN : ZN sK sV (zA E) (zs E)) {N : Nat} {a_t : Nat} {a_t_lanes : Nat} {a_t_longs : Nat} {a_t_isThere : Nat} {a_t_items : Nat} {a_t_now : Nat} {a_t_kept : Nat} {a_t_isKept : Nat} {a_t_acts : Nat} {a_t_was : Nat} {a_t_copied : Nat} {a_t_tape : Nat} {a_t_readSorts : Nat} {a_t_readHands : Nat} {a_t_inTurn : Nat} {a_t_ends : Nat} {a_t_bestHands : Nat} {a_t_traces : Nat} {t_manyActs : Int32} {t_status : Int32} {t_tapeLong : Int32} {t_fault : Int32} {t_tokenAt : Int32} {t_tokenLong : Int32} {t_token : Int32} {t_value : Int32} {t_winner : Int32} {t_throwsOf : Int32} {t_handA : Int32} {t_handB : Int32} {t_fewestSo : Int32} {t_traced : Int32} {t_lanes : (Nat → Int32)} {t_longs : (Nat → Int32)} {t_isThere : (Nat → Int32)} {t_items : (Nat → Int32)} {l1 : Int32} {l2 : Int32} {l3 : Int32} {rf : Int32 × Int32 × (Nat → Int32)} (hQ : ZQi E (zty cI cB cZ) rf.1 [(a_t, .inr (9, [.ref a_t_now, .ref a_t_kept, .ref a_t_isKept, .ref a_t_acts, .int t_manyActs, .ref a_t_was, .int rf.2.1, .ref a_t_lanes, .ref a_t_longs, .ref a_t_isThere, .ref a_t_items, .ref a_t_copied, .ref a_t_tape, .int t_tapeLong, .int t_fault, .int t_tokenAt, .int t_tokenLong, .int t_token, .int t_value, .ref a_t_readSorts, .ref a_t_readHands, .int t_winner, .int t_throwsOf, .int t_handA, .int t_handB, .ref a_t_inTurn, .ref a_t_ends, .ref a_t_bestHands, .int t_fewestSo, .ref a_t_traces, .int t_traced])), (a_t_lanes, .inl (cI, 8, .inl t_lanes)), (a_t_longs, .inl (cI, 8, .inl t_longs)), (a_t_isThere, .inl (cZ, 8, .inl t_isThere)), (a_t_items, .inl (cI, 320, .inl rf.2.2))]) (hR : o_X9_set N t_status t_lanes t_longs t_isThere t_items l1 l2 l3 = some rf) : Z E (0, 0) [(0, .ref a_t), (1, .int l1), (2, .int l2), (3, .int l3)] 0 [] [(a_t, .inr (9, [.ref a_t_now, .ref a_t_kept, .ref a_t_isKept, .ref a_t_acts, .int t_manyActs, .ref a_t_was, .int t_status, .ref a_t_lanes, .ref a_t_longs, .ref a_t_isThere, .ref a_t_items, .ref a_t_copied, .ref a_t_tape, .int t_tapeLong, .int t_fault, .int t_tokenAt, .int t_tokenLong, .int t_token, .int t_value, .ref a_t_readSorts, .ref a_t_readHands, .int t_winner, .int t_throwsOf, .int t_handA, .int t_handB, .ref a_t_inTurn, .ref a_t_ends, .ref a_t_bestHands, .int t_fewestSo, .ref a_t_traces, .int t_traced])), (a_t_lanes, .inl (cI, 8, .inl t_lanes)), (a_t_longs, .inl (cI, 8, .inl t_longs)), (a_t_isThere, .inl (cZ, 8, .inl t_isThere)), (a_t_items, .inl (cI, 320, .inl t_items))] := by
  rw [o_X9_set] at hR
  refine z_iload_n hC dX9_set_0 rfl 1 rfl ?_
  refine z_callSi_p hC hN [.int l1] [] (c_X9_isRow (l := zl E) (D := zD E) (cI := cI) (cB := cB) (cZ := cZ) (N := N) (l0 := l1)) rfl ⟨rfl, rfl⟩ gX9_set_X9_isRow hsX9_isRow ⟨Nat.le_of_ble_eq_true rfl, Nat.le_of_ble_eq_true rfl⟩ ⟨Nat.zero_le _, Nat.zero_le _⟩ rfl (Nat.le_of_ble_eq_true rfl) rfl (by decide) dX9_set_1 hR (fun r1 hR => ?_)
  refine z_if_ne hC 10 dX9_set_4 (by decide) hR (fun hR => ?_) (fun hR => ?_)
  · refine z_aload_n hC dX9_set_10 rfl 0 rfl ?_
    refine z_get hC iX9_set_X9 rfl 0 9 rfl (by decide) mX9_set_2 rfl rfl dX9_set_11 ?_
    refine z_iload_n hC dX9_set_14 rfl 1 rfl ?_
    refine z_zald hC 3 2 rfl rfl dX9_set_15 hR (fun hR => ?_)
    refine z_if_ne hC 25 dX9_set_16 (by decide) hR (fun hR => ?_) (fun hR => ?_)
    · refine z_iload_n hC dX9_set_25 rfl 2 rfl ?_
      refine z_i2l hC dX9_set_26 ?_
      refine z_lconst (v := 0) hC dX9_set_27 rfl ?_
      refine z_aload_n hC dX9_set_28 rfl 0 rfl ?_
      refine z_get hC iX9_set_X9 rfl 0 8 rfl (by decide) mX9_set_3 rfl rfl dX9_set_29 ?_
      refine z_iload_n hC dX9_set_32 rfl 1 rfl ?_
      refine z_iald hC 2 0 rfl rfl dX9_set_33 hR (fun hR => ?_)
      refine z_ic1 hC dX9_set_34 ?_
      refine z_isub hC dX9_set_35 ?_
      refine z_i2l hC dX9_set_36 ?_
      refine z_callSi_p hC hN [.long (Int32.toInt64 l2), .long 0, .long (Int32.toInt64 ((t_longs (Int32.toNatClampNeg l1)) - 1))] [] (c_X9_in (l := zl E) (D := zD E) (cI := cI) (cB := cB) (cZ := cZ) (N := N) (L0 := (Int32.toInt64 l2)) (L2 := 0) (L4 := (Int32.toInt64 ((t_longs (Int32.toNatClampNeg l1)) - 1)))) rfl ⟨rfl, rfl⟩ gX9_set_X9_in hsX9_in ⟨Nat.le_of_ble_eq_true rfl, Nat.le_of_ble_eq_true rfl⟩ ⟨Nat.zero_le _, Nat.zero_le _⟩ rfl (Nat.le_of_ble_eq_true rfl) rfl (by decide) dX9_set_37 hR (fun r37 hR => ?_)
      refine z_if_ne hC 49 dX9_set_40 (by decide) hR (fun hR => ?_) (fun hR => ?_)
      · refine z_aload_n hC dX9_set_49 rfl 0 rfl ?_
        refine z_get hC iX9_set_X9 rfl 0 7 rfl (by decide) mX9_set_4 rfl rfl dX9_set_50 ?_
        refine z_iload_n hC dX9_set_53 rfl 1 rfl ?_
        refine z_iald hC 1 0 rfl rfl dX9_set_54 hR (fun hR => ?_)
        refine z_if_ne hC 68 dX9_set_55 (by decide) hR (fun hR => ?_) (fun hR => ?_)
        · refine z_aload_n hC dX9_set_68 rfl 0 rfl ?_
          refine z_get hC iX9_set_X9 rfl 0 7 rfl (by decide) mX9_set_4 rfl rfl dX9_set_69 ?_
          refine z_iload_n hC dX9_set_72 rfl 1 rfl ?_
          refine z_iald hC 1 0 rfl rfl dX9_set_73 hR (fun hR => ?_)
          refine z_ic1 hC dX9_set_74 ?_
          refine z_icmp_ne hC 88 dX9_set_75 (by decide) hR (fun hR => ?_) (fun hR => ?_)
          · refine z_iload_n hC dX9_set_88 rfl 3 rfl ?_
            refine z_sub (lv' := [(0, .ref a_t), (1, .int l1), (2, .int l2)]) [0, 1, 2] rfl ?_
            exact z_X9_set_89 hC hN (N := N) (a_t := a_t) (a_t_lanes := a_t_lanes) (a_t_longs := a_t_longs) (a_t_isThere := a_t_isThere) (a_t_items := a_t_items) (a_t_now := a_t_now) (a_t_kept := a_t_kept) (a_t_isKept := a_t_isKept) (a_t_acts := a_t_acts) (a_t_was := a_t_was) (a_t_copied := a_t_copied) (a_t_tape := a_t_tape) (a_t_readSorts := a_t_readSorts) (a_t_readHands := a_t_readHands) (a_t_inTurn := a_t_inTurn) (a_t_ends := a_t_ends) (a_t_bestHands := a_t_bestHands) (a_t_traces := a_t_traces) (t_manyActs := t_manyActs) (t_status := t_status) (t_tapeLong := t_tapeLong) (t_fault := t_fault) (t_tokenAt := t_tokenAt) (t_tokenLong := t_tokenLong) (t_token := t_token) (t_value := t_value) (t_winner := t_winner) (t_throwsOf := t_throwsOf) (t_handA := t_handA) (t_handB := t_handB) (t_fewestSo := t_fewestSo) (t_traced := t_traced) (t_lanes := t_lanes) (t_longs := t_longs) (t_isThere := t_isThere) (t_items := t_items) (l1 := l1) (l2 := l2) (s0 := l3) hQ  hR
          · refine z_iload_n hC dX9_set_78 rfl 3 rfl ?_
            refine z_bipush (v := 16) hC dX9_set_79 (by decide) ?_
            refine z_ishl hC dX9_set_81 ?_
            refine z_bipush (v := 16) hC dX9_set_82 (by decide) ?_
            refine z_ishr hC dX9_set_84 ?_
            refine z_goto hC 89 dX9_set_85 (by decide) ?_
            refine z_sub (lv' := [(0, .ref a_t), (1, .int l1), (2, .int l2)]) [0, 1, 2] rfl ?_
            exact z_X9_set_89 hC hN (N := N) (a_t := a_t) (a_t_lanes := a_t_lanes) (a_t_longs := a_t_longs) (a_t_isThere := a_t_isThere) (a_t_items := a_t_items) (a_t_now := a_t_now) (a_t_kept := a_t_kept) (a_t_isKept := a_t_isKept) (a_t_acts := a_t_acts) (a_t_was := a_t_was) (a_t_copied := a_t_copied) (a_t_tape := a_t_tape) (a_t_readSorts := a_t_readSorts) (a_t_readHands := a_t_readHands) (a_t_inTurn := a_t_inTurn) (a_t_ends := a_t_ends) (a_t_bestHands := a_t_bestHands) (a_t_traces := a_t_traces) (t_manyActs := t_manyActs) (t_status := t_status) (t_tapeLong := t_tapeLong) (t_fault := t_fault) (t_tokenAt := t_tokenAt) (t_tokenLong := t_tokenLong) (t_token := t_token) (t_value := t_value) (t_winner := t_winner) (t_throwsOf := t_throwsOf) (t_handA := t_handA) (t_handB := t_handB) (t_fewestSo := t_fewestSo) (t_traced := t_traced) (t_lanes := t_lanes) (t_longs := t_longs) (t_isThere := t_isThere) (t_items := t_items) (l1 := l1) (l2 := l2) (s0 := ((l3 <<< (16 &&& 31)) >>> (16 &&& 31))) hQ  hR
        · refine z_iload_n hC dX9_set_58 rfl 3 rfl ?_
          refine z_bipush (v := 24) hC dX9_set_59 (by decide) ?_
          refine z_ishl hC dX9_set_61 ?_
          refine z_bipush (v := 24) hC dX9_set_62 (by decide) ?_
          refine z_ishr hC dX9_set_64 ?_
          refine z_goto hC 89 dX9_set_65 (by decide) ?_
          refine z_sub (lv' := [(0, .ref a_t), (1, .int l1), (2, .int l2)]) [0, 1, 2] rfl ?_
          exact z_X9_set_89 hC hN (N := N) (a_t := a_t) (a_t_lanes := a_t_lanes) (a_t_longs := a_t_longs) (a_t_isThere := a_t_isThere) (a_t_items := a_t_items) (a_t_now := a_t_now) (a_t_kept := a_t_kept) (a_t_isKept := a_t_isKept) (a_t_acts := a_t_acts) (a_t_was := a_t_was) (a_t_copied := a_t_copied) (a_t_tape := a_t_tape) (a_t_readSorts := a_t_readSorts) (a_t_readHands := a_t_readHands) (a_t_inTurn := a_t_inTurn) (a_t_ends := a_t_ends) (a_t_bestHands := a_t_bestHands) (a_t_traces := a_t_traces) (t_manyActs := t_manyActs) (t_status := t_status) (t_tapeLong := t_tapeLong) (t_fault := t_fault) (t_tokenAt := t_tokenAt) (t_tokenLong := t_tokenLong) (t_token := t_token) (t_value := t_value) (t_winner := t_winner) (t_throwsOf := t_throwsOf) (t_handA := t_handA) (t_handB := t_handB) (t_fewestSo := t_fewestSo) (t_traced := t_traced) (t_lanes := t_lanes) (t_longs := t_longs) (t_isThere := t_isThere) (t_items := t_items) (l1 := l1) (l2 := l2) (s0 := ((l3 <<< (24 &&& 31)) >>> (24 &&& 31))) hQ  hR
      · refine z_aload_n hC dX9_set_43 rfl 0 rfl ?_
        refine z_ic2 hC dX9_set_44 ?_
        refine z_callVi hC hN [.int 2] [0] (c_X9_found (l := zl E) (D := zD E) (cI := cI) (cB := cB) (cZ := cZ) (N := N) (a_t := a_t) (a_t_now := a_t_now) (a_t_kept := a_t_kept) (a_t_isKept := a_t_isKept) (a_t_acts := a_t_acts) (a_t_was := a_t_was) (a_t_lanes := a_t_lanes) (a_t_longs := a_t_longs) (a_t_isThere := a_t_isThere) (a_t_items := a_t_items) (a_t_copied := a_t_copied) (a_t_tape := a_t_tape) (a_t_readSorts := a_t_readSorts) (a_t_readHands := a_t_readHands) (a_t_inTurn := a_t_inTurn) (a_t_ends := a_t_ends) (a_t_bestHands := a_t_bestHands) (a_t_traces := a_t_traces) (l1 := 2) (t_manyActs := t_manyActs) (t_status := t_status) (t_tapeLong := t_tapeLong) (t_fault := t_fault) (t_tokenAt := t_tokenAt) (t_tokenLong := t_tokenLong) (t_token := t_token) (t_value := t_value) (t_winner := t_winner) (t_throwsOf := t_throwsOf) (t_handA := t_handA) (t_handB := t_handB) (t_fewestSo := t_fewestSo) (t_traced := t_traced)) rfl ⟨rfl, rfl⟩ gX9_set_X9_found hvX9_found 0 9 rfl rfl rfl ⟨Nat.le_of_ble_eq_true rfl, Nat.le_of_ble_eq_true rfl⟩ ⟨Nat.zero_le _, Nat.zero_le _⟩ rfl (Nat.le_of_ble_eq_true rfl) rfl (by decide) (fun _ => rfl) dX9_set_45 hR (fun r45 hR => ?_)
        refine z_eq [(a_t, .inr (9, [.ref a_t_now, .ref a_t_kept, .ref a_t_isKept, .ref a_t_acts, .int t_manyActs, .ref a_t_was, .int r45.2, .ref a_t_lanes, .ref a_t_longs, .ref a_t_isThere, .ref a_t_items, .ref a_t_copied, .ref a_t_tape, .int t_tapeLong, .int t_fault, .int t_tokenAt, .int t_tokenLong, .int t_token, .int t_value, .ref a_t_readSorts, .ref a_t_readHands, .int t_winner, .int t_throwsOf, .int t_handA, .int t_handB, .ref a_t_inTurn, .ref a_t_ends, .ref a_t_bestHands, .int t_fewestSo, .ref a_t_traces, .int t_traced])), (a_t_lanes, .inl (cI, 8, .inl t_lanes)), (a_t_longs, .inl (cI, 8, .inl t_longs)), (a_t_isThere, .inl (cZ, 8, .inl t_isThere)), (a_t_items, .inl (cI, 320, .inl t_items))] rfl ?_
        obtain rfl := Option.some.inj hR
        exact z_iret hC hQ rfl rfl rfl dX9_set_48
    · refine z_aload_n hC dX9_set_19 rfl 0 rfl ?_
      refine z_ic1 hC dX9_set_20 ?_
      refine z_callVi hC hN [.int 1] [0] (c_X9_found (l := zl E) (D := zD E) (cI := cI) (cB := cB) (cZ := cZ) (N := N) (a_t := a_t) (a_t_now := a_t_now) (a_t_kept := a_t_kept) (a_t_isKept := a_t_isKept) (a_t_acts := a_t_acts) (a_t_was := a_t_was) (a_t_lanes := a_t_lanes) (a_t_longs := a_t_longs) (a_t_isThere := a_t_isThere) (a_t_items := a_t_items) (a_t_copied := a_t_copied) (a_t_tape := a_t_tape) (a_t_readSorts := a_t_readSorts) (a_t_readHands := a_t_readHands) (a_t_inTurn := a_t_inTurn) (a_t_ends := a_t_ends) (a_t_bestHands := a_t_bestHands) (a_t_traces := a_t_traces) (l1 := 1) (t_manyActs := t_manyActs) (t_status := t_status) (t_tapeLong := t_tapeLong) (t_fault := t_fault) (t_tokenAt := t_tokenAt) (t_tokenLong := t_tokenLong) (t_token := t_token) (t_value := t_value) (t_winner := t_winner) (t_throwsOf := t_throwsOf) (t_handA := t_handA) (t_handB := t_handB) (t_fewestSo := t_fewestSo) (t_traced := t_traced)) rfl ⟨rfl, rfl⟩ gX9_set_X9_found hvX9_found 0 9 rfl rfl rfl ⟨Nat.le_of_ble_eq_true rfl, Nat.le_of_ble_eq_true rfl⟩ ⟨Nat.zero_le _, Nat.zero_le _⟩ rfl (Nat.le_of_ble_eq_true rfl) rfl (by decide) (fun _ => rfl) dX9_set_21 hR (fun r21 hR => ?_)
      refine z_eq [(a_t, .inr (9, [.ref a_t_now, .ref a_t_kept, .ref a_t_isKept, .ref a_t_acts, .int t_manyActs, .ref a_t_was, .int r21.2, .ref a_t_lanes, .ref a_t_longs, .ref a_t_isThere, .ref a_t_items, .ref a_t_copied, .ref a_t_tape, .int t_tapeLong, .int t_fault, .int t_tokenAt, .int t_tokenLong, .int t_token, .int t_value, .ref a_t_readSorts, .ref a_t_readHands, .int t_winner, .int t_throwsOf, .int t_handA, .int t_handB, .ref a_t_inTurn, .ref a_t_ends, .ref a_t_bestHands, .int t_fewestSo, .ref a_t_traces, .int t_traced])), (a_t_lanes, .inl (cI, 8, .inl t_lanes)), (a_t_longs, .inl (cI, 8, .inl t_longs)), (a_t_isThere, .inl (cZ, 8, .inl t_isThere)), (a_t_items, .inl (cI, 320, .inl t_items))] rfl ?_
      obtain rfl := Option.some.inj hR
      exact z_iret hC hQ rfl rfl rfl dX9_set_24
  · refine z_ldc hC (-1000001) mX9_set_1 dX9_set_7 ?_
    obtain rfl := Option.some.inj hR
    exact z_iret hC hQ rfl rfl rfl dX9_set_9
set_option maxHeartbeats 4000000 in
set_option maxRecDepth 100000 in
theorem c_X9_set {sK sV : Nat → Nat} {l : Launch} {D : va_G} {cI cB cZ : ClassId} {N : Nat} {a_t : Nat} {a_t_lanes : Nat} {a_t_longs : Nat} {a_t_isThere : Nat} {a_t_items : Nat} {a_t_now : Nat} {a_t_kept : Nat} {a_t_isKept : Nat} {a_t_acts : Nat} {a_t_was : Nat} {a_t_copied : Nat} {a_t_tape : Nat} {a_t_readSorts : Nat} {a_t_readHands : Nat} {a_t_inTurn : Nat} {a_t_ends : Nat} {a_t_bestHands : Nat} {a_t_traces : Nat} {t_manyActs : Int32} {t_status : Int32} {t_tapeLong : Int32} {t_fault : Int32} {t_tokenAt : Int32} {t_tokenLong : Int32} {t_token : Int32} {t_value : Int32} {t_winner : Int32} {t_throwsOf : Int32} {t_handA : Int32} {t_handB : Int32} {t_fewestSo : Int32} {t_traced : Int32} {t_lanes : (Nat → Int32)} {t_longs : (Nat → Int32)} {t_isThere : (Nat → Int32)} {t_items : (Nat → Int32)} {l1 : Int32} {l2 : Int32} {l3 : Int32} : ∀ R : Int32 × Int32 × (Nat → Int32), o_X9_set N t_status t_lanes t_longs t_isThere t_items l1 l2 l3 = some R → ZMi sK sV l yX9_set wsX9_set rmX9_set D (zty cI cB cZ) [.ref a_t, .int l1, .int l2, .int l3] [(a_t, .inr (9, [.ref a_t_now, .ref a_t_kept, .ref a_t_isKept, .ref a_t_acts, .int t_manyActs, .ref a_t_was, .int t_status, .ref a_t_lanes, .ref a_t_longs, .ref a_t_isThere, .ref a_t_items, .ref a_t_copied, .ref a_t_tape, .int t_tapeLong, .int t_fault, .int t_tokenAt, .int t_tokenLong, .int t_token, .int t_value, .ref a_t_readSorts, .ref a_t_readHands, .int t_winner, .int t_throwsOf, .int t_handA, .int t_handB, .ref a_t_inTurn, .ref a_t_ends, .ref a_t_bestHands, .int t_fewestSo, .ref a_t_traces, .int t_traced])), (a_t_lanes, .inl (cI, 8, .inl t_lanes)), (a_t_longs, .inl (cI, 8, .inl t_longs)), (a_t_isThere, .inl (cZ, 8, .inl t_isThere)), (a_t_items, .inl (cI, 320, .inl t_items))] R.1 [(a_t, .inr (9, [.ref a_t_now, .ref a_t_kept, .ref a_t_isKept, .ref a_t_acts, .int t_manyActs, .ref a_t_was, .int R.2.1, .ref a_t_lanes, .ref a_t_longs, .ref a_t_isThere, .ref a_t_items, .ref a_t_copied, .ref a_t_tape, .int t_tapeLong, .int t_fault, .int t_tokenAt, .int t_tokenLong, .int t_token, .int t_value, .ref a_t_readSorts, .ref a_t_readHands, .int t_winner, .int t_throwsOf, .int t_handA, .int t_handB, .ref a_t_inTurn, .ref a_t_ends, .ref a_t_bestHands, .int t_fewestSo, .ref a_t_traces, .int t_traced])), (a_t_lanes, .inl (cI, 8, .inl t_lanes)), (a_t_longs, .inl (cI, 8, .inl t_longs)), (a_t_isThere, .inl (cZ, 8, .inl t_isThere)), (a_t_items, .inl (cI, 320, .inl R.2.2))] := by
  intro R hR
  refine zi_of (cc := cX9_set) (maxL := 5) (ret := (some .int)) (by decide) rfl (Nat.le_of_ble_eq_true rfl) (fun E hE1 hE2 hC hN hQ => ?_)
  subst hE1 hE2
  exact z_X9_set_0 hC hN (N := N) (a_t := a_t) (a_t_lanes := a_t_lanes) (a_t_longs := a_t_longs) (a_t_isThere := a_t_isThere) (a_t_items := a_t_items) (a_t_now := a_t_now) (a_t_kept := a_t_kept) (a_t_isKept := a_t_isKept) (a_t_acts := a_t_acts) (a_t_was := a_t_was) (a_t_copied := a_t_copied) (a_t_tape := a_t_tape) (a_t_readSorts := a_t_readSorts) (a_t_readHands := a_t_readHands) (a_t_inTurn := a_t_inTurn) (a_t_ends := a_t_ends) (a_t_bestHands := a_t_bestHands) (a_t_traces := a_t_traces) (t_manyActs := t_manyActs) (t_status := t_status) (t_tapeLong := t_tapeLong) (t_fault := t_fault) (t_tokenAt := t_tokenAt) (t_tokenLong := t_tokenLong) (t_token := t_token) (t_value := t_value) (t_winner := t_winner) (t_throwsOf := t_throwsOf) (t_handA := t_handA) (t_handB := t_handB) (t_fewestSo := t_fewestSo) (t_traced := t_traced) (t_lanes := t_lanes) (t_longs := t_longs) (t_isThere := t_isThere) (t_items := t_items) (l1 := l1) (l2 := l2) (l3 := l3) hQ hR

/-! FistTrainsModel.copy -/
abbrev rmX9_copy : Room := { frames := 2, cells := 0, slots := 0, locals := 45 }
set_option maxRecDepth 20000 in
theorem mX9_copy_1 : Cond.constant RX9 79 (-1000001) ∈ wsX9_copy := List.mem_of_getElem? (i := 1) rfl
set_option maxRecDepth 20000 in
theorem iX9_copy_X9 : ∀ w ∈ wsX90, w ∈ wsX9_copy := by decide +kernel
set_option maxRecDepth 20000 in
theorem mX9_copy_2 : Cond.fieldLink RX9 32 "FistTrainsModel" "isThere" "[Z" ∈ wsX9_copy := List.mem_of_getElem? (i := 2) rfl
set_option maxRecDepth 20000 in
theorem mX9_copy_3 : Cond.fieldLink RX9 26 "FistTrainsModel" "lanes" "[I" ∈ wsX9_copy := List.mem_of_getElem? (i := 3) rfl
set_option maxRecDepth 20000 in
theorem mX9_copy_4 : Cond.fieldLink RX9 29 "FistTrainsModel" "longs" "[I" ∈ wsX9_copy := List.mem_of_getElem? (i := 4) rfl
set_option maxRecDepth 20000 in
theorem mX9_copy_5 : Cond.fieldLink RX9 38 "FistTrainsModel" "copied" "[I" ∈ wsX9_copy := List.mem_of_getElem? (i := 5) rfl
set_option maxRecDepth 20000 in
theorem mX9_copy_6 : Cond.fieldLink RX9 35 "FistTrainsModel" "items" "[I" ∈ wsX9_copy := List.mem_of_getElem? (i := 6) rfl
def o_X9_copy_157 (N : Nat) (t_copied : (Nat → Int32)) (l3 : Int32) (l4 : Int32) (l5 : Int32) : Nat → (Nat → Int32) → Int32 → Option (Int32 × Int32 × (Nat → Int32) × (Nat → Int32))
  | 0 => fun _ _ => none
  | n + 1 => fun t_items l6 => 
    if l5 ≤ l6 then
      Option.bind (o_X9_well N l5) (fun r195 =>
      some (r195.1, r195.2, t_items, t_copied))
    else
      ogd (inb l6 40) (
      ogd (inb (((40 * l3) + l4) + l6) 320) (
      o_X9_copy_157 N t_copied l3 l4 l5 n (upd t_items (Int32.toNatClampNeg (((40 * l3) + l4) + l6)) (t_copied (Int32.toNatClampNeg l6))) (l6 + 1)))
def o_X9_copy_120 (N : Nat) (t_items : (Nat → Int32)) (l1 : Int32) (l2 : Int32) (l3 : Int32) (l4 : Int32) (l5 : Int32) : Nat → (Nat → Int32) → Int32 → Option (Int32 × Int32 × (Nat → Int32) × (Nat → Int32))
  | 0 => fun _ _ => none
  | n + 1 => fun t_copied l6 => 
    if l5 ≤ l6 then
      o_X9_copy_157 N t_copied l3 l4 l5 N t_items 0
    else
      ogd (inb (((40 * l1) + l2) + l6) 320) (
      ogd (inb l6 40) (
      o_X9_copy_120 N t_items l1 l2 l3 l4 l5 n (upd t_copied (Int32.toNatClampNeg l6) (t_items (Int32.toNatClampNeg (((40 * l1) + l2) + l6)))) (l6 + 1)))
def o_X9_copy (N : Nat) (t_status : Int32) (t_lanes : (Nat → Int32)) (t_longs : (Nat → Int32)) (t_isThere : (Nat → Int32)) (t_items : (Nat → Int32)) (t_copied : (Nat → Int32)) (l1 : Int32) (l2 : Int32) (l3 : Int32) (l4 : Int32) (l5 : Int32) : Option (Int32 × Int32 × (Nat → Int32) × (Nat → Int32)) :=
  Option.bind (o_X9_isRow N l1) (fun r1 =>
  if r1 = 0 then
    some ((-1000001), t_status, t_items, t_copied)
  else
    Option.bind (o_X9_isRow N l3) (fun r8 =>
    if r8 = 0 then
      some ((-1000001), t_status, t_items, t_copied)
    else
      ogd (inb l1 8) (
      if (t_isThere (Int32.toNatClampNeg l1)) = 0 then
        Option.bind (o_X9_found N 1) (fun r37 =>
        some (r37.1, r37.2, t_items, t_copied))
      else
        ogd (inb l3 8) (
        if (t_isThere (Int32.toNatClampNeg l3)) = 0 then
          Option.bind (o_X9_found N 1) (fun r37 =>
          some (r37.1, r37.2, t_items, t_copied))
        else
          ogd (inb l1 8) (
          ogd (inb l3 8) (
          if (t_lanes (Int32.toNatClampNeg l1)) = (t_lanes (Int32.toNatClampNeg l3)) then
            if l2 < 0 then
              Option.bind (o_X9_found N 2) (fun r113 =>
              some (r113.1, r113.2, t_items, t_copied))
            else
              if l4 < 0 then
                Option.bind (o_X9_found N 2) (fun r113 =>
                some (r113.1, r113.2, t_items, t_copied))
              else
                if l5 < 0 then
                  Option.bind (o_X9_found N 2) (fun r113 =>
                  some (r113.1, r113.2, t_items, t_copied))
                else
                  ogd (inb l1 8) (
                  if 0 < (lg_cmp ((Int32.toInt64 l2) + (Int32.toInt64 l5)) (Int32.toInt64 (t_longs (Int32.toNatClampNeg l1)))) then
                    Option.bind (o_X9_found N 2) (fun r113 =>
                    some (r113.1, r113.2, t_items, t_copied))
                  else
                    ogd (inb l3 8) (
                    if (lg_cmp ((Int32.toInt64 l4) + (Int32.toInt64 l5)) (Int32.toInt64 (t_longs (Int32.toNatClampNeg l3)))) ≤ 0 then
                      o_X9_copy_120 N t_items l1 l2 l3 l4 l5 N t_copied 0
                    else
                      Option.bind (o_X9_found N 2) (fun r113 =>
                      some (r113.1, r113.2, t_items, t_copied))))
          else
            Option.bind (o_X9_found N 5) (fun r58 =>
            some (r58.1, r58.2, t_items, t_copied))))))))
set_option maxHeartbeats 4000000 in
set_option maxRecDepth 100000 in
theorem z_X9_copy_157 {sK sV : Nat → Nat} {E : ZE} {cI cB cZ : ClassId} (hC : ZC E 7 cX9_copy wsX9_copy RX9 rmX9_copy (some .int) (zty cI cB cZ)) (hN : ZN sK sV (zA E) (zs E)) {N : Nat} {a_t : Nat} {a_t_lanes : Nat} {a_t_longs : Nat} {a_t_isThere : Nat} {a_t_items : Nat} {a_t_copied : Nat} {a_t_now : Nat} {a_t_kept : Nat} {a_t_isKept : Nat} {a_t_acts : Nat} {a_t_was : Nat} {a_t_tape : Nat} {a_t_readSorts : Nat} {a_t_readHands : Nat} {a_t_inTurn : Nat} {a_t_ends : Nat} {a_t_bestHands : Nat} {a_t_traces : Nat} {t_manyActs : Int32} {t_status : Int32} {t_tapeLong : Int32} {t_fault : Int32} {t_tokenAt : Int32} {t_tokenLong : Int32} {t_token : Int32} {t_value : Int32} {t_winner : Int32} {t_throwsOf : Int32} {t_handA : Int32} {t_handB : Int32} {t_fewestSo : Int32} {t_traced : Int32} {t_lanes : (Nat → Int32)} {t_longs : (Nat → Int32)} {t_isThere : (Nat → Int32)} {t_copied : (Nat → Int32)} {l3 : Int32} {l4 : Int32} {l5 : Int32} {rf : Int32 × Int32 × (Nat → Int32) × (Nat → Int32)} (hQ : ZQi E (zty cI cB cZ) rf.1 [(a_t, .inr (9, [.ref a_t_now, .ref a_t_kept, .ref a_t_isKept, .ref a_t_acts, .int t_manyActs, .ref a_t_was, .int rf.2.1, .ref a_t_lanes, .ref a_t_longs, .ref a_t_isThere, .ref a_t_items, .ref a_t_copied, .ref a_t_tape, .int t_tapeLong, .int t_fault, .int t_tokenAt, .int t_tokenLong, .int t_token, .int t_value, .ref a_t_readSorts, .ref a_t_readHands, .int t_winner, .int t_throwsOf, .int t_handA, .int t_handB, .ref a_t_inTurn, .ref a_t_ends, .ref a_t_bestHands, .int t_fewestSo, .ref a_t_traces, .int t_traced])), (a_t_lanes, .inl (cI, 8, .inl t_lanes)), (a_t_longs, .inl (cI, 8, .inl t_longs)), (a_t_isThere, .inl (cZ, 8, .inl t_isThere)), (a_t_items, .inl (cI, 320, .inl rf.2.2.1)), (a_t_copied, .inl (cI, 40, .inl rf.2.2.2))]) : ∀ (n : Nat) (t_items : (Nat → Int32)) (l6 : Int32), o_X9_copy_157 N t_copied l3 l4 l5 n t_items l6 = some rf → Z E (0, 0) [(0, .ref a_t), (3, .int l3), (4, .int l4), (5, .int l5), (6, .int l6)] 157 [] [(a_t, .inr (9, [.ref a_t_now, .ref a_t_kept, .ref a_t_isKept, .ref a_t_acts, .int t_manyActs, .ref a_t_was, .int t_status, .ref a_t_lanes, .ref a_t_longs, .ref a_t_isThere, .ref a_t_items, .ref a_t_copied, .ref a_t_tape, .int t_tapeLong, .int t_fault, .int t_tokenAt, .int t_tokenLong, .int t_token, .int t_value, .ref a_t_readSorts, .ref a_t_readHands, .int t_winner, .int t_throwsOf, .int t_handA, .int t_handB, .ref a_t_inTurn, .ref a_t_ends, .ref a_t_bestHands, .int t_fewestSo, .ref a_t_traces, .int t_traced])), (a_t_lanes, .inl (cI, 8, .inl t_lanes)), (a_t_longs, .inl (cI, 8, .inl t_longs)), (a_t_isThere, .inl (cZ, 8, .inl t_isThere)), (a_t_items, .inl (cI, 320, .inl t_items)), (a_t_copied, .inl (cI, 40, .inl t_copied))] := by
  intro n
  induction n with
  | zero =>
    intro t_items l6 hR
    cases hR
  | succ n ih =>
    intro t_items l6 hR
    rw [o_X9_copy_157] at hR
    refine z_iload hC dX9_copy_157 4 rfl ?_
    refine z_iload hC dX9_copy_159 3 rfl ?_
    refine z_icmp_ge hC 192 dX9_copy_161 (by decide) hR (fun hR => ?_) (fun hR => ?_)
    · refine z_aload_n hC dX9_copy_192 rfl 0 rfl ?_
      refine z_iload hC dX9_copy_193 3 rfl ?_
      refine z_callVi hC hN [.int l5] [0] (c_X9_well (l := zl E) (D := zD E) (cI := cI) (cB := cB) (cZ := cZ) (N := N) (a_t := a_t) (a_t_now := a_t_now) (a_t_kept := a_t_kept) (a_t_isKept := a_t_isKept) (a_t_acts := a_t_acts) (a_t_was := a_t_was) (a_t_lanes := a_t_lanes) (a_t_longs := a_t_longs) (a_t_isThere := a_t_isThere) (a_t_items := a_t_items) (a_t_copied := a_t_copied) (a_t_tape := a_t_tape) (a_t_readSorts := a_t_readSorts) (a_t_readHands := a_t_readHands) (a_t_inTurn := a_t_inTurn) (a_t_ends := a_t_ends) (a_t_bestHands := a_t_bestHands) (a_t_traces := a_t_traces) (l1 := l5) (t_manyActs := t_manyActs) (t_status := t_status) (t_tapeLong := t_tapeLong) (t_fault := t_fault) (t_tokenAt := t_tokenAt) (t_tokenLong := t_tokenLong) (t_token := t_token) (t_value := t_value) (t_winner := t_winner) (t_throwsOf := t_throwsOf) (t_handA := t_handA) (t_handB := t_handB) (t_fewestSo := t_fewestSo) (t_traced := t_traced)) rfl ⟨rfl, rfl⟩ gX9_copy_X9_well hvX9_well 0 9 rfl rfl rfl ⟨Nat.le_of_ble_eq_true rfl, Nat.le_of_ble_eq_true rfl⟩ ⟨Nat.zero_le _, Nat.zero_le _⟩ rfl (Nat.le_of_ble_eq_true rfl) rfl (by decide) (fun _ => rfl) dX9_copy_195 hR (fun r195 hR => ?_)
      refine z_eq [(a_t, .inr (9, [.ref a_t_now, .ref a_t_kept, .ref a_t_isKept, .ref a_t_acts, .int t_manyActs, .ref a_t_was, .int r195.2, .ref a_t_lanes, .ref a_t_longs, .ref a_t_isThere, .ref a_t_items, .ref a_t_copied, .ref a_t_tape, .int t_tapeLong, .int t_fault, .int t_tokenAt, .int t_tokenLong, .int t_token, .int t_value, .ref a_t_readSorts, .ref a_t_readHands, .int t_winner, .int t_throwsOf, .int t_handA, .int t_handB, .ref a_t_inTurn, .ref a_t_ends, .ref a_t_bestHands, .int t_fewestSo, .ref a_t_traces, .int t_traced])), (a_t_lanes, .inl (cI, 8, .inl t_lanes)), (a_t_longs, .inl (cI, 8, .inl t_longs)), (a_t_isThere, .inl (cZ, 8, .inl t_isThere)), (a_t_items, .inl (cI, 320, .inl t_items)), (a_t_copied, .inl (cI, 40, .inl t_copied))] rfl ?_
      obtain rfl := Option.some.inj hR
      exact z_iret hC hQ rfl rfl rfl dX9_copy_198
    · refine z_aload_n hC dX9_copy_164 rfl 0 rfl ?_
      refine z_get hC iX9_copy_X9 rfl 0 10 rfl (by decide) mX9_copy_6 rfl rfl dX9_copy_165 ?_
      refine z_bipush (v := 40) hC dX9_copy_168 (by decide) ?_
      refine z_iload_n hC dX9_copy_170 rfl 1 rfl ?_
      refine z_imul hC dX9_copy_171 ?_
      refine z_iload hC dX9_copy_172 2 rfl ?_
      refine z_iadd hC dX9_copy_174 ?_
      refine z_iload hC dX9_copy_175 4 rfl ?_
      refine z_iadd hC dX9_copy_177 ?_
      refine z_aload_n hC dX9_copy_178 rfl 0 rfl ?_
      refine z_get hC iX9_copy_X9 rfl 0 11 rfl (by decide) mX9_copy_5 rfl rfl dX9_copy_179 ?_
      refine z_iload hC dX9_copy_182 4 rfl ?_
      refine z_iald hC 5 0 rfl rfl dX9_copy_184 hR (fun hR => ?_)
      refine z_iast hC 4 0 rfl rfl dX9_copy_185 hR (fun hR => ?_)
      refine z_iinc1 hC [(6, .int (l6 + 1)), (0, .ref a_t), (3, .int l3), (4, .int l4), (5, .int l5)] dX9_copy_186 4 rfl (by decide) rfl ?_
      refine z_goto hC 157 dX9_copy_189 (by decide) ?_
      refine z_sub (lv' := [(0, .ref a_t), (3, .int l3), (4, .int l4), (5, .int l5), (6, .int (l6 + 1))]) [1, 2, 3, 4, 0] rfl ?_
      exact ih (upd t_items (Int32.toNatClampNeg (((40 * l3) + l4) + l6)) (t_copied (Int32.toNatClampNeg l6))) (l6 + 1) hR
set_option maxHeartbeats 4000000 in
set_option maxRecDepth 100000 in
theorem z_X9_copy_120 {sK sV : Nat → Nat} {E : ZE} {cI cB cZ : ClassId} (hC : ZC E 7 cX9_copy wsX9_copy RX9 rmX9_copy (some .int) (zty cI cB cZ)) (hN : ZN sK sV (zA E) (zs E)) {N : Nat} {a_t : Nat} {a_t_lanes : Nat} {a_t_longs : Nat} {a_t_isThere : Nat} {a_t_items : Nat} {a_t_copied : Nat} {a_t_now : Nat} {a_t_kept : Nat} {a_t_isKept : Nat} {a_t_acts : Nat} {a_t_was : Nat} {a_t_tape : Nat} {a_t_readSorts : Nat} {a_t_readHands : Nat} {a_t_inTurn : Nat} {a_t_ends : Nat} {a_t_bestHands : Nat} {a_t_traces : Nat} {t_manyActs : Int32} {t_status : Int32} {t_tapeLong : Int32} {t_fault : Int32} {t_tokenAt : Int32} {t_tokenLong : Int32} {t_token : Int32} {t_value : Int32} {t_winner : Int32} {t_throwsOf : Int32} {t_handA : Int32} {t_handB : Int32} {t_fewestSo : Int32} {t_traced : Int32} {t_lanes : (Nat → Int32)} {t_longs : (Nat → Int32)} {t_isThere : (Nat → Int32)} {t_items : (Nat → Int32)} {l1 : Int32} {l2 : Int32} {l3 : Int32} {l4 : Int32} {l5 : Int32} {rf : Int32 × Int32 × (Nat → Int32) × (Nat → Int32)} (hQ : ZQi E (zty cI cB cZ) rf.1 [(a_t, .inr (9, [.ref a_t_now, .ref a_t_kept, .ref a_t_isKept, .ref a_t_acts, .int t_manyActs, .ref a_t_was, .int rf.2.1, .ref a_t_lanes, .ref a_t_longs, .ref a_t_isThere, .ref a_t_items, .ref a_t_copied, .ref a_t_tape, .int t_tapeLong, .int t_fault, .int t_tokenAt, .int t_tokenLong, .int t_token, .int t_value, .ref a_t_readSorts, .ref a_t_readHands, .int t_winner, .int t_throwsOf, .int t_handA, .int t_handB, .ref a_t_inTurn, .ref a_t_ends, .ref a_t_bestHands, .int t_fewestSo, .ref a_t_traces, .int t_traced])), (a_t_lanes, .inl (cI, 8, .inl t_lanes)), (a_t_longs, .inl (cI, 8, .inl t_longs)), (a_t_isThere, .inl (cZ, 8, .inl t_isThere)), (a_t_items, .inl (cI, 320, .inl rf.2.2.1)), (a_t_copied, .inl (cI, 40, .inl rf.2.2.2))]) : ∀ (n : Nat) (t_copied : (Nat → Int32)) (l6 : Int32), o_X9_copy_120 N t_items l1 l2 l3 l4 l5 n t_copied l6 = some rf → Z E (0, 0) [(0, .ref a_t), (1, .int l1), (2, .int l2), (3, .int l3), (4, .int l4), (5, .int l5), (6, .int l6)] 120 [] [(a_t, .inr (9, [.ref a_t_now, .ref a_t_kept, .ref a_t_isKept, .ref a_t_acts, .int t_manyActs, .ref a_t_was, .int t_status, .ref a_t_lanes, .ref a_t_longs, .ref a_t_isThere, .ref a_t_items, .ref a_t_copied, .ref a_t_tape, .int t_tapeLong, .int t_fault, .int t_tokenAt, .int t_tokenLong, .int t_token, .int t_value, .ref a_t_readSorts, .ref a_t_readHands, .int t_winner, .int t_throwsOf, .int t_handA, .int t_handB, .ref a_t_inTurn, .ref a_t_ends, .ref a_t_bestHands, .int t_fewestSo, .ref a_t_traces, .int t_traced])), (a_t_lanes, .inl (cI, 8, .inl t_lanes)), (a_t_longs, .inl (cI, 8, .inl t_longs)), (a_t_isThere, .inl (cZ, 8, .inl t_isThere)), (a_t_items, .inl (cI, 320, .inl t_items)), (a_t_copied, .inl (cI, 40, .inl t_copied))] := by
  intro n
  induction n with
  | zero =>
    intro t_copied l6 hR
    cases hR
  | succ n ih =>
    intro t_copied l6 hR
    rw [o_X9_copy_120] at hR
    refine z_iload hC dX9_copy_120 6 rfl ?_
    refine z_iload hC dX9_copy_122 5 rfl ?_
    refine z_icmp_ge hC 154 dX9_copy_124 (by decide) hR (fun hR => ?_) (fun hR => ?_)
    · refine z_ic0 hC dX9_copy_154 ?_
      refine z_istore hC [(6, .int 0), (0, .ref a_t), (1, .int l1), (2, .int l2), (3, .int l3), (4, .int l4), (5, .int l5)] dX9_copy_155 (by decide) rfl ?_
      refine z_sub (lv' := [(0, .ref a_t), (3, .int l3), (4, .int l4), (5, .int l5), (6, .int 0)]) [1, 4, 5, 6, 0] rfl ?_
      exact z_X9_copy_157 hC hN (N := N) (a_t := a_t) (a_t_lanes := a_t_lanes) (a_t_longs := a_t_longs) (a_t_isThere := a_t_isThere) (a_t_items := a_t_items) (a_t_copied := a_t_copied) (a_t_now := a_t_now) (a_t_kept := a_t_kept) (a_t_isKept := a_t_isKept) (a_t_acts := a_t_acts) (a_t_was := a_t_was) (a_t_tape := a_t_tape) (a_t_readSorts := a_t_readSorts) (a_t_readHands := a_t_readHands) (a_t_inTurn := a_t_inTurn) (a_t_ends := a_t_ends) (a_t_bestHands := a_t_bestHands) (a_t_traces := a_t_traces) (t_manyActs := t_manyActs) (t_status := t_status) (t_tapeLong := t_tapeLong) (t_fault := t_fault) (t_tokenAt := t_tokenAt) (t_tokenLong := t_tokenLong) (t_token := t_token) (t_value := t_value) (t_winner := t_winner) (t_throwsOf := t_throwsOf) (t_handA := t_handA) (t_handB := t_handB) (t_fewestSo := t_fewestSo) (t_traced := t_traced) (t_lanes := t_lanes) (t_longs := t_longs) (t_isThere := t_isThere) (t_copied := t_copied) (l3 := l3) (l4 := l4) (l5 := l5) hQ  N t_items 0 hR
    · refine z_aload_n hC dX9_copy_127 rfl 0 rfl ?_
      refine z_get hC iX9_copy_X9 rfl 0 11 rfl (by decide) mX9_copy_5 rfl rfl dX9_copy_128 ?_
      refine z_iload hC dX9_copy_131 6 rfl ?_
      refine z_aload_n hC dX9_copy_133 rfl 0 rfl ?_
      refine z_get hC iX9_copy_X9 rfl 0 10 rfl (by decide) mX9_copy_6 rfl rfl dX9_copy_134 ?_
      refine z_bipush (v := 40) hC dX9_copy_137 (by decide) ?_
      refine z_iload_n hC dX9_copy_139 rfl 1 rfl ?_
      refine z_imul hC dX9_copy_140 ?_
      refine z_iload_n hC dX9_copy_141 rfl 2 rfl ?_
      refine z_iadd hC dX9_copy_142 ?_
      refine z_iload hC dX9_copy_143 6 rfl ?_
      refine z_iadd hC dX9_copy_145 ?_
      refine z_iald hC 4 0 rfl rfl dX9_copy_146 hR (fun hR => ?_)
      refine z_iast hC 5 0 rfl rfl dX9_copy_147 hR (fun hR => ?_)
      refine z_iinc1 hC [(6, .int (l6 + 1)), (0, .ref a_t), (1, .int l1), (2, .int l2), (3, .int l3), (4, .int l4), (5, .int l5)] dX9_copy_148 6 rfl (by decide) rfl ?_
      refine z_goto hC 120 dX9_copy_151 (by decide) ?_
      refine z_sub (lv' := [(0, .ref a_t), (1, .int l1), (2, .int l2), (3, .int l3), (4, .int l4), (5, .int l5), (6, .int (l6 + 1))]) [1, 2, 3, 4, 5, 6, 0] rfl ?_
      exact ih (upd t_copied (Int32.toNatClampNeg l6) (t_items (Int32.toNatClampNeg (((40 * l1) + l2) + l6)))) (l6 + 1) hR
set_option maxHeartbeats 4000000 in
set_option maxRecDepth 100000 in
theorem z_X9_copy_0 {sK sV : Nat → Nat} {E : ZE} {cI cB cZ : ClassId} (hC : ZC E 7 cX9_copy wsX9_copy RX9 rmX9_copy (some .int) (zty cI cB cZ)) (hN : ZN sK sV (zA E) (zs E)) {N : Nat} {a_t : Nat} {a_t_lanes : Nat} {a_t_longs : Nat} {a_t_isThere : Nat} {a_t_items : Nat} {a_t_copied : Nat} {a_t_now : Nat} {a_t_kept : Nat} {a_t_isKept : Nat} {a_t_acts : Nat} {a_t_was : Nat} {a_t_tape : Nat} {a_t_readSorts : Nat} {a_t_readHands : Nat} {a_t_inTurn : Nat} {a_t_ends : Nat} {a_t_bestHands : Nat} {a_t_traces : Nat} {t_manyActs : Int32} {t_status : Int32} {t_tapeLong : Int32} {t_fault : Int32} {t_tokenAt : Int32} {t_tokenLong : Int32} {t_token : Int32} {t_value : Int32} {t_winner : Int32} {t_throwsOf : Int32} {t_handA : Int32} {t_handB : Int32} {t_fewestSo : Int32} {t_traced : Int32} {t_lanes : (Nat → Int32)} {t_longs : (Nat → Int32)} {t_isThere : (Nat → Int32)} {t_items : (Nat → Int32)} {t_copied : (Nat → Int32)} {l1 : Int32} {l2 : Int32} {l3 : Int32} {l4 : Int32} {l5 : Int32} {rf : Int32 × Int32 × (Nat → Int32) × (Nat → Int32)} (hQ : ZQi E (zty cI cB cZ) rf.1 [(a_t, .inr (9, [.ref a_t_now, .ref a_t_kept, .ref a_t_isKept, .ref a_t_acts, .int t_manyActs, .ref a_t_was, .int rf.2.1, .ref a_t_lanes, .ref a_t_longs, .ref a_t_isThere, .ref a_t_items, .ref a_t_copied, .ref a_t_tape, .int t_tapeLong, .int t_fault, .int t_tokenAt, .int t_tokenLong, .int t_token, .int t_value, .ref a_t_readSorts, .ref a_t_readHands, .int t_winner, .int t_throwsOf, .int t_handA, .int t_handB, .ref a_t_inTurn, .ref a_t_ends, .ref a_t_bestHands, .int t_fewestSo, .ref a_t_traces, .int t_traced])), (a_t_lanes, .inl (cI, 8, .inl t_lanes)), (a_t_longs, .inl (cI, 8, .inl t_longs)), (a_t_isThere, .inl (cZ, 8, .inl t_isThere)), (a_t_items, .inl (cI, 320, .inl rf.2.2.1)), (a_t_copied, .inl (cI, 40, .inl rf.2.2.2))]) (hR : o_X9_copy N t_status t_lanes t_longs t_isThere t_items t_copied l1 l2 l3 l4 l5 = some rf) : Z E (0, 0) [(0, .ref a_t), (1, .int l1), (2, .int l2), (3, .int l3), (4, .int l4), (5, .int l5)] 0 [] [(a_t, .inr (9, [.ref a_t_now, .ref a_t_kept, .ref a_t_isKept, .ref a_t_acts, .int t_manyActs, .ref a_t_was, .int t_status, .ref a_t_lanes, .ref a_t_longs, .ref a_t_isThere, .ref a_t_items, .ref a_t_copied, .ref a_t_tape, .int t_tapeLong, .int t_fault, .int t_tokenAt, .int t_tokenLong, .int t_token, .int t_value, .ref a_t_readSorts, .ref a_t_readHands, .int t_winner, .int t_throwsOf, .int t_handA, .int t_handB, .ref a_t_inTurn, .ref a_t_ends, .ref a_t_bestHands, .int t_fewestSo, .ref a_t_traces, .int t_traced])), (a_t_lanes, .inl (cI, 8, .inl t_lanes)), (a_t_longs, .inl (cI, 8, .inl t_longs)), (a_t_isThere, .inl (cZ, 8, .inl t_isThere)), (a_t_items, .inl (cI, 320, .inl t_items)), (a_t_copied, .inl (cI, 40, .inl t_copied))] := by
  rw [o_X9_copy] at hR
  refine z_iload_n hC dX9_copy_0 rfl 1 rfl ?_
  refine z_callSi_p hC hN [.int l1] [] (c_X9_isRow (l := zl E) (D := zD E) (cI := cI) (cB := cB) (cZ := cZ) (N := N) (l0 := l1)) rfl ⟨rfl, rfl⟩ gX9_copy_X9_isRow hsX9_isRow ⟨Nat.le_of_ble_eq_true rfl, Nat.le_of_ble_eq_true rfl⟩ ⟨Nat.zero_le _, Nat.zero_le _⟩ rfl (Nat.le_of_ble_eq_true rfl) rfl (by decide) dX9_copy_1 hR (fun r1 hR => ?_)
  refine z_if_eq hC 14 dX9_copy_4 (by decide) hR (fun hR => ?_) (fun hR => ?_)
  · refine z_ldc hC (-1000001) mX9_copy_1 dX9_copy_14 ?_
    obtain rfl := Option.some.inj hR
    exact z_iret hC hQ rfl rfl rfl dX9_copy_16
  · refine z_iload_n hC dX9_copy_7 rfl 3 rfl ?_
    refine z_callSi_p hC hN [.int l3] [] (c_X9_isRow (l := zl E) (D := zD E) (cI := cI) (cB := cB) (cZ := cZ) (N := N) (l0 := l3)) rfl ⟨rfl, rfl⟩ gX9_copy_X9_isRow hsX9_isRow ⟨Nat.le_of_ble_eq_true rfl, Nat.le_of_ble_eq_true rfl⟩ ⟨Nat.zero_le _, Nat.zero_le _⟩ rfl (Nat.le_of_ble_eq_true rfl) rfl (by decide) dX9_copy_8 hR (fun r8 hR => ?_)
    refine z_if_ne hC 17 dX9_copy_11 (by decide) hR (fun hR => ?_) (fun hR => ?_)
    · refine z_aload_n hC dX9_copy_17 rfl 0 rfl ?_
      refine z_get hC iX9_copy_X9 rfl 0 9 rfl (by decide) mX9_copy_2 rfl rfl dX9_copy_18 ?_
      refine z_iload_n hC dX9_copy_21 rfl 1 rfl ?_
      refine z_zald hC 3 2 rfl rfl dX9_copy_22 hR (fun hR => ?_)
      refine z_if_eq hC 35 dX9_copy_23 (by decide) hR (fun hR => ?_) (fun hR => ?_)
      · refine z_aload_n hC dX9_copy_35 rfl 0 rfl ?_
        refine z_ic1 hC dX9_copy_36 ?_
        refine z_callVi hC hN [.int 1] [0] (c_X9_found (l := zl E) (D := zD E) (cI := cI) (cB := cB) (cZ := cZ) (N := N) (a_t := a_t) (a_t_now := a_t_now) (a_t_kept := a_t_kept) (a_t_isKept := a_t_isKept) (a_t_acts := a_t_acts) (a_t_was := a_t_was) (a_t_lanes := a_t_lanes) (a_t_longs := a_t_longs) (a_t_isThere := a_t_isThere) (a_t_items := a_t_items) (a_t_copied := a_t_copied) (a_t_tape := a_t_tape) (a_t_readSorts := a_t_readSorts) (a_t_readHands := a_t_readHands) (a_t_inTurn := a_t_inTurn) (a_t_ends := a_t_ends) (a_t_bestHands := a_t_bestHands) (a_t_traces := a_t_traces) (l1 := 1) (t_manyActs := t_manyActs) (t_status := t_status) (t_tapeLong := t_tapeLong) (t_fault := t_fault) (t_tokenAt := t_tokenAt) (t_tokenLong := t_tokenLong) (t_token := t_token) (t_value := t_value) (t_winner := t_winner) (t_throwsOf := t_throwsOf) (t_handA := t_handA) (t_handB := t_handB) (t_fewestSo := t_fewestSo) (t_traced := t_traced)) rfl ⟨rfl, rfl⟩ gX9_copy_X9_found hvX9_found 0 9 rfl rfl rfl ⟨Nat.le_of_ble_eq_true rfl, Nat.le_of_ble_eq_true rfl⟩ ⟨Nat.zero_le _, Nat.zero_le _⟩ rfl (Nat.le_of_ble_eq_true rfl) rfl (by decide) (fun _ => rfl) dX9_copy_37 hR (fun r37 hR => ?_)
        refine z_eq [(a_t, .inr (9, [.ref a_t_now, .ref a_t_kept, .ref a_t_isKept, .ref a_t_acts, .int t_manyActs, .ref a_t_was, .int r37.2, .ref a_t_lanes, .ref a_t_longs, .ref a_t_isThere, .ref a_t_items, .ref a_t_copied, .ref a_t_tape, .int t_tapeLong, .int t_fault, .int t_tokenAt, .int t_tokenLong, .int t_token, .int t_value, .ref a_t_readSorts, .ref a_t_readHands, .int t_winner, .int t_throwsOf, .int t_handA, .int t_handB, .ref a_t_inTurn, .ref a_t_ends, .ref a_t_bestHands, .int t_fewestSo, .ref a_t_traces, .int t_traced])), (a_t_lanes, .inl (cI, 8, .inl t_lanes)), (a_t_longs, .inl (cI, 8, .inl t_longs)), (a_t_isThere, .inl (cZ, 8, .inl t_isThere)), (a_t_items, .inl (cI, 320, .inl t_items)), (a_t_copied, .inl (cI, 40, .inl t_copied))] rfl ?_
        obtain rfl := Option.some.inj hR
        exact z_iret hC hQ rfl rfl rfl dX9_copy_40
      · refine z_aload_n hC dX9_copy_26 rfl 0 rfl ?_
        refine z_get hC iX9_copy_X9 rfl 0 9 rfl (by decide) mX9_copy_2 rfl rfl dX9_copy_27 ?_
        refine z_iload_n hC dX9_copy_30 rfl 3 rfl ?_
        refine z_zald hC 3 2 rfl rfl dX9_copy_31 hR (fun hR => ?_)
        refine z_if_ne hC 41 dX9_copy_32 (by decide) hR (fun hR => ?_) (fun hR => ?_)
        · refine z_aload_n hC dX9_copy_41 rfl 0 rfl ?_
          refine z_get hC iX9_copy_X9 rfl 0 7 rfl (by decide) mX9_copy_3 rfl rfl dX9_copy_42 ?_
          refine z_iload_n hC dX9_copy_45 rfl 1 rfl ?_
          refine z_iald hC 1 0 rfl rfl dX9_copy_46 hR (fun hR => ?_)
          refine z_aload_n hC dX9_copy_47 rfl 0 rfl ?_
          refine z_get hC iX9_copy_X9 rfl 0 7 rfl (by decide) mX9_copy_3 rfl rfl dX9_copy_48 ?_
          refine z_iload_n hC dX9_copy_51 rfl 3 rfl ?_
          refine z_iald hC 1 0 rfl rfl dX9_copy_52 hR (fun hR => ?_)
          refine z_icmp_eq hC 62 dX9_copy_53 (by decide) hR (fun hR => ?_) (fun hR => ?_)
          · refine z_iload_n hC dX9_copy_62 rfl 2 rfl ?_
            refine z_if_lt hC 111 dX9_copy_63 (by decide) hR (fun hR => ?_) (fun hR => ?_)
            · refine z_aload_n hC dX9_copy_111 rfl 0 rfl ?_
              refine z_ic2 hC dX9_copy_112 ?_
              refine z_callVi hC hN [.int 2] [0] (c_X9_found (l := zl E) (D := zD E) (cI := cI) (cB := cB) (cZ := cZ) (N := N) (a_t := a_t) (a_t_now := a_t_now) (a_t_kept := a_t_kept) (a_t_isKept := a_t_isKept) (a_t_acts := a_t_acts) (a_t_was := a_t_was) (a_t_lanes := a_t_lanes) (a_t_longs := a_t_longs) (a_t_isThere := a_t_isThere) (a_t_items := a_t_items) (a_t_copied := a_t_copied) (a_t_tape := a_t_tape) (a_t_readSorts := a_t_readSorts) (a_t_readHands := a_t_readHands) (a_t_inTurn := a_t_inTurn) (a_t_ends := a_t_ends) (a_t_bestHands := a_t_bestHands) (a_t_traces := a_t_traces) (l1 := 2) (t_manyActs := t_manyActs) (t_status := t_status) (t_tapeLong := t_tapeLong) (t_fault := t_fault) (t_tokenAt := t_tokenAt) (t_tokenLong := t_tokenLong) (t_token := t_token) (t_value := t_value) (t_winner := t_winner) (t_throwsOf := t_throwsOf) (t_handA := t_handA) (t_handB := t_handB) (t_fewestSo := t_fewestSo) (t_traced := t_traced)) rfl ⟨rfl, rfl⟩ gX9_copy_X9_found hvX9_found 0 9 rfl rfl rfl ⟨Nat.le_of_ble_eq_true rfl, Nat.le_of_ble_eq_true rfl⟩ ⟨Nat.zero_le _, Nat.zero_le _⟩ rfl (Nat.le_of_ble_eq_true rfl) rfl (by decide) (fun _ => rfl) dX9_copy_113 hR (fun r113 hR => ?_)
              refine z_eq [(a_t, .inr (9, [.ref a_t_now, .ref a_t_kept, .ref a_t_isKept, .ref a_t_acts, .int t_manyActs, .ref a_t_was, .int r113.2, .ref a_t_lanes, .ref a_t_longs, .ref a_t_isThere, .ref a_t_items, .ref a_t_copied, .ref a_t_tape, .int t_tapeLong, .int t_fault, .int t_tokenAt, .int t_tokenLong, .int t_token, .int t_value, .ref a_t_readSorts, .ref a_t_readHands, .int t_winner, .int t_throwsOf, .int t_handA, .int t_handB, .ref a_t_inTurn, .ref a_t_ends, .ref a_t_bestHands, .int t_fewestSo, .ref a_t_traces, .int t_traced])), (a_t_lanes, .inl (cI, 8, .inl t_lanes)), (a_t_longs, .inl (cI, 8, .inl t_longs)), (a_t_isThere, .inl (cZ, 8, .inl t_isThere)), (a_t_items, .inl (cI, 320, .inl t_items)), (a_t_copied, .inl (cI, 40, .inl t_copied))] rfl ?_
              obtain rfl := Option.some.inj hR
              exact z_iret hC hQ rfl rfl rfl dX9_copy_116
            · refine z_iload hC dX9_copy_66 4 rfl ?_
              refine z_if_lt hC 111 dX9_copy_68 (by decide) hR (fun hR => ?_) (fun hR => ?_)
              · refine z_aload_n hC dX9_copy_111 rfl 0 rfl ?_
                refine z_ic2 hC dX9_copy_112 ?_
                refine z_callVi hC hN [.int 2] [0] (c_X9_found (l := zl E) (D := zD E) (cI := cI) (cB := cB) (cZ := cZ) (N := N) (a_t := a_t) (a_t_now := a_t_now) (a_t_kept := a_t_kept) (a_t_isKept := a_t_isKept) (a_t_acts := a_t_acts) (a_t_was := a_t_was) (a_t_lanes := a_t_lanes) (a_t_longs := a_t_longs) (a_t_isThere := a_t_isThere) (a_t_items := a_t_items) (a_t_copied := a_t_copied) (a_t_tape := a_t_tape) (a_t_readSorts := a_t_readSorts) (a_t_readHands := a_t_readHands) (a_t_inTurn := a_t_inTurn) (a_t_ends := a_t_ends) (a_t_bestHands := a_t_bestHands) (a_t_traces := a_t_traces) (l1 := 2) (t_manyActs := t_manyActs) (t_status := t_status) (t_tapeLong := t_tapeLong) (t_fault := t_fault) (t_tokenAt := t_tokenAt) (t_tokenLong := t_tokenLong) (t_token := t_token) (t_value := t_value) (t_winner := t_winner) (t_throwsOf := t_throwsOf) (t_handA := t_handA) (t_handB := t_handB) (t_fewestSo := t_fewestSo) (t_traced := t_traced)) rfl ⟨rfl, rfl⟩ gX9_copy_X9_found hvX9_found 0 9 rfl rfl rfl ⟨Nat.le_of_ble_eq_true rfl, Nat.le_of_ble_eq_true rfl⟩ ⟨Nat.zero_le _, Nat.zero_le _⟩ rfl (Nat.le_of_ble_eq_true rfl) rfl (by decide) (fun _ => rfl) dX9_copy_113 hR (fun r113 hR => ?_)
                refine z_eq [(a_t, .inr (9, [.ref a_t_now, .ref a_t_kept, .ref a_t_isKept, .ref a_t_acts, .int t_manyActs, .ref a_t_was, .int r113.2, .ref a_t_lanes, .ref a_t_longs, .ref a_t_isThere, .ref a_t_items, .ref a_t_copied, .ref a_t_tape, .int t_tapeLong, .int t_fault, .int t_tokenAt, .int t_tokenLong, .int t_token, .int t_value, .ref a_t_readSorts, .ref a_t_readHands, .int t_winner, .int t_throwsOf, .int t_handA, .int t_handB, .ref a_t_inTurn, .ref a_t_ends, .ref a_t_bestHands, .int t_fewestSo, .ref a_t_traces, .int t_traced])), (a_t_lanes, .inl (cI, 8, .inl t_lanes)), (a_t_longs, .inl (cI, 8, .inl t_longs)), (a_t_isThere, .inl (cZ, 8, .inl t_isThere)), (a_t_items, .inl (cI, 320, .inl t_items)), (a_t_copied, .inl (cI, 40, .inl t_copied))] rfl ?_
                obtain rfl := Option.some.inj hR
                exact z_iret hC hQ rfl rfl rfl dX9_copy_116
              · refine z_iload hC dX9_copy_71 5 rfl ?_
                refine z_if_lt hC 111 dX9_copy_73 (by decide) hR (fun hR => ?_) (fun hR => ?_)
                · refine z_aload_n hC dX9_copy_111 rfl 0 rfl ?_
                  refine z_ic2 hC dX9_copy_112 ?_
                  refine z_callVi hC hN [.int 2] [0] (c_X9_found (l := zl E) (D := zD E) (cI := cI) (cB := cB) (cZ := cZ) (N := N) (a_t := a_t) (a_t_now := a_t_now) (a_t_kept := a_t_kept) (a_t_isKept := a_t_isKept) (a_t_acts := a_t_acts) (a_t_was := a_t_was) (a_t_lanes := a_t_lanes) (a_t_longs := a_t_longs) (a_t_isThere := a_t_isThere) (a_t_items := a_t_items) (a_t_copied := a_t_copied) (a_t_tape := a_t_tape) (a_t_readSorts := a_t_readSorts) (a_t_readHands := a_t_readHands) (a_t_inTurn := a_t_inTurn) (a_t_ends := a_t_ends) (a_t_bestHands := a_t_bestHands) (a_t_traces := a_t_traces) (l1 := 2) (t_manyActs := t_manyActs) (t_status := t_status) (t_tapeLong := t_tapeLong) (t_fault := t_fault) (t_tokenAt := t_tokenAt) (t_tokenLong := t_tokenLong) (t_token := t_token) (t_value := t_value) (t_winner := t_winner) (t_throwsOf := t_throwsOf) (t_handA := t_handA) (t_handB := t_handB) (t_fewestSo := t_fewestSo) (t_traced := t_traced)) rfl ⟨rfl, rfl⟩ gX9_copy_X9_found hvX9_found 0 9 rfl rfl rfl ⟨Nat.le_of_ble_eq_true rfl, Nat.le_of_ble_eq_true rfl⟩ ⟨Nat.zero_le _, Nat.zero_le _⟩ rfl (Nat.le_of_ble_eq_true rfl) rfl (by decide) (fun _ => rfl) dX9_copy_113 hR (fun r113 hR => ?_)
                  refine z_eq [(a_t, .inr (9, [.ref a_t_now, .ref a_t_kept, .ref a_t_isKept, .ref a_t_acts, .int t_manyActs, .ref a_t_was, .int r113.2, .ref a_t_lanes, .ref a_t_longs, .ref a_t_isThere, .ref a_t_items, .ref a_t_copied, .ref a_t_tape, .int t_tapeLong, .int t_fault, .int t_tokenAt, .int t_tokenLong, .int t_token, .int t_value, .ref a_t_readSorts, .ref a_t_readHands, .int t_winner, .int t_throwsOf, .int t_handA, .int t_handB, .ref a_t_inTurn, .ref a_t_ends, .ref a_t_bestHands, .int t_fewestSo, .ref a_t_traces, .int t_traced])), (a_t_lanes, .inl (cI, 8, .inl t_lanes)), (a_t_longs, .inl (cI, 8, .inl t_longs)), (a_t_isThere, .inl (cZ, 8, .inl t_isThere)), (a_t_items, .inl (cI, 320, .inl t_items)), (a_t_copied, .inl (cI, 40, .inl t_copied))] rfl ?_
                  obtain rfl := Option.some.inj hR
                  exact z_iret hC hQ rfl rfl rfl dX9_copy_116
                · refine z_iload_n hC dX9_copy_76 rfl 2 rfl ?_
                  refine z_i2l hC dX9_copy_77 ?_
                  refine z_iload hC dX9_copy_78 5 rfl ?_
                  refine z_i2l hC dX9_copy_80 ?_
                  refine z_ladd hC dX9_copy_81 ?_
                  refine z_aload_n hC dX9_copy_82 rfl 0 rfl ?_
                  refine z_get hC iX9_copy_X9 rfl 0 8 rfl (by decide) mX9_copy_4 rfl rfl dX9_copy_83 ?_
                  refine z_iload_n hC dX9_copy_86 rfl 1 rfl ?_
                  refine z_iald hC 2 0 rfl rfl dX9_copy_87 hR (fun hR => ?_)
                  refine z_i2l hC dX9_copy_88 ?_
                  refine z_lcmp hC dX9_copy_89 ?_
                  refine z_if_gt hC 111 dX9_copy_90 (by decide) hR (fun hR => ?_) (fun hR => ?_)
                  · refine z_aload_n hC dX9_copy_111 rfl 0 rfl ?_
                    refine z_ic2 hC dX9_copy_112 ?_
                    refine z_callVi hC hN [.int 2] [0] (c_X9_found (l := zl E) (D := zD E) (cI := cI) (cB := cB) (cZ := cZ) (N := N) (a_t := a_t) (a_t_now := a_t_now) (a_t_kept := a_t_kept) (a_t_isKept := a_t_isKept) (a_t_acts := a_t_acts) (a_t_was := a_t_was) (a_t_lanes := a_t_lanes) (a_t_longs := a_t_longs) (a_t_isThere := a_t_isThere) (a_t_items := a_t_items) (a_t_copied := a_t_copied) (a_t_tape := a_t_tape) (a_t_readSorts := a_t_readSorts) (a_t_readHands := a_t_readHands) (a_t_inTurn := a_t_inTurn) (a_t_ends := a_t_ends) (a_t_bestHands := a_t_bestHands) (a_t_traces := a_t_traces) (l1 := 2) (t_manyActs := t_manyActs) (t_status := t_status) (t_tapeLong := t_tapeLong) (t_fault := t_fault) (t_tokenAt := t_tokenAt) (t_tokenLong := t_tokenLong) (t_token := t_token) (t_value := t_value) (t_winner := t_winner) (t_throwsOf := t_throwsOf) (t_handA := t_handA) (t_handB := t_handB) (t_fewestSo := t_fewestSo) (t_traced := t_traced)) rfl ⟨rfl, rfl⟩ gX9_copy_X9_found hvX9_found 0 9 rfl rfl rfl ⟨Nat.le_of_ble_eq_true rfl, Nat.le_of_ble_eq_true rfl⟩ ⟨Nat.zero_le _, Nat.zero_le _⟩ rfl (Nat.le_of_ble_eq_true rfl) rfl (by decide) (fun _ => rfl) dX9_copy_113 hR (fun r113 hR => ?_)
                    refine z_eq [(a_t, .inr (9, [.ref a_t_now, .ref a_t_kept, .ref a_t_isKept, .ref a_t_acts, .int t_manyActs, .ref a_t_was, .int r113.2, .ref a_t_lanes, .ref a_t_longs, .ref a_t_isThere, .ref a_t_items, .ref a_t_copied, .ref a_t_tape, .int t_tapeLong, .int t_fault, .int t_tokenAt, .int t_tokenLong, .int t_token, .int t_value, .ref a_t_readSorts, .ref a_t_readHands, .int t_winner, .int t_throwsOf, .int t_handA, .int t_handB, .ref a_t_inTurn, .ref a_t_ends, .ref a_t_bestHands, .int t_fewestSo, .ref a_t_traces, .int t_traced])), (a_t_lanes, .inl (cI, 8, .inl t_lanes)), (a_t_longs, .inl (cI, 8, .inl t_longs)), (a_t_isThere, .inl (cZ, 8, .inl t_isThere)), (a_t_items, .inl (cI, 320, .inl t_items)), (a_t_copied, .inl (cI, 40, .inl t_copied))] rfl ?_
                    obtain rfl := Option.some.inj hR
                    exact z_iret hC hQ rfl rfl rfl dX9_copy_116
                  · refine z_iload hC dX9_copy_93 4 rfl ?_
                    refine z_i2l hC dX9_copy_95 ?_
                    refine z_iload hC dX9_copy_96 5 rfl ?_
                    refine z_i2l hC dX9_copy_98 ?_
                    refine z_ladd hC dX9_copy_99 ?_
                    refine z_aload_n hC dX9_copy_100 rfl 0 rfl ?_
                    refine z_get hC iX9_copy_X9 rfl 0 8 rfl (by decide) mX9_copy_4 rfl rfl dX9_copy_101 ?_
                    refine z_iload_n hC dX9_copy_104 rfl 3 rfl ?_
                    refine z_iald hC 2 0 rfl rfl dX9_copy_105 hR (fun hR => ?_)
                    refine z_i2l hC dX9_copy_106 ?_
                    refine z_lcmp hC dX9_copy_107 ?_
                    refine z_if_le hC 117 dX9_copy_108 (by decide) hR (fun hR => ?_) (fun hR => ?_)
                    · refine z_ic0 hC dX9_copy_117 ?_
                      refine z_istore hC [(6, .int 0), (0, .ref a_t), (1, .int l1), (2, .int l2), (3, .int l3), (4, .int l4), (5, .int l5)] dX9_copy_118 (by decide) rfl ?_
                      refine z_sub (lv' := [(0, .ref a_t), (1, .int l1), (2, .int l2), (3, .int l3), (4, .int l4), (5, .int l5), (6, .int 0)]) [1, 2, 3, 4, 5, 6, 0] rfl ?_
                      exact z_X9_copy_120 hC hN (N := N) (a_t := a_t) (a_t_lanes := a_t_lanes) (a_t_longs := a_t_longs) (a_t_isThere := a_t_isThere) (a_t_items := a_t_items) (a_t_copied := a_t_copied) (a_t_now := a_t_now) (a_t_kept := a_t_kept) (a_t_isKept := a_t_isKept) (a_t_acts := a_t_acts) (a_t_was := a_t_was) (a_t_tape := a_t_tape) (a_t_readSorts := a_t_readSorts) (a_t_readHands := a_t_readHands) (a_t_inTurn := a_t_inTurn) (a_t_ends := a_t_ends) (a_t_bestHands := a_t_bestHands) (a_t_traces := a_t_traces) (t_manyActs := t_manyActs) (t_status := t_status) (t_tapeLong := t_tapeLong) (t_fault := t_fault) (t_tokenAt := t_tokenAt) (t_tokenLong := t_tokenLong) (t_token := t_token) (t_value := t_value) (t_winner := t_winner) (t_throwsOf := t_throwsOf) (t_handA := t_handA) (t_handB := t_handB) (t_fewestSo := t_fewestSo) (t_traced := t_traced) (t_lanes := t_lanes) (t_longs := t_longs) (t_isThere := t_isThere) (t_items := t_items) (l1 := l1) (l2 := l2) (l3 := l3) (l4 := l4) (l5 := l5) hQ  N t_copied 0 hR
                    · refine z_aload_n hC dX9_copy_111 rfl 0 rfl ?_
                      refine z_ic2 hC dX9_copy_112 ?_
                      refine z_callVi hC hN [.int 2] [0] (c_X9_found (l := zl E) (D := zD E) (cI := cI) (cB := cB) (cZ := cZ) (N := N) (a_t := a_t) (a_t_now := a_t_now) (a_t_kept := a_t_kept) (a_t_isKept := a_t_isKept) (a_t_acts := a_t_acts) (a_t_was := a_t_was) (a_t_lanes := a_t_lanes) (a_t_longs := a_t_longs) (a_t_isThere := a_t_isThere) (a_t_items := a_t_items) (a_t_copied := a_t_copied) (a_t_tape := a_t_tape) (a_t_readSorts := a_t_readSorts) (a_t_readHands := a_t_readHands) (a_t_inTurn := a_t_inTurn) (a_t_ends := a_t_ends) (a_t_bestHands := a_t_bestHands) (a_t_traces := a_t_traces) (l1 := 2) (t_manyActs := t_manyActs) (t_status := t_status) (t_tapeLong := t_tapeLong) (t_fault := t_fault) (t_tokenAt := t_tokenAt) (t_tokenLong := t_tokenLong) (t_token := t_token) (t_value := t_value) (t_winner := t_winner) (t_throwsOf := t_throwsOf) (t_handA := t_handA) (t_handB := t_handB) (t_fewestSo := t_fewestSo) (t_traced := t_traced)) rfl ⟨rfl, rfl⟩ gX9_copy_X9_found hvX9_found 0 9 rfl rfl rfl ⟨Nat.le_of_ble_eq_true rfl, Nat.le_of_ble_eq_true rfl⟩ ⟨Nat.zero_le _, Nat.zero_le _⟩ rfl (Nat.le_of_ble_eq_true rfl) rfl (by decide) (fun _ => rfl) dX9_copy_113 hR (fun r113 hR => ?_)
                      refine z_eq [(a_t, .inr (9, [.ref a_t_now, .ref a_t_kept, .ref a_t_isKept, .ref a_t_acts, .int t_manyActs, .ref a_t_was, .int r113.2, .ref a_t_lanes, .ref a_t_longs, .ref a_t_isThere, .ref a_t_items, .ref a_t_copied, .ref a_t_tape, .int t_tapeLong, .int t_fault, .int t_tokenAt, .int t_tokenLong, .int t_token, .int t_value, .ref a_t_readSorts, .ref a_t_readHands, .int t_winner, .int t_throwsOf, .int t_handA, .int t_handB, .ref a_t_inTurn, .ref a_t_ends, .ref a_t_bestHands, .int t_fewestSo, .ref a_t_traces, .int t_traced])), (a_t_lanes, .inl (cI, 8, .inl t_lanes)), (a_t_longs, .inl (cI, 8, .inl t_longs)), (a_t_isThere, .inl (cZ, 8, .inl t_isThere)), (a_t_items, .inl (cI, 320, .inl t_items)), (a_t_copied, .inl (cI, 40, .inl t_copied))] rfl ?_
                      obtain rfl := Option.some.inj hR
                      exact z_iret hC hQ rfl rfl rfl dX9_copy_116
          · refine z_aload_n hC dX9_copy_56 rfl 0 rfl ?_
            refine z_ic5 hC dX9_copy_57 ?_
            refine z_callVi hC hN [.int 5] [0] (c_X9_found (l := zl E) (D := zD E) (cI := cI) (cB := cB) (cZ := cZ) (N := N) (a_t := a_t) (a_t_now := a_t_now) (a_t_kept := a_t_kept) (a_t_isKept := a_t_isKept) (a_t_acts := a_t_acts) (a_t_was := a_t_was) (a_t_lanes := a_t_lanes) (a_t_longs := a_t_longs) (a_t_isThere := a_t_isThere) (a_t_items := a_t_items) (a_t_copied := a_t_copied) (a_t_tape := a_t_tape) (a_t_readSorts := a_t_readSorts) (a_t_readHands := a_t_readHands) (a_t_inTurn := a_t_inTurn) (a_t_ends := a_t_ends) (a_t_bestHands := a_t_bestHands) (a_t_traces := a_t_traces) (l1 := 5) (t_manyActs := t_manyActs) (t_status := t_status) (t_tapeLong := t_tapeLong) (t_fault := t_fault) (t_tokenAt := t_tokenAt) (t_tokenLong := t_tokenLong) (t_token := t_token) (t_value := t_value) (t_winner := t_winner) (t_throwsOf := t_throwsOf) (t_handA := t_handA) (t_handB := t_handB) (t_fewestSo := t_fewestSo) (t_traced := t_traced)) rfl ⟨rfl, rfl⟩ gX9_copy_X9_found hvX9_found 0 9 rfl rfl rfl ⟨Nat.le_of_ble_eq_true rfl, Nat.le_of_ble_eq_true rfl⟩ ⟨Nat.zero_le _, Nat.zero_le _⟩ rfl (Nat.le_of_ble_eq_true rfl) rfl (by decide) (fun _ => rfl) dX9_copy_58 hR (fun r58 hR => ?_)
            refine z_eq [(a_t, .inr (9, [.ref a_t_now, .ref a_t_kept, .ref a_t_isKept, .ref a_t_acts, .int t_manyActs, .ref a_t_was, .int r58.2, .ref a_t_lanes, .ref a_t_longs, .ref a_t_isThere, .ref a_t_items, .ref a_t_copied, .ref a_t_tape, .int t_tapeLong, .int t_fault, .int t_tokenAt, .int t_tokenLong, .int t_token, .int t_value, .ref a_t_readSorts, .ref a_t_readHands, .int t_winner, .int t_throwsOf, .int t_handA, .int t_handB, .ref a_t_inTurn, .ref a_t_ends, .ref a_t_bestHands, .int t_fewestSo, .ref a_t_traces, .int t_traced])), (a_t_lanes, .inl (cI, 8, .inl t_lanes)), (a_t_longs, .inl (cI, 8, .inl t_longs)), (a_t_isThere, .inl (cZ, 8, .inl t_isThere)), (a_t_items, .inl (cI, 320, .inl t_items)), (a_t_copied, .inl (cI, 40, .inl t_copied))] rfl ?_
            obtain rfl := Option.some.inj hR
            exact z_iret hC hQ rfl rfl rfl dX9_copy_61
        · refine z_aload_n hC dX9_copy_35 rfl 0 rfl ?_
          refine z_ic1 hC dX9_copy_36 ?_
          refine z_callVi hC hN [.int 1] [0] (c_X9_found (l := zl E) (D := zD E) (cI := cI) (cB := cB) (cZ := cZ) (N := N) (a_t := a_t) (a_t_now := a_t_now) (a_t_kept := a_t_kept) (a_t_isKept := a_t_isKept) (a_t_acts := a_t_acts) (a_t_was := a_t_was) (a_t_lanes := a_t_lanes) (a_t_longs := a_t_longs) (a_t_isThere := a_t_isThere) (a_t_items := a_t_items) (a_t_copied := a_t_copied) (a_t_tape := a_t_tape) (a_t_readSorts := a_t_readSorts) (a_t_readHands := a_t_readHands) (a_t_inTurn := a_t_inTurn) (a_t_ends := a_t_ends) (a_t_bestHands := a_t_bestHands) (a_t_traces := a_t_traces) (l1 := 1) (t_manyActs := t_manyActs) (t_status := t_status) (t_tapeLong := t_tapeLong) (t_fault := t_fault) (t_tokenAt := t_tokenAt) (t_tokenLong := t_tokenLong) (t_token := t_token) (t_value := t_value) (t_winner := t_winner) (t_throwsOf := t_throwsOf) (t_handA := t_handA) (t_handB := t_handB) (t_fewestSo := t_fewestSo) (t_traced := t_traced)) rfl ⟨rfl, rfl⟩ gX9_copy_X9_found hvX9_found 0 9 rfl rfl rfl ⟨Nat.le_of_ble_eq_true rfl, Nat.le_of_ble_eq_true rfl⟩ ⟨Nat.zero_le _, Nat.zero_le _⟩ rfl (Nat.le_of_ble_eq_true rfl) rfl (by decide) (fun _ => rfl) dX9_copy_37 hR (fun r37 hR => ?_)
          refine z_eq [(a_t, .inr (9, [.ref a_t_now, .ref a_t_kept, .ref a_t_isKept, .ref a_t_acts, .int t_manyActs, .ref a_t_was, .int r37.2, .ref a_t_lanes, .ref a_t_longs, .ref a_t_isThere, .ref a_t_items, .ref a_t_copied, .ref a_t_tape, .int t_tapeLong, .int t_fault, .int t_tokenAt, .int t_tokenLong, .int t_token, .int t_value, .ref a_t_readSorts, .ref a_t_readHands, .int t_winner, .int t_throwsOf, .int t_handA, .int t_handB, .ref a_t_inTurn, .ref a_t_ends, .ref a_t_bestHands, .int t_fewestSo, .ref a_t_traces, .int t_traced])), (a_t_lanes, .inl (cI, 8, .inl t_lanes)), (a_t_longs, .inl (cI, 8, .inl t_longs)), (a_t_isThere, .inl (cZ, 8, .inl t_isThere)), (a_t_items, .inl (cI, 320, .inl t_items)), (a_t_copied, .inl (cI, 40, .inl t_copied))] rfl ?_
          obtain rfl := Option.some.inj hR
          exact z_iret hC hQ rfl rfl rfl dX9_copy_40
    · refine z_ldc hC (-1000001) mX9_copy_1 dX9_copy_14 ?_
      obtain rfl := Option.some.inj hR
      exact z_iret hC hQ rfl rfl rfl dX9_copy_16
set_option maxHeartbeats 4000000 in
set_option maxRecDepth 100000 in
theorem c_X9_copy {sK sV : Nat → Nat} {l : Launch} {D : va_G} {cI cB cZ : ClassId} {N : Nat} {a_t : Nat} {a_t_lanes : Nat} {a_t_longs : Nat} {a_t_isThere : Nat} {a_t_items : Nat} {a_t_copied : Nat} {a_t_now : Nat} {a_t_kept : Nat} {a_t_isKept : Nat} {a_t_acts : Nat} {a_t_was : Nat} {a_t_tape : Nat} {a_t_readSorts : Nat} {a_t_readHands : Nat} {a_t_inTurn : Nat} {a_t_ends : Nat} {a_t_bestHands : Nat} {a_t_traces : Nat} {t_manyActs : Int32} {t_status : Int32} {t_tapeLong : Int32} {t_fault : Int32} {t_tokenAt : Int32} {t_tokenLong : Int32} {t_token : Int32} {t_value : Int32} {t_winner : Int32} {t_throwsOf : Int32} {t_handA : Int32} {t_handB : Int32} {t_fewestSo : Int32} {t_traced : Int32} {t_lanes : (Nat → Int32)} {t_longs : (Nat → Int32)} {t_isThere : (Nat → Int32)} {t_items : (Nat → Int32)} {t_copied : (Nat → Int32)} {l1 : Int32} {l2 : Int32} {l3 : Int32} {l4 : Int32} {l5 : Int32} : ∀ R : Int32 × Int32 × (Nat → Int32) × (Nat → Int32), o_X9_copy N t_status t_lanes t_longs t_isThere t_items t_copied l1 l2 l3 l4 l5 = some R → ZMi sK sV l yX9_copy wsX9_copy rmX9_copy D (zty cI cB cZ) [.ref a_t, .int l1, .int l2, .int l3, .int l4, .int l5] [(a_t, .inr (9, [.ref a_t_now, .ref a_t_kept, .ref a_t_isKept, .ref a_t_acts, .int t_manyActs, .ref a_t_was, .int t_status, .ref a_t_lanes, .ref a_t_longs, .ref a_t_isThere, .ref a_t_items, .ref a_t_copied, .ref a_t_tape, .int t_tapeLong, .int t_fault, .int t_tokenAt, .int t_tokenLong, .int t_token, .int t_value, .ref a_t_readSorts, .ref a_t_readHands, .int t_winner, .int t_throwsOf, .int t_handA, .int t_handB, .ref a_t_inTurn, .ref a_t_ends, .ref a_t_bestHands, .int t_fewestSo, .ref a_t_traces, .int t_traced])), (a_t_lanes, .inl (cI, 8, .inl t_lanes)), (a_t_longs, .inl (cI, 8, .inl t_longs)), (a_t_isThere, .inl (cZ, 8, .inl t_isThere)), (a_t_items, .inl (cI, 320, .inl t_items)), (a_t_copied, .inl (cI, 40, .inl t_copied))] R.1 [(a_t, .inr (9, [.ref a_t_now, .ref a_t_kept, .ref a_t_isKept, .ref a_t_acts, .int t_manyActs, .ref a_t_was, .int R.2.1, .ref a_t_lanes, .ref a_t_longs, .ref a_t_isThere, .ref a_t_items, .ref a_t_copied, .ref a_t_tape, .int t_tapeLong, .int t_fault, .int t_tokenAt, .int t_tokenLong, .int t_token, .int t_value, .ref a_t_readSorts, .ref a_t_readHands, .int t_winner, .int t_throwsOf, .int t_handA, .int t_handB, .ref a_t_inTurn, .ref a_t_ends, .ref a_t_bestHands, .int t_fewestSo, .ref a_t_traces, .int t_traced])), (a_t_lanes, .inl (cI, 8, .inl t_lanes)), (a_t_longs, .inl (cI, 8, .inl t_longs)), (a_t_isThere, .inl (cZ, 8, .inl t_isThere)), (a_t_items, .inl (cI, 320, .inl R.2.2.1)), (a_t_copied, .inl (cI, 40, .inl R.2.2.2))] := by
  intro R hR
  refine zi_of (cc := cX9_copy) (maxL := 7) (ret := (some .int)) (by decide) rfl (Nat.le_of_ble_eq_true rfl) (fun E hE1 hE2 hC hN hQ => ?_)
  subst hE1 hE2
  exact z_X9_copy_0 hC hN (N := N) (a_t := a_t) (a_t_lanes := a_t_lanes) (a_t_longs := a_t_longs) (a_t_isThere := a_t_isThere) (a_t_items := a_t_items) (a_t_copied := a_t_copied) (a_t_now := a_t_now) (a_t_kept := a_t_kept) (a_t_isKept := a_t_isKept) (a_t_acts := a_t_acts) (a_t_was := a_t_was) (a_t_tape := a_t_tape) (a_t_readSorts := a_t_readSorts) (a_t_readHands := a_t_readHands) (a_t_inTurn := a_t_inTurn) (a_t_ends := a_t_ends) (a_t_bestHands := a_t_bestHands) (a_t_traces := a_t_traces) (t_manyActs := t_manyActs) (t_status := t_status) (t_tapeLong := t_tapeLong) (t_fault := t_fault) (t_tokenAt := t_tokenAt) (t_tokenLong := t_tokenLong) (t_token := t_token) (t_value := t_value) (t_winner := t_winner) (t_throwsOf := t_throwsOf) (t_handA := t_handA) (t_handB := t_handB) (t_fewestSo := t_fewestSo) (t_traced := t_traced) (t_lanes := t_lanes) (t_longs := t_longs) (t_isThere := t_isThere) (t_items := t_items) (t_copied := t_copied) (l1 := l1) (l2 := l2) (l3 := l3) (l4 := l4) (l5 := l5) hQ hR

/-! FistTrainsModel.drop -/
abbrev rmX9_drop : Room := { frames := 2, cells := 0, slots := 0, locals := 45 }
set_option maxRecDepth 20000 in
theorem iX9_drop_X9 : ∀ w ∈ wsX90, w ∈ wsX9_drop := by decide +kernel
set_option maxRecDepth 20000 in
theorem mX9_drop_2 : Cond.fieldLink RX9 32 "FistTrainsModel" "isThere" "[Z" ∈ wsX9_drop := List.mem_of_getElem? (i := 2) rfl
set_option maxRecDepth 20000 in
theorem mX9_drop_3 : Cond.fieldLink RX9 29 "FistTrainsModel" "longs" "[I" ∈ wsX9_drop := List.mem_of_getElem? (i := 3) rfl
set_option maxRecDepth 20000 in
theorem mX9_drop_1 : Cond.constant RX9 79 (-1000001) ∈ wsX9_drop := List.mem_of_getElem? (i := 1) rfl
def o_X9_drop (N : Nat) (t_status : Int32) (t_longs : (Nat → Int32)) (t_isThere : (Nat → Int32)) (l1 : Int32) : Option (Int32 × Int32 × (Nat → Int32)) :=
  Option.bind (o_X9_isRow N l1) (fun r1 =>
  if r1 = 0 then
    some ((-1000001), t_status, t_isThere)
  else
    ogd (inb l1 8) (
    if (t_isThere (Int32.toNatClampNeg l1)) = 0 then
      Option.bind (o_X9_found N 1) (fun r21 =>
      some (r21.1, r21.2, t_isThere))
    else
      ogd (inb l1 8) (
      ogd (inb l1 8) (
      Option.bind (o_X9_well N (t_longs (Int32.toNatClampNeg l1))) (fun r39 =>
      some (r39.1, r39.2, (upd t_isThere (Int32.toNatClampNeg l1) (vp_nar .boolean 0))))))))
set_option maxHeartbeats 4000000 in
set_option maxRecDepth 100000 in
theorem z_X9_drop_0 {sK sV : Nat → Nat} {E : ZE} {cI cB cZ : ClassId} (hC : ZC E 2 cX9_drop wsX9_drop RX9 rmX9_drop (some .int) (zty cI cB cZ)) (hN : ZN sK sV (zA E) (zs E)) {N : Nat} {a_t : Nat} {a_t_longs : Nat} {a_t_isThere : Nat} {a_t_now : Nat} {a_t_kept : Nat} {a_t_isKept : Nat} {a_t_acts : Nat} {a_t_was : Nat} {a_t_lanes : Nat} {a_t_items : Nat} {a_t_copied : Nat} {a_t_tape : Nat} {a_t_readSorts : Nat} {a_t_readHands : Nat} {a_t_inTurn : Nat} {a_t_ends : Nat} {a_t_bestHands : Nat} {a_t_traces : Nat} {t_manyActs : Int32} {t_status : Int32} {t_tapeLong : Int32} {t_fault : Int32} {t_tokenAt : Int32} {t_tokenLong : Int32} {t_token : Int32} {t_value : Int32} {t_winner : Int32} {t_throwsOf : Int32} {t_handA : Int32} {t_handB : Int32} {t_fewestSo : Int32} {t_traced : Int32} {t_longs : (Nat → Int32)} {t_isThere : (Nat → Int32)} {l1 : Int32} {rf : Int32 × Int32 × (Nat → Int32)} (hQ : ZQi E (zty cI cB cZ) rf.1 [(a_t, .inr (9, [.ref a_t_now, .ref a_t_kept, .ref a_t_isKept, .ref a_t_acts, .int t_manyActs, .ref a_t_was, .int rf.2.1, .ref a_t_lanes, .ref a_t_longs, .ref a_t_isThere, .ref a_t_items, .ref a_t_copied, .ref a_t_tape, .int t_tapeLong, .int t_fault, .int t_tokenAt, .int t_tokenLong, .int t_token, .int t_value, .ref a_t_readSorts, .ref a_t_readHands, .int t_winner, .int t_throwsOf, .int t_handA, .int t_handB, .ref a_t_inTurn, .ref a_t_ends, .ref a_t_bestHands, .int t_fewestSo, .ref a_t_traces, .int t_traced])), (a_t_longs, .inl (cI, 8, .inl t_longs)), (a_t_isThere, .inl (cZ, 8, .inl rf.2.2))]) (hR : o_X9_drop N t_status t_longs t_isThere l1 = some rf) : Z E (0, 0) [(0, .ref a_t), (1, .int l1)] 0 [] [(a_t, .inr (9, [.ref a_t_now, .ref a_t_kept, .ref a_t_isKept, .ref a_t_acts, .int t_manyActs, .ref a_t_was, .int t_status, .ref a_t_lanes, .ref a_t_longs, .ref a_t_isThere, .ref a_t_items, .ref a_t_copied, .ref a_t_tape, .int t_tapeLong, .int t_fault, .int t_tokenAt, .int t_tokenLong, .int t_token, .int t_value, .ref a_t_readSorts, .ref a_t_readHands, .int t_winner, .int t_throwsOf, .int t_handA, .int t_handB, .ref a_t_inTurn, .ref a_t_ends, .ref a_t_bestHands, .int t_fewestSo, .ref a_t_traces, .int t_traced])), (a_t_longs, .inl (cI, 8, .inl t_longs)), (a_t_isThere, .inl (cZ, 8, .inl t_isThere))] := by
  rw [o_X9_drop] at hR
  refine z_iload_n hC dX9_drop_0 rfl 1 rfl ?_
  refine z_callSi_p hC hN [.int l1] [] (c_X9_isRow (l := zl E) (D := zD E) (cI := cI) (cB := cB) (cZ := cZ) (N := N) (l0 := l1)) rfl ⟨rfl, rfl⟩ gX9_drop_X9_isRow hsX9_isRow ⟨Nat.le_of_ble_eq_true rfl, Nat.le_of_ble_eq_true rfl⟩ ⟨Nat.zero_le _, Nat.zero_le _⟩ rfl (Nat.le_of_ble_eq_true rfl) rfl (by decide) dX9_drop_1 hR (fun r1 hR => ?_)
  refine z_if_ne hC 10 dX9_drop_4 (by decide) hR (fun hR => ?_) (fun hR => ?_)
  · refine z_aload_n hC dX9_drop_10 rfl 0 rfl ?_
    refine z_get hC iX9_drop_X9 rfl 0 9 rfl (by decide) mX9_drop_2 rfl rfl dX9_drop_11 ?_
    refine z_iload_n hC dX9_drop_14 rfl 1 rfl ?_
    refine z_zald hC 2 2 rfl rfl dX9_drop_15 hR (fun hR => ?_)
    refine z_if_ne hC 25 dX9_drop_16 (by decide) hR (fun hR => ?_) (fun hR => ?_)
    · refine z_aload_n hC dX9_drop_25 rfl 0 rfl ?_
      refine z_get hC iX9_drop_X9 rfl 0 9 rfl (by decide) mX9_drop_2 rfl rfl dX9_drop_26 ?_
      refine z_iload_n hC dX9_drop_29 rfl 1 rfl ?_
      refine z_ic0 hC dX9_drop_30 ?_
      refine z_zast hC 2 2 rfl rfl dX9_drop_31 hR (fun hR => ?_)
      refine z_aload_n hC dX9_drop_32 rfl 0 rfl ?_
      refine z_aload_n hC dX9_drop_33 rfl 0 rfl ?_
      refine z_get hC iX9_drop_X9 rfl 0 8 rfl (by decide) mX9_drop_3 rfl rfl dX9_drop_34 ?_
      refine z_iload_n hC dX9_drop_37 rfl 1 rfl ?_
      refine z_iald hC 1 0 rfl rfl dX9_drop_38 hR (fun hR => ?_)
      refine z_callVi hC hN [.int (t_longs (Int32.toNatClampNeg l1))] [0] (c_X9_well (l := zl E) (D := zD E) (cI := cI) (cB := cB) (cZ := cZ) (N := N) (a_t := a_t) (a_t_now := a_t_now) (a_t_kept := a_t_kept) (a_t_isKept := a_t_isKept) (a_t_acts := a_t_acts) (a_t_was := a_t_was) (a_t_lanes := a_t_lanes) (a_t_longs := a_t_longs) (a_t_isThere := a_t_isThere) (a_t_items := a_t_items) (a_t_copied := a_t_copied) (a_t_tape := a_t_tape) (a_t_readSorts := a_t_readSorts) (a_t_readHands := a_t_readHands) (a_t_inTurn := a_t_inTurn) (a_t_ends := a_t_ends) (a_t_bestHands := a_t_bestHands) (a_t_traces := a_t_traces) (l1 := (t_longs (Int32.toNatClampNeg l1))) (t_manyActs := t_manyActs) (t_status := t_status) (t_tapeLong := t_tapeLong) (t_fault := t_fault) (t_tokenAt := t_tokenAt) (t_tokenLong := t_tokenLong) (t_token := t_token) (t_value := t_value) (t_winner := t_winner) (t_throwsOf := t_throwsOf) (t_handA := t_handA) (t_handB := t_handB) (t_fewestSo := t_fewestSo) (t_traced := t_traced)) rfl ⟨rfl, rfl⟩ gX9_drop_X9_well hvX9_well 0 9 rfl rfl rfl ⟨Nat.le_of_ble_eq_true rfl, Nat.le_of_ble_eq_true rfl⟩ ⟨Nat.zero_le _, Nat.zero_le _⟩ rfl (Nat.le_of_ble_eq_true rfl) rfl (by decide) (fun _ => rfl) dX9_drop_39 hR (fun r39 hR => ?_)
      refine z_eq [(a_t, .inr (9, [.ref a_t_now, .ref a_t_kept, .ref a_t_isKept, .ref a_t_acts, .int t_manyActs, .ref a_t_was, .int r39.2, .ref a_t_lanes, .ref a_t_longs, .ref a_t_isThere, .ref a_t_items, .ref a_t_copied, .ref a_t_tape, .int t_tapeLong, .int t_fault, .int t_tokenAt, .int t_tokenLong, .int t_token, .int t_value, .ref a_t_readSorts, .ref a_t_readHands, .int t_winner, .int t_throwsOf, .int t_handA, .int t_handB, .ref a_t_inTurn, .ref a_t_ends, .ref a_t_bestHands, .int t_fewestSo, .ref a_t_traces, .int t_traced])), (a_t_longs, .inl (cI, 8, .inl t_longs)), (a_t_isThere, .inl (cZ, 8, .inl (upd t_isThere (Int32.toNatClampNeg l1) (vp_nar .boolean 0))))] rfl ?_
      obtain rfl := Option.some.inj hR
      exact z_iret hC hQ rfl rfl rfl dX9_drop_42
    · refine z_aload_n hC dX9_drop_19 rfl 0 rfl ?_
      refine z_ic1 hC dX9_drop_20 ?_
      refine z_callVi hC hN [.int 1] [0] (c_X9_found (l := zl E) (D := zD E) (cI := cI) (cB := cB) (cZ := cZ) (N := N) (a_t := a_t) (a_t_now := a_t_now) (a_t_kept := a_t_kept) (a_t_isKept := a_t_isKept) (a_t_acts := a_t_acts) (a_t_was := a_t_was) (a_t_lanes := a_t_lanes) (a_t_longs := a_t_longs) (a_t_isThere := a_t_isThere) (a_t_items := a_t_items) (a_t_copied := a_t_copied) (a_t_tape := a_t_tape) (a_t_readSorts := a_t_readSorts) (a_t_readHands := a_t_readHands) (a_t_inTurn := a_t_inTurn) (a_t_ends := a_t_ends) (a_t_bestHands := a_t_bestHands) (a_t_traces := a_t_traces) (l1 := 1) (t_manyActs := t_manyActs) (t_status := t_status) (t_tapeLong := t_tapeLong) (t_fault := t_fault) (t_tokenAt := t_tokenAt) (t_tokenLong := t_tokenLong) (t_token := t_token) (t_value := t_value) (t_winner := t_winner) (t_throwsOf := t_throwsOf) (t_handA := t_handA) (t_handB := t_handB) (t_fewestSo := t_fewestSo) (t_traced := t_traced)) rfl ⟨rfl, rfl⟩ gX9_drop_X9_found hvX9_found 0 9 rfl rfl rfl ⟨Nat.le_of_ble_eq_true rfl, Nat.le_of_ble_eq_true rfl⟩ ⟨Nat.zero_le _, Nat.zero_le _⟩ rfl (Nat.le_of_ble_eq_true rfl) rfl (by decide) (fun _ => rfl) dX9_drop_21 hR (fun r21 hR => ?_)
      refine z_eq [(a_t, .inr (9, [.ref a_t_now, .ref a_t_kept, .ref a_t_isKept, .ref a_t_acts, .int t_manyActs, .ref a_t_was, .int r21.2, .ref a_t_lanes, .ref a_t_longs, .ref a_t_isThere, .ref a_t_items, .ref a_t_copied, .ref a_t_tape, .int t_tapeLong, .int t_fault, .int t_tokenAt, .int t_tokenLong, .int t_token, .int t_value, .ref a_t_readSorts, .ref a_t_readHands, .int t_winner, .int t_throwsOf, .int t_handA, .int t_handB, .ref a_t_inTurn, .ref a_t_ends, .ref a_t_bestHands, .int t_fewestSo, .ref a_t_traces, .int t_traced])), (a_t_longs, .inl (cI, 8, .inl t_longs)), (a_t_isThere, .inl (cZ, 8, .inl t_isThere))] rfl ?_
      obtain rfl := Option.some.inj hR
      exact z_iret hC hQ rfl rfl rfl dX9_drop_24
  · refine z_ldc hC (-1000001) mX9_drop_1 dX9_drop_7 ?_
    obtain rfl := Option.some.inj hR
    exact z_iret hC hQ rfl rfl rfl dX9_drop_9
set_option maxHeartbeats 4000000 in
set_option maxRecDepth 100000 in
theorem c_X9_drop {sK sV : Nat → Nat} {l : Launch} {D : va_G} {cI cB cZ : ClassId} {N : Nat} {a_t : Nat} {a_t_longs : Nat} {a_t_isThere : Nat} {a_t_now : Nat} {a_t_kept : Nat} {a_t_isKept : Nat} {a_t_acts : Nat} {a_t_was : Nat} {a_t_lanes : Nat} {a_t_items : Nat} {a_t_copied : Nat} {a_t_tape : Nat} {a_t_readSorts : Nat} {a_t_readHands : Nat} {a_t_inTurn : Nat} {a_t_ends : Nat} {a_t_bestHands : Nat} {a_t_traces : Nat} {t_manyActs : Int32} {t_status : Int32} {t_tapeLong : Int32} {t_fault : Int32} {t_tokenAt : Int32} {t_tokenLong : Int32} {t_token : Int32} {t_value : Int32} {t_winner : Int32} {t_throwsOf : Int32} {t_handA : Int32} {t_handB : Int32} {t_fewestSo : Int32} {t_traced : Int32} {t_longs : (Nat → Int32)} {t_isThere : (Nat → Int32)} {l1 : Int32} : ∀ R : Int32 × Int32 × (Nat → Int32), o_X9_drop N t_status t_longs t_isThere l1 = some R → ZMi sK sV l yX9_drop wsX9_drop rmX9_drop D (zty cI cB cZ) [.ref a_t, .int l1] [(a_t, .inr (9, [.ref a_t_now, .ref a_t_kept, .ref a_t_isKept, .ref a_t_acts, .int t_manyActs, .ref a_t_was, .int t_status, .ref a_t_lanes, .ref a_t_longs, .ref a_t_isThere, .ref a_t_items, .ref a_t_copied, .ref a_t_tape, .int t_tapeLong, .int t_fault, .int t_tokenAt, .int t_tokenLong, .int t_token, .int t_value, .ref a_t_readSorts, .ref a_t_readHands, .int t_winner, .int t_throwsOf, .int t_handA, .int t_handB, .ref a_t_inTurn, .ref a_t_ends, .ref a_t_bestHands, .int t_fewestSo, .ref a_t_traces, .int t_traced])), (a_t_longs, .inl (cI, 8, .inl t_longs)), (a_t_isThere, .inl (cZ, 8, .inl t_isThere))] R.1 [(a_t, .inr (9, [.ref a_t_now, .ref a_t_kept, .ref a_t_isKept, .ref a_t_acts, .int t_manyActs, .ref a_t_was, .int R.2.1, .ref a_t_lanes, .ref a_t_longs, .ref a_t_isThere, .ref a_t_items, .ref a_t_copied, .ref a_t_tape, .int t_tapeLong, .int t_fault, .int t_tokenAt, .int t_tokenLong, .int t_token, .int t_value, .ref a_t_readSorts, .ref a_t_readHands, .int t_winner, .int t_throwsOf, .int t_handA, .int t_handB, .ref a_t_inTurn, .ref a_t_ends, .ref a_t_bestHands, .int t_fewestSo, .ref a_t_traces, .int t_traced])), (a_t_longs, .inl (cI, 8, .inl t_longs)), (a_t_isThere, .inl (cZ, 8, .inl R.2.2))] := by
  intro R hR
  refine zi_of (cc := cX9_drop) (maxL := 2) (ret := (some .int)) (by decide) rfl (Nat.le_of_ble_eq_true rfl) (fun E hE1 hE2 hC hN hQ => ?_)
  subst hE1 hE2
  exact z_X9_drop_0 hC hN (N := N) (a_t := a_t) (a_t_longs := a_t_longs) (a_t_isThere := a_t_isThere) (a_t_now := a_t_now) (a_t_kept := a_t_kept) (a_t_isKept := a_t_isKept) (a_t_acts := a_t_acts) (a_t_was := a_t_was) (a_t_lanes := a_t_lanes) (a_t_items := a_t_items) (a_t_copied := a_t_copied) (a_t_tape := a_t_tape) (a_t_readSorts := a_t_readSorts) (a_t_readHands := a_t_readHands) (a_t_inTurn := a_t_inTurn) (a_t_ends := a_t_ends) (a_t_bestHands := a_t_bestHands) (a_t_traces := a_t_traces) (t_manyActs := t_manyActs) (t_status := t_status) (t_tapeLong := t_tapeLong) (t_fault := t_fault) (t_tokenAt := t_tokenAt) (t_tokenLong := t_tokenLong) (t_token := t_token) (t_value := t_value) (t_winner := t_winner) (t_throwsOf := t_throwsOf) (t_handA := t_handA) (t_handB := t_handB) (t_fewestSo := t_fewestSo) (t_traced := t_traced) (t_longs := t_longs) (t_isThere := t_isThere) (l1 := l1) hQ hR

/-! FistTrainsModel.feed -/
abbrev rmX9_feed : Room := { frames := 1, cells := 0, slots := 0, locals := 25 }
set_option maxRecDepth 20000 in
theorem mX9_feed_1 : Cond.constantLong RX9 87 (8) ∈ wsX9_feed := List.mem_of_getElem? (i := 1) rfl
set_option maxRecDepth 20000 in
theorem iX9_feed_X9 : ∀ w ∈ wsX90, w ∈ wsX9_feed := by decide +kernel
set_option maxRecDepth 20000 in
theorem mX9_feed_3 : Cond.fieldLink RX9 89 "FistTrainsModel" "tapeLong" "I" ∈ wsX9_feed := List.mem_of_getElem? (i := 3) rfl
set_option maxRecDepth 20000 in
theorem mX9_feed_4 : Cond.constant RX9 92 (-1000003) ∈ wsX9_feed := List.mem_of_getElem? (i := 4) rfl
set_option maxRecDepth 20000 in
theorem mX9_feed_2 : Cond.constant RX9 79 (-1000001) ∈ wsX9_feed := List.mem_of_getElem? (i := 2) rfl
set_option maxRecDepth 20000 in
theorem mX9_feed_5 : Cond.fieldLink RX9 41 "FistTrainsModel" "tape" "[I" ∈ wsX9_feed := List.mem_of_getElem? (i := 5) rfl
set_option maxRecDepth 20000 in
theorem mX9_feed_6 : Cond.constantLong RX9 93 (255) ∈ wsX9_feed := List.mem_of_getElem? (i := 6) rfl
def o_X9_feed_35 (N : Nat) (L1 : Int64) : Nat → Int32 → (Nat → Int32) → Int32 → Option (Int32 × Int32 × (Nat → Int32))
  | 0 => fun _ _ _ => none
  | n + 1 => fun t_tapeLong t_tape l4 => 
    if l4 < 0 then
      some (t_tapeLong, t_tapeLong, t_tape)
    else
      ogd (inb t_tapeLong 200) (
      o_X9_feed_35 N L1 n (t_tapeLong + 1) (upd t_tape (Int32.toNatClampNeg t_tapeLong) (Int64.toInt32 (((Int64.toUInt64 L1 >>> ((Int32.toInt64 (8 * l4)).toUInt64 &&& Int64.toUInt64 63)).toInt64) &&& 255))) (l4 + (-1)))
def o_X9_feed (N : Nat) (t_tapeLong : Int32) (t_tape : (Nat → Int32)) (L1 : Int64) (l3 : Int32) : Option (Int32 × Int32 × (Nat → Int32)) :=
  Option.bind (o_X9_in N (Int32.toInt64 l3) 1 8) (fun r6 =>
  if r6 = 0 then
    some ((-1000001), t_tapeLong, t_tape)
  else
    if (t_tapeLong + l3) ≤ 200 then
      o_X9_feed_35 N L1 N t_tapeLong t_tape (l3 - 1)
    else
      some ((-1000003), t_tapeLong, t_tape))
set_option maxHeartbeats 4000000 in
set_option maxRecDepth 100000 in
theorem z_X9_feed_35 {sK sV : Nat → Nat} {E : ZE} {cI cB cZ : ClassId} (hC : ZC E 5 cX9_feed wsX9_feed RX9 rmX9_feed (some .int) (zty cI cB cZ)) (hN : ZN sK sV (zA E) (zs E)) {N : Nat} {a_t : Nat} {a_t_tape : Nat} {a_t_now : Nat} {a_t_kept : Nat} {a_t_isKept : Nat} {a_t_acts : Nat} {a_t_was : Nat} {a_t_lanes : Nat} {a_t_longs : Nat} {a_t_isThere : Nat} {a_t_items : Nat} {a_t_copied : Nat} {a_t_readSorts : Nat} {a_t_readHands : Nat} {a_t_inTurn : Nat} {a_t_ends : Nat} {a_t_bestHands : Nat} {a_t_traces : Nat} {t_manyActs : Int32} {t_status : Int32} {t_fault : Int32} {t_tokenAt : Int32} {t_tokenLong : Int32} {t_token : Int32} {t_value : Int32} {t_winner : Int32} {t_throwsOf : Int32} {t_handA : Int32} {t_handB : Int32} {t_fewestSo : Int32} {t_traced : Int32} {L1 : Int64} {rf : Int32 × Int32 × (Nat → Int32)} (hQ : ZQi E (zty cI cB cZ) rf.1 [(a_t, .inr (9, [.ref a_t_now, .ref a_t_kept, .ref a_t_isKept, .ref a_t_acts, .int t_manyActs, .ref a_t_was, .int t_status, .ref a_t_lanes, .ref a_t_longs, .ref a_t_isThere, .ref a_t_items, .ref a_t_copied, .ref a_t_tape, .int rf.2.1, .int t_fault, .int t_tokenAt, .int t_tokenLong, .int t_token, .int t_value, .ref a_t_readSorts, .ref a_t_readHands, .int t_winner, .int t_throwsOf, .int t_handA, .int t_handB, .ref a_t_inTurn, .ref a_t_ends, .ref a_t_bestHands, .int t_fewestSo, .ref a_t_traces, .int t_traced])), (a_t_tape, .inl (cI, 200, .inl rf.2.2))]) : ∀ (n : Nat) (t_tapeLong : Int32) (t_tape : (Nat → Int32)) (l4 : Int32), o_X9_feed_35 N L1 n t_tapeLong t_tape l4 = some rf → Z E (0, 0) [(0, .ref a_t), (1, .long L1), (4, .int l4)] 35 [] [(a_t, .inr (9, [.ref a_t_now, .ref a_t_kept, .ref a_t_isKept, .ref a_t_acts, .int t_manyActs, .ref a_t_was, .int t_status, .ref a_t_lanes, .ref a_t_longs, .ref a_t_isThere, .ref a_t_items, .ref a_t_copied, .ref a_t_tape, .int t_tapeLong, .int t_fault, .int t_tokenAt, .int t_tokenLong, .int t_token, .int t_value, .ref a_t_readSorts, .ref a_t_readHands, .int t_winner, .int t_throwsOf, .int t_handA, .int t_handB, .ref a_t_inTurn, .ref a_t_ends, .ref a_t_bestHands, .int t_fewestSo, .ref a_t_traces, .int t_traced])), (a_t_tape, .inl (cI, 200, .inl t_tape))] := by
  intro n
  induction n with
  | zero =>
    intro t_tapeLong t_tape l4 hR
    cases hR
  | succ n ih =>
    intro t_tapeLong t_tape l4 hR
    rw [o_X9_feed_35] at hR
    refine z_iload hC dX9_feed_35 2 rfl ?_
    refine z_if_lt hC 77 dX9_feed_37 (by decide) hR (fun hR => ?_) (fun hR => ?_)
    · refine z_aload_n hC dX9_feed_77 rfl 0 rfl ?_
      refine z_get hC iX9_feed_X9 rfl 0 13 rfl (by decide) mX9_feed_3 rfl rfl dX9_feed_78 ?_
      obtain rfl := Option.some.inj hR
      exact z_iret hC hQ rfl rfl rfl dX9_feed_81
    · refine z_aload_n hC dX9_feed_40 rfl 0 rfl ?_
      refine z_get hC iX9_feed_X9 rfl 0 12 rfl (by decide) mX9_feed_5 rfl rfl dX9_feed_41 ?_
      refine z_aload_n hC dX9_feed_44 rfl 0 rfl ?_
      refine z_get hC iX9_feed_X9 rfl 0 13 rfl (by decide) mX9_feed_3 rfl rfl dX9_feed_45 ?_
      refine z_lload_n hC dX9_feed_48 rfl 1 rfl ?_
      refine z_bipush (v := 8) hC dX9_feed_49 (by decide) ?_
      refine z_iload hC dX9_feed_51 2 rfl ?_
      refine z_imul hC dX9_feed_53 ?_
      refine z_lushr hC dX9_feed_54 ?_
      refine z_ldc2 hC 255 mX9_feed_6 dX9_feed_55 ?_
      refine z_land hC dX9_feed_58 ?_
      refine z_l2i hC dX9_feed_59 ?_
      refine z_iast hC 1 0 rfl rfl dX9_feed_60 hR (fun hR => ?_)
      refine z_aload_n hC dX9_feed_61 rfl 0 rfl ?_
      refine z_dup hC dX9_feed_62 rfl ?_
      refine z_get hC iX9_feed_X9 rfl 0 13 rfl (by decide) mX9_feed_3 rfl rfl dX9_feed_63 ?_
      refine z_ic1 hC dX9_feed_66 ?_
      refine z_iadd hC dX9_feed_67 ?_
      refine z_put hC iX9_feed_X9 tyX9_ok nmX9 rfl 0 13 rfl (by decide) mX9_feed_3 rfl rfl rfl rfl (Nat.le_of_ble_eq_true rfl) dX9_feed_68 ?_
      refine z_iincm1 hC [(4, .int (l4 + (-1))), (0, .ref a_t), (1, .long L1)] dX9_feed_71 2 rfl (by decide) rfl ?_
      refine z_goto hC 35 dX9_feed_74 (by decide) ?_
      refine z_sub (lv' := [(0, .ref a_t), (1, .long L1), (4, .int (l4 + (-1)))]) [1, 2, 0] rfl ?_
      exact ih (t_tapeLong + 1) (upd t_tape (Int32.toNatClampNeg t_tapeLong) (Int64.toInt32 (((Int64.toUInt64 L1 >>> ((Int32.toInt64 (8 * l4)).toUInt64 &&& Int64.toUInt64 63)).toInt64) &&& 255))) (l4 + (-1)) hR
set_option maxHeartbeats 4000000 in
set_option maxRecDepth 100000 in
theorem z_X9_feed_0 {sK sV : Nat → Nat} {E : ZE} {cI cB cZ : ClassId} (hC : ZC E 5 cX9_feed wsX9_feed RX9 rmX9_feed (some .int) (zty cI cB cZ)) (hN : ZN sK sV (zA E) (zs E)) {N : Nat} {a_t : Nat} {a_t_tape : Nat} {a_t_now : Nat} {a_t_kept : Nat} {a_t_isKept : Nat} {a_t_acts : Nat} {a_t_was : Nat} {a_t_lanes : Nat} {a_t_longs : Nat} {a_t_isThere : Nat} {a_t_items : Nat} {a_t_copied : Nat} {a_t_readSorts : Nat} {a_t_readHands : Nat} {a_t_inTurn : Nat} {a_t_ends : Nat} {a_t_bestHands : Nat} {a_t_traces : Nat} {t_manyActs : Int32} {t_status : Int32} {t_tapeLong : Int32} {t_fault : Int32} {t_tokenAt : Int32} {t_tokenLong : Int32} {t_token : Int32} {t_value : Int32} {t_winner : Int32} {t_throwsOf : Int32} {t_handA : Int32} {t_handB : Int32} {t_fewestSo : Int32} {t_traced : Int32} {t_tape : (Nat → Int32)} {L1 : Int64} {l3 : Int32} {rf : Int32 × Int32 × (Nat → Int32)} (hQ : ZQi E (zty cI cB cZ) rf.1 [(a_t, .inr (9, [.ref a_t_now, .ref a_t_kept, .ref a_t_isKept, .ref a_t_acts, .int t_manyActs, .ref a_t_was, .int t_status, .ref a_t_lanes, .ref a_t_longs, .ref a_t_isThere, .ref a_t_items, .ref a_t_copied, .ref a_t_tape, .int rf.2.1, .int t_fault, .int t_tokenAt, .int t_tokenLong, .int t_token, .int t_value, .ref a_t_readSorts, .ref a_t_readHands, .int t_winner, .int t_throwsOf, .int t_handA, .int t_handB, .ref a_t_inTurn, .ref a_t_ends, .ref a_t_bestHands, .int t_fewestSo, .ref a_t_traces, .int t_traced])), (a_t_tape, .inl (cI, 200, .inl rf.2.2))]) (hR : o_X9_feed N t_tapeLong t_tape L1 l3 = some rf) : Z E (0, 0) [(0, .ref a_t), (1, .long L1), (3, .int l3)] 0 [] [(a_t, .inr (9, [.ref a_t_now, .ref a_t_kept, .ref a_t_isKept, .ref a_t_acts, .int t_manyActs, .ref a_t_was, .int t_status, .ref a_t_lanes, .ref a_t_longs, .ref a_t_isThere, .ref a_t_items, .ref a_t_copied, .ref a_t_tape, .int t_tapeLong, .int t_fault, .int t_tokenAt, .int t_tokenLong, .int t_token, .int t_value, .ref a_t_readSorts, .ref a_t_readHands, .int t_winner, .int t_throwsOf, .int t_handA, .int t_handB, .ref a_t_inTurn, .ref a_t_ends, .ref a_t_bestHands, .int t_fewestSo, .ref a_t_traces, .int t_traced])), (a_t_tape, .inl (cI, 200, .inl t_tape))] := by
  rw [o_X9_feed] at hR
  refine z_iload_n hC dX9_feed_0 rfl 2 rfl ?_
  refine z_i2l hC dX9_feed_1 ?_
  refine z_lconst (v := 1) hC dX9_feed_2 rfl ?_
  refine z_ldc2 hC 8 mX9_feed_1 dX9_feed_3 ?_
  refine z_callSi_p hC hN [.long (Int32.toInt64 l3), .long 1, .long 8] [] (c_X9_in (l := zl E) (D := zD E) (cI := cI) (cB := cB) (cZ := cZ) (N := N) (L0 := (Int32.toInt64 l3)) (L2 := 1) (L4 := 8)) rfl ⟨rfl, rfl⟩ gX9_feed_X9_in hsX9_in ⟨Nat.le_of_ble_eq_true rfl, Nat.le_of_ble_eq_true rfl⟩ ⟨Nat.zero_le _, Nat.zero_le _⟩ rfl (Nat.le_of_ble_eq_true rfl) rfl (by decide) dX9_feed_6 hR (fun r6 hR => ?_)
  refine z_if_ne hC 15 dX9_feed_9 (by decide) hR (fun hR => ?_) (fun hR => ?_)
  · refine z_aload_n hC dX9_feed_15 rfl 0 rfl ?_
    refine z_get hC iX9_feed_X9 rfl 0 13 rfl (by decide) mX9_feed_3 rfl rfl dX9_feed_16 ?_
    refine z_iload_n hC dX9_feed_19 rfl 2 rfl ?_
    refine z_iadd hC dX9_feed_20 ?_
    refine z_sipush (v := 200) hC dX9_feed_21 (by decide) ?_
    refine z_icmp_le hC 30 dX9_feed_24 (by decide) hR (fun hR => ?_) (fun hR => ?_)
    · refine z_iload_n hC dX9_feed_30 rfl 2 rfl ?_
      refine z_ic1 hC dX9_feed_31 ?_
      refine z_isub hC dX9_feed_32 ?_
      refine z_istore hC [(4, .int (l3 - 1)), (0, .ref a_t), (1, .long L1), (3, .int l3)] dX9_feed_33 (by decide) rfl ?_
      refine z_sub (lv' := [(0, .ref a_t), (1, .long L1), (4, .int (l3 - 1))]) [1, 2, 0] rfl ?_
      exact z_X9_feed_35 hC hN (N := N) (a_t := a_t) (a_t_tape := a_t_tape) (a_t_now := a_t_now) (a_t_kept := a_t_kept) (a_t_isKept := a_t_isKept) (a_t_acts := a_t_acts) (a_t_was := a_t_was) (a_t_lanes := a_t_lanes) (a_t_longs := a_t_longs) (a_t_isThere := a_t_isThere) (a_t_items := a_t_items) (a_t_copied := a_t_copied) (a_t_readSorts := a_t_readSorts) (a_t_readHands := a_t_readHands) (a_t_inTurn := a_t_inTurn) (a_t_ends := a_t_ends) (a_t_bestHands := a_t_bestHands) (a_t_traces := a_t_traces) (t_manyActs := t_manyActs) (t_status := t_status) (t_fault := t_fault) (t_tokenAt := t_tokenAt) (t_tokenLong := t_tokenLong) (t_token := t_token) (t_value := t_value) (t_winner := t_winner) (t_throwsOf := t_throwsOf) (t_handA := t_handA) (t_handB := t_handB) (t_fewestSo := t_fewestSo) (t_traced := t_traced) (L1 := L1) hQ  N t_tapeLong t_tape (l3 - 1) hR
    · refine z_ldc hC (-1000003) mX9_feed_4 dX9_feed_27 ?_
      obtain rfl := Option.some.inj hR
      exact z_iret hC hQ rfl rfl rfl dX9_feed_29
  · refine z_ldc hC (-1000001) mX9_feed_2 dX9_feed_12 ?_
    obtain rfl := Option.some.inj hR
    exact z_iret hC hQ rfl rfl rfl dX9_feed_14
set_option maxHeartbeats 4000000 in
set_option maxRecDepth 100000 in
theorem c_X9_feed {sK sV : Nat → Nat} {l : Launch} {D : va_G} {cI cB cZ : ClassId} {N : Nat} {a_t : Nat} {a_t_tape : Nat} {a_t_now : Nat} {a_t_kept : Nat} {a_t_isKept : Nat} {a_t_acts : Nat} {a_t_was : Nat} {a_t_lanes : Nat} {a_t_longs : Nat} {a_t_isThere : Nat} {a_t_items : Nat} {a_t_copied : Nat} {a_t_readSorts : Nat} {a_t_readHands : Nat} {a_t_inTurn : Nat} {a_t_ends : Nat} {a_t_bestHands : Nat} {a_t_traces : Nat} {t_manyActs : Int32} {t_status : Int32} {t_tapeLong : Int32} {t_fault : Int32} {t_tokenAt : Int32} {t_tokenLong : Int32} {t_token : Int32} {t_value : Int32} {t_winner : Int32} {t_throwsOf : Int32} {t_handA : Int32} {t_handB : Int32} {t_fewestSo : Int32} {t_traced : Int32} {t_tape : (Nat → Int32)} {L1 : Int64} {l3 : Int32} : ∀ R : Int32 × Int32 × (Nat → Int32), o_X9_feed N t_tapeLong t_tape L1 l3 = some R → ZMi sK sV l yX9_feed wsX9_feed rmX9_feed D (zty cI cB cZ) [.ref a_t, .long L1, .int l3] [(a_t, .inr (9, [.ref a_t_now, .ref a_t_kept, .ref a_t_isKept, .ref a_t_acts, .int t_manyActs, .ref a_t_was, .int t_status, .ref a_t_lanes, .ref a_t_longs, .ref a_t_isThere, .ref a_t_items, .ref a_t_copied, .ref a_t_tape, .int t_tapeLong, .int t_fault, .int t_tokenAt, .int t_tokenLong, .int t_token, .int t_value, .ref a_t_readSorts, .ref a_t_readHands, .int t_winner, .int t_throwsOf, .int t_handA, .int t_handB, .ref a_t_inTurn, .ref a_t_ends, .ref a_t_bestHands, .int t_fewestSo, .ref a_t_traces, .int t_traced])), (a_t_tape, .inl (cI, 200, .inl t_tape))] R.1 [(a_t, .inr (9, [.ref a_t_now, .ref a_t_kept, .ref a_t_isKept, .ref a_t_acts, .int t_manyActs, .ref a_t_was, .int t_status, .ref a_t_lanes, .ref a_t_longs, .ref a_t_isThere, .ref a_t_items, .ref a_t_copied, .ref a_t_tape, .int R.2.1, .int t_fault, .int t_tokenAt, .int t_tokenLong, .int t_token, .int t_value, .ref a_t_readSorts, .ref a_t_readHands, .int t_winner, .int t_throwsOf, .int t_handA, .int t_handB, .ref a_t_inTurn, .ref a_t_ends, .ref a_t_bestHands, .int t_fewestSo, .ref a_t_traces, .int t_traced])), (a_t_tape, .inl (cI, 200, .inl R.2.2))] := by
  intro R hR
  refine zi_of (cc := cX9_feed) (maxL := 5) (ret := (some .int)) (by decide) rfl (Nat.le_of_ble_eq_true rfl) (fun E hE1 hE2 hC hN hQ => ?_)
  subst hE1 hE2
  exact z_X9_feed_0 hC hN (N := N) (a_t := a_t) (a_t_tape := a_t_tape) (a_t_now := a_t_now) (a_t_kept := a_t_kept) (a_t_isKept := a_t_isKept) (a_t_acts := a_t_acts) (a_t_was := a_t_was) (a_t_lanes := a_t_lanes) (a_t_longs := a_t_longs) (a_t_isThere := a_t_isThere) (a_t_items := a_t_items) (a_t_copied := a_t_copied) (a_t_readSorts := a_t_readSorts) (a_t_readHands := a_t_readHands) (a_t_inTurn := a_t_inTurn) (a_t_ends := a_t_ends) (a_t_bestHands := a_t_bestHands) (a_t_traces := a_t_traces) (t_manyActs := t_manyActs) (t_status := t_status) (t_tapeLong := t_tapeLong) (t_fault := t_fault) (t_tokenAt := t_tokenAt) (t_tokenLong := t_tokenLong) (t_token := t_token) (t_value := t_value) (t_winner := t_winner) (t_throwsOf := t_throwsOf) (t_handA := t_handA) (t_handB := t_handB) (t_fewestSo := t_fewestSo) (t_traced := t_traced) (t_tape := t_tape) (L1 := L1) (l3 := l3) hQ hR

/-! FistTrainsModel.isSmall -/
abbrev rmX9_isSmall : Room := { frames := 1, cells := 0, slots := 0, locals := 25 }
set_option maxRecDepth 20000 in
theorem mX9_isSmall_1 : Cond.constantLong RX9 95 (97) ∈ wsX9_isSmall := List.mem_of_getElem? (i := 1) rfl
set_option maxRecDepth 20000 in
theorem mX9_isSmall_2 : Cond.constantLong RX9 97 (122) ∈ wsX9_isSmall := List.mem_of_getElem? (i := 2) rfl
def o_X9_isSmall (N : Nat) (l0 : Int32) : Option (Int32) :=
  Option.bind (o_X9_in N (Int32.toInt64 l0) 97 122) (fun r8 =>
  ogd (isb r8) (
  some (r8)))
set_option maxHeartbeats 4000000 in
set_option maxRecDepth 100000 in
theorem z_X9_isSmall_0 {sK sV : Nat → Nat} {E : ZE} {cI cB cZ : ClassId} (hC : ZC E 1 cX9_isSmall wsX9_isSmall RX9 rmX9_isSmall (some .boolean) (zty cI cB cZ)) (hN : ZN sK sV (zA E) (zs E)) {N : Nat} {l0 : Int32} {rf : Int32} (hQ : ZQi E (zty cI cB cZ) rf []) (hR : o_X9_isSmall N l0 = some rf) : Z E (0, 0) [(0, .int l0)] 0 [] [] := by
  rw [o_X9_isSmall] at hR
  refine z_iload_n hC dX9_isSmall_0 rfl 0 rfl ?_
  refine z_i2l hC dX9_isSmall_1 ?_
  refine z_ldc2 hC 97 mX9_isSmall_1 dX9_isSmall_2 ?_
  refine z_ldc2 hC 122 mX9_isSmall_2 dX9_isSmall_5 ?_
  refine z_callSi_p hC hN [.long (Int32.toInt64 l0), .long 97, .long 122] [] (c_X9_in (l := zl E) (D := zD E) (cI := cI) (cB := cB) (cZ := cZ) (N := N) (L0 := (Int32.toInt64 l0)) (L2 := 97) (L4 := 122)) rfl ⟨rfl, rfl⟩ gX9_isSmall_X9_in hsX9_in ⟨Nat.le_of_ble_eq_true rfl, Nat.le_of_ble_eq_true rfl⟩ ⟨Nat.zero_le _, Nat.zero_le _⟩ rfl (Nat.le_of_ble_eq_true rfl) rfl (by decide) dX9_isSmall_8 hR (fun r8 hR => ?_)
  obtain ⟨hb9, hR⟩ := ogd_s hR
  obtain rfl := Option.some.inj hR
  exact z_iret hC hQ (isb_s hb9) rfl rfl dX9_isSmall_11
set_option maxHeartbeats 4000000 in
set_option maxRecDepth 100000 in
theorem c_X9_isSmall {sK sV : Nat → Nat} {l : Launch} {D : va_G} {cI cB cZ : ClassId} {N : Nat} {l0 : Int32} : ∀ R : Int32, o_X9_isSmall N l0 = some R → ZMi sK sV l yX9_isSmall wsX9_isSmall rmX9_isSmall D (zty cI cB cZ) [.int l0] [] R [] := by
  intro R hR
  refine zi_of (cc := cX9_isSmall) (maxL := 1) (ret := (some .boolean)) (by decide) rfl (Nat.le_of_ble_eq_true rfl) (fun E hE1 hE2 hC hN hQ => ?_)
  subst hE1 hE2
  exact z_X9_isSmall_0 hC hN (N := N) (l0 := l0) hQ hR

/-! FistTrainsModel.isFigure -/
abbrev rmX9_isFigure : Room := { frames := 1, cells := 0, slots := 0, locals := 25 }
set_option maxRecDepth 20000 in
theorem mX9_isFigure_1 : Cond.constantLong RX9 99 (48) ∈ wsX9_isFigure := List.mem_of_getElem? (i := 1) rfl
set_option maxRecDepth 20000 in
theorem mX9_isFigure_2 : Cond.constantLong RX9 101 (57) ∈ wsX9_isFigure := List.mem_of_getElem? (i := 2) rfl
def o_X9_isFigure (N : Nat) (l0 : Int32) : Option (Int32) :=
  Option.bind (o_X9_in N (Int32.toInt64 l0) 48 57) (fun r8 =>
  ogd (isb r8) (
  some (r8)))
set_option maxHeartbeats 4000000 in
set_option maxRecDepth 100000 in
theorem z_X9_isFigure_0 {sK sV : Nat → Nat} {E : ZE} {cI cB cZ : ClassId} (hC : ZC E 1 cX9_isFigure wsX9_isFigure RX9 rmX9_isFigure (some .boolean) (zty cI cB cZ)) (hN : ZN sK sV (zA E) (zs E)) {N : Nat} {l0 : Int32} {rf : Int32} (hQ : ZQi E (zty cI cB cZ) rf []) (hR : o_X9_isFigure N l0 = some rf) : Z E (0, 0) [(0, .int l0)] 0 [] [] := by
  rw [o_X9_isFigure] at hR
  refine z_iload_n hC dX9_isFigure_0 rfl 0 rfl ?_
  refine z_i2l hC dX9_isFigure_1 ?_
  refine z_ldc2 hC 48 mX9_isFigure_1 dX9_isFigure_2 ?_
  refine z_ldc2 hC 57 mX9_isFigure_2 dX9_isFigure_5 ?_
  refine z_callSi_p hC hN [.long (Int32.toInt64 l0), .long 48, .long 57] [] (c_X9_in (l := zl E) (D := zD E) (cI := cI) (cB := cB) (cZ := cZ) (N := N) (L0 := (Int32.toInt64 l0)) (L2 := 48) (L4 := 57)) rfl ⟨rfl, rfl⟩ gX9_isFigure_X9_in hsX9_in ⟨Nat.le_of_ble_eq_true rfl, Nat.le_of_ble_eq_true rfl⟩ ⟨Nat.zero_le _, Nat.zero_le _⟩ rfl (Nat.le_of_ble_eq_true rfl) rfl (by decide) dX9_isFigure_8 hR (fun r8 hR => ?_)
  obtain ⟨hb9, hR⟩ := ogd_s hR
  obtain rfl := Option.some.inj hR
  exact z_iret hC hQ (isb_s hb9) rfl rfl dX9_isFigure_11
set_option maxHeartbeats 4000000 in
set_option maxRecDepth 100000 in
theorem c_X9_isFigure {sK sV : Nat → Nat} {l : Launch} {D : va_G} {cI cB cZ : ClassId} {N : Nat} {l0 : Int32} : ∀ R : Int32, o_X9_isFigure N l0 = some R → ZMi sK sV l yX9_isFigure wsX9_isFigure rmX9_isFigure D (zty cI cB cZ) [.int l0] [] R [] := by
  intro R hR
  refine zi_of (cc := cX9_isFigure) (maxL := 1) (ret := (some .boolean)) (by decide) rfl (Nat.le_of_ble_eq_true rfl) (fun E hE1 hE2 hC hN hQ => ?_)
  subst hE1 hE2
  exact z_X9_isFigure_0 hC hN (N := N) (l0 := l0) hQ hR

/-! FistTrainsModel.look -/
abbrev rmX9_look : Room := { frames := 2, cells := 0, slots := 0, locals := 45 }
set_option maxRecDepth 20000 in
theorem iX9_look_X9 : ∀ w ∈ wsX90, w ∈ wsX9_look := by decide +kernel
set_option maxRecDepth 20000 in
theorem mX9_look_1 : Cond.fieldLink RX9 103 "FistTrainsModel" "tokenAt" "I" ∈ wsX9_look := List.mem_of_getElem? (i := 1) rfl
set_option maxRecDepth 20000 in
theorem mX9_look_5 : Cond.fieldLink RX9 109 "FistTrainsModel" "token" "I" ∈ wsX9_look := List.mem_of_getElem? (i := 5) rfl
set_option maxRecDepth 20000 in
theorem mX9_look_4 : Cond.fieldLink RX9 106 "FistTrainsModel" "tokenLong" "I" ∈ wsX9_look := List.mem_of_getElem? (i := 4) rfl
set_option maxRecDepth 20000 in
theorem mX9_look_2 : Cond.fieldLink RX9 89 "FistTrainsModel" "tapeLong" "I" ∈ wsX9_look := List.mem_of_getElem? (i := 2) rfl
set_option maxRecDepth 20000 in
theorem mX9_look_3 : Cond.fieldLink RX9 41 "FistTrainsModel" "tape" "[I" ∈ wsX9_look := List.mem_of_getElem? (i := 3) rfl
set_option maxRecDepth 20000 in
theorem mX9_look_6 : Cond.fieldLink RX9 112 "FistTrainsModel" "value" "I" ∈ wsX9_look := List.mem_of_getElem? (i := 6) rfl
def o_X9_look_44 (N : Nat) (K5 : Int32 → Option (Int32 × Int32 × Int32 × Int32)) (t_tapeLong : Int32) (t_tokenAt : Int32) (t_tape : (Nat → Int32)) : Option (Int32 × Int32 × Int32 × Int32) :=
  K5 (t_tokenAt + 1)
def o_X9_look_207 (N : Nat) (K150 : Int32 → Int32 → Option (Int32 × Int32 × Int32 × Int32)) (t_tapeLong : Int32) (t_tokenAt : Int32) (t_tokenLong : Int32) (t_token : Int32) (t_value : Int32) (t_tape : (Nat → Int32)) (s0 : Int32) : Option (Int32 × Int32 × Int32 × Int32) :=
  if s0 = 0 then
    K150 (t_tokenLong + 0) s0
  else
    K150 (t_tokenLong + 1) s0
def o_X9_look_288 (N : Nat) (t_tokenAt : Int32) (t_tokenLong : Int32) (t_token : Int32) (t_value : Int32) : Option (Int32 × Int32 × Int32 × Int32) :=
  if t_token = 2 then
    if t_tokenLong ≤ 3 then
      some (t_tokenAt, t_tokenLong, t_token, t_value)
    else
      some (t_tokenAt, t_tokenLong, 4, t_value)
  else
    some (t_tokenAt, t_tokenLong, t_token, t_value)
def o_X9_look_232 (N : Nat) (t_tokenAt : Int32) (t_tokenLong : Int32) (t_token : Int32) (t_tape : (Nat → Int32)) : Nat → Int32 → Int32 → Option (Int32 × Int32 × Int32 × Int32)
  | 0 => fun _ _ => none
  | n + 1 => fun t_value l4 => 
    if t_tokenLong ≤ l4 then
      o_X9_look_288 N t_tokenAt t_tokenLong t_token t_value
    else
      if 3 ≤ l4 then
        o_X9_look_288 N t_tokenAt t_tokenLong t_token t_value
      else
        if t_token = 2 then
          ogd (inb (t_tokenAt + l4) 200) (
          o_X9_look_232 N t_tokenAt t_tokenLong t_token t_tape n (((10 * t_value) + (t_tape (Int32.toNatClampNeg (t_tokenAt + l4)))) - 48) (l4 + 1))
        else
          o_X9_look_288 N t_tokenAt t_tokenLong t_token t_value
def o_X9_look_150 (N : Nat) (t_tapeLong : Int32) (t_tokenAt : Int32) (t_token : Int32) (t_value : Int32) (t_tape : (Nat → Int32)) : Nat → Int32 → Int32 → Option (Int32 × Int32 × Int32 × Int32)
  | 0 => fun _ _ => none
  | n + 1 => fun t_tokenLong l3 => 
    if l3 = 0 then
      o_X9_look_232 N t_tokenAt t_tokenLong t_token t_tape N t_value 0
    else
      if t_tapeLong ≤ (t_tokenAt + t_tokenLong) then
        o_X9_look_232 N t_tokenAt t_tokenLong t_token t_tape N t_value 0
      else
        ogd (inb (t_tokenAt + t_tokenLong) 200) (
        if t_token = 1 then
          Option.bind (o_X9_isSmall N (t_tape (Int32.toNatClampNeg (t_tokenAt + t_tokenLong)))) (fun r196 =>
          o_X9_look_207 N (o_X9_look_150 N t_tapeLong t_tokenAt t_token t_value t_tape n) t_tapeLong t_tokenAt t_tokenLong t_token t_value t_tape r196)
        else
          Option.bind (o_X9_isFigure N (t_tape (Int32.toNatClampNeg (t_tokenAt + t_tokenLong)))) (fun r204 =>
          o_X9_look_207 N (o_X9_look_150 N t_tapeLong t_tokenAt t_token t_value t_tape n) t_tapeLong t_tokenAt t_tokenLong t_token t_value t_tape r204))
def o_X9_look_128 (N : Nat) (t_tapeLong : Int32) (t_tokenAt : Int32) (t_value : Int32) (t_tape : (Nat → Int32)) (s1 : Int32) : Option (Int32 × Int32 × Int32 × Int32) :=
  if 3 ≤ s1 then
    o_X9_look_150 N t_tapeLong t_tokenAt s1 t_value t_tape N 1 0
  else
    o_X9_look_150 N t_tapeLong t_tokenAt s1 t_value t_tape N 1 1
def o_X9_look_57 (N : Nat) (t_tapeLong : Int32) (t_tokenAt : Int32) (t_tape : (Nat → Int32)) : Option (Int32 × Int32 × Int32 × Int32) :=
  if t_tokenAt = t_tapeLong then
    some (t_tokenAt, 0, 0, 0)
  else
    ogd (inb t_tokenAt 200) (
    Option.bind (o_X9_isSmall N (t_tape (Int32.toNatClampNeg t_tokenAt))) (fun r96 =>
    if r96 = 0 then
      Option.bind (o_X9_isFigure N (t_tape (Int32.toNatClampNeg t_tokenAt))) (fun r107 =>
      if r107 = 0 then
        if (t_tape (Int32.toNatClampNeg t_tokenAt)) = 59 then
          o_X9_look_128 N t_tapeLong t_tokenAt 0 t_tape 3
        else
          o_X9_look_128 N t_tapeLong t_tokenAt 0 t_tape 4
      else
        o_X9_look_128 N t_tapeLong t_tokenAt 0 t_tape 2)
    else
      o_X9_look_128 N t_tapeLong t_tokenAt 0 t_tape 1))
def o_X9_look_5 (N : Nat) (t_tapeLong : Int32) (t_tape : (Nat → Int32)) : Nat → Int32 → Option (Int32 × Int32 × Int32 × Int32)
  | 0 => fun _ => none
  | n + 1 => fun t_tokenAt => 
    if t_tapeLong ≤ t_tokenAt then
      o_X9_look_57 N t_tapeLong t_tokenAt t_tape
    else
      ogd (inb t_tokenAt 200) (
      if (t_tape (Int32.toNatClampNeg t_tokenAt)) = 32 then
        o_X9_look_44 N (o_X9_look_5 N t_tapeLong t_tape n) t_tapeLong t_tokenAt t_tape
      else
        ogd (inb t_tokenAt 200) (
        if (t_tape (Int32.toNatClampNeg t_tokenAt)) = 10 then
          o_X9_look_44 N (o_X9_look_5 N t_tapeLong t_tape n) t_tapeLong t_tokenAt t_tape
        else
          o_X9_look_57 N t_tapeLong t_tokenAt t_tape))
def o_X9_look (N : Nat) (t_tapeLong : Int32) (t_tape : (Nat → Int32)) (l1 : Int32) : Option (Int32 × Int32 × Int32 × Int32) :=
  o_X9_look_5 N t_tapeLong t_tape N l1
set_option maxHeartbeats 4000000 in
set_option maxRecDepth 100000 in
theorem z_X9_look_44 {sK sV : Nat → Nat} {E : ZE} {cI cB cZ : ClassId} (hC : ZC E 5 cX9_look wsX9_look RX9 rmX9_look none (zty cI cB cZ)) (hN : ZN sK sV (zA E) (zs E)) {N : Nat} {a_t : Nat} {a_t_tape : Nat} {a_t_now : Nat} {a_t_kept : Nat} {a_t_isKept : Nat} {a_t_acts : Nat} {a_t_was : Nat} {a_t_lanes : Nat} {a_t_longs : Nat} {a_t_isThere : Nat} {a_t_items : Nat} {a_t_copied : Nat} {a_t_readSorts : Nat} {a_t_readHands : Nat} {a_t_inTurn : Nat} {a_t_ends : Nat} {a_t_bestHands : Nat} {a_t_traces : Nat} {t_manyActs : Int32} {t_status : Int32} {t_tapeLong : Int32} {t_fault : Int32} {t_tokenAt : Int32} {t_tokenLong : Int32} {t_token : Int32} {t_value : Int32} {t_winner : Int32} {t_throwsOf : Int32} {t_handA : Int32} {t_handB : Int32} {t_fewestSo : Int32} {t_traced : Int32} {t_tape : (Nat → Int32)} {K5 : Int32 → Option (Int32 × Int32 × Int32 × Int32)} {rf : Int32 × Int32 × Int32 × Int32} (hQ : ZQv E (zty cI cB cZ) [(a_t, .inr (9, [.ref a_t_now, .ref a_t_kept, .ref a_t_isKept, .ref a_t_acts, .int t_manyActs, .ref a_t_was, .int t_status, .ref a_t_lanes, .ref a_t_longs, .ref a_t_isThere, .ref a_t_items, .ref a_t_copied, .ref a_t_tape, .int t_tapeLong, .int t_fault, .int rf.1, .int rf.2.1, .int rf.2.2.1, .int rf.2.2.2, .ref a_t_readSorts, .ref a_t_readHands, .int t_winner, .int t_throwsOf, .int t_handA, .int t_handB, .ref a_t_inTurn, .ref a_t_ends, .ref a_t_bestHands, .int t_fewestSo, .ref a_t_traces, .int t_traced])), (a_t_tape, .inl (cI, 200, .inl t_tape))]) (hK5 : ∀ (t_tokenAt : Int32), K5 t_tokenAt = some rf → Z E (0, 0) [(0, .ref a_t)] 5 [] [(a_t, .inr (9, [.ref a_t_now, .ref a_t_kept, .ref a_t_isKept, .ref a_t_acts, .int t_manyActs, .ref a_t_was, .int t_status, .ref a_t_lanes, .ref a_t_longs, .ref a_t_isThere, .ref a_t_items, .ref a_t_copied, .ref a_t_tape, .int t_tapeLong, .int t_fault, .int t_tokenAt, .int t_tokenLong, .int t_token, .int t_value, .ref a_t_readSorts, .ref a_t_readHands, .int t_winner, .int t_throwsOf, .int t_handA, .int t_handB, .ref a_t_inTurn, .ref a_t_ends, .ref a_t_bestHands, .int t_fewestSo, .ref a_t_traces, .int t_traced])), (a_t_tape, .inl (cI, 200, .inl t_tape))]) (hR : o_X9_look_44 N K5 t_tapeLong t_tokenAt t_tape = some rf) : Z E (0, 0) [(0, .ref a_t)] 44 [] [(a_t, .inr (9, [.ref a_t_now, .ref a_t_kept, .ref a_t_isKept, .ref a_t_acts, .int t_manyActs, .ref a_t_was, .int t_status, .ref a_t_lanes, .ref a_t_longs, .ref a_t_isThere, .ref a_t_items, .ref a_t_copied, .ref a_t_tape, .int t_tapeLong, .int t_fault, .int t_tokenAt, .int t_tokenLong, .int t_token, .int t_value, .ref a_t_readSorts, .ref a_t_readHands, .int t_winner, .int t_throwsOf, .int t_handA, .int t_handB, .ref a_t_inTurn, .ref a_t_ends, .ref a_t_bestHands, .int t_fewestSo, .ref a_t_traces, .int t_traced])), (a_t_tape, .inl (cI, 200, .inl t_tape))] := by
  rw [o_X9_look_44] at hR
  refine z_aload_n hC dX9_look_44 rfl 0 rfl ?_
  refine z_dup hC dX9_look_45 rfl ?_
  refine z_get hC iX9_look_X9 rfl 0 15 rfl (by decide) mX9_look_1 rfl rfl dX9_look_46 ?_
  refine z_ic1 hC dX9_look_49 ?_
  refine z_iadd hC dX9_look_50 ?_
  refine z_put hC iX9_look_X9 tyX9_ok nmX9 rfl 0 15 rfl (by decide) mX9_look_1 rfl rfl rfl rfl (Nat.le_of_ble_eq_true rfl) dX9_look_51 ?_
  refine z_goto hC 5 dX9_look_54 (by decide) ?_
  exact hK5 (t_tokenAt + 1) hR
set_option maxHeartbeats 4000000 in
set_option maxRecDepth 100000 in
theorem z_X9_look_207 {sK sV : Nat → Nat} {E : ZE} {cI cB cZ : ClassId} (hC : ZC E 5 cX9_look wsX9_look RX9 rmX9_look none (zty cI cB cZ)) (hN : ZN sK sV (zA E) (zs E)) {N : Nat} {a_t : Nat} {a_t_tape : Nat} {a_t_now : Nat} {a_t_kept : Nat} {a_t_isKept : Nat} {a_t_acts : Nat} {a_t_was : Nat} {a_t_lanes : Nat} {a_t_longs : Nat} {a_t_isThere : Nat} {a_t_items : Nat} {a_t_copied : Nat} {a_t_readSorts : Nat} {a_t_readHands : Nat} {a_t_inTurn : Nat} {a_t_ends : Nat} {a_t_bestHands : Nat} {a_t_traces : Nat} {t_manyActs : Int32} {t_status : Int32} {t_tapeLong : Int32} {t_fault : Int32} {t_tokenAt : Int32} {t_tokenLong : Int32} {t_token : Int32} {t_value : Int32} {t_winner : Int32} {t_throwsOf : Int32} {t_handA : Int32} {t_handB : Int32} {t_fewestSo : Int32} {t_traced : Int32} {t_tape : (Nat → Int32)} {s0 : Int32} {K150 : Int32 → Int32 → Option (Int32 × Int32 × Int32 × Int32)} {rf : Int32 × Int32 × Int32 × Int32} (hQ : ZQv E (zty cI cB cZ) [(a_t, .inr (9, [.ref a_t_now, .ref a_t_kept, .ref a_t_isKept, .ref a_t_acts, .int t_manyActs, .ref a_t_was, .int t_status, .ref a_t_lanes, .ref a_t_longs, .ref a_t_isThere, .ref a_t_items, .ref a_t_copied, .ref a_t_tape, .int t_tapeLong, .int t_fault, .int rf.1, .int rf.2.1, .int rf.2.2.1, .int rf.2.2.2, .ref a_t_readSorts, .ref a_t_readHands, .int t_winner, .int t_throwsOf, .int t_handA, .int t_handB, .ref a_t_inTurn, .ref a_t_ends, .ref a_t_bestHands, .int t_fewestSo, .ref a_t_traces, .int t_traced])), (a_t_tape, .inl (cI, 200, .inl t_tape))]) (hK150 : ∀ (t_tokenLong : Int32) (l3 : Int32), K150 t_tokenLong l3 = some rf → Z E (0, 0) [(0, .ref a_t), (3, .int l3)] 150 [] [(a_t, .inr (9, [.ref a_t_now, .ref a_t_kept, .ref a_t_isKept, .ref a_t_acts, .int t_manyActs, .ref a_t_was, .int t_status, .ref a_t_lanes, .ref a_t_longs, .ref a_t_isThere, .ref a_t_items, .ref a_t_copied, .ref a_t_tape, .int t_tapeLong, .int t_fault, .int t_tokenAt, .int t_tokenLong, .int t_token, .int t_value, .ref a_t_readSorts, .ref a_t_readHands, .int t_winner, .int t_throwsOf, .int t_handA, .int t_handB, .ref a_t_inTurn, .ref a_t_ends, .ref a_t_bestHands, .int t_fewestSo, .ref a_t_traces, .int t_traced])), (a_t_tape, .inl (cI, 200, .inl t_tape))]) (hR : o_X9_look_207 N K150 t_tapeLong t_tokenAt t_tokenLong t_token t_value t_tape s0 = some rf) : Z E (0, 0) [(0, .ref a_t)] 207 [.int s0] [(a_t, .inr (9, [.ref a_t_now, .ref a_t_kept, .ref a_t_isKept, .ref a_t_acts, .int t_manyActs, .ref a_t_was, .int t_status, .ref a_t_lanes, .ref a_t_longs, .ref a_t_isThere, .ref a_t_items, .ref a_t_copied, .ref a_t_tape, .int t_tapeLong, .int t_fault, .int t_tokenAt, .int t_tokenLong, .int t_token, .int t_value, .ref a_t_readSorts, .ref a_t_readHands, .int t_winner, .int t_throwsOf, .int t_handA, .int t_handB, .ref a_t_inTurn, .ref a_t_ends, .ref a_t_bestHands, .int t_fewestSo, .ref a_t_traces, .int t_traced])), (a_t_tape, .inl (cI, 200, .inl t_tape))] := by
  rw [o_X9_look_207] at hR
  refine z_istore_n hC [(3, .int s0), (0, .ref a_t)] dX9_look_207 rfl (by decide) rfl ?_
  refine z_aload_n hC dX9_look_208 rfl 1 rfl ?_
  refine z_dup hC dX9_look_209 rfl ?_
  refine z_get hC iX9_look_X9 rfl 0 16 rfl (by decide) mX9_look_4 rfl rfl dX9_look_210 ?_
  refine z_iload_n hC dX9_look_213 rfl 0 rfl ?_
  refine z_if_eq hC 221 dX9_look_214 (by decide) hR (fun hR => ?_) (fun hR => ?_)
  · refine z_ic0 hC dX9_look_221 ?_
    refine z_iadd hC dX9_look_222 ?_
    refine z_put hC iX9_look_X9 tyX9_ok nmX9 rfl 0 16 rfl (by decide) mX9_look_4 rfl rfl rfl rfl (Nat.le_of_ble_eq_true rfl) dX9_look_223 ?_
    refine z_goto hC 150 dX9_look_226 (by decide) ?_
    refine z_sub (lv' := [(0, .ref a_t), (3, .int s0)]) [1, 0] rfl ?_
    exact hK150 (t_tokenLong + 0) s0 hR
  · refine z_ic1 hC dX9_look_217 ?_
    refine z_goto hC 222 dX9_look_218 (by decide) ?_
    refine z_iadd hC dX9_look_222 ?_
    refine z_put hC iX9_look_X9 tyX9_ok nmX9 rfl 0 16 rfl (by decide) mX9_look_4 rfl rfl rfl rfl (Nat.le_of_ble_eq_true rfl) dX9_look_223 ?_
    refine z_goto hC 150 dX9_look_226 (by decide) ?_
    refine z_sub (lv' := [(0, .ref a_t), (3, .int s0)]) [1, 0] rfl ?_
    exact hK150 (t_tokenLong + 1) s0 hR
set_option maxHeartbeats 4000000 in
set_option maxRecDepth 100000 in
theorem z_X9_look_288 {sK sV : Nat → Nat} {E : ZE} {cI cB cZ : ClassId} (hC : ZC E 5 cX9_look wsX9_look RX9 rmX9_look none (zty cI cB cZ)) (hN : ZN sK sV (zA E) (zs E)) {N : Nat} {a_t : Nat} {a_t_tape : Nat} {a_t_now : Nat} {a_t_kept : Nat} {a_t_isKept : Nat} {a_t_acts : Nat} {a_t_was : Nat} {a_t_lanes : Nat} {a_t_longs : Nat} {a_t_isThere : Nat} {a_t_items : Nat} {a_t_copied : Nat} {a_t_readSorts : Nat} {a_t_readHands : Nat} {a_t_inTurn : Nat} {a_t_ends : Nat} {a_t_bestHands : Nat} {a_t_traces : Nat} {t_manyActs : Int32} {t_status : Int32} {t_tapeLong : Int32} {t_fault : Int32} {t_tokenAt : Int32} {t_tokenLong : Int32} {t_token : Int32} {t_value : Int32} {t_winner : Int32} {t_throwsOf : Int32} {t_handA : Int32} {t_handB : Int32} {t_fewestSo : Int32} {t_traced : Int32} {t_tape : (Nat → Int32)} {rf : Int32 × Int32 × Int32 × Int32} (hQ : ZQv E (zty cI cB cZ) [(a_t, .inr (9, [.ref a_t_now, .ref a_t_kept, .ref a_t_isKept, .ref a_t_acts, .int t_manyActs, .ref a_t_was, .int t_status, .ref a_t_lanes, .ref a_t_longs, .ref a_t_isThere, .ref a_t_items, .ref a_t_copied, .ref a_t_tape, .int t_tapeLong, .int t_fault, .int rf.1, .int rf.2.1, .int rf.2.2.1, .int rf.2.2.2, .ref a_t_readSorts, .ref a_t_readHands, .int t_winner, .int t_throwsOf, .int t_handA, .int t_handB, .ref a_t_inTurn, .ref a_t_ends, .ref a_t_bestHands, .int t_fewestSo, .ref a_t_traces, .int t_traced])), (a_t_tape, .inl (cI, 200, .inl t_tape))]) (hR : o_X9_look_288 N t_tokenAt t_tokenLong t_token t_value = some rf) : Z E (0, 0) [(0, .ref a_t)] 288 [] [(a_t, .inr (9, [.ref a_t_now, .ref a_t_kept, .ref a_t_isKept, .ref a_t_acts, .int t_manyActs, .ref a_t_was, .int t_status, .ref a_t_lanes, .ref a_t_longs, .ref a_t_isThere, .ref a_t_items, .ref a_t_copied, .ref a_t_tape, .int t_tapeLong, .int t_fault, .int t_tokenAt, .int t_tokenLong, .int t_token, .int t_value, .ref a_t_readSorts, .ref a_t_readHands, .int t_winner, .int t_throwsOf, .int t_handA, .int t_handB, .ref a_t_inTurn, .ref a_t_ends, .ref a_t_bestHands, .int t_fewestSo, .ref a_t_traces, .int t_traced])), (a_t_tape, .inl (cI, 200, .inl t_tape))] := by
  rw [o_X9_look_288] at hR
  refine z_aload_n hC dX9_look_288 rfl 0 rfl ?_
  refine z_aload_n hC dX9_look_289 rfl 0 rfl ?_
  refine z_get hC iX9_look_X9 rfl 0 17 rfl (by decide) mX9_look_5 rfl rfl dX9_look_290 ?_
  refine z_ic2 hC dX9_look_293 ?_
  refine z_icmp_ne hC 309 dX9_look_294 (by decide) hR (fun hR => ?_) (fun hR => ?_)
  · refine z_aload_n hC dX9_look_309 rfl 0 rfl ?_
    refine z_get hC iX9_look_X9 rfl 0 17 rfl (by decide) mX9_look_5 rfl rfl dX9_look_310 ?_
    refine z_put hC iX9_look_X9 tyX9_ok nmX9 rfl 0 17 rfl (by decide) mX9_look_5 rfl rfl rfl rfl (Nat.le_of_ble_eq_true rfl) dX9_look_313 ?_
    obtain rfl := Option.some.inj hR
    exact z_vret hC hQ rfl dX9_look_316
  · refine z_aload_n hC dX9_look_297 rfl 0 rfl ?_
    refine z_get hC iX9_look_X9 rfl 0 16 rfl (by decide) mX9_look_4 rfl rfl dX9_look_298 ?_
    refine z_ic3 hC dX9_look_301 ?_
    refine z_icmp_le hC 309 dX9_look_302 (by decide) hR (fun hR => ?_) (fun hR => ?_)
    · refine z_aload_n hC dX9_look_309 rfl 0 rfl ?_
      refine z_get hC iX9_look_X9 rfl 0 17 rfl (by decide) mX9_look_5 rfl rfl dX9_look_310 ?_
      refine z_put hC iX9_look_X9 tyX9_ok nmX9 rfl 0 17 rfl (by decide) mX9_look_5 rfl rfl rfl rfl (Nat.le_of_ble_eq_true rfl) dX9_look_313 ?_
      obtain rfl := Option.some.inj hR
      exact z_vret hC hQ rfl dX9_look_316
    · refine z_ic4 hC dX9_look_305 ?_
      refine z_goto hC 313 dX9_look_306 (by decide) ?_
      refine z_put hC iX9_look_X9 tyX9_ok nmX9 rfl 0 17 rfl (by decide) mX9_look_5 rfl rfl rfl rfl (Nat.le_of_ble_eq_true rfl) dX9_look_313 ?_
      obtain rfl := Option.some.inj hR
      exact z_vret hC hQ rfl dX9_look_316
set_option maxHeartbeats 4000000 in
set_option maxRecDepth 100000 in
theorem z_X9_look_232 {sK sV : Nat → Nat} {E : ZE} {cI cB cZ : ClassId} (hC : ZC E 5 cX9_look wsX9_look RX9 rmX9_look none (zty cI cB cZ)) (hN : ZN sK sV (zA E) (zs E)) {N : Nat} {a_t : Nat} {a_t_tape : Nat} {a_t_now : Nat} {a_t_kept : Nat} {a_t_isKept : Nat} {a_t_acts : Nat} {a_t_was : Nat} {a_t_lanes : Nat} {a_t_longs : Nat} {a_t_isThere : Nat} {a_t_items : Nat} {a_t_copied : Nat} {a_t_readSorts : Nat} {a_t_readHands : Nat} {a_t_inTurn : Nat} {a_t_ends : Nat} {a_t_bestHands : Nat} {a_t_traces : Nat} {t_manyActs : Int32} {t_status : Int32} {t_tapeLong : Int32} {t_fault : Int32} {t_tokenAt : Int32} {t_tokenLong : Int32} {t_token : Int32} {t_winner : Int32} {t_throwsOf : Int32} {t_handA : Int32} {t_handB : Int32} {t_fewestSo : Int32} {t_traced : Int32} {t_tape : (Nat → Int32)} {rf : Int32 × Int32 × Int32 × Int32} (hQ : ZQv E (zty cI cB cZ) [(a_t, .inr (9, [.ref a_t_now, .ref a_t_kept, .ref a_t_isKept, .ref a_t_acts, .int t_manyActs, .ref a_t_was, .int t_status, .ref a_t_lanes, .ref a_t_longs, .ref a_t_isThere, .ref a_t_items, .ref a_t_copied, .ref a_t_tape, .int t_tapeLong, .int t_fault, .int rf.1, .int rf.2.1, .int rf.2.2.1, .int rf.2.2.2, .ref a_t_readSorts, .ref a_t_readHands, .int t_winner, .int t_throwsOf, .int t_handA, .int t_handB, .ref a_t_inTurn, .ref a_t_ends, .ref a_t_bestHands, .int t_fewestSo, .ref a_t_traces, .int t_traced])), (a_t_tape, .inl (cI, 200, .inl t_tape))]) : ∀ (n : Nat) (t_value : Int32) (l4 : Int32), o_X9_look_232 N t_tokenAt t_tokenLong t_token t_tape n t_value l4 = some rf → Z E (0, 0) [(0, .ref a_t), (4, .int l4)] 232 [] [(a_t, .inr (9, [.ref a_t_now, .ref a_t_kept, .ref a_t_isKept, .ref a_t_acts, .int t_manyActs, .ref a_t_was, .int t_status, .ref a_t_lanes, .ref a_t_longs, .ref a_t_isThere, .ref a_t_items, .ref a_t_copied, .ref a_t_tape, .int t_tapeLong, .int t_fault, .int t_tokenAt, .int t_tokenLong, .int t_token, .int t_value, .ref a_t_readSorts, .ref a_t_readHands, .int t_winner, .int t_throwsOf, .int t_handA, .int t_handB, .ref a_t_inTurn, .ref a_t_ends, .ref a_t_bestHands, .int t_fewestSo, .ref a_t_traces, .int t_traced])), (a_t_tape, .inl (cI, 200, .inl t_tape))] := by
  intro n
  induction n with
  | zero =>
    intro t_value l4 hR
    cases hR
  | succ n ih =>
    intro t_value l4 hR
    rw [o_X9_look_232] at hR
    refine z_iload hC dX9_look_232 1 rfl ?_
    refine z_aload_n hC dX9_look_234 rfl 0 rfl ?_
    refine z_get hC iX9_look_X9 rfl 0 16 rfl (by decide) mX9_look_4 rfl rfl dX9_look_235 ?_
    refine z_icmp_ge hC 288 dX9_look_238 (by decide) hR (fun hR => ?_) (fun hR => ?_)
    · refine z_sub (lv' := [(0, .ref a_t)]) [0] rfl ?_
      exact z_X9_look_288 hC hN (N := N) (a_t := a_t) (a_t_tape := a_t_tape) (a_t_now := a_t_now) (a_t_kept := a_t_kept) (a_t_isKept := a_t_isKept) (a_t_acts := a_t_acts) (a_t_was := a_t_was) (a_t_lanes := a_t_lanes) (a_t_longs := a_t_longs) (a_t_isThere := a_t_isThere) (a_t_items := a_t_items) (a_t_copied := a_t_copied) (a_t_readSorts := a_t_readSorts) (a_t_readHands := a_t_readHands) (a_t_inTurn := a_t_inTurn) (a_t_ends := a_t_ends) (a_t_bestHands := a_t_bestHands) (a_t_traces := a_t_traces) (t_manyActs := t_manyActs) (t_status := t_status) (t_tapeLong := t_tapeLong) (t_fault := t_fault) (t_tokenAt := t_tokenAt) (t_tokenLong := t_tokenLong) (t_token := t_token) (t_value := t_value) (t_winner := t_winner) (t_throwsOf := t_throwsOf) (t_handA := t_handA) (t_handB := t_handB) (t_fewestSo := t_fewestSo) (t_traced := t_traced) (t_tape := t_tape) hQ  hR
    · refine z_iload hC dX9_look_241 1 rfl ?_
      refine z_ic3 hC dX9_look_243 ?_
      refine z_icmp_ge hC 288 dX9_look_244 (by decide) hR (fun hR => ?_) (fun hR => ?_)
      · refine z_sub (lv' := [(0, .ref a_t)]) [0] rfl ?_
        exact z_X9_look_288 hC hN (N := N) (a_t := a_t) (a_t_tape := a_t_tape) (a_t_now := a_t_now) (a_t_kept := a_t_kept) (a_t_isKept := a_t_isKept) (a_t_acts := a_t_acts) (a_t_was := a_t_was) (a_t_lanes := a_t_lanes) (a_t_longs := a_t_longs) (a_t_isThere := a_t_isThere) (a_t_items := a_t_items) (a_t_copied := a_t_copied) (a_t_readSorts := a_t_readSorts) (a_t_readHands := a_t_readHands) (a_t_inTurn := a_t_inTurn) (a_t_ends := a_t_ends) (a_t_bestHands := a_t_bestHands) (a_t_traces := a_t_traces) (t_manyActs := t_manyActs) (t_status := t_status) (t_tapeLong := t_tapeLong) (t_fault := t_fault) (t_tokenAt := t_tokenAt) (t_tokenLong := t_tokenLong) (t_token := t_token) (t_value := t_value) (t_winner := t_winner) (t_throwsOf := t_throwsOf) (t_handA := t_handA) (t_handB := t_handB) (t_fewestSo := t_fewestSo) (t_traced := t_traced) (t_tape := t_tape) hQ  hR
      · refine z_aload_n hC dX9_look_247 rfl 0 rfl ?_
        refine z_get hC iX9_look_X9 rfl 0 17 rfl (by decide) mX9_look_5 rfl rfl dX9_look_248 ?_
        refine z_ic2 hC dX9_look_251 ?_
        refine z_icmp_ne hC 288 dX9_look_252 (by decide) hR (fun hR => ?_) (fun hR => ?_)
        · refine z_sub (lv' := [(0, .ref a_t)]) [0] rfl ?_
          exact z_X9_look_288 hC hN (N := N) (a_t := a_t) (a_t_tape := a_t_tape) (a_t_now := a_t_now) (a_t_kept := a_t_kept) (a_t_isKept := a_t_isKept) (a_t_acts := a_t_acts) (a_t_was := a_t_was) (a_t_lanes := a_t_lanes) (a_t_longs := a_t_longs) (a_t_isThere := a_t_isThere) (a_t_items := a_t_items) (a_t_copied := a_t_copied) (a_t_readSorts := a_t_readSorts) (a_t_readHands := a_t_readHands) (a_t_inTurn := a_t_inTurn) (a_t_ends := a_t_ends) (a_t_bestHands := a_t_bestHands) (a_t_traces := a_t_traces) (t_manyActs := t_manyActs) (t_status := t_status) (t_tapeLong := t_tapeLong) (t_fault := t_fault) (t_tokenAt := t_tokenAt) (t_tokenLong := t_tokenLong) (t_token := t_token) (t_value := t_value) (t_winner := t_winner) (t_throwsOf := t_throwsOf) (t_handA := t_handA) (t_handB := t_handB) (t_fewestSo := t_fewestSo) (t_traced := t_traced) (t_tape := t_tape) hQ  hR
        · refine z_aload_n hC dX9_look_255 rfl 0 rfl ?_
          refine z_bipush (v := 10) hC dX9_look_256 (by decide) ?_
          refine z_aload_n hC dX9_look_258 rfl 0 rfl ?_
          refine z_get hC iX9_look_X9 rfl 0 18 rfl (by decide) mX9_look_6 rfl rfl dX9_look_259 ?_
          refine z_imul hC dX9_look_262 ?_
          refine z_aload_n hC dX9_look_263 rfl 0 rfl ?_
          refine z_get hC iX9_look_X9 rfl 0 12 rfl (by decide) mX9_look_3 rfl rfl dX9_look_264 ?_
          refine z_aload_n hC dX9_look_267 rfl 0 rfl ?_
          refine z_get hC iX9_look_X9 rfl 0 15 rfl (by decide) mX9_look_1 rfl rfl dX9_look_268 ?_
          refine z_iload hC dX9_look_271 1 rfl ?_
          refine z_iadd hC dX9_look_273 ?_
          refine z_iald hC 1 0 rfl rfl dX9_look_274 hR (fun hR => ?_)
          refine z_iadd hC dX9_look_275 ?_
          refine z_bipush (v := 48) hC dX9_look_276 (by decide) ?_
          refine z_isub hC dX9_look_278 ?_
          refine z_put hC iX9_look_X9 tyX9_ok nmX9 rfl 0 18 rfl (by decide) mX9_look_6 rfl rfl rfl rfl (Nat.le_of_ble_eq_true rfl) dX9_look_279 ?_
          refine z_iinc1 hC [(4, .int (l4 + 1)), (0, .ref a_t)] dX9_look_282 1 rfl (by decide) rfl ?_
          refine z_goto hC 232 dX9_look_285 (by decide) ?_
          refine z_sub (lv' := [(0, .ref a_t), (4, .int (l4 + 1))]) [1, 0] rfl ?_
          exact ih (((10 * t_value) + (t_tape (Int32.toNatClampNeg (t_tokenAt + l4)))) - 48) (l4 + 1) hR
set_option maxHeartbeats 4000000 in
set_option maxRecDepth 100000 in
theorem z_X9_look_150 {sK sV : Nat → Nat} {E : ZE} {cI cB cZ : ClassId} (hC : ZC E 5 cX9_look wsX9_look RX9 rmX9_look none (zty cI cB cZ)) (hN : ZN sK sV (zA E) (zs E)) {N : Nat} {a_t : Nat} {a_t_tape : Nat} {a_t_now : Nat} {a_t_kept : Nat} {a_t_isKept : Nat} {a_t_acts : Nat} {a_t_was : Nat} {a_t_lanes : Nat} {a_t_longs : Nat} {a_t_isThere : Nat} {a_t_items : Nat} {a_t_copied : Nat} {a_t_readSorts : Nat} {a_t_readHands : Nat} {a_t_inTurn : Nat} {a_t_ends : Nat} {a_t_bestHands : Nat} {a_t_traces : Nat} {t_manyActs : Int32} {t_status : Int32} {t_tapeLong : Int32} {t_fault : Int32} {t_tokenAt : Int32} {t_token : Int32} {t_value : Int32} {t_winner : Int32} {t_throwsOf : Int32} {t_handA : Int32} {t_handB : Int32} {t_fewestSo : Int32} {t_traced : Int32} {t_tape : (Nat → Int32)} {rf : Int32 × Int32 × Int32 × Int32} (hQ : ZQv E (zty cI cB cZ) [(a_t, .inr (9, [.ref a_t_now, .ref a_t_kept, .ref a_t_isKept, .ref a_t_acts, .int t_manyActs, .ref a_t_was, .int t_status, .ref a_t_lanes, .ref a_t_longs, .ref a_t_isThere, .ref a_t_items, .ref a_t_copied, .ref a_t_tape, .int t_tapeLong, .int t_fault, .int rf.1, .int rf.2.1, .int rf.2.2.1, .int rf.2.2.2, .ref a_t_readSorts, .ref a_t_readHands, .int t_winner, .int t_throwsOf, .int t_handA, .int t_handB, .ref a_t_inTurn, .ref a_t_ends, .ref a_t_bestHands, .int t_fewestSo, .ref a_t_traces, .int t_traced])), (a_t_tape, .inl (cI, 200, .inl t_tape))]) : ∀ (n : Nat) (t_tokenLong : Int32) (l3 : Int32), o_X9_look_150 N t_tapeLong t_tokenAt t_token t_value t_tape n t_tokenLong l3 = some rf → Z E (0, 0) [(0, .ref a_t), (3, .int l3)] 150 [] [(a_t, .inr (9, [.ref a_t_now, .ref a_t_kept, .ref a_t_isKept, .ref a_t_acts, .int t_manyActs, .ref a_t_was, .int t_status, .ref a_t_lanes, .ref a_t_longs, .ref a_t_isThere, .ref a_t_items, .ref a_t_copied, .ref a_t_tape, .int t_tapeLong, .int t_fault, .int t_tokenAt, .int t_tokenLong, .int t_token, .int t_value, .ref a_t_readSorts, .ref a_t_readHands, .int t_winner, .int t_throwsOf, .int t_handA, .int t_handB, .ref a_t_inTurn, .ref a_t_ends, .ref a_t_bestHands, .int t_fewestSo, .ref a_t_traces, .int t_traced])), (a_t_tape, .inl (cI, 200, .inl t_tape))] := by
  intro n
  induction n with
  | zero =>
    intro t_tokenLong l3 hR
    cases hR
  | succ n ih =>
    intro t_tokenLong l3 hR
    rw [o_X9_look_150] at hR
    refine z_iload_n hC dX9_look_150 rfl 1 rfl ?_
    refine z_if_eq hC 229 dX9_look_151 (by decide) hR (fun hR => ?_) (fun hR => ?_)
    · refine z_ic0 hC dX9_look_229 ?_
      refine z_istore hC [(4, .int 0), (0, .ref a_t), (3, .int l3)] dX9_look_230 (by decide) rfl ?_
      refine z_sub (lv' := [(0, .ref a_t), (4, .int 0)]) [1, 0] rfl ?_
      exact z_X9_look_232 hC hN (N := N) (a_t := a_t) (a_t_tape := a_t_tape) (a_t_now := a_t_now) (a_t_kept := a_t_kept) (a_t_isKept := a_t_isKept) (a_t_acts := a_t_acts) (a_t_was := a_t_was) (a_t_lanes := a_t_lanes) (a_t_longs := a_t_longs) (a_t_isThere := a_t_isThere) (a_t_items := a_t_items) (a_t_copied := a_t_copied) (a_t_readSorts := a_t_readSorts) (a_t_readHands := a_t_readHands) (a_t_inTurn := a_t_inTurn) (a_t_ends := a_t_ends) (a_t_bestHands := a_t_bestHands) (a_t_traces := a_t_traces) (t_manyActs := t_manyActs) (t_status := t_status) (t_tapeLong := t_tapeLong) (t_fault := t_fault) (t_tokenAt := t_tokenAt) (t_tokenLong := t_tokenLong) (t_token := t_token) (t_winner := t_winner) (t_throwsOf := t_throwsOf) (t_handA := t_handA) (t_handB := t_handB) (t_fewestSo := t_fewestSo) (t_traced := t_traced) (t_tape := t_tape) hQ  N t_value 0 hR
    · refine z_aload_n hC dX9_look_154 rfl 0 rfl ?_
      refine z_get hC iX9_look_X9 rfl 0 15 rfl (by decide) mX9_look_1 rfl rfl dX9_look_155 ?_
      refine z_aload_n hC dX9_look_158 rfl 0 rfl ?_
      refine z_get hC iX9_look_X9 rfl 0 16 rfl (by decide) mX9_look_4 rfl rfl dX9_look_159 ?_
      refine z_iadd hC dX9_look_162 ?_
      refine z_aload_n hC dX9_look_163 rfl 0 rfl ?_
      refine z_get hC iX9_look_X9 rfl 0 13 rfl (by decide) mX9_look_2 rfl rfl dX9_look_164 ?_
      refine z_icmp_ge hC 229 dX9_look_167 (by decide) hR (fun hR => ?_) (fun hR => ?_)
      · refine z_ic0 hC dX9_look_229 ?_
        refine z_istore hC [(4, .int 0), (0, .ref a_t), (3, .int l3)] dX9_look_230 (by decide) rfl ?_
        refine z_sub (lv' := [(0, .ref a_t), (4, .int 0)]) [1, 0] rfl ?_
        exact z_X9_look_232 hC hN (N := N) (a_t := a_t) (a_t_tape := a_t_tape) (a_t_now := a_t_now) (a_t_kept := a_t_kept) (a_t_isKept := a_t_isKept) (a_t_acts := a_t_acts) (a_t_was := a_t_was) (a_t_lanes := a_t_lanes) (a_t_longs := a_t_longs) (a_t_isThere := a_t_isThere) (a_t_items := a_t_items) (a_t_copied := a_t_copied) (a_t_readSorts := a_t_readSorts) (a_t_readHands := a_t_readHands) (a_t_inTurn := a_t_inTurn) (a_t_ends := a_t_ends) (a_t_bestHands := a_t_bestHands) (a_t_traces := a_t_traces) (t_manyActs := t_manyActs) (t_status := t_status) (t_tapeLong := t_tapeLong) (t_fault := t_fault) (t_tokenAt := t_tokenAt) (t_tokenLong := t_tokenLong) (t_token := t_token) (t_winner := t_winner) (t_throwsOf := t_throwsOf) (t_handA := t_handA) (t_handB := t_handB) (t_fewestSo := t_fewestSo) (t_traced := t_traced) (t_tape := t_tape) hQ  N t_value 0 hR
      · refine z_aload_n hC dX9_look_170 rfl 0 rfl ?_
        refine z_get hC iX9_look_X9 rfl 0 12 rfl (by decide) mX9_look_3 rfl rfl dX9_look_171 ?_
        refine z_aload_n hC dX9_look_174 rfl 0 rfl ?_
        refine z_get hC iX9_look_X9 rfl 0 15 rfl (by decide) mX9_look_1 rfl rfl dX9_look_175 ?_
        refine z_aload_n hC dX9_look_178 rfl 0 rfl ?_
        refine z_get hC iX9_look_X9 rfl 0 16 rfl (by decide) mX9_look_4 rfl rfl dX9_look_179 ?_
        refine z_iadd hC dX9_look_182 ?_
        refine z_iald hC 1 0 rfl rfl dX9_look_183 hR (fun hR => ?_)
        refine z_istore hC [(4, .int (t_tape (Int32.toNatClampNeg (t_tokenAt + t_tokenLong)))), (0, .ref a_t), (3, .int l3)] dX9_look_184 (by decide) rfl ?_
        refine z_aload_n hC dX9_look_186 rfl 1 rfl ?_
        refine z_get hC iX9_look_X9 rfl 0 17 rfl (by decide) mX9_look_5 rfl rfl dX9_look_187 ?_
        refine z_ic1 hC dX9_look_190 ?_
        refine z_icmp_ne hC 202 dX9_look_191 (by decide) hR (fun hR => ?_) (fun hR => ?_)
        · refine z_iload hC dX9_look_202 0 rfl ?_
          refine z_callSi_p hC hN [.int (t_tape (Int32.toNatClampNeg (t_tokenAt + t_tokenLong)))] [] (c_X9_isFigure (l := zl E) (D := zD E) (cI := cI) (cB := cB) (cZ := cZ) (N := N) (l0 := (t_tape (Int32.toNatClampNeg (t_tokenAt + t_tokenLong))))) rfl ⟨rfl, rfl⟩ gX9_look_X9_isFigure hsX9_isFigure ⟨Nat.le_of_ble_eq_true rfl, Nat.le_of_ble_eq_true rfl⟩ ⟨Nat.zero_le _, Nat.zero_le _⟩ rfl (Nat.le_of_ble_eq_true rfl) rfl (by decide) dX9_look_204 hR (fun r204 hR => ?_)
          refine z_sub (lv' := [(0, .ref a_t)]) [1] rfl ?_
          exact z_X9_look_207 hC hN (N := N) (a_t := a_t) (a_t_tape := a_t_tape) (a_t_now := a_t_now) (a_t_kept := a_t_kept) (a_t_isKept := a_t_isKept) (a_t_acts := a_t_acts) (a_t_was := a_t_was) (a_t_lanes := a_t_lanes) (a_t_longs := a_t_longs) (a_t_isThere := a_t_isThere) (a_t_items := a_t_items) (a_t_copied := a_t_copied) (a_t_readSorts := a_t_readSorts) (a_t_readHands := a_t_readHands) (a_t_inTurn := a_t_inTurn) (a_t_ends := a_t_ends) (a_t_bestHands := a_t_bestHands) (a_t_traces := a_t_traces) (t_manyActs := t_manyActs) (t_status := t_status) (t_tapeLong := t_tapeLong) (t_fault := t_fault) (t_tokenAt := t_tokenAt) (t_tokenLong := t_tokenLong) (t_token := t_token) (t_value := t_value) (t_winner := t_winner) (t_throwsOf := t_throwsOf) (t_handA := t_handA) (t_handB := t_handB) (t_fewestSo := t_fewestSo) (t_traced := t_traced) (t_tape := t_tape) (s0 := r204) hQ ih hR
        · refine z_iload hC dX9_look_194 0 rfl ?_
          refine z_callSi_p hC hN [.int (t_tape (Int32.toNatClampNeg (t_tokenAt + t_tokenLong)))] [] (c_X9_isSmall (l := zl E) (D := zD E) (cI := cI) (cB := cB) (cZ := cZ) (N := N) (l0 := (t_tape (Int32.toNatClampNeg (t_tokenAt + t_tokenLong))))) rfl ⟨rfl, rfl⟩ gX9_look_X9_isSmall hsX9_isSmall ⟨Nat.le_of_ble_eq_true rfl, Nat.le_of_ble_eq_true rfl⟩ ⟨Nat.zero_le _, Nat.zero_le _⟩ rfl (Nat.le_of_ble_eq_true rfl) rfl (by decide) dX9_look_196 hR (fun r196 hR => ?_)
          refine z_goto hC 207 dX9_look_199 (by decide) ?_
          refine z_sub (lv' := [(0, .ref a_t)]) [1] rfl ?_
          exact z_X9_look_207 hC hN (N := N) (a_t := a_t) (a_t_tape := a_t_tape) (a_t_now := a_t_now) (a_t_kept := a_t_kept) (a_t_isKept := a_t_isKept) (a_t_acts := a_t_acts) (a_t_was := a_t_was) (a_t_lanes := a_t_lanes) (a_t_longs := a_t_longs) (a_t_isThere := a_t_isThere) (a_t_items := a_t_items) (a_t_copied := a_t_copied) (a_t_readSorts := a_t_readSorts) (a_t_readHands := a_t_readHands) (a_t_inTurn := a_t_inTurn) (a_t_ends := a_t_ends) (a_t_bestHands := a_t_bestHands) (a_t_traces := a_t_traces) (t_manyActs := t_manyActs) (t_status := t_status) (t_tapeLong := t_tapeLong) (t_fault := t_fault) (t_tokenAt := t_tokenAt) (t_tokenLong := t_tokenLong) (t_token := t_token) (t_value := t_value) (t_winner := t_winner) (t_throwsOf := t_throwsOf) (t_handA := t_handA) (t_handB := t_handB) (t_fewestSo := t_fewestSo) (t_traced := t_traced) (t_tape := t_tape) (s0 := r196) hQ ih hR
set_option maxHeartbeats 4000000 in
set_option maxRecDepth 100000 in
theorem z_X9_look_128 {sK sV : Nat → Nat} {E : ZE} {cI cB cZ : ClassId} (hC : ZC E 5 cX9_look wsX9_look RX9 rmX9_look none (zty cI cB cZ)) (hN : ZN sK sV (zA E) (zs E)) {N : Nat} {a_t : Nat} {a_t_tape : Nat} {a_t_now : Nat} {a_t_kept : Nat} {a_t_isKept : Nat} {a_t_acts : Nat} {a_t_was : Nat} {a_t_lanes : Nat} {a_t_longs : Nat} {a_t_isThere : Nat} {a_t_items : Nat} {a_t_copied : Nat} {a_t_readSorts : Nat} {a_t_readHands : Nat} {a_t_inTurn : Nat} {a_t_ends : Nat} {a_t_bestHands : Nat} {a_t_traces : Nat} {t_manyActs : Int32} {t_status : Int32} {t_tapeLong : Int32} {t_fault : Int32} {t_tokenAt : Int32} {t_tokenLong : Int32} {t_token : Int32} {t_value : Int32} {t_winner : Int32} {t_throwsOf : Int32} {t_handA : Int32} {t_handB : Int32} {t_fewestSo : Int32} {t_traced : Int32} {t_tape : (Nat → Int32)} {s1 : Int32} {rf : Int32 × Int32 × Int32 × Int32} (hQ : ZQv E (zty cI cB cZ) [(a_t, .inr (9, [.ref a_t_now, .ref a_t_kept, .ref a_t_isKept, .ref a_t_acts, .int t_manyActs, .ref a_t_was, .int t_status, .ref a_t_lanes, .ref a_t_longs, .ref a_t_isThere, .ref a_t_items, .ref a_t_copied, .ref a_t_tape, .int t_tapeLong, .int t_fault, .int rf.1, .int rf.2.1, .int rf.2.2.1, .int rf.2.2.2, .ref a_t_readSorts, .ref a_t_readHands, .int t_winner, .int t_throwsOf, .int t_handA, .int t_handB, .ref a_t_inTurn, .ref a_t_ends, .ref a_t_bestHands, .int t_fewestSo, .ref a_t_traces, .int t_traced])), (a_t_tape, .inl (cI, 200, .inl t_tape))]) (hR : o_X9_look_128 N t_tapeLong t_tokenAt t_value t_tape s1 = some rf) : Z E (0, 0) [(0, .ref a_t)] 128 [.int s1, .ref a_t] [(a_t, .inr (9, [.ref a_t_now, .ref a_t_kept, .ref a_t_isKept, .ref a_t_acts, .int t_manyActs, .ref a_t_was, .int t_status, .ref a_t_lanes, .ref a_t_longs, .ref a_t_isThere, .ref a_t_items, .ref a_t_copied, .ref a_t_tape, .int t_tapeLong, .int t_fault, .int t_tokenAt, .int t_tokenLong, .int t_token, .int t_value, .ref a_t_readSorts, .ref a_t_readHands, .int t_winner, .int t_throwsOf, .int t_handA, .int t_handB, .ref a_t_inTurn, .ref a_t_ends, .ref a_t_bestHands, .int t_fewestSo, .ref a_t_traces, .int t_traced])), (a_t_tape, .inl (cI, 200, .inl t_tape))] := by
  rw [o_X9_look_128] at hR
  refine z_put hC iX9_look_X9 tyX9_ok nmX9 rfl 0 17 rfl (by decide) mX9_look_5 rfl rfl rfl rfl (Nat.le_of_ble_eq_true rfl) dX9_look_128 ?_
  refine z_aload_n hC dX9_look_131 rfl 0 rfl ?_
  refine z_ic1 hC dX9_look_132 ?_
  refine z_put hC iX9_look_X9 tyX9_ok nmX9 rfl 0 16 rfl (by decide) mX9_look_4 rfl rfl rfl rfl (Nat.le_of_ble_eq_true rfl) dX9_look_133 ?_
  refine z_aload_n hC dX9_look_136 rfl 0 rfl ?_
  refine z_get hC iX9_look_X9 rfl 0 17 rfl (by decide) mX9_look_5 rfl rfl dX9_look_137 ?_
  refine z_ic3 hC dX9_look_140 ?_
  refine z_icmp_ge hC 148 dX9_look_141 (by decide) hR (fun hR => ?_) (fun hR => ?_)
  · refine z_ic0 hC dX9_look_148 ?_
    refine z_istore_n hC [(3, .int 0), (0, .ref a_t)] dX9_look_149 rfl (by decide) rfl ?_
    refine z_sub (lv' := [(0, .ref a_t), (3, .int 0)]) [1, 0] rfl ?_
    exact z_X9_look_150 hC hN (N := N) (a_t := a_t) (a_t_tape := a_t_tape) (a_t_now := a_t_now) (a_t_kept := a_t_kept) (a_t_isKept := a_t_isKept) (a_t_acts := a_t_acts) (a_t_was := a_t_was) (a_t_lanes := a_t_lanes) (a_t_longs := a_t_longs) (a_t_isThere := a_t_isThere) (a_t_items := a_t_items) (a_t_copied := a_t_copied) (a_t_readSorts := a_t_readSorts) (a_t_readHands := a_t_readHands) (a_t_inTurn := a_t_inTurn) (a_t_ends := a_t_ends) (a_t_bestHands := a_t_bestHands) (a_t_traces := a_t_traces) (t_manyActs := t_manyActs) (t_status := t_status) (t_tapeLong := t_tapeLong) (t_fault := t_fault) (t_tokenAt := t_tokenAt) (t_token := s1) (t_value := t_value) (t_winner := t_winner) (t_throwsOf := t_throwsOf) (t_handA := t_handA) (t_handB := t_handB) (t_fewestSo := t_fewestSo) (t_traced := t_traced) (t_tape := t_tape) hQ  N 1 0 hR
  · refine z_ic1 hC dX9_look_144 ?_
    refine z_goto hC 149 dX9_look_145 (by decide) ?_
    refine z_istore_n hC [(3, .int 1), (0, .ref a_t)] dX9_look_149 rfl (by decide) rfl ?_
    refine z_sub (lv' := [(0, .ref a_t), (3, .int 1)]) [1, 0] rfl ?_
    exact z_X9_look_150 hC hN (N := N) (a_t := a_t) (a_t_tape := a_t_tape) (a_t_now := a_t_now) (a_t_kept := a_t_kept) (a_t_isKept := a_t_isKept) (a_t_acts := a_t_acts) (a_t_was := a_t_was) (a_t_lanes := a_t_lanes) (a_t_longs := a_t_longs) (a_t_isThere := a_t_isThere) (a_t_items := a_t_items) (a_t_copied := a_t_copied) (a_t_readSorts := a_t_readSorts) (a_t_readHands := a_t_readHands) (a_t_inTurn := a_t_inTurn) (a_t_ends := a_t_ends) (a_t_bestHands := a_t_bestHands) (a_t_traces := a_t_traces) (t_manyActs := t_manyActs) (t_status := t_status) (t_tapeLong := t_tapeLong) (t_fault := t_fault) (t_tokenAt := t_tokenAt) (t_token := s1) (t_value := t_value) (t_winner := t_winner) (t_throwsOf := t_throwsOf) (t_handA := t_handA) (t_handB := t_handB) (t_fewestSo := t_fewestSo) (t_traced := t_traced) (t_tape := t_tape) hQ  N 1 1 hR
set_option maxHeartbeats 4000000 in
set_option maxRecDepth 100000 in
theorem z_X9_look_57 {sK sV : Nat → Nat} {E : ZE} {cI cB cZ : ClassId} (hC : ZC E 5 cX9_look wsX9_look RX9 rmX9_look none (zty cI cB cZ)) (hN : ZN sK sV (zA E) (zs E)) {N : Nat} {a_t : Nat} {a_t_tape : Nat} {a_t_now : Nat} {a_t_kept : Nat} {a_t_isKept : Nat} {a_t_acts : Nat} {a_t_was : Nat} {a_t_lanes : Nat} {a_t_longs : Nat} {a_t_isThere : Nat} {a_t_items : Nat} {a_t_copied : Nat} {a_t_readSorts : Nat} {a_t_readHands : Nat} {a_t_inTurn : Nat} {a_t_ends : Nat} {a_t_bestHands : Nat} {a_t_traces : Nat} {t_manyActs : Int32} {t_status : Int32} {t_tapeLong : Int32} {t_fault : Int32} {t_tokenAt : Int32} {t_tokenLong : Int32} {t_token : Int32} {t_value : Int32} {t_winner : Int32} {t_throwsOf : Int32} {t_handA : Int32} {t_handB : Int32} {t_fewestSo : Int32} {t_traced : Int32} {t_tape : (Nat → Int32)} {rf : Int32 × Int32 × Int32 × Int32} (hQ : ZQv E (zty cI cB cZ) [(a_t, .inr (9, [.ref a_t_now, .ref a_t_kept, .ref a_t_isKept, .ref a_t_acts, .int t_manyActs, .ref a_t_was, .int t_status, .ref a_t_lanes, .ref a_t_longs, .ref a_t_isThere, .ref a_t_items, .ref a_t_copied, .ref a_t_tape, .int t_tapeLong, .int t_fault, .int rf.1, .int rf.2.1, .int rf.2.2.1, .int rf.2.2.2, .ref a_t_readSorts, .ref a_t_readHands, .int t_winner, .int t_throwsOf, .int t_handA, .int t_handB, .ref a_t_inTurn, .ref a_t_ends, .ref a_t_bestHands, .int t_fewestSo, .ref a_t_traces, .int t_traced])), (a_t_tape, .inl (cI, 200, .inl t_tape))]) (hR : o_X9_look_57 N t_tapeLong t_tokenAt t_tape = some rf) : Z E (0, 0) [(0, .ref a_t)] 57 [] [(a_t, .inr (9, [.ref a_t_now, .ref a_t_kept, .ref a_t_isKept, .ref a_t_acts, .int t_manyActs, .ref a_t_was, .int t_status, .ref a_t_lanes, .ref a_t_longs, .ref a_t_isThere, .ref a_t_items, .ref a_t_copied, .ref a_t_tape, .int t_tapeLong, .int t_fault, .int t_tokenAt, .int t_tokenLong, .int t_token, .int t_value, .ref a_t_readSorts, .ref a_t_readHands, .int t_winner, .int t_throwsOf, .int t_handA, .int t_handB, .ref a_t_inTurn, .ref a_t_ends, .ref a_t_bestHands, .int t_fewestSo, .ref a_t_traces, .int t_traced])), (a_t_tape, .inl (cI, 200, .inl t_tape))] := by
  rw [o_X9_look_57] at hR
  refine z_aload_n hC dX9_look_57 rfl 0 rfl ?_
  refine z_ic0 hC dX9_look_58 ?_
  refine z_put hC iX9_look_X9 tyX9_ok nmX9 rfl 0 16 rfl (by decide) mX9_look_4 rfl rfl rfl rfl (Nat.le_of_ble_eq_true rfl) dX9_look_59 ?_
  refine z_aload_n hC dX9_look_62 rfl 0 rfl ?_
  refine z_ic0 hC dX9_look_63 ?_
  refine z_put hC iX9_look_X9 tyX9_ok nmX9 rfl 0 17 rfl (by decide) mX9_look_5 rfl rfl rfl rfl (Nat.le_of_ble_eq_true rfl) dX9_look_64 ?_
  refine z_aload_n hC dX9_look_67 rfl 0 rfl ?_
  refine z_ic0 hC dX9_look_68 ?_
  refine z_put hC iX9_look_X9 tyX9_ok nmX9 rfl 0 18 rfl (by decide) mX9_look_6 rfl rfl rfl rfl (Nat.le_of_ble_eq_true rfl) dX9_look_69 ?_
  refine z_aload_n hC dX9_look_72 rfl 0 rfl ?_
  refine z_get hC iX9_look_X9 rfl 0 15 rfl (by decide) mX9_look_1 rfl rfl dX9_look_73 ?_
  refine z_aload_n hC dX9_look_76 rfl 0 rfl ?_
  refine z_get hC iX9_look_X9 rfl 0 13 rfl (by decide) mX9_look_2 rfl rfl dX9_look_77 ?_
  refine z_icmp_ne hC 84 dX9_look_80 (by decide) hR (fun hR => ?_) (fun hR => ?_)
  · refine z_aload_n hC dX9_look_84 rfl 0 rfl ?_
    refine z_get hC iX9_look_X9 rfl 0 12 rfl (by decide) mX9_look_3 rfl rfl dX9_look_85 ?_
    refine z_aload_n hC dX9_look_88 rfl 0 rfl ?_
    refine z_get hC iX9_look_X9 rfl 0 15 rfl (by decide) mX9_look_1 rfl rfl dX9_look_89 ?_
    refine z_iald hC 1 0 rfl rfl dX9_look_92 hR (fun hR => ?_)
    refine z_istore_n hC [(2, .int (t_tape (Int32.toNatClampNeg t_tokenAt))), (0, .ref a_t)] dX9_look_93 rfl (by decide) rfl ?_
    refine z_aload_n hC dX9_look_94 rfl 1 rfl ?_
    refine z_iload_n hC dX9_look_95 rfl 0 rfl ?_
    refine z_callSi_p hC hN [.int (t_tape (Int32.toNatClampNeg t_tokenAt))] [] (c_X9_isSmall (l := zl E) (D := zD E) (cI := cI) (cB := cB) (cZ := cZ) (N := N) (l0 := (t_tape (Int32.toNatClampNeg t_tokenAt)))) rfl ⟨rfl, rfl⟩ gX9_look_X9_isSmall hsX9_isSmall ⟨Nat.le_of_ble_eq_true rfl, Nat.le_of_ble_eq_true rfl⟩ ⟨Nat.zero_le _, Nat.zero_le _⟩ rfl (Nat.le_of_ble_eq_true rfl) rfl (by decide) dX9_look_96 hR (fun r96 hR => ?_)
    refine z_if_eq hC 106 dX9_look_99 (by decide) hR (fun hR => ?_) (fun hR => ?_)
    · refine z_iload_n hC dX9_look_106 rfl 0 rfl ?_
      refine z_callSi_p hC hN [.int (t_tape (Int32.toNatClampNeg t_tokenAt))] [] (c_X9_isFigure (l := zl E) (D := zD E) (cI := cI) (cB := cB) (cZ := cZ) (N := N) (l0 := (t_tape (Int32.toNatClampNeg t_tokenAt)))) rfl ⟨rfl, rfl⟩ gX9_look_X9_isFigure hsX9_isFigure ⟨Nat.le_of_ble_eq_true rfl, Nat.le_of_ble_eq_true rfl⟩ ⟨Nat.zero_le _, Nat.zero_le _⟩ rfl (Nat.le_of_ble_eq_true rfl) rfl (by decide) dX9_look_107 hR (fun r107 hR => ?_)
      refine z_if_eq hC 117 dX9_look_110 (by decide) hR (fun hR => ?_) (fun hR => ?_)
      · refine z_iload_n hC dX9_look_117 rfl 0 rfl ?_
        refine z_bipush (v := 59) hC dX9_look_118 (by decide) ?_
        refine z_icmp_ne hC 127 dX9_look_120 (by decide) hR (fun hR => ?_) (fun hR => ?_)
        · refine z_ic4 hC dX9_look_127 ?_
          refine z_sub (lv' := [(0, .ref a_t)]) [1] rfl ?_
          exact z_X9_look_128 hC hN (N := N) (a_t := a_t) (a_t_tape := a_t_tape) (a_t_now := a_t_now) (a_t_kept := a_t_kept) (a_t_isKept := a_t_isKept) (a_t_acts := a_t_acts) (a_t_was := a_t_was) (a_t_lanes := a_t_lanes) (a_t_longs := a_t_longs) (a_t_isThere := a_t_isThere) (a_t_items := a_t_items) (a_t_copied := a_t_copied) (a_t_readSorts := a_t_readSorts) (a_t_readHands := a_t_readHands) (a_t_inTurn := a_t_inTurn) (a_t_ends := a_t_ends) (a_t_bestHands := a_t_bestHands) (a_t_traces := a_t_traces) (t_manyActs := t_manyActs) (t_status := t_status) (t_tapeLong := t_tapeLong) (t_fault := t_fault) (t_tokenAt := t_tokenAt) (t_tokenLong := 0) (t_token := 0) (t_value := 0) (t_winner := t_winner) (t_throwsOf := t_throwsOf) (t_handA := t_handA) (t_handB := t_handB) (t_fewestSo := t_fewestSo) (t_traced := t_traced) (t_tape := t_tape) (s1 := 4) hQ  hR
        · refine z_ic3 hC dX9_look_123 ?_
          refine z_goto hC 128 dX9_look_124 (by decide) ?_
          refine z_sub (lv' := [(0, .ref a_t)]) [1] rfl ?_
          exact z_X9_look_128 hC hN (N := N) (a_t := a_t) (a_t_tape := a_t_tape) (a_t_now := a_t_now) (a_t_kept := a_t_kept) (a_t_isKept := a_t_isKept) (a_t_acts := a_t_acts) (a_t_was := a_t_was) (a_t_lanes := a_t_lanes) (a_t_longs := a_t_longs) (a_t_isThere := a_t_isThere) (a_t_items := a_t_items) (a_t_copied := a_t_copied) (a_t_readSorts := a_t_readSorts) (a_t_readHands := a_t_readHands) (a_t_inTurn := a_t_inTurn) (a_t_ends := a_t_ends) (a_t_bestHands := a_t_bestHands) (a_t_traces := a_t_traces) (t_manyActs := t_manyActs) (t_status := t_status) (t_tapeLong := t_tapeLong) (t_fault := t_fault) (t_tokenAt := t_tokenAt) (t_tokenLong := 0) (t_token := 0) (t_value := 0) (t_winner := t_winner) (t_throwsOf := t_throwsOf) (t_handA := t_handA) (t_handB := t_handB) (t_fewestSo := t_fewestSo) (t_traced := t_traced) (t_tape := t_tape) (s1 := 3) hQ  hR
      · refine z_ic2 hC dX9_look_113 ?_
        refine z_goto hC 128 dX9_look_114 (by decide) ?_
        refine z_sub (lv' := [(0, .ref a_t)]) [1] rfl ?_
        exact z_X9_look_128 hC hN (N := N) (a_t := a_t) (a_t_tape := a_t_tape) (a_t_now := a_t_now) (a_t_kept := a_t_kept) (a_t_isKept := a_t_isKept) (a_t_acts := a_t_acts) (a_t_was := a_t_was) (a_t_lanes := a_t_lanes) (a_t_longs := a_t_longs) (a_t_isThere := a_t_isThere) (a_t_items := a_t_items) (a_t_copied := a_t_copied) (a_t_readSorts := a_t_readSorts) (a_t_readHands := a_t_readHands) (a_t_inTurn := a_t_inTurn) (a_t_ends := a_t_ends) (a_t_bestHands := a_t_bestHands) (a_t_traces := a_t_traces) (t_manyActs := t_manyActs) (t_status := t_status) (t_tapeLong := t_tapeLong) (t_fault := t_fault) (t_tokenAt := t_tokenAt) (t_tokenLong := 0) (t_token := 0) (t_value := 0) (t_winner := t_winner) (t_throwsOf := t_throwsOf) (t_handA := t_handA) (t_handB := t_handB) (t_fewestSo := t_fewestSo) (t_traced := t_traced) (t_tape := t_tape) (s1 := 2) hQ  hR
    · refine z_ic1 hC dX9_look_102 ?_
      refine z_goto hC 128 dX9_look_103 (by decide) ?_
      refine z_sub (lv' := [(0, .ref a_t)]) [1] rfl ?_
      exact z_X9_look_128 hC hN (N := N) (a_t := a_t) (a_t_tape := a_t_tape) (a_t_now := a_t_now) (a_t_kept := a_t_kept) (a_t_isKept := a_t_isKept) (a_t_acts := a_t_acts) (a_t_was := a_t_was) (a_t_lanes := a_t_lanes) (a_t_longs := a_t_longs) (a_t_isThere := a_t_isThere) (a_t_items := a_t_items) (a_t_copied := a_t_copied) (a_t_readSorts := a_t_readSorts) (a_t_readHands := a_t_readHands) (a_t_inTurn := a_t_inTurn) (a_t_ends := a_t_ends) (a_t_bestHands := a_t_bestHands) (a_t_traces := a_t_traces) (t_manyActs := t_manyActs) (t_status := t_status) (t_tapeLong := t_tapeLong) (t_fault := t_fault) (t_tokenAt := t_tokenAt) (t_tokenLong := 0) (t_token := 0) (t_value := 0) (t_winner := t_winner) (t_throwsOf := t_throwsOf) (t_handA := t_handA) (t_handB := t_handB) (t_fewestSo := t_fewestSo) (t_traced := t_traced) (t_tape := t_tape) (s1 := 1) hQ  hR
  · obtain rfl := Option.some.inj hR
    exact z_vret hC hQ rfl dX9_look_83
set_option maxHeartbeats 4000000 in
set_option maxRecDepth 100000 in
theorem z_X9_look_5 {sK sV : Nat → Nat} {E : ZE} {cI cB cZ : ClassId} (hC : ZC E 5 cX9_look wsX9_look RX9 rmX9_look none (zty cI cB cZ)) (hN : ZN sK sV (zA E) (zs E)) {N : Nat} {a_t : Nat} {a_t_tape : Nat} {a_t_now : Nat} {a_t_kept : Nat} {a_t_isKept : Nat} {a_t_acts : Nat} {a_t_was : Nat} {a_t_lanes : Nat} {a_t_longs : Nat} {a_t_isThere : Nat} {a_t_items : Nat} {a_t_copied : Nat} {a_t_readSorts : Nat} {a_t_readHands : Nat} {a_t_inTurn : Nat} {a_t_ends : Nat} {a_t_bestHands : Nat} {a_t_traces : Nat} {t_manyActs : Int32} {t_status : Int32} {t_tapeLong : Int32} {t_fault : Int32} {t_tokenLong : Int32} {t_token : Int32} {t_value : Int32} {t_winner : Int32} {t_throwsOf : Int32} {t_handA : Int32} {t_handB : Int32} {t_fewestSo : Int32} {t_traced : Int32} {t_tape : (Nat → Int32)} {rf : Int32 × Int32 × Int32 × Int32} (hQ : ZQv E (zty cI cB cZ) [(a_t, .inr (9, [.ref a_t_now, .ref a_t_kept, .ref a_t_isKept, .ref a_t_acts, .int t_manyActs, .ref a_t_was, .int t_status, .ref a_t_lanes, .ref a_t_longs, .ref a_t_isThere, .ref a_t_items, .ref a_t_copied, .ref a_t_tape, .int t_tapeLong, .int t_fault, .int rf.1, .int rf.2.1, .int rf.2.2.1, .int rf.2.2.2, .ref a_t_readSorts, .ref a_t_readHands, .int t_winner, .int t_throwsOf, .int t_handA, .int t_handB, .ref a_t_inTurn, .ref a_t_ends, .ref a_t_bestHands, .int t_fewestSo, .ref a_t_traces, .int t_traced])), (a_t_tape, .inl (cI, 200, .inl t_tape))]) : ∀ (n : Nat) (t_tokenAt : Int32), o_X9_look_5 N t_tapeLong t_tape n t_tokenAt = some rf → Z E (0, 0) [(0, .ref a_t)] 5 [] [(a_t, .inr (9, [.ref a_t_now, .ref a_t_kept, .ref a_t_isKept, .ref a_t_acts, .int t_manyActs, .ref a_t_was, .int t_status, .ref a_t_lanes, .ref a_t_longs, .ref a_t_isThere, .ref a_t_items, .ref a_t_copied, .ref a_t_tape, .int t_tapeLong, .int t_fault, .int t_tokenAt, .int t_tokenLong, .int t_token, .int t_value, .ref a_t_readSorts, .ref a_t_readHands, .int t_winner, .int t_throwsOf, .int t_handA, .int t_handB, .ref a_t_inTurn, .ref a_t_ends, .ref a_t_bestHands, .int t_fewestSo, .ref a_t_traces, .int t_traced])), (a_t_tape, .inl (cI, 200, .inl t_tape))] := by
  intro n
  induction n with
  | zero =>
    intro t_tokenAt hR
    cases hR
  | succ n ih =>
    intro t_tokenAt hR
    rw [o_X9_look_5] at hR
    refine z_aload_n hC dX9_look_5 rfl 0 rfl ?_
    refine z_get hC iX9_look_X9 rfl 0 15 rfl (by decide) mX9_look_1 rfl rfl dX9_look_6 ?_
    refine z_aload_n hC dX9_look_9 rfl 0 rfl ?_
    refine z_get hC iX9_look_X9 rfl 0 13 rfl (by decide) mX9_look_2 rfl rfl dX9_look_10 ?_
    refine z_icmp_ge hC 57 dX9_look_13 (by decide) hR (fun hR => ?_) (fun hR => ?_)
    · exact z_X9_look_57 hC hN (N := N) (a_t := a_t) (a_t_tape := a_t_tape) (a_t_now := a_t_now) (a_t_kept := a_t_kept) (a_t_isKept := a_t_isKept) (a_t_acts := a_t_acts) (a_t_was := a_t_was) (a_t_lanes := a_t_lanes) (a_t_longs := a_t_longs) (a_t_isThere := a_t_isThere) (a_t_items := a_t_items) (a_t_copied := a_t_copied) (a_t_readSorts := a_t_readSorts) (a_t_readHands := a_t_readHands) (a_t_inTurn := a_t_inTurn) (a_t_ends := a_t_ends) (a_t_bestHands := a_t_bestHands) (a_t_traces := a_t_traces) (t_manyActs := t_manyActs) (t_status := t_status) (t_tapeLong := t_tapeLong) (t_fault := t_fault) (t_tokenAt := t_tokenAt) (t_tokenLong := t_tokenLong) (t_token := t_token) (t_value := t_value) (t_winner := t_winner) (t_throwsOf := t_throwsOf) (t_handA := t_handA) (t_handB := t_handB) (t_fewestSo := t_fewestSo) (t_traced := t_traced) (t_tape := t_tape) hQ  hR
    · refine z_aload_n hC dX9_look_16 rfl 0 rfl ?_
      refine z_get hC iX9_look_X9 rfl 0 12 rfl (by decide) mX9_look_3 rfl rfl dX9_look_17 ?_
      refine z_aload_n hC dX9_look_20 rfl 0 rfl ?_
      refine z_get hC iX9_look_X9 rfl 0 15 rfl (by decide) mX9_look_1 rfl rfl dX9_look_21 ?_
      refine z_iald hC 1 0 rfl rfl dX9_look_24 hR (fun hR => ?_)
      refine z_bipush (v := 32) hC dX9_look_25 (by decide) ?_
      refine z_icmp_eq hC 44 dX9_look_27 (by decide) hR (fun hR => ?_) (fun hR => ?_)
      · exact z_X9_look_44 hC hN (N := N) (a_t := a_t) (a_t_tape := a_t_tape) (a_t_now := a_t_now) (a_t_kept := a_t_kept) (a_t_isKept := a_t_isKept) (a_t_acts := a_t_acts) (a_t_was := a_t_was) (a_t_lanes := a_t_lanes) (a_t_longs := a_t_longs) (a_t_isThere := a_t_isThere) (a_t_items := a_t_items) (a_t_copied := a_t_copied) (a_t_readSorts := a_t_readSorts) (a_t_readHands := a_t_readHands) (a_t_inTurn := a_t_inTurn) (a_t_ends := a_t_ends) (a_t_bestHands := a_t_bestHands) (a_t_traces := a_t_traces) (t_manyActs := t_manyActs) (t_status := t_status) (t_tapeLong := t_tapeLong) (t_fault := t_fault) (t_tokenAt := t_tokenAt) (t_tokenLong := t_tokenLong) (t_token := t_token) (t_value := t_value) (t_winner := t_winner) (t_throwsOf := t_throwsOf) (t_handA := t_handA) (t_handB := t_handB) (t_fewestSo := t_fewestSo) (t_traced := t_traced) (t_tape := t_tape) hQ ih hR
      · refine z_aload_n hC dX9_look_30 rfl 0 rfl ?_
        refine z_get hC iX9_look_X9 rfl 0 12 rfl (by decide) mX9_look_3 rfl rfl dX9_look_31 ?_
        refine z_aload_n hC dX9_look_34 rfl 0 rfl ?_
        refine z_get hC iX9_look_X9 rfl 0 15 rfl (by decide) mX9_look_1 rfl rfl dX9_look_35 ?_
        refine z_iald hC 1 0 rfl rfl dX9_look_38 hR (fun hR => ?_)
        refine z_bipush (v := 10) hC dX9_look_39 (by decide) ?_
        refine z_icmp_ne hC 57 dX9_look_41 (by decide) hR (fun hR => ?_) (fun hR => ?_)
        · exact z_X9_look_57 hC hN (N := N) (a_t := a_t) (a_t_tape := a_t_tape) (a_t_now := a_t_now) (a_t_kept := a_t_kept) (a_t_isKept := a_t_isKept) (a_t_acts := a_t_acts) (a_t_was := a_t_was) (a_t_lanes := a_t_lanes) (a_t_longs := a_t_longs) (a_t_isThere := a_t_isThere) (a_t_items := a_t_items) (a_t_copied := a_t_copied) (a_t_readSorts := a_t_readSorts) (a_t_readHands := a_t_readHands) (a_t_inTurn := a_t_inTurn) (a_t_ends := a_t_ends) (a_t_bestHands := a_t_bestHands) (a_t_traces := a_t_traces) (t_manyActs := t_manyActs) (t_status := t_status) (t_tapeLong := t_tapeLong) (t_fault := t_fault) (t_tokenAt := t_tokenAt) (t_tokenLong := t_tokenLong) (t_token := t_token) (t_value := t_value) (t_winner := t_winner) (t_throwsOf := t_throwsOf) (t_handA := t_handA) (t_handB := t_handB) (t_fewestSo := t_fewestSo) (t_traced := t_traced) (t_tape := t_tape) hQ  hR
        · exact z_X9_look_44 hC hN (N := N) (a_t := a_t) (a_t_tape := a_t_tape) (a_t_now := a_t_now) (a_t_kept := a_t_kept) (a_t_isKept := a_t_isKept) (a_t_acts := a_t_acts) (a_t_was := a_t_was) (a_t_lanes := a_t_lanes) (a_t_longs := a_t_longs) (a_t_isThere := a_t_isThere) (a_t_items := a_t_items) (a_t_copied := a_t_copied) (a_t_readSorts := a_t_readSorts) (a_t_readHands := a_t_readHands) (a_t_inTurn := a_t_inTurn) (a_t_ends := a_t_ends) (a_t_bestHands := a_t_bestHands) (a_t_traces := a_t_traces) (t_manyActs := t_manyActs) (t_status := t_status) (t_tapeLong := t_tapeLong) (t_fault := t_fault) (t_tokenAt := t_tokenAt) (t_tokenLong := t_tokenLong) (t_token := t_token) (t_value := t_value) (t_winner := t_winner) (t_throwsOf := t_throwsOf) (t_handA := t_handA) (t_handB := t_handB) (t_fewestSo := t_fewestSo) (t_traced := t_traced) (t_tape := t_tape) hQ ih hR
set_option maxHeartbeats 4000000 in
set_option maxRecDepth 100000 in
theorem z_X9_look_0 {sK sV : Nat → Nat} {E : ZE} {cI cB cZ : ClassId} (hC : ZC E 5 cX9_look wsX9_look RX9 rmX9_look none (zty cI cB cZ)) (hN : ZN sK sV (zA E) (zs E)) {N : Nat} {a_t : Nat} {a_t_tape : Nat} {a_t_now : Nat} {a_t_kept : Nat} {a_t_isKept : Nat} {a_t_acts : Nat} {a_t_was : Nat} {a_t_lanes : Nat} {a_t_longs : Nat} {a_t_isThere : Nat} {a_t_items : Nat} {a_t_copied : Nat} {a_t_readSorts : Nat} {a_t_readHands : Nat} {a_t_inTurn : Nat} {a_t_ends : Nat} {a_t_bestHands : Nat} {a_t_traces : Nat} {t_manyActs : Int32} {t_status : Int32} {t_tapeLong : Int32} {t_fault : Int32} {t_tokenAt : Int32} {t_tokenLong : Int32} {t_token : Int32} {t_value : Int32} {t_winner : Int32} {t_throwsOf : Int32} {t_handA : Int32} {t_handB : Int32} {t_fewestSo : Int32} {t_traced : Int32} {t_tape : (Nat → Int32)} {l1 : Int32} {rf : Int32 × Int32 × Int32 × Int32} (hQ : ZQv E (zty cI cB cZ) [(a_t, .inr (9, [.ref a_t_now, .ref a_t_kept, .ref a_t_isKept, .ref a_t_acts, .int t_manyActs, .ref a_t_was, .int t_status, .ref a_t_lanes, .ref a_t_longs, .ref a_t_isThere, .ref a_t_items, .ref a_t_copied, .ref a_t_tape, .int t_tapeLong, .int t_fault, .int rf.1, .int rf.2.1, .int rf.2.2.1, .int rf.2.2.2, .ref a_t_readSorts, .ref a_t_readHands, .int t_winner, .int t_throwsOf, .int t_handA, .int t_handB, .ref a_t_inTurn, .ref a_t_ends, .ref a_t_bestHands, .int t_fewestSo, .ref a_t_traces, .int t_traced])), (a_t_tape, .inl (cI, 200, .inl t_tape))]) (hR : o_X9_look N t_tapeLong t_tape l1 = some rf) : Z E (0, 0) [(0, .ref a_t), (1, .int l1)] 0 [] [(a_t, .inr (9, [.ref a_t_now, .ref a_t_kept, .ref a_t_isKept, .ref a_t_acts, .int t_manyActs, .ref a_t_was, .int t_status, .ref a_t_lanes, .ref a_t_longs, .ref a_t_isThere, .ref a_t_items, .ref a_t_copied, .ref a_t_tape, .int t_tapeLong, .int t_fault, .int t_tokenAt, .int t_tokenLong, .int t_token, .int t_value, .ref a_t_readSorts, .ref a_t_readHands, .int t_winner, .int t_throwsOf, .int t_handA, .int t_handB, .ref a_t_inTurn, .ref a_t_ends, .ref a_t_bestHands, .int t_fewestSo, .ref a_t_traces, .int t_traced])), (a_t_tape, .inl (cI, 200, .inl t_tape))] := by
  rw [o_X9_look] at hR
  refine z_aload_n hC dX9_look_0 rfl 0 rfl ?_
  refine z_iload_n hC dX9_look_1 rfl 1 rfl ?_
  refine z_put hC iX9_look_X9 tyX9_ok nmX9 rfl 0 15 rfl (by decide) mX9_look_1 rfl rfl rfl rfl (Nat.le_of_ble_eq_true rfl) dX9_look_2 ?_
  refine z_sub (lv' := [(0, .ref a_t)]) [0] rfl ?_
  exact z_X9_look_5 hC hN (N := N) (a_t := a_t) (a_t_tape := a_t_tape) (a_t_now := a_t_now) (a_t_kept := a_t_kept) (a_t_isKept := a_t_isKept) (a_t_acts := a_t_acts) (a_t_was := a_t_was) (a_t_lanes := a_t_lanes) (a_t_longs := a_t_longs) (a_t_isThere := a_t_isThere) (a_t_items := a_t_items) (a_t_copied := a_t_copied) (a_t_readSorts := a_t_readSorts) (a_t_readHands := a_t_readHands) (a_t_inTurn := a_t_inTurn) (a_t_ends := a_t_ends) (a_t_bestHands := a_t_bestHands) (a_t_traces := a_t_traces) (t_manyActs := t_manyActs) (t_status := t_status) (t_tapeLong := t_tapeLong) (t_fault := t_fault) (t_tokenLong := t_tokenLong) (t_token := t_token) (t_value := t_value) (t_winner := t_winner) (t_throwsOf := t_throwsOf) (t_handA := t_handA) (t_handB := t_handB) (t_fewestSo := t_fewestSo) (t_traced := t_traced) (t_tape := t_tape) hQ  N l1 hR
set_option maxHeartbeats 4000000 in
set_option maxRecDepth 100000 in
theorem c_X9_look {sK sV : Nat → Nat} {l : Launch} {D : va_G} {cI cB cZ : ClassId} {N : Nat} {a_t : Nat} {a_t_tape : Nat} {a_t_now : Nat} {a_t_kept : Nat} {a_t_isKept : Nat} {a_t_acts : Nat} {a_t_was : Nat} {a_t_lanes : Nat} {a_t_longs : Nat} {a_t_isThere : Nat} {a_t_items : Nat} {a_t_copied : Nat} {a_t_readSorts : Nat} {a_t_readHands : Nat} {a_t_inTurn : Nat} {a_t_ends : Nat} {a_t_bestHands : Nat} {a_t_traces : Nat} {t_manyActs : Int32} {t_status : Int32} {t_tapeLong : Int32} {t_fault : Int32} {t_tokenAt : Int32} {t_tokenLong : Int32} {t_token : Int32} {t_value : Int32} {t_winner : Int32} {t_throwsOf : Int32} {t_handA : Int32} {t_handB : Int32} {t_fewestSo : Int32} {t_traced : Int32} {t_tape : (Nat → Int32)} {l1 : Int32} : ∀ R : Int32 × Int32 × Int32 × Int32, o_X9_look N t_tapeLong t_tape l1 = some R → ZMv sK sV l yX9_look wsX9_look rmX9_look D (zty cI cB cZ) [.ref a_t, .int l1] [(a_t, .inr (9, [.ref a_t_now, .ref a_t_kept, .ref a_t_isKept, .ref a_t_acts, .int t_manyActs, .ref a_t_was, .int t_status, .ref a_t_lanes, .ref a_t_longs, .ref a_t_isThere, .ref a_t_items, .ref a_t_copied, .ref a_t_tape, .int t_tapeLong, .int t_fault, .int t_tokenAt, .int t_tokenLong, .int t_token, .int t_value, .ref a_t_readSorts, .ref a_t_readHands, .int t_winner, .int t_throwsOf, .int t_handA, .int t_handB, .ref a_t_inTurn, .ref a_t_ends, .ref a_t_bestHands, .int t_fewestSo, .ref a_t_traces, .int t_traced])), (a_t_tape, .inl (cI, 200, .inl t_tape))] [(a_t, .inr (9, [.ref a_t_now, .ref a_t_kept, .ref a_t_isKept, .ref a_t_acts, .int t_manyActs, .ref a_t_was, .int t_status, .ref a_t_lanes, .ref a_t_longs, .ref a_t_isThere, .ref a_t_items, .ref a_t_copied, .ref a_t_tape, .int t_tapeLong, .int t_fault, .int R.1, .int R.2.1, .int R.2.2.1, .int R.2.2.2, .ref a_t_readSorts, .ref a_t_readHands, .int t_winner, .int t_throwsOf, .int t_handA, .int t_handB, .ref a_t_inTurn, .ref a_t_ends, .ref a_t_bestHands, .int t_fewestSo, .ref a_t_traces, .int t_traced])), (a_t_tape, .inl (cI, 200, .inl t_tape))] := by
  intro R hR
  refine zv_of (cc := cX9_look) (maxL := 5) (ret := none) (by decide) rfl (Nat.le_of_ble_eq_true rfl) (fun E hE1 hE2 hC hN hQ => ?_)
  subst hE1 hE2
  exact z_X9_look_0 hC hN (N := N) (a_t := a_t) (a_t_tape := a_t_tape) (a_t_now := a_t_now) (a_t_kept := a_t_kept) (a_t_isKept := a_t_isKept) (a_t_acts := a_t_acts) (a_t_was := a_t_was) (a_t_lanes := a_t_lanes) (a_t_longs := a_t_longs) (a_t_isThere := a_t_isThere) (a_t_items := a_t_items) (a_t_copied := a_t_copied) (a_t_readSorts := a_t_readSorts) (a_t_readHands := a_t_readHands) (a_t_inTurn := a_t_inTurn) (a_t_ends := a_t_ends) (a_t_bestHands := a_t_bestHands) (a_t_traces := a_t_traces) (t_manyActs := t_manyActs) (t_status := t_status) (t_tapeLong := t_tapeLong) (t_fault := t_fault) (t_tokenAt := t_tokenAt) (t_tokenLong := t_tokenLong) (t_token := t_token) (t_value := t_value) (t_winner := t_winner) (t_throwsOf := t_throwsOf) (t_handA := t_handA) (t_handB := t_handB) (t_fewestSo := t_fewestSo) (t_traced := t_traced) (t_tape := t_tape) (l1 := l1) hQ hR

/-! FistTrainsModel.goOn -/
abbrev rmX9_goOn : Room := { frames := 3, cells := 0, slots := 0, locals := 69 }
set_option maxRecDepth 20000 in
theorem iX9_goOn_X9 : ∀ w ∈ wsX90, w ∈ wsX9_goOn := by decide +kernel
set_option maxRecDepth 20000 in
theorem mX9_goOn_1 : Cond.fieldLink RX9 103 "FistTrainsModel" "tokenAt" "I" ∈ wsX9_goOn := List.mem_of_getElem? (i := 1) rfl
set_option maxRecDepth 20000 in
theorem mX9_goOn_2 : Cond.fieldLink RX9 106 "FistTrainsModel" "tokenLong" "I" ∈ wsX9_goOn := List.mem_of_getElem? (i := 2) rfl
def o_X9_goOn (N : Nat) (t_tapeLong : Int32) (t_tokenAt : Int32) (t_tokenLong : Int32) (t_tape : (Nat → Int32)) : Option (Int32 × Int32 × Int32 × Int32) :=
  Option.bind (o_X9_look N t_tapeLong t_tape (t_tokenAt + t_tokenLong)) (fun r10 =>
  some (r10.1, r10.2.1, r10.2.2.1, r10.2.2.2))
set_option maxHeartbeats 4000000 in
set_option maxRecDepth 100000 in
theorem z_X9_goOn_0 {sK sV : Nat → Nat} {E : ZE} {cI cB cZ : ClassId} (hC : ZC E 1 cX9_goOn wsX9_goOn RX9 rmX9_goOn none (zty cI cB cZ)) (hN : ZN sK sV (zA E) (zs E)) {N : Nat} {a_t : Nat} {a_t_tape : Nat} {a_t_now : Nat} {a_t_kept : Nat} {a_t_isKept : Nat} {a_t_acts : Nat} {a_t_was : Nat} {a_t_lanes : Nat} {a_t_longs : Nat} {a_t_isThere : Nat} {a_t_items : Nat} {a_t_copied : Nat} {a_t_readSorts : Nat} {a_t_readHands : Nat} {a_t_inTurn : Nat} {a_t_ends : Nat} {a_t_bestHands : Nat} {a_t_traces : Nat} {t_manyActs : Int32} {t_status : Int32} {t_tapeLong : Int32} {t_fault : Int32} {t_tokenAt : Int32} {t_tokenLong : Int32} {t_token : Int32} {t_value : Int32} {t_winner : Int32} {t_throwsOf : Int32} {t_handA : Int32} {t_handB : Int32} {t_fewestSo : Int32} {t_traced : Int32} {t_tape : (Nat → Int32)} {rf : Int32 × Int32 × Int32 × Int32} (hQ : ZQv E (zty cI cB cZ) [(a_t, .inr (9, [.ref a_t_now, .ref a_t_kept, .ref a_t_isKept, .ref a_t_acts, .int t_manyActs, .ref a_t_was, .int t_status, .ref a_t_lanes, .ref a_t_longs, .ref a_t_isThere, .ref a_t_items, .ref a_t_copied, .ref a_t_tape, .int t_tapeLong, .int t_fault, .int rf.1, .int rf.2.1, .int rf.2.2.1, .int rf.2.2.2, .ref a_t_readSorts, .ref a_t_readHands, .int t_winner, .int t_throwsOf, .int t_handA, .int t_handB, .ref a_t_inTurn, .ref a_t_ends, .ref a_t_bestHands, .int t_fewestSo, .ref a_t_traces, .int t_traced])), (a_t_tape, .inl (cI, 200, .inl t_tape))]) (hR : o_X9_goOn N t_tapeLong t_tokenAt t_tokenLong t_tape = some rf) : Z E (0, 0) [(0, .ref a_t)] 0 [] [(a_t, .inr (9, [.ref a_t_now, .ref a_t_kept, .ref a_t_isKept, .ref a_t_acts, .int t_manyActs, .ref a_t_was, .int t_status, .ref a_t_lanes, .ref a_t_longs, .ref a_t_isThere, .ref a_t_items, .ref a_t_copied, .ref a_t_tape, .int t_tapeLong, .int t_fault, .int t_tokenAt, .int t_tokenLong, .int t_token, .int t_value, .ref a_t_readSorts, .ref a_t_readHands, .int t_winner, .int t_throwsOf, .int t_handA, .int t_handB, .ref a_t_inTurn, .ref a_t_ends, .ref a_t_bestHands, .int t_fewestSo, .ref a_t_traces, .int t_traced])), (a_t_tape, .inl (cI, 200, .inl t_tape))] := by
  rw [o_X9_goOn] at hR
  refine z_aload_n hC dX9_goOn_0 rfl 0 rfl ?_
  refine z_aload_n hC dX9_goOn_1 rfl 0 rfl ?_
  refine z_get hC iX9_goOn_X9 rfl 0 15 rfl (by decide) mX9_goOn_1 rfl rfl dX9_goOn_2 ?_
  refine z_aload_n hC dX9_goOn_5 rfl 0 rfl ?_
  refine z_get hC iX9_goOn_X9 rfl 0 16 rfl (by decide) mX9_goOn_2 rfl rfl dX9_goOn_6 ?_
  refine z_iadd hC dX9_goOn_9 ?_
  refine z_callVv hC hN [.int (t_tokenAt + t_tokenLong)] [0, 1] (c_X9_look (l := zl E) (D := zD E) (cI := cI) (cB := cB) (cZ := cZ) (N := N) (a_t := a_t) (a_t_now := a_t_now) (a_t_kept := a_t_kept) (a_t_isKept := a_t_isKept) (a_t_acts := a_t_acts) (a_t_was := a_t_was) (a_t_lanes := a_t_lanes) (a_t_longs := a_t_longs) (a_t_isThere := a_t_isThere) (a_t_items := a_t_items) (a_t_copied := a_t_copied) (a_t_tape := a_t_tape) (a_t_readSorts := a_t_readSorts) (a_t_readHands := a_t_readHands) (a_t_inTurn := a_t_inTurn) (a_t_ends := a_t_ends) (a_t_bestHands := a_t_bestHands) (a_t_traces := a_t_traces) (l1 := (t_tokenAt + t_tokenLong)) (t_manyActs := t_manyActs) (t_status := t_status) (t_tapeLong := t_tapeLong) (t_fault := t_fault) (t_tokenAt := t_tokenAt) (t_tokenLong := t_tokenLong) (t_token := t_token) (t_value := t_value) (t_winner := t_winner) (t_throwsOf := t_throwsOf) (t_handA := t_handA) (t_handB := t_handB) (t_fewestSo := t_fewestSo) (t_traced := t_traced) (t_tape := t_tape)) rfl ⟨rfl, rfl⟩ gX9_goOn_X9_look hvX9_look 0 9 rfl rfl rfl ⟨Nat.le_of_ble_eq_true rfl, Nat.le_of_ble_eq_true rfl⟩ ⟨Nat.zero_le _, Nat.zero_le _⟩ rfl (Nat.le_of_ble_eq_true rfl) rfl (by decide) (fun _ => rfl) dX9_goOn_10 hR (fun r10 hR => ?_)
  refine z_eq [(a_t, .inr (9, [.ref a_t_now, .ref a_t_kept, .ref a_t_isKept, .ref a_t_acts, .int t_manyActs, .ref a_t_was, .int t_status, .ref a_t_lanes, .ref a_t_longs, .ref a_t_isThere, .ref a_t_items, .ref a_t_copied, .ref a_t_tape, .int t_tapeLong, .int t_fault, .int r10.1, .int r10.2.1, .int r10.2.2.1, .int r10.2.2.2, .ref a_t_readSorts, .ref a_t_readHands, .int t_winner, .int t_throwsOf, .int t_handA, .int t_handB, .ref a_t_inTurn, .ref a_t_ends, .ref a_t_bestHands, .int t_fewestSo, .ref a_t_traces, .int t_traced])), (a_t_tape, .inl (cI, 200, .inl t_tape))] rfl ?_
  obtain rfl := Option.some.inj hR
  exact z_vret hC hQ rfl dX9_goOn_13
set_option maxHeartbeats 4000000 in
set_option maxRecDepth 100000 in
theorem c_X9_goOn {sK sV : Nat → Nat} {l : Launch} {D : va_G} {cI cB cZ : ClassId} {N : Nat} {a_t : Nat} {a_t_tape : Nat} {a_t_now : Nat} {a_t_kept : Nat} {a_t_isKept : Nat} {a_t_acts : Nat} {a_t_was : Nat} {a_t_lanes : Nat} {a_t_longs : Nat} {a_t_isThere : Nat} {a_t_items : Nat} {a_t_copied : Nat} {a_t_readSorts : Nat} {a_t_readHands : Nat} {a_t_inTurn : Nat} {a_t_ends : Nat} {a_t_bestHands : Nat} {a_t_traces : Nat} {t_manyActs : Int32} {t_status : Int32} {t_tapeLong : Int32} {t_fault : Int32} {t_tokenAt : Int32} {t_tokenLong : Int32} {t_token : Int32} {t_value : Int32} {t_winner : Int32} {t_throwsOf : Int32} {t_handA : Int32} {t_handB : Int32} {t_fewestSo : Int32} {t_traced : Int32} {t_tape : (Nat → Int32)} : ∀ R : Int32 × Int32 × Int32 × Int32, o_X9_goOn N t_tapeLong t_tokenAt t_tokenLong t_tape = some R → ZMv sK sV l yX9_goOn wsX9_goOn rmX9_goOn D (zty cI cB cZ) [.ref a_t] [(a_t, .inr (9, [.ref a_t_now, .ref a_t_kept, .ref a_t_isKept, .ref a_t_acts, .int t_manyActs, .ref a_t_was, .int t_status, .ref a_t_lanes, .ref a_t_longs, .ref a_t_isThere, .ref a_t_items, .ref a_t_copied, .ref a_t_tape, .int t_tapeLong, .int t_fault, .int t_tokenAt, .int t_tokenLong, .int t_token, .int t_value, .ref a_t_readSorts, .ref a_t_readHands, .int t_winner, .int t_throwsOf, .int t_handA, .int t_handB, .ref a_t_inTurn, .ref a_t_ends, .ref a_t_bestHands, .int t_fewestSo, .ref a_t_traces, .int t_traced])), (a_t_tape, .inl (cI, 200, .inl t_tape))] [(a_t, .inr (9, [.ref a_t_now, .ref a_t_kept, .ref a_t_isKept, .ref a_t_acts, .int t_manyActs, .ref a_t_was, .int t_status, .ref a_t_lanes, .ref a_t_longs, .ref a_t_isThere, .ref a_t_items, .ref a_t_copied, .ref a_t_tape, .int t_tapeLong, .int t_fault, .int R.1, .int R.2.1, .int R.2.2.1, .int R.2.2.2, .ref a_t_readSorts, .ref a_t_readHands, .int t_winner, .int t_throwsOf, .int t_handA, .int t_handB, .ref a_t_inTurn, .ref a_t_ends, .ref a_t_bestHands, .int t_fewestSo, .ref a_t_traces, .int t_traced])), (a_t_tape, .inl (cI, 200, .inl t_tape))] := by
  intro R hR
  refine zv_of (cc := cX9_goOn) (maxL := 1) (ret := none) (by decide) rfl (Nat.le_of_ble_eq_true rfl) (fun E hE1 hE2 hC hN hQ => ?_)
  subst hE1 hE2
  exact z_X9_goOn_0 hC hN (N := N) (a_t := a_t) (a_t_tape := a_t_tape) (a_t_now := a_t_now) (a_t_kept := a_t_kept) (a_t_isKept := a_t_isKept) (a_t_acts := a_t_acts) (a_t_was := a_t_was) (a_t_lanes := a_t_lanes) (a_t_longs := a_t_longs) (a_t_isThere := a_t_isThere) (a_t_items := a_t_items) (a_t_copied := a_t_copied) (a_t_readSorts := a_t_readSorts) (a_t_readHands := a_t_readHands) (a_t_inTurn := a_t_inTurn) (a_t_ends := a_t_ends) (a_t_bestHands := a_t_bestHands) (a_t_traces := a_t_traces) (t_manyActs := t_manyActs) (t_status := t_status) (t_tapeLong := t_tapeLong) (t_fault := t_fault) (t_tokenAt := t_tokenAt) (t_tokenLong := t_tokenLong) (t_token := t_token) (t_value := t_value) (t_winner := t_winner) (t_throwsOf := t_throwsOf) (t_handA := t_handA) (t_handB := t_handB) (t_fewestSo := t_fewestSo) (t_traced := t_traced) (t_tape := t_tape) hQ hR

/-! FistTrainsModel.isName -/
abbrev rmX9_isName : Room := { frames := 0, cells := 0, slots := 0, locals := 0 }
set_option maxRecDepth 20000 in
theorem iX9_isName_X9 : ∀ w ∈ wsX90, w ∈ wsX9_isName := by decide +kernel
set_option maxRecDepth 20000 in
theorem mX9_isName_1 : Cond.fieldLink RX9 109 "FistTrainsModel" "token" "I" ∈ wsX9_isName := List.mem_of_getElem? (i := 1) rfl
set_option maxRecDepth 20000 in
theorem mX9_isName_2 : Cond.fieldLink RX9 106 "FistTrainsModel" "tokenLong" "I" ∈ wsX9_isName := List.mem_of_getElem? (i := 2) rfl
set_option maxRecDepth 20000 in
theorem mX9_isName_3 : Cond.fieldLink RX9 41 "FistTrainsModel" "tape" "[I" ∈ wsX9_isName := List.mem_of_getElem? (i := 3) rfl
set_option maxRecDepth 20000 in
theorem mX9_isName_4 : Cond.fieldLink RX9 103 "FistTrainsModel" "tokenAt" "I" ∈ wsX9_isName := List.mem_of_getElem? (i := 4) rfl
set_option maxRecDepth 20000 in
theorem mX9_isName_5 : Cond.constantLong RX9 125 (31) ∈ wsX9_isName := List.mem_of_getElem? (i := 5) rfl
def o_X9_isName_71 (N : Nat) (K31 : Int32 → Int64 → Int32 → Option (Int32)) (t_tokenAt : Int32) (t_tape : (Nat → Int32)) (L5 : Int64) (l7 : Int32) (s0 : Int32) : Option (Int32) :=
  K31 s0 (L5 >>> (Int32.toInt64 5 &&& 63)) (l7 + (-1))
def o_X9_isName_31 (N : Nat) (t_tokenAt : Int32) (t_tape : (Nat → Int32)) : Nat → Int32 → Int64 → Int32 → Option (Int32)
  | 0 => fun _ _ _ => none
  | n + 1 => fun l4 L5 l7 => 
    if l7 < 0 then
      ogd (isb l4) (
      some (l4))
    else
      if l4 = 0 then
        ogd (isb l4) (
        some (l4))
      else
        ogd (inb (t_tokenAt + l7) 200) (
        if (t_tape (Int32.toNatClampNeg (t_tokenAt + l7))) = (96 + (Int64.toInt32 (L5 &&& 31))) then
          o_X9_isName_71 N (o_X9_isName_31 N t_tokenAt t_tape n) t_tokenAt t_tape L5 l7 1
        else
          o_X9_isName_71 N (o_X9_isName_31 N t_tokenAt t_tape n) t_tokenAt t_tape L5 l7 0)
def o_X9_isName_21 (N : Nat) (t_tokenAt : Int32) (t_tape : (Nat → Int32)) (L1 : Int64) (l3 : Int32) (s0 : Int32) : Option (Int32) :=
  o_X9_isName_31 N t_tokenAt t_tape N s0 L1 (l3 - 1)
def o_X9_isName_20 (N : Nat) (t_tokenAt : Int32) (t_tape : (Nat → Int32)) (L1 : Int64) (l3 : Int32) : Option (Int32) :=
  o_X9_isName_21 N t_tokenAt t_tape L1 l3 0
def o_X9_isName (N : Nat) (t_tokenAt : Int32) (t_tokenLong : Int32) (t_token : Int32) (t_tape : (Nat → Int32)) (L1 : Int64) (l3 : Int32) : Option (Int32) :=
  if t_token = 1 then
    if t_tokenLong = l3 then
      o_X9_isName_21 N t_tokenAt t_tape L1 l3 1
    else
      o_X9_isName_20 N t_tokenAt t_tape L1 l3
  else
    o_X9_isName_20 N t_tokenAt t_tape L1 l3
set_option maxHeartbeats 4000000 in
set_option maxRecDepth 100000 in
theorem z_X9_isName_71 {sK sV : Nat → Nat} {E : ZE} {cI cB cZ : ClassId} (hC : ZC E 8 cX9_isName wsX9_isName RX9 rmX9_isName (some .boolean) (zty cI cB cZ)) (hN : ZN sK sV (zA E) (zs E)) {N : Nat} {a_t : Nat} {a_t_tape : Nat} {a_t_now : Nat} {a_t_kept : Nat} {a_t_isKept : Nat} {a_t_acts : Nat} {a_t_was : Nat} {a_t_lanes : Nat} {a_t_longs : Nat} {a_t_isThere : Nat} {a_t_items : Nat} {a_t_copied : Nat} {a_t_readSorts : Nat} {a_t_readHands : Nat} {a_t_inTurn : Nat} {a_t_ends : Nat} {a_t_bestHands : Nat} {a_t_traces : Nat} {t_manyActs : Int32} {t_status : Int32} {t_tapeLong : Int32} {t_fault : Int32} {t_tokenAt : Int32} {t_tokenLong : Int32} {t_token : Int32} {t_value : Int32} {t_winner : Int32} {t_throwsOf : Int32} {t_handA : Int32} {t_handB : Int32} {t_fewestSo : Int32} {t_traced : Int32} {t_tape : (Nat → Int32)} {L5 : Int64} {l7 : Int32} {s0 : Int32} {K31 : Int32 → Int64 → Int32 → Option (Int32)} {rf : Int32} (hQ : ZQi E (zty cI cB cZ) rf [(a_t, .inr (9, [.ref a_t_now, .ref a_t_kept, .ref a_t_isKept, .ref a_t_acts, .int t_manyActs, .ref a_t_was, .int t_status, .ref a_t_lanes, .ref a_t_longs, .ref a_t_isThere, .ref a_t_items, .ref a_t_copied, .ref a_t_tape, .int t_tapeLong, .int t_fault, .int t_tokenAt, .int t_tokenLong, .int t_token, .int t_value, .ref a_t_readSorts, .ref a_t_readHands, .int t_winner, .int t_throwsOf, .int t_handA, .int t_handB, .ref a_t_inTurn, .ref a_t_ends, .ref a_t_bestHands, .int t_fewestSo, .ref a_t_traces, .int t_traced])), (a_t_tape, .inl (cI, 200, .inl t_tape))]) (hK31 : ∀ (l4 : Int32) (L5 : Int64) (l7 : Int32), K31 l4 L5 l7 = some rf → Z E (0, 0) [(0, .ref a_t), (4, .int l4), (5, .long L5), (7, .int l7)] 31 [] [(a_t, .inr (9, [.ref a_t_now, .ref a_t_kept, .ref a_t_isKept, .ref a_t_acts, .int t_manyActs, .ref a_t_was, .int t_status, .ref a_t_lanes, .ref a_t_longs, .ref a_t_isThere, .ref a_t_items, .ref a_t_copied, .ref a_t_tape, .int t_tapeLong, .int t_fault, .int t_tokenAt, .int t_tokenLong, .int t_token, .int t_value, .ref a_t_readSorts, .ref a_t_readHands, .int t_winner, .int t_throwsOf, .int t_handA, .int t_handB, .ref a_t_inTurn, .ref a_t_ends, .ref a_t_bestHands, .int t_fewestSo, .ref a_t_traces, .int t_traced])), (a_t_tape, .inl (cI, 200, .inl t_tape))]) (hR : o_X9_isName_71 N K31 t_tokenAt t_tape L5 l7 s0 = some rf) : Z E (0, 0) [(0, .ref a_t), (5, .long L5), (7, .int l7)] 71 [.int s0] [(a_t, .inr (9, [.ref a_t_now, .ref a_t_kept, .ref a_t_isKept, .ref a_t_acts, .int t_manyActs, .ref a_t_was, .int t_status, .ref a_t_lanes, .ref a_t_longs, .ref a_t_isThere, .ref a_t_items, .ref a_t_copied, .ref a_t_tape, .int t_tapeLong, .int t_fault, .int t_tokenAt, .int t_tokenLong, .int t_token, .int t_value, .ref a_t_readSorts, .ref a_t_readHands, .int t_winner, .int t_throwsOf, .int t_handA, .int t_handB, .ref a_t_inTurn, .ref a_t_ends, .ref a_t_bestHands, .int t_fewestSo, .ref a_t_traces, .int t_traced])), (a_t_tape, .inl (cI, 200, .inl t_tape))] := by
  rw [o_X9_isName_71] at hR
  refine z_istore hC [(4, .int s0), (0, .ref a_t), (5, .long L5), (7, .int l7)] dX9_isName_71 (by decide) rfl ?_
  refine z_lload hC dX9_isName_73 2 rfl ?_
  refine z_ic5 hC dX9_isName_75 ?_
  refine z_lshr hC dX9_isName_76 ?_
  refine z_lstore hC [(5, .long (L5 >>> (Int32.toInt64 5 &&& 63))), (4, .int s0), (0, .ref a_t), (7, .int l7)] dX9_isName_77 (by decide) rfl ?_
  refine z_iincm1 hC [(7, .int (l7 + (-1))), (5, .long (L5 >>> (Int32.toInt64 5 &&& 63))), (4, .int s0), (0, .ref a_t)] dX9_isName_79 3 rfl (by decide) rfl ?_
  refine z_goto hC 31 dX9_isName_82 (by decide) ?_
  refine z_sub (lv' := [(0, .ref a_t), (4, .int s0), (5, .long (L5 >>> (Int32.toInt64 5 &&& 63))), (7, .int (l7 + (-1)))]) [3, 2, 1, 0] rfl ?_
  exact hK31 s0 (L5 >>> (Int32.toInt64 5 &&& 63)) (l7 + (-1)) hR
set_option maxHeartbeats 4000000 in
set_option maxRecDepth 100000 in
theorem z_X9_isName_31 {sK sV : Nat → Nat} {E : ZE} {cI cB cZ : ClassId} (hC : ZC E 8 cX9_isName wsX9_isName RX9 rmX9_isName (some .boolean) (zty cI cB cZ)) (hN : ZN sK sV (zA E) (zs E)) {N : Nat} {a_t : Nat} {a_t_tape : Nat} {a_t_now : Nat} {a_t_kept : Nat} {a_t_isKept : Nat} {a_t_acts : Nat} {a_t_was : Nat} {a_t_lanes : Nat} {a_t_longs : Nat} {a_t_isThere : Nat} {a_t_items : Nat} {a_t_copied : Nat} {a_t_readSorts : Nat} {a_t_readHands : Nat} {a_t_inTurn : Nat} {a_t_ends : Nat} {a_t_bestHands : Nat} {a_t_traces : Nat} {t_manyActs : Int32} {t_status : Int32} {t_tapeLong : Int32} {t_fault : Int32} {t_tokenAt : Int32} {t_tokenLong : Int32} {t_token : Int32} {t_value : Int32} {t_winner : Int32} {t_throwsOf : Int32} {t_handA : Int32} {t_handB : Int32} {t_fewestSo : Int32} {t_traced : Int32} {t_tape : (Nat → Int32)} {rf : Int32} (hQ : ZQi E (zty cI cB cZ) rf [(a_t, .inr (9, [.ref a_t_now, .ref a_t_kept, .ref a_t_isKept, .ref a_t_acts, .int t_manyActs, .ref a_t_was, .int t_status, .ref a_t_lanes, .ref a_t_longs, .ref a_t_isThere, .ref a_t_items, .ref a_t_copied, .ref a_t_tape, .int t_tapeLong, .int t_fault, .int t_tokenAt, .int t_tokenLong, .int t_token, .int t_value, .ref a_t_readSorts, .ref a_t_readHands, .int t_winner, .int t_throwsOf, .int t_handA, .int t_handB, .ref a_t_inTurn, .ref a_t_ends, .ref a_t_bestHands, .int t_fewestSo, .ref a_t_traces, .int t_traced])), (a_t_tape, .inl (cI, 200, .inl t_tape))]) : ∀ (n : Nat) (l4 : Int32) (L5 : Int64) (l7 : Int32), o_X9_isName_31 N t_tokenAt t_tape n l4 L5 l7 = some rf → Z E (0, 0) [(0, .ref a_t), (4, .int l4), (5, .long L5), (7, .int l7)] 31 [] [(a_t, .inr (9, [.ref a_t_now, .ref a_t_kept, .ref a_t_isKept, .ref a_t_acts, .int t_manyActs, .ref a_t_was, .int t_status, .ref a_t_lanes, .ref a_t_longs, .ref a_t_isThere, .ref a_t_items, .ref a_t_copied, .ref a_t_tape, .int t_tapeLong, .int t_fault, .int t_tokenAt, .int t_tokenLong, .int t_token, .int t_value, .ref a_t_readSorts, .ref a_t_readHands, .int t_winner, .int t_throwsOf, .int t_handA, .int t_handB, .ref a_t_inTurn, .ref a_t_ends, .ref a_t_bestHands, .int t_fewestSo, .ref a_t_traces, .int t_traced])), (a_t_tape, .inl (cI, 200, .inl t_tape))] := by
  intro n
  induction n with
  | zero =>
    intro l4 L5 l7 hR
    cases hR
  | succ n ih =>
    intro l4 L5 l7 hR
    rw [o_X9_isName_31] at hR
    refine z_iload hC dX9_isName_31 3 rfl ?_
    refine z_if_lt hC 85 dX9_isName_33 (by decide) hR (fun hR => ?_) (fun hR => ?_)
    · refine z_iload hC dX9_isName_85 1 rfl ?_
      obtain ⟨hb9, hR⟩ := ogd_s hR
      obtain rfl := Option.some.inj hR
      exact z_iret hC hQ (isb_s hb9) rfl rfl dX9_isName_87
    · refine z_iload hC dX9_isName_36 1 rfl ?_
      refine z_if_eq hC 85 dX9_isName_38 (by decide) hR (fun hR => ?_) (fun hR => ?_)
      · refine z_iload hC dX9_isName_85 1 rfl ?_
        obtain ⟨hb9, hR⟩ := ogd_s hR
        obtain rfl := Option.some.inj hR
        exact z_iret hC hQ (isb_s hb9) rfl rfl dX9_isName_87
      · refine z_aload_n hC dX9_isName_41 rfl 0 rfl ?_
        refine z_get hC iX9_isName_X9 rfl 0 12 rfl (by decide) mX9_isName_3 rfl rfl dX9_isName_42 ?_
        refine z_aload_n hC dX9_isName_45 rfl 0 rfl ?_
        refine z_get hC iX9_isName_X9 rfl 0 15 rfl (by decide) mX9_isName_4 rfl rfl dX9_isName_46 ?_
        refine z_iload hC dX9_isName_49 3 rfl ?_
        refine z_iadd hC dX9_isName_51 ?_
        refine z_iald hC 1 0 rfl rfl dX9_isName_52 hR (fun hR => ?_)
        refine z_bipush (v := 96) hC dX9_isName_53 (by decide) ?_
        refine z_lload hC dX9_isName_55 2 rfl ?_
        refine z_ldc2 hC 31 mX9_isName_5 dX9_isName_57 ?_
        refine z_land hC dX9_isName_60 ?_
        refine z_l2i hC dX9_isName_61 ?_
        refine z_iadd hC dX9_isName_62 ?_
        refine z_icmp_ne hC 70 dX9_isName_63 (by decide) hR (fun hR => ?_) (fun hR => ?_)
        · refine z_ic0 hC dX9_isName_70 ?_
          refine z_sub (lv' := [(0, .ref a_t), (5, .long L5), (7, .int l7)]) [0, 2, 3] rfl ?_
          exact z_X9_isName_71 hC hN (N := N) (a_t := a_t) (a_t_tape := a_t_tape) (a_t_now := a_t_now) (a_t_kept := a_t_kept) (a_t_isKept := a_t_isKept) (a_t_acts := a_t_acts) (a_t_was := a_t_was) (a_t_lanes := a_t_lanes) (a_t_longs := a_t_longs) (a_t_isThere := a_t_isThere) (a_t_items := a_t_items) (a_t_copied := a_t_copied) (a_t_readSorts := a_t_readSorts) (a_t_readHands := a_t_readHands) (a_t_inTurn := a_t_inTurn) (a_t_ends := a_t_ends) (a_t_bestHands := a_t_bestHands) (a_t_traces := a_t_traces) (t_manyActs := t_manyActs) (t_status := t_status) (t_tapeLong := t_tapeLong) (t_fault := t_fault) (t_tokenAt := t_tokenAt) (t_tokenLong := t_tokenLong) (t_token := t_token) (t_value := t_value) (t_winner := t_winner) (t_throwsOf := t_throwsOf) (t_handA := t_handA) (t_handB := t_handB) (t_fewestSo := t_fewestSo) (t_traced := t_traced) (t_tape := t_tape) (L5 := L5) (l7 := l7) (s0 := 0) hQ ih hR
        · refine z_ic1 hC dX9_isName_66 ?_
          refine z_goto hC 71 dX9_isName_67 (by decide) ?_
          refine z_sub (lv' := [(0, .ref a_t), (5, .long L5), (7, .int l7)]) [0, 2, 3] rfl ?_
          exact z_X9_isName_71 hC hN (N := N) (a_t := a_t) (a_t_tape := a_t_tape) (a_t_now := a_t_now) (a_t_kept := a_t_kept) (a_t_isKept := a_t_isKept) (a_t_acts := a_t_acts) (a_t_was := a_t_was) (a_t_lanes := a_t_lanes) (a_t_longs := a_t_longs) (a_t_isThere := a_t_isThere) (a_t_items := a_t_items) (a_t_copied := a_t_copied) (a_t_readSorts := a_t_readSorts) (a_t_readHands := a_t_readHands) (a_t_inTurn := a_t_inTurn) (a_t_ends := a_t_ends) (a_t_bestHands := a_t_bestHands) (a_t_traces := a_t_traces) (t_manyActs := t_manyActs) (t_status := t_status) (t_tapeLong := t_tapeLong) (t_fault := t_fault) (t_tokenAt := t_tokenAt) (t_tokenLong := t_tokenLong) (t_token := t_token) (t_value := t_value) (t_winner := t_winner) (t_throwsOf := t_throwsOf) (t_handA := t_handA) (t_handB := t_handB) (t_fewestSo := t_fewestSo) (t_traced := t_traced) (t_tape := t_tape) (L5 := L5) (l7 := l7) (s0 := 1) hQ ih hR
set_option maxHeartbeats 4000000 in
set_option maxRecDepth 100000 in
theorem z_X9_isName_21 {sK sV : Nat → Nat} {E : ZE} {cI cB cZ : ClassId} (hC : ZC E 8 cX9_isName wsX9_isName RX9 rmX9_isName (some .boolean) (zty cI cB cZ)) (hN : ZN sK sV (zA E) (zs E)) {N : Nat} {a_t : Nat} {a_t_tape : Nat} {a_t_now : Nat} {a_t_kept : Nat} {a_t_isKept : Nat} {a_t_acts : Nat} {a_t_was : Nat} {a_t_lanes : Nat} {a_t_longs : Nat} {a_t_isThere : Nat} {a_t_items : Nat} {a_t_copied : Nat} {a_t_readSorts : Nat} {a_t_readHands : Nat} {a_t_inTurn : Nat} {a_t_ends : Nat} {a_t_bestHands : Nat} {a_t_traces : Nat} {t_manyActs : Int32} {t_status : Int32} {t_tapeLong : Int32} {t_fault : Int32} {t_tokenAt : Int32} {t_tokenLong : Int32} {t_token : Int32} {t_value : Int32} {t_winner : Int32} {t_throwsOf : Int32} {t_handA : Int32} {t_handB : Int32} {t_fewestSo : Int32} {t_traced : Int32} {t_tape : (Nat → Int32)} {L1 : Int64} {l3 : Int32} {s0 : Int32} {rf : Int32} (hQ : ZQi E (zty cI cB cZ) rf [(a_t, .inr (9, [.ref a_t_now, .ref a_t_kept, .ref a_t_isKept, .ref a_t_acts, .int t_manyActs, .ref a_t_was, .int t_status, .ref a_t_lanes, .ref a_t_longs, .ref a_t_isThere, .ref a_t_items, .ref a_t_copied, .ref a_t_tape, .int t_tapeLong, .int t_fault, .int t_tokenAt, .int t_tokenLong, .int t_token, .int t_value, .ref a_t_readSorts, .ref a_t_readHands, .int t_winner, .int t_throwsOf, .int t_handA, .int t_handB, .ref a_t_inTurn, .ref a_t_ends, .ref a_t_bestHands, .int t_fewestSo, .ref a_t_traces, .int t_traced])), (a_t_tape, .inl (cI, 200, .inl t_tape))]) (hR : o_X9_isName_21 N t_tokenAt t_tape L1 l3 s0 = some rf) : Z E (0, 0) [(0, .ref a_t), (1, .long L1), (3, .int l3)] 21 [.int s0] [(a_t, .inr (9, [.ref a_t_now, .ref a_t_kept, .ref a_t_isKept, .ref a_t_acts, .int t_manyActs, .ref a_t_was, .int t_status, .ref a_t_lanes, .ref a_t_longs, .ref a_t_isThere, .ref a_t_items, .ref a_t_copied, .ref a_t_tape, .int t_tapeLong, .int t_fault, .int t_tokenAt, .int t_tokenLong, .int t_token, .int t_value, .ref a_t_readSorts, .ref a_t_readHands, .int t_winner, .int t_throwsOf, .int t_handA, .int t_handB, .ref a_t_inTurn, .ref a_t_ends, .ref a_t_bestHands, .int t_fewestSo, .ref a_t_traces, .int t_traced])), (a_t_tape, .inl (cI, 200, .inl t_tape))] := by
  rw [o_X9_isName_21] at hR
  refine z_istore hC [(4, .int s0), (0, .ref a_t), (1, .long L1), (3, .int l3)] dX9_isName_21 (by decide) rfl ?_
  refine z_lload_n hC dX9_isName_23 rfl 2 rfl ?_
  refine z_lstore hC [(5, .long L1), (4, .int s0), (0, .ref a_t), (1, .long L1), (3, .int l3)] dX9_isName_24 (by decide) rfl ?_
  refine z_iload_n hC dX9_isName_26 rfl 4 rfl ?_
  refine z_ic1 hC dX9_isName_27 ?_
  refine z_isub hC dX9_isName_28 ?_
  refine z_istore hC [(7, .int (l3 - 1)), (5, .long L1), (4, .int s0), (0, .ref a_t), (1, .long L1), (3, .int l3)] dX9_isName_29 (by decide) rfl ?_
  refine z_sub (lv' := [(0, .ref a_t), (4, .int s0), (5, .long L1), (7, .int (l3 - 1))]) [3, 2, 1, 0] rfl ?_
  exact z_X9_isName_31 hC hN (N := N) (a_t := a_t) (a_t_tape := a_t_tape) (a_t_now := a_t_now) (a_t_kept := a_t_kept) (a_t_isKept := a_t_isKept) (a_t_acts := a_t_acts) (a_t_was := a_t_was) (a_t_lanes := a_t_lanes) (a_t_longs := a_t_longs) (a_t_isThere := a_t_isThere) (a_t_items := a_t_items) (a_t_copied := a_t_copied) (a_t_readSorts := a_t_readSorts) (a_t_readHands := a_t_readHands) (a_t_inTurn := a_t_inTurn) (a_t_ends := a_t_ends) (a_t_bestHands := a_t_bestHands) (a_t_traces := a_t_traces) (t_manyActs := t_manyActs) (t_status := t_status) (t_tapeLong := t_tapeLong) (t_fault := t_fault) (t_tokenAt := t_tokenAt) (t_tokenLong := t_tokenLong) (t_token := t_token) (t_value := t_value) (t_winner := t_winner) (t_throwsOf := t_throwsOf) (t_handA := t_handA) (t_handB := t_handB) (t_fewestSo := t_fewestSo) (t_traced := t_traced) (t_tape := t_tape) hQ  N s0 L1 (l3 - 1) hR
set_option maxHeartbeats 4000000 in
set_option maxRecDepth 100000 in
theorem z_X9_isName_20 {sK sV : Nat → Nat} {E : ZE} {cI cB cZ : ClassId} (hC : ZC E 8 cX9_isName wsX9_isName RX9 rmX9_isName (some .boolean) (zty cI cB cZ)) (hN : ZN sK sV (zA E) (zs E)) {N : Nat} {a_t : Nat} {a_t_tape : Nat} {a_t_now : Nat} {a_t_kept : Nat} {a_t_isKept : Nat} {a_t_acts : Nat} {a_t_was : Nat} {a_t_lanes : Nat} {a_t_longs : Nat} {a_t_isThere : Nat} {a_t_items : Nat} {a_t_copied : Nat} {a_t_readSorts : Nat} {a_t_readHands : Nat} {a_t_inTurn : Nat} {a_t_ends : Nat} {a_t_bestHands : Nat} {a_t_traces : Nat} {t_manyActs : Int32} {t_status : Int32} {t_tapeLong : Int32} {t_fault : Int32} {t_tokenAt : Int32} {t_tokenLong : Int32} {t_token : Int32} {t_value : Int32} {t_winner : Int32} {t_throwsOf : Int32} {t_handA : Int32} {t_handB : Int32} {t_fewestSo : Int32} {t_traced : Int32} {t_tape : (Nat → Int32)} {L1 : Int64} {l3 : Int32} {rf : Int32} (hQ : ZQi E (zty cI cB cZ) rf [(a_t, .inr (9, [.ref a_t_now, .ref a_t_kept, .ref a_t_isKept, .ref a_t_acts, .int t_manyActs, .ref a_t_was, .int t_status, .ref a_t_lanes, .ref a_t_longs, .ref a_t_isThere, .ref a_t_items, .ref a_t_copied, .ref a_t_tape, .int t_tapeLong, .int t_fault, .int t_tokenAt, .int t_tokenLong, .int t_token, .int t_value, .ref a_t_readSorts, .ref a_t_readHands, .int t_winner, .int t_throwsOf, .int t_handA, .int t_handB, .ref a_t_inTurn, .ref a_t_ends, .ref a_t_bestHands, .int t_fewestSo, .ref a_t_traces, .int t_traced])), (a_t_tape, .inl (cI, 200, .inl t_tape))]) (hR : o_X9_isName_20 N t_tokenAt t_tape L1 l3 = some rf) : Z E (0, 0) [(0, .ref a_t), (1, .long L1), (3, .int l3)] 20 [] [(a_t, .inr (9, [.ref a_t_now, .ref a_t_kept, .ref a_t_isKept, .ref a_t_acts, .int t_manyActs, .ref a_t_was, .int t_status, .ref a_t_lanes, .ref a_t_longs, .ref a_t_isThere, .ref a_t_items, .ref a_t_copied, .ref a_t_tape, .int t_tapeLong, .int t_fault, .int t_tokenAt, .int t_tokenLong, .int t_token, .int t_value, .ref a_t_readSorts, .ref a_t_readHands, .int t_winner, .int t_throwsOf, .int t_handA, .int t_handB, .ref a_t_inTurn, .ref a_t_ends, .ref a_t_bestHands, .int t_fewestSo, .ref a_t_traces, .int t_traced])), (a_t_tape, .inl (cI, 200, .inl t_tape))] := by
  rw [o_X9_isName_20] at hR
  refine z_ic0 hC dX9_isName_20 ?_
  exact z_X9_isName_21 hC hN (N := N) (a_t := a_t) (a_t_tape := a_t_tape) (a_t_now := a_t_now) (a_t_kept := a_t_kept) (a_t_isKept := a_t_isKept) (a_t_acts := a_t_acts) (a_t_was := a_t_was) (a_t_lanes := a_t_lanes) (a_t_longs := a_t_longs) (a_t_isThere := a_t_isThere) (a_t_items := a_t_items) (a_t_copied := a_t_copied) (a_t_readSorts := a_t_readSorts) (a_t_readHands := a_t_readHands) (a_t_inTurn := a_t_inTurn) (a_t_ends := a_t_ends) (a_t_bestHands := a_t_bestHands) (a_t_traces := a_t_traces) (t_manyActs := t_manyActs) (t_status := t_status) (t_tapeLong := t_tapeLong) (t_fault := t_fault) (t_tokenAt := t_tokenAt) (t_tokenLong := t_tokenLong) (t_token := t_token) (t_value := t_value) (t_winner := t_winner) (t_throwsOf := t_throwsOf) (t_handA := t_handA) (t_handB := t_handB) (t_fewestSo := t_fewestSo) (t_traced := t_traced) (t_tape := t_tape) (L1 := L1) (l3 := l3) (s0 := 0) hQ  hR
set_option maxHeartbeats 4000000 in
set_option maxRecDepth 100000 in
theorem z_X9_isName_0 {sK sV : Nat → Nat} {E : ZE} {cI cB cZ : ClassId} (hC : ZC E 8 cX9_isName wsX9_isName RX9 rmX9_isName (some .boolean) (zty cI cB cZ)) (hN : ZN sK sV (zA E) (zs E)) {N : Nat} {a_t : Nat} {a_t_tape : Nat} {a_t_now : Nat} {a_t_kept : Nat} {a_t_isKept : Nat} {a_t_acts : Nat} {a_t_was : Nat} {a_t_lanes : Nat} {a_t_longs : Nat} {a_t_isThere : Nat} {a_t_items : Nat} {a_t_copied : Nat} {a_t_readSorts : Nat} {a_t_readHands : Nat} {a_t_inTurn : Nat} {a_t_ends : Nat} {a_t_bestHands : Nat} {a_t_traces : Nat} {t_manyActs : Int32} {t_status : Int32} {t_tapeLong : Int32} {t_fault : Int32} {t_tokenAt : Int32} {t_tokenLong : Int32} {t_token : Int32} {t_value : Int32} {t_winner : Int32} {t_throwsOf : Int32} {t_handA : Int32} {t_handB : Int32} {t_fewestSo : Int32} {t_traced : Int32} {t_tape : (Nat → Int32)} {L1 : Int64} {l3 : Int32} {rf : Int32} (hQ : ZQi E (zty cI cB cZ) rf [(a_t, .inr (9, [.ref a_t_now, .ref a_t_kept, .ref a_t_isKept, .ref a_t_acts, .int t_manyActs, .ref a_t_was, .int t_status, .ref a_t_lanes, .ref a_t_longs, .ref a_t_isThere, .ref a_t_items, .ref a_t_copied, .ref a_t_tape, .int t_tapeLong, .int t_fault, .int t_tokenAt, .int t_tokenLong, .int t_token, .int t_value, .ref a_t_readSorts, .ref a_t_readHands, .int t_winner, .int t_throwsOf, .int t_handA, .int t_handB, .ref a_t_inTurn, .ref a_t_ends, .ref a_t_bestHands, .int t_fewestSo, .ref a_t_traces, .int t_traced])), (a_t_tape, .inl (cI, 200, .inl t_tape))]) (hR : o_X9_isName N t_tokenAt t_tokenLong t_token t_tape L1 l3 = some rf) : Z E (0, 0) [(0, .ref a_t), (1, .long L1), (3, .int l3)] 0 [] [(a_t, .inr (9, [.ref a_t_now, .ref a_t_kept, .ref a_t_isKept, .ref a_t_acts, .int t_manyActs, .ref a_t_was, .int t_status, .ref a_t_lanes, .ref a_t_longs, .ref a_t_isThere, .ref a_t_items, .ref a_t_copied, .ref a_t_tape, .int t_tapeLong, .int t_fault, .int t_tokenAt, .int t_tokenLong, .int t_token, .int t_value, .ref a_t_readSorts, .ref a_t_readHands, .int t_winner, .int t_throwsOf, .int t_handA, .int t_handB, .ref a_t_inTurn, .ref a_t_ends, .ref a_t_bestHands, .int t_fewestSo, .ref a_t_traces, .int t_traced])), (a_t_tape, .inl (cI, 200, .inl t_tape))] := by
  rw [o_X9_isName] at hR
  refine z_aload_n hC dX9_isName_0 rfl 0 rfl ?_
  refine z_get hC iX9_isName_X9 rfl 0 17 rfl (by decide) mX9_isName_1 rfl rfl dX9_isName_1 ?_
  refine z_ic1 hC dX9_isName_4 ?_
  refine z_icmp_ne hC 20 dX9_isName_5 (by decide) hR (fun hR => ?_) (fun hR => ?_)
  · exact z_X9_isName_20 hC hN (N := N) (a_t := a_t) (a_t_tape := a_t_tape) (a_t_now := a_t_now) (a_t_kept := a_t_kept) (a_t_isKept := a_t_isKept) (a_t_acts := a_t_acts) (a_t_was := a_t_was) (a_t_lanes := a_t_lanes) (a_t_longs := a_t_longs) (a_t_isThere := a_t_isThere) (a_t_items := a_t_items) (a_t_copied := a_t_copied) (a_t_readSorts := a_t_readSorts) (a_t_readHands := a_t_readHands) (a_t_inTurn := a_t_inTurn) (a_t_ends := a_t_ends) (a_t_bestHands := a_t_bestHands) (a_t_traces := a_t_traces) (t_manyActs := t_manyActs) (t_status := t_status) (t_tapeLong := t_tapeLong) (t_fault := t_fault) (t_tokenAt := t_tokenAt) (t_tokenLong := t_tokenLong) (t_token := t_token) (t_value := t_value) (t_winner := t_winner) (t_throwsOf := t_throwsOf) (t_handA := t_handA) (t_handB := t_handB) (t_fewestSo := t_fewestSo) (t_traced := t_traced) (t_tape := t_tape) (L1 := L1) (l3 := l3) hQ  hR
  · refine z_aload_n hC dX9_isName_8 rfl 0 rfl ?_
    refine z_get hC iX9_isName_X9 rfl 0 16 rfl (by decide) mX9_isName_2 rfl rfl dX9_isName_9 ?_
    refine z_iload_n hC dX9_isName_12 rfl 2 rfl ?_
    refine z_icmp_ne hC 20 dX9_isName_13 (by decide) hR (fun hR => ?_) (fun hR => ?_)
    · exact z_X9_isName_20 hC hN (N := N) (a_t := a_t) (a_t_tape := a_t_tape) (a_t_now := a_t_now) (a_t_kept := a_t_kept) (a_t_isKept := a_t_isKept) (a_t_acts := a_t_acts) (a_t_was := a_t_was) (a_t_lanes := a_t_lanes) (a_t_longs := a_t_longs) (a_t_isThere := a_t_isThere) (a_t_items := a_t_items) (a_t_copied := a_t_copied) (a_t_readSorts := a_t_readSorts) (a_t_readHands := a_t_readHands) (a_t_inTurn := a_t_inTurn) (a_t_ends := a_t_ends) (a_t_bestHands := a_t_bestHands) (a_t_traces := a_t_traces) (t_manyActs := t_manyActs) (t_status := t_status) (t_tapeLong := t_tapeLong) (t_fault := t_fault) (t_tokenAt := t_tokenAt) (t_tokenLong := t_tokenLong) (t_token := t_token) (t_value := t_value) (t_winner := t_winner) (t_throwsOf := t_throwsOf) (t_handA := t_handA) (t_handB := t_handB) (t_fewestSo := t_fewestSo) (t_traced := t_traced) (t_tape := t_tape) (L1 := L1) (l3 := l3) hQ  hR
    · refine z_ic1 hC dX9_isName_16 ?_
      refine z_goto hC 21 dX9_isName_17 (by decide) ?_
      exact z_X9_isName_21 hC hN (N := N) (a_t := a_t) (a_t_tape := a_t_tape) (a_t_now := a_t_now) (a_t_kept := a_t_kept) (a_t_isKept := a_t_isKept) (a_t_acts := a_t_acts) (a_t_was := a_t_was) (a_t_lanes := a_t_lanes) (a_t_longs := a_t_longs) (a_t_isThere := a_t_isThere) (a_t_items := a_t_items) (a_t_copied := a_t_copied) (a_t_readSorts := a_t_readSorts) (a_t_readHands := a_t_readHands) (a_t_inTurn := a_t_inTurn) (a_t_ends := a_t_ends) (a_t_bestHands := a_t_bestHands) (a_t_traces := a_t_traces) (t_manyActs := t_manyActs) (t_status := t_status) (t_tapeLong := t_tapeLong) (t_fault := t_fault) (t_tokenAt := t_tokenAt) (t_tokenLong := t_tokenLong) (t_token := t_token) (t_value := t_value) (t_winner := t_winner) (t_throwsOf := t_throwsOf) (t_handA := t_handA) (t_handB := t_handB) (t_fewestSo := t_fewestSo) (t_traced := t_traced) (t_tape := t_tape) (L1 := L1) (l3 := l3) (s0 := 1) hQ  hR
set_option maxHeartbeats 4000000 in
set_option maxRecDepth 100000 in
theorem c_X9_isName {sK sV : Nat → Nat} {l : Launch} {D : va_G} {cI cB cZ : ClassId} {N : Nat} {a_t : Nat} {a_t_tape : Nat} {a_t_now : Nat} {a_t_kept : Nat} {a_t_isKept : Nat} {a_t_acts : Nat} {a_t_was : Nat} {a_t_lanes : Nat} {a_t_longs : Nat} {a_t_isThere : Nat} {a_t_items : Nat} {a_t_copied : Nat} {a_t_readSorts : Nat} {a_t_readHands : Nat} {a_t_inTurn : Nat} {a_t_ends : Nat} {a_t_bestHands : Nat} {a_t_traces : Nat} {t_manyActs : Int32} {t_status : Int32} {t_tapeLong : Int32} {t_fault : Int32} {t_tokenAt : Int32} {t_tokenLong : Int32} {t_token : Int32} {t_value : Int32} {t_winner : Int32} {t_throwsOf : Int32} {t_handA : Int32} {t_handB : Int32} {t_fewestSo : Int32} {t_traced : Int32} {t_tape : (Nat → Int32)} {L1 : Int64} {l3 : Int32} : ∀ R : Int32, o_X9_isName N t_tokenAt t_tokenLong t_token t_tape L1 l3 = some R → ZMi sK sV l yX9_isName wsX9_isName rmX9_isName D (zty cI cB cZ) [.ref a_t, .long L1, .int l3] [(a_t, .inr (9, [.ref a_t_now, .ref a_t_kept, .ref a_t_isKept, .ref a_t_acts, .int t_manyActs, .ref a_t_was, .int t_status, .ref a_t_lanes, .ref a_t_longs, .ref a_t_isThere, .ref a_t_items, .ref a_t_copied, .ref a_t_tape, .int t_tapeLong, .int t_fault, .int t_tokenAt, .int t_tokenLong, .int t_token, .int t_value, .ref a_t_readSorts, .ref a_t_readHands, .int t_winner, .int t_throwsOf, .int t_handA, .int t_handB, .ref a_t_inTurn, .ref a_t_ends, .ref a_t_bestHands, .int t_fewestSo, .ref a_t_traces, .int t_traced])), (a_t_tape, .inl (cI, 200, .inl t_tape))] R [(a_t, .inr (9, [.ref a_t_now, .ref a_t_kept, .ref a_t_isKept, .ref a_t_acts, .int t_manyActs, .ref a_t_was, .int t_status, .ref a_t_lanes, .ref a_t_longs, .ref a_t_isThere, .ref a_t_items, .ref a_t_copied, .ref a_t_tape, .int t_tapeLong, .int t_fault, .int t_tokenAt, .int t_tokenLong, .int t_token, .int t_value, .ref a_t_readSorts, .ref a_t_readHands, .int t_winner, .int t_throwsOf, .int t_handA, .int t_handB, .ref a_t_inTurn, .ref a_t_ends, .ref a_t_bestHands, .int t_fewestSo, .ref a_t_traces, .int t_traced])), (a_t_tape, .inl (cI, 200, .inl t_tape))] := by
  intro R hR
  refine zi_of (cc := cX9_isName) (maxL := 8) (ret := (some .boolean)) (by decide) rfl (Nat.le_of_ble_eq_true rfl) (fun E hE1 hE2 hC hN hQ => ?_)
  subst hE1 hE2
  exact z_X9_isName_0 hC hN (N := N) (a_t := a_t) (a_t_tape := a_t_tape) (a_t_now := a_t_now) (a_t_kept := a_t_kept) (a_t_isKept := a_t_isKept) (a_t_acts := a_t_acts) (a_t_was := a_t_was) (a_t_lanes := a_t_lanes) (a_t_longs := a_t_longs) (a_t_isThere := a_t_isThere) (a_t_items := a_t_items) (a_t_copied := a_t_copied) (a_t_readSorts := a_t_readSorts) (a_t_readHands := a_t_readHands) (a_t_inTurn := a_t_inTurn) (a_t_ends := a_t_ends) (a_t_bestHands := a_t_bestHands) (a_t_traces := a_t_traces) (t_manyActs := t_manyActs) (t_status := t_status) (t_tapeLong := t_tapeLong) (t_fault := t_fault) (t_tokenAt := t_tokenAt) (t_tokenLong := t_tokenLong) (t_token := t_token) (t_value := t_value) (t_winner := t_winner) (t_throwsOf := t_throwsOf) (t_handA := t_handA) (t_handB := t_handB) (t_fewestSo := t_fewestSo) (t_traced := t_traced) (t_tape := t_tape) (L1 := L1) (l3 := l3) hQ hR

/-! FistTrainsModel.letters -/
abbrev rmX9_letters : Room := { frames := 0, cells := 0, slots := 0, locals := 0 }
set_option maxRecDepth 20000 in
theorem mX9_letters_1 : Cond.constantLong RX9 127 (96) ∈ wsX9_letters := List.mem_of_getElem? (i := 1) rfl
def o_X9_letters (N : Nat) (l0 : Int32) (l1 : Int32) (l2 : Int32) (l3 : Int32) : Option (Int64) :=
  some (((((((((Int32.toInt64 l0) - 96) <<< (Int32.toInt64 5 &&& 63)) ||| ((Int32.toInt64 l1) - 96)) <<< (Int32.toInt64 5 &&& 63)) ||| ((Int32.toInt64 l2) - 96)) <<< (Int32.toInt64 5 &&& 63)) ||| ((Int32.toInt64 l3) - 96)))
set_option maxHeartbeats 4000000 in
set_option maxRecDepth 100000 in
theorem z_X9_letters_0 {sK sV : Nat → Nat} {E : ZE} {cI cB cZ : ClassId} (hC : ZC E 4 cX9_letters wsX9_letters RX9 rmX9_letters (some .long) (zty cI cB cZ)) (hN : ZN sK sV (zA E) (zs E)) {N : Nat} {l0 : Int32} {l1 : Int32} {l2 : Int32} {l3 : Int32} {rf : Int64} (hQ : ZQl E (zty cI cB cZ) rf []) (hR : o_X9_letters N l0 l1 l2 l3 = some rf) : Z E (0, 0) [(0, .int l0), (1, .int l1), (2, .int l2), (3, .int l3)] 0 [] [] := by
  rw [o_X9_letters] at hR
  refine z_iload_n hC dX9_letters_0 rfl 0 rfl ?_
  refine z_i2l hC dX9_letters_1 ?_
  refine z_ldc2 hC 96 mX9_letters_1 dX9_letters_2 ?_
  refine z_lsub hC dX9_letters_5 ?_
  refine z_ic5 hC dX9_letters_6 ?_
  refine z_lshl hC dX9_letters_7 ?_
  refine z_iload_n hC dX9_letters_8 rfl 1 rfl ?_
  refine z_i2l hC dX9_letters_9 ?_
  refine z_ldc2 hC 96 mX9_letters_1 dX9_letters_10 ?_
  refine z_lsub hC dX9_letters_13 ?_
  refine z_lor hC dX9_letters_14 ?_
  refine z_ic5 hC dX9_letters_15 ?_
  refine z_lshl hC dX9_letters_16 ?_
  refine z_iload_n hC dX9_letters_17 rfl 2 rfl ?_
  refine z_i2l hC dX9_letters_18 ?_
  refine z_ldc2 hC 96 mX9_letters_1 dX9_letters_19 ?_
  refine z_lsub hC dX9_letters_22 ?_
  refine z_lor hC dX9_letters_23 ?_
  refine z_ic5 hC dX9_letters_24 ?_
  refine z_lshl hC dX9_letters_25 ?_
  refine z_iload_n hC dX9_letters_26 rfl 3 rfl ?_
  refine z_i2l hC dX9_letters_27 ?_
  refine z_ldc2 hC 96 mX9_letters_1 dX9_letters_28 ?_
  refine z_lsub hC dX9_letters_31 ?_
  refine z_lor hC dX9_letters_32 ?_
  obtain rfl := Option.some.inj hR
  exact z_lret hC hQ rfl rfl dX9_letters_33
set_option maxHeartbeats 4000000 in
set_option maxRecDepth 100000 in
theorem c_X9_letters {sK sV : Nat → Nat} {l : Launch} {D : va_G} {cI cB cZ : ClassId} {N : Nat} {l0 : Int32} {l1 : Int32} {l2 : Int32} {l3 : Int32} : ∀ R : Int64, o_X9_letters N l0 l1 l2 l3 = some R → ZMl sK sV l yX9_letters wsX9_letters rmX9_letters D (zty cI cB cZ) [.int l0, .int l1, .int l2, .int l3] [] R [] := by
  intro R hR
  refine zl_of (cc := cX9_letters) (maxL := 4) (ret := (some .long)) (by decide) rfl (Nat.le_of_ble_eq_true rfl) (fun E hE1 hE2 hC hN hQ => ?_)
  subst hE1 hE2
  exact z_X9_letters_0 hC hN (N := N) (l0 := l0) (l1 := l1) (l2 := l2) (l3 := l3) hQ hR

/-! FistTrainsModel.sortOf -/
abbrev rmX9_sortOf : Room := { frames := 1, cells := 0, slots := 0, locals := 27 }
set_option maxRecDepth 20000 in
theorem mX9_sortOf_1 : Cond.constantLong RX9 129 (2553) ∈ wsX9_sortOf := List.mem_of_getElem? (i := 1) rfl
set_option maxRecDepth 20000 in
theorem mX9_sortOf_2 : Cond.constantLong RX9 135 (19993) ∈ wsX9_sortOf := List.mem_of_getElem? (i := 2) rfl
set_option maxRecDepth 20000 in
theorem mX9_sortOf_3 : Cond.constantLong RX9 141 (128) ∈ wsX9_sortOf := List.mem_of_getElem? (i := 3) rfl
set_option maxRecDepth 20000 in
theorem mX9_sortOf_4 : Cond.constantLong RX9 143 (25) ∈ wsX9_sortOf := List.mem_of_getElem? (i := 4) rfl
set_option maxRecDepth 20000 in
theorem mX9_sortOf_5 : Cond.constantLong RX9 145 (480) ∈ wsX9_sortOf := List.mem_of_getElem? (i := 5) rfl
set_option maxRecDepth 20000 in
theorem mX9_sortOf_6 : Cond.constantLong RX9 147 (18) ∈ wsX9_sortOf := List.mem_of_getElem? (i := 6) rfl
set_option maxRecDepth 20000 in
theorem mX9_sortOf_7 : Cond.constantLong RX9 149 (8192) ∈ wsX9_sortOf := List.mem_of_getElem? (i := 7) rfl
set_option maxRecDepth 20000 in
theorem mX9_sortOf_8 : Cond.constantLong RX9 151 (160) ∈ wsX9_sortOf := List.mem_of_getElem? (i := 8) rfl
def o_X9_sortOf (N : Nat) (t_tokenAt : Int32) (t_tokenLong : Int32) (t_token : Int32) (t_tape : (Nat → Int32)) : Option (Int32) :=
  Option.bind (o_X9_isName N t_tokenAt t_tokenLong t_token t_tape 2553 3) (fun r5 =>
  if r5 = 0 then
    Option.bind (o_X9_isName N t_tokenAt t_tokenLong t_token t_tape 19993 3) (fun r18 =>
    if r18 = 0 then
      Option.bind (o_X9_letters N 115 116 101 97) (fun r35 =>
      Option.bind (o_X9_isName N t_tokenAt t_tokenLong t_token t_tape (((r35 <<< (Int32.toInt64 10 &&& 63)) ||| 128) ||| 25) 6) (fun r51 =>
      if r51 = 0 then
        Option.bind (o_X9_letters N 109 105 114 114) (fun r68 =>
        Option.bind (o_X9_isName N t_tokenAt t_tokenLong t_token t_tape (((r68 <<< (Int32.toInt64 10 &&& 63)) ||| 480) ||| 18) 6) (fun r84 =>
        if r84 = 0 then
          Option.bind (o_X9_letters N 116 101 97 99) (fun r101 =>
          Option.bind (o_X9_isName N t_tokenAt t_tokenLong t_token t_tape ((((r101 <<< (Int32.toInt64 15 &&& 63)) ||| 8192) ||| 160) ||| 18) 7) (fun r121 =>
          if r121 = 0 then
            some (0)
          else
            some (3)))
        else
          some (4)))
      else
        some (2)))
    else
      some (5))
  else
    some (1))
set_option maxHeartbeats 4000000 in
set_option maxRecDepth 100000 in
theorem z_X9_sortOf_0 {sK sV : Nat → Nat} {E : ZE} {cI cB cZ : ClassId} (hC : ZC E 1 cX9_sortOf wsX9_sortOf RX9 rmX9_sortOf (some .int) (zty cI cB cZ)) (hN : ZN sK sV (zA E) (zs E)) {N : Nat} {a_t : Nat} {a_t_tape : Nat} {a_t_now : Nat} {a_t_kept : Nat} {a_t_isKept : Nat} {a_t_acts : Nat} {a_t_was : Nat} {a_t_lanes : Nat} {a_t_longs : Nat} {a_t_isThere : Nat} {a_t_items : Nat} {a_t_copied : Nat} {a_t_readSorts : Nat} {a_t_readHands : Nat} {a_t_inTurn : Nat} {a_t_ends : Nat} {a_t_bestHands : Nat} {a_t_traces : Nat} {t_manyActs : Int32} {t_status : Int32} {t_tapeLong : Int32} {t_fault : Int32} {t_tokenAt : Int32} {t_tokenLong : Int32} {t_token : Int32} {t_value : Int32} {t_winner : Int32} {t_throwsOf : Int32} {t_handA : Int32} {t_handB : Int32} {t_fewestSo : Int32} {t_traced : Int32} {t_tape : (Nat → Int32)} {rf : Int32} (hQ : ZQi E (zty cI cB cZ) rf [(a_t, .inr (9, [.ref a_t_now, .ref a_t_kept, .ref a_t_isKept, .ref a_t_acts, .int t_manyActs, .ref a_t_was, .int t_status, .ref a_t_lanes, .ref a_t_longs, .ref a_t_isThere, .ref a_t_items, .ref a_t_copied, .ref a_t_tape, .int t_tapeLong, .int t_fault, .int t_tokenAt, .int t_tokenLong, .int t_token, .int t_value, .ref a_t_readSorts, .ref a_t_readHands, .int t_winner, .int t_throwsOf, .int t_handA, .int t_handB, .ref a_t_inTurn, .ref a_t_ends, .ref a_t_bestHands, .int t_fewestSo, .ref a_t_traces, .int t_traced])), (a_t_tape, .inl (cI, 200, .inl t_tape))]) (hR : o_X9_sortOf N t_tokenAt t_tokenLong t_token t_tape = some rf) : Z E (0, 0) [(0, .ref a_t)] 0 [] [(a_t, .inr (9, [.ref a_t_now, .ref a_t_kept, .ref a_t_isKept, .ref a_t_acts, .int t_manyActs, .ref a_t_was, .int t_status, .ref a_t_lanes, .ref a_t_longs, .ref a_t_isThere, .ref a_t_items, .ref a_t_copied, .ref a_t_tape, .int t_tapeLong, .int t_fault, .int t_tokenAt, .int t_tokenLong, .int t_token, .int t_value, .ref a_t_readSorts, .ref a_t_readHands, .int t_winner, .int t_throwsOf, .int t_handA, .int t_handB, .ref a_t_inTurn, .ref a_t_ends, .ref a_t_bestHands, .int t_fewestSo, .ref a_t_traces, .int t_traced])), (a_t_tape, .inl (cI, 200, .inl t_tape))] := by
  rw [o_X9_sortOf] at hR
  refine z_aload_n hC dX9_sortOf_0 rfl 0 rfl ?_
  refine z_ldc2 hC 2553 mX9_sortOf_1 dX9_sortOf_1 ?_
  refine z_ic3 hC dX9_sortOf_4 ?_
  refine z_callVi_p hC hN [.long 2553, .int 3] [0, 1] (c_X9_isName (l := zl E) (D := zD E) (cI := cI) (cB := cB) (cZ := cZ) (N := N) (a_t := a_t) (a_t_now := a_t_now) (a_t_kept := a_t_kept) (a_t_isKept := a_t_isKept) (a_t_acts := a_t_acts) (a_t_was := a_t_was) (a_t_lanes := a_t_lanes) (a_t_longs := a_t_longs) (a_t_isThere := a_t_isThere) (a_t_items := a_t_items) (a_t_copied := a_t_copied) (a_t_tape := a_t_tape) (a_t_readSorts := a_t_readSorts) (a_t_readHands := a_t_readHands) (a_t_inTurn := a_t_inTurn) (a_t_ends := a_t_ends) (a_t_bestHands := a_t_bestHands) (a_t_traces := a_t_traces) (L1 := 2553) (l3 := 3) (t_manyActs := t_manyActs) (t_status := t_status) (t_tapeLong := t_tapeLong) (t_fault := t_fault) (t_tokenAt := t_tokenAt) (t_tokenLong := t_tokenLong) (t_token := t_token) (t_value := t_value) (t_winner := t_winner) (t_throwsOf := t_throwsOf) (t_handA := t_handA) (t_handB := t_handB) (t_fewestSo := t_fewestSo) (t_traced := t_traced) (t_tape := t_tape)) rfl ⟨rfl, rfl⟩ gX9_sortOf_X9_isName hvX9_isName 0 9 rfl rfl rfl ⟨Nat.le_of_ble_eq_true rfl, Nat.le_of_ble_eq_true rfl⟩ ⟨Nat.zero_le _, Nat.zero_le _⟩ rfl (Nat.le_of_ble_eq_true rfl) rfl (by decide) dX9_sortOf_5 hR (fun r5 hR => ?_)
  refine z_if_eq hC 13 dX9_sortOf_8 (by decide) hR (fun hR => ?_) (fun hR => ?_)
  · refine z_aload_n hC dX9_sortOf_13 rfl 0 rfl ?_
    refine z_ldc2 hC 19993 mX9_sortOf_2 dX9_sortOf_14 ?_
    refine z_ic3 hC dX9_sortOf_17 ?_
    refine z_callVi_p hC hN [.long 19993, .int 3] [0, 1] (c_X9_isName (l := zl E) (D := zD E) (cI := cI) (cB := cB) (cZ := cZ) (N := N) (a_t := a_t) (a_t_now := a_t_now) (a_t_kept := a_t_kept) (a_t_isKept := a_t_isKept) (a_t_acts := a_t_acts) (a_t_was := a_t_was) (a_t_lanes := a_t_lanes) (a_t_longs := a_t_longs) (a_t_isThere := a_t_isThere) (a_t_items := a_t_items) (a_t_copied := a_t_copied) (a_t_tape := a_t_tape) (a_t_readSorts := a_t_readSorts) (a_t_readHands := a_t_readHands) (a_t_inTurn := a_t_inTurn) (a_t_ends := a_t_ends) (a_t_bestHands := a_t_bestHands) (a_t_traces := a_t_traces) (L1 := 19993) (l3 := 3) (t_manyActs := t_manyActs) (t_status := t_status) (t_tapeLong := t_tapeLong) (t_fault := t_fault) (t_tokenAt := t_tokenAt) (t_tokenLong := t_tokenLong) (t_token := t_token) (t_value := t_value) (t_winner := t_winner) (t_throwsOf := t_throwsOf) (t_handA := t_handA) (t_handB := t_handB) (t_fewestSo := t_fewestSo) (t_traced := t_traced) (t_tape := t_tape)) rfl ⟨rfl, rfl⟩ gX9_sortOf_X9_isName hvX9_isName 0 9 rfl rfl rfl ⟨Nat.le_of_ble_eq_true rfl, Nat.le_of_ble_eq_true rfl⟩ ⟨Nat.zero_le _, Nat.zero_le _⟩ rfl (Nat.le_of_ble_eq_true rfl) rfl (by decide) dX9_sortOf_18 hR (fun r18 hR => ?_)
    refine z_if_eq hC 26 dX9_sortOf_21 (by decide) hR (fun hR => ?_) (fun hR => ?_)
    · refine z_aload_n hC dX9_sortOf_26 rfl 0 rfl ?_
      refine z_bipush (v := 115) hC dX9_sortOf_27 (by decide) ?_
      refine z_bipush (v := 116) hC dX9_sortOf_29 (by decide) ?_
      refine z_bipush (v := 101) hC dX9_sortOf_31 (by decide) ?_
      refine z_bipush (v := 97) hC dX9_sortOf_33 (by decide) ?_
      refine z_callSl_p hC hN [.int 115, .int 116, .int 101, .int 97] [] (c_X9_letters (l := zl E) (D := zD E) (cI := cI) (cB := cB) (cZ := cZ) (N := N) (l0 := 115) (l1 := 116) (l2 := 101) (l3 := 97)) rfl ⟨rfl, rfl⟩ gX9_sortOf_X9_letters hsX9_letters ⟨Nat.le_of_ble_eq_true rfl, Nat.le_of_ble_eq_true rfl⟩ ⟨Nat.zero_le _, Nat.zero_le _⟩ rfl (Nat.le_of_ble_eq_true rfl) rfl (by decide) dX9_sortOf_35 hR (fun r35 hR => ?_)
      refine z_bipush (v := 10) hC dX9_sortOf_38 (by decide) ?_
      refine z_lshl hC dX9_sortOf_40 ?_
      refine z_ldc2 hC 128 mX9_sortOf_3 dX9_sortOf_41 ?_
      refine z_lor hC dX9_sortOf_44 ?_
      refine z_ldc2 hC 25 mX9_sortOf_4 dX9_sortOf_45 ?_
      refine z_lor hC dX9_sortOf_48 ?_
      refine z_bipush (v := 6) hC dX9_sortOf_49 (by decide) ?_
      refine z_callVi_p hC hN [.long (((r35 <<< (Int32.toInt64 10 &&& 63)) ||| 128) ||| 25), .int 6] [0, 1] (c_X9_isName (l := zl E) (D := zD E) (cI := cI) (cB := cB) (cZ := cZ) (N := N) (a_t := a_t) (a_t_now := a_t_now) (a_t_kept := a_t_kept) (a_t_isKept := a_t_isKept) (a_t_acts := a_t_acts) (a_t_was := a_t_was) (a_t_lanes := a_t_lanes) (a_t_longs := a_t_longs) (a_t_isThere := a_t_isThere) (a_t_items := a_t_items) (a_t_copied := a_t_copied) (a_t_tape := a_t_tape) (a_t_readSorts := a_t_readSorts) (a_t_readHands := a_t_readHands) (a_t_inTurn := a_t_inTurn) (a_t_ends := a_t_ends) (a_t_bestHands := a_t_bestHands) (a_t_traces := a_t_traces) (L1 := (((r35 <<< (Int32.toInt64 10 &&& 63)) ||| 128) ||| 25)) (l3 := 6) (t_manyActs := t_manyActs) (t_status := t_status) (t_tapeLong := t_tapeLong) (t_fault := t_fault) (t_tokenAt := t_tokenAt) (t_tokenLong := t_tokenLong) (t_token := t_token) (t_value := t_value) (t_winner := t_winner) (t_throwsOf := t_throwsOf) (t_handA := t_handA) (t_handB := t_handB) (t_fewestSo := t_fewestSo) (t_traced := t_traced) (t_tape := t_tape)) rfl ⟨rfl, rfl⟩ gX9_sortOf_X9_isName hvX9_isName 0 9 rfl rfl rfl ⟨Nat.le_of_ble_eq_true rfl, Nat.le_of_ble_eq_true rfl⟩ ⟨Nat.zero_le _, Nat.zero_le _⟩ rfl (Nat.le_of_ble_eq_true rfl) rfl (by decide) dX9_sortOf_51 hR (fun r51 hR => ?_)
      refine z_if_eq hC 59 dX9_sortOf_54 (by decide) hR (fun hR => ?_) (fun hR => ?_)
      · refine z_aload_n hC dX9_sortOf_59 rfl 0 rfl ?_
        refine z_bipush (v := 109) hC dX9_sortOf_60 (by decide) ?_
        refine z_bipush (v := 105) hC dX9_sortOf_62 (by decide) ?_
        refine z_bipush (v := 114) hC dX9_sortOf_64 (by decide) ?_
        refine z_bipush (v := 114) hC dX9_sortOf_66 (by decide) ?_
        refine z_callSl_p hC hN [.int 109, .int 105, .int 114, .int 114] [] (c_X9_letters (l := zl E) (D := zD E) (cI := cI) (cB := cB) (cZ := cZ) (N := N) (l0 := 109) (l1 := 105) (l2 := 114) (l3 := 114)) rfl ⟨rfl, rfl⟩ gX9_sortOf_X9_letters hsX9_letters ⟨Nat.le_of_ble_eq_true rfl, Nat.le_of_ble_eq_true rfl⟩ ⟨Nat.zero_le _, Nat.zero_le _⟩ rfl (Nat.le_of_ble_eq_true rfl) rfl (by decide) dX9_sortOf_68 hR (fun r68 hR => ?_)
        refine z_bipush (v := 10) hC dX9_sortOf_71 (by decide) ?_
        refine z_lshl hC dX9_sortOf_73 ?_
        refine z_ldc2 hC 480 mX9_sortOf_5 dX9_sortOf_74 ?_
        refine z_lor hC dX9_sortOf_77 ?_
        refine z_ldc2 hC 18 mX9_sortOf_6 dX9_sortOf_78 ?_
        refine z_lor hC dX9_sortOf_81 ?_
        refine z_bipush (v := 6) hC dX9_sortOf_82 (by decide) ?_
        refine z_callVi_p hC hN [.long (((r68 <<< (Int32.toInt64 10 &&& 63)) ||| 480) ||| 18), .int 6] [0, 1] (c_X9_isName (l := zl E) (D := zD E) (cI := cI) (cB := cB) (cZ := cZ) (N := N) (a_t := a_t) (a_t_now := a_t_now) (a_t_kept := a_t_kept) (a_t_isKept := a_t_isKept) (a_t_acts := a_t_acts) (a_t_was := a_t_was) (a_t_lanes := a_t_lanes) (a_t_longs := a_t_longs) (a_t_isThere := a_t_isThere) (a_t_items := a_t_items) (a_t_copied := a_t_copied) (a_t_tape := a_t_tape) (a_t_readSorts := a_t_readSorts) (a_t_readHands := a_t_readHands) (a_t_inTurn := a_t_inTurn) (a_t_ends := a_t_ends) (a_t_bestHands := a_t_bestHands) (a_t_traces := a_t_traces) (L1 := (((r68 <<< (Int32.toInt64 10 &&& 63)) ||| 480) ||| 18)) (l3 := 6) (t_manyActs := t_manyActs) (t_status := t_status) (t_tapeLong := t_tapeLong) (t_fault := t_fault) (t_tokenAt := t_tokenAt) (t_tokenLong := t_tokenLong) (t_token := t_token) (t_value := t_value) (t_winner := t_winner) (t_throwsOf := t_throwsOf) (t_handA := t_handA) (t_handB := t_handB) (t_fewestSo := t_fewestSo) (t_traced := t_traced) (t_tape := t_tape)) rfl ⟨rfl, rfl⟩ gX9_sortOf_X9_isName hvX9_isName 0 9 rfl rfl rfl ⟨Nat.le_of_ble_eq_true rfl, Nat.le_of_ble_eq_true rfl⟩ ⟨Nat.zero_le _, Nat.zero_le _⟩ rfl (Nat.le_of_ble_eq_true rfl) rfl (by decide) dX9_sortOf_84 hR (fun r84 hR => ?_)
        refine z_if_eq hC 92 dX9_sortOf_87 (by decide) hR (fun hR => ?_) (fun hR => ?_)
        · refine z_aload_n hC dX9_sortOf_92 rfl 0 rfl ?_
          refine z_bipush (v := 116) hC dX9_sortOf_93 (by decide) ?_
          refine z_bipush (v := 101) hC dX9_sortOf_95 (by decide) ?_
          refine z_bipush (v := 97) hC dX9_sortOf_97 (by decide) ?_
          refine z_bipush (v := 99) hC dX9_sortOf_99 (by decide) ?_
          refine z_callSl_p hC hN [.int 116, .int 101, .int 97, .int 99] [] (c_X9_letters (l := zl E) (D := zD E) (cI := cI) (cB := cB) (cZ := cZ) (N := N) (l0 := 116) (l1 := 101) (l2 := 97) (l3 := 99)) rfl ⟨rfl, rfl⟩ gX9_sortOf_X9_letters hsX9_letters ⟨Nat.le_of_ble_eq_true rfl, Nat.le_of_ble_eq_true rfl⟩ ⟨Nat.zero_le _, Nat.zero_le _⟩ rfl (Nat.le_of_ble_eq_true rfl) rfl (by decide) dX9_sortOf_101 hR (fun r101 hR => ?_)
          refine z_bipush (v := 15) hC dX9_sortOf_104 (by decide) ?_
          refine z_lshl hC dX9_sortOf_106 ?_
          refine z_ldc2 hC 8192 mX9_sortOf_7 dX9_sortOf_107 ?_
          refine z_lor hC dX9_sortOf_110 ?_
          refine z_ldc2 hC 160 mX9_sortOf_8 dX9_sortOf_111 ?_
          refine z_lor hC dX9_sortOf_114 ?_
          refine z_ldc2 hC 18 mX9_sortOf_6 dX9_sortOf_115 ?_
          refine z_lor hC dX9_sortOf_118 ?_
          refine z_bipush (v := 7) hC dX9_sortOf_119 (by decide) ?_
          refine z_callVi_p hC hN [.long ((((r101 <<< (Int32.toInt64 15 &&& 63)) ||| 8192) ||| 160) ||| 18), .int 7] [0, 1] (c_X9_isName (l := zl E) (D := zD E) (cI := cI) (cB := cB) (cZ := cZ) (N := N) (a_t := a_t) (a_t_now := a_t_now) (a_t_kept := a_t_kept) (a_t_isKept := a_t_isKept) (a_t_acts := a_t_acts) (a_t_was := a_t_was) (a_t_lanes := a_t_lanes) (a_t_longs := a_t_longs) (a_t_isThere := a_t_isThere) (a_t_items := a_t_items) (a_t_copied := a_t_copied) (a_t_tape := a_t_tape) (a_t_readSorts := a_t_readSorts) (a_t_readHands := a_t_readHands) (a_t_inTurn := a_t_inTurn) (a_t_ends := a_t_ends) (a_t_bestHands := a_t_bestHands) (a_t_traces := a_t_traces) (L1 := ((((r101 <<< (Int32.toInt64 15 &&& 63)) ||| 8192) ||| 160) ||| 18)) (l3 := 7) (t_manyActs := t_manyActs) (t_status := t_status) (t_tapeLong := t_tapeLong) (t_fault := t_fault) (t_tokenAt := t_tokenAt) (t_tokenLong := t_tokenLong) (t_token := t_token) (t_value := t_value) (t_winner := t_winner) (t_throwsOf := t_throwsOf) (t_handA := t_handA) (t_handB := t_handB) (t_fewestSo := t_fewestSo) (t_traced := t_traced) (t_tape := t_tape)) rfl ⟨rfl, rfl⟩ gX9_sortOf_X9_isName hvX9_isName 0 9 rfl rfl rfl ⟨Nat.le_of_ble_eq_true rfl, Nat.le_of_ble_eq_true rfl⟩ ⟨Nat.zero_le _, Nat.zero_le _⟩ rfl (Nat.le_of_ble_eq_true rfl) rfl (by decide) dX9_sortOf_121 hR (fun r121 hR => ?_)
          refine z_if_eq hC 131 dX9_sortOf_124 (by decide) hR (fun hR => ?_) (fun hR => ?_)
          · refine z_ic0 hC dX9_sortOf_131 ?_
            obtain rfl := Option.some.inj hR
            exact z_iret hC hQ rfl rfl rfl dX9_sortOf_132
          · refine z_ic3 hC dX9_sortOf_127 ?_
            refine z_goto hC 132 dX9_sortOf_128 (by decide) ?_
            obtain rfl := Option.some.inj hR
            exact z_iret hC hQ rfl rfl rfl dX9_sortOf_132
        · refine z_ic4 hC dX9_sortOf_90 ?_
          obtain rfl := Option.some.inj hR
          exact z_iret hC hQ rfl rfl rfl dX9_sortOf_91
      · refine z_ic2 hC dX9_sortOf_57 ?_
        obtain rfl := Option.some.inj hR
        exact z_iret hC hQ rfl rfl rfl dX9_sortOf_58
    · refine z_ic5 hC dX9_sortOf_24 ?_
      obtain rfl := Option.some.inj hR
      exact z_iret hC hQ rfl rfl rfl dX9_sortOf_25
  · refine z_ic1 hC dX9_sortOf_11 ?_
    obtain rfl := Option.some.inj hR
    exact z_iret hC hQ rfl rfl rfl dX9_sortOf_12
set_option maxHeartbeats 4000000 in
set_option maxRecDepth 100000 in
theorem c_X9_sortOf {sK sV : Nat → Nat} {l : Launch} {D : va_G} {cI cB cZ : ClassId} {N : Nat} {a_t : Nat} {a_t_tape : Nat} {a_t_now : Nat} {a_t_kept : Nat} {a_t_isKept : Nat} {a_t_acts : Nat} {a_t_was : Nat} {a_t_lanes : Nat} {a_t_longs : Nat} {a_t_isThere : Nat} {a_t_items : Nat} {a_t_copied : Nat} {a_t_readSorts : Nat} {a_t_readHands : Nat} {a_t_inTurn : Nat} {a_t_ends : Nat} {a_t_bestHands : Nat} {a_t_traces : Nat} {t_manyActs : Int32} {t_status : Int32} {t_tapeLong : Int32} {t_fault : Int32} {t_tokenAt : Int32} {t_tokenLong : Int32} {t_token : Int32} {t_value : Int32} {t_winner : Int32} {t_throwsOf : Int32} {t_handA : Int32} {t_handB : Int32} {t_fewestSo : Int32} {t_traced : Int32} {t_tape : (Nat → Int32)} : ∀ R : Int32, o_X9_sortOf N t_tokenAt t_tokenLong t_token t_tape = some R → ZMi sK sV l yX9_sortOf wsX9_sortOf rmX9_sortOf D (zty cI cB cZ) [.ref a_t] [(a_t, .inr (9, [.ref a_t_now, .ref a_t_kept, .ref a_t_isKept, .ref a_t_acts, .int t_manyActs, .ref a_t_was, .int t_status, .ref a_t_lanes, .ref a_t_longs, .ref a_t_isThere, .ref a_t_items, .ref a_t_copied, .ref a_t_tape, .int t_tapeLong, .int t_fault, .int t_tokenAt, .int t_tokenLong, .int t_token, .int t_value, .ref a_t_readSorts, .ref a_t_readHands, .int t_winner, .int t_throwsOf, .int t_handA, .int t_handB, .ref a_t_inTurn, .ref a_t_ends, .ref a_t_bestHands, .int t_fewestSo, .ref a_t_traces, .int t_traced])), (a_t_tape, .inl (cI, 200, .inl t_tape))] R [(a_t, .inr (9, [.ref a_t_now, .ref a_t_kept, .ref a_t_isKept, .ref a_t_acts, .int t_manyActs, .ref a_t_was, .int t_status, .ref a_t_lanes, .ref a_t_longs, .ref a_t_isThere, .ref a_t_items, .ref a_t_copied, .ref a_t_tape, .int t_tapeLong, .int t_fault, .int t_tokenAt, .int t_tokenLong, .int t_token, .int t_value, .ref a_t_readSorts, .ref a_t_readHands, .int t_winner, .int t_throwsOf, .int t_handA, .int t_handB, .ref a_t_inTurn, .ref a_t_ends, .ref a_t_bestHands, .int t_fewestSo, .ref a_t_traces, .int t_traced])), (a_t_tape, .inl (cI, 200, .inl t_tape))] := by
  intro R hR
  refine zi_of (cc := cX9_sortOf) (maxL := 1) (ret := (some .int)) (by decide) rfl (Nat.le_of_ble_eq_true rfl) (fun E hE1 hE2 hC hN hQ => ?_)
  subst hE1 hE2
  exact z_X9_sortOf_0 hC hN (N := N) (a_t := a_t) (a_t_tape := a_t_tape) (a_t_now := a_t_now) (a_t_kept := a_t_kept) (a_t_isKept := a_t_isKept) (a_t_acts := a_t_acts) (a_t_was := a_t_was) (a_t_lanes := a_t_lanes) (a_t_longs := a_t_longs) (a_t_isThere := a_t_isThere) (a_t_items := a_t_items) (a_t_copied := a_t_copied) (a_t_readSorts := a_t_readSorts) (a_t_readHands := a_t_readHands) (a_t_inTurn := a_t_inTurn) (a_t_ends := a_t_ends) (a_t_bestHands := a_t_bestHands) (a_t_traces := a_t_traces) (t_manyActs := t_manyActs) (t_status := t_status) (t_tapeLong := t_tapeLong) (t_fault := t_fault) (t_tokenAt := t_tokenAt) (t_tokenLong := t_tokenLong) (t_token := t_token) (t_value := t_value) (t_winner := t_winner) (t_throwsOf := t_throwsOf) (t_handA := t_handA) (t_handB := t_handB) (t_fewestSo := t_fewestSo) (t_traced := t_traced) (t_tape := t_tape) hQ hR

/-! FistTrainsModel.isPlayerWord -/
abbrev rmX9_isPlayerWord : Room := { frames := 1, cells := 0, slots := 0, locals := 27 }
set_option maxRecDepth 20000 in
theorem mX9_isPlayerWord_1 : Cond.constantLong RX9 151 (160) ∈ wsX9_isPlayerWord := List.mem_of_getElem? (i := 1) rfl
set_option maxRecDepth 20000 in
theorem mX9_isPlayerWord_2 : Cond.constantLong RX9 147 (18) ∈ wsX9_isPlayerWord := List.mem_of_getElem? (i := 2) rfl
def o_X9_isPlayerWord (N : Nat) (t_tokenAt : Int32) (t_tokenLong : Int32) (t_token : Int32) (t_tape : (Nat → Int32)) : Option (Int32) :=
  Option.bind (o_X9_letters N 112 108 97 121) (fun r9 =>
  Option.bind (o_X9_isName N t_tokenAt t_tokenLong t_token t_tape (((r9 <<< (Int32.toInt64 10 &&& 63)) ||| 160) ||| 18) 6) (fun r25 =>
  ogd (isb r25) (
  some (r25))))
set_option maxHeartbeats 4000000 in
set_option maxRecDepth 100000 in
theorem z_X9_isPlayerWord_0 {sK sV : Nat → Nat} {E : ZE} {cI cB cZ : ClassId} (hC : ZC E 1 cX9_isPlayerWord wsX9_isPlayerWord RX9 rmX9_isPlayerWord (some .boolean) (zty cI cB cZ)) (hN : ZN sK sV (zA E) (zs E)) {N : Nat} {a_t : Nat} {a_t_tape : Nat} {a_t_now : Nat} {a_t_kept : Nat} {a_t_isKept : Nat} {a_t_acts : Nat} {a_t_was : Nat} {a_t_lanes : Nat} {a_t_longs : Nat} {a_t_isThere : Nat} {a_t_items : Nat} {a_t_copied : Nat} {a_t_readSorts : Nat} {a_t_readHands : Nat} {a_t_inTurn : Nat} {a_t_ends : Nat} {a_t_bestHands : Nat} {a_t_traces : Nat} {t_manyActs : Int32} {t_status : Int32} {t_tapeLong : Int32} {t_fault : Int32} {t_tokenAt : Int32} {t_tokenLong : Int32} {t_token : Int32} {t_value : Int32} {t_winner : Int32} {t_throwsOf : Int32} {t_handA : Int32} {t_handB : Int32} {t_fewestSo : Int32} {t_traced : Int32} {t_tape : (Nat → Int32)} {rf : Int32} (hQ : ZQi E (zty cI cB cZ) rf [(a_t, .inr (9, [.ref a_t_now, .ref a_t_kept, .ref a_t_isKept, .ref a_t_acts, .int t_manyActs, .ref a_t_was, .int t_status, .ref a_t_lanes, .ref a_t_longs, .ref a_t_isThere, .ref a_t_items, .ref a_t_copied, .ref a_t_tape, .int t_tapeLong, .int t_fault, .int t_tokenAt, .int t_tokenLong, .int t_token, .int t_value, .ref a_t_readSorts, .ref a_t_readHands, .int t_winner, .int t_throwsOf, .int t_handA, .int t_handB, .ref a_t_inTurn, .ref a_t_ends, .ref a_t_bestHands, .int t_fewestSo, .ref a_t_traces, .int t_traced])), (a_t_tape, .inl (cI, 200, .inl t_tape))]) (hR : o_X9_isPlayerWord N t_tokenAt t_tokenLong t_token t_tape = some rf) : Z E (0, 0) [(0, .ref a_t)] 0 [] [(a_t, .inr (9, [.ref a_t_now, .ref a_t_kept, .ref a_t_isKept, .ref a_t_acts, .int t_manyActs, .ref a_t_was, .int t_status, .ref a_t_lanes, .ref a_t_longs, .ref a_t_isThere, .ref a_t_items, .ref a_t_copied, .ref a_t_tape, .int t_tapeLong, .int t_fault, .int t_tokenAt, .int t_tokenLong, .int t_token, .int t_value, .ref a_t_readSorts, .ref a_t_readHands, .int t_winner, .int t_throwsOf, .int t_handA, .int t_handB, .ref a_t_inTurn, .ref a_t_ends, .ref a_t_bestHands, .int t_fewestSo, .ref a_t_traces, .int t_traced])), (a_t_tape, .inl (cI, 200, .inl t_tape))] := by
  rw [o_X9_isPlayerWord] at hR
  refine z_aload_n hC dX9_isPlayerWord_0 rfl 0 rfl ?_
  refine z_bipush (v := 112) hC dX9_isPlayerWord_1 (by decide) ?_
  refine z_bipush (v := 108) hC dX9_isPlayerWord_3 (by decide) ?_
  refine z_bipush (v := 97) hC dX9_isPlayerWord_5 (by decide) ?_
  refine z_bipush (v := 121) hC dX9_isPlayerWord_7 (by decide) ?_
  refine z_callSl_p hC hN [.int 112, .int 108, .int 97, .int 121] [] (c_X9_letters (l := zl E) (D := zD E) (cI := cI) (cB := cB) (cZ := cZ) (N := N) (l0 := 112) (l1 := 108) (l2 := 97) (l3 := 121)) rfl ⟨rfl, rfl⟩ gX9_isPlayerWord_X9_letters hsX9_letters ⟨Nat.le_of_ble_eq_true rfl, Nat.le_of_ble_eq_true rfl⟩ ⟨Nat.zero_le _, Nat.zero_le _⟩ rfl (Nat.le_of_ble_eq_true rfl) rfl (by decide) dX9_isPlayerWord_9 hR (fun r9 hR => ?_)
  refine z_bipush (v := 10) hC dX9_isPlayerWord_12 (by decide) ?_
  refine z_lshl hC dX9_isPlayerWord_14 ?_
  refine z_ldc2 hC 160 mX9_isPlayerWord_1 dX9_isPlayerWord_15 ?_
  refine z_lor hC dX9_isPlayerWord_18 ?_
  refine z_ldc2 hC 18 mX9_isPlayerWord_2 dX9_isPlayerWord_19 ?_
  refine z_lor hC dX9_isPlayerWord_22 ?_
  refine z_bipush (v := 6) hC dX9_isPlayerWord_23 (by decide) ?_
  refine z_callVi_p hC hN [.long (((r9 <<< (Int32.toInt64 10 &&& 63)) ||| 160) ||| 18), .int 6] [0, 1] (c_X9_isName (l := zl E) (D := zD E) (cI := cI) (cB := cB) (cZ := cZ) (N := N) (a_t := a_t) (a_t_now := a_t_now) (a_t_kept := a_t_kept) (a_t_isKept := a_t_isKept) (a_t_acts := a_t_acts) (a_t_was := a_t_was) (a_t_lanes := a_t_lanes) (a_t_longs := a_t_longs) (a_t_isThere := a_t_isThere) (a_t_items := a_t_items) (a_t_copied := a_t_copied) (a_t_tape := a_t_tape) (a_t_readSorts := a_t_readSorts) (a_t_readHands := a_t_readHands) (a_t_inTurn := a_t_inTurn) (a_t_ends := a_t_ends) (a_t_bestHands := a_t_bestHands) (a_t_traces := a_t_traces) (L1 := (((r9 <<< (Int32.toInt64 10 &&& 63)) ||| 160) ||| 18)) (l3 := 6) (t_manyActs := t_manyActs) (t_status := t_status) (t_tapeLong := t_tapeLong) (t_fault := t_fault) (t_tokenAt := t_tokenAt) (t_tokenLong := t_tokenLong) (t_token := t_token) (t_value := t_value) (t_winner := t_winner) (t_throwsOf := t_throwsOf) (t_handA := t_handA) (t_handB := t_handB) (t_fewestSo := t_fewestSo) (t_traced := t_traced) (t_tape := t_tape)) rfl ⟨rfl, rfl⟩ gX9_isPlayerWord_X9_isName hvX9_isName 0 9 rfl rfl rfl ⟨Nat.le_of_ble_eq_true rfl, Nat.le_of_ble_eq_true rfl⟩ ⟨Nat.zero_le _, Nat.zero_le _⟩ rfl (Nat.le_of_ble_eq_true rfl) rfl (by decide) dX9_isPlayerWord_25 hR (fun r25 hR => ?_)
  obtain ⟨hb9, hR⟩ := ogd_s hR
  obtain rfl := Option.some.inj hR
  exact z_iret hC hQ (isb_s hb9) rfl rfl dX9_isPlayerWord_28
set_option maxHeartbeats 4000000 in
set_option maxRecDepth 100000 in
theorem c_X9_isPlayerWord {sK sV : Nat → Nat} {l : Launch} {D : va_G} {cI cB cZ : ClassId} {N : Nat} {a_t : Nat} {a_t_tape : Nat} {a_t_now : Nat} {a_t_kept : Nat} {a_t_isKept : Nat} {a_t_acts : Nat} {a_t_was : Nat} {a_t_lanes : Nat} {a_t_longs : Nat} {a_t_isThere : Nat} {a_t_items : Nat} {a_t_copied : Nat} {a_t_readSorts : Nat} {a_t_readHands : Nat} {a_t_inTurn : Nat} {a_t_ends : Nat} {a_t_bestHands : Nat} {a_t_traces : Nat} {t_manyActs : Int32} {t_status : Int32} {t_tapeLong : Int32} {t_fault : Int32} {t_tokenAt : Int32} {t_tokenLong : Int32} {t_token : Int32} {t_value : Int32} {t_winner : Int32} {t_throwsOf : Int32} {t_handA : Int32} {t_handB : Int32} {t_fewestSo : Int32} {t_traced : Int32} {t_tape : (Nat → Int32)} : ∀ R : Int32, o_X9_isPlayerWord N t_tokenAt t_tokenLong t_token t_tape = some R → ZMi sK sV l yX9_isPlayerWord wsX9_isPlayerWord rmX9_isPlayerWord D (zty cI cB cZ) [.ref a_t] [(a_t, .inr (9, [.ref a_t_now, .ref a_t_kept, .ref a_t_isKept, .ref a_t_acts, .int t_manyActs, .ref a_t_was, .int t_status, .ref a_t_lanes, .ref a_t_longs, .ref a_t_isThere, .ref a_t_items, .ref a_t_copied, .ref a_t_tape, .int t_tapeLong, .int t_fault, .int t_tokenAt, .int t_tokenLong, .int t_token, .int t_value, .ref a_t_readSorts, .ref a_t_readHands, .int t_winner, .int t_throwsOf, .int t_handA, .int t_handB, .ref a_t_inTurn, .ref a_t_ends, .ref a_t_bestHands, .int t_fewestSo, .ref a_t_traces, .int t_traced])), (a_t_tape, .inl (cI, 200, .inl t_tape))] R [(a_t, .inr (9, [.ref a_t_now, .ref a_t_kept, .ref a_t_isKept, .ref a_t_acts, .int t_manyActs, .ref a_t_was, .int t_status, .ref a_t_lanes, .ref a_t_longs, .ref a_t_isThere, .ref a_t_items, .ref a_t_copied, .ref a_t_tape, .int t_tapeLong, .int t_fault, .int t_tokenAt, .int t_tokenLong, .int t_token, .int t_value, .ref a_t_readSorts, .ref a_t_readHands, .int t_winner, .int t_throwsOf, .int t_handA, .int t_handB, .ref a_t_inTurn, .ref a_t_ends, .ref a_t_bestHands, .int t_fewestSo, .ref a_t_traces, .int t_traced])), (a_t_tape, .inl (cI, 200, .inl t_tape))] := by
  intro R hR
  refine zi_of (cc := cX9_isPlayerWord) (maxL := 1) (ret := (some .boolean)) (by decide) rfl (Nat.le_of_ble_eq_true rfl) (fun E hE1 hE2 hC hN hQ => ?_)
  subst hE1 hE2
  exact z_X9_isPlayerWord_0 hC hN (N := N) (a_t := a_t) (a_t_tape := a_t_tape) (a_t_now := a_t_now) (a_t_kept := a_t_kept) (a_t_isKept := a_t_isKept) (a_t_acts := a_t_acts) (a_t_was := a_t_was) (a_t_lanes := a_t_lanes) (a_t_longs := a_t_longs) (a_t_isThere := a_t_isThere) (a_t_items := a_t_items) (a_t_copied := a_t_copied) (a_t_readSorts := a_t_readSorts) (a_t_readHands := a_t_readHands) (a_t_inTurn := a_t_inTurn) (a_t_ends := a_t_ends) (a_t_bestHands := a_t_bestHands) (a_t_traces := a_t_traces) (t_manyActs := t_manyActs) (t_status := t_status) (t_tapeLong := t_tapeLong) (t_fault := t_fault) (t_tokenAt := t_tokenAt) (t_tokenLong := t_tokenLong) (t_token := t_token) (t_value := t_value) (t_winner := t_winner) (t_throwsOf := t_throwsOf) (t_handA := t_handA) (t_handB := t_handB) (t_fewestSo := t_fewestSo) (t_traced := t_traced) (t_tape := t_tape) hQ hR

/-! FistTrainsModel.readPlayer -/
abbrev rmX9_readPlayer : Room := { frames := 4, cells := 0, slots := 0, locals := 89 }
set_option maxRecDepth 20000 in
theorem iX9_readPlayer_X9 : ∀ w ∈ wsX90, w ∈ wsX9_readPlayer := by decide +kernel
set_option maxRecDepth 20000 in
theorem mX9_readPlayer_1 : Cond.fieldLink RX9 44 "FistTrainsModel" "readSorts" "[I" ∈ wsX9_readPlayer := List.mem_of_getElem? (i := 1) rfl
set_option maxRecDepth 20000 in
theorem mX9_readPlayer_2 : Cond.fieldLink RX9 109 "FistTrainsModel" "token" "I" ∈ wsX9_readPlayer := List.mem_of_getElem? (i := 2) rfl
set_option maxRecDepth 20000 in
theorem mX9_readPlayer_3 : Cond.fieldLink RX9 112 "FistTrainsModel" "value" "I" ∈ wsX9_readPlayer := List.mem_of_getElem? (i := 3) rfl
set_option maxRecDepth 20000 in
theorem mX9_readPlayer_4 : Cond.fieldLink RX9 47 "FistTrainsModel" "readHands" "[I" ∈ wsX9_readPlayer := List.mem_of_getElem? (i := 4) rfl
def o_X9_readPlayer (N : Nat) (t_tapeLong : Int32) (t_tokenAt : Int32) (t_tokenLong : Int32) (t_token : Int32) (t_value : Int32) (t_tape : (Nat → Int32)) (t_readSorts : (Nat → Int32)) (t_readHands : (Nat → Int32)) (l1 : Int32) : Option (Int32 × Int32 × Int32 × Int32 × Int32 × (Nat → Int32) × (Nat → Int32)) :=
  Option.bind (o_X9_isPlayerWord N t_tokenAt t_tokenLong t_token t_tape) (fun r1 =>
  if r1 = 0 then
    some (1, t_tokenAt, t_tokenLong, t_token, t_value, t_readSorts, t_readHands)
  else
    if l1 = 8 then
      some (3, t_tokenAt, t_tokenLong, t_token, t_value, t_readSorts, t_readHands)
    else
      Option.bind (o_X9_goOn N t_tapeLong t_tokenAt t_tokenLong t_tape) (fun r18 =>
      Option.bind (o_X9_sortOf N r18.1 r18.2.1 r18.2.2.1 t_tape) (fun r27 =>
      ogd (inb l1 8) (
      ogd (inb l1 8) (
      if ((upd t_readSorts (Int32.toNatClampNeg l1) r27) (Int32.toNatClampNeg l1)) = 0 then
        some (1, r18.1, r18.2.1, r18.2.2.1, r18.2.2.2, (upd t_readSorts (Int32.toNatClampNeg l1) r27), t_readHands)
      else
        Option.bind (o_X9_goOn N t_tapeLong r18.1 r18.2.1 t_tape) (fun r43 =>
        if r43.2.2.1 = 2 then
          if r43.2.2.2 ≤ 2 then
            ogd (inb l1 8) (
            Option.bind (o_X9_goOn N t_tapeLong r43.1 r43.2.1 t_tape) (fun r77 =>
            if r77.2.2.1 = 3 then
              Option.bind (o_X9_goOn N t_tapeLong r77.1 r77.2.1 t_tape) (fun r91 =>
              some (0, r91.1, r91.2.1, r91.2.2.1, r91.2.2.2, (upd t_readSorts (Int32.toNatClampNeg l1) r27), (upd t_readHands (Int32.toNatClampNeg l1) r43.2.2.2)))
            else
              some (1, r77.1, r77.2.1, r77.2.2.1, r77.2.2.2, (upd t_readSorts (Int32.toNatClampNeg l1) r27), (upd t_readHands (Int32.toNatClampNeg l1) r43.2.2.2))))
          else
            some (2, r43.1, r43.2.1, r43.2.2.1, r43.2.2.2, (upd t_readSorts (Int32.toNatClampNeg l1) r27), t_readHands)
        else
          some (1, r43.1, r43.2.1, r43.2.2.1, r43.2.2.2, (upd t_readSorts (Int32.toNatClampNeg l1) r27), t_readHands)))))))
set_option maxHeartbeats 4000000 in
set_option maxRecDepth 100000 in
theorem z_X9_readPlayer_0 {sK sV : Nat → Nat} {E : ZE} {cI cB cZ : ClassId} (hC : ZC E 2 cX9_readPlayer wsX9_readPlayer RX9 rmX9_readPlayer (some .int) (zty cI cB cZ)) (hN : ZN sK sV (zA E) (zs E)) {N : Nat} {a_t : Nat} {a_t_tape : Nat} {a_t_readSorts : Nat} {a_t_readHands : Nat} {a_t_now : Nat} {a_t_kept : Nat} {a_t_isKept : Nat} {a_t_acts : Nat} {a_t_was : Nat} {a_t_lanes : Nat} {a_t_longs : Nat} {a_t_isThere : Nat} {a_t_items : Nat} {a_t_copied : Nat} {a_t_inTurn : Nat} {a_t_ends : Nat} {a_t_bestHands : Nat} {a_t_traces : Nat} {t_manyActs : Int32} {t_status : Int32} {t_tapeLong : Int32} {t_fault : Int32} {t_tokenAt : Int32} {t_tokenLong : Int32} {t_token : Int32} {t_value : Int32} {t_winner : Int32} {t_throwsOf : Int32} {t_handA : Int32} {t_handB : Int32} {t_fewestSo : Int32} {t_traced : Int32} {t_tape : (Nat → Int32)} {t_readSorts : (Nat → Int32)} {t_readHands : (Nat → Int32)} {l1 : Int32} {rf : Int32 × Int32 × Int32 × Int32 × Int32 × (Nat → Int32) × (Nat → Int32)} (hQ : ZQi E (zty cI cB cZ) rf.1 [(a_t, .inr (9, [.ref a_t_now, .ref a_t_kept, .ref a_t_isKept, .ref a_t_acts, .int t_manyActs, .ref a_t_was, .int t_status, .ref a_t_lanes, .ref a_t_longs, .ref a_t_isThere, .ref a_t_items, .ref a_t_copied, .ref a_t_tape, .int t_tapeLong, .int t_fault, .int rf.2.1, .int rf.2.2.1, .int rf.2.2.2.1, .int rf.2.2.2.2.1, .ref a_t_readSorts, .ref a_t_readHands, .int t_winner, .int t_throwsOf, .int t_handA, .int t_handB, .ref a_t_inTurn, .ref a_t_ends, .ref a_t_bestHands, .int t_fewestSo, .ref a_t_traces, .int t_traced])), (a_t_tape, .inl (cI, 200, .inl t_tape)), (a_t_readSorts, .inl (cI, 8, .inl rf.2.2.2.2.2.1)), (a_t_readHands, .inl (cI, 8, .inl rf.2.2.2.2.2.2))]) (hR : o_X9_readPlayer N t_tapeLong t_tokenAt t_tokenLong t_token t_value t_tape t_readSorts t_readHands l1 = some rf) : Z E (0, 0) [(0, .ref a_t), (1, .int l1)] 0 [] [(a_t, .inr (9, [.ref a_t_now, .ref a_t_kept, .ref a_t_isKept, .ref a_t_acts, .int t_manyActs, .ref a_t_was, .int t_status, .ref a_t_lanes, .ref a_t_longs, .ref a_t_isThere, .ref a_t_items, .ref a_t_copied, .ref a_t_tape, .int t_tapeLong, .int t_fault, .int t_tokenAt, .int t_tokenLong, .int t_token, .int t_value, .ref a_t_readSorts, .ref a_t_readHands, .int t_winner, .int t_throwsOf, .int t_handA, .int t_handB, .ref a_t_inTurn, .ref a_t_ends, .ref a_t_bestHands, .int t_fewestSo, .ref a_t_traces, .int t_traced])), (a_t_tape, .inl (cI, 200, .inl t_tape)), (a_t_readSorts, .inl (cI, 8, .inl t_readSorts)), (a_t_readHands, .inl (cI, 8, .inl t_readHands))] := by
  rw [o_X9_readPlayer] at hR
  refine z_aload_n hC dX9_readPlayer_0 rfl 0 rfl ?_
  refine z_callVi_p hC hN [] [0, 1] (c_X9_isPlayerWord (l := zl E) (D := zD E) (cI := cI) (cB := cB) (cZ := cZ) (N := N) (a_t := a_t) (a_t_now := a_t_now) (a_t_kept := a_t_kept) (a_t_isKept := a_t_isKept) (a_t_acts := a_t_acts) (a_t_was := a_t_was) (a_t_lanes := a_t_lanes) (a_t_longs := a_t_longs) (a_t_isThere := a_t_isThere) (a_t_items := a_t_items) (a_t_copied := a_t_copied) (a_t_tape := a_t_tape) (a_t_readSorts := a_t_readSorts) (a_t_readHands := a_t_readHands) (a_t_inTurn := a_t_inTurn) (a_t_ends := a_t_ends) (a_t_bestHands := a_t_bestHands) (a_t_traces := a_t_traces) (t_manyActs := t_manyActs) (t_status := t_status) (t_tapeLong := t_tapeLong) (t_fault := t_fault) (t_tokenAt := t_tokenAt) (t_tokenLong := t_tokenLong) (t_token := t_token) (t_value := t_value) (t_winner := t_winner) (t_throwsOf := t_throwsOf) (t_handA := t_handA) (t_handB := t_handB) (t_fewestSo := t_fewestSo) (t_traced := t_traced) (t_tape := t_tape)) rfl ⟨rfl, rfl⟩ gX9_readPlayer_X9_isPlayerWord hvX9_isPlayerWord 0 9 rfl rfl rfl ⟨Nat.le_of_ble_eq_true rfl, Nat.le_of_ble_eq_true rfl⟩ ⟨Nat.zero_le _, Nat.zero_le _⟩ rfl (Nat.le_of_ble_eq_true rfl) rfl (by decide) dX9_readPlayer_1 hR (fun r1 hR => ?_)
  refine z_if_ne hC 9 dX9_readPlayer_4 (by decide) hR (fun hR => ?_) (fun hR => ?_)
  · refine z_iload_n hC dX9_readPlayer_9 rfl 1 rfl ?_
    refine z_bipush (v := 8) hC dX9_readPlayer_10 (by decide) ?_
    refine z_icmp_ne hC 17 dX9_readPlayer_12 (by decide) hR (fun hR => ?_) (fun hR => ?_)
    · refine z_aload_n hC dX9_readPlayer_17 rfl 0 rfl ?_
      refine z_callVv hC hN [] [0, 1] (c_X9_goOn (l := zl E) (D := zD E) (cI := cI) (cB := cB) (cZ := cZ) (N := N) (a_t := a_t) (a_t_now := a_t_now) (a_t_kept := a_t_kept) (a_t_isKept := a_t_isKept) (a_t_acts := a_t_acts) (a_t_was := a_t_was) (a_t_lanes := a_t_lanes) (a_t_longs := a_t_longs) (a_t_isThere := a_t_isThere) (a_t_items := a_t_items) (a_t_copied := a_t_copied) (a_t_tape := a_t_tape) (a_t_readSorts := a_t_readSorts) (a_t_readHands := a_t_readHands) (a_t_inTurn := a_t_inTurn) (a_t_ends := a_t_ends) (a_t_bestHands := a_t_bestHands) (a_t_traces := a_t_traces) (t_manyActs := t_manyActs) (t_status := t_status) (t_tapeLong := t_tapeLong) (t_fault := t_fault) (t_tokenAt := t_tokenAt) (t_tokenLong := t_tokenLong) (t_token := t_token) (t_value := t_value) (t_winner := t_winner) (t_throwsOf := t_throwsOf) (t_handA := t_handA) (t_handB := t_handB) (t_fewestSo := t_fewestSo) (t_traced := t_traced) (t_tape := t_tape)) rfl ⟨rfl, rfl⟩ gX9_readPlayer_X9_goOn hvX9_goOn 0 9 rfl rfl rfl ⟨Nat.le_of_ble_eq_true rfl, Nat.le_of_ble_eq_true rfl⟩ ⟨Nat.zero_le _, Nat.zero_le _⟩ rfl (Nat.le_of_ble_eq_true rfl) rfl (by decide) (fun _ => rfl) dX9_readPlayer_18 hR (fun r18 hR => ?_)
      refine z_eq [(a_t, .inr (9, [.ref a_t_now, .ref a_t_kept, .ref a_t_isKept, .ref a_t_acts, .int t_manyActs, .ref a_t_was, .int t_status, .ref a_t_lanes, .ref a_t_longs, .ref a_t_isThere, .ref a_t_items, .ref a_t_copied, .ref a_t_tape, .int t_tapeLong, .int t_fault, .int r18.1, .int r18.2.1, .int r18.2.2.1, .int r18.2.2.2, .ref a_t_readSorts, .ref a_t_readHands, .int t_winner, .int t_throwsOf, .int t_handA, .int t_handB, .ref a_t_inTurn, .ref a_t_ends, .ref a_t_bestHands, .int t_fewestSo, .ref a_t_traces, .int t_traced])), (a_t_tape, .inl (cI, 200, .inl t_tape)), (a_t_readSorts, .inl (cI, 8, .inl t_readSorts)), (a_t_readHands, .inl (cI, 8, .inl t_readHands))] rfl ?_
      refine z_aload_n hC dX9_readPlayer_21 rfl 0 rfl ?_
      refine z_get hC iX9_readPlayer_X9 rfl 0 19 rfl (by decide) mX9_readPlayer_1 rfl rfl dX9_readPlayer_22 ?_
      refine z_iload_n hC dX9_readPlayer_25 rfl 1 rfl ?_
      refine z_aload_n hC dX9_readPlayer_26 rfl 0 rfl ?_
      refine z_callVi_p hC hN [] [0, 1] (c_X9_sortOf (l := zl E) (D := zD E) (cI := cI) (cB := cB) (cZ := cZ) (N := N) (a_t := a_t) (a_t_now := a_t_now) (a_t_kept := a_t_kept) (a_t_isKept := a_t_isKept) (a_t_acts := a_t_acts) (a_t_was := a_t_was) (a_t_lanes := a_t_lanes) (a_t_longs := a_t_longs) (a_t_isThere := a_t_isThere) (a_t_items := a_t_items) (a_t_copied := a_t_copied) (a_t_tape := a_t_tape) (a_t_readSorts := a_t_readSorts) (a_t_readHands := a_t_readHands) (a_t_inTurn := a_t_inTurn) (a_t_ends := a_t_ends) (a_t_bestHands := a_t_bestHands) (a_t_traces := a_t_traces) (t_manyActs := t_manyActs) (t_status := t_status) (t_tapeLong := t_tapeLong) (t_fault := t_fault) (t_tokenAt := r18.1) (t_tokenLong := r18.2.1) (t_token := r18.2.2.1) (t_value := r18.2.2.2) (t_winner := t_winner) (t_throwsOf := t_throwsOf) (t_handA := t_handA) (t_handB := t_handB) (t_fewestSo := t_fewestSo) (t_traced := t_traced) (t_tape := t_tape)) rfl ⟨rfl, rfl⟩ gX9_readPlayer_X9_sortOf hvX9_sortOf 0 9 rfl rfl rfl ⟨Nat.le_of_ble_eq_true rfl, Nat.le_of_ble_eq_true rfl⟩ ⟨Nat.zero_le _, Nat.zero_le _⟩ rfl (Nat.le_of_ble_eq_true rfl) rfl (by decide) dX9_readPlayer_27 hR (fun r27 hR => ?_)
      refine z_iast hC 2 0 rfl rfl dX9_readPlayer_30 hR (fun hR => ?_)
      refine z_aload_n hC dX9_readPlayer_31 rfl 0 rfl ?_
      refine z_get hC iX9_readPlayer_X9 rfl 0 19 rfl (by decide) mX9_readPlayer_1 rfl rfl dX9_readPlayer_32 ?_
      refine z_iload_n hC dX9_readPlayer_35 rfl 1 rfl ?_
      refine z_iald hC 2 0 rfl rfl dX9_readPlayer_36 hR (fun hR => ?_)
      refine z_if_ne hC 42 dX9_readPlayer_37 (by decide) hR (fun hR => ?_) (fun hR => ?_)
      · refine z_aload_n hC dX9_readPlayer_42 rfl 0 rfl ?_
        refine z_callVv hC hN [] [0, 1] (c_X9_goOn (l := zl E) (D := zD E) (cI := cI) (cB := cB) (cZ := cZ) (N := N) (a_t := a_t) (a_t_now := a_t_now) (a_t_kept := a_t_kept) (a_t_isKept := a_t_isKept) (a_t_acts := a_t_acts) (a_t_was := a_t_was) (a_t_lanes := a_t_lanes) (a_t_longs := a_t_longs) (a_t_isThere := a_t_isThere) (a_t_items := a_t_items) (a_t_copied := a_t_copied) (a_t_tape := a_t_tape) (a_t_readSorts := a_t_readSorts) (a_t_readHands := a_t_readHands) (a_t_inTurn := a_t_inTurn) (a_t_ends := a_t_ends) (a_t_bestHands := a_t_bestHands) (a_t_traces := a_t_traces) (t_manyActs := t_manyActs) (t_status := t_status) (t_tapeLong := t_tapeLong) (t_fault := t_fault) (t_tokenAt := r18.1) (t_tokenLong := r18.2.1) (t_token := r18.2.2.1) (t_value := r18.2.2.2) (t_winner := t_winner) (t_throwsOf := t_throwsOf) (t_handA := t_handA) (t_handB := t_handB) (t_fewestSo := t_fewestSo) (t_traced := t_traced) (t_tape := t_tape)) rfl ⟨rfl, rfl⟩ gX9_readPlayer_X9_goOn hvX9_goOn 0 9 rfl rfl rfl ⟨Nat.le_of_ble_eq_true rfl, Nat.le_of_ble_eq_true rfl⟩ ⟨Nat.zero_le _, Nat.zero_le _⟩ rfl (Nat.le_of_ble_eq_true rfl) rfl (by decide) (fun _ => rfl) dX9_readPlayer_43 hR (fun r43 hR => ?_)
        refine z_eq [(a_t, .inr (9, [.ref a_t_now, .ref a_t_kept, .ref a_t_isKept, .ref a_t_acts, .int t_manyActs, .ref a_t_was, .int t_status, .ref a_t_lanes, .ref a_t_longs, .ref a_t_isThere, .ref a_t_items, .ref a_t_copied, .ref a_t_tape, .int t_tapeLong, .int t_fault, .int r43.1, .int r43.2.1, .int r43.2.2.1, .int r43.2.2.2, .ref a_t_readSorts, .ref a_t_readHands, .int t_winner, .int t_throwsOf, .int t_handA, .int t_handB, .ref a_t_inTurn, .ref a_t_ends, .ref a_t_bestHands, .int t_fewestSo, .ref a_t_traces, .int t_traced])), (a_t_tape, .inl (cI, 200, .inl t_tape)), (a_t_readSorts, .inl (cI, 8, .inl (upd t_readSorts (Int32.toNatClampNeg l1) r27))), (a_t_readHands, .inl (cI, 8, .inl t_readHands))] rfl ?_
        refine z_aload_n hC dX9_readPlayer_46 rfl 0 rfl ?_
        refine z_get hC iX9_readPlayer_X9 rfl 0 17 rfl (by decide) mX9_readPlayer_2 rfl rfl dX9_readPlayer_47 ?_
        refine z_ic2 hC dX9_readPlayer_50 ?_
        refine z_icmp_eq hC 56 dX9_readPlayer_51 (by decide) hR (fun hR => ?_) (fun hR => ?_)
        · refine z_aload_n hC dX9_readPlayer_56 rfl 0 rfl ?_
          refine z_get hC iX9_readPlayer_X9 rfl 0 18 rfl (by decide) mX9_readPlayer_3 rfl rfl dX9_readPlayer_57 ?_
          refine z_ic2 hC dX9_readPlayer_60 ?_
          refine z_icmp_le hC 66 dX9_readPlayer_61 (by decide) hR (fun hR => ?_) (fun hR => ?_)
          · refine z_aload_n hC dX9_readPlayer_66 rfl 0 rfl ?_
            refine z_get hC iX9_readPlayer_X9 rfl 0 20 rfl (by decide) mX9_readPlayer_4 rfl rfl dX9_readPlayer_67 ?_
            refine z_iload_n hC dX9_readPlayer_70 rfl 1 rfl ?_
            refine z_aload_n hC dX9_readPlayer_71 rfl 0 rfl ?_
            refine z_get hC iX9_readPlayer_X9 rfl 0 18 rfl (by decide) mX9_readPlayer_3 rfl rfl dX9_readPlayer_72 ?_
            refine z_iast hC 3 0 rfl rfl dX9_readPlayer_75 hR (fun hR => ?_)
            refine z_aload_n hC dX9_readPlayer_76 rfl 0 rfl ?_
            refine z_callVv hC hN [] [0, 1] (c_X9_goOn (l := zl E) (D := zD E) (cI := cI) (cB := cB) (cZ := cZ) (N := N) (a_t := a_t) (a_t_now := a_t_now) (a_t_kept := a_t_kept) (a_t_isKept := a_t_isKept) (a_t_acts := a_t_acts) (a_t_was := a_t_was) (a_t_lanes := a_t_lanes) (a_t_longs := a_t_longs) (a_t_isThere := a_t_isThere) (a_t_items := a_t_items) (a_t_copied := a_t_copied) (a_t_tape := a_t_tape) (a_t_readSorts := a_t_readSorts) (a_t_readHands := a_t_readHands) (a_t_inTurn := a_t_inTurn) (a_t_ends := a_t_ends) (a_t_bestHands := a_t_bestHands) (a_t_traces := a_t_traces) (t_manyActs := t_manyActs) (t_status := t_status) (t_tapeLong := t_tapeLong) (t_fault := t_fault) (t_tokenAt := r43.1) (t_tokenLong := r43.2.1) (t_token := r43.2.2.1) (t_value := r43.2.2.2) (t_winner := t_winner) (t_throwsOf := t_throwsOf) (t_handA := t_handA) (t_handB := t_handB) (t_fewestSo := t_fewestSo) (t_traced := t_traced) (t_tape := t_tape)) rfl ⟨rfl, rfl⟩ gX9_readPlayer_X9_goOn hvX9_goOn 0 9 rfl rfl rfl ⟨Nat.le_of_ble_eq_true rfl, Nat.le_of_ble_eq_true rfl⟩ ⟨Nat.zero_le _, Nat.zero_le _⟩ rfl (Nat.le_of_ble_eq_true rfl) rfl (by decide) (fun _ => rfl) dX9_readPlayer_77 hR (fun r77 hR => ?_)
            refine z_eq [(a_t, .inr (9, [.ref a_t_now, .ref a_t_kept, .ref a_t_isKept, .ref a_t_acts, .int t_manyActs, .ref a_t_was, .int t_status, .ref a_t_lanes, .ref a_t_longs, .ref a_t_isThere, .ref a_t_items, .ref a_t_copied, .ref a_t_tape, .int t_tapeLong, .int t_fault, .int r77.1, .int r77.2.1, .int r77.2.2.1, .int r77.2.2.2, .ref a_t_readSorts, .ref a_t_readHands, .int t_winner, .int t_throwsOf, .int t_handA, .int t_handB, .ref a_t_inTurn, .ref a_t_ends, .ref a_t_bestHands, .int t_fewestSo, .ref a_t_traces, .int t_traced])), (a_t_tape, .inl (cI, 200, .inl t_tape)), (a_t_readSorts, .inl (cI, 8, .inl (upd t_readSorts (Int32.toNatClampNeg l1) r27))), (a_t_readHands, .inl (cI, 8, .inl (upd t_readHands (Int32.toNatClampNeg l1) r43.2.2.2)))] rfl ?_
            refine z_aload_n hC dX9_readPlayer_80 rfl 0 rfl ?_
            refine z_get hC iX9_readPlayer_X9 rfl 0 17 rfl (by decide) mX9_readPlayer_2 rfl rfl dX9_readPlayer_81 ?_
            refine z_ic3 hC dX9_readPlayer_84 ?_
            refine z_icmp_eq hC 90 dX9_readPlayer_85 (by decide) hR (fun hR => ?_) (fun hR => ?_)
            · refine z_aload_n hC dX9_readPlayer_90 rfl 0 rfl ?_
              refine z_callVv hC hN [] [0, 1] (c_X9_goOn (l := zl E) (D := zD E) (cI := cI) (cB := cB) (cZ := cZ) (N := N) (a_t := a_t) (a_t_now := a_t_now) (a_t_kept := a_t_kept) (a_t_isKept := a_t_isKept) (a_t_acts := a_t_acts) (a_t_was := a_t_was) (a_t_lanes := a_t_lanes) (a_t_longs := a_t_longs) (a_t_isThere := a_t_isThere) (a_t_items := a_t_items) (a_t_copied := a_t_copied) (a_t_tape := a_t_tape) (a_t_readSorts := a_t_readSorts) (a_t_readHands := a_t_readHands) (a_t_inTurn := a_t_inTurn) (a_t_ends := a_t_ends) (a_t_bestHands := a_t_bestHands) (a_t_traces := a_t_traces) (t_manyActs := t_manyActs) (t_status := t_status) (t_tapeLong := t_tapeLong) (t_fault := t_fault) (t_tokenAt := r77.1) (t_tokenLong := r77.2.1) (t_token := r77.2.2.1) (t_value := r77.2.2.2) (t_winner := t_winner) (t_throwsOf := t_throwsOf) (t_handA := t_handA) (t_handB := t_handB) (t_fewestSo := t_fewestSo) (t_traced := t_traced) (t_tape := t_tape)) rfl ⟨rfl, rfl⟩ gX9_readPlayer_X9_goOn hvX9_goOn 0 9 rfl rfl rfl ⟨Nat.le_of_ble_eq_true rfl, Nat.le_of_ble_eq_true rfl⟩ ⟨Nat.zero_le _, Nat.zero_le _⟩ rfl (Nat.le_of_ble_eq_true rfl) rfl (by decide) (fun _ => rfl) dX9_readPlayer_91 hR (fun r91 hR => ?_)
              refine z_eq [(a_t, .inr (9, [.ref a_t_now, .ref a_t_kept, .ref a_t_isKept, .ref a_t_acts, .int t_manyActs, .ref a_t_was, .int t_status, .ref a_t_lanes, .ref a_t_longs, .ref a_t_isThere, .ref a_t_items, .ref a_t_copied, .ref a_t_tape, .int t_tapeLong, .int t_fault, .int r91.1, .int r91.2.1, .int r91.2.2.1, .int r91.2.2.2, .ref a_t_readSorts, .ref a_t_readHands, .int t_winner, .int t_throwsOf, .int t_handA, .int t_handB, .ref a_t_inTurn, .ref a_t_ends, .ref a_t_bestHands, .int t_fewestSo, .ref a_t_traces, .int t_traced])), (a_t_tape, .inl (cI, 200, .inl t_tape)), (a_t_readSorts, .inl (cI, 8, .inl (upd t_readSorts (Int32.toNatClampNeg l1) r27))), (a_t_readHands, .inl (cI, 8, .inl (upd t_readHands (Int32.toNatClampNeg l1) r43.2.2.2)))] rfl ?_
              refine z_ic0 hC dX9_readPlayer_94 ?_
              obtain rfl := Option.some.inj hR
              exact z_iret hC hQ rfl rfl rfl dX9_readPlayer_95
            · refine z_ic1 hC dX9_readPlayer_88 ?_
              obtain rfl := Option.some.inj hR
              exact z_iret hC hQ rfl rfl rfl dX9_readPlayer_89
          · refine z_ic2 hC dX9_readPlayer_64 ?_
            obtain rfl := Option.some.inj hR
            exact z_iret hC hQ rfl rfl rfl dX9_readPlayer_65
        · refine z_ic1 hC dX9_readPlayer_54 ?_
          obtain rfl := Option.some.inj hR
          exact z_iret hC hQ rfl rfl rfl dX9_readPlayer_55
      · refine z_ic1 hC dX9_readPlayer_40 ?_
        obtain rfl := Option.some.inj hR
        exact z_iret hC hQ rfl rfl rfl dX9_readPlayer_41
    · refine z_ic3 hC dX9_readPlayer_15 ?_
      obtain rfl := Option.some.inj hR
      exact z_iret hC hQ rfl rfl rfl dX9_readPlayer_16
  · refine z_ic1 hC dX9_readPlayer_7 ?_
    obtain rfl := Option.some.inj hR
    exact z_iret hC hQ rfl rfl rfl dX9_readPlayer_8
set_option maxHeartbeats 4000000 in
set_option maxRecDepth 100000 in
theorem c_X9_readPlayer {sK sV : Nat → Nat} {l : Launch} {D : va_G} {cI cB cZ : ClassId} {N : Nat} {a_t : Nat} {a_t_tape : Nat} {a_t_readSorts : Nat} {a_t_readHands : Nat} {a_t_now : Nat} {a_t_kept : Nat} {a_t_isKept : Nat} {a_t_acts : Nat} {a_t_was : Nat} {a_t_lanes : Nat} {a_t_longs : Nat} {a_t_isThere : Nat} {a_t_items : Nat} {a_t_copied : Nat} {a_t_inTurn : Nat} {a_t_ends : Nat} {a_t_bestHands : Nat} {a_t_traces : Nat} {t_manyActs : Int32} {t_status : Int32} {t_tapeLong : Int32} {t_fault : Int32} {t_tokenAt : Int32} {t_tokenLong : Int32} {t_token : Int32} {t_value : Int32} {t_winner : Int32} {t_throwsOf : Int32} {t_handA : Int32} {t_handB : Int32} {t_fewestSo : Int32} {t_traced : Int32} {t_tape : (Nat → Int32)} {t_readSorts : (Nat → Int32)} {t_readHands : (Nat → Int32)} {l1 : Int32} : ∀ R : Int32 × Int32 × Int32 × Int32 × Int32 × (Nat → Int32) × (Nat → Int32), o_X9_readPlayer N t_tapeLong t_tokenAt t_tokenLong t_token t_value t_tape t_readSorts t_readHands l1 = some R → ZMi sK sV l yX9_readPlayer wsX9_readPlayer rmX9_readPlayer D (zty cI cB cZ) [.ref a_t, .int l1] [(a_t, .inr (9, [.ref a_t_now, .ref a_t_kept, .ref a_t_isKept, .ref a_t_acts, .int t_manyActs, .ref a_t_was, .int t_status, .ref a_t_lanes, .ref a_t_longs, .ref a_t_isThere, .ref a_t_items, .ref a_t_copied, .ref a_t_tape, .int t_tapeLong, .int t_fault, .int t_tokenAt, .int t_tokenLong, .int t_token, .int t_value, .ref a_t_readSorts, .ref a_t_readHands, .int t_winner, .int t_throwsOf, .int t_handA, .int t_handB, .ref a_t_inTurn, .ref a_t_ends, .ref a_t_bestHands, .int t_fewestSo, .ref a_t_traces, .int t_traced])), (a_t_tape, .inl (cI, 200, .inl t_tape)), (a_t_readSorts, .inl (cI, 8, .inl t_readSorts)), (a_t_readHands, .inl (cI, 8, .inl t_readHands))] R.1 [(a_t, .inr (9, [.ref a_t_now, .ref a_t_kept, .ref a_t_isKept, .ref a_t_acts, .int t_manyActs, .ref a_t_was, .int t_status, .ref a_t_lanes, .ref a_t_longs, .ref a_t_isThere, .ref a_t_items, .ref a_t_copied, .ref a_t_tape, .int t_tapeLong, .int t_fault, .int R.2.1, .int R.2.2.1, .int R.2.2.2.1, .int R.2.2.2.2.1, .ref a_t_readSorts, .ref a_t_readHands, .int t_winner, .int t_throwsOf, .int t_handA, .int t_handB, .ref a_t_inTurn, .ref a_t_ends, .ref a_t_bestHands, .int t_fewestSo, .ref a_t_traces, .int t_traced])), (a_t_tape, .inl (cI, 200, .inl t_tape)), (a_t_readSorts, .inl (cI, 8, .inl R.2.2.2.2.2.1)), (a_t_readHands, .inl (cI, 8, .inl R.2.2.2.2.2.2))] := by
  intro R hR
  refine zi_of (cc := cX9_readPlayer) (maxL := 2) (ret := (some .int)) (by decide) rfl (Nat.le_of_ble_eq_true rfl) (fun E hE1 hE2 hC hN hQ => ?_)
  subst hE1 hE2
  exact z_X9_readPlayer_0 hC hN (N := N) (a_t := a_t) (a_t_tape := a_t_tape) (a_t_readSorts := a_t_readSorts) (a_t_readHands := a_t_readHands) (a_t_now := a_t_now) (a_t_kept := a_t_kept) (a_t_isKept := a_t_isKept) (a_t_acts := a_t_acts) (a_t_was := a_t_was) (a_t_lanes := a_t_lanes) (a_t_longs := a_t_longs) (a_t_isThere := a_t_isThere) (a_t_items := a_t_items) (a_t_copied := a_t_copied) (a_t_inTurn := a_t_inTurn) (a_t_ends := a_t_ends) (a_t_bestHands := a_t_bestHands) (a_t_traces := a_t_traces) (t_manyActs := t_manyActs) (t_status := t_status) (t_tapeLong := t_tapeLong) (t_fault := t_fault) (t_tokenAt := t_tokenAt) (t_tokenLong := t_tokenLong) (t_token := t_token) (t_value := t_value) (t_winner := t_winner) (t_throwsOf := t_throwsOf) (t_handA := t_handA) (t_handB := t_handB) (t_fewestSo := t_fewestSo) (t_traced := t_traced) (t_tape := t_tape) (t_readSorts := t_readSorts) (t_readHands := t_readHands) (l1 := l1) hQ hR

/-! FistTrainsModel.hall -/
abbrev rmX9_hall : Room := { frames := 5, cells := 0, slots := 0, locals := 110 }
set_option maxRecDepth 20000 in
theorem iX9_hall_X9 : ∀ w ∈ wsX90, w ∈ wsX9_hall := by decide +kernel
set_option maxRecDepth 20000 in
theorem mX9_hall_9 : Cond.fieldLink RX9 171 "FistTrainsModel" "manyActs" "I" ∈ wsX9_hall := List.mem_of_getElem? (i := 9) rfl
set_option maxRecDepth 20000 in
theorem mX9_hall_6 : Cond.fieldLink RX9 7 "FistTrainsModel" "now" "[I" ∈ wsX9_hall := List.mem_of_getElem? (i := 6) rfl
set_option maxRecDepth 20000 in
theorem mX9_hall_7 : Cond.fieldLink RX9 44 "FistTrainsModel" "readSorts" "[I" ∈ wsX9_hall := List.mem_of_getElem? (i := 7) rfl
set_option maxRecDepth 20000 in
theorem mX9_hall_8 : Cond.fieldLink RX9 47 "FistTrainsModel" "readHands" "[I" ∈ wsX9_hall := List.mem_of_getElem? (i := 8) rfl
set_option maxRecDepth 20000 in
theorem mX9_hall_1 : Cond.fieldLink RX9 109 "FistTrainsModel" "token" "I" ∈ wsX9_hall := List.mem_of_getElem? (i := 1) rfl
set_option maxRecDepth 20000 in
theorem mX9_hall_2 : Cond.fieldLink RX9 89 "FistTrainsModel" "tapeLong" "I" ∈ wsX9_hall := List.mem_of_getElem? (i := 2) rfl
set_option maxRecDepth 20000 in
theorem mX9_hall_3 : Cond.fieldLink RX9 167 "FistTrainsModel" "fault" "I" ∈ wsX9_hall := List.mem_of_getElem? (i := 3) rfl
set_option maxRecDepth 20000 in
theorem mX9_hall_4 : Cond.constant RX9 170 (-1000100) ∈ wsX9_hall := List.mem_of_getElem? (i := 4) rfl
set_option maxRecDepth 20000 in
theorem mX9_hall_5 : Cond.fieldLink RX9 103 "FistTrainsModel" "tokenAt" "I" ∈ wsX9_hall := List.mem_of_getElem? (i := 5) rfl
def o_X9_hall_24 (N : Nat) (K9 : Int32 → Int32 → Int32 → Int32 → (Nat → Int32) → (Nat → Int32) → Int32 → Int32 → Option (Int32 × Int32 × Int32 × Int32 × Int32 × Int32 × Int32 × Int32 × (Nat → Int32) × (Nat → Int32) × (Nat → Int32))) (t_manyActs : Int32) (t_tapeLong : Int32) (t_fault : Int32) (t_tokenAt : Int32) (t_tokenLong : Int32) (t_token : Int32) (t_value : Int32) (t_now : (Nat → Int32)) (t_tape : (Nat → Int32)) (t_readSorts : (Nat → Int32)) (t_readHands : (Nat → Int32)) (l1 : Int32) : Option (Int32 × Int32 × Int32 × Int32 × Int32 × Int32 × Int32 × Int32 × (Nat → Int32) × (Nat → Int32) × (Nat → Int32)) :=
  Option.bind (o_X9_readPlayer N t_tapeLong t_tokenAt t_tokenLong t_token t_value t_tape t_readSorts t_readHands l1) (fun r26 =>
  if r26.1 = 0 then
    K9 r26.2.1 r26.2.2.1 r26.2.2.2.1 r26.2.2.2.2.1 r26.2.2.2.2.2.1 r26.2.2.2.2.2.2 (l1 + 1) r26.1
  else
    K9 r26.2.1 r26.2.2.1 r26.2.2.2.1 r26.2.2.2.2.1 r26.2.2.2.2.2.1 r26.2.2.2.2.2.2 (l1 + 0) r26.1)
def o_X9_hall_97 (N : Nat) (t_tapeLong : Int32) (t_fault : Int32) (t_tokenAt : Int32) (t_tokenLong : Int32) (t_token : Int32) (t_value : Int32) (t_readSorts : (Nat → Int32)) (t_readHands : (Nat → Int32)) (l1 : Int32) : Nat → (Nat → Int32) → Int32 → Option (Int32 × Int32 × Int32 × Int32 × Int32 × Int32 × Int32 × Int32 × (Nat → Int32) × (Nat → Int32) × (Nat → Int32))
  | 0 => fun _ _ => none
  | n + 1 => fun t_now l3 => 
    if l1 ≤ l3 then
      some (l1, 0, t_tapeLong, t_fault, t_tokenAt, t_tokenLong, t_token, t_value, t_now, t_readSorts, t_readHands)
    else
      ogd (inb l3 8) (
      ogd (inb (1 + l3) 27) (
      ogd (inb l3 8) (
      ogd (inb (9 + l3) 27) (
      ogd (inb (17 + l3) 27) (
      o_X9_hall_97 N t_tapeLong t_fault t_tokenAt t_tokenLong t_token t_value t_readSorts t_readHands l1 n (upd (upd (upd t_now (Int32.toNatClampNeg (1 + l3)) (t_readSorts (Int32.toNatClampNeg l3))) (Int32.toNatClampNeg (9 + l3)) (t_readHands (Int32.toNatClampNeg l3))) (Int32.toNatClampNeg (17 + l3)) l3) (l3 + 1))))))
def o_X9_hall_69 (N : Nat) (t_tapeLong : Int32) (t_fault : Int32) (t_tokenAt : Int32) (t_tokenLong : Int32) (t_token : Int32) (t_value : Int32) (t_readSorts : (Nat → Int32)) (t_readHands : (Nat → Int32)) (l1 : Int32) : Nat → (Nat → Int32) → Int32 → Option (Int32 × Int32 × Int32 × Int32 × Int32 × Int32 × Int32 × Int32 × (Nat → Int32) × (Nat → Int32) × (Nat → Int32))
  | 0 => fun _ _ => none
  | n + 1 => fun t_now l3 => 
    if 27 ≤ l3 then
      ogd (inb 0 27) (
      o_X9_hall_97 N t_tapeLong t_fault t_tokenAt t_tokenLong t_token t_value t_readSorts t_readHands l1 N (upd t_now (Int32.toNatClampNeg 0) l1) 0)
    else
      ogd (inb l3 27) (
      o_X9_hall_69 N t_tapeLong t_fault t_tokenAt t_tokenLong t_token t_value t_readSorts t_readHands l1 n (upd t_now (Int32.toNatClampNeg l3) 0) (l3 + 1))
def o_X9_hall_45 (N : Nat) (t_manyActs : Int32) (t_fault : Int32) (t_tokenAt : Int32) (t_tokenLong : Int32) (t_token : Int32) (t_value : Int32) (t_now : (Nat → Int32)) (t_readSorts : (Nat → Int32)) (t_readHands : (Nat → Int32)) (l1 : Int32) (l2 : Int32) : Option (Int32 × Int32 × Int32 × Int32 × Int32 × Int32 × Int32 × Int32 × (Nat → Int32) × (Nat → Int32) × (Nat → Int32)) :=
  if l2 = 0 then
    o_X9_hall_69 N 0 t_fault t_tokenAt t_tokenLong t_token t_value t_readSorts t_readHands l1 N t_now 0
  else
    some (((-1000100) - t_tokenAt), t_manyActs, 0, l2, t_tokenAt, t_tokenLong, t_token, t_value, t_now, t_readSorts, t_readHands)
def o_X9_hall_9 (N : Nat) (t_manyActs : Int32) (t_tapeLong : Int32) (t_fault : Int32) (t_now : (Nat → Int32)) (t_tape : (Nat → Int32)) : Nat → Int32 → Int32 → Int32 → Int32 → (Nat → Int32) → (Nat → Int32) → Int32 → Int32 → Option (Int32 × Int32 × Int32 × Int32 × Int32 × Int32 × Int32 × Int32 × (Nat → Int32) × (Nat → Int32) × (Nat → Int32))
  | 0 => fun _ _ _ _ _ _ _ _ => none
  | n + 1 => fun t_tokenAt t_tokenLong t_token t_value t_readSorts t_readHands l1 l2 => 
    if l2 = 0 then
      if t_token = 0 then
        if l1 = 0 then
          o_X9_hall_24 N (o_X9_hall_9 N t_manyActs t_tapeLong t_fault t_now t_tape n) t_manyActs t_tapeLong t_fault t_tokenAt t_tokenLong t_token t_value t_now t_tape t_readSorts t_readHands l1
        else
          o_X9_hall_45 N t_manyActs t_fault t_tokenAt t_tokenLong t_token t_value t_now t_readSorts t_readHands l1 l2
      else
        o_X9_hall_24 N (o_X9_hall_9 N t_manyActs t_tapeLong t_fault t_now t_tape n) t_manyActs t_tapeLong t_fault t_tokenAt t_tokenLong t_token t_value t_now t_tape t_readSorts t_readHands l1
    else
      o_X9_hall_45 N t_manyActs t_fault t_tokenAt t_tokenLong t_token t_value t_now t_readSorts t_readHands l1 l2
def o_X9_hall (N : Nat) (t_manyActs : Int32) (t_tapeLong : Int32) (t_fault : Int32) (t_now : (Nat → Int32)) (t_tape : (Nat → Int32)) (t_readSorts : (Nat → Int32)) (t_readHands : (Nat → Int32)) : Option (Int32 × Int32 × Int32 × Int32 × Int32 × Int32 × Int32 × Int32 × (Nat → Int32) × (Nat → Int32) × (Nat → Int32)) :=
  Option.bind (o_X9_look N t_tapeLong t_tape 0) (fun r6 =>
  o_X9_hall_9 N t_manyActs t_tapeLong t_fault t_now t_tape N r6.1 r6.2.1 r6.2.2.1 r6.2.2.2 t_readSorts t_readHands 0 0)
set_option maxHeartbeats 4000000 in
set_option maxRecDepth 100000 in
theorem z_X9_hall_24 {sK sV : Nat → Nat} {E : ZE} {cI cB cZ : ClassId} (hC : ZC E 4 cX9_hall wsX9_hall RX9 rmX9_hall (some .int) (zty cI cB cZ)) (hN : ZN sK sV (zA E) (zs E)) {N : Nat} {a_t : Nat} {a_t_now : Nat} {a_t_tape : Nat} {a_t_readSorts : Nat} {a_t_readHands : Nat} {a_t_kept : Nat} {a_t_isKept : Nat} {a_t_acts : Nat} {a_t_was : Nat} {a_t_lanes : Nat} {a_t_longs : Nat} {a_t_isThere : Nat} {a_t_items : Nat} {a_t_copied : Nat} {a_t_inTurn : Nat} {a_t_ends : Nat} {a_t_bestHands : Nat} {a_t_traces : Nat} {t_manyActs : Int32} {t_status : Int32} {t_tapeLong : Int32} {t_fault : Int32} {t_tokenAt : Int32} {t_tokenLong : Int32} {t_token : Int32} {t_value : Int32} {t_winner : Int32} {t_throwsOf : Int32} {t_handA : Int32} {t_handB : Int32} {t_fewestSo : Int32} {t_traced : Int32} {t_now : (Nat → Int32)} {t_tape : (Nat → Int32)} {t_readSorts : (Nat → Int32)} {t_readHands : (Nat → Int32)} {l1 : Int32} {K9 : Int32 → Int32 → Int32 → Int32 → (Nat → Int32) → (Nat → Int32) → Int32 → Int32 → Option (Int32 × Int32 × Int32 × Int32 × Int32 × Int32 × Int32 × Int32 × (Nat → Int32) × (Nat → Int32) × (Nat → Int32))} {rf : Int32 × Int32 × Int32 × Int32 × Int32 × Int32 × Int32 × Int32 × (Nat → Int32) × (Nat → Int32) × (Nat → Int32)} (hQ : ZQi E (zty cI cB cZ) rf.1 [(a_t, .inr (9, [.ref a_t_now, .ref a_t_kept, .ref a_t_isKept, .ref a_t_acts, .int rf.2.1, .ref a_t_was, .int t_status, .ref a_t_lanes, .ref a_t_longs, .ref a_t_isThere, .ref a_t_items, .ref a_t_copied, .ref a_t_tape, .int rf.2.2.1, .int rf.2.2.2.1, .int rf.2.2.2.2.1, .int rf.2.2.2.2.2.1, .int rf.2.2.2.2.2.2.1, .int rf.2.2.2.2.2.2.2.1, .ref a_t_readSorts, .ref a_t_readHands, .int t_winner, .int t_throwsOf, .int t_handA, .int t_handB, .ref a_t_inTurn, .ref a_t_ends, .ref a_t_bestHands, .int t_fewestSo, .ref a_t_traces, .int t_traced])), (a_t_now, .inl (cI, 27, .inl rf.2.2.2.2.2.2.2.2.1)), (a_t_tape, .inl (cI, 200, .inl t_tape)), (a_t_readSorts, .inl (cI, 8, .inl rf.2.2.2.2.2.2.2.2.2.1)), (a_t_readHands, .inl (cI, 8, .inl rf.2.2.2.2.2.2.2.2.2.2))]) (hK9 : ∀ (t_tokenAt : Int32) (t_tokenLong : Int32) (t_token : Int32) (t_value : Int32) (t_readSorts : (Nat → Int32)) (t_readHands : (Nat → Int32)) (l1 : Int32) (l2 : Int32), K9 t_tokenAt t_tokenLong t_token t_value t_readSorts t_readHands l1 l2 = some rf → Z E (0, 0) [(0, .ref a_t), (1, .int l1), (2, .int l2)] 9 [] [(a_t, .inr (9, [.ref a_t_now, .ref a_t_kept, .ref a_t_isKept, .ref a_t_acts, .int t_manyActs, .ref a_t_was, .int t_status, .ref a_t_lanes, .ref a_t_longs, .ref a_t_isThere, .ref a_t_items, .ref a_t_copied, .ref a_t_tape, .int t_tapeLong, .int t_fault, .int t_tokenAt, .int t_tokenLong, .int t_token, .int t_value, .ref a_t_readSorts, .ref a_t_readHands, .int t_winner, .int t_throwsOf, .int t_handA, .int t_handB, .ref a_t_inTurn, .ref a_t_ends, .ref a_t_bestHands, .int t_fewestSo, .ref a_t_traces, .int t_traced])), (a_t_now, .inl (cI, 27, .inl t_now)), (a_t_tape, .inl (cI, 200, .inl t_tape)), (a_t_readSorts, .inl (cI, 8, .inl t_readSorts)), (a_t_readHands, .inl (cI, 8, .inl t_readHands))]) (hR : o_X9_hall_24 N K9 t_manyActs t_tapeLong t_fault t_tokenAt t_tokenLong t_token t_value t_now t_tape t_readSorts t_readHands l1 = some rf) : Z E (0, 0) [(0, .ref a_t), (1, .int l1)] 24 [] [(a_t, .inr (9, [.ref a_t_now, .ref a_t_kept, .ref a_t_isKept, .ref a_t_acts, .int t_manyActs, .ref a_t_was, .int t_status, .ref a_t_lanes, .ref a_t_longs, .ref a_t_isThere, .ref a_t_items, .ref a_t_copied, .ref a_t_tape, .int t_tapeLong, .int t_fault, .int t_tokenAt, .int t_tokenLong, .int t_token, .int t_value, .ref a_t_readSorts, .ref a_t_readHands, .int t_winner, .int t_throwsOf, .int t_handA, .int t_handB, .ref a_t_inTurn, .ref a_t_ends, .ref a_t_bestHands, .int t_fewestSo, .ref a_t_traces, .int t_traced])), (a_t_now, .inl (cI, 27, .inl t_now)), (a_t_tape, .inl (cI, 200, .inl t_tape)), (a_t_readSorts, .inl (cI, 8, .inl t_readSorts)), (a_t_readHands, .inl (cI, 8, .inl t_readHands))] := by
  rw [o_X9_hall_24] at hR
  refine z_aload_n hC dX9_hall_24 rfl 0 rfl ?_
  refine z_iload_n hC dX9_hall_25 rfl 1 rfl ?_
  refine z_callVi hC hN [.int l1] [0, 2, 3, 4] (c_X9_readPlayer (l := zl E) (D := zD E) (cI := cI) (cB := cB) (cZ := cZ) (N := N) (a_t := a_t) (a_t_now := a_t_now) (a_t_kept := a_t_kept) (a_t_isKept := a_t_isKept) (a_t_acts := a_t_acts) (a_t_was := a_t_was) (a_t_lanes := a_t_lanes) (a_t_longs := a_t_longs) (a_t_isThere := a_t_isThere) (a_t_items := a_t_items) (a_t_copied := a_t_copied) (a_t_tape := a_t_tape) (a_t_readSorts := a_t_readSorts) (a_t_readHands := a_t_readHands) (a_t_inTurn := a_t_inTurn) (a_t_ends := a_t_ends) (a_t_bestHands := a_t_bestHands) (a_t_traces := a_t_traces) (l1 := l1) (t_manyActs := t_manyActs) (t_status := t_status) (t_tapeLong := t_tapeLong) (t_fault := t_fault) (t_tokenAt := t_tokenAt) (t_tokenLong := t_tokenLong) (t_token := t_token) (t_value := t_value) (t_winner := t_winner) (t_throwsOf := t_throwsOf) (t_handA := t_handA) (t_handB := t_handB) (t_fewestSo := t_fewestSo) (t_traced := t_traced) (t_tape := t_tape) (t_readSorts := t_readSorts) (t_readHands := t_readHands)) rfl ⟨rfl, rfl⟩ gX9_hall_X9_readPlayer hvX9_readPlayer 0 9 rfl rfl rfl ⟨Nat.le_of_ble_eq_true rfl, Nat.le_of_ble_eq_true rfl⟩ ⟨Nat.zero_le _, Nat.zero_le _⟩ rfl (Nat.le_of_ble_eq_true rfl) rfl (by decide) (fun _ => rfl) dX9_hall_26 hR (fun r26 hR => ?_)
  refine z_eq [(a_t, .inr (9, [.ref a_t_now, .ref a_t_kept, .ref a_t_isKept, .ref a_t_acts, .int t_manyActs, .ref a_t_was, .int t_status, .ref a_t_lanes, .ref a_t_longs, .ref a_t_isThere, .ref a_t_items, .ref a_t_copied, .ref a_t_tape, .int t_tapeLong, .int t_fault, .int r26.2.1, .int r26.2.2.1, .int r26.2.2.2.1, .int r26.2.2.2.2.1, .ref a_t_readSorts, .ref a_t_readHands, .int t_winner, .int t_throwsOf, .int t_handA, .int t_handB, .ref a_t_inTurn, .ref a_t_ends, .ref a_t_bestHands, .int t_fewestSo, .ref a_t_traces, .int t_traced])), (a_t_now, .inl (cI, 27, .inl t_now)), (a_t_tape, .inl (cI, 200, .inl t_tape)), (a_t_readSorts, .inl (cI, 8, .inl r26.2.2.2.2.2.1)), (a_t_readHands, .inl (cI, 8, .inl r26.2.2.2.2.2.2))] rfl ?_
  refine z_istore_n hC [(2, .int r26.1), (0, .ref a_t), (1, .int l1)] dX9_hall_29 rfl (by decide) rfl ?_
  refine z_iload_n hC dX9_hall_30 rfl 2 rfl ?_
  refine z_iload_n hC dX9_hall_31 rfl 0 rfl ?_
  refine z_if_ne hC 39 dX9_hall_32 (by decide) hR (fun hR => ?_) (fun hR => ?_)
  · refine z_ic0 hC dX9_hall_39 ?_
    refine z_iadd hC dX9_hall_40 ?_
    refine z_istore_n hC [(1, .int (l1 + 0)), (2, .int r26.1), (0, .ref a_t)] dX9_hall_41 rfl (by decide) rfl ?_
    refine z_goto hC 9 dX9_hall_42 (by decide) ?_
    refine z_sub (lv' := [(0, .ref a_t), (1, .int (l1 + 0)), (2, .int r26.1)]) [2, 0, 1] rfl ?_
    exact hK9 r26.2.1 r26.2.2.1 r26.2.2.2.1 r26.2.2.2.2.1 r26.2.2.2.2.2.1 r26.2.2.2.2.2.2 (l1 + 0) r26.1 hR
  · refine z_ic1 hC dX9_hall_35 ?_
    refine z_goto hC 40 dX9_hall_36 (by decide) ?_
    refine z_iadd hC dX9_hall_40 ?_
    refine z_istore_n hC [(1, .int (l1 + 1)), (2, .int r26.1), (0, .ref a_t)] dX9_hall_41 rfl (by decide) rfl ?_
    refine z_goto hC 9 dX9_hall_42 (by decide) ?_
    refine z_sub (lv' := [(0, .ref a_t), (1, .int (l1 + 1)), (2, .int r26.1)]) [2, 0, 1] rfl ?_
    exact hK9 r26.2.1 r26.2.2.1 r26.2.2.2.1 r26.2.2.2.2.1 r26.2.2.2.2.2.1 r26.2.2.2.2.2.2 (l1 + 1) r26.1 hR
set_option maxHeartbeats 4000000 in
set_option maxRecDepth 100000 in
theorem z_X9_hall_97 {sK sV : Nat → Nat} {E : ZE} {cI cB cZ : ClassId} (hC : ZC E 4 cX9_hall wsX9_hall RX9 rmX9_hall (some .int) (zty cI cB cZ)) (hN : ZN sK sV (zA E) (zs E)) {N : Nat} {a_t : Nat} {a_t_now : Nat} {a_t_tape : Nat} {a_t_readSorts : Nat} {a_t_readHands : Nat} {a_t_kept : Nat} {a_t_isKept : Nat} {a_t_acts : Nat} {a_t_was : Nat} {a_t_lanes : Nat} {a_t_longs : Nat} {a_t_isThere : Nat} {a_t_items : Nat} {a_t_copied : Nat} {a_t_inTurn : Nat} {a_t_ends : Nat} {a_t_bestHands : Nat} {a_t_traces : Nat} {t_manyActs : Int32} {t_status : Int32} {t_tapeLong : Int32} {t_fault : Int32} {t_tokenAt : Int32} {t_tokenLong : Int32} {t_token : Int32} {t_value : Int32} {t_winner : Int32} {t_throwsOf : Int32} {t_handA : Int32} {t_handB : Int32} {t_fewestSo : Int32} {t_traced : Int32} {t_tape : (Nat → Int32)} {t_readSorts : (Nat → Int32)} {t_readHands : (Nat → Int32)} {l1 : Int32} {rf : Int32 × Int32 × Int32 × Int32 × Int32 × Int32 × Int32 × Int32 × (Nat → Int32) × (Nat → Int32) × (Nat → Int32)} (hQ : ZQi E (zty cI cB cZ) rf.1 [(a_t, .inr (9, [.ref a_t_now, .ref a_t_kept, .ref a_t_isKept, .ref a_t_acts, .int rf.2.1, .ref a_t_was, .int t_status, .ref a_t_lanes, .ref a_t_longs, .ref a_t_isThere, .ref a_t_items, .ref a_t_copied, .ref a_t_tape, .int rf.2.2.1, .int rf.2.2.2.1, .int rf.2.2.2.2.1, .int rf.2.2.2.2.2.1, .int rf.2.2.2.2.2.2.1, .int rf.2.2.2.2.2.2.2.1, .ref a_t_readSorts, .ref a_t_readHands, .int t_winner, .int t_throwsOf, .int t_handA, .int t_handB, .ref a_t_inTurn, .ref a_t_ends, .ref a_t_bestHands, .int t_fewestSo, .ref a_t_traces, .int t_traced])), (a_t_now, .inl (cI, 27, .inl rf.2.2.2.2.2.2.2.2.1)), (a_t_tape, .inl (cI, 200, .inl t_tape)), (a_t_readSorts, .inl (cI, 8, .inl rf.2.2.2.2.2.2.2.2.2.1)), (a_t_readHands, .inl (cI, 8, .inl rf.2.2.2.2.2.2.2.2.2.2))]) : ∀ (n : Nat) (t_now : (Nat → Int32)) (l3 : Int32), o_X9_hall_97 N t_tapeLong t_fault t_tokenAt t_tokenLong t_token t_value t_readSorts t_readHands l1 n t_now l3 = some rf → Z E (0, 0) [(0, .ref a_t), (1, .int l1), (3, .int l3)] 97 [] [(a_t, .inr (9, [.ref a_t_now, .ref a_t_kept, .ref a_t_isKept, .ref a_t_acts, .int t_manyActs, .ref a_t_was, .int t_status, .ref a_t_lanes, .ref a_t_longs, .ref a_t_isThere, .ref a_t_items, .ref a_t_copied, .ref a_t_tape, .int t_tapeLong, .int t_fault, .int t_tokenAt, .int t_tokenLong, .int t_token, .int t_value, .ref a_t_readSorts, .ref a_t_readHands, .int t_winner, .int t_throwsOf, .int t_handA, .int t_handB, .ref a_t_inTurn, .ref a_t_ends, .ref a_t_bestHands, .int t_fewestSo, .ref a_t_traces, .int t_traced])), (a_t_now, .inl (cI, 27, .inl t_now)), (a_t_tape, .inl (cI, 200, .inl t_tape)), (a_t_readSorts, .inl (cI, 8, .inl t_readSorts)), (a_t_readHands, .inl (cI, 8, .inl t_readHands))] := by
  intro n
  induction n with
  | zero =>
    intro t_now l3 hR
    cases hR
  | succ n ih =>
    intro t_now l3 hR
    rw [o_X9_hall_97] at hR
    refine z_iload_n hC dX9_hall_97 rfl 2 rfl ?_
    refine z_iload_n hC dX9_hall_98 rfl 1 rfl ?_
    refine z_icmp_ge hC 147 dX9_hall_99 (by decide) hR (fun hR => ?_) (fun hR => ?_)
    · refine z_aload_n hC dX9_hall_147 rfl 0 rfl ?_
      refine z_ic0 hC dX9_hall_148 ?_
      refine z_put hC iX9_hall_X9 tyX9_ok nmX9 rfl 0 4 rfl (by decide) mX9_hall_9 rfl rfl rfl rfl (Nat.le_of_ble_eq_true rfl) dX9_hall_149 ?_
      refine z_iload_n hC dX9_hall_152 rfl 1 rfl ?_
      obtain rfl := Option.some.inj hR
      exact z_iret hC hQ rfl rfl rfl dX9_hall_153
    · refine z_aload_n hC dX9_hall_102 rfl 0 rfl ?_
      refine z_get hC iX9_hall_X9 rfl 0 0 rfl (by decide) mX9_hall_6 rfl rfl dX9_hall_103 ?_
      refine z_ic1 hC dX9_hall_106 ?_
      refine z_iload_n hC dX9_hall_107 rfl 2 rfl ?_
      refine z_iadd hC dX9_hall_108 ?_
      refine z_aload_n hC dX9_hall_109 rfl 0 rfl ?_
      refine z_get hC iX9_hall_X9 rfl 0 19 rfl (by decide) mX9_hall_7 rfl rfl dX9_hall_110 ?_
      refine z_iload_n hC dX9_hall_113 rfl 2 rfl ?_
      refine z_iald hC 3 0 rfl rfl dX9_hall_114 hR (fun hR => ?_)
      refine z_iast hC 1 0 rfl rfl dX9_hall_115 hR (fun hR => ?_)
      refine z_aload_n hC dX9_hall_116 rfl 0 rfl ?_
      refine z_get hC iX9_hall_X9 rfl 0 0 rfl (by decide) mX9_hall_6 rfl rfl dX9_hall_117 ?_
      refine z_bipush (v := 9) hC dX9_hall_120 (by decide) ?_
      refine z_iload_n hC dX9_hall_122 rfl 2 rfl ?_
      refine z_iadd hC dX9_hall_123 ?_
      refine z_aload_n hC dX9_hall_124 rfl 0 rfl ?_
      refine z_get hC iX9_hall_X9 rfl 0 20 rfl (by decide) mX9_hall_8 rfl rfl dX9_hall_125 ?_
      refine z_iload_n hC dX9_hall_128 rfl 2 rfl ?_
      refine z_iald hC 4 0 rfl rfl dX9_hall_129 hR (fun hR => ?_)
      refine z_iast hC 1 0 rfl rfl dX9_hall_130 hR (fun hR => ?_)
      refine z_aload_n hC dX9_hall_131 rfl 0 rfl ?_
      refine z_get hC iX9_hall_X9 rfl 0 0 rfl (by decide) mX9_hall_6 rfl rfl dX9_hall_132 ?_
      refine z_bipush (v := 17) hC dX9_hall_135 (by decide) ?_
      refine z_iload_n hC dX9_hall_137 rfl 2 rfl ?_
      refine z_iadd hC dX9_hall_138 ?_
      refine z_iload_n hC dX9_hall_139 rfl 2 rfl ?_
      refine z_iast hC 1 0 rfl rfl dX9_hall_140 hR (fun hR => ?_)
      refine z_iinc1 hC [(3, .int (l3 + 1)), (0, .ref a_t), (1, .int l1)] dX9_hall_141 2 rfl (by decide) rfl ?_
      refine z_goto hC 97 dX9_hall_144 (by decide) ?_
      refine z_sub (lv' := [(0, .ref a_t), (1, .int l1), (3, .int (l3 + 1))]) [1, 2, 0] rfl ?_
      exact ih (upd (upd (upd t_now (Int32.toNatClampNeg (1 + l3)) (t_readSorts (Int32.toNatClampNeg l3))) (Int32.toNatClampNeg (9 + l3)) (t_readHands (Int32.toNatClampNeg l3))) (Int32.toNatClampNeg (17 + l3)) l3) (l3 + 1) hR
set_option maxHeartbeats 4000000 in
set_option maxRecDepth 100000 in
theorem z_X9_hall_69 {sK sV : Nat → Nat} {E : ZE} {cI cB cZ : ClassId} (hC : ZC E 4 cX9_hall wsX9_hall RX9 rmX9_hall (some .int) (zty cI cB cZ)) (hN : ZN sK sV (zA E) (zs E)) {N : Nat} {a_t : Nat} {a_t_now : Nat} {a_t_tape : Nat} {a_t_readSorts : Nat} {a_t_readHands : Nat} {a_t_kept : Nat} {a_t_isKept : Nat} {a_t_acts : Nat} {a_t_was : Nat} {a_t_lanes : Nat} {a_t_longs : Nat} {a_t_isThere : Nat} {a_t_items : Nat} {a_t_copied : Nat} {a_t_inTurn : Nat} {a_t_ends : Nat} {a_t_bestHands : Nat} {a_t_traces : Nat} {t_manyActs : Int32} {t_status : Int32} {t_tapeLong : Int32} {t_fault : Int32} {t_tokenAt : Int32} {t_tokenLong : Int32} {t_token : Int32} {t_value : Int32} {t_winner : Int32} {t_throwsOf : Int32} {t_handA : Int32} {t_handB : Int32} {t_fewestSo : Int32} {t_traced : Int32} {t_tape : (Nat → Int32)} {t_readSorts : (Nat → Int32)} {t_readHands : (Nat → Int32)} {l1 : Int32} {rf : Int32 × Int32 × Int32 × Int32 × Int32 × Int32 × Int32 × Int32 × (Nat → Int32) × (Nat → Int32) × (Nat → Int32)} (hQ : ZQi E (zty cI cB cZ) rf.1 [(a_t, .inr (9, [.ref a_t_now, .ref a_t_kept, .ref a_t_isKept, .ref a_t_acts, .int rf.2.1, .ref a_t_was, .int t_status, .ref a_t_lanes, .ref a_t_longs, .ref a_t_isThere, .ref a_t_items, .ref a_t_copied, .ref a_t_tape, .int rf.2.2.1, .int rf.2.2.2.1, .int rf.2.2.2.2.1, .int rf.2.2.2.2.2.1, .int rf.2.2.2.2.2.2.1, .int rf.2.2.2.2.2.2.2.1, .ref a_t_readSorts, .ref a_t_readHands, .int t_winner, .int t_throwsOf, .int t_handA, .int t_handB, .ref a_t_inTurn, .ref a_t_ends, .ref a_t_bestHands, .int t_fewestSo, .ref a_t_traces, .int t_traced])), (a_t_now, .inl (cI, 27, .inl rf.2.2.2.2.2.2.2.2.1)), (a_t_tape, .inl (cI, 200, .inl t_tape)), (a_t_readSorts, .inl (cI, 8, .inl rf.2.2.2.2.2.2.2.2.2.1)), (a_t_readHands, .inl (cI, 8, .inl rf.2.2.2.2.2.2.2.2.2.2))]) : ∀ (n : Nat) (t_now : (Nat → Int32)) (l3 : Int32), o_X9_hall_69 N t_tapeLong t_fault t_tokenAt t_tokenLong t_token t_value t_readSorts t_readHands l1 n t_now l3 = some rf → Z E (0, 0) [(0, .ref a_t), (1, .int l1), (3, .int l3)] 69 [] [(a_t, .inr (9, [.ref a_t_now, .ref a_t_kept, .ref a_t_isKept, .ref a_t_acts, .int t_manyActs, .ref a_t_was, .int t_status, .ref a_t_lanes, .ref a_t_longs, .ref a_t_isThere, .ref a_t_items, .ref a_t_copied, .ref a_t_tape, .int t_tapeLong, .int t_fault, .int t_tokenAt, .int t_tokenLong, .int t_token, .int t_value, .ref a_t_readSorts, .ref a_t_readHands, .int t_winner, .int t_throwsOf, .int t_handA, .int t_handB, .ref a_t_inTurn, .ref a_t_ends, .ref a_t_bestHands, .int t_fewestSo, .ref a_t_traces, .int t_traced])), (a_t_now, .inl (cI, 27, .inl t_now)), (a_t_tape, .inl (cI, 200, .inl t_tape)), (a_t_readSorts, .inl (cI, 8, .inl t_readSorts)), (a_t_readHands, .inl (cI, 8, .inl t_readHands))] := by
  intro n
  induction n with
  | zero =>
    intro t_now l3 hR
    cases hR
  | succ n ih =>
    intro t_now l3 hR
    rw [o_X9_hall_69] at hR
    refine z_iload_n hC dX9_hall_69 rfl 2 rfl ?_
    refine z_bipush (v := 27) hC dX9_hall_70 (by decide) ?_
    refine z_icmp_ge hC 88 dX9_hall_72 (by decide) hR (fun hR => ?_) (fun hR => ?_)
    · refine z_aload_n hC dX9_hall_88 rfl 0 rfl ?_
      refine z_get hC iX9_hall_X9 rfl 0 0 rfl (by decide) mX9_hall_6 rfl rfl dX9_hall_89 ?_
      refine z_ic0 hC dX9_hall_92 ?_
      refine z_iload_n hC dX9_hall_93 rfl 1 rfl ?_
      refine z_iast hC 1 0 rfl rfl dX9_hall_94 hR (fun hR => ?_)
      refine z_ic0 hC dX9_hall_95 ?_
      refine z_istore_n hC [(3, .int 0), (0, .ref a_t), (1, .int l1)] dX9_hall_96 rfl (by decide) rfl ?_
      refine z_sub (lv' := [(0, .ref a_t), (1, .int l1), (3, .int 0)]) [1, 2, 0] rfl ?_
      exact z_X9_hall_97 hC hN (N := N) (a_t := a_t) (a_t_now := a_t_now) (a_t_tape := a_t_tape) (a_t_readSorts := a_t_readSorts) (a_t_readHands := a_t_readHands) (a_t_kept := a_t_kept) (a_t_isKept := a_t_isKept) (a_t_acts := a_t_acts) (a_t_was := a_t_was) (a_t_lanes := a_t_lanes) (a_t_longs := a_t_longs) (a_t_isThere := a_t_isThere) (a_t_items := a_t_items) (a_t_copied := a_t_copied) (a_t_inTurn := a_t_inTurn) (a_t_ends := a_t_ends) (a_t_bestHands := a_t_bestHands) (a_t_traces := a_t_traces) (t_manyActs := t_manyActs) (t_status := t_status) (t_tapeLong := t_tapeLong) (t_fault := t_fault) (t_tokenAt := t_tokenAt) (t_tokenLong := t_tokenLong) (t_token := t_token) (t_value := t_value) (t_winner := t_winner) (t_throwsOf := t_throwsOf) (t_handA := t_handA) (t_handB := t_handB) (t_fewestSo := t_fewestSo) (t_traced := t_traced) (t_tape := t_tape) (t_readSorts := t_readSorts) (t_readHands := t_readHands) (l1 := l1) hQ  N (upd t_now (Int32.toNatClampNeg 0) l1) 0 hR
    · refine z_aload_n hC dX9_hall_75 rfl 0 rfl ?_
      refine z_get hC iX9_hall_X9 rfl 0 0 rfl (by decide) mX9_hall_6 rfl rfl dX9_hall_76 ?_
      refine z_iload_n hC dX9_hall_79 rfl 2 rfl ?_
      refine z_ic0 hC dX9_hall_80 ?_
      refine z_iast hC 1 0 rfl rfl dX9_hall_81 hR (fun hR => ?_)
      refine z_iinc1 hC [(3, .int (l3 + 1)), (0, .ref a_t), (1, .int l1)] dX9_hall_82 2 rfl (by decide) rfl ?_
      refine z_goto hC 69 dX9_hall_85 (by decide) ?_
      refine z_sub (lv' := [(0, .ref a_t), (1, .int l1), (3, .int (l3 + 1))]) [1, 2, 0] rfl ?_
      exact ih (upd t_now (Int32.toNatClampNeg l3) 0) (l3 + 1) hR
set_option maxHeartbeats 4000000 in
set_option maxRecDepth 100000 in
theorem z_X9_hall_45 {sK sV : Nat → Nat} {E : ZE} {cI cB cZ : ClassId} (hC : ZC E 4 cX9_hall wsX9_hall RX9 rmX9_hall (some .int) (zty cI cB cZ)) (hN : ZN sK sV (zA E) (zs E)) {N : Nat} {a_t : Nat} {a_t_now : Nat} {a_t_tape : Nat} {a_t_readSorts : Nat} {a_t_readHands : Nat} {a_t_kept : Nat} {a_t_isKept : Nat} {a_t_acts : Nat} {a_t_was : Nat} {a_t_lanes : Nat} {a_t_longs : Nat} {a_t_isThere : Nat} {a_t_items : Nat} {a_t_copied : Nat} {a_t_inTurn : Nat} {a_t_ends : Nat} {a_t_bestHands : Nat} {a_t_traces : Nat} {t_manyActs : Int32} {t_status : Int32} {t_tapeLong : Int32} {t_fault : Int32} {t_tokenAt : Int32} {t_tokenLong : Int32} {t_token : Int32} {t_value : Int32} {t_winner : Int32} {t_throwsOf : Int32} {t_handA : Int32} {t_handB : Int32} {t_fewestSo : Int32} {t_traced : Int32} {t_now : (Nat → Int32)} {t_tape : (Nat → Int32)} {t_readSorts : (Nat → Int32)} {t_readHands : (Nat → Int32)} {l1 : Int32} {l2 : Int32} {rf : Int32 × Int32 × Int32 × Int32 × Int32 × Int32 × Int32 × Int32 × (Nat → Int32) × (Nat → Int32) × (Nat → Int32)} (hQ : ZQi E (zty cI cB cZ) rf.1 [(a_t, .inr (9, [.ref a_t_now, .ref a_t_kept, .ref a_t_isKept, .ref a_t_acts, .int rf.2.1, .ref a_t_was, .int t_status, .ref a_t_lanes, .ref a_t_longs, .ref a_t_isThere, .ref a_t_items, .ref a_t_copied, .ref a_t_tape, .int rf.2.2.1, .int rf.2.2.2.1, .int rf.2.2.2.2.1, .int rf.2.2.2.2.2.1, .int rf.2.2.2.2.2.2.1, .int rf.2.2.2.2.2.2.2.1, .ref a_t_readSorts, .ref a_t_readHands, .int t_winner, .int t_throwsOf, .int t_handA, .int t_handB, .ref a_t_inTurn, .ref a_t_ends, .ref a_t_bestHands, .int t_fewestSo, .ref a_t_traces, .int t_traced])), (a_t_now, .inl (cI, 27, .inl rf.2.2.2.2.2.2.2.2.1)), (a_t_tape, .inl (cI, 200, .inl t_tape)), (a_t_readSorts, .inl (cI, 8, .inl rf.2.2.2.2.2.2.2.2.2.1)), (a_t_readHands, .inl (cI, 8, .inl rf.2.2.2.2.2.2.2.2.2.2))]) (hR : o_X9_hall_45 N t_manyActs t_fault t_tokenAt t_tokenLong t_token t_value t_now t_readSorts t_readHands l1 l2 = some rf) : Z E (0, 0) [(0, .ref a_t), (1, .int l1), (2, .int l2)] 45 [] [(a_t, .inr (9, [.ref a_t_now, .ref a_t_kept, .ref a_t_isKept, .ref a_t_acts, .int t_manyActs, .ref a_t_was, .int t_status, .ref a_t_lanes, .ref a_t_longs, .ref a_t_isThere, .ref a_t_items, .ref a_t_copied, .ref a_t_tape, .int t_tapeLong, .int t_fault, .int t_tokenAt, .int t_tokenLong, .int t_token, .int t_value, .ref a_t_readSorts, .ref a_t_readHands, .int t_winner, .int t_throwsOf, .int t_handA, .int t_handB, .ref a_t_inTurn, .ref a_t_ends, .ref a_t_bestHands, .int t_fewestSo, .ref a_t_traces, .int t_traced])), (a_t_now, .inl (cI, 27, .inl t_now)), (a_t_tape, .inl (cI, 200, .inl t_tape)), (a_t_readSorts, .inl (cI, 8, .inl t_readSorts)), (a_t_readHands, .inl (cI, 8, .inl t_readHands))] := by
  rw [o_X9_hall_45] at hR
  refine z_aload_n hC dX9_hall_45 rfl 0 rfl ?_
  refine z_ic0 hC dX9_hall_46 ?_
  refine z_put hC iX9_hall_X9 tyX9_ok nmX9 rfl 0 13 rfl (by decide) mX9_hall_2 rfl rfl rfl rfl (Nat.le_of_ble_eq_true rfl) dX9_hall_47 ?_
  refine z_iload_n hC dX9_hall_50 rfl 2 rfl ?_
  refine z_if_eq hC 67 dX9_hall_51 (by decide) hR (fun hR => ?_) (fun hR => ?_)
  · refine z_ic0 hC dX9_hall_67 ?_
    refine z_istore_n hC [(3, .int 0), (0, .ref a_t), (1, .int l1), (2, .int l2)] dX9_hall_68 rfl (by decide) rfl ?_
    refine z_sub (lv' := [(0, .ref a_t), (1, .int l1), (3, .int 0)]) [1, 2, 0] rfl ?_
    exact z_X9_hall_69 hC hN (N := N) (a_t := a_t) (a_t_now := a_t_now) (a_t_tape := a_t_tape) (a_t_readSorts := a_t_readSorts) (a_t_readHands := a_t_readHands) (a_t_kept := a_t_kept) (a_t_isKept := a_t_isKept) (a_t_acts := a_t_acts) (a_t_was := a_t_was) (a_t_lanes := a_t_lanes) (a_t_longs := a_t_longs) (a_t_isThere := a_t_isThere) (a_t_items := a_t_items) (a_t_copied := a_t_copied) (a_t_inTurn := a_t_inTurn) (a_t_ends := a_t_ends) (a_t_bestHands := a_t_bestHands) (a_t_traces := a_t_traces) (t_manyActs := t_manyActs) (t_status := t_status) (t_tapeLong := 0) (t_fault := t_fault) (t_tokenAt := t_tokenAt) (t_tokenLong := t_tokenLong) (t_token := t_token) (t_value := t_value) (t_winner := t_winner) (t_throwsOf := t_throwsOf) (t_handA := t_handA) (t_handB := t_handB) (t_fewestSo := t_fewestSo) (t_traced := t_traced) (t_tape := t_tape) (t_readSorts := t_readSorts) (t_readHands := t_readHands) (l1 := l1) hQ  N t_now 0 hR
  · refine z_aload_n hC dX9_hall_54 rfl 0 rfl ?_
    refine z_iload_n hC dX9_hall_55 rfl 2 rfl ?_
    refine z_put hC iX9_hall_X9 tyX9_ok nmX9 rfl 0 14 rfl (by decide) mX9_hall_3 rfl rfl rfl rfl (Nat.le_of_ble_eq_true rfl) dX9_hall_56 ?_
    refine z_ldc hC (-1000100) mX9_hall_4 dX9_hall_59 ?_
    refine z_aload_n hC dX9_hall_61 rfl 0 rfl ?_
    refine z_get hC iX9_hall_X9 rfl 0 15 rfl (by decide) mX9_hall_5 rfl rfl dX9_hall_62 ?_
    refine z_isub hC dX9_hall_65 ?_
    obtain rfl := Option.some.inj hR
    exact z_iret hC hQ rfl rfl rfl dX9_hall_66
set_option maxHeartbeats 4000000 in
set_option maxRecDepth 100000 in
theorem z_X9_hall_9 {sK sV : Nat → Nat} {E : ZE} {cI cB cZ : ClassId} (hC : ZC E 4 cX9_hall wsX9_hall RX9 rmX9_hall (some .int) (zty cI cB cZ)) (hN : ZN sK sV (zA E) (zs E)) {N : Nat} {a_t : Nat} {a_t_now : Nat} {a_t_tape : Nat} {a_t_readSorts : Nat} {a_t_readHands : Nat} {a_t_kept : Nat} {a_t_isKept : Nat} {a_t_acts : Nat} {a_t_was : Nat} {a_t_lanes : Nat} {a_t_longs : Nat} {a_t_isThere : Nat} {a_t_items : Nat} {a_t_copied : Nat} {a_t_inTurn : Nat} {a_t_ends : Nat} {a_t_bestHands : Nat} {a_t_traces : Nat} {t_manyActs : Int32} {t_status : Int32} {t_tapeLong : Int32} {t_fault : Int32} {t_winner : Int32} {t_throwsOf : Int32} {t_handA : Int32} {t_handB : Int32} {t_fewestSo : Int32} {t_traced : Int32} {t_now : (Nat → Int32)} {t_tape : (Nat → Int32)} {rf : Int32 × Int32 × Int32 × Int32 × Int32 × Int32 × Int32 × Int32 × (Nat → Int32) × (Nat → Int32) × (Nat → Int32)} (hQ : ZQi E (zty cI cB cZ) rf.1 [(a_t, .inr (9, [.ref a_t_now, .ref a_t_kept, .ref a_t_isKept, .ref a_t_acts, .int rf.2.1, .ref a_t_was, .int t_status, .ref a_t_lanes, .ref a_t_longs, .ref a_t_isThere, .ref a_t_items, .ref a_t_copied, .ref a_t_tape, .int rf.2.2.1, .int rf.2.2.2.1, .int rf.2.2.2.2.1, .int rf.2.2.2.2.2.1, .int rf.2.2.2.2.2.2.1, .int rf.2.2.2.2.2.2.2.1, .ref a_t_readSorts, .ref a_t_readHands, .int t_winner, .int t_throwsOf, .int t_handA, .int t_handB, .ref a_t_inTurn, .ref a_t_ends, .ref a_t_bestHands, .int t_fewestSo, .ref a_t_traces, .int t_traced])), (a_t_now, .inl (cI, 27, .inl rf.2.2.2.2.2.2.2.2.1)), (a_t_tape, .inl (cI, 200, .inl t_tape)), (a_t_readSorts, .inl (cI, 8, .inl rf.2.2.2.2.2.2.2.2.2.1)), (a_t_readHands, .inl (cI, 8, .inl rf.2.2.2.2.2.2.2.2.2.2))]) : ∀ (n : Nat) (t_tokenAt : Int32) (t_tokenLong : Int32) (t_token : Int32) (t_value : Int32) (t_readSorts : (Nat → Int32)) (t_readHands : (Nat → Int32)) (l1 : Int32) (l2 : Int32), o_X9_hall_9 N t_manyActs t_tapeLong t_fault t_now t_tape n t_tokenAt t_tokenLong t_token t_value t_readSorts t_readHands l1 l2 = some rf → Z E (0, 0) [(0, .ref a_t), (1, .int l1), (2, .int l2)] 9 [] [(a_t, .inr (9, [.ref a_t_now, .ref a_t_kept, .ref a_t_isKept, .ref a_t_acts, .int t_manyActs, .ref a_t_was, .int t_status, .ref a_t_lanes, .ref a_t_longs, .ref a_t_isThere, .ref a_t_items, .ref a_t_copied, .ref a_t_tape, .int t_tapeLong, .int t_fault, .int t_tokenAt, .int t_tokenLong, .int t_token, .int t_value, .ref a_t_readSorts, .ref a_t_readHands, .int t_winner, .int t_throwsOf, .int t_handA, .int t_handB, .ref a_t_inTurn, .ref a_t_ends, .ref a_t_bestHands, .int t_fewestSo, .ref a_t_traces, .int t_traced])), (a_t_now, .inl (cI, 27, .inl t_now)), (a_t_tape, .inl (cI, 200, .inl t_tape)), (a_t_readSorts, .inl (cI, 8, .inl t_readSorts)), (a_t_readHands, .inl (cI, 8, .inl t_readHands))] := by
  intro n
  induction n with
  | zero =>
    intro t_tokenAt t_tokenLong t_token t_value t_readSorts t_readHands l1 l2 hR
    cases hR
  | succ n ih =>
    intro t_tokenAt t_tokenLong t_token t_value t_readSorts t_readHands l1 l2 hR
    rw [o_X9_hall_9] at hR
    refine z_iload_n hC dX9_hall_9 rfl 2 rfl ?_
    refine z_if_ne hC 45 dX9_hall_10 (by decide) hR (fun hR => ?_) (fun hR => ?_)
    · exact z_X9_hall_45 hC hN (N := N) (a_t := a_t) (a_t_now := a_t_now) (a_t_tape := a_t_tape) (a_t_readSorts := a_t_readSorts) (a_t_readHands := a_t_readHands) (a_t_kept := a_t_kept) (a_t_isKept := a_t_isKept) (a_t_acts := a_t_acts) (a_t_was := a_t_was) (a_t_lanes := a_t_lanes) (a_t_longs := a_t_longs) (a_t_isThere := a_t_isThere) (a_t_items := a_t_items) (a_t_copied := a_t_copied) (a_t_inTurn := a_t_inTurn) (a_t_ends := a_t_ends) (a_t_bestHands := a_t_bestHands) (a_t_traces := a_t_traces) (t_manyActs := t_manyActs) (t_status := t_status) (t_tapeLong := t_tapeLong) (t_fault := t_fault) (t_tokenAt := t_tokenAt) (t_tokenLong := t_tokenLong) (t_token := t_token) (t_value := t_value) (t_winner := t_winner) (t_throwsOf := t_throwsOf) (t_handA := t_handA) (t_handB := t_handB) (t_fewestSo := t_fewestSo) (t_traced := t_traced) (t_now := t_now) (t_tape := t_tape) (t_readSorts := t_readSorts) (t_readHands := t_readHands) (l1 := l1) (l2 := l2) hQ  hR
    · refine z_aload_n hC dX9_hall_13 rfl 0 rfl ?_
      refine z_get hC iX9_hall_X9 rfl 0 17 rfl (by decide) mX9_hall_1 rfl rfl dX9_hall_14 ?_
      refine z_if_ne hC 24 dX9_hall_17 (by decide) hR (fun hR => ?_) (fun hR => ?_)
      · refine z_sub (lv' := [(0, .ref a_t), (1, .int l1)]) [0, 1] rfl ?_
        exact z_X9_hall_24 hC hN (N := N) (a_t := a_t) (a_t_now := a_t_now) (a_t_tape := a_t_tape) (a_t_readSorts := a_t_readSorts) (a_t_readHands := a_t_readHands) (a_t_kept := a_t_kept) (a_t_isKept := a_t_isKept) (a_t_acts := a_t_acts) (a_t_was := a_t_was) (a_t_lanes := a_t_lanes) (a_t_longs := a_t_longs) (a_t_isThere := a_t_isThere) (a_t_items := a_t_items) (a_t_copied := a_t_copied) (a_t_inTurn := a_t_inTurn) (a_t_ends := a_t_ends) (a_t_bestHands := a_t_bestHands) (a_t_traces := a_t_traces) (t_manyActs := t_manyActs) (t_status := t_status) (t_tapeLong := t_tapeLong) (t_fault := t_fault) (t_tokenAt := t_tokenAt) (t_tokenLong := t_tokenLong) (t_token := t_token) (t_value := t_value) (t_winner := t_winner) (t_throwsOf := t_throwsOf) (t_handA := t_handA) (t_handB := t_handB) (t_fewestSo := t_fewestSo) (t_traced := t_traced) (t_now := t_now) (t_tape := t_tape) (t_readSorts := t_readSorts) (t_readHands := t_readHands) (l1 := l1) hQ ih hR
      · refine z_iload_n hC dX9_hall_20 rfl 1 rfl ?_
        refine z_if_ne hC 45 dX9_hall_21 (by decide) hR (fun hR => ?_) (fun hR => ?_)
        · exact z_X9_hall_45 hC hN (N := N) (a_t := a_t) (a_t_now := a_t_now) (a_t_tape := a_t_tape) (a_t_readSorts := a_t_readSorts) (a_t_readHands := a_t_readHands) (a_t_kept := a_t_kept) (a_t_isKept := a_t_isKept) (a_t_acts := a_t_acts) (a_t_was := a_t_was) (a_t_lanes := a_t_lanes) (a_t_longs := a_t_longs) (a_t_isThere := a_t_isThere) (a_t_items := a_t_items) (a_t_copied := a_t_copied) (a_t_inTurn := a_t_inTurn) (a_t_ends := a_t_ends) (a_t_bestHands := a_t_bestHands) (a_t_traces := a_t_traces) (t_manyActs := t_manyActs) (t_status := t_status) (t_tapeLong := t_tapeLong) (t_fault := t_fault) (t_tokenAt := t_tokenAt) (t_tokenLong := t_tokenLong) (t_token := t_token) (t_value := t_value) (t_winner := t_winner) (t_throwsOf := t_throwsOf) (t_handA := t_handA) (t_handB := t_handB) (t_fewestSo := t_fewestSo) (t_traced := t_traced) (t_now := t_now) (t_tape := t_tape) (t_readSorts := t_readSorts) (t_readHands := t_readHands) (l1 := l1) (l2 := l2) hQ  hR
        · refine z_sub (lv' := [(0, .ref a_t), (1, .int l1)]) [0, 1] rfl ?_
          exact z_X9_hall_24 hC hN (N := N) (a_t := a_t) (a_t_now := a_t_now) (a_t_tape := a_t_tape) (a_t_readSorts := a_t_readSorts) (a_t_readHands := a_t_readHands) (a_t_kept := a_t_kept) (a_t_isKept := a_t_isKept) (a_t_acts := a_t_acts) (a_t_was := a_t_was) (a_t_lanes := a_t_lanes) (a_t_longs := a_t_longs) (a_t_isThere := a_t_isThere) (a_t_items := a_t_items) (a_t_copied := a_t_copied) (a_t_inTurn := a_t_inTurn) (a_t_ends := a_t_ends) (a_t_bestHands := a_t_bestHands) (a_t_traces := a_t_traces) (t_manyActs := t_manyActs) (t_status := t_status) (t_tapeLong := t_tapeLong) (t_fault := t_fault) (t_tokenAt := t_tokenAt) (t_tokenLong := t_tokenLong) (t_token := t_token) (t_value := t_value) (t_winner := t_winner) (t_throwsOf := t_throwsOf) (t_handA := t_handA) (t_handB := t_handB) (t_fewestSo := t_fewestSo) (t_traced := t_traced) (t_now := t_now) (t_tape := t_tape) (t_readSorts := t_readSorts) (t_readHands := t_readHands) (l1 := l1) hQ ih hR
set_option maxHeartbeats 4000000 in
set_option maxRecDepth 100000 in
theorem z_X9_hall_0 {sK sV : Nat → Nat} {E : ZE} {cI cB cZ : ClassId} (hC : ZC E 4 cX9_hall wsX9_hall RX9 rmX9_hall (some .int) (zty cI cB cZ)) (hN : ZN sK sV (zA E) (zs E)) {N : Nat} {a_t : Nat} {a_t_now : Nat} {a_t_tape : Nat} {a_t_readSorts : Nat} {a_t_readHands : Nat} {a_t_kept : Nat} {a_t_isKept : Nat} {a_t_acts : Nat} {a_t_was : Nat} {a_t_lanes : Nat} {a_t_longs : Nat} {a_t_isThere : Nat} {a_t_items : Nat} {a_t_copied : Nat} {a_t_inTurn : Nat} {a_t_ends : Nat} {a_t_bestHands : Nat} {a_t_traces : Nat} {t_manyActs : Int32} {t_status : Int32} {t_tapeLong : Int32} {t_fault : Int32} {t_tokenAt : Int32} {t_tokenLong : Int32} {t_token : Int32} {t_value : Int32} {t_winner : Int32} {t_throwsOf : Int32} {t_handA : Int32} {t_handB : Int32} {t_fewestSo : Int32} {t_traced : Int32} {t_now : (Nat → Int32)} {t_tape : (Nat → Int32)} {t_readSorts : (Nat → Int32)} {t_readHands : (Nat → Int32)} {rf : Int32 × Int32 × Int32 × Int32 × Int32 × Int32 × Int32 × Int32 × (Nat → Int32) × (Nat → Int32) × (Nat → Int32)} (hQ : ZQi E (zty cI cB cZ) rf.1 [(a_t, .inr (9, [.ref a_t_now, .ref a_t_kept, .ref a_t_isKept, .ref a_t_acts, .int rf.2.1, .ref a_t_was, .int t_status, .ref a_t_lanes, .ref a_t_longs, .ref a_t_isThere, .ref a_t_items, .ref a_t_copied, .ref a_t_tape, .int rf.2.2.1, .int rf.2.2.2.1, .int rf.2.2.2.2.1, .int rf.2.2.2.2.2.1, .int rf.2.2.2.2.2.2.1, .int rf.2.2.2.2.2.2.2.1, .ref a_t_readSorts, .ref a_t_readHands, .int t_winner, .int t_throwsOf, .int t_handA, .int t_handB, .ref a_t_inTurn, .ref a_t_ends, .ref a_t_bestHands, .int t_fewestSo, .ref a_t_traces, .int t_traced])), (a_t_now, .inl (cI, 27, .inl rf.2.2.2.2.2.2.2.2.1)), (a_t_tape, .inl (cI, 200, .inl t_tape)), (a_t_readSorts, .inl (cI, 8, .inl rf.2.2.2.2.2.2.2.2.2.1)), (a_t_readHands, .inl (cI, 8, .inl rf.2.2.2.2.2.2.2.2.2.2))]) (hR : o_X9_hall N t_manyActs t_tapeLong t_fault t_now t_tape t_readSorts t_readHands = some rf) : Z E (0, 0) [(0, .ref a_t)] 0 [] [(a_t, .inr (9, [.ref a_t_now, .ref a_t_kept, .ref a_t_isKept, .ref a_t_acts, .int t_manyActs, .ref a_t_was, .int t_status, .ref a_t_lanes, .ref a_t_longs, .ref a_t_isThere, .ref a_t_items, .ref a_t_copied, .ref a_t_tape, .int t_tapeLong, .int t_fault, .int t_tokenAt, .int t_tokenLong, .int t_token, .int t_value, .ref a_t_readSorts, .ref a_t_readHands, .int t_winner, .int t_throwsOf, .int t_handA, .int t_handB, .ref a_t_inTurn, .ref a_t_ends, .ref a_t_bestHands, .int t_fewestSo, .ref a_t_traces, .int t_traced])), (a_t_now, .inl (cI, 27, .inl t_now)), (a_t_tape, .inl (cI, 200, .inl t_tape)), (a_t_readSorts, .inl (cI, 8, .inl t_readSorts)), (a_t_readHands, .inl (cI, 8, .inl t_readHands))] := by
  rw [o_X9_hall] at hR
  refine z_ic0 hC dX9_hall_0 ?_
  refine z_istore_n hC [(1, .int 0), (0, .ref a_t)] dX9_hall_1 rfl (by decide) rfl ?_
  refine z_ic0 hC dX9_hall_2 ?_
  refine z_istore_n hC [(2, .int 0), (1, .int 0), (0, .ref a_t)] dX9_hall_3 rfl (by decide) rfl ?_
  refine z_aload_n hC dX9_hall_4 rfl 2 rfl ?_
  refine z_ic0 hC dX9_hall_5 ?_
  refine z_callVv hC hN [.int 0] [0, 2] (c_X9_look (l := zl E) (D := zD E) (cI := cI) (cB := cB) (cZ := cZ) (N := N) (a_t := a_t) (a_t_now := a_t_now) (a_t_kept := a_t_kept) (a_t_isKept := a_t_isKept) (a_t_acts := a_t_acts) (a_t_was := a_t_was) (a_t_lanes := a_t_lanes) (a_t_longs := a_t_longs) (a_t_isThere := a_t_isThere) (a_t_items := a_t_items) (a_t_copied := a_t_copied) (a_t_tape := a_t_tape) (a_t_readSorts := a_t_readSorts) (a_t_readHands := a_t_readHands) (a_t_inTurn := a_t_inTurn) (a_t_ends := a_t_ends) (a_t_bestHands := a_t_bestHands) (a_t_traces := a_t_traces) (l1 := 0) (t_manyActs := t_manyActs) (t_status := t_status) (t_tapeLong := t_tapeLong) (t_fault := t_fault) (t_tokenAt := t_tokenAt) (t_tokenLong := t_tokenLong) (t_token := t_token) (t_value := t_value) (t_winner := t_winner) (t_throwsOf := t_throwsOf) (t_handA := t_handA) (t_handB := t_handB) (t_fewestSo := t_fewestSo) (t_traced := t_traced) (t_tape := t_tape)) rfl ⟨rfl, rfl⟩ gX9_hall_X9_look hvX9_look 0 9 rfl rfl rfl ⟨Nat.le_of_ble_eq_true rfl, Nat.le_of_ble_eq_true rfl⟩ ⟨Nat.zero_le _, Nat.zero_le _⟩ rfl (Nat.le_of_ble_eq_true rfl) rfl (by decide) (fun _ => rfl) dX9_hall_6 hR (fun r6 hR => ?_)
  refine z_eq [(a_t, .inr (9, [.ref a_t_now, .ref a_t_kept, .ref a_t_isKept, .ref a_t_acts, .int t_manyActs, .ref a_t_was, .int t_status, .ref a_t_lanes, .ref a_t_longs, .ref a_t_isThere, .ref a_t_items, .ref a_t_copied, .ref a_t_tape, .int t_tapeLong, .int t_fault, .int r6.1, .int r6.2.1, .int r6.2.2.1, .int r6.2.2.2, .ref a_t_readSorts, .ref a_t_readHands, .int t_winner, .int t_throwsOf, .int t_handA, .int t_handB, .ref a_t_inTurn, .ref a_t_ends, .ref a_t_bestHands, .int t_fewestSo, .ref a_t_traces, .int t_traced])), (a_t_now, .inl (cI, 27, .inl t_now)), (a_t_tape, .inl (cI, 200, .inl t_tape)), (a_t_readSorts, .inl (cI, 8, .inl t_readSorts)), (a_t_readHands, .inl (cI, 8, .inl t_readHands))] rfl ?_
  refine z_sub (lv' := [(0, .ref a_t), (1, .int 0), (2, .int 0)]) [2, 1, 0] rfl ?_
  exact z_X9_hall_9 hC hN (N := N) (a_t := a_t) (a_t_now := a_t_now) (a_t_tape := a_t_tape) (a_t_readSorts := a_t_readSorts) (a_t_readHands := a_t_readHands) (a_t_kept := a_t_kept) (a_t_isKept := a_t_isKept) (a_t_acts := a_t_acts) (a_t_was := a_t_was) (a_t_lanes := a_t_lanes) (a_t_longs := a_t_longs) (a_t_isThere := a_t_isThere) (a_t_items := a_t_items) (a_t_copied := a_t_copied) (a_t_inTurn := a_t_inTurn) (a_t_ends := a_t_ends) (a_t_bestHands := a_t_bestHands) (a_t_traces := a_t_traces) (t_manyActs := t_manyActs) (t_status := t_status) (t_tapeLong := t_tapeLong) (t_fault := t_fault) (t_winner := t_winner) (t_throwsOf := t_throwsOf) (t_handA := t_handA) (t_handB := t_handB) (t_fewestSo := t_fewestSo) (t_traced := t_traced) (t_now := t_now) (t_tape := t_tape) hQ  N r6.1 r6.2.1 r6.2.2.1 r6.2.2.2 t_readSorts t_readHands 0 0 hR
set_option maxHeartbeats 4000000 in
set_option maxRecDepth 100000 in
theorem c_X9_hall {sK sV : Nat → Nat} {l : Launch} {D : va_G} {cI cB cZ : ClassId} {N : Nat} {a_t : Nat} {a_t_now : Nat} {a_t_tape : Nat} {a_t_readSorts : Nat} {a_t_readHands : Nat} {a_t_kept : Nat} {a_t_isKept : Nat} {a_t_acts : Nat} {a_t_was : Nat} {a_t_lanes : Nat} {a_t_longs : Nat} {a_t_isThere : Nat} {a_t_items : Nat} {a_t_copied : Nat} {a_t_inTurn : Nat} {a_t_ends : Nat} {a_t_bestHands : Nat} {a_t_traces : Nat} {t_manyActs : Int32} {t_status : Int32} {t_tapeLong : Int32} {t_fault : Int32} {t_tokenAt : Int32} {t_tokenLong : Int32} {t_token : Int32} {t_value : Int32} {t_winner : Int32} {t_throwsOf : Int32} {t_handA : Int32} {t_handB : Int32} {t_fewestSo : Int32} {t_traced : Int32} {t_now : (Nat → Int32)} {t_tape : (Nat → Int32)} {t_readSorts : (Nat → Int32)} {t_readHands : (Nat → Int32)} : ∀ R : Int32 × Int32 × Int32 × Int32 × Int32 × Int32 × Int32 × Int32 × (Nat → Int32) × (Nat → Int32) × (Nat → Int32), o_X9_hall N t_manyActs t_tapeLong t_fault t_now t_tape t_readSorts t_readHands = some R → ZMi sK sV l yX9_hall wsX9_hall rmX9_hall D (zty cI cB cZ) [.ref a_t] [(a_t, .inr (9, [.ref a_t_now, .ref a_t_kept, .ref a_t_isKept, .ref a_t_acts, .int t_manyActs, .ref a_t_was, .int t_status, .ref a_t_lanes, .ref a_t_longs, .ref a_t_isThere, .ref a_t_items, .ref a_t_copied, .ref a_t_tape, .int t_tapeLong, .int t_fault, .int t_tokenAt, .int t_tokenLong, .int t_token, .int t_value, .ref a_t_readSorts, .ref a_t_readHands, .int t_winner, .int t_throwsOf, .int t_handA, .int t_handB, .ref a_t_inTurn, .ref a_t_ends, .ref a_t_bestHands, .int t_fewestSo, .ref a_t_traces, .int t_traced])), (a_t_now, .inl (cI, 27, .inl t_now)), (a_t_tape, .inl (cI, 200, .inl t_tape)), (a_t_readSorts, .inl (cI, 8, .inl t_readSorts)), (a_t_readHands, .inl (cI, 8, .inl t_readHands))] R.1 [(a_t, .inr (9, [.ref a_t_now, .ref a_t_kept, .ref a_t_isKept, .ref a_t_acts, .int R.2.1, .ref a_t_was, .int t_status, .ref a_t_lanes, .ref a_t_longs, .ref a_t_isThere, .ref a_t_items, .ref a_t_copied, .ref a_t_tape, .int R.2.2.1, .int R.2.2.2.1, .int R.2.2.2.2.1, .int R.2.2.2.2.2.1, .int R.2.2.2.2.2.2.1, .int R.2.2.2.2.2.2.2.1, .ref a_t_readSorts, .ref a_t_readHands, .int t_winner, .int t_throwsOf, .int t_handA, .int t_handB, .ref a_t_inTurn, .ref a_t_ends, .ref a_t_bestHands, .int t_fewestSo, .ref a_t_traces, .int t_traced])), (a_t_now, .inl (cI, 27, .inl R.2.2.2.2.2.2.2.2.1)), (a_t_tape, .inl (cI, 200, .inl t_tape)), (a_t_readSorts, .inl (cI, 8, .inl R.2.2.2.2.2.2.2.2.2.1)), (a_t_readHands, .inl (cI, 8, .inl R.2.2.2.2.2.2.2.2.2.2))] := by
  intro R hR
  refine zi_of (cc := cX9_hall) (maxL := 4) (ret := (some .int)) (by decide) rfl (Nat.le_of_ble_eq_true rfl) (fun E hE1 hE2 hC hN hQ => ?_)
  subst hE1 hE2
  exact z_X9_hall_0 hC hN (N := N) (a_t := a_t) (a_t_now := a_t_now) (a_t_tape := a_t_tape) (a_t_readSorts := a_t_readSorts) (a_t_readHands := a_t_readHands) (a_t_kept := a_t_kept) (a_t_isKept := a_t_isKept) (a_t_acts := a_t_acts) (a_t_was := a_t_was) (a_t_lanes := a_t_lanes) (a_t_longs := a_t_longs) (a_t_isThere := a_t_isThere) (a_t_items := a_t_items) (a_t_copied := a_t_copied) (a_t_inTurn := a_t_inTurn) (a_t_ends := a_t_ends) (a_t_bestHands := a_t_bestHands) (a_t_traces := a_t_traces) (t_manyActs := t_manyActs) (t_status := t_status) (t_tapeLong := t_tapeLong) (t_fault := t_fault) (t_tokenAt := t_tokenAt) (t_tokenLong := t_tokenLong) (t_token := t_token) (t_value := t_value) (t_winner := t_winner) (t_throwsOf := t_throwsOf) (t_handA := t_handA) (t_handB := t_handB) (t_fewestSo := t_fewestSo) (t_traced := t_traced) (t_now := t_now) (t_tape := t_tape) (t_readSorts := t_readSorts) (t_readHands := t_readHands) hQ hR

/-! FistTrainsModel.fault -/
abbrev rmX9_fault : Room := { frames := 0, cells := 0, slots := 0, locals := 0 }
set_option maxRecDepth 20000 in
theorem iX9_fault_X9 : ∀ w ∈ wsX90, w ∈ wsX9_fault := by decide +kernel
set_option maxRecDepth 20000 in
theorem mX9_fault_1 : Cond.fieldLink RX9 167 "FistTrainsModel" "fault" "I" ∈ wsX9_fault := List.mem_of_getElem? (i := 1) rfl
def o_X9_fault (N : Nat) (t_fault : Int32) : Option (Int32) :=
  some (t_fault)
set_option maxHeartbeats 4000000 in
set_option maxRecDepth 100000 in
theorem z_X9_fault_0 {sK sV : Nat → Nat} {E : ZE} {cI cB cZ : ClassId} (hC : ZC E 1 cX9_fault wsX9_fault RX9 rmX9_fault (some .int) (zty cI cB cZ)) (hN : ZN sK sV (zA E) (zs E)) {N : Nat} {a_t : Nat} {a_t_now : Nat} {a_t_kept : Nat} {a_t_isKept : Nat} {a_t_acts : Nat} {a_t_was : Nat} {a_t_lanes : Nat} {a_t_longs : Nat} {a_t_isThere : Nat} {a_t_items : Nat} {a_t_copied : Nat} {a_t_tape : Nat} {a_t_readSorts : Nat} {a_t_readHands : Nat} {a_t_inTurn : Nat} {a_t_ends : Nat} {a_t_bestHands : Nat} {a_t_traces : Nat} {t_manyActs : Int32} {t_status : Int32} {t_tapeLong : Int32} {t_fault : Int32} {t_tokenAt : Int32} {t_tokenLong : Int32} {t_token : Int32} {t_value : Int32} {t_winner : Int32} {t_throwsOf : Int32} {t_handA : Int32} {t_handB : Int32} {t_fewestSo : Int32} {t_traced : Int32} {rf : Int32} (hQ : ZQi E (zty cI cB cZ) rf [(a_t, .inr (9, [.ref a_t_now, .ref a_t_kept, .ref a_t_isKept, .ref a_t_acts, .int t_manyActs, .ref a_t_was, .int t_status, .ref a_t_lanes, .ref a_t_longs, .ref a_t_isThere, .ref a_t_items, .ref a_t_copied, .ref a_t_tape, .int t_tapeLong, .int t_fault, .int t_tokenAt, .int t_tokenLong, .int t_token, .int t_value, .ref a_t_readSorts, .ref a_t_readHands, .int t_winner, .int t_throwsOf, .int t_handA, .int t_handB, .ref a_t_inTurn, .ref a_t_ends, .ref a_t_bestHands, .int t_fewestSo, .ref a_t_traces, .int t_traced]))]) (hR : o_X9_fault N t_fault = some rf) : Z E (0, 0) [(0, .ref a_t)] 0 [] [(a_t, .inr (9, [.ref a_t_now, .ref a_t_kept, .ref a_t_isKept, .ref a_t_acts, .int t_manyActs, .ref a_t_was, .int t_status, .ref a_t_lanes, .ref a_t_longs, .ref a_t_isThere, .ref a_t_items, .ref a_t_copied, .ref a_t_tape, .int t_tapeLong, .int t_fault, .int t_tokenAt, .int t_tokenLong, .int t_token, .int t_value, .ref a_t_readSorts, .ref a_t_readHands, .int t_winner, .int t_throwsOf, .int t_handA, .int t_handB, .ref a_t_inTurn, .ref a_t_ends, .ref a_t_bestHands, .int t_fewestSo, .ref a_t_traces, .int t_traced]))] := by
  rw [o_X9_fault] at hR
  refine z_aload_n hC dX9_fault_0 rfl 0 rfl ?_
  refine z_get hC iX9_fault_X9 rfl 0 14 rfl (by decide) mX9_fault_1 rfl rfl dX9_fault_1 ?_
  obtain rfl := Option.some.inj hR
  exact z_iret hC hQ rfl rfl rfl dX9_fault_4
set_option maxHeartbeats 4000000 in
set_option maxRecDepth 100000 in
theorem c_X9_fault {sK sV : Nat → Nat} {l : Launch} {D : va_G} {cI cB cZ : ClassId} {N : Nat} {a_t : Nat} {a_t_now : Nat} {a_t_kept : Nat} {a_t_isKept : Nat} {a_t_acts : Nat} {a_t_was : Nat} {a_t_lanes : Nat} {a_t_longs : Nat} {a_t_isThere : Nat} {a_t_items : Nat} {a_t_copied : Nat} {a_t_tape : Nat} {a_t_readSorts : Nat} {a_t_readHands : Nat} {a_t_inTurn : Nat} {a_t_ends : Nat} {a_t_bestHands : Nat} {a_t_traces : Nat} {t_manyActs : Int32} {t_status : Int32} {t_tapeLong : Int32} {t_fault : Int32} {t_tokenAt : Int32} {t_tokenLong : Int32} {t_token : Int32} {t_value : Int32} {t_winner : Int32} {t_throwsOf : Int32} {t_handA : Int32} {t_handB : Int32} {t_fewestSo : Int32} {t_traced : Int32} : ∀ R : Int32, o_X9_fault N t_fault = some R → ZMi sK sV l yX9_fault wsX9_fault rmX9_fault D (zty cI cB cZ) [.ref a_t] [(a_t, .inr (9, [.ref a_t_now, .ref a_t_kept, .ref a_t_isKept, .ref a_t_acts, .int t_manyActs, .ref a_t_was, .int t_status, .ref a_t_lanes, .ref a_t_longs, .ref a_t_isThere, .ref a_t_items, .ref a_t_copied, .ref a_t_tape, .int t_tapeLong, .int t_fault, .int t_tokenAt, .int t_tokenLong, .int t_token, .int t_value, .ref a_t_readSorts, .ref a_t_readHands, .int t_winner, .int t_throwsOf, .int t_handA, .int t_handB, .ref a_t_inTurn, .ref a_t_ends, .ref a_t_bestHands, .int t_fewestSo, .ref a_t_traces, .int t_traced]))] R [(a_t, .inr (9, [.ref a_t_now, .ref a_t_kept, .ref a_t_isKept, .ref a_t_acts, .int t_manyActs, .ref a_t_was, .int t_status, .ref a_t_lanes, .ref a_t_longs, .ref a_t_isThere, .ref a_t_items, .ref a_t_copied, .ref a_t_tape, .int t_tapeLong, .int t_fault, .int t_tokenAt, .int t_tokenLong, .int t_token, .int t_value, .ref a_t_readSorts, .ref a_t_readHands, .int t_winner, .int t_throwsOf, .int t_handA, .int t_handB, .ref a_t_inTurn, .ref a_t_ends, .ref a_t_bestHands, .int t_fewestSo, .ref a_t_traces, .int t_traced]))] := by
  intro R hR
  refine zi_of (cc := cX9_fault) (maxL := 1) (ret := (some .int)) (by decide) rfl (Nat.le_of_ble_eq_true rfl) (fun E hE1 hE2 hC hN hQ => ?_)
  subst hE1 hE2
  exact z_X9_fault_0 hC hN (N := N) (a_t := a_t) (a_t_now := a_t_now) (a_t_kept := a_t_kept) (a_t_isKept := a_t_isKept) (a_t_acts := a_t_acts) (a_t_was := a_t_was) (a_t_lanes := a_t_lanes) (a_t_longs := a_t_longs) (a_t_isThere := a_t_isThere) (a_t_items := a_t_items) (a_t_copied := a_t_copied) (a_t_tape := a_t_tape) (a_t_readSorts := a_t_readSorts) (a_t_readHands := a_t_readHands) (a_t_inTurn := a_t_inTurn) (a_t_ends := a_t_ends) (a_t_bestHands := a_t_bestHands) (a_t_traces := a_t_traces) (t_manyActs := t_manyActs) (t_status := t_status) (t_tapeLong := t_tapeLong) (t_fault := t_fault) (t_tokenAt := t_tokenAt) (t_tokenLong := t_tokenLong) (t_token := t_token) (t_value := t_value) (t_winner := t_winner) (t_throwsOf := t_throwsOf) (t_handA := t_handA) (t_handB := t_handB) (t_fewestSo := t_fewestSo) (t_traced := t_traced) hQ hR

/-! FistTrainsModel.players -/
abbrev rmX9_players : Room := { frames := 0, cells := 0, slots := 0, locals := 0 }
set_option maxRecDepth 20000 in
theorem iX9_players_X9 : ∀ w ∈ wsX90, w ∈ wsX9_players := by decide +kernel
set_option maxRecDepth 20000 in
theorem mX9_players_1 : Cond.fieldLink RX9 7 "FistTrainsModel" "now" "[I" ∈ wsX9_players := List.mem_of_getElem? (i := 1) rfl
def o_X9_players (N : Nat) (t_now : (Nat → Int32)) : Option (Int32) :=
  ogd (inb 0 27) (
  some ((t_now (Int32.toNatClampNeg 0))))
set_option maxHeartbeats 4000000 in
set_option maxRecDepth 100000 in
theorem z_X9_players_0 {sK sV : Nat → Nat} {E : ZE} {cI cB cZ : ClassId} (hC : ZC E 1 cX9_players wsX9_players RX9 rmX9_players (some .int) (zty cI cB cZ)) (hN : ZN sK sV (zA E) (zs E)) {N : Nat} {a_t : Nat} {a_t_now : Nat} {a_t_kept : Nat} {a_t_isKept : Nat} {a_t_acts : Nat} {a_t_was : Nat} {a_t_lanes : Nat} {a_t_longs : Nat} {a_t_isThere : Nat} {a_t_items : Nat} {a_t_copied : Nat} {a_t_tape : Nat} {a_t_readSorts : Nat} {a_t_readHands : Nat} {a_t_inTurn : Nat} {a_t_ends : Nat} {a_t_bestHands : Nat} {a_t_traces : Nat} {t_manyActs : Int32} {t_status : Int32} {t_tapeLong : Int32} {t_fault : Int32} {t_tokenAt : Int32} {t_tokenLong : Int32} {t_token : Int32} {t_value : Int32} {t_winner : Int32} {t_throwsOf : Int32} {t_handA : Int32} {t_handB : Int32} {t_fewestSo : Int32} {t_traced : Int32} {t_now : (Nat → Int32)} {rf : Int32} (hQ : ZQi E (zty cI cB cZ) rf [(a_t, .inr (9, [.ref a_t_now, .ref a_t_kept, .ref a_t_isKept, .ref a_t_acts, .int t_manyActs, .ref a_t_was, .int t_status, .ref a_t_lanes, .ref a_t_longs, .ref a_t_isThere, .ref a_t_items, .ref a_t_copied, .ref a_t_tape, .int t_tapeLong, .int t_fault, .int t_tokenAt, .int t_tokenLong, .int t_token, .int t_value, .ref a_t_readSorts, .ref a_t_readHands, .int t_winner, .int t_throwsOf, .int t_handA, .int t_handB, .ref a_t_inTurn, .ref a_t_ends, .ref a_t_bestHands, .int t_fewestSo, .ref a_t_traces, .int t_traced])), (a_t_now, .inl (cI, 27, .inl t_now))]) (hR : o_X9_players N t_now = some rf) : Z E (0, 0) [(0, .ref a_t)] 0 [] [(a_t, .inr (9, [.ref a_t_now, .ref a_t_kept, .ref a_t_isKept, .ref a_t_acts, .int t_manyActs, .ref a_t_was, .int t_status, .ref a_t_lanes, .ref a_t_longs, .ref a_t_isThere, .ref a_t_items, .ref a_t_copied, .ref a_t_tape, .int t_tapeLong, .int t_fault, .int t_tokenAt, .int t_tokenLong, .int t_token, .int t_value, .ref a_t_readSorts, .ref a_t_readHands, .int t_winner, .int t_throwsOf, .int t_handA, .int t_handB, .ref a_t_inTurn, .ref a_t_ends, .ref a_t_bestHands, .int t_fewestSo, .ref a_t_traces, .int t_traced])), (a_t_now, .inl (cI, 27, .inl t_now))] := by
  rw [o_X9_players] at hR
  refine z_aload_n hC dX9_players_0 rfl 0 rfl ?_
  refine z_get hC iX9_players_X9 rfl 0 0 rfl (by decide) mX9_players_1 rfl rfl dX9_players_1 ?_
  refine z_ic0 hC dX9_players_4 ?_
  refine z_iald hC 1 0 rfl rfl dX9_players_5 hR (fun hR => ?_)
  obtain rfl := Option.some.inj hR
  exact z_iret hC hQ rfl rfl rfl dX9_players_6
set_option maxHeartbeats 4000000 in
set_option maxRecDepth 100000 in
theorem c_X9_players {sK sV : Nat → Nat} {l : Launch} {D : va_G} {cI cB cZ : ClassId} {N : Nat} {a_t : Nat} {a_t_now : Nat} {a_t_kept : Nat} {a_t_isKept : Nat} {a_t_acts : Nat} {a_t_was : Nat} {a_t_lanes : Nat} {a_t_longs : Nat} {a_t_isThere : Nat} {a_t_items : Nat} {a_t_copied : Nat} {a_t_tape : Nat} {a_t_readSorts : Nat} {a_t_readHands : Nat} {a_t_inTurn : Nat} {a_t_ends : Nat} {a_t_bestHands : Nat} {a_t_traces : Nat} {t_manyActs : Int32} {t_status : Int32} {t_tapeLong : Int32} {t_fault : Int32} {t_tokenAt : Int32} {t_tokenLong : Int32} {t_token : Int32} {t_value : Int32} {t_winner : Int32} {t_throwsOf : Int32} {t_handA : Int32} {t_handB : Int32} {t_fewestSo : Int32} {t_traced : Int32} {t_now : (Nat → Int32)} : ∀ R : Int32, o_X9_players N t_now = some R → ZMi sK sV l yX9_players wsX9_players rmX9_players D (zty cI cB cZ) [.ref a_t] [(a_t, .inr (9, [.ref a_t_now, .ref a_t_kept, .ref a_t_isKept, .ref a_t_acts, .int t_manyActs, .ref a_t_was, .int t_status, .ref a_t_lanes, .ref a_t_longs, .ref a_t_isThere, .ref a_t_items, .ref a_t_copied, .ref a_t_tape, .int t_tapeLong, .int t_fault, .int t_tokenAt, .int t_tokenLong, .int t_token, .int t_value, .ref a_t_readSorts, .ref a_t_readHands, .int t_winner, .int t_throwsOf, .int t_handA, .int t_handB, .ref a_t_inTurn, .ref a_t_ends, .ref a_t_bestHands, .int t_fewestSo, .ref a_t_traces, .int t_traced])), (a_t_now, .inl (cI, 27, .inl t_now))] R [(a_t, .inr (9, [.ref a_t_now, .ref a_t_kept, .ref a_t_isKept, .ref a_t_acts, .int t_manyActs, .ref a_t_was, .int t_status, .ref a_t_lanes, .ref a_t_longs, .ref a_t_isThere, .ref a_t_items, .ref a_t_copied, .ref a_t_tape, .int t_tapeLong, .int t_fault, .int t_tokenAt, .int t_tokenLong, .int t_token, .int t_value, .ref a_t_readSorts, .ref a_t_readHands, .int t_winner, .int t_throwsOf, .int t_handA, .int t_handB, .ref a_t_inTurn, .ref a_t_ends, .ref a_t_bestHands, .int t_fewestSo, .ref a_t_traces, .int t_traced])), (a_t_now, .inl (cI, 27, .inl t_now))] := by
  intro R hR
  refine zi_of (cc := cX9_players) (maxL := 1) (ret := (some .int)) (by decide) rfl (Nat.le_of_ble_eq_true rfl) (fun E hE1 hE2 hC hN hQ => ?_)
  subst hE1 hE2
  exact z_X9_players_0 hC hN (N := N) (a_t := a_t) (a_t_now := a_t_now) (a_t_kept := a_t_kept) (a_t_isKept := a_t_isKept) (a_t_acts := a_t_acts) (a_t_was := a_t_was) (a_t_lanes := a_t_lanes) (a_t_longs := a_t_longs) (a_t_isThere := a_t_isThere) (a_t_items := a_t_items) (a_t_copied := a_t_copied) (a_t_tape := a_t_tape) (a_t_readSorts := a_t_readSorts) (a_t_readHands := a_t_readHands) (a_t_inTurn := a_t_inTurn) (a_t_ends := a_t_ends) (a_t_bestHands := a_t_bestHands) (a_t_traces := a_t_traces) (t_manyActs := t_manyActs) (t_status := t_status) (t_tapeLong := t_tapeLong) (t_fault := t_fault) (t_tokenAt := t_tokenAt) (t_tokenLong := t_tokenLong) (t_token := t_token) (t_value := t_value) (t_winner := t_winner) (t_throwsOf := t_throwsOf) (t_handA := t_handA) (t_handB := t_handB) (t_fewestSo := t_fewestSo) (t_traced := t_traced) (t_now := t_now) hQ hR

/-! FistTrainsModel.isPlayer -/
abbrev rmX9_isPlayer : Room := { frames := 1, cells := 0, slots := 0, locals := 25 }
def o_X9_isPlayer (N : Nat) (t_now : (Nat → Int32)) (l1 : Int32) : Option (Int32) :=
  Option.bind (o_X9_players N t_now) (fun r4 =>
  Option.bind (o_X9_in N (Int32.toInt64 l1) 0 (Int32.toInt64 (r4 - 1))) (fun r10 =>
  ogd (isb r10) (
  some (r10))))
set_option maxHeartbeats 4000000 in
set_option maxRecDepth 100000 in
theorem z_X9_isPlayer_0 {sK sV : Nat → Nat} {E : ZE} {cI cB cZ : ClassId} (hC : ZC E 2 cX9_isPlayer wsX9_isPlayer RX9 rmX9_isPlayer (some .boolean) (zty cI cB cZ)) (hN : ZN sK sV (zA E) (zs E)) {N : Nat} {a_t : Nat} {a_t_now : Nat} {a_t_kept : Nat} {a_t_isKept : Nat} {a_t_acts : Nat} {a_t_was : Nat} {a_t_lanes : Nat} {a_t_longs : Nat} {a_t_isThere : Nat} {a_t_items : Nat} {a_t_copied : Nat} {a_t_tape : Nat} {a_t_readSorts : Nat} {a_t_readHands : Nat} {a_t_inTurn : Nat} {a_t_ends : Nat} {a_t_bestHands : Nat} {a_t_traces : Nat} {t_manyActs : Int32} {t_status : Int32} {t_tapeLong : Int32} {t_fault : Int32} {t_tokenAt : Int32} {t_tokenLong : Int32} {t_token : Int32} {t_value : Int32} {t_winner : Int32} {t_throwsOf : Int32} {t_handA : Int32} {t_handB : Int32} {t_fewestSo : Int32} {t_traced : Int32} {t_now : (Nat → Int32)} {l1 : Int32} {rf : Int32} (hQ : ZQi E (zty cI cB cZ) rf [(a_t, .inr (9, [.ref a_t_now, .ref a_t_kept, .ref a_t_isKept, .ref a_t_acts, .int t_manyActs, .ref a_t_was, .int t_status, .ref a_t_lanes, .ref a_t_longs, .ref a_t_isThere, .ref a_t_items, .ref a_t_copied, .ref a_t_tape, .int t_tapeLong, .int t_fault, .int t_tokenAt, .int t_tokenLong, .int t_token, .int t_value, .ref a_t_readSorts, .ref a_t_readHands, .int t_winner, .int t_throwsOf, .int t_handA, .int t_handB, .ref a_t_inTurn, .ref a_t_ends, .ref a_t_bestHands, .int t_fewestSo, .ref a_t_traces, .int t_traced])), (a_t_now, .inl (cI, 27, .inl t_now))]) (hR : o_X9_isPlayer N t_now l1 = some rf) : Z E (0, 0) [(0, .ref a_t), (1, .int l1)] 0 [] [(a_t, .inr (9, [.ref a_t_now, .ref a_t_kept, .ref a_t_isKept, .ref a_t_acts, .int t_manyActs, .ref a_t_was, .int t_status, .ref a_t_lanes, .ref a_t_longs, .ref a_t_isThere, .ref a_t_items, .ref a_t_copied, .ref a_t_tape, .int t_tapeLong, .int t_fault, .int t_tokenAt, .int t_tokenLong, .int t_token, .int t_value, .ref a_t_readSorts, .ref a_t_readHands, .int t_winner, .int t_throwsOf, .int t_handA, .int t_handB, .ref a_t_inTurn, .ref a_t_ends, .ref a_t_bestHands, .int t_fewestSo, .ref a_t_traces, .int t_traced])), (a_t_now, .inl (cI, 27, .inl t_now))] := by
  rw [o_X9_isPlayer] at hR
  refine z_iload_n hC dX9_isPlayer_0 rfl 1 rfl ?_
  refine z_i2l hC dX9_isPlayer_1 ?_
  refine z_lconst (v := 0) hC dX9_isPlayer_2 rfl ?_
  refine z_aload_n hC dX9_isPlayer_3 rfl 0 rfl ?_
  refine z_callVi_p hC hN [] [0, 1] (c_X9_players (l := zl E) (D := zD E) (cI := cI) (cB := cB) (cZ := cZ) (N := N) (a_t := a_t) (a_t_now := a_t_now) (a_t_kept := a_t_kept) (a_t_isKept := a_t_isKept) (a_t_acts := a_t_acts) (a_t_was := a_t_was) (a_t_lanes := a_t_lanes) (a_t_longs := a_t_longs) (a_t_isThere := a_t_isThere) (a_t_items := a_t_items) (a_t_copied := a_t_copied) (a_t_tape := a_t_tape) (a_t_readSorts := a_t_readSorts) (a_t_readHands := a_t_readHands) (a_t_inTurn := a_t_inTurn) (a_t_ends := a_t_ends) (a_t_bestHands := a_t_bestHands) (a_t_traces := a_t_traces) (t_manyActs := t_manyActs) (t_status := t_status) (t_tapeLong := t_tapeLong) (t_fault := t_fault) (t_tokenAt := t_tokenAt) (t_tokenLong := t_tokenLong) (t_token := t_token) (t_value := t_value) (t_winner := t_winner) (t_throwsOf := t_throwsOf) (t_handA := t_handA) (t_handB := t_handB) (t_fewestSo := t_fewestSo) (t_traced := t_traced) (t_now := t_now)) rfl ⟨rfl, rfl⟩ gX9_isPlayer_X9_players hvX9_players 0 9 rfl rfl rfl ⟨Nat.le_of_ble_eq_true rfl, Nat.le_of_ble_eq_true rfl⟩ ⟨Nat.zero_le _, Nat.zero_le _⟩ rfl (Nat.le_of_ble_eq_true rfl) rfl (by decide) dX9_isPlayer_4 hR (fun r4 hR => ?_)
  refine z_ic1 hC dX9_isPlayer_7 ?_
  refine z_isub hC dX9_isPlayer_8 ?_
  refine z_i2l hC dX9_isPlayer_9 ?_
  refine z_callSi_p hC hN [.long (Int32.toInt64 l1), .long 0, .long (Int32.toInt64 (r4 - 1))] [] (c_X9_in (l := zl E) (D := zD E) (cI := cI) (cB := cB) (cZ := cZ) (N := N) (L0 := (Int32.toInt64 l1)) (L2 := 0) (L4 := (Int32.toInt64 (r4 - 1)))) rfl ⟨rfl, rfl⟩ gX9_isPlayer_X9_in hsX9_in ⟨Nat.le_of_ble_eq_true rfl, Nat.le_of_ble_eq_true rfl⟩ ⟨Nat.zero_le _, Nat.zero_le _⟩ rfl (Nat.le_of_ble_eq_true rfl) rfl (by decide) dX9_isPlayer_10 hR (fun r10 hR => ?_)
  obtain ⟨hb9, hR⟩ := ogd_s hR
  obtain rfl := Option.some.inj hR
  exact z_iret hC hQ (isb_s hb9) rfl rfl dX9_isPlayer_13
set_option maxHeartbeats 4000000 in
set_option maxRecDepth 100000 in
theorem c_X9_isPlayer {sK sV : Nat → Nat} {l : Launch} {D : va_G} {cI cB cZ : ClassId} {N : Nat} {a_t : Nat} {a_t_now : Nat} {a_t_kept : Nat} {a_t_isKept : Nat} {a_t_acts : Nat} {a_t_was : Nat} {a_t_lanes : Nat} {a_t_longs : Nat} {a_t_isThere : Nat} {a_t_items : Nat} {a_t_copied : Nat} {a_t_tape : Nat} {a_t_readSorts : Nat} {a_t_readHands : Nat} {a_t_inTurn : Nat} {a_t_ends : Nat} {a_t_bestHands : Nat} {a_t_traces : Nat} {t_manyActs : Int32} {t_status : Int32} {t_tapeLong : Int32} {t_fault : Int32} {t_tokenAt : Int32} {t_tokenLong : Int32} {t_token : Int32} {t_value : Int32} {t_winner : Int32} {t_throwsOf : Int32} {t_handA : Int32} {t_handB : Int32} {t_fewestSo : Int32} {t_traced : Int32} {t_now : (Nat → Int32)} {l1 : Int32} : ∀ R : Int32, o_X9_isPlayer N t_now l1 = some R → ZMi sK sV l yX9_isPlayer wsX9_isPlayer rmX9_isPlayer D (zty cI cB cZ) [.ref a_t, .int l1] [(a_t, .inr (9, [.ref a_t_now, .ref a_t_kept, .ref a_t_isKept, .ref a_t_acts, .int t_manyActs, .ref a_t_was, .int t_status, .ref a_t_lanes, .ref a_t_longs, .ref a_t_isThere, .ref a_t_items, .ref a_t_copied, .ref a_t_tape, .int t_tapeLong, .int t_fault, .int t_tokenAt, .int t_tokenLong, .int t_token, .int t_value, .ref a_t_readSorts, .ref a_t_readHands, .int t_winner, .int t_throwsOf, .int t_handA, .int t_handB, .ref a_t_inTurn, .ref a_t_ends, .ref a_t_bestHands, .int t_fewestSo, .ref a_t_traces, .int t_traced])), (a_t_now, .inl (cI, 27, .inl t_now))] R [(a_t, .inr (9, [.ref a_t_now, .ref a_t_kept, .ref a_t_isKept, .ref a_t_acts, .int t_manyActs, .ref a_t_was, .int t_status, .ref a_t_lanes, .ref a_t_longs, .ref a_t_isThere, .ref a_t_items, .ref a_t_copied, .ref a_t_tape, .int t_tapeLong, .int t_fault, .int t_tokenAt, .int t_tokenLong, .int t_token, .int t_value, .ref a_t_readSorts, .ref a_t_readHands, .int t_winner, .int t_throwsOf, .int t_handA, .int t_handB, .ref a_t_inTurn, .ref a_t_ends, .ref a_t_bestHands, .int t_fewestSo, .ref a_t_traces, .int t_traced])), (a_t_now, .inl (cI, 27, .inl t_now))] := by
  intro R hR
  refine zi_of (cc := cX9_isPlayer) (maxL := 2) (ret := (some .boolean)) (by decide) rfl (Nat.le_of_ble_eq_true rfl) (fun E hE1 hE2 hC hN hQ => ?_)
  subst hE1 hE2
  exact z_X9_isPlayer_0 hC hN (N := N) (a_t := a_t) (a_t_now := a_t_now) (a_t_kept := a_t_kept) (a_t_isKept := a_t_isKept) (a_t_acts := a_t_acts) (a_t_was := a_t_was) (a_t_lanes := a_t_lanes) (a_t_longs := a_t_longs) (a_t_isThere := a_t_isThere) (a_t_items := a_t_items) (a_t_copied := a_t_copied) (a_t_tape := a_t_tape) (a_t_readSorts := a_t_readSorts) (a_t_readHands := a_t_readHands) (a_t_inTurn := a_t_inTurn) (a_t_ends := a_t_ends) (a_t_bestHands := a_t_bestHands) (a_t_traces := a_t_traces) (t_manyActs := t_manyActs) (t_status := t_status) (t_tapeLong := t_tapeLong) (t_fault := t_fault) (t_tokenAt := t_tokenAt) (t_tokenLong := t_tokenLong) (t_token := t_token) (t_value := t_value) (t_winner := t_winner) (t_throwsOf := t_throwsOf) (t_handA := t_handA) (t_handB := t_handB) (t_fewestSo := t_fewestSo) (t_traced := t_traced) (t_now := t_now) (l1 := l1) hQ hR

/-! FistTrainsModel.leads -/
abbrev rmX9_leads : Room := { frames := 0, cells := 0, slots := 0, locals := 0 }
set_option maxRecDepth 20000 in
theorem iX9_leads_X9 : ∀ w ∈ wsX90, w ∈ wsX9_leads := by decide +kernel
set_option maxRecDepth 20000 in
theorem mX9_leads_1 : Cond.fieldLink RX9 7 "FistTrainsModel" "now" "[I" ∈ wsX9_leads := List.mem_of_getElem? (i := 1) rfl
def o_X9_leads (N : Nat) (t_now : (Nat → Int32)) (l1 : Int32) : Option (Int32) :=
  ogd (inb (17 + l1) 27) (
  if (t_now (Int32.toNatClampNeg (17 + l1))) = l1 then
    some (1)
  else
    some (0))
set_option maxHeartbeats 4000000 in
set_option maxRecDepth 100000 in
theorem z_X9_leads_0 {sK sV : Nat → Nat} {E : ZE} {cI cB cZ : ClassId} (hC : ZC E 2 cX9_leads wsX9_leads RX9 rmX9_leads (some .boolean) (zty cI cB cZ)) (hN : ZN sK sV (zA E) (zs E)) {N : Nat} {a_t : Nat} {a_t_now : Nat} {a_t_kept : Nat} {a_t_isKept : Nat} {a_t_acts : Nat} {a_t_was : Nat} {a_t_lanes : Nat} {a_t_longs : Nat} {a_t_isThere : Nat} {a_t_items : Nat} {a_t_copied : Nat} {a_t_tape : Nat} {a_t_readSorts : Nat} {a_t_readHands : Nat} {a_t_inTurn : Nat} {a_t_ends : Nat} {a_t_bestHands : Nat} {a_t_traces : Nat} {t_manyActs : Int32} {t_status : Int32} {t_tapeLong : Int32} {t_fault : Int32} {t_tokenAt : Int32} {t_tokenLong : Int32} {t_token : Int32} {t_value : Int32} {t_winner : Int32} {t_throwsOf : Int32} {t_handA : Int32} {t_handB : Int32} {t_fewestSo : Int32} {t_traced : Int32} {t_now : (Nat → Int32)} {l1 : Int32} {rf : Int32} (hQ : ZQi E (zty cI cB cZ) rf [(a_t, .inr (9, [.ref a_t_now, .ref a_t_kept, .ref a_t_isKept, .ref a_t_acts, .int t_manyActs, .ref a_t_was, .int t_status, .ref a_t_lanes, .ref a_t_longs, .ref a_t_isThere, .ref a_t_items, .ref a_t_copied, .ref a_t_tape, .int t_tapeLong, .int t_fault, .int t_tokenAt, .int t_tokenLong, .int t_token, .int t_value, .ref a_t_readSorts, .ref a_t_readHands, .int t_winner, .int t_throwsOf, .int t_handA, .int t_handB, .ref a_t_inTurn, .ref a_t_ends, .ref a_t_bestHands, .int t_fewestSo, .ref a_t_traces, .int t_traced])), (a_t_now, .inl (cI, 27, .inl t_now))]) (hR : o_X9_leads N t_now l1 = some rf) : Z E (0, 0) [(0, .ref a_t), (1, .int l1)] 0 [] [(a_t, .inr (9, [.ref a_t_now, .ref a_t_kept, .ref a_t_isKept, .ref a_t_acts, .int t_manyActs, .ref a_t_was, .int t_status, .ref a_t_lanes, .ref a_t_longs, .ref a_t_isThere, .ref a_t_items, .ref a_t_copied, .ref a_t_tape, .int t_tapeLong, .int t_fault, .int t_tokenAt, .int t_tokenLong, .int t_token, .int t_value, .ref a_t_readSorts, .ref a_t_readHands, .int t_winner, .int t_throwsOf, .int t_handA, .int t_handB, .ref a_t_inTurn, .ref a_t_ends, .ref a_t_bestHands, .int t_fewestSo, .ref a_t_traces, .int t_traced])), (a_t_now, .inl (cI, 27, .inl t_now))] := by
  rw [o_X9_leads] at hR
  refine z_aload_n hC dX9_leads_0 rfl 0 rfl ?_
  refine z_get hC iX9_leads_X9 rfl 0 0 rfl (by decide) mX9_leads_1 rfl rfl dX9_leads_1 ?_
  refine z_bipush (v := 17) hC dX9_leads_4 (by decide) ?_
  refine z_iload_n hC dX9_leads_6 rfl 1 rfl ?_
  refine z_iadd hC dX9_leads_7 ?_
  refine z_iald hC 1 0 rfl rfl dX9_leads_8 hR (fun hR => ?_)
  refine z_iload_n hC dX9_leads_9 rfl 1 rfl ?_
  refine z_icmp_ne hC 17 dX9_leads_10 (by decide) hR (fun hR => ?_) (fun hR => ?_)
  · refine z_ic0 hC dX9_leads_17 ?_
    obtain rfl := Option.some.inj hR
    exact z_iret hC hQ rfl rfl rfl dX9_leads_18
  · refine z_ic1 hC dX9_leads_13 ?_
    refine z_goto hC 18 dX9_leads_14 (by decide) ?_
    obtain rfl := Option.some.inj hR
    exact z_iret hC hQ rfl rfl rfl dX9_leads_18
set_option maxHeartbeats 4000000 in
set_option maxRecDepth 100000 in
theorem c_X9_leads {sK sV : Nat → Nat} {l : Launch} {D : va_G} {cI cB cZ : ClassId} {N : Nat} {a_t : Nat} {a_t_now : Nat} {a_t_kept : Nat} {a_t_isKept : Nat} {a_t_acts : Nat} {a_t_was : Nat} {a_t_lanes : Nat} {a_t_longs : Nat} {a_t_isThere : Nat} {a_t_items : Nat} {a_t_copied : Nat} {a_t_tape : Nat} {a_t_readSorts : Nat} {a_t_readHands : Nat} {a_t_inTurn : Nat} {a_t_ends : Nat} {a_t_bestHands : Nat} {a_t_traces : Nat} {t_manyActs : Int32} {t_status : Int32} {t_tapeLong : Int32} {t_fault : Int32} {t_tokenAt : Int32} {t_tokenLong : Int32} {t_token : Int32} {t_value : Int32} {t_winner : Int32} {t_throwsOf : Int32} {t_handA : Int32} {t_handB : Int32} {t_fewestSo : Int32} {t_traced : Int32} {t_now : (Nat → Int32)} {l1 : Int32} : ∀ R : Int32, o_X9_leads N t_now l1 = some R → ZMi sK sV l yX9_leads wsX9_leads rmX9_leads D (zty cI cB cZ) [.ref a_t, .int l1] [(a_t, .inr (9, [.ref a_t_now, .ref a_t_kept, .ref a_t_isKept, .ref a_t_acts, .int t_manyActs, .ref a_t_was, .int t_status, .ref a_t_lanes, .ref a_t_longs, .ref a_t_isThere, .ref a_t_items, .ref a_t_copied, .ref a_t_tape, .int t_tapeLong, .int t_fault, .int t_tokenAt, .int t_tokenLong, .int t_token, .int t_value, .ref a_t_readSorts, .ref a_t_readHands, .int t_winner, .int t_throwsOf, .int t_handA, .int t_handB, .ref a_t_inTurn, .ref a_t_ends, .ref a_t_bestHands, .int t_fewestSo, .ref a_t_traces, .int t_traced])), (a_t_now, .inl (cI, 27, .inl t_now))] R [(a_t, .inr (9, [.ref a_t_now, .ref a_t_kept, .ref a_t_isKept, .ref a_t_acts, .int t_manyActs, .ref a_t_was, .int t_status, .ref a_t_lanes, .ref a_t_longs, .ref a_t_isThere, .ref a_t_items, .ref a_t_copied, .ref a_t_tape, .int t_tapeLong, .int t_fault, .int t_tokenAt, .int t_tokenLong, .int t_token, .int t_value, .ref a_t_readSorts, .ref a_t_readHands, .int t_winner, .int t_throwsOf, .int t_handA, .int t_handB, .ref a_t_inTurn, .ref a_t_ends, .ref a_t_bestHands, .int t_fewestSo, .ref a_t_traces, .int t_traced])), (a_t_now, .inl (cI, 27, .inl t_now))] := by
  intro R hR
  refine zi_of (cc := cX9_leads) (maxL := 2) (ret := (some .boolean)) (by decide) rfl (Nat.le_of_ble_eq_true rfl) (fun E hE1 hE2 hC hN hQ => ?_)
  subst hE1 hE2
  exact z_X9_leads_0 hC hN (N := N) (a_t := a_t) (a_t_now := a_t_now) (a_t_kept := a_t_kept) (a_t_isKept := a_t_isKept) (a_t_acts := a_t_acts) (a_t_was := a_t_was) (a_t_lanes := a_t_lanes) (a_t_longs := a_t_longs) (a_t_isThere := a_t_isThere) (a_t_items := a_t_items) (a_t_copied := a_t_copied) (a_t_tape := a_t_tape) (a_t_readSorts := a_t_readSorts) (a_t_readHands := a_t_readHands) (a_t_inTurn := a_t_inTurn) (a_t_ends := a_t_ends) (a_t_bestHands := a_t_bestHands) (a_t_traces := a_t_traces) (t_manyActs := t_manyActs) (t_status := t_status) (t_tapeLong := t_tapeLong) (t_fault := t_fault) (t_tokenAt := t_tokenAt) (t_tokenLong := t_tokenLong) (t_token := t_token) (t_value := t_value) (t_winner := t_winner) (t_throwsOf := t_throwsOf) (t_handA := t_handA) (t_handB := t_handB) (t_fewestSo := t_fewestSo) (t_traced := t_traced) (t_now := t_now) (l1 := l1) hQ hR

/-! FistTrainsModel.sizeOf -/
abbrev rmX9_sizeOf : Room := { frames := 1, cells := 0, slots := 0, locals := 20 }
set_option maxRecDepth 20000 in
theorem iX9_sizeOf_X9 : ∀ w ∈ wsX90, w ∈ wsX9_sizeOf := by decide +kernel
set_option maxRecDepth 20000 in
theorem mX9_sizeOf_1 : Cond.fieldLink RX9 7 "FistTrainsModel" "now" "[I" ∈ wsX9_sizeOf := List.mem_of_getElem? (i := 1) rfl
def o_X9_sizeOf_31 (N : Nat) (K4 : Int32 → Int32 → Option (Int32)) (t_now : (Nat → Int32)) (l1 : Int32) (l3 : Int32) (s0 : Int32) (s1 : Int32) : Option (Int32) :=
  K4 (s0 + s1) (l3 + 1)
def o_X9_sizeOf_4 (N : Nat) (t_now : (Nat → Int32)) (l1 : Int32) : Nat → Int32 → Int32 → Option (Int32)
  | 0 => fun _ _ => none
  | n + 1 => fun l2 l3 => 
    Option.bind (o_X9_players N t_now) (fun r6 =>
    if r6 ≤ l3 then
      some (l2)
    else
      ogd (inb (17 + l3) 27) (
      if (t_now (Int32.toNatClampNeg (17 + l3))) = l1 then
        o_X9_sizeOf_31 N (o_X9_sizeOf_4 N t_now l1 n) t_now l1 l3 l2 1
      else
        o_X9_sizeOf_31 N (o_X9_sizeOf_4 N t_now l1 n) t_now l1 l3 l2 0))
def o_X9_sizeOf (N : Nat) (t_now : (Nat → Int32)) (l1 : Int32) : Option (Int32) :=
  o_X9_sizeOf_4 N t_now l1 N 0 0
set_option maxHeartbeats 4000000 in
set_option maxRecDepth 100000 in
theorem z_X9_sizeOf_31 {sK sV : Nat → Nat} {E : ZE} {cI cB cZ : ClassId} (hC : ZC E 4 cX9_sizeOf wsX9_sizeOf RX9 rmX9_sizeOf (some .int) (zty cI cB cZ)) (hN : ZN sK sV (zA E) (zs E)) {N : Nat} {a_t : Nat} {a_t_now : Nat} {a_t_kept : Nat} {a_t_isKept : Nat} {a_t_acts : Nat} {a_t_was : Nat} {a_t_lanes : Nat} {a_t_longs : Nat} {a_t_isThere : Nat} {a_t_items : Nat} {a_t_copied : Nat} {a_t_tape : Nat} {a_t_readSorts : Nat} {a_t_readHands : Nat} {a_t_inTurn : Nat} {a_t_ends : Nat} {a_t_bestHands : Nat} {a_t_traces : Nat} {t_manyActs : Int32} {t_status : Int32} {t_tapeLong : Int32} {t_fault : Int32} {t_tokenAt : Int32} {t_tokenLong : Int32} {t_token : Int32} {t_value : Int32} {t_winner : Int32} {t_throwsOf : Int32} {t_handA : Int32} {t_handB : Int32} {t_fewestSo : Int32} {t_traced : Int32} {t_now : (Nat → Int32)} {l1 : Int32} {l3 : Int32} {s0 : Int32} {s1 : Int32} {K4 : Int32 → Int32 → Option (Int32)} {rf : Int32} (hQ : ZQi E (zty cI cB cZ) rf [(a_t, .inr (9, [.ref a_t_now, .ref a_t_kept, .ref a_t_isKept, .ref a_t_acts, .int t_manyActs, .ref a_t_was, .int t_status, .ref a_t_lanes, .ref a_t_longs, .ref a_t_isThere, .ref a_t_items, .ref a_t_copied, .ref a_t_tape, .int t_tapeLong, .int t_fault, .int t_tokenAt, .int t_tokenLong, .int t_token, .int t_value, .ref a_t_readSorts, .ref a_t_readHands, .int t_winner, .int t_throwsOf, .int t_handA, .int t_handB, .ref a_t_inTurn, .ref a_t_ends, .ref a_t_bestHands, .int t_fewestSo, .ref a_t_traces, .int t_traced])), (a_t_now, .inl (cI, 27, .inl t_now))]) (hK4 : ∀ (l2 : Int32) (l3 : Int32), K4 l2 l3 = some rf → Z E (0, 0) [(0, .ref a_t), (1, .int l1), (2, .int l2), (3, .int l3)] 4 [] [(a_t, .inr (9, [.ref a_t_now, .ref a_t_kept, .ref a_t_isKept, .ref a_t_acts, .int t_manyActs, .ref a_t_was, .int t_status, .ref a_t_lanes, .ref a_t_longs, .ref a_t_isThere, .ref a_t_items, .ref a_t_copied, .ref a_t_tape, .int t_tapeLong, .int t_fault, .int t_tokenAt, .int t_tokenLong, .int t_token, .int t_value, .ref a_t_readSorts, .ref a_t_readHands, .int t_winner, .int t_throwsOf, .int t_handA, .int t_handB, .ref a_t_inTurn, .ref a_t_ends, .ref a_t_bestHands, .int t_fewestSo, .ref a_t_traces, .int t_traced])), (a_t_now, .inl (cI, 27, .inl t_now))]) (hR : o_X9_sizeOf_31 N K4 t_now l1 l3 s0 s1 = some rf) : Z E (0, 0) [(0, .ref a_t), (1, .int l1), (3, .int l3)] 31 [.int s1, .int s0] [(a_t, .inr (9, [.ref a_t_now, .ref a_t_kept, .ref a_t_isKept, .ref a_t_acts, .int t_manyActs, .ref a_t_was, .int t_status, .ref a_t_lanes, .ref a_t_longs, .ref a_t_isThere, .ref a_t_items, .ref a_t_copied, .ref a_t_tape, .int t_tapeLong, .int t_fault, .int t_tokenAt, .int t_tokenLong, .int t_token, .int t_value, .ref a_t_readSorts, .ref a_t_readHands, .int t_winner, .int t_throwsOf, .int t_handA, .int t_handB, .ref a_t_inTurn, .ref a_t_ends, .ref a_t_bestHands, .int t_fewestSo, .ref a_t_traces, .int t_traced])), (a_t_now, .inl (cI, 27, .inl t_now))] := by
  rw [o_X9_sizeOf_31] at hR
  refine z_iadd hC dX9_sizeOf_31 ?_
  refine z_istore_n hC [(2, .int (s0 + s1)), (0, .ref a_t), (1, .int l1), (3, .int l3)] dX9_sizeOf_32 rfl (by decide) rfl ?_
  refine z_iinc1 hC [(3, .int (l3 + 1)), (2, .int (s0 + s1)), (0, .ref a_t), (1, .int l1)] dX9_sizeOf_33 3 rfl (by decide) rfl ?_
  refine z_goto hC 4 dX9_sizeOf_36 (by decide) ?_
  refine z_sub (lv' := [(0, .ref a_t), (1, .int l1), (2, .int (s0 + s1)), (3, .int (l3 + 1))]) [2, 3, 1, 0] rfl ?_
  exact hK4 (s0 + s1) (l3 + 1) hR
set_option maxHeartbeats 4000000 in
set_option maxRecDepth 100000 in
theorem z_X9_sizeOf_4 {sK sV : Nat → Nat} {E : ZE} {cI cB cZ : ClassId} (hC : ZC E 4 cX9_sizeOf wsX9_sizeOf RX9 rmX9_sizeOf (some .int) (zty cI cB cZ)) (hN : ZN sK sV (zA E) (zs E)) {N : Nat} {a_t : Nat} {a_t_now : Nat} {a_t_kept : Nat} {a_t_isKept : Nat} {a_t_acts : Nat} {a_t_was : Nat} {a_t_lanes : Nat} {a_t_longs : Nat} {a_t_isThere : Nat} {a_t_items : Nat} {a_t_copied : Nat} {a_t_tape : Nat} {a_t_readSorts : Nat} {a_t_readHands : Nat} {a_t_inTurn : Nat} {a_t_ends : Nat} {a_t_bestHands : Nat} {a_t_traces : Nat} {t_manyActs : Int32} {t_status : Int32} {t_tapeLong : Int32} {t_fault : Int32} {t_tokenAt : Int32} {t_tokenLong : Int32} {t_token : Int32} {t_value : Int32} {t_winner : Int32} {t_throwsOf : Int32} {t_handA : Int32} {t_handB : Int32} {t_fewestSo : Int32} {t_traced : Int32} {t_now : (Nat → Int32)} {l1 : Int32} {rf : Int32} (hQ : ZQi E (zty cI cB cZ) rf [(a_t, .inr (9, [.ref a_t_now, .ref a_t_kept, .ref a_t_isKept, .ref a_t_acts, .int t_manyActs, .ref a_t_was, .int t_status, .ref a_t_lanes, .ref a_t_longs, .ref a_t_isThere, .ref a_t_items, .ref a_t_copied, .ref a_t_tape, .int t_tapeLong, .int t_fault, .int t_tokenAt, .int t_tokenLong, .int t_token, .int t_value, .ref a_t_readSorts, .ref a_t_readHands, .int t_winner, .int t_throwsOf, .int t_handA, .int t_handB, .ref a_t_inTurn, .ref a_t_ends, .ref a_t_bestHands, .int t_fewestSo, .ref a_t_traces, .int t_traced])), (a_t_now, .inl (cI, 27, .inl t_now))]) : ∀ (n : Nat) (l2 : Int32) (l3 : Int32), o_X9_sizeOf_4 N t_now l1 n l2 l3 = some rf → Z E (0, 0) [(0, .ref a_t), (1, .int l1), (2, .int l2), (3, .int l3)] 4 [] [(a_t, .inr (9, [.ref a_t_now, .ref a_t_kept, .ref a_t_isKept, .ref a_t_acts, .int t_manyActs, .ref a_t_was, .int t_status, .ref a_t_lanes, .ref a_t_longs, .ref a_t_isThere, .ref a_t_items, .ref a_t_copied, .ref a_t_tape, .int t_tapeLong, .int t_fault, .int t_tokenAt, .int t_tokenLong, .int t_token, .int t_value, .ref a_t_readSorts, .ref a_t_readHands, .int t_winner, .int t_throwsOf, .int t_handA, .int t_handB, .ref a_t_inTurn, .ref a_t_ends, .ref a_t_bestHands, .int t_fewestSo, .ref a_t_traces, .int t_traced])), (a_t_now, .inl (cI, 27, .inl t_now))] := by
  intro n
  induction n with
  | zero =>
    intro l2 l3 hR
    cases hR
  | succ n ih =>
    intro l2 l3 hR
    rw [o_X9_sizeOf_4] at hR
    refine z_iload_n hC dX9_sizeOf_4 rfl 3 rfl ?_
    refine z_aload_n hC dX9_sizeOf_5 rfl 0 rfl ?_
    refine z_callVi_p hC hN [] [0, 1] (c_X9_players (l := zl E) (D := zD E) (cI := cI) (cB := cB) (cZ := cZ) (N := N) (a_t := a_t) (a_t_now := a_t_now) (a_t_kept := a_t_kept) (a_t_isKept := a_t_isKept) (a_t_acts := a_t_acts) (a_t_was := a_t_was) (a_t_lanes := a_t_lanes) (a_t_longs := a_t_longs) (a_t_isThere := a_t_isThere) (a_t_items := a_t_items) (a_t_copied := a_t_copied) (a_t_tape := a_t_tape) (a_t_readSorts := a_t_readSorts) (a_t_readHands := a_t_readHands) (a_t_inTurn := a_t_inTurn) (a_t_ends := a_t_ends) (a_t_bestHands := a_t_bestHands) (a_t_traces := a_t_traces) (t_manyActs := t_manyActs) (t_status := t_status) (t_tapeLong := t_tapeLong) (t_fault := t_fault) (t_tokenAt := t_tokenAt) (t_tokenLong := t_tokenLong) (t_token := t_token) (t_value := t_value) (t_winner := t_winner) (t_throwsOf := t_throwsOf) (t_handA := t_handA) (t_handB := t_handB) (t_fewestSo := t_fewestSo) (t_traced := t_traced) (t_now := t_now)) rfl ⟨rfl, rfl⟩ gX9_sizeOf_X9_players hvX9_players 0 9 rfl rfl rfl ⟨Nat.le_of_ble_eq_true rfl, Nat.le_of_ble_eq_true rfl⟩ ⟨Nat.zero_le _, Nat.zero_le _⟩ rfl (Nat.le_of_ble_eq_true rfl) rfl (by decide) dX9_sizeOf_6 hR (fun r6 hR => ?_)
    refine z_icmp_ge hC 39 dX9_sizeOf_9 (by decide) hR (fun hR => ?_) (fun hR => ?_)
    · refine z_iload_n hC dX9_sizeOf_39 rfl 2 rfl ?_
      obtain rfl := Option.some.inj hR
      exact z_iret hC hQ rfl rfl rfl dX9_sizeOf_40
    · refine z_iload_n hC dX9_sizeOf_12 rfl 2 rfl ?_
      refine z_aload_n hC dX9_sizeOf_13 rfl 0 rfl ?_
      refine z_get hC iX9_sizeOf_X9 rfl 0 0 rfl (by decide) mX9_sizeOf_1 rfl rfl dX9_sizeOf_14 ?_
      refine z_bipush (v := 17) hC dX9_sizeOf_17 (by decide) ?_
      refine z_iload_n hC dX9_sizeOf_19 rfl 3 rfl ?_
      refine z_iadd hC dX9_sizeOf_20 ?_
      refine z_iald hC 1 0 rfl rfl dX9_sizeOf_21 hR (fun hR => ?_)
      refine z_iload_n hC dX9_sizeOf_22 rfl 1 rfl ?_
      refine z_icmp_ne hC 30 dX9_sizeOf_23 (by decide) hR (fun hR => ?_) (fun hR => ?_)
      · refine z_ic0 hC dX9_sizeOf_30 ?_
        refine z_sub (lv' := [(0, .ref a_t), (1, .int l1), (3, .int l3)]) [0, 1, 3] rfl ?_
        exact z_X9_sizeOf_31 hC hN (N := N) (a_t := a_t) (a_t_now := a_t_now) (a_t_kept := a_t_kept) (a_t_isKept := a_t_isKept) (a_t_acts := a_t_acts) (a_t_was := a_t_was) (a_t_lanes := a_t_lanes) (a_t_longs := a_t_longs) (a_t_isThere := a_t_isThere) (a_t_items := a_t_items) (a_t_copied := a_t_copied) (a_t_tape := a_t_tape) (a_t_readSorts := a_t_readSorts) (a_t_readHands := a_t_readHands) (a_t_inTurn := a_t_inTurn) (a_t_ends := a_t_ends) (a_t_bestHands := a_t_bestHands) (a_t_traces := a_t_traces) (t_manyActs := t_manyActs) (t_status := t_status) (t_tapeLong := t_tapeLong) (t_fault := t_fault) (t_tokenAt := t_tokenAt) (t_tokenLong := t_tokenLong) (t_token := t_token) (t_value := t_value) (t_winner := t_winner) (t_throwsOf := t_throwsOf) (t_handA := t_handA) (t_handB := t_handB) (t_fewestSo := t_fewestSo) (t_traced := t_traced) (t_now := t_now) (l1 := l1) (l3 := l3) (s0 := l2) (s1 := 0) hQ ih hR
      · refine z_ic1 hC dX9_sizeOf_26 ?_
        refine z_goto hC 31 dX9_sizeOf_27 (by decide) ?_
        refine z_sub (lv' := [(0, .ref a_t), (1, .int l1), (3, .int l3)]) [0, 1, 3] rfl ?_
        exact z_X9_sizeOf_31 hC hN (N := N) (a_t := a_t) (a_t_now := a_t_now) (a_t_kept := a_t_kept) (a_t_isKept := a_t_isKept) (a_t_acts := a_t_acts) (a_t_was := a_t_was) (a_t_lanes := a_t_lanes) (a_t_longs := a_t_longs) (a_t_isThere := a_t_isThere) (a_t_items := a_t_items) (a_t_copied := a_t_copied) (a_t_tape := a_t_tape) (a_t_readSorts := a_t_readSorts) (a_t_readHands := a_t_readHands) (a_t_inTurn := a_t_inTurn) (a_t_ends := a_t_ends) (a_t_bestHands := a_t_bestHands) (a_t_traces := a_t_traces) (t_manyActs := t_manyActs) (t_status := t_status) (t_tapeLong := t_tapeLong) (t_fault := t_fault) (t_tokenAt := t_tokenAt) (t_tokenLong := t_tokenLong) (t_token := t_token) (t_value := t_value) (t_winner := t_winner) (t_throwsOf := t_throwsOf) (t_handA := t_handA) (t_handB := t_handB) (t_fewestSo := t_fewestSo) (t_traced := t_traced) (t_now := t_now) (l1 := l1) (l3 := l3) (s0 := l2) (s1 := 1) hQ ih hR
set_option maxHeartbeats 4000000 in
set_option maxRecDepth 100000 in
theorem z_X9_sizeOf_0 {sK sV : Nat → Nat} {E : ZE} {cI cB cZ : ClassId} (hC : ZC E 4 cX9_sizeOf wsX9_sizeOf RX9 rmX9_sizeOf (some .int) (zty cI cB cZ)) (hN : ZN sK sV (zA E) (zs E)) {N : Nat} {a_t : Nat} {a_t_now : Nat} {a_t_kept : Nat} {a_t_isKept : Nat} {a_t_acts : Nat} {a_t_was : Nat} {a_t_lanes : Nat} {a_t_longs : Nat} {a_t_isThere : Nat} {a_t_items : Nat} {a_t_copied : Nat} {a_t_tape : Nat} {a_t_readSorts : Nat} {a_t_readHands : Nat} {a_t_inTurn : Nat} {a_t_ends : Nat} {a_t_bestHands : Nat} {a_t_traces : Nat} {t_manyActs : Int32} {t_status : Int32} {t_tapeLong : Int32} {t_fault : Int32} {t_tokenAt : Int32} {t_tokenLong : Int32} {t_token : Int32} {t_value : Int32} {t_winner : Int32} {t_throwsOf : Int32} {t_handA : Int32} {t_handB : Int32} {t_fewestSo : Int32} {t_traced : Int32} {t_now : (Nat → Int32)} {l1 : Int32} {rf : Int32} (hQ : ZQi E (zty cI cB cZ) rf [(a_t, .inr (9, [.ref a_t_now, .ref a_t_kept, .ref a_t_isKept, .ref a_t_acts, .int t_manyActs, .ref a_t_was, .int t_status, .ref a_t_lanes, .ref a_t_longs, .ref a_t_isThere, .ref a_t_items, .ref a_t_copied, .ref a_t_tape, .int t_tapeLong, .int t_fault, .int t_tokenAt, .int t_tokenLong, .int t_token, .int t_value, .ref a_t_readSorts, .ref a_t_readHands, .int t_winner, .int t_throwsOf, .int t_handA, .int t_handB, .ref a_t_inTurn, .ref a_t_ends, .ref a_t_bestHands, .int t_fewestSo, .ref a_t_traces, .int t_traced])), (a_t_now, .inl (cI, 27, .inl t_now))]) (hR : o_X9_sizeOf N t_now l1 = some rf) : Z E (0, 0) [(0, .ref a_t), (1, .int l1)] 0 [] [(a_t, .inr (9, [.ref a_t_now, .ref a_t_kept, .ref a_t_isKept, .ref a_t_acts, .int t_manyActs, .ref a_t_was, .int t_status, .ref a_t_lanes, .ref a_t_longs, .ref a_t_isThere, .ref a_t_items, .ref a_t_copied, .ref a_t_tape, .int t_tapeLong, .int t_fault, .int t_tokenAt, .int t_tokenLong, .int t_token, .int t_value, .ref a_t_readSorts, .ref a_t_readHands, .int t_winner, .int t_throwsOf, .int t_handA, .int t_handB, .ref a_t_inTurn, .ref a_t_ends, .ref a_t_bestHands, .int t_fewestSo, .ref a_t_traces, .int t_traced])), (a_t_now, .inl (cI, 27, .inl t_now))] := by
  rw [o_X9_sizeOf] at hR
  refine z_ic0 hC dX9_sizeOf_0 ?_
  refine z_istore_n hC [(2, .int 0), (0, .ref a_t), (1, .int l1)] dX9_sizeOf_1 rfl (by decide) rfl ?_
  refine z_ic0 hC dX9_sizeOf_2 ?_
  refine z_istore_n hC [(3, .int 0), (2, .int 0), (0, .ref a_t), (1, .int l1)] dX9_sizeOf_3 rfl (by decide) rfl ?_
  refine z_sub (lv' := [(0, .ref a_t), (1, .int l1), (2, .int 0), (3, .int 0)]) [2, 3, 1, 0] rfl ?_
  exact z_X9_sizeOf_4 hC hN (N := N) (a_t := a_t) (a_t_now := a_t_now) (a_t_kept := a_t_kept) (a_t_isKept := a_t_isKept) (a_t_acts := a_t_acts) (a_t_was := a_t_was) (a_t_lanes := a_t_lanes) (a_t_longs := a_t_longs) (a_t_isThere := a_t_isThere) (a_t_items := a_t_items) (a_t_copied := a_t_copied) (a_t_tape := a_t_tape) (a_t_readSorts := a_t_readSorts) (a_t_readHands := a_t_readHands) (a_t_inTurn := a_t_inTurn) (a_t_ends := a_t_ends) (a_t_bestHands := a_t_bestHands) (a_t_traces := a_t_traces) (t_manyActs := t_manyActs) (t_status := t_status) (t_tapeLong := t_tapeLong) (t_fault := t_fault) (t_tokenAt := t_tokenAt) (t_tokenLong := t_tokenLong) (t_token := t_token) (t_value := t_value) (t_winner := t_winner) (t_throwsOf := t_throwsOf) (t_handA := t_handA) (t_handB := t_handB) (t_fewestSo := t_fewestSo) (t_traced := t_traced) (t_now := t_now) (l1 := l1) hQ  N 0 0 hR
set_option maxHeartbeats 4000000 in
set_option maxRecDepth 100000 in
theorem c_X9_sizeOf {sK sV : Nat → Nat} {l : Launch} {D : va_G} {cI cB cZ : ClassId} {N : Nat} {a_t : Nat} {a_t_now : Nat} {a_t_kept : Nat} {a_t_isKept : Nat} {a_t_acts : Nat} {a_t_was : Nat} {a_t_lanes : Nat} {a_t_longs : Nat} {a_t_isThere : Nat} {a_t_items : Nat} {a_t_copied : Nat} {a_t_tape : Nat} {a_t_readSorts : Nat} {a_t_readHands : Nat} {a_t_inTurn : Nat} {a_t_ends : Nat} {a_t_bestHands : Nat} {a_t_traces : Nat} {t_manyActs : Int32} {t_status : Int32} {t_tapeLong : Int32} {t_fault : Int32} {t_tokenAt : Int32} {t_tokenLong : Int32} {t_token : Int32} {t_value : Int32} {t_winner : Int32} {t_throwsOf : Int32} {t_handA : Int32} {t_handB : Int32} {t_fewestSo : Int32} {t_traced : Int32} {t_now : (Nat → Int32)} {l1 : Int32} : ∀ R : Int32, o_X9_sizeOf N t_now l1 = some R → ZMi sK sV l yX9_sizeOf wsX9_sizeOf rmX9_sizeOf D (zty cI cB cZ) [.ref a_t, .int l1] [(a_t, .inr (9, [.ref a_t_now, .ref a_t_kept, .ref a_t_isKept, .ref a_t_acts, .int t_manyActs, .ref a_t_was, .int t_status, .ref a_t_lanes, .ref a_t_longs, .ref a_t_isThere, .ref a_t_items, .ref a_t_copied, .ref a_t_tape, .int t_tapeLong, .int t_fault, .int t_tokenAt, .int t_tokenLong, .int t_token, .int t_value, .ref a_t_readSorts, .ref a_t_readHands, .int t_winner, .int t_throwsOf, .int t_handA, .int t_handB, .ref a_t_inTurn, .ref a_t_ends, .ref a_t_bestHands, .int t_fewestSo, .ref a_t_traces, .int t_traced])), (a_t_now, .inl (cI, 27, .inl t_now))] R [(a_t, .inr (9, [.ref a_t_now, .ref a_t_kept, .ref a_t_isKept, .ref a_t_acts, .int t_manyActs, .ref a_t_was, .int t_status, .ref a_t_lanes, .ref a_t_longs, .ref a_t_isThere, .ref a_t_items, .ref a_t_copied, .ref a_t_tape, .int t_tapeLong, .int t_fault, .int t_tokenAt, .int t_tokenLong, .int t_token, .int t_value, .ref a_t_readSorts, .ref a_t_readHands, .int t_winner, .int t_throwsOf, .int t_handA, .int t_handB, .ref a_t_inTurn, .ref a_t_ends, .ref a_t_bestHands, .int t_fewestSo, .ref a_t_traces, .int t_traced])), (a_t_now, .inl (cI, 27, .inl t_now))] := by
  intro R hR
  refine zi_of (cc := cX9_sizeOf) (maxL := 4) (ret := (some .int)) (by decide) rfl (Nat.le_of_ble_eq_true rfl) (fun E hE1 hE2 hC hN hQ => ?_)
  subst hE1 hE2
  exact z_X9_sizeOf_0 hC hN (N := N) (a_t := a_t) (a_t_now := a_t_now) (a_t_kept := a_t_kept) (a_t_isKept := a_t_isKept) (a_t_acts := a_t_acts) (a_t_was := a_t_was) (a_t_lanes := a_t_lanes) (a_t_longs := a_t_longs) (a_t_isThere := a_t_isThere) (a_t_items := a_t_items) (a_t_copied := a_t_copied) (a_t_tape := a_t_tape) (a_t_readSorts := a_t_readSorts) (a_t_readHands := a_t_readHands) (a_t_inTurn := a_t_inTurn) (a_t_ends := a_t_ends) (a_t_bestHands := a_t_bestHands) (a_t_traces := a_t_traces) (t_manyActs := t_manyActs) (t_status := t_status) (t_tapeLong := t_tapeLong) (t_fault := t_fault) (t_tokenAt := t_tokenAt) (t_tokenLong := t_tokenLong) (t_token := t_token) (t_value := t_value) (t_winner := t_winner) (t_throwsOf := t_throwsOf) (t_handA := t_handA) (t_handB := t_handB) (t_fewestSo := t_fewestSo) (t_traced := t_traced) (t_now := t_now) (l1 := l1) hQ hR

/-! FistTrainsModel.leaders -/
abbrev rmX9_leaders : Room := { frames := 1, cells := 0, slots := 0, locals := 21 }
def o_X9_leaders_26 (N : Nat) (K4 : Int32 → Int32 → Option (Int32)) (t_now : (Nat → Int32)) (l2 : Int32) (s0 : Int32) (s1 : Int32) : Option (Int32) :=
  K4 (s0 + s1) (l2 + 1)
def o_X9_leaders_4 (N : Nat) (t_now : (Nat → Int32)) : Nat → Int32 → Int32 → Option (Int32)
  | 0 => fun _ _ => none
  | n + 1 => fun l1 l2 => 
    Option.bind (o_X9_players N t_now) (fun r6 =>
    if r6 ≤ l2 then
      some (l1)
    else
      Option.bind (o_X9_leads N t_now l2) (fun r15 =>
      if r15 = 0 then
        o_X9_leaders_26 N (o_X9_leaders_4 N t_now n) t_now l2 l1 0
      else
        o_X9_leaders_26 N (o_X9_leaders_4 N t_now n) t_now l2 l1 1))
def o_X9_leaders (N : Nat) (t_now : (Nat → Int32)) : Option (Int32) :=
  o_X9_leaders_4 N t_now N 0 0
set_option maxHeartbeats 4000000 in
set_option maxRecDepth 100000 in
theorem z_X9_leaders_26 {sK sV : Nat → Nat} {E : ZE} {cI cB cZ : ClassId} (hC : ZC E 3 cX9_leaders wsX9_leaders RX9 rmX9_leaders (some .int) (zty cI cB cZ)) (hN : ZN sK sV (zA E) (zs E)) {N : Nat} {a_t : Nat} {a_t_now : Nat} {a_t_kept : Nat} {a_t_isKept : Nat} {a_t_acts : Nat} {a_t_was : Nat} {a_t_lanes : Nat} {a_t_longs : Nat} {a_t_isThere : Nat} {a_t_items : Nat} {a_t_copied : Nat} {a_t_tape : Nat} {a_t_readSorts : Nat} {a_t_readHands : Nat} {a_t_inTurn : Nat} {a_t_ends : Nat} {a_t_bestHands : Nat} {a_t_traces : Nat} {t_manyActs : Int32} {t_status : Int32} {t_tapeLong : Int32} {t_fault : Int32} {t_tokenAt : Int32} {t_tokenLong : Int32} {t_token : Int32} {t_value : Int32} {t_winner : Int32} {t_throwsOf : Int32} {t_handA : Int32} {t_handB : Int32} {t_fewestSo : Int32} {t_traced : Int32} {t_now : (Nat → Int32)} {l2 : Int32} {s0 : Int32} {s1 : Int32} {K4 : Int32 → Int32 → Option (Int32)} {rf : Int32} (hQ : ZQi E (zty cI cB cZ) rf [(a_t, .inr (9, [.ref a_t_now, .ref a_t_kept, .ref a_t_isKept, .ref a_t_acts, .int t_manyActs, .ref a_t_was, .int t_status, .ref a_t_lanes, .ref a_t_longs, .ref a_t_isThere, .ref a_t_items, .ref a_t_copied, .ref a_t_tape, .int t_tapeLong, .int t_fault, .int t_tokenAt, .int t_tokenLong, .int t_token, .int t_value, .ref a_t_readSorts, .ref a_t_readHands, .int t_winner, .int t_throwsOf, .int t_handA, .int t_handB, .ref a_t_inTurn, .ref a_t_ends, .ref a_t_bestHands, .int t_fewestSo, .ref a_t_traces, .int t_traced])), (a_t_now, .inl (cI, 27, .inl t_now))]) (hK4 : ∀ (l1 : Int32) (l2 : Int32), K4 l1 l2 = some rf → Z E (0, 0) [(0, .ref a_t), (1, .int l1), (2, .int l2)] 4 [] [(a_t, .inr (9, [.ref a_t_now, .ref a_t_kept, .ref a_t_isKept, .ref a_t_acts, .int t_manyActs, .ref a_t_was, .int t_status, .ref a_t_lanes, .ref a_t_longs, .ref a_t_isThere, .ref a_t_items, .ref a_t_copied, .ref a_t_tape, .int t_tapeLong, .int t_fault, .int t_tokenAt, .int t_tokenLong, .int t_token, .int t_value, .ref a_t_readSorts, .ref a_t_readHands, .int t_winner, .int t_throwsOf, .int t_handA, .int t_handB, .ref a_t_inTurn, .ref a_t_ends, .ref a_t_bestHands, .int t_fewestSo, .ref a_t_traces, .int t_traced])), (a_t_now, .inl (cI, 27, .inl t_now))]) (hR : o_X9_leaders_26 N K4 t_now l2 s0 s1 = some rf) : Z E (0, 0) [(0, .ref a_t), (2, .int l2)] 26 [.int s1, .int s0] [(a_t, .inr (9, [.ref a_t_now, .ref a_t_kept, .ref a_t_isKept, .ref a_t_acts, .int t_manyActs, .ref a_t_was, .int t_status, .ref a_t_lanes, .ref a_t_longs, .ref a_t_isThere, .ref a_t_items, .ref a_t_copied, .ref a_t_tape, .int t_tapeLong, .int t_fault, .int t_tokenAt, .int t_tokenLong, .int t_token, .int t_value, .ref a_t_readSorts, .ref a_t_readHands, .int t_winner, .int t_throwsOf, .int t_handA, .int t_handB, .ref a_t_inTurn, .ref a_t_ends, .ref a_t_bestHands, .int t_fewestSo, .ref a_t_traces, .int t_traced])), (a_t_now, .inl (cI, 27, .inl t_now))] := by
  rw [o_X9_leaders_26] at hR
  refine z_iadd hC dX9_leaders_26 ?_
  refine z_istore_n hC [(1, .int (s0 + s1)), (0, .ref a_t), (2, .int l2)] dX9_leaders_27 rfl (by decide) rfl ?_
  refine z_iinc1 hC [(2, .int (l2 + 1)), (1, .int (s0 + s1)), (0, .ref a_t)] dX9_leaders_28 2 rfl (by decide) rfl ?_
  refine z_goto hC 4 dX9_leaders_31 (by decide) ?_
  refine z_sub (lv' := [(0, .ref a_t), (1, .int (s0 + s1)), (2, .int (l2 + 1))]) [2, 1, 0] rfl ?_
  exact hK4 (s0 + s1) (l2 + 1) hR
set_option maxHeartbeats 4000000 in
set_option maxRecDepth 100000 in
theorem z_X9_leaders_4 {sK sV : Nat → Nat} {E : ZE} {cI cB cZ : ClassId} (hC : ZC E 3 cX9_leaders wsX9_leaders RX9 rmX9_leaders (some .int) (zty cI cB cZ)) (hN : ZN sK sV (zA E) (zs E)) {N : Nat} {a_t : Nat} {a_t_now : Nat} {a_t_kept : Nat} {a_t_isKept : Nat} {a_t_acts : Nat} {a_t_was : Nat} {a_t_lanes : Nat} {a_t_longs : Nat} {a_t_isThere : Nat} {a_t_items : Nat} {a_t_copied : Nat} {a_t_tape : Nat} {a_t_readSorts : Nat} {a_t_readHands : Nat} {a_t_inTurn : Nat} {a_t_ends : Nat} {a_t_bestHands : Nat} {a_t_traces : Nat} {t_manyActs : Int32} {t_status : Int32} {t_tapeLong : Int32} {t_fault : Int32} {t_tokenAt : Int32} {t_tokenLong : Int32} {t_token : Int32} {t_value : Int32} {t_winner : Int32} {t_throwsOf : Int32} {t_handA : Int32} {t_handB : Int32} {t_fewestSo : Int32} {t_traced : Int32} {t_now : (Nat → Int32)} {rf : Int32} (hQ : ZQi E (zty cI cB cZ) rf [(a_t, .inr (9, [.ref a_t_now, .ref a_t_kept, .ref a_t_isKept, .ref a_t_acts, .int t_manyActs, .ref a_t_was, .int t_status, .ref a_t_lanes, .ref a_t_longs, .ref a_t_isThere, .ref a_t_items, .ref a_t_copied, .ref a_t_tape, .int t_tapeLong, .int t_fault, .int t_tokenAt, .int t_tokenLong, .int t_token, .int t_value, .ref a_t_readSorts, .ref a_t_readHands, .int t_winner, .int t_throwsOf, .int t_handA, .int t_handB, .ref a_t_inTurn, .ref a_t_ends, .ref a_t_bestHands, .int t_fewestSo, .ref a_t_traces, .int t_traced])), (a_t_now, .inl (cI, 27, .inl t_now))]) : ∀ (n : Nat) (l1 : Int32) (l2 : Int32), o_X9_leaders_4 N t_now n l1 l2 = some rf → Z E (0, 0) [(0, .ref a_t), (1, .int l1), (2, .int l2)] 4 [] [(a_t, .inr (9, [.ref a_t_now, .ref a_t_kept, .ref a_t_isKept, .ref a_t_acts, .int t_manyActs, .ref a_t_was, .int t_status, .ref a_t_lanes, .ref a_t_longs, .ref a_t_isThere, .ref a_t_items, .ref a_t_copied, .ref a_t_tape, .int t_tapeLong, .int t_fault, .int t_tokenAt, .int t_tokenLong, .int t_token, .int t_value, .ref a_t_readSorts, .ref a_t_readHands, .int t_winner, .int t_throwsOf, .int t_handA, .int t_handB, .ref a_t_inTurn, .ref a_t_ends, .ref a_t_bestHands, .int t_fewestSo, .ref a_t_traces, .int t_traced])), (a_t_now, .inl (cI, 27, .inl t_now))] := by
  intro n
  induction n with
  | zero =>
    intro l1 l2 hR
    cases hR
  | succ n ih =>
    intro l1 l2 hR
    rw [o_X9_leaders_4] at hR
    refine z_iload_n hC dX9_leaders_4 rfl 2 rfl ?_
    refine z_aload_n hC dX9_leaders_5 rfl 0 rfl ?_
    refine z_callVi_p hC hN [] [0, 1] (c_X9_players (l := zl E) (D := zD E) (cI := cI) (cB := cB) (cZ := cZ) (N := N) (a_t := a_t) (a_t_now := a_t_now) (a_t_kept := a_t_kept) (a_t_isKept := a_t_isKept) (a_t_acts := a_t_acts) (a_t_was := a_t_was) (a_t_lanes := a_t_lanes) (a_t_longs := a_t_longs) (a_t_isThere := a_t_isThere) (a_t_items := a_t_items) (a_t_copied := a_t_copied) (a_t_tape := a_t_tape) (a_t_readSorts := a_t_readSorts) (a_t_readHands := a_t_readHands) (a_t_inTurn := a_t_inTurn) (a_t_ends := a_t_ends) (a_t_bestHands := a_t_bestHands) (a_t_traces := a_t_traces) (t_manyActs := t_manyActs) (t_status := t_status) (t_tapeLong := t_tapeLong) (t_fault := t_fault) (t_tokenAt := t_tokenAt) (t_tokenLong := t_tokenLong) (t_token := t_token) (t_value := t_value) (t_winner := t_winner) (t_throwsOf := t_throwsOf) (t_handA := t_handA) (t_handB := t_handB) (t_fewestSo := t_fewestSo) (t_traced := t_traced) (t_now := t_now)) rfl ⟨rfl, rfl⟩ gX9_leaders_X9_players hvX9_players 0 9 rfl rfl rfl ⟨Nat.le_of_ble_eq_true rfl, Nat.le_of_ble_eq_true rfl⟩ ⟨Nat.zero_le _, Nat.zero_le _⟩ rfl (Nat.le_of_ble_eq_true rfl) rfl (by decide) dX9_leaders_6 hR (fun r6 hR => ?_)
    refine z_icmp_ge hC 34 dX9_leaders_9 (by decide) hR (fun hR => ?_) (fun hR => ?_)
    · refine z_iload_n hC dX9_leaders_34 rfl 1 rfl ?_
      obtain rfl := Option.some.inj hR
      exact z_iret hC hQ rfl rfl rfl dX9_leaders_35
    · refine z_iload_n hC dX9_leaders_12 rfl 1 rfl ?_
      refine z_aload_n hC dX9_leaders_13 rfl 0 rfl ?_
      refine z_iload_n hC dX9_leaders_14 rfl 2 rfl ?_
      refine z_callVi_p hC hN [.int l2] [0, 1] (c_X9_leads (l := zl E) (D := zD E) (cI := cI) (cB := cB) (cZ := cZ) (N := N) (a_t := a_t) (a_t_now := a_t_now) (a_t_kept := a_t_kept) (a_t_isKept := a_t_isKept) (a_t_acts := a_t_acts) (a_t_was := a_t_was) (a_t_lanes := a_t_lanes) (a_t_longs := a_t_longs) (a_t_isThere := a_t_isThere) (a_t_items := a_t_items) (a_t_copied := a_t_copied) (a_t_tape := a_t_tape) (a_t_readSorts := a_t_readSorts) (a_t_readHands := a_t_readHands) (a_t_inTurn := a_t_inTurn) (a_t_ends := a_t_ends) (a_t_bestHands := a_t_bestHands) (a_t_traces := a_t_traces) (l1 := l2) (t_manyActs := t_manyActs) (t_status := t_status) (t_tapeLong := t_tapeLong) (t_fault := t_fault) (t_tokenAt := t_tokenAt) (t_tokenLong := t_tokenLong) (t_token := t_token) (t_value := t_value) (t_winner := t_winner) (t_throwsOf := t_throwsOf) (t_handA := t_handA) (t_handB := t_handB) (t_fewestSo := t_fewestSo) (t_traced := t_traced) (t_now := t_now)) rfl ⟨rfl, rfl⟩ gX9_leaders_X9_leads hvX9_leads 0 9 rfl rfl rfl ⟨Nat.le_of_ble_eq_true rfl, Nat.le_of_ble_eq_true rfl⟩ ⟨Nat.zero_le _, Nat.zero_le _⟩ rfl (Nat.le_of_ble_eq_true rfl) rfl (by decide) dX9_leaders_15 hR (fun r15 hR => ?_)
      refine z_if_eq hC 25 dX9_leaders_18 (by decide) hR (fun hR => ?_) (fun hR => ?_)
      · refine z_ic0 hC dX9_leaders_25 ?_
        refine z_sub (lv' := [(0, .ref a_t), (2, .int l2)]) [0, 2] rfl ?_
        exact z_X9_leaders_26 hC hN (N := N) (a_t := a_t) (a_t_now := a_t_now) (a_t_kept := a_t_kept) (a_t_isKept := a_t_isKept) (a_t_acts := a_t_acts) (a_t_was := a_t_was) (a_t_lanes := a_t_lanes) (a_t_longs := a_t_longs) (a_t_isThere := a_t_isThere) (a_t_items := a_t_items) (a_t_copied := a_t_copied) (a_t_tape := a_t_tape) (a_t_readSorts := a_t_readSorts) (a_t_readHands := a_t_readHands) (a_t_inTurn := a_t_inTurn) (a_t_ends := a_t_ends) (a_t_bestHands := a_t_bestHands) (a_t_traces := a_t_traces) (t_manyActs := t_manyActs) (t_status := t_status) (t_tapeLong := t_tapeLong) (t_fault := t_fault) (t_tokenAt := t_tokenAt) (t_tokenLong := t_tokenLong) (t_token := t_token) (t_value := t_value) (t_winner := t_winner) (t_throwsOf := t_throwsOf) (t_handA := t_handA) (t_handB := t_handB) (t_fewestSo := t_fewestSo) (t_traced := t_traced) (t_now := t_now) (l2 := l2) (s0 := l1) (s1 := 0) hQ ih hR
      · refine z_ic1 hC dX9_leaders_21 ?_
        refine z_goto hC 26 dX9_leaders_22 (by decide) ?_
        refine z_sub (lv' := [(0, .ref a_t), (2, .int l2)]) [0, 2] rfl ?_
        exact z_X9_leaders_26 hC hN (N := N) (a_t := a_t) (a_t_now := a_t_now) (a_t_kept := a_t_kept) (a_t_isKept := a_t_isKept) (a_t_acts := a_t_acts) (a_t_was := a_t_was) (a_t_lanes := a_t_lanes) (a_t_longs := a_t_longs) (a_t_isThere := a_t_isThere) (a_t_items := a_t_items) (a_t_copied := a_t_copied) (a_t_tape := a_t_tape) (a_t_readSorts := a_t_readSorts) (a_t_readHands := a_t_readHands) (a_t_inTurn := a_t_inTurn) (a_t_ends := a_t_ends) (a_t_bestHands := a_t_bestHands) (a_t_traces := a_t_traces) (t_manyActs := t_manyActs) (t_status := t_status) (t_tapeLong := t_tapeLong) (t_fault := t_fault) (t_tokenAt := t_tokenAt) (t_tokenLong := t_tokenLong) (t_token := t_token) (t_value := t_value) (t_winner := t_winner) (t_throwsOf := t_throwsOf) (t_handA := t_handA) (t_handB := t_handB) (t_fewestSo := t_fewestSo) (t_traced := t_traced) (t_now := t_now) (l2 := l2) (s0 := l1) (s1 := 1) hQ ih hR
set_option maxHeartbeats 4000000 in
set_option maxRecDepth 100000 in
theorem z_X9_leaders_0 {sK sV : Nat → Nat} {E : ZE} {cI cB cZ : ClassId} (hC : ZC E 3 cX9_leaders wsX9_leaders RX9 rmX9_leaders (some .int) (zty cI cB cZ)) (hN : ZN sK sV (zA E) (zs E)) {N : Nat} {a_t : Nat} {a_t_now : Nat} {a_t_kept : Nat} {a_t_isKept : Nat} {a_t_acts : Nat} {a_t_was : Nat} {a_t_lanes : Nat} {a_t_longs : Nat} {a_t_isThere : Nat} {a_t_items : Nat} {a_t_copied : Nat} {a_t_tape : Nat} {a_t_readSorts : Nat} {a_t_readHands : Nat} {a_t_inTurn : Nat} {a_t_ends : Nat} {a_t_bestHands : Nat} {a_t_traces : Nat} {t_manyActs : Int32} {t_status : Int32} {t_tapeLong : Int32} {t_fault : Int32} {t_tokenAt : Int32} {t_tokenLong : Int32} {t_token : Int32} {t_value : Int32} {t_winner : Int32} {t_throwsOf : Int32} {t_handA : Int32} {t_handB : Int32} {t_fewestSo : Int32} {t_traced : Int32} {t_now : (Nat → Int32)} {rf : Int32} (hQ : ZQi E (zty cI cB cZ) rf [(a_t, .inr (9, [.ref a_t_now, .ref a_t_kept, .ref a_t_isKept, .ref a_t_acts, .int t_manyActs, .ref a_t_was, .int t_status, .ref a_t_lanes, .ref a_t_longs, .ref a_t_isThere, .ref a_t_items, .ref a_t_copied, .ref a_t_tape, .int t_tapeLong, .int t_fault, .int t_tokenAt, .int t_tokenLong, .int t_token, .int t_value, .ref a_t_readSorts, .ref a_t_readHands, .int t_winner, .int t_throwsOf, .int t_handA, .int t_handB, .ref a_t_inTurn, .ref a_t_ends, .ref a_t_bestHands, .int t_fewestSo, .ref a_t_traces, .int t_traced])), (a_t_now, .inl (cI, 27, .inl t_now))]) (hR : o_X9_leaders N t_now = some rf) : Z E (0, 0) [(0, .ref a_t)] 0 [] [(a_t, .inr (9, [.ref a_t_now, .ref a_t_kept, .ref a_t_isKept, .ref a_t_acts, .int t_manyActs, .ref a_t_was, .int t_status, .ref a_t_lanes, .ref a_t_longs, .ref a_t_isThere, .ref a_t_items, .ref a_t_copied, .ref a_t_tape, .int t_tapeLong, .int t_fault, .int t_tokenAt, .int t_tokenLong, .int t_token, .int t_value, .ref a_t_readSorts, .ref a_t_readHands, .int t_winner, .int t_throwsOf, .int t_handA, .int t_handB, .ref a_t_inTurn, .ref a_t_ends, .ref a_t_bestHands, .int t_fewestSo, .ref a_t_traces, .int t_traced])), (a_t_now, .inl (cI, 27, .inl t_now))] := by
  rw [o_X9_leaders] at hR
  refine z_ic0 hC dX9_leaders_0 ?_
  refine z_istore_n hC [(1, .int 0), (0, .ref a_t)] dX9_leaders_1 rfl (by decide) rfl ?_
  refine z_ic0 hC dX9_leaders_2 ?_
  refine z_istore_n hC [(2, .int 0), (1, .int 0), (0, .ref a_t)] dX9_leaders_3 rfl (by decide) rfl ?_
  refine z_sub (lv' := [(0, .ref a_t), (1, .int 0), (2, .int 0)]) [2, 1, 0] rfl ?_
  exact z_X9_leaders_4 hC hN (N := N) (a_t := a_t) (a_t_now := a_t_now) (a_t_kept := a_t_kept) (a_t_isKept := a_t_isKept) (a_t_acts := a_t_acts) (a_t_was := a_t_was) (a_t_lanes := a_t_lanes) (a_t_longs := a_t_longs) (a_t_isThere := a_t_isThere) (a_t_items := a_t_items) (a_t_copied := a_t_copied) (a_t_tape := a_t_tape) (a_t_readSorts := a_t_readSorts) (a_t_readHands := a_t_readHands) (a_t_inTurn := a_t_inTurn) (a_t_ends := a_t_ends) (a_t_bestHands := a_t_bestHands) (a_t_traces := a_t_traces) (t_manyActs := t_manyActs) (t_status := t_status) (t_tapeLong := t_tapeLong) (t_fault := t_fault) (t_tokenAt := t_tokenAt) (t_tokenLong := t_tokenLong) (t_token := t_token) (t_value := t_value) (t_winner := t_winner) (t_throwsOf := t_throwsOf) (t_handA := t_handA) (t_handB := t_handB) (t_fewestSo := t_fewestSo) (t_traced := t_traced) (t_now := t_now) hQ  N 0 0 hR
set_option maxHeartbeats 4000000 in
set_option maxRecDepth 100000 in
theorem c_X9_leaders {sK sV : Nat → Nat} {l : Launch} {D : va_G} {cI cB cZ : ClassId} {N : Nat} {a_t : Nat} {a_t_now : Nat} {a_t_kept : Nat} {a_t_isKept : Nat} {a_t_acts : Nat} {a_t_was : Nat} {a_t_lanes : Nat} {a_t_longs : Nat} {a_t_isThere : Nat} {a_t_items : Nat} {a_t_copied : Nat} {a_t_tape : Nat} {a_t_readSorts : Nat} {a_t_readHands : Nat} {a_t_inTurn : Nat} {a_t_ends : Nat} {a_t_bestHands : Nat} {a_t_traces : Nat} {t_manyActs : Int32} {t_status : Int32} {t_tapeLong : Int32} {t_fault : Int32} {t_tokenAt : Int32} {t_tokenLong : Int32} {t_token : Int32} {t_value : Int32} {t_winner : Int32} {t_throwsOf : Int32} {t_handA : Int32} {t_handB : Int32} {t_fewestSo : Int32} {t_traced : Int32} {t_now : (Nat → Int32)} : ∀ R : Int32, o_X9_leaders N t_now = some R → ZMi sK sV l yX9_leaders wsX9_leaders rmX9_leaders D (zty cI cB cZ) [.ref a_t] [(a_t, .inr (9, [.ref a_t_now, .ref a_t_kept, .ref a_t_isKept, .ref a_t_acts, .int t_manyActs, .ref a_t_was, .int t_status, .ref a_t_lanes, .ref a_t_longs, .ref a_t_isThere, .ref a_t_items, .ref a_t_copied, .ref a_t_tape, .int t_tapeLong, .int t_fault, .int t_tokenAt, .int t_tokenLong, .int t_token, .int t_value, .ref a_t_readSorts, .ref a_t_readHands, .int t_winner, .int t_throwsOf, .int t_handA, .int t_handB, .ref a_t_inTurn, .ref a_t_ends, .ref a_t_bestHands, .int t_fewestSo, .ref a_t_traces, .int t_traced])), (a_t_now, .inl (cI, 27, .inl t_now))] R [(a_t, .inr (9, [.ref a_t_now, .ref a_t_kept, .ref a_t_isKept, .ref a_t_acts, .int t_manyActs, .ref a_t_was, .int t_status, .ref a_t_lanes, .ref a_t_longs, .ref a_t_isThere, .ref a_t_items, .ref a_t_copied, .ref a_t_tape, .int t_tapeLong, .int t_fault, .int t_tokenAt, .int t_tokenLong, .int t_token, .int t_value, .ref a_t_readSorts, .ref a_t_readHands, .int t_winner, .int t_throwsOf, .int t_handA, .int t_handB, .ref a_t_inTurn, .ref a_t_ends, .ref a_t_bestHands, .int t_fewestSo, .ref a_t_traces, .int t_traced])), (a_t_now, .inl (cI, 27, .inl t_now))] := by
  intro R hR
  refine zi_of (cc := cX9_leaders) (maxL := 3) (ret := (some .int)) (by decide) rfl (Nat.le_of_ble_eq_true rfl) (fun E hE1 hE2 hC hN hQ => ?_)
  subst hE1 hE2
  exact z_X9_leaders_0 hC hN (N := N) (a_t := a_t) (a_t_now := a_t_now) (a_t_kept := a_t_kept) (a_t_isKept := a_t_isKept) (a_t_acts := a_t_acts) (a_t_was := a_t_was) (a_t_lanes := a_t_lanes) (a_t_longs := a_t_longs) (a_t_isThere := a_t_isThere) (a_t_items := a_t_items) (a_t_copied := a_t_copied) (a_t_tape := a_t_tape) (a_t_readSorts := a_t_readSorts) (a_t_readHands := a_t_readHands) (a_t_inTurn := a_t_inTurn) (a_t_ends := a_t_ends) (a_t_bestHands := a_t_bestHands) (a_t_traces := a_t_traces) (t_manyActs := t_manyActs) (t_status := t_status) (t_tapeLong := t_tapeLong) (t_fault := t_fault) (t_tokenAt := t_tokenAt) (t_tokenLong := t_tokenLong) (t_token := t_token) (t_value := t_value) (t_winner := t_winner) (t_throwsOf := t_throwsOf) (t_handA := t_handA) (t_handB := t_handB) (t_fewestSo := t_fewestSo) (t_traced := t_traced) (t_now := t_now) hQ hR

/-! FistTrainsModel.next -/
abbrev rmX9_next : Room := { frames := 0, cells := 0, slots := 0, locals := 0 }
def o_X9_next (N : Nat) (l0 : Int32) : Option (Int32) :=
  some (((l0 + 1) - (l0 + 1) / 3 * 3))
set_option maxHeartbeats 4000000 in
set_option maxRecDepth 100000 in
theorem z_X9_next_0 {sK sV : Nat → Nat} {E : ZE} {cI cB cZ : ClassId} (hC : ZC E 1 cX9_next wsX9_next RX9 rmX9_next (some .int) (zty cI cB cZ)) (hN : ZN sK sV (zA E) (zs E)) {N : Nat} {l0 : Int32} {rf : Int32} (hQ : ZQi E (zty cI cB cZ) rf []) (hR : o_X9_next N l0 = some rf) : Z E (0, 0) [(0, .int l0)] 0 [] [] := by
  rw [o_X9_next] at hR
  refine z_iload_n hC dX9_next_0 rfl 0 rfl ?_
  refine z_ic1 hC dX9_next_1 ?_
  refine z_iadd hC dX9_next_2 ?_
  refine z_ic3 hC dX9_next_3 ?_
  refine z_iremK hC dX9_next_4 (by decide) ?_
  obtain rfl := Option.some.inj hR
  exact z_iret hC hQ rfl rfl rfl dX9_next_5
set_option maxHeartbeats 4000000 in
set_option maxRecDepth 100000 in
theorem c_X9_next {sK sV : Nat → Nat} {l : Launch} {D : va_G} {cI cB cZ : ClassId} {N : Nat} {l0 : Int32} : ∀ R : Int32, o_X9_next N l0 = some R → ZMi sK sV l yX9_next wsX9_next rmX9_next D (zty cI cB cZ) [.int l0] [] R [] := by
  intro R hR
  refine zi_of (cc := cX9_next) (maxL := 1) (ret := (some .int)) (by decide) rfl (Nat.le_of_ble_eq_true rfl) (fun E hE1 hE2 hC hN hQ => ?_)
  subst hE1 hE2
  exact z_X9_next_0 hC hN (N := N) (l0 := l0) hQ hR

/-! FistTrainsModel.behindTie -/
abbrev rmX9_behindTie : Room := { frames := 1, cells := 0, slots := 0, locals := 20 }
set_option maxRecDepth 20000 in
theorem iX9_behindTie_X9 : ∀ w ∈ wsX90, w ∈ wsX9_behindTie := by decide +kernel
set_option maxRecDepth 20000 in
theorem mX9_behindTie_1 : Cond.fieldLink RX9 7 "FistTrainsModel" "now" "[I" ∈ wsX9_behindTie := List.mem_of_getElem? (i := 1) rfl
def o_X9_behindTie (N : Nat) (t_now : (Nat → Int32)) (l1 : Int32) (l2 : Int32) : Option (Int32) :=
  ogd (inb (1 + l1) 27) (
  Option.bind (o_X9_next N l2) (fun r10 =>
  if (t_now (Int32.toNatClampNeg (1 + l1))) = 2 then
    some (l2)
  else
    if (t_now (Int32.toNatClampNeg (1 + l1))) = 3 then
      if r10 = 2 then
        some (0)
      else
        some (r10)
    else
      some (r10)))
set_option maxHeartbeats 4000000 in
set_option maxRecDepth 100000 in
theorem z_X9_behindTie_0 {sK sV : Nat → Nat} {E : ZE} {cI cB cZ : ClassId} (hC : ZC E 5 cX9_behindTie wsX9_behindTie RX9 rmX9_behindTie (some .int) (zty cI cB cZ)) (hN : ZN sK sV (zA E) (zs E)) {N : Nat} {a_t : Nat} {a_t_now : Nat} {a_t_kept : Nat} {a_t_isKept : Nat} {a_t_acts : Nat} {a_t_was : Nat} {a_t_lanes : Nat} {a_t_longs : Nat} {a_t_isThere : Nat} {a_t_items : Nat} {a_t_copied : Nat} {a_t_tape : Nat} {a_t_readSorts : Nat} {a_t_readHands : Nat} {a_t_inTurn : Nat} {a_t_ends : Nat} {a_t_bestHands : Nat} {a_t_traces : Nat} {t_manyActs : Int32} {t_status : Int32} {t_tapeLong : Int32} {t_fault : Int32} {t_tokenAt : Int32} {t_tokenLong : Int32} {t_token : Int32} {t_value : Int32} {t_winner : Int32} {t_throwsOf : Int32} {t_handA : Int32} {t_handB : Int32} {t_fewestSo : Int32} {t_traced : Int32} {t_now : (Nat → Int32)} {l1 : Int32} {l2 : Int32} {rf : Int32} (hQ : ZQi E (zty cI cB cZ) rf [(a_t, .inr (9, [.ref a_t_now, .ref a_t_kept, .ref a_t_isKept, .ref a_t_acts, .int t_manyActs, .ref a_t_was, .int t_status, .ref a_t_lanes, .ref a_t_longs, .ref a_t_isThere, .ref a_t_items, .ref a_t_copied, .ref a_t_tape, .int t_tapeLong, .int t_fault, .int t_tokenAt, .int t_tokenLong, .int t_token, .int t_value, .ref a_t_readSorts, .ref a_t_readHands, .int t_winner, .int t_throwsOf, .int t_handA, .int t_handB, .ref a_t_inTurn, .ref a_t_ends, .ref a_t_bestHands, .int t_fewestSo, .ref a_t_traces, .int t_traced])), (a_t_now, .inl (cI, 27, .inl t_now))]) (hR : o_X9_behindTie N t_now l1 l2 = some rf) : Z E (0, 0) [(0, .ref a_t), (1, .int l1), (2, .int l2)] 0 [] [(a_t, .inr (9, [.ref a_t_now, .ref a_t_kept, .ref a_t_isKept, .ref a_t_acts, .int t_manyActs, .ref a_t_was, .int t_status, .ref a_t_lanes, .ref a_t_longs, .ref a_t_isThere, .ref a_t_items, .ref a_t_copied, .ref a_t_tape, .int t_tapeLong, .int t_fault, .int t_tokenAt, .int t_tokenLong, .int t_token, .int t_value, .ref a_t_readSorts, .ref a_t_readHands, .int t_winner, .int t_throwsOf, .int t_handA, .int t_handB, .ref a_t_inTurn, .ref a_t_ends, .ref a_t_bestHands, .int t_fewestSo, .ref a_t_traces, .int t_traced])), (a_t_now, .inl (cI, 27, .inl t_now))] := by
  rw [o_X9_behindTie] at hR
  refine z_aload_n hC dX9_behindTie_0 rfl 0 rfl ?_
  refine z_get hC iX9_behindTie_X9 rfl 0 0 rfl (by decide) mX9_behindTie_1 rfl rfl dX9_behindTie_1 ?_
  refine z_ic1 hC dX9_behindTie_4 ?_
  refine z_iload_n hC dX9_behindTie_5 rfl 1 rfl ?_
  refine z_iadd hC dX9_behindTie_6 ?_
  refine z_iald hC 1 0 rfl rfl dX9_behindTie_7 hR (fun hR => ?_)
  refine z_istore_n hC [(3, .int (t_now (Int32.toNatClampNeg (1 + l1)))), (0, .ref a_t), (1, .int l1), (2, .int l2)] dX9_behindTie_8 rfl (by decide) rfl ?_
  refine z_iload_n hC dX9_behindTie_9 rfl 3 rfl ?_
  refine z_callSi_p hC hN [.int l2] [] (c_X9_next (l := zl E) (D := zD E) (cI := cI) (cB := cB) (cZ := cZ) (N := N) (l0 := l2)) rfl ⟨rfl, rfl⟩ gX9_behindTie_X9_next hsX9_next ⟨Nat.le_of_ble_eq_true rfl, Nat.le_of_ble_eq_true rfl⟩ ⟨Nat.zero_le _, Nat.zero_le _⟩ rfl (Nat.le_of_ble_eq_true rfl) rfl (by decide) dX9_behindTie_10 hR (fun r10 hR => ?_)
  refine z_istore hC [(4, .int r10), (3, .int (t_now (Int32.toNatClampNeg (1 + l1)))), (0, .ref a_t), (1, .int l1), (2, .int l2)] dX9_behindTie_13 (by decide) rfl ?_
  refine z_iload_n hC dX9_behindTie_15 rfl 1 rfl ?_
  refine z_ic2 hC dX9_behindTie_16 ?_
  refine z_icmp_ne hC 24 dX9_behindTie_17 (by decide) hR (fun hR => ?_) (fun hR => ?_)
  · refine z_iload_n hC dX9_behindTie_24 rfl 1 rfl ?_
    refine z_ic3 hC dX9_behindTie_25 ?_
    refine z_icmp_ne hC 39 dX9_behindTie_26 (by decide) hR (fun hR => ?_) (fun hR => ?_)
    · refine z_iload hC dX9_behindTie_39 0 rfl ?_
      obtain rfl := Option.some.inj hR
      exact z_iret hC hQ rfl rfl rfl dX9_behindTie_41
    · refine z_iload hC dX9_behindTie_29 0 rfl ?_
      refine z_ic2 hC dX9_behindTie_31 ?_
      refine z_icmp_ne hC 39 dX9_behindTie_32 (by decide) hR (fun hR => ?_) (fun hR => ?_)
      · refine z_iload hC dX9_behindTie_39 0 rfl ?_
        obtain rfl := Option.some.inj hR
        exact z_iret hC hQ rfl rfl rfl dX9_behindTie_41
      · refine z_ic0 hC dX9_behindTie_35 ?_
        refine z_goto hC 41 dX9_behindTie_36 (by decide) ?_
        obtain rfl := Option.some.inj hR
        exact z_iret hC hQ rfl rfl rfl dX9_behindTie_41
  · refine z_iload_n hC dX9_behindTie_20 rfl 4 rfl ?_
    refine z_goto hC 41 dX9_behindTie_21 (by decide) ?_
    obtain rfl := Option.some.inj hR
    exact z_iret hC hQ rfl rfl rfl dX9_behindTie_41
set_option maxHeartbeats 4000000 in
set_option maxRecDepth 100000 in
theorem c_X9_behindTie {sK sV : Nat → Nat} {l : Launch} {D : va_G} {cI cB cZ : ClassId} {N : Nat} {a_t : Nat} {a_t_now : Nat} {a_t_kept : Nat} {a_t_isKept : Nat} {a_t_acts : Nat} {a_t_was : Nat} {a_t_lanes : Nat} {a_t_longs : Nat} {a_t_isThere : Nat} {a_t_items : Nat} {a_t_copied : Nat} {a_t_tape : Nat} {a_t_readSorts : Nat} {a_t_readHands : Nat} {a_t_inTurn : Nat} {a_t_ends : Nat} {a_t_bestHands : Nat} {a_t_traces : Nat} {t_manyActs : Int32} {t_status : Int32} {t_tapeLong : Int32} {t_fault : Int32} {t_tokenAt : Int32} {t_tokenLong : Int32} {t_token : Int32} {t_value : Int32} {t_winner : Int32} {t_throwsOf : Int32} {t_handA : Int32} {t_handB : Int32} {t_fewestSo : Int32} {t_traced : Int32} {t_now : (Nat → Int32)} {l1 : Int32} {l2 : Int32} : ∀ R : Int32, o_X9_behindTie N t_now l1 l2 = some R → ZMi sK sV l yX9_behindTie wsX9_behindTie rmX9_behindTie D (zty cI cB cZ) [.ref a_t, .int l1, .int l2] [(a_t, .inr (9, [.ref a_t_now, .ref a_t_kept, .ref a_t_isKept, .ref a_t_acts, .int t_manyActs, .ref a_t_was, .int t_status, .ref a_t_lanes, .ref a_t_longs, .ref a_t_isThere, .ref a_t_items, .ref a_t_copied, .ref a_t_tape, .int t_tapeLong, .int t_fault, .int t_tokenAt, .int t_tokenLong, .int t_token, .int t_value, .ref a_t_readSorts, .ref a_t_readHands, .int t_winner, .int t_throwsOf, .int t_handA, .int t_handB, .ref a_t_inTurn, .ref a_t_ends, .ref a_t_bestHands, .int t_fewestSo, .ref a_t_traces, .int t_traced])), (a_t_now, .inl (cI, 27, .inl t_now))] R [(a_t, .inr (9, [.ref a_t_now, .ref a_t_kept, .ref a_t_isKept, .ref a_t_acts, .int t_manyActs, .ref a_t_was, .int t_status, .ref a_t_lanes, .ref a_t_longs, .ref a_t_isThere, .ref a_t_items, .ref a_t_copied, .ref a_t_tape, .int t_tapeLong, .int t_fault, .int t_tokenAt, .int t_tokenLong, .int t_token, .int t_value, .ref a_t_readSorts, .ref a_t_readHands, .int t_winner, .int t_throwsOf, .int t_handA, .int t_handB, .ref a_t_inTurn, .ref a_t_ends, .ref a_t_bestHands, .int t_fewestSo, .ref a_t_traces, .int t_traced])), (a_t_now, .inl (cI, 27, .inl t_now))] := by
  intro R hR
  refine zi_of (cc := cX9_behindTie) (maxL := 5) (ret := (some .int)) (by decide) rfl (Nat.le_of_ble_eq_true rfl) (fun E hE1 hE2 hC hN hQ => ?_)
  subst hE1 hE2
  exact z_X9_behindTie_0 hC hN (N := N) (a_t := a_t) (a_t_now := a_t_now) (a_t_kept := a_t_kept) (a_t_isKept := a_t_isKept) (a_t_acts := a_t_acts) (a_t_was := a_t_was) (a_t_lanes := a_t_lanes) (a_t_longs := a_t_longs) (a_t_isThere := a_t_isThere) (a_t_items := a_t_items) (a_t_copied := a_t_copied) (a_t_tape := a_t_tape) (a_t_readSorts := a_t_readSorts) (a_t_readHands := a_t_readHands) (a_t_inTurn := a_t_inTurn) (a_t_ends := a_t_ends) (a_t_bestHands := a_t_bestHands) (a_t_traces := a_t_traces) (t_manyActs := t_manyActs) (t_status := t_status) (t_tapeLong := t_tapeLong) (t_fault := t_fault) (t_tokenAt := t_tokenAt) (t_tokenLong := t_tokenLong) (t_token := t_token) (t_value := t_value) (t_winner := t_winner) (t_throwsOf := t_throwsOf) (t_handA := t_handA) (t_handB := t_handB) (t_fewestSo := t_fewestSo) (t_traced := t_traced) (t_now := t_now) (l1 := l1) (l2 := l2) hQ hR

/-! FistTrainsModel.play -/
abbrev rmX9_play : Room := { frames := 2, cells := 0, slots := 0, locals := 44 }
set_option maxRecDepth 20000 in
theorem iX9_play_X9 : ∀ w ∈ wsX90, w ∈ wsX9_play := by decide +kernel
set_option maxRecDepth 20000 in
theorem mX9_play_1 : Cond.fieldLink RX9 7 "FistTrainsModel" "now" "[I" ∈ wsX9_play := List.mem_of_getElem? (i := 1) rfl
set_option maxRecDepth 20000 in
theorem mX9_play_3 : Cond.fieldLink RX9 186 "FistTrainsModel" "handB" "I" ∈ wsX9_play := List.mem_of_getElem? (i := 3) rfl
set_option maxRecDepth 20000 in
theorem mX9_play_4 : Cond.fieldLink RX9 189 "FistTrainsModel" "throwsOf" "I" ∈ wsX9_play := List.mem_of_getElem? (i := 4) rfl
set_option maxRecDepth 20000 in
theorem mX9_play_2 : Cond.fieldLink RX9 183 "FistTrainsModel" "handA" "I" ∈ wsX9_play := List.mem_of_getElem? (i := 2) rfl
set_option maxRecDepth 20000 in
theorem mX9_play_5 : Cond.fieldLink RX9 199 "FistTrainsModel" "winner" "I" ∈ wsX9_play := List.mem_of_getElem? (i := 5) rfl
def o_X9_play_185 (N : Nat) (t_throwsOf : Int32) (t_handA : Int32) (t_handB : Int32) (l1 : Int32) (l2 : Int32) (s0 : Int32) : Option (Int32 × Int32 × Int32 × Int32) :=
  Option.bind (o_X9_next N t_handB) (fun r196 =>
  if t_handA = r196 then
    some (l1, t_throwsOf, t_handA, t_handB)
  else
    Option.bind (o_X9_next N t_handA) (fun r214 =>
    if t_handB = r214 then
      some (l2, t_throwsOf, t_handA, t_handB)
    else
      some (s0, t_throwsOf, t_handA, t_handB)))
def o_X9_play_147 (N : Nat) (t_throwsOf : Int32) (t_handA : Int32) (t_handB : Int32) (t_now : (Nat → Int32)) (l1 : Int32) (l2 : Int32) (s0 : Int32) : Option (Int32 × Int32 × Int32 × Int32) :=
  Option.bind (o_X9_sizeOf N t_now l1) (fun r151 =>
  Option.bind (o_X9_sizeOf N t_now l2) (fun r156 =>
  if r151 ≤ r156 then
    Option.bind (o_X9_sizeOf N t_now l2) (fun r168 =>
    Option.bind (o_X9_sizeOf N t_now l1) (fun r173 =>
    if r168 ≤ r173 then
      o_X9_play_185 N t_throwsOf t_handA t_handB l1 l2 s0
    else
      o_X9_play_185 N t_throwsOf t_handA t_handB l1 l2 l2))
  else
    o_X9_play_185 N t_throwsOf t_handA t_handB l1 l2 l1))
def o_X9_play_137 (N : Nat) (t_throwsOf : Int32) (t_handA : Int32) (t_handB : Int32) (t_now : (Nat → Int32)) (l1 : Int32) (l2 : Int32) : Option (Int32 × Int32 × Int32 × Int32) :=
  if l2 ≤ l1 then
    o_X9_play_147 N t_throwsOf t_handA t_handB t_now l1 l2 l2
  else
    o_X9_play_147 N t_throwsOf t_handA t_handB t_now l1 l2 l1
def o_X9_play_76 (N : Nat) (t_now : (Nat → Int32)) (l1 : Int32) (l2 : Int32) : Nat → Int32 → Int32 → Int32 → Option (Int32 × Int32 × Int32 × Int32)
  | 0 => fun _ _ _ => none
  | n + 1 => fun t_throwsOf t_handA t_handB => 
    if t_handA = t_handB then
      if 9 ≤ t_throwsOf then
        o_X9_play_137 N t_throwsOf t_handA t_handB t_now l1 l2
      else
        Option.bind (o_X9_behindTie N t_now l1 t_handA) (fun r107 =>
        Option.bind (o_X9_behindTie N t_now l2 t_handA) (fun r118 =>
        o_X9_play_76 N t_now l1 l2 n (t_throwsOf + 1) r107 r118))
    else
      o_X9_play_137 N t_throwsOf t_handA t_handB t_now l1 l2
def o_X9_play_68 (N : Nat) (t_handA : Int32) (t_now : (Nat → Int32)) (l1 : Int32) (l2 : Int32) (s1 : Int32) : Option (Int32 × Int32 × Int32 × Int32) :=
  o_X9_play_76 N t_now l1 l2 N 1 t_handA s1
def o_X9_play_43 (N : Nat) (t_now : (Nat → Int32)) (l1 : Int32) (l2 : Int32) (l3 : Int32) (l4 : Int32) (s1 : Int32) : Option (Int32 × Int32 × Int32 × Int32) :=
  ogd (inb (1 + l2) 27) (
  if (t_now (Int32.toNatClampNeg (1 + l2))) = 5 then
    Option.bind (o_X9_next N l3) (fun r60 =>
    o_X9_play_68 N s1 t_now l1 l2 r60)
  else
    o_X9_play_68 N s1 t_now l1 l2 l4)
def o_X9_play (N : Nat) (t_now : (Nat → Int32)) (l1 : Int32) (l2 : Int32) : Option (Int32 × Int32 × Int32 × Int32) :=
  ogd (inb (9 + l1) 27) (
  ogd (inb (9 + l2) 27) (
  ogd (inb (1 + l1) 27) (
  if (t_now (Int32.toNatClampNeg (1 + l1))) = 5 then
    Option.bind (o_X9_next N (t_now (Int32.toNatClampNeg (9 + l2)))) (fun r36 =>
    o_X9_play_43 N t_now l1 l2 (t_now (Int32.toNatClampNeg (9 + l1))) (t_now (Int32.toNatClampNeg (9 + l2))) r36)
  else
    o_X9_play_43 N t_now l1 l2 (t_now (Int32.toNatClampNeg (9 + l1))) (t_now (Int32.toNatClampNeg (9 + l2))) (t_now (Int32.toNatClampNeg (9 + l1))))))
set_option maxHeartbeats 4000000 in
set_option maxRecDepth 100000 in
theorem z_X9_play_185 {sK sV : Nat → Nat} {E : ZE} {cI cB cZ : ClassId} (hC : ZC E 7 cX9_play wsX9_play RX9 rmX9_play none (zty cI cB cZ)) (hN : ZN sK sV (zA E) (zs E)) {N : Nat} {a_t : Nat} {a_t_now : Nat} {a_t_kept : Nat} {a_t_isKept : Nat} {a_t_acts : Nat} {a_t_was : Nat} {a_t_lanes : Nat} {a_t_longs : Nat} {a_t_isThere : Nat} {a_t_items : Nat} {a_t_copied : Nat} {a_t_tape : Nat} {a_t_readSorts : Nat} {a_t_readHands : Nat} {a_t_inTurn : Nat} {a_t_ends : Nat} {a_t_bestHands : Nat} {a_t_traces : Nat} {t_manyActs : Int32} {t_status : Int32} {t_tapeLong : Int32} {t_fault : Int32} {t_tokenAt : Int32} {t_tokenLong : Int32} {t_token : Int32} {t_value : Int32} {t_winner : Int32} {t_throwsOf : Int32} {t_handA : Int32} {t_handB : Int32} {t_fewestSo : Int32} {t_traced : Int32} {t_now : (Nat → Int32)} {l1 : Int32} {l2 : Int32} {s0 : Int32} {rf : Int32 × Int32 × Int32 × Int32} (hQ : ZQv E (zty cI cB cZ) [(a_t, .inr (9, [.ref a_t_now, .ref a_t_kept, .ref a_t_isKept, .ref a_t_acts, .int t_manyActs, .ref a_t_was, .int t_status, .ref a_t_lanes, .ref a_t_longs, .ref a_t_isThere, .ref a_t_items, .ref a_t_copied, .ref a_t_tape, .int t_tapeLong, .int t_fault, .int t_tokenAt, .int t_tokenLong, .int t_token, .int t_value, .ref a_t_readSorts, .ref a_t_readHands, .int rf.1, .int rf.2.1, .int rf.2.2.1, .int rf.2.2.2, .ref a_t_inTurn, .ref a_t_ends, .ref a_t_bestHands, .int t_fewestSo, .ref a_t_traces, .int t_traced])), (a_t_now, .inl (cI, 27, .inl t_now))]) (hR : o_X9_play_185 N t_throwsOf t_handA t_handB l1 l2 s0 = some rf) : Z E (0, 0) [(0, .ref a_t), (1, .int l1), (2, .int l2)] 185 [.int s0] [(a_t, .inr (9, [.ref a_t_now, .ref a_t_kept, .ref a_t_isKept, .ref a_t_acts, .int t_manyActs, .ref a_t_was, .int t_status, .ref a_t_lanes, .ref a_t_longs, .ref a_t_isThere, .ref a_t_items, .ref a_t_copied, .ref a_t_tape, .int t_tapeLong, .int t_fault, .int t_tokenAt, .int t_tokenLong, .int t_token, .int t_value, .ref a_t_readSorts, .ref a_t_readHands, .int t_winner, .int t_throwsOf, .int t_handA, .int t_handB, .ref a_t_inTurn, .ref a_t_ends, .ref a_t_bestHands, .int t_fewestSo, .ref a_t_traces, .int t_traced])), (a_t_now, .inl (cI, 27, .inl t_now))] := by
  rw [o_X9_play_185] at hR
  refine z_istore hC [(6, .int s0), (0, .ref a_t), (1, .int l1), (2, .int l2)] dX9_play_185 (by decide) rfl ?_
  refine z_aload_n hC dX9_play_187 rfl 1 rfl ?_
  refine z_aload_n hC dX9_play_188 rfl 1 rfl ?_
  refine z_get hC iX9_play_X9 rfl 0 23 rfl (by decide) mX9_play_2 rfl rfl dX9_play_189 ?_
  refine z_aload_n hC dX9_play_192 rfl 1 rfl ?_
  refine z_get hC iX9_play_X9 rfl 0 24 rfl (by decide) mX9_play_3 rfl rfl dX9_play_193 ?_
  refine z_callSi_p hC hN [.int t_handB] [] (c_X9_next (l := zl E) (D := zD E) (cI := cI) (cB := cB) (cZ := cZ) (N := N) (l0 := t_handB)) rfl ⟨rfl, rfl⟩ gX9_play_X9_next hsX9_next ⟨Nat.le_of_ble_eq_true rfl, Nat.le_of_ble_eq_true rfl⟩ ⟨Nat.zero_le _, Nat.zero_le _⟩ rfl (Nat.le_of_ble_eq_true rfl) rfl (by decide) dX9_play_196 hR (fun r196 hR => ?_)
  refine z_icmp_ne hC 206 dX9_play_199 (by decide) hR (fun hR => ?_) (fun hR => ?_)
  · refine z_aload_n hC dX9_play_206 rfl 1 rfl ?_
    refine z_get hC iX9_play_X9 rfl 0 24 rfl (by decide) mX9_play_3 rfl rfl dX9_play_207 ?_
    refine z_aload_n hC dX9_play_210 rfl 1 rfl ?_
    refine z_get hC iX9_play_X9 rfl 0 23 rfl (by decide) mX9_play_2 rfl rfl dX9_play_211 ?_
    refine z_callSi_p hC hN [.int t_handA] [] (c_X9_next (l := zl E) (D := zD E) (cI := cI) (cB := cB) (cZ := cZ) (N := N) (l0 := t_handA)) rfl ⟨rfl, rfl⟩ gX9_play_X9_next hsX9_next ⟨Nat.le_of_ble_eq_true rfl, Nat.le_of_ble_eq_true rfl⟩ ⟨Nat.zero_le _, Nat.zero_le _⟩ rfl (Nat.le_of_ble_eq_true rfl) rfl (by decide) dX9_play_214 hR (fun r214 hR => ?_)
    refine z_icmp_ne hC 224 dX9_play_217 (by decide) hR (fun hR => ?_) (fun hR => ?_)
    · refine z_iload hC dX9_play_224 0 rfl ?_
      refine z_put hC iX9_play_X9 tyX9_ok nmX9 rfl 0 21 rfl (by decide) mX9_play_5 rfl rfl rfl rfl (Nat.le_of_ble_eq_true rfl) dX9_play_226 ?_
      obtain rfl := Option.some.inj hR
      exact z_vret hC hQ rfl dX9_play_229
    · refine z_iload_n hC dX9_play_220 rfl 3 rfl ?_
      refine z_goto hC 226 dX9_play_221 (by decide) ?_
      refine z_put hC iX9_play_X9 tyX9_ok nmX9 rfl 0 21 rfl (by decide) mX9_play_5 rfl rfl rfl rfl (Nat.le_of_ble_eq_true rfl) dX9_play_226 ?_
      obtain rfl := Option.some.inj hR
      exact z_vret hC hQ rfl dX9_play_229
  · refine z_iload_n hC dX9_play_202 rfl 2 rfl ?_
    refine z_goto hC 226 dX9_play_203 (by decide) ?_
    refine z_put hC iX9_play_X9 tyX9_ok nmX9 rfl 0 21 rfl (by decide) mX9_play_5 rfl rfl rfl rfl (Nat.le_of_ble_eq_true rfl) dX9_play_226 ?_
    obtain rfl := Option.some.inj hR
    exact z_vret hC hQ rfl dX9_play_229
set_option maxHeartbeats 4000000 in
set_option maxRecDepth 100000 in
theorem z_X9_play_147 {sK sV : Nat → Nat} {E : ZE} {cI cB cZ : ClassId} (hC : ZC E 7 cX9_play wsX9_play RX9 rmX9_play none (zty cI cB cZ)) (hN : ZN sK sV (zA E) (zs E)) {N : Nat} {a_t : Nat} {a_t_now : Nat} {a_t_kept : Nat} {a_t_isKept : Nat} {a_t_acts : Nat} {a_t_was : Nat} {a_t_lanes : Nat} {a_t_longs : Nat} {a_t_isThere : Nat} {a_t_items : Nat} {a_t_copied : Nat} {a_t_tape : Nat} {a_t_readSorts : Nat} {a_t_readHands : Nat} {a_t_inTurn : Nat} {a_t_ends : Nat} {a_t_bestHands : Nat} {a_t_traces : Nat} {t_manyActs : Int32} {t_status : Int32} {t_tapeLong : Int32} {t_fault : Int32} {t_tokenAt : Int32} {t_tokenLong : Int32} {t_token : Int32} {t_value : Int32} {t_winner : Int32} {t_throwsOf : Int32} {t_handA : Int32} {t_handB : Int32} {t_fewestSo : Int32} {t_traced : Int32} {t_now : (Nat → Int32)} {l1 : Int32} {l2 : Int32} {s0 : Int32} {rf : Int32 × Int32 × Int32 × Int32} (hQ : ZQv E (zty cI cB cZ) [(a_t, .inr (9, [.ref a_t_now, .ref a_t_kept, .ref a_t_isKept, .ref a_t_acts, .int t_manyActs, .ref a_t_was, .int t_status, .ref a_t_lanes, .ref a_t_longs, .ref a_t_isThere, .ref a_t_items, .ref a_t_copied, .ref a_t_tape, .int t_tapeLong, .int t_fault, .int t_tokenAt, .int t_tokenLong, .int t_token, .int t_value, .ref a_t_readSorts, .ref a_t_readHands, .int rf.1, .int rf.2.1, .int rf.2.2.1, .int rf.2.2.2, .ref a_t_inTurn, .ref a_t_ends, .ref a_t_bestHands, .int t_fewestSo, .ref a_t_traces, .int t_traced])), (a_t_now, .inl (cI, 27, .inl t_now))]) (hR : o_X9_play_147 N t_throwsOf t_handA t_handB t_now l1 l2 s0 = some rf) : Z E (0, 0) [(0, .ref a_t), (1, .int l1), (2, .int l2)] 147 [.int s0] [(a_t, .inr (9, [.ref a_t_now, .ref a_t_kept, .ref a_t_isKept, .ref a_t_acts, .int t_manyActs, .ref a_t_was, .int t_status, .ref a_t_lanes, .ref a_t_longs, .ref a_t_isThere, .ref a_t_items, .ref a_t_copied, .ref a_t_tape, .int t_tapeLong, .int t_fault, .int t_tokenAt, .int t_tokenLong, .int t_token, .int t_value, .ref a_t_readSorts, .ref a_t_readHands, .int t_winner, .int t_throwsOf, .int t_handA, .int t_handB, .ref a_t_inTurn, .ref a_t_ends, .ref a_t_bestHands, .int t_fewestSo, .ref a_t_traces, .int t_traced])), (a_t_now, .inl (cI, 27, .inl t_now))] := by
  rw [o_X9_play_147] at hR
  refine z_istore hC [(5, .int s0), (0, .ref a_t), (1, .int l1), (2, .int l2)] dX9_play_147 (by decide) rfl ?_
  refine z_aload_n hC dX9_play_149 rfl 1 rfl ?_
  refine z_iload_n hC dX9_play_150 rfl 2 rfl ?_
  refine z_callVi_p hC hN [.int l1] [0, 1] (c_X9_sizeOf (l := zl E) (D := zD E) (cI := cI) (cB := cB) (cZ := cZ) (N := N) (a_t := a_t) (a_t_now := a_t_now) (a_t_kept := a_t_kept) (a_t_isKept := a_t_isKept) (a_t_acts := a_t_acts) (a_t_was := a_t_was) (a_t_lanes := a_t_lanes) (a_t_longs := a_t_longs) (a_t_isThere := a_t_isThere) (a_t_items := a_t_items) (a_t_copied := a_t_copied) (a_t_tape := a_t_tape) (a_t_readSorts := a_t_readSorts) (a_t_readHands := a_t_readHands) (a_t_inTurn := a_t_inTurn) (a_t_ends := a_t_ends) (a_t_bestHands := a_t_bestHands) (a_t_traces := a_t_traces) (l1 := l1) (t_manyActs := t_manyActs) (t_status := t_status) (t_tapeLong := t_tapeLong) (t_fault := t_fault) (t_tokenAt := t_tokenAt) (t_tokenLong := t_tokenLong) (t_token := t_token) (t_value := t_value) (t_winner := t_winner) (t_throwsOf := t_throwsOf) (t_handA := t_handA) (t_handB := t_handB) (t_fewestSo := t_fewestSo) (t_traced := t_traced) (t_now := t_now)) rfl ⟨rfl, rfl⟩ gX9_play_X9_sizeOf hvX9_sizeOf 0 9 rfl rfl rfl ⟨Nat.le_of_ble_eq_true rfl, Nat.le_of_ble_eq_true rfl⟩ ⟨Nat.zero_le _, Nat.zero_le _⟩ rfl (Nat.le_of_ble_eq_true rfl) rfl (by decide) dX9_play_151 hR (fun r151 hR => ?_)
  refine z_aload_n hC dX9_play_154 rfl 1 rfl ?_
  refine z_iload_n hC dX9_play_155 rfl 3 rfl ?_
  refine z_callVi_p hC hN [.int l2] [0, 1] (c_X9_sizeOf (l := zl E) (D := zD E) (cI := cI) (cB := cB) (cZ := cZ) (N := N) (a_t := a_t) (a_t_now := a_t_now) (a_t_kept := a_t_kept) (a_t_isKept := a_t_isKept) (a_t_acts := a_t_acts) (a_t_was := a_t_was) (a_t_lanes := a_t_lanes) (a_t_longs := a_t_longs) (a_t_isThere := a_t_isThere) (a_t_items := a_t_items) (a_t_copied := a_t_copied) (a_t_tape := a_t_tape) (a_t_readSorts := a_t_readSorts) (a_t_readHands := a_t_readHands) (a_t_inTurn := a_t_inTurn) (a_t_ends := a_t_ends) (a_t_bestHands := a_t_bestHands) (a_t_traces := a_t_traces) (l1 := l2) (t_manyActs := t_manyActs) (t_status := t_status) (t_tapeLong := t_tapeLong) (t_fault := t_fault) (t_tokenAt := t_tokenAt) (t_tokenLong := t_tokenLong) (t_token := t_token) (t_value := t_value) (t_winner := t_winner) (t_throwsOf := t_throwsOf) (t_handA := t_handA) (t_handB := t_handB) (t_fewestSo := t_fewestSo) (t_traced := t_traced) (t_now := t_now)) rfl ⟨rfl, rfl⟩ gX9_play_X9_sizeOf hvX9_sizeOf 0 9 rfl rfl rfl ⟨Nat.le_of_ble_eq_true rfl, Nat.le_of_ble_eq_true rfl⟩ ⟨Nat.zero_le _, Nat.zero_le _⟩ rfl (Nat.le_of_ble_eq_true rfl) rfl (by decide) dX9_play_156 hR (fun r156 hR => ?_)
  refine z_icmp_le hC 166 dX9_play_159 (by decide) hR (fun hR => ?_) (fun hR => ?_)
  · refine z_aload_n hC dX9_play_166 rfl 1 rfl ?_
    refine z_iload_n hC dX9_play_167 rfl 3 rfl ?_
    refine z_callVi_p hC hN [.int l2] [0, 1] (c_X9_sizeOf (l := zl E) (D := zD E) (cI := cI) (cB := cB) (cZ := cZ) (N := N) (a_t := a_t) (a_t_now := a_t_now) (a_t_kept := a_t_kept) (a_t_isKept := a_t_isKept) (a_t_acts := a_t_acts) (a_t_was := a_t_was) (a_t_lanes := a_t_lanes) (a_t_longs := a_t_longs) (a_t_isThere := a_t_isThere) (a_t_items := a_t_items) (a_t_copied := a_t_copied) (a_t_tape := a_t_tape) (a_t_readSorts := a_t_readSorts) (a_t_readHands := a_t_readHands) (a_t_inTurn := a_t_inTurn) (a_t_ends := a_t_ends) (a_t_bestHands := a_t_bestHands) (a_t_traces := a_t_traces) (l1 := l2) (t_manyActs := t_manyActs) (t_status := t_status) (t_tapeLong := t_tapeLong) (t_fault := t_fault) (t_tokenAt := t_tokenAt) (t_tokenLong := t_tokenLong) (t_token := t_token) (t_value := t_value) (t_winner := t_winner) (t_throwsOf := t_throwsOf) (t_handA := t_handA) (t_handB := t_handB) (t_fewestSo := t_fewestSo) (t_traced := t_traced) (t_now := t_now)) rfl ⟨rfl, rfl⟩ gX9_play_X9_sizeOf hvX9_sizeOf 0 9 rfl rfl rfl ⟨Nat.le_of_ble_eq_true rfl, Nat.le_of_ble_eq_true rfl⟩ ⟨Nat.zero_le _, Nat.zero_le _⟩ rfl (Nat.le_of_ble_eq_true rfl) rfl (by decide) dX9_play_168 hR (fun r168 hR => ?_)
    refine z_aload_n hC dX9_play_171 rfl 1 rfl ?_
    refine z_iload_n hC dX9_play_172 rfl 2 rfl ?_
    refine z_callVi_p hC hN [.int l1] [0, 1] (c_X9_sizeOf (l := zl E) (D := zD E) (cI := cI) (cB := cB) (cZ := cZ) (N := N) (a_t := a_t) (a_t_now := a_t_now) (a_t_kept := a_t_kept) (a_t_isKept := a_t_isKept) (a_t_acts := a_t_acts) (a_t_was := a_t_was) (a_t_lanes := a_t_lanes) (a_t_longs := a_t_longs) (a_t_isThere := a_t_isThere) (a_t_items := a_t_items) (a_t_copied := a_t_copied) (a_t_tape := a_t_tape) (a_t_readSorts := a_t_readSorts) (a_t_readHands := a_t_readHands) (a_t_inTurn := a_t_inTurn) (a_t_ends := a_t_ends) (a_t_bestHands := a_t_bestHands) (a_t_traces := a_t_traces) (l1 := l1) (t_manyActs := t_manyActs) (t_status := t_status) (t_tapeLong := t_tapeLong) (t_fault := t_fault) (t_tokenAt := t_tokenAt) (t_tokenLong := t_tokenLong) (t_token := t_token) (t_value := t_value) (t_winner := t_winner) (t_throwsOf := t_throwsOf) (t_handA := t_handA) (t_handB := t_handB) (t_fewestSo := t_fewestSo) (t_traced := t_traced) (t_now := t_now)) rfl ⟨rfl, rfl⟩ gX9_play_X9_sizeOf hvX9_sizeOf 0 9 rfl rfl rfl ⟨Nat.le_of_ble_eq_true rfl, Nat.le_of_ble_eq_true rfl⟩ ⟨Nat.zero_le _, Nat.zero_le _⟩ rfl (Nat.le_of_ble_eq_true rfl) rfl (by decide) dX9_play_173 hR (fun r173 hR => ?_)
    refine z_icmp_le hC 183 dX9_play_176 (by decide) hR (fun hR => ?_) (fun hR => ?_)
    · refine z_iload hC dX9_play_183 0 rfl ?_
      refine z_sub (lv' := [(0, .ref a_t), (1, .int l1), (2, .int l2)]) [1, 2, 3] rfl ?_
      exact z_X9_play_185 hC hN (N := N) (a_t := a_t) (a_t_now := a_t_now) (a_t_kept := a_t_kept) (a_t_isKept := a_t_isKept) (a_t_acts := a_t_acts) (a_t_was := a_t_was) (a_t_lanes := a_t_lanes) (a_t_longs := a_t_longs) (a_t_isThere := a_t_isThere) (a_t_items := a_t_items) (a_t_copied := a_t_copied) (a_t_tape := a_t_tape) (a_t_readSorts := a_t_readSorts) (a_t_readHands := a_t_readHands) (a_t_inTurn := a_t_inTurn) (a_t_ends := a_t_ends) (a_t_bestHands := a_t_bestHands) (a_t_traces := a_t_traces) (t_manyActs := t_manyActs) (t_status := t_status) (t_tapeLong := t_tapeLong) (t_fault := t_fault) (t_tokenAt := t_tokenAt) (t_tokenLong := t_tokenLong) (t_token := t_token) (t_value := t_value) (t_winner := t_winner) (t_throwsOf := t_throwsOf) (t_handA := t_handA) (t_handB := t_handB) (t_fewestSo := t_fewestSo) (t_traced := t_traced) (t_now := t_now) (l1 := l1) (l2 := l2) (s0 := s0) hQ  hR
    · refine z_iload_n hC dX9_play_179 rfl 3 rfl ?_
      refine z_goto hC 185 dX9_play_180 (by decide) ?_
      refine z_sub (lv' := [(0, .ref a_t), (1, .int l1), (2, .int l2)]) [1, 2, 3] rfl ?_
      exact z_X9_play_185 hC hN (N := N) (a_t := a_t) (a_t_now := a_t_now) (a_t_kept := a_t_kept) (a_t_isKept := a_t_isKept) (a_t_acts := a_t_acts) (a_t_was := a_t_was) (a_t_lanes := a_t_lanes) (a_t_longs := a_t_longs) (a_t_isThere := a_t_isThere) (a_t_items := a_t_items) (a_t_copied := a_t_copied) (a_t_tape := a_t_tape) (a_t_readSorts := a_t_readSorts) (a_t_readHands := a_t_readHands) (a_t_inTurn := a_t_inTurn) (a_t_ends := a_t_ends) (a_t_bestHands := a_t_bestHands) (a_t_traces := a_t_traces) (t_manyActs := t_manyActs) (t_status := t_status) (t_tapeLong := t_tapeLong) (t_fault := t_fault) (t_tokenAt := t_tokenAt) (t_tokenLong := t_tokenLong) (t_token := t_token) (t_value := t_value) (t_winner := t_winner) (t_throwsOf := t_throwsOf) (t_handA := t_handA) (t_handB := t_handB) (t_fewestSo := t_fewestSo) (t_traced := t_traced) (t_now := t_now) (l1 := l1) (l2 := l2) (s0 := l2) hQ  hR
  · refine z_iload_n hC dX9_play_162 rfl 2 rfl ?_
    refine z_goto hC 185 dX9_play_163 (by decide) ?_
    refine z_sub (lv' := [(0, .ref a_t), (1, .int l1), (2, .int l2)]) [1, 2, 3] rfl ?_
    exact z_X9_play_185 hC hN (N := N) (a_t := a_t) (a_t_now := a_t_now) (a_t_kept := a_t_kept) (a_t_isKept := a_t_isKept) (a_t_acts := a_t_acts) (a_t_was := a_t_was) (a_t_lanes := a_t_lanes) (a_t_longs := a_t_longs) (a_t_isThere := a_t_isThere) (a_t_items := a_t_items) (a_t_copied := a_t_copied) (a_t_tape := a_t_tape) (a_t_readSorts := a_t_readSorts) (a_t_readHands := a_t_readHands) (a_t_inTurn := a_t_inTurn) (a_t_ends := a_t_ends) (a_t_bestHands := a_t_bestHands) (a_t_traces := a_t_traces) (t_manyActs := t_manyActs) (t_status := t_status) (t_tapeLong := t_tapeLong) (t_fault := t_fault) (t_tokenAt := t_tokenAt) (t_tokenLong := t_tokenLong) (t_token := t_token) (t_value := t_value) (t_winner := t_winner) (t_throwsOf := t_throwsOf) (t_handA := t_handA) (t_handB := t_handB) (t_fewestSo := t_fewestSo) (t_traced := t_traced) (t_now := t_now) (l1 := l1) (l2 := l2) (s0 := l1) hQ  hR
set_option maxHeartbeats 4000000 in
set_option maxRecDepth 100000 in
theorem z_X9_play_137 {sK sV : Nat → Nat} {E : ZE} {cI cB cZ : ClassId} (hC : ZC E 7 cX9_play wsX9_play RX9 rmX9_play none (zty cI cB cZ)) (hN : ZN sK sV (zA E) (zs E)) {N : Nat} {a_t : Nat} {a_t_now : Nat} {a_t_kept : Nat} {a_t_isKept : Nat} {a_t_acts : Nat} {a_t_was : Nat} {a_t_lanes : Nat} {a_t_longs : Nat} {a_t_isThere : Nat} {a_t_items : Nat} {a_t_copied : Nat} {a_t_tape : Nat} {a_t_readSorts : Nat} {a_t_readHands : Nat} {a_t_inTurn : Nat} {a_t_ends : Nat} {a_t_bestHands : Nat} {a_t_traces : Nat} {t_manyActs : Int32} {t_status : Int32} {t_tapeLong : Int32} {t_fault : Int32} {t_tokenAt : Int32} {t_tokenLong : Int32} {t_token : Int32} {t_value : Int32} {t_winner : Int32} {t_throwsOf : Int32} {t_handA : Int32} {t_handB : Int32} {t_fewestSo : Int32} {t_traced : Int32} {t_now : (Nat → Int32)} {l1 : Int32} {l2 : Int32} {rf : Int32 × Int32 × Int32 × Int32} (hQ : ZQv E (zty cI cB cZ) [(a_t, .inr (9, [.ref a_t_now, .ref a_t_kept, .ref a_t_isKept, .ref a_t_acts, .int t_manyActs, .ref a_t_was, .int t_status, .ref a_t_lanes, .ref a_t_longs, .ref a_t_isThere, .ref a_t_items, .ref a_t_copied, .ref a_t_tape, .int t_tapeLong, .int t_fault, .int t_tokenAt, .int t_tokenLong, .int t_token, .int t_value, .ref a_t_readSorts, .ref a_t_readHands, .int rf.1, .int rf.2.1, .int rf.2.2.1, .int rf.2.2.2, .ref a_t_inTurn, .ref a_t_ends, .ref a_t_bestHands, .int t_fewestSo, .ref a_t_traces, .int t_traced])), (a_t_now, .inl (cI, 27, .inl t_now))]) (hR : o_X9_play_137 N t_throwsOf t_handA t_handB t_now l1 l2 = some rf) : Z E (0, 0) [(0, .ref a_t), (1, .int l1), (2, .int l2)] 137 [] [(a_t, .inr (9, [.ref a_t_now, .ref a_t_kept, .ref a_t_isKept, .ref a_t_acts, .int t_manyActs, .ref a_t_was, .int t_status, .ref a_t_lanes, .ref a_t_longs, .ref a_t_isThere, .ref a_t_items, .ref a_t_copied, .ref a_t_tape, .int t_tapeLong, .int t_fault, .int t_tokenAt, .int t_tokenLong, .int t_token, .int t_value, .ref a_t_readSorts, .ref a_t_readHands, .int t_winner, .int t_throwsOf, .int t_handA, .int t_handB, .ref a_t_inTurn, .ref a_t_ends, .ref a_t_bestHands, .int t_fewestSo, .ref a_t_traces, .int t_traced])), (a_t_now, .inl (cI, 27, .inl t_now))] := by
  rw [o_X9_play_137] at hR
  refine z_iload_n hC dX9_play_137 rfl 1 rfl ?_
  refine z_iload_n hC dX9_play_138 rfl 2 rfl ?_
  refine z_icmp_ge hC 146 dX9_play_139 (by decide) hR (fun hR => ?_) (fun hR => ?_)
  · refine z_iload_n hC dX9_play_146 rfl 2 rfl ?_
    exact z_X9_play_147 hC hN (N := N) (a_t := a_t) (a_t_now := a_t_now) (a_t_kept := a_t_kept) (a_t_isKept := a_t_isKept) (a_t_acts := a_t_acts) (a_t_was := a_t_was) (a_t_lanes := a_t_lanes) (a_t_longs := a_t_longs) (a_t_isThere := a_t_isThere) (a_t_items := a_t_items) (a_t_copied := a_t_copied) (a_t_tape := a_t_tape) (a_t_readSorts := a_t_readSorts) (a_t_readHands := a_t_readHands) (a_t_inTurn := a_t_inTurn) (a_t_ends := a_t_ends) (a_t_bestHands := a_t_bestHands) (a_t_traces := a_t_traces) (t_manyActs := t_manyActs) (t_status := t_status) (t_tapeLong := t_tapeLong) (t_fault := t_fault) (t_tokenAt := t_tokenAt) (t_tokenLong := t_tokenLong) (t_token := t_token) (t_value := t_value) (t_winner := t_winner) (t_throwsOf := t_throwsOf) (t_handA := t_handA) (t_handB := t_handB) (t_fewestSo := t_fewestSo) (t_traced := t_traced) (t_now := t_now) (l1 := l1) (l2 := l2) (s0 := l2) hQ  hR
  · refine z_iload_n hC dX9_play_142 rfl 1 rfl ?_
    refine z_goto hC 147 dX9_play_143 (by decide) ?_
    exact z_X9_play_147 hC hN (N := N) (a_t := a_t) (a_t_now := a_t_now) (a_t_kept := a_t_kept) (a_t_isKept := a_t_isKept) (a_t_acts := a_t_acts) (a_t_was := a_t_was) (a_t_lanes := a_t_lanes) (a_t_longs := a_t_longs) (a_t_isThere := a_t_isThere) (a_t_items := a_t_items) (a_t_copied := a_t_copied) (a_t_tape := a_t_tape) (a_t_readSorts := a_t_readSorts) (a_t_readHands := a_t_readHands) (a_t_inTurn := a_t_inTurn) (a_t_ends := a_t_ends) (a_t_bestHands := a_t_bestHands) (a_t_traces := a_t_traces) (t_manyActs := t_manyActs) (t_status := t_status) (t_tapeLong := t_tapeLong) (t_fault := t_fault) (t_tokenAt := t_tokenAt) (t_tokenLong := t_tokenLong) (t_token := t_token) (t_value := t_value) (t_winner := t_winner) (t_throwsOf := t_throwsOf) (t_handA := t_handA) (t_handB := t_handB) (t_fewestSo := t_fewestSo) (t_traced := t_traced) (t_now := t_now) (l1 := l1) (l2 := l2) (s0 := l1) hQ  hR
set_option maxHeartbeats 4000000 in
set_option maxRecDepth 100000 in
theorem z_X9_play_76 {sK sV : Nat → Nat} {E : ZE} {cI cB cZ : ClassId} (hC : ZC E 7 cX9_play wsX9_play RX9 rmX9_play none (zty cI cB cZ)) (hN : ZN sK sV (zA E) (zs E)) {N : Nat} {a_t : Nat} {a_t_now : Nat} {a_t_kept : Nat} {a_t_isKept : Nat} {a_t_acts : Nat} {a_t_was : Nat} {a_t_lanes : Nat} {a_t_longs : Nat} {a_t_isThere : Nat} {a_t_items : Nat} {a_t_copied : Nat} {a_t_tape : Nat} {a_t_readSorts : Nat} {a_t_readHands : Nat} {a_t_inTurn : Nat} {a_t_ends : Nat} {a_t_bestHands : Nat} {a_t_traces : Nat} {t_manyActs : Int32} {t_status : Int32} {t_tapeLong : Int32} {t_fault : Int32} {t_tokenAt : Int32} {t_tokenLong : Int32} {t_token : Int32} {t_value : Int32} {t_winner : Int32} {t_fewestSo : Int32} {t_traced : Int32} {t_now : (Nat → Int32)} {l1 : Int32} {l2 : Int32} {rf : Int32 × Int32 × Int32 × Int32} (hQ : ZQv E (zty cI cB cZ) [(a_t, .inr (9, [.ref a_t_now, .ref a_t_kept, .ref a_t_isKept, .ref a_t_acts, .int t_manyActs, .ref a_t_was, .int t_status, .ref a_t_lanes, .ref a_t_longs, .ref a_t_isThere, .ref a_t_items, .ref a_t_copied, .ref a_t_tape, .int t_tapeLong, .int t_fault, .int t_tokenAt, .int t_tokenLong, .int t_token, .int t_value, .ref a_t_readSorts, .ref a_t_readHands, .int rf.1, .int rf.2.1, .int rf.2.2.1, .int rf.2.2.2, .ref a_t_inTurn, .ref a_t_ends, .ref a_t_bestHands, .int t_fewestSo, .ref a_t_traces, .int t_traced])), (a_t_now, .inl (cI, 27, .inl t_now))]) : ∀ (n : Nat) (t_throwsOf : Int32) (t_handA : Int32) (t_handB : Int32), o_X9_play_76 N t_now l1 l2 n t_throwsOf t_handA t_handB = some rf → Z E (0, 0) [(0, .ref a_t), (1, .int l1), (2, .int l2)] 76 [] [(a_t, .inr (9, [.ref a_t_now, .ref a_t_kept, .ref a_t_isKept, .ref a_t_acts, .int t_manyActs, .ref a_t_was, .int t_status, .ref a_t_lanes, .ref a_t_longs, .ref a_t_isThere, .ref a_t_items, .ref a_t_copied, .ref a_t_tape, .int t_tapeLong, .int t_fault, .int t_tokenAt, .int t_tokenLong, .int t_token, .int t_value, .ref a_t_readSorts, .ref a_t_readHands, .int t_winner, .int t_throwsOf, .int t_handA, .int t_handB, .ref a_t_inTurn, .ref a_t_ends, .ref a_t_bestHands, .int t_fewestSo, .ref a_t_traces, .int t_traced])), (a_t_now, .inl (cI, 27, .inl t_now))] := by
  intro n
  induction n with
  | zero =>
    intro t_throwsOf t_handA t_handB hR
    cases hR
  | succ n ih =>
    intro t_throwsOf t_handA t_handB hR
    rw [o_X9_play_76] at hR
    refine z_aload_n hC dX9_play_76 rfl 0 rfl ?_
    refine z_get hC iX9_play_X9 rfl 0 23 rfl (by decide) mX9_play_2 rfl rfl dX9_play_77 ?_
    refine z_aload_n hC dX9_play_80 rfl 0 rfl ?_
    refine z_get hC iX9_play_X9 rfl 0 24 rfl (by decide) mX9_play_3 rfl rfl dX9_play_81 ?_
    refine z_icmp_ne hC 137 dX9_play_84 (by decide) hR (fun hR => ?_) (fun hR => ?_)
    · exact z_X9_play_137 hC hN (N := N) (a_t := a_t) (a_t_now := a_t_now) (a_t_kept := a_t_kept) (a_t_isKept := a_t_isKept) (a_t_acts := a_t_acts) (a_t_was := a_t_was) (a_t_lanes := a_t_lanes) (a_t_longs := a_t_longs) (a_t_isThere := a_t_isThere) (a_t_items := a_t_items) (a_t_copied := a_t_copied) (a_t_tape := a_t_tape) (a_t_readSorts := a_t_readSorts) (a_t_readHands := a_t_readHands) (a_t_inTurn := a_t_inTurn) (a_t_ends := a_t_ends) (a_t_bestHands := a_t_bestHands) (a_t_traces := a_t_traces) (t_manyActs := t_manyActs) (t_status := t_status) (t_tapeLong := t_tapeLong) (t_fault := t_fault) (t_tokenAt := t_tokenAt) (t_tokenLong := t_tokenLong) (t_token := t_token) (t_value := t_value) (t_winner := t_winner) (t_throwsOf := t_throwsOf) (t_handA := t_handA) (t_handB := t_handB) (t_fewestSo := t_fewestSo) (t_traced := t_traced) (t_now := t_now) (l1 := l1) (l2 := l2) hQ  hR
    · refine z_aload_n hC dX9_play_87 rfl 0 rfl ?_
      refine z_get hC iX9_play_X9 rfl 0 22 rfl (by decide) mX9_play_4 rfl rfl dX9_play_88 ?_
      refine z_bipush (v := 9) hC dX9_play_91 (by decide) ?_
      refine z_icmp_ge hC 137 dX9_play_93 (by decide) hR (fun hR => ?_) (fun hR => ?_)
      · exact z_X9_play_137 hC hN (N := N) (a_t := a_t) (a_t_now := a_t_now) (a_t_kept := a_t_kept) (a_t_isKept := a_t_isKept) (a_t_acts := a_t_acts) (a_t_was := a_t_was) (a_t_lanes := a_t_lanes) (a_t_longs := a_t_longs) (a_t_isThere := a_t_isThere) (a_t_items := a_t_items) (a_t_copied := a_t_copied) (a_t_tape := a_t_tape) (a_t_readSorts := a_t_readSorts) (a_t_readHands := a_t_readHands) (a_t_inTurn := a_t_inTurn) (a_t_ends := a_t_ends) (a_t_bestHands := a_t_bestHands) (a_t_traces := a_t_traces) (t_manyActs := t_manyActs) (t_status := t_status) (t_tapeLong := t_tapeLong) (t_fault := t_fault) (t_tokenAt := t_tokenAt) (t_tokenLong := t_tokenLong) (t_token := t_token) (t_value := t_value) (t_winner := t_winner) (t_throwsOf := t_throwsOf) (t_handA := t_handA) (t_handB := t_handB) (t_fewestSo := t_fewestSo) (t_traced := t_traced) (t_now := t_now) (l1 := l1) (l2 := l2) hQ  hR
      · refine z_aload_n hC dX9_play_96 rfl 0 rfl ?_
        refine z_get hC iX9_play_X9 rfl 0 23 rfl (by decide) mX9_play_2 rfl rfl dX9_play_97 ?_
        refine z_istore hC [(5, .int t_handA), (0, .ref a_t), (1, .int l1), (2, .int l2)] dX9_play_100 (by decide) rfl ?_
        refine z_aload_n hC dX9_play_102 rfl 1 rfl ?_
        refine z_aload_n hC dX9_play_103 rfl 1 rfl ?_
        refine z_iload_n hC dX9_play_104 rfl 2 rfl ?_
        refine z_iload hC dX9_play_105 0 rfl ?_
        refine z_callVi_p hC hN [.int l1, .int t_handA] [0, 1] (c_X9_behindTie (l := zl E) (D := zD E) (cI := cI) (cB := cB) (cZ := cZ) (N := N) (a_t := a_t) (a_t_now := a_t_now) (a_t_kept := a_t_kept) (a_t_isKept := a_t_isKept) (a_t_acts := a_t_acts) (a_t_was := a_t_was) (a_t_lanes := a_t_lanes) (a_t_longs := a_t_longs) (a_t_isThere := a_t_isThere) (a_t_items := a_t_items) (a_t_copied := a_t_copied) (a_t_tape := a_t_tape) (a_t_readSorts := a_t_readSorts) (a_t_readHands := a_t_readHands) (a_t_inTurn := a_t_inTurn) (a_t_ends := a_t_ends) (a_t_bestHands := a_t_bestHands) (a_t_traces := a_t_traces) (l1 := l1) (l2 := t_handA) (t_manyActs := t_manyActs) (t_status := t_status) (t_tapeLong := t_tapeLong) (t_fault := t_fault) (t_tokenAt := t_tokenAt) (t_tokenLong := t_tokenLong) (t_token := t_token) (t_value := t_value) (t_winner := t_winner) (t_throwsOf := t_throwsOf) (t_handA := t_handA) (t_handB := t_handB) (t_fewestSo := t_fewestSo) (t_traced := t_traced) (t_now := t_now)) rfl ⟨rfl, rfl⟩ gX9_play_X9_behindTie hvX9_behindTie 0 9 rfl rfl rfl ⟨Nat.le_of_ble_eq_true rfl, Nat.le_of_ble_eq_true rfl⟩ ⟨Nat.zero_le _, Nat.zero_le _⟩ rfl (Nat.le_of_ble_eq_true rfl) rfl (by decide) dX9_play_107 hR (fun r107 hR => ?_)
        refine z_put hC iX9_play_X9 tyX9_ok nmX9 rfl 0 23 rfl (by decide) mX9_play_2 rfl rfl rfl rfl (Nat.le_of_ble_eq_true rfl) dX9_play_110 ?_
        refine z_aload_n hC dX9_play_113 rfl 1 rfl ?_
        refine z_aload_n hC dX9_play_114 rfl 1 rfl ?_
        refine z_iload_n hC dX9_play_115 rfl 3 rfl ?_
        refine z_iload hC dX9_play_116 0 rfl ?_
        refine z_callVi_p hC hN [.int l2, .int t_handA] [0, 1] (c_X9_behindTie (l := zl E) (D := zD E) (cI := cI) (cB := cB) (cZ := cZ) (N := N) (a_t := a_t) (a_t_now := a_t_now) (a_t_kept := a_t_kept) (a_t_isKept := a_t_isKept) (a_t_acts := a_t_acts) (a_t_was := a_t_was) (a_t_lanes := a_t_lanes) (a_t_longs := a_t_longs) (a_t_isThere := a_t_isThere) (a_t_items := a_t_items) (a_t_copied := a_t_copied) (a_t_tape := a_t_tape) (a_t_readSorts := a_t_readSorts) (a_t_readHands := a_t_readHands) (a_t_inTurn := a_t_inTurn) (a_t_ends := a_t_ends) (a_t_bestHands := a_t_bestHands) (a_t_traces := a_t_traces) (l1 := l2) (l2 := t_handA) (t_manyActs := t_manyActs) (t_status := t_status) (t_tapeLong := t_tapeLong) (t_fault := t_fault) (t_tokenAt := t_tokenAt) (t_tokenLong := t_tokenLong) (t_token := t_token) (t_value := t_value) (t_winner := t_winner) (t_throwsOf := t_throwsOf) (t_handA := r107) (t_handB := t_handB) (t_fewestSo := t_fewestSo) (t_traced := t_traced) (t_now := t_now)) rfl ⟨rfl, rfl⟩ gX9_play_X9_behindTie hvX9_behindTie 0 9 rfl rfl rfl ⟨Nat.le_of_ble_eq_true rfl, Nat.le_of_ble_eq_true rfl⟩ ⟨Nat.zero_le _, Nat.zero_le _⟩ rfl (Nat.le_of_ble_eq_true rfl) rfl (by decide) dX9_play_118 hR (fun r118 hR => ?_)
        refine z_put hC iX9_play_X9 tyX9_ok nmX9 rfl 0 24 rfl (by decide) mX9_play_3 rfl rfl rfl rfl (Nat.le_of_ble_eq_true rfl) dX9_play_121 ?_
        refine z_aload_n hC dX9_play_124 rfl 1 rfl ?_
        refine z_dup hC dX9_play_125 rfl ?_
        refine z_get hC iX9_play_X9 rfl 0 22 rfl (by decide) mX9_play_4 rfl rfl dX9_play_126 ?_
        refine z_ic1 hC dX9_play_129 ?_
        refine z_iadd hC dX9_play_130 ?_
        refine z_put hC iX9_play_X9 tyX9_ok nmX9 rfl 0 22 rfl (by decide) mX9_play_4 rfl rfl rfl rfl (Nat.le_of_ble_eq_true rfl) dX9_play_131 ?_
        refine z_goto hC 76 dX9_play_134 (by decide) ?_
        refine z_sub (lv' := [(0, .ref a_t), (1, .int l1), (2, .int l2)]) [1, 2, 3] rfl ?_
        exact ih (t_throwsOf + 1) r107 r118 hR
set_option maxHeartbeats 4000000 in
set_option maxRecDepth 100000 in
theorem z_X9_play_68 {sK sV : Nat → Nat} {E : ZE} {cI cB cZ : ClassId} (hC : ZC E 7 cX9_play wsX9_play RX9 rmX9_play none (zty cI cB cZ)) (hN : ZN sK sV (zA E) (zs E)) {N : Nat} {a_t : Nat} {a_t_now : Nat} {a_t_kept : Nat} {a_t_isKept : Nat} {a_t_acts : Nat} {a_t_was : Nat} {a_t_lanes : Nat} {a_t_longs : Nat} {a_t_isThere : Nat} {a_t_items : Nat} {a_t_copied : Nat} {a_t_tape : Nat} {a_t_readSorts : Nat} {a_t_readHands : Nat} {a_t_inTurn : Nat} {a_t_ends : Nat} {a_t_bestHands : Nat} {a_t_traces : Nat} {t_manyActs : Int32} {t_status : Int32} {t_tapeLong : Int32} {t_fault : Int32} {t_tokenAt : Int32} {t_tokenLong : Int32} {t_token : Int32} {t_value : Int32} {t_winner : Int32} {t_throwsOf : Int32} {t_handA : Int32} {t_handB : Int32} {t_fewestSo : Int32} {t_traced : Int32} {t_now : (Nat → Int32)} {l1 : Int32} {l2 : Int32} {s1 : Int32} {rf : Int32 × Int32 × Int32 × Int32} (hQ : ZQv E (zty cI cB cZ) [(a_t, .inr (9, [.ref a_t_now, .ref a_t_kept, .ref a_t_isKept, .ref a_t_acts, .int t_manyActs, .ref a_t_was, .int t_status, .ref a_t_lanes, .ref a_t_longs, .ref a_t_isThere, .ref a_t_items, .ref a_t_copied, .ref a_t_tape, .int t_tapeLong, .int t_fault, .int t_tokenAt, .int t_tokenLong, .int t_token, .int t_value, .ref a_t_readSorts, .ref a_t_readHands, .int rf.1, .int rf.2.1, .int rf.2.2.1, .int rf.2.2.2, .ref a_t_inTurn, .ref a_t_ends, .ref a_t_bestHands, .int t_fewestSo, .ref a_t_traces, .int t_traced])), (a_t_now, .inl (cI, 27, .inl t_now))]) (hR : o_X9_play_68 N t_handA t_now l1 l2 s1 = some rf) : Z E (0, 0) [(0, .ref a_t), (1, .int l1), (2, .int l2)] 68 [.int s1, .ref a_t] [(a_t, .inr (9, [.ref a_t_now, .ref a_t_kept, .ref a_t_isKept, .ref a_t_acts, .int t_manyActs, .ref a_t_was, .int t_status, .ref a_t_lanes, .ref a_t_longs, .ref a_t_isThere, .ref a_t_items, .ref a_t_copied, .ref a_t_tape, .int t_tapeLong, .int t_fault, .int t_tokenAt, .int t_tokenLong, .int t_token, .int t_value, .ref a_t_readSorts, .ref a_t_readHands, .int t_winner, .int t_throwsOf, .int t_handA, .int t_handB, .ref a_t_inTurn, .ref a_t_ends, .ref a_t_bestHands, .int t_fewestSo, .ref a_t_traces, .int t_traced])), (a_t_now, .inl (cI, 27, .inl t_now))] := by
  rw [o_X9_play_68] at hR
  refine z_put hC iX9_play_X9 tyX9_ok nmX9 rfl 0 24 rfl (by decide) mX9_play_3 rfl rfl rfl rfl (Nat.le_of_ble_eq_true rfl) dX9_play_68 ?_
  refine z_aload_n hC dX9_play_71 rfl 0 rfl ?_
  refine z_ic1 hC dX9_play_72 ?_
  refine z_put hC iX9_play_X9 tyX9_ok nmX9 rfl 0 22 rfl (by decide) mX9_play_4 rfl rfl rfl rfl (Nat.le_of_ble_eq_true rfl) dX9_play_73 ?_
  exact z_X9_play_76 hC hN (N := N) (a_t := a_t) (a_t_now := a_t_now) (a_t_kept := a_t_kept) (a_t_isKept := a_t_isKept) (a_t_acts := a_t_acts) (a_t_was := a_t_was) (a_t_lanes := a_t_lanes) (a_t_longs := a_t_longs) (a_t_isThere := a_t_isThere) (a_t_items := a_t_items) (a_t_copied := a_t_copied) (a_t_tape := a_t_tape) (a_t_readSorts := a_t_readSorts) (a_t_readHands := a_t_readHands) (a_t_inTurn := a_t_inTurn) (a_t_ends := a_t_ends) (a_t_bestHands := a_t_bestHands) (a_t_traces := a_t_traces) (t_manyActs := t_manyActs) (t_status := t_status) (t_tapeLong := t_tapeLong) (t_fault := t_fault) (t_tokenAt := t_tokenAt) (t_tokenLong := t_tokenLong) (t_token := t_token) (t_value := t_value) (t_winner := t_winner) (t_fewestSo := t_fewestSo) (t_traced := t_traced) (t_now := t_now) (l1 := l1) (l2 := l2) hQ  N 1 t_handA s1 hR
set_option maxHeartbeats 4000000 in
set_option maxRecDepth 100000 in
theorem z_X9_play_43 {sK sV : Nat → Nat} {E : ZE} {cI cB cZ : ClassId} (hC : ZC E 7 cX9_play wsX9_play RX9 rmX9_play none (zty cI cB cZ)) (hN : ZN sK sV (zA E) (zs E)) {N : Nat} {a_t : Nat} {a_t_now : Nat} {a_t_kept : Nat} {a_t_isKept : Nat} {a_t_acts : Nat} {a_t_was : Nat} {a_t_lanes : Nat} {a_t_longs : Nat} {a_t_isThere : Nat} {a_t_items : Nat} {a_t_copied : Nat} {a_t_tape : Nat} {a_t_readSorts : Nat} {a_t_readHands : Nat} {a_t_inTurn : Nat} {a_t_ends : Nat} {a_t_bestHands : Nat} {a_t_traces : Nat} {t_manyActs : Int32} {t_status : Int32} {t_tapeLong : Int32} {t_fault : Int32} {t_tokenAt : Int32} {t_tokenLong : Int32} {t_token : Int32} {t_value : Int32} {t_winner : Int32} {t_throwsOf : Int32} {t_handA : Int32} {t_handB : Int32} {t_fewestSo : Int32} {t_traced : Int32} {t_now : (Nat → Int32)} {l1 : Int32} {l2 : Int32} {l3 : Int32} {l4 : Int32} {s1 : Int32} {rf : Int32 × Int32 × Int32 × Int32} (hQ : ZQv E (zty cI cB cZ) [(a_t, .inr (9, [.ref a_t_now, .ref a_t_kept, .ref a_t_isKept, .ref a_t_acts, .int t_manyActs, .ref a_t_was, .int t_status, .ref a_t_lanes, .ref a_t_longs, .ref a_t_isThere, .ref a_t_items, .ref a_t_copied, .ref a_t_tape, .int t_tapeLong, .int t_fault, .int t_tokenAt, .int t_tokenLong, .int t_token, .int t_value, .ref a_t_readSorts, .ref a_t_readHands, .int rf.1, .int rf.2.1, .int rf.2.2.1, .int rf.2.2.2, .ref a_t_inTurn, .ref a_t_ends, .ref a_t_bestHands, .int t_fewestSo, .ref a_t_traces, .int t_traced])), (a_t_now, .inl (cI, 27, .inl t_now))]) (hR : o_X9_play_43 N t_now l1 l2 l3 l4 s1 = some rf) : Z E (0, 0) [(0, .ref a_t), (1, .int l1), (2, .int l2), (3, .int l3), (4, .int l4)] 43 [.int s1, .ref a_t] [(a_t, .inr (9, [.ref a_t_now, .ref a_t_kept, .ref a_t_isKept, .ref a_t_acts, .int t_manyActs, .ref a_t_was, .int t_status, .ref a_t_lanes, .ref a_t_longs, .ref a_t_isThere, .ref a_t_items, .ref a_t_copied, .ref a_t_tape, .int t_tapeLong, .int t_fault, .int t_tokenAt, .int t_tokenLong, .int t_token, .int t_value, .ref a_t_readSorts, .ref a_t_readHands, .int t_winner, .int t_throwsOf, .int t_handA, .int t_handB, .ref a_t_inTurn, .ref a_t_ends, .ref a_t_bestHands, .int t_fewestSo, .ref a_t_traces, .int t_traced])), (a_t_now, .inl (cI, 27, .inl t_now))] := by
  rw [o_X9_play_43] at hR
  refine z_put hC iX9_play_X9 tyX9_ok nmX9 rfl 0 23 rfl (by decide) mX9_play_2 rfl rfl rfl rfl (Nat.le_of_ble_eq_true rfl) dX9_play_43 ?_
  refine z_aload_n hC dX9_play_46 rfl 0 rfl ?_
  refine z_aload_n hC dX9_play_47 rfl 0 rfl ?_
  refine z_get hC iX9_play_X9 rfl 0 0 rfl (by decide) mX9_play_1 rfl rfl dX9_play_48 ?_
  refine z_ic1 hC dX9_play_51 ?_
  refine z_iload_n hC dX9_play_52 rfl 2 rfl ?_
  refine z_iadd hC dX9_play_53 ?_
  refine z_iald hC 1 0 rfl rfl dX9_play_54 hR (fun hR => ?_)
  refine z_ic5 hC dX9_play_55 ?_
  refine z_icmp_ne hC 66 dX9_play_56 (by decide) hR (fun hR => ?_) (fun hR => ?_)
  · refine z_iload hC dX9_play_66 4 rfl ?_
    refine z_sub (lv' := [(0, .ref a_t), (1, .int l1), (2, .int l2)]) [0, 1, 2] rfl ?_
    exact z_X9_play_68 hC hN (N := N) (a_t := a_t) (a_t_now := a_t_now) (a_t_kept := a_t_kept) (a_t_isKept := a_t_isKept) (a_t_acts := a_t_acts) (a_t_was := a_t_was) (a_t_lanes := a_t_lanes) (a_t_longs := a_t_longs) (a_t_isThere := a_t_isThere) (a_t_items := a_t_items) (a_t_copied := a_t_copied) (a_t_tape := a_t_tape) (a_t_readSorts := a_t_readSorts) (a_t_readHands := a_t_readHands) (a_t_inTurn := a_t_inTurn) (a_t_ends := a_t_ends) (a_t_bestHands := a_t_bestHands) (a_t_traces := a_t_traces) (t_manyActs := t_manyActs) (t_status := t_status) (t_tapeLong := t_tapeLong) (t_fault := t_fault) (t_tokenAt := t_tokenAt) (t_tokenLong := t_tokenLong) (t_token := t_token) (t_value := t_value) (t_winner := t_winner) (t_throwsOf := t_throwsOf) (t_handA := s1) (t_handB := t_handB) (t_fewestSo := t_fewestSo) (t_traced := t_traced) (t_now := t_now) (l1 := l1) (l2 := l2) (s1 := l4) hQ  hR
  · refine z_iload_n hC dX9_play_59 rfl 3 rfl ?_
    refine z_callSi_p hC hN [.int l3] [] (c_X9_next (l := zl E) (D := zD E) (cI := cI) (cB := cB) (cZ := cZ) (N := N) (l0 := l3)) rfl ⟨rfl, rfl⟩ gX9_play_X9_next hsX9_next ⟨Nat.le_of_ble_eq_true rfl, Nat.le_of_ble_eq_true rfl⟩ ⟨Nat.zero_le _, Nat.zero_le _⟩ rfl (Nat.le_of_ble_eq_true rfl) rfl (by decide) dX9_play_60 hR (fun r60 hR => ?_)
    refine z_goto hC 68 dX9_play_63 (by decide) ?_
    refine z_sub (lv' := [(0, .ref a_t), (1, .int l1), (2, .int l2)]) [0, 1, 2] rfl ?_
    exact z_X9_play_68 hC hN (N := N) (a_t := a_t) (a_t_now := a_t_now) (a_t_kept := a_t_kept) (a_t_isKept := a_t_isKept) (a_t_acts := a_t_acts) (a_t_was := a_t_was) (a_t_lanes := a_t_lanes) (a_t_longs := a_t_longs) (a_t_isThere := a_t_isThere) (a_t_items := a_t_items) (a_t_copied := a_t_copied) (a_t_tape := a_t_tape) (a_t_readSorts := a_t_readSorts) (a_t_readHands := a_t_readHands) (a_t_inTurn := a_t_inTurn) (a_t_ends := a_t_ends) (a_t_bestHands := a_t_bestHands) (a_t_traces := a_t_traces) (t_manyActs := t_manyActs) (t_status := t_status) (t_tapeLong := t_tapeLong) (t_fault := t_fault) (t_tokenAt := t_tokenAt) (t_tokenLong := t_tokenLong) (t_token := t_token) (t_value := t_value) (t_winner := t_winner) (t_throwsOf := t_throwsOf) (t_handA := s1) (t_handB := t_handB) (t_fewestSo := t_fewestSo) (t_traced := t_traced) (t_now := t_now) (l1 := l1) (l2 := l2) (s1 := r60) hQ  hR
set_option maxHeartbeats 4000000 in
set_option maxRecDepth 100000 in
theorem z_X9_play_0 {sK sV : Nat → Nat} {E : ZE} {cI cB cZ : ClassId} (hC : ZC E 7 cX9_play wsX9_play RX9 rmX9_play none (zty cI cB cZ)) (hN : ZN sK sV (zA E) (zs E)) {N : Nat} {a_t : Nat} {a_t_now : Nat} {a_t_kept : Nat} {a_t_isKept : Nat} {a_t_acts : Nat} {a_t_was : Nat} {a_t_lanes : Nat} {a_t_longs : Nat} {a_t_isThere : Nat} {a_t_items : Nat} {a_t_copied : Nat} {a_t_tape : Nat} {a_t_readSorts : Nat} {a_t_readHands : Nat} {a_t_inTurn : Nat} {a_t_ends : Nat} {a_t_bestHands : Nat} {a_t_traces : Nat} {t_manyActs : Int32} {t_status : Int32} {t_tapeLong : Int32} {t_fault : Int32} {t_tokenAt : Int32} {t_tokenLong : Int32} {t_token : Int32} {t_value : Int32} {t_winner : Int32} {t_throwsOf : Int32} {t_handA : Int32} {t_handB : Int32} {t_fewestSo : Int32} {t_traced : Int32} {t_now : (Nat → Int32)} {l1 : Int32} {l2 : Int32} {rf : Int32 × Int32 × Int32 × Int32} (hQ : ZQv E (zty cI cB cZ) [(a_t, .inr (9, [.ref a_t_now, .ref a_t_kept, .ref a_t_isKept, .ref a_t_acts, .int t_manyActs, .ref a_t_was, .int t_status, .ref a_t_lanes, .ref a_t_longs, .ref a_t_isThere, .ref a_t_items, .ref a_t_copied, .ref a_t_tape, .int t_tapeLong, .int t_fault, .int t_tokenAt, .int t_tokenLong, .int t_token, .int t_value, .ref a_t_readSorts, .ref a_t_readHands, .int rf.1, .int rf.2.1, .int rf.2.2.1, .int rf.2.2.2, .ref a_t_inTurn, .ref a_t_ends, .ref a_t_bestHands, .int t_fewestSo, .ref a_t_traces, .int t_traced])), (a_t_now, .inl (cI, 27, .inl t_now))]) (hR : o_X9_play N t_now l1 l2 = some rf) : Z E (0, 0) [(0, .ref a_t), (1, .int l1), (2, .int l2)] 0 [] [(a_t, .inr (9, [.ref a_t_now, .ref a_t_kept, .ref a_t_isKept, .ref a_t_acts, .int t_manyActs, .ref a_t_was, .int t_status, .ref a_t_lanes, .ref a_t_longs, .ref a_t_isThere, .ref a_t_items, .ref a_t_copied, .ref a_t_tape, .int t_tapeLong, .int t_fault, .int t_tokenAt, .int t_tokenLong, .int t_token, .int t_value, .ref a_t_readSorts, .ref a_t_readHands, .int t_winner, .int t_throwsOf, .int t_handA, .int t_handB, .ref a_t_inTurn, .ref a_t_ends, .ref a_t_bestHands, .int t_fewestSo, .ref a_t_traces, .int t_traced])), (a_t_now, .inl (cI, 27, .inl t_now))] := by
  rw [o_X9_play] at hR
  refine z_aload_n hC dX9_play_0 rfl 0 rfl ?_
  refine z_get hC iX9_play_X9 rfl 0 0 rfl (by decide) mX9_play_1 rfl rfl dX9_play_1 ?_
  refine z_bipush (v := 9) hC dX9_play_4 (by decide) ?_
  refine z_iload_n hC dX9_play_6 rfl 1 rfl ?_
  refine z_iadd hC dX9_play_7 ?_
  refine z_iald hC 1 0 rfl rfl dX9_play_8 hR (fun hR => ?_)
  refine z_istore_n hC [(3, .int (t_now (Int32.toNatClampNeg (9 + l1)))), (0, .ref a_t), (1, .int l1), (2, .int l2)] dX9_play_9 rfl (by decide) rfl ?_
  refine z_aload_n hC dX9_play_10 rfl 1 rfl ?_
  refine z_get hC iX9_play_X9 rfl 0 0 rfl (by decide) mX9_play_1 rfl rfl dX9_play_11 ?_
  refine z_bipush (v := 9) hC dX9_play_14 (by decide) ?_
  refine z_iload_n hC dX9_play_16 rfl 3 rfl ?_
  refine z_iadd hC dX9_play_17 ?_
  refine z_iald hC 1 0 rfl rfl dX9_play_18 hR (fun hR => ?_)
  refine z_istore hC [(4, .int (t_now (Int32.toNatClampNeg (9 + l2)))), (3, .int (t_now (Int32.toNatClampNeg (9 + l1)))), (0, .ref a_t), (1, .int l1), (2, .int l2)] dX9_play_19 (by decide) rfl ?_
  refine z_aload_n hC dX9_play_21 rfl 2 rfl ?_
  refine z_aload_n hC dX9_play_22 rfl 2 rfl ?_
  refine z_get hC iX9_play_X9 rfl 0 0 rfl (by decide) mX9_play_1 rfl rfl dX9_play_23 ?_
  refine z_ic1 hC dX9_play_26 ?_
  refine z_iload_n hC dX9_play_27 rfl 3 rfl ?_
  refine z_iadd hC dX9_play_28 ?_
  refine z_iald hC 1 0 rfl rfl dX9_play_29 hR (fun hR => ?_)
  refine z_ic5 hC dX9_play_30 ?_
  refine z_icmp_ne hC 42 dX9_play_31 (by decide) hR (fun hR => ?_) (fun hR => ?_)
  · refine z_iload_n hC dX9_play_42 rfl 1 rfl ?_
    refine z_sub (lv' := [(0, .ref a_t), (1, .int l1), (2, .int l2), (3, .int (t_now (Int32.toNatClampNeg (9 + l1)))), (4, .int (t_now (Int32.toNatClampNeg (9 + l2))))]) [2, 3, 4, 1, 0] rfl ?_
    exact z_X9_play_43 hC hN (N := N) (a_t := a_t) (a_t_now := a_t_now) (a_t_kept := a_t_kept) (a_t_isKept := a_t_isKept) (a_t_acts := a_t_acts) (a_t_was := a_t_was) (a_t_lanes := a_t_lanes) (a_t_longs := a_t_longs) (a_t_isThere := a_t_isThere) (a_t_items := a_t_items) (a_t_copied := a_t_copied) (a_t_tape := a_t_tape) (a_t_readSorts := a_t_readSorts) (a_t_readHands := a_t_readHands) (a_t_inTurn := a_t_inTurn) (a_t_ends := a_t_ends) (a_t_bestHands := a_t_bestHands) (a_t_traces := a_t_traces) (t_manyActs := t_manyActs) (t_status := t_status) (t_tapeLong := t_tapeLong) (t_fault := t_fault) (t_tokenAt := t_tokenAt) (t_tokenLong := t_tokenLong) (t_token := t_token) (t_value := t_value) (t_winner := t_winner) (t_throwsOf := t_throwsOf) (t_handA := t_handA) (t_handB := t_handB) (t_fewestSo := t_fewestSo) (t_traced := t_traced) (t_now := t_now) (l1 := l1) (l2 := l2) (l3 := (t_now (Int32.toNatClampNeg (9 + l1)))) (l4 := (t_now (Int32.toNatClampNeg (9 + l2)))) (s1 := (t_now (Int32.toNatClampNeg (9 + l1)))) hQ  hR
  · refine z_iload hC dX9_play_34 0 rfl ?_
    refine z_callSi_p hC hN [.int (t_now (Int32.toNatClampNeg (9 + l2)))] [] (c_X9_next (l := zl E) (D := zD E) (cI := cI) (cB := cB) (cZ := cZ) (N := N) (l0 := (t_now (Int32.toNatClampNeg (9 + l2))))) rfl ⟨rfl, rfl⟩ gX9_play_X9_next hsX9_next ⟨Nat.le_of_ble_eq_true rfl, Nat.le_of_ble_eq_true rfl⟩ ⟨Nat.zero_le _, Nat.zero_le _⟩ rfl (Nat.le_of_ble_eq_true rfl) rfl (by decide) dX9_play_36 hR (fun r36 hR => ?_)
    refine z_goto hC 43 dX9_play_39 (by decide) ?_
    refine z_sub (lv' := [(0, .ref a_t), (1, .int l1), (2, .int l2), (3, .int (t_now (Int32.toNatClampNeg (9 + l1)))), (4, .int (t_now (Int32.toNatClampNeg (9 + l2))))]) [2, 3, 4, 1, 0] rfl ?_
    exact z_X9_play_43 hC hN (N := N) (a_t := a_t) (a_t_now := a_t_now) (a_t_kept := a_t_kept) (a_t_isKept := a_t_isKept) (a_t_acts := a_t_acts) (a_t_was := a_t_was) (a_t_lanes := a_t_lanes) (a_t_longs := a_t_longs) (a_t_isThere := a_t_isThere) (a_t_items := a_t_items) (a_t_copied := a_t_copied) (a_t_tape := a_t_tape) (a_t_readSorts := a_t_readSorts) (a_t_readHands := a_t_readHands) (a_t_inTurn := a_t_inTurn) (a_t_ends := a_t_ends) (a_t_bestHands := a_t_bestHands) (a_t_traces := a_t_traces) (t_manyActs := t_manyActs) (t_status := t_status) (t_tapeLong := t_tapeLong) (t_fault := t_fault) (t_tokenAt := t_tokenAt) (t_tokenLong := t_tokenLong) (t_token := t_token) (t_value := t_value) (t_winner := t_winner) (t_throwsOf := t_throwsOf) (t_handA := t_handA) (t_handB := t_handB) (t_fewestSo := t_fewestSo) (t_traced := t_traced) (t_now := t_now) (l1 := l1) (l2 := l2) (l3 := (t_now (Int32.toNatClampNeg (9 + l1)))) (l4 := (t_now (Int32.toNatClampNeg (9 + l2)))) (s1 := r36) hQ  hR
set_option maxHeartbeats 4000000 in
set_option maxRecDepth 100000 in
theorem c_X9_play {sK sV : Nat → Nat} {l : Launch} {D : va_G} {cI cB cZ : ClassId} {N : Nat} {a_t : Nat} {a_t_now : Nat} {a_t_kept : Nat} {a_t_isKept : Nat} {a_t_acts : Nat} {a_t_was : Nat} {a_t_lanes : Nat} {a_t_longs : Nat} {a_t_isThere : Nat} {a_t_items : Nat} {a_t_copied : Nat} {a_t_tape : Nat} {a_t_readSorts : Nat} {a_t_readHands : Nat} {a_t_inTurn : Nat} {a_t_ends : Nat} {a_t_bestHands : Nat} {a_t_traces : Nat} {t_manyActs : Int32} {t_status : Int32} {t_tapeLong : Int32} {t_fault : Int32} {t_tokenAt : Int32} {t_tokenLong : Int32} {t_token : Int32} {t_value : Int32} {t_winner : Int32} {t_throwsOf : Int32} {t_handA : Int32} {t_handB : Int32} {t_fewestSo : Int32} {t_traced : Int32} {t_now : (Nat → Int32)} {l1 : Int32} {l2 : Int32} : ∀ R : Int32 × Int32 × Int32 × Int32, o_X9_play N t_now l1 l2 = some R → ZMv sK sV l yX9_play wsX9_play rmX9_play D (zty cI cB cZ) [.ref a_t, .int l1, .int l2] [(a_t, .inr (9, [.ref a_t_now, .ref a_t_kept, .ref a_t_isKept, .ref a_t_acts, .int t_manyActs, .ref a_t_was, .int t_status, .ref a_t_lanes, .ref a_t_longs, .ref a_t_isThere, .ref a_t_items, .ref a_t_copied, .ref a_t_tape, .int t_tapeLong, .int t_fault, .int t_tokenAt, .int t_tokenLong, .int t_token, .int t_value, .ref a_t_readSorts, .ref a_t_readHands, .int t_winner, .int t_throwsOf, .int t_handA, .int t_handB, .ref a_t_inTurn, .ref a_t_ends, .ref a_t_bestHands, .int t_fewestSo, .ref a_t_traces, .int t_traced])), (a_t_now, .inl (cI, 27, .inl t_now))] [(a_t, .inr (9, [.ref a_t_now, .ref a_t_kept, .ref a_t_isKept, .ref a_t_acts, .int t_manyActs, .ref a_t_was, .int t_status, .ref a_t_lanes, .ref a_t_longs, .ref a_t_isThere, .ref a_t_items, .ref a_t_copied, .ref a_t_tape, .int t_tapeLong, .int t_fault, .int t_tokenAt, .int t_tokenLong, .int t_token, .int t_value, .ref a_t_readSorts, .ref a_t_readHands, .int R.1, .int R.2.1, .int R.2.2.1, .int R.2.2.2, .ref a_t_inTurn, .ref a_t_ends, .ref a_t_bestHands, .int t_fewestSo, .ref a_t_traces, .int t_traced])), (a_t_now, .inl (cI, 27, .inl t_now))] := by
  intro R hR
  refine zv_of (cc := cX9_play) (maxL := 7) (ret := none) (by decide) rfl (Nat.le_of_ble_eq_true rfl) (fun E hE1 hE2 hC hN hQ => ?_)
  subst hE1 hE2
  exact z_X9_play_0 hC hN (N := N) (a_t := a_t) (a_t_now := a_t_now) (a_t_kept := a_t_kept) (a_t_isKept := a_t_isKept) (a_t_acts := a_t_acts) (a_t_was := a_t_was) (a_t_lanes := a_t_lanes) (a_t_longs := a_t_longs) (a_t_isThere := a_t_isThere) (a_t_items := a_t_items) (a_t_copied := a_t_copied) (a_t_tape := a_t_tape) (a_t_readSorts := a_t_readSorts) (a_t_readHands := a_t_readHands) (a_t_inTurn := a_t_inTurn) (a_t_ends := a_t_ends) (a_t_bestHands := a_t_bestHands) (a_t_traces := a_t_traces) (t_manyActs := t_manyActs) (t_status := t_status) (t_tapeLong := t_tapeLong) (t_fault := t_fault) (t_tokenAt := t_tokenAt) (t_tokenLong := t_tokenLong) (t_token := t_token) (t_value := t_value) (t_winner := t_winner) (t_throwsOf := t_throwsOf) (t_handA := t_handA) (t_handB := t_handB) (t_fewestSo := t_fewestSo) (t_traced := t_traced) (t_now := t_now) (l1 := l1) (l2 := l2) hQ hR

/-! FistTrainsModel.join -/
abbrev rmX9_join : Room := { frames := 1, cells := 0, slots := 0, locals := 20 }
set_option maxRecDepth 20000 in
theorem iX9_join_X9 : ∀ w ∈ wsX90, w ∈ wsX9_join := by decide +kernel
set_option maxRecDepth 20000 in
theorem mX9_join_1 : Cond.fieldLink RX9 7 "FistTrainsModel" "now" "[I" ∈ wsX9_join := List.mem_of_getElem? (i := 1) rfl
def o_X9_join_37 (N : Nat) (l5 : Int32) (l6 : Int32) : Nat → (Nat → Int32) → Int32 → Option ((Nat → Int32))
  | 0 => fun _ _ => none
  | n + 1 => fun t_now l7 => 
    Option.bind (o_X9_players N t_now) (fun r40 =>
    if r40 ≤ l7 then
      some (t_now)
    else
      ogd (inb (17 + l7) 27) (
      if (t_now (Int32.toNatClampNeg (17 + l7))) = l6 then
        ogd (inb (17 + l7) 27) (
        o_X9_join_37 N l5 l6 n (upd t_now (Int32.toNatClampNeg (17 + l7)) l5) (l7 + 1))
      else
        ogd (inb (17 + l7) 27) (
        ogd (inb (17 + l7) 27) (
        o_X9_join_37 N l5 l6 n (upd t_now (Int32.toNatClampNeg (17 + l7)) (t_now (Int32.toNatClampNeg (17 + l7)))) (l7 + 1)))))
def o_X9_join (N : Nat) (t_now : (Nat → Int32)) (l1 : Int32) (l2 : Int32) (l3 : Int32) (l4 : Int32) (l5 : Int32) : Option ((Nat → Int32)) :=
  ogd (inb (9 + l1) 27) (
  ogd (inb (9 + l2) 27) (
  if l5 = l1 then
    o_X9_join_37 N l5 l2 N (upd (upd t_now (Int32.toNatClampNeg (9 + l1)) l3) (Int32.toNatClampNeg (9 + l2)) l4) 0
  else
    o_X9_join_37 N l5 l1 N (upd (upd t_now (Int32.toNatClampNeg (9 + l1)) l3) (Int32.toNatClampNeg (9 + l2)) l4) 0))
set_option maxHeartbeats 4000000 in
set_option maxRecDepth 100000 in
theorem z_X9_join_37 {sK sV : Nat → Nat} {E : ZE} {cI cB cZ : ClassId} (hC : ZC E 8 cX9_join wsX9_join RX9 rmX9_join none (zty cI cB cZ)) (hN : ZN sK sV (zA E) (zs E)) {N : Nat} {a_t : Nat} {a_t_now : Nat} {a_t_kept : Nat} {a_t_isKept : Nat} {a_t_acts : Nat} {a_t_was : Nat} {a_t_lanes : Nat} {a_t_longs : Nat} {a_t_isThere : Nat} {a_t_items : Nat} {a_t_copied : Nat} {a_t_tape : Nat} {a_t_readSorts : Nat} {a_t_readHands : Nat} {a_t_inTurn : Nat} {a_t_ends : Nat} {a_t_bestHands : Nat} {a_t_traces : Nat} {t_manyActs : Int32} {t_status : Int32} {t_tapeLong : Int32} {t_fault : Int32} {t_tokenAt : Int32} {t_tokenLong : Int32} {t_token : Int32} {t_value : Int32} {t_winner : Int32} {t_throwsOf : Int32} {t_handA : Int32} {t_handB : Int32} {t_fewestSo : Int32} {t_traced : Int32} {l5 : Int32} {l6 : Int32} {rf : (Nat → Int32)} (hQ : ZQv E (zty cI cB cZ) [(a_t, .inr (9, [.ref a_t_now, .ref a_t_kept, .ref a_t_isKept, .ref a_t_acts, .int t_manyActs, .ref a_t_was, .int t_status, .ref a_t_lanes, .ref a_t_longs, .ref a_t_isThere, .ref a_t_items, .ref a_t_copied, .ref a_t_tape, .int t_tapeLong, .int t_fault, .int t_tokenAt, .int t_tokenLong, .int t_token, .int t_value, .ref a_t_readSorts, .ref a_t_readHands, .int t_winner, .int t_throwsOf, .int t_handA, .int t_handB, .ref a_t_inTurn, .ref a_t_ends, .ref a_t_bestHands, .int t_fewestSo, .ref a_t_traces, .int t_traced])), (a_t_now, .inl (cI, 27, .inl rf))]) : ∀ (n : Nat) (t_now : (Nat → Int32)) (l7 : Int32), o_X9_join_37 N l5 l6 n t_now l7 = some rf → Z E (0, 0) [(0, .ref a_t), (5, .int l5), (6, .int l6), (7, .int l7)] 37 [] [(a_t, .inr (9, [.ref a_t_now, .ref a_t_kept, .ref a_t_isKept, .ref a_t_acts, .int t_manyActs, .ref a_t_was, .int t_status, .ref a_t_lanes, .ref a_t_longs, .ref a_t_isThere, .ref a_t_items, .ref a_t_copied, .ref a_t_tape, .int t_tapeLong, .int t_fault, .int t_tokenAt, .int t_tokenLong, .int t_token, .int t_value, .ref a_t_readSorts, .ref a_t_readHands, .int t_winner, .int t_throwsOf, .int t_handA, .int t_handB, .ref a_t_inTurn, .ref a_t_ends, .ref a_t_bestHands, .int t_fewestSo, .ref a_t_traces, .int t_traced])), (a_t_now, .inl (cI, 27, .inl t_now))] := by
  intro n
  induction n with
  | zero =>
    intro t_now l7 hR
    cases hR
  | succ n ih =>
    intro t_now l7 hR
    rw [o_X9_join_37] at hR
    refine z_iload hC dX9_join_37 3 rfl ?_
    refine z_aload_n hC dX9_join_39 rfl 0 rfl ?_
    refine z_callVi_p hC hN [] [0, 1] (c_X9_players (l := zl E) (D := zD E) (cI := cI) (cB := cB) (cZ := cZ) (N := N) (a_t := a_t) (a_t_now := a_t_now) (a_t_kept := a_t_kept) (a_t_isKept := a_t_isKept) (a_t_acts := a_t_acts) (a_t_was := a_t_was) (a_t_lanes := a_t_lanes) (a_t_longs := a_t_longs) (a_t_isThere := a_t_isThere) (a_t_items := a_t_items) (a_t_copied := a_t_copied) (a_t_tape := a_t_tape) (a_t_readSorts := a_t_readSorts) (a_t_readHands := a_t_readHands) (a_t_inTurn := a_t_inTurn) (a_t_ends := a_t_ends) (a_t_bestHands := a_t_bestHands) (a_t_traces := a_t_traces) (t_manyActs := t_manyActs) (t_status := t_status) (t_tapeLong := t_tapeLong) (t_fault := t_fault) (t_tokenAt := t_tokenAt) (t_tokenLong := t_tokenLong) (t_token := t_token) (t_value := t_value) (t_winner := t_winner) (t_throwsOf := t_throwsOf) (t_handA := t_handA) (t_handB := t_handB) (t_fewestSo := t_fewestSo) (t_traced := t_traced) (t_now := t_now)) rfl ⟨rfl, rfl⟩ gX9_join_X9_players hvX9_players 0 9 rfl rfl rfl ⟨Nat.le_of_ble_eq_true rfl, Nat.le_of_ble_eq_true rfl⟩ ⟨Nat.zero_le _, Nat.zero_le _⟩ rfl (Nat.le_of_ble_eq_true rfl) rfl (by decide) dX9_join_40 hR (fun r40 hR => ?_)
    refine z_icmp_ge hC 92 dX9_join_43 (by decide) hR (fun hR => ?_) (fun hR => ?_)
    · obtain rfl := Option.some.inj hR
      exact z_vret hC hQ rfl dX9_join_92
    · refine z_aload_n hC dX9_join_46 rfl 0 rfl ?_
      refine z_get hC iX9_join_X9 rfl 0 0 rfl (by decide) mX9_join_1 rfl rfl dX9_join_47 ?_
      refine z_bipush (v := 17) hC dX9_join_50 (by decide) ?_
      refine z_iload hC dX9_join_52 3 rfl ?_
      refine z_iadd hC dX9_join_54 ?_
      refine z_aload_n hC dX9_join_55 rfl 0 rfl ?_
      refine z_get hC iX9_join_X9 rfl 0 0 rfl (by decide) mX9_join_1 rfl rfl dX9_join_56 ?_
      refine z_bipush (v := 17) hC dX9_join_59 (by decide) ?_
      refine z_iload hC dX9_join_61 3 rfl ?_
      refine z_iadd hC dX9_join_63 ?_
      refine z_iald hC 1 0 rfl rfl dX9_join_64 hR (fun hR => ?_)
      refine z_iload hC dX9_join_65 2 rfl ?_
      refine z_icmp_ne hC 75 dX9_join_67 (by decide) hR (fun hR => ?_) (fun hR => ?_)
      · refine z_aload_n hC dX9_join_75 rfl 0 rfl ?_
        refine z_get hC iX9_join_X9 rfl 0 0 rfl (by decide) mX9_join_1 rfl rfl dX9_join_76 ?_
        refine z_bipush (v := 17) hC dX9_join_79 (by decide) ?_
        refine z_iload hC dX9_join_81 3 rfl ?_
        refine z_iadd hC dX9_join_83 ?_
        refine z_iald hC 1 0 rfl rfl dX9_join_84 hR (fun hR => ?_)
        refine z_iast hC 1 0 rfl rfl dX9_join_85 hR (fun hR => ?_)
        refine z_iinc1 hC [(7, .int (l7 + 1)), (0, .ref a_t), (5, .int l5), (6, .int l6)] dX9_join_86 3 rfl (by decide) rfl ?_
        refine z_goto hC 37 dX9_join_89 (by decide) ?_
        refine z_sub (lv' := [(0, .ref a_t), (5, .int l5), (6, .int l6), (7, .int (l7 + 1))]) [1, 2, 3, 0] rfl ?_
        exact ih (upd t_now (Int32.toNatClampNeg (17 + l7)) (t_now (Int32.toNatClampNeg (17 + l7)))) (l7 + 1) hR
      · refine z_iload hC dX9_join_70 1 rfl ?_
        refine z_goto hC 85 dX9_join_72 (by decide) ?_
        refine z_iast hC 1 0 rfl rfl dX9_join_85 hR (fun hR => ?_)
        refine z_iinc1 hC [(7, .int (l7 + 1)), (0, .ref a_t), (5, .int l5), (6, .int l6)] dX9_join_86 3 rfl (by decide) rfl ?_
        refine z_goto hC 37 dX9_join_89 (by decide) ?_
        refine z_sub (lv' := [(0, .ref a_t), (5, .int l5), (6, .int l6), (7, .int (l7 + 1))]) [1, 2, 3, 0] rfl ?_
        exact ih (upd t_now (Int32.toNatClampNeg (17 + l7)) l5) (l7 + 1) hR
set_option maxHeartbeats 4000000 in
set_option maxRecDepth 100000 in
theorem z_X9_join_0 {sK sV : Nat → Nat} {E : ZE} {cI cB cZ : ClassId} (hC : ZC E 8 cX9_join wsX9_join RX9 rmX9_join none (zty cI cB cZ)) (hN : ZN sK sV (zA E) (zs E)) {N : Nat} {a_t : Nat} {a_t_now : Nat} {a_t_kept : Nat} {a_t_isKept : Nat} {a_t_acts : Nat} {a_t_was : Nat} {a_t_lanes : Nat} {a_t_longs : Nat} {a_t_isThere : Nat} {a_t_items : Nat} {a_t_copied : Nat} {a_t_tape : Nat} {a_t_readSorts : Nat} {a_t_readHands : Nat} {a_t_inTurn : Nat} {a_t_ends : Nat} {a_t_bestHands : Nat} {a_t_traces : Nat} {t_manyActs : Int32} {t_status : Int32} {t_tapeLong : Int32} {t_fault : Int32} {t_tokenAt : Int32} {t_tokenLong : Int32} {t_token : Int32} {t_value : Int32} {t_winner : Int32} {t_throwsOf : Int32} {t_handA : Int32} {t_handB : Int32} {t_fewestSo : Int32} {t_traced : Int32} {t_now : (Nat → Int32)} {l1 : Int32} {l2 : Int32} {l3 : Int32} {l4 : Int32} {l5 : Int32} {rf : (Nat → Int32)} (hQ : ZQv E (zty cI cB cZ) [(a_t, .inr (9, [.ref a_t_now, .ref a_t_kept, .ref a_t_isKept, .ref a_t_acts, .int t_manyActs, .ref a_t_was, .int t_status, .ref a_t_lanes, .ref a_t_longs, .ref a_t_isThere, .ref a_t_items, .ref a_t_copied, .ref a_t_tape, .int t_tapeLong, .int t_fault, .int t_tokenAt, .int t_tokenLong, .int t_token, .int t_value, .ref a_t_readSorts, .ref a_t_readHands, .int t_winner, .int t_throwsOf, .int t_handA, .int t_handB, .ref a_t_inTurn, .ref a_t_ends, .ref a_t_bestHands, .int t_fewestSo, .ref a_t_traces, .int t_traced])), (a_t_now, .inl (cI, 27, .inl rf))]) (hR : o_X9_join N t_now l1 l2 l3 l4 l5 = some rf) : Z E (0, 0) [(0, .ref a_t), (1, .int l1), (2, .int l2), (3, .int l3), (4, .int l4), (5, .int l5)] 0 [] [(a_t, .inr (9, [.ref a_t_now, .ref a_t_kept, .ref a_t_isKept, .ref a_t_acts, .int t_manyActs, .ref a_t_was, .int t_status, .ref a_t_lanes, .ref a_t_longs, .ref a_t_isThere, .ref a_t_items, .ref a_t_copied, .ref a_t_tape, .int t_tapeLong, .int t_fault, .int t_tokenAt, .int t_tokenLong, .int t_token, .int t_value, .ref a_t_readSorts, .ref a_t_readHands, .int t_winner, .int t_throwsOf, .int t_handA, .int t_handB, .ref a_t_inTurn, .ref a_t_ends, .ref a_t_bestHands, .int t_fewestSo, .ref a_t_traces, .int t_traced])), (a_t_now, .inl (cI, 27, .inl t_now))] := by
  rw [o_X9_join] at hR
  refine z_aload_n hC dX9_join_0 rfl 0 rfl ?_
  refine z_get hC iX9_join_X9 rfl 0 0 rfl (by decide) mX9_join_1 rfl rfl dX9_join_1 ?_
  refine z_bipush (v := 9) hC dX9_join_4 (by decide) ?_
  refine z_iload_n hC dX9_join_6 rfl 1 rfl ?_
  refine z_iadd hC dX9_join_7 ?_
  refine z_iload_n hC dX9_join_8 rfl 3 rfl ?_
  refine z_iast hC 1 0 rfl rfl dX9_join_9 hR (fun hR => ?_)
  refine z_aload_n hC dX9_join_10 rfl 0 rfl ?_
  refine z_get hC iX9_join_X9 rfl 0 0 rfl (by decide) mX9_join_1 rfl rfl dX9_join_11 ?_
  refine z_bipush (v := 9) hC dX9_join_14 (by decide) ?_
  refine z_iload_n hC dX9_join_16 rfl 2 rfl ?_
  refine z_iadd hC dX9_join_17 ?_
  refine z_iload hC dX9_join_18 4 rfl ?_
  refine z_iast hC 1 0 rfl rfl dX9_join_20 hR (fun hR => ?_)
  refine z_iload hC dX9_join_21 5 rfl ?_
  refine z_iload_n hC dX9_join_23 rfl 1 rfl ?_
  refine z_icmp_ne hC 31 dX9_join_24 (by decide) hR (fun hR => ?_) (fun hR => ?_)
  · refine z_iload_n hC dX9_join_31 rfl 1 rfl ?_
    refine z_istore hC [(6, .int l1), (0, .ref a_t), (1, .int l1), (2, .int l2), (3, .int l3), (4, .int l4), (5, .int l5)] dX9_join_32 (by decide) rfl ?_
    refine z_ic0 hC dX9_join_34 ?_
    refine z_istore hC [(7, .int 0), (6, .int l1), (0, .ref a_t), (1, .int l1), (2, .int l2), (3, .int l3), (4, .int l4), (5, .int l5)] dX9_join_35 (by decide) rfl ?_
    refine z_sub (lv' := [(0, .ref a_t), (5, .int l5), (6, .int l1), (7, .int 0)]) [2, 7, 1, 0] rfl ?_
    exact z_X9_join_37 hC hN (N := N) (a_t := a_t) (a_t_now := a_t_now) (a_t_kept := a_t_kept) (a_t_isKept := a_t_isKept) (a_t_acts := a_t_acts) (a_t_was := a_t_was) (a_t_lanes := a_t_lanes) (a_t_longs := a_t_longs) (a_t_isThere := a_t_isThere) (a_t_items := a_t_items) (a_t_copied := a_t_copied) (a_t_tape := a_t_tape) (a_t_readSorts := a_t_readSorts) (a_t_readHands := a_t_readHands) (a_t_inTurn := a_t_inTurn) (a_t_ends := a_t_ends) (a_t_bestHands := a_t_bestHands) (a_t_traces := a_t_traces) (t_manyActs := t_manyActs) (t_status := t_status) (t_tapeLong := t_tapeLong) (t_fault := t_fault) (t_tokenAt := t_tokenAt) (t_tokenLong := t_tokenLong) (t_token := t_token) (t_value := t_value) (t_winner := t_winner) (t_throwsOf := t_throwsOf) (t_handA := t_handA) (t_handB := t_handB) (t_fewestSo := t_fewestSo) (t_traced := t_traced) (l5 := l5) (l6 := l1) hQ  N (upd (upd t_now (Int32.toNatClampNeg (9 + l1)) l3) (Int32.toNatClampNeg (9 + l2)) l4) 0 hR
  · refine z_iload_n hC dX9_join_27 rfl 2 rfl ?_
    refine z_goto hC 32 dX9_join_28 (by decide) ?_
    refine z_istore hC [(6, .int l2), (0, .ref a_t), (1, .int l1), (2, .int l2), (3, .int l3), (4, .int l4), (5, .int l5)] dX9_join_32 (by decide) rfl ?_
    refine z_ic0 hC dX9_join_34 ?_
    refine z_istore hC [(7, .int 0), (6, .int l2), (0, .ref a_t), (1, .int l1), (2, .int l2), (3, .int l3), (4, .int l4), (5, .int l5)] dX9_join_35 (by decide) rfl ?_
    refine z_sub (lv' := [(0, .ref a_t), (5, .int l5), (6, .int l2), (7, .int 0)]) [2, 7, 1, 0] rfl ?_
    exact z_X9_join_37 hC hN (N := N) (a_t := a_t) (a_t_now := a_t_now) (a_t_kept := a_t_kept) (a_t_isKept := a_t_isKept) (a_t_acts := a_t_acts) (a_t_was := a_t_was) (a_t_lanes := a_t_lanes) (a_t_longs := a_t_longs) (a_t_isThere := a_t_isThere) (a_t_items := a_t_items) (a_t_copied := a_t_copied) (a_t_tape := a_t_tape) (a_t_readSorts := a_t_readSorts) (a_t_readHands := a_t_readHands) (a_t_inTurn := a_t_inTurn) (a_t_ends := a_t_ends) (a_t_bestHands := a_t_bestHands) (a_t_traces := a_t_traces) (t_manyActs := t_manyActs) (t_status := t_status) (t_tapeLong := t_tapeLong) (t_fault := t_fault) (t_tokenAt := t_tokenAt) (t_tokenLong := t_tokenLong) (t_token := t_token) (t_value := t_value) (t_winner := t_winner) (t_throwsOf := t_throwsOf) (t_handA := t_handA) (t_handB := t_handB) (t_fewestSo := t_fewestSo) (t_traced := t_traced) (l5 := l5) (l6 := l2) hQ  N (upd (upd t_now (Int32.toNatClampNeg (9 + l1)) l3) (Int32.toNatClampNeg (9 + l2)) l4) 0 hR
set_option maxHeartbeats 4000000 in
set_option maxRecDepth 100000 in
theorem c_X9_join {sK sV : Nat → Nat} {l : Launch} {D : va_G} {cI cB cZ : ClassId} {N : Nat} {a_t : Nat} {a_t_now : Nat} {a_t_kept : Nat} {a_t_isKept : Nat} {a_t_acts : Nat} {a_t_was : Nat} {a_t_lanes : Nat} {a_t_longs : Nat} {a_t_isThere : Nat} {a_t_items : Nat} {a_t_copied : Nat} {a_t_tape : Nat} {a_t_readSorts : Nat} {a_t_readHands : Nat} {a_t_inTurn : Nat} {a_t_ends : Nat} {a_t_bestHands : Nat} {a_t_traces : Nat} {t_manyActs : Int32} {t_status : Int32} {t_tapeLong : Int32} {t_fault : Int32} {t_tokenAt : Int32} {t_tokenLong : Int32} {t_token : Int32} {t_value : Int32} {t_winner : Int32} {t_throwsOf : Int32} {t_handA : Int32} {t_handB : Int32} {t_fewestSo : Int32} {t_traced : Int32} {t_now : (Nat → Int32)} {l1 : Int32} {l2 : Int32} {l3 : Int32} {l4 : Int32} {l5 : Int32} : ∀ R : (Nat → Int32), o_X9_join N t_now l1 l2 l3 l4 l5 = some R → ZMv sK sV l yX9_join wsX9_join rmX9_join D (zty cI cB cZ) [.ref a_t, .int l1, .int l2, .int l3, .int l4, .int l5] [(a_t, .inr (9, [.ref a_t_now, .ref a_t_kept, .ref a_t_isKept, .ref a_t_acts, .int t_manyActs, .ref a_t_was, .int t_status, .ref a_t_lanes, .ref a_t_longs, .ref a_t_isThere, .ref a_t_items, .ref a_t_copied, .ref a_t_tape, .int t_tapeLong, .int t_fault, .int t_tokenAt, .int t_tokenLong, .int t_token, .int t_value, .ref a_t_readSorts, .ref a_t_readHands, .int t_winner, .int t_throwsOf, .int t_handA, .int t_handB, .ref a_t_inTurn, .ref a_t_ends, .ref a_t_bestHands, .int t_fewestSo, .ref a_t_traces, .int t_traced])), (a_t_now, .inl (cI, 27, .inl t_now))] [(a_t, .inr (9, [.ref a_t_now, .ref a_t_kept, .ref a_t_isKept, .ref a_t_acts, .int t_manyActs, .ref a_t_was, .int t_status, .ref a_t_lanes, .ref a_t_longs, .ref a_t_isThere, .ref a_t_items, .ref a_t_copied, .ref a_t_tape, .int t_tapeLong, .int t_fault, .int t_tokenAt, .int t_tokenLong, .int t_token, .int t_value, .ref a_t_readSorts, .ref a_t_readHands, .int t_winner, .int t_throwsOf, .int t_handA, .int t_handB, .ref a_t_inTurn, .ref a_t_ends, .ref a_t_bestHands, .int t_fewestSo, .ref a_t_traces, .int t_traced])), (a_t_now, .inl (cI, 27, .inl R))] := by
  intro R hR
  refine zv_of (cc := cX9_join) (maxL := 8) (ret := none) (by decide) rfl (Nat.le_of_ble_eq_true rfl) (fun E hE1 hE2 hC hN hQ => ?_)
  subst hE1 hE2
  exact z_X9_join_0 hC hN (N := N) (a_t := a_t) (a_t_now := a_t_now) (a_t_kept := a_t_kept) (a_t_isKept := a_t_isKept) (a_t_acts := a_t_acts) (a_t_was := a_t_was) (a_t_lanes := a_t_lanes) (a_t_longs := a_t_longs) (a_t_isThere := a_t_isThere) (a_t_items := a_t_items) (a_t_copied := a_t_copied) (a_t_tape := a_t_tape) (a_t_readSorts := a_t_readSorts) (a_t_readHands := a_t_readHands) (a_t_inTurn := a_t_inTurn) (a_t_ends := a_t_ends) (a_t_bestHands := a_t_bestHands) (a_t_traces := a_t_traces) (t_manyActs := t_manyActs) (t_status := t_status) (t_tapeLong := t_tapeLong) (t_fault := t_fault) (t_tokenAt := t_tokenAt) (t_tokenLong := t_tokenLong) (t_token := t_token) (t_value := t_value) (t_winner := t_winner) (t_throwsOf := t_throwsOf) (t_handA := t_handA) (t_handB := t_handB) (t_fewestSo := t_fewestSo) (t_traced := t_traced) (t_now := t_now) (l1 := l1) (l2 := l2) (l3 := l3) (l4 := l4) (l5 := l5) hQ hR

/-! FistTrainsModel.goRound -/
abbrev rmX9_goRound : Room := { frames := 3, cells := 0, slots := 0, locals := 70 }
set_option maxRecDepth 20000 in
theorem iX9_goRound_X9 : ∀ w ∈ wsX90, w ∈ wsX9_goRound := by decide +kernel
set_option maxRecDepth 20000 in
theorem mX9_goRound_3 : Cond.fieldLink RX9 53 "FistTrainsModel" "ends" "[I" ∈ wsX9_goRound := List.mem_of_getElem? (i := 3) rfl
set_option maxRecDepth 20000 in
theorem mX9_goRound_4 : Cond.fieldLink RX9 183 "FistTrainsModel" "handA" "I" ∈ wsX9_goRound := List.mem_of_getElem? (i := 4) rfl
set_option maxRecDepth 20000 in
theorem mX9_goRound_5 : Cond.fieldLink RX9 186 "FistTrainsModel" "handB" "I" ∈ wsX9_goRound := List.mem_of_getElem? (i := 5) rfl
set_option maxRecDepth 20000 in
theorem mX9_goRound_6 : Cond.fieldLink RX9 199 "FistTrainsModel" "winner" "I" ∈ wsX9_goRound := List.mem_of_getElem? (i := 6) rfl
set_option maxRecDepth 20000 in
theorem mX9_goRound_1 : Cond.fieldLink RX9 50 "FistTrainsModel" "inTurn" "[I" ∈ wsX9_goRound := List.mem_of_getElem? (i := 1) rfl
set_option maxRecDepth 20000 in
theorem mX9_goRound_2 : Cond.fieldLink RX9 189 "FistTrainsModel" "throwsOf" "I" ∈ wsX9_goRound := List.mem_of_getElem? (i := 2) rfl
set_option maxRecDepth 20000 in
theorem mX9_goRound_7 : Cond.fieldLink RX9 7 "FistTrainsModel" "now" "[I" ∈ wsX9_goRound := List.mem_of_getElem? (i := 7) rfl
def o_X9_goRound_81 (N : Nat) (K40 : Int32 → Int32 → Int32 → Int32 → (Nat → Int32) → Int32 → Int32 → Option (Int32 × Int32 × Int32 × Int32 × (Nat → Int32) × (Nat → Int32) × (Nat → Int32))) (t_winner : Int32) (t_throwsOf : Int32) (t_handA : Int32) (t_handB : Int32) (t_now : (Nat → Int32)) (t_inTurn : (Nat → Int32)) (t_ends : (Nat → Int32)) (l1 : Int32) (l3 : Int32) (s0 : Int32) : Option (Int32 × Int32 × Int32 × Int32 × (Nat → Int32) × (Nat → Int32) × (Nat → Int32)) :=
  ogd (inb (3 * (l3 / 2)) 12) (
  ogd (inb ((3 * (l3 / 2)) + 1) 12) (
  ogd (inb ((3 * (l3 / 2)) + 2) 12) (
  K40 t_winner t_throwsOf t_handA t_handB (upd (upd (upd t_ends (Int32.toNatClampNeg (3 * (l3 / 2))) t_handA) (Int32.toNatClampNeg ((3 * (l3 / 2)) + 1)) t_handB) (Int32.toNatClampNeg ((3 * (l3 / 2)) + 2)) t_winner) s0 (l3 + 2))))
def o_X9_goRound_136 (N : Nat) (t_winner : Int32) (t_throwsOf : Int32) (t_handA : Int32) (t_handB : Int32) (t_inTurn : (Nat → Int32)) (t_ends : (Nat → Int32)) (l1 : Int32) (l2 : Int32) : Nat → (Nat → Int32) → Int32 → Option (Int32 × Int32 × Int32 × Int32 × (Nat → Int32) × (Nat → Int32) × (Nat → Int32))
  | 0 => fun _ _ => none
  | n + 1 => fun t_now l3 => 
    if l1 ≤ (l3 + 1) then
      ogd (inb 26 27) (
      ogd (inb 26 27) (
      ogd (inb 25 27) (
      ogd (inb 25 27) (
      some (t_winner, t_throwsOf, t_handA, t_handB, (upd (upd t_now (Int32.toNatClampNeg 26) ((t_now (Int32.toNatClampNeg 26)) + l2)) (Int32.toNatClampNeg 25) (((upd t_now (Int32.toNatClampNeg 26) ((t_now (Int32.toNatClampNeg 26)) + l2)) (Int32.toNatClampNeg 25)) + 1)), t_inTurn, t_ends)))))
    else
      ogd (inb l3 8) (
      ogd (inb (l3 + 1) 8) (
      ogd (inb (3 * (l3 / 2)) 12) (
      ogd (inb ((3 * (l3 / 2)) + 1) 12) (
      ogd (inb ((3 * (l3 / 2)) + 2) 12) (
      Option.bind (o_X9_join N t_now (t_inTurn (Int32.toNatClampNeg l3)) (t_inTurn (Int32.toNatClampNeg (l3 + 1))) (t_ends (Int32.toNatClampNeg (3 * (l3 / 2)))) (t_ends (Int32.toNatClampNeg ((3 * (l3 / 2)) + 1))) (t_ends (Int32.toNatClampNeg ((3 * (l3 / 2)) + 2)))) (fun r192 =>
      o_X9_goRound_136 N t_winner t_throwsOf t_handA t_handB t_inTurn t_ends l1 l2 n r192 (l3 + 2)))))))
def o_X9_goRound_40 (N : Nat) (t_now : (Nat → Int32)) (t_inTurn : (Nat → Int32)) (l1 : Int32) : Nat → Int32 → Int32 → Int32 → Int32 → (Nat → Int32) → Int32 → Int32 → Option (Int32 × Int32 × Int32 × Int32 × (Nat → Int32) × (Nat → Int32) × (Nat → Int32))
  | 0 => fun _ _ _ _ _ _ _ => none
  | n + 1 => fun t_winner t_throwsOf t_handA t_handB t_ends l2 l3 => 
    if l1 ≤ (l3 + 1) then
      o_X9_goRound_136 N t_winner t_throwsOf t_handA t_handB t_inTurn t_ends l1 l2 N t_now 0
    else
      ogd (inb l3 8) (
      ogd (inb (l3 + 1) 8) (
      Option.bind (o_X9_play N t_now (t_inTurn (Int32.toNatClampNeg l3)) (t_inTurn (Int32.toNatClampNeg (l3 + 1)))) (fun r62 =>
      if r62.2.1 ≤ l2 then
        o_X9_goRound_81 N (o_X9_goRound_40 N t_now t_inTurn l1 n) r62.1 r62.2.1 r62.2.2.1 r62.2.2.2 t_now t_inTurn t_ends l1 l3 l2
      else
        o_X9_goRound_81 N (o_X9_goRound_40 N t_now t_inTurn l1 n) r62.1 r62.2.1 r62.2.2.1 r62.2.2.2 t_now t_inTurn t_ends l1 l3 r62.2.1)))
def o_X9_goRound_4 (N : Nat) (t_winner : Int32) (t_throwsOf : Int32) (t_handA : Int32) (t_handB : Int32) (t_now : (Nat → Int32)) (t_ends : (Nat → Int32)) : Nat → (Nat → Int32) → Int32 → Int32 → Option (Int32 × Int32 × Int32 × Int32 × (Nat → Int32) × (Nat → Int32) × (Nat → Int32))
  | 0 => fun _ _ _ => none
  | n + 1 => fun t_inTurn l1 l2 => 
    Option.bind (o_X9_players N t_now) (fun r6 =>
    if r6 ≤ l2 then
      o_X9_goRound_40 N t_now t_inTurn l1 N t_winner t_throwsOf t_handA t_handB t_ends 0 0
    else
      Option.bind (o_X9_leads N t_now l2) (fun r14 =>
      if r14 = 0 then
        o_X9_goRound_4 N t_winner t_throwsOf t_handA t_handB t_now t_ends n t_inTurn l1 (l2 + 1)
      else
        ogd (inb l1 8) (
        o_X9_goRound_4 N t_winner t_throwsOf t_handA t_handB t_now t_ends n (upd t_inTurn (Int32.toNatClampNeg l1) l2) (l1 + 1) (l2 + 1))))
def o_X9_goRound (N : Nat) (t_winner : Int32) (t_throwsOf : Int32) (t_handA : Int32) (t_handB : Int32) (t_now : (Nat → Int32)) (t_inTurn : (Nat → Int32)) (t_ends : (Nat → Int32)) : Option (Int32 × Int32 × Int32 × Int32 × (Nat → Int32) × (Nat → Int32) × (Nat → Int32)) :=
  o_X9_goRound_4 N t_winner t_throwsOf t_handA t_handB t_now t_ends N t_inTurn 0 0
set_option maxHeartbeats 4000000 in
set_option maxRecDepth 100000 in
theorem z_X9_goRound_81 {sK sV : Nat → Nat} {E : ZE} {cI cB cZ : ClassId} (hC : ZC E 4 cX9_goRound wsX9_goRound RX9 rmX9_goRound none (zty cI cB cZ)) (hN : ZN sK sV (zA E) (zs E)) {N : Nat} {a_t : Nat} {a_t_now : Nat} {a_t_inTurn : Nat} {a_t_ends : Nat} {a_t_kept : Nat} {a_t_isKept : Nat} {a_t_acts : Nat} {a_t_was : Nat} {a_t_lanes : Nat} {a_t_longs : Nat} {a_t_isThere : Nat} {a_t_items : Nat} {a_t_copied : Nat} {a_t_tape : Nat} {a_t_readSorts : Nat} {a_t_readHands : Nat} {a_t_bestHands : Nat} {a_t_traces : Nat} {t_manyActs : Int32} {t_status : Int32} {t_tapeLong : Int32} {t_fault : Int32} {t_tokenAt : Int32} {t_tokenLong : Int32} {t_token : Int32} {t_value : Int32} {t_winner : Int32} {t_throwsOf : Int32} {t_handA : Int32} {t_handB : Int32} {t_fewestSo : Int32} {t_traced : Int32} {t_now : (Nat → Int32)} {t_inTurn : (Nat → Int32)} {t_ends : (Nat → Int32)} {l1 : Int32} {l3 : Int32} {s0 : Int32} {K40 : Int32 → Int32 → Int32 → Int32 → (Nat → Int32) → Int32 → Int32 → Option (Int32 × Int32 × Int32 × Int32 × (Nat → Int32) × (Nat → Int32) × (Nat → Int32))} {rf : Int32 × Int32 × Int32 × Int32 × (Nat → Int32) × (Nat → Int32) × (Nat → Int32)} (hQ : ZQv E (zty cI cB cZ) [(a_t, .inr (9, [.ref a_t_now, .ref a_t_kept, .ref a_t_isKept, .ref a_t_acts, .int t_manyActs, .ref a_t_was, .int t_status, .ref a_t_lanes, .ref a_t_longs, .ref a_t_isThere, .ref a_t_items, .ref a_t_copied, .ref a_t_tape, .int t_tapeLong, .int t_fault, .int t_tokenAt, .int t_tokenLong, .int t_token, .int t_value, .ref a_t_readSorts, .ref a_t_readHands, .int rf.1, .int rf.2.1, .int rf.2.2.1, .int rf.2.2.2.1, .ref a_t_inTurn, .ref a_t_ends, .ref a_t_bestHands, .int t_fewestSo, .ref a_t_traces, .int t_traced])), (a_t_now, .inl (cI, 27, .inl rf.2.2.2.2.1)), (a_t_inTurn, .inl (cI, 8, .inl rf.2.2.2.2.2.1)), (a_t_ends, .inl (cI, 12, .inl rf.2.2.2.2.2.2))]) (hK40 : ∀ (t_winner : Int32) (t_throwsOf : Int32) (t_handA : Int32) (t_handB : Int32) (t_ends : (Nat → Int32)) (l2 : Int32) (l3 : Int32), K40 t_winner t_throwsOf t_handA t_handB t_ends l2 l3 = some rf → Z E (0, 0) [(0, .ref a_t), (1, .int l1), (2, .int l2), (3, .int l3)] 40 [] [(a_t, .inr (9, [.ref a_t_now, .ref a_t_kept, .ref a_t_isKept, .ref a_t_acts, .int t_manyActs, .ref a_t_was, .int t_status, .ref a_t_lanes, .ref a_t_longs, .ref a_t_isThere, .ref a_t_items, .ref a_t_copied, .ref a_t_tape, .int t_tapeLong, .int t_fault, .int t_tokenAt, .int t_tokenLong, .int t_token, .int t_value, .ref a_t_readSorts, .ref a_t_readHands, .int t_winner, .int t_throwsOf, .int t_handA, .int t_handB, .ref a_t_inTurn, .ref a_t_ends, .ref a_t_bestHands, .int t_fewestSo, .ref a_t_traces, .int t_traced])), (a_t_now, .inl (cI, 27, .inl t_now)), (a_t_inTurn, .inl (cI, 8, .inl t_inTurn)), (a_t_ends, .inl (cI, 12, .inl t_ends))]) (hR : o_X9_goRound_81 N K40 t_winner t_throwsOf t_handA t_handB t_now t_inTurn t_ends l1 l3 s0 = some rf) : Z E (0, 0) [(0, .ref a_t), (1, .int l1), (3, .int l3)] 81 [.int s0] [(a_t, .inr (9, [.ref a_t_now, .ref a_t_kept, .ref a_t_isKept, .ref a_t_acts, .int t_manyActs, .ref a_t_was, .int t_status, .ref a_t_lanes, .ref a_t_longs, .ref a_t_isThere, .ref a_t_items, .ref a_t_copied, .ref a_t_tape, .int t_tapeLong, .int t_fault, .int t_tokenAt, .int t_tokenLong, .int t_token, .int t_value, .ref a_t_readSorts, .ref a_t_readHands, .int t_winner, .int t_throwsOf, .int t_handA, .int t_handB, .ref a_t_inTurn, .ref a_t_ends, .ref a_t_bestHands, .int t_fewestSo, .ref a_t_traces, .int t_traced])), (a_t_now, .inl (cI, 27, .inl t_now)), (a_t_inTurn, .inl (cI, 8, .inl t_inTurn)), (a_t_ends, .inl (cI, 12, .inl t_ends))] := by
  rw [o_X9_goRound_81] at hR
  refine z_istore_n hC [(2, .int s0), (0, .ref a_t), (1, .int l1), (3, .int l3)] dX9_goRound_81 rfl (by decide) rfl ?_
  refine z_aload_n hC dX9_goRound_82 rfl 1 rfl ?_
  refine z_get hC iX9_goRound_X9 rfl 0 26 rfl (by decide) mX9_goRound_3 rfl rfl dX9_goRound_83 ?_
  refine z_ic3 hC dX9_goRound_86 ?_
  refine z_iload_n hC dX9_goRound_87 rfl 3 rfl ?_
  refine z_ic2 hC dX9_goRound_88 ?_
  refine z_idivK hC dX9_goRound_89 (by decide) ?_
  refine z_imul hC dX9_goRound_90 ?_
  refine z_aload_n hC dX9_goRound_91 rfl 1 rfl ?_
  refine z_get hC iX9_goRound_X9 rfl 0 23 rfl (by decide) mX9_goRound_4 rfl rfl dX9_goRound_92 ?_
  refine z_iast hC 3 0 rfl rfl dX9_goRound_95 hR (fun hR => ?_)
  refine z_aload_n hC dX9_goRound_96 rfl 1 rfl ?_
  refine z_get hC iX9_goRound_X9 rfl 0 26 rfl (by decide) mX9_goRound_3 rfl rfl dX9_goRound_97 ?_
  refine z_ic3 hC dX9_goRound_100 ?_
  refine z_iload_n hC dX9_goRound_101 rfl 3 rfl ?_
  refine z_ic2 hC dX9_goRound_102 ?_
  refine z_idivK hC dX9_goRound_103 (by decide) ?_
  refine z_imul hC dX9_goRound_104 ?_
  refine z_ic1 hC dX9_goRound_105 ?_
  refine z_iadd hC dX9_goRound_106 ?_
  refine z_aload_n hC dX9_goRound_107 rfl 1 rfl ?_
  refine z_get hC iX9_goRound_X9 rfl 0 24 rfl (by decide) mX9_goRound_5 rfl rfl dX9_goRound_108 ?_
  refine z_iast hC 3 0 rfl rfl dX9_goRound_111 hR (fun hR => ?_)
  refine z_aload_n hC dX9_goRound_112 rfl 1 rfl ?_
  refine z_get hC iX9_goRound_X9 rfl 0 26 rfl (by decide) mX9_goRound_3 rfl rfl dX9_goRound_113 ?_
  refine z_ic3 hC dX9_goRound_116 ?_
  refine z_iload_n hC dX9_goRound_117 rfl 3 rfl ?_
  refine z_ic2 hC dX9_goRound_118 ?_
  refine z_idivK hC dX9_goRound_119 (by decide) ?_
  refine z_imul hC dX9_goRound_120 ?_
  refine z_ic2 hC dX9_goRound_121 ?_
  refine z_iadd hC dX9_goRound_122 ?_
  refine z_aload_n hC dX9_goRound_123 rfl 1 rfl ?_
  refine z_get hC iX9_goRound_X9 rfl 0 21 rfl (by decide) mX9_goRound_6 rfl rfl dX9_goRound_124 ?_
  refine z_iast hC 3 0 rfl rfl dX9_goRound_127 hR (fun hR => ?_)
  refine z_iinc2 hC [(3, .int (l3 + 2)), (2, .int s0), (0, .ref a_t), (1, .int l1)] dX9_goRound_128 3 rfl (by decide) rfl ?_
  refine z_goto hC 40 dX9_goRound_131 (by decide) ?_
  refine z_sub (lv' := [(0, .ref a_t), (1, .int l1), (2, .int s0), (3, .int (l3 + 2))]) [2, 3, 1, 0] rfl ?_
  exact hK40 t_winner t_throwsOf t_handA t_handB (upd (upd (upd t_ends (Int32.toNatClampNeg (3 * (l3 / 2))) t_handA) (Int32.toNatClampNeg ((3 * (l3 / 2)) + 1)) t_handB) (Int32.toNatClampNeg ((3 * (l3 / 2)) + 2)) t_winner) s0 (l3 + 2) hR
set_option maxHeartbeats 4000000 in
set_option maxRecDepth 100000 in
theorem z_X9_goRound_136 {sK sV : Nat → Nat} {E : ZE} {cI cB cZ : ClassId} (hC : ZC E 4 cX9_goRound wsX9_goRound RX9 rmX9_goRound none (zty cI cB cZ)) (hN : ZN sK sV (zA E) (zs E)) {N : Nat} {a_t : Nat} {a_t_now : Nat} {a_t_inTurn : Nat} {a_t_ends : Nat} {a_t_kept : Nat} {a_t_isKept : Nat} {a_t_acts : Nat} {a_t_was : Nat} {a_t_lanes : Nat} {a_t_longs : Nat} {a_t_isThere : Nat} {a_t_items : Nat} {a_t_copied : Nat} {a_t_tape : Nat} {a_t_readSorts : Nat} {a_t_readHands : Nat} {a_t_bestHands : Nat} {a_t_traces : Nat} {t_manyActs : Int32} {t_status : Int32} {t_tapeLong : Int32} {t_fault : Int32} {t_tokenAt : Int32} {t_tokenLong : Int32} {t_token : Int32} {t_value : Int32} {t_winner : Int32} {t_throwsOf : Int32} {t_handA : Int32} {t_handB : Int32} {t_fewestSo : Int32} {t_traced : Int32} {t_inTurn : (Nat → Int32)} {t_ends : (Nat → Int32)} {l1 : Int32} {l2 : Int32} {rf : Int32 × Int32 × Int32 × Int32 × (Nat → Int32) × (Nat → Int32) × (Nat → Int32)} (hQ : ZQv E (zty cI cB cZ) [(a_t, .inr (9, [.ref a_t_now, .ref a_t_kept, .ref a_t_isKept, .ref a_t_acts, .int t_manyActs, .ref a_t_was, .int t_status, .ref a_t_lanes, .ref a_t_longs, .ref a_t_isThere, .ref a_t_items, .ref a_t_copied, .ref a_t_tape, .int t_tapeLong, .int t_fault, .int t_tokenAt, .int t_tokenLong, .int t_token, .int t_value, .ref a_t_readSorts, .ref a_t_readHands, .int rf.1, .int rf.2.1, .int rf.2.2.1, .int rf.2.2.2.1, .ref a_t_inTurn, .ref a_t_ends, .ref a_t_bestHands, .int t_fewestSo, .ref a_t_traces, .int t_traced])), (a_t_now, .inl (cI, 27, .inl rf.2.2.2.2.1)), (a_t_inTurn, .inl (cI, 8, .inl rf.2.2.2.2.2.1)), (a_t_ends, .inl (cI, 12, .inl rf.2.2.2.2.2.2))]) : ∀ (n : Nat) (t_now : (Nat → Int32)) (l3 : Int32), o_X9_goRound_136 N t_winner t_throwsOf t_handA t_handB t_inTurn t_ends l1 l2 n t_now l3 = some rf → Z E (0, 0) [(0, .ref a_t), (1, .int l1), (2, .int l2), (3, .int l3)] 136 [] [(a_t, .inr (9, [.ref a_t_now, .ref a_t_kept, .ref a_t_isKept, .ref a_t_acts, .int t_manyActs, .ref a_t_was, .int t_status, .ref a_t_lanes, .ref a_t_longs, .ref a_t_isThere, .ref a_t_items, .ref a_t_copied, .ref a_t_tape, .int t_tapeLong, .int t_fault, .int t_tokenAt, .int t_tokenLong, .int t_token, .int t_value, .ref a_t_readSorts, .ref a_t_readHands, .int t_winner, .int t_throwsOf, .int t_handA, .int t_handB, .ref a_t_inTurn, .ref a_t_ends, .ref a_t_bestHands, .int t_fewestSo, .ref a_t_traces, .int t_traced])), (a_t_now, .inl (cI, 27, .inl t_now)), (a_t_inTurn, .inl (cI, 8, .inl t_inTurn)), (a_t_ends, .inl (cI, 12, .inl t_ends))] := by
  intro n
  induction n with
  | zero =>
    intro t_now l3 hR
    cases hR
  | succ n ih =>
    intro t_now l3 hR
    rw [o_X9_goRound_136] at hR
    refine z_iload_n hC dX9_goRound_136 rfl 3 rfl ?_
    refine z_ic1 hC dX9_goRound_137 ?_
    refine z_iadd hC dX9_goRound_138 ?_
    refine z_iload_n hC dX9_goRound_139 rfl 1 rfl ?_
    refine z_icmp_ge hC 201 dX9_goRound_140 (by decide) hR (fun hR => ?_) (fun hR => ?_)
    · refine z_aload_n hC dX9_goRound_201 rfl 0 rfl ?_
      refine z_get hC iX9_goRound_X9 rfl 0 0 rfl (by decide) mX9_goRound_7 rfl rfl dX9_goRound_202 ?_
      refine z_bipush (v := 26) hC dX9_goRound_205 (by decide) ?_
      refine z_dup2 hC dX9_goRound_207 rfl rfl ?_
      refine z_iald hC 1 0 rfl rfl dX9_goRound_208 hR (fun hR => ?_)
      refine z_iload_n hC dX9_goRound_209 rfl 2 rfl ?_
      refine z_iadd hC dX9_goRound_210 ?_
      refine z_iast hC 1 0 rfl rfl dX9_goRound_211 hR (fun hR => ?_)
      refine z_aload_n hC dX9_goRound_212 rfl 0 rfl ?_
      refine z_get hC iX9_goRound_X9 rfl 0 0 rfl (by decide) mX9_goRound_7 rfl rfl dX9_goRound_213 ?_
      refine z_bipush (v := 25) hC dX9_goRound_216 (by decide) ?_
      refine z_dup2 hC dX9_goRound_218 rfl rfl ?_
      refine z_iald hC 1 0 rfl rfl dX9_goRound_219 hR (fun hR => ?_)
      refine z_ic1 hC dX9_goRound_220 ?_
      refine z_iadd hC dX9_goRound_221 ?_
      refine z_iast hC 1 0 rfl rfl dX9_goRound_222 hR (fun hR => ?_)
      obtain rfl := Option.some.inj hR
      exact z_vret hC hQ rfl dX9_goRound_223
    · refine z_aload_n hC dX9_goRound_143 rfl 0 rfl ?_
      refine z_aload_n hC dX9_goRound_144 rfl 0 rfl ?_
      refine z_get hC iX9_goRound_X9 rfl 0 25 rfl (by decide) mX9_goRound_1 rfl rfl dX9_goRound_145 ?_
      refine z_iload_n hC dX9_goRound_148 rfl 3 rfl ?_
      refine z_iald hC 2 0 rfl rfl dX9_goRound_149 hR (fun hR => ?_)
      refine z_aload_n hC dX9_goRound_150 rfl 0 rfl ?_
      refine z_get hC iX9_goRound_X9 rfl 0 25 rfl (by decide) mX9_goRound_1 rfl rfl dX9_goRound_151 ?_
      refine z_iload_n hC dX9_goRound_154 rfl 3 rfl ?_
      refine z_ic1 hC dX9_goRound_155 ?_
      refine z_iadd hC dX9_goRound_156 ?_
      refine z_iald hC 2 0 rfl rfl dX9_goRound_157 hR (fun hR => ?_)
      refine z_aload_n hC dX9_goRound_158 rfl 0 rfl ?_
      refine z_get hC iX9_goRound_X9 rfl 0 26 rfl (by decide) mX9_goRound_3 rfl rfl dX9_goRound_159 ?_
      refine z_ic3 hC dX9_goRound_162 ?_
      refine z_iload_n hC dX9_goRound_163 rfl 3 rfl ?_
      refine z_ic2 hC dX9_goRound_164 ?_
      refine z_idivK hC dX9_goRound_165 (by decide) ?_
      refine z_imul hC dX9_goRound_166 ?_
      refine z_iald hC 3 0 rfl rfl dX9_goRound_167 hR (fun hR => ?_)
      refine z_aload_n hC dX9_goRound_168 rfl 0 rfl ?_
      refine z_get hC iX9_goRound_X9 rfl 0 26 rfl (by decide) mX9_goRound_3 rfl rfl dX9_goRound_169 ?_
      refine z_ic3 hC dX9_goRound_172 ?_
      refine z_iload_n hC dX9_goRound_173 rfl 3 rfl ?_
      refine z_ic2 hC dX9_goRound_174 ?_
      refine z_idivK hC dX9_goRound_175 (by decide) ?_
      refine z_imul hC dX9_goRound_176 ?_
      refine z_ic1 hC dX9_goRound_177 ?_
      refine z_iadd hC dX9_goRound_178 ?_
      refine z_iald hC 3 0 rfl rfl dX9_goRound_179 hR (fun hR => ?_)
      refine z_aload_n hC dX9_goRound_180 rfl 0 rfl ?_
      refine z_get hC iX9_goRound_X9 rfl 0 26 rfl (by decide) mX9_goRound_3 rfl rfl dX9_goRound_181 ?_
      refine z_ic3 hC dX9_goRound_184 ?_
      refine z_iload_n hC dX9_goRound_185 rfl 3 rfl ?_
      refine z_ic2 hC dX9_goRound_186 ?_
      refine z_idivK hC dX9_goRound_187 (by decide) ?_
      refine z_imul hC dX9_goRound_188 ?_
      refine z_ic2 hC dX9_goRound_189 ?_
      refine z_iadd hC dX9_goRound_190 ?_
      refine z_iald hC 3 0 rfl rfl dX9_goRound_191 hR (fun hR => ?_)
      refine z_callVv hC hN [.int (t_inTurn (Int32.toNatClampNeg l3)), .int (t_inTurn (Int32.toNatClampNeg (l3 + 1))), .int (t_ends (Int32.toNatClampNeg (3 * (l3 / 2)))), .int (t_ends (Int32.toNatClampNeg ((3 * (l3 / 2)) + 1))), .int (t_ends (Int32.toNatClampNeg ((3 * (l3 / 2)) + 2)))] [0, 1] (c_X9_join (l := zl E) (D := zD E) (cI := cI) (cB := cB) (cZ := cZ) (N := N) (a_t := a_t) (a_t_now := a_t_now) (a_t_kept := a_t_kept) (a_t_isKept := a_t_isKept) (a_t_acts := a_t_acts) (a_t_was := a_t_was) (a_t_lanes := a_t_lanes) (a_t_longs := a_t_longs) (a_t_isThere := a_t_isThere) (a_t_items := a_t_items) (a_t_copied := a_t_copied) (a_t_tape := a_t_tape) (a_t_readSorts := a_t_readSorts) (a_t_readHands := a_t_readHands) (a_t_inTurn := a_t_inTurn) (a_t_ends := a_t_ends) (a_t_bestHands := a_t_bestHands) (a_t_traces := a_t_traces) (l1 := (t_inTurn (Int32.toNatClampNeg l3))) (l2 := (t_inTurn (Int32.toNatClampNeg (l3 + 1)))) (l3 := (t_ends (Int32.toNatClampNeg (3 * (l3 / 2))))) (l4 := (t_ends (Int32.toNatClampNeg ((3 * (l3 / 2)) + 1)))) (l5 := (t_ends (Int32.toNatClampNeg ((3 * (l3 / 2)) + 2)))) (t_manyActs := t_manyActs) (t_status := t_status) (t_tapeLong := t_tapeLong) (t_fault := t_fault) (t_tokenAt := t_tokenAt) (t_tokenLong := t_tokenLong) (t_token := t_token) (t_value := t_value) (t_winner := t_winner) (t_throwsOf := t_throwsOf) (t_handA := t_handA) (t_handB := t_handB) (t_fewestSo := t_fewestSo) (t_traced := t_traced) (t_now := t_now)) rfl ⟨rfl, rfl⟩ gX9_goRound_X9_join hvX9_join 0 9 rfl rfl rfl ⟨Nat.le_of_ble_eq_true rfl, Nat.le_of_ble_eq_true rfl⟩ ⟨Nat.zero_le _, Nat.zero_le _⟩ rfl (Nat.le_of_ble_eq_true rfl) rfl (by decide) (fun _ => rfl) dX9_goRound_192 hR (fun r192 hR => ?_)
      refine z_eq [(a_t, .inr (9, [.ref a_t_now, .ref a_t_kept, .ref a_t_isKept, .ref a_t_acts, .int t_manyActs, .ref a_t_was, .int t_status, .ref a_t_lanes, .ref a_t_longs, .ref a_t_isThere, .ref a_t_items, .ref a_t_copied, .ref a_t_tape, .int t_tapeLong, .int t_fault, .int t_tokenAt, .int t_tokenLong, .int t_token, .int t_value, .ref a_t_readSorts, .ref a_t_readHands, .int t_winner, .int t_throwsOf, .int t_handA, .int t_handB, .ref a_t_inTurn, .ref a_t_ends, .ref a_t_bestHands, .int t_fewestSo, .ref a_t_traces, .int t_traced])), (a_t_now, .inl (cI, 27, .inl r192)), (a_t_inTurn, .inl (cI, 8, .inl t_inTurn)), (a_t_ends, .inl (cI, 12, .inl t_ends))] rfl ?_
      refine z_iinc2 hC [(3, .int (l3 + 2)), (0, .ref a_t), (1, .int l1), (2, .int l2)] dX9_goRound_195 3 rfl (by decide) rfl ?_
      refine z_goto hC 136 dX9_goRound_198 (by decide) ?_
      refine z_sub (lv' := [(0, .ref a_t), (1, .int l1), (2, .int l2), (3, .int (l3 + 2))]) [1, 2, 3, 0] rfl ?_
      exact ih r192 (l3 + 2) hR
set_option maxHeartbeats 4000000 in
set_option maxRecDepth 100000 in
theorem z_X9_goRound_40 {sK sV : Nat → Nat} {E : ZE} {cI cB cZ : ClassId} (hC : ZC E 4 cX9_goRound wsX9_goRound RX9 rmX9_goRound none (zty cI cB cZ)) (hN : ZN sK sV (zA E) (zs E)) {N : Nat} {a_t : Nat} {a_t_now : Nat} {a_t_inTurn : Nat} {a_t_ends : Nat} {a_t_kept : Nat} {a_t_isKept : Nat} {a_t_acts : Nat} {a_t_was : Nat} {a_t_lanes : Nat} {a_t_longs : Nat} {a_t_isThere : Nat} {a_t_items : Nat} {a_t_copied : Nat} {a_t_tape : Nat} {a_t_readSorts : Nat} {a_t_readHands : Nat} {a_t_bestHands : Nat} {a_t_traces : Nat} {t_manyActs : Int32} {t_status : Int32} {t_tapeLong : Int32} {t_fault : Int32} {t_tokenAt : Int32} {t_tokenLong : Int32} {t_token : Int32} {t_value : Int32} {t_fewestSo : Int32} {t_traced : Int32} {t_now : (Nat → Int32)} {t_inTurn : (Nat → Int32)} {l1 : Int32} {rf : Int32 × Int32 × Int32 × Int32 × (Nat → Int32) × (Nat → Int32) × (Nat → Int32)} (hQ : ZQv E (zty cI cB cZ) [(a_t, .inr (9, [.ref a_t_now, .ref a_t_kept, .ref a_t_isKept, .ref a_t_acts, .int t_manyActs, .ref a_t_was, .int t_status, .ref a_t_lanes, .ref a_t_longs, .ref a_t_isThere, .ref a_t_items, .ref a_t_copied, .ref a_t_tape, .int t_tapeLong, .int t_fault, .int t_tokenAt, .int t_tokenLong, .int t_token, .int t_value, .ref a_t_readSorts, .ref a_t_readHands, .int rf.1, .int rf.2.1, .int rf.2.2.1, .int rf.2.2.2.1, .ref a_t_inTurn, .ref a_t_ends, .ref a_t_bestHands, .int t_fewestSo, .ref a_t_traces, .int t_traced])), (a_t_now, .inl (cI, 27, .inl rf.2.2.2.2.1)), (a_t_inTurn, .inl (cI, 8, .inl rf.2.2.2.2.2.1)), (a_t_ends, .inl (cI, 12, .inl rf.2.2.2.2.2.2))]) : ∀ (n : Nat) (t_winner : Int32) (t_throwsOf : Int32) (t_handA : Int32) (t_handB : Int32) (t_ends : (Nat → Int32)) (l2 : Int32) (l3 : Int32), o_X9_goRound_40 N t_now t_inTurn l1 n t_winner t_throwsOf t_handA t_handB t_ends l2 l3 = some rf → Z E (0, 0) [(0, .ref a_t), (1, .int l1), (2, .int l2), (3, .int l3)] 40 [] [(a_t, .inr (9, [.ref a_t_now, .ref a_t_kept, .ref a_t_isKept, .ref a_t_acts, .int t_manyActs, .ref a_t_was, .int t_status, .ref a_t_lanes, .ref a_t_longs, .ref a_t_isThere, .ref a_t_items, .ref a_t_copied, .ref a_t_tape, .int t_tapeLong, .int t_fault, .int t_tokenAt, .int t_tokenLong, .int t_token, .int t_value, .ref a_t_readSorts, .ref a_t_readHands, .int t_winner, .int t_throwsOf, .int t_handA, .int t_handB, .ref a_t_inTurn, .ref a_t_ends, .ref a_t_bestHands, .int t_fewestSo, .ref a_t_traces, .int t_traced])), (a_t_now, .inl (cI, 27, .inl t_now)), (a_t_inTurn, .inl (cI, 8, .inl t_inTurn)), (a_t_ends, .inl (cI, 12, .inl t_ends))] := by
  intro n
  induction n with
  | zero =>
    intro t_winner t_throwsOf t_handA t_handB t_ends l2 l3 hR
    cases hR
  | succ n ih =>
    intro t_winner t_throwsOf t_handA t_handB t_ends l2 l3 hR
    rw [o_X9_goRound_40] at hR
    refine z_iload_n hC dX9_goRound_40 rfl 3 rfl ?_
    refine z_ic1 hC dX9_goRound_41 ?_
    refine z_iadd hC dX9_goRound_42 ?_
    refine z_iload_n hC dX9_goRound_43 rfl 1 rfl ?_
    refine z_icmp_ge hC 134 dX9_goRound_44 (by decide) hR (fun hR => ?_) (fun hR => ?_)
    · refine z_ic0 hC dX9_goRound_134 ?_
      refine z_istore_n hC [(3, .int 0), (0, .ref a_t), (1, .int l1), (2, .int l2)] dX9_goRound_135 rfl (by decide) rfl ?_
      refine z_sub (lv' := [(0, .ref a_t), (1, .int l1), (2, .int l2), (3, .int 0)]) [1, 2, 3, 0] rfl ?_
      exact z_X9_goRound_136 hC hN (N := N) (a_t := a_t) (a_t_now := a_t_now) (a_t_inTurn := a_t_inTurn) (a_t_ends := a_t_ends) (a_t_kept := a_t_kept) (a_t_isKept := a_t_isKept) (a_t_acts := a_t_acts) (a_t_was := a_t_was) (a_t_lanes := a_t_lanes) (a_t_longs := a_t_longs) (a_t_isThere := a_t_isThere) (a_t_items := a_t_items) (a_t_copied := a_t_copied) (a_t_tape := a_t_tape) (a_t_readSorts := a_t_readSorts) (a_t_readHands := a_t_readHands) (a_t_bestHands := a_t_bestHands) (a_t_traces := a_t_traces) (t_manyActs := t_manyActs) (t_status := t_status) (t_tapeLong := t_tapeLong) (t_fault := t_fault) (t_tokenAt := t_tokenAt) (t_tokenLong := t_tokenLong) (t_token := t_token) (t_value := t_value) (t_winner := t_winner) (t_throwsOf := t_throwsOf) (t_handA := t_handA) (t_handB := t_handB) (t_fewestSo := t_fewestSo) (t_traced := t_traced) (t_inTurn := t_inTurn) (t_ends := t_ends) (l1 := l1) (l2 := l2) hQ  N t_now 0 hR
    · refine z_aload_n hC dX9_goRound_47 rfl 0 rfl ?_
      refine z_aload_n hC dX9_goRound_48 rfl 0 rfl ?_
      refine z_get hC iX9_goRound_X9 rfl 0 25 rfl (by decide) mX9_goRound_1 rfl rfl dX9_goRound_49 ?_
      refine z_iload_n hC dX9_goRound_52 rfl 3 rfl ?_
      refine z_iald hC 2 0 rfl rfl dX9_goRound_53 hR (fun hR => ?_)
      refine z_aload_n hC dX9_goRound_54 rfl 0 rfl ?_
      refine z_get hC iX9_goRound_X9 rfl 0 25 rfl (by decide) mX9_goRound_1 rfl rfl dX9_goRound_55 ?_
      refine z_iload_n hC dX9_goRound_58 rfl 3 rfl ?_
      refine z_ic1 hC dX9_goRound_59 ?_
      refine z_iadd hC dX9_goRound_60 ?_
      refine z_iald hC 2 0 rfl rfl dX9_goRound_61 hR (fun hR => ?_)
      refine z_callVv hC hN [.int (t_inTurn (Int32.toNatClampNeg l3)), .int (t_inTurn (Int32.toNatClampNeg (l3 + 1)))] [0, 1] (c_X9_play (l := zl E) (D := zD E) (cI := cI) (cB := cB) (cZ := cZ) (N := N) (a_t := a_t) (a_t_now := a_t_now) (a_t_kept := a_t_kept) (a_t_isKept := a_t_isKept) (a_t_acts := a_t_acts) (a_t_was := a_t_was) (a_t_lanes := a_t_lanes) (a_t_longs := a_t_longs) (a_t_isThere := a_t_isThere) (a_t_items := a_t_items) (a_t_copied := a_t_copied) (a_t_tape := a_t_tape) (a_t_readSorts := a_t_readSorts) (a_t_readHands := a_t_readHands) (a_t_inTurn := a_t_inTurn) (a_t_ends := a_t_ends) (a_t_bestHands := a_t_bestHands) (a_t_traces := a_t_traces) (l1 := (t_inTurn (Int32.toNatClampNeg l3))) (l2 := (t_inTurn (Int32.toNatClampNeg (l3 + 1)))) (t_manyActs := t_manyActs) (t_status := t_status) (t_tapeLong := t_tapeLong) (t_fault := t_fault) (t_tokenAt := t_tokenAt) (t_tokenLong := t_tokenLong) (t_token := t_token) (t_value := t_value) (t_winner := t_winner) (t_throwsOf := t_throwsOf) (t_handA := t_handA) (t_handB := t_handB) (t_fewestSo := t_fewestSo) (t_traced := t_traced) (t_now := t_now)) rfl ⟨rfl, rfl⟩ gX9_goRound_X9_play hvX9_play 0 9 rfl rfl rfl ⟨Nat.le_of_ble_eq_true rfl, Nat.le_of_ble_eq_true rfl⟩ ⟨Nat.zero_le _, Nat.zero_le _⟩ rfl (Nat.le_of_ble_eq_true rfl) rfl (by decide) (fun _ => rfl) dX9_goRound_62 hR (fun r62 hR => ?_)
      refine z_eq [(a_t, .inr (9, [.ref a_t_now, .ref a_t_kept, .ref a_t_isKept, .ref a_t_acts, .int t_manyActs, .ref a_t_was, .int t_status, .ref a_t_lanes, .ref a_t_longs, .ref a_t_isThere, .ref a_t_items, .ref a_t_copied, .ref a_t_tape, .int t_tapeLong, .int t_fault, .int t_tokenAt, .int t_tokenLong, .int t_token, .int t_value, .ref a_t_readSorts, .ref a_t_readHands, .int r62.1, .int r62.2.1, .int r62.2.2.1, .int r62.2.2.2, .ref a_t_inTurn, .ref a_t_ends, .ref a_t_bestHands, .int t_fewestSo, .ref a_t_traces, .int t_traced])), (a_t_now, .inl (cI, 27, .inl t_now)), (a_t_inTurn, .inl (cI, 8, .inl t_inTurn)), (a_t_ends, .inl (cI, 12, .inl t_ends))] rfl ?_
      refine z_aload_n hC dX9_goRound_65 rfl 0 rfl ?_
      refine z_get hC iX9_goRound_X9 rfl 0 22 rfl (by decide) mX9_goRound_2 rfl rfl dX9_goRound_66 ?_
      refine z_iload_n hC dX9_goRound_69 rfl 2 rfl ?_
      refine z_icmp_le hC 80 dX9_goRound_70 (by decide) hR (fun hR => ?_) (fun hR => ?_)
      · refine z_iload_n hC dX9_goRound_80 rfl 2 rfl ?_
        refine z_sub (lv' := [(0, .ref a_t), (1, .int l1), (3, .int l3)]) [0, 1, 3] rfl ?_
        exact z_X9_goRound_81 hC hN (N := N) (a_t := a_t) (a_t_now := a_t_now) (a_t_inTurn := a_t_inTurn) (a_t_ends := a_t_ends) (a_t_kept := a_t_kept) (a_t_isKept := a_t_isKept) (a_t_acts := a_t_acts) (a_t_was := a_t_was) (a_t_lanes := a_t_lanes) (a_t_longs := a_t_longs) (a_t_isThere := a_t_isThere) (a_t_items := a_t_items) (a_t_copied := a_t_copied) (a_t_tape := a_t_tape) (a_t_readSorts := a_t_readSorts) (a_t_readHands := a_t_readHands) (a_t_bestHands := a_t_bestHands) (a_t_traces := a_t_traces) (t_manyActs := t_manyActs) (t_status := t_status) (t_tapeLong := t_tapeLong) (t_fault := t_fault) (t_tokenAt := t_tokenAt) (t_tokenLong := t_tokenLong) (t_token := t_token) (t_value := t_value) (t_winner := r62.1) (t_throwsOf := r62.2.1) (t_handA := r62.2.2.1) (t_handB := r62.2.2.2) (t_fewestSo := t_fewestSo) (t_traced := t_traced) (t_now := t_now) (t_inTurn := t_inTurn) (t_ends := t_ends) (l1 := l1) (l3 := l3) (s0 := l2) hQ ih hR
      · refine z_aload_n hC dX9_goRound_73 rfl 0 rfl ?_
        refine z_get hC iX9_goRound_X9 rfl 0 22 rfl (by decide) mX9_goRound_2 rfl rfl dX9_goRound_74 ?_
        refine z_goto hC 81 dX9_goRound_77 (by decide) ?_
        refine z_sub (lv' := [(0, .ref a_t), (1, .int l1), (3, .int l3)]) [0, 1, 3] rfl ?_
        exact z_X9_goRound_81 hC hN (N := N) (a_t := a_t) (a_t_now := a_t_now) (a_t_inTurn := a_t_inTurn) (a_t_ends := a_t_ends) (a_t_kept := a_t_kept) (a_t_isKept := a_t_isKept) (a_t_acts := a_t_acts) (a_t_was := a_t_was) (a_t_lanes := a_t_lanes) (a_t_longs := a_t_longs) (a_t_isThere := a_t_isThere) (a_t_items := a_t_items) (a_t_copied := a_t_copied) (a_t_tape := a_t_tape) (a_t_readSorts := a_t_readSorts) (a_t_readHands := a_t_readHands) (a_t_bestHands := a_t_bestHands) (a_t_traces := a_t_traces) (t_manyActs := t_manyActs) (t_status := t_status) (t_tapeLong := t_tapeLong) (t_fault := t_fault) (t_tokenAt := t_tokenAt) (t_tokenLong := t_tokenLong) (t_token := t_token) (t_value := t_value) (t_winner := r62.1) (t_throwsOf := r62.2.1) (t_handA := r62.2.2.1) (t_handB := r62.2.2.2) (t_fewestSo := t_fewestSo) (t_traced := t_traced) (t_now := t_now) (t_inTurn := t_inTurn) (t_ends := t_ends) (l1 := l1) (l3 := l3) (s0 := r62.2.1) hQ ih hR
set_option maxHeartbeats 4000000 in
set_option maxRecDepth 100000 in
theorem z_X9_goRound_4 {sK sV : Nat → Nat} {E : ZE} {cI cB cZ : ClassId} (hC : ZC E 4 cX9_goRound wsX9_goRound RX9 rmX9_goRound none (zty cI cB cZ)) (hN : ZN sK sV (zA E) (zs E)) {N : Nat} {a_t : Nat} {a_t_now : Nat} {a_t_inTurn : Nat} {a_t_ends : Nat} {a_t_kept : Nat} {a_t_isKept : Nat} {a_t_acts : Nat} {a_t_was : Nat} {a_t_lanes : Nat} {a_t_longs : Nat} {a_t_isThere : Nat} {a_t_items : Nat} {a_t_copied : Nat} {a_t_tape : Nat} {a_t_readSorts : Nat} {a_t_readHands : Nat} {a_t_bestHands : Nat} {a_t_traces : Nat} {t_manyActs : Int32} {t_status : Int32} {t_tapeLong : Int32} {t_fault : Int32} {t_tokenAt : Int32} {t_tokenLong : Int32} {t_token : Int32} {t_value : Int32} {t_winner : Int32} {t_throwsOf : Int32} {t_handA : Int32} {t_handB : Int32} {t_fewestSo : Int32} {t_traced : Int32} {t_now : (Nat → Int32)} {t_ends : (Nat → Int32)} {rf : Int32 × Int32 × Int32 × Int32 × (Nat → Int32) × (Nat → Int32) × (Nat → Int32)} (hQ : ZQv E (zty cI cB cZ) [(a_t, .inr (9, [.ref a_t_now, .ref a_t_kept, .ref a_t_isKept, .ref a_t_acts, .int t_manyActs, .ref a_t_was, .int t_status, .ref a_t_lanes, .ref a_t_longs, .ref a_t_isThere, .ref a_t_items, .ref a_t_copied, .ref a_t_tape, .int t_tapeLong, .int t_fault, .int t_tokenAt, .int t_tokenLong, .int t_token, .int t_value, .ref a_t_readSorts, .ref a_t_readHands, .int rf.1, .int rf.2.1, .int rf.2.2.1, .int rf.2.2.2.1, .ref a_t_inTurn, .ref a_t_ends, .ref a_t_bestHands, .int t_fewestSo, .ref a_t_traces, .int t_traced])), (a_t_now, .inl (cI, 27, .inl rf.2.2.2.2.1)), (a_t_inTurn, .inl (cI, 8, .inl rf.2.2.2.2.2.1)), (a_t_ends, .inl (cI, 12, .inl rf.2.2.2.2.2.2))]) : ∀ (n : Nat) (t_inTurn : (Nat → Int32)) (l1 : Int32) (l2 : Int32), o_X9_goRound_4 N t_winner t_throwsOf t_handA t_handB t_now t_ends n t_inTurn l1 l2 = some rf → Z E (0, 0) [(0, .ref a_t), (1, .int l1), (2, .int l2)] 4 [] [(a_t, .inr (9, [.ref a_t_now, .ref a_t_kept, .ref a_t_isKept, .ref a_t_acts, .int t_manyActs, .ref a_t_was, .int t_status, .ref a_t_lanes, .ref a_t_longs, .ref a_t_isThere, .ref a_t_items, .ref a_t_copied, .ref a_t_tape, .int t_tapeLong, .int t_fault, .int t_tokenAt, .int t_tokenLong, .int t_token, .int t_value, .ref a_t_readSorts, .ref a_t_readHands, .int t_winner, .int t_throwsOf, .int t_handA, .int t_handB, .ref a_t_inTurn, .ref a_t_ends, .ref a_t_bestHands, .int t_fewestSo, .ref a_t_traces, .int t_traced])), (a_t_now, .inl (cI, 27, .inl t_now)), (a_t_inTurn, .inl (cI, 8, .inl t_inTurn)), (a_t_ends, .inl (cI, 12, .inl t_ends))] := by
  intro n
  induction n with
  | zero =>
    intro t_inTurn l1 l2 hR
    cases hR
  | succ n ih =>
    intro t_inTurn l1 l2 hR
    rw [o_X9_goRound_4] at hR
    refine z_iload_n hC dX9_goRound_4 rfl 2 rfl ?_
    refine z_aload_n hC dX9_goRound_5 rfl 0 rfl ?_
    refine z_callVi_p hC hN [] [0, 1] (c_X9_players (l := zl E) (D := zD E) (cI := cI) (cB := cB) (cZ := cZ) (N := N) (a_t := a_t) (a_t_now := a_t_now) (a_t_kept := a_t_kept) (a_t_isKept := a_t_isKept) (a_t_acts := a_t_acts) (a_t_was := a_t_was) (a_t_lanes := a_t_lanes) (a_t_longs := a_t_longs) (a_t_isThere := a_t_isThere) (a_t_items := a_t_items) (a_t_copied := a_t_copied) (a_t_tape := a_t_tape) (a_t_readSorts := a_t_readSorts) (a_t_readHands := a_t_readHands) (a_t_inTurn := a_t_inTurn) (a_t_ends := a_t_ends) (a_t_bestHands := a_t_bestHands) (a_t_traces := a_t_traces) (t_manyActs := t_manyActs) (t_status := t_status) (t_tapeLong := t_tapeLong) (t_fault := t_fault) (t_tokenAt := t_tokenAt) (t_tokenLong := t_tokenLong) (t_token := t_token) (t_value := t_value) (t_winner := t_winner) (t_throwsOf := t_throwsOf) (t_handA := t_handA) (t_handB := t_handB) (t_fewestSo := t_fewestSo) (t_traced := t_traced) (t_now := t_now)) rfl ⟨rfl, rfl⟩ gX9_goRound_X9_players hvX9_players 0 9 rfl rfl rfl ⟨Nat.le_of_ble_eq_true rfl, Nat.le_of_ble_eq_true rfl⟩ ⟨Nat.zero_le _, Nat.zero_le _⟩ rfl (Nat.le_of_ble_eq_true rfl) rfl (by decide) dX9_goRound_6 hR (fun r6 hR => ?_)
    refine z_icmp_ge hC 36 dX9_goRound_9 (by decide) hR (fun hR => ?_) (fun hR => ?_)
    · refine z_ic0 hC dX9_goRound_36 ?_
      refine z_istore_n hC [(2, .int 0), (0, .ref a_t), (1, .int l1)] dX9_goRound_37 rfl (by decide) rfl ?_
      refine z_ic0 hC dX9_goRound_38 ?_
      refine z_istore_n hC [(3, .int 0), (2, .int 0), (0, .ref a_t), (1, .int l1)] dX9_goRound_39 rfl (by decide) rfl ?_
      refine z_sub (lv' := [(0, .ref a_t), (1, .int l1), (2, .int 0), (3, .int 0)]) [2, 3, 1, 0] rfl ?_
      exact z_X9_goRound_40 hC hN (N := N) (a_t := a_t) (a_t_now := a_t_now) (a_t_inTurn := a_t_inTurn) (a_t_ends := a_t_ends) (a_t_kept := a_t_kept) (a_t_isKept := a_t_isKept) (a_t_acts := a_t_acts) (a_t_was := a_t_was) (a_t_lanes := a_t_lanes) (a_t_longs := a_t_longs) (a_t_isThere := a_t_isThere) (a_t_items := a_t_items) (a_t_copied := a_t_copied) (a_t_tape := a_t_tape) (a_t_readSorts := a_t_readSorts) (a_t_readHands := a_t_readHands) (a_t_bestHands := a_t_bestHands) (a_t_traces := a_t_traces) (t_manyActs := t_manyActs) (t_status := t_status) (t_tapeLong := t_tapeLong) (t_fault := t_fault) (t_tokenAt := t_tokenAt) (t_tokenLong := t_tokenLong) (t_token := t_token) (t_value := t_value) (t_fewestSo := t_fewestSo) (t_traced := t_traced) (t_now := t_now) (t_inTurn := t_inTurn) (l1 := l1) hQ  N t_winner t_throwsOf t_handA t_handB t_ends 0 0 hR
    · refine z_aload_n hC dX9_goRound_12 rfl 0 rfl ?_
      refine z_iload_n hC dX9_goRound_13 rfl 2 rfl ?_
      refine z_callVi_p hC hN [.int l2] [0, 1] (c_X9_leads (l := zl E) (D := zD E) (cI := cI) (cB := cB) (cZ := cZ) (N := N) (a_t := a_t) (a_t_now := a_t_now) (a_t_kept := a_t_kept) (a_t_isKept := a_t_isKept) (a_t_acts := a_t_acts) (a_t_was := a_t_was) (a_t_lanes := a_t_lanes) (a_t_longs := a_t_longs) (a_t_isThere := a_t_isThere) (a_t_items := a_t_items) (a_t_copied := a_t_copied) (a_t_tape := a_t_tape) (a_t_readSorts := a_t_readSorts) (a_t_readHands := a_t_readHands) (a_t_inTurn := a_t_inTurn) (a_t_ends := a_t_ends) (a_t_bestHands := a_t_bestHands) (a_t_traces := a_t_traces) (l1 := l2) (t_manyActs := t_manyActs) (t_status := t_status) (t_tapeLong := t_tapeLong) (t_fault := t_fault) (t_tokenAt := t_tokenAt) (t_tokenLong := t_tokenLong) (t_token := t_token) (t_value := t_value) (t_winner := t_winner) (t_throwsOf := t_throwsOf) (t_handA := t_handA) (t_handB := t_handB) (t_fewestSo := t_fewestSo) (t_traced := t_traced) (t_now := t_now)) rfl ⟨rfl, rfl⟩ gX9_goRound_X9_leads hvX9_leads 0 9 rfl rfl rfl ⟨Nat.le_of_ble_eq_true rfl, Nat.le_of_ble_eq_true rfl⟩ ⟨Nat.zero_le _, Nat.zero_le _⟩ rfl (Nat.le_of_ble_eq_true rfl) rfl (by decide) dX9_goRound_14 hR (fun r14 hR => ?_)
      refine z_if_eq hC 30 dX9_goRound_17 (by decide) hR (fun hR => ?_) (fun hR => ?_)
      · refine z_iinc1 hC [(2, .int (l2 + 1)), (0, .ref a_t), (1, .int l1)] dX9_goRound_30 2 rfl (by decide) rfl ?_
        refine z_goto hC 4 dX9_goRound_33 (by decide) ?_
        refine z_sub (lv' := [(0, .ref a_t), (1, .int l1), (2, .int (l2 + 1))]) [1, 2, 0] rfl ?_
        exact ih t_inTurn l1 (l2 + 1) hR
      · refine z_aload_n hC dX9_goRound_20 rfl 0 rfl ?_
        refine z_get hC iX9_goRound_X9 rfl 0 25 rfl (by decide) mX9_goRound_1 rfl rfl dX9_goRound_21 ?_
        refine z_iload_n hC dX9_goRound_24 rfl 1 rfl ?_
        refine z_iload_n hC dX9_goRound_25 rfl 2 rfl ?_
        refine z_iast hC 2 0 rfl rfl dX9_goRound_26 hR (fun hR => ?_)
        refine z_iinc1 hC [(1, .int (l1 + 1)), (0, .ref a_t), (2, .int l2)] dX9_goRound_27 1 rfl (by decide) rfl ?_
        refine z_iinc1 hC [(2, .int (l2 + 1)), (1, .int (l1 + 1)), (0, .ref a_t)] dX9_goRound_30 2 rfl (by decide) rfl ?_
        refine z_goto hC 4 dX9_goRound_33 (by decide) ?_
        refine z_sub (lv' := [(0, .ref a_t), (1, .int (l1 + 1)), (2, .int (l2 + 1))]) [2, 1, 0] rfl ?_
        exact ih (upd t_inTurn (Int32.toNatClampNeg l1) l2) (l1 + 1) (l2 + 1) hR
set_option maxHeartbeats 4000000 in
set_option maxRecDepth 100000 in
theorem z_X9_goRound_0 {sK sV : Nat → Nat} {E : ZE} {cI cB cZ : ClassId} (hC : ZC E 4 cX9_goRound wsX9_goRound RX9 rmX9_goRound none (zty cI cB cZ)) (hN : ZN sK sV (zA E) (zs E)) {N : Nat} {a_t : Nat} {a_t_now : Nat} {a_t_inTurn : Nat} {a_t_ends : Nat} {a_t_kept : Nat} {a_t_isKept : Nat} {a_t_acts : Nat} {a_t_was : Nat} {a_t_lanes : Nat} {a_t_longs : Nat} {a_t_isThere : Nat} {a_t_items : Nat} {a_t_copied : Nat} {a_t_tape : Nat} {a_t_readSorts : Nat} {a_t_readHands : Nat} {a_t_bestHands : Nat} {a_t_traces : Nat} {t_manyActs : Int32} {t_status : Int32} {t_tapeLong : Int32} {t_fault : Int32} {t_tokenAt : Int32} {t_tokenLong : Int32} {t_token : Int32} {t_value : Int32} {t_winner : Int32} {t_throwsOf : Int32} {t_handA : Int32} {t_handB : Int32} {t_fewestSo : Int32} {t_traced : Int32} {t_now : (Nat → Int32)} {t_inTurn : (Nat → Int32)} {t_ends : (Nat → Int32)} {rf : Int32 × Int32 × Int32 × Int32 × (Nat → Int32) × (Nat → Int32) × (Nat → Int32)} (hQ : ZQv E (zty cI cB cZ) [(a_t, .inr (9, [.ref a_t_now, .ref a_t_kept, .ref a_t_isKept, .ref a_t_acts, .int t_manyActs, .ref a_t_was, .int t_status, .ref a_t_lanes, .ref a_t_longs, .ref a_t_isThere, .ref a_t_items, .ref a_t_copied, .ref a_t_tape, .int t_tapeLong, .int t_fault, .int t_tokenAt, .int t_tokenLong, .int t_token, .int t_value, .ref a_t_readSorts, .ref a_t_readHands, .int rf.1, .int rf.2.1, .int rf.2.2.1, .int rf.2.2.2.1, .ref a_t_inTurn, .ref a_t_ends, .ref a_t_bestHands, .int t_fewestSo, .ref a_t_traces, .int t_traced])), (a_t_now, .inl (cI, 27, .inl rf.2.2.2.2.1)), (a_t_inTurn, .inl (cI, 8, .inl rf.2.2.2.2.2.1)), (a_t_ends, .inl (cI, 12, .inl rf.2.2.2.2.2.2))]) (hR : o_X9_goRound N t_winner t_throwsOf t_handA t_handB t_now t_inTurn t_ends = some rf) : Z E (0, 0) [(0, .ref a_t)] 0 [] [(a_t, .inr (9, [.ref a_t_now, .ref a_t_kept, .ref a_t_isKept, .ref a_t_acts, .int t_manyActs, .ref a_t_was, .int t_status, .ref a_t_lanes, .ref a_t_longs, .ref a_t_isThere, .ref a_t_items, .ref a_t_copied, .ref a_t_tape, .int t_tapeLong, .int t_fault, .int t_tokenAt, .int t_tokenLong, .int t_token, .int t_value, .ref a_t_readSorts, .ref a_t_readHands, .int t_winner, .int t_throwsOf, .int t_handA, .int t_handB, .ref a_t_inTurn, .ref a_t_ends, .ref a_t_bestHands, .int t_fewestSo, .ref a_t_traces, .int t_traced])), (a_t_now, .inl (cI, 27, .inl t_now)), (a_t_inTurn, .inl (cI, 8, .inl t_inTurn)), (a_t_ends, .inl (cI, 12, .inl t_ends))] := by
  rw [o_X9_goRound] at hR
  refine z_ic0 hC dX9_goRound_0 ?_
  refine z_istore_n hC [(1, .int 0), (0, .ref a_t)] dX9_goRound_1 rfl (by decide) rfl ?_
  refine z_ic0 hC dX9_goRound_2 ?_
  refine z_istore_n hC [(2, .int 0), (1, .int 0), (0, .ref a_t)] dX9_goRound_3 rfl (by decide) rfl ?_
  refine z_sub (lv' := [(0, .ref a_t), (1, .int 0), (2, .int 0)]) [2, 1, 0] rfl ?_
  exact z_X9_goRound_4 hC hN (N := N) (a_t := a_t) (a_t_now := a_t_now) (a_t_inTurn := a_t_inTurn) (a_t_ends := a_t_ends) (a_t_kept := a_t_kept) (a_t_isKept := a_t_isKept) (a_t_acts := a_t_acts) (a_t_was := a_t_was) (a_t_lanes := a_t_lanes) (a_t_longs := a_t_longs) (a_t_isThere := a_t_isThere) (a_t_items := a_t_items) (a_t_copied := a_t_copied) (a_t_tape := a_t_tape) (a_t_readSorts := a_t_readSorts) (a_t_readHands := a_t_readHands) (a_t_bestHands := a_t_bestHands) (a_t_traces := a_t_traces) (t_manyActs := t_manyActs) (t_status := t_status) (t_tapeLong := t_tapeLong) (t_fault := t_fault) (t_tokenAt := t_tokenAt) (t_tokenLong := t_tokenLong) (t_token := t_token) (t_value := t_value) (t_winner := t_winner) (t_throwsOf := t_throwsOf) (t_handA := t_handA) (t_handB := t_handB) (t_fewestSo := t_fewestSo) (t_traced := t_traced) (t_now := t_now) (t_ends := t_ends) hQ  N t_inTurn 0 0 hR
set_option maxHeartbeats 4000000 in
set_option maxRecDepth 100000 in
theorem c_X9_goRound {sK sV : Nat → Nat} {l : Launch} {D : va_G} {cI cB cZ : ClassId} {N : Nat} {a_t : Nat} {a_t_now : Nat} {a_t_inTurn : Nat} {a_t_ends : Nat} {a_t_kept : Nat} {a_t_isKept : Nat} {a_t_acts : Nat} {a_t_was : Nat} {a_t_lanes : Nat} {a_t_longs : Nat} {a_t_isThere : Nat} {a_t_items : Nat} {a_t_copied : Nat} {a_t_tape : Nat} {a_t_readSorts : Nat} {a_t_readHands : Nat} {a_t_bestHands : Nat} {a_t_traces : Nat} {t_manyActs : Int32} {t_status : Int32} {t_tapeLong : Int32} {t_fault : Int32} {t_tokenAt : Int32} {t_tokenLong : Int32} {t_token : Int32} {t_value : Int32} {t_winner : Int32} {t_throwsOf : Int32} {t_handA : Int32} {t_handB : Int32} {t_fewestSo : Int32} {t_traced : Int32} {t_now : (Nat → Int32)} {t_inTurn : (Nat → Int32)} {t_ends : (Nat → Int32)} : ∀ R : Int32 × Int32 × Int32 × Int32 × (Nat → Int32) × (Nat → Int32) × (Nat → Int32), o_X9_goRound N t_winner t_throwsOf t_handA t_handB t_now t_inTurn t_ends = some R → ZMv sK sV l yX9_goRound wsX9_goRound rmX9_goRound D (zty cI cB cZ) [.ref a_t] [(a_t, .inr (9, [.ref a_t_now, .ref a_t_kept, .ref a_t_isKept, .ref a_t_acts, .int t_manyActs, .ref a_t_was, .int t_status, .ref a_t_lanes, .ref a_t_longs, .ref a_t_isThere, .ref a_t_items, .ref a_t_copied, .ref a_t_tape, .int t_tapeLong, .int t_fault, .int t_tokenAt, .int t_tokenLong, .int t_token, .int t_value, .ref a_t_readSorts, .ref a_t_readHands, .int t_winner, .int t_throwsOf, .int t_handA, .int t_handB, .ref a_t_inTurn, .ref a_t_ends, .ref a_t_bestHands, .int t_fewestSo, .ref a_t_traces, .int t_traced])), (a_t_now, .inl (cI, 27, .inl t_now)), (a_t_inTurn, .inl (cI, 8, .inl t_inTurn)), (a_t_ends, .inl (cI, 12, .inl t_ends))] [(a_t, .inr (9, [.ref a_t_now, .ref a_t_kept, .ref a_t_isKept, .ref a_t_acts, .int t_manyActs, .ref a_t_was, .int t_status, .ref a_t_lanes, .ref a_t_longs, .ref a_t_isThere, .ref a_t_items, .ref a_t_copied, .ref a_t_tape, .int t_tapeLong, .int t_fault, .int t_tokenAt, .int t_tokenLong, .int t_token, .int t_value, .ref a_t_readSorts, .ref a_t_readHands, .int R.1, .int R.2.1, .int R.2.2.1, .int R.2.2.2.1, .ref a_t_inTurn, .ref a_t_ends, .ref a_t_bestHands, .int t_fewestSo, .ref a_t_traces, .int t_traced])), (a_t_now, .inl (cI, 27, .inl R.2.2.2.2.1)), (a_t_inTurn, .inl (cI, 8, .inl R.2.2.2.2.2.1)), (a_t_ends, .inl (cI, 12, .inl R.2.2.2.2.2.2))] := by
  intro R hR
  refine zv_of (cc := cX9_goRound) (maxL := 4) (ret := none) (by decide) rfl (Nat.le_of_ble_eq_true rfl) (fun E hE1 hE2 hC hN hQ => ?_)
  subst hE1 hE2
  exact z_X9_goRound_0 hC hN (N := N) (a_t := a_t) (a_t_now := a_t_now) (a_t_inTurn := a_t_inTurn) (a_t_ends := a_t_ends) (a_t_kept := a_t_kept) (a_t_isKept := a_t_isKept) (a_t_acts := a_t_acts) (a_t_was := a_t_was) (a_t_lanes := a_t_lanes) (a_t_longs := a_t_longs) (a_t_isThere := a_t_isThere) (a_t_items := a_t_items) (a_t_copied := a_t_copied) (a_t_tape := a_t_tape) (a_t_readSorts := a_t_readSorts) (a_t_readHands := a_t_readHands) (a_t_bestHands := a_t_bestHands) (a_t_traces := a_t_traces) (t_manyActs := t_manyActs) (t_status := t_status) (t_tapeLong := t_tapeLong) (t_fault := t_fault) (t_tokenAt := t_tokenAt) (t_tokenLong := t_tokenLong) (t_token := t_token) (t_value := t_value) (t_winner := t_winner) (t_throwsOf := t_throwsOf) (t_handA := t_handA) (t_handB := t_handB) (t_fewestSo := t_fewestSo) (t_traced := t_traced) (t_now := t_now) (t_inTurn := t_inTurn) (t_ends := t_ends) hQ hR

/-! FistTrainsModel.keepAct -/
abbrev rmX9_keepAct : Room := { frames := 0, cells := 0, slots := 0, locals := 0 }
set_option maxRecDepth 20000 in
theorem iX9_keepAct_X9 : ∀ w ∈ wsX90, w ∈ wsX9_keepAct := by decide +kernel
set_option maxRecDepth 20000 in
theorem mX9_keepAct_1 : Cond.fieldLink RX9 171 "FistTrainsModel" "manyActs" "I" ∈ wsX9_keepAct := List.mem_of_getElem? (i := 1) rfl
set_option maxRecDepth 20000 in
theorem mX9_keepAct_2 : Cond.fieldLink RX9 20 "FistTrainsModel" "acts" "[I" ∈ wsX9_keepAct := List.mem_of_getElem? (i := 2) rfl
set_option maxRecDepth 20000 in
theorem mX9_keepAct_3 : Cond.fieldLink RX9 7 "FistTrainsModel" "now" "[I" ∈ wsX9_keepAct := List.mem_of_getElem? (i := 3) rfl
def o_X9_keepAct_51 (N : Nat) (t_manyActs : Int32) (t_now : (Nat → Int32)) : Nat → (Nat → Int32) → Int32 → Option (Int32 × (Nat → Int32))
  | 0 => fun _ _ => none
  | n + 1 => fun t_acts l1 => 
    if 27 ≤ l1 then
      some ((t_manyActs + 1), t_acts)
    else
      ogd (inb l1 27) (
      ogd (inb ((27 * t_manyActs) + l1) 648) (
      o_X9_keepAct_51 N t_manyActs t_now n (upd t_acts (Int32.toNatClampNeg ((27 * t_manyActs) + l1)) (t_now (Int32.toNatClampNeg l1))) (l1 + 1)))
def o_X9_keepAct_11 (N : Nat) (t_manyActs : Int32) (t_now : (Nat → Int32)) : Nat → (Nat → Int32) → Int32 → Option (Int32 × (Nat → Int32))
  | 0 => fun _ _ => none
  | n + 1 => fun t_acts l1 => 
    if 621 ≤ l1 then
      o_X9_keepAct_51 N (t_manyActs - 1) t_now N t_acts 0
    else
      ogd (inb (l1 + 27) 648) (
      ogd (inb l1 648) (
      o_X9_keepAct_11 N t_manyActs t_now n (upd t_acts (Int32.toNatClampNeg l1) (t_acts (Int32.toNatClampNeg (l1 + 27)))) (l1 + 1)))
def o_X9_keepAct (N : Nat) (t_manyActs : Int32) (t_now : (Nat → Int32)) (t_acts : (Nat → Int32)) : Option (Int32 × (Nat → Int32)) :=
  if t_manyActs = 24 then
    o_X9_keepAct_11 N t_manyActs t_now N t_acts 0
  else
    o_X9_keepAct_51 N t_manyActs t_now N t_acts 0
set_option maxHeartbeats 4000000 in
set_option maxRecDepth 100000 in
theorem z_X9_keepAct_51 {sK sV : Nat → Nat} {E : ZE} {cI cB cZ : ClassId} (hC : ZC E 2 cX9_keepAct wsX9_keepAct RX9 rmX9_keepAct none (zty cI cB cZ)) (hN : ZN sK sV (zA E) (zs E)) {N : Nat} {a_t : Nat} {a_t_now : Nat} {a_t_acts : Nat} {a_t_kept : Nat} {a_t_isKept : Nat} {a_t_was : Nat} {a_t_lanes : Nat} {a_t_longs : Nat} {a_t_isThere : Nat} {a_t_items : Nat} {a_t_copied : Nat} {a_t_tape : Nat} {a_t_readSorts : Nat} {a_t_readHands : Nat} {a_t_inTurn : Nat} {a_t_ends : Nat} {a_t_bestHands : Nat} {a_t_traces : Nat} {t_manyActs : Int32} {t_status : Int32} {t_tapeLong : Int32} {t_fault : Int32} {t_tokenAt : Int32} {t_tokenLong : Int32} {t_token : Int32} {t_value : Int32} {t_winner : Int32} {t_throwsOf : Int32} {t_handA : Int32} {t_handB : Int32} {t_fewestSo : Int32} {t_traced : Int32} {t_now : (Nat → Int32)} {rf : Int32 × (Nat → Int32)} (hQ : ZQv E (zty cI cB cZ) [(a_t, .inr (9, [.ref a_t_now, .ref a_t_kept, .ref a_t_isKept, .ref a_t_acts, .int rf.1, .ref a_t_was, .int t_status, .ref a_t_lanes, .ref a_t_longs, .ref a_t_isThere, .ref a_t_items, .ref a_t_copied, .ref a_t_tape, .int t_tapeLong, .int t_fault, .int t_tokenAt, .int t_tokenLong, .int t_token, .int t_value, .ref a_t_readSorts, .ref a_t_readHands, .int t_winner, .int t_throwsOf, .int t_handA, .int t_handB, .ref a_t_inTurn, .ref a_t_ends, .ref a_t_bestHands, .int t_fewestSo, .ref a_t_traces, .int t_traced])), (a_t_now, .inl (cI, 27, .inl t_now)), (a_t_acts, .inl (cI, 648, .inl rf.2))]) : ∀ (n : Nat) (t_acts : (Nat → Int32)) (l1 : Int32), o_X9_keepAct_51 N t_manyActs t_now n t_acts l1 = some rf → Z E (0, 0) [(0, .ref a_t), (1, .int l1)] 51 [] [(a_t, .inr (9, [.ref a_t_now, .ref a_t_kept, .ref a_t_isKept, .ref a_t_acts, .int t_manyActs, .ref a_t_was, .int t_status, .ref a_t_lanes, .ref a_t_longs, .ref a_t_isThere, .ref a_t_items, .ref a_t_copied, .ref a_t_tape, .int t_tapeLong, .int t_fault, .int t_tokenAt, .int t_tokenLong, .int t_token, .int t_value, .ref a_t_readSorts, .ref a_t_readHands, .int t_winner, .int t_throwsOf, .int t_handA, .int t_handB, .ref a_t_inTurn, .ref a_t_ends, .ref a_t_bestHands, .int t_fewestSo, .ref a_t_traces, .int t_traced])), (a_t_now, .inl (cI, 27, .inl t_now)), (a_t_acts, .inl (cI, 648, .inl t_acts))] := by
  intro n
  induction n with
  | zero =>
    intro t_acts l1 hR
    cases hR
  | succ n ih =>
    intro t_acts l1 hR
    rw [o_X9_keepAct_51] at hR
    refine z_iload_n hC dX9_keepAct_51 rfl 1 rfl ?_
    refine z_bipush (v := 27) hC dX9_keepAct_52 (by decide) ?_
    refine z_icmp_ge hC 83 dX9_keepAct_54 (by decide) hR (fun hR => ?_) (fun hR => ?_)
    · refine z_aload_n hC dX9_keepAct_83 rfl 0 rfl ?_
      refine z_dup hC dX9_keepAct_84 rfl ?_
      refine z_get hC iX9_keepAct_X9 rfl 0 4 rfl (by decide) mX9_keepAct_1 rfl rfl dX9_keepAct_85 ?_
      refine z_ic1 hC dX9_keepAct_88 ?_
      refine z_iadd hC dX9_keepAct_89 ?_
      refine z_put hC iX9_keepAct_X9 tyX9_ok nmX9 rfl 0 4 rfl (by decide) mX9_keepAct_1 rfl rfl rfl rfl (Nat.le_of_ble_eq_true rfl) dX9_keepAct_90 ?_
      obtain rfl := Option.some.inj hR
      exact z_vret hC hQ rfl dX9_keepAct_93
    · refine z_aload_n hC dX9_keepAct_57 rfl 0 rfl ?_
      refine z_get hC iX9_keepAct_X9 rfl 0 3 rfl (by decide) mX9_keepAct_2 rfl rfl dX9_keepAct_58 ?_
      refine z_bipush (v := 27) hC dX9_keepAct_61 (by decide) ?_
      refine z_aload_n hC dX9_keepAct_63 rfl 0 rfl ?_
      refine z_get hC iX9_keepAct_X9 rfl 0 4 rfl (by decide) mX9_keepAct_1 rfl rfl dX9_keepAct_64 ?_
      refine z_imul hC dX9_keepAct_67 ?_
      refine z_iload_n hC dX9_keepAct_68 rfl 1 rfl ?_
      refine z_iadd hC dX9_keepAct_69 ?_
      refine z_aload_n hC dX9_keepAct_70 rfl 0 rfl ?_
      refine z_get hC iX9_keepAct_X9 rfl 0 0 rfl (by decide) mX9_keepAct_3 rfl rfl dX9_keepAct_71 ?_
      refine z_iload_n hC dX9_keepAct_74 rfl 1 rfl ?_
      refine z_iald hC 1 0 rfl rfl dX9_keepAct_75 hR (fun hR => ?_)
      refine z_iast hC 2 0 rfl rfl dX9_keepAct_76 hR (fun hR => ?_)
      refine z_iinc1 hC [(1, .int (l1 + 1)), (0, .ref a_t)] dX9_keepAct_77 1 rfl (by decide) rfl ?_
      refine z_goto hC 51 dX9_keepAct_80 (by decide) ?_
      refine z_sub (lv' := [(0, .ref a_t), (1, .int (l1 + 1))]) [1, 0] rfl ?_
      exact ih (upd t_acts (Int32.toNatClampNeg ((27 * t_manyActs) + l1)) (t_now (Int32.toNatClampNeg l1))) (l1 + 1) hR
set_option maxHeartbeats 4000000 in
set_option maxRecDepth 100000 in
theorem z_X9_keepAct_11 {sK sV : Nat → Nat} {E : ZE} {cI cB cZ : ClassId} (hC : ZC E 2 cX9_keepAct wsX9_keepAct RX9 rmX9_keepAct none (zty cI cB cZ)) (hN : ZN sK sV (zA E) (zs E)) {N : Nat} {a_t : Nat} {a_t_now : Nat} {a_t_acts : Nat} {a_t_kept : Nat} {a_t_isKept : Nat} {a_t_was : Nat} {a_t_lanes : Nat} {a_t_longs : Nat} {a_t_isThere : Nat} {a_t_items : Nat} {a_t_copied : Nat} {a_t_tape : Nat} {a_t_readSorts : Nat} {a_t_readHands : Nat} {a_t_inTurn : Nat} {a_t_ends : Nat} {a_t_bestHands : Nat} {a_t_traces : Nat} {t_manyActs : Int32} {t_status : Int32} {t_tapeLong : Int32} {t_fault : Int32} {t_tokenAt : Int32} {t_tokenLong : Int32} {t_token : Int32} {t_value : Int32} {t_winner : Int32} {t_throwsOf : Int32} {t_handA : Int32} {t_handB : Int32} {t_fewestSo : Int32} {t_traced : Int32} {t_now : (Nat → Int32)} {rf : Int32 × (Nat → Int32)} (hQ : ZQv E (zty cI cB cZ) [(a_t, .inr (9, [.ref a_t_now, .ref a_t_kept, .ref a_t_isKept, .ref a_t_acts, .int rf.1, .ref a_t_was, .int t_status, .ref a_t_lanes, .ref a_t_longs, .ref a_t_isThere, .ref a_t_items, .ref a_t_copied, .ref a_t_tape, .int t_tapeLong, .int t_fault, .int t_tokenAt, .int t_tokenLong, .int t_token, .int t_value, .ref a_t_readSorts, .ref a_t_readHands, .int t_winner, .int t_throwsOf, .int t_handA, .int t_handB, .ref a_t_inTurn, .ref a_t_ends, .ref a_t_bestHands, .int t_fewestSo, .ref a_t_traces, .int t_traced])), (a_t_now, .inl (cI, 27, .inl t_now)), (a_t_acts, .inl (cI, 648, .inl rf.2))]) : ∀ (n : Nat) (t_acts : (Nat → Int32)) (l1 : Int32), o_X9_keepAct_11 N t_manyActs t_now n t_acts l1 = some rf → Z E (0, 0) [(0, .ref a_t), (1, .int l1)] 11 [] [(a_t, .inr (9, [.ref a_t_now, .ref a_t_kept, .ref a_t_isKept, .ref a_t_acts, .int t_manyActs, .ref a_t_was, .int t_status, .ref a_t_lanes, .ref a_t_longs, .ref a_t_isThere, .ref a_t_items, .ref a_t_copied, .ref a_t_tape, .int t_tapeLong, .int t_fault, .int t_tokenAt, .int t_tokenLong, .int t_token, .int t_value, .ref a_t_readSorts, .ref a_t_readHands, .int t_winner, .int t_throwsOf, .int t_handA, .int t_handB, .ref a_t_inTurn, .ref a_t_ends, .ref a_t_bestHands, .int t_fewestSo, .ref a_t_traces, .int t_traced])), (a_t_now, .inl (cI, 27, .inl t_now)), (a_t_acts, .inl (cI, 648, .inl t_acts))] := by
  intro n
  induction n with
  | zero =>
    intro t_acts l1 hR
    cases hR
  | succ n ih =>
    intro t_acts l1 hR
    rw [o_X9_keepAct_11] at hR
    refine z_iload_n hC dX9_keepAct_11 rfl 1 rfl ?_
    refine z_sipush (v := 621) hC dX9_keepAct_12 (by decide) ?_
    refine z_icmp_ge hC 39 dX9_keepAct_15 (by decide) hR (fun hR => ?_) (fun hR => ?_)
    · refine z_aload_n hC dX9_keepAct_39 rfl 0 rfl ?_
      refine z_dup hC dX9_keepAct_40 rfl ?_
      refine z_get hC iX9_keepAct_X9 rfl 0 4 rfl (by decide) mX9_keepAct_1 rfl rfl dX9_keepAct_41 ?_
      refine z_ic1 hC dX9_keepAct_44 ?_
      refine z_isub hC dX9_keepAct_45 ?_
      refine z_put hC iX9_keepAct_X9 tyX9_ok nmX9 rfl 0 4 rfl (by decide) mX9_keepAct_1 rfl rfl rfl rfl (Nat.le_of_ble_eq_true rfl) dX9_keepAct_46 ?_
      refine z_ic0 hC dX9_keepAct_49 ?_
      refine z_istore_n hC [(1, .int 0), (0, .ref a_t)] dX9_keepAct_50 rfl (by decide) rfl ?_
      refine z_sub (lv' := [(0, .ref a_t), (1, .int 0)]) [1, 0] rfl ?_
      exact z_X9_keepAct_51 hC hN (N := N) (a_t := a_t) (a_t_now := a_t_now) (a_t_acts := a_t_acts) (a_t_kept := a_t_kept) (a_t_isKept := a_t_isKept) (a_t_was := a_t_was) (a_t_lanes := a_t_lanes) (a_t_longs := a_t_longs) (a_t_isThere := a_t_isThere) (a_t_items := a_t_items) (a_t_copied := a_t_copied) (a_t_tape := a_t_tape) (a_t_readSorts := a_t_readSorts) (a_t_readHands := a_t_readHands) (a_t_inTurn := a_t_inTurn) (a_t_ends := a_t_ends) (a_t_bestHands := a_t_bestHands) (a_t_traces := a_t_traces) (t_manyActs := (t_manyActs - 1)) (t_status := t_status) (t_tapeLong := t_tapeLong) (t_fault := t_fault) (t_tokenAt := t_tokenAt) (t_tokenLong := t_tokenLong) (t_token := t_token) (t_value := t_value) (t_winner := t_winner) (t_throwsOf := t_throwsOf) (t_handA := t_handA) (t_handB := t_handB) (t_fewestSo := t_fewestSo) (t_traced := t_traced) (t_now := t_now) hQ  N t_acts 0 hR
    · refine z_aload_n hC dX9_keepAct_18 rfl 0 rfl ?_
      refine z_get hC iX9_keepAct_X9 rfl 0 3 rfl (by decide) mX9_keepAct_2 rfl rfl dX9_keepAct_19 ?_
      refine z_iload_n hC dX9_keepAct_22 rfl 1 rfl ?_
      refine z_aload_n hC dX9_keepAct_23 rfl 0 rfl ?_
      refine z_get hC iX9_keepAct_X9 rfl 0 3 rfl (by decide) mX9_keepAct_2 rfl rfl dX9_keepAct_24 ?_
      refine z_iload_n hC dX9_keepAct_27 rfl 1 rfl ?_
      refine z_bipush (v := 27) hC dX9_keepAct_28 (by decide) ?_
      refine z_iadd hC dX9_keepAct_30 ?_
      refine z_iald hC 2 0 rfl rfl dX9_keepAct_31 hR (fun hR => ?_)
      refine z_iast hC 2 0 rfl rfl dX9_keepAct_32 hR (fun hR => ?_)
      refine z_iinc1 hC [(1, .int (l1 + 1)), (0, .ref a_t)] dX9_keepAct_33 1 rfl (by decide) rfl ?_
      refine z_goto hC 11 dX9_keepAct_36 (by decide) ?_
      refine z_sub (lv' := [(0, .ref a_t), (1, .int (l1 + 1))]) [1, 0] rfl ?_
      exact ih (upd t_acts (Int32.toNatClampNeg l1) (t_acts (Int32.toNatClampNeg (l1 + 27)))) (l1 + 1) hR
set_option maxHeartbeats 4000000 in
set_option maxRecDepth 100000 in
theorem z_X9_keepAct_0 {sK sV : Nat → Nat} {E : ZE} {cI cB cZ : ClassId} (hC : ZC E 2 cX9_keepAct wsX9_keepAct RX9 rmX9_keepAct none (zty cI cB cZ)) (hN : ZN sK sV (zA E) (zs E)) {N : Nat} {a_t : Nat} {a_t_now : Nat} {a_t_acts : Nat} {a_t_kept : Nat} {a_t_isKept : Nat} {a_t_was : Nat} {a_t_lanes : Nat} {a_t_longs : Nat} {a_t_isThere : Nat} {a_t_items : Nat} {a_t_copied : Nat} {a_t_tape : Nat} {a_t_readSorts : Nat} {a_t_readHands : Nat} {a_t_inTurn : Nat} {a_t_ends : Nat} {a_t_bestHands : Nat} {a_t_traces : Nat} {t_manyActs : Int32} {t_status : Int32} {t_tapeLong : Int32} {t_fault : Int32} {t_tokenAt : Int32} {t_tokenLong : Int32} {t_token : Int32} {t_value : Int32} {t_winner : Int32} {t_throwsOf : Int32} {t_handA : Int32} {t_handB : Int32} {t_fewestSo : Int32} {t_traced : Int32} {t_now : (Nat → Int32)} {t_acts : (Nat → Int32)} {rf : Int32 × (Nat → Int32)} (hQ : ZQv E (zty cI cB cZ) [(a_t, .inr (9, [.ref a_t_now, .ref a_t_kept, .ref a_t_isKept, .ref a_t_acts, .int rf.1, .ref a_t_was, .int t_status, .ref a_t_lanes, .ref a_t_longs, .ref a_t_isThere, .ref a_t_items, .ref a_t_copied, .ref a_t_tape, .int t_tapeLong, .int t_fault, .int t_tokenAt, .int t_tokenLong, .int t_token, .int t_value, .ref a_t_readSorts, .ref a_t_readHands, .int t_winner, .int t_throwsOf, .int t_handA, .int t_handB, .ref a_t_inTurn, .ref a_t_ends, .ref a_t_bestHands, .int t_fewestSo, .ref a_t_traces, .int t_traced])), (a_t_now, .inl (cI, 27, .inl t_now)), (a_t_acts, .inl (cI, 648, .inl rf.2))]) (hR : o_X9_keepAct N t_manyActs t_now t_acts = some rf) : Z E (0, 0) [(0, .ref a_t)] 0 [] [(a_t, .inr (9, [.ref a_t_now, .ref a_t_kept, .ref a_t_isKept, .ref a_t_acts, .int t_manyActs, .ref a_t_was, .int t_status, .ref a_t_lanes, .ref a_t_longs, .ref a_t_isThere, .ref a_t_items, .ref a_t_copied, .ref a_t_tape, .int t_tapeLong, .int t_fault, .int t_tokenAt, .int t_tokenLong, .int t_token, .int t_value, .ref a_t_readSorts, .ref a_t_readHands, .int t_winner, .int t_throwsOf, .int t_handA, .int t_handB, .ref a_t_inTurn, .ref a_t_ends, .ref a_t_bestHands, .int t_fewestSo, .ref a_t_traces, .int t_traced])), (a_t_now, .inl (cI, 27, .inl t_now)), (a_t_acts, .inl (cI, 648, .inl t_acts))] := by
  rw [o_X9_keepAct] at hR
  refine z_aload_n hC dX9_keepAct_0 rfl 0 rfl ?_
  refine z_get hC iX9_keepAct_X9 rfl 0 4 rfl (by decide) mX9_keepAct_1 rfl rfl dX9_keepAct_1 ?_
  refine z_bipush (v := 24) hC dX9_keepAct_4 (by decide) ?_
  refine z_icmp_ne hC 49 dX9_keepAct_6 (by decide) hR (fun hR => ?_) (fun hR => ?_)
  · refine z_ic0 hC dX9_keepAct_49 ?_
    refine z_istore_n hC [(1, .int 0), (0, .ref a_t)] dX9_keepAct_50 rfl (by decide) rfl ?_
    refine z_sub (lv' := [(0, .ref a_t), (1, .int 0)]) [1, 0] rfl ?_
    exact z_X9_keepAct_51 hC hN (N := N) (a_t := a_t) (a_t_now := a_t_now) (a_t_acts := a_t_acts) (a_t_kept := a_t_kept) (a_t_isKept := a_t_isKept) (a_t_was := a_t_was) (a_t_lanes := a_t_lanes) (a_t_longs := a_t_longs) (a_t_isThere := a_t_isThere) (a_t_items := a_t_items) (a_t_copied := a_t_copied) (a_t_tape := a_t_tape) (a_t_readSorts := a_t_readSorts) (a_t_readHands := a_t_readHands) (a_t_inTurn := a_t_inTurn) (a_t_ends := a_t_ends) (a_t_bestHands := a_t_bestHands) (a_t_traces := a_t_traces) (t_manyActs := t_manyActs) (t_status := t_status) (t_tapeLong := t_tapeLong) (t_fault := t_fault) (t_tokenAt := t_tokenAt) (t_tokenLong := t_tokenLong) (t_token := t_token) (t_value := t_value) (t_winner := t_winner) (t_throwsOf := t_throwsOf) (t_handA := t_handA) (t_handB := t_handB) (t_fewestSo := t_fewestSo) (t_traced := t_traced) (t_now := t_now) hQ  N t_acts 0 hR
  · refine z_ic0 hC dX9_keepAct_9 ?_
    refine z_istore_n hC [(1, .int 0), (0, .ref a_t)] dX9_keepAct_10 rfl (by decide) rfl ?_
    refine z_sub (lv' := [(0, .ref a_t), (1, .int 0)]) [1, 0] rfl ?_
    exact z_X9_keepAct_11 hC hN (N := N) (a_t := a_t) (a_t_now := a_t_now) (a_t_acts := a_t_acts) (a_t_kept := a_t_kept) (a_t_isKept := a_t_isKept) (a_t_was := a_t_was) (a_t_lanes := a_t_lanes) (a_t_longs := a_t_longs) (a_t_isThere := a_t_isThere) (a_t_items := a_t_items) (a_t_copied := a_t_copied) (a_t_tape := a_t_tape) (a_t_readSorts := a_t_readSorts) (a_t_readHands := a_t_readHands) (a_t_inTurn := a_t_inTurn) (a_t_ends := a_t_ends) (a_t_bestHands := a_t_bestHands) (a_t_traces := a_t_traces) (t_manyActs := t_manyActs) (t_status := t_status) (t_tapeLong := t_tapeLong) (t_fault := t_fault) (t_tokenAt := t_tokenAt) (t_tokenLong := t_tokenLong) (t_token := t_token) (t_value := t_value) (t_winner := t_winner) (t_throwsOf := t_throwsOf) (t_handA := t_handA) (t_handB := t_handB) (t_fewestSo := t_fewestSo) (t_traced := t_traced) (t_now := t_now) hQ  N t_acts 0 hR
set_option maxHeartbeats 4000000 in
set_option maxRecDepth 100000 in
theorem c_X9_keepAct {sK sV : Nat → Nat} {l : Launch} {D : va_G} {cI cB cZ : ClassId} {N : Nat} {a_t : Nat} {a_t_now : Nat} {a_t_acts : Nat} {a_t_kept : Nat} {a_t_isKept : Nat} {a_t_was : Nat} {a_t_lanes : Nat} {a_t_longs : Nat} {a_t_isThere : Nat} {a_t_items : Nat} {a_t_copied : Nat} {a_t_tape : Nat} {a_t_readSorts : Nat} {a_t_readHands : Nat} {a_t_inTurn : Nat} {a_t_ends : Nat} {a_t_bestHands : Nat} {a_t_traces : Nat} {t_manyActs : Int32} {t_status : Int32} {t_tapeLong : Int32} {t_fault : Int32} {t_tokenAt : Int32} {t_tokenLong : Int32} {t_token : Int32} {t_value : Int32} {t_winner : Int32} {t_throwsOf : Int32} {t_handA : Int32} {t_handB : Int32} {t_fewestSo : Int32} {t_traced : Int32} {t_now : (Nat → Int32)} {t_acts : (Nat → Int32)} : ∀ R : Int32 × (Nat → Int32), o_X9_keepAct N t_manyActs t_now t_acts = some R → ZMv sK sV l yX9_keepAct wsX9_keepAct rmX9_keepAct D (zty cI cB cZ) [.ref a_t] [(a_t, .inr (9, [.ref a_t_now, .ref a_t_kept, .ref a_t_isKept, .ref a_t_acts, .int t_manyActs, .ref a_t_was, .int t_status, .ref a_t_lanes, .ref a_t_longs, .ref a_t_isThere, .ref a_t_items, .ref a_t_copied, .ref a_t_tape, .int t_tapeLong, .int t_fault, .int t_tokenAt, .int t_tokenLong, .int t_token, .int t_value, .ref a_t_readSorts, .ref a_t_readHands, .int t_winner, .int t_throwsOf, .int t_handA, .int t_handB, .ref a_t_inTurn, .ref a_t_ends, .ref a_t_bestHands, .int t_fewestSo, .ref a_t_traces, .int t_traced])), (a_t_now, .inl (cI, 27, .inl t_now)), (a_t_acts, .inl (cI, 648, .inl t_acts))] [(a_t, .inr (9, [.ref a_t_now, .ref a_t_kept, .ref a_t_isKept, .ref a_t_acts, .int R.1, .ref a_t_was, .int t_status, .ref a_t_lanes, .ref a_t_longs, .ref a_t_isThere, .ref a_t_items, .ref a_t_copied, .ref a_t_tape, .int t_tapeLong, .int t_fault, .int t_tokenAt, .int t_tokenLong, .int t_token, .int t_value, .ref a_t_readSorts, .ref a_t_readHands, .int t_winner, .int t_throwsOf, .int t_handA, .int t_handB, .ref a_t_inTurn, .ref a_t_ends, .ref a_t_bestHands, .int t_fewestSo, .ref a_t_traces, .int t_traced])), (a_t_now, .inl (cI, 27, .inl t_now)), (a_t_acts, .inl (cI, 648, .inl R.2))] := by
  intro R hR
  refine zv_of (cc := cX9_keepAct) (maxL := 2) (ret := none) (by decide) rfl (Nat.le_of_ble_eq_true rfl) (fun E hE1 hE2 hC hN hQ => ?_)
  subst hE1 hE2
  exact z_X9_keepAct_0 hC hN (N := N) (a_t := a_t) (a_t_now := a_t_now) (a_t_acts := a_t_acts) (a_t_kept := a_t_kept) (a_t_isKept := a_t_isKept) (a_t_was := a_t_was) (a_t_lanes := a_t_lanes) (a_t_longs := a_t_longs) (a_t_isThere := a_t_isThere) (a_t_items := a_t_items) (a_t_copied := a_t_copied) (a_t_tape := a_t_tape) (a_t_readSorts := a_t_readSorts) (a_t_readHands := a_t_readHands) (a_t_inTurn := a_t_inTurn) (a_t_ends := a_t_ends) (a_t_bestHands := a_t_bestHands) (a_t_traces := a_t_traces) (t_manyActs := t_manyActs) (t_status := t_status) (t_tapeLong := t_tapeLong) (t_fault := t_fault) (t_tokenAt := t_tokenAt) (t_tokenLong := t_tokenLong) (t_token := t_token) (t_value := t_value) (t_winner := t_winner) (t_throwsOf := t_throwsOf) (t_handA := t_handA) (t_handB := t_handB) (t_fewestSo := t_fewestSo) (t_traced := t_traced) (t_now := t_now) (t_acts := t_acts) hQ hR

/-! FistTrainsModel.notTwo -/
abbrev rmX9_notTwo : Room := { frames := 2, cells := 0, slots := 0, locals := 46 }
set_option maxRecDepth 20000 in
theorem mX9_notTwo_1 : Cond.constant RX9 79 (-1000001) ∈ wsX9_notTwo := List.mem_of_getElem? (i := 1) rfl
set_option maxRecDepth 20000 in
theorem mX9_notTwo_2 : Cond.constant RX9 213 (-1000002) ∈ wsX9_notTwo := List.mem_of_getElem? (i := 2) rfl
def o_X9_notTwo (N : Nat) (t_now : (Nat → Int32)) (l1 : Int32) (l2 : Int32) : Option (Int32) :=
  Option.bind (o_X9_isPlayer N t_now l1) (fun r2 =>
  if r2 = 0 then
    some ((-1000001))
  else
    Option.bind (o_X9_isPlayer N t_now l2) (fun r10 =>
    if r10 = 0 then
      some ((-1000001))
    else
      if l1 = l2 then
        some ((-1000001))
      else
        Option.bind (o_X9_leads N t_now l1) (fun r28 =>
        if r28 = 0 then
          some ((-1000002))
        else
          Option.bind (o_X9_leads N t_now l2) (fun r36 =>
          if r36 = 0 then
            some ((-1000002))
          else
            some (0)))))
set_option maxHeartbeats 4000000 in
set_option maxRecDepth 100000 in
theorem z_X9_notTwo_0 {sK sV : Nat → Nat} {E : ZE} {cI cB cZ : ClassId} (hC : ZC E 3 cX9_notTwo wsX9_notTwo RX9 rmX9_notTwo (some .int) (zty cI cB cZ)) (hN : ZN sK sV (zA E) (zs E)) {N : Nat} {a_t : Nat} {a_t_now : Nat} {a_t_kept : Nat} {a_t_isKept : Nat} {a_t_acts : Nat} {a_t_was : Nat} {a_t_lanes : Nat} {a_t_longs : Nat} {a_t_isThere : Nat} {a_t_items : Nat} {a_t_copied : Nat} {a_t_tape : Nat} {a_t_readSorts : Nat} {a_t_readHands : Nat} {a_t_inTurn : Nat} {a_t_ends : Nat} {a_t_bestHands : Nat} {a_t_traces : Nat} {t_manyActs : Int32} {t_status : Int32} {t_tapeLong : Int32} {t_fault : Int32} {t_tokenAt : Int32} {t_tokenLong : Int32} {t_token : Int32} {t_value : Int32} {t_winner : Int32} {t_throwsOf : Int32} {t_handA : Int32} {t_handB : Int32} {t_fewestSo : Int32} {t_traced : Int32} {t_now : (Nat → Int32)} {l1 : Int32} {l2 : Int32} {rf : Int32} (hQ : ZQi E (zty cI cB cZ) rf [(a_t, .inr (9, [.ref a_t_now, .ref a_t_kept, .ref a_t_isKept, .ref a_t_acts, .int t_manyActs, .ref a_t_was, .int t_status, .ref a_t_lanes, .ref a_t_longs, .ref a_t_isThere, .ref a_t_items, .ref a_t_copied, .ref a_t_tape, .int t_tapeLong, .int t_fault, .int t_tokenAt, .int t_tokenLong, .int t_token, .int t_value, .ref a_t_readSorts, .ref a_t_readHands, .int t_winner, .int t_throwsOf, .int t_handA, .int t_handB, .ref a_t_inTurn, .ref a_t_ends, .ref a_t_bestHands, .int t_fewestSo, .ref a_t_traces, .int t_traced])), (a_t_now, .inl (cI, 27, .inl t_now))]) (hR : o_X9_notTwo N t_now l1 l2 = some rf) : Z E (0, 0) [(0, .ref a_t), (1, .int l1), (2, .int l2)] 0 [] [(a_t, .inr (9, [.ref a_t_now, .ref a_t_kept, .ref a_t_isKept, .ref a_t_acts, .int t_manyActs, .ref a_t_was, .int t_status, .ref a_t_lanes, .ref a_t_longs, .ref a_t_isThere, .ref a_t_items, .ref a_t_copied, .ref a_t_tape, .int t_tapeLong, .int t_fault, .int t_tokenAt, .int t_tokenLong, .int t_token, .int t_value, .ref a_t_readSorts, .ref a_t_readHands, .int t_winner, .int t_throwsOf, .int t_handA, .int t_handB, .ref a_t_inTurn, .ref a_t_ends, .ref a_t_bestHands, .int t_fewestSo, .ref a_t_traces, .int t_traced])), (a_t_now, .inl (cI, 27, .inl t_now))] := by
  rw [o_X9_notTwo] at hR
  refine z_aload_n hC dX9_notTwo_0 rfl 0 rfl ?_
  refine z_iload_n hC dX9_notTwo_1 rfl 1 rfl ?_
  refine z_callVi_p hC hN [.int l1] [0, 1] (c_X9_isPlayer (l := zl E) (D := zD E) (cI := cI) (cB := cB) (cZ := cZ) (N := N) (a_t := a_t) (a_t_now := a_t_now) (a_t_kept := a_t_kept) (a_t_isKept := a_t_isKept) (a_t_acts := a_t_acts) (a_t_was := a_t_was) (a_t_lanes := a_t_lanes) (a_t_longs := a_t_longs) (a_t_isThere := a_t_isThere) (a_t_items := a_t_items) (a_t_copied := a_t_copied) (a_t_tape := a_t_tape) (a_t_readSorts := a_t_readSorts) (a_t_readHands := a_t_readHands) (a_t_inTurn := a_t_inTurn) (a_t_ends := a_t_ends) (a_t_bestHands := a_t_bestHands) (a_t_traces := a_t_traces) (l1 := l1) (t_manyActs := t_manyActs) (t_status := t_status) (t_tapeLong := t_tapeLong) (t_fault := t_fault) (t_tokenAt := t_tokenAt) (t_tokenLong := t_tokenLong) (t_token := t_token) (t_value := t_value) (t_winner := t_winner) (t_throwsOf := t_throwsOf) (t_handA := t_handA) (t_handB := t_handB) (t_fewestSo := t_fewestSo) (t_traced := t_traced) (t_now := t_now)) rfl ⟨rfl, rfl⟩ gX9_notTwo_X9_isPlayer hvX9_isPlayer 0 9 rfl rfl rfl ⟨Nat.le_of_ble_eq_true rfl, Nat.le_of_ble_eq_true rfl⟩ ⟨Nat.zero_le _, Nat.zero_le _⟩ rfl (Nat.le_of_ble_eq_true rfl) rfl (by decide) dX9_notTwo_2 hR (fun r2 hR => ?_)
  refine z_if_eq hC 21 dX9_notTwo_5 (by decide) hR (fun hR => ?_) (fun hR => ?_)
  · refine z_ldc hC (-1000001) mX9_notTwo_1 dX9_notTwo_21 ?_
    refine z_goto hC 48 dX9_notTwo_23 (by decide) ?_
    obtain rfl := Option.some.inj hR
    exact z_iret hC hQ rfl rfl rfl dX9_notTwo_48
  · refine z_aload_n hC dX9_notTwo_8 rfl 0 rfl ?_
    refine z_iload_n hC dX9_notTwo_9 rfl 2 rfl ?_
    refine z_callVi_p hC hN [.int l2] [0, 1] (c_X9_isPlayer (l := zl E) (D := zD E) (cI := cI) (cB := cB) (cZ := cZ) (N := N) (a_t := a_t) (a_t_now := a_t_now) (a_t_kept := a_t_kept) (a_t_isKept := a_t_isKept) (a_t_acts := a_t_acts) (a_t_was := a_t_was) (a_t_lanes := a_t_lanes) (a_t_longs := a_t_longs) (a_t_isThere := a_t_isThere) (a_t_items := a_t_items) (a_t_copied := a_t_copied) (a_t_tape := a_t_tape) (a_t_readSorts := a_t_readSorts) (a_t_readHands := a_t_readHands) (a_t_inTurn := a_t_inTurn) (a_t_ends := a_t_ends) (a_t_bestHands := a_t_bestHands) (a_t_traces := a_t_traces) (l1 := l2) (t_manyActs := t_manyActs) (t_status := t_status) (t_tapeLong := t_tapeLong) (t_fault := t_fault) (t_tokenAt := t_tokenAt) (t_tokenLong := t_tokenLong) (t_token := t_token) (t_value := t_value) (t_winner := t_winner) (t_throwsOf := t_throwsOf) (t_handA := t_handA) (t_handB := t_handB) (t_fewestSo := t_fewestSo) (t_traced := t_traced) (t_now := t_now)) rfl ⟨rfl, rfl⟩ gX9_notTwo_X9_isPlayer hvX9_isPlayer 0 9 rfl rfl rfl ⟨Nat.le_of_ble_eq_true rfl, Nat.le_of_ble_eq_true rfl⟩ ⟨Nat.zero_le _, Nat.zero_le _⟩ rfl (Nat.le_of_ble_eq_true rfl) rfl (by decide) dX9_notTwo_10 hR (fun r10 hR => ?_)
    refine z_if_eq hC 21 dX9_notTwo_13 (by decide) hR (fun hR => ?_) (fun hR => ?_)
    · refine z_ldc hC (-1000001) mX9_notTwo_1 dX9_notTwo_21 ?_
      refine z_goto hC 48 dX9_notTwo_23 (by decide) ?_
      obtain rfl := Option.some.inj hR
      exact z_iret hC hQ rfl rfl rfl dX9_notTwo_48
    · refine z_iload_n hC dX9_notTwo_16 rfl 1 rfl ?_
      refine z_iload_n hC dX9_notTwo_17 rfl 2 rfl ?_
      refine z_icmp_ne hC 26 dX9_notTwo_18 (by decide) hR (fun hR => ?_) (fun hR => ?_)
      · refine z_aload_n hC dX9_notTwo_26 rfl 0 rfl ?_
        refine z_iload_n hC dX9_notTwo_27 rfl 1 rfl ?_
        refine z_callVi_p hC hN [.int l1] [0, 1] (c_X9_leads (l := zl E) (D := zD E) (cI := cI) (cB := cB) (cZ := cZ) (N := N) (a_t := a_t) (a_t_now := a_t_now) (a_t_kept := a_t_kept) (a_t_isKept := a_t_isKept) (a_t_acts := a_t_acts) (a_t_was := a_t_was) (a_t_lanes := a_t_lanes) (a_t_longs := a_t_longs) (a_t_isThere := a_t_isThere) (a_t_items := a_t_items) (a_t_copied := a_t_copied) (a_t_tape := a_t_tape) (a_t_readSorts := a_t_readSorts) (a_t_readHands := a_t_readHands) (a_t_inTurn := a_t_inTurn) (a_t_ends := a_t_ends) (a_t_bestHands := a_t_bestHands) (a_t_traces := a_t_traces) (l1 := l1) (t_manyActs := t_manyActs) (t_status := t_status) (t_tapeLong := t_tapeLong) (t_fault := t_fault) (t_tokenAt := t_tokenAt) (t_tokenLong := t_tokenLong) (t_token := t_token) (t_value := t_value) (t_winner := t_winner) (t_throwsOf := t_throwsOf) (t_handA := t_handA) (t_handB := t_handB) (t_fewestSo := t_fewestSo) (t_traced := t_traced) (t_now := t_now)) rfl ⟨rfl, rfl⟩ gX9_notTwo_X9_leads hvX9_leads 0 9 rfl rfl rfl ⟨Nat.le_of_ble_eq_true rfl, Nat.le_of_ble_eq_true rfl⟩ ⟨Nat.zero_le _, Nat.zero_le _⟩ rfl (Nat.le_of_ble_eq_true rfl) rfl (by decide) dX9_notTwo_28 hR (fun r28 hR => ?_)
        refine z_if_eq hC 42 dX9_notTwo_31 (by decide) hR (fun hR => ?_) (fun hR => ?_)
        · refine z_ldc hC (-1000002) mX9_notTwo_2 dX9_notTwo_42 ?_
          refine z_goto hC 48 dX9_notTwo_44 (by decide) ?_
          obtain rfl := Option.some.inj hR
          exact z_iret hC hQ rfl rfl rfl dX9_notTwo_48
        · refine z_aload_n hC dX9_notTwo_34 rfl 0 rfl ?_
          refine z_iload_n hC dX9_notTwo_35 rfl 2 rfl ?_
          refine z_callVi_p hC hN [.int l2] [0, 1] (c_X9_leads (l := zl E) (D := zD E) (cI := cI) (cB := cB) (cZ := cZ) (N := N) (a_t := a_t) (a_t_now := a_t_now) (a_t_kept := a_t_kept) (a_t_isKept := a_t_isKept) (a_t_acts := a_t_acts) (a_t_was := a_t_was) (a_t_lanes := a_t_lanes) (a_t_longs := a_t_longs) (a_t_isThere := a_t_isThere) (a_t_items := a_t_items) (a_t_copied := a_t_copied) (a_t_tape := a_t_tape) (a_t_readSorts := a_t_readSorts) (a_t_readHands := a_t_readHands) (a_t_inTurn := a_t_inTurn) (a_t_ends := a_t_ends) (a_t_bestHands := a_t_bestHands) (a_t_traces := a_t_traces) (l1 := l2) (t_manyActs := t_manyActs) (t_status := t_status) (t_tapeLong := t_tapeLong) (t_fault := t_fault) (t_tokenAt := t_tokenAt) (t_tokenLong := t_tokenLong) (t_token := t_token) (t_value := t_value) (t_winner := t_winner) (t_throwsOf := t_throwsOf) (t_handA := t_handA) (t_handB := t_handB) (t_fewestSo := t_fewestSo) (t_traced := t_traced) (t_now := t_now)) rfl ⟨rfl, rfl⟩ gX9_notTwo_X9_leads hvX9_leads 0 9 rfl rfl rfl ⟨Nat.le_of_ble_eq_true rfl, Nat.le_of_ble_eq_true rfl⟩ ⟨Nat.zero_le _, Nat.zero_le _⟩ rfl (Nat.le_of_ble_eq_true rfl) rfl (by decide) dX9_notTwo_36 hR (fun r36 hR => ?_)
          refine z_if_ne hC 47 dX9_notTwo_39 (by decide) hR (fun hR => ?_) (fun hR => ?_)
          · refine z_ic0 hC dX9_notTwo_47 ?_
            obtain rfl := Option.some.inj hR
            exact z_iret hC hQ rfl rfl rfl dX9_notTwo_48
          · refine z_ldc hC (-1000002) mX9_notTwo_2 dX9_notTwo_42 ?_
            refine z_goto hC 48 dX9_notTwo_44 (by decide) ?_
            obtain rfl := Option.some.inj hR
            exact z_iret hC hQ rfl rfl rfl dX9_notTwo_48
      · refine z_ldc hC (-1000001) mX9_notTwo_1 dX9_notTwo_21 ?_
        refine z_goto hC 48 dX9_notTwo_23 (by decide) ?_
        obtain rfl := Option.some.inj hR
        exact z_iret hC hQ rfl rfl rfl dX9_notTwo_48
set_option maxHeartbeats 4000000 in
set_option maxRecDepth 100000 in
theorem c_X9_notTwo {sK sV : Nat → Nat} {l : Launch} {D : va_G} {cI cB cZ : ClassId} {N : Nat} {a_t : Nat} {a_t_now : Nat} {a_t_kept : Nat} {a_t_isKept : Nat} {a_t_acts : Nat} {a_t_was : Nat} {a_t_lanes : Nat} {a_t_longs : Nat} {a_t_isThere : Nat} {a_t_items : Nat} {a_t_copied : Nat} {a_t_tape : Nat} {a_t_readSorts : Nat} {a_t_readHands : Nat} {a_t_inTurn : Nat} {a_t_ends : Nat} {a_t_bestHands : Nat} {a_t_traces : Nat} {t_manyActs : Int32} {t_status : Int32} {t_tapeLong : Int32} {t_fault : Int32} {t_tokenAt : Int32} {t_tokenLong : Int32} {t_token : Int32} {t_value : Int32} {t_winner : Int32} {t_throwsOf : Int32} {t_handA : Int32} {t_handB : Int32} {t_fewestSo : Int32} {t_traced : Int32} {t_now : (Nat → Int32)} {l1 : Int32} {l2 : Int32} : ∀ R : Int32, o_X9_notTwo N t_now l1 l2 = some R → ZMi sK sV l yX9_notTwo wsX9_notTwo rmX9_notTwo D (zty cI cB cZ) [.ref a_t, .int l1, .int l2] [(a_t, .inr (9, [.ref a_t_now, .ref a_t_kept, .ref a_t_isKept, .ref a_t_acts, .int t_manyActs, .ref a_t_was, .int t_status, .ref a_t_lanes, .ref a_t_longs, .ref a_t_isThere, .ref a_t_items, .ref a_t_copied, .ref a_t_tape, .int t_tapeLong, .int t_fault, .int t_tokenAt, .int t_tokenLong, .int t_token, .int t_value, .ref a_t_readSorts, .ref a_t_readHands, .int t_winner, .int t_throwsOf, .int t_handA, .int t_handB, .ref a_t_inTurn, .ref a_t_ends, .ref a_t_bestHands, .int t_fewestSo, .ref a_t_traces, .int t_traced])), (a_t_now, .inl (cI, 27, .inl t_now))] R [(a_t, .inr (9, [.ref a_t_now, .ref a_t_kept, .ref a_t_isKept, .ref a_t_acts, .int t_manyActs, .ref a_t_was, .int t_status, .ref a_t_lanes, .ref a_t_longs, .ref a_t_isThere, .ref a_t_items, .ref a_t_copied, .ref a_t_tape, .int t_tapeLong, .int t_fault, .int t_tokenAt, .int t_tokenLong, .int t_token, .int t_value, .ref a_t_readSorts, .ref a_t_readHands, .int t_winner, .int t_throwsOf, .int t_handA, .int t_handB, .ref a_t_inTurn, .ref a_t_ends, .ref a_t_bestHands, .int t_fewestSo, .ref a_t_traces, .int t_traced])), (a_t_now, .inl (cI, 27, .inl t_now))] := by
  intro R hR
  refine zi_of (cc := cX9_notTwo) (maxL := 3) (ret := (some .int)) (by decide) rfl (Nat.le_of_ble_eq_true rfl) (fun E hE1 hE2 hC hN hQ => ?_)
  subst hE1 hE2
  exact z_X9_notTwo_0 hC hN (N := N) (a_t := a_t) (a_t_now := a_t_now) (a_t_kept := a_t_kept) (a_t_isKept := a_t_isKept) (a_t_acts := a_t_acts) (a_t_was := a_t_was) (a_t_lanes := a_t_lanes) (a_t_longs := a_t_longs) (a_t_isThere := a_t_isThere) (a_t_items := a_t_items) (a_t_copied := a_t_copied) (a_t_tape := a_t_tape) (a_t_readSorts := a_t_readSorts) (a_t_readHands := a_t_readHands) (a_t_inTurn := a_t_inTurn) (a_t_ends := a_t_ends) (a_t_bestHands := a_t_bestHands) (a_t_traces := a_t_traces) (t_manyActs := t_manyActs) (t_status := t_status) (t_tapeLong := t_tapeLong) (t_fault := t_fault) (t_tokenAt := t_tokenAt) (t_tokenLong := t_tokenLong) (t_token := t_token) (t_value := t_value) (t_winner := t_winner) (t_throwsOf := t_throwsOf) (t_handA := t_handA) (t_handB := t_handB) (t_fewestSo := t_fewestSo) (t_traced := t_traced) (t_now := t_now) (l1 := l1) (l2 := l2) hQ hR

/-! FistTrainsModel.bout -/
abbrev rmX9_bout : Room := { frames := 3, cells := 0, slots := 0, locals := 70 }
set_option maxRecDepth 20000 in
theorem iX9_bout_X9 : ∀ w ∈ wsX90, w ∈ wsX9_bout := by decide +kernel
set_option maxRecDepth 20000 in
theorem mX9_bout_1 : Cond.fieldLink RX9 183 "FistTrainsModel" "handA" "I" ∈ wsX9_bout := List.mem_of_getElem? (i := 1) rfl
set_option maxRecDepth 20000 in
theorem mX9_bout_2 : Cond.fieldLink RX9 186 "FistTrainsModel" "handB" "I" ∈ wsX9_bout := List.mem_of_getElem? (i := 2) rfl
set_option maxRecDepth 20000 in
theorem mX9_bout_3 : Cond.fieldLink RX9 199 "FistTrainsModel" "winner" "I" ∈ wsX9_bout := List.mem_of_getElem? (i := 3) rfl
set_option maxRecDepth 20000 in
theorem mX9_bout_4 : Cond.fieldLink RX9 7 "FistTrainsModel" "now" "[I" ∈ wsX9_bout := List.mem_of_getElem? (i := 4) rfl
set_option maxRecDepth 20000 in
theorem mX9_bout_5 : Cond.fieldLink RX9 189 "FistTrainsModel" "throwsOf" "I" ∈ wsX9_bout := List.mem_of_getElem? (i := 5) rfl
def o_X9_bout (N : Nat) (t_manyActs : Int32) (t_winner : Int32) (t_throwsOf : Int32) (t_handA : Int32) (t_handB : Int32) (t_now : (Nat → Int32)) (t_acts : (Nat → Int32)) (l1 : Int32) (l2 : Int32) : Option (Int32 × Int32 × Int32 × Int32 × Int32 × Int32 × (Nat → Int32) × (Nat → Int32)) :=
  Option.bind (o_X9_notTwo N t_now l1 l2) (fun r3 =>
  if r3 = 0 then
    Option.bind (o_X9_keepAct N t_manyActs t_now t_acts) (fun r14 =>
    Option.bind (o_X9_play N t_now l1 l2) (fun r20 =>
    Option.bind (o_X9_join N t_now l1 l2 r20.2.2.1 r20.2.2.2 r20.1) (fun r38 =>
    ogd (inb 26 27) (
    ogd (inb 26 27) (
    some (r20.1, r14.1, r20.1, r20.2.1, r20.2.2.1, r20.2.2.2, (upd r38 (Int32.toNatClampNeg 26) ((r38 (Int32.toNatClampNeg 26)) + r20.2.1)), r14.2))))))
  else
    some (r3, t_manyActs, t_winner, t_throwsOf, t_handA, t_handB, t_now, t_acts))
set_option maxHeartbeats 4000000 in
set_option maxRecDepth 100000 in
theorem z_X9_bout_0 {sK sV : Nat → Nat} {E : ZE} {cI cB cZ : ClassId} (hC : ZC E 4 cX9_bout wsX9_bout RX9 rmX9_bout (some .int) (zty cI cB cZ)) (hN : ZN sK sV (zA E) (zs E)) {N : Nat} {a_t : Nat} {a_t_now : Nat} {a_t_acts : Nat} {a_t_kept : Nat} {a_t_isKept : Nat} {a_t_was : Nat} {a_t_lanes : Nat} {a_t_longs : Nat} {a_t_isThere : Nat} {a_t_items : Nat} {a_t_copied : Nat} {a_t_tape : Nat} {a_t_readSorts : Nat} {a_t_readHands : Nat} {a_t_inTurn : Nat} {a_t_ends : Nat} {a_t_bestHands : Nat} {a_t_traces : Nat} {t_manyActs : Int32} {t_status : Int32} {t_tapeLong : Int32} {t_fault : Int32} {t_tokenAt : Int32} {t_tokenLong : Int32} {t_token : Int32} {t_value : Int32} {t_winner : Int32} {t_throwsOf : Int32} {t_handA : Int32} {t_handB : Int32} {t_fewestSo : Int32} {t_traced : Int32} {t_now : (Nat → Int32)} {t_acts : (Nat → Int32)} {l1 : Int32} {l2 : Int32} {rf : Int32 × Int32 × Int32 × Int32 × Int32 × Int32 × (Nat → Int32) × (Nat → Int32)} (hQ : ZQi E (zty cI cB cZ) rf.1 [(a_t, .inr (9, [.ref a_t_now, .ref a_t_kept, .ref a_t_isKept, .ref a_t_acts, .int rf.2.1, .ref a_t_was, .int t_status, .ref a_t_lanes, .ref a_t_longs, .ref a_t_isThere, .ref a_t_items, .ref a_t_copied, .ref a_t_tape, .int t_tapeLong, .int t_fault, .int t_tokenAt, .int t_tokenLong, .int t_token, .int t_value, .ref a_t_readSorts, .ref a_t_readHands, .int rf.2.2.1, .int rf.2.2.2.1, .int rf.2.2.2.2.1, .int rf.2.2.2.2.2.1, .ref a_t_inTurn, .ref a_t_ends, .ref a_t_bestHands, .int t_fewestSo, .ref a_t_traces, .int t_traced])), (a_t_now, .inl (cI, 27, .inl rf.2.2.2.2.2.2.1)), (a_t_acts, .inl (cI, 648, .inl rf.2.2.2.2.2.2.2))]) (hR : o_X9_bout N t_manyActs t_winner t_throwsOf t_handA t_handB t_now t_acts l1 l2 = some rf) : Z E (0, 0) [(0, .ref a_t), (1, .int l1), (2, .int l2)] 0 [] [(a_t, .inr (9, [.ref a_t_now, .ref a_t_kept, .ref a_t_isKept, .ref a_t_acts, .int t_manyActs, .ref a_t_was, .int t_status, .ref a_t_lanes, .ref a_t_longs, .ref a_t_isThere, .ref a_t_items, .ref a_t_copied, .ref a_t_tape, .int t_tapeLong, .int t_fault, .int t_tokenAt, .int t_tokenLong, .int t_token, .int t_value, .ref a_t_readSorts, .ref a_t_readHands, .int t_winner, .int t_throwsOf, .int t_handA, .int t_handB, .ref a_t_inTurn, .ref a_t_ends, .ref a_t_bestHands, .int t_fewestSo, .ref a_t_traces, .int t_traced])), (a_t_now, .inl (cI, 27, .inl t_now)), (a_t_acts, .inl (cI, 648, .inl t_acts))] := by
  rw [o_X9_bout] at hR
  refine z_aload_n hC dX9_bout_0 rfl 0 rfl ?_
  refine z_iload_n hC dX9_bout_1 rfl 1 rfl ?_
  refine z_iload_n hC dX9_bout_2 rfl 2 rfl ?_
  refine z_callVi_p hC hN [.int l1, .int l2] [0, 1] (c_X9_notTwo (l := zl E) (D := zD E) (cI := cI) (cB := cB) (cZ := cZ) (N := N) (a_t := a_t) (a_t_now := a_t_now) (a_t_kept := a_t_kept) (a_t_isKept := a_t_isKept) (a_t_acts := a_t_acts) (a_t_was := a_t_was) (a_t_lanes := a_t_lanes) (a_t_longs := a_t_longs) (a_t_isThere := a_t_isThere) (a_t_items := a_t_items) (a_t_copied := a_t_copied) (a_t_tape := a_t_tape) (a_t_readSorts := a_t_readSorts) (a_t_readHands := a_t_readHands) (a_t_inTurn := a_t_inTurn) (a_t_ends := a_t_ends) (a_t_bestHands := a_t_bestHands) (a_t_traces := a_t_traces) (l1 := l1) (l2 := l2) (t_manyActs := t_manyActs) (t_status := t_status) (t_tapeLong := t_tapeLong) (t_fault := t_fault) (t_tokenAt := t_tokenAt) (t_tokenLong := t_tokenLong) (t_token := t_token) (t_value := t_value) (t_winner := t_winner) (t_throwsOf := t_throwsOf) (t_handA := t_handA) (t_handB := t_handB) (t_fewestSo := t_fewestSo) (t_traced := t_traced) (t_now := t_now)) rfl ⟨rfl, rfl⟩ gX9_bout_X9_notTwo hvX9_notTwo 0 9 rfl rfl rfl ⟨Nat.le_of_ble_eq_true rfl, Nat.le_of_ble_eq_true rfl⟩ ⟨Nat.zero_le _, Nat.zero_le _⟩ rfl (Nat.le_of_ble_eq_true rfl) rfl (by decide) dX9_bout_3 hR (fun r3 hR => ?_)
  refine z_istore_n hC [(3, .int r3), (0, .ref a_t), (1, .int l1), (2, .int l2)] dX9_bout_6 rfl (by decide) rfl ?_
  refine z_iload_n hC dX9_bout_7 rfl 0 rfl ?_
  refine z_if_eq hC 13 dX9_bout_8 (by decide) hR (fun hR => ?_) (fun hR => ?_)
  · refine z_aload_n hC dX9_bout_13 rfl 1 rfl ?_
    refine z_callVv hC hN [] [0, 1, 2] (c_X9_keepAct (l := zl E) (D := zD E) (cI := cI) (cB := cB) (cZ := cZ) (N := N) (a_t := a_t) (a_t_now := a_t_now) (a_t_kept := a_t_kept) (a_t_isKept := a_t_isKept) (a_t_acts := a_t_acts) (a_t_was := a_t_was) (a_t_lanes := a_t_lanes) (a_t_longs := a_t_longs) (a_t_isThere := a_t_isThere) (a_t_items := a_t_items) (a_t_copied := a_t_copied) (a_t_tape := a_t_tape) (a_t_readSorts := a_t_readSorts) (a_t_readHands := a_t_readHands) (a_t_inTurn := a_t_inTurn) (a_t_ends := a_t_ends) (a_t_bestHands := a_t_bestHands) (a_t_traces := a_t_traces) (t_manyActs := t_manyActs) (t_status := t_status) (t_tapeLong := t_tapeLong) (t_fault := t_fault) (t_tokenAt := t_tokenAt) (t_tokenLong := t_tokenLong) (t_token := t_token) (t_value := t_value) (t_winner := t_winner) (t_throwsOf := t_throwsOf) (t_handA := t_handA) (t_handB := t_handB) (t_fewestSo := t_fewestSo) (t_traced := t_traced) (t_now := t_now) (t_acts := t_acts)) rfl ⟨rfl, rfl⟩ gX9_bout_X9_keepAct hvX9_keepAct 0 9 rfl rfl rfl ⟨Nat.le_of_ble_eq_true rfl, Nat.le_of_ble_eq_true rfl⟩ ⟨Nat.zero_le _, Nat.zero_le _⟩ rfl (Nat.le_of_ble_eq_true rfl) rfl (by decide) (fun _ => rfl) dX9_bout_14 hR (fun r14 hR => ?_)
    refine z_eq [(a_t, .inr (9, [.ref a_t_now, .ref a_t_kept, .ref a_t_isKept, .ref a_t_acts, .int r14.1, .ref a_t_was, .int t_status, .ref a_t_lanes, .ref a_t_longs, .ref a_t_isThere, .ref a_t_items, .ref a_t_copied, .ref a_t_tape, .int t_tapeLong, .int t_fault, .int t_tokenAt, .int t_tokenLong, .int t_token, .int t_value, .ref a_t_readSorts, .ref a_t_readHands, .int t_winner, .int t_throwsOf, .int t_handA, .int t_handB, .ref a_t_inTurn, .ref a_t_ends, .ref a_t_bestHands, .int t_fewestSo, .ref a_t_traces, .int t_traced])), (a_t_now, .inl (cI, 27, .inl t_now)), (a_t_acts, .inl (cI, 648, .inl r14.2))] rfl ?_
    refine z_aload_n hC dX9_bout_17 rfl 1 rfl ?_
    refine z_iload_n hC dX9_bout_18 rfl 2 rfl ?_
    refine z_iload_n hC dX9_bout_19 rfl 3 rfl ?_
    refine z_callVv hC hN [.int l1, .int l2] [0, 1] (c_X9_play (l := zl E) (D := zD E) (cI := cI) (cB := cB) (cZ := cZ) (N := N) (a_t := a_t) (a_t_now := a_t_now) (a_t_kept := a_t_kept) (a_t_isKept := a_t_isKept) (a_t_acts := a_t_acts) (a_t_was := a_t_was) (a_t_lanes := a_t_lanes) (a_t_longs := a_t_longs) (a_t_isThere := a_t_isThere) (a_t_items := a_t_items) (a_t_copied := a_t_copied) (a_t_tape := a_t_tape) (a_t_readSorts := a_t_readSorts) (a_t_readHands := a_t_readHands) (a_t_inTurn := a_t_inTurn) (a_t_ends := a_t_ends) (a_t_bestHands := a_t_bestHands) (a_t_traces := a_t_traces) (l1 := l1) (l2 := l2) (t_manyActs := r14.1) (t_status := t_status) (t_tapeLong := t_tapeLong) (t_fault := t_fault) (t_tokenAt := t_tokenAt) (t_tokenLong := t_tokenLong) (t_token := t_token) (t_value := t_value) (t_winner := t_winner) (t_throwsOf := t_throwsOf) (t_handA := t_handA) (t_handB := t_handB) (t_fewestSo := t_fewestSo) (t_traced := t_traced) (t_now := t_now)) rfl ⟨rfl, rfl⟩ gX9_bout_X9_play hvX9_play 0 9 rfl rfl rfl ⟨Nat.le_of_ble_eq_true rfl, Nat.le_of_ble_eq_true rfl⟩ ⟨Nat.zero_le _, Nat.zero_le _⟩ rfl (Nat.le_of_ble_eq_true rfl) rfl (by decide) (fun _ => rfl) dX9_bout_20 hR (fun r20 hR => ?_)
    refine z_eq [(a_t, .inr (9, [.ref a_t_now, .ref a_t_kept, .ref a_t_isKept, .ref a_t_acts, .int r14.1, .ref a_t_was, .int t_status, .ref a_t_lanes, .ref a_t_longs, .ref a_t_isThere, .ref a_t_items, .ref a_t_copied, .ref a_t_tape, .int t_tapeLong, .int t_fault, .int t_tokenAt, .int t_tokenLong, .int t_token, .int t_value, .ref a_t_readSorts, .ref a_t_readHands, .int r20.1, .int r20.2.1, .int r20.2.2.1, .int r20.2.2.2, .ref a_t_inTurn, .ref a_t_ends, .ref a_t_bestHands, .int t_fewestSo, .ref a_t_traces, .int t_traced])), (a_t_now, .inl (cI, 27, .inl t_now)), (a_t_acts, .inl (cI, 648, .inl r14.2))] rfl ?_
    refine z_aload_n hC dX9_bout_23 rfl 1 rfl ?_
    refine z_iload_n hC dX9_bout_24 rfl 2 rfl ?_
    refine z_iload_n hC dX9_bout_25 rfl 3 rfl ?_
    refine z_aload_n hC dX9_bout_26 rfl 1 rfl ?_
    refine z_get hC iX9_bout_X9 rfl 0 23 rfl (by decide) mX9_bout_1 rfl rfl dX9_bout_27 ?_
    refine z_aload_n hC dX9_bout_30 rfl 1 rfl ?_
    refine z_get hC iX9_bout_X9 rfl 0 24 rfl (by decide) mX9_bout_2 rfl rfl dX9_bout_31 ?_
    refine z_aload_n hC dX9_bout_34 rfl 1 rfl ?_
    refine z_get hC iX9_bout_X9 rfl 0 21 rfl (by decide) mX9_bout_3 rfl rfl dX9_bout_35 ?_
    refine z_callVv hC hN [.int l1, .int l2, .int r20.2.2.1, .int r20.2.2.2, .int r20.1] [0, 1] (c_X9_join (l := zl E) (D := zD E) (cI := cI) (cB := cB) (cZ := cZ) (N := N) (a_t := a_t) (a_t_now := a_t_now) (a_t_kept := a_t_kept) (a_t_isKept := a_t_isKept) (a_t_acts := a_t_acts) (a_t_was := a_t_was) (a_t_lanes := a_t_lanes) (a_t_longs := a_t_longs) (a_t_isThere := a_t_isThere) (a_t_items := a_t_items) (a_t_copied := a_t_copied) (a_t_tape := a_t_tape) (a_t_readSorts := a_t_readSorts) (a_t_readHands := a_t_readHands) (a_t_inTurn := a_t_inTurn) (a_t_ends := a_t_ends) (a_t_bestHands := a_t_bestHands) (a_t_traces := a_t_traces) (l1 := l1) (l2 := l2) (l3 := r20.2.2.1) (l4 := r20.2.2.2) (l5 := r20.1) (t_manyActs := r14.1) (t_status := t_status) (t_tapeLong := t_tapeLong) (t_fault := t_fault) (t_tokenAt := t_tokenAt) (t_tokenLong := t_tokenLong) (t_token := t_token) (t_value := t_value) (t_winner := r20.1) (t_throwsOf := r20.2.1) (t_handA := r20.2.2.1) (t_handB := r20.2.2.2) (t_fewestSo := t_fewestSo) (t_traced := t_traced) (t_now := t_now)) rfl ⟨rfl, rfl⟩ gX9_bout_X9_join hvX9_join 0 9 rfl rfl rfl ⟨Nat.le_of_ble_eq_true rfl, Nat.le_of_ble_eq_true rfl⟩ ⟨Nat.zero_le _, Nat.zero_le _⟩ rfl (Nat.le_of_ble_eq_true rfl) rfl (by decide) (fun _ => rfl) dX9_bout_38 hR (fun r38 hR => ?_)
    refine z_eq [(a_t, .inr (9, [.ref a_t_now, .ref a_t_kept, .ref a_t_isKept, .ref a_t_acts, .int r14.1, .ref a_t_was, .int t_status, .ref a_t_lanes, .ref a_t_longs, .ref a_t_isThere, .ref a_t_items, .ref a_t_copied, .ref a_t_tape, .int t_tapeLong, .int t_fault, .int t_tokenAt, .int t_tokenLong, .int t_token, .int t_value, .ref a_t_readSorts, .ref a_t_readHands, .int r20.1, .int r20.2.1, .int r20.2.2.1, .int r20.2.2.2, .ref a_t_inTurn, .ref a_t_ends, .ref a_t_bestHands, .int t_fewestSo, .ref a_t_traces, .int t_traced])), (a_t_now, .inl (cI, 27, .inl r38)), (a_t_acts, .inl (cI, 648, .inl r14.2))] rfl ?_
    refine z_aload_n hC dX9_bout_41 rfl 1 rfl ?_
    refine z_get hC iX9_bout_X9 rfl 0 0 rfl (by decide) mX9_bout_4 rfl rfl dX9_bout_42 ?_
    refine z_bipush (v := 26) hC dX9_bout_45 (by decide) ?_
    refine z_dup2 hC dX9_bout_47 rfl rfl ?_
    refine z_iald hC 1 0 rfl rfl dX9_bout_48 hR (fun hR => ?_)
    refine z_aload_n hC dX9_bout_49 rfl 1 rfl ?_
    refine z_get hC iX9_bout_X9 rfl 0 22 rfl (by decide) mX9_bout_5 rfl rfl dX9_bout_50 ?_
    refine z_iadd hC dX9_bout_53 ?_
    refine z_iast hC 1 0 rfl rfl dX9_bout_54 hR (fun hR => ?_)
    refine z_aload_n hC dX9_bout_55 rfl 1 rfl ?_
    refine z_get hC iX9_bout_X9 rfl 0 21 rfl (by decide) mX9_bout_3 rfl rfl dX9_bout_56 ?_
    obtain rfl := Option.some.inj hR
    exact z_iret hC hQ rfl rfl rfl dX9_bout_59
  · refine z_iload_n hC dX9_bout_11 rfl 0 rfl ?_
    obtain rfl := Option.some.inj hR
    exact z_iret hC hQ rfl rfl rfl dX9_bout_12
set_option maxHeartbeats 4000000 in
set_option maxRecDepth 100000 in
theorem c_X9_bout {sK sV : Nat → Nat} {l : Launch} {D : va_G} {cI cB cZ : ClassId} {N : Nat} {a_t : Nat} {a_t_now : Nat} {a_t_acts : Nat} {a_t_kept : Nat} {a_t_isKept : Nat} {a_t_was : Nat} {a_t_lanes : Nat} {a_t_longs : Nat} {a_t_isThere : Nat} {a_t_items : Nat} {a_t_copied : Nat} {a_t_tape : Nat} {a_t_readSorts : Nat} {a_t_readHands : Nat} {a_t_inTurn : Nat} {a_t_ends : Nat} {a_t_bestHands : Nat} {a_t_traces : Nat} {t_manyActs : Int32} {t_status : Int32} {t_tapeLong : Int32} {t_fault : Int32} {t_tokenAt : Int32} {t_tokenLong : Int32} {t_token : Int32} {t_value : Int32} {t_winner : Int32} {t_throwsOf : Int32} {t_handA : Int32} {t_handB : Int32} {t_fewestSo : Int32} {t_traced : Int32} {t_now : (Nat → Int32)} {t_acts : (Nat → Int32)} {l1 : Int32} {l2 : Int32} : ∀ R : Int32 × Int32 × Int32 × Int32 × Int32 × Int32 × (Nat → Int32) × (Nat → Int32), o_X9_bout N t_manyActs t_winner t_throwsOf t_handA t_handB t_now t_acts l1 l2 = some R → ZMi sK sV l yX9_bout wsX9_bout rmX9_bout D (zty cI cB cZ) [.ref a_t, .int l1, .int l2] [(a_t, .inr (9, [.ref a_t_now, .ref a_t_kept, .ref a_t_isKept, .ref a_t_acts, .int t_manyActs, .ref a_t_was, .int t_status, .ref a_t_lanes, .ref a_t_longs, .ref a_t_isThere, .ref a_t_items, .ref a_t_copied, .ref a_t_tape, .int t_tapeLong, .int t_fault, .int t_tokenAt, .int t_tokenLong, .int t_token, .int t_value, .ref a_t_readSorts, .ref a_t_readHands, .int t_winner, .int t_throwsOf, .int t_handA, .int t_handB, .ref a_t_inTurn, .ref a_t_ends, .ref a_t_bestHands, .int t_fewestSo, .ref a_t_traces, .int t_traced])), (a_t_now, .inl (cI, 27, .inl t_now)), (a_t_acts, .inl (cI, 648, .inl t_acts))] R.1 [(a_t, .inr (9, [.ref a_t_now, .ref a_t_kept, .ref a_t_isKept, .ref a_t_acts, .int R.2.1, .ref a_t_was, .int t_status, .ref a_t_lanes, .ref a_t_longs, .ref a_t_isThere, .ref a_t_items, .ref a_t_copied, .ref a_t_tape, .int t_tapeLong, .int t_fault, .int t_tokenAt, .int t_tokenLong, .int t_token, .int t_value, .ref a_t_readSorts, .ref a_t_readHands, .int R.2.2.1, .int R.2.2.2.1, .int R.2.2.2.2.1, .int R.2.2.2.2.2.1, .ref a_t_inTurn, .ref a_t_ends, .ref a_t_bestHands, .int t_fewestSo, .ref a_t_traces, .int t_traced])), (a_t_now, .inl (cI, 27, .inl R.2.2.2.2.2.2.1)), (a_t_acts, .inl (cI, 648, .inl R.2.2.2.2.2.2.2))] := by
  intro R hR
  refine zi_of (cc := cX9_bout) (maxL := 4) (ret := (some .int)) (by decide) rfl (Nat.le_of_ble_eq_true rfl) (fun E hE1 hE2 hC hN hQ => ?_)
  subst hE1 hE2
  exact z_X9_bout_0 hC hN (N := N) (a_t := a_t) (a_t_now := a_t_now) (a_t_acts := a_t_acts) (a_t_kept := a_t_kept) (a_t_isKept := a_t_isKept) (a_t_was := a_t_was) (a_t_lanes := a_t_lanes) (a_t_longs := a_t_longs) (a_t_isThere := a_t_isThere) (a_t_items := a_t_items) (a_t_copied := a_t_copied) (a_t_tape := a_t_tape) (a_t_readSorts := a_t_readSorts) (a_t_readHands := a_t_readHands) (a_t_inTurn := a_t_inTurn) (a_t_ends := a_t_ends) (a_t_bestHands := a_t_bestHands) (a_t_traces := a_t_traces) (t_manyActs := t_manyActs) (t_status := t_status) (t_tapeLong := t_tapeLong) (t_fault := t_fault) (t_tokenAt := t_tokenAt) (t_tokenLong := t_tokenLong) (t_token := t_token) (t_value := t_value) (t_winner := t_winner) (t_throwsOf := t_throwsOf) (t_handA := t_handA) (t_handB := t_handB) (t_fewestSo := t_fewestSo) (t_traced := t_traced) (t_now := t_now) (t_acts := t_acts) (l1 := l1) (l2 := l2) hQ hR

/-! FistTrainsModel.round -/
abbrev rmX9_round : Room := { frames := 4, cells := 0, slots := 0, locals := 93 }
set_option maxRecDepth 20000 in
theorem mX9_round_1 : Cond.constant RX9 213 (-1000002) ∈ wsX9_round := List.mem_of_getElem? (i := 1) rfl
def o_X9_round (N : Nat) (t_manyActs : Int32) (t_winner : Int32) (t_throwsOf : Int32) (t_handA : Int32) (t_handB : Int32) (t_now : (Nat → Int32)) (t_acts : (Nat → Int32)) (t_inTurn : (Nat → Int32)) (t_ends : (Nat → Int32)) : Option (Int32 × Int32 × Int32 × Int32 × Int32 × Int32 × (Nat → Int32) × (Nat → Int32) × (Nat → Int32) × (Nat → Int32)) :=
  Option.bind (o_X9_leaders N t_now) (fun r1 =>
  if 2 ≤ r1 then
    Option.bind (o_X9_keepAct N t_manyActs t_now t_acts) (fun r12 =>
    Option.bind (o_X9_goRound N t_winner t_throwsOf t_handA t_handB t_now t_inTurn t_ends) (fun r16 =>
    Option.bind (o_X9_leaders N r16.2.2.2.2.1) (fun r20 =>
    some (r20, r12.1, r16.1, r16.2.1, r16.2.2.1, r16.2.2.2.1, r16.2.2.2.2.1, r12.2, r16.2.2.2.2.2.1, r16.2.2.2.2.2.2))))
  else
    some ((-1000002), t_manyActs, t_winner, t_throwsOf, t_handA, t_handB, t_now, t_acts, t_inTurn, t_ends))
set_option maxHeartbeats 4000000 in
set_option maxRecDepth 100000 in
theorem z_X9_round_0 {sK sV : Nat → Nat} {E : ZE} {cI cB cZ : ClassId} (hC : ZC E 1 cX9_round wsX9_round RX9 rmX9_round (some .int) (zty cI cB cZ)) (hN : ZN sK sV (zA E) (zs E)) {N : Nat} {a_t : Nat} {a_t_now : Nat} {a_t_acts : Nat} {a_t_inTurn : Nat} {a_t_ends : Nat} {a_t_kept : Nat} {a_t_isKept : Nat} {a_t_was : Nat} {a_t_lanes : Nat} {a_t_longs : Nat} {a_t_isThere : Nat} {a_t_items : Nat} {a_t_copied : Nat} {a_t_tape : Nat} {a_t_readSorts : Nat} {a_t_readHands : Nat} {a_t_bestHands : Nat} {a_t_traces : Nat} {t_manyActs : Int32} {t_status : Int32} {t_tapeLong : Int32} {t_fault : Int32} {t_tokenAt : Int32} {t_tokenLong : Int32} {t_token : Int32} {t_value : Int32} {t_winner : Int32} {t_throwsOf : Int32} {t_handA : Int32} {t_handB : Int32} {t_fewestSo : Int32} {t_traced : Int32} {t_now : (Nat → Int32)} {t_acts : (Nat → Int32)} {t_inTurn : (Nat → Int32)} {t_ends : (Nat → Int32)} {rf : Int32 × Int32 × Int32 × Int32 × Int32 × Int32 × (Nat → Int32) × (Nat → Int32) × (Nat → Int32) × (Nat → Int32)} (hQ : ZQi E (zty cI cB cZ) rf.1 [(a_t, .inr (9, [.ref a_t_now, .ref a_t_kept, .ref a_t_isKept, .ref a_t_acts, .int rf.2.1, .ref a_t_was, .int t_status, .ref a_t_lanes, .ref a_t_longs, .ref a_t_isThere, .ref a_t_items, .ref a_t_copied, .ref a_t_tape, .int t_tapeLong, .int t_fault, .int t_tokenAt, .int t_tokenLong, .int t_token, .int t_value, .ref a_t_readSorts, .ref a_t_readHands, .int rf.2.2.1, .int rf.2.2.2.1, .int rf.2.2.2.2.1, .int rf.2.2.2.2.2.1, .ref a_t_inTurn, .ref a_t_ends, .ref a_t_bestHands, .int t_fewestSo, .ref a_t_traces, .int t_traced])), (a_t_now, .inl (cI, 27, .inl rf.2.2.2.2.2.2.1)), (a_t_acts, .inl (cI, 648, .inl rf.2.2.2.2.2.2.2.1)), (a_t_inTurn, .inl (cI, 8, .inl rf.2.2.2.2.2.2.2.2.1)), (a_t_ends, .inl (cI, 12, .inl rf.2.2.2.2.2.2.2.2.2))]) (hR : o_X9_round N t_manyActs t_winner t_throwsOf t_handA t_handB t_now t_acts t_inTurn t_ends = some rf) : Z E (0, 0) [(0, .ref a_t)] 0 [] [(a_t, .inr (9, [.ref a_t_now, .ref a_t_kept, .ref a_t_isKept, .ref a_t_acts, .int t_manyActs, .ref a_t_was, .int t_status, .ref a_t_lanes, .ref a_t_longs, .ref a_t_isThere, .ref a_t_items, .ref a_t_copied, .ref a_t_tape, .int t_tapeLong, .int t_fault, .int t_tokenAt, .int t_tokenLong, .int t_token, .int t_value, .ref a_t_readSorts, .ref a_t_readHands, .int t_winner, .int t_throwsOf, .int t_handA, .int t_handB, .ref a_t_inTurn, .ref a_t_ends, .ref a_t_bestHands, .int t_fewestSo, .ref a_t_traces, .int t_traced])), (a_t_now, .inl (cI, 27, .inl t_now)), (a_t_acts, .inl (cI, 648, .inl t_acts)), (a_t_inTurn, .inl (cI, 8, .inl t_inTurn)), (a_t_ends, .inl (cI, 12, .inl t_ends))] := by
  rw [o_X9_round] at hR
  refine z_aload_n hC dX9_round_0 rfl 0 rfl ?_
  refine z_callVi_p hC hN [] [0, 1] (c_X9_leaders (l := zl E) (D := zD E) (cI := cI) (cB := cB) (cZ := cZ) (N := N) (a_t := a_t) (a_t_now := a_t_now) (a_t_kept := a_t_kept) (a_t_isKept := a_t_isKept) (a_t_acts := a_t_acts) (a_t_was := a_t_was) (a_t_lanes := a_t_lanes) (a_t_longs := a_t_longs) (a_t_isThere := a_t_isThere) (a_t_items := a_t_items) (a_t_copied := a_t_copied) (a_t_tape := a_t_tape) (a_t_readSorts := a_t_readSorts) (a_t_readHands := a_t_readHands) (a_t_inTurn := a_t_inTurn) (a_t_ends := a_t_ends) (a_t_bestHands := a_t_bestHands) (a_t_traces := a_t_traces) (t_manyActs := t_manyActs) (t_status := t_status) (t_tapeLong := t_tapeLong) (t_fault := t_fault) (t_tokenAt := t_tokenAt) (t_tokenLong := t_tokenLong) (t_token := t_token) (t_value := t_value) (t_winner := t_winner) (t_throwsOf := t_throwsOf) (t_handA := t_handA) (t_handB := t_handB) (t_fewestSo := t_fewestSo) (t_traced := t_traced) (t_now := t_now)) rfl ⟨rfl, rfl⟩ gX9_round_X9_leaders hvX9_leaders 0 9 rfl rfl rfl ⟨Nat.le_of_ble_eq_true rfl, Nat.le_of_ble_eq_true rfl⟩ ⟨Nat.zero_le _, Nat.zero_le _⟩ rfl (Nat.le_of_ble_eq_true rfl) rfl (by decide) dX9_round_1 hR (fun r1 hR => ?_)
  refine z_ic2 hC dX9_round_4 ?_
  refine z_icmp_ge hC 11 dX9_round_5 (by decide) hR (fun hR => ?_) (fun hR => ?_)
  · refine z_aload_n hC dX9_round_11 rfl 0 rfl ?_
    refine z_callVv hC hN [] [0, 1, 2] (c_X9_keepAct (l := zl E) (D := zD E) (cI := cI) (cB := cB) (cZ := cZ) (N := N) (a_t := a_t) (a_t_now := a_t_now) (a_t_kept := a_t_kept) (a_t_isKept := a_t_isKept) (a_t_acts := a_t_acts) (a_t_was := a_t_was) (a_t_lanes := a_t_lanes) (a_t_longs := a_t_longs) (a_t_isThere := a_t_isThere) (a_t_items := a_t_items) (a_t_copied := a_t_copied) (a_t_tape := a_t_tape) (a_t_readSorts := a_t_readSorts) (a_t_readHands := a_t_readHands) (a_t_inTurn := a_t_inTurn) (a_t_ends := a_t_ends) (a_t_bestHands := a_t_bestHands) (a_t_traces := a_t_traces) (t_manyActs := t_manyActs) (t_status := t_status) (t_tapeLong := t_tapeLong) (t_fault := t_fault) (t_tokenAt := t_tokenAt) (t_tokenLong := t_tokenLong) (t_token := t_token) (t_value := t_value) (t_winner := t_winner) (t_throwsOf := t_throwsOf) (t_handA := t_handA) (t_handB := t_handB) (t_fewestSo := t_fewestSo) (t_traced := t_traced) (t_now := t_now) (t_acts := t_acts)) rfl ⟨rfl, rfl⟩ gX9_round_X9_keepAct hvX9_keepAct 0 9 rfl rfl rfl ⟨Nat.le_of_ble_eq_true rfl, Nat.le_of_ble_eq_true rfl⟩ ⟨Nat.zero_le _, Nat.zero_le _⟩ rfl (Nat.le_of_ble_eq_true rfl) rfl (by decide) (fun _ => rfl) dX9_round_12 hR (fun r12 hR => ?_)
    refine z_eq [(a_t, .inr (9, [.ref a_t_now, .ref a_t_kept, .ref a_t_isKept, .ref a_t_acts, .int r12.1, .ref a_t_was, .int t_status, .ref a_t_lanes, .ref a_t_longs, .ref a_t_isThere, .ref a_t_items, .ref a_t_copied, .ref a_t_tape, .int t_tapeLong, .int t_fault, .int t_tokenAt, .int t_tokenLong, .int t_token, .int t_value, .ref a_t_readSorts, .ref a_t_readHands, .int t_winner, .int t_throwsOf, .int t_handA, .int t_handB, .ref a_t_inTurn, .ref a_t_ends, .ref a_t_bestHands, .int t_fewestSo, .ref a_t_traces, .int t_traced])), (a_t_now, .inl (cI, 27, .inl t_now)), (a_t_acts, .inl (cI, 648, .inl r12.2)), (a_t_inTurn, .inl (cI, 8, .inl t_inTurn)), (a_t_ends, .inl (cI, 12, .inl t_ends))] rfl ?_
    refine z_aload_n hC dX9_round_15 rfl 0 rfl ?_
    refine z_callVv hC hN [] [0, 1, 3, 4] (c_X9_goRound (l := zl E) (D := zD E) (cI := cI) (cB := cB) (cZ := cZ) (N := N) (a_t := a_t) (a_t_now := a_t_now) (a_t_kept := a_t_kept) (a_t_isKept := a_t_isKept) (a_t_acts := a_t_acts) (a_t_was := a_t_was) (a_t_lanes := a_t_lanes) (a_t_longs := a_t_longs) (a_t_isThere := a_t_isThere) (a_t_items := a_t_items) (a_t_copied := a_t_copied) (a_t_tape := a_t_tape) (a_t_readSorts := a_t_readSorts) (a_t_readHands := a_t_readHands) (a_t_inTurn := a_t_inTurn) (a_t_ends := a_t_ends) (a_t_bestHands := a_t_bestHands) (a_t_traces := a_t_traces) (t_manyActs := r12.1) (t_status := t_status) (t_tapeLong := t_tapeLong) (t_fault := t_fault) (t_tokenAt := t_tokenAt) (t_tokenLong := t_tokenLong) (t_token := t_token) (t_value := t_value) (t_winner := t_winner) (t_throwsOf := t_throwsOf) (t_handA := t_handA) (t_handB := t_handB) (t_fewestSo := t_fewestSo) (t_traced := t_traced) (t_now := t_now) (t_inTurn := t_inTurn) (t_ends := t_ends)) rfl ⟨rfl, rfl⟩ gX9_round_X9_goRound hvX9_goRound 0 9 rfl rfl rfl ⟨Nat.le_of_ble_eq_true rfl, Nat.le_of_ble_eq_true rfl⟩ ⟨Nat.zero_le _, Nat.zero_le _⟩ rfl (Nat.le_of_ble_eq_true rfl) rfl (by decide) (fun _ => rfl) dX9_round_16 hR (fun r16 hR => ?_)
    refine z_eq [(a_t, .inr (9, [.ref a_t_now, .ref a_t_kept, .ref a_t_isKept, .ref a_t_acts, .int r12.1, .ref a_t_was, .int t_status, .ref a_t_lanes, .ref a_t_longs, .ref a_t_isThere, .ref a_t_items, .ref a_t_copied, .ref a_t_tape, .int t_tapeLong, .int t_fault, .int t_tokenAt, .int t_tokenLong, .int t_token, .int t_value, .ref a_t_readSorts, .ref a_t_readHands, .int r16.1, .int r16.2.1, .int r16.2.2.1, .int r16.2.2.2.1, .ref a_t_inTurn, .ref a_t_ends, .ref a_t_bestHands, .int t_fewestSo, .ref a_t_traces, .int t_traced])), (a_t_now, .inl (cI, 27, .inl r16.2.2.2.2.1)), (a_t_acts, .inl (cI, 648, .inl r12.2)), (a_t_inTurn, .inl (cI, 8, .inl r16.2.2.2.2.2.1)), (a_t_ends, .inl (cI, 12, .inl r16.2.2.2.2.2.2))] rfl ?_
    refine z_aload_n hC dX9_round_19 rfl 0 rfl ?_
    refine z_callVi_p hC hN [] [0, 1] (c_X9_leaders (l := zl E) (D := zD E) (cI := cI) (cB := cB) (cZ := cZ) (N := N) (a_t := a_t) (a_t_now := a_t_now) (a_t_kept := a_t_kept) (a_t_isKept := a_t_isKept) (a_t_acts := a_t_acts) (a_t_was := a_t_was) (a_t_lanes := a_t_lanes) (a_t_longs := a_t_longs) (a_t_isThere := a_t_isThere) (a_t_items := a_t_items) (a_t_copied := a_t_copied) (a_t_tape := a_t_tape) (a_t_readSorts := a_t_readSorts) (a_t_readHands := a_t_readHands) (a_t_inTurn := a_t_inTurn) (a_t_ends := a_t_ends) (a_t_bestHands := a_t_bestHands) (a_t_traces := a_t_traces) (t_manyActs := r12.1) (t_status := t_status) (t_tapeLong := t_tapeLong) (t_fault := t_fault) (t_tokenAt := t_tokenAt) (t_tokenLong := t_tokenLong) (t_token := t_token) (t_value := t_value) (t_winner := r16.1) (t_throwsOf := r16.2.1) (t_handA := r16.2.2.1) (t_handB := r16.2.2.2.1) (t_fewestSo := t_fewestSo) (t_traced := t_traced) (t_now := r16.2.2.2.2.1)) rfl ⟨rfl, rfl⟩ gX9_round_X9_leaders hvX9_leaders 0 9 rfl rfl rfl ⟨Nat.le_of_ble_eq_true rfl, Nat.le_of_ble_eq_true rfl⟩ ⟨Nat.zero_le _, Nat.zero_le _⟩ rfl (Nat.le_of_ble_eq_true rfl) rfl (by decide) dX9_round_20 hR (fun r20 hR => ?_)
    obtain rfl := Option.some.inj hR
    exact z_iret hC hQ rfl rfl rfl dX9_round_23
  · refine z_ldc hC (-1000002) mX9_round_1 dX9_round_8 ?_
    obtain rfl := Option.some.inj hR
    exact z_iret hC hQ rfl rfl rfl dX9_round_10
set_option maxHeartbeats 4000000 in
set_option maxRecDepth 100000 in
theorem c_X9_round {sK sV : Nat → Nat} {l : Launch} {D : va_G} {cI cB cZ : ClassId} {N : Nat} {a_t : Nat} {a_t_now : Nat} {a_t_acts : Nat} {a_t_inTurn : Nat} {a_t_ends : Nat} {a_t_kept : Nat} {a_t_isKept : Nat} {a_t_was : Nat} {a_t_lanes : Nat} {a_t_longs : Nat} {a_t_isThere : Nat} {a_t_items : Nat} {a_t_copied : Nat} {a_t_tape : Nat} {a_t_readSorts : Nat} {a_t_readHands : Nat} {a_t_bestHands : Nat} {a_t_traces : Nat} {t_manyActs : Int32} {t_status : Int32} {t_tapeLong : Int32} {t_fault : Int32} {t_tokenAt : Int32} {t_tokenLong : Int32} {t_token : Int32} {t_value : Int32} {t_winner : Int32} {t_throwsOf : Int32} {t_handA : Int32} {t_handB : Int32} {t_fewestSo : Int32} {t_traced : Int32} {t_now : (Nat → Int32)} {t_acts : (Nat → Int32)} {t_inTurn : (Nat → Int32)} {t_ends : (Nat → Int32)} : ∀ R : Int32 × Int32 × Int32 × Int32 × Int32 × Int32 × (Nat → Int32) × (Nat → Int32) × (Nat → Int32) × (Nat → Int32), o_X9_round N t_manyActs t_winner t_throwsOf t_handA t_handB t_now t_acts t_inTurn t_ends = some R → ZMi sK sV l yX9_round wsX9_round rmX9_round D (zty cI cB cZ) [.ref a_t] [(a_t, .inr (9, [.ref a_t_now, .ref a_t_kept, .ref a_t_isKept, .ref a_t_acts, .int t_manyActs, .ref a_t_was, .int t_status, .ref a_t_lanes, .ref a_t_longs, .ref a_t_isThere, .ref a_t_items, .ref a_t_copied, .ref a_t_tape, .int t_tapeLong, .int t_fault, .int t_tokenAt, .int t_tokenLong, .int t_token, .int t_value, .ref a_t_readSorts, .ref a_t_readHands, .int t_winner, .int t_throwsOf, .int t_handA, .int t_handB, .ref a_t_inTurn, .ref a_t_ends, .ref a_t_bestHands, .int t_fewestSo, .ref a_t_traces, .int t_traced])), (a_t_now, .inl (cI, 27, .inl t_now)), (a_t_acts, .inl (cI, 648, .inl t_acts)), (a_t_inTurn, .inl (cI, 8, .inl t_inTurn)), (a_t_ends, .inl (cI, 12, .inl t_ends))] R.1 [(a_t, .inr (9, [.ref a_t_now, .ref a_t_kept, .ref a_t_isKept, .ref a_t_acts, .int R.2.1, .ref a_t_was, .int t_status, .ref a_t_lanes, .ref a_t_longs, .ref a_t_isThere, .ref a_t_items, .ref a_t_copied, .ref a_t_tape, .int t_tapeLong, .int t_fault, .int t_tokenAt, .int t_tokenLong, .int t_token, .int t_value, .ref a_t_readSorts, .ref a_t_readHands, .int R.2.2.1, .int R.2.2.2.1, .int R.2.2.2.2.1, .int R.2.2.2.2.2.1, .ref a_t_inTurn, .ref a_t_ends, .ref a_t_bestHands, .int t_fewestSo, .ref a_t_traces, .int t_traced])), (a_t_now, .inl (cI, 27, .inl R.2.2.2.2.2.2.1)), (a_t_acts, .inl (cI, 648, .inl R.2.2.2.2.2.2.2.1)), (a_t_inTurn, .inl (cI, 8, .inl R.2.2.2.2.2.2.2.2.1)), (a_t_ends, .inl (cI, 12, .inl R.2.2.2.2.2.2.2.2.2))] := by
  intro R hR
  refine zi_of (cc := cX9_round) (maxL := 1) (ret := (some .int)) (by decide) rfl (Nat.le_of_ble_eq_true rfl) (fun E hE1 hE2 hC hN hQ => ?_)
  subst hE1 hE2
  exact z_X9_round_0 hC hN (N := N) (a_t := a_t) (a_t_now := a_t_now) (a_t_acts := a_t_acts) (a_t_inTurn := a_t_inTurn) (a_t_ends := a_t_ends) (a_t_kept := a_t_kept) (a_t_isKept := a_t_isKept) (a_t_was := a_t_was) (a_t_lanes := a_t_lanes) (a_t_longs := a_t_longs) (a_t_isThere := a_t_isThere) (a_t_items := a_t_items) (a_t_copied := a_t_copied) (a_t_tape := a_t_tape) (a_t_readSorts := a_t_readSorts) (a_t_readHands := a_t_readHands) (a_t_bestHands := a_t_bestHands) (a_t_traces := a_t_traces) (t_manyActs := t_manyActs) (t_status := t_status) (t_tapeLong := t_tapeLong) (t_fault := t_fault) (t_tokenAt := t_tokenAt) (t_tokenLong := t_tokenLong) (t_token := t_token) (t_value := t_value) (t_winner := t_winner) (t_throwsOf := t_throwsOf) (t_handA := t_handA) (t_handB := t_handB) (t_fewestSo := t_fewestSo) (t_traced := t_traced) (t_now := t_now) (t_acts := t_acts) (t_inTurn := t_inTurn) (t_ends := t_ends) hQ hR

/-! FistTrainsModel.hand -/
abbrev rmX9_hand : Room := { frames := 2, cells := 0, slots := 0, locals := 46 }
set_option maxRecDepth 20000 in
theorem mX9_hand_2 : Cond.constant RX9 79 (-1000001) ∈ wsX9_hand := List.mem_of_getElem? (i := 2) rfl
set_option maxRecDepth 20000 in
theorem mX9_hand_1 : Cond.constantLong RX9 77 (2) ∈ wsX9_hand := List.mem_of_getElem? (i := 1) rfl
set_option maxRecDepth 20000 in
theorem iX9_hand_X9 : ∀ w ∈ wsX90, w ∈ wsX9_hand := by decide +kernel
set_option maxRecDepth 20000 in
theorem mX9_hand_3 : Cond.fieldLink RX9 7 "FistTrainsModel" "now" "[I" ∈ wsX9_hand := List.mem_of_getElem? (i := 3) rfl
def o_X9_hand (N : Nat) (t_manyActs : Int32) (t_now : (Nat → Int32)) (t_acts : (Nat → Int32)) (l1 : Int32) (l2 : Int32) : Option (Int32 × Int32 × (Nat → Int32) × (Nat → Int32)) :=
  Option.bind (o_X9_isPlayer N t_now l1) (fun r2 =>
  if r2 = 0 then
    some ((-1000001), t_manyActs, t_now, t_acts)
  else
    Option.bind (o_X9_in N (Int32.toInt64 l2) 0 2) (fun r14 =>
    if r14 = 0 then
      some ((-1000001), t_manyActs, t_now, t_acts)
    else
      Option.bind (o_X9_keepAct N t_manyActs t_now t_acts) (fun r24 =>
      ogd (inb (9 + l1) 27) (
      ogd (inb (9 + l1) 27) (
      some ((t_now (Int32.toNatClampNeg (9 + l1))), r24.1, (upd t_now (Int32.toNatClampNeg (9 + l1)) l2), r24.2))))))
set_option maxHeartbeats 4000000 in
set_option maxRecDepth 100000 in
theorem z_X9_hand_0 {sK sV : Nat → Nat} {E : ZE} {cI cB cZ : ClassId} (hC : ZC E 4 cX9_hand wsX9_hand RX9 rmX9_hand (some .int) (zty cI cB cZ)) (hN : ZN sK sV (zA E) (zs E)) {N : Nat} {a_t : Nat} {a_t_now : Nat} {a_t_acts : Nat} {a_t_kept : Nat} {a_t_isKept : Nat} {a_t_was : Nat} {a_t_lanes : Nat} {a_t_longs : Nat} {a_t_isThere : Nat} {a_t_items : Nat} {a_t_copied : Nat} {a_t_tape : Nat} {a_t_readSorts : Nat} {a_t_readHands : Nat} {a_t_inTurn : Nat} {a_t_ends : Nat} {a_t_bestHands : Nat} {a_t_traces : Nat} {t_manyActs : Int32} {t_status : Int32} {t_tapeLong : Int32} {t_fault : Int32} {t_tokenAt : Int32} {t_tokenLong : Int32} {t_token : Int32} {t_value : Int32} {t_winner : Int32} {t_throwsOf : Int32} {t_handA : Int32} {t_handB : Int32} {t_fewestSo : Int32} {t_traced : Int32} {t_now : (Nat → Int32)} {t_acts : (Nat → Int32)} {l1 : Int32} {l2 : Int32} {rf : Int32 × Int32 × (Nat → Int32) × (Nat → Int32)} (hQ : ZQi E (zty cI cB cZ) rf.1 [(a_t, .inr (9, [.ref a_t_now, .ref a_t_kept, .ref a_t_isKept, .ref a_t_acts, .int rf.2.1, .ref a_t_was, .int t_status, .ref a_t_lanes, .ref a_t_longs, .ref a_t_isThere, .ref a_t_items, .ref a_t_copied, .ref a_t_tape, .int t_tapeLong, .int t_fault, .int t_tokenAt, .int t_tokenLong, .int t_token, .int t_value, .ref a_t_readSorts, .ref a_t_readHands, .int t_winner, .int t_throwsOf, .int t_handA, .int t_handB, .ref a_t_inTurn, .ref a_t_ends, .ref a_t_bestHands, .int t_fewestSo, .ref a_t_traces, .int t_traced])), (a_t_now, .inl (cI, 27, .inl rf.2.2.1)), (a_t_acts, .inl (cI, 648, .inl rf.2.2.2))]) (hR : o_X9_hand N t_manyActs t_now t_acts l1 l2 = some rf) : Z E (0, 0) [(0, .ref a_t), (1, .int l1), (2, .int l2)] 0 [] [(a_t, .inr (9, [.ref a_t_now, .ref a_t_kept, .ref a_t_isKept, .ref a_t_acts, .int t_manyActs, .ref a_t_was, .int t_status, .ref a_t_lanes, .ref a_t_longs, .ref a_t_isThere, .ref a_t_items, .ref a_t_copied, .ref a_t_tape, .int t_tapeLong, .int t_fault, .int t_tokenAt, .int t_tokenLong, .int t_token, .int t_value, .ref a_t_readSorts, .ref a_t_readHands, .int t_winner, .int t_throwsOf, .int t_handA, .int t_handB, .ref a_t_inTurn, .ref a_t_ends, .ref a_t_bestHands, .int t_fewestSo, .ref a_t_traces, .int t_traced])), (a_t_now, .inl (cI, 27, .inl t_now)), (a_t_acts, .inl (cI, 648, .inl t_acts))] := by
  rw [o_X9_hand] at hR
  refine z_aload_n hC dX9_hand_0 rfl 0 rfl ?_
  refine z_iload_n hC dX9_hand_1 rfl 1 rfl ?_
  refine z_callVi_p hC hN [.int l1] [0, 1] (c_X9_isPlayer (l := zl E) (D := zD E) (cI := cI) (cB := cB) (cZ := cZ) (N := N) (a_t := a_t) (a_t_now := a_t_now) (a_t_kept := a_t_kept) (a_t_isKept := a_t_isKept) (a_t_acts := a_t_acts) (a_t_was := a_t_was) (a_t_lanes := a_t_lanes) (a_t_longs := a_t_longs) (a_t_isThere := a_t_isThere) (a_t_items := a_t_items) (a_t_copied := a_t_copied) (a_t_tape := a_t_tape) (a_t_readSorts := a_t_readSorts) (a_t_readHands := a_t_readHands) (a_t_inTurn := a_t_inTurn) (a_t_ends := a_t_ends) (a_t_bestHands := a_t_bestHands) (a_t_traces := a_t_traces) (l1 := l1) (t_manyActs := t_manyActs) (t_status := t_status) (t_tapeLong := t_tapeLong) (t_fault := t_fault) (t_tokenAt := t_tokenAt) (t_tokenLong := t_tokenLong) (t_token := t_token) (t_value := t_value) (t_winner := t_winner) (t_throwsOf := t_throwsOf) (t_handA := t_handA) (t_handB := t_handB) (t_fewestSo := t_fewestSo) (t_traced := t_traced) (t_now := t_now)) rfl ⟨rfl, rfl⟩ gX9_hand_X9_isPlayer hvX9_isPlayer 0 9 rfl rfl rfl ⟨Nat.le_of_ble_eq_true rfl, Nat.le_of_ble_eq_true rfl⟩ ⟨Nat.zero_le _, Nat.zero_le _⟩ rfl (Nat.le_of_ble_eq_true rfl) rfl (by decide) dX9_hand_2 hR (fun r2 hR => ?_)
  refine z_if_eq hC 20 dX9_hand_5 (by decide) hR (fun hR => ?_) (fun hR => ?_)
  · refine z_ldc hC (-1000001) mX9_hand_2 dX9_hand_20 ?_
    obtain rfl := Option.some.inj hR
    exact z_iret hC hQ rfl rfl rfl dX9_hand_22
  · refine z_iload_n hC dX9_hand_8 rfl 2 rfl ?_
    refine z_i2l hC dX9_hand_9 ?_
    refine z_lconst (v := 0) hC dX9_hand_10 rfl ?_
    refine z_ldc2 hC 2 mX9_hand_1 dX9_hand_11 ?_
    refine z_callSi_p hC hN [.long (Int32.toInt64 l2), .long 0, .long 2] [] (c_X9_in (l := zl E) (D := zD E) (cI := cI) (cB := cB) (cZ := cZ) (N := N) (L0 := (Int32.toInt64 l2)) (L2 := 0) (L4 := 2)) rfl ⟨rfl, rfl⟩ gX9_hand_X9_in hsX9_in ⟨Nat.le_of_ble_eq_true rfl, Nat.le_of_ble_eq_true rfl⟩ ⟨Nat.zero_le _, Nat.zero_le _⟩ rfl (Nat.le_of_ble_eq_true rfl) rfl (by decide) dX9_hand_14 hR (fun r14 hR => ?_)
    refine z_if_ne hC 23 dX9_hand_17 (by decide) hR (fun hR => ?_) (fun hR => ?_)
    · refine z_aload_n hC dX9_hand_23 rfl 0 rfl ?_
      refine z_callVv hC hN [] [0, 1, 2] (c_X9_keepAct (l := zl E) (D := zD E) (cI := cI) (cB := cB) (cZ := cZ) (N := N) (a_t := a_t) (a_t_now := a_t_now) (a_t_kept := a_t_kept) (a_t_isKept := a_t_isKept) (a_t_acts := a_t_acts) (a_t_was := a_t_was) (a_t_lanes := a_t_lanes) (a_t_longs := a_t_longs) (a_t_isThere := a_t_isThere) (a_t_items := a_t_items) (a_t_copied := a_t_copied) (a_t_tape := a_t_tape) (a_t_readSorts := a_t_readSorts) (a_t_readHands := a_t_readHands) (a_t_inTurn := a_t_inTurn) (a_t_ends := a_t_ends) (a_t_bestHands := a_t_bestHands) (a_t_traces := a_t_traces) (t_manyActs := t_manyActs) (t_status := t_status) (t_tapeLong := t_tapeLong) (t_fault := t_fault) (t_tokenAt := t_tokenAt) (t_tokenLong := t_tokenLong) (t_token := t_token) (t_value := t_value) (t_winner := t_winner) (t_throwsOf := t_throwsOf) (t_handA := t_handA) (t_handB := t_handB) (t_fewestSo := t_fewestSo) (t_traced := t_traced) (t_now := t_now) (t_acts := t_acts)) rfl ⟨rfl, rfl⟩ gX9_hand_X9_keepAct hvX9_keepAct 0 9 rfl rfl rfl ⟨Nat.le_of_ble_eq_true rfl, Nat.le_of_ble_eq_true rfl⟩ ⟨Nat.zero_le _, Nat.zero_le _⟩ rfl (Nat.le_of_ble_eq_true rfl) rfl (by decide) (fun _ => rfl) dX9_hand_24 hR (fun r24 hR => ?_)
      refine z_eq [(a_t, .inr (9, [.ref a_t_now, .ref a_t_kept, .ref a_t_isKept, .ref a_t_acts, .int r24.1, .ref a_t_was, .int t_status, .ref a_t_lanes, .ref a_t_longs, .ref a_t_isThere, .ref a_t_items, .ref a_t_copied, .ref a_t_tape, .int t_tapeLong, .int t_fault, .int t_tokenAt, .int t_tokenLong, .int t_token, .int t_value, .ref a_t_readSorts, .ref a_t_readHands, .int t_winner, .int t_throwsOf, .int t_handA, .int t_handB, .ref a_t_inTurn, .ref a_t_ends, .ref a_t_bestHands, .int t_fewestSo, .ref a_t_traces, .int t_traced])), (a_t_now, .inl (cI, 27, .inl t_now)), (a_t_acts, .inl (cI, 648, .inl r24.2))] rfl ?_
      refine z_aload_n hC dX9_hand_27 rfl 0 rfl ?_
      refine z_get hC iX9_hand_X9 rfl 0 0 rfl (by decide) mX9_hand_3 rfl rfl dX9_hand_28 ?_
      refine z_bipush (v := 9) hC dX9_hand_31 (by decide) ?_
      refine z_iload_n hC dX9_hand_33 rfl 1 rfl ?_
      refine z_iadd hC dX9_hand_34 ?_
      refine z_iald hC 1 0 rfl rfl dX9_hand_35 hR (fun hR => ?_)
      refine z_istore_n hC [(3, .int (t_now (Int32.toNatClampNeg (9 + l1)))), (0, .ref a_t), (1, .int l1), (2, .int l2)] dX9_hand_36 rfl (by decide) rfl ?_
      refine z_aload_n hC dX9_hand_37 rfl 1 rfl ?_
      refine z_get hC iX9_hand_X9 rfl 0 0 rfl (by decide) mX9_hand_3 rfl rfl dX9_hand_38 ?_
      refine z_bipush (v := 9) hC dX9_hand_41 (by decide) ?_
      refine z_iload_n hC dX9_hand_43 rfl 2 rfl ?_
      refine z_iadd hC dX9_hand_44 ?_
      refine z_iload_n hC dX9_hand_45 rfl 3 rfl ?_
      refine z_iast hC 1 0 rfl rfl dX9_hand_46 hR (fun hR => ?_)
      refine z_iload_n hC dX9_hand_47 rfl 0 rfl ?_
      obtain rfl := Option.some.inj hR
      exact z_iret hC hQ rfl rfl rfl dX9_hand_48
    · refine z_ldc hC (-1000001) mX9_hand_2 dX9_hand_20 ?_
      obtain rfl := Option.some.inj hR
      exact z_iret hC hQ rfl rfl rfl dX9_hand_22
set_option maxHeartbeats 4000000 in
set_option maxRecDepth 100000 in
theorem c_X9_hand {sK sV : Nat → Nat} {l : Launch} {D : va_G} {cI cB cZ : ClassId} {N : Nat} {a_t : Nat} {a_t_now : Nat} {a_t_acts : Nat} {a_t_kept : Nat} {a_t_isKept : Nat} {a_t_was : Nat} {a_t_lanes : Nat} {a_t_longs : Nat} {a_t_isThere : Nat} {a_t_items : Nat} {a_t_copied : Nat} {a_t_tape : Nat} {a_t_readSorts : Nat} {a_t_readHands : Nat} {a_t_inTurn : Nat} {a_t_ends : Nat} {a_t_bestHands : Nat} {a_t_traces : Nat} {t_manyActs : Int32} {t_status : Int32} {t_tapeLong : Int32} {t_fault : Int32} {t_tokenAt : Int32} {t_tokenLong : Int32} {t_token : Int32} {t_value : Int32} {t_winner : Int32} {t_throwsOf : Int32} {t_handA : Int32} {t_handB : Int32} {t_fewestSo : Int32} {t_traced : Int32} {t_now : (Nat → Int32)} {t_acts : (Nat → Int32)} {l1 : Int32} {l2 : Int32} : ∀ R : Int32 × Int32 × (Nat → Int32) × (Nat → Int32), o_X9_hand N t_manyActs t_now t_acts l1 l2 = some R → ZMi sK sV l yX9_hand wsX9_hand rmX9_hand D (zty cI cB cZ) [.ref a_t, .int l1, .int l2] [(a_t, .inr (9, [.ref a_t_now, .ref a_t_kept, .ref a_t_isKept, .ref a_t_acts, .int t_manyActs, .ref a_t_was, .int t_status, .ref a_t_lanes, .ref a_t_longs, .ref a_t_isThere, .ref a_t_items, .ref a_t_copied, .ref a_t_tape, .int t_tapeLong, .int t_fault, .int t_tokenAt, .int t_tokenLong, .int t_token, .int t_value, .ref a_t_readSorts, .ref a_t_readHands, .int t_winner, .int t_throwsOf, .int t_handA, .int t_handB, .ref a_t_inTurn, .ref a_t_ends, .ref a_t_bestHands, .int t_fewestSo, .ref a_t_traces, .int t_traced])), (a_t_now, .inl (cI, 27, .inl t_now)), (a_t_acts, .inl (cI, 648, .inl t_acts))] R.1 [(a_t, .inr (9, [.ref a_t_now, .ref a_t_kept, .ref a_t_isKept, .ref a_t_acts, .int R.2.1, .ref a_t_was, .int t_status, .ref a_t_lanes, .ref a_t_longs, .ref a_t_isThere, .ref a_t_items, .ref a_t_copied, .ref a_t_tape, .int t_tapeLong, .int t_fault, .int t_tokenAt, .int t_tokenLong, .int t_token, .int t_value, .ref a_t_readSorts, .ref a_t_readHands, .int t_winner, .int t_throwsOf, .int t_handA, .int t_handB, .ref a_t_inTurn, .ref a_t_ends, .ref a_t_bestHands, .int t_fewestSo, .ref a_t_traces, .int t_traced])), (a_t_now, .inl (cI, 27, .inl R.2.2.1)), (a_t_acts, .inl (cI, 648, .inl R.2.2.2))] := by
  intro R hR
  refine zi_of (cc := cX9_hand) (maxL := 4) (ret := (some .int)) (by decide) rfl (Nat.le_of_ble_eq_true rfl) (fun E hE1 hE2 hC hN hQ => ?_)
  subst hE1 hE2
  exact z_X9_hand_0 hC hN (N := N) (a_t := a_t) (a_t_now := a_t_now) (a_t_acts := a_t_acts) (a_t_kept := a_t_kept) (a_t_isKept := a_t_isKept) (a_t_was := a_t_was) (a_t_lanes := a_t_lanes) (a_t_longs := a_t_longs) (a_t_isThere := a_t_isThere) (a_t_items := a_t_items) (a_t_copied := a_t_copied) (a_t_tape := a_t_tape) (a_t_readSorts := a_t_readSorts) (a_t_readHands := a_t_readHands) (a_t_inTurn := a_t_inTurn) (a_t_ends := a_t_ends) (a_t_bestHands := a_t_bestHands) (a_t_traces := a_t_traces) (t_manyActs := t_manyActs) (t_status := t_status) (t_tapeLong := t_tapeLong) (t_fault := t_fault) (t_tokenAt := t_tokenAt) (t_tokenLong := t_tokenLong) (t_token := t_token) (t_value := t_value) (t_winner := t_winner) (t_throwsOf := t_throwsOf) (t_handA := t_handA) (t_handB := t_handB) (t_fewestSo := t_fewestSo) (t_traced := t_traced) (t_now := t_now) (t_acts := t_acts) (l1 := l1) (l2 := l2) hQ hR

/-! FistTrainsModel.hands -/
abbrev rmX9_hands : Room := { frames := 2, cells := 0, slots := 0, locals := 45 }
set_option maxRecDepth 20000 in
theorem iX9_hands_X9 : ∀ w ∈ wsX90, w ∈ wsX9_hands := by decide +kernel
set_option maxRecDepth 20000 in
theorem mX9_hands_3 : Cond.fieldLink RX9 32 "FistTrainsModel" "isThere" "[Z" ∈ wsX9_hands := List.mem_of_getElem? (i := 3) rfl
set_option maxRecDepth 20000 in
theorem mX9_hands_4 : Cond.fieldLink RX9 29 "FistTrainsModel" "longs" "[I" ∈ wsX9_hands := List.mem_of_getElem? (i := 4) rfl
set_option maxRecDepth 20000 in
theorem mX9_hands_2 : Cond.constant RX9 79 (-1000001) ∈ wsX9_hands := List.mem_of_getElem? (i := 2) rfl
set_option maxRecDepth 20000 in
theorem mX9_hands_1 : Cond.constant RX9 213 (-1000002) ∈ wsX9_hands := List.mem_of_getElem? (i := 1) rfl
set_option maxRecDepth 20000 in
theorem mX9_hands_7 : Cond.fieldLink RX9 7 "FistTrainsModel" "now" "[I" ∈ wsX9_hands := List.mem_of_getElem? (i := 7) rfl
set_option maxRecDepth 20000 in
theorem mX9_hands_5 : Cond.fieldLink RX9 35 "FistTrainsModel" "items" "[I" ∈ wsX9_hands := List.mem_of_getElem? (i := 5) rfl
set_option maxRecDepth 20000 in
theorem mX9_hands_6 : Cond.constantLong RX9 77 (2) ∈ wsX9_hands := List.mem_of_getElem? (i := 6) rfl
def o_X9_hands_96 (N : Nat) (K58 : Int32 → Int32 → Option (Int32 × Int32 × Int32 × (Nat → Int32) × (Nat → Int32))) (t_manyActs : Int32) (t_status : Int32) (t_now : (Nat → Int32)) (t_acts : (Nat → Int32)) (t_items : (Nat → Int32)) (l1 : Int32) (l3 : Int32) : Option (Int32 × Int32 × Int32 × (Nat → Int32) × (Nat → Int32)) :=
  K58 0 (l3 + 1)
def o_X9_hands_160 (N : Nat) (K120 : (Nat → Int32) → Int32 → Int32 → Option (Int32 × Int32 × Int32 × (Nat → Int32) × (Nat → Int32))) (t_manyActs : Int32) (t_now : (Nat → Int32)) (t_acts : (Nat → Int32)) (t_items : (Nat → Int32)) (l1 : Int32) (l4 : Int32) (s0 : Int32) (s1 : Int32) : Option (Int32 × Int32 × Int32 × (Nat → Int32) × (Nat → Int32)) :=
  ogd (inb ((40 * l1) + l4) 320) (
  ogd (inb (9 + l4) 27) (
  K120 (upd t_now (Int32.toNatClampNeg (9 + l4)) (t_items (Int32.toNatClampNeg ((40 * l1) + l4)))) (s0 + s1) (l4 + 1)))
def o_X9_hands_120 (N : Nat) (t_manyActs : Int32) (t_acts : (Nat → Int32)) (t_items : (Nat → Int32)) (l1 : Int32) : Nat → (Nat → Int32) → Int32 → Int32 → Option (Int32 × Int32 × Int32 × (Nat → Int32) × (Nat → Int32))
  | 0 => fun _ _ _ => none
  | n + 1 => fun t_now l3 l4 => 
    Option.bind (o_X9_players N t_now) (fun r123 =>
    if r123 ≤ l4 then
      Option.bind (o_X9_well N l3) (fun r192 =>
      some (r192.1, t_manyActs, r192.2, t_now, t_acts))
    else
      ogd (inb (9 + l4) 27) (
      ogd (inb ((40 * l1) + l4) 320) (
      if (t_now (Int32.toNatClampNeg (9 + l4))) = (t_items (Int32.toNatClampNeg ((40 * l1) + l4))) then
        o_X9_hands_160 N (o_X9_hands_120 N t_manyActs t_acts t_items l1 n) t_manyActs t_now t_acts t_items l1 l4 l3 0
      else
        o_X9_hands_160 N (o_X9_hands_120 N t_manyActs t_acts t_items l1 n) t_manyActs t_now t_acts t_items l1 l4 l3 1)))
def o_X9_hands_58 (N : Nat) (t_manyActs : Int32) (t_status : Int32) (t_now : (Nat → Int32)) (t_acts : (Nat → Int32)) (t_items : (Nat → Int32)) (l1 : Int32) : Nat → Int32 → Int32 → Option (Int32 × Int32 × Int32 × (Nat → Int32) × (Nat → Int32))
  | 0 => fun _ _ => none
  | n + 1 => fun l2 l3 => 
    Option.bind (o_X9_players N t_now) (fun r60 =>
    if r60 ≤ l3 then
      if l2 = 0 then
        some ((-1000001), t_manyActs, t_status, t_now, t_acts)
      else
        Option.bind (o_X9_keepAct N t_manyActs t_now t_acts) (fun r112 =>
        o_X9_hands_120 N r112.1 r112.2 t_items l1 N t_now 0 0)
    else
      if l2 = 0 then
        o_X9_hands_96 N (o_X9_hands_58 N t_manyActs t_status t_now t_acts t_items l1 n) t_manyActs t_status t_now t_acts t_items l1 l3
      else
        ogd (inb ((40 * l1) + l3) 320) (
        Option.bind (o_X9_in N (Int32.toInt64 (t_items (Int32.toNatClampNeg ((40 * l1) + l3)))) 0 2) (fun r86 =>
        if r86 = 0 then
          o_X9_hands_96 N (o_X9_hands_58 N t_manyActs t_status t_now t_acts t_items l1 n) t_manyActs t_status t_now t_acts t_items l1 l3
        else
          o_X9_hands_58 N t_manyActs t_status t_now t_acts t_items l1 n 1 (l3 + 1))))
def o_X9_hands (N : Nat) (t_manyActs : Int32) (t_status : Int32) (t_now : (Nat → Int32)) (t_acts : (Nat → Int32)) (t_longs : (Nat → Int32)) (t_isThere : (Nat → Int32)) (t_items : (Nat → Int32)) (l1 : Int32) : Option (Int32 × Int32 × Int32 × (Nat → Int32) × (Nat → Int32)) :=
  Option.bind (o_X9_players N t_now) (fun r1 =>
  if r1 = 0 then
    some ((-1000002), t_manyActs, t_status, t_now, t_acts)
  else
    Option.bind (o_X9_isRow N l1) (fun r11 =>
    if r11 = 0 then
      some ((-1000001), t_manyActs, t_status, t_now, t_acts)
    else
      ogd (inb l1 8) (
      if (t_isThere (Int32.toNatClampNeg l1)) = 0 then
        Option.bind (o_X9_found N 1) (fun r31 =>
        some (r31.1, t_manyActs, r31.2, t_now, t_acts))
      else
        ogd (inb l1 8) (
        Option.bind (o_X9_players N t_now) (fun r42 =>
        if r42 ≤ (t_longs (Int32.toNatClampNeg l1)) then
          o_X9_hands_58 N t_manyActs t_status t_now t_acts t_items l1 N 1 0
        else
          Option.bind (o_X9_found N 2) (fun r50 =>
          some (r50.1, t_manyActs, r50.2, t_now, t_acts)))))))
set_option maxHeartbeats 4000000 in
set_option maxRecDepth 100000 in
theorem z_X9_hands_96 {sK sV : Nat → Nat} {E : ZE} {cI cB cZ : ClassId} (hC : ZC E 5 cX9_hands wsX9_hands RX9 rmX9_hands (some .int) (zty cI cB cZ)) (hN : ZN sK sV (zA E) (zs E)) {N : Nat} {a_t : Nat} {a_t_now : Nat} {a_t_acts : Nat} {a_t_longs : Nat} {a_t_isThere : Nat} {a_t_items : Nat} {a_t_kept : Nat} {a_t_isKept : Nat} {a_t_was : Nat} {a_t_lanes : Nat} {a_t_copied : Nat} {a_t_tape : Nat} {a_t_readSorts : Nat} {a_t_readHands : Nat} {a_t_inTurn : Nat} {a_t_ends : Nat} {a_t_bestHands : Nat} {a_t_traces : Nat} {t_manyActs : Int32} {t_status : Int32} {t_tapeLong : Int32} {t_fault : Int32} {t_tokenAt : Int32} {t_tokenLong : Int32} {t_token : Int32} {t_value : Int32} {t_winner : Int32} {t_throwsOf : Int32} {t_handA : Int32} {t_handB : Int32} {t_fewestSo : Int32} {t_traced : Int32} {t_now : (Nat → Int32)} {t_acts : (Nat → Int32)} {t_longs : (Nat → Int32)} {t_isThere : (Nat → Int32)} {t_items : (Nat → Int32)} {l1 : Int32} {l3 : Int32} {K58 : Int32 → Int32 → Option (Int32 × Int32 × Int32 × (Nat → Int32) × (Nat → Int32))} {rf : Int32 × Int32 × Int32 × (Nat → Int32) × (Nat → Int32)} (hQ : ZQi E (zty cI cB cZ) rf.1 [(a_t, .inr (9, [.ref a_t_now, .ref a_t_kept, .ref a_t_isKept, .ref a_t_acts, .int rf.2.1, .ref a_t_was, .int rf.2.2.1, .ref a_t_lanes, .ref a_t_longs, .ref a_t_isThere, .ref a_t_items, .ref a_t_copied, .ref a_t_tape, .int t_tapeLong, .int t_fault, .int t_tokenAt, .int t_tokenLong, .int t_token, .int t_value, .ref a_t_readSorts, .ref a_t_readHands, .int t_winner, .int t_throwsOf, .int t_handA, .int t_handB, .ref a_t_inTurn, .ref a_t_ends, .ref a_t_bestHands, .int t_fewestSo, .ref a_t_traces, .int t_traced])), (a_t_now, .inl (cI, 27, .inl rf.2.2.2.1)), (a_t_acts, .inl (cI, 648, .inl rf.2.2.2.2)), (a_t_longs, .inl (cI, 8, .inl t_longs)), (a_t_isThere, .inl (cZ, 8, .inl t_isThere)), (a_t_items, .inl (cI, 320, .inl t_items))]) (hK58 : ∀ (l2 : Int32) (l3 : Int32), K58 l2 l3 = some rf → Z E (0, 0) [(0, .ref a_t), (1, .int l1), (2, .int l2), (3, .int l3)] 58 [] [(a_t, .inr (9, [.ref a_t_now, .ref a_t_kept, .ref a_t_isKept, .ref a_t_acts, .int t_manyActs, .ref a_t_was, .int t_status, .ref a_t_lanes, .ref a_t_longs, .ref a_t_isThere, .ref a_t_items, .ref a_t_copied, .ref a_t_tape, .int t_tapeLong, .int t_fault, .int t_tokenAt, .int t_tokenLong, .int t_token, .int t_value, .ref a_t_readSorts, .ref a_t_readHands, .int t_winner, .int t_throwsOf, .int t_handA, .int t_handB, .ref a_t_inTurn, .ref a_t_ends, .ref a_t_bestHands, .int t_fewestSo, .ref a_t_traces, .int t_traced])), (a_t_now, .inl (cI, 27, .inl t_now)), (a_t_acts, .inl (cI, 648, .inl t_acts)), (a_t_longs, .inl (cI, 8, .inl t_longs)), (a_t_isThere, .inl (cZ, 8, .inl t_isThere)), (a_t_items, .inl (cI, 320, .inl t_items))]) (hR : o_X9_hands_96 N K58 t_manyActs t_status t_now t_acts t_items l1 l3 = some rf) : Z E (0, 0) [(0, .ref a_t), (1, .int l1), (3, .int l3)] 96 [] [(a_t, .inr (9, [.ref a_t_now, .ref a_t_kept, .ref a_t_isKept, .ref a_t_acts, .int t_manyActs, .ref a_t_was, .int t_status, .ref a_t_lanes, .ref a_t_longs, .ref a_t_isThere, .ref a_t_items, .ref a_t_copied, .ref a_t_tape, .int t_tapeLong, .int t_fault, .int t_tokenAt, .int t_tokenLong, .int t_token, .int t_value, .ref a_t_readSorts, .ref a_t_readHands, .int t_winner, .int t_throwsOf, .int t_handA, .int t_handB, .ref a_t_inTurn, .ref a_t_ends, .ref a_t_bestHands, .int t_fewestSo, .ref a_t_traces, .int t_traced])), (a_t_now, .inl (cI, 27, .inl t_now)), (a_t_acts, .inl (cI, 648, .inl t_acts)), (a_t_longs, .inl (cI, 8, .inl t_longs)), (a_t_isThere, .inl (cZ, 8, .inl t_isThere)), (a_t_items, .inl (cI, 320, .inl t_items))] := by
  rw [o_X9_hands_96] at hR
  refine z_ic0 hC dX9_hands_96 ?_
  refine z_istore_n hC [(2, .int 0), (0, .ref a_t), (1, .int l1), (3, .int l3)] dX9_hands_97 rfl (by decide) rfl ?_
  refine z_iinc1 hC [(3, .int (l3 + 1)), (2, .int 0), (0, .ref a_t), (1, .int l1)] dX9_hands_98 3 rfl (by decide) rfl ?_
  refine z_goto hC 58 dX9_hands_101 (by decide) ?_
  refine z_sub (lv' := [(0, .ref a_t), (1, .int l1), (2, .int 0), (3, .int (l3 + 1))]) [2, 3, 1, 0] rfl ?_
  exact hK58 0 (l3 + 1) hR
set_option maxHeartbeats 4000000 in
set_option maxRecDepth 100000 in
theorem z_X9_hands_160 {sK sV : Nat → Nat} {E : ZE} {cI cB cZ : ClassId} (hC : ZC E 5 cX9_hands wsX9_hands RX9 rmX9_hands (some .int) (zty cI cB cZ)) (hN : ZN sK sV (zA E) (zs E)) {N : Nat} {a_t : Nat} {a_t_now : Nat} {a_t_acts : Nat} {a_t_longs : Nat} {a_t_isThere : Nat} {a_t_items : Nat} {a_t_kept : Nat} {a_t_isKept : Nat} {a_t_was : Nat} {a_t_lanes : Nat} {a_t_copied : Nat} {a_t_tape : Nat} {a_t_readSorts : Nat} {a_t_readHands : Nat} {a_t_inTurn : Nat} {a_t_ends : Nat} {a_t_bestHands : Nat} {a_t_traces : Nat} {t_manyActs : Int32} {t_status : Int32} {t_tapeLong : Int32} {t_fault : Int32} {t_tokenAt : Int32} {t_tokenLong : Int32} {t_token : Int32} {t_value : Int32} {t_winner : Int32} {t_throwsOf : Int32} {t_handA : Int32} {t_handB : Int32} {t_fewestSo : Int32} {t_traced : Int32} {t_now : (Nat → Int32)} {t_acts : (Nat → Int32)} {t_longs : (Nat → Int32)} {t_isThere : (Nat → Int32)} {t_items : (Nat → Int32)} {l1 : Int32} {l4 : Int32} {s0 : Int32} {s1 : Int32} {K120 : (Nat → Int32) → Int32 → Int32 → Option (Int32 × Int32 × Int32 × (Nat → Int32) × (Nat → Int32))} {rf : Int32 × Int32 × Int32 × (Nat → Int32) × (Nat → Int32)} (hQ : ZQi E (zty cI cB cZ) rf.1 [(a_t, .inr (9, [.ref a_t_now, .ref a_t_kept, .ref a_t_isKept, .ref a_t_acts, .int rf.2.1, .ref a_t_was, .int rf.2.2.1, .ref a_t_lanes, .ref a_t_longs, .ref a_t_isThere, .ref a_t_items, .ref a_t_copied, .ref a_t_tape, .int t_tapeLong, .int t_fault, .int t_tokenAt, .int t_tokenLong, .int t_token, .int t_value, .ref a_t_readSorts, .ref a_t_readHands, .int t_winner, .int t_throwsOf, .int t_handA, .int t_handB, .ref a_t_inTurn, .ref a_t_ends, .ref a_t_bestHands, .int t_fewestSo, .ref a_t_traces, .int t_traced])), (a_t_now, .inl (cI, 27, .inl rf.2.2.2.1)), (a_t_acts, .inl (cI, 648, .inl rf.2.2.2.2)), (a_t_longs, .inl (cI, 8, .inl t_longs)), (a_t_isThere, .inl (cZ, 8, .inl t_isThere)), (a_t_items, .inl (cI, 320, .inl t_items))]) (hK120 : ∀ (t_now : (Nat → Int32)) (l3 : Int32) (l4 : Int32), K120 t_now l3 l4 = some rf → Z E (0, 0) [(0, .ref a_t), (1, .int l1), (3, .int l3), (4, .int l4)] 120 [] [(a_t, .inr (9, [.ref a_t_now, .ref a_t_kept, .ref a_t_isKept, .ref a_t_acts, .int t_manyActs, .ref a_t_was, .int t_status, .ref a_t_lanes, .ref a_t_longs, .ref a_t_isThere, .ref a_t_items, .ref a_t_copied, .ref a_t_tape, .int t_tapeLong, .int t_fault, .int t_tokenAt, .int t_tokenLong, .int t_token, .int t_value, .ref a_t_readSorts, .ref a_t_readHands, .int t_winner, .int t_throwsOf, .int t_handA, .int t_handB, .ref a_t_inTurn, .ref a_t_ends, .ref a_t_bestHands, .int t_fewestSo, .ref a_t_traces, .int t_traced])), (a_t_now, .inl (cI, 27, .inl t_now)), (a_t_acts, .inl (cI, 648, .inl t_acts)), (a_t_longs, .inl (cI, 8, .inl t_longs)), (a_t_isThere, .inl (cZ, 8, .inl t_isThere)), (a_t_items, .inl (cI, 320, .inl t_items))]) (hR : o_X9_hands_160 N K120 t_manyActs t_now t_acts t_items l1 l4 s0 s1 = some rf) : Z E (0, 0) [(0, .ref a_t), (1, .int l1), (4, .int l4)] 160 [.int s1, .int s0] [(a_t, .inr (9, [.ref a_t_now, .ref a_t_kept, .ref a_t_isKept, .ref a_t_acts, .int t_manyActs, .ref a_t_was, .int t_status, .ref a_t_lanes, .ref a_t_longs, .ref a_t_isThere, .ref a_t_items, .ref a_t_copied, .ref a_t_tape, .int t_tapeLong, .int t_fault, .int t_tokenAt, .int t_tokenLong, .int t_token, .int t_value, .ref a_t_readSorts, .ref a_t_readHands, .int t_winner, .int t_throwsOf, .int t_handA, .int t_handB, .ref a_t_inTurn, .ref a_t_ends, .ref a_t_bestHands, .int t_fewestSo, .ref a_t_traces, .int t_traced])), (a_t_now, .inl (cI, 27, .inl t_now)), (a_t_acts, .inl (cI, 648, .inl t_acts)), (a_t_longs, .inl (cI, 8, .inl t_longs)), (a_t_isThere, .inl (cZ, 8, .inl t_isThere)), (a_t_items, .inl (cI, 320, .inl t_items))] := by
  rw [o_X9_hands_160] at hR
  refine z_iadd hC dX9_hands_160 ?_
  refine z_istore_n hC [(3, .int (s0 + s1)), (0, .ref a_t), (1, .int l1), (4, .int l4)] dX9_hands_161 rfl (by decide) rfl ?_
  refine z_aload_n hC dX9_hands_162 rfl 1 rfl ?_
  refine z_get hC iX9_hands_X9 rfl 0 0 rfl (by decide) mX9_hands_7 rfl rfl dX9_hands_163 ?_
  refine z_bipush (v := 9) hC dX9_hands_166 (by decide) ?_
  refine z_iload hC dX9_hands_168 3 rfl ?_
  refine z_iadd hC dX9_hands_170 ?_
  refine z_aload_n hC dX9_hands_171 rfl 1 rfl ?_
  refine z_get hC iX9_hands_X9 rfl 0 10 rfl (by decide) mX9_hands_5 rfl rfl dX9_hands_172 ?_
  refine z_bipush (v := 40) hC dX9_hands_175 (by decide) ?_
  refine z_iload_n hC dX9_hands_177 rfl 2 rfl ?_
  refine z_imul hC dX9_hands_178 ?_
  refine z_iload hC dX9_hands_179 3 rfl ?_
  refine z_iadd hC dX9_hands_181 ?_
  refine z_iald hC 5 0 rfl rfl dX9_hands_182 hR (fun hR => ?_)
  refine z_iast hC 1 0 rfl rfl dX9_hands_183 hR (fun hR => ?_)
  refine z_iinc1 hC [(4, .int (l4 + 1)), (3, .int (s0 + s1)), (0, .ref a_t), (1, .int l1)] dX9_hands_184 3 rfl (by decide) rfl ?_
  refine z_goto hC 120 dX9_hands_187 (by decide) ?_
  refine z_sub (lv' := [(0, .ref a_t), (1, .int l1), (3, .int (s0 + s1)), (4, .int (l4 + 1))]) [2, 3, 1, 0] rfl ?_
  exact hK120 (upd t_now (Int32.toNatClampNeg (9 + l4)) (t_items (Int32.toNatClampNeg ((40 * l1) + l4)))) (s0 + s1) (l4 + 1) hR
set_option maxHeartbeats 4000000 in
set_option maxRecDepth 100000 in
theorem z_X9_hands_120 {sK sV : Nat → Nat} {E : ZE} {cI cB cZ : ClassId} (hC : ZC E 5 cX9_hands wsX9_hands RX9 rmX9_hands (some .int) (zty cI cB cZ)) (hN : ZN sK sV (zA E) (zs E)) {N : Nat} {a_t : Nat} {a_t_now : Nat} {a_t_acts : Nat} {a_t_longs : Nat} {a_t_isThere : Nat} {a_t_items : Nat} {a_t_kept : Nat} {a_t_isKept : Nat} {a_t_was : Nat} {a_t_lanes : Nat} {a_t_copied : Nat} {a_t_tape : Nat} {a_t_readSorts : Nat} {a_t_readHands : Nat} {a_t_inTurn : Nat} {a_t_ends : Nat} {a_t_bestHands : Nat} {a_t_traces : Nat} {t_manyActs : Int32} {t_status : Int32} {t_tapeLong : Int32} {t_fault : Int32} {t_tokenAt : Int32} {t_tokenLong : Int32} {t_token : Int32} {t_value : Int32} {t_winner : Int32} {t_throwsOf : Int32} {t_handA : Int32} {t_handB : Int32} {t_fewestSo : Int32} {t_traced : Int32} {t_acts : (Nat → Int32)} {t_longs : (Nat → Int32)} {t_isThere : (Nat → Int32)} {t_items : (Nat → Int32)} {l1 : Int32} {rf : Int32 × Int32 × Int32 × (Nat → Int32) × (Nat → Int32)} (hQ : ZQi E (zty cI cB cZ) rf.1 [(a_t, .inr (9, [.ref a_t_now, .ref a_t_kept, .ref a_t_isKept, .ref a_t_acts, .int rf.2.1, .ref a_t_was, .int rf.2.2.1, .ref a_t_lanes, .ref a_t_longs, .ref a_t_isThere, .ref a_t_items, .ref a_t_copied, .ref a_t_tape, .int t_tapeLong, .int t_fault, .int t_tokenAt, .int t_tokenLong, .int t_token, .int t_value, .ref a_t_readSorts, .ref a_t_readHands, .int t_winner, .int t_throwsOf, .int t_handA, .int t_handB, .ref a_t_inTurn, .ref a_t_ends, .ref a_t_bestHands, .int t_fewestSo, .ref a_t_traces, .int t_traced])), (a_t_now, .inl (cI, 27, .inl rf.2.2.2.1)), (a_t_acts, .inl (cI, 648, .inl rf.2.2.2.2)), (a_t_longs, .inl (cI, 8, .inl t_longs)), (a_t_isThere, .inl (cZ, 8, .inl t_isThere)), (a_t_items, .inl (cI, 320, .inl t_items))]) : ∀ (n : Nat) (t_now : (Nat → Int32)) (l3 : Int32) (l4 : Int32), o_X9_hands_120 N t_manyActs t_acts t_items l1 n t_now l3 l4 = some rf → Z E (0, 0) [(0, .ref a_t), (1, .int l1), (3, .int l3), (4, .int l4)] 120 [] [(a_t, .inr (9, [.ref a_t_now, .ref a_t_kept, .ref a_t_isKept, .ref a_t_acts, .int t_manyActs, .ref a_t_was, .int t_status, .ref a_t_lanes, .ref a_t_longs, .ref a_t_isThere, .ref a_t_items, .ref a_t_copied, .ref a_t_tape, .int t_tapeLong, .int t_fault, .int t_tokenAt, .int t_tokenLong, .int t_token, .int t_value, .ref a_t_readSorts, .ref a_t_readHands, .int t_winner, .int t_throwsOf, .int t_handA, .int t_handB, .ref a_t_inTurn, .ref a_t_ends, .ref a_t_bestHands, .int t_fewestSo, .ref a_t_traces, .int t_traced])), (a_t_now, .inl (cI, 27, .inl t_now)), (a_t_acts, .inl (cI, 648, .inl t_acts)), (a_t_longs, .inl (cI, 8, .inl t_longs)), (a_t_isThere, .inl (cZ, 8, .inl t_isThere)), (a_t_items, .inl (cI, 320, .inl t_items))] := by
  intro n
  induction n with
  | zero =>
    intro t_now l3 l4 hR
    cases hR
  | succ n ih =>
    intro t_now l3 l4 hR
    rw [o_X9_hands_120] at hR
    refine z_iload hC dX9_hands_120 3 rfl ?_
    refine z_aload_n hC dX9_hands_122 rfl 0 rfl ?_
    refine z_callVi_p hC hN [] [0, 1] (c_X9_players (l := zl E) (D := zD E) (cI := cI) (cB := cB) (cZ := cZ) (N := N) (a_t := a_t) (a_t_now := a_t_now) (a_t_kept := a_t_kept) (a_t_isKept := a_t_isKept) (a_t_acts := a_t_acts) (a_t_was := a_t_was) (a_t_lanes := a_t_lanes) (a_t_longs := a_t_longs) (a_t_isThere := a_t_isThere) (a_t_items := a_t_items) (a_t_copied := a_t_copied) (a_t_tape := a_t_tape) (a_t_readSorts := a_t_readSorts) (a_t_readHands := a_t_readHands) (a_t_inTurn := a_t_inTurn) (a_t_ends := a_t_ends) (a_t_bestHands := a_t_bestHands) (a_t_traces := a_t_traces) (t_manyActs := t_manyActs) (t_status := t_status) (t_tapeLong := t_tapeLong) (t_fault := t_fault) (t_tokenAt := t_tokenAt) (t_tokenLong := t_tokenLong) (t_token := t_token) (t_value := t_value) (t_winner := t_winner) (t_throwsOf := t_throwsOf) (t_handA := t_handA) (t_handB := t_handB) (t_fewestSo := t_fewestSo) (t_traced := t_traced) (t_now := t_now)) rfl ⟨rfl, rfl⟩ gX9_hands_X9_players hvX9_players 0 9 rfl rfl rfl ⟨Nat.le_of_ble_eq_true rfl, Nat.le_of_ble_eq_true rfl⟩ ⟨Nat.zero_le _, Nat.zero_le _⟩ rfl (Nat.le_of_ble_eq_true rfl) rfl (by decide) dX9_hands_123 hR (fun r123 hR => ?_)
    refine z_icmp_ge hC 190 dX9_hands_126 (by decide) hR (fun hR => ?_) (fun hR => ?_)
    · refine z_aload_n hC dX9_hands_190 rfl 0 rfl ?_
      refine z_iload_n hC dX9_hands_191 rfl 2 rfl ?_
      refine z_callVi hC hN [.int l3] [0] (c_X9_well (l := zl E) (D := zD E) (cI := cI) (cB := cB) (cZ := cZ) (N := N) (a_t := a_t) (a_t_now := a_t_now) (a_t_kept := a_t_kept) (a_t_isKept := a_t_isKept) (a_t_acts := a_t_acts) (a_t_was := a_t_was) (a_t_lanes := a_t_lanes) (a_t_longs := a_t_longs) (a_t_isThere := a_t_isThere) (a_t_items := a_t_items) (a_t_copied := a_t_copied) (a_t_tape := a_t_tape) (a_t_readSorts := a_t_readSorts) (a_t_readHands := a_t_readHands) (a_t_inTurn := a_t_inTurn) (a_t_ends := a_t_ends) (a_t_bestHands := a_t_bestHands) (a_t_traces := a_t_traces) (l1 := l3) (t_manyActs := t_manyActs) (t_status := t_status) (t_tapeLong := t_tapeLong) (t_fault := t_fault) (t_tokenAt := t_tokenAt) (t_tokenLong := t_tokenLong) (t_token := t_token) (t_value := t_value) (t_winner := t_winner) (t_throwsOf := t_throwsOf) (t_handA := t_handA) (t_handB := t_handB) (t_fewestSo := t_fewestSo) (t_traced := t_traced)) rfl ⟨rfl, rfl⟩ gX9_hands_X9_well hvX9_well 0 9 rfl rfl rfl ⟨Nat.le_of_ble_eq_true rfl, Nat.le_of_ble_eq_true rfl⟩ ⟨Nat.zero_le _, Nat.zero_le _⟩ rfl (Nat.le_of_ble_eq_true rfl) rfl (by decide) (fun _ => rfl) dX9_hands_192 hR (fun r192 hR => ?_)
      refine z_eq [(a_t, .inr (9, [.ref a_t_now, .ref a_t_kept, .ref a_t_isKept, .ref a_t_acts, .int t_manyActs, .ref a_t_was, .int r192.2, .ref a_t_lanes, .ref a_t_longs, .ref a_t_isThere, .ref a_t_items, .ref a_t_copied, .ref a_t_tape, .int t_tapeLong, .int t_fault, .int t_tokenAt, .int t_tokenLong, .int t_token, .int t_value, .ref a_t_readSorts, .ref a_t_readHands, .int t_winner, .int t_throwsOf, .int t_handA, .int t_handB, .ref a_t_inTurn, .ref a_t_ends, .ref a_t_bestHands, .int t_fewestSo, .ref a_t_traces, .int t_traced])), (a_t_now, .inl (cI, 27, .inl t_now)), (a_t_acts, .inl (cI, 648, .inl t_acts)), (a_t_longs, .inl (cI, 8, .inl t_longs)), (a_t_isThere, .inl (cZ, 8, .inl t_isThere)), (a_t_items, .inl (cI, 320, .inl t_items))] rfl ?_
      obtain rfl := Option.some.inj hR
      exact z_iret hC hQ rfl rfl rfl dX9_hands_195
    · refine z_iload_n hC dX9_hands_129 rfl 2 rfl ?_
      refine z_aload_n hC dX9_hands_130 rfl 0 rfl ?_
      refine z_get hC iX9_hands_X9 rfl 0 0 rfl (by decide) mX9_hands_7 rfl rfl dX9_hands_131 ?_
      refine z_bipush (v := 9) hC dX9_hands_134 (by decide) ?_
      refine z_iload hC dX9_hands_136 3 rfl ?_
      refine z_iadd hC dX9_hands_138 ?_
      refine z_iald hC 1 0 rfl rfl dX9_hands_139 hR (fun hR => ?_)
      refine z_aload_n hC dX9_hands_140 rfl 0 rfl ?_
      refine z_get hC iX9_hands_X9 rfl 0 10 rfl (by decide) mX9_hands_5 rfl rfl dX9_hands_141 ?_
      refine z_bipush (v := 40) hC dX9_hands_144 (by decide) ?_
      refine z_iload_n hC dX9_hands_146 rfl 1 rfl ?_
      refine z_imul hC dX9_hands_147 ?_
      refine z_iload hC dX9_hands_148 3 rfl ?_
      refine z_iadd hC dX9_hands_150 ?_
      refine z_iald hC 5 0 rfl rfl dX9_hands_151 hR (fun hR => ?_)
      refine z_icmp_ne hC 159 dX9_hands_152 (by decide) hR (fun hR => ?_) (fun hR => ?_)
      · refine z_ic1 hC dX9_hands_159 ?_
        refine z_sub (lv' := [(0, .ref a_t), (1, .int l1), (4, .int l4)]) [0, 1, 3] rfl ?_
        exact z_X9_hands_160 hC hN (N := N) (a_t := a_t) (a_t_now := a_t_now) (a_t_acts := a_t_acts) (a_t_longs := a_t_longs) (a_t_isThere := a_t_isThere) (a_t_items := a_t_items) (a_t_kept := a_t_kept) (a_t_isKept := a_t_isKept) (a_t_was := a_t_was) (a_t_lanes := a_t_lanes) (a_t_copied := a_t_copied) (a_t_tape := a_t_tape) (a_t_readSorts := a_t_readSorts) (a_t_readHands := a_t_readHands) (a_t_inTurn := a_t_inTurn) (a_t_ends := a_t_ends) (a_t_bestHands := a_t_bestHands) (a_t_traces := a_t_traces) (t_manyActs := t_manyActs) (t_status := t_status) (t_tapeLong := t_tapeLong) (t_fault := t_fault) (t_tokenAt := t_tokenAt) (t_tokenLong := t_tokenLong) (t_token := t_token) (t_value := t_value) (t_winner := t_winner) (t_throwsOf := t_throwsOf) (t_handA := t_handA) (t_handB := t_handB) (t_fewestSo := t_fewestSo) (t_traced := t_traced) (t_now := t_now) (t_acts := t_acts) (t_longs := t_longs) (t_isThere := t_isThere) (t_items := t_items) (l1 := l1) (l4 := l4) (s0 := l3) (s1 := 1) hQ ih hR
      · refine z_ic0 hC dX9_hands_155 ?_
        refine z_goto hC 160 dX9_hands_156 (by decide) ?_
        refine z_sub (lv' := [(0, .ref a_t), (1, .int l1), (4, .int l4)]) [0, 1, 3] rfl ?_
        exact z_X9_hands_160 hC hN (N := N) (a_t := a_t) (a_t_now := a_t_now) (a_t_acts := a_t_acts) (a_t_longs := a_t_longs) (a_t_isThere := a_t_isThere) (a_t_items := a_t_items) (a_t_kept := a_t_kept) (a_t_isKept := a_t_isKept) (a_t_was := a_t_was) (a_t_lanes := a_t_lanes) (a_t_copied := a_t_copied) (a_t_tape := a_t_tape) (a_t_readSorts := a_t_readSorts) (a_t_readHands := a_t_readHands) (a_t_inTurn := a_t_inTurn) (a_t_ends := a_t_ends) (a_t_bestHands := a_t_bestHands) (a_t_traces := a_t_traces) (t_manyActs := t_manyActs) (t_status := t_status) (t_tapeLong := t_tapeLong) (t_fault := t_fault) (t_tokenAt := t_tokenAt) (t_tokenLong := t_tokenLong) (t_token := t_token) (t_value := t_value) (t_winner := t_winner) (t_throwsOf := t_throwsOf) (t_handA := t_handA) (t_handB := t_handB) (t_fewestSo := t_fewestSo) (t_traced := t_traced) (t_now := t_now) (t_acts := t_acts) (t_longs := t_longs) (t_isThere := t_isThere) (t_items := t_items) (l1 := l1) (l4 := l4) (s0 := l3) (s1 := 0) hQ ih hR
set_option maxHeartbeats 4000000 in
set_option maxRecDepth 100000 in
theorem z_X9_hands_58 {sK sV : Nat → Nat} {E : ZE} {cI cB cZ : ClassId} (hC : ZC E 5 cX9_hands wsX9_hands RX9 rmX9_hands (some .int) (zty cI cB cZ)) (hN : ZN sK sV (zA E) (zs E)) {N : Nat} {a_t : Nat} {a_t_now : Nat} {a_t_acts : Nat} {a_t_longs : Nat} {a_t_isThere : Nat} {a_t_items : Nat} {a_t_kept : Nat} {a_t_isKept : Nat} {a_t_was : Nat} {a_t_lanes : Nat} {a_t_copied : Nat} {a_t_tape : Nat} {a_t_readSorts : Nat} {a_t_readHands : Nat} {a_t_inTurn : Nat} {a_t_ends : Nat} {a_t_bestHands : Nat} {a_t_traces : Nat} {t_manyActs : Int32} {t_status : Int32} {t_tapeLong : Int32} {t_fault : Int32} {t_tokenAt : Int32} {t_tokenLong : Int32} {t_token : Int32} {t_value : Int32} {t_winner : Int32} {t_throwsOf : Int32} {t_handA : Int32} {t_handB : Int32} {t_fewestSo : Int32} {t_traced : Int32} {t_now : (Nat → Int32)} {t_acts : (Nat → Int32)} {t_longs : (Nat → Int32)} {t_isThere : (Nat → Int32)} {t_items : (Nat → Int32)} {l1 : Int32} {rf : Int32 × Int32 × Int32 × (Nat → Int32) × (Nat → Int32)} (hQ : ZQi E (zty cI cB cZ) rf.1 [(a_t, .inr (9, [.ref a_t_now, .ref a_t_kept, .ref a_t_isKept, .ref a_t_acts, .int rf.2.1, .ref a_t_was, .int rf.2.2.1, .ref a_t_lanes, .ref a_t_longs, .ref a_t_isThere, .ref a_t_items, .ref a_t_copied, .ref a_t_tape, .int t_tapeLong, .int t_fault, .int t_tokenAt, .int t_tokenLong, .int t_token, .int t_value, .ref a_t_readSorts, .ref a_t_readHands, .int t_winner, .int t_throwsOf, .int t_handA, .int t_handB, .ref a_t_inTurn, .ref a_t_ends, .ref a_t_bestHands, .int t_fewestSo, .ref a_t_traces, .int t_traced])), (a_t_now, .inl (cI, 27, .inl rf.2.2.2.1)), (a_t_acts, .inl (cI, 648, .inl rf.2.2.2.2)), (a_t_longs, .inl (cI, 8, .inl t_longs)), (a_t_isThere, .inl (cZ, 8, .inl t_isThere)), (a_t_items, .inl (cI, 320, .inl t_items))]) : ∀ (n : Nat) (l2 : Int32) (l3 : Int32), o_X9_hands_58 N t_manyActs t_status t_now t_acts t_items l1 n l2 l3 = some rf → Z E (0, 0) [(0, .ref a_t), (1, .int l1), (2, .int l2), (3, .int l3)] 58 [] [(a_t, .inr (9, [.ref a_t_now, .ref a_t_kept, .ref a_t_isKept, .ref a_t_acts, .int t_manyActs, .ref a_t_was, .int t_status, .ref a_t_lanes, .ref a_t_longs, .ref a_t_isThere, .ref a_t_items, .ref a_t_copied, .ref a_t_tape, .int t_tapeLong, .int t_fault, .int t_tokenAt, .int t_tokenLong, .int t_token, .int t_value, .ref a_t_readSorts, .ref a_t_readHands, .int t_winner, .int t_throwsOf, .int t_handA, .int t_handB, .ref a_t_inTurn, .ref a_t_ends, .ref a_t_bestHands, .int t_fewestSo, .ref a_t_traces, .int t_traced])), (a_t_now, .inl (cI, 27, .inl t_now)), (a_t_acts, .inl (cI, 648, .inl t_acts)), (a_t_longs, .inl (cI, 8, .inl t_longs)), (a_t_isThere, .inl (cZ, 8, .inl t_isThere)), (a_t_items, .inl (cI, 320, .inl t_items))] := by
  intro n
  induction n with
  | zero =>
    intro l2 l3 hR
    cases hR
  | succ n ih =>
    intro l2 l3 hR
    rw [o_X9_hands_58] at hR
    refine z_iload_n hC dX9_hands_58 rfl 3 rfl ?_
    refine z_aload_n hC dX9_hands_59 rfl 0 rfl ?_
    refine z_callVi_p hC hN [] [0, 1] (c_X9_players (l := zl E) (D := zD E) (cI := cI) (cB := cB) (cZ := cZ) (N := N) (a_t := a_t) (a_t_now := a_t_now) (a_t_kept := a_t_kept) (a_t_isKept := a_t_isKept) (a_t_acts := a_t_acts) (a_t_was := a_t_was) (a_t_lanes := a_t_lanes) (a_t_longs := a_t_longs) (a_t_isThere := a_t_isThere) (a_t_items := a_t_items) (a_t_copied := a_t_copied) (a_t_tape := a_t_tape) (a_t_readSorts := a_t_readSorts) (a_t_readHands := a_t_readHands) (a_t_inTurn := a_t_inTurn) (a_t_ends := a_t_ends) (a_t_bestHands := a_t_bestHands) (a_t_traces := a_t_traces) (t_manyActs := t_manyActs) (t_status := t_status) (t_tapeLong := t_tapeLong) (t_fault := t_fault) (t_tokenAt := t_tokenAt) (t_tokenLong := t_tokenLong) (t_token := t_token) (t_value := t_value) (t_winner := t_winner) (t_throwsOf := t_throwsOf) (t_handA := t_handA) (t_handB := t_handB) (t_fewestSo := t_fewestSo) (t_traced := t_traced) (t_now := t_now)) rfl ⟨rfl, rfl⟩ gX9_hands_X9_players hvX9_players 0 9 rfl rfl rfl ⟨Nat.le_of_ble_eq_true rfl, Nat.le_of_ble_eq_true rfl⟩ ⟨Nat.zero_le _, Nat.zero_le _⟩ rfl (Nat.le_of_ble_eq_true rfl) rfl (by decide) dX9_hands_60 hR (fun r60 hR => ?_)
    refine z_icmp_ge hC 104 dX9_hands_63 (by decide) hR (fun hR => ?_) (fun hR => ?_)
    · refine z_iload_n hC dX9_hands_104 rfl 2 rfl ?_
      refine z_if_ne hC 111 dX9_hands_105 (by decide) hR (fun hR => ?_) (fun hR => ?_)
      · refine z_aload_n hC dX9_hands_111 rfl 0 rfl ?_
        refine z_callVv hC hN [] [0, 1, 2] (c_X9_keepAct (l := zl E) (D := zD E) (cI := cI) (cB := cB) (cZ := cZ) (N := N) (a_t := a_t) (a_t_now := a_t_now) (a_t_kept := a_t_kept) (a_t_isKept := a_t_isKept) (a_t_acts := a_t_acts) (a_t_was := a_t_was) (a_t_lanes := a_t_lanes) (a_t_longs := a_t_longs) (a_t_isThere := a_t_isThere) (a_t_items := a_t_items) (a_t_copied := a_t_copied) (a_t_tape := a_t_tape) (a_t_readSorts := a_t_readSorts) (a_t_readHands := a_t_readHands) (a_t_inTurn := a_t_inTurn) (a_t_ends := a_t_ends) (a_t_bestHands := a_t_bestHands) (a_t_traces := a_t_traces) (t_manyActs := t_manyActs) (t_status := t_status) (t_tapeLong := t_tapeLong) (t_fault := t_fault) (t_tokenAt := t_tokenAt) (t_tokenLong := t_tokenLong) (t_token := t_token) (t_value := t_value) (t_winner := t_winner) (t_throwsOf := t_throwsOf) (t_handA := t_handA) (t_handB := t_handB) (t_fewestSo := t_fewestSo) (t_traced := t_traced) (t_now := t_now) (t_acts := t_acts)) rfl ⟨rfl, rfl⟩ gX9_hands_X9_keepAct hvX9_keepAct 0 9 rfl rfl rfl ⟨Nat.le_of_ble_eq_true rfl, Nat.le_of_ble_eq_true rfl⟩ ⟨Nat.zero_le _, Nat.zero_le _⟩ rfl (Nat.le_of_ble_eq_true rfl) rfl (by decide) (fun _ => rfl) dX9_hands_112 hR (fun r112 hR => ?_)
        refine z_eq [(a_t, .inr (9, [.ref a_t_now, .ref a_t_kept, .ref a_t_isKept, .ref a_t_acts, .int r112.1, .ref a_t_was, .int t_status, .ref a_t_lanes, .ref a_t_longs, .ref a_t_isThere, .ref a_t_items, .ref a_t_copied, .ref a_t_tape, .int t_tapeLong, .int t_fault, .int t_tokenAt, .int t_tokenLong, .int t_token, .int t_value, .ref a_t_readSorts, .ref a_t_readHands, .int t_winner, .int t_throwsOf, .int t_handA, .int t_handB, .ref a_t_inTurn, .ref a_t_ends, .ref a_t_bestHands, .int t_fewestSo, .ref a_t_traces, .int t_traced])), (a_t_now, .inl (cI, 27, .inl t_now)), (a_t_acts, .inl (cI, 648, .inl r112.2)), (a_t_longs, .inl (cI, 8, .inl t_longs)), (a_t_isThere, .inl (cZ, 8, .inl t_isThere)), (a_t_items, .inl (cI, 320, .inl t_items))] rfl ?_
        refine z_ic0 hC dX9_hands_115 ?_
        refine z_istore_n hC [(3, .int 0), (0, .ref a_t), (1, .int l1), (2, .int l2)] dX9_hands_116 rfl (by decide) rfl ?_
        refine z_ic0 hC dX9_hands_117 ?_
        refine z_istore hC [(4, .int 0), (3, .int 0), (0, .ref a_t), (1, .int l1), (2, .int l2)] dX9_hands_118 (by decide) rfl ?_
        refine z_sub (lv' := [(0, .ref a_t), (1, .int l1), (3, .int 0), (4, .int 0)]) [2, 3, 1, 0] rfl ?_
        exact z_X9_hands_120 hC hN (N := N) (a_t := a_t) (a_t_now := a_t_now) (a_t_acts := a_t_acts) (a_t_longs := a_t_longs) (a_t_isThere := a_t_isThere) (a_t_items := a_t_items) (a_t_kept := a_t_kept) (a_t_isKept := a_t_isKept) (a_t_was := a_t_was) (a_t_lanes := a_t_lanes) (a_t_copied := a_t_copied) (a_t_tape := a_t_tape) (a_t_readSorts := a_t_readSorts) (a_t_readHands := a_t_readHands) (a_t_inTurn := a_t_inTurn) (a_t_ends := a_t_ends) (a_t_bestHands := a_t_bestHands) (a_t_traces := a_t_traces) (t_manyActs := r112.1) (t_status := t_status) (t_tapeLong := t_tapeLong) (t_fault := t_fault) (t_tokenAt := t_tokenAt) (t_tokenLong := t_tokenLong) (t_token := t_token) (t_value := t_value) (t_winner := t_winner) (t_throwsOf := t_throwsOf) (t_handA := t_handA) (t_handB := t_handB) (t_fewestSo := t_fewestSo) (t_traced := t_traced) (t_acts := r112.2) (t_longs := t_longs) (t_isThere := t_isThere) (t_items := t_items) (l1 := l1) hQ  N t_now 0 0 hR
      · refine z_ldc hC (-1000001) mX9_hands_2 dX9_hands_108 ?_
        obtain rfl := Option.some.inj hR
        exact z_iret hC hQ rfl rfl rfl dX9_hands_110
    · refine z_iload_n hC dX9_hands_66 rfl 2 rfl ?_
      refine z_if_eq hC 96 dX9_hands_67 (by decide) hR (fun hR => ?_) (fun hR => ?_)
      · refine z_sub (lv' := [(0, .ref a_t), (1, .int l1), (3, .int l3)]) [0, 1, 3] rfl ?_
        exact z_X9_hands_96 hC hN (N := N) (a_t := a_t) (a_t_now := a_t_now) (a_t_acts := a_t_acts) (a_t_longs := a_t_longs) (a_t_isThere := a_t_isThere) (a_t_items := a_t_items) (a_t_kept := a_t_kept) (a_t_isKept := a_t_isKept) (a_t_was := a_t_was) (a_t_lanes := a_t_lanes) (a_t_copied := a_t_copied) (a_t_tape := a_t_tape) (a_t_readSorts := a_t_readSorts) (a_t_readHands := a_t_readHands) (a_t_inTurn := a_t_inTurn) (a_t_ends := a_t_ends) (a_t_bestHands := a_t_bestHands) (a_t_traces := a_t_traces) (t_manyActs := t_manyActs) (t_status := t_status) (t_tapeLong := t_tapeLong) (t_fault := t_fault) (t_tokenAt := t_tokenAt) (t_tokenLong := t_tokenLong) (t_token := t_token) (t_value := t_value) (t_winner := t_winner) (t_throwsOf := t_throwsOf) (t_handA := t_handA) (t_handB := t_handB) (t_fewestSo := t_fewestSo) (t_traced := t_traced) (t_now := t_now) (t_acts := t_acts) (t_longs := t_longs) (t_isThere := t_isThere) (t_items := t_items) (l1 := l1) (l3 := l3) hQ ih hR
      · refine z_aload_n hC dX9_hands_70 rfl 0 rfl ?_
        refine z_get hC iX9_hands_X9 rfl 0 10 rfl (by decide) mX9_hands_5 rfl rfl dX9_hands_71 ?_
        refine z_bipush (v := 40) hC dX9_hands_74 (by decide) ?_
        refine z_iload_n hC dX9_hands_76 rfl 1 rfl ?_
        refine z_imul hC dX9_hands_77 ?_
        refine z_iload_n hC dX9_hands_78 rfl 3 rfl ?_
        refine z_iadd hC dX9_hands_79 ?_
        refine z_iald hC 5 0 rfl rfl dX9_hands_80 hR (fun hR => ?_)
        refine z_i2l hC dX9_hands_81 ?_
        refine z_lconst (v := 0) hC dX9_hands_82 rfl ?_
        refine z_ldc2 hC 2 mX9_hands_6 dX9_hands_83 ?_
        refine z_callSi_p hC hN [.long (Int32.toInt64 (t_items (Int32.toNatClampNeg ((40 * l1) + l3)))), .long 0, .long 2] [] (c_X9_in (l := zl E) (D := zD E) (cI := cI) (cB := cB) (cZ := cZ) (N := N) (L0 := (Int32.toInt64 (t_items (Int32.toNatClampNeg ((40 * l1) + l3))))) (L2 := 0) (L4 := 2)) rfl ⟨rfl, rfl⟩ gX9_hands_X9_in hsX9_in ⟨Nat.le_of_ble_eq_true rfl, Nat.le_of_ble_eq_true rfl⟩ ⟨Nat.zero_le _, Nat.zero_le _⟩ rfl (Nat.le_of_ble_eq_true rfl) rfl (by decide) dX9_hands_86 hR (fun r86 hR => ?_)
        refine z_if_eq hC 96 dX9_hands_89 (by decide) hR (fun hR => ?_) (fun hR => ?_)
        · refine z_sub (lv' := [(0, .ref a_t), (1, .int l1), (3, .int l3)]) [0, 1, 3] rfl ?_
          exact z_X9_hands_96 hC hN (N := N) (a_t := a_t) (a_t_now := a_t_now) (a_t_acts := a_t_acts) (a_t_longs := a_t_longs) (a_t_isThere := a_t_isThere) (a_t_items := a_t_items) (a_t_kept := a_t_kept) (a_t_isKept := a_t_isKept) (a_t_was := a_t_was) (a_t_lanes := a_t_lanes) (a_t_copied := a_t_copied) (a_t_tape := a_t_tape) (a_t_readSorts := a_t_readSorts) (a_t_readHands := a_t_readHands) (a_t_inTurn := a_t_inTurn) (a_t_ends := a_t_ends) (a_t_bestHands := a_t_bestHands) (a_t_traces := a_t_traces) (t_manyActs := t_manyActs) (t_status := t_status) (t_tapeLong := t_tapeLong) (t_fault := t_fault) (t_tokenAt := t_tokenAt) (t_tokenLong := t_tokenLong) (t_token := t_token) (t_value := t_value) (t_winner := t_winner) (t_throwsOf := t_throwsOf) (t_handA := t_handA) (t_handB := t_handB) (t_fewestSo := t_fewestSo) (t_traced := t_traced) (t_now := t_now) (t_acts := t_acts) (t_longs := t_longs) (t_isThere := t_isThere) (t_items := t_items) (l1 := l1) (l3 := l3) hQ ih hR
        · refine z_ic1 hC dX9_hands_92 ?_
          refine z_goto hC 97 dX9_hands_93 (by decide) ?_
          refine z_istore_n hC [(2, .int 1), (0, .ref a_t), (1, .int l1), (3, .int l3)] dX9_hands_97 rfl (by decide) rfl ?_
          refine z_iinc1 hC [(3, .int (l3 + 1)), (2, .int 1), (0, .ref a_t), (1, .int l1)] dX9_hands_98 3 rfl (by decide) rfl ?_
          refine z_goto hC 58 dX9_hands_101 (by decide) ?_
          refine z_sub (lv' := [(0, .ref a_t), (1, .int l1), (2, .int 1), (3, .int (l3 + 1))]) [2, 3, 1, 0] rfl ?_
          exact ih 1 (l3 + 1) hR
set_option maxHeartbeats 4000000 in
set_option maxRecDepth 100000 in
theorem z_X9_hands_0 {sK sV : Nat → Nat} {E : ZE} {cI cB cZ : ClassId} (hC : ZC E 5 cX9_hands wsX9_hands RX9 rmX9_hands (some .int) (zty cI cB cZ)) (hN : ZN sK sV (zA E) (zs E)) {N : Nat} {a_t : Nat} {a_t_now : Nat} {a_t_acts : Nat} {a_t_longs : Nat} {a_t_isThere : Nat} {a_t_items : Nat} {a_t_kept : Nat} {a_t_isKept : Nat} {a_t_was : Nat} {a_t_lanes : Nat} {a_t_copied : Nat} {a_t_tape : Nat} {a_t_readSorts : Nat} {a_t_readHands : Nat} {a_t_inTurn : Nat} {a_t_ends : Nat} {a_t_bestHands : Nat} {a_t_traces : Nat} {t_manyActs : Int32} {t_status : Int32} {t_tapeLong : Int32} {t_fault : Int32} {t_tokenAt : Int32} {t_tokenLong : Int32} {t_token : Int32} {t_value : Int32} {t_winner : Int32} {t_throwsOf : Int32} {t_handA : Int32} {t_handB : Int32} {t_fewestSo : Int32} {t_traced : Int32} {t_now : (Nat → Int32)} {t_acts : (Nat → Int32)} {t_longs : (Nat → Int32)} {t_isThere : (Nat → Int32)} {t_items : (Nat → Int32)} {l1 : Int32} {rf : Int32 × Int32 × Int32 × (Nat → Int32) × (Nat → Int32)} (hQ : ZQi E (zty cI cB cZ) rf.1 [(a_t, .inr (9, [.ref a_t_now, .ref a_t_kept, .ref a_t_isKept, .ref a_t_acts, .int rf.2.1, .ref a_t_was, .int rf.2.2.1, .ref a_t_lanes, .ref a_t_longs, .ref a_t_isThere, .ref a_t_items, .ref a_t_copied, .ref a_t_tape, .int t_tapeLong, .int t_fault, .int t_tokenAt, .int t_tokenLong, .int t_token, .int t_value, .ref a_t_readSorts, .ref a_t_readHands, .int t_winner, .int t_throwsOf, .int t_handA, .int t_handB, .ref a_t_inTurn, .ref a_t_ends, .ref a_t_bestHands, .int t_fewestSo, .ref a_t_traces, .int t_traced])), (a_t_now, .inl (cI, 27, .inl rf.2.2.2.1)), (a_t_acts, .inl (cI, 648, .inl rf.2.2.2.2)), (a_t_longs, .inl (cI, 8, .inl t_longs)), (a_t_isThere, .inl (cZ, 8, .inl t_isThere)), (a_t_items, .inl (cI, 320, .inl t_items))]) (hR : o_X9_hands N t_manyActs t_status t_now t_acts t_longs t_isThere t_items l1 = some rf) : Z E (0, 0) [(0, .ref a_t), (1, .int l1)] 0 [] [(a_t, .inr (9, [.ref a_t_now, .ref a_t_kept, .ref a_t_isKept, .ref a_t_acts, .int t_manyActs, .ref a_t_was, .int t_status, .ref a_t_lanes, .ref a_t_longs, .ref a_t_isThere, .ref a_t_items, .ref a_t_copied, .ref a_t_tape, .int t_tapeLong, .int t_fault, .int t_tokenAt, .int t_tokenLong, .int t_token, .int t_value, .ref a_t_readSorts, .ref a_t_readHands, .int t_winner, .int t_throwsOf, .int t_handA, .int t_handB, .ref a_t_inTurn, .ref a_t_ends, .ref a_t_bestHands, .int t_fewestSo, .ref a_t_traces, .int t_traced])), (a_t_now, .inl (cI, 27, .inl t_now)), (a_t_acts, .inl (cI, 648, .inl t_acts)), (a_t_longs, .inl (cI, 8, .inl t_longs)), (a_t_isThere, .inl (cZ, 8, .inl t_isThere)), (a_t_items, .inl (cI, 320, .inl t_items))] := by
  rw [o_X9_hands] at hR
  refine z_aload_n hC dX9_hands_0 rfl 0 rfl ?_
  refine z_callVi_p hC hN [] [0, 1] (c_X9_players (l := zl E) (D := zD E) (cI := cI) (cB := cB) (cZ := cZ) (N := N) (a_t := a_t) (a_t_now := a_t_now) (a_t_kept := a_t_kept) (a_t_isKept := a_t_isKept) (a_t_acts := a_t_acts) (a_t_was := a_t_was) (a_t_lanes := a_t_lanes) (a_t_longs := a_t_longs) (a_t_isThere := a_t_isThere) (a_t_items := a_t_items) (a_t_copied := a_t_copied) (a_t_tape := a_t_tape) (a_t_readSorts := a_t_readSorts) (a_t_readHands := a_t_readHands) (a_t_inTurn := a_t_inTurn) (a_t_ends := a_t_ends) (a_t_bestHands := a_t_bestHands) (a_t_traces := a_t_traces) (t_manyActs := t_manyActs) (t_status := t_status) (t_tapeLong := t_tapeLong) (t_fault := t_fault) (t_tokenAt := t_tokenAt) (t_tokenLong := t_tokenLong) (t_token := t_token) (t_value := t_value) (t_winner := t_winner) (t_throwsOf := t_throwsOf) (t_handA := t_handA) (t_handB := t_handB) (t_fewestSo := t_fewestSo) (t_traced := t_traced) (t_now := t_now)) rfl ⟨rfl, rfl⟩ gX9_hands_X9_players hvX9_players 0 9 rfl rfl rfl ⟨Nat.le_of_ble_eq_true rfl, Nat.le_of_ble_eq_true rfl⟩ ⟨Nat.zero_le _, Nat.zero_le _⟩ rfl (Nat.le_of_ble_eq_true rfl) rfl (by decide) dX9_hands_1 hR (fun r1 hR => ?_)
  refine z_if_ne hC 10 dX9_hands_4 (by decide) hR (fun hR => ?_) (fun hR => ?_)
  · refine z_iload_n hC dX9_hands_10 rfl 1 rfl ?_
    refine z_callSi_p hC hN [.int l1] [] (c_X9_isRow (l := zl E) (D := zD E) (cI := cI) (cB := cB) (cZ := cZ) (N := N) (l0 := l1)) rfl ⟨rfl, rfl⟩ gX9_hands_X9_isRow hsX9_isRow ⟨Nat.le_of_ble_eq_true rfl, Nat.le_of_ble_eq_true rfl⟩ ⟨Nat.zero_le _, Nat.zero_le _⟩ rfl (Nat.le_of_ble_eq_true rfl) rfl (by decide) dX9_hands_11 hR (fun r11 hR => ?_)
    refine z_if_ne hC 20 dX9_hands_14 (by decide) hR (fun hR => ?_) (fun hR => ?_)
    · refine z_aload_n hC dX9_hands_20 rfl 0 rfl ?_
      refine z_get hC iX9_hands_X9 rfl 0 9 rfl (by decide) mX9_hands_3 rfl rfl dX9_hands_21 ?_
      refine z_iload_n hC dX9_hands_24 rfl 1 rfl ?_
      refine z_zald hC 4 2 rfl rfl dX9_hands_25 hR (fun hR => ?_)
      refine z_if_ne hC 35 dX9_hands_26 (by decide) hR (fun hR => ?_) (fun hR => ?_)
      · refine z_aload_n hC dX9_hands_35 rfl 0 rfl ?_
        refine z_get hC iX9_hands_X9 rfl 0 8 rfl (by decide) mX9_hands_4 rfl rfl dX9_hands_36 ?_
        refine z_iload_n hC dX9_hands_39 rfl 1 rfl ?_
        refine z_iald hC 3 0 rfl rfl dX9_hands_40 hR (fun hR => ?_)
        refine z_aload_n hC dX9_hands_41 rfl 0 rfl ?_
        refine z_callVi_p hC hN [] [0, 1] (c_X9_players (l := zl E) (D := zD E) (cI := cI) (cB := cB) (cZ := cZ) (N := N) (a_t := a_t) (a_t_now := a_t_now) (a_t_kept := a_t_kept) (a_t_isKept := a_t_isKept) (a_t_acts := a_t_acts) (a_t_was := a_t_was) (a_t_lanes := a_t_lanes) (a_t_longs := a_t_longs) (a_t_isThere := a_t_isThere) (a_t_items := a_t_items) (a_t_copied := a_t_copied) (a_t_tape := a_t_tape) (a_t_readSorts := a_t_readSorts) (a_t_readHands := a_t_readHands) (a_t_inTurn := a_t_inTurn) (a_t_ends := a_t_ends) (a_t_bestHands := a_t_bestHands) (a_t_traces := a_t_traces) (t_manyActs := t_manyActs) (t_status := t_status) (t_tapeLong := t_tapeLong) (t_fault := t_fault) (t_tokenAt := t_tokenAt) (t_tokenLong := t_tokenLong) (t_token := t_token) (t_value := t_value) (t_winner := t_winner) (t_throwsOf := t_throwsOf) (t_handA := t_handA) (t_handB := t_handB) (t_fewestSo := t_fewestSo) (t_traced := t_traced) (t_now := t_now)) rfl ⟨rfl, rfl⟩ gX9_hands_X9_players hvX9_players 0 9 rfl rfl rfl ⟨Nat.le_of_ble_eq_true rfl, Nat.le_of_ble_eq_true rfl⟩ ⟨Nat.zero_le _, Nat.zero_le _⟩ rfl (Nat.le_of_ble_eq_true rfl) rfl (by decide) dX9_hands_42 hR (fun r42 hR => ?_)
        refine z_icmp_ge hC 54 dX9_hands_45 (by decide) hR (fun hR => ?_) (fun hR => ?_)
        · refine z_ic1 hC dX9_hands_54 ?_
          refine z_istore_n hC [(2, .int 1), (0, .ref a_t), (1, .int l1)] dX9_hands_55 rfl (by decide) rfl ?_
          refine z_ic0 hC dX9_hands_56 ?_
          refine z_istore_n hC [(3, .int 0), (2, .int 1), (0, .ref a_t), (1, .int l1)] dX9_hands_57 rfl (by decide) rfl ?_
          refine z_sub (lv' := [(0, .ref a_t), (1, .int l1), (2, .int 1), (3, .int 0)]) [2, 3, 1, 0] rfl ?_
          exact z_X9_hands_58 hC hN (N := N) (a_t := a_t) (a_t_now := a_t_now) (a_t_acts := a_t_acts) (a_t_longs := a_t_longs) (a_t_isThere := a_t_isThere) (a_t_items := a_t_items) (a_t_kept := a_t_kept) (a_t_isKept := a_t_isKept) (a_t_was := a_t_was) (a_t_lanes := a_t_lanes) (a_t_copied := a_t_copied) (a_t_tape := a_t_tape) (a_t_readSorts := a_t_readSorts) (a_t_readHands := a_t_readHands) (a_t_inTurn := a_t_inTurn) (a_t_ends := a_t_ends) (a_t_bestHands := a_t_bestHands) (a_t_traces := a_t_traces) (t_manyActs := t_manyActs) (t_status := t_status) (t_tapeLong := t_tapeLong) (t_fault := t_fault) (t_tokenAt := t_tokenAt) (t_tokenLong := t_tokenLong) (t_token := t_token) (t_value := t_value) (t_winner := t_winner) (t_throwsOf := t_throwsOf) (t_handA := t_handA) (t_handB := t_handB) (t_fewestSo := t_fewestSo) (t_traced := t_traced) (t_now := t_now) (t_acts := t_acts) (t_longs := t_longs) (t_isThere := t_isThere) (t_items := t_items) (l1 := l1) hQ  N 1 0 hR
        · refine z_aload_n hC dX9_hands_48 rfl 0 rfl ?_
          refine z_ic2 hC dX9_hands_49 ?_
          refine z_callVi hC hN [.int 2] [0] (c_X9_found (l := zl E) (D := zD E) (cI := cI) (cB := cB) (cZ := cZ) (N := N) (a_t := a_t) (a_t_now := a_t_now) (a_t_kept := a_t_kept) (a_t_isKept := a_t_isKept) (a_t_acts := a_t_acts) (a_t_was := a_t_was) (a_t_lanes := a_t_lanes) (a_t_longs := a_t_longs) (a_t_isThere := a_t_isThere) (a_t_items := a_t_items) (a_t_copied := a_t_copied) (a_t_tape := a_t_tape) (a_t_readSorts := a_t_readSorts) (a_t_readHands := a_t_readHands) (a_t_inTurn := a_t_inTurn) (a_t_ends := a_t_ends) (a_t_bestHands := a_t_bestHands) (a_t_traces := a_t_traces) (l1 := 2) (t_manyActs := t_manyActs) (t_status := t_status) (t_tapeLong := t_tapeLong) (t_fault := t_fault) (t_tokenAt := t_tokenAt) (t_tokenLong := t_tokenLong) (t_token := t_token) (t_value := t_value) (t_winner := t_winner) (t_throwsOf := t_throwsOf) (t_handA := t_handA) (t_handB := t_handB) (t_fewestSo := t_fewestSo) (t_traced := t_traced)) rfl ⟨rfl, rfl⟩ gX9_hands_X9_found hvX9_found 0 9 rfl rfl rfl ⟨Nat.le_of_ble_eq_true rfl, Nat.le_of_ble_eq_true rfl⟩ ⟨Nat.zero_le _, Nat.zero_le _⟩ rfl (Nat.le_of_ble_eq_true rfl) rfl (by decide) (fun _ => rfl) dX9_hands_50 hR (fun r50 hR => ?_)
          refine z_eq [(a_t, .inr (9, [.ref a_t_now, .ref a_t_kept, .ref a_t_isKept, .ref a_t_acts, .int t_manyActs, .ref a_t_was, .int r50.2, .ref a_t_lanes, .ref a_t_longs, .ref a_t_isThere, .ref a_t_items, .ref a_t_copied, .ref a_t_tape, .int t_tapeLong, .int t_fault, .int t_tokenAt, .int t_tokenLong, .int t_token, .int t_value, .ref a_t_readSorts, .ref a_t_readHands, .int t_winner, .int t_throwsOf, .int t_handA, .int t_handB, .ref a_t_inTurn, .ref a_t_ends, .ref a_t_bestHands, .int t_fewestSo, .ref a_t_traces, .int t_traced])), (a_t_now, .inl (cI, 27, .inl t_now)), (a_t_acts, .inl (cI, 648, .inl t_acts)), (a_t_longs, .inl (cI, 8, .inl t_longs)), (a_t_isThere, .inl (cZ, 8, .inl t_isThere)), (a_t_items, .inl (cI, 320, .inl t_items))] rfl ?_
          obtain rfl := Option.some.inj hR
          exact z_iret hC hQ rfl rfl rfl dX9_hands_53
      · refine z_aload_n hC dX9_hands_29 rfl 0 rfl ?_
        refine z_ic1 hC dX9_hands_30 ?_
        refine z_callVi hC hN [.int 1] [0] (c_X9_found (l := zl E) (D := zD E) (cI := cI) (cB := cB) (cZ := cZ) (N := N) (a_t := a_t) (a_t_now := a_t_now) (a_t_kept := a_t_kept) (a_t_isKept := a_t_isKept) (a_t_acts := a_t_acts) (a_t_was := a_t_was) (a_t_lanes := a_t_lanes) (a_t_longs := a_t_longs) (a_t_isThere := a_t_isThere) (a_t_items := a_t_items) (a_t_copied := a_t_copied) (a_t_tape := a_t_tape) (a_t_readSorts := a_t_readSorts) (a_t_readHands := a_t_readHands) (a_t_inTurn := a_t_inTurn) (a_t_ends := a_t_ends) (a_t_bestHands := a_t_bestHands) (a_t_traces := a_t_traces) (l1 := 1) (t_manyActs := t_manyActs) (t_status := t_status) (t_tapeLong := t_tapeLong) (t_fault := t_fault) (t_tokenAt := t_tokenAt) (t_tokenLong := t_tokenLong) (t_token := t_token) (t_value := t_value) (t_winner := t_winner) (t_throwsOf := t_throwsOf) (t_handA := t_handA) (t_handB := t_handB) (t_fewestSo := t_fewestSo) (t_traced := t_traced)) rfl ⟨rfl, rfl⟩ gX9_hands_X9_found hvX9_found 0 9 rfl rfl rfl ⟨Nat.le_of_ble_eq_true rfl, Nat.le_of_ble_eq_true rfl⟩ ⟨Nat.zero_le _, Nat.zero_le _⟩ rfl (Nat.le_of_ble_eq_true rfl) rfl (by decide) (fun _ => rfl) dX9_hands_31 hR (fun r31 hR => ?_)
        refine z_eq [(a_t, .inr (9, [.ref a_t_now, .ref a_t_kept, .ref a_t_isKept, .ref a_t_acts, .int t_manyActs, .ref a_t_was, .int r31.2, .ref a_t_lanes, .ref a_t_longs, .ref a_t_isThere, .ref a_t_items, .ref a_t_copied, .ref a_t_tape, .int t_tapeLong, .int t_fault, .int t_tokenAt, .int t_tokenLong, .int t_token, .int t_value, .ref a_t_readSorts, .ref a_t_readHands, .int t_winner, .int t_throwsOf, .int t_handA, .int t_handB, .ref a_t_inTurn, .ref a_t_ends, .ref a_t_bestHands, .int t_fewestSo, .ref a_t_traces, .int t_traced])), (a_t_now, .inl (cI, 27, .inl t_now)), (a_t_acts, .inl (cI, 648, .inl t_acts)), (a_t_longs, .inl (cI, 8, .inl t_longs)), (a_t_isThere, .inl (cZ, 8, .inl t_isThere)), (a_t_items, .inl (cI, 320, .inl t_items))] rfl ?_
        obtain rfl := Option.some.inj hR
        exact z_iret hC hQ rfl rfl rfl dX9_hands_34
    · refine z_ldc hC (-1000001) mX9_hands_2 dX9_hands_17 ?_
      obtain rfl := Option.some.inj hR
      exact z_iret hC hQ rfl rfl rfl dX9_hands_19
  · refine z_ldc hC (-1000002) mX9_hands_1 dX9_hands_7 ?_
    obtain rfl := Option.some.inj hR
    exact z_iret hC hQ rfl rfl rfl dX9_hands_9
set_option maxHeartbeats 4000000 in
set_option maxRecDepth 100000 in
theorem c_X9_hands {sK sV : Nat → Nat} {l : Launch} {D : va_G} {cI cB cZ : ClassId} {N : Nat} {a_t : Nat} {a_t_now : Nat} {a_t_acts : Nat} {a_t_longs : Nat} {a_t_isThere : Nat} {a_t_items : Nat} {a_t_kept : Nat} {a_t_isKept : Nat} {a_t_was : Nat} {a_t_lanes : Nat} {a_t_copied : Nat} {a_t_tape : Nat} {a_t_readSorts : Nat} {a_t_readHands : Nat} {a_t_inTurn : Nat} {a_t_ends : Nat} {a_t_bestHands : Nat} {a_t_traces : Nat} {t_manyActs : Int32} {t_status : Int32} {t_tapeLong : Int32} {t_fault : Int32} {t_tokenAt : Int32} {t_tokenLong : Int32} {t_token : Int32} {t_value : Int32} {t_winner : Int32} {t_throwsOf : Int32} {t_handA : Int32} {t_handB : Int32} {t_fewestSo : Int32} {t_traced : Int32} {t_now : (Nat → Int32)} {t_acts : (Nat → Int32)} {t_longs : (Nat → Int32)} {t_isThere : (Nat → Int32)} {t_items : (Nat → Int32)} {l1 : Int32} : ∀ R : Int32 × Int32 × Int32 × (Nat → Int32) × (Nat → Int32), o_X9_hands N t_manyActs t_status t_now t_acts t_longs t_isThere t_items l1 = some R → ZMi sK sV l yX9_hands wsX9_hands rmX9_hands D (zty cI cB cZ) [.ref a_t, .int l1] [(a_t, .inr (9, [.ref a_t_now, .ref a_t_kept, .ref a_t_isKept, .ref a_t_acts, .int t_manyActs, .ref a_t_was, .int t_status, .ref a_t_lanes, .ref a_t_longs, .ref a_t_isThere, .ref a_t_items, .ref a_t_copied, .ref a_t_tape, .int t_tapeLong, .int t_fault, .int t_tokenAt, .int t_tokenLong, .int t_token, .int t_value, .ref a_t_readSorts, .ref a_t_readHands, .int t_winner, .int t_throwsOf, .int t_handA, .int t_handB, .ref a_t_inTurn, .ref a_t_ends, .ref a_t_bestHands, .int t_fewestSo, .ref a_t_traces, .int t_traced])), (a_t_now, .inl (cI, 27, .inl t_now)), (a_t_acts, .inl (cI, 648, .inl t_acts)), (a_t_longs, .inl (cI, 8, .inl t_longs)), (a_t_isThere, .inl (cZ, 8, .inl t_isThere)), (a_t_items, .inl (cI, 320, .inl t_items))] R.1 [(a_t, .inr (9, [.ref a_t_now, .ref a_t_kept, .ref a_t_isKept, .ref a_t_acts, .int R.2.1, .ref a_t_was, .int R.2.2.1, .ref a_t_lanes, .ref a_t_longs, .ref a_t_isThere, .ref a_t_items, .ref a_t_copied, .ref a_t_tape, .int t_tapeLong, .int t_fault, .int t_tokenAt, .int t_tokenLong, .int t_token, .int t_value, .ref a_t_readSorts, .ref a_t_readHands, .int t_winner, .int t_throwsOf, .int t_handA, .int t_handB, .ref a_t_inTurn, .ref a_t_ends, .ref a_t_bestHands, .int t_fewestSo, .ref a_t_traces, .int t_traced])), (a_t_now, .inl (cI, 27, .inl R.2.2.2.1)), (a_t_acts, .inl (cI, 648, .inl R.2.2.2.2)), (a_t_longs, .inl (cI, 8, .inl t_longs)), (a_t_isThere, .inl (cZ, 8, .inl t_isThere)), (a_t_items, .inl (cI, 320, .inl t_items))] := by
  intro R hR
  refine zi_of (cc := cX9_hands) (maxL := 5) (ret := (some .int)) (by decide) rfl (Nat.le_of_ble_eq_true rfl) (fun E hE1 hE2 hC hN hQ => ?_)
  subst hE1 hE2
  exact z_X9_hands_0 hC hN (N := N) (a_t := a_t) (a_t_now := a_t_now) (a_t_acts := a_t_acts) (a_t_longs := a_t_longs) (a_t_isThere := a_t_isThere) (a_t_items := a_t_items) (a_t_kept := a_t_kept) (a_t_isKept := a_t_isKept) (a_t_was := a_t_was) (a_t_lanes := a_t_lanes) (a_t_copied := a_t_copied) (a_t_tape := a_t_tape) (a_t_readSorts := a_t_readSorts) (a_t_readHands := a_t_readHands) (a_t_inTurn := a_t_inTurn) (a_t_ends := a_t_ends) (a_t_bestHands := a_t_bestHands) (a_t_traces := a_t_traces) (t_manyActs := t_manyActs) (t_status := t_status) (t_tapeLong := t_tapeLong) (t_fault := t_fault) (t_tokenAt := t_tokenAt) (t_tokenLong := t_tokenLong) (t_token := t_token) (t_value := t_value) (t_winner := t_winner) (t_throwsOf := t_throwsOf) (t_handA := t_handA) (t_handB := t_handB) (t_fewestSo := t_fewestSo) (t_traced := t_traced) (t_now := t_now) (t_acts := t_acts) (t_longs := t_longs) (t_isThere := t_isThere) (t_items := t_items) (l1 := l1) hQ hR

/-! FistTrainsModel.undo -/
abbrev rmX9_undo : Room := { frames := 0, cells := 0, slots := 0, locals := 0 }
set_option maxRecDepth 20000 in
theorem iX9_undo_X9 : ∀ w ∈ wsX90, w ∈ wsX9_undo := by decide +kernel
set_option maxRecDepth 20000 in
theorem mX9_undo_1 : Cond.fieldLink RX9 171 "FistTrainsModel" "manyActs" "I" ∈ wsX9_undo := List.mem_of_getElem? (i := 1) rfl
set_option maxRecDepth 20000 in
theorem mX9_undo_2 : Cond.constant RX9 213 (-1000002) ∈ wsX9_undo := List.mem_of_getElem? (i := 2) rfl
set_option maxRecDepth 20000 in
theorem mX9_undo_3 : Cond.fieldLink RX9 7 "FistTrainsModel" "now" "[I" ∈ wsX9_undo := List.mem_of_getElem? (i := 3) rfl
set_option maxRecDepth 20000 in
theorem mX9_undo_4 : Cond.fieldLink RX9 20 "FistTrainsModel" "acts" "[I" ∈ wsX9_undo := List.mem_of_getElem? (i := 4) rfl
def o_X9_undo_22 (N : Nat) (t_manyActs : Int32) (t_acts : (Nat → Int32)) : Nat → (Nat → Int32) → Int32 → Option (Int32 × Int32 × (Nat → Int32))
  | 0 => fun _ _ => none
  | n + 1 => fun t_now l1 => 
    if 27 ≤ l1 then
      some (t_manyActs, t_manyActs, t_now)
    else
      ogd (inb ((27 * t_manyActs) + l1) 648) (
      ogd (inb l1 27) (
      o_X9_undo_22 N t_manyActs t_acts n (upd t_now (Int32.toNatClampNeg l1) (t_acts (Int32.toNatClampNeg ((27 * t_manyActs) + l1)))) (l1 + 1)))
def o_X9_undo (N : Nat) (t_manyActs : Int32) (t_now : (Nat → Int32)) (t_acts : (Nat → Int32)) : Option (Int32 × Int32 × (Nat → Int32)) :=
  if t_manyActs = 0 then
    some ((-1000002), t_manyActs, t_now)
  else
    o_X9_undo_22 N (t_manyActs - 1) t_acts N t_now 0
set_option maxHeartbeats 4000000 in
set_option maxRecDepth 100000 in
theorem z_X9_undo_22 {sK sV : Nat → Nat} {E : ZE} {cI cB cZ : ClassId} (hC : ZC E 2 cX9_undo wsX9_undo RX9 rmX9_undo (some .int) (zty cI cB cZ)) (hN : ZN sK sV (zA E) (zs E)) {N : Nat} {a_t : Nat} {a_t_now : Nat} {a_t_acts : Nat} {a_t_kept : Nat} {a_t_isKept : Nat} {a_t_was : Nat} {a_t_lanes : Nat} {a_t_longs : Nat} {a_t_isThere : Nat} {a_t_items : Nat} {a_t_copied : Nat} {a_t_tape : Nat} {a_t_readSorts : Nat} {a_t_readHands : Nat} {a_t_inTurn : Nat} {a_t_ends : Nat} {a_t_bestHands : Nat} {a_t_traces : Nat} {t_manyActs : Int32} {t_status : Int32} {t_tapeLong : Int32} {t_fault : Int32} {t_tokenAt : Int32} {t_tokenLong : Int32} {t_token : Int32} {t_value : Int32} {t_winner : Int32} {t_throwsOf : Int32} {t_handA : Int32} {t_handB : Int32} {t_fewestSo : Int32} {t_traced : Int32} {t_acts : (Nat → Int32)} {rf : Int32 × Int32 × (Nat → Int32)} (hQ : ZQi E (zty cI cB cZ) rf.1 [(a_t, .inr (9, [.ref a_t_now, .ref a_t_kept, .ref a_t_isKept, .ref a_t_acts, .int rf.2.1, .ref a_t_was, .int t_status, .ref a_t_lanes, .ref a_t_longs, .ref a_t_isThere, .ref a_t_items, .ref a_t_copied, .ref a_t_tape, .int t_tapeLong, .int t_fault, .int t_tokenAt, .int t_tokenLong, .int t_token, .int t_value, .ref a_t_readSorts, .ref a_t_readHands, .int t_winner, .int t_throwsOf, .int t_handA, .int t_handB, .ref a_t_inTurn, .ref a_t_ends, .ref a_t_bestHands, .int t_fewestSo, .ref a_t_traces, .int t_traced])), (a_t_now, .inl (cI, 27, .inl rf.2.2)), (a_t_acts, .inl (cI, 648, .inl t_acts))]) : ∀ (n : Nat) (t_now : (Nat → Int32)) (l1 : Int32), o_X9_undo_22 N t_manyActs t_acts n t_now l1 = some rf → Z E (0, 0) [(0, .ref a_t), (1, .int l1)] 22 [] [(a_t, .inr (9, [.ref a_t_now, .ref a_t_kept, .ref a_t_isKept, .ref a_t_acts, .int t_manyActs, .ref a_t_was, .int t_status, .ref a_t_lanes, .ref a_t_longs, .ref a_t_isThere, .ref a_t_items, .ref a_t_copied, .ref a_t_tape, .int t_tapeLong, .int t_fault, .int t_tokenAt, .int t_tokenLong, .int t_token, .int t_value, .ref a_t_readSorts, .ref a_t_readHands, .int t_winner, .int t_throwsOf, .int t_handA, .int t_handB, .ref a_t_inTurn, .ref a_t_ends, .ref a_t_bestHands, .int t_fewestSo, .ref a_t_traces, .int t_traced])), (a_t_now, .inl (cI, 27, .inl t_now)), (a_t_acts, .inl (cI, 648, .inl t_acts))] := by
  intro n
  induction n with
  | zero =>
    intro t_now l1 hR
    cases hR
  | succ n ih =>
    intro t_now l1 hR
    rw [o_X9_undo_22] at hR
    refine z_iload_n hC dX9_undo_22 rfl 1 rfl ?_
    refine z_bipush (v := 27) hC dX9_undo_23 (by decide) ?_
    refine z_icmp_ge hC 54 dX9_undo_25 (by decide) hR (fun hR => ?_) (fun hR => ?_)
    · refine z_aload_n hC dX9_undo_54 rfl 0 rfl ?_
      refine z_get hC iX9_undo_X9 rfl 0 4 rfl (by decide) mX9_undo_1 rfl rfl dX9_undo_55 ?_
      obtain rfl := Option.some.inj hR
      exact z_iret hC hQ rfl rfl rfl dX9_undo_58
    · refine z_aload_n hC dX9_undo_28 rfl 0 rfl ?_
      refine z_get hC iX9_undo_X9 rfl 0 0 rfl (by decide) mX9_undo_3 rfl rfl dX9_undo_29 ?_
      refine z_iload_n hC dX9_undo_32 rfl 1 rfl ?_
      refine z_aload_n hC dX9_undo_33 rfl 0 rfl ?_
      refine z_get hC iX9_undo_X9 rfl 0 3 rfl (by decide) mX9_undo_4 rfl rfl dX9_undo_34 ?_
      refine z_bipush (v := 27) hC dX9_undo_37 (by decide) ?_
      refine z_aload_n hC dX9_undo_39 rfl 0 rfl ?_
      refine z_get hC iX9_undo_X9 rfl 0 4 rfl (by decide) mX9_undo_1 rfl rfl dX9_undo_40 ?_
      refine z_imul hC dX9_undo_43 ?_
      refine z_iload_n hC dX9_undo_44 rfl 1 rfl ?_
      refine z_iadd hC dX9_undo_45 ?_
      refine z_iald hC 2 0 rfl rfl dX9_undo_46 hR (fun hR => ?_)
      refine z_iast hC 1 0 rfl rfl dX9_undo_47 hR (fun hR => ?_)
      refine z_iinc1 hC [(1, .int (l1 + 1)), (0, .ref a_t)] dX9_undo_48 1 rfl (by decide) rfl ?_
      refine z_goto hC 22 dX9_undo_51 (by decide) ?_
      refine z_sub (lv' := [(0, .ref a_t), (1, .int (l1 + 1))]) [1, 0] rfl ?_
      exact ih (upd t_now (Int32.toNatClampNeg l1) (t_acts (Int32.toNatClampNeg ((27 * t_manyActs) + l1)))) (l1 + 1) hR
set_option maxHeartbeats 4000000 in
set_option maxRecDepth 100000 in
theorem z_X9_undo_0 {sK sV : Nat → Nat} {E : ZE} {cI cB cZ : ClassId} (hC : ZC E 2 cX9_undo wsX9_undo RX9 rmX9_undo (some .int) (zty cI cB cZ)) (hN : ZN sK sV (zA E) (zs E)) {N : Nat} {a_t : Nat} {a_t_now : Nat} {a_t_acts : Nat} {a_t_kept : Nat} {a_t_isKept : Nat} {a_t_was : Nat} {a_t_lanes : Nat} {a_t_longs : Nat} {a_t_isThere : Nat} {a_t_items : Nat} {a_t_copied : Nat} {a_t_tape : Nat} {a_t_readSorts : Nat} {a_t_readHands : Nat} {a_t_inTurn : Nat} {a_t_ends : Nat} {a_t_bestHands : Nat} {a_t_traces : Nat} {t_manyActs : Int32} {t_status : Int32} {t_tapeLong : Int32} {t_fault : Int32} {t_tokenAt : Int32} {t_tokenLong : Int32} {t_token : Int32} {t_value : Int32} {t_winner : Int32} {t_throwsOf : Int32} {t_handA : Int32} {t_handB : Int32} {t_fewestSo : Int32} {t_traced : Int32} {t_now : (Nat → Int32)} {t_acts : (Nat → Int32)} {rf : Int32 × Int32 × (Nat → Int32)} (hQ : ZQi E (zty cI cB cZ) rf.1 [(a_t, .inr (9, [.ref a_t_now, .ref a_t_kept, .ref a_t_isKept, .ref a_t_acts, .int rf.2.1, .ref a_t_was, .int t_status, .ref a_t_lanes, .ref a_t_longs, .ref a_t_isThere, .ref a_t_items, .ref a_t_copied, .ref a_t_tape, .int t_tapeLong, .int t_fault, .int t_tokenAt, .int t_tokenLong, .int t_token, .int t_value, .ref a_t_readSorts, .ref a_t_readHands, .int t_winner, .int t_throwsOf, .int t_handA, .int t_handB, .ref a_t_inTurn, .ref a_t_ends, .ref a_t_bestHands, .int t_fewestSo, .ref a_t_traces, .int t_traced])), (a_t_now, .inl (cI, 27, .inl rf.2.2)), (a_t_acts, .inl (cI, 648, .inl t_acts))]) (hR : o_X9_undo N t_manyActs t_now t_acts = some rf) : Z E (0, 0) [(0, .ref a_t)] 0 [] [(a_t, .inr (9, [.ref a_t_now, .ref a_t_kept, .ref a_t_isKept, .ref a_t_acts, .int t_manyActs, .ref a_t_was, .int t_status, .ref a_t_lanes, .ref a_t_longs, .ref a_t_isThere, .ref a_t_items, .ref a_t_copied, .ref a_t_tape, .int t_tapeLong, .int t_fault, .int t_tokenAt, .int t_tokenLong, .int t_token, .int t_value, .ref a_t_readSorts, .ref a_t_readHands, .int t_winner, .int t_throwsOf, .int t_handA, .int t_handB, .ref a_t_inTurn, .ref a_t_ends, .ref a_t_bestHands, .int t_fewestSo, .ref a_t_traces, .int t_traced])), (a_t_now, .inl (cI, 27, .inl t_now)), (a_t_acts, .inl (cI, 648, .inl t_acts))] := by
  rw [o_X9_undo] at hR
  refine z_aload_n hC dX9_undo_0 rfl 0 rfl ?_
  refine z_get hC iX9_undo_X9 rfl 0 4 rfl (by decide) mX9_undo_1 rfl rfl dX9_undo_1 ?_
  refine z_if_ne hC 10 dX9_undo_4 (by decide) hR (fun hR => ?_) (fun hR => ?_)
  · refine z_aload_n hC dX9_undo_10 rfl 0 rfl ?_
    refine z_dup hC dX9_undo_11 rfl ?_
    refine z_get hC iX9_undo_X9 rfl 0 4 rfl (by decide) mX9_undo_1 rfl rfl dX9_undo_12 ?_
    refine z_ic1 hC dX9_undo_15 ?_
    refine z_isub hC dX9_undo_16 ?_
    refine z_put hC iX9_undo_X9 tyX9_ok nmX9 rfl 0 4 rfl (by decide) mX9_undo_1 rfl rfl rfl rfl (Nat.le_of_ble_eq_true rfl) dX9_undo_17 ?_
    refine z_ic0 hC dX9_undo_20 ?_
    refine z_istore_n hC [(1, .int 0), (0, .ref a_t)] dX9_undo_21 rfl (by decide) rfl ?_
    refine z_sub (lv' := [(0, .ref a_t), (1, .int 0)]) [1, 0] rfl ?_
    exact z_X9_undo_22 hC hN (N := N) (a_t := a_t) (a_t_now := a_t_now) (a_t_acts := a_t_acts) (a_t_kept := a_t_kept) (a_t_isKept := a_t_isKept) (a_t_was := a_t_was) (a_t_lanes := a_t_lanes) (a_t_longs := a_t_longs) (a_t_isThere := a_t_isThere) (a_t_items := a_t_items) (a_t_copied := a_t_copied) (a_t_tape := a_t_tape) (a_t_readSorts := a_t_readSorts) (a_t_readHands := a_t_readHands) (a_t_inTurn := a_t_inTurn) (a_t_ends := a_t_ends) (a_t_bestHands := a_t_bestHands) (a_t_traces := a_t_traces) (t_manyActs := (t_manyActs - 1)) (t_status := t_status) (t_tapeLong := t_tapeLong) (t_fault := t_fault) (t_tokenAt := t_tokenAt) (t_tokenLong := t_tokenLong) (t_token := t_token) (t_value := t_value) (t_winner := t_winner) (t_throwsOf := t_throwsOf) (t_handA := t_handA) (t_handB := t_handB) (t_fewestSo := t_fewestSo) (t_traced := t_traced) (t_acts := t_acts) hQ  N t_now 0 hR
  · refine z_ldc hC (-1000002) mX9_undo_2 dX9_undo_7 ?_
    obtain rfl := Option.some.inj hR
    exact z_iret hC hQ rfl rfl rfl dX9_undo_9
set_option maxHeartbeats 4000000 in
set_option maxRecDepth 100000 in
theorem c_X9_undo {sK sV : Nat → Nat} {l : Launch} {D : va_G} {cI cB cZ : ClassId} {N : Nat} {a_t : Nat} {a_t_now : Nat} {a_t_acts : Nat} {a_t_kept : Nat} {a_t_isKept : Nat} {a_t_was : Nat} {a_t_lanes : Nat} {a_t_longs : Nat} {a_t_isThere : Nat} {a_t_items : Nat} {a_t_copied : Nat} {a_t_tape : Nat} {a_t_readSorts : Nat} {a_t_readHands : Nat} {a_t_inTurn : Nat} {a_t_ends : Nat} {a_t_bestHands : Nat} {a_t_traces : Nat} {t_manyActs : Int32} {t_status : Int32} {t_tapeLong : Int32} {t_fault : Int32} {t_tokenAt : Int32} {t_tokenLong : Int32} {t_token : Int32} {t_value : Int32} {t_winner : Int32} {t_throwsOf : Int32} {t_handA : Int32} {t_handB : Int32} {t_fewestSo : Int32} {t_traced : Int32} {t_now : (Nat → Int32)} {t_acts : (Nat → Int32)} : ∀ R : Int32 × Int32 × (Nat → Int32), o_X9_undo N t_manyActs t_now t_acts = some R → ZMi sK sV l yX9_undo wsX9_undo rmX9_undo D (zty cI cB cZ) [.ref a_t] [(a_t, .inr (9, [.ref a_t_now, .ref a_t_kept, .ref a_t_isKept, .ref a_t_acts, .int t_manyActs, .ref a_t_was, .int t_status, .ref a_t_lanes, .ref a_t_longs, .ref a_t_isThere, .ref a_t_items, .ref a_t_copied, .ref a_t_tape, .int t_tapeLong, .int t_fault, .int t_tokenAt, .int t_tokenLong, .int t_token, .int t_value, .ref a_t_readSorts, .ref a_t_readHands, .int t_winner, .int t_throwsOf, .int t_handA, .int t_handB, .ref a_t_inTurn, .ref a_t_ends, .ref a_t_bestHands, .int t_fewestSo, .ref a_t_traces, .int t_traced])), (a_t_now, .inl (cI, 27, .inl t_now)), (a_t_acts, .inl (cI, 648, .inl t_acts))] R.1 [(a_t, .inr (9, [.ref a_t_now, .ref a_t_kept, .ref a_t_isKept, .ref a_t_acts, .int R.2.1, .ref a_t_was, .int t_status, .ref a_t_lanes, .ref a_t_longs, .ref a_t_isThere, .ref a_t_items, .ref a_t_copied, .ref a_t_tape, .int t_tapeLong, .int t_fault, .int t_tokenAt, .int t_tokenLong, .int t_token, .int t_value, .ref a_t_readSorts, .ref a_t_readHands, .int t_winner, .int t_throwsOf, .int t_handA, .int t_handB, .ref a_t_inTurn, .ref a_t_ends, .ref a_t_bestHands, .int t_fewestSo, .ref a_t_traces, .int t_traced])), (a_t_now, .inl (cI, 27, .inl R.2.2)), (a_t_acts, .inl (cI, 648, .inl t_acts))] := by
  intro R hR
  refine zi_of (cc := cX9_undo) (maxL := 2) (ret := (some .int)) (by decide) rfl (Nat.le_of_ble_eq_true rfl) (fun E hE1 hE2 hC hN hQ => ?_)
  subst hE1 hE2
  exact z_X9_undo_0 hC hN (N := N) (a_t := a_t) (a_t_now := a_t_now) (a_t_acts := a_t_acts) (a_t_kept := a_t_kept) (a_t_isKept := a_t_isKept) (a_t_was := a_t_was) (a_t_lanes := a_t_lanes) (a_t_longs := a_t_longs) (a_t_isThere := a_t_isThere) (a_t_items := a_t_items) (a_t_copied := a_t_copied) (a_t_tape := a_t_tape) (a_t_readSorts := a_t_readSorts) (a_t_readHands := a_t_readHands) (a_t_inTurn := a_t_inTurn) (a_t_ends := a_t_ends) (a_t_bestHands := a_t_bestHands) (a_t_traces := a_t_traces) (t_manyActs := t_manyActs) (t_status := t_status) (t_tapeLong := t_tapeLong) (t_fault := t_fault) (t_tokenAt := t_tokenAt) (t_tokenLong := t_tokenLong) (t_token := t_token) (t_value := t_value) (t_winner := t_winner) (t_throwsOf := t_throwsOf) (t_handA := t_handA) (t_handB := t_handB) (t_fewestSo := t_fewestSo) (t_traced := t_traced) (t_now := t_now) (t_acts := t_acts) hQ hR

/-! FistTrainsModel.player -/
abbrev rmX9_player : Room := { frames := 2, cells := 0, slots := 0, locals := 46 }
set_option maxRecDepth 20000 in
theorem mX9_player_2 : Cond.constant RX9 79 (-1000001) ∈ wsX9_player := List.mem_of_getElem? (i := 2) rfl
set_option maxRecDepth 20000 in
theorem mX9_player_1 : Cond.constantLong RX9 77 (2) ∈ wsX9_player := List.mem_of_getElem? (i := 1) rfl
set_option maxRecDepth 20000 in
theorem iX9_player_X9 : ∀ w ∈ wsX90, w ∈ wsX9_player := by decide +kernel
set_option maxRecDepth 20000 in
theorem mX9_player_3 : Cond.fieldLink RX9 7 "FistTrainsModel" "now" "[I" ∈ wsX9_player := List.mem_of_getElem? (i := 3) rfl
def o_X9_player (N : Nat) (t_now : (Nat → Int32)) (l1 : Int32) (l2 : Int32) : Option (Int32) :=
  Option.bind (o_X9_isPlayer N t_now l1) (fun r2 =>
  if r2 = 0 then
    some ((-1000001))
  else
    Option.bind (o_X9_in N (Int32.toInt64 l2) 0 2) (fun r14 =>
    if r14 = 0 then
      some ((-1000001))
    else
      ogd (inb (17 + l1) 27) (
      if l2 = 0 then
        ogd (inb (9 + l1) 27) (
        some ((t_now (Int32.toNatClampNeg (9 + l1)))))
      else
        if l2 = 1 then
          some ((t_now (Int32.toNatClampNeg (17 + l1))))
        else
          Option.bind (o_X9_sizeOf N t_now (t_now (Int32.toNatClampNeg (17 + l1)))) (fun r60 =>
          some (r60)))))
set_option maxHeartbeats 4000000 in
set_option maxRecDepth 100000 in
theorem z_X9_player_0 {sK sV : Nat → Nat} {E : ZE} {cI cB cZ : ClassId} (hC : ZC E 4 cX9_player wsX9_player RX9 rmX9_player (some .int) (zty cI cB cZ)) (hN : ZN sK sV (zA E) (zs E)) {N : Nat} {a_t : Nat} {a_t_now : Nat} {a_t_kept : Nat} {a_t_isKept : Nat} {a_t_acts : Nat} {a_t_was : Nat} {a_t_lanes : Nat} {a_t_longs : Nat} {a_t_isThere : Nat} {a_t_items : Nat} {a_t_copied : Nat} {a_t_tape : Nat} {a_t_readSorts : Nat} {a_t_readHands : Nat} {a_t_inTurn : Nat} {a_t_ends : Nat} {a_t_bestHands : Nat} {a_t_traces : Nat} {t_manyActs : Int32} {t_status : Int32} {t_tapeLong : Int32} {t_fault : Int32} {t_tokenAt : Int32} {t_tokenLong : Int32} {t_token : Int32} {t_value : Int32} {t_winner : Int32} {t_throwsOf : Int32} {t_handA : Int32} {t_handB : Int32} {t_fewestSo : Int32} {t_traced : Int32} {t_now : (Nat → Int32)} {l1 : Int32} {l2 : Int32} {rf : Int32} (hQ : ZQi E (zty cI cB cZ) rf [(a_t, .inr (9, [.ref a_t_now, .ref a_t_kept, .ref a_t_isKept, .ref a_t_acts, .int t_manyActs, .ref a_t_was, .int t_status, .ref a_t_lanes, .ref a_t_longs, .ref a_t_isThere, .ref a_t_items, .ref a_t_copied, .ref a_t_tape, .int t_tapeLong, .int t_fault, .int t_tokenAt, .int t_tokenLong, .int t_token, .int t_value, .ref a_t_readSorts, .ref a_t_readHands, .int t_winner, .int t_throwsOf, .int t_handA, .int t_handB, .ref a_t_inTurn, .ref a_t_ends, .ref a_t_bestHands, .int t_fewestSo, .ref a_t_traces, .int t_traced])), (a_t_now, .inl (cI, 27, .inl t_now))]) (hR : o_X9_player N t_now l1 l2 = some rf) : Z E (0, 0) [(0, .ref a_t), (1, .int l1), (2, .int l2)] 0 [] [(a_t, .inr (9, [.ref a_t_now, .ref a_t_kept, .ref a_t_isKept, .ref a_t_acts, .int t_manyActs, .ref a_t_was, .int t_status, .ref a_t_lanes, .ref a_t_longs, .ref a_t_isThere, .ref a_t_items, .ref a_t_copied, .ref a_t_tape, .int t_tapeLong, .int t_fault, .int t_tokenAt, .int t_tokenLong, .int t_token, .int t_value, .ref a_t_readSorts, .ref a_t_readHands, .int t_winner, .int t_throwsOf, .int t_handA, .int t_handB, .ref a_t_inTurn, .ref a_t_ends, .ref a_t_bestHands, .int t_fewestSo, .ref a_t_traces, .int t_traced])), (a_t_now, .inl (cI, 27, .inl t_now))] := by
  rw [o_X9_player] at hR
  refine z_aload_n hC dX9_player_0 rfl 0 rfl ?_
  refine z_iload_n hC dX9_player_1 rfl 1 rfl ?_
  refine z_callVi_p hC hN [.int l1] [0, 1] (c_X9_isPlayer (l := zl E) (D := zD E) (cI := cI) (cB := cB) (cZ := cZ) (N := N) (a_t := a_t) (a_t_now := a_t_now) (a_t_kept := a_t_kept) (a_t_isKept := a_t_isKept) (a_t_acts := a_t_acts) (a_t_was := a_t_was) (a_t_lanes := a_t_lanes) (a_t_longs := a_t_longs) (a_t_isThere := a_t_isThere) (a_t_items := a_t_items) (a_t_copied := a_t_copied) (a_t_tape := a_t_tape) (a_t_readSorts := a_t_readSorts) (a_t_readHands := a_t_readHands) (a_t_inTurn := a_t_inTurn) (a_t_ends := a_t_ends) (a_t_bestHands := a_t_bestHands) (a_t_traces := a_t_traces) (l1 := l1) (t_manyActs := t_manyActs) (t_status := t_status) (t_tapeLong := t_tapeLong) (t_fault := t_fault) (t_tokenAt := t_tokenAt) (t_tokenLong := t_tokenLong) (t_token := t_token) (t_value := t_value) (t_winner := t_winner) (t_throwsOf := t_throwsOf) (t_handA := t_handA) (t_handB := t_handB) (t_fewestSo := t_fewestSo) (t_traced := t_traced) (t_now := t_now)) rfl ⟨rfl, rfl⟩ gX9_player_X9_isPlayer hvX9_isPlayer 0 9 rfl rfl rfl ⟨Nat.le_of_ble_eq_true rfl, Nat.le_of_ble_eq_true rfl⟩ ⟨Nat.zero_le _, Nat.zero_le _⟩ rfl (Nat.le_of_ble_eq_true rfl) rfl (by decide) dX9_player_2 hR (fun r2 hR => ?_)
  refine z_if_eq hC 20 dX9_player_5 (by decide) hR (fun hR => ?_) (fun hR => ?_)
  · refine z_ldc hC (-1000001) mX9_player_2 dX9_player_20 ?_
    obtain rfl := Option.some.inj hR
    exact z_iret hC hQ rfl rfl rfl dX9_player_22
  · refine z_iload_n hC dX9_player_8 rfl 2 rfl ?_
    refine z_i2l hC dX9_player_9 ?_
    refine z_lconst (v := 0) hC dX9_player_10 rfl ?_
    refine z_ldc2 hC 2 mX9_player_1 dX9_player_11 ?_
    refine z_callSi_p hC hN [.long (Int32.toInt64 l2), .long 0, .long 2] [] (c_X9_in (l := zl E) (D := zD E) (cI := cI) (cB := cB) (cZ := cZ) (N := N) (L0 := (Int32.toInt64 l2)) (L2 := 0) (L4 := 2)) rfl ⟨rfl, rfl⟩ gX9_player_X9_in hsX9_in ⟨Nat.le_of_ble_eq_true rfl, Nat.le_of_ble_eq_true rfl⟩ ⟨Nat.zero_le _, Nat.zero_le _⟩ rfl (Nat.le_of_ble_eq_true rfl) rfl (by decide) dX9_player_14 hR (fun r14 hR => ?_)
    refine z_if_ne hC 23 dX9_player_17 (by decide) hR (fun hR => ?_) (fun hR => ?_)
    · refine z_aload_n hC dX9_player_23 rfl 0 rfl ?_
      refine z_get hC iX9_player_X9 rfl 0 0 rfl (by decide) mX9_player_3 rfl rfl dX9_player_24 ?_
      refine z_bipush (v := 17) hC dX9_player_27 (by decide) ?_
      refine z_iload_n hC dX9_player_29 rfl 1 rfl ?_
      refine z_iadd hC dX9_player_30 ?_
      refine z_iald hC 1 0 rfl rfl dX9_player_31 hR (fun hR => ?_)
      refine z_istore_n hC [(3, .int (t_now (Int32.toNatClampNeg (17 + l1)))), (0, .ref a_t), (1, .int l1), (2, .int l2)] dX9_player_32 rfl (by decide) rfl ?_
      refine z_iload_n hC dX9_player_33 rfl 3 rfl ?_
      refine z_if_ne hC 49 dX9_player_34 (by decide) hR (fun hR => ?_) (fun hR => ?_)
      · refine z_iload_n hC dX9_player_49 rfl 3 rfl ?_
        refine z_ic1 hC dX9_player_50 ?_
        refine z_icmp_ne hC 58 dX9_player_51 (by decide) hR (fun hR => ?_) (fun hR => ?_)
        · refine z_aload_n hC dX9_player_58 rfl 1 rfl ?_
          refine z_iload_n hC dX9_player_59 rfl 0 rfl ?_
          refine z_callVi_p hC hN [.int (t_now (Int32.toNatClampNeg (17 + l1)))] [0, 1] (c_X9_sizeOf (l := zl E) (D := zD E) (cI := cI) (cB := cB) (cZ := cZ) (N := N) (a_t := a_t) (a_t_now := a_t_now) (a_t_kept := a_t_kept) (a_t_isKept := a_t_isKept) (a_t_acts := a_t_acts) (a_t_was := a_t_was) (a_t_lanes := a_t_lanes) (a_t_longs := a_t_longs) (a_t_isThere := a_t_isThere) (a_t_items := a_t_items) (a_t_copied := a_t_copied) (a_t_tape := a_t_tape) (a_t_readSorts := a_t_readSorts) (a_t_readHands := a_t_readHands) (a_t_inTurn := a_t_inTurn) (a_t_ends := a_t_ends) (a_t_bestHands := a_t_bestHands) (a_t_traces := a_t_traces) (l1 := (t_now (Int32.toNatClampNeg (17 + l1)))) (t_manyActs := t_manyActs) (t_status := t_status) (t_tapeLong := t_tapeLong) (t_fault := t_fault) (t_tokenAt := t_tokenAt) (t_tokenLong := t_tokenLong) (t_token := t_token) (t_value := t_value) (t_winner := t_winner) (t_throwsOf := t_throwsOf) (t_handA := t_handA) (t_handB := t_handB) (t_fewestSo := t_fewestSo) (t_traced := t_traced) (t_now := t_now)) rfl ⟨rfl, rfl⟩ gX9_player_X9_sizeOf hvX9_sizeOf 0 9 rfl rfl rfl ⟨Nat.le_of_ble_eq_true rfl, Nat.le_of_ble_eq_true rfl⟩ ⟨Nat.zero_le _, Nat.zero_le _⟩ rfl (Nat.le_of_ble_eq_true rfl) rfl (by decide) dX9_player_60 hR (fun r60 hR => ?_)
          obtain rfl := Option.some.inj hR
          exact z_iret hC hQ rfl rfl rfl dX9_player_63
        · refine z_iload_n hC dX9_player_54 rfl 0 rfl ?_
          refine z_goto hC 63 dX9_player_55 (by decide) ?_
          obtain rfl := Option.some.inj hR
          exact z_iret hC hQ rfl rfl rfl dX9_player_63
      · refine z_aload_n hC dX9_player_37 rfl 1 rfl ?_
        refine z_get hC iX9_player_X9 rfl 0 0 rfl (by decide) mX9_player_3 rfl rfl dX9_player_38 ?_
        refine z_bipush (v := 9) hC dX9_player_41 (by decide) ?_
        refine z_iload_n hC dX9_player_43 rfl 2 rfl ?_
        refine z_iadd hC dX9_player_44 ?_
        refine z_iald hC 1 0 rfl rfl dX9_player_45 hR (fun hR => ?_)
        refine z_goto hC 63 dX9_player_46 (by decide) ?_
        obtain rfl := Option.some.inj hR
        exact z_iret hC hQ rfl rfl rfl dX9_player_63
    · refine z_ldc hC (-1000001) mX9_player_2 dX9_player_20 ?_
      obtain rfl := Option.some.inj hR
      exact z_iret hC hQ rfl rfl rfl dX9_player_22
set_option maxHeartbeats 4000000 in
set_option maxRecDepth 100000 in
theorem c_X9_player {sK sV : Nat → Nat} {l : Launch} {D : va_G} {cI cB cZ : ClassId} {N : Nat} {a_t : Nat} {a_t_now : Nat} {a_t_kept : Nat} {a_t_isKept : Nat} {a_t_acts : Nat} {a_t_was : Nat} {a_t_lanes : Nat} {a_t_longs : Nat} {a_t_isThere : Nat} {a_t_items : Nat} {a_t_copied : Nat} {a_t_tape : Nat} {a_t_readSorts : Nat} {a_t_readHands : Nat} {a_t_inTurn : Nat} {a_t_ends : Nat} {a_t_bestHands : Nat} {a_t_traces : Nat} {t_manyActs : Int32} {t_status : Int32} {t_tapeLong : Int32} {t_fault : Int32} {t_tokenAt : Int32} {t_tokenLong : Int32} {t_token : Int32} {t_value : Int32} {t_winner : Int32} {t_throwsOf : Int32} {t_handA : Int32} {t_handB : Int32} {t_fewestSo : Int32} {t_traced : Int32} {t_now : (Nat → Int32)} {l1 : Int32} {l2 : Int32} : ∀ R : Int32, o_X9_player N t_now l1 l2 = some R → ZMi sK sV l yX9_player wsX9_player rmX9_player D (zty cI cB cZ) [.ref a_t, .int l1, .int l2] [(a_t, .inr (9, [.ref a_t_now, .ref a_t_kept, .ref a_t_isKept, .ref a_t_acts, .int t_manyActs, .ref a_t_was, .int t_status, .ref a_t_lanes, .ref a_t_longs, .ref a_t_isThere, .ref a_t_items, .ref a_t_copied, .ref a_t_tape, .int t_tapeLong, .int t_fault, .int t_tokenAt, .int t_tokenLong, .int t_token, .int t_value, .ref a_t_readSorts, .ref a_t_readHands, .int t_winner, .int t_throwsOf, .int t_handA, .int t_handB, .ref a_t_inTurn, .ref a_t_ends, .ref a_t_bestHands, .int t_fewestSo, .ref a_t_traces, .int t_traced])), (a_t_now, .inl (cI, 27, .inl t_now))] R [(a_t, .inr (9, [.ref a_t_now, .ref a_t_kept, .ref a_t_isKept, .ref a_t_acts, .int t_manyActs, .ref a_t_was, .int t_status, .ref a_t_lanes, .ref a_t_longs, .ref a_t_isThere, .ref a_t_items, .ref a_t_copied, .ref a_t_tape, .int t_tapeLong, .int t_fault, .int t_tokenAt, .int t_tokenLong, .int t_token, .int t_value, .ref a_t_readSorts, .ref a_t_readHands, .int t_winner, .int t_throwsOf, .int t_handA, .int t_handB, .ref a_t_inTurn, .ref a_t_ends, .ref a_t_bestHands, .int t_fewestSo, .ref a_t_traces, .int t_traced])), (a_t_now, .inl (cI, 27, .inl t_now))] := by
  intro R hR
  refine zi_of (cc := cX9_player) (maxL := 4) (ret := (some .int)) (by decide) rfl (Nat.le_of_ble_eq_true rfl) (fun E hE1 hE2 hC hN hQ => ?_)
  subst hE1 hE2
  exact z_X9_player_0 hC hN (N := N) (a_t := a_t) (a_t_now := a_t_now) (a_t_kept := a_t_kept) (a_t_isKept := a_t_isKept) (a_t_acts := a_t_acts) (a_t_was := a_t_was) (a_t_lanes := a_t_lanes) (a_t_longs := a_t_longs) (a_t_isThere := a_t_isThere) (a_t_items := a_t_items) (a_t_copied := a_t_copied) (a_t_tape := a_t_tape) (a_t_readSorts := a_t_readSorts) (a_t_readHands := a_t_readHands) (a_t_inTurn := a_t_inTurn) (a_t_ends := a_t_ends) (a_t_bestHands := a_t_bestHands) (a_t_traces := a_t_traces) (t_manyActs := t_manyActs) (t_status := t_status) (t_tapeLong := t_tapeLong) (t_fault := t_fault) (t_tokenAt := t_tokenAt) (t_tokenLong := t_tokenLong) (t_token := t_token) (t_value := t_value) (t_winner := t_winner) (t_throwsOf := t_throwsOf) (t_handA := t_handA) (t_handB := t_handB) (t_fewestSo := t_fewestSo) (t_traced := t_traced) (t_now := t_now) (l1 := l1) (l2 := l2) hQ hR
