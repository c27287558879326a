theorem z_eq {E : ZE} {kn : Nat × Nat} {lv : zLv} {pc : Nat} {st : List Value} {ws : va_W} (ws' : va_W) (h : ws = ws') (k : Z E kn lv pc st ws') : Z E kn lv pc st ws := h ▸ k
/-! FistTrains.isRow -/
abbrev rmX8_isRow : Room := { frames := 0, cells := 0, slots := 0, locals := 0 }
def o_X8_isRow (N : Nat) (l0 : Int32) : Option (Int32) :=
  if l0 < 0 then
    some (0)
  else
    if 8 ≤ l0 then
      some (0)
    else
      some (1)
set_option maxHeartbeats 4000000 in
set_option maxRecDepth 100000 in
theorem z_X8_isRow_0 {sK sV : Nat → Nat} {E : ZE} {cI cB cZ : ClassId} (hC : ZC E 1 cX8_isRow wsX8_isRow RX8 rmX8_isRow (some .boolean) (zty cI cB cZ)) (hN : ZN sK sV (zA E) (zs E)) {N : Nat} {l0 : Int32} {rf : Int32} (hQ : ZQi E (zty cI cB cZ) rf []) (hR : o_X8_isRow N l0 = some rf) : Z E (0, 0) [(0, .int l0)] 0 [] [] := by
  rw [o_X8_isRow] at hR
  refine z_iload_n hC dX8_isRow_0 rfl 0 rfl ?_
  refine z_if_lt hC 14 dX8_isRow_1 (by decide) hR (fun hR => ?_) (fun hR => ?_)
  · refine z_ic0 hC dX8_isRow_14 ?_
    obtain rfl := Option.some.inj hR
    exact z_iret hC hQ rfl rfl rfl dX8_isRow_15
  · refine z_iload_n hC dX8_isRow_4 rfl 0 rfl ?_
    refine z_bipush (v := 8) hC dX8_isRow_5 (by decide) ?_
    refine z_icmp_ge hC 14 dX8_isRow_7 (by decide) hR (fun hR => ?_) (fun hR => ?_)
    · refine z_ic0 hC dX8_isRow_14 ?_
      obtain rfl := Option.some.inj hR
      exact z_iret hC hQ rfl rfl rfl dX8_isRow_15
    · refine z_ic1 hC dX8_isRow_10 ?_
      refine z_goto hC 15 dX8_isRow_11 (by decide) ?_
      obtain rfl := Option.some.inj hR
      exact z_iret hC hQ rfl rfl rfl dX8_isRow_15
set_option maxHeartbeats 4000000 in
set_option maxRecDepth 100000 in
theorem c_X8_isRow {sK sV : Nat → Nat} {l : Launch} {D : va_G} {cI cB cZ : ClassId} {N : Nat} {l0 : Int32} : ∀ R : Int32, o_X8_isRow N l0 = some R → ZMi sK sV l yX8_isRow wsX8_isRow rmX8_isRow D (zty cI cB cZ) [.int l0] [] R [] := by
  intro R hR
  refine zi_of (cc := cX8_isRow) (maxL := 1) (ret := (some .boolean)) (by decide) rfl (Nat.le_of_ble_eq_true rfl) (fun E hE1 hE2 hC hN hQ => ?_)
  subst hE1 hE2
  exact z_X8_isRow_0 hC hN (N := N) (l0 := l0) hQ hR

/-! FistTrains.found -/
abbrev rmX8_found : Room := { frames := 0, cells := 0, slots := 0, locals := 0 }
set_option maxRecDepth 20000 in
theorem iX8_found_X8 : ∀ w ∈ wsX80, w ∈ wsX8_found := by decide +kernel
set_option maxRecDepth 20000 in
theorem mX8_found_1 : Cond.fieldLink RX8 75 "FistTrains" "latestFinding" "I" ∈ wsX8_found := List.mem_of_getElem? (i := 1) rfl
set_option maxRecDepth 20000 in
theorem mX8_found_2 : Cond.constant RX8 127 (-1000010) ∈ wsX8_found := List.mem_of_getElem? (i := 2) rfl
def o_X8_found (N : Nat) (l1 : Int32) : Option (Int32 × Int32) :=
  some (((-1000010) - l1), l1)
set_option maxHeartbeats 4000000 in
set_option maxRecDepth 100000 in
theorem z_X8_found_0 {sK sV : Nat → Nat} {E : ZE} {cI cB cZ : ClassId} (hC : ZC E 2 cX8_found wsX8_found RX8 rmX8_found (some .int) (zty cI cB cZ)) (hN : ZN sK sV (zA E) (zs E)) {N : Nat} {a_t : Nat} {a_t_rows : Nat} {a_t_tape : Nat} {a_t_reader : Nat} {a_t_now : Nat} {a_t_trial : Nat} {a_t_acts : Nat} {a_t_ways : Nat} {a_t_asks : Nat} {a_t_images : Nat} {a_t_imageKept : Nat} {t_latestFault : Int32} {t_latestFinding : Int32} {l1 : Int32} {rf : Int32 × Int32} (hQ : ZQi E (zty cI cB cZ) rf.1 [(a_t, .inr (8, [.ref a_t_rows, .ref a_t_tape, .ref a_t_reader, .ref a_t_now, .ref a_t_trial, .ref a_t_acts, .ref a_t_ways, .ref a_t_asks, .ref a_t_images, .ref a_t_imageKept, .int t_latestFault, .int rf.2]))]) (hR : o_X8_found N l1 = some rf) : Z E (0, 0) [(0, .ref a_t), (1, .int l1)] 0 [] [(a_t, .inr (8, [.ref a_t_rows, .ref a_t_tape, .ref a_t_reader, .ref a_t_now, .ref a_t_trial, .ref a_t_acts, .ref a_t_ways, .ref a_t_asks, .ref a_t_images, .ref a_t_imageKept, .int t_latestFault, .int t_latestFinding]))] := by
  rw [o_X8_found] at hR
  refine z_aload_n hC dX8_found_0 rfl 0 rfl ?_
  refine z_iload_n hC dX8_found_1 rfl 1 rfl ?_
  refine z_put hC iX8_found_X8 tyX8_ok nmX8 rfl 0 11 rfl (by decide) mX8_found_1 rfl rfl rfl rfl (Nat.le_of_ble_eq_true rfl) dX8_found_2 ?_
  refine z_ldc hC (-1000010) mX8_found_2 dX8_found_5 ?_
  refine z_iload_n hC dX8_found_7 rfl 1 rfl ?_
  refine z_isub hC dX8_found_8 ?_
  obtain rfl := Option.some.inj hR
  exact z_iret hC hQ rfl rfl rfl dX8_found_9
set_option maxHeartbeats 4000000 in
set_option maxRecDepth 100000 in
theorem c_X8_found {sK sV : Nat → Nat} {l : Launch} {D : va_G} {cI cB cZ : ClassId} {N : Nat} {a_t : Nat} {a_t_rows : Nat} {a_t_tape : Nat} {a_t_reader : Nat} {a_t_now : Nat} {a_t_trial : Nat} {a_t_acts : Nat} {a_t_ways : Nat} {a_t_asks : Nat} {a_t_images : Nat} {a_t_imageKept : Nat} {t_latestFault : Int32} {t_latestFinding : Int32} {l1 : Int32} : ∀ R : Int32 × Int32, o_X8_found N l1 = some R → ZMi sK sV l yX8_found wsX8_found rmX8_found D (zty cI cB cZ) [.ref a_t, .int l1] [(a_t, .inr (8, [.ref a_t_rows, .ref a_t_tape, .ref a_t_reader, .ref a_t_now, .ref a_t_trial, .ref a_t_acts, .ref a_t_ways, .ref a_t_asks, .ref a_t_images, .ref a_t_imageKept, .int t_latestFault, .int t_latestFinding]))] R.1 [(a_t, .inr (8, [.ref a_t_rows, .ref a_t_tape, .ref a_t_reader, .ref a_t_now, .ref a_t_trial, .ref a_t_acts, .ref a_t_ways, .ref a_t_asks, .ref a_t_images, .ref a_t_imageKept, .int t_latestFault, .int R.2]))] := by
  intro R hR
  refine zi_of (cc := cX8_found) (maxL := 2) (ret := (some .int)) (by decide) rfl (Nat.le_of_ble_eq_true rfl) (fun E hE1 hE2 hC hN hQ => ?_)
  subst hE1 hE2
  exact z_X8_found_0 hC hN (N := N) (a_t := a_t) (a_t_rows := a_t_rows) (a_t_tape := a_t_tape) (a_t_reader := a_t_reader) (a_t_now := a_t_now) (a_t_trial := a_t_trial) (a_t_acts := a_t_acts) (a_t_ways := a_t_ways) (a_t_asks := a_t_asks) (a_t_images := a_t_images) (a_t_imageKept := a_t_imageKept) (t_latestFault := t_latestFault) (t_latestFinding := t_latestFinding) (l1 := l1) hQ hR

/-! FistTrains.fine -/
abbrev rmX8_fine : Room := { frames := 0, cells := 0, slots := 0, locals := 0 }
set_option maxRecDepth 20000 in
theorem iX8_fine_X8 : ∀ w ∈ wsX80, w ∈ wsX8_fine := by decide +kernel
set_option maxRecDepth 20000 in
theorem mX8_fine_1 : Cond.fieldLink RX8 75 "FistTrains" "latestFinding" "I" ∈ wsX8_fine := List.mem_of_getElem? (i := 1) rfl
def o_X8_fine (N : Nat) (l1 : Int32) : Option (Int32 × Int32) :=
  some (l1, 0)
set_option maxHeartbeats 4000000 in
set_option maxRecDepth 100000 in
theorem z_X8_fine_0 {sK sV : Nat → Nat} {E : ZE} {cI cB cZ : ClassId} (hC : ZC E 2 cX8_fine wsX8_fine RX8 rmX8_fine (some .int) (zty cI cB cZ)) (hN : ZN sK sV (zA E) (zs E)) {N : Nat} {a_t : Nat} {a_t_rows : Nat} {a_t_tape : Nat} {a_t_reader : Nat} {a_t_now : Nat} {a_t_trial : Nat} {a_t_acts : Nat} {a_t_ways : Nat} {a_t_asks : Nat} {a_t_images : Nat} {a_t_imageKept : Nat} {t_latestFault : Int32} {t_latestFinding : Int32} {l1 : Int32} {rf : Int32 × Int32} (hQ : ZQi E (zty cI cB cZ) rf.1 [(a_t, .inr (8, [.ref a_t_rows, .ref a_t_tape, .ref a_t_reader, .ref a_t_now, .ref a_t_trial, .ref a_t_acts, .ref a_t_ways, .ref a_t_asks, .ref a_t_images, .ref a_t_imageKept, .int t_latestFault, .int rf.2]))]) (hR : o_X8_fine N l1 = some rf) : Z E (0, 0) [(0, .ref a_t), (1, .int l1)] 0 [] [(a_t, .inr (8, [.ref a_t_rows, .ref a_t_tape, .ref a_t_reader, .ref a_t_now, .ref a_t_trial, .ref a_t_acts, .ref a_t_ways, .ref a_t_asks, .ref a_t_images, .ref a_t_imageKept, .int t_latestFault, .int t_latestFinding]))] := by
  rw [o_X8_fine] at hR
  refine z_aload_n hC dX8_fine_0 rfl 0 rfl ?_
  refine z_ic0 hC dX8_fine_1 ?_
  refine z_put hC iX8_fine_X8 tyX8_ok nmX8 rfl 0 11 rfl (by decide) mX8_fine_1 rfl rfl rfl rfl (Nat.le_of_ble_eq_true rfl) dX8_fine_2 ?_
  refine z_iload_n hC dX8_fine_5 rfl 1 rfl ?_
  obtain rfl := Option.some.inj hR
  exact z_iret hC hQ rfl rfl rfl dX8_fine_6
set_option maxHeartbeats 4000000 in
set_option maxRecDepth 100000 in
theorem c_X8_fine {sK sV : Nat → Nat} {l : Launch} {D : va_G} {cI cB cZ : ClassId} {N : Nat} {a_t : Nat} {a_t_rows : Nat} {a_t_tape : Nat} {a_t_reader : Nat} {a_t_now : Nat} {a_t_trial : Nat} {a_t_acts : Nat} {a_t_ways : Nat} {a_t_asks : Nat} {a_t_images : Nat} {a_t_imageKept : Nat} {t_latestFault : Int32} {t_latestFinding : Int32} {l1 : Int32} : ∀ R : Int32 × Int32, o_X8_fine N l1 = some R → ZMi sK sV l yX8_fine wsX8_fine rmX8_fine D (zty cI cB cZ) [.ref a_t, .int l1] [(a_t, .inr (8, [.ref a_t_rows, .ref a_t_tape, .ref a_t_reader, .ref a_t_now, .ref a_t_trial, .ref a_t_acts, .ref a_t_ways, .ref a_t_asks, .ref a_t_images, .ref a_t_imageKept, .int t_latestFault, .int t_latestFinding]))] R.1 [(a_t, .inr (8, [.ref a_t_rows, .ref a_t_tape, .ref a_t_reader, .ref a_t_now, .ref a_t_trial, .ref a_t_acts, .ref a_t_ways, .ref a_t_asks, .ref a_t_images, .ref a_t_imageKept, .int t_latestFault, .int R.2]))] := by
  intro R hR
  refine zi_of (cc := cX8_fine) (maxL := 2) (ret := (some .int)) (by decide) rfl (Nat.le_of_ble_eq_true rfl) (fun E hE1 hE2 hC hN hQ => ?_)
  subst hE1 hE2
  exact z_X8_fine_0 hC hN (N := N) (a_t := a_t) (a_t_rows := a_t_rows) (a_t_tape := a_t_tape) (a_t_reader := a_t_reader) (a_t_now := a_t_now) (a_t_trial := a_t_trial) (a_t_acts := a_t_acts) (a_t_ways := a_t_ways) (a_t_asks := a_t_asks) (a_t_images := a_t_images) (a_t_imageKept := a_t_imageKept) (t_latestFault := t_latestFault) (t_latestFinding := t_latestFinding) (l1 := l1) hQ hR

/-! FistTrains.row -/
abbrev rmX8_row : Room := { frames := 2, cells := 0, slots := 0, locals := 46 }
set_option maxRecDepth 20000 in
theorem mX8_row_1 : Cond.constant RX8 82 (-1000001) ∈ wsX8_row := List.mem_of_getElem? (i := 1) rfl
set_option maxRecDepth 20000 in
theorem iX8_row_X8 : ∀ w ∈ wsX80, w ∈ wsX8_row := by decide +kernel
set_option maxRecDepth 20000 in
theorem mX8_row_2 : Cond.fieldLink RX8 10 "FistTrains" "rows" "LFistTrains$Rows;" ∈ wsX8_row := List.mem_of_getElem? (i := 2) rfl
def o_X8_row (N : Nat) (t_latestFinding : Int32) (t_rows_lane : (Nat → Int32)) (t_rows_size : (Nat → Int32)) (t_rows_items : (Nat → Int32)) (l1 : Int32) (l2 : Int32) (l3 : Int32) : Option (Int32 × Int32 × (Nat → Int32) × (Nat → Int32) × (Nat → Int32)) :=
  Option.bind (o_X8_isRow N l1) (fun r1 =>
  if r1 = 0 then
    some ((-1000001), t_latestFinding, t_rows_lane, t_rows_size, t_rows_items)
  else
    if l2 < 0 then
      some ((-1000001), t_latestFinding, t_rows_lane, t_rows_size, t_rows_items)
    else
      if 2 < l2 then
        some ((-1000001), t_latestFinding, t_rows_lane, t_rows_size, t_rows_items)
      else
        if l3 ≤ 40 then
          if 0 ≤ l3 then
            Option.bind (o_X5_make N t_rows_lane t_rows_size t_rows_items l1 l2 l3) (fun r42 =>
            Option.bind (o_X8_fine N l3) (fun r47 =>
            some (r47.1, r47.2, r42.1, r42.2.1, r42.2.2)))
          else
            Option.bind (o_X8_found N 4) (fun r31 =>
            some (r31.1, r31.2, t_rows_lane, t_rows_size, t_rows_items))
        else
          some ((-1000001), t_latestFinding, t_rows_lane, t_rows_size, t_rows_items))
set_option maxHeartbeats 4000000 in
set_option maxRecDepth 100000 in
theorem z_X8_row_0 {sK sV : Nat → Nat} {E : ZE} {cI cB cZ : ClassId} (hC : ZC E 4 cX8_row wsX8_row RX8 rmX8_row (some .int) (zty cI cB cZ)) (hN : ZN sK sV (zA E) (zs E)) {N : Nat} {a_t : Nat} {a_t_rows : Nat} {a_t_rows_lane : Nat} {a_t_rows_size : Nat} {a_t_rows_items : Nat} {a_t_tape : Nat} {a_t_reader : Nat} {a_t_now : Nat} {a_t_trial : Nat} {a_t_acts : Nat} {a_t_ways : Nat} {a_t_asks : Nat} {a_t_images : Nat} {a_t_imageKept : Nat} {t_latestFault : Int32} {t_latestFinding : Int32} {t_rows_lane : (Nat → Int32)} {t_rows_size : (Nat → Int32)} {t_rows_items : (Nat → Int32)} {l1 : Int32} {l2 : Int32} {l3 : Int32} {rf : Int32 × Int32 × (Nat → Int32) × (Nat → Int32) × (Nat → Int32)} (hQ : ZQi E (zty cI cB cZ) rf.1 [(a_t, .inr (8, [.ref a_t_rows, .ref a_t_tape, .ref a_t_reader, .ref a_t_now, .ref a_t_trial, .ref a_t_acts, .ref a_t_ways, .ref a_t_asks, .ref a_t_images, .ref a_t_imageKept, .int t_latestFault, .int rf.2.1])), (a_t_rows, .inr (5, [.ref a_t_rows_lane, .ref a_t_rows_size, .ref a_t_rows_items])), (a_t_rows_lane, .inl (cI, 8, .inl rf.2.2.1)), (a_t_rows_size, .inl (cI, 8, .inl rf.2.2.2.1)), (a_t_rows_items, .inl (cI, 320, .inl rf.2.2.2.2))]) (hR : o_X8_row N t_latestFinding t_rows_lane t_rows_size t_rows_items l1 l2 l3 = some rf) : Z E (0, 0) [(0, .ref a_t), (1, .int l1), (2, .int l2), (3, .int l3)] 0 [] [(a_t, .inr (8, [.ref a_t_rows, .ref a_t_tape, .ref a_t_reader, .ref a_t_now, .ref a_t_trial, .ref a_t_acts, .ref a_t_ways, .ref a_t_asks, .ref a_t_images, .ref a_t_imageKept, .int t_latestFault, .int t_latestFinding])), (a_t_rows, .inr (5, [.ref a_t_rows_lane, .ref a_t_rows_size, .ref a_t_rows_items])), (a_t_rows_lane, .inl (cI, 8, .inl t_rows_lane)), (a_t_rows_size, .inl (cI, 8, .inl t_rows_size)), (a_t_rows_items, .inl (cI, 320, .inl t_rows_items))] := by
  rw [o_X8_row] at hR
  refine z_iload_n hC dX8_row_0 rfl 1 rfl ?_
  refine z_callSi_p hC hN [.int l1] [] (c_X8_isRow (l := zl E) (D := zD E) (cI := cI) (cB := cB) (cZ := cZ) (N := N) (l0 := l1)) rfl ⟨rfl, rfl⟩ gX8_row_X8_isRow hsX8_isRow ⟨Nat.le_of_ble_eq_true rfl, Nat.le_of_ble_eq_true rfl⟩ ⟨Nat.zero_le _, Nat.zero_le _⟩ rfl (Nat.le_of_ble_eq_true rfl) rfl (by decide) dX8_row_1 hR (fun r1 hR => ?_)
  refine z_if_eq hC 22 dX8_row_4 (by decide) hR (fun hR => ?_) (fun hR => ?_)
  · refine z_ldc hC (-1000001) mX8_row_1 dX8_row_22 ?_
    obtain rfl := Option.some.inj hR
    exact z_iret hC hQ rfl rfl rfl dX8_row_24
  · refine z_iload_n hC dX8_row_7 rfl 2 rfl ?_
    refine z_if_lt hC 22 dX8_row_8 (by decide) hR (fun hR => ?_) (fun hR => ?_)
    · refine z_ldc hC (-1000001) mX8_row_1 dX8_row_22 ?_
      obtain rfl := Option.some.inj hR
      exact z_iret hC hQ rfl rfl rfl dX8_row_24
    · refine z_iload_n hC dX8_row_11 rfl 2 rfl ?_
      refine z_ic2 hC dX8_row_12 ?_
      refine z_icmp_gt hC 22 dX8_row_13 (by decide) hR (fun hR => ?_) (fun hR => ?_)
      · refine z_ldc hC (-1000001) mX8_row_1 dX8_row_22 ?_
        obtain rfl := Option.some.inj hR
        exact z_iret hC hQ rfl rfl rfl dX8_row_24
      · refine z_iload_n hC dX8_row_16 rfl 3 rfl ?_
        refine z_bipush (v := 40) hC dX8_row_17 (by decide) ?_
        refine z_icmp_le hC 25 dX8_row_19 (by decide) hR (fun hR => ?_) (fun hR => ?_)
        · refine z_iload_n hC dX8_row_25 rfl 3 rfl ?_
          refine z_if_ge hC 35 dX8_row_26 (by decide) hR (fun hR => ?_) (fun hR => ?_)
          · refine z_aload_n hC dX8_row_35 rfl 0 rfl ?_
            refine z_get hC iX8_row_X8 rfl 0 0 rfl (by decide) mX8_row_2 rfl rfl dX8_row_36 ?_
            refine z_iload_n hC dX8_row_39 rfl 1 rfl ?_
            refine z_iload_n hC dX8_row_40 rfl 2 rfl ?_
            refine z_iload_n hC dX8_row_41 rfl 3 rfl ?_
            refine z_callVv hC hN [.int l1, .int l2, .int l3] [1, 2, 3, 4] (c_X5_make (l := zl E) (D := zD E) (cI := cI) (cB := cB) (cZ := cZ) (N := N) (a_t := a_t_rows) (a_t_lane := a_t_rows_lane) (a_t_size := a_t_rows_size) (a_t_items := a_t_rows_items) (l1 := l1) (l2 := l2) (l3 := l3) (t_lane := t_rows_lane) (t_size := t_rows_size) (t_items := t_rows_items)) rfl ⟨rfl, rfl⟩ gX8_row_X5_make hvX5_make 1 5 rfl rfl rfl ⟨Nat.le_of_ble_eq_true rfl, Nat.le_of_ble_eq_true rfl⟩ ⟨Nat.zero_le _, Nat.zero_le _⟩ rfl (Nat.le_of_ble_eq_true rfl) rfl (by decide) (fun _ => rfl) dX8_row_42 hR (fun r42 hR => ?_)
            refine z_eq [(a_t, .inr (8, [.ref a_t_rows, .ref a_t_tape, .ref a_t_reader, .ref a_t_now, .ref a_t_trial, .ref a_t_acts, .ref a_t_ways, .ref a_t_asks, .ref a_t_images, .ref a_t_imageKept, .int t_latestFault, .int t_latestFinding])), (a_t_rows, .inr (5, [.ref a_t_rows_lane, .ref a_t_rows_size, .ref a_t_rows_items])), (a_t_rows_lane, .inl (cI, 8, .inl r42.1)), (a_t_rows_size, .inl (cI, 8, .inl r42.2.1)), (a_t_rows_items, .inl (cI, 320, .inl r42.2.2))] rfl ?_
            refine z_aload_n hC dX8_row_45 rfl 0 rfl ?_
            refine z_iload_n hC dX8_row_46 rfl 3 rfl ?_
            refine z_callVi hC hN [.int l3] [0] (c_X8_fine (l := zl E) (D := zD E) (cI := cI) (cB := cB) (cZ := cZ) (N := N) (a_t := a_t) (a_t_rows := a_t_rows) (a_t_tape := a_t_tape) (a_t_reader := a_t_reader) (a_t_now := a_t_now) (a_t_trial := a_t_trial) (a_t_acts := a_t_acts) (a_t_ways := a_t_ways) (a_t_asks := a_t_asks) (a_t_images := a_t_images) (a_t_imageKept := a_t_imageKept) (l1 := l3) (t_latestFault := t_latestFault) (t_latestFinding := t_latestFinding)) rfl ⟨rfl, rfl⟩ gX8_row_X8_fine hvX8_fine 0 8 rfl rfl rfl ⟨Nat.le_of_ble_eq_true rfl, Nat.le_of_ble_eq_true rfl⟩ ⟨Nat.zero_le _, Nat.zero_le _⟩ rfl (Nat.le_of_ble_eq_true rfl) rfl (by decide) (fun _ => rfl) dX8_row_47 hR (fun r47 hR => ?_)
            refine z_eq [(a_t, .inr (8, [.ref a_t_rows, .ref a_t_tape, .ref a_t_reader, .ref a_t_now, .ref a_t_trial, .ref a_t_acts, .ref a_t_ways, .ref a_t_asks, .ref a_t_images, .ref a_t_imageKept, .int t_latestFault, .int r47.2])), (a_t_rows, .inr (5, [.ref a_t_rows_lane, .ref a_t_rows_size, .ref a_t_rows_items])), (a_t_rows_lane, .inl (cI, 8, .inl r42.1)), (a_t_rows_size, .inl (cI, 8, .inl r42.2.1)), (a_t_rows_items, .inl (cI, 320, .inl r42.2.2))] rfl ?_
            obtain rfl := Option.some.inj hR
            exact z_iret hC hQ rfl rfl rfl dX8_row_50
          · refine z_aload_n hC dX8_row_29 rfl 0 rfl ?_
            refine z_ic4 hC dX8_row_30 ?_
            refine z_callVi hC hN [.int 4] [0] (c_X8_found (l := zl E) (D := zD E) (cI := cI) (cB := cB) (cZ := cZ) (N := N) (a_t := a_t) (a_t_rows := a_t_rows) (a_t_tape := a_t_tape) (a_t_reader := a_t_reader) (a_t_now := a_t_now) (a_t_trial := a_t_trial) (a_t_acts := a_t_acts) (a_t_ways := a_t_ways) (a_t_asks := a_t_asks) (a_t_images := a_t_images) (a_t_imageKept := a_t_imageKept) (l1 := 4) (t_latestFault := t_latestFault) (t_latestFinding := t_latestFinding)) rfl ⟨rfl, rfl⟩ gX8_row_X8_found hvX8_found 0 8 rfl rfl rfl ⟨Nat.le_of_ble_eq_true rfl, Nat.le_of_ble_eq_true rfl⟩ ⟨Nat.zero_le _, Nat.zero_le _⟩ rfl (Nat.le_of_ble_eq_true rfl) rfl (by decide) (fun _ => rfl) dX8_row_31 hR (fun r31 hR => ?_)
            refine z_eq [(a_t, .inr (8, [.ref a_t_rows, .ref a_t_tape, .ref a_t_reader, .ref a_t_now, .ref a_t_trial, .ref a_t_acts, .ref a_t_ways, .ref a_t_asks, .ref a_t_images, .ref a_t_imageKept, .int t_latestFault, .int r31.2])), (a_t_rows, .inr (5, [.ref a_t_rows_lane, .ref a_t_rows_size, .ref a_t_rows_items])), (a_t_rows_lane, .inl (cI, 8, .inl t_rows_lane)), (a_t_rows_size, .inl (cI, 8, .inl t_rows_size)), (a_t_rows_items, .inl (cI, 320, .inl t_rows_items))] rfl ?_
            obtain rfl := Option.some.inj hR
            exact z_iret hC hQ rfl rfl rfl dX8_row_34
        · refine z_ldc hC (-1000001) mX8_row_1 dX8_row_22 ?_
          obtain rfl := Option.some.inj hR
          exact z_iret hC hQ rfl rfl rfl dX8_row_24
set_option maxHeartbeats 4000000 in
set_option maxRecDepth 100000 in
theorem c_X8_row {sK sV : Nat → Nat} {l : Launch} {D : va_G} {cI cB cZ : ClassId} {N : Nat} {a_t : Nat} {a_t_rows : Nat} {a_t_rows_lane : Nat} {a_t_rows_size : Nat} {a_t_rows_items : Nat} {a_t_tape : Nat} {a_t_reader : Nat} {a_t_now : Nat} {a_t_trial : Nat} {a_t_acts : Nat} {a_t_ways : Nat} {a_t_asks : Nat} {a_t_images : Nat} {a_t_imageKept : Nat} {t_latestFault : Int32} {t_latestFinding : Int32} {t_rows_lane : (Nat → Int32)} {t_rows_size : (Nat → Int32)} {t_rows_items : (Nat → Int32)} {l1 : Int32} {l2 : Int32} {l3 : Int32} : ∀ R : Int32 × Int32 × (Nat → Int32) × (Nat → Int32) × (Nat → Int32), o_X8_row N t_latestFinding t_rows_lane t_rows_size t_rows_items l1 l2 l3 = some R → ZMi sK sV l yX8_row wsX8_row rmX8_row D (zty cI cB cZ) [.ref a_t, .int l1, .int l2, .int l3] [(a_t, .inr (8, [.ref a_t_rows, .ref a_t_tape, .ref a_t_reader, .ref a_t_now, .ref a_t_trial, .ref a_t_acts, .ref a_t_ways, .ref a_t_asks, .ref a_t_images, .ref a_t_imageKept, .int t_latestFault, .int t_latestFinding])), (a_t_rows, .inr (5, [.ref a_t_rows_lane, .ref a_t_rows_size, .ref a_t_rows_items])), (a_t_rows_lane, .inl (cI, 8, .inl t_rows_lane)), (a_t_rows_size, .inl (cI, 8, .inl t_rows_size)), (a_t_rows_items, .inl (cI, 320, .inl t_rows_items))] R.1 [(a_t, .inr (8, [.ref a_t_rows, .ref a_t_tape, .ref a_t_reader, .ref a_t_now, .ref a_t_trial, .ref a_t_acts, .ref a_t_ways, .ref a_t_asks, .ref a_t_images, .ref a_t_imageKept, .int t_latestFault, .int R.2.1])), (a_t_rows, .inr (5, [.ref a_t_rows_lane, .ref a_t_rows_size, .ref a_t_rows_items])), (a_t_rows_lane, .inl (cI, 8, .inl R.2.2.1)), (a_t_rows_size, .inl (cI, 8, .inl R.2.2.2.1)), (a_t_rows_items, .inl (cI, 320, .inl R.2.2.2.2))] := by
  intro R hR
  refine zi_of (cc := cX8_row) (maxL := 4) (ret := (some .int)) (by decide) rfl (Nat.le_of_ble_eq_true rfl) (fun E hE1 hE2 hC hN hQ => ?_)
  subst hE1 hE2
  exact z_X8_row_0 hC hN (N := N) (a_t := a_t) (a_t_rows := a_t_rows) (a_t_rows_lane := a_t_rows_lane) (a_t_rows_size := a_t_rows_size) (a_t_rows_items := a_t_rows_items) (a_t_tape := a_t_tape) (a_t_reader := a_t_reader) (a_t_now := a_t_now) (a_t_trial := a_t_trial) (a_t_acts := a_t_acts) (a_t_ways := a_t_ways) (a_t_asks := a_t_asks) (a_t_images := a_t_images) (a_t_imageKept := a_t_imageKept) (t_latestFault := t_latestFault) (t_latestFinding := t_latestFinding) (t_rows_lane := t_rows_lane) (t_rows_size := t_rows_size) (t_rows_items := t_rows_items) (l1 := l1) (l2 := l2) (l3 := l3) hQ hR

/-! FistTrains.set -/
abbrev rmX8_set : Room := { frames := 2, cells := 0, slots := 0, locals := 46 }
set_option maxRecDepth 20000 in
theorem iX8_set_X8 : ∀ w ∈ wsX80, w ∈ wsX8_set := by decide +kernel
set_option maxRecDepth 20000 in
theorem mX8_set_2 : Cond.fieldLink RX8 10 "FistTrains" "rows" "LFistTrains$Rows;" ∈ wsX8_set := List.mem_of_getElem? (i := 2) rfl
set_option maxRecDepth 20000 in
theorem iX8_set_X5 : ∀ w ∈ wsX50, w ∈ wsX8_set := by decide +kernel
set_option maxRecDepth 20000 in
theorem mX8_set_3 : Cond.fieldLink RX8 97 "FistTrains$Rows" "size" "[I" ∈ wsX8_set := List.mem_of_getElem? (i := 3) rfl
set_option maxRecDepth 20000 in
theorem mX8_set_1 : Cond.constant RX8 82 (-1000001) ∈ wsX8_set := List.mem_of_getElem? (i := 1) rfl
def o_X8_set (N : Nat) (t_latestFinding : Int32) (t_rows_lane : (Nat → Int32)) (t_rows_size : (Nat → Int32)) (t_rows_items : (Nat → Int32)) (l1 : Int32) (l2 : Int32) (l3 : Int32) : Option (Int32 × Int32 × (Nat → Int32)) :=
  Option.bind (o_X8_isRow N l1) (fun r1 =>
  if r1 = 0 then
    some ((-1000001), t_latestFinding, t_rows_items)
  else
    Option.bind (o_X5_isMissing N t_rows_lane l1) (fun r15 =>
    if r15 = 0 then
      if l2 < 0 then
        Option.bind (o_X8_found N 2) (fun r46 =>
        some (r46.1, r46.2, t_rows_items))
      else
        ogd (inb l1 8) (
        if l2 < (t_rows_size (Int32.toNatClampNeg l1)) then
          Option.bind (o_X5_put N t_rows_lane t_rows_items l1 l2 l3) (fun r58 =>
          Option.bind (o_X8_fine N r58.1) (fun r61 =>
          some (r61.1, r61.2, r58.2)))
        else
          Option.bind (o_X8_found N 2) (fun r46 =>
          some (r46.1, r46.2, t_rows_items)))
    else
      Option.bind (o_X8_found N 1) (fun r23 =>
      some (r23.1, r23.2, t_rows_items))))
set_option maxHeartbeats 4000000 in
set_option maxRecDepth 100000 in
theorem z_X8_set_0 {sK sV : Nat → Nat} {E : ZE} {cI cB cZ : ClassId} (hC : ZC E 4 cX8_set wsX8_set RX8 rmX8_set (some .int) (zty cI cB cZ)) (hN : ZN sK sV (zA E) (zs E)) {N : Nat} {a_t : Nat} {a_t_rows : Nat} {a_t_rows_lane : Nat} {a_t_rows_size : Nat} {a_t_rows_items : Nat} {a_t_tape : Nat} {a_t_reader : Nat} {a_t_now : Nat} {a_t_trial : Nat} {a_t_acts : Nat} {a_t_ways : Nat} {a_t_asks : Nat} {a_t_images : Nat} {a_t_imageKept : Nat} {t_latestFault : Int32} {t_latestFinding : Int32} {t_rows_lane : (Nat → Int32)} {t_rows_size : (Nat → Int32)} {t_rows_items : (Nat → Int32)} {l1 : Int32} {l2 : Int32} {l3 : Int32} {rf : Int32 × Int32 × (Nat → Int32)} (hQ : ZQi E (zty cI cB cZ) rf.1 [(a_t, .inr (8, [.ref a_t_rows, .ref a_t_tape, .ref a_t_reader, .ref a_t_now, .ref a_t_trial, .ref a_t_acts, .ref a_t_ways, .ref a_t_asks, .ref a_t_images, .ref a_t_imageKept, .int t_latestFault, .int rf.2.1])), (a_t_rows, .inr (5, [.ref a_t_rows_lane, .ref a_t_rows_size, .ref a_t_rows_items])), (a_t_rows_lane, .inl (cI, 8, .inl t_rows_lane)), (a_t_rows_size, .inl (cI, 8, .inl t_rows_size)), (a_t_rows_items, .inl (cI, 320, .inl rf.2.2))]) (hR : o_X8_set N t_latestFinding t_rows_lane t_rows_size t_rows_items l1 l2 l3 = some rf) : Z E (0, 0) [(0, .ref a_t), (1, .int l1), (2, .int l2), (3, .int l3)] 0 [] [(a_t, .inr (8, [.ref a_t_rows, .ref a_t_tape, .ref a_t_reader, .ref a_t_now, .ref a_t_trial, .ref a_t_acts, .ref a_t_ways, .ref a_t_asks, .ref a_t_images, .ref a_t_imageKept, .int t_latestFault, .int t_latestFinding])), (a_t_rows, .inr (5, [.ref a_t_rows_lane, .ref a_t_rows_size, .ref a_t_rows_items])), (a_t_rows_lane, .inl (cI, 8, .inl t_rows_lane)), (a_t_rows_size, .inl (cI, 8, .inl t_rows_size)), (a_t_rows_items, .inl (cI, 320, .inl t_rows_items))] := by
  rw [o_X8_set] at hR
  refine z_iload_n hC dX8_set_0 rfl 1 rfl ?_
  refine z_callSi_p hC hN [.int l1] [] (c_X8_isRow (l := zl E) (D := zD E) (cI := cI) (cB := cB) (cZ := cZ) (N := N) (l0 := l1)) rfl ⟨rfl, rfl⟩ gX8_set_X8_isRow hsX8_isRow ⟨Nat.le_of_ble_eq_true rfl, Nat.le_of_ble_eq_true rfl⟩ ⟨Nat.zero_le _, Nat.zero_le _⟩ rfl (Nat.le_of_ble_eq_true rfl) rfl (by decide) dX8_set_1 hR (fun r1 hR => ?_)
  refine z_if_ne hC 10 dX8_set_4 (by decide) hR (fun hR => ?_) (fun hR => ?_)
  · refine z_aload_n hC dX8_set_10 rfl 0 rfl ?_
    refine z_get hC iX8_set_X8 rfl 0 0 rfl (by decide) mX8_set_2 rfl rfl dX8_set_11 ?_
    refine z_iload_n hC dX8_set_14 rfl 1 rfl ?_
    refine z_callVi_p hC hN [.int l1] [1, 2] (c_X5_isMissing (l := zl E) (D := zD E) (cI := cI) (cB := cB) (cZ := cZ) (N := N) (a_t := a_t_rows) (a_t_lane := a_t_rows_lane) (a_t_size := a_t_rows_size) (a_t_items := a_t_rows_items) (l1 := l1) (t_lane := t_rows_lane)) rfl ⟨rfl, rfl⟩ gX8_set_X5_isMissing hvX5_isMissing 1 5 rfl rfl rfl ⟨Nat.le_of_ble_eq_true rfl, Nat.le_of_ble_eq_true rfl⟩ ⟨Nat.zero_le _, Nat.zero_le _⟩ rfl (Nat.le_of_ble_eq_true rfl) rfl (by decide) dX8_set_15 hR (fun r15 hR => ?_)
    refine z_if_eq hC 27 dX8_set_18 (by decide) hR (fun hR => ?_) (fun hR => ?_)
    · refine z_iload_n hC dX8_set_27 rfl 2 rfl ?_
      refine z_if_lt hC 44 dX8_set_28 (by decide) hR (fun hR => ?_) (fun hR => ?_)
      · refine z_aload_n hC dX8_set_44 rfl 0 rfl ?_
        refine z_ic2 hC dX8_set_45 ?_
        refine z_callVi hC hN [.int 2] [0] (c_X8_found (l := zl E) (D := zD E) (cI := cI) (cB := cB) (cZ := cZ) (N := N) (a_t := a_t) (a_t_rows := a_t_rows) (a_t_tape := a_t_tape) (a_t_reader := a_t_reader) (a_t_now := a_t_now) (a_t_trial := a_t_trial) (a_t_acts := a_t_acts) (a_t_ways := a_t_ways) (a_t_asks := a_t_asks) (a_t_images := a_t_images) (a_t_imageKept := a_t_imageKept) (l1 := 2) (t_latestFault := t_latestFault) (t_latestFinding := t_latestFinding)) rfl ⟨rfl, rfl⟩ gX8_set_X8_found hvX8_found 0 8 rfl rfl rfl ⟨Nat.le_of_ble_eq_true rfl, Nat.le_of_ble_eq_true rfl⟩ ⟨Nat.zero_le _, Nat.zero_le _⟩ rfl (Nat.le_of_ble_eq_true rfl) rfl (by decide) (fun _ => rfl) dX8_set_46 hR (fun r46 hR => ?_)
        refine z_eq [(a_t, .inr (8, [.ref a_t_rows, .ref a_t_tape, .ref a_t_reader, .ref a_t_now, .ref a_t_trial, .ref a_t_acts, .ref a_t_ways, .ref a_t_asks, .ref a_t_images, .ref a_t_imageKept, .int t_latestFault, .int r46.2])), (a_t_rows, .inr (5, [.ref a_t_rows_lane, .ref a_t_rows_size, .ref a_t_rows_items])), (a_t_rows_lane, .inl (cI, 8, .inl t_rows_lane)), (a_t_rows_size, .inl (cI, 8, .inl t_rows_size)), (a_t_rows_items, .inl (cI, 320, .inl t_rows_items))] rfl ?_
        obtain rfl := Option.some.inj hR
        exact z_iret hC hQ rfl rfl rfl dX8_set_49
      · refine z_iload_n hC dX8_set_31 rfl 2 rfl ?_
        refine z_aload_n hC dX8_set_32 rfl 0 rfl ?_
        refine z_get hC iX8_set_X8 rfl 0 0 rfl (by decide) mX8_set_2 rfl rfl dX8_set_33 ?_
        refine z_get hC iX8_set_X5 rfl 1 1 rfl (by decide) mX8_set_3 rfl rfl dX8_set_36 ?_
        refine z_iload_n hC dX8_set_39 rfl 1 rfl ?_
        refine z_iald hC 3 0 rfl rfl dX8_set_40 hR (fun hR => ?_)
        refine z_icmp_lt hC 50 dX8_set_41 (by decide) hR (fun hR => ?_) (fun hR => ?_)
        · refine z_aload_n hC dX8_set_50 rfl 0 rfl ?_
          refine z_aload_n hC dX8_set_51 rfl 0 rfl ?_
          refine z_get hC iX8_set_X8 rfl 0 0 rfl (by decide) mX8_set_2 rfl rfl dX8_set_52 ?_
          refine z_iload_n hC dX8_set_55 rfl 1 rfl ?_
          refine z_iload_n hC dX8_set_56 rfl 2 rfl ?_
          refine z_iload_n hC dX8_set_57 rfl 3 rfl ?_
          refine z_callVi hC hN [.int l1, .int l2, .int l3] [1, 2, 4] (c_X5_put (l := zl E) (D := zD E) (cI := cI) (cB := cB) (cZ := cZ) (N := N) (a_t := a_t_rows) (a_t_lane := a_t_rows_lane) (a_t_size := a_t_rows_size) (a_t_items := a_t_rows_items) (l1 := l1) (l2 := l2) (l3 := l3) (t_lane := t_rows_lane) (t_items := t_rows_items)) rfl ⟨rfl, rfl⟩ gX8_set_X5_put hvX5_put 1 5 rfl rfl rfl ⟨Nat.le_of_ble_eq_true rfl, Nat.le_of_ble_eq_true rfl⟩ ⟨Nat.zero_le _, Nat.zero_le _⟩ rfl (Nat.le_of_ble_eq_true rfl) rfl (by decide) (fun _ => rfl) dX8_set_58 hR (fun r58 hR => ?_)
          refine z_eq [(a_t, .inr (8, [.ref a_t_rows, .ref a_t_tape, .ref a_t_reader, .ref a_t_now, .ref a_t_trial, .ref a_t_acts, .ref a_t_ways, .ref a_t_asks, .ref a_t_images, .ref a_t_imageKept, .int t_latestFault, .int t_latestFinding])), (a_t_rows, .inr (5, [.ref a_t_rows_lane, .ref a_t_rows_size, .ref a_t_rows_items])), (a_t_rows_lane, .inl (cI, 8, .inl t_rows_lane)), (a_t_rows_size, .inl (cI, 8, .inl t_rows_size)), (a_t_rows_items, .inl (cI, 320, .inl r58.2))] rfl ?_
          refine z_callVi hC hN [.int r58.1] [0] (c_X8_fine (l := zl E) (D := zD E) (cI := cI) (cB := cB) (cZ := cZ) (N := N) (a_t := a_t) (a_t_rows := a_t_rows) (a_t_tape := a_t_tape) (a_t_reader := a_t_reader) (a_t_now := a_t_now) (a_t_trial := a_t_trial) (a_t_acts := a_t_acts) (a_t_ways := a_t_ways) (a_t_asks := a_t_asks) (a_t_images := a_t_images) (a_t_imageKept := a_t_imageKept) (l1 := r58.1) (t_latestFault := t_latestFault) (t_latestFinding := t_latestFinding)) rfl ⟨rfl, rfl⟩ gX8_set_X8_fine hvX8_fine 0 8 rfl rfl rfl ⟨Nat.le_of_ble_eq_true rfl, Nat.le_of_ble_eq_true rfl⟩ ⟨Nat.zero_le _, Nat.zero_le _⟩ rfl (Nat.le_of_ble_eq_true rfl) rfl (by decide) (fun _ => rfl) dX8_set_61 hR (fun r61 hR => ?_)
          refine z_eq [(a_t, .inr (8, [.ref a_t_rows, .ref a_t_tape, .ref a_t_reader, .ref a_t_now, .ref a_t_trial, .ref a_t_acts, .ref a_t_ways, .ref a_t_asks, .ref a_t_images, .ref a_t_imageKept, .int t_latestFault, .int r61.2])), (a_t_rows, .inr (5, [.ref a_t_rows_lane, .ref a_t_rows_size, .ref a_t_rows_items])), (a_t_rows_lane, .inl (cI, 8, .inl t_rows_lane)), (a_t_rows_size, .inl (cI, 8, .inl t_rows_size)), (a_t_rows_items, .inl (cI, 320, .inl r58.2))] rfl ?_
          obtain rfl := Option.some.inj hR
          exact z_iret hC hQ rfl rfl rfl dX8_set_64
        · refine z_aload_n hC dX8_set_44 rfl 0 rfl ?_
          refine z_ic2 hC dX8_set_45 ?_
          refine z_callVi hC hN [.int 2] [0] (c_X8_found (l := zl E) (D := zD E) (cI := cI) (cB := cB) (cZ := cZ) (N := N) (a_t := a_t) (a_t_rows := a_t_rows) (a_t_tape := a_t_tape) (a_t_reader := a_t_reader) (a_t_now := a_t_now) (a_t_trial := a_t_trial) (a_t_acts := a_t_acts) (a_t_ways := a_t_ways) (a_t_asks := a_t_asks) (a_t_images := a_t_images) (a_t_imageKept := a_t_imageKept) (l1 := 2) (t_latestFault := t_latestFault) (t_latestFinding := t_latestFinding)) rfl ⟨rfl, rfl⟩ gX8_set_X8_found hvX8_found 0 8 rfl rfl rfl ⟨Nat.le_of_ble_eq_true rfl, Nat.le_of_ble_eq_true rfl⟩ ⟨Nat.zero_le _, Nat.zero_le _⟩ rfl (Nat.le_of_ble_eq_true rfl) rfl (by decide) (fun _ => rfl) dX8_set_46 hR (fun r46 hR => ?_)
          refine z_eq [(a_t, .inr (8, [.ref a_t_rows, .ref a_t_tape, .ref a_t_reader, .ref a_t_now, .ref a_t_trial, .ref a_t_acts, .ref a_t_ways, .ref a_t_asks, .ref a_t_images, .ref a_t_imageKept, .int t_latestFault, .int r46.2])), (a_t_rows, .inr (5, [.ref a_t_rows_lane, .ref a_t_rows_size, .ref a_t_rows_items])), (a_t_rows_lane, .inl (cI, 8, .inl t_rows_lane)), (a_t_rows_size, .inl (cI, 8, .inl t_rows_size)), (a_t_rows_items, .inl (cI, 320, .inl t_rows_items))] rfl ?_
          obtain rfl := Option.some.inj hR
          exact z_iret hC hQ rfl rfl rfl dX8_set_49
    · refine z_aload_n hC dX8_set_21 rfl 0 rfl ?_
      refine z_ic1 hC dX8_set_22 ?_
      refine z_callVi hC hN [.int 1] [0] (c_X8_found (l := zl E) (D := zD E) (cI := cI) (cB := cB) (cZ := cZ) (N := N) (a_t := a_t) (a_t_rows := a_t_rows) (a_t_tape := a_t_tape) (a_t_reader := a_t_reader) (a_t_now := a_t_now) (a_t_trial := a_t_trial) (a_t_acts := a_t_acts) (a_t_ways := a_t_ways) (a_t_asks := a_t_asks) (a_t_images := a_t_images) (a_t_imageKept := a_t_imageKept) (l1 := 1) (t_latestFault := t_latestFault) (t_latestFinding := t_latestFinding)) rfl ⟨rfl, rfl⟩ gX8_set_X8_found hvX8_found 0 8 rfl rfl rfl ⟨Nat.le_of_ble_eq_true rfl, Nat.le_of_ble_eq_true rfl⟩ ⟨Nat.zero_le _, Nat.zero_le _⟩ rfl (Nat.le_of_ble_eq_true rfl) rfl (by decide) (fun _ => rfl) dX8_set_23 hR (fun r23 hR => ?_)
      refine z_eq [(a_t, .inr (8, [.ref a_t_rows, .ref a_t_tape, .ref a_t_reader, .ref a_t_now, .ref a_t_trial, .ref a_t_acts, .ref a_t_ways, .ref a_t_asks, .ref a_t_images, .ref a_t_imageKept, .int t_latestFault, .int r23.2])), (a_t_rows, .inr (5, [.ref a_t_rows_lane, .ref a_t_rows_size, .ref a_t_rows_items])), (a_t_rows_lane, .inl (cI, 8, .inl t_rows_lane)), (a_t_rows_size, .inl (cI, 8, .inl t_rows_size)), (a_t_rows_items, .inl (cI, 320, .inl t_rows_items))] rfl ?_
      obtain rfl := Option.some.inj hR
      exact z_iret hC hQ rfl rfl rfl dX8_set_26
  · refine z_ldc hC (-1000001) mX8_set_1 dX8_set_7 ?_
    obtain rfl := Option.some.inj hR
    exact z_iret hC hQ rfl rfl rfl dX8_set_9
set_option maxHeartbeats 4000000 in
set_option maxRecDepth 100000 in
theorem c_X8_set {sK sV : Nat → Nat} {l : Launch} {D : va_G} {cI cB cZ : ClassId} {N : Nat} {a_t : Nat} {a_t_rows : Nat} {a_t_rows_lane : Nat} {a_t_rows_size : Nat} {a_t_rows_items : Nat} {a_t_tape : Nat} {a_t_reader : Nat} {a_t_now : Nat} {a_t_trial : Nat} {a_t_acts : Nat} {a_t_ways : Nat} {a_t_asks : Nat} {a_t_images : Nat} {a_t_imageKept : Nat} {t_latestFault : Int32} {t_latestFinding : Int32} {t_rows_lane : (Nat → Int32)} {t_rows_size : (Nat → Int32)} {t_rows_items : (Nat → Int32)} {l1 : Int32} {l2 : Int32} {l3 : Int32} : ∀ R : Int32 × Int32 × (Nat → Int32), o_X8_set N t_latestFinding t_rows_lane t_rows_size t_rows_items l1 l2 l3 = some R → ZMi sK sV l yX8_set wsX8_set rmX8_set D (zty cI cB cZ) [.ref a_t, .int l1, .int l2, .int l3] [(a_t, .inr (8, [.ref a_t_rows, .ref a_t_tape, .ref a_t_reader, .ref a_t_now, .ref a_t_trial, .ref a_t_acts, .ref a_t_ways, .ref a_t_asks, .ref a_t_images, .ref a_t_imageKept, .int t_latestFault, .int t_latestFinding])), (a_t_rows, .inr (5, [.ref a_t_rows_lane, .ref a_t_rows_size, .ref a_t_rows_items])), (a_t_rows_lane, .inl (cI, 8, .inl t_rows_lane)), (a_t_rows_size, .inl (cI, 8, .inl t_rows_size)), (a_t_rows_items, .inl (cI, 320, .inl t_rows_items))] R.1 [(a_t, .inr (8, [.ref a_t_rows, .ref a_t_tape, .ref a_t_reader, .ref a_t_now, .ref a_t_trial, .ref a_t_acts, .ref a_t_ways, .ref a_t_asks, .ref a_t_images, .ref a_t_imageKept, .int t_latestFault, .int R.2.1])), (a_t_rows, .inr (5, [.ref a_t_rows_lane, .ref a_t_rows_size, .ref a_t_rows_items])), (a_t_rows_lane, .inl (cI, 8, .inl t_rows_lane)), (a_t_rows_size, .inl (cI, 8, .inl t_rows_size)), (a_t_rows_items, .inl (cI, 320, .inl R.2.2))] := by
  intro R hR
  refine zi_of (cc := cX8_set) (maxL := 4) (ret := (some .int)) (by decide) rfl (Nat.le_of_ble_eq_true rfl) (fun E hE1 hE2 hC hN hQ => ?_)
  subst hE1 hE2
  exact z_X8_set_0 hC hN (N := N) (a_t := a_t) (a_t_rows := a_t_rows) (a_t_rows_lane := a_t_rows_lane) (a_t_rows_size := a_t_rows_size) (a_t_rows_items := a_t_rows_items) (a_t_tape := a_t_tape) (a_t_reader := a_t_reader) (a_t_now := a_t_now) (a_t_trial := a_t_trial) (a_t_acts := a_t_acts) (a_t_ways := a_t_ways) (a_t_asks := a_t_asks) (a_t_images := a_t_images) (a_t_imageKept := a_t_imageKept) (t_latestFault := t_latestFault) (t_latestFinding := t_latestFinding) (t_rows_lane := t_rows_lane) (t_rows_size := t_rows_size) (t_rows_items := t_rows_items) (l1 := l1) (l2 := l2) (l3 := l3) hQ hR

/-! FistTrains.copy -/
abbrev rmX8_copy : Room := { frames := 1, cells := 0, slots := 0, locals := 40 }
set_option maxRecDepth 20000 in
theorem mX8_copy_1 : Cond.constant RX8 82 (-1000001) ∈ wsX8_copy := List.mem_of_getElem? (i := 1) rfl
set_option maxRecDepth 20000 in
theorem iX8_copy_X8 : ∀ w ∈ wsX80, w ∈ wsX8_copy := by decide +kernel
set_option maxRecDepth 20000 in
theorem mX8_copy_2 : Cond.fieldLink RX8 10 "FistTrains" "rows" "LFistTrains$Rows;" ∈ wsX8_copy := List.mem_of_getElem? (i := 2) rfl
set_option maxRecDepth 20000 in
theorem iX8_copy_X5 : ∀ w ∈ wsX50, w ∈ wsX8_copy := by decide +kernel
set_option maxRecDepth 20000 in
theorem mX8_copy_3 : Cond.fieldLink RX8 104 "FistTrains$Rows" "lane" "[I" ∈ wsX8_copy := List.mem_of_getElem? (i := 3) rfl
set_option maxRecDepth 20000 in
theorem mX8_copy_4 : Cond.fieldLink RX8 111 "FistTrains$Rows" "items" "[I" ∈ wsX8_copy := List.mem_of_getElem? (i := 4) rfl
set_option maxRecDepth 20000 in
theorem mX8_copy_5 : Cond.methodLink RX8 118 arraycopyName ∈ wsX8_copy := List.mem_of_getElem? (i := 5) rfl
set_option maxRecDepth 20000 in
theorem mX8_copy_6 : Cond.native arraycopyName ∈ wsX8_copy := List.mem_of_getElem? (i := 6) rfl
set_option maxRecDepth 20000 in
theorem mX8_copy_7 : Cond.static arraycopyName ∈ wsX8_copy := List.mem_of_getElem? (i := 7) rfl
set_option maxRecDepth 20000 in
theorem mX8_copy_8 : Cond.initialized "java/lang/System" ∈ wsX8_copy := List.mem_of_getElem? (i := 8) rfl
def o_X8_copy (N : Nat) (t_latestFinding : Int32) (t_rows_lane : (Nat → Int32)) (t_rows_size : (Nat → Int32)) (t_rows_items : (Nat → Int32)) (l1 : Int32) (l2 : Int32) (l3 : Int32) (l4 : Int32) (l5 : Int32) : Option (Int32 × Int32 × (Nat → Int32)) :=
  Option.bind (o_X8_isRow N l1) (fun r1 =>
  if r1 = 0 then
    some ((-1000001), t_latestFinding, t_rows_items)
  else
    Option.bind (o_X8_isRow N l3) (fun r8 =>
    if r8 = 0 then
      some ((-1000001), t_latestFinding, t_rows_items)
    else
      Option.bind (o_X5_isMissing N t_rows_lane l1) (fun r22 =>
      if r22 = 0 then
        Option.bind (o_X5_isMissing N t_rows_lane l3) (fun r33 =>
        if r33 = 0 then
          ogd (inb l1 8) (
          ogd (inb l3 8) (
          if (t_rows_lane (Int32.toNatClampNeg l1)) = (t_rows_lane (Int32.toNatClampNeg l3)) then
            Option.bind (o_X5_hasPlaces N t_rows_size l1 l2 l5) (fun r80 =>
            if r80 = 0 then
              Option.bind (o_X8_found N 2) (fun r103 =>
              some (r103.1, r103.2, t_rows_items))
            else
              Option.bind (o_X5_hasPlaces N t_rows_size l3 l4 l5) (fun r95 =>
              if r95 = 0 then
                Option.bind (o_X8_found N 2) (fun r103 =>
                some (r103.1, r103.2, t_rows_items))
              else
                Option.bind (o_X5_placeOf N l1 l2) (fun r120 =>
                Option.bind (o_X5_placeOf N l3 l4) (fun r137 =>
                ogd (acp r120 r137 l5 320 320) (
                Option.bind (o_X8_fine N l5) (fun r148 =>
                some (r148.1, r148.2, (va_cpy t_rows_items t_rows_items (Int32.toNatClampNeg r120) (Int32.toNatClampNeg r137) (Int32.toNatClampNeg l5)))))))))
          else
            Option.bind (o_X8_found N 5) (fun r68 =>
            some (r68.1, r68.2, t_rows_items))))
        else
          Option.bind (o_X8_found N 1) (fun r41 =>
          some (r41.1, r41.2, t_rows_items)))
      else
        Option.bind (o_X8_found N 1) (fun r41 =>
        some (r41.1, r41.2, t_rows_items)))))
set_option maxHeartbeats 4000000 in
set_option maxRecDepth 100000 in
theorem z_X8_copy_0 {sK sV : Nat → Nat} {E : ZE} {cI cB cZ : ClassId} (hC : ZC E 6 cX8_copy wsX8_copy RX8 rmX8_copy (some .int) (zty cI cB cZ)) (hN : ZN sK sV (zA E) (zs E)) {N : Nat} {a_t : Nat} {a_t_rows : Nat} {a_t_rows_lane : Nat} {a_t_rows_size : Nat} {a_t_rows_items : Nat} {a_t_tape : Nat} {a_t_reader : Nat} {a_t_now : Nat} {a_t_trial : Nat} {a_t_acts : Nat} {a_t_ways : Nat} {a_t_asks : Nat} {a_t_images : Nat} {a_t_imageKept : Nat} {t_latestFault : Int32} {t_latestFinding : Int32} {t_rows_lane : (Nat → Int32)} {t_rows_size : (Nat → Int32)} {t_rows_items : (Nat → Int32)} {l1 : Int32} {l2 : Int32} {l3 : Int32} {l4 : Int32} {l5 : Int32} {rf : Int32 × Int32 × (Nat → Int32)} (hQ : ZQi E (zty cI cB cZ) rf.1 [(a_t, .inr (8, [.ref a_t_rows, .ref a_t_tape, .ref a_t_reader, .ref a_t_now, .ref a_t_trial, .ref a_t_acts, .ref a_t_ways, .ref a_t_asks, .ref a_t_images, .ref a_t_imageKept, .int t_latestFault, .int rf.2.1])), (a_t_rows, .inr (5, [.ref a_t_rows_lane, .ref a_t_rows_size, .ref a_t_rows_items])), (a_t_rows_lane, .inl (cI, 8, .inl t_rows_lane)), (a_t_rows_size, .inl (cI, 8, .inl t_rows_size)), (a_t_rows_items, .inl (cI, 320, .inl rf.2.2))]) (hR : o_X8_copy N t_latestFinding t_rows_lane t_rows_size t_rows_items l1 l2 l3 l4 l5 = some rf) : Z E (0, 0) [(0, .ref a_t), (1, .int l1), (2, .int l2), (3, .int l3), (4, .int l4), (5, .int l5)] 0 [] [(a_t, .inr (8, [.ref a_t_rows, .ref a_t_tape, .ref a_t_reader, .ref a_t_now, .ref a_t_trial, .ref a_t_acts, .ref a_t_ways, .ref a_t_asks, .ref a_t_images, .ref a_t_imageKept, .int t_latestFault, .int t_latestFinding])), (a_t_rows, .inr (5, [.ref a_t_rows_lane, .ref a_t_rows_size, .ref a_t_rows_items])), (a_t_rows_lane, .inl (cI, 8, .inl t_rows_lane)), (a_t_rows_size, .inl (cI, 8, .inl t_rows_size)), (a_t_rows_items, .inl (cI, 320, .inl t_rows_items))] := by
  rw [o_X8_copy] at hR
  refine z_iload_n hC dX8_copy_0 rfl 1 rfl ?_
  refine z_callSi_p hC hN [.int l1] [] (c_X8_isRow (l := zl E) (D := zD E) (cI := cI) (cB := cB) (cZ := cZ) (N := N) (l0 := l1)) rfl ⟨rfl, rfl⟩ gX8_copy_X8_isRow hsX8_isRow ⟨Nat.le_of_ble_eq_true rfl, Nat.le_of_ble_eq_true rfl⟩ ⟨Nat.zero_le _, Nat.zero_le _⟩ rfl (Nat.le_of_ble_eq_true rfl) rfl (by decide) dX8_copy_1 hR (fun r1 hR => ?_)
  refine z_if_eq hC 14 dX8_copy_4 (by decide) hR (fun hR => ?_) (fun hR => ?_)
  · refine z_ldc hC (-1000001) mX8_copy_1 dX8_copy_14 ?_
    obtain rfl := Option.some.inj hR
    exact z_iret hC hQ rfl rfl rfl dX8_copy_16
  · refine z_iload_n hC dX8_copy_7 rfl 3 rfl ?_
    refine z_callSi_p hC hN [.int l3] [] (c_X8_isRow (l := zl E) (D := zD E) (cI := cI) (cB := cB) (cZ := cZ) (N := N) (l0 := l3)) rfl ⟨rfl, rfl⟩ gX8_copy_X8_isRow hsX8_isRow ⟨Nat.le_of_ble_eq_true rfl, Nat.le_of_ble_eq_true rfl⟩ ⟨Nat.zero_le _, Nat.zero_le _⟩ rfl (Nat.le_of_ble_eq_true rfl) rfl (by decide) dX8_copy_8 hR (fun r8 hR => ?_)
    refine z_if_ne hC 17 dX8_copy_11 (by decide) hR (fun hR => ?_) (fun hR => ?_)
    · refine z_aload_n hC dX8_copy_17 rfl 0 rfl ?_
      refine z_get hC iX8_copy_X8 rfl 0 0 rfl (by decide) mX8_copy_2 rfl rfl dX8_copy_18 ?_
      refine z_iload_n hC dX8_copy_21 rfl 1 rfl ?_
      refine z_callVi_p hC hN [.int l1] [1, 2] (c_X5_isMissing (l := zl E) (D := zD E) (cI := cI) (cB := cB) (cZ := cZ) (N := N) (a_t := a_t_rows) (a_t_lane := a_t_rows_lane) (a_t_size := a_t_rows_size) (a_t_items := a_t_rows_items) (l1 := l1) (t_lane := t_rows_lane)) rfl ⟨rfl, rfl⟩ gX8_copy_X5_isMissing hvX5_isMissing 1 5 rfl rfl rfl ⟨Nat.le_of_ble_eq_true rfl, Nat.le_of_ble_eq_true rfl⟩ ⟨Nat.zero_le _, Nat.zero_le _⟩ rfl (Nat.le_of_ble_eq_true rfl) rfl (by decide) dX8_copy_22 hR (fun r22 hR => ?_)
      refine z_if_ne hC 39 dX8_copy_25 (by decide) hR (fun hR => ?_) (fun hR => ?_)
      · refine z_aload_n hC dX8_copy_39 rfl 0 rfl ?_
        refine z_ic1 hC dX8_copy_40 ?_
        refine z_callVi hC hN [.int 1] [0] (c_X8_found (l := zl E) (D := zD E) (cI := cI) (cB := cB) (cZ := cZ) (N := N) (a_t := a_t) (a_t_rows := a_t_rows) (a_t_tape := a_t_tape) (a_t_reader := a_t_reader) (a_t_now := a_t_now) (a_t_trial := a_t_trial) (a_t_acts := a_t_acts) (a_t_ways := a_t_ways) (a_t_asks := a_t_asks) (a_t_images := a_t_images) (a_t_imageKept := a_t_imageKept) (l1 := 1) (t_latestFault := t_latestFault) (t_latestFinding := t_latestFinding)) rfl ⟨rfl, rfl⟩ gX8_copy_X8_found hvX8_found 0 8 rfl rfl rfl ⟨Nat.le_of_ble_eq_true rfl, Nat.le_of_ble_eq_true rfl⟩ ⟨Nat.zero_le _, Nat.zero_le _⟩ rfl (Nat.le_of_ble_eq_true rfl) rfl (by decide) (fun _ => rfl) dX8_copy_41 hR (fun r41 hR => ?_)
        refine z_eq [(a_t, .inr (8, [.ref a_t_rows, .ref a_t_tape, .ref a_t_reader, .ref a_t_now, .ref a_t_trial, .ref a_t_acts, .ref a_t_ways, .ref a_t_asks, .ref a_t_images, .ref a_t_imageKept, .int t_latestFault, .int r41.2])), (a_t_rows, .inr (5, [.ref a_t_rows_lane, .ref a_t_rows_size, .ref a_t_rows_items])), (a_t_rows_lane, .inl (cI, 8, .inl t_rows_lane)), (a_t_rows_size, .inl (cI, 8, .inl t_rows_size)), (a_t_rows_items, .inl (cI, 320, .inl t_rows_items))] rfl ?_
        obtain rfl := Option.some.inj hR
        exact z_iret hC hQ rfl rfl rfl dX8_copy_44
      · refine z_aload_n hC dX8_copy_28 rfl 0 rfl ?_
        refine z_get hC iX8_copy_X8 rfl 0 0 rfl (by decide) mX8_copy_2 rfl rfl dX8_copy_29 ?_
        refine z_iload_n hC dX8_copy_32 rfl 3 rfl ?_
        refine z_callVi_p hC hN [.int l3] [1, 2] (c_X5_isMissing (l := zl E) (D := zD E) (cI := cI) (cB := cB) (cZ := cZ) (N := N) (a_t := a_t_rows) (a_t_lane := a_t_rows_lane) (a_t_size := a_t_rows_size) (a_t_items := a_t_rows_items) (l1 := l3) (t_lane := t_rows_lane)) rfl ⟨rfl, rfl⟩ gX8_copy_X5_isMissing hvX5_isMissing 1 5 rfl rfl rfl ⟨Nat.le_of_ble_eq_true rfl, Nat.le_of_ble_eq_true rfl⟩ ⟨Nat.zero_le _, Nat.zero_le _⟩ rfl (Nat.le_of_ble_eq_true rfl) rfl (by decide) dX8_copy_33 hR (fun r33 hR => ?_)
        refine z_if_eq hC 45 dX8_copy_36 (by decide) hR (fun hR => ?_) (fun hR => ?_)
        · refine z_aload_n hC dX8_copy_45 rfl 0 rfl ?_
          refine z_get hC iX8_copy_X8 rfl 0 0 rfl (by decide) mX8_copy_2 rfl rfl dX8_copy_46 ?_
          refine z_get hC iX8_copy_X5 rfl 1 0 rfl (by decide) mX8_copy_3 rfl rfl dX8_copy_49 ?_
          refine z_iload_n hC dX8_copy_52 rfl 1 rfl ?_
          refine z_iald hC 2 0 rfl rfl dX8_copy_53 hR (fun hR => ?_)
          refine z_aload_n hC dX8_copy_54 rfl 0 rfl ?_
          refine z_get hC iX8_copy_X8 rfl 0 0 rfl (by decide) mX8_copy_2 rfl rfl dX8_copy_55 ?_
          refine z_get hC iX8_copy_X5 rfl 1 0 rfl (by decide) mX8_copy_3 rfl rfl dX8_copy_58 ?_
          refine z_iload_n hC dX8_copy_61 rfl 3 rfl ?_
          refine z_iald hC 2 0 rfl rfl dX8_copy_62 hR (fun hR => ?_)
          refine z_icmp_eq hC 72 dX8_copy_63 (by decide) hR (fun hR => ?_) (fun hR => ?_)
          · refine z_aload_n hC dX8_copy_72 rfl 0 rfl ?_
            refine z_get hC iX8_copy_X8 rfl 0 0 rfl (by decide) mX8_copy_2 rfl rfl dX8_copy_73 ?_
            refine z_iload_n hC dX8_copy_76 rfl 1 rfl ?_
            refine z_iload_n hC dX8_copy_77 rfl 2 rfl ?_
            refine z_iload hC dX8_copy_78 5 rfl ?_
            refine z_callVi_p hC hN [.int l1, .int l2, .int l5] [1, 3] (c_X5_hasPlaces (l := zl E) (D := zD E) (cI := cI) (cB := cB) (cZ := cZ) (N := N) (a_t := a_t_rows) (a_t_lane := a_t_rows_lane) (a_t_size := a_t_rows_size) (a_t_items := a_t_rows_items) (l1 := l1) (l2 := l2) (l3 := l5) (t_size := t_rows_size)) rfl ⟨rfl, rfl⟩ gX8_copy_X5_hasPlaces hvX5_hasPlaces 1 5 rfl rfl rfl ⟨Nat.le_of_ble_eq_true rfl, Nat.le_of_ble_eq_true rfl⟩ ⟨Nat.zero_le _, Nat.zero_le _⟩ rfl (Nat.le_of_ble_eq_true rfl) rfl (by decide) dX8_copy_80 hR (fun r80 hR => ?_)
            refine z_if_eq hC 101 dX8_copy_83 (by decide) hR (fun hR => ?_) (fun hR => ?_)
            · refine z_aload_n hC dX8_copy_101 rfl 0 rfl ?_
              refine z_ic2 hC dX8_copy_102 ?_
              refine z_callVi hC hN [.int 2] [0] (c_X8_found (l := zl E) (D := zD E) (cI := cI) (cB := cB) (cZ := cZ) (N := N) (a_t := a_t) (a_t_rows := a_t_rows) (a_t_tape := a_t_tape) (a_t_reader := a_t_reader) (a_t_now := a_t_now) (a_t_trial := a_t_trial) (a_t_acts := a_t_acts) (a_t_ways := a_t_ways) (a_t_asks := a_t_asks) (a_t_images := a_t_images) (a_t_imageKept := a_t_imageKept) (l1 := 2) (t_latestFault := t_latestFault) (t_latestFinding := t_latestFinding)) rfl ⟨rfl, rfl⟩ gX8_copy_X8_found hvX8_found 0 8 rfl rfl rfl ⟨Nat.le_of_ble_eq_true rfl, Nat.le_of_ble_eq_true rfl⟩ ⟨Nat.zero_le _, Nat.zero_le _⟩ rfl (Nat.le_of_ble_eq_true rfl) rfl (by decide) (fun _ => rfl) dX8_copy_103 hR (fun r103 hR => ?_)
              refine z_eq [(a_t, .inr (8, [.ref a_t_rows, .ref a_t_tape, .ref a_t_reader, .ref a_t_now, .ref a_t_trial, .ref a_t_acts, .ref a_t_ways, .ref a_t_asks, .ref a_t_images, .ref a_t_imageKept, .int t_latestFault, .int r103.2])), (a_t_rows, .inr (5, [.ref a_t_rows_lane, .ref a_t_rows_size, .ref a_t_rows_items])), (a_t_rows_lane, .inl (cI, 8, .inl t_rows_lane)), (a_t_rows_size, .inl (cI, 8, .inl t_rows_size)), (a_t_rows_items, .inl (cI, 320, .inl t_rows_items))] rfl ?_
              obtain rfl := Option.some.inj hR
              exact z_iret hC hQ rfl rfl rfl dX8_copy_106
            · refine z_aload_n hC dX8_copy_86 rfl 0 rfl ?_
              refine z_get hC iX8_copy_X8 rfl 0 0 rfl (by decide) mX8_copy_2 rfl rfl dX8_copy_87 ?_
              refine z_iload_n hC dX8_copy_90 rfl 3 rfl ?_
              refine z_iload hC dX8_copy_91 4 rfl ?_
              refine z_iload hC dX8_copy_93 5 rfl ?_
              refine z_callVi_p hC hN [.int l3, .int l4, .int l5] [1, 3] (c_X5_hasPlaces (l := zl E) (D := zD E) (cI := cI) (cB := cB) (cZ := cZ) (N := N) (a_t := a_t_rows) (a_t_lane := a_t_rows_lane) (a_t_size := a_t_rows_size) (a_t_items := a_t_rows_items) (l1 := l3) (l2 := l4) (l3 := l5) (t_size := t_rows_size)) rfl ⟨rfl, rfl⟩ gX8_copy_X5_hasPlaces hvX5_hasPlaces 1 5 rfl rfl rfl ⟨Nat.le_of_ble_eq_true rfl, Nat.le_of_ble_eq_true rfl⟩ ⟨Nat.zero_le _, Nat.zero_le _⟩ rfl (Nat.le_of_ble_eq_true rfl) rfl (by decide) dX8_copy_95 hR (fun r95 hR => ?_)
              refine z_if_ne hC 107 dX8_copy_98 (by decide) hR (fun hR => ?_) (fun hR => ?_)
              · refine z_aload_n hC dX8_copy_107 rfl 0 rfl ?_
                refine z_get hC iX8_copy_X8 rfl 0 0 rfl (by decide) mX8_copy_2 rfl rfl dX8_copy_108 ?_
                refine z_get hC iX8_copy_X5 rfl 1 2 rfl (by decide) mX8_copy_4 rfl rfl dX8_copy_111 ?_
                refine z_aload_n hC dX8_copy_114 rfl 0 rfl ?_
                refine z_get hC iX8_copy_X8 rfl 0 0 rfl (by decide) mX8_copy_2 rfl rfl dX8_copy_115 ?_
                refine z_iload_n hC dX8_copy_118 rfl 1 rfl ?_
                refine z_iload_n hC dX8_copy_119 rfl 2 rfl ?_
                refine z_callVi_p hC hN [.int l1, .int l2] [1] (c_X5_placeOf (l := zl E) (D := zD E) (cI := cI) (cB := cB) (cZ := cZ) (N := N) (a_t := a_t_rows) (a_t_lane := a_t_rows_lane) (a_t_size := a_t_rows_size) (a_t_items := a_t_rows_items) (l1 := l1) (l2 := l2)) rfl ⟨rfl, rfl⟩ gX8_copy_X5_placeOf hvX5_placeOf 1 5 rfl rfl rfl ⟨Nat.le_of_ble_eq_true rfl, Nat.le_of_ble_eq_true rfl⟩ ⟨Nat.zero_le _, Nat.zero_le _⟩ rfl (Nat.le_of_ble_eq_true rfl) rfl (by decide) dX8_copy_120 hR (fun r120 hR => ?_)
                refine z_aload_n hC dX8_copy_123 rfl 0 rfl ?_
                refine z_get hC iX8_copy_X8 rfl 0 0 rfl (by decide) mX8_copy_2 rfl rfl dX8_copy_124 ?_
                refine z_get hC iX8_copy_X5 rfl 1 2 rfl (by decide) mX8_copy_4 rfl rfl dX8_copy_127 ?_
                refine z_aload_n hC dX8_copy_130 rfl 0 rfl ?_
                refine z_get hC iX8_copy_X8 rfl 0 0 rfl (by decide) mX8_copy_2 rfl rfl dX8_copy_131 ?_
                refine z_iload_n hC dX8_copy_134 rfl 3 rfl ?_
                refine z_iload hC dX8_copy_135 4 rfl ?_
                refine z_callVi_p hC hN [.int l3, .int l4] [1] (c_X5_placeOf (l := zl E) (D := zD E) (cI := cI) (cB := cB) (cZ := cZ) (N := N) (a_t := a_t_rows) (a_t_lane := a_t_rows_lane) (a_t_size := a_t_rows_size) (a_t_items := a_t_rows_items) (l1 := l3) (l2 := l4)) rfl ⟨rfl, rfl⟩ gX8_copy_X5_placeOf hvX5_placeOf 1 5 rfl rfl rfl ⟨Nat.le_of_ble_eq_true rfl, Nat.le_of_ble_eq_true rfl⟩ ⟨Nat.zero_le _, Nat.zero_le _⟩ rfl (Nat.le_of_ble_eq_true rfl) rfl (by decide) dX8_copy_137 hR (fun r137 hR => ?_)
                refine z_iload hC dX8_copy_140 5 rfl ?_
                refine z_acopy hC 4 4 0 mX8_copy_5 mX8_copy_6 mX8_copy_7 mX8_copy_8 rfl rfl rfl rfl (Nat.le_of_ble_eq_true rfl) (Nat.le_of_ble_eq_true rfl) dX8_copy_142 hR (fun hR => ?_)
                refine z_aload_n hC dX8_copy_145 rfl 0 rfl ?_
                refine z_iload hC dX8_copy_146 5 rfl ?_
                refine z_callVi hC hN [.int l5] [0] (c_X8_fine (l := zl E) (D := zD E) (cI := cI) (cB := cB) (cZ := cZ) (N := N) (a_t := a_t) (a_t_rows := a_t_rows) (a_t_tape := a_t_tape) (a_t_reader := a_t_reader) (a_t_now := a_t_now) (a_t_trial := a_t_trial) (a_t_acts := a_t_acts) (a_t_ways := a_t_ways) (a_t_asks := a_t_asks) (a_t_images := a_t_images) (a_t_imageKept := a_t_imageKept) (l1 := l5) (t_latestFault := t_latestFault) (t_latestFinding := t_latestFinding)) rfl ⟨rfl, rfl⟩ gX8_copy_X8_fine hvX8_fine 0 8 rfl rfl rfl ⟨Nat.le_of_ble_eq_true rfl, Nat.le_of_ble_eq_true rfl⟩ ⟨Nat.zero_le _, Nat.zero_le _⟩ rfl (Nat.le_of_ble_eq_true rfl) rfl (by decide) (fun _ => rfl) dX8_copy_148 hR (fun r148 hR => ?_)
                refine z_eq [(a_t, .inr (8, [.ref a_t_rows, .ref a_t_tape, .ref a_t_reader, .ref a_t_now, .ref a_t_trial, .ref a_t_acts, .ref a_t_ways, .ref a_t_asks, .ref a_t_images, .ref a_t_imageKept, .int t_latestFault, .int r148.2])), (a_t_rows, .inr (5, [.ref a_t_rows_lane, .ref a_t_rows_size, .ref a_t_rows_items])), (a_t_rows_lane, .inl (cI, 8, .inl t_rows_lane)), (a_t_rows_size, .inl (cI, 8, .inl t_rows_size)), (a_t_rows_items, .inl (cI, 320, .inl (va_cpy t_rows_items t_rows_items (Int32.toNatClampNeg r120) (Int32.toNatClampNeg r137) (Int32.toNatClampNeg l5))))] rfl ?_
                obtain rfl := Option.some.inj hR
                exact z_iret hC hQ rfl rfl rfl dX8_copy_151
              · refine z_aload_n hC dX8_copy_101 rfl 0 rfl ?_
                refine z_ic2 hC dX8_copy_102 ?_
                refine z_callVi hC hN [.int 2] [0] (c_X8_found (l := zl E) (D := zD E) (cI := cI) (cB := cB) (cZ := cZ) (N := N) (a_t := a_t) (a_t_rows := a_t_rows) (a_t_tape := a_t_tape) (a_t_reader := a_t_reader) (a_t_now := a_t_now) (a_t_trial := a_t_trial) (a_t_acts := a_t_acts) (a_t_ways := a_t_ways) (a_t_asks := a_t_asks) (a_t_images := a_t_images) (a_t_imageKept := a_t_imageKept) (l1 := 2) (t_latestFault := t_latestFault) (t_latestFinding := t_latestFinding)) rfl ⟨rfl, rfl⟩ gX8_copy_X8_found hvX8_found 0 8 rfl rfl rfl ⟨Nat.le_of_ble_eq_true rfl, Nat.le_of_ble_eq_true rfl⟩ ⟨Nat.zero_le _, Nat.zero_le _⟩ rfl (Nat.le_of_ble_eq_true rfl) rfl (by decide) (fun _ => rfl) dX8_copy_103 hR (fun r103 hR => ?_)
                refine z_eq [(a_t, .inr (8, [.ref a_t_rows, .ref a_t_tape, .ref a_t_reader, .ref a_t_now, .ref a_t_trial, .ref a_t_acts, .ref a_t_ways, .ref a_t_asks, .ref a_t_images, .ref a_t_imageKept, .int t_latestFault, .int r103.2])), (a_t_rows, .inr (5, [.ref a_t_rows_lane, .ref a_t_rows_size, .ref a_t_rows_items])), (a_t_rows_lane, .inl (cI, 8, .inl t_rows_lane)), (a_t_rows_size, .inl (cI, 8, .inl t_rows_size)), (a_t_rows_items, .inl (cI, 320, .inl t_rows_items))] rfl ?_
                obtain rfl := Option.some.inj hR
                exact z_iret hC hQ rfl rfl rfl dX8_copy_106
          · refine z_aload_n hC dX8_copy_66 rfl 0 rfl ?_
            refine z_ic5 hC dX8_copy_67 ?_
            refine z_callVi hC hN [.int 5] [0] (c_X8_found (l := zl E) (D := zD E) (cI := cI) (cB := cB) (cZ := cZ) (N := N) (a_t := a_t) (a_t_rows := a_t_rows) (a_t_tape := a_t_tape) (a_t_reader := a_t_reader) (a_t_now := a_t_now) (a_t_trial := a_t_trial) (a_t_acts := a_t_acts) (a_t_ways := a_t_ways) (a_t_asks := a_t_asks) (a_t_images := a_t_images) (a_t_imageKept := a_t_imageKept) (l1 := 5) (t_latestFault := t_latestFault) (t_latestFinding := t_latestFinding)) rfl ⟨rfl, rfl⟩ gX8_copy_X8_found hvX8_found 0 8 rfl rfl rfl ⟨Nat.le_of_ble_eq_true rfl, Nat.le_of_ble_eq_true rfl⟩ ⟨Nat.zero_le _, Nat.zero_le _⟩ rfl (Nat.le_of_ble_eq_true rfl) rfl (by decide) (fun _ => rfl) dX8_copy_68 hR (fun r68 hR => ?_)
            refine z_eq [(a_t, .inr (8, [.ref a_t_rows, .ref a_t_tape, .ref a_t_reader, .ref a_t_now, .ref a_t_trial, .ref a_t_acts, .ref a_t_ways, .ref a_t_asks, .ref a_t_images, .ref a_t_imageKept, .int t_latestFault, .int r68.2])), (a_t_rows, .inr (5, [.ref a_t_rows_lane, .ref a_t_rows_size, .ref a_t_rows_items])), (a_t_rows_lane, .inl (cI, 8, .inl t_rows_lane)), (a_t_rows_size, .inl (cI, 8, .inl t_rows_size)), (a_t_rows_items, .inl (cI, 320, .inl t_rows_items))] rfl ?_
            obtain rfl := Option.some.inj hR
            exact z_iret hC hQ rfl rfl rfl dX8_copy_71
        · refine z_aload_n hC dX8_copy_39 rfl 0 rfl ?_
          refine z_ic1 hC dX8_copy_40 ?_
          refine z_callVi hC hN [.int 1] [0] (c_X8_found (l := zl E) (D := zD E) (cI := cI) (cB := cB) (cZ := cZ) (N := N) (a_t := a_t) (a_t_rows := a_t_rows) (a_t_tape := a_t_tape) (a_t_reader := a_t_reader) (a_t_now := a_t_now) (a_t_trial := a_t_trial) (a_t_acts := a_t_acts) (a_t_ways := a_t_ways) (a_t_asks := a_t_asks) (a_t_images := a_t_images) (a_t_imageKept := a_t_imageKept) (l1 := 1) (t_latestFault := t_latestFault) (t_latestFinding := t_latestFinding)) rfl ⟨rfl, rfl⟩ gX8_copy_X8_found hvX8_found 0 8 rfl rfl rfl ⟨Nat.le_of_ble_eq_true rfl, Nat.le_of_ble_eq_true rfl⟩ ⟨Nat.zero_le _, Nat.zero_le _⟩ rfl (Nat.le_of_ble_eq_true rfl) rfl (by decide) (fun _ => rfl) dX8_copy_41 hR (fun r41 hR => ?_)
          refine z_eq [(a_t, .inr (8, [.ref a_t_rows, .ref a_t_tape, .ref a_t_reader, .ref a_t_now, .ref a_t_trial, .ref a_t_acts, .ref a_t_ways, .ref a_t_asks, .ref a_t_images, .ref a_t_imageKept, .int t_latestFault, .int r41.2])), (a_t_rows, .inr (5, [.ref a_t_rows_lane, .ref a_t_rows_size, .ref a_t_rows_items])), (a_t_rows_lane, .inl (cI, 8, .inl t_rows_lane)), (a_t_rows_size, .inl (cI, 8, .inl t_rows_size)), (a_t_rows_items, .inl (cI, 320, .inl t_rows_items))] rfl ?_
          obtain rfl := Option.some.inj hR
          exact z_iret hC hQ rfl rfl rfl dX8_copy_44
    · refine z_ldc hC (-1000001) mX8_copy_1 dX8_copy_14 ?_
      obtain rfl := Option.some.inj hR
      exact z_iret hC hQ rfl rfl rfl dX8_copy_16
set_option maxHeartbeats 4000000 in
set_option maxRecDepth 100000 in
theorem c_X8_copy {sK sV : Nat → Nat} {l : Launch} {D : va_G} {cI cB cZ : ClassId} {N : Nat} {a_t : Nat} {a_t_rows : Nat} {a_t_rows_lane : Nat} {a_t_rows_size : Nat} {a_t_rows_items : Nat} {a_t_tape : Nat} {a_t_reader : Nat} {a_t_now : Nat} {a_t_trial : Nat} {a_t_acts : Nat} {a_t_ways : Nat} {a_t_asks : Nat} {a_t_images : Nat} {a_t_imageKept : Nat} {t_latestFault : Int32} {t_latestFinding : Int32} {t_rows_lane : (Nat → Int32)} {t_rows_size : (Nat → Int32)} {t_rows_items : (Nat → Int32)} {l1 : Int32} {l2 : Int32} {l3 : Int32} {l4 : Int32} {l5 : Int32} : ∀ R : Int32 × Int32 × (Nat → Int32), o_X8_copy N t_latestFinding t_rows_lane t_rows_size t_rows_items l1 l2 l3 l4 l5 = some R → ZMi sK sV l yX8_copy wsX8_copy rmX8_copy D (zty cI cB cZ) [.ref a_t, .int l1, .int l2, .int l3, .int l4, .int l5] [(a_t, .inr (8, [.ref a_t_rows, .ref a_t_tape, .ref a_t_reader, .ref a_t_now, .ref a_t_trial, .ref a_t_acts, .ref a_t_ways, .ref a_t_asks, .ref a_t_images, .ref a_t_imageKept, .int t_latestFault, .int t_latestFinding])), (a_t_rows, .inr (5, [.ref a_t_rows_lane, .ref a_t_rows_size, .ref a_t_rows_items])), (a_t_rows_lane, .inl (cI, 8, .inl t_rows_lane)), (a_t_rows_size, .inl (cI, 8, .inl t_rows_size)), (a_t_rows_items, .inl (cI, 320, .inl t_rows_items))] R.1 [(a_t, .inr (8, [.ref a_t_rows, .ref a_t_tape, .ref a_t_reader, .ref a_t_now, .ref a_t_trial, .ref a_t_acts, .ref a_t_ways, .ref a_t_asks, .ref a_t_images, .ref a_t_imageKept, .int t_latestFault, .int R.2.1])), (a_t_rows, .inr (5, [.ref a_t_rows_lane, .ref a_t_rows_size, .ref a_t_rows_items])), (a_t_rows_lane, .inl (cI, 8, .inl t_rows_lane)), (a_t_rows_size, .inl (cI, 8, .inl t_rows_size)), (a_t_rows_items, .inl (cI, 320, .inl R.2.2))] := by
  intro R hR
  refine zi_of (cc := cX8_copy) (maxL := 6) (ret := (some .int)) (by decide) rfl (Nat.le_of_ble_eq_true rfl) (fun E hE1 hE2 hC hN hQ => ?_)
  subst hE1 hE2
  exact z_X8_copy_0 hC hN (N := N) (a_t := a_t) (a_t_rows := a_t_rows) (a_t_rows_lane := a_t_rows_lane) (a_t_rows_size := a_t_rows_size) (a_t_rows_items := a_t_rows_items) (a_t_tape := a_t_tape) (a_t_reader := a_t_reader) (a_t_now := a_t_now) (a_t_trial := a_t_trial) (a_t_acts := a_t_acts) (a_t_ways := a_t_ways) (a_t_asks := a_t_asks) (a_t_images := a_t_images) (a_t_imageKept := a_t_imageKept) (t_latestFault := t_latestFault) (t_latestFinding := t_latestFinding) (t_rows_lane := t_rows_lane) (t_rows_size := t_rows_size) (t_rows_items := t_rows_items) (l1 := l1) (l2 := l2) (l3 := l3) (l4 := l4) (l5 := l5) hQ hR

/-! FistTrains.drop -/
abbrev rmX8_drop : Room := { frames := 1, cells := 0, slots := 0, locals := 22 }
set_option maxRecDepth 20000 in
theorem iX8_drop_X8 : ∀ w ∈ wsX80, w ∈ wsX8_drop := by decide +kernel
set_option maxRecDepth 20000 in
theorem mX8_drop_2 : Cond.fieldLink RX8 10 "FistTrains" "rows" "LFistTrains$Rows;" ∈ wsX8_drop := List.mem_of_getElem? (i := 2) rfl
set_option maxRecDepth 20000 in
theorem mX8_drop_1 : Cond.constant RX8 82 (-1000001) ∈ wsX8_drop := List.mem_of_getElem? (i := 1) rfl
def o_X8_drop (N : Nat) (t_latestFinding : Int32) (t_rows_lane : (Nat → Int32)) (t_rows_size : (Nat → Int32)) (l1 : Int32) : Option (Int32 × Int32 × (Nat → Int32) × (Nat → Int32)) :=
  Option.bind (o_X8_isRow N l1) (fun r1 =>
  if r1 = 0 then
    some ((-1000001), t_latestFinding, t_rows_lane, t_rows_size)
  else
    Option.bind (o_X5_isMissing N t_rows_lane l1) (fun r15 =>
    if r15 = 0 then
      Option.bind (o_X5_remove N t_rows_lane t_rows_size l1) (fun r33 =>
      Option.bind (o_X8_fine N r33.1) (fun r36 =>
      some (r36.1, r36.2, r33.2.1, r33.2.2)))
    else
      Option.bind (o_X8_found N 1) (fun r23 =>
      some (r23.1, r23.2, t_rows_lane, t_rows_size))))
set_option maxHeartbeats 4000000 in
set_option maxRecDepth 100000 in
theorem z_X8_drop_0 {sK sV : Nat → Nat} {E : ZE} {cI cB cZ : ClassId} (hC : ZC E 2 cX8_drop wsX8_drop RX8 rmX8_drop (some .int) (zty cI cB cZ)) (hN : ZN sK sV (zA E) (zs E)) {N : Nat} {a_t : Nat} {a_t_rows : Nat} {a_t_rows_lane : Nat} {a_t_rows_size : Nat} {a_t_tape : Nat} {a_t_reader : Nat} {a_t_now : Nat} {a_t_trial : Nat} {a_t_acts : Nat} {a_t_ways : Nat} {a_t_asks : Nat} {a_t_images : Nat} {a_t_imageKept : Nat} {a_t_rows_items : Nat} {t_latestFault : Int32} {t_latestFinding : Int32} {t_rows_lane : (Nat → Int32)} {t_rows_size : (Nat → Int32)} {l1 : Int32} {rf : Int32 × Int32 × (Nat → Int32) × (Nat → Int32)} (hQ : ZQi E (zty cI cB cZ) rf.1 [(a_t, .inr (8, [.ref a_t_rows, .ref a_t_tape, .ref a_t_reader, .ref a_t_now, .ref a_t_trial, .ref a_t_acts, .ref a_t_ways, .ref a_t_asks, .ref a_t_images, .ref a_t_imageKept, .int t_latestFault, .int rf.2.1])), (a_t_rows, .inr (5, [.ref a_t_rows_lane, .ref a_t_rows_size, .ref a_t_rows_items])), (a_t_rows_lane, .inl (cI, 8, .inl rf.2.2.1)), (a_t_rows_size, .inl (cI, 8, .inl rf.2.2.2))]) (hR : o_X8_drop N t_latestFinding t_rows_lane t_rows_size l1 = some rf) : Z E (0, 0) [(0, .ref a_t), (1, .int l1)] 0 [] [(a_t, .inr (8, [.ref a_t_rows, .ref a_t_tape, .ref a_t_reader, .ref a_t_now, .ref a_t_trial, .ref a_t_acts, .ref a_t_ways, .ref a_t_asks, .ref a_t_images, .ref a_t_imageKept, .int t_latestFault, .int t_latestFinding])), (a_t_rows, .inr (5, [.ref a_t_rows_lane, .ref a_t_rows_size, .ref a_t_rows_items])), (a_t_rows_lane, .inl (cI, 8, .inl t_rows_lane)), (a_t_rows_size, .inl (cI, 8, .inl t_rows_size))] := by
  rw [o_X8_drop] at hR
  refine z_iload_n hC dX8_drop_0 rfl 1 rfl ?_
  refine z_callSi_p hC hN [.int l1] [] (c_X8_isRow (l := zl E) (D := zD E) (cI := cI) (cB := cB) (cZ := cZ) (N := N) (l0 := l1)) rfl ⟨rfl, rfl⟩ gX8_drop_X8_isRow hsX8_isRow ⟨Nat.le_of_ble_eq_true rfl, Nat.le_of_ble_eq_true rfl⟩ ⟨Nat.zero_le _, Nat.zero_le _⟩ rfl (Nat.le_of_ble_eq_true rfl) rfl (by decide) dX8_drop_1 hR (fun r1 hR => ?_)
  refine z_if_ne hC 10 dX8_drop_4 (by decide) hR (fun hR => ?_) (fun hR => ?_)
  · refine z_aload_n hC dX8_drop_10 rfl 0 rfl ?_
    refine z_get hC iX8_drop_X8 rfl 0 0 rfl (by decide) mX8_drop_2 rfl rfl dX8_drop_11 ?_
    refine z_iload_n hC dX8_drop_14 rfl 1 rfl ?_
    refine z_callVi_p hC hN [.int l1] [1, 2] (c_X5_isMissing (l := zl E) (D := zD E) (cI := cI) (cB := cB) (cZ := cZ) (N := N) (a_t := a_t_rows) (a_t_lane := a_t_rows_lane) (a_t_size := a_t_rows_size) (a_t_items := a_t_rows_items) (l1 := l1) (t_lane := t_rows_lane)) rfl ⟨rfl, rfl⟩ gX8_drop_X5_isMissing hvX5_isMissing 1 5 rfl rfl rfl ⟨Nat.le_of_ble_eq_true rfl, Nat.le_of_ble_eq_true rfl⟩ ⟨Nat.zero_le _, Nat.zero_le _⟩ rfl (Nat.le_of_ble_eq_true rfl) rfl (by decide) dX8_drop_15 hR (fun r15 hR => ?_)
    refine z_if_eq hC 27 dX8_drop_18 (by decide) hR (fun hR => ?_) (fun hR => ?_)
    · refine z_aload_n hC dX8_drop_27 rfl 0 rfl ?_
      refine z_aload_n hC dX8_drop_28 rfl 0 rfl ?_
      refine z_get hC iX8_drop_X8 rfl 0 0 rfl (by decide) mX8_drop_2 rfl rfl dX8_drop_29 ?_
      refine z_iload_n hC dX8_drop_32 rfl 1 rfl ?_
      refine z_callVi hC hN [.int l1] [1, 2, 3] (c_X5_remove (l := zl E) (D := zD E) (cI := cI) (cB := cB) (cZ := cZ) (N := N) (a_t := a_t_rows) (a_t_lane := a_t_rows_lane) (a_t_size := a_t_rows_size) (a_t_items := a_t_rows_items) (l1 := l1) (t_lane := t_rows_lane) (t_size := t_rows_size)) rfl ⟨rfl, rfl⟩ gX8_drop_X5_remove hvX5_remove 1 5 rfl rfl rfl ⟨Nat.le_of_ble_eq_true rfl, Nat.le_of_ble_eq_true rfl⟩ ⟨Nat.zero_le _, Nat.zero_le _⟩ rfl (Nat.le_of_ble_eq_true rfl) rfl (by decide) (fun _ => rfl) dX8_drop_33 hR (fun r33 hR => ?_)
      refine z_eq [(a_t, .inr (8, [.ref a_t_rows, .ref a_t_tape, .ref a_t_reader, .ref a_t_now, .ref a_t_trial, .ref a_t_acts, .ref a_t_ways, .ref a_t_asks, .ref a_t_images, .ref a_t_imageKept, .int t_latestFault, .int t_latestFinding])), (a_t_rows, .inr (5, [.ref a_t_rows_lane, .ref a_t_rows_size, .ref a_t_rows_items])), (a_t_rows_lane, .inl (cI, 8, .inl r33.2.1)), (a_t_rows_size, .inl (cI, 8, .inl r33.2.2))] rfl ?_
      refine z_callVi hC hN [.int r33.1] [0] (c_X8_fine (l := zl E) (D := zD E) (cI := cI) (cB := cB) (cZ := cZ) (N := N) (a_t := a_t) (a_t_rows := a_t_rows) (a_t_tape := a_t_tape) (a_t_reader := a_t_reader) (a_t_now := a_t_now) (a_t_trial := a_t_trial) (a_t_acts := a_t_acts) (a_t_ways := a_t_ways) (a_t_asks := a_t_asks) (a_t_images := a_t_images) (a_t_imageKept := a_t_imageKept) (l1 := r33.1) (t_latestFault := t_latestFault) (t_latestFinding := t_latestFinding)) rfl ⟨rfl, rfl⟩ gX8_drop_X8_fine hvX8_fine 0 8 rfl rfl rfl ⟨Nat.le_of_ble_eq_true rfl, Nat.le_of_ble_eq_true rfl⟩ ⟨Nat.zero_le _, Nat.zero_le _⟩ rfl (Nat.le_of_ble_eq_true rfl) rfl (by decide) (fun _ => rfl) dX8_drop_36 hR (fun r36 hR => ?_)
      refine z_eq [(a_t, .inr (8, [.ref a_t_rows, .ref a_t_tape, .ref a_t_reader, .ref a_t_now, .ref a_t_trial, .ref a_t_acts, .ref a_t_ways, .ref a_t_asks, .ref a_t_images, .ref a_t_imageKept, .int t_latestFault, .int r36.2])), (a_t_rows, .inr (5, [.ref a_t_rows_lane, .ref a_t_rows_size, .ref a_t_rows_items])), (a_t_rows_lane, .inl (cI, 8, .inl r33.2.1)), (a_t_rows_size, .inl (cI, 8, .inl r33.2.2))] rfl ?_
      obtain rfl := Option.some.inj hR
      exact z_iret hC hQ rfl rfl rfl dX8_drop_39
    · refine z_aload_n hC dX8_drop_21 rfl 0 rfl ?_
      refine z_ic1 hC dX8_drop_22 ?_
      refine z_callVi hC hN [.int 1] [0] (c_X8_found (l := zl E) (D := zD E) (cI := cI) (cB := cB) (cZ := cZ) (N := N) (a_t := a_t) (a_t_rows := a_t_rows) (a_t_tape := a_t_tape) (a_t_reader := a_t_reader) (a_t_now := a_t_now) (a_t_trial := a_t_trial) (a_t_acts := a_t_acts) (a_t_ways := a_t_ways) (a_t_asks := a_t_asks) (a_t_images := a_t_images) (a_t_imageKept := a_t_imageKept) (l1 := 1) (t_latestFault := t_latestFault) (t_latestFinding := t_latestFinding)) rfl ⟨rfl, rfl⟩ gX8_drop_X8_found hvX8_found 0 8 rfl rfl rfl ⟨Nat.le_of_ble_eq_true rfl, Nat.le_of_ble_eq_true rfl⟩ ⟨Nat.zero_le _, Nat.zero_le _⟩ rfl (Nat.le_of_ble_eq_true rfl) rfl (by decide) (fun _ => rfl) dX8_drop_23 hR (fun r23 hR => ?_)
      refine z_eq [(a_t, .inr (8, [.ref a_t_rows, .ref a_t_tape, .ref a_t_reader, .ref a_t_now, .ref a_t_trial, .ref a_t_acts, .ref a_t_ways, .ref a_t_asks, .ref a_t_images, .ref a_t_imageKept, .int t_latestFault, .int r23.2])), (a_t_rows, .inr (5, [.ref a_t_rows_lane, .ref a_t_rows_size, .ref a_t_rows_items])), (a_t_rows_lane, .inl (cI, 8, .inl t_rows_lane)), (a_t_rows_size, .inl (cI, 8, .inl t_rows_size))] rfl ?_
      obtain rfl := Option.some.inj hR
      exact z_iret hC hQ rfl rfl rfl dX8_drop_26
  · refine z_ldc hC (-1000001) mX8_drop_1 dX8_drop_7 ?_
    obtain rfl := Option.some.inj hR
    exact z_iret hC hQ rfl rfl rfl dX8_drop_9
set_option maxHeartbeats 4000000 in
set_option maxRecDepth 100000 in
theorem c_X8_drop {sK sV : Nat → Nat} {l : Launch} {D : va_G} {cI cB cZ : ClassId} {N : Nat} {a_t : Nat} {a_t_rows : Nat} {a_t_rows_lane : Nat} {a_t_rows_size : Nat} {a_t_tape : Nat} {a_t_reader : Nat} {a_t_now : Nat} {a_t_trial : Nat} {a_t_acts : Nat} {a_t_ways : Nat} {a_t_asks : Nat} {a_t_images : Nat} {a_t_imageKept : Nat} {a_t_rows_items : Nat} {t_latestFault : Int32} {t_latestFinding : Int32} {t_rows_lane : (Nat → Int32)} {t_rows_size : (Nat → Int32)} {l1 : Int32} : ∀ R : Int32 × Int32 × (Nat → Int32) × (Nat → Int32), o_X8_drop N t_latestFinding t_rows_lane t_rows_size l1 = some R → ZMi sK sV l yX8_drop wsX8_drop rmX8_drop D (zty cI cB cZ) [.ref a_t, .int l1] [(a_t, .inr (8, [.ref a_t_rows, .ref a_t_tape, .ref a_t_reader, .ref a_t_now, .ref a_t_trial, .ref a_t_acts, .ref a_t_ways, .ref a_t_asks, .ref a_t_images, .ref a_t_imageKept, .int t_latestFault, .int t_latestFinding])), (a_t_rows, .inr (5, [.ref a_t_rows_lane, .ref a_t_rows_size, .ref a_t_rows_items])), (a_t_rows_lane, .inl (cI, 8, .inl t_rows_lane)), (a_t_rows_size, .inl (cI, 8, .inl t_rows_size))] R.1 [(a_t, .inr (8, [.ref a_t_rows, .ref a_t_tape, .ref a_t_reader, .ref a_t_now, .ref a_t_trial, .ref a_t_acts, .ref a_t_ways, .ref a_t_asks, .ref a_t_images, .ref a_t_imageKept, .int t_latestFault, .int R.2.1])), (a_t_rows, .inr (5, [.ref a_t_rows_lane, .ref a_t_rows_size, .ref a_t_rows_items])), (a_t_rows_lane, .inl (cI, 8, .inl R.2.2.1)), (a_t_rows_size, .inl (cI, 8, .inl R.2.2.2))] := by
  intro R hR
  refine zi_of (cc := cX8_drop) (maxL := 2) (ret := (some .int)) (by decide) rfl (Nat.le_of_ble_eq_true rfl) (fun E hE1 hE2 hC hN hQ => ?_)
  subst hE1 hE2
  exact z_X8_drop_0 hC hN (N := N) (a_t := a_t) (a_t_rows := a_t_rows) (a_t_rows_lane := a_t_rows_lane) (a_t_rows_size := a_t_rows_size) (a_t_tape := a_t_tape) (a_t_reader := a_t_reader) (a_t_now := a_t_now) (a_t_trial := a_t_trial) (a_t_acts := a_t_acts) (a_t_ways := a_t_ways) (a_t_asks := a_t_asks) (a_t_images := a_t_images) (a_t_imageKept := a_t_imageKept) (a_t_rows_items := a_t_rows_items) (t_latestFault := t_latestFault) (t_latestFinding := t_latestFinding) (t_rows_lane := t_rows_lane) (t_rows_size := t_rows_size) (l1 := l1) hQ hR

/-! FistTrains.feed -/
abbrev rmX8_feed : Room := { frames := 1, cells := 0, slots := 0, locals := 24 }
set_option maxRecDepth 20000 in
theorem mX8_feed_1 : Cond.constant RX8 82 (-1000001) ∈ wsX8_feed := List.mem_of_getElem? (i := 1) rfl
set_option maxRecDepth 20000 in
theorem iX8_feed_X8 : ∀ w ∈ wsX80, w ∈ wsX8_feed := by decide +kernel
set_option maxRecDepth 20000 in
theorem mX8_feed_2 : Cond.fieldLink RX8 19 "FistTrains" "tape" "LFistTrains$Tape;" ∈ wsX8_feed := List.mem_of_getElem? (i := 2) rfl
set_option maxRecDepth 20000 in
theorem iX8_feed_X6 : ∀ w ∈ wsX60, w ∈ wsX8_feed := by decide +kernel
set_option maxRecDepth 20000 in
theorem mX8_feed_4 : Cond.fieldLink RX8 136 "FistTrains$Tape" "length" "I" ∈ wsX8_feed := List.mem_of_getElem? (i := 4) rfl
set_option maxRecDepth 20000 in
theorem mX8_feed_3 : Cond.constant RX8 131 (-1000003) ∈ wsX8_feed := List.mem_of_getElem? (i := 3) rfl
def o_X8_feed (N : Nat) (t_tape_length : Int32) (t_tape_bytes : (Nat → Int32)) (L1 : Int64) (l3 : Int32) : Option (Int32 × Int32 × (Nat → Int32)) :=
  if l3 < 1 then
    some ((-1000001), t_tape_length, t_tape_bytes)
  else
    if l3 ≤ 8 then
      Option.bind (o_X6_hasRoom N t_tape_length l3) (fun r19 =>
      if r19 = 0 then
        some ((-1000003), t_tape_length, t_tape_bytes)
      else
        Option.bind (o_X6_add N t_tape_length t_tape_bytes L1 l3) (fun r34 =>
        some (r34.1, r34.1, r34.2)))
    else
      some ((-1000001), t_tape_length, t_tape_bytes)
set_option maxHeartbeats 4000000 in
set_option maxRecDepth 100000 in
theorem z_X8_feed_0 {sK sV : Nat → Nat} {E : ZE} {cI cB cZ : ClassId} (hC : ZC E 4 cX8_feed wsX8_feed RX8 rmX8_feed (some .int) (zty cI cB cZ)) (hN : ZN sK sV (zA E) (zs E)) {N : Nat} {a_t : Nat} {a_t_tape : Nat} {a_t_tape_bytes : Nat} {a_t_rows : Nat} {a_t_reader : Nat} {a_t_now : Nat} {a_t_trial : Nat} {a_t_acts : Nat} {a_t_ways : Nat} {a_t_asks : Nat} {a_t_images : Nat} {a_t_imageKept : Nat} {t_latestFault : Int32} {t_latestFinding : Int32} {t_tape_length : Int32} {t_tape_bytes : (Nat → Int32)} {L1 : Int64} {l3 : Int32} {rf : Int32 × Int32 × (Nat → Int32)} (hQ : ZQi E (zty cI cB cZ) rf.1 [(a_t, .inr (8, [.ref a_t_rows, .ref a_t_tape, .ref a_t_reader, .ref a_t_now, .ref a_t_trial, .ref a_t_acts, .ref a_t_ways, .ref a_t_asks, .ref a_t_images, .ref a_t_imageKept, .int t_latestFault, .int t_latestFinding])), (a_t_tape, .inr (6, [.ref a_t_tape_bytes, .int rf.2.1])), (a_t_tape_bytes, .inl (cB, 200, .inl rf.2.2))]) (hR : o_X8_feed N t_tape_length t_tape_bytes L1 l3 = some rf) : Z E (0, 0) [(0, .ref a_t), (1, .long L1), (3, .int l3)] 0 [] [(a_t, .inr (8, [.ref a_t_rows, .ref a_t_tape, .ref a_t_reader, .ref a_t_now, .ref a_t_trial, .ref a_t_acts, .ref a_t_ways, .ref a_t_asks, .ref a_t_images, .ref a_t_imageKept, .int t_latestFault, .int t_latestFinding])), (a_t_tape, .inr (6, [.ref a_t_tape_bytes, .int t_tape_length])), (a_t_tape_bytes, .inl (cB, 200, .inl t_tape_bytes))] := by
  rw [o_X8_feed] at hR
  refine z_iload_n hC dX8_feed_0 rfl 2 rfl ?_
  refine z_ic1 hC dX8_feed_1 ?_
  refine z_icmp_lt hC 11 dX8_feed_2 (by decide) hR (fun hR => ?_) (fun hR => ?_)
  · refine z_ldc hC (-1000001) mX8_feed_1 dX8_feed_11 ?_
    obtain rfl := Option.some.inj hR
    exact z_iret hC hQ rfl rfl rfl dX8_feed_13
  · refine z_iload_n hC dX8_feed_5 rfl 2 rfl ?_
    refine z_bipush (v := 8) hC dX8_feed_6 (by decide) ?_
    refine z_icmp_le hC 14 dX8_feed_8 (by decide) hR (fun hR => ?_) (fun hR => ?_)
    · refine z_aload_n hC dX8_feed_14 rfl 0 rfl ?_
      refine z_get hC iX8_feed_X8 rfl 0 1 rfl (by decide) mX8_feed_2 rfl rfl dX8_feed_15 ?_
      refine z_iload_n hC dX8_feed_18 rfl 2 rfl ?_
      refine z_callVi_p hC hN [.int l3] [1] (c_X6_hasRoom (l := zl E) (D := zD E) (cI := cI) (cB := cB) (cZ := cZ) (N := N) (a_t := a_t_tape) (a_t_bytes := a_t_tape_bytes) (l1 := l3) (t_length := t_tape_length)) rfl ⟨rfl, rfl⟩ gX8_feed_X6_hasRoom hvX6_hasRoom 1 6 rfl rfl rfl ⟨Nat.le_of_ble_eq_true rfl, Nat.le_of_ble_eq_true rfl⟩ ⟨Nat.zero_le _, Nat.zero_le _⟩ rfl (Nat.le_of_ble_eq_true rfl) rfl (by decide) dX8_feed_19 hR (fun r19 hR => ?_)
      refine z_if_ne hC 28 dX8_feed_22 (by decide) hR (fun hR => ?_) (fun hR => ?_)
      · refine z_aload_n hC dX8_feed_28 rfl 0 rfl ?_
        refine z_get hC iX8_feed_X8 rfl 0 1 rfl (by decide) mX8_feed_2 rfl rfl dX8_feed_29 ?_
        refine z_lload_n hC dX8_feed_32 rfl 1 rfl ?_
        refine z_iload_n hC dX8_feed_33 rfl 2 rfl ?_
        refine z_callVv hC hN [.long L1, .int l3] [1, 2] (c_X6_add (l := zl E) (D := zD E) (cI := cI) (cB := cB) (cZ := cZ) (N := N) (a_t := a_t_tape) (a_t_bytes := a_t_tape_bytes) (L1 := L1) (l3 := l3) (t_length := t_tape_length) (t_bytes := t_tape_bytes)) rfl ⟨rfl, rfl⟩ gX8_feed_X6_add hvX6_add 1 6 rfl rfl rfl ⟨Nat.le_of_ble_eq_true rfl, Nat.le_of_ble_eq_true rfl⟩ ⟨Nat.zero_le _, Nat.zero_le _⟩ rfl (Nat.le_of_ble_eq_true rfl) rfl (by decide) (fun _ => rfl) dX8_feed_34 hR (fun r34 hR => ?_)
        refine z_eq [(a_t, .inr (8, [.ref a_t_rows, .ref a_t_tape, .ref a_t_reader, .ref a_t_now, .ref a_t_trial, .ref a_t_acts, .ref a_t_ways, .ref a_t_asks, .ref a_t_images, .ref a_t_imageKept, .int t_latestFault, .int t_latestFinding])), (a_t_tape, .inr (6, [.ref a_t_tape_bytes, .int r34.1])), (a_t_tape_bytes, .inl (cB, 200, .inl r34.2))] rfl ?_
        refine z_aload_n hC dX8_feed_37 rfl 0 rfl ?_
        refine z_get hC iX8_feed_X8 rfl 0 1 rfl (by decide) mX8_feed_2 rfl rfl dX8_feed_38 ?_
        refine z_get hC iX8_feed_X6 rfl 1 1 rfl (by decide) mX8_feed_4 rfl rfl dX8_feed_41 ?_
        obtain rfl := Option.some.inj hR
        exact z_iret hC hQ rfl rfl rfl dX8_feed_44
      · refine z_ldc hC (-1000003) mX8_feed_3 dX8_feed_25 ?_
        obtain rfl := Option.some.inj hR
        exact z_iret hC hQ rfl rfl rfl dX8_feed_27
    · refine z_ldc hC (-1000001) mX8_feed_1 dX8_feed_11 ?_
      obtain rfl := Option.some.inj hR
      exact z_iret hC hQ rfl rfl rfl dX8_feed_13
set_option maxHeartbeats 4000000 in
set_option maxRecDepth 100000 in
theorem c_X8_feed {sK sV : Nat → Nat} {l : Launch} {D : va_G} {cI cB cZ : ClassId} {N : Nat} {a_t : Nat} {a_t_tape : Nat} {a_t_tape_bytes : Nat} {a_t_rows : Nat} {a_t_reader : Nat} {a_t_now : Nat} {a_t_trial : Nat} {a_t_acts : Nat} {a_t_ways : Nat} {a_t_asks : Nat} {a_t_images : Nat} {a_t_imageKept : Nat} {t_latestFault : Int32} {t_latestFinding : Int32} {t_tape_length : Int32} {t_tape_bytes : (Nat → Int32)} {L1 : Int64} {l3 : Int32} : ∀ R : Int32 × Int32 × (Nat → Int32), o_X8_feed N t_tape_length t_tape_bytes L1 l3 = some R → ZMi sK sV l yX8_feed wsX8_feed rmX8_feed D (zty cI cB cZ) [.ref a_t, .long L1, .int l3] [(a_t, .inr (8, [.ref a_t_rows, .ref a_t_tape, .ref a_t_reader, .ref a_t_now, .ref a_t_trial, .ref a_t_acts, .ref a_t_ways, .ref a_t_asks, .ref a_t_images, .ref a_t_imageKept, .int t_latestFault, .int t_latestFinding])), (a_t_tape, .inr (6, [.ref a_t_tape_bytes, .int t_tape_length])), (a_t_tape_bytes, .inl (cB, 200, .inl t_tape_bytes))] R.1 [(a_t, .inr (8, [.ref a_t_rows, .ref a_t_tape, .ref a_t_reader, .ref a_t_now, .ref a_t_trial, .ref a_t_acts, .ref a_t_ways, .ref a_t_asks, .ref a_t_images, .ref a_t_imageKept, .int t_latestFault, .int t_latestFinding])), (a_t_tape, .inr (6, [.ref a_t_tape_bytes, .int R.2.1])), (a_t_tape_bytes, .inl (cB, 200, .inl R.2.2))] := by
  intro R hR
  refine zi_of (cc := cX8_feed) (maxL := 4) (ret := (some .int)) (by decide) rfl (Nat.le_of_ble_eq_true rfl) (fun E hE1 hE2 hC hN hQ => ?_)
  subst hE1 hE2
  exact z_X8_feed_0 hC hN (N := N) (a_t := a_t) (a_t_tape := a_t_tape) (a_t_tape_bytes := a_t_tape_bytes) (a_t_rows := a_t_rows) (a_t_reader := a_t_reader) (a_t_now := a_t_now) (a_t_trial := a_t_trial) (a_t_acts := a_t_acts) (a_t_ways := a_t_ways) (a_t_asks := a_t_asks) (a_t_images := a_t_images) (a_t_imageKept := a_t_imageKept) (t_latestFault := t_latestFault) (t_latestFinding := t_latestFinding) (t_tape_length := t_tape_length) (t_tape_bytes := t_tape_bytes) (L1 := L1) (l3 := l3) hQ hR

/-! FistTrains.isHand -/
abbrev rmX8_isHand : Room := { frames := 0, cells := 0, slots := 0, locals := 0 }
def o_X8_isHand (N : Nat) (l0 : Int32) : Option (Int32) :=
  if l0 < 0 then
    some (0)
  else
    if 3 ≤ l0 then
      some (0)
    else
      some (1)
set_option maxHeartbeats 4000000 in
set_option maxRecDepth 100000 in
theorem z_X8_isHand_0 {sK sV : Nat → Nat} {E : ZE} {cI cB cZ : ClassId} (hC : ZC E 1 cX8_isHand wsX8_isHand RX8 rmX8_isHand (some .boolean) (zty cI cB cZ)) (hN : ZN sK sV (zA E) (zs E)) {N : Nat} {l0 : Int32} {rf : Int32} (hQ : ZQi E (zty cI cB cZ) rf []) (hR : o_X8_isHand N l0 = some rf) : Z E (0, 0) [(0, .int l0)] 0 [] [] := by
  rw [o_X8_isHand] at hR
  refine z_iload_n hC dX8_isHand_0 rfl 0 rfl ?_
  refine z_if_lt hC 13 dX8_isHand_1 (by decide) hR (fun hR => ?_) (fun hR => ?_)
  · refine z_ic0 hC dX8_isHand_13 ?_
    obtain rfl := Option.some.inj hR
    exact z_iret hC hQ rfl rfl rfl dX8_isHand_14
  · refine z_iload_n hC dX8_isHand_4 rfl 0 rfl ?_
    refine z_ic3 hC dX8_isHand_5 ?_
    refine z_icmp_ge hC 13 dX8_isHand_6 (by decide) hR (fun hR => ?_) (fun hR => ?_)
    · refine z_ic0 hC dX8_isHand_13 ?_
      obtain rfl := Option.some.inj hR
      exact z_iret hC hQ rfl rfl rfl dX8_isHand_14
    · refine z_ic1 hC dX8_isHand_9 ?_
      refine z_goto hC 14 dX8_isHand_10 (by decide) ?_
      obtain rfl := Option.some.inj hR
      exact z_iret hC hQ rfl rfl rfl dX8_isHand_14
set_option maxHeartbeats 4000000 in
set_option maxRecDepth 100000 in
theorem c_X8_isHand {sK sV : Nat → Nat} {l : Launch} {D : va_G} {cI cB cZ : ClassId} {N : Nat} {l0 : Int32} : ∀ R : Int32, o_X8_isHand N l0 = some R → ZMi sK sV l yX8_isHand wsX8_isHand rmX8_isHand D (zty cI cB cZ) [.int l0] [] R [] := by
  intro R hR
  refine zi_of (cc := cX8_isHand) (maxL := 1) (ret := (some .boolean)) (by decide) rfl (Nat.le_of_ble_eq_true rfl) (fun E hE1 hE2 hC hN hQ => ?_)
  subst hE1 hE2
  exact z_X8_isHand_0 hC hN (N := N) (l0 := l0) hQ hR

/-! FistTrains.fault -/
abbrev rmX8_fault : Room := { frames := 0, cells := 0, slots := 0, locals := 0 }
set_option maxRecDepth 20000 in
theorem iX8_fault_X8 : ∀ w ∈ wsX80, w ∈ wsX8_fault := by decide +kernel
set_option maxRecDepth 20000 in
theorem mX8_fault_1 : Cond.fieldLink RX8 71 "FistTrains" "latestFault" "I" ∈ wsX8_fault := List.mem_of_getElem? (i := 1) rfl
def o_X8_fault (N : Nat) (t_latestFault : Int32) : Option (Int32) :=
  some (t_latestFault)
set_option maxHeartbeats 4000000 in
set_option maxRecDepth 100000 in
theorem z_X8_fault_0 {sK sV : Nat → Nat} {E : ZE} {cI cB cZ : ClassId} (hC : ZC E 1 cX8_fault wsX8_fault RX8 rmX8_fault (some .int) (zty cI cB cZ)) (hN : ZN sK sV (zA E) (zs E)) {N : Nat} {a_t : Nat} {a_t_rows : Nat} {a_t_tape : Nat} {a_t_reader : Nat} {a_t_now : Nat} {a_t_trial : Nat} {a_t_acts : Nat} {a_t_ways : Nat} {a_t_asks : Nat} {a_t_images : Nat} {a_t_imageKept : Nat} {t_latestFault : Int32} {t_latestFinding : Int32} {rf : Int32} (hQ : ZQi E (zty cI cB cZ) rf [(a_t, .inr (8, [.ref a_t_rows, .ref a_t_tape, .ref a_t_reader, .ref a_t_now, .ref a_t_trial, .ref a_t_acts, .ref a_t_ways, .ref a_t_asks, .ref a_t_images, .ref a_t_imageKept, .int t_latestFault, .int t_latestFinding]))]) (hR : o_X8_fault N t_latestFault = some rf) : Z E (0, 0) [(0, .ref a_t)] 0 [] [(a_t, .inr (8, [.ref a_t_rows, .ref a_t_tape, .ref a_t_reader, .ref a_t_now, .ref a_t_trial, .ref a_t_acts, .ref a_t_ways, .ref a_t_asks, .ref a_t_images, .ref a_t_imageKept, .int t_latestFault, .int t_latestFinding]))] := by
  rw [o_X8_fault] at hR
  refine z_aload_n hC dX8_fault_0 rfl 0 rfl ?_
  refine z_get hC iX8_fault_X8 rfl 0 10 rfl (by decide) mX8_fault_1 rfl rfl dX8_fault_1 ?_
  obtain rfl := Option.some.inj hR
  exact z_iret hC hQ rfl rfl rfl dX8_fault_4
set_option maxHeartbeats 4000000 in
set_option maxRecDepth 100000 in
theorem c_X8_fault {sK sV : Nat → Nat} {l : Launch} {D : va_G} {cI cB cZ : ClassId} {N : Nat} {a_t : Nat} {a_t_rows : Nat} {a_t_tape : Nat} {a_t_reader : Nat} {a_t_now : Nat} {a_t_trial : Nat} {a_t_acts : Nat} {a_t_ways : Nat} {a_t_asks : Nat} {a_t_images : Nat} {a_t_imageKept : Nat} {t_latestFault : Int32} {t_latestFinding : Int32} : ∀ R : Int32, o_X8_fault N t_latestFault = some R → ZMi sK sV l yX8_fault wsX8_fault rmX8_fault D (zty cI cB cZ) [.ref a_t] [(a_t, .inr (8, [.ref a_t_rows, .ref a_t_tape, .ref a_t_reader, .ref a_t_now, .ref a_t_trial, .ref a_t_acts, .ref a_t_ways, .ref a_t_asks, .ref a_t_images, .ref a_t_imageKept, .int t_latestFault, .int t_latestFinding]))] R [(a_t, .inr (8, [.ref a_t_rows, .ref a_t_tape, .ref a_t_reader, .ref a_t_now, .ref a_t_trial, .ref a_t_acts, .ref a_t_ways, .ref a_t_asks, .ref a_t_images, .ref a_t_imageKept, .int t_latestFault, .int t_latestFinding]))] := by
  intro R hR
  refine zi_of (cc := cX8_fault) (maxL := 1) (ret := (some .int)) (by decide) rfl (Nat.le_of_ble_eq_true rfl) (fun E hE1 hE2 hC hN hQ => ?_)
  subst hE1 hE2
  exact z_X8_fault_0 hC hN (N := N) (a_t := a_t) (a_t_rows := a_t_rows) (a_t_tape := a_t_tape) (a_t_reader := a_t_reader) (a_t_now := a_t_now) (a_t_trial := a_t_trial) (a_t_acts := a_t_acts) (a_t_ways := a_t_ways) (a_t_asks := a_t_asks) (a_t_images := a_t_images) (a_t_imageKept := a_t_imageKept) (t_latestFault := t_latestFault) (t_latestFinding := t_latestFinding) hQ hR

/-! FistTrains.isPlayer -/
abbrev rmX8_isPlayer : Room := { frames := 0, cells := 0, slots := 0, locals := 0 }
set_option maxRecDepth 20000 in
theorem iX8_isPlayer_X8 : ∀ w ∈ wsX80, w ∈ wsX8_isPlayer := by decide +kernel
set_option maxRecDepth 20000 in
theorem mX8_isPlayer_1 : Cond.fieldLink RX8 35 "FistTrains" "now" "LFistTrains$Hall;" ∈ wsX8_isPlayer := List.mem_of_getElem? (i := 1) rfl
set_option maxRecDepth 20000 in
theorem iX8_isPlayer_X3 : ∀ w ∈ wsX30, w ∈ wsX8_isPlayer := by decide +kernel
set_option maxRecDepth 20000 in
theorem mX8_isPlayer_2 : Cond.fieldLink RX8 154 "FistTrains$Hall" "players" "I" ∈ wsX8_isPlayer := List.mem_of_getElem? (i := 2) rfl
def o_X8_isPlayer (N : Nat) (t_now_players : Int32) (l1 : Int32) : Option (Int32) :=
  if l1 < 0 then
    some (0)
  else
    if t_now_players ≤ l1 then
      some (0)
    else
      some (1)
set_option maxHeartbeats 4000000 in
set_option maxRecDepth 100000 in
theorem z_X8_isPlayer_0 {sK sV : Nat → Nat} {E : ZE} {cI cB cZ : ClassId} (hC : ZC E 2 cX8_isPlayer wsX8_isPlayer RX8 rmX8_isPlayer (some .boolean) (zty cI cB cZ)) (hN : ZN sK sV (zA E) (zs E)) {N : Nat} {a_t : Nat} {a_t_now : Nat} {a_t_rows : Nat} {a_t_tape : Nat} {a_t_reader : Nat} {a_t_trial : Nat} {a_t_acts : Nat} {a_t_ways : Nat} {a_t_asks : Nat} {a_t_images : Nat} {a_t_imageKept : Nat} {a_t_now_kind : Nat} {a_t_now_hand : Nat} {a_t_now_leader : Nat} {a_t_now_course : Nat} {t_latestFault : Int32} {t_latestFinding : Int32} {t_now_players : Int32} {t_now_round : Int32} {t_now_time : Int32} {l1 : Int32} {rf : Int32} (hQ : ZQi E (zty cI cB cZ) rf [(a_t, .inr (8, [.ref a_t_rows, .ref a_t_tape, .ref a_t_reader, .ref a_t_now, .ref a_t_trial, .ref a_t_acts, .ref a_t_ways, .ref a_t_asks, .ref a_t_images, .ref a_t_imageKept, .int t_latestFault, .int t_latestFinding])), (a_t_now, .inr (3, [.int t_now_players, .int t_now_round, .int t_now_time, .ref a_t_now_kind, .ref a_t_now_hand, .ref a_t_now_leader, .ref a_t_now_course]))]) (hR : o_X8_isPlayer N t_now_players l1 = some rf) : Z E (0, 0) [(0, .ref a_t), (1, .int l1)] 0 [] [(a_t, .inr (8, [.ref a_t_rows, .ref a_t_tape, .ref a_t_reader, .ref a_t_now, .ref a_t_trial, .ref a_t_acts, .ref a_t_ways, .ref a_t_asks, .ref a_t_images, .ref a_t_imageKept, .int t_latestFault, .int t_latestFinding])), (a_t_now, .inr (3, [.int t_now_players, .int t_now_round, .int t_now_time, .ref a_t_now_kind, .ref a_t_now_hand, .ref a_t_now_leader, .ref a_t_now_course]))] := by
  rw [o_X8_isPlayer] at hR
  refine z_iload_n hC dX8_isPlayer_0 rfl 1 rfl ?_
  refine z_if_lt hC 19 dX8_isPlayer_1 (by decide) hR (fun hR => ?_) (fun hR => ?_)
  · refine z_ic0 hC dX8_isPlayer_19 ?_
    obtain rfl := Option.some.inj hR
    exact z_iret hC hQ rfl rfl rfl dX8_isPlayer_20
  · refine z_iload_n hC dX8_isPlayer_4 rfl 1 rfl ?_
    refine z_aload_n hC dX8_isPlayer_5 rfl 0 rfl ?_
    refine z_get hC iX8_isPlayer_X8 rfl 0 3 rfl (by decide) mX8_isPlayer_1 rfl rfl dX8_isPlayer_6 ?_
    refine z_get hC iX8_isPlayer_X3 rfl 1 0 rfl (by decide) mX8_isPlayer_2 rfl rfl dX8_isPlayer_9 ?_
    refine z_icmp_ge hC 19 dX8_isPlayer_12 (by decide) hR (fun hR => ?_) (fun hR => ?_)
    · refine z_ic0 hC dX8_isPlayer_19 ?_
      obtain rfl := Option.some.inj hR
      exact z_iret hC hQ rfl rfl rfl dX8_isPlayer_20
    · refine z_ic1 hC dX8_isPlayer_15 ?_
      refine z_goto hC 20 dX8_isPlayer_16 (by decide) ?_
      obtain rfl := Option.some.inj hR
      exact z_iret hC hQ rfl rfl rfl dX8_isPlayer_20
set_option maxHeartbeats 4000000 in
set_option maxRecDepth 100000 in
theorem c_X8_isPlayer {sK sV : Nat → Nat} {l : Launch} {D : va_G} {cI cB cZ : ClassId} {N : Nat} {a_t : Nat} {a_t_now : Nat} {a_t_rows : Nat} {a_t_tape : Nat} {a_t_reader : Nat} {a_t_trial : Nat} {a_t_acts : Nat} {a_t_ways : Nat} {a_t_asks : Nat} {a_t_images : Nat} {a_t_imageKept : Nat} {a_t_now_kind : Nat} {a_t_now_hand : Nat} {a_t_now_leader : Nat} {a_t_now_course : Nat} {t_latestFault : Int32} {t_latestFinding : Int32} {t_now_players : Int32} {t_now_round : Int32} {t_now_time : Int32} {l1 : Int32} : ∀ R : Int32, o_X8_isPlayer N t_now_players l1 = some R → ZMi sK sV l yX8_isPlayer wsX8_isPlayer rmX8_isPlayer D (zty cI cB cZ) [.ref a_t, .int l1] [(a_t, .inr (8, [.ref a_t_rows, .ref a_t_tape, .ref a_t_reader, .ref a_t_now, .ref a_t_trial, .ref a_t_acts, .ref a_t_ways, .ref a_t_asks, .ref a_t_images, .ref a_t_imageKept, .int t_latestFault, .int t_latestFinding])), (a_t_now, .inr (3, [.int t_now_players, .int t_now_round, .int t_now_time, .ref a_t_now_kind, .ref a_t_now_hand, .ref a_t_now_leader, .ref a_t_now_course]))] R [(a_t, .inr (8, [.ref a_t_rows, .ref a_t_tape, .ref a_t_reader, .ref a_t_now, .ref a_t_trial, .ref a_t_acts, .ref a_t_ways, .ref a_t_asks, .ref a_t_images, .ref a_t_imageKept, .int t_latestFault, .int t_latestFinding])), (a_t_now, .inr (3, [.int t_now_players, .int t_now_round, .int t_now_time, .ref a_t_now_kind, .ref a_t_now_hand, .ref a_t_now_leader, .ref a_t_now_course]))] := by
  intro R hR
  refine zi_of (cc := cX8_isPlayer) (maxL := 2) (ret := (some .boolean)) (by decide) rfl (Nat.le_of_ble_eq_true rfl) (fun E hE1 hE2 hC hN hQ => ?_)
  subst hE1 hE2
  exact z_X8_isPlayer_0 hC hN (N := N) (a_t := a_t) (a_t_now := a_t_now) (a_t_rows := a_t_rows) (a_t_tape := a_t_tape) (a_t_reader := a_t_reader) (a_t_trial := a_t_trial) (a_t_acts := a_t_acts) (a_t_ways := a_t_ways) (a_t_asks := a_t_asks) (a_t_images := a_t_images) (a_t_imageKept := a_t_imageKept) (a_t_now_kind := a_t_now_kind) (a_t_now_hand := a_t_now_hand) (a_t_now_leader := a_t_now_leader) (a_t_now_course := a_t_now_course) (t_latestFault := t_latestFault) (t_latestFinding := t_latestFinding) (t_now_players := t_now_players) (t_now_round := t_now_round) (t_now_time := t_now_time) (l1 := l1) hQ hR

/-! FistTrains.isPair -/
abbrev rmX8_isPair : Room := { frames := 1, cells := 0, slots := 0, locals := 21 }
def o_X8_isPair (N : Nat) (t_now_players : Int32) (l1 : Int32) (l2 : Int32) : Option (Int32) :=
  Option.bind (o_X8_isPlayer N t_now_players l1) (fun r2 =>
  if r2 = 0 then
    some (0)
  else
    Option.bind (o_X8_isPlayer N t_now_players l2) (fun r10 =>
    if r10 = 0 then
      some (0)
    else
      if l1 = l2 then
        some (0)
      else
        some (1)))
set_option maxHeartbeats 4000000 in
set_option maxRecDepth 100000 in
theorem z_X8_isPair_0 {sK sV : Nat → Nat} {E : ZE} {cI cB cZ : ClassId} (hC : ZC E 3 cX8_isPair wsX8_isPair RX8 rmX8_isPair (some .boolean) (zty cI cB cZ)) (hN : ZN sK sV (zA E) (zs E)) {N : Nat} {a_t : Nat} {a_t_now : Nat} {a_t_rows : Nat} {a_t_tape : Nat} {a_t_reader : Nat} {a_t_trial : Nat} {a_t_acts : Nat} {a_t_ways : Nat} {a_t_asks : Nat} {a_t_images : Nat} {a_t_imageKept : Nat} {a_t_now_kind : Nat} {a_t_now_hand : Nat} {a_t_now_leader : Nat} {a_t_now_course : Nat} {t_latestFault : Int32} {t_latestFinding : Int32} {t_now_players : Int32} {t_now_round : Int32} {t_now_time : Int32} {l1 : Int32} {l2 : Int32} {rf : Int32} (hQ : ZQi E (zty cI cB cZ) rf [(a_t, .inr (8, [.ref a_t_rows, .ref a_t_tape, .ref a_t_reader, .ref a_t_now, .ref a_t_trial, .ref a_t_acts, .ref a_t_ways, .ref a_t_asks, .ref a_t_images, .ref a_t_imageKept, .int t_latestFault, .int t_latestFinding])), (a_t_now, .inr (3, [.int t_now_players, .int t_now_round, .int t_now_time, .ref a_t_now_kind, .ref a_t_now_hand, .ref a_t_now_leader, .ref a_t_now_course]))]) (hR : o_X8_isPair N t_now_players l1 l2 = some rf) : Z E (0, 0) [(0, .ref a_t), (1, .int l1), (2, .int l2)] 0 [] [(a_t, .inr (8, [.ref a_t_rows, .ref a_t_tape, .ref a_t_reader, .ref a_t_now, .ref a_t_trial, .ref a_t_acts, .ref a_t_ways, .ref a_t_asks, .ref a_t_images, .ref a_t_imageKept, .int t_latestFault, .int t_latestFinding])), (a_t_now, .inr (3, [.int t_now_players, .int t_now_round, .int t_now_time, .ref a_t_now_kind, .ref a_t_now_hand, .ref a_t_now_leader, .ref a_t_now_course]))] := by
  rw [o_X8_isPair] at hR
  refine z_aload_n hC dX8_isPair_0 rfl 0 rfl ?_
  refine z_iload_n hC dX8_isPair_1 rfl 1 rfl ?_
  refine z_callVi_p hC hN [.int l1] [0, 1] (c_X8_isPlayer (l := zl E) (D := zD E) (cI := cI) (cB := cB) (cZ := cZ) (N := N) (a_t := a_t) (a_t_rows := a_t_rows) (a_t_tape := a_t_tape) (a_t_reader := a_t_reader) (a_t_now := a_t_now) (a_t_trial := a_t_trial) (a_t_acts := a_t_acts) (a_t_ways := a_t_ways) (a_t_asks := a_t_asks) (a_t_images := a_t_images) (a_t_imageKept := a_t_imageKept) (a_t_now_kind := a_t_now_kind) (a_t_now_hand := a_t_now_hand) (a_t_now_leader := a_t_now_leader) (a_t_now_course := a_t_now_course) (l1 := l1) (t_latestFault := t_latestFault) (t_latestFinding := t_latestFinding) (t_now_players := t_now_players) (t_now_round := t_now_round) (t_now_time := t_now_time)) rfl ⟨rfl, rfl⟩ gX8_isPair_X8_isPlayer hvX8_isPlayer 0 8 rfl rfl rfl ⟨Nat.le_of_ble_eq_true rfl, Nat.le_of_ble_eq_true rfl⟩ ⟨Nat.zero_le _, Nat.zero_le _⟩ rfl (Nat.le_of_ble_eq_true rfl) rfl (by decide) dX8_isPair_2 hR (fun r2 hR => ?_)
  refine z_if_eq hC 25 dX8_isPair_5 (by decide) hR (fun hR => ?_) (fun hR => ?_)
  · refine z_ic0 hC dX8_isPair_25 ?_
    obtain rfl := Option.some.inj hR
    exact z_iret hC hQ rfl rfl rfl dX8_isPair_26
  · refine z_aload_n hC dX8_isPair_8 rfl 0 rfl ?_
    refine z_iload_n hC dX8_isPair_9 rfl 2 rfl ?_
    refine z_callVi_p hC hN [.int l2] [0, 1] (c_X8_isPlayer (l := zl E) (D := zD E) (cI := cI) (cB := cB) (cZ := cZ) (N := N) (a_t := a_t) (a_t_rows := a_t_rows) (a_t_tape := a_t_tape) (a_t_reader := a_t_reader) (a_t_now := a_t_now) (a_t_trial := a_t_trial) (a_t_acts := a_t_acts) (a_t_ways := a_t_ways) (a_t_asks := a_t_asks) (a_t_images := a_t_images) (a_t_imageKept := a_t_imageKept) (a_t_now_kind := a_t_now_kind) (a_t_now_hand := a_t_now_hand) (a_t_now_leader := a_t_now_leader) (a_t_now_course := a_t_now_course) (l1 := l2) (t_latestFault := t_latestFault) (t_latestFinding := t_latestFinding) (t_now_players := t_now_players) (t_now_round := t_now_round) (t_now_time := t_now_time)) rfl ⟨rfl, rfl⟩ gX8_isPair_X8_isPlayer hvX8_isPlayer 0 8 rfl rfl rfl ⟨Nat.le_of_ble_eq_true rfl, Nat.le_of_ble_eq_true rfl⟩ ⟨Nat.zero_le _, Nat.zero_le _⟩ rfl (Nat.le_of_ble_eq_true rfl) rfl (by decide) dX8_isPair_10 hR (fun r10 hR => ?_)
    refine z_if_eq hC 25 dX8_isPair_13 (by decide) hR (fun hR => ?_) (fun hR => ?_)
    · refine z_ic0 hC dX8_isPair_25 ?_
      obtain rfl := Option.some.inj hR
      exact z_iret hC hQ rfl rfl rfl dX8_isPair_26
    · refine z_iload_n hC dX8_isPair_16 rfl 1 rfl ?_
      refine z_iload_n hC dX8_isPair_17 rfl 2 rfl ?_
      refine z_icmp_eq hC 25 dX8_isPair_18 (by decide) hR (fun hR => ?_) (fun hR => ?_)
      · refine z_ic0 hC dX8_isPair_25 ?_
        obtain rfl := Option.some.inj hR
        exact z_iret hC hQ rfl rfl rfl dX8_isPair_26
      · refine z_ic1 hC dX8_isPair_21 ?_
        refine z_goto hC 26 dX8_isPair_22 (by decide) ?_
        obtain rfl := Option.some.inj hR
        exact z_iret hC hQ rfl rfl rfl dX8_isPair_26
set_option maxHeartbeats 4000000 in
set_option maxRecDepth 100000 in
theorem c_X8_isPair {sK sV : Nat → Nat} {l : Launch} {D : va_G} {cI cB cZ : ClassId} {N : Nat} {a_t : Nat} {a_t_now : Nat} {a_t_rows : Nat} {a_t_tape : Nat} {a_t_reader : Nat} {a_t_trial : Nat} {a_t_acts : Nat} {a_t_ways : Nat} {a_t_asks : Nat} {a_t_images : Nat} {a_t_imageKept : Nat} {a_t_now_kind : Nat} {a_t_now_hand : Nat} {a_t_now_leader : Nat} {a_t_now_course : Nat} {t_latestFault : Int32} {t_latestFinding : Int32} {t_now_players : Int32} {t_now_round : Int32} {t_now_time : Int32} {l1 : Int32} {l2 : Int32} : ∀ R : Int32, o_X8_isPair N t_now_players l1 l2 = some R → ZMi sK sV l yX8_isPair wsX8_isPair rmX8_isPair D (zty cI cB cZ) [.ref a_t, .int l1, .int l2] [(a_t, .inr (8, [.ref a_t_rows, .ref a_t_tape, .ref a_t_reader, .ref a_t_now, .ref a_t_trial, .ref a_t_acts, .ref a_t_ways, .ref a_t_asks, .ref a_t_images, .ref a_t_imageKept, .int t_latestFault, .int t_latestFinding])), (a_t_now, .inr (3, [.int t_now_players, .int t_now_round, .int t_now_time, .ref a_t_now_kind, .ref a_t_now_hand, .ref a_t_now_leader, .ref a_t_now_course]))] R [(a_t, .inr (8, [.ref a_t_rows, .ref a_t_tape, .ref a_t_reader, .ref a_t_now, .ref a_t_trial, .ref a_t_acts, .ref a_t_ways, .ref a_t_asks, .ref a_t_images, .ref a_t_imageKept, .int t_latestFault, .int t_latestFinding])), (a_t_now, .inr (3, [.int t_now_players, .int t_now_round, .int t_now_time, .ref a_t_now_kind, .ref a_t_now_hand, .ref a_t_now_leader, .ref a_t_now_course]))] := by
  intro R hR
  refine zi_of (cc := cX8_isPair) (maxL := 3) (ret := (some .boolean)) (by decide) rfl (Nat.le_of_ble_eq_true rfl) (fun E hE1 hE2 hC hN hQ => ?_)
  subst hE1 hE2
  exact z_X8_isPair_0 hC hN (N := N) (a_t := a_t) (a_t_now := a_t_now) (a_t_rows := a_t_rows) (a_t_tape := a_t_tape) (a_t_reader := a_t_reader) (a_t_trial := a_t_trial) (a_t_acts := a_t_acts) (a_t_ways := a_t_ways) (a_t_asks := a_t_asks) (a_t_images := a_t_images) (a_t_imageKept := a_t_imageKept) (a_t_now_kind := a_t_now_kind) (a_t_now_hand := a_t_now_hand) (a_t_now_leader := a_t_now_leader) (a_t_now_course := a_t_now_course) (t_latestFault := t_latestFault) (t_latestFinding := t_latestFinding) (t_now_players := t_now_players) (t_now_round := t_now_round) (t_now_time := t_now_time) (l1 := l1) (l2 := l2) hQ hR

/-! FistTrains.bout -/
abbrev rmX8_bout : Room := { frames := 4, cells := 0, slots := 0, locals := 97 }
set_option maxRecDepth 20000 in
theorem iX8_bout_X8 : ∀ w ∈ wsX80, w ∈ wsX8_bout := by decide +kernel
set_option maxRecDepth 20000 in
theorem mX8_bout_2 : Cond.fieldLink RX8 35 "FistTrains" "now" "LFistTrains$Hall;" ∈ wsX8_bout := List.mem_of_getElem? (i := 2) rfl
set_option maxRecDepth 20000 in
theorem mX8_bout_3 : Cond.constant RX8 164 (-1000002) ∈ wsX8_bout := List.mem_of_getElem? (i := 3) rfl
set_option maxRecDepth 20000 in
theorem mX8_bout_4 : Cond.fieldLink RX8 45 "FistTrains" "acts" "LFistTrains$Acts;" ∈ wsX8_bout := List.mem_of_getElem? (i := 4) rfl
set_option maxRecDepth 20000 in
theorem iX8_bout_X3 : ∀ w ∈ wsX30, w ∈ wsX8_bout := by decide +kernel
set_option maxRecDepth 20000 in
theorem mX8_bout_5 : Cond.fieldLink RX8 171 "FistTrains$Hall" "time" "I" ∈ wsX8_bout := List.mem_of_getElem? (i := 5) rfl
set_option maxRecDepth 20000 in
theorem mX8_bout_6 : Cond.fieldLink RX8 174 "FistTrains$Hall" "course" "LFistTrains$Course;" ∈ wsX8_bout := List.mem_of_getElem? (i := 6) rfl
set_option maxRecDepth 20000 in
theorem iX8_bout_X2 : ∀ w ∈ wsX20, w ∈ wsX8_bout := by decide +kernel
set_option maxRecDepth 20000 in
theorem mX8_bout_7 : Cond.fieldLink RX8 178 "FistTrains$Course" "thrown" "I" ∈ wsX8_bout := List.mem_of_getElem? (i := 7) rfl
set_option maxRecDepth 20000 in
theorem mX8_bout_1 : Cond.constant RX8 82 (-1000001) ∈ wsX8_bout := List.mem_of_getElem? (i := 1) rfl
def o_X8_bout (N : Nat) (t_now_players : Int32) (t_now_round : Int32) (t_now_time : Int32) (t_now_kind : (Nat → Int32)) (t_now_hand : (Nat → Int32)) (t_now_leader : (Nat → Int32)) (t_now_course_first : Int32) (t_now_course_second : Int32) (t_now_course_thrown : Int32) (t_acts_kept : Int32) (t_acts_next : Int32) (t_acts_halls : (Nat → Int32)) (l1 : Int32) (l2 : Int32) : Option (Int32 × Int32 × (Nat → Int32) × (Nat → Int32) × Int32 × Int32 × Int32 × Int32 × Int32 × (Nat → Int32)) :=
  Option.bind (o_X8_isPair N t_now_players l1 l2) (fun r3 =>
  if r3 = 0 then
    some ((-1000001), t_now_time, t_now_hand, t_now_leader, t_now_course_first, t_now_course_second, t_now_course_thrown, t_acts_kept, t_acts_next, t_acts_halls)
  else
    Option.bind (o_X3_leads N t_now_leader l1) (fun r17 =>
    if r17 = 0 then
      some ((-1000002), t_now_time, t_now_hand, t_now_leader, t_now_course_first, t_now_course_second, t_now_course_thrown, t_acts_kept, t_acts_next, t_acts_halls)
    else
      Option.bind (o_X3_leads N t_now_leader l2) (fun r28 =>
      if r28 = 0 then
        some ((-1000002), t_now_time, t_now_hand, t_now_leader, t_now_course_first, t_now_course_second, t_now_course_thrown, t_acts_kept, t_acts_next, t_acts_halls)
      else
        Option.bind (o_X0_keep N t_acts_kept t_acts_next t_acts_halls t_now_players t_now_round t_now_time t_now_kind t_now_hand t_now_leader) (fun r45 =>
        Option.bind (o_X3_meet N t_now_players t_now_kind t_now_hand t_now_leader l1 l2) (fun r54 =>
        some (r54.1, (t_now_time + r54.2.2.2.2.2), r54.2.1, r54.2.2.1, r54.2.2.2.1, r54.2.2.2.2.1, r54.2.2.2.2.2, r45.1, r45.2.1, r45.2.2))))))
set_option maxHeartbeats 4000000 in
set_option maxRecDepth 100000 in
theorem z_X8_bout_0 {sK sV : Nat → Nat} {E : ZE} {cI cB cZ : ClassId} (hC : ZC E 4 cX8_bout wsX8_bout RX8 rmX8_bout (some .int) (zty cI cB cZ)) (hN : ZN sK sV (zA E) (zs E)) {N : Nat} {a_t : Nat} {a_t_now : Nat} {a_t_now_kind : Nat} {a_t_now_hand : Nat} {a_t_now_leader : Nat} {a_t_now_course : Nat} {a_t_acts : Nat} {a_t_acts_halls : Nat} {a_t_rows : Nat} {a_t_tape : Nat} {a_t_reader : Nat} {a_t_trial : Nat} {a_t_ways : Nat} {a_t_asks : Nat} {a_t_images : Nat} {a_t_imageKept : Nat} {t_latestFault : Int32} {t_latestFinding : Int32} {t_now_players : Int32} {t_now_round : Int32} {t_now_time : Int32} {t_now_kind : (Nat → Int32)} {t_now_hand : (Nat → Int32)} {t_now_leader : (Nat → Int32)} {t_now_course_first : Int32} {t_now_course_second : Int32} {t_now_course_thrown : Int32} {t_acts_kept : Int32} {t_acts_next : Int32} {t_acts_halls : (Nat → Int32)} {l1 : Int32} {l2 : Int32} {rf : Int32 × Int32 × (Nat → Int32) × (Nat → Int32) × Int32 × Int32 × Int32 × Int32 × Int32 × (Nat → Int32)} (hQ : ZQi E (zty cI cB cZ) rf.1 [(a_t, .inr (8, [.ref a_t_rows, .ref a_t_tape, .ref a_t_reader, .ref a_t_now, .ref a_t_trial, .ref a_t_acts, .ref a_t_ways, .ref a_t_asks, .ref a_t_images, .ref a_t_imageKept, .int t_latestFault, .int t_latestFinding])), (a_t_now, .inr (3, [.int t_now_players, .int t_now_round, .int rf.2.1, .ref a_t_now_kind, .ref a_t_now_hand, .ref a_t_now_leader, .ref a_t_now_course])), (a_t_now_kind, .inl (cI, 8, .inl t_now_kind)), (a_t_now_hand, .inl (cI, 8, .inl rf.2.2.1)), (a_t_now_leader, .inl (cI, 8, .inl rf.2.2.2.1)), (a_t_now_course, .inr (2, [.int rf.2.2.2.2.1, .int rf.2.2.2.2.2.1, .int rf.2.2.2.2.2.2.1])), (a_t_acts, .inr (0, [.ref a_t_acts_halls, .int rf.2.2.2.2.2.2.2.1, .int rf.2.2.2.2.2.2.2.2.1])), (a_t_acts_halls, .inl (cI, 648, .inl rf.2.2.2.2.2.2.2.2.2))]) (hR : o_X8_bout N t_now_players t_now_round t_now_time t_now_kind t_now_hand t_now_leader t_now_course_first t_now_course_second t_now_course_thrown t_acts_kept t_acts_next t_acts_halls l1 l2 = some rf) : Z E (0, 0) [(0, .ref a_t), (1, .int l1), (2, .int l2)] 0 [] [(a_t, .inr (8, [.ref a_t_rows, .ref a_t_tape, .ref a_t_reader, .ref a_t_now, .ref a_t_trial, .ref a_t_acts, .ref a_t_ways, .ref a_t_asks, .ref a_t_images, .ref a_t_imageKept, .int t_latestFault, .int t_latestFinding])), (a_t_now, .inr (3, [.int t_now_players, .int t_now_round, .int t_now_time, .ref a_t_now_kind, .ref a_t_now_hand, .ref a_t_now_leader, .ref a_t_now_course])), (a_t_now_kind, .inl (cI, 8, .inl t_now_kind)), (a_t_now_hand, .inl (cI, 8, .inl t_now_hand)), (a_t_now_leader, .inl (cI, 8, .inl t_now_leader)), (a_t_now_course, .inr (2, [.int t_now_course_first, .int t_now_course_second, .int t_now_course_thrown])), (a_t_acts, .inr (0, [.ref a_t_acts_halls, .int t_acts_kept, .int t_acts_next])), (a_t_acts_halls, .inl (cI, 648, .inl t_acts_halls))] := by
  rw [o_X8_bout] at hR
  refine z_aload_n hC dX8_bout_0 rfl 0 rfl ?_
  refine z_iload_n hC dX8_bout_1 rfl 1 rfl ?_
  refine z_iload_n hC dX8_bout_2 rfl 2 rfl ?_
  refine z_callVi_p hC hN [.int l1, .int l2] [0, 1] (c_X8_isPair (l := zl E) (D := zD E) (cI := cI) (cB := cB) (cZ := cZ) (N := N) (a_t := a_t) (a_t_rows := a_t_rows) (a_t_tape := a_t_tape) (a_t_reader := a_t_reader) (a_t_now := a_t_now) (a_t_trial := a_t_trial) (a_t_acts := a_t_acts) (a_t_ways := a_t_ways) (a_t_asks := a_t_asks) (a_t_images := a_t_images) (a_t_imageKept := a_t_imageKept) (a_t_now_kind := a_t_now_kind) (a_t_now_hand := a_t_now_hand) (a_t_now_leader := a_t_now_leader) (a_t_now_course := a_t_now_course) (l1 := l1) (l2 := l2) (t_latestFault := t_latestFault) (t_latestFinding := t_latestFinding) (t_now_players := t_now_players) (t_now_round := t_now_round) (t_now_time := t_now_time)) rfl ⟨rfl, rfl⟩ gX8_bout_X8_isPair hvX8_isPair 0 8 rfl rfl rfl ⟨Nat.le_of_ble_eq_true rfl, Nat.le_of_ble_eq_true rfl⟩ ⟨Nat.zero_le _, Nat.zero_le _⟩ rfl (Nat.le_of_ble_eq_true rfl) rfl (by decide) dX8_bout_3 hR (fun r3 hR => ?_)
  refine z_if_ne hC 12 dX8_bout_6 (by decide) hR (fun hR => ?_) (fun hR => ?_)
  · refine z_aload_n hC dX8_bout_12 rfl 0 rfl ?_
    refine z_get hC iX8_bout_X8 rfl 0 3 rfl (by decide) mX8_bout_2 rfl rfl dX8_bout_13 ?_
    refine z_iload_n hC dX8_bout_16 rfl 1 rfl ?_
    refine z_callVi_p hC hN [.int l1] [1, 4] (c_X3_leads (l := zl E) (D := zD E) (cI := cI) (cB := cB) (cZ := cZ) (N := N) (a_t := a_t_now) (a_t_kind := a_t_now_kind) (a_t_hand := a_t_now_hand) (a_t_leader := a_t_now_leader) (a_t_course := a_t_now_course) (l1 := l1) (t_players := t_now_players) (t_round := t_now_round) (t_time := t_now_time) (t_leader := t_now_leader)) rfl ⟨rfl, rfl⟩ gX8_bout_X3_leads hvX3_leads 1 3 rfl rfl rfl ⟨Nat.le_of_ble_eq_true rfl, Nat.le_of_ble_eq_true rfl⟩ ⟨Nat.zero_le _, Nat.zero_le _⟩ rfl (Nat.le_of_ble_eq_true rfl) rfl (by decide) dX8_bout_17 hR (fun r17 hR => ?_)
    refine z_if_eq hC 34 dX8_bout_20 (by decide) hR (fun hR => ?_) (fun hR => ?_)
    · refine z_ldc hC (-1000002) mX8_bout_3 dX8_bout_34 ?_
      obtain rfl := Option.some.inj hR
      exact z_iret hC hQ rfl rfl rfl dX8_bout_36
    · refine z_aload_n hC dX8_bout_23 rfl 0 rfl ?_
      refine z_get hC iX8_bout_X8 rfl 0 3 rfl (by decide) mX8_bout_2 rfl rfl dX8_bout_24 ?_
      refine z_iload_n hC dX8_bout_27 rfl 2 rfl ?_
      refine z_callVi_p hC hN [.int l2] [1, 4] (c_X3_leads (l := zl E) (D := zD E) (cI := cI) (cB := cB) (cZ := cZ) (N := N) (a_t := a_t_now) (a_t_kind := a_t_now_kind) (a_t_hand := a_t_now_hand) (a_t_leader := a_t_now_leader) (a_t_course := a_t_now_course) (l1 := l2) (t_players := t_now_players) (t_round := t_now_round) (t_time := t_now_time) (t_leader := t_now_leader)) rfl ⟨rfl, rfl⟩ gX8_bout_X3_leads hvX3_leads 1 3 rfl rfl rfl ⟨Nat.le_of_ble_eq_true rfl, Nat.le_of_ble_eq_true rfl⟩ ⟨Nat.zero_le _, Nat.zero_le _⟩ rfl (Nat.le_of_ble_eq_true rfl) rfl (by decide) dX8_bout_28 hR (fun r28 hR => ?_)
      refine z_if_ne hC 37 dX8_bout_31 (by decide) hR (fun hR => ?_) (fun hR => ?_)
      · refine z_aload_n hC dX8_bout_37 rfl 0 rfl ?_
        refine z_get hC iX8_bout_X8 rfl 0 5 rfl (by decide) mX8_bout_4 rfl rfl dX8_bout_38 ?_
        refine z_aload_n hC dX8_bout_41 rfl 0 rfl ?_
        refine z_get hC iX8_bout_X8 rfl 0 3 rfl (by decide) mX8_bout_2 rfl rfl dX8_bout_42 ?_
        refine z_callVv hC hN [.ref a_t_now] [6, 7, 1, 2, 3, 4] (c_X0_keep (l := zl E) (D := zD E) (cI := cI) (cB := cB) (cZ := cZ) (N := N) (a_t := a_t_acts) (a_t_halls := a_t_acts_halls) (a_p1 := a_t_now) (a_p1_kind := a_t_now_kind) (a_p1_hand := a_t_now_hand) (a_p1_leader := a_t_now_leader) (a_p1_course := a_t_now_course) (t_kept := t_acts_kept) (t_next := t_acts_next) (t_halls := t_acts_halls) (p1_players := t_now_players) (p1_round := t_now_round) (p1_time := t_now_time) (p1_kind := t_now_kind) (p1_hand := t_now_hand) (p1_leader := t_now_leader)) rfl ⟨rfl, rfl⟩ gX8_bout_X0_keep hvX0_keep 6 0 rfl rfl rfl ⟨Nat.le_of_ble_eq_true rfl, Nat.le_of_ble_eq_true rfl⟩ ⟨Nat.zero_le _, Nat.zero_le _⟩ rfl (Nat.le_of_ble_eq_true rfl) rfl (by decide) (fun _ => rfl) dX8_bout_45 hR (fun r45 hR => ?_)
        refine z_eq [(a_t, .inr (8, [.ref a_t_rows, .ref a_t_tape, .ref a_t_reader, .ref a_t_now, .ref a_t_trial, .ref a_t_acts, .ref a_t_ways, .ref a_t_asks, .ref a_t_images, .ref a_t_imageKept, .int t_latestFault, .int t_latestFinding])), (a_t_now, .inr (3, [.int t_now_players, .int t_now_round, .int t_now_time, .ref a_t_now_kind, .ref a_t_now_hand, .ref a_t_now_leader, .ref a_t_now_course])), (a_t_now_kind, .inl (cI, 8, .inl t_now_kind)), (a_t_now_hand, .inl (cI, 8, .inl t_now_hand)), (a_t_now_leader, .inl (cI, 8, .inl t_now_leader)), (a_t_now_course, .inr (2, [.int t_now_course_first, .int t_now_course_second, .int t_now_course_thrown])), (a_t_acts, .inr (0, [.ref a_t_acts_halls, .int r45.1, .int r45.2.1])), (a_t_acts_halls, .inl (cI, 648, .inl r45.2.2))] rfl ?_
        refine z_aload_n hC dX8_bout_48 rfl 0 rfl ?_
        refine z_get hC iX8_bout_X8 rfl 0 3 rfl (by decide) mX8_bout_2 rfl rfl dX8_bout_49 ?_
        refine z_iload_n hC dX8_bout_52 rfl 1 rfl ?_
        refine z_iload_n hC dX8_bout_53 rfl 2 rfl ?_
        refine z_callVi hC hN [.int l1, .int l2] [1, 2, 3, 4, 5] (c_X3_meet (l := zl E) (D := zD E) (cI := cI) (cB := cB) (cZ := cZ) (N := N) (a_t := a_t_now) (a_t_kind := a_t_now_kind) (a_t_hand := a_t_now_hand) (a_t_leader := a_t_now_leader) (a_t_course := a_t_now_course) (l1 := l1) (l2 := l2) (t_players := t_now_players) (t_round := t_now_round) (t_time := t_now_time) (t_kind := t_now_kind) (t_hand := t_now_hand) (t_leader := t_now_leader) (t_course_first := t_now_course_first) (t_course_second := t_now_course_second) (t_course_thrown := t_now_course_thrown)) rfl ⟨rfl, rfl⟩ gX8_bout_X3_meet hvX3_meet 1 3 rfl rfl rfl ⟨Nat.le_of_ble_eq_true rfl, Nat.le_of_ble_eq_true rfl⟩ ⟨Nat.zero_le _, Nat.zero_le _⟩ rfl (Nat.le_of_ble_eq_true rfl) rfl (by decide) (fun _ => rfl) dX8_bout_54 hR (fun r54 hR => ?_)
        refine z_eq [(a_t, .inr (8, [.ref a_t_rows, .ref a_t_tape, .ref a_t_reader, .ref a_t_now, .ref a_t_trial, .ref a_t_acts, .ref a_t_ways, .ref a_t_asks, .ref a_t_images, .ref a_t_imageKept, .int t_latestFault, .int t_latestFinding])), (a_t_now, .inr (3, [.int t_now_players, .int t_now_round, .int t_now_time, .ref a_t_now_kind, .ref a_t_now_hand, .ref a_t_now_leader, .ref a_t_now_course])), (a_t_now_kind, .inl (cI, 8, .inl t_now_kind)), (a_t_now_hand, .inl (cI, 8, .inl r54.2.1)), (a_t_now_leader, .inl (cI, 8, .inl r54.2.2.1)), (a_t_now_course, .inr (2, [.int r54.2.2.2.1, .int r54.2.2.2.2.1, .int r54.2.2.2.2.2])), (a_t_acts, .inr (0, [.ref a_t_acts_halls, .int r45.1, .int r45.2.1])), (a_t_acts_halls, .inl (cI, 648, .inl r45.2.2))] rfl ?_
        refine z_istore_n hC [(3, .int r54.1), (0, .ref a_t), (1, .int l1), (2, .int l2)] dX8_bout_57 rfl (by decide) rfl ?_
        refine z_aload_n hC dX8_bout_58 rfl 1 rfl ?_
        refine z_get hC iX8_bout_X8 rfl 0 3 rfl (by decide) mX8_bout_2 rfl rfl dX8_bout_59 ?_
        refine z_dup hC dX8_bout_62 rfl ?_
        refine z_get hC iX8_bout_X3 rfl 1 2 rfl (by decide) mX8_bout_5 rfl rfl dX8_bout_63 ?_
        refine z_aload_n hC dX8_bout_66 rfl 1 rfl ?_
        refine z_get hC iX8_bout_X8 rfl 0 3 rfl (by decide) mX8_bout_2 rfl rfl dX8_bout_67 ?_
        refine z_get hC iX8_bout_X3 rfl 1 6 rfl (by decide) mX8_bout_6 rfl rfl dX8_bout_70 ?_
        refine z_get hC iX8_bout_X2 rfl 5 2 rfl (by decide) mX8_bout_7 rfl rfl dX8_bout_73 ?_
        refine z_iadd hC dX8_bout_76 ?_
        refine z_put hC iX8_bout_X3 tyX3_ok nmX3 rfl 1 2 rfl (by decide) mX8_bout_5 rfl rfl rfl rfl (Nat.le_of_ble_eq_true rfl) dX8_bout_77 ?_
        refine z_iload_n hC dX8_bout_80 rfl 0 rfl ?_
        obtain rfl := Option.some.inj hR
        exact z_iret hC hQ rfl rfl rfl dX8_bout_81
      · refine z_ldc hC (-1000002) mX8_bout_3 dX8_bout_34 ?_
        obtain rfl := Option.some.inj hR
        exact z_iret hC hQ rfl rfl rfl dX8_bout_36
  · refine z_ldc hC (-1000001) mX8_bout_1 dX8_bout_9 ?_
    obtain rfl := Option.some.inj hR
    exact z_iret hC hQ rfl rfl rfl dX8_bout_11
set_option maxHeartbeats 4000000 in
set_option maxRecDepth 100000 in
theorem c_X8_bout {sK sV : Nat → Nat} {l : Launch} {D : va_G} {cI cB cZ : ClassId} {N : Nat} {a_t : Nat} {a_t_now : Nat} {a_t_now_kind : Nat} {a_t_now_hand : Nat} {a_t_now_leader : Nat} {a_t_now_course : Nat} {a_t_acts : Nat} {a_t_acts_halls : Nat} {a_t_rows : Nat} {a_t_tape : Nat} {a_t_reader : Nat} {a_t_trial : Nat} {a_t_ways : Nat} {a_t_asks : Nat} {a_t_images : Nat} {a_t_imageKept : Nat} {t_latestFault : Int32} {t_latestFinding : Int32} {t_now_players : Int32} {t_now_round : Int32} {t_now_time : Int32} {t_now_kind : (Nat → Int32)} {t_now_hand : (Nat → Int32)} {t_now_leader : (Nat → Int32)} {t_now_course_first : Int32} {t_now_course_second : Int32} {t_now_course_thrown : Int32} {t_acts_kept : Int32} {t_acts_next : Int32} {t_acts_halls : (Nat → Int32)} {l1 : Int32} {l2 : Int32} : ∀ R : Int32 × Int32 × (Nat → Int32) × (Nat → Int32) × Int32 × Int32 × Int32 × Int32 × Int32 × (Nat → Int32), o_X8_bout N t_now_players t_now_round t_now_time t_now_kind t_now_hand t_now_leader t_now_course_first t_now_course_second t_now_course_thrown t_acts_kept t_acts_next t_acts_halls l1 l2 = some R → ZMi sK sV l yX8_bout wsX8_bout rmX8_bout D (zty cI cB cZ) [.ref a_t, .int l1, .int l2] [(a_t, .inr (8, [.ref a_t_rows, .ref a_t_tape, .ref a_t_reader, .ref a_t_now, .ref a_t_trial, .ref a_t_acts, .ref a_t_ways, .ref a_t_asks, .ref a_t_images, .ref a_t_imageKept, .int t_latestFault, .int t_latestFinding])), (a_t_now, .inr (3, [.int t_now_players, .int t_now_round, .int t_now_time, .ref a_t_now_kind, .ref a_t_now_hand, .ref a_t_now_leader, .ref a_t_now_course])), (a_t_now_kind, .inl (cI, 8, .inl t_now_kind)), (a_t_now_hand, .inl (cI, 8, .inl t_now_hand)), (a_t_now_leader, .inl (cI, 8, .inl t_now_leader)), (a_t_now_course, .inr (2, [.int t_now_course_first, .int t_now_course_second, .int t_now_course_thrown])), (a_t_acts, .inr (0, [.ref a_t_acts_halls, .int t_acts_kept, .int t_acts_next])), (a_t_acts_halls, .inl (cI, 648, .inl t_acts_halls))] R.1 [(a_t, .inr (8, [.ref a_t_rows, .ref a_t_tape, .ref a_t_reader, .ref a_t_now, .ref a_t_trial, .ref a_t_acts, .ref a_t_ways, .ref a_t_asks, .ref a_t_images, .ref a_t_imageKept, .int t_latestFault, .int t_latestFinding])), (a_t_now, .inr (3, [.int t_now_players, .int t_now_round, .int R.2.1, .ref a_t_now_kind, .ref a_t_now_hand, .ref a_t_now_leader, .ref a_t_now_course])), (a_t_now_kind, .inl (cI, 8, .inl t_now_kind)), (a_t_now_hand, .inl (cI, 8, .inl R.2.2.1)), (a_t_now_leader, .inl (cI, 8, .inl R.2.2.2.1)), (a_t_now_course, .inr (2, [.int R.2.2.2.2.1, .int R.2.2.2.2.2.1, .int R.2.2.2.2.2.2.1])), (a_t_acts, .inr (0, [.ref a_t_acts_halls, .int R.2.2.2.2.2.2.2.1, .int R.2.2.2.2.2.2.2.2.1])), (a_t_acts_halls, .inl (cI, 648, .inl R.2.2.2.2.2.2.2.2.2))] := by
  intro R hR
  refine zi_of (cc := cX8_bout) (maxL := 4) (ret := (some .int)) (by decide) rfl (Nat.le_of_ble_eq_true rfl) (fun E hE1 hE2 hC hN hQ => ?_)
  subst hE1 hE2
  exact z_X8_bout_0 hC hN (N := N) (a_t := a_t) (a_t_now := a_t_now) (a_t_now_kind := a_t_now_kind) (a_t_now_hand := a_t_now_hand) (a_t_now_leader := a_t_now_leader) (a_t_now_course := a_t_now_course) (a_t_acts := a_t_acts) (a_t_acts_halls := a_t_acts_halls) (a_t_rows := a_t_rows) (a_t_tape := a_t_tape) (a_t_reader := a_t_reader) (a_t_trial := a_t_trial) (a_t_ways := a_t_ways) (a_t_asks := a_t_asks) (a_t_images := a_t_images) (a_t_imageKept := a_t_imageKept) (t_latestFault := t_latestFault) (t_latestFinding := t_latestFinding) (t_now_players := t_now_players) (t_now_round := t_now_round) (t_now_time := t_now_time) (t_now_kind := t_now_kind) (t_now_hand := t_now_hand) (t_now_leader := t_now_leader) (t_now_course_first := t_now_course_first) (t_now_course_second := t_now_course_second) (t_now_course_thrown := t_now_course_thrown) (t_acts_kept := t_acts_kept) (t_acts_next := t_acts_next) (t_acts_halls := t_acts_halls) (l1 := l1) (l2 := l2) hQ hR

/-! FistTrains.round -/
abbrev rmX8_round : Room := { frames := 5, cells := 0, slots := 0, locals := 120 }
set_option maxRecDepth 20000 in
theorem iX8_round_X8 : ∀ w ∈ wsX80, w ∈ wsX8_round := by decide +kernel
set_option maxRecDepth 20000 in
theorem mX8_round_1 : Cond.fieldLink RX8 35 "FistTrains" "now" "LFistTrains$Hall;" ∈ wsX8_round := List.mem_of_getElem? (i := 1) rfl
set_option maxRecDepth 20000 in
theorem mX8_round_3 : Cond.fieldLink RX8 45 "FistTrains" "acts" "LFistTrains$Acts;" ∈ wsX8_round := List.mem_of_getElem? (i := 3) rfl
set_option maxRecDepth 20000 in
theorem mX8_round_2 : Cond.constant RX8 164 (-1000002) ∈ wsX8_round := List.mem_of_getElem? (i := 2) rfl
def o_X8_round (N : Nat) (t_now_players : Int32) (t_now_round : Int32) (t_now_time : Int32) (t_now_kind : (Nat → Int32)) (t_now_hand : (Nat → Int32)) (t_now_leader : (Nat → Int32)) (t_now_course_first : Int32) (t_now_course_second : Int32) (t_now_course_thrown : Int32) (t_acts_kept : Int32) (t_acts_next : Int32) (t_acts_halls : (Nat → Int32)) : Option (Int32 × Int32 × Int32 × (Nat → Int32) × (Nat → Int32) × Int32 × Int32 × Int32 × Int32 × Int32 × (Nat → Int32)) :=
  Option.bind (o_X3_leaders N t_now_players t_now_leader) (fun r4 =>
  if 2 ≤ r4 then
    Option.bind (o_X0_keep N t_acts_kept t_acts_next t_acts_halls t_now_players t_now_round t_now_time t_now_kind t_now_hand t_now_leader) (fun r22 =>
    Option.bind (o_X3_playRound N t_now_players t_now_round t_now_time t_now_kind t_now_hand t_now_leader t_now_course_first t_now_course_second t_now_course_thrown) (fun r29 =>
    Option.bind (o_X3_leaders N t_now_players r29.2.2.2.1) (fun r36 =>
    some (r36, r29.1, r29.2.1, r29.2.2.1, r29.2.2.2.1, r29.2.2.2.2.1, r29.2.2.2.2.2.1, r29.2.2.2.2.2.2, r22.1, r22.2.1, r22.2.2))))
  else
    some ((-1000002), t_now_round, t_now_time, t_now_hand, t_now_leader, t_now_course_first, t_now_course_second, t_now_course_thrown, t_acts_kept, t_acts_next, t_acts_halls))
set_option maxHeartbeats 4000000 in
set_option maxRecDepth 100000 in
theorem z_X8_round_0 {sK sV : Nat → Nat} {E : ZE} {cI cB cZ : ClassId} (hC : ZC E 1 cX8_round wsX8_round RX8 rmX8_round (some .int) (zty cI cB cZ)) (hN : ZN sK sV (zA E) (zs E)) {N : Nat} {a_t : Nat} {a_t_now : Nat} {a_t_now_kind : Nat} {a_t_now_hand : Nat} {a_t_now_leader : Nat} {a_t_now_course : Nat} {a_t_acts : Nat} {a_t_acts_halls : Nat} {a_t_rows : Nat} {a_t_tape : Nat} {a_t_reader : Nat} {a_t_trial : Nat} {a_t_ways : Nat} {a_t_asks : Nat} {a_t_images : Nat} {a_t_imageKept : Nat} {t_latestFault : Int32} {t_latestFinding : Int32} {t_now_players : Int32} {t_now_round : Int32} {t_now_time : Int32} {t_now_kind : (Nat → Int32)} {t_now_hand : (Nat → Int32)} {t_now_leader : (Nat → Int32)} {t_now_course_first : Int32} {t_now_course_second : Int32} {t_now_course_thrown : Int32} {t_acts_kept : Int32} {t_acts_next : Int32} {t_acts_halls : (Nat → Int32)} {rf : Int32 × Int32 × Int32 × (Nat → Int32) × (Nat → Int32) × Int32 × Int32 × Int32 × Int32 × Int32 × (Nat → Int32)} (hQ : ZQi E (zty cI cB cZ) rf.1 [(a_t, .inr (8, [.ref a_t_rows, .ref a_t_tape, .ref a_t_reader, .ref a_t_now, .ref a_t_trial, .ref a_t_acts, .ref a_t_ways, .ref a_t_asks, .ref a_t_images, .ref a_t_imageKept, .int t_latestFault, .int t_latestFinding])), (a_t_now, .inr (3, [.int t_now_players, .int rf.2.1, .int rf.2.2.1, .ref a_t_now_kind, .ref a_t_now_hand, .ref a_t_now_leader, .ref a_t_now_course])), (a_t_now_kind, .inl (cI, 8, .inl t_now_kind)), (a_t_now_hand, .inl (cI, 8, .inl rf.2.2.2.1)), (a_t_now_leader, .inl (cI, 8, .inl rf.2.2.2.2.1)), (a_t_now_course, .inr (2, [.int rf.2.2.2.2.2.1, .int rf.2.2.2.2.2.2.1, .int rf.2.2.2.2.2.2.2.1])), (a_t_acts, .inr (0, [.ref a_t_acts_halls, .int rf.2.2.2.2.2.2.2.2.1, .int rf.2.2.2.2.2.2.2.2.2.1])), (a_t_acts_halls, .inl (cI, 648, .inl rf.2.2.2.2.2.2.2.2.2.2))]) (hR : o_X8_round N t_now_players t_now_round t_now_time t_now_kind t_now_hand t_now_leader t_now_course_first t_now_course_second t_now_course_thrown t_acts_kept t_acts_next t_acts_halls = some rf) : Z E (0, 0) [(0, .ref a_t)] 0 [] [(a_t, .inr (8, [.ref a_t_rows, .ref a_t_tape, .ref a_t_reader, .ref a_t_now, .ref a_t_trial, .ref a_t_acts, .ref a_t_ways, .ref a_t_asks, .ref a_t_images, .ref a_t_imageKept, .int t_latestFault, .int t_latestFinding])), (a_t_now, .inr (3, [.int t_now_players, .int t_now_round, .int t_now_time, .ref a_t_now_kind, .ref a_t_now_hand, .ref a_t_now_leader, .ref a_t_now_course])), (a_t_now_kind, .inl (cI, 8, .inl t_now_kind)), (a_t_now_hand, .inl (cI, 8, .inl t_now_hand)), (a_t_now_leader, .inl (cI, 8, .inl t_now_leader)), (a_t_now_course, .inr (2, [.int t_now_course_first, .int t_now_course_second, .int t_now_course_thrown])), (a_t_acts, .inr (0, [.ref a_t_acts_halls, .int t_acts_kept, .int t_acts_next])), (a_t_acts_halls, .inl (cI, 648, .inl t_acts_halls))] := by
  rw [o_X8_round] at hR
  refine z_aload_n hC dX8_round_0 rfl 0 rfl ?_
  refine z_get hC iX8_round_X8 rfl 0 3 rfl (by decide) mX8_round_1 rfl rfl dX8_round_1 ?_
  refine z_callVi_p hC hN [] [1, 4] (c_X3_leaders (l := zl E) (D := zD E) (cI := cI) (cB := cB) (cZ := cZ) (N := N) (a_t := a_t_now) (a_t_kind := a_t_now_kind) (a_t_hand := a_t_now_hand) (a_t_leader := a_t_now_leader) (a_t_course := a_t_now_course) (t_players := t_now_players) (t_round := t_now_round) (t_time := t_now_time) (t_leader := t_now_leader)) rfl ⟨rfl, rfl⟩ gX8_round_X3_leaders hvX3_leaders 1 3 rfl rfl rfl ⟨Nat.le_of_ble_eq_true rfl, Nat.le_of_ble_eq_true rfl⟩ ⟨Nat.zero_le _, Nat.zero_le _⟩ rfl (Nat.le_of_ble_eq_true rfl) rfl (by decide) dX8_round_4 hR (fun r4 hR => ?_)
  refine z_ic2 hC dX8_round_7 ?_
  refine z_icmp_ge hC 14 dX8_round_8 (by decide) hR (fun hR => ?_) (fun hR => ?_)
  · refine z_aload_n hC dX8_round_14 rfl 0 rfl ?_
    refine z_get hC iX8_round_X8 rfl 0 5 rfl (by decide) mX8_round_3 rfl rfl dX8_round_15 ?_
    refine z_aload_n hC dX8_round_18 rfl 0 rfl ?_
    refine z_get hC iX8_round_X8 rfl 0 3 rfl (by decide) mX8_round_1 rfl rfl dX8_round_19 ?_
    refine z_callVv hC hN [.ref a_t_now] [6, 7, 1, 2, 3, 4] (c_X0_keep (l := zl E) (D := zD E) (cI := cI) (cB := cB) (cZ := cZ) (N := N) (a_t := a_t_acts) (a_t_halls := a_t_acts_halls) (a_p1 := a_t_now) (a_p1_kind := a_t_now_kind) (a_p1_hand := a_t_now_hand) (a_p1_leader := a_t_now_leader) (a_p1_course := a_t_now_course) (t_kept := t_acts_kept) (t_next := t_acts_next) (t_halls := t_acts_halls) (p1_players := t_now_players) (p1_round := t_now_round) (p1_time := t_now_time) (p1_kind := t_now_kind) (p1_hand := t_now_hand) (p1_leader := t_now_leader)) rfl ⟨rfl, rfl⟩ gX8_round_X0_keep hvX0_keep 6 0 rfl rfl rfl ⟨Nat.le_of_ble_eq_true rfl, Nat.le_of_ble_eq_true rfl⟩ ⟨Nat.zero_le _, Nat.zero_le _⟩ rfl (Nat.le_of_ble_eq_true rfl) rfl (by decide) (fun _ => rfl) dX8_round_22 hR (fun r22 hR => ?_)
    refine z_eq [(a_t, .inr (8, [.ref a_t_rows, .ref a_t_tape, .ref a_t_reader, .ref a_t_now, .ref a_t_trial, .ref a_t_acts, .ref a_t_ways, .ref a_t_asks, .ref a_t_images, .ref a_t_imageKept, .int t_latestFault, .int t_latestFinding])), (a_t_now, .inr (3, [.int t_now_players, .int t_now_round, .int t_now_time, .ref a_t_now_kind, .ref a_t_now_hand, .ref a_t_now_leader, .ref a_t_now_course])), (a_t_now_kind, .inl (cI, 8, .inl t_now_kind)), (a_t_now_hand, .inl (cI, 8, .inl t_now_hand)), (a_t_now_leader, .inl (cI, 8, .inl t_now_leader)), (a_t_now_course, .inr (2, [.int t_now_course_first, .int t_now_course_second, .int t_now_course_thrown])), (a_t_acts, .inr (0, [.ref a_t_acts_halls, .int r22.1, .int r22.2.1])), (a_t_acts_halls, .inl (cI, 648, .inl r22.2.2))] rfl ?_
    refine z_aload_n hC dX8_round_25 rfl 0 rfl ?_
    refine z_get hC iX8_round_X8 rfl 0 3 rfl (by decide) mX8_round_1 rfl rfl dX8_round_26 ?_
    refine z_callVv hC hN [] [1, 2, 3, 4, 5] (c_X3_playRound (l := zl E) (D := zD E) (cI := cI) (cB := cB) (cZ := cZ) (N := N) (a_t := a_t_now) (a_t_kind := a_t_now_kind) (a_t_hand := a_t_now_hand) (a_t_leader := a_t_now_leader) (a_t_course := a_t_now_course) (t_players := t_now_players) (t_round := t_now_round) (t_time := t_now_time) (t_kind := t_now_kind) (t_hand := t_now_hand) (t_leader := t_now_leader) (t_course_first := t_now_course_first) (t_course_second := t_now_course_second) (t_course_thrown := t_now_course_thrown)) rfl ⟨rfl, rfl⟩ gX8_round_X3_playRound hvX3_playRound 1 3 rfl rfl rfl ⟨Nat.le_of_ble_eq_true rfl, Nat.le_of_ble_eq_true rfl⟩ ⟨Nat.zero_le _, Nat.zero_le _⟩ rfl (Nat.le_of_ble_eq_true rfl) rfl (by decide) (fun _ => rfl) dX8_round_29 hR (fun r29 hR => ?_)
    refine z_eq [(a_t, .inr (8, [.ref a_t_rows, .ref a_t_tape, .ref a_t_reader, .ref a_t_now, .ref a_t_trial, .ref a_t_acts, .ref a_t_ways, .ref a_t_asks, .ref a_t_images, .ref a_t_imageKept, .int t_latestFault, .int t_latestFinding])), (a_t_now, .inr (3, [.int t_now_players, .int r29.1, .int r29.2.1, .ref a_t_now_kind, .ref a_t_now_hand, .ref a_t_now_leader, .ref a_t_now_course])), (a_t_now_kind, .inl (cI, 8, .inl t_now_kind)), (a_t_now_hand, .inl (cI, 8, .inl r29.2.2.1)), (a_t_now_leader, .inl (cI, 8, .inl r29.2.2.2.1)), (a_t_now_course, .inr (2, [.int r29.2.2.2.2.1, .int r29.2.2.2.2.2.1, .int r29.2.2.2.2.2.2])), (a_t_acts, .inr (0, [.ref a_t_acts_halls, .int r22.1, .int r22.2.1])), (a_t_acts_halls, .inl (cI, 648, .inl r22.2.2))] rfl ?_
    refine z_aload_n hC dX8_round_32 rfl 0 rfl ?_
    refine z_get hC iX8_round_X8 rfl 0 3 rfl (by decide) mX8_round_1 rfl rfl dX8_round_33 ?_
    refine z_callVi_p hC hN [] [1, 4] (c_X3_leaders (l := zl E) (D := zD E) (cI := cI) (cB := cB) (cZ := cZ) (N := N) (a_t := a_t_now) (a_t_kind := a_t_now_kind) (a_t_hand := a_t_now_hand) (a_t_leader := a_t_now_leader) (a_t_course := a_t_now_course) (t_players := t_now_players) (t_round := r29.1) (t_time := r29.2.1) (t_leader := r29.2.2.2.1)) rfl ⟨rfl, rfl⟩ gX8_round_X3_leaders hvX3_leaders 1 3 rfl rfl rfl ⟨Nat.le_of_ble_eq_true rfl, Nat.le_of_ble_eq_true rfl⟩ ⟨Nat.zero_le _, Nat.zero_le _⟩ rfl (Nat.le_of_ble_eq_true rfl) rfl (by decide) dX8_round_36 hR (fun r36 hR => ?_)
    obtain rfl := Option.some.inj hR
    exact z_iret hC hQ rfl rfl rfl dX8_round_39
  · refine z_ldc hC (-1000002) mX8_round_2 dX8_round_11 ?_
    obtain rfl := Option.some.inj hR
    exact z_iret hC hQ rfl rfl rfl dX8_round_13
set_option maxHeartbeats 4000000 in
set_option maxRecDepth 100000 in
theorem c_X8_round {sK sV : Nat → Nat} {l : Launch} {D : va_G} {cI cB cZ : ClassId} {N : Nat} {a_t : Nat} {a_t_now : Nat} {a_t_now_kind : Nat} {a_t_now_hand : Nat} {a_t_now_leader : Nat} {a_t_now_course : Nat} {a_t_acts : Nat} {a_t_acts_halls : Nat} {a_t_rows : Nat} {a_t_tape : Nat} {a_t_reader : Nat} {a_t_trial : Nat} {a_t_ways : Nat} {a_t_asks : Nat} {a_t_images : Nat} {a_t_imageKept : Nat} {t_latestFault : Int32} {t_latestFinding : Int32} {t_now_players : Int32} {t_now_round : Int32} {t_now_time : Int32} {t_now_kind : (Nat → Int32)} {t_now_hand : (Nat → Int32)} {t_now_leader : (Nat → Int32)} {t_now_course_first : Int32} {t_now_course_second : Int32} {t_now_course_thrown : Int32} {t_acts_kept : Int32} {t_acts_next : Int32} {t_acts_halls : (Nat → Int32)} : ∀ R : Int32 × Int32 × Int32 × (Nat → Int32) × (Nat → Int32) × Int32 × Int32 × Int32 × Int32 × Int32 × (Nat → Int32), o_X8_round N t_now_players t_now_round t_now_time t_now_kind t_now_hand t_now_leader t_now_course_first t_now_course_second t_now_course_thrown t_acts_kept t_acts_next t_acts_halls = some R → ZMi sK sV l yX8_round wsX8_round rmX8_round D (zty cI cB cZ) [.ref a_t] [(a_t, .inr (8, [.ref a_t_rows, .ref a_t_tape, .ref a_t_reader, .ref a_t_now, .ref a_t_trial, .ref a_t_acts, .ref a_t_ways, .ref a_t_asks, .ref a_t_images, .ref a_t_imageKept, .int t_latestFault, .int t_latestFinding])), (a_t_now, .inr (3, [.int t_now_players, .int t_now_round, .int t_now_time, .ref a_t_now_kind, .ref a_t_now_hand, .ref a_t_now_leader, .ref a_t_now_course])), (a_t_now_kind, .inl (cI, 8, .inl t_now_kind)), (a_t_now_hand, .inl (cI, 8, .inl t_now_hand)), (a_t_now_leader, .inl (cI, 8, .inl t_now_leader)), (a_t_now_course, .inr (2, [.int t_now_course_first, .int t_now_course_second, .int t_now_course_thrown])), (a_t_acts, .inr (0, [.ref a_t_acts_halls, .int t_acts_kept, .int t_acts_next])), (a_t_acts_halls, .inl (cI, 648, .inl t_acts_halls))] R.1 [(a_t, .inr (8, [.ref a_t_rows, .ref a_t_tape, .ref a_t_reader, .ref a_t_now, .ref a_t_trial, .ref a_t_acts, .ref a_t_ways, .ref a_t_asks, .ref a_t_images, .ref a_t_imageKept, .int t_latestFault, .int t_latestFinding])), (a_t_now, .inr (3, [.int t_now_players, .int R.2.1, .int R.2.2.1, .ref a_t_now_kind, .ref a_t_now_hand, .ref a_t_now_leader, .ref a_t_now_course])), (a_t_now_kind, .inl (cI, 8, .inl t_now_kind)), (a_t_now_hand, .inl (cI, 8, .inl R.2.2.2.1)), (a_t_now_leader, .inl (cI, 8, .inl R.2.2.2.2.1)), (a_t_now_course, .inr (2, [.int R.2.2.2.2.2.1, .int R.2.2.2.2.2.2.1, .int R.2.2.2.2.2.2.2.1])), (a_t_acts, .inr (0, [.ref a_t_acts_halls, .int R.2.2.2.2.2.2.2.2.1, .int R.2.2.2.2.2.2.2.2.2.1])), (a_t_acts_halls, .inl (cI, 648, .inl R.2.2.2.2.2.2.2.2.2.2))] := by
  intro R hR
  refine zi_of (cc := cX8_round) (maxL := 1) (ret := (some .int)) (by decide) rfl (Nat.le_of_ble_eq_true rfl) (fun E hE1 hE2 hC hN hQ => ?_)
  subst hE1 hE2
  exact z_X8_round_0 hC hN (N := N) (a_t := a_t) (a_t_now := a_t_now) (a_t_now_kind := a_t_now_kind) (a_t_now_hand := a_t_now_hand) (a_t_now_leader := a_t_now_leader) (a_t_now_course := a_t_now_course) (a_t_acts := a_t_acts) (a_t_acts_halls := a_t_acts_halls) (a_t_rows := a_t_rows) (a_t_tape := a_t_tape) (a_t_reader := a_t_reader) (a_t_trial := a_t_trial) (a_t_ways := a_t_ways) (a_t_asks := a_t_asks) (a_t_images := a_t_images) (a_t_imageKept := a_t_imageKept) (t_latestFault := t_latestFault) (t_latestFinding := t_latestFinding) (t_now_players := t_now_players) (t_now_round := t_now_round) (t_now_time := t_now_time) (t_now_kind := t_now_kind) (t_now_hand := t_now_hand) (t_now_leader := t_now_leader) (t_now_course_first := t_now_course_first) (t_now_course_second := t_now_course_second) (t_now_course_thrown := t_now_course_thrown) (t_acts_kept := t_acts_kept) (t_acts_next := t_acts_next) (t_acts_halls := t_acts_halls) hQ hR

/-! FistTrains.hand -/
abbrev rmX8_hand : Room := { frames := 2, cells := 0, slots := 0, locals := 44 }
set_option maxRecDepth 20000 in
theorem mX8_hand_1 : Cond.constant RX8 82 (-1000001) ∈ wsX8_hand := List.mem_of_getElem? (i := 1) rfl
set_option maxRecDepth 20000 in
theorem iX8_hand_X8 : ∀ w ∈ wsX80, w ∈ wsX8_hand := by decide +kernel
set_option maxRecDepth 20000 in
theorem mX8_hand_2 : Cond.fieldLink RX8 45 "FistTrains" "acts" "LFistTrains$Acts;" ∈ wsX8_hand := List.mem_of_getElem? (i := 2) rfl
set_option maxRecDepth 20000 in
theorem mX8_hand_3 : Cond.fieldLink RX8 35 "FistTrains" "now" "LFistTrains$Hall;" ∈ wsX8_hand := List.mem_of_getElem? (i := 3) rfl
set_option maxRecDepth 20000 in
theorem iX8_hand_X3 : ∀ w ∈ wsX30, w ∈ wsX8_hand := by decide +kernel
set_option maxRecDepth 20000 in
theorem mX8_hand_4 : Cond.fieldLink RX8 196 "FistTrains$Hall" "hand" "[I" ∈ wsX8_hand := List.mem_of_getElem? (i := 4) rfl
def o_X8_hand (N : Nat) (t_now_players : Int32) (t_now_round : Int32) (t_now_time : Int32) (t_now_kind : (Nat → Int32)) (t_now_hand : (Nat → Int32)) (t_now_leader : (Nat → Int32)) (t_acts_kept : Int32) (t_acts_next : Int32) (t_acts_halls : (Nat → Int32)) (l1 : Int32) (l2 : Int32) : Option (Int32 × (Nat → Int32) × Int32 × Int32 × (Nat → Int32)) :=
  Option.bind (o_X8_isPlayer N t_now_players l1) (fun r2 =>
  if r2 = 0 then
    some ((-1000001), t_now_hand, t_acts_kept, t_acts_next, t_acts_halls)
  else
    Option.bind (o_X8_isHand N l2) (fun r9 =>
    if r9 = 0 then
      some ((-1000001), t_now_hand, t_acts_kept, t_acts_next, t_acts_halls)
    else
      Option.bind (o_X0_keep N t_acts_kept t_acts_next t_acts_halls t_now_players t_now_round t_now_time t_now_kind t_now_hand t_now_leader) (fun r26 =>
      ogd (inb l1 8) (
      ogd (inb l1 8) (
      some ((t_now_hand (Int32.toNatClampNeg l1)), (upd t_now_hand (Int32.toNatClampNeg l1) l2), r26.1, r26.2.1, r26.2.2))))))
set_option maxHeartbeats 4000000 in
set_option maxRecDepth 100000 in
theorem z_X8_hand_0 {sK sV : Nat → Nat} {E : ZE} {cI cB cZ : ClassId} (hC : ZC E 4 cX8_hand wsX8_hand RX8 rmX8_hand (some .int) (zty cI cB cZ)) (hN : ZN sK sV (zA E) (zs E)) {N : Nat} {a_t : Nat} {a_t_now : Nat} {a_t_now_kind : Nat} {a_t_now_hand : Nat} {a_t_now_leader : Nat} {a_t_acts : Nat} {a_t_acts_halls : Nat} {a_t_rows : Nat} {a_t_tape : Nat} {a_t_reader : Nat} {a_t_trial : Nat} {a_t_ways : Nat} {a_t_asks : Nat} {a_t_images : Nat} {a_t_imageKept : Nat} {a_t_now_course : Nat} {t_latestFault : Int32} {t_latestFinding : Int32} {t_now_players : Int32} {t_now_round : Int32} {t_now_time : Int32} {t_now_kind : (Nat → Int32)} {t_now_hand : (Nat → Int32)} {t_now_leader : (Nat → Int32)} {t_acts_kept : Int32} {t_acts_next : Int32} {t_acts_halls : (Nat → Int32)} {l1 : Int32} {l2 : Int32} {rf : Int32 × (Nat → Int32) × Int32 × Int32 × (Nat → Int32)} (hQ : ZQi E (zty cI cB cZ) rf.1 [(a_t, .inr (8, [.ref a_t_rows, .ref a_t_tape, .ref a_t_reader, .ref a_t_now, .ref a_t_trial, .ref a_t_acts, .ref a_t_ways, .ref a_t_asks, .ref a_t_images, .ref a_t_imageKept, .int t_latestFault, .int t_latestFinding])), (a_t_now, .inr (3, [.int t_now_players, .int t_now_round, .int t_now_time, .ref a_t_now_kind, .ref a_t_now_hand, .ref a_t_now_leader, .ref a_t_now_course])), (a_t_now_kind, .inl (cI, 8, .inl t_now_kind)), (a_t_now_hand, .inl (cI, 8, .inl rf.2.1)), (a_t_now_leader, .inl (cI, 8, .inl t_now_leader)), (a_t_acts, .inr (0, [.ref a_t_acts_halls, .int rf.2.2.1, .int rf.2.2.2.1])), (a_t_acts_halls, .inl (cI, 648, .inl rf.2.2.2.2))]) (hR : o_X8_hand N t_now_players t_now_round t_now_time t_now_kind t_now_hand t_now_leader t_acts_kept t_acts_next t_acts_halls l1 l2 = some rf) : Z E (0, 0) [(0, .ref a_t), (1, .int l1), (2, .int l2)] 0 [] [(a_t, .inr (8, [.ref a_t_rows, .ref a_t_tape, .ref a_t_reader, .ref a_t_now, .ref a_t_trial, .ref a_t_acts, .ref a_t_ways, .ref a_t_asks, .ref a_t_images, .ref a_t_imageKept, .int t_latestFault, .int t_latestFinding])), (a_t_now, .inr (3, [.int t_now_players, .int t_now_round, .int t_now_time, .ref a_t_now_kind, .ref a_t_now_hand, .ref a_t_now_leader, .ref a_t_now_course])), (a_t_now_kind, .inl (cI, 8, .inl t_now_kind)), (a_t_now_hand, .inl (cI, 8, .inl t_now_hand)), (a_t_now_leader, .inl (cI, 8, .inl t_now_leader)), (a_t_acts, .inr (0, [.ref a_t_acts_halls, .int t_acts_kept, .int t_acts_next])), (a_t_acts_halls, .inl (cI, 648, .inl t_acts_halls))] := by
  rw [o_X8_hand] at hR
  refine z_aload_n hC dX8_hand_0 rfl 0 rfl ?_
  refine z_iload_n hC dX8_hand_1 rfl 1 rfl ?_
  refine z_callVi_p hC hN [.int l1] [0, 1] (c_X8_isPlayer (l := zl E) (D := zD E) (cI := cI) (cB := cB) (cZ := cZ) (N := N) (a_t := a_t) (a_t_rows := a_t_rows) (a_t_tape := a_t_tape) (a_t_reader := a_t_reader) (a_t_now := a_t_now) (a_t_trial := a_t_trial) (a_t_acts := a_t_acts) (a_t_ways := a_t_ways) (a_t_asks := a_t_asks) (a_t_images := a_t_images) (a_t_imageKept := a_t_imageKept) (a_t_now_kind := a_t_now_kind) (a_t_now_hand := a_t_now_hand) (a_t_now_leader := a_t_now_leader) (a_t_now_course := a_t_now_course) (l1 := l1) (t_latestFault := t_latestFault) (t_latestFinding := t_latestFinding) (t_now_players := t_now_players) (t_now_round := t_now_round) (t_now_time := t_now_time)) rfl ⟨rfl, rfl⟩ gX8_hand_X8_isPlayer hvX8_isPlayer 0 8 rfl rfl rfl ⟨Nat.le_of_ble_eq_true rfl, Nat.le_of_ble_eq_true rfl⟩ ⟨Nat.zero_le _, Nat.zero_le _⟩ rfl (Nat.le_of_ble_eq_true rfl) rfl (by decide) dX8_hand_2 hR (fun r2 hR => ?_)
  refine z_if_eq hC 15 dX8_hand_5 (by decide) hR (fun hR => ?_) (fun hR => ?_)
  · refine z_ldc hC (-1000001) mX8_hand_1 dX8_hand_15 ?_
    obtain rfl := Option.some.inj hR
    exact z_iret hC hQ rfl rfl rfl dX8_hand_17
  · refine z_iload_n hC dX8_hand_8 rfl 2 rfl ?_
    refine z_callSi_p hC hN [.int l2] [] (c_X8_isHand (l := zl E) (D := zD E) (cI := cI) (cB := cB) (cZ := cZ) (N := N) (l0 := l2)) rfl ⟨rfl, rfl⟩ gX8_hand_X8_isHand hsX8_isHand ⟨Nat.le_of_ble_eq_true rfl, Nat.le_of_ble_eq_true rfl⟩ ⟨Nat.zero_le _, Nat.zero_le _⟩ rfl (Nat.le_of_ble_eq_true rfl) rfl (by decide) dX8_hand_9 hR (fun r9 hR => ?_)
    refine z_if_ne hC 18 dX8_hand_12 (by decide) hR (fun hR => ?_) (fun hR => ?_)
    · refine z_aload_n hC dX8_hand_18 rfl 0 rfl ?_
      refine z_get hC iX8_hand_X8 rfl 0 5 rfl (by decide) mX8_hand_2 rfl rfl dX8_hand_19 ?_
      refine z_aload_n hC dX8_hand_22 rfl 0 rfl ?_
      refine z_get hC iX8_hand_X8 rfl 0 3 rfl (by decide) mX8_hand_3 rfl rfl dX8_hand_23 ?_
      refine z_callVv hC hN [.ref a_t_now] [5, 6, 1, 2, 3, 4] (c_X0_keep (l := zl E) (D := zD E) (cI := cI) (cB := cB) (cZ := cZ) (N := N) (a_t := a_t_acts) (a_t_halls := a_t_acts_halls) (a_p1 := a_t_now) (a_p1_kind := a_t_now_kind) (a_p1_hand := a_t_now_hand) (a_p1_leader := a_t_now_leader) (a_p1_course := a_t_now_course) (t_kept := t_acts_kept) (t_next := t_acts_next) (t_halls := t_acts_halls) (p1_players := t_now_players) (p1_round := t_now_round) (p1_time := t_now_time) (p1_kind := t_now_kind) (p1_hand := t_now_hand) (p1_leader := t_now_leader)) rfl ⟨rfl, rfl⟩ gX8_hand_X0_keep hvX0_keep 5 0 rfl rfl rfl ⟨Nat.le_of_ble_eq_true rfl, Nat.le_of_ble_eq_true rfl⟩ ⟨Nat.zero_le _, Nat.zero_le _⟩ rfl (Nat.le_of_ble_eq_true rfl) rfl (by decide) (fun _ => rfl) dX8_hand_26 hR (fun r26 hR => ?_)
      refine z_eq [(a_t, .inr (8, [.ref a_t_rows, .ref a_t_tape, .ref a_t_reader, .ref a_t_now, .ref a_t_trial, .ref a_t_acts, .ref a_t_ways, .ref a_t_asks, .ref a_t_images, .ref a_t_imageKept, .int t_latestFault, .int t_latestFinding])), (a_t_now, .inr (3, [.int t_now_players, .int t_now_round, .int t_now_time, .ref a_t_now_kind, .ref a_t_now_hand, .ref a_t_now_leader, .ref a_t_now_course])), (a_t_now_kind, .inl (cI, 8, .inl t_now_kind)), (a_t_now_hand, .inl (cI, 8, .inl t_now_hand)), (a_t_now_leader, .inl (cI, 8, .inl t_now_leader)), (a_t_acts, .inr (0, [.ref a_t_acts_halls, .int r26.1, .int r26.2.1])), (a_t_acts_halls, .inl (cI, 648, .inl r26.2.2))] rfl ?_
      refine z_aload_n hC dX8_hand_29 rfl 0 rfl ?_
      refine z_get hC iX8_hand_X8 rfl 0 3 rfl (by decide) mX8_hand_3 rfl rfl dX8_hand_30 ?_
      refine z_get hC iX8_hand_X3 rfl 1 4 rfl (by decide) mX8_hand_4 rfl rfl dX8_hand_33 ?_
      refine z_iload_n hC dX8_hand_36 rfl 1 rfl ?_
      refine z_iald hC 3 0 rfl rfl dX8_hand_37 hR (fun hR => ?_)
      refine z_istore_n hC [(3, .int (t_now_hand (Int32.toNatClampNeg l1))), (0, .ref a_t), (1, .int l1), (2, .int l2)] dX8_hand_38 rfl (by decide) rfl ?_
      refine z_aload_n hC dX8_hand_39 rfl 1 rfl ?_
      refine z_get hC iX8_hand_X8 rfl 0 3 rfl (by decide) mX8_hand_3 rfl rfl dX8_hand_40 ?_
      refine z_get hC iX8_hand_X3 rfl 1 4 rfl (by decide) mX8_hand_4 rfl rfl dX8_hand_43 ?_
      refine z_iload_n hC dX8_hand_46 rfl 2 rfl ?_
      refine z_iload_n hC dX8_hand_47 rfl 3 rfl ?_
      refine z_iast hC 3 0 rfl rfl dX8_hand_48 hR (fun hR => ?_)
      refine z_iload_n hC dX8_hand_49 rfl 0 rfl ?_
      obtain rfl := Option.some.inj hR
      exact z_iret hC hQ rfl rfl rfl dX8_hand_50
    · refine z_ldc hC (-1000001) mX8_hand_1 dX8_hand_15 ?_
      obtain rfl := Option.some.inj hR
      exact z_iret hC hQ rfl rfl rfl dX8_hand_17
set_option maxHeartbeats 4000000 in
set_option maxRecDepth 100000 in
theorem c_X8_hand {sK sV : Nat → Nat} {l : Launch} {D : va_G} {cI cB cZ : ClassId} {N : Nat} {a_t : Nat} {a_t_now : Nat} {a_t_now_kind : Nat} {a_t_now_hand : Nat} {a_t_now_leader : Nat} {a_t_acts : Nat} {a_t_acts_halls : Nat} {a_t_rows : Nat} {a_t_tape : Nat} {a_t_reader : Nat} {a_t_trial : Nat} {a_t_ways : Nat} {a_t_asks : Nat} {a_t_images : Nat} {a_t_imageKept : Nat} {a_t_now_course : Nat} {t_latestFault : Int32} {t_latestFinding : Int32} {t_now_players : Int32} {t_now_round : Int32} {t_now_time : Int32} {t_now_kind : (Nat → Int32)} {t_now_hand : (Nat → Int32)} {t_now_leader : (Nat → Int32)} {t_acts_kept : Int32} {t_acts_next : Int32} {t_acts_halls : (Nat → Int32)} {l1 : Int32} {l2 : Int32} : ∀ R : Int32 × (Nat → Int32) × Int32 × Int32 × (Nat → Int32), o_X8_hand N t_now_players t_now_round t_now_time t_now_kind t_now_hand t_now_leader t_acts_kept t_acts_next t_acts_halls l1 l2 = some R → ZMi sK sV l yX8_hand wsX8_hand rmX8_hand D (zty cI cB cZ) [.ref a_t, .int l1, .int l2] [(a_t, .inr (8, [.ref a_t_rows, .ref a_t_tape, .ref a_t_reader, .ref a_t_now, .ref a_t_trial, .ref a_t_acts, .ref a_t_ways, .ref a_t_asks, .ref a_t_images, .ref a_t_imageKept, .int t_latestFault, .int t_latestFinding])), (a_t_now, .inr (3, [.int t_now_players, .int t_now_round, .int t_now_time, .ref a_t_now_kind, .ref a_t_now_hand, .ref a_t_now_leader, .ref a_t_now_course])), (a_t_now_kind, .inl (cI, 8, .inl t_now_kind)), (a_t_now_hand, .inl (cI, 8, .inl t_now_hand)), (a_t_now_leader, .inl (cI, 8, .inl t_now_leader)), (a_t_acts, .inr (0, [.ref a_t_acts_halls, .int t_acts_kept, .int t_acts_next])), (a_t_acts_halls, .inl (cI, 648, .inl t_acts_halls))] R.1 [(a_t, .inr (8, [.ref a_t_rows, .ref a_t_tape, .ref a_t_reader, .ref a_t_now, .ref a_t_trial, .ref a_t_acts, .ref a_t_ways, .ref a_t_asks, .ref a_t_images, .ref a_t_imageKept, .int t_latestFault, .int t_latestFinding])), (a_t_now, .inr (3, [.int t_now_players, .int t_now_round, .int t_now_time, .ref a_t_now_kind, .ref a_t_now_hand, .ref a_t_now_leader, .ref a_t_now_course])), (a_t_now_kind, .inl (cI, 8, .inl t_now_kind)), (a_t_now_hand, .inl (cI, 8, .inl R.2.1)), (a_t_now_leader, .inl (cI, 8, .inl t_now_leader)), (a_t_acts, .inr (0, [.ref a_t_acts_halls, .int R.2.2.1, .int R.2.2.2.1])), (a_t_acts_halls, .inl (cI, 648, .inl R.2.2.2.2))] := by
  intro R hR
  refine zi_of (cc := cX8_hand) (maxL := 4) (ret := (some .int)) (by decide) rfl (Nat.le_of_ble_eq_true rfl) (fun E hE1 hE2 hC hN hQ => ?_)
  subst hE1 hE2
  exact z_X8_hand_0 hC hN (N := N) (a_t := a_t) (a_t_now := a_t_now) (a_t_now_kind := a_t_now_kind) (a_t_now_hand := a_t_now_hand) (a_t_now_leader := a_t_now_leader) (a_t_acts := a_t_acts) (a_t_acts_halls := a_t_acts_halls) (a_t_rows := a_t_rows) (a_t_tape := a_t_tape) (a_t_reader := a_t_reader) (a_t_trial := a_t_trial) (a_t_ways := a_t_ways) (a_t_asks := a_t_asks) (a_t_images := a_t_images) (a_t_imageKept := a_t_imageKept) (a_t_now_course := a_t_now_course) (t_latestFault := t_latestFault) (t_latestFinding := t_latestFinding) (t_now_players := t_now_players) (t_now_round := t_now_round) (t_now_time := t_now_time) (t_now_kind := t_now_kind) (t_now_hand := t_now_hand) (t_now_leader := t_now_leader) (t_acts_kept := t_acts_kept) (t_acts_next := t_acts_next) (t_acts_halls := t_acts_halls) (l1 := l1) (l2 := l2) hQ hR

/-! FistTrains.takeHands -/
abbrev rmX8_takeHands : Room := { frames := 2, cells := 0, slots := 0, locals := 44 }
set_option maxRecDepth 20000 in
theorem iX8_takeHands_X8 : ∀ w ∈ wsX80, w ∈ wsX8_takeHands := by decide +kernel
set_option maxRecDepth 20000 in
theorem mX8_takeHands_1 : Cond.fieldLink RX8 35 "FistTrains" "now" "LFistTrains$Hall;" ∈ wsX8_takeHands := List.mem_of_getElem? (i := 1) rfl
set_option maxRecDepth 20000 in
theorem iX8_takeHands_X3 : ∀ w ∈ wsX30, w ∈ wsX8_takeHands := by decide +kernel
set_option maxRecDepth 20000 in
theorem mX8_takeHands_4 : Cond.fieldLink RX8 196 "FistTrains$Hall" "hand" "[I" ∈ wsX8_takeHands := List.mem_of_getElem? (i := 4) rfl
set_option maxRecDepth 20000 in
theorem mX8_takeHands_2 : Cond.fieldLink RX8 154 "FistTrains$Hall" "players" "I" ∈ wsX8_takeHands := List.mem_of_getElem? (i := 2) rfl
set_option maxRecDepth 20000 in
theorem mX8_takeHands_3 : Cond.fieldLink RX8 10 "FistTrains" "rows" "LFistTrains$Rows;" ∈ wsX8_takeHands := List.mem_of_getElem? (i := 3) rfl
def o_X8_takeHands_43 (N : Nat) (K4 : (Nat → Int32) → Int32 → Int32 → Option (Int32 × (Nat → Int32))) (t_rows_items : (Nat → Int32)) (t_now_players : Int32) (t_now_hand : (Nat → Int32)) (l1 : Int32) (l2 : Int32) (l3 : Int32) (l4 : Int32) : Option (Int32 × (Nat → Int32)) :=
  ogd (inb l3 8) (
  K4 (upd t_now_hand (Int32.toNatClampNeg l3) l4) l2 (l3 + 1))
def o_X8_takeHands_4 (N : Nat) (t_rows_items : (Nat → Int32)) (t_now_players : Int32) (l1 : Int32) : Nat → (Nat → Int32) → Int32 → Int32 → Option (Int32 × (Nat → Int32))
  | 0 => fun _ _ _ => none
  | n + 1 => fun t_now_hand l2 l3 => 
    if t_now_players ≤ l3 then
      some (l2, t_now_hand)
    else
      Option.bind (o_X5_itemOf N t_rows_items l1 l3) (fun r21 =>
      ogd (inb l3 8) (
      if (t_now_hand (Int32.toNatClampNeg l3)) = r21 then
        o_X8_takeHands_43 N (o_X8_takeHands_4 N t_rows_items t_now_players l1 n) t_rows_items t_now_players t_now_hand l1 l2 l3 r21
      else
        o_X8_takeHands_43 N (o_X8_takeHands_4 N t_rows_items t_now_players l1 n) t_rows_items t_now_players t_now_hand l1 (l2 + 1) l3 r21))
def o_X8_takeHands (N : Nat) (t_rows_items : (Nat → Int32)) (t_now_players : Int32) (t_now_hand : (Nat → Int32)) (l1 : Int32) : Option (Int32 × (Nat → Int32)) :=
  o_X8_takeHands_4 N t_rows_items t_now_players l1 N t_now_hand 0 0
set_option maxHeartbeats 4000000 in
set_option maxRecDepth 100000 in
theorem z_X8_takeHands_43 {sK sV : Nat → Nat} {E : ZE} {cI cB cZ : ClassId} (hC : ZC E 5 cX8_takeHands wsX8_takeHands RX8 rmX8_takeHands (some .int) (zty cI cB cZ)) (hN : ZN sK sV (zA E) (zs E)) {N : Nat} {a_t : Nat} {a_t_rows : Nat} {a_t_rows_items : Nat} {a_t_now : Nat} {a_t_now_hand : Nat} {a_t_tape : Nat} {a_t_reader : Nat} {a_t_trial : Nat} {a_t_acts : Nat} {a_t_ways : Nat} {a_t_asks : Nat} {a_t_images : Nat} {a_t_imageKept : Nat} {a_t_rows_lane : Nat} {a_t_rows_size : Nat} {a_t_now_kind : Nat} {a_t_now_leader : Nat} {a_t_now_course : Nat} {t_latestFault : Int32} {t_latestFinding : Int32} {t_rows_items : (Nat → Int32)} {t_now_players : Int32} {t_now_round : Int32} {t_now_time : Int32} {t_now_hand : (Nat → Int32)} {l1 : Int32} {l2 : Int32} {l3 : Int32} {l4 : Int32} {K4 : (Nat → Int32) → Int32 → Int32 → Option (Int32 × (Nat → Int32))} {rf : Int32 × (Nat → Int32)} (hQ : ZQi E (zty cI cB cZ) rf.1 [(a_t, .inr (8, [.ref a_t_rows, .ref a_t_tape, .ref a_t_reader, .ref a_t_now, .ref a_t_trial, .ref a_t_acts, .ref a_t_ways, .ref a_t_asks, .ref a_t_images, .ref a_t_imageKept, .int t_latestFault, .int t_latestFinding])), (a_t_rows, .inr (5, [.ref a_t_rows_lane, .ref a_t_rows_size, .ref a_t_rows_items])), (a_t_rows_items, .inl (cI, 320, .inl t_rows_items)), (a_t_now, .inr (3, [.int t_now_players, .int t_now_round, .int t_now_time, .ref a_t_now_kind, .ref a_t_now_hand, .ref a_t_now_leader, .ref a_t_now_course])), (a_t_now_hand, .inl (cI, 8, .inl rf.2))]) (hK4 : ∀ (t_now_hand : (Nat → Int32)) (l2 : Int32) (l3 : Int32), K4 t_now_hand l2 l3 = some rf → Z E (0, 0) [(0, .ref a_t), (1, .int l1), (2, .int l2), (3, .int l3)] 4 [] [(a_t, .inr (8, [.ref a_t_rows, .ref a_t_tape, .ref a_t_reader, .ref a_t_now, .ref a_t_trial, .ref a_t_acts, .ref a_t_ways, .ref a_t_asks, .ref a_t_images, .ref a_t_imageKept, .int t_latestFault, .int t_latestFinding])), (a_t_rows, .inr (5, [.ref a_t_rows_lane, .ref a_t_rows_size, .ref a_t_rows_items])), (a_t_rows_items, .inl (cI, 320, .inl t_rows_items)), (a_t_now, .inr (3, [.int t_now_players, .int t_now_round, .int t_now_time, .ref a_t_now_kind, .ref a_t_now_hand, .ref a_t_now_leader, .ref a_t_now_course])), (a_t_now_hand, .inl (cI, 8, .inl t_now_hand))]) (hR : o_X8_takeHands_43 N K4 t_rows_items t_now_players t_now_hand l1 l2 l3 l4 = some rf) : Z E (0, 0) [(0, .ref a_t), (1, .int l1), (2, .int l2), (3, .int l3), (4, .int l4)] 43 [] [(a_t, .inr (8, [.ref a_t_rows, .ref a_t_tape, .ref a_t_reader, .ref a_t_now, .ref a_t_trial, .ref a_t_acts, .ref a_t_ways, .ref a_t_asks, .ref a_t_images, .ref a_t_imageKept, .int t_latestFault, .int t_latestFinding])), (a_t_rows, .inr (5, [.ref a_t_rows_lane, .ref a_t_rows_size, .ref a_t_rows_items])), (a_t_rows_items, .inl (cI, 320, .inl t_rows_items)), (a_t_now, .inr (3, [.int t_now_players, .int t_now_round, .int t_now_time, .ref a_t_now_kind, .ref a_t_now_hand, .ref a_t_now_leader, .ref a_t_now_course])), (a_t_now_hand, .inl (cI, 8, .inl t_now_hand))] := by
  rw [o_X8_takeHands_43] at hR
  refine z_aload_n hC dX8_takeHands_43 rfl 0 rfl ?_
  refine z_get hC iX8_takeHands_X8 rfl 0 3 rfl (by decide) mX8_takeHands_1 rfl rfl dX8_takeHands_44 ?_
  refine z_get hC iX8_takeHands_X3 rfl 3 4 rfl (by decide) mX8_takeHands_4 rfl rfl dX8_takeHands_47 ?_
  refine z_iload_n hC dX8_takeHands_50 rfl 3 rfl ?_
  refine z_iload hC dX8_takeHands_51 4 rfl ?_
  refine z_iast hC 4 0 rfl rfl dX8_takeHands_53 hR (fun hR => ?_)
  refine z_iinc1 hC [(3, .int (l3 + 1)), (0, .ref a_t), (1, .int l1), (2, .int l2), (4, .int l4)] dX8_takeHands_54 3 rfl (by decide) rfl ?_
  refine z_goto hC 4 dX8_takeHands_57 (by decide) ?_
  refine z_sub (lv' := [(0, .ref a_t), (1, .int l1), (2, .int l2), (3, .int (l3 + 1))]) [1, 2, 3, 0] rfl ?_
  exact hK4 (upd t_now_hand (Int32.toNatClampNeg l3) l4) l2 (l3 + 1) hR
set_option maxHeartbeats 4000000 in
set_option maxRecDepth 100000 in
theorem z_X8_takeHands_4 {sK sV : Nat → Nat} {E : ZE} {cI cB cZ : ClassId} (hC : ZC E 5 cX8_takeHands wsX8_takeHands RX8 rmX8_takeHands (some .int) (zty cI cB cZ)) (hN : ZN sK sV (zA E) (zs E)) {N : Nat} {a_t : Nat} {a_t_rows : Nat} {a_t_rows_items : Nat} {a_t_now : Nat} {a_t_now_hand : Nat} {a_t_tape : Nat} {a_t_reader : Nat} {a_t_trial : Nat} {a_t_acts : Nat} {a_t_ways : Nat} {a_t_asks : Nat} {a_t_images : Nat} {a_t_imageKept : Nat} {a_t_rows_lane : Nat} {a_t_rows_size : Nat} {a_t_now_kind : Nat} {a_t_now_leader : Nat} {a_t_now_course : Nat} {t_latestFault : Int32} {t_latestFinding : Int32} {t_rows_items : (Nat → Int32)} {t_now_players : Int32} {t_now_round : Int32} {t_now_time : Int32} {l1 : Int32} {rf : Int32 × (Nat → Int32)} (hQ : ZQi E (zty cI cB cZ) rf.1 [(a_t, .inr (8, [.ref a_t_rows, .ref a_t_tape, .ref a_t_reader, .ref a_t_now, .ref a_t_trial, .ref a_t_acts, .ref a_t_ways, .ref a_t_asks, .ref a_t_images, .ref a_t_imageKept, .int t_latestFault, .int t_latestFinding])), (a_t_rows, .inr (5, [.ref a_t_rows_lane, .ref a_t_rows_size, .ref a_t_rows_items])), (a_t_rows_items, .inl (cI, 320, .inl t_rows_items)), (a_t_now, .inr (3, [.int t_now_players, .int t_now_round, .int t_now_time, .ref a_t_now_kind, .ref a_t_now_hand, .ref a_t_now_leader, .ref a_t_now_course])), (a_t_now_hand, .inl (cI, 8, .inl rf.2))]) : ∀ (n : Nat) (t_now_hand : (Nat → Int32)) (l2 : Int32) (l3 : Int32), o_X8_takeHands_4 N t_rows_items t_now_players l1 n t_now_hand l2 l3 = some rf → Z E (0, 0) [(0, .ref a_t), (1, .int l1), (2, .int l2), (3, .int l3)] 4 [] [(a_t, .inr (8, [.ref a_t_rows, .ref a_t_tape, .ref a_t_reader, .ref a_t_now, .ref a_t_trial, .ref a_t_acts, .ref a_t_ways, .ref a_t_asks, .ref a_t_images, .ref a_t_imageKept, .int t_latestFault, .int t_latestFinding])), (a_t_rows, .inr (5, [.ref a_t_rows_lane, .ref a_t_rows_size, .ref a_t_rows_items])), (a_t_rows_items, .inl (cI, 320, .inl t_rows_items)), (a_t_now, .inr (3, [.int t_now_players, .int t_now_round, .int t_now_time, .ref a_t_now_kind, .ref a_t_now_hand, .ref a_t_now_leader, .ref a_t_now_course])), (a_t_now_hand, .inl (cI, 8, .inl t_now_hand))] := by
  intro n
  induction n with
  | zero =>
    intro t_now_hand l2 l3 hR
    cases hR
  | succ n ih =>
    intro t_now_hand l2 l3 hR
    rw [o_X8_takeHands_4] at hR
    refine z_iload_n hC dX8_takeHands_4 rfl 3 rfl ?_
    refine z_aload_n hC dX8_takeHands_5 rfl 0 rfl ?_
    refine z_get hC iX8_takeHands_X8 rfl 0 3 rfl (by decide) mX8_takeHands_1 rfl rfl dX8_takeHands_6 ?_
    refine z_get hC iX8_takeHands_X3 rfl 3 0 rfl (by decide) mX8_takeHands_2 rfl rfl dX8_takeHands_9 ?_
    refine z_icmp_ge hC 60 dX8_takeHands_12 (by decide) hR (fun hR => ?_) (fun hR => ?_)
    · refine z_iload_n hC dX8_takeHands_60 rfl 2 rfl ?_
      obtain rfl := Option.some.inj hR
      exact z_iret hC hQ rfl rfl rfl dX8_takeHands_61
    · refine z_aload_n hC dX8_takeHands_15 rfl 0 rfl ?_
      refine z_get hC iX8_takeHands_X8 rfl 0 0 rfl (by decide) mX8_takeHands_3 rfl rfl dX8_takeHands_16 ?_
      refine z_iload_n hC dX8_takeHands_19 rfl 1 rfl ?_
      refine z_iload_n hC dX8_takeHands_20 rfl 3 rfl ?_
      refine z_callVi_p hC hN [.int l1, .int l3] [1, 2] (c_X5_itemOf (l := zl E) (D := zD E) (cI := cI) (cB := cB) (cZ := cZ) (N := N) (a_t := a_t_rows) (a_t_lane := a_t_rows_lane) (a_t_size := a_t_rows_size) (a_t_items := a_t_rows_items) (l1 := l1) (l2 := l3) (t_items := t_rows_items)) rfl ⟨rfl, rfl⟩ gX8_takeHands_X5_itemOf hvX5_itemOf 1 5 rfl rfl rfl ⟨Nat.le_of_ble_eq_true rfl, Nat.le_of_ble_eq_true rfl⟩ ⟨Nat.zero_le _, Nat.zero_le _⟩ rfl (Nat.le_of_ble_eq_true rfl) rfl (by decide) dX8_takeHands_21 hR (fun r21 hR => ?_)
      refine z_istore hC [(4, .int r21), (0, .ref a_t), (1, .int l1), (2, .int l2), (3, .int l3)] dX8_takeHands_24 (by decide) rfl ?_
      refine z_aload_n hC dX8_takeHands_26 rfl 1 rfl ?_
      refine z_get hC iX8_takeHands_X8 rfl 0 3 rfl (by decide) mX8_takeHands_1 rfl rfl dX8_takeHands_27 ?_
      refine z_get hC iX8_takeHands_X3 rfl 3 4 rfl (by decide) mX8_takeHands_4 rfl rfl dX8_takeHands_30 ?_
      refine z_iload_n hC dX8_takeHands_33 rfl 4 rfl ?_
      refine z_iald hC 4 0 rfl rfl dX8_takeHands_34 hR (fun hR => ?_)
      refine z_iload hC dX8_takeHands_35 0 rfl ?_
      refine z_icmp_eq hC 43 dX8_takeHands_37 (by decide) hR (fun hR => ?_) (fun hR => ?_)
      · refine z_sub (lv' := [(0, .ref a_t), (1, .int l1), (2, .int l2), (3, .int l3), (4, .int r21)]) [1, 2, 3, 4, 0] rfl ?_
        exact z_X8_takeHands_43 hC hN (N := N) (a_t := a_t) (a_t_rows := a_t_rows) (a_t_rows_items := a_t_rows_items) (a_t_now := a_t_now) (a_t_now_hand := a_t_now_hand) (a_t_tape := a_t_tape) (a_t_reader := a_t_reader) (a_t_trial := a_t_trial) (a_t_acts := a_t_acts) (a_t_ways := a_t_ways) (a_t_asks := a_t_asks) (a_t_images := a_t_images) (a_t_imageKept := a_t_imageKept) (a_t_rows_lane := a_t_rows_lane) (a_t_rows_size := a_t_rows_size) (a_t_now_kind := a_t_now_kind) (a_t_now_leader := a_t_now_leader) (a_t_now_course := a_t_now_course) (t_latestFault := t_latestFault) (t_latestFinding := t_latestFinding) (t_rows_items := t_rows_items) (t_now_players := t_now_players) (t_now_round := t_now_round) (t_now_time := t_now_time) (t_now_hand := t_now_hand) (l1 := l1) (l2 := l2) (l3 := l3) (l4 := r21) hQ ih hR
      · refine z_iinc1 hC [(2, .int (l2 + 1)), (4, .int r21), (0, .ref a_t), (1, .int l1), (3, .int l3)] dX8_takeHands_40 3 rfl (by decide) rfl ?_
        refine z_sub (lv' := [(0, .ref a_t), (1, .int l1), (2, .int (l2 + 1)), (3, .int l3), (4, .int r21)]) [2, 3, 0, 4, 1] rfl ?_
        exact z_X8_takeHands_43 hC hN (N := N) (a_t := a_t) (a_t_rows := a_t_rows) (a_t_rows_items := a_t_rows_items) (a_t_now := a_t_now) (a_t_now_hand := a_t_now_hand) (a_t_tape := a_t_tape) (a_t_reader := a_t_reader) (a_t_trial := a_t_trial) (a_t_acts := a_t_acts) (a_t_ways := a_t_ways) (a_t_asks := a_t_asks) (a_t_images := a_t_images) (a_t_imageKept := a_t_imageKept) (a_t_rows_lane := a_t_rows_lane) (a_t_rows_size := a_t_rows_size) (a_t_now_kind := a_t_now_kind) (a_t_now_leader := a_t_now_leader) (a_t_now_course := a_t_now_course) (t_latestFault := t_latestFault) (t_latestFinding := t_latestFinding) (t_rows_items := t_rows_items) (t_now_players := t_now_players) (t_now_round := t_now_round) (t_now_time := t_now_time) (t_now_hand := t_now_hand) (l1 := l1) (l2 := (l2 + 1)) (l3 := l3) (l4 := r21) hQ ih hR
set_option maxHeartbeats 4000000 in
set_option maxRecDepth 100000 in
theorem z_X8_takeHands_0 {sK sV : Nat → Nat} {E : ZE} {cI cB cZ : ClassId} (hC : ZC E 5 cX8_takeHands wsX8_takeHands RX8 rmX8_takeHands (some .int) (zty cI cB cZ)) (hN : ZN sK sV (zA E) (zs E)) {N : Nat} {a_t : Nat} {a_t_rows : Nat} {a_t_rows_items : Nat} {a_t_now : Nat} {a_t_now_hand : Nat} {a_t_tape : Nat} {a_t_reader : Nat} {a_t_trial : Nat} {a_t_acts : Nat} {a_t_ways : Nat} {a_t_asks : Nat} {a_t_images : Nat} {a_t_imageKept : Nat} {a_t_rows_lane : Nat} {a_t_rows_size : Nat} {a_t_now_kind : Nat} {a_t_now_leader : Nat} {a_t_now_course : Nat} {t_latestFault : Int32} {t_latestFinding : Int32} {t_rows_items : (Nat → Int32)} {t_now_players : Int32} {t_now_round : Int32} {t_now_time : Int32} {t_now_hand : (Nat → Int32)} {l1 : Int32} {rf : Int32 × (Nat → Int32)} (hQ : ZQi E (zty cI cB cZ) rf.1 [(a_t, .inr (8, [.ref a_t_rows, .ref a_t_tape, .ref a_t_reader, .ref a_t_now, .ref a_t_trial, .ref a_t_acts, .ref a_t_ways, .ref a_t_asks, .ref a_t_images, .ref a_t_imageKept, .int t_latestFault, .int t_latestFinding])), (a_t_rows, .inr (5, [.ref a_t_rows_lane, .ref a_t_rows_size, .ref a_t_rows_items])), (a_t_rows_items, .inl (cI, 320, .inl t_rows_items)), (a_t_now, .inr (3, [.int t_now_players, .int t_now_round, .int t_now_time, .ref a_t_now_kind, .ref a_t_now_hand, .ref a_t_now_leader, .ref a_t_now_course])), (a_t_now_hand, .inl (cI, 8, .inl rf.2))]) (hR : o_X8_takeHands N t_rows_items t_now_players t_now_hand l1 = some rf) : Z E (0, 0) [(0, .ref a_t), (1, .int l1)] 0 [] [(a_t, .inr (8, [.ref a_t_rows, .ref a_t_tape, .ref a_t_reader, .ref a_t_now, .ref a_t_trial, .ref a_t_acts, .ref a_t_ways, .ref a_t_asks, .ref a_t_images, .ref a_t_imageKept, .int t_latestFault, .int t_latestFinding])), (a_t_rows, .inr (5, [.ref a_t_rows_lane, .ref a_t_rows_size, .ref a_t_rows_items])), (a_t_rows_items, .inl (cI, 320, .inl t_rows_items)), (a_t_now, .inr (3, [.int t_now_players, .int t_now_round, .int t_now_time, .ref a_t_now_kind, .ref a_t_now_hand, .ref a_t_now_leader, .ref a_t_now_course])), (a_t_now_hand, .inl (cI, 8, .inl t_now_hand))] := by
  rw [o_X8_takeHands] at hR
  refine z_ic0 hC dX8_takeHands_0 ?_
  refine z_istore_n hC [(2, .int 0), (0, .ref a_t), (1, .int l1)] dX8_takeHands_1 rfl (by decide) rfl ?_
  refine z_ic0 hC dX8_takeHands_2 ?_
  refine z_istore_n hC [(3, .int 0), (2, .int 0), (0, .ref a_t), (1, .int l1)] dX8_takeHands_3 rfl (by decide) rfl ?_
  refine z_sub (lv' := [(0, .ref a_t), (1, .int l1), (2, .int 0), (3, .int 0)]) [2, 3, 1, 0] rfl ?_
  exact z_X8_takeHands_4 hC hN (N := N) (a_t := a_t) (a_t_rows := a_t_rows) (a_t_rows_items := a_t_rows_items) (a_t_now := a_t_now) (a_t_now_hand := a_t_now_hand) (a_t_tape := a_t_tape) (a_t_reader := a_t_reader) (a_t_trial := a_t_trial) (a_t_acts := a_t_acts) (a_t_ways := a_t_ways) (a_t_asks := a_t_asks) (a_t_images := a_t_images) (a_t_imageKept := a_t_imageKept) (a_t_rows_lane := a_t_rows_lane) (a_t_rows_size := a_t_rows_size) (a_t_now_kind := a_t_now_kind) (a_t_now_leader := a_t_now_leader) (a_t_now_course := a_t_now_course) (t_latestFault := t_latestFault) (t_latestFinding := t_latestFinding) (t_rows_items := t_rows_items) (t_now_players := t_now_players) (t_now_round := t_now_round) (t_now_time := t_now_time) (l1 := l1) hQ  N t_now_hand 0 0 hR
set_option maxHeartbeats 4000000 in
set_option maxRecDepth 100000 in
theorem c_X8_takeHands {sK sV : Nat → Nat} {l : Launch} {D : va_G} {cI cB cZ : ClassId} {N : Nat} {a_t : Nat} {a_t_rows : Nat} {a_t_rows_items : Nat} {a_t_now : Nat} {a_t_now_hand : Nat} {a_t_tape : Nat} {a_t_reader : Nat} {a_t_trial : Nat} {a_t_acts : Nat} {a_t_ways : Nat} {a_t_asks : Nat} {a_t_images : Nat} {a_t_imageKept : Nat} {a_t_rows_lane : Nat} {a_t_rows_size : Nat} {a_t_now_kind : Nat} {a_t_now_leader : Nat} {a_t_now_course : Nat} {t_latestFault : Int32} {t_latestFinding : Int32} {t_rows_items : (Nat → Int32)} {t_now_players : Int32} {t_now_round : Int32} {t_now_time : Int32} {t_now_hand : (Nat → Int32)} {l1 : Int32} : ∀ R : Int32 × (Nat → Int32), o_X8_takeHands N t_rows_items t_now_players t_now_hand l1 = some R → ZMi sK sV l yX8_takeHands wsX8_takeHands rmX8_takeHands D (zty cI cB cZ) [.ref a_t, .int l1] [(a_t, .inr (8, [.ref a_t_rows, .ref a_t_tape, .ref a_t_reader, .ref a_t_now, .ref a_t_trial, .ref a_t_acts, .ref a_t_ways, .ref a_t_asks, .ref a_t_images, .ref a_t_imageKept, .int t_latestFault, .int t_latestFinding])), (a_t_rows, .inr (5, [.ref a_t_rows_lane, .ref a_t_rows_size, .ref a_t_rows_items])), (a_t_rows_items, .inl (cI, 320, .inl t_rows_items)), (a_t_now, .inr (3, [.int t_now_players, .int t_now_round, .int t_now_time, .ref a_t_now_kind, .ref a_t_now_hand, .ref a_t_now_leader, .ref a_t_now_course])), (a_t_now_hand, .inl (cI, 8, .inl t_now_hand))] R.1 [(a_t, .inr (8, [.ref a_t_rows, .ref a_t_tape, .ref a_t_reader, .ref a_t_now, .ref a_t_trial, .ref a_t_acts, .ref a_t_ways, .ref a_t_asks, .ref a_t_images, .ref a_t_imageKept, .int t_latestFault, .int t_latestFinding])), (a_t_rows, .inr (5, [.ref a_t_rows_lane, .ref a_t_rows_size, .ref a_t_rows_items])), (a_t_rows_items, .inl (cI, 320, .inl t_rows_items)), (a_t_now, .inr (3, [.int t_now_players, .int t_now_round, .int t_now_time, .ref a_t_now_kind, .ref a_t_now_hand, .ref a_t_now_leader, .ref a_t_now_course])), (a_t_now_hand, .inl (cI, 8, .inl R.2))] := by
  intro R hR
  refine zi_of (cc := cX8_takeHands) (maxL := 5) (ret := (some .int)) (by decide) rfl (Nat.le_of_ble_eq_true rfl) (fun E hE1 hE2 hC hN hQ => ?_)
  subst hE1 hE2
  exact z_X8_takeHands_0 hC hN (N := N) (a_t := a_t) (a_t_rows := a_t_rows) (a_t_rows_items := a_t_rows_items) (a_t_now := a_t_now) (a_t_now_hand := a_t_now_hand) (a_t_tape := a_t_tape) (a_t_reader := a_t_reader) (a_t_trial := a_t_trial) (a_t_acts := a_t_acts) (a_t_ways := a_t_ways) (a_t_asks := a_t_asks) (a_t_images := a_t_images) (a_t_imageKept := a_t_imageKept) (a_t_rows_lane := a_t_rows_lane) (a_t_rows_size := a_t_rows_size) (a_t_now_kind := a_t_now_kind) (a_t_now_leader := a_t_now_leader) (a_t_now_course := a_t_now_course) (t_latestFault := t_latestFault) (t_latestFinding := t_latestFinding) (t_rows_items := t_rows_items) (t_now_players := t_now_players) (t_now_round := t_now_round) (t_now_time := t_now_time) (t_now_hand := t_now_hand) (l1 := l1) hQ hR

/-! FistTrains.hands -/
abbrev rmX8_hands : Room := { frames := 3, cells := 0, slots := 0, locals := 68 }
set_option maxRecDepth 20000 in
theorem iX8_hands_X8 : ∀ w ∈ wsX80, w ∈ wsX8_hands := by decide +kernel
set_option maxRecDepth 20000 in
theorem mX8_hands_1 : Cond.fieldLink RX8 35 "FistTrains" "now" "LFistTrains$Hall;" ∈ wsX8_hands := List.mem_of_getElem? (i := 1) rfl
set_option maxRecDepth 20000 in
theorem mX8_hands_4 : Cond.fieldLink RX8 10 "FistTrains" "rows" "LFistTrains$Rows;" ∈ wsX8_hands := List.mem_of_getElem? (i := 4) rfl
set_option maxRecDepth 20000 in
theorem iX8_hands_X5 : ∀ w ∈ wsX50, w ∈ wsX8_hands := by decide +kernel
set_option maxRecDepth 20000 in
theorem mX8_hands_5 : Cond.fieldLink RX8 97 "FistTrains$Rows" "size" "[I" ∈ wsX8_hands := List.mem_of_getElem? (i := 5) rfl
set_option maxRecDepth 20000 in
theorem iX8_hands_X3 : ∀ w ∈ wsX30, w ∈ wsX8_hands := by decide +kernel
set_option maxRecDepth 20000 in
theorem mX8_hands_6 : Cond.fieldLink RX8 154 "FistTrains$Hall" "players" "I" ∈ wsX8_hands := List.mem_of_getElem? (i := 6) rfl
set_option maxRecDepth 20000 in
theorem mX8_hands_3 : Cond.constant RX8 82 (-1000001) ∈ wsX8_hands := List.mem_of_getElem? (i := 3) rfl
set_option maxRecDepth 20000 in
theorem mX8_hands_2 : Cond.constant RX8 164 (-1000002) ∈ wsX8_hands := List.mem_of_getElem? (i := 2) rfl
set_option maxRecDepth 20000 in
theorem mX8_hands_7 : Cond.fieldLink RX8 45 "FistTrains" "acts" "LFistTrains$Acts;" ∈ wsX8_hands := List.mem_of_getElem? (i := 7) rfl
def o_X8_hands_67 (N : Nat) (t_latestFinding : Int32) (t_rows_items : (Nat → Int32)) (t_now_players : Int32) (t_now_round : Int32) (t_now_time : Int32) (t_now_kind : (Nat → Int32)) (t_now_hand : (Nat → Int32)) (t_now_leader : (Nat → Int32)) (t_acts_kept : Int32) (t_acts_next : Int32) (t_acts_halls : (Nat → Int32)) (l1 : Int32) : Nat → Int32 → Option (Int32 × Int32 × (Nat → Int32) × Int32 × Int32 × (Nat → Int32))
  | 0 => fun _ => none
  | n + 1 => fun l2 => 
    if t_now_players ≤ l2 then
      Option.bind (o_X0_keep N t_acts_kept t_acts_next t_acts_halls t_now_players t_now_round t_now_time t_now_kind t_now_hand t_now_leader) (fun r110 =>
      Option.bind (o_X8_takeHands N t_rows_items t_now_players t_now_hand l1) (fun r116 =>
      Option.bind (o_X8_fine N r116.1) (fun r119 =>
      some (r119.1, r119.2, r116.2, r110.1, r110.2.1, r110.2.2))))
    else
      Option.bind (o_X5_itemOf N t_rows_items l1 l2) (fun r84 =>
      Option.bind (o_X8_isHand N r84) (fun r87 =>
      if r87 = 0 then
        some ((-1000001), t_latestFinding, t_now_hand, t_acts_kept, t_acts_next, t_acts_halls)
      else
        o_X8_hands_67 N t_latestFinding t_rows_items t_now_players t_now_round t_now_time t_now_kind t_now_hand t_now_leader t_acts_kept t_acts_next t_acts_halls l1 n (l2 + 1)))
def o_X8_hands (N : Nat) (t_latestFinding : Int32) (t_rows_lane : (Nat → Int32)) (t_rows_size : (Nat → Int32)) (t_rows_items : (Nat → Int32)) (t_now_players : Int32) (t_now_round : Int32) (t_now_time : Int32) (t_now_kind : (Nat → Int32)) (t_now_hand : (Nat → Int32)) (t_now_leader : (Nat → Int32)) (t_acts_kept : Int32) (t_acts_next : Int32) (t_acts_halls : (Nat → Int32)) (l1 : Int32) : Option (Int32 × Int32 × (Nat → Int32) × Int32 × Int32 × (Nat → Int32)) :=
  Option.bind (o_X3_isMissing N t_now_players) (fun r4 =>
  if r4 = 0 then
    Option.bind (o_X8_isRow N l1) (fun r14 =>
    if r14 = 0 then
      some ((-1000001), t_latestFinding, t_now_hand, t_acts_kept, t_acts_next, t_acts_halls)
    else
      Option.bind (o_X5_isMissing N t_rows_lane l1) (fun r28 =>
      if r28 = 0 then
        ogd (inb l1 8) (
        if t_now_players ≤ (t_rows_size (Int32.toNatClampNeg l1)) then
          o_X8_hands_67 N t_latestFinding t_rows_items t_now_players t_now_round t_now_time t_now_kind t_now_hand t_now_leader t_acts_kept t_acts_next t_acts_halls l1 N 0
        else
          Option.bind (o_X8_found N 2) (fun r61 =>
          some (r61.1, r61.2, t_now_hand, t_acts_kept, t_acts_next, t_acts_halls)))
      else
        Option.bind (o_X8_found N 1) (fun r36 =>
        some (r36.1, r36.2, t_now_hand, t_acts_kept, t_acts_next, t_acts_halls))))
  else
    some ((-1000002), t_latestFinding, t_now_hand, t_acts_kept, t_acts_next, t_acts_halls))
set_option maxHeartbeats 4000000 in
set_option maxRecDepth 100000 in
theorem z_X8_hands_67 {sK sV : Nat → Nat} {E : ZE} {cI cB cZ : ClassId} (hC : ZC E 3 cX8_hands wsX8_hands RX8 rmX8_hands (some .int) (zty cI cB cZ)) (hN : ZN sK sV (zA E) (zs E)) {N : Nat} {a_t : Nat} {a_t_rows : Nat} {a_t_rows_lane : Nat} {a_t_rows_size : Nat} {a_t_rows_items : Nat} {a_t_now : Nat} {a_t_now_kind : Nat} {a_t_now_hand : Nat} {a_t_now_leader : Nat} {a_t_acts : Nat} {a_t_acts_halls : Nat} {a_t_tape : Nat} {a_t_reader : Nat} {a_t_trial : Nat} {a_t_ways : Nat} {a_t_asks : Nat} {a_t_images : Nat} {a_t_imageKept : Nat} {a_t_now_course : Nat} {t_latestFault : Int32} {t_latestFinding : Int32} {t_rows_lane : (Nat → Int32)} {t_rows_size : (Nat → Int32)} {t_rows_items : (Nat → Int32)} {t_now_players : Int32} {t_now_round : Int32} {t_now_time : Int32} {t_now_kind : (Nat → Int32)} {t_now_hand : (Nat → Int32)} {t_now_leader : (Nat → Int32)} {t_acts_kept : Int32} {t_acts_next : Int32} {t_acts_halls : (Nat → Int32)} {l1 : Int32} {rf : Int32 × Int32 × (Nat → Int32) × Int32 × Int32 × (Nat → Int32)} (hQ : ZQi E (zty cI cB cZ) rf.1 [(a_t, .inr (8, [.ref a_t_rows, .ref a_t_tape, .ref a_t_reader, .ref a_t_now, .ref a_t_trial, .ref a_t_acts, .ref a_t_ways, .ref a_t_asks, .ref a_t_images, .ref a_t_imageKept, .int t_latestFault, .int rf.2.1])), (a_t_rows, .inr (5, [.ref a_t_rows_lane, .ref a_t_rows_size, .ref a_t_rows_items])), (a_t_rows_lane, .inl (cI, 8, .inl t_rows_lane)), (a_t_rows_size, .inl (cI, 8, .inl t_rows_size)), (a_t_rows_items, .inl (cI, 320, .inl t_rows_items)), (a_t_now, .inr (3, [.int t_now_players, .int t_now_round, .int t_now_time, .ref a_t_now_kind, .ref a_t_now_hand, .ref a_t_now_leader, .ref a_t_now_course])), (a_t_now_kind, .inl (cI, 8, .inl t_now_kind)), (a_t_now_hand, .inl (cI, 8, .inl rf.2.2.1)), (a_t_now_leader, .inl (cI, 8, .inl t_now_leader)), (a_t_acts, .inr (0, [.ref a_t_acts_halls, .int rf.2.2.2.1, .int rf.2.2.2.2.1])), (a_t_acts_halls, .inl (cI, 648, .inl rf.2.2.2.2.2))]) : ∀ (n : Nat) (l2 : Int32), o_X8_hands_67 N t_latestFinding t_rows_items t_now_players t_now_round t_now_time t_now_kind t_now_hand t_now_leader t_acts_kept t_acts_next t_acts_halls l1 n l2 = some rf → Z E (0, 0) [(0, .ref a_t), (1, .int l1), (2, .int l2)] 67 [] [(a_t, .inr (8, [.ref a_t_rows, .ref a_t_tape, .ref a_t_reader, .ref a_t_now, .ref a_t_trial, .ref a_t_acts, .ref a_t_ways, .ref a_t_asks, .ref a_t_images, .ref a_t_imageKept, .int t_latestFault, .int t_latestFinding])), (a_t_rows, .inr (5, [.ref a_t_rows_lane, .ref a_t_rows_size, .ref a_t_rows_items])), (a_t_rows_lane, .inl (cI, 8, .inl t_rows_lane)), (a_t_rows_size, .inl (cI, 8, .inl t_rows_size)), (a_t_rows_items, .inl (cI, 320, .inl t_rows_items)), (a_t_now, .inr (3, [.int t_now_players, .int t_now_round, .int t_now_time, .ref a_t_now_kind, .ref a_t_now_hand, .ref a_t_now_leader, .ref a_t_now_course])), (a_t_now_kind, .inl (cI, 8, .inl t_now_kind)), (a_t_now_hand, .inl (cI, 8, .inl t_now_hand)), (a_t_now_leader, .inl (cI, 8, .inl t_now_leader)), (a_t_acts, .inr (0, [.ref a_t_acts_halls, .int t_acts_kept, .int t_acts_next])), (a_t_acts_halls, .inl (cI, 648, .inl t_acts_halls))] := by
  intro n
  induction n with
  | zero =>
    intro l2 hR
    cases hR
  | succ n ih =>
    intro l2 hR
    rw [o_X8_hands_67] at hR
    refine z_iload_n hC dX8_hands_67 rfl 2 rfl ?_
    refine z_aload_n hC dX8_hands_68 rfl 0 rfl ?_
    refine z_get hC iX8_hands_X8 rfl 0 3 rfl (by decide) mX8_hands_1 rfl rfl dX8_hands_69 ?_
    refine z_get hC iX8_hands_X3 rfl 5 0 rfl (by decide) mX8_hands_6 rfl rfl dX8_hands_72 ?_
    refine z_icmp_ge hC 102 dX8_hands_75 (by decide) hR (fun hR => ?_) (fun hR => ?_)
    · refine z_aload_n hC dX8_hands_102 rfl 0 rfl ?_
      refine z_get hC iX8_hands_X8 rfl 0 5 rfl (by decide) mX8_hands_7 rfl rfl dX8_hands_103 ?_
      refine z_aload_n hC dX8_hands_106 rfl 0 rfl ?_
      refine z_get hC iX8_hands_X8 rfl 0 3 rfl (by decide) mX8_hands_1 rfl rfl dX8_hands_107 ?_
      refine z_callVv hC hN [.ref a_t_now] [9, 10, 5, 6, 7, 8] (c_X0_keep (l := zl E) (D := zD E) (cI := cI) (cB := cB) (cZ := cZ) (N := N) (a_t := a_t_acts) (a_t_halls := a_t_acts_halls) (a_p1 := a_t_now) (a_p1_kind := a_t_now_kind) (a_p1_hand := a_t_now_hand) (a_p1_leader := a_t_now_leader) (a_p1_course := a_t_now_course) (t_kept := t_acts_kept) (t_next := t_acts_next) (t_halls := t_acts_halls) (p1_players := t_now_players) (p1_round := t_now_round) (p1_time := t_now_time) (p1_kind := t_now_kind) (p1_hand := t_now_hand) (p1_leader := t_now_leader)) rfl ⟨rfl, rfl⟩ gX8_hands_X0_keep hvX0_keep 9 0 rfl rfl rfl ⟨Nat.le_of_ble_eq_true rfl, Nat.le_of_ble_eq_true rfl⟩ ⟨Nat.zero_le _, Nat.zero_le _⟩ rfl (Nat.le_of_ble_eq_true rfl) rfl (by decide) (fun _ => rfl) dX8_hands_110 hR (fun r110 hR => ?_)
      refine z_eq [(a_t, .inr (8, [.ref a_t_rows, .ref a_t_tape, .ref a_t_reader, .ref a_t_now, .ref a_t_trial, .ref a_t_acts, .ref a_t_ways, .ref a_t_asks, .ref a_t_images, .ref a_t_imageKept, .int t_latestFault, .int t_latestFinding])), (a_t_rows, .inr (5, [.ref a_t_rows_lane, .ref a_t_rows_size, .ref a_t_rows_items])), (a_t_rows_lane, .inl (cI, 8, .inl t_rows_lane)), (a_t_rows_size, .inl (cI, 8, .inl t_rows_size)), (a_t_rows_items, .inl (cI, 320, .inl t_rows_items)), (a_t_now, .inr (3, [.int t_now_players, .int t_now_round, .int t_now_time, .ref a_t_now_kind, .ref a_t_now_hand, .ref a_t_now_leader, .ref a_t_now_course])), (a_t_now_kind, .inl (cI, 8, .inl t_now_kind)), (a_t_now_hand, .inl (cI, 8, .inl t_now_hand)), (a_t_now_leader, .inl (cI, 8, .inl t_now_leader)), (a_t_acts, .inr (0, [.ref a_t_acts_halls, .int r110.1, .int r110.2.1])), (a_t_acts_halls, .inl (cI, 648, .inl r110.2.2))] rfl ?_
      refine z_aload_n hC dX8_hands_113 rfl 0 rfl ?_
      refine z_aload_n hC dX8_hands_114 rfl 0 rfl ?_
      refine z_iload_n hC dX8_hands_115 rfl 1 rfl ?_
      refine z_callVi hC hN [.int l1] [0, 1, 4, 5, 7] (c_X8_takeHands (l := zl E) (D := zD E) (cI := cI) (cB := cB) (cZ := cZ) (N := N) (a_t := a_t) (a_t_rows := a_t_rows) (a_t_tape := a_t_tape) (a_t_reader := a_t_reader) (a_t_now := a_t_now) (a_t_trial := a_t_trial) (a_t_acts := a_t_acts) (a_t_ways := a_t_ways) (a_t_asks := a_t_asks) (a_t_images := a_t_images) (a_t_imageKept := a_t_imageKept) (a_t_rows_lane := a_t_rows_lane) (a_t_rows_size := a_t_rows_size) (a_t_rows_items := a_t_rows_items) (a_t_now_kind := a_t_now_kind) (a_t_now_hand := a_t_now_hand) (a_t_now_leader := a_t_now_leader) (a_t_now_course := a_t_now_course) (l1 := l1) (t_latestFault := t_latestFault) (t_latestFinding := t_latestFinding) (t_rows_items := t_rows_items) (t_now_players := t_now_players) (t_now_round := t_now_round) (t_now_time := t_now_time) (t_now_hand := t_now_hand)) rfl ⟨rfl, rfl⟩ gX8_hands_X8_takeHands hvX8_takeHands 0 8 rfl rfl rfl ⟨Nat.le_of_ble_eq_true rfl, Nat.le_of_ble_eq_true rfl⟩ ⟨Nat.zero_le _, Nat.zero_le _⟩ rfl (Nat.le_of_ble_eq_true rfl) rfl (by decide) (fun _ => rfl) dX8_hands_116 hR (fun r116 hR => ?_)
      refine z_eq [(a_t, .inr (8, [.ref a_t_rows, .ref a_t_tape, .ref a_t_reader, .ref a_t_now, .ref a_t_trial, .ref a_t_acts, .ref a_t_ways, .ref a_t_asks, .ref a_t_images, .ref a_t_imageKept, .int t_latestFault, .int t_latestFinding])), (a_t_rows, .inr (5, [.ref a_t_rows_lane, .ref a_t_rows_size, .ref a_t_rows_items])), (a_t_rows_lane, .inl (cI, 8, .inl t_rows_lane)), (a_t_rows_size, .inl (cI, 8, .inl t_rows_size)), (a_t_rows_items, .inl (cI, 320, .inl t_rows_items)), (a_t_now, .inr (3, [.int t_now_players, .int t_now_round, .int t_now_time, .ref a_t_now_kind, .ref a_t_now_hand, .ref a_t_now_leader, .ref a_t_now_course])), (a_t_now_kind, .inl (cI, 8, .inl t_now_kind)), (a_t_now_hand, .inl (cI, 8, .inl r116.2)), (a_t_now_leader, .inl (cI, 8, .inl t_now_leader)), (a_t_acts, .inr (0, [.ref a_t_acts_halls, .int r110.1, .int r110.2.1])), (a_t_acts_halls, .inl (cI, 648, .inl r110.2.2))] rfl ?_
      refine z_callVi hC hN [.int r116.1] [0] (c_X8_fine (l := zl E) (D := zD E) (cI := cI) (cB := cB) (cZ := cZ) (N := N) (a_t := a_t) (a_t_rows := a_t_rows) (a_t_tape := a_t_tape) (a_t_reader := a_t_reader) (a_t_now := a_t_now) (a_t_trial := a_t_trial) (a_t_acts := a_t_acts) (a_t_ways := a_t_ways) (a_t_asks := a_t_asks) (a_t_images := a_t_images) (a_t_imageKept := a_t_imageKept) (l1 := r116.1) (t_latestFault := t_latestFault) (t_latestFinding := t_latestFinding)) rfl ⟨rfl, rfl⟩ gX8_hands_X8_fine hvX8_fine 0 8 rfl rfl rfl ⟨Nat.le_of_ble_eq_true rfl, Nat.le_of_ble_eq_true rfl⟩ ⟨Nat.zero_le _, Nat.zero_le _⟩ rfl (Nat.le_of_ble_eq_true rfl) rfl (by decide) (fun _ => rfl) dX8_hands_119 hR (fun r119 hR => ?_)
      refine z_eq [(a_t, .inr (8, [.ref a_t_rows, .ref a_t_tape, .ref a_t_reader, .ref a_t_now, .ref a_t_trial, .ref a_t_acts, .ref a_t_ways, .ref a_t_asks, .ref a_t_images, .ref a_t_imageKept, .int t_latestFault, .int r119.2])), (a_t_rows, .inr (5, [.ref a_t_rows_lane, .ref a_t_rows_size, .ref a_t_rows_items])), (a_t_rows_lane, .inl (cI, 8, .inl t_rows_lane)), (a_t_rows_size, .inl (cI, 8, .inl t_rows_size)), (a_t_rows_items, .inl (cI, 320, .inl t_rows_items)), (a_t_now, .inr (3, [.int t_now_players, .int t_now_round, .int t_now_time, .ref a_t_now_kind, .ref a_t_now_hand, .ref a_t_now_leader, .ref a_t_now_course])), (a_t_now_kind, .inl (cI, 8, .inl t_now_kind)), (a_t_now_hand, .inl (cI, 8, .inl r116.2)), (a_t_now_leader, .inl (cI, 8, .inl t_now_leader)), (a_t_acts, .inr (0, [.ref a_t_acts_halls, .int r110.1, .int r110.2.1])), (a_t_acts_halls, .inl (cI, 648, .inl r110.2.2))] rfl ?_
      obtain rfl := Option.some.inj hR
      exact z_iret hC hQ rfl rfl rfl dX8_hands_122
    · refine z_aload_n hC dX8_hands_78 rfl 0 rfl ?_
      refine z_get hC iX8_hands_X8 rfl 0 0 rfl (by decide) mX8_hands_4 rfl rfl dX8_hands_79 ?_
      refine z_iload_n hC dX8_hands_82 rfl 1 rfl ?_
      refine z_iload_n hC dX8_hands_83 rfl 2 rfl ?_
      refine z_callVi_p hC hN [.int l1, .int l2] [1, 4] (c_X5_itemOf (l := zl E) (D := zD E) (cI := cI) (cB := cB) (cZ := cZ) (N := N) (a_t := a_t_rows) (a_t_lane := a_t_rows_lane) (a_t_size := a_t_rows_size) (a_t_items := a_t_rows_items) (l1 := l1) (l2 := l2) (t_items := t_rows_items)) rfl ⟨rfl, rfl⟩ gX8_hands_X5_itemOf hvX5_itemOf 1 5 rfl rfl rfl ⟨Nat.le_of_ble_eq_true rfl, Nat.le_of_ble_eq_true rfl⟩ ⟨Nat.zero_le _, Nat.zero_le _⟩ rfl (Nat.le_of_ble_eq_true rfl) rfl (by decide) dX8_hands_84 hR (fun r84 hR => ?_)
      refine z_callSi_p hC hN [.int r84] [] (c_X8_isHand (l := zl E) (D := zD E) (cI := cI) (cB := cB) (cZ := cZ) (N := N) (l0 := r84)) rfl ⟨rfl, rfl⟩ gX8_hands_X8_isHand hsX8_isHand ⟨Nat.le_of_ble_eq_true rfl, Nat.le_of_ble_eq_true rfl⟩ ⟨Nat.zero_le _, Nat.zero_le _⟩ rfl (Nat.le_of_ble_eq_true rfl) rfl (by decide) dX8_hands_87 hR (fun r87 hR => ?_)
      refine z_if_ne hC 96 dX8_hands_90 (by decide) hR (fun hR => ?_) (fun hR => ?_)
      · refine z_iinc1 hC [(2, .int (l2 + 1)), (0, .ref a_t), (1, .int l1)] dX8_hands_96 2 rfl (by decide) rfl ?_
        refine z_goto hC 67 dX8_hands_99 (by decide) ?_
        refine z_sub (lv' := [(0, .ref a_t), (1, .int l1), (2, .int (l2 + 1))]) [1, 2, 0] rfl ?_
        exact ih (l2 + 1) hR
      · refine z_ldc hC (-1000001) mX8_hands_3 dX8_hands_93 ?_
        obtain rfl := Option.some.inj hR
        exact z_iret hC hQ rfl rfl rfl dX8_hands_95
set_option maxHeartbeats 4000000 in
set_option maxRecDepth 100000 in
theorem z_X8_hands_0 {sK sV : Nat → Nat} {E : ZE} {cI cB cZ : ClassId} (hC : ZC E 3 cX8_hands wsX8_hands RX8 rmX8_hands (some .int) (zty cI cB cZ)) (hN : ZN sK sV (zA E) (zs E)) {N : Nat} {a_t : Nat} {a_t_rows : Nat} {a_t_rows_lane : Nat} {a_t_rows_size : Nat} {a_t_rows_items : Nat} {a_t_now : Nat} {a_t_now_kind : Nat} {a_t_now_hand : Nat} {a_t_now_leader : Nat} {a_t_acts : Nat} {a_t_acts_halls : Nat} {a_t_tape : Nat} {a_t_reader : Nat} {a_t_trial : Nat} {a_t_ways : Nat} {a_t_asks : Nat} {a_t_images : Nat} {a_t_imageKept : Nat} {a_t_now_course : Nat} {t_latestFault : Int32} {t_latestFinding : Int32} {t_rows_lane : (Nat → Int32)} {t_rows_size : (Nat → Int32)} {t_rows_items : (Nat → Int32)} {t_now_players : Int32} {t_now_round : Int32} {t_now_time : Int32} {t_now_kind : (Nat → Int32)} {t_now_hand : (Nat → Int32)} {t_now_leader : (Nat → Int32)} {t_acts_kept : Int32} {t_acts_next : Int32} {t_acts_halls : (Nat → Int32)} {l1 : Int32} {rf : Int32 × Int32 × (Nat → Int32) × Int32 × Int32 × (Nat → Int32)} (hQ : ZQi E (zty cI cB cZ) rf.1 [(a_t, .inr (8, [.ref a_t_rows, .ref a_t_tape, .ref a_t_reader, .ref a_t_now, .ref a_t_trial, .ref a_t_acts, .ref a_t_ways, .ref a_t_asks, .ref a_t_images, .ref a_t_imageKept, .int t_latestFault, .int rf.2.1])), (a_t_rows, .inr (5, [.ref a_t_rows_lane, .ref a_t_rows_size, .ref a_t_rows_items])), (a_t_rows_lane, .inl (cI, 8, .inl t_rows_lane)), (a_t_rows_size, .inl (cI, 8, .inl t_rows_size)), (a_t_rows_items, .inl (cI, 320, .inl t_rows_items)), (a_t_now, .inr (3, [.int t_now_players, .int t_now_round, .int t_now_time, .ref a_t_now_kind, .ref a_t_now_hand, .ref a_t_now_leader, .ref a_t_now_course])), (a_t_now_kind, .inl (cI, 8, .inl t_now_kind)), (a_t_now_hand, .inl (cI, 8, .inl rf.2.2.1)), (a_t_now_leader, .inl (cI, 8, .inl t_now_leader)), (a_t_acts, .inr (0, [.ref a_t_acts_halls, .int rf.2.2.2.1, .int rf.2.2.2.2.1])), (a_t_acts_halls, .inl (cI, 648, .inl rf.2.2.2.2.2))]) (hR : o_X8_hands N t_latestFinding t_rows_lane t_rows_size t_rows_items t_now_players t_now_round t_now_time t_now_kind t_now_hand t_now_leader t_acts_kept t_acts_next t_acts_halls l1 = some rf) : Z E (0, 0) [(0, .ref a_t), (1, .int l1)] 0 [] [(a_t, .inr (8, [.ref a_t_rows, .ref a_t_tape, .ref a_t_reader, .ref a_t_now, .ref a_t_trial, .ref a_t_acts, .ref a_t_ways, .ref a_t_asks, .ref a_t_images, .ref a_t_imageKept, .int t_latestFault, .int t_latestFinding])), (a_t_rows, .inr (5, [.ref a_t_rows_lane, .ref a_t_rows_size, .ref a_t_rows_items])), (a_t_rows_lane, .inl (cI, 8, .inl t_rows_lane)), (a_t_rows_size, .inl (cI, 8, .inl t_rows_size)), (a_t_rows_items, .inl (cI, 320, .inl t_rows_items)), (a_t_now, .inr (3, [.int t_now_players, .int t_now_round, .int t_now_time, .ref a_t_now_kind, .ref a_t_now_hand, .ref a_t_now_leader, .ref a_t_now_course])), (a_t_now_kind, .inl (cI, 8, .inl t_now_kind)), (a_t_now_hand, .inl (cI, 8, .inl t_now_hand)), (a_t_now_leader, .inl (cI, 8, .inl t_now_leader)), (a_t_acts, .inr (0, [.ref a_t_acts_halls, .int t_acts_kept, .int t_acts_next])), (a_t_acts_halls, .inl (cI, 648, .inl t_acts_halls))] := by
  rw [o_X8_hands] at hR
  refine z_aload_n hC dX8_hands_0 rfl 0 rfl ?_
  refine z_get hC iX8_hands_X8 rfl 0 3 rfl (by decide) mX8_hands_1 rfl rfl dX8_hands_1 ?_
  refine z_callVi_p hC hN [] [5] (c_X3_isMissing (l := zl E) (D := zD E) (cI := cI) (cB := cB) (cZ := cZ) (N := N) (a_t := a_t_now) (a_t_kind := a_t_now_kind) (a_t_hand := a_t_now_hand) (a_t_leader := a_t_now_leader) (a_t_course := a_t_now_course) (t_players := t_now_players) (t_round := t_now_round) (t_time := t_now_time)) rfl ⟨rfl, rfl⟩ gX8_hands_X3_isMissing hvX3_isMissing 5 3 rfl rfl rfl ⟨Nat.le_of_ble_eq_true rfl, Nat.le_of_ble_eq_true rfl⟩ ⟨Nat.zero_le _, Nat.zero_le _⟩ rfl (Nat.le_of_ble_eq_true rfl) rfl (by decide) dX8_hands_4 hR (fun r4 hR => ?_)
  refine z_if_eq hC 13 dX8_hands_7 (by decide) hR (fun hR => ?_) (fun hR => ?_)
  · refine z_iload_n hC dX8_hands_13 rfl 1 rfl ?_
    refine z_callSi_p hC hN [.int l1] [] (c_X8_isRow (l := zl E) (D := zD E) (cI := cI) (cB := cB) (cZ := cZ) (N := N) (l0 := l1)) rfl ⟨rfl, rfl⟩ gX8_hands_X8_isRow hsX8_isRow ⟨Nat.le_of_ble_eq_true rfl, Nat.le_of_ble_eq_true rfl⟩ ⟨Nat.zero_le _, Nat.zero_le _⟩ rfl (Nat.le_of_ble_eq_true rfl) rfl (by decide) dX8_hands_14 hR (fun r14 hR => ?_)
    refine z_if_ne hC 23 dX8_hands_17 (by decide) hR (fun hR => ?_) (fun hR => ?_)
    · refine z_aload_n hC dX8_hands_23 rfl 0 rfl ?_
      refine z_get hC iX8_hands_X8 rfl 0 0 rfl (by decide) mX8_hands_4 rfl rfl dX8_hands_24 ?_
      refine z_iload_n hC dX8_hands_27 rfl 1 rfl ?_
      refine z_callVi_p hC hN [.int l1] [1, 2] (c_X5_isMissing (l := zl E) (D := zD E) (cI := cI) (cB := cB) (cZ := cZ) (N := N) (a_t := a_t_rows) (a_t_lane := a_t_rows_lane) (a_t_size := a_t_rows_size) (a_t_items := a_t_rows_items) (l1 := l1) (t_lane := t_rows_lane)) rfl ⟨rfl, rfl⟩ gX8_hands_X5_isMissing hvX5_isMissing 1 5 rfl rfl rfl ⟨Nat.le_of_ble_eq_true rfl, Nat.le_of_ble_eq_true rfl⟩ ⟨Nat.zero_le _, Nat.zero_le _⟩ rfl (Nat.le_of_ble_eq_true rfl) rfl (by decide) dX8_hands_28 hR (fun r28 hR => ?_)
      refine z_if_eq hC 40 dX8_hands_31 (by decide) hR (fun hR => ?_) (fun hR => ?_)
      · refine z_aload_n hC dX8_hands_40 rfl 0 rfl ?_
        refine z_get hC iX8_hands_X8 rfl 0 0 rfl (by decide) mX8_hands_4 rfl rfl dX8_hands_41 ?_
        refine z_get hC iX8_hands_X5 rfl 1 1 rfl (by decide) mX8_hands_5 rfl rfl dX8_hands_44 ?_
        refine z_iload_n hC dX8_hands_47 rfl 1 rfl ?_
        refine z_iald hC 3 0 rfl rfl dX8_hands_48 hR (fun hR => ?_)
        refine z_aload_n hC dX8_hands_49 rfl 0 rfl ?_
        refine z_get hC iX8_hands_X8 rfl 0 3 rfl (by decide) mX8_hands_1 rfl rfl dX8_hands_50 ?_
        refine z_get hC iX8_hands_X3 rfl 5 0 rfl (by decide) mX8_hands_6 rfl rfl dX8_hands_53 ?_
        refine z_icmp_ge hC 65 dX8_hands_56 (by decide) hR (fun hR => ?_) (fun hR => ?_)
        · refine z_ic0 hC dX8_hands_65 ?_
          refine z_istore_n hC [(2, .int 0), (0, .ref a_t), (1, .int l1)] dX8_hands_66 rfl (by decide) rfl ?_
          refine z_sub (lv' := [(0, .ref a_t), (1, .int l1), (2, .int 0)]) [1, 2, 0] rfl ?_
          exact z_X8_hands_67 hC hN (N := N) (a_t := a_t) (a_t_rows := a_t_rows) (a_t_rows_lane := a_t_rows_lane) (a_t_rows_size := a_t_rows_size) (a_t_rows_items := a_t_rows_items) (a_t_now := a_t_now) (a_t_now_kind := a_t_now_kind) (a_t_now_hand := a_t_now_hand) (a_t_now_leader := a_t_now_leader) (a_t_acts := a_t_acts) (a_t_acts_halls := a_t_acts_halls) (a_t_tape := a_t_tape) (a_t_reader := a_t_reader) (a_t_trial := a_t_trial) (a_t_ways := a_t_ways) (a_t_asks := a_t_asks) (a_t_images := a_t_images) (a_t_imageKept := a_t_imageKept) (a_t_now_course := a_t_now_course) (t_latestFault := t_latestFault) (t_latestFinding := t_latestFinding) (t_rows_lane := t_rows_lane) (t_rows_size := t_rows_size) (t_rows_items := t_rows_items) (t_now_players := t_now_players) (t_now_round := t_now_round) (t_now_time := t_now_time) (t_now_kind := t_now_kind) (t_now_hand := t_now_hand) (t_now_leader := t_now_leader) (t_acts_kept := t_acts_kept) (t_acts_next := t_acts_next) (t_acts_halls := t_acts_halls) (l1 := l1) hQ  N 0 hR
        · refine z_aload_n hC dX8_hands_59 rfl 0 rfl ?_
          refine z_ic2 hC dX8_hands_60 ?_
          refine z_callVi hC hN [.int 2] [0] (c_X8_found (l := zl E) (D := zD E) (cI := cI) (cB := cB) (cZ := cZ) (N := N) (a_t := a_t) (a_t_rows := a_t_rows) (a_t_tape := a_t_tape) (a_t_reader := a_t_reader) (a_t_now := a_t_now) (a_t_trial := a_t_trial) (a_t_acts := a_t_acts) (a_t_ways := a_t_ways) (a_t_asks := a_t_asks) (a_t_images := a_t_images) (a_t_imageKept := a_t_imageKept) (l1 := 2) (t_latestFault := t_latestFault) (t_latestFinding := t_latestFinding)) rfl ⟨rfl, rfl⟩ gX8_hands_X8_found hvX8_found 0 8 rfl rfl rfl ⟨Nat.le_of_ble_eq_true rfl, Nat.le_of_ble_eq_true rfl⟩ ⟨Nat.zero_le _, Nat.zero_le _⟩ rfl (Nat.le_of_ble_eq_true rfl) rfl (by decide) (fun _ => rfl) dX8_hands_61 hR (fun r61 hR => ?_)
          refine z_eq [(a_t, .inr (8, [.ref a_t_rows, .ref a_t_tape, .ref a_t_reader, .ref a_t_now, .ref a_t_trial, .ref a_t_acts, .ref a_t_ways, .ref a_t_asks, .ref a_t_images, .ref a_t_imageKept, .int t_latestFault, .int r61.2])), (a_t_rows, .inr (5, [.ref a_t_rows_lane, .ref a_t_rows_size, .ref a_t_rows_items])), (a_t_rows_lane, .inl (cI, 8, .inl t_rows_lane)), (a_t_rows_size, .inl (cI, 8, .inl t_rows_size)), (a_t_rows_items, .inl (cI, 320, .inl t_rows_items)), (a_t_now, .inr (3, [.int t_now_players, .int t_now_round, .int t_now_time, .ref a_t_now_kind, .ref a_t_now_hand, .ref a_t_now_leader, .ref a_t_now_course])), (a_t_now_kind, .inl (cI, 8, .inl t_now_kind)), (a_t_now_hand, .inl (cI, 8, .inl t_now_hand)), (a_t_now_leader, .inl (cI, 8, .inl t_now_leader)), (a_t_acts, .inr (0, [.ref a_t_acts_halls, .int t_acts_kept, .int t_acts_next])), (a_t_acts_halls, .inl (cI, 648, .inl t_acts_halls))] rfl ?_
          obtain rfl := Option.some.inj hR
          exact z_iret hC hQ rfl rfl rfl dX8_hands_64
      · refine z_aload_n hC dX8_hands_34 rfl 0 rfl ?_
        refine z_ic1 hC dX8_hands_35 ?_
        refine z_callVi hC hN [.int 1] [0] (c_X8_found (l := zl E) (D := zD E) (cI := cI) (cB := cB) (cZ := cZ) (N := N) (a_t := a_t) (a_t_rows := a_t_rows) (a_t_tape := a_t_tape) (a_t_reader := a_t_reader) (a_t_now := a_t_now) (a_t_trial := a_t_trial) (a_t_acts := a_t_acts) (a_t_ways := a_t_ways) (a_t_asks := a_t_asks) (a_t_images := a_t_images) (a_t_imageKept := a_t_imageKept) (l1 := 1) (t_latestFault := t_latestFault) (t_latestFinding := t_latestFinding)) rfl ⟨rfl, rfl⟩ gX8_hands_X8_found hvX8_found 0 8 rfl rfl rfl ⟨Nat.le_of_ble_eq_true rfl, Nat.le_of_ble_eq_true rfl⟩ ⟨Nat.zero_le _, Nat.zero_le _⟩ rfl (Nat.le_of_ble_eq_true rfl) rfl (by decide) (fun _ => rfl) dX8_hands_36 hR (fun r36 hR => ?_)
        refine z_eq [(a_t, .inr (8, [.ref a_t_rows, .ref a_t_tape, .ref a_t_reader, .ref a_t_now, .ref a_t_trial, .ref a_t_acts, .ref a_t_ways, .ref a_t_asks, .ref a_t_images, .ref a_t_imageKept, .int t_latestFault, .int r36.2])), (a_t_rows, .inr (5, [.ref a_t_rows_lane, .ref a_t_rows_size, .ref a_t_rows_items])), (a_t_rows_lane, .inl (cI, 8, .inl t_rows_lane)), (a_t_rows_size, .inl (cI, 8, .inl t_rows_size)), (a_t_rows_items, .inl (cI, 320, .inl t_rows_items)), (a_t_now, .inr (3, [.int t_now_players, .int t_now_round, .int t_now_time, .ref a_t_now_kind, .ref a_t_now_hand, .ref a_t_now_leader, .ref a_t_now_course])), (a_t_now_kind, .inl (cI, 8, .inl t_now_kind)), (a_t_now_hand, .inl (cI, 8, .inl t_now_hand)), (a_t_now_leader, .inl (cI, 8, .inl t_now_leader)), (a_t_acts, .inr (0, [.ref a_t_acts_halls, .int t_acts_kept, .int t_acts_next])), (a_t_acts_halls, .inl (cI, 648, .inl t_acts_halls))] rfl ?_
        obtain rfl := Option.some.inj hR
        exact z_iret hC hQ rfl rfl rfl dX8_hands_39
    · refine z_ldc hC (-1000001) mX8_hands_3 dX8_hands_20 ?_
      obtain rfl := Option.some.inj hR
      exact z_iret hC hQ rfl rfl rfl dX8_hands_22
  · refine z_ldc hC (-1000002) mX8_hands_2 dX8_hands_10 ?_
    obtain rfl := Option.some.inj hR
    exact z_iret hC hQ rfl rfl rfl dX8_hands_12
set_option maxHeartbeats 4000000 in
set_option maxRecDepth 100000 in
theorem c_X8_hands {sK sV : Nat → Nat} {l : Launch} {D : va_G} {cI cB cZ : ClassId} {N : Nat} {a_t : Nat} {a_t_rows : Nat} {a_t_rows_lane : Nat} {a_t_rows_size : Nat} {a_t_rows_items : Nat} {a_t_now : Nat} {a_t_now_kind : Nat} {a_t_now_hand : Nat} {a_t_now_leader : Nat} {a_t_acts : Nat} {a_t_acts_halls : Nat} {a_t_tape : Nat} {a_t_reader : Nat} {a_t_trial : Nat} {a_t_ways : Nat} {a_t_asks : Nat} {a_t_images : Nat} {a_t_imageKept : Nat} {a_t_now_course : Nat} {t_latestFault : Int32} {t_latestFinding : Int32} {t_rows_lane : (Nat → Int32)} {t_rows_size : (Nat → Int32)} {t_rows_items : (Nat → Int32)} {t_now_players : Int32} {t_now_round : Int32} {t_now_time : Int32} {t_now_kind : (Nat → Int32)} {t_now_hand : (Nat → Int32)} {t_now_leader : (Nat → Int32)} {t_acts_kept : Int32} {t_acts_next : Int32} {t_acts_halls : (Nat → Int32)} {l1 : Int32} : ∀ R : Int32 × Int32 × (Nat → Int32) × Int32 × Int32 × (Nat → Int32), o_X8_hands N t_latestFinding t_rows_lane t_rows_size t_rows_items t_now_players t_now_round t_now_time t_now_kind t_now_hand t_now_leader t_acts_kept t_acts_next t_acts_halls l1 = some R → ZMi sK sV l yX8_hands wsX8_hands rmX8_hands D (zty cI cB cZ) [.ref a_t, .int l1] [(a_t, .inr (8, [.ref a_t_rows, .ref a_t_tape, .ref a_t_reader, .ref a_t_now, .ref a_t_trial, .ref a_t_acts, .ref a_t_ways, .ref a_t_asks, .ref a_t_images, .ref a_t_imageKept, .int t_latestFault, .int t_latestFinding])), (a_t_rows, .inr (5, [.ref a_t_rows_lane, .ref a_t_rows_size, .ref a_t_rows_items])), (a_t_rows_lane, .inl (cI, 8, .inl t_rows_lane)), (a_t_rows_size, .inl (cI, 8, .inl t_rows_size)), (a_t_rows_items, .inl (cI, 320, .inl t_rows_items)), (a_t_now, .inr (3, [.int t_now_players, .int t_now_round, .int t_now_time, .ref a_t_now_kind, .ref a_t_now_hand, .ref a_t_now_leader, .ref a_t_now_course])), (a_t_now_kind, .inl (cI, 8, .inl t_now_kind)), (a_t_now_hand, .inl (cI, 8, .inl t_now_hand)), (a_t_now_leader, .inl (cI, 8, .inl t_now_leader)), (a_t_acts, .inr (0, [.ref a_t_acts_halls, .int t_acts_kept, .int t_acts_next])), (a_t_acts_halls, .inl (cI, 648, .inl t_acts_halls))] R.1 [(a_t, .inr (8, [.ref a_t_rows, .ref a_t_tape, .ref a_t_reader, .ref a_t_now, .ref a_t_trial, .ref a_t_acts, .ref a_t_ways, .ref a_t_asks, .ref a_t_images, .ref a_t_imageKept, .int t_latestFault, .int R.2.1])), (a_t_rows, .inr (5, [.ref a_t_rows_lane, .ref a_t_rows_size, .ref a_t_rows_items])), (a_t_rows_lane, .inl (cI, 8, .inl t_rows_lane)), (a_t_rows_size, .inl (cI, 8, .inl t_rows_size)), (a_t_rows_items, .inl (cI, 320, .inl t_rows_items)), (a_t_now, .inr (3, [.int t_now_players, .int t_now_round, .int t_now_time, .ref a_t_now_kind, .ref a_t_now_hand, .ref a_t_now_leader, .ref a_t_now_course])), (a_t_now_kind, .inl (cI, 8, .inl t_now_kind)), (a_t_now_hand, .inl (cI, 8, .inl R.2.2.1)), (a_t_now_leader, .inl (cI, 8, .inl t_now_leader)), (a_t_acts, .inr (0, [.ref a_t_acts_halls, .int R.2.2.2.1, .int R.2.2.2.2.1])), (a_t_acts_halls, .inl (cI, 648, .inl R.2.2.2.2.2))] := by
  intro R hR
  refine zi_of (cc := cX8_hands) (maxL := 3) (ret := (some .int)) (by decide) rfl (Nat.le_of_ble_eq_true rfl) (fun E hE1 hE2 hC hN hQ => ?_)
  subst hE1 hE2
  exact z_X8_hands_0 hC hN (N := N) (a_t := a_t) (a_t_rows := a_t_rows) (a_t_rows_lane := a_t_rows_lane) (a_t_rows_size := a_t_rows_size) (a_t_rows_items := a_t_rows_items) (a_t_now := a_t_now) (a_t_now_kind := a_t_now_kind) (a_t_now_hand := a_t_now_hand) (a_t_now_leader := a_t_now_leader) (a_t_acts := a_t_acts) (a_t_acts_halls := a_t_acts_halls) (a_t_tape := a_t_tape) (a_t_reader := a_t_reader) (a_t_trial := a_t_trial) (a_t_ways := a_t_ways) (a_t_asks := a_t_asks) (a_t_images := a_t_images) (a_t_imageKept := a_t_imageKept) (a_t_now_course := a_t_now_course) (t_latestFault := t_latestFault) (t_latestFinding := t_latestFinding) (t_rows_lane := t_rows_lane) (t_rows_size := t_rows_size) (t_rows_items := t_rows_items) (t_now_players := t_now_players) (t_now_round := t_now_round) (t_now_time := t_now_time) (t_now_kind := t_now_kind) (t_now_hand := t_now_hand) (t_now_leader := t_now_leader) (t_acts_kept := t_acts_kept) (t_acts_next := t_acts_next) (t_acts_halls := t_acts_halls) (l1 := l1) hQ hR

/-! FistTrains.undo -/
abbrev rmX8_undo : Room := { frames := 2, cells := 0, slots := 0, locals := 44 }
set_option maxRecDepth 20000 in
theorem iX8_undo_X8 : ∀ w ∈ wsX80, w ∈ wsX8_undo := by decide +kernel
set_option maxRecDepth 20000 in
theorem mX8_undo_1 : Cond.fieldLink RX8 45 "FistTrains" "acts" "LFistTrains$Acts;" ∈ wsX8_undo := List.mem_of_getElem? (i := 1) rfl
set_option maxRecDepth 20000 in
theorem iX8_undo_X0 : ∀ w ∈ wsX00, w ∈ wsX8_undo := by decide +kernel
set_option maxRecDepth 20000 in
theorem mX8_undo_2 : Cond.fieldLink RX8 208 "FistTrains$Acts" "kept" "I" ∈ wsX8_undo := List.mem_of_getElem? (i := 2) rfl
set_option maxRecDepth 20000 in
theorem mX8_undo_4 : Cond.fieldLink RX8 35 "FistTrains" "now" "LFistTrains$Hall;" ∈ wsX8_undo := List.mem_of_getElem? (i := 4) rfl
set_option maxRecDepth 20000 in
theorem mX8_undo_3 : Cond.constant RX8 164 (-1000002) ∈ wsX8_undo := List.mem_of_getElem? (i := 3) rfl
def o_X8_undo (N : Nat) (t_now_players : Int32) (t_now_round : Int32) (t_now_time : Int32) (t_now_kind : (Nat → Int32)) (t_now_hand : (Nat → Int32)) (t_now_leader : (Nat → Int32)) (t_acts_kept : Int32) (t_acts_next : Int32) (t_acts_halls : (Nat → Int32)) : Option (Int32 × Int32 × Int32 × Int32 × (Nat → Int32) × (Nat → Int32) × (Nat → Int32) × Int32 × Int32) :=
  if t_acts_kept = 0 then
    some ((-1000002), t_now_players, t_now_round, t_now_time, t_now_kind, t_now_hand, t_now_leader, t_acts_kept, t_acts_next)
  else
    Option.bind (o_X0_takeBack N t_acts_kept t_acts_next t_acts_halls t_now_kind t_now_hand t_now_leader) (fun r21 =>
    some (r21.1, r21.2.2.1, r21.2.2.2.1, r21.2.2.2.2.1, r21.2.2.2.2.2.1, r21.2.2.2.2.2.2.1, r21.2.2.2.2.2.2.2, r21.1, r21.2.1))
set_option maxHeartbeats 4000000 in
set_option maxRecDepth 100000 in
theorem z_X8_undo_0 {sK sV : Nat → Nat} {E : ZE} {cI cB cZ : ClassId} (hC : ZC E 1 cX8_undo wsX8_undo RX8 rmX8_undo (some .int) (zty cI cB cZ)) (hN : ZN sK sV (zA E) (zs E)) {N : Nat} {a_t : Nat} {a_t_now : Nat} {a_t_now_kind : Nat} {a_t_now_hand : Nat} {a_t_now_leader : Nat} {a_t_acts : Nat} {a_t_acts_halls : Nat} {a_t_rows : Nat} {a_t_tape : Nat} {a_t_reader : Nat} {a_t_trial : Nat} {a_t_ways : Nat} {a_t_asks : Nat} {a_t_images : Nat} {a_t_imageKept : Nat} {a_t_now_course : Nat} {t_latestFault : Int32} {t_latestFinding : Int32} {t_now_players : Int32} {t_now_round : Int32} {t_now_time : Int32} {t_now_kind : (Nat → Int32)} {t_now_hand : (Nat → Int32)} {t_now_leader : (Nat → Int32)} {t_acts_kept : Int32} {t_acts_next : Int32} {t_acts_halls : (Nat → Int32)} {rf : Int32 × Int32 × Int32 × Int32 × (Nat → Int32) × (Nat → Int32) × (Nat → Int32) × Int32 × Int32} (hQ : ZQi E (zty cI cB cZ) rf.1 [(a_t, .inr (8, [.ref a_t_rows, .ref a_t_tape, .ref a_t_reader, .ref a_t_now, .ref a_t_trial, .ref a_t_acts, .ref a_t_ways, .ref a_t_asks, .ref a_t_images, .ref a_t_imageKept, .int t_latestFault, .int t_latestFinding])), (a_t_now, .inr (3, [.int rf.2.1, .int rf.2.2.1, .int rf.2.2.2.1, .ref a_t_now_kind, .ref a_t_now_hand, .ref a_t_now_leader, .ref a_t_now_course])), (a_t_now_kind, .inl (cI, 8, .inl rf.2.2.2.2.1)), (a_t_now_hand, .inl (cI, 8, .inl rf.2.2.2.2.2.1)), (a_t_now_leader, .inl (cI, 8, .inl rf.2.2.2.2.2.2.1)), (a_t_acts, .inr (0, [.ref a_t_acts_halls, .int rf.2.2.2.2.2.2.2.1, .int rf.2.2.2.2.2.2.2.2])), (a_t_acts_halls, .inl (cI, 648, .inl t_acts_halls))]) (hR : o_X8_undo N t_now_players t_now_round t_now_time t_now_kind t_now_hand t_now_leader t_acts_kept t_acts_next t_acts_halls = some rf) : Z E (0, 0) [(0, .ref a_t)] 0 [] [(a_t, .inr (8, [.ref a_t_rows, .ref a_t_tape, .ref a_t_reader, .ref a_t_now, .ref a_t_trial, .ref a_t_acts, .ref a_t_ways, .ref a_t_asks, .ref a_t_images, .ref a_t_imageKept, .int t_latestFault, .int t_latestFinding])), (a_t_now, .inr (3, [.int t_now_players, .int t_now_round, .int t_now_time, .ref a_t_now_kind, .ref a_t_now_hand, .ref a_t_now_leader, .ref a_t_now_course])), (a_t_now_kind, .inl (cI, 8, .inl t_now_kind)), (a_t_now_hand, .inl (cI, 8, .inl t_now_hand)), (a_t_now_leader, .inl (cI, 8, .inl t_now_leader)), (a_t_acts, .inr (0, [.ref a_t_acts_halls, .int t_acts_kept, .int t_acts_next])), (a_t_acts_halls, .inl (cI, 648, .inl t_acts_halls))] := by
  rw [o_X8_undo] at hR
  refine z_aload_n hC dX8_undo_0 rfl 0 rfl ?_
  refine z_get hC iX8_undo_X8 rfl 0 5 rfl (by decide) mX8_undo_1 rfl rfl dX8_undo_1 ?_
  refine z_get hC iX8_undo_X0 rfl 5 1 rfl (by decide) mX8_undo_2 rfl rfl dX8_undo_4 ?_
  refine z_if_ne hC 13 dX8_undo_7 (by decide) hR (fun hR => ?_) (fun hR => ?_)
  · refine z_aload_n hC dX8_undo_13 rfl 0 rfl ?_
    refine z_get hC iX8_undo_X8 rfl 0 5 rfl (by decide) mX8_undo_1 rfl rfl dX8_undo_14 ?_
    refine z_aload_n hC dX8_undo_17 rfl 0 rfl ?_
    refine z_get hC iX8_undo_X8 rfl 0 3 rfl (by decide) mX8_undo_4 rfl rfl dX8_undo_18 ?_
    refine z_callVv hC hN [.ref a_t_now] [5, 6, 1, 2, 3, 4] (c_X0_takeBack (l := zl E) (D := zD E) (cI := cI) (cB := cB) (cZ := cZ) (N := N) (a_t := a_t_acts) (a_t_halls := a_t_acts_halls) (a_p1 := a_t_now) (a_p1_kind := a_t_now_kind) (a_p1_hand := a_t_now_hand) (a_p1_leader := a_t_now_leader) (a_p1_course := a_t_now_course) (t_kept := t_acts_kept) (t_next := t_acts_next) (t_halls := t_acts_halls) (p1_players := t_now_players) (p1_round := t_now_round) (p1_time := t_now_time) (p1_kind := t_now_kind) (p1_hand := t_now_hand) (p1_leader := t_now_leader)) rfl ⟨rfl, rfl⟩ gX8_undo_X0_takeBack hvX0_takeBack 5 0 rfl rfl rfl ⟨Nat.le_of_ble_eq_true rfl, Nat.le_of_ble_eq_true rfl⟩ ⟨Nat.zero_le _, Nat.zero_le _⟩ rfl (Nat.le_of_ble_eq_true rfl) rfl (by decide) (fun _ => rfl) dX8_undo_21 hR (fun r21 hR => ?_)
    refine z_eq [(a_t, .inr (8, [.ref a_t_rows, .ref a_t_tape, .ref a_t_reader, .ref a_t_now, .ref a_t_trial, .ref a_t_acts, .ref a_t_ways, .ref a_t_asks, .ref a_t_images, .ref a_t_imageKept, .int t_latestFault, .int t_latestFinding])), (a_t_now, .inr (3, [.int r21.2.2.1, .int r21.2.2.2.1, .int r21.2.2.2.2.1, .ref a_t_now_kind, .ref a_t_now_hand, .ref a_t_now_leader, .ref a_t_now_course])), (a_t_now_kind, .inl (cI, 8, .inl r21.2.2.2.2.2.1)), (a_t_now_hand, .inl (cI, 8, .inl r21.2.2.2.2.2.2.1)), (a_t_now_leader, .inl (cI, 8, .inl r21.2.2.2.2.2.2.2)), (a_t_acts, .inr (0, [.ref a_t_acts_halls, .int r21.1, .int r21.2.1])), (a_t_acts_halls, .inl (cI, 648, .inl t_acts_halls))] rfl ?_
    refine z_aload_n hC dX8_undo_24 rfl 0 rfl ?_
    refine z_get hC iX8_undo_X8 rfl 0 5 rfl (by decide) mX8_undo_1 rfl rfl dX8_undo_25 ?_
    refine z_get hC iX8_undo_X0 rfl 5 1 rfl (by decide) mX8_undo_2 rfl rfl dX8_undo_28 ?_
    obtain rfl := Option.some.inj hR
    exact z_iret hC hQ rfl rfl rfl dX8_undo_31
  · refine z_ldc hC (-1000002) mX8_undo_3 dX8_undo_10 ?_
    obtain rfl := Option.some.inj hR
    exact z_iret hC hQ rfl rfl rfl dX8_undo_12
set_option maxHeartbeats 4000000 in
set_option maxRecDepth 100000 in
theorem c_X8_undo {sK sV : Nat → Nat} {l : Launch} {D : va_G} {cI cB cZ : ClassId} {N : Nat} {a_t : Nat} {a_t_now : Nat} {a_t_now_kind : Nat} {a_t_now_hand : Nat} {a_t_now_leader : Nat} {a_t_acts : Nat} {a_t_acts_halls : Nat} {a_t_rows : Nat} {a_t_tape : Nat} {a_t_reader : Nat} {a_t_trial : Nat} {a_t_ways : Nat} {a_t_asks : Nat} {a_t_images : Nat} {a_t_imageKept : Nat} {a_t_now_course : Nat} {t_latestFault : Int32} {t_latestFinding : Int32} {t_now_players : Int32} {t_now_round : Int32} {t_now_time : Int32} {t_now_kind : (Nat → Int32)} {t_now_hand : (Nat → Int32)} {t_now_leader : (Nat → Int32)} {t_acts_kept : Int32} {t_acts_next : Int32} {t_acts_halls : (Nat → Int32)} : ∀ R : Int32 × Int32 × Int32 × Int32 × (Nat → Int32) × (Nat → Int32) × (Nat → Int32) × Int32 × Int32, o_X8_undo N t_now_players t_now_round t_now_time t_now_kind t_now_hand t_now_leader t_acts_kept t_acts_next t_acts_halls = some R → ZMi sK sV l yX8_undo wsX8_undo rmX8_undo D (zty cI cB cZ) [.ref a_t] [(a_t, .inr (8, [.ref a_t_rows, .ref a_t_tape, .ref a_t_reader, .ref a_t_now, .ref a_t_trial, .ref a_t_acts, .ref a_t_ways, .ref a_t_asks, .ref a_t_images, .ref a_t_imageKept, .int t_latestFault, .int t_latestFinding])), (a_t_now, .inr (3, [.int t_now_players, .int t_now_round, .int t_now_time, .ref a_t_now_kind, .ref a_t_now_hand, .ref a_t_now_leader, .ref a_t_now_course])), (a_t_now_kind, .inl (cI, 8, .inl t_now_kind)), (a_t_now_hand, .inl (cI, 8, .inl t_now_hand)), (a_t_now_leader, .inl (cI, 8, .inl t_now_leader)), (a_t_acts, .inr (0, [.ref a_t_acts_halls, .int t_acts_kept, .int t_acts_next])), (a_t_acts_halls, .inl (cI, 648, .inl t_acts_halls))] R.1 [(a_t, .inr (8, [.ref a_t_rows, .ref a_t_tape, .ref a_t_reader, .ref a_t_now, .ref a_t_trial, .ref a_t_acts, .ref a_t_ways, .ref a_t_asks, .ref a_t_images, .ref a_t_imageKept, .int t_latestFault, .int t_latestFinding])), (a_t_now, .inr (3, [.int R.2.1, .int R.2.2.1, .int R.2.2.2.1, .ref a_t_now_kind, .ref a_t_now_hand, .ref a_t_now_leader, .ref a_t_now_course])), (a_t_now_kind, .inl (cI, 8, .inl R.2.2.2.2.1)), (a_t_now_hand, .inl (cI, 8, .inl R.2.2.2.2.2.1)), (a_t_now_leader, .inl (cI, 8, .inl R.2.2.2.2.2.2.1)), (a_t_acts, .inr (0, [.ref a_t_acts_halls, .int R.2.2.2.2.2.2.2.1, .int R.2.2.2.2.2.2.2.2])), (a_t_acts_halls, .inl (cI, 648, .inl t_acts_halls))] := by
  intro R hR
  refine zi_of (cc := cX8_undo) (maxL := 1) (ret := (some .int)) (by decide) rfl (Nat.le_of_ble_eq_true rfl) (fun E hE1 hE2 hC hN hQ => ?_)
  subst hE1 hE2
  exact z_X8_undo_0 hC hN (N := N) (a_t := a_t) (a_t_now := a_t_now) (a_t_now_kind := a_t_now_kind) (a_t_now_hand := a_t_now_hand) (a_t_now_leader := a_t_now_leader) (a_t_acts := a_t_acts) (a_t_acts_halls := a_t_acts_halls) (a_t_rows := a_t_rows) (a_t_tape := a_t_tape) (a_t_reader := a_t_reader) (a_t_trial := a_t_trial) (a_t_ways := a_t_ways) (a_t_asks := a_t_asks) (a_t_images := a_t_images) (a_t_imageKept := a_t_imageKept) (a_t_now_course := a_t_now_course) (t_latestFault := t_latestFault) (t_latestFinding := t_latestFinding) (t_now_players := t_now_players) (t_now_round := t_now_round) (t_now_time := t_now_time) (t_now_kind := t_now_kind) (t_now_hand := t_now_hand) (t_now_leader := t_now_leader) (t_acts_kept := t_acts_kept) (t_acts_next := t_acts_next) (t_acts_halls := t_acts_halls) hQ hR

/-! FistTrains.player -/
abbrev rmX8_player : Room := { frames := 1, cells := 0, slots := 0, locals := 23 }
set_option maxRecDepth 20000 in
theorem iX8_player_X8 : ∀ w ∈ wsX80, w ∈ wsX8_player := by decide +kernel
set_option maxRecDepth 20000 in
theorem mX8_player_2 : Cond.fieldLink RX8 35 "FistTrains" "now" "LFistTrains$Hall;" ∈ wsX8_player := List.mem_of_getElem? (i := 2) rfl
set_option maxRecDepth 20000 in
theorem iX8_player_X3 : ∀ w ∈ wsX30, w ∈ wsX8_player := by decide +kernel
set_option maxRecDepth 20000 in
theorem mX8_player_3 : Cond.fieldLink RX8 196 "FistTrains$Hall" "hand" "[I" ∈ wsX8_player := List.mem_of_getElem? (i := 3) rfl
set_option maxRecDepth 20000 in
theorem mX8_player_4 : Cond.fieldLink RX8 214 "FistTrains$Hall" "leader" "[I" ∈ wsX8_player := List.mem_of_getElem? (i := 4) rfl
set_option maxRecDepth 20000 in
theorem mX8_player_1 : Cond.constant RX8 82 (-1000001) ∈ wsX8_player := List.mem_of_getElem? (i := 1) rfl
def o_X8_player (N : Nat) (t_now_players : Int32) (t_now_hand : (Nat → Int32)) (t_now_leader : (Nat → Int32)) (l1 : Int32) (l2 : Int32) : Option (Int32) :=
  Option.bind (o_X8_isPlayer N t_now_players l1) (fun r2 =>
  if r2 = 0 then
    some ((-1000001))
  else
    if l2 = 0 then
      ogd (inb l1 8) (
      some ((t_now_hand (Int32.toNatClampNeg l1))))
    else
      if l2 = 1 then
        ogd (inb l1 8) (
        some ((t_now_leader (Int32.toNatClampNeg l1))))
      else
        if l2 = 2 then
          Option.bind (o_X3_trainOf N t_now_players t_now_leader l1) (fun r65 =>
          some (r65))
        else
          some ((-1000001)))
set_option maxHeartbeats 4000000 in
set_option maxRecDepth 100000 in
theorem z_X8_player_0 {sK sV : Nat → Nat} {E : ZE} {cI cB cZ : ClassId} (hC : ZC E 3 cX8_player wsX8_player RX8 rmX8_player (some .int) (zty cI cB cZ)) (hN : ZN sK sV (zA E) (zs E)) {N : Nat} {a_t : Nat} {a_t_now : Nat} {a_t_now_hand : Nat} {a_t_now_leader : Nat} {a_t_rows : Nat} {a_t_tape : Nat} {a_t_reader : Nat} {a_t_trial : Nat} {a_t_acts : Nat} {a_t_ways : Nat} {a_t_asks : Nat} {a_t_images : Nat} {a_t_imageKept : Nat} {a_t_now_kind : Nat} {a_t_now_course : Nat} {t_latestFault : Int32} {t_latestFinding : Int32} {t_now_players : Int32} {t_now_round : Int32} {t_now_time : Int32} {t_now_hand : (Nat → Int32)} {t_now_leader : (Nat → Int32)} {l1 : Int32} {l2 : Int32} {rf : Int32} (hQ : ZQi E (zty cI cB cZ) rf [(a_t, .inr (8, [.ref a_t_rows, .ref a_t_tape, .ref a_t_reader, .ref a_t_now, .ref a_t_trial, .ref a_t_acts, .ref a_t_ways, .ref a_t_asks, .ref a_t_images, .ref a_t_imageKept, .int t_latestFault, .int t_latestFinding])), (a_t_now, .inr (3, [.int t_now_players, .int t_now_round, .int t_now_time, .ref a_t_now_kind, .ref a_t_now_hand, .ref a_t_now_leader, .ref a_t_now_course])), (a_t_now_hand, .inl (cI, 8, .inl t_now_hand)), (a_t_now_leader, .inl (cI, 8, .inl t_now_leader))]) (hR : o_X8_player N t_now_players t_now_hand t_now_leader l1 l2 = some rf) : Z E (0, 0) [(0, .ref a_t), (1, .int l1), (2, .int l2)] 0 [] [(a_t, .inr (8, [.ref a_t_rows, .ref a_t_tape, .ref a_t_reader, .ref a_t_now, .ref a_t_trial, .ref a_t_acts, .ref a_t_ways, .ref a_t_asks, .ref a_t_images, .ref a_t_imageKept, .int t_latestFault, .int t_latestFinding])), (a_t_now, .inr (3, [.int t_now_players, .int t_now_round, .int t_now_time, .ref a_t_now_kind, .ref a_t_now_hand, .ref a_t_now_leader, .ref a_t_now_course])), (a_t_now_hand, .inl (cI, 8, .inl t_now_hand)), (a_t_now_leader, .inl (cI, 8, .inl t_now_leader))] := by
  rw [o_X8_player] at hR
  refine z_aload_n hC dX8_player_0 rfl 0 rfl ?_
  refine z_iload_n hC dX8_player_1 rfl 1 rfl ?_
  refine z_callVi_p hC hN [.int l1] [0, 1] (c_X8_isPlayer (l := zl E) (D := zD E) (cI := cI) (cB := cB) (cZ := cZ) (N := N) (a_t := a_t) (a_t_rows := a_t_rows) (a_t_tape := a_t_tape) (a_t_reader := a_t_reader) (a_t_now := a_t_now) (a_t_trial := a_t_trial) (a_t_acts := a_t_acts) (a_t_ways := a_t_ways) (a_t_asks := a_t_asks) (a_t_images := a_t_images) (a_t_imageKept := a_t_imageKept) (a_t_now_kind := a_t_now_kind) (a_t_now_hand := a_t_now_hand) (a_t_now_leader := a_t_now_leader) (a_t_now_course := a_t_now_course) (l1 := l1) (t_latestFault := t_latestFault) (t_latestFinding := t_latestFinding) (t_now_players := t_now_players) (t_now_round := t_now_round) (t_now_time := t_now_time)) rfl ⟨rfl, rfl⟩ gX8_player_X8_isPlayer hvX8_isPlayer 0 8 rfl rfl rfl ⟨Nat.le_of_ble_eq_true rfl, Nat.le_of_ble_eq_true rfl⟩ ⟨Nat.zero_le _, Nat.zero_le _⟩ rfl (Nat.le_of_ble_eq_true rfl) rfl (by decide) dX8_player_2 hR (fun r2 hR => ?_)
  refine z_if_ne hC 11 dX8_player_5 (by decide) hR (fun hR => ?_) (fun hR => ?_)
  · refine z_iload_n hC dX8_player_11 rfl 2 rfl ?_
    refine z_by hR (fun c0 hR => ?_) (fun c0 hR => ?_)
    · refine z_tin hC 0 40 c0 dX8_player_12 (by decide) (by decide) rfl (by decide) ?_
      refine z_aload_n hC dX8_player_40 rfl 0 rfl ?_
      refine z_get hC iX8_player_X8 rfl 0 3 rfl (by decide) mX8_player_2 rfl rfl dX8_player_41 ?_
      refine z_get hC iX8_player_X3 rfl 1 4 rfl (by decide) mX8_player_3 rfl rfl dX8_player_44 ?_
      refine z_iload_n hC dX8_player_47 rfl 1 rfl ?_
      refine z_iald hC 2 0 rfl rfl dX8_player_48 hR (fun hR => ?_)
      obtain rfl := Option.some.inj hR
      exact z_iret hC hQ rfl rfl rfl dX8_player_49
    · refine z_by hR (fun c1 hR => ?_) (fun c1 hR => ?_)
      · refine z_tin hC 1 50 c1 dX8_player_12 (by decide) (by decide) rfl (by decide) ?_
        refine z_aload_n hC dX8_player_50 rfl 0 rfl ?_
        refine z_get hC iX8_player_X8 rfl 0 3 rfl (by decide) mX8_player_2 rfl rfl dX8_player_51 ?_
        refine z_get hC iX8_player_X3 rfl 1 5 rfl (by decide) mX8_player_4 rfl rfl dX8_player_54 ?_
        refine z_iload_n hC dX8_player_57 rfl 1 rfl ?_
        refine z_iald hC 3 0 rfl rfl dX8_player_58 hR (fun hR => ?_)
        obtain rfl := Option.some.inj hR
        exact z_iret hC hQ rfl rfl rfl dX8_player_59
      · refine z_by hR (fun c2 hR => ?_) (fun c2 hR => ?_)
        · refine z_tin hC 2 60 c2 dX8_player_12 (by decide) (by decide) rfl (by decide) ?_
          refine z_aload_n hC dX8_player_60 rfl 0 rfl ?_
          refine z_get hC iX8_player_X8 rfl 0 3 rfl (by decide) mX8_player_2 rfl rfl dX8_player_61 ?_
          refine z_iload_n hC dX8_player_64 rfl 1 rfl ?_
          refine z_callVi_p hC hN [.int l1] [1, 3] (c_X3_trainOf (l := zl E) (D := zD E) (cI := cI) (cB := cB) (cZ := cZ) (N := N) (a_t := a_t_now) (a_t_kind := a_t_now_kind) (a_t_hand := a_t_now_hand) (a_t_leader := a_t_now_leader) (a_t_course := a_t_now_course) (l1 := l1) (t_players := t_now_players) (t_round := t_now_round) (t_time := t_now_time) (t_leader := t_now_leader)) rfl ⟨rfl, rfl⟩ gX8_player_X3_trainOf hvX3_trainOf 1 3 rfl rfl rfl ⟨Nat.le_of_ble_eq_true rfl, Nat.le_of_ble_eq_true rfl⟩ ⟨Nat.zero_le _, Nat.zero_le _⟩ rfl (Nat.le_of_ble_eq_true rfl) rfl (by decide) dX8_player_65 hR (fun r65 hR => ?_)
          obtain rfl := Option.some.inj hR
          exact z_iret hC hQ rfl rfl rfl dX8_player_68
        · refine z_tout hC 69 dX8_player_12 (by have h0 := lv_neT c0 (a := 0) rfl; have h1 := lv_neT c1 (a := 1) rfl; have h2 := lv_neT c2 (a := 2) rfl; omega) (by decide) ?_
          refine z_ldc hC (-1000001) mX8_player_1 dX8_player_69 ?_
          obtain rfl := Option.some.inj hR
          exact z_iret hC hQ rfl rfl rfl dX8_player_71
  · refine z_ldc hC (-1000001) mX8_player_1 dX8_player_8 ?_
    obtain rfl := Option.some.inj hR
    exact z_iret hC hQ rfl rfl rfl dX8_player_10
set_option maxHeartbeats 4000000 in
set_option maxRecDepth 100000 in
theorem c_X8_player {sK sV : Nat → Nat} {l : Launch} {D : va_G} {cI cB cZ : ClassId} {N : Nat} {a_t : Nat} {a_t_now : Nat} {a_t_now_hand : Nat} {a_t_now_leader : Nat} {a_t_rows : Nat} {a_t_tape : Nat} {a_t_reader : Nat} {a_t_trial : Nat} {a_t_acts : Nat} {a_t_ways : Nat} {a_t_asks : Nat} {a_t_images : Nat} {a_t_imageKept : Nat} {a_t_now_kind : Nat} {a_t_now_course : Nat} {t_latestFault : Int32} {t_latestFinding : Int32} {t_now_players : Int32} {t_now_round : Int32} {t_now_time : Int32} {t_now_hand : (Nat → Int32)} {t_now_leader : (Nat → Int32)} {l1 : Int32} {l2 : Int32} : ∀ R : Int32, o_X8_player N t_now_players t_now_hand t_now_leader l1 l2 = some R → ZMi sK sV l yX8_player wsX8_player rmX8_player D (zty cI cB cZ) [.ref a_t, .int l1, .int l2] [(a_t, .inr (8, [.ref a_t_rows, .ref a_t_tape, .ref a_t_reader, .ref a_t_now, .ref a_t_trial, .ref a_t_acts, .ref a_t_ways, .ref a_t_asks, .ref a_t_images, .ref a_t_imageKept, .int t_latestFault, .int t_latestFinding])), (a_t_now, .inr (3, [.int t_now_players, .int t_now_round, .int t_now_time, .ref a_t_now_kind, .ref a_t_now_hand, .ref a_t_now_leader, .ref a_t_now_course])), (a_t_now_hand, .inl (cI, 8, .inl t_now_hand)), (a_t_now_leader, .inl (cI, 8, .inl t_now_leader))] R [(a_t, .inr (8, [.ref a_t_rows, .ref a_t_tape, .ref a_t_reader, .ref a_t_now, .ref a_t_trial, .ref a_t_acts, .ref a_t_ways, .ref a_t_asks, .ref a_t_images, .ref a_t_imageKept, .int t_latestFault, .int t_latestFinding])), (a_t_now, .inr (3, [.int t_now_players, .int t_now_round, .int t_now_time, .ref a_t_now_kind, .ref a_t_now_hand, .ref a_t_now_leader, .ref a_t_now_course])), (a_t_now_hand, .inl (cI, 8, .inl t_now_hand)), (a_t_now_leader, .inl (cI, 8, .inl t_now_leader))] := by
  intro R hR
  refine zi_of (cc := cX8_player) (maxL := 3) (ret := (some .int)) (by decide) rfl (Nat.le_of_ble_eq_true rfl) (fun E hE1 hE2 hC hN hQ => ?_)
  subst hE1 hE2
  exact z_X8_player_0 hC hN (N := N) (a_t := a_t) (a_t_now := a_t_now) (a_t_now_hand := a_t_now_hand) (a_t_now_leader := a_t_now_leader) (a_t_rows := a_t_rows) (a_t_tape := a_t_tape) (a_t_reader := a_t_reader) (a_t_trial := a_t_trial) (a_t_acts := a_t_acts) (a_t_ways := a_t_ways) (a_t_asks := a_t_asks) (a_t_images := a_t_images) (a_t_imageKept := a_t_imageKept) (a_t_now_kind := a_t_now_kind) (a_t_now_course := a_t_now_course) (t_latestFault := t_latestFault) (t_latestFinding := t_latestFinding) (t_now_players := t_now_players) (t_now_round := t_now_round) (t_now_time := t_now_time) (t_now_hand := t_now_hand) (t_now_leader := t_now_leader) (l1 := l1) (l2 := l2) hQ hR

/-! FistTrains.beats -/
abbrev rmX8_beats : Room := { frames := 3, cells := 0, slots := 0, locals := 72 }
set_option maxRecDepth 20000 in
theorem mX8_beats_1 : Cond.constant RX8 82 (-1000001) ∈ wsX8_beats := List.mem_of_getElem? (i := 1) rfl
set_option maxRecDepth 20000 in
theorem iX8_beats_X8 : ∀ w ∈ wsX80, w ∈ wsX8_beats := by decide +kernel
set_option maxRecDepth 20000 in
theorem mX8_beats_2 : Cond.fieldLink RX8 35 "FistTrains" "now" "LFistTrains$Hall;" ∈ wsX8_beats := List.mem_of_getElem? (i := 2) rfl
set_option maxRecDepth 20000 in
theorem mX8_beats_3 : Cond.constant RX8 164 (-1000002) ∈ wsX8_beats := List.mem_of_getElem? (i := 3) rfl
set_option maxRecDepth 20000 in
theorem iX8_beats_X3 : ∀ w ∈ wsX30, w ∈ wsX8_beats := by decide +kernel
set_option maxRecDepth 20000 in
theorem mX8_beats_4 : Cond.fieldLink RX8 174 "FistTrains$Hall" "course" "LFistTrains$Course;" ∈ wsX8_beats := List.mem_of_getElem? (i := 4) rfl
set_option maxRecDepth 20000 in
theorem iX8_beats_X2 : ∀ w ∈ wsX20, w ∈ wsX8_beats := by decide +kernel
set_option maxRecDepth 20000 in
theorem mX8_beats_5 : Cond.fieldLink RX8 178 "FistTrains$Course" "thrown" "I" ∈ wsX8_beats := List.mem_of_getElem? (i := 5) rfl
def o_X8_beats (N : Nat) (t_now_players : Int32) (t_now_kind : (Nat → Int32)) (t_now_hand : (Nat → Int32)) (t_now_leader : (Nat → Int32)) (t_now_course_first : Int32) (t_now_course_second : Int32) (t_now_course_thrown : Int32) (l1 : Int32) (l2 : Int32) (l3 : Int32) : Option (Int32 × Int32 × Int32 × Int32) :=
  Option.bind (o_X8_isPair N t_now_players l1 l2) (fun r3 =>
  if r3 = 0 then
    some ((-1000001), t_now_course_first, t_now_course_second, t_now_course_thrown)
  else
    if l3 < 0 then
      some ((-1000001), t_now_course_first, t_now_course_second, t_now_course_thrown)
    else
      if l3 ≤ 1 then
        Option.bind (o_X3_leads N t_now_leader l1) (fun r26 =>
        if r26 = 0 then
          some ((-1000002), t_now_course_first, t_now_course_second, t_now_course_thrown)
        else
          Option.bind (o_X3_leads N t_now_leader l2) (fun r37 =>
          if r37 = 0 then
            some ((-1000002), t_now_course_first, t_now_course_second, t_now_course_thrown)
          else
            Option.bind (o_X3_foretell N t_now_players t_now_kind t_now_hand t_now_leader l1 l2) (fun r52 =>
            if l3 = 0 then
              some (r52.1, r52.2.1, r52.2.2.1, r52.2.2.2)
            else
              some (r52.2.2.2, r52.2.1, r52.2.2.1, r52.2.2.2))))
      else
        some ((-1000001), t_now_course_first, t_now_course_second, t_now_course_thrown))
set_option maxHeartbeats 4000000 in
set_option maxRecDepth 100000 in
theorem z_X8_beats_0 {sK sV : Nat → Nat} {E : ZE} {cI cB cZ : ClassId} (hC : ZC E 5 cX8_beats wsX8_beats RX8 rmX8_beats (some .int) (zty cI cB cZ)) (hN : ZN sK sV (zA E) (zs E)) {N : Nat} {a_t : Nat} {a_t_now : Nat} {a_t_now_kind : Nat} {a_t_now_hand : Nat} {a_t_now_leader : Nat} {a_t_now_course : Nat} {a_t_rows : Nat} {a_t_tape : Nat} {a_t_reader : Nat} {a_t_trial : Nat} {a_t_acts : Nat} {a_t_ways : Nat} {a_t_asks : Nat} {a_t_images : Nat} {a_t_imageKept : Nat} {t_latestFault : Int32} {t_latestFinding : Int32} {t_now_players : Int32} {t_now_round : Int32} {t_now_time : Int32} {t_now_kind : (Nat → Int32)} {t_now_hand : (Nat → Int32)} {t_now_leader : (Nat → Int32)} {t_now_course_first : Int32} {t_now_course_second : Int32} {t_now_course_thrown : Int32} {l1 : Int32} {l2 : Int32} {l3 : Int32} {rf : Int32 × Int32 × Int32 × Int32} (hQ : ZQi E (zty cI cB cZ) rf.1 [(a_t, .inr (8, [.ref a_t_rows, .ref a_t_tape, .ref a_t_reader, .ref a_t_now, .ref a_t_trial, .ref a_t_acts, .ref a_t_ways, .ref a_t_asks, .ref a_t_images, .ref a_t_imageKept, .int t_latestFault, .int t_latestFinding])), (a_t_now, .inr (3, [.int t_now_players, .int t_now_round, .int t_now_time, .ref a_t_now_kind, .ref a_t_now_hand, .ref a_t_now_leader, .ref a_t_now_course])), (a_t_now_kind, .inl (cI, 8, .inl t_now_kind)), (a_t_now_hand, .inl (cI, 8, .inl t_now_hand)), (a_t_now_leader, .inl (cI, 8, .inl t_now_leader)), (a_t_now_course, .inr (2, [.int rf.2.1, .int rf.2.2.1, .int rf.2.2.2]))]) (hR : o_X8_beats N t_now_players t_now_kind t_now_hand t_now_leader t_now_course_first t_now_course_second t_now_course_thrown l1 l2 l3 = some rf) : Z E (0, 0) [(0, .ref a_t), (1, .int l1), (2, .int l2), (3, .int l3)] 0 [] [(a_t, .inr (8, [.ref a_t_rows, .ref a_t_tape, .ref a_t_reader, .ref a_t_now, .ref a_t_trial, .ref a_t_acts, .ref a_t_ways, .ref a_t_asks, .ref a_t_images, .ref a_t_imageKept, .int t_latestFault, .int t_latestFinding])), (a_t_now, .inr (3, [.int t_now_players, .int t_now_round, .int t_now_time, .ref a_t_now_kind, .ref a_t_now_hand, .ref a_t_now_leader, .ref a_t_now_course])), (a_t_now_kind, .inl (cI, 8, .inl t_now_kind)), (a_t_now_hand, .inl (cI, 8, .inl t_now_hand)), (a_t_now_leader, .inl (cI, 8, .inl t_now_leader)), (a_t_now_course, .inr (2, [.int t_now_course_first, .int t_now_course_second, .int t_now_course_thrown]))] := by
  rw [o_X8_beats] at hR
  refine z_aload_n hC dX8_beats_0 rfl 0 rfl ?_
  refine z_iload_n hC dX8_beats_1 rfl 1 rfl ?_
  refine z_iload_n hC dX8_beats_2 rfl 2 rfl ?_
  refine z_callVi_p hC hN [.int l1, .int l2] [0, 1] (c_X8_isPair (l := zl E) (D := zD E) (cI := cI) (cB := cB) (cZ := cZ) (N := N) (a_t := a_t) (a_t_rows := a_t_rows) (a_t_tape := a_t_tape) (a_t_reader := a_t_reader) (a_t_now := a_t_now) (a_t_trial := a_t_trial) (a_t_acts := a_t_acts) (a_t_ways := a_t_ways) (a_t_asks := a_t_asks) (a_t_images := a_t_images) (a_t_imageKept := a_t_imageKept) (a_t_now_kind := a_t_now_kind) (a_t_now_hand := a_t_now_hand) (a_t_now_leader := a_t_now_leader) (a_t_now_course := a_t_now_course) (l1 := l1) (l2 := l2) (t_latestFault := t_latestFault) (t_latestFinding := t_latestFinding) (t_now_players := t_now_players) (t_now_round := t_now_round) (t_now_time := t_now_time)) rfl ⟨rfl, rfl⟩ gX8_beats_X8_isPair hvX8_isPair 0 8 rfl rfl rfl ⟨Nat.le_of_ble_eq_true rfl, Nat.le_of_ble_eq_true rfl⟩ ⟨Nat.zero_le _, Nat.zero_le _⟩ rfl (Nat.le_of_ble_eq_true rfl) rfl (by decide) dX8_beats_3 hR (fun r3 hR => ?_)
  refine z_if_eq hC 18 dX8_beats_6 (by decide) hR (fun hR => ?_) (fun hR => ?_)
  · refine z_ldc hC (-1000001) mX8_beats_1 dX8_beats_18 ?_
    obtain rfl := Option.some.inj hR
    exact z_iret hC hQ rfl rfl rfl dX8_beats_20
  · refine z_iload_n hC dX8_beats_9 rfl 3 rfl ?_
    refine z_if_lt hC 18 dX8_beats_10 (by decide) hR (fun hR => ?_) (fun hR => ?_)
    · refine z_ldc hC (-1000001) mX8_beats_1 dX8_beats_18 ?_
      obtain rfl := Option.some.inj hR
      exact z_iret hC hQ rfl rfl rfl dX8_beats_20
    · refine z_iload_n hC dX8_beats_13 rfl 3 rfl ?_
      refine z_ic1 hC dX8_beats_14 ?_
      refine z_icmp_le hC 21 dX8_beats_15 (by decide) hR (fun hR => ?_) (fun hR => ?_)
      · refine z_aload_n hC dX8_beats_21 rfl 0 rfl ?_
        refine z_get hC iX8_beats_X8 rfl 0 3 rfl (by decide) mX8_beats_2 rfl rfl dX8_beats_22 ?_
        refine z_iload_n hC dX8_beats_25 rfl 1 rfl ?_
        refine z_callVi_p hC hN [.int l1] [1, 4] (c_X3_leads (l := zl E) (D := zD E) (cI := cI) (cB := cB) (cZ := cZ) (N := N) (a_t := a_t_now) (a_t_kind := a_t_now_kind) (a_t_hand := a_t_now_hand) (a_t_leader := a_t_now_leader) (a_t_course := a_t_now_course) (l1 := l1) (t_players := t_now_players) (t_round := t_now_round) (t_time := t_now_time) (t_leader := t_now_leader)) rfl ⟨rfl, rfl⟩ gX8_beats_X3_leads hvX3_leads 1 3 rfl rfl rfl ⟨Nat.le_of_ble_eq_true rfl, Nat.le_of_ble_eq_true rfl⟩ ⟨Nat.zero_le _, Nat.zero_le _⟩ rfl (Nat.le_of_ble_eq_true rfl) rfl (by decide) dX8_beats_26 hR (fun r26 hR => ?_)
        refine z_if_eq hC 43 dX8_beats_29 (by decide) hR (fun hR => ?_) (fun hR => ?_)
        · refine z_ldc hC (-1000002) mX8_beats_3 dX8_beats_43 ?_
          obtain rfl := Option.some.inj hR
          exact z_iret hC hQ rfl rfl rfl dX8_beats_45
        · refine z_aload_n hC dX8_beats_32 rfl 0 rfl ?_
          refine z_get hC iX8_beats_X8 rfl 0 3 rfl (by decide) mX8_beats_2 rfl rfl dX8_beats_33 ?_
          refine z_iload_n hC dX8_beats_36 rfl 2 rfl ?_
          refine z_callVi_p hC hN [.int l2] [1, 4] (c_X3_leads (l := zl E) (D := zD E) (cI := cI) (cB := cB) (cZ := cZ) (N := N) (a_t := a_t_now) (a_t_kind := a_t_now_kind) (a_t_hand := a_t_now_hand) (a_t_leader := a_t_now_leader) (a_t_course := a_t_now_course) (l1 := l2) (t_players := t_now_players) (t_round := t_now_round) (t_time := t_now_time) (t_leader := t_now_leader)) rfl ⟨rfl, rfl⟩ gX8_beats_X3_leads hvX3_leads 1 3 rfl rfl rfl ⟨Nat.le_of_ble_eq_true rfl, Nat.le_of_ble_eq_true rfl⟩ ⟨Nat.zero_le _, Nat.zero_le _⟩ rfl (Nat.le_of_ble_eq_true rfl) rfl (by decide) dX8_beats_37 hR (fun r37 hR => ?_)
          refine z_if_ne hC 46 dX8_beats_40 (by decide) hR (fun hR => ?_) (fun hR => ?_)
          · refine z_aload_n hC dX8_beats_46 rfl 0 rfl ?_
            refine z_get hC iX8_beats_X8 rfl 0 3 rfl (by decide) mX8_beats_2 rfl rfl dX8_beats_47 ?_
            refine z_iload_n hC dX8_beats_50 rfl 1 rfl ?_
            refine z_iload_n hC dX8_beats_51 rfl 2 rfl ?_
            refine z_callVi hC hN [.int l1, .int l2] [1, 2, 3, 4, 5] (c_X3_foretell (l := zl E) (D := zD E) (cI := cI) (cB := cB) (cZ := cZ) (N := N) (a_t := a_t_now) (a_t_kind := a_t_now_kind) (a_t_hand := a_t_now_hand) (a_t_leader := a_t_now_leader) (a_t_course := a_t_now_course) (l1 := l1) (l2 := l2) (t_players := t_now_players) (t_round := t_now_round) (t_time := t_now_time) (t_kind := t_now_kind) (t_hand := t_now_hand) (t_leader := t_now_leader) (t_course_first := t_now_course_first) (t_course_second := t_now_course_second) (t_course_thrown := t_now_course_thrown)) rfl ⟨rfl, rfl⟩ gX8_beats_X3_foretell hvX3_foretell 1 3 rfl rfl rfl ⟨Nat.le_of_ble_eq_true rfl, Nat.le_of_ble_eq_true rfl⟩ ⟨Nat.zero_le _, Nat.zero_le _⟩ rfl (Nat.le_of_ble_eq_true rfl) rfl (by decide) (fun _ => rfl) dX8_beats_52 hR (fun r52 hR => ?_)
            refine z_eq [(a_t, .inr (8, [.ref a_t_rows, .ref a_t_tape, .ref a_t_reader, .ref a_t_now, .ref a_t_trial, .ref a_t_acts, .ref a_t_ways, .ref a_t_asks, .ref a_t_images, .ref a_t_imageKept, .int t_latestFault, .int t_latestFinding])), (a_t_now, .inr (3, [.int t_now_players, .int t_now_round, .int t_now_time, .ref a_t_now_kind, .ref a_t_now_hand, .ref a_t_now_leader, .ref a_t_now_course])), (a_t_now_kind, .inl (cI, 8, .inl t_now_kind)), (a_t_now_hand, .inl (cI, 8, .inl t_now_hand)), (a_t_now_leader, .inl (cI, 8, .inl t_now_leader)), (a_t_now_course, .inr (2, [.int r52.2.1, .int r52.2.2.1, .int r52.2.2.2]))] rfl ?_
            refine z_istore hC [(4, .int r52.1), (0, .ref a_t), (1, .int l1), (2, .int l2), (3, .int l3)] dX8_beats_55 (by decide) rfl ?_
            refine z_iload_n hC dX8_beats_57 rfl 4 rfl ?_
            refine z_if_ne hC 66 dX8_beats_58 (by decide) hR (fun hR => ?_) (fun hR => ?_)
            · refine z_aload_n hC dX8_beats_66 rfl 1 rfl ?_
              refine z_get hC iX8_beats_X8 rfl 0 3 rfl (by decide) mX8_beats_2 rfl rfl dX8_beats_67 ?_
              refine z_get hC iX8_beats_X3 rfl 1 6 rfl (by decide) mX8_beats_4 rfl rfl dX8_beats_70 ?_
              refine z_get hC iX8_beats_X2 rfl 5 2 rfl (by decide) mX8_beats_5 rfl rfl dX8_beats_73 ?_
              obtain rfl := Option.some.inj hR
              exact z_iret hC hQ rfl rfl rfl dX8_beats_76
            · refine z_iload hC dX8_beats_61 0 rfl ?_
              refine z_goto hC 76 dX8_beats_63 (by decide) ?_
              obtain rfl := Option.some.inj hR
              exact z_iret hC hQ rfl rfl rfl dX8_beats_76
          · refine z_ldc hC (-1000002) mX8_beats_3 dX8_beats_43 ?_
            obtain rfl := Option.some.inj hR
            exact z_iret hC hQ rfl rfl rfl dX8_beats_45
      · refine z_ldc hC (-1000001) mX8_beats_1 dX8_beats_18 ?_
        obtain rfl := Option.some.inj hR
        exact z_iret hC hQ rfl rfl rfl dX8_beats_20
set_option maxHeartbeats 4000000 in
set_option maxRecDepth 100000 in
theorem c_X8_beats {sK sV : Nat → Nat} {l : Launch} {D : va_G} {cI cB cZ : ClassId} {N : Nat} {a_t : Nat} {a_t_now : Nat} {a_t_now_kind : Nat} {a_t_now_hand : Nat} {a_t_now_leader : Nat} {a_t_now_course : Nat} {a_t_rows : Nat} {a_t_tape : Nat} {a_t_reader : Nat} {a_t_trial : Nat} {a_t_acts : Nat} {a_t_ways : Nat} {a_t_asks : Nat} {a_t_images : Nat} {a_t_imageKept : Nat} {t_latestFault : Int32} {t_latestFinding : Int32} {t_now_players : Int32} {t_now_round : Int32} {t_now_time : Int32} {t_now_kind : (Nat → Int32)} {t_now_hand : (Nat → Int32)} {t_now_leader : (Nat → Int32)} {t_now_course_first : Int32} {t_now_course_second : Int32} {t_now_course_thrown : Int32} {l1 : Int32} {l2 : Int32} {l3 : Int32} : ∀ R : Int32 × Int32 × Int32 × Int32, o_X8_beats N t_now_players t_now_kind t_now_hand t_now_leader t_now_course_first t_now_course_second t_now_course_thrown l1 l2 l3 = some R → ZMi sK sV l yX8_beats wsX8_beats rmX8_beats D (zty cI cB cZ) [.ref a_t, .int l1, .int l2, .int l3] [(a_t, .inr (8, [.ref a_t_rows, .ref a_t_tape, .ref a_t_reader, .ref a_t_now, .ref a_t_trial, .ref a_t_acts, .ref a_t_ways, .ref a_t_asks, .ref a_t_images, .ref a_t_imageKept, .int t_latestFault, .int t_latestFinding])), (a_t_now, .inr (3, [.int t_now_players, .int t_now_round, .int t_now_time, .ref a_t_now_kind, .ref a_t_now_hand, .ref a_t_now_leader, .ref a_t_now_course])), (a_t_now_kind, .inl (cI, 8, .inl t_now_kind)), (a_t_now_hand, .inl (cI, 8, .inl t_now_hand)), (a_t_now_leader, .inl (cI, 8, .inl t_now_leader)), (a_t_now_course, .inr (2, [.int t_now_course_first, .int t_now_course_second, .int t_now_course_thrown]))] R.1 [(a_t, .inr (8, [.ref a_t_rows, .ref a_t_tape, .ref a_t_reader, .ref a_t_now, .ref a_t_trial, .ref a_t_acts, .ref a_t_ways, .ref a_t_asks, .ref a_t_images, .ref a_t_imageKept, .int t_latestFault, .int t_latestFinding])), (a_t_now, .inr (3, [.int t_now_players, .int t_now_round, .int t_now_time, .ref a_t_now_kind, .ref a_t_now_hand, .ref a_t_now_leader, .ref a_t_now_course])), (a_t_now_kind, .inl (cI, 8, .inl t_now_kind)), (a_t_now_hand, .inl (cI, 8, .inl t_now_hand)), (a_t_now_leader, .inl (cI, 8, .inl t_now_leader)), (a_t_now_course, .inr (2, [.int R.2.1, .int R.2.2.1, .int R.2.2.2]))] := by
  intro R hR
  refine zi_of (cc := cX8_beats) (maxL := 5) (ret := (some .int)) (by decide) rfl (Nat.le_of_ble_eq_true rfl) (fun E hE1 hE2 hC hN hQ => ?_)
  subst hE1 hE2
  exact z_X8_beats_0 hC hN (N := N) (a_t := a_t) (a_t_now := a_t_now) (a_t_now_kind := a_t_now_kind) (a_t_now_hand := a_t_now_hand) (a_t_now_leader := a_t_now_leader) (a_t_now_course := a_t_now_course) (a_t_rows := a_t_rows) (a_t_tape := a_t_tape) (a_t_reader := a_t_reader) (a_t_trial := a_t_trial) (a_t_acts := a_t_acts) (a_t_ways := a_t_ways) (a_t_asks := a_t_asks) (a_t_images := a_t_images) (a_t_imageKept := a_t_imageKept) (t_latestFault := t_latestFault) (t_latestFinding := t_latestFinding) (t_now_players := t_now_players) (t_now_round := t_now_round) (t_now_time := t_now_time) (t_now_kind := t_now_kind) (t_now_hand := t_now_hand) (t_now_leader := t_now_leader) (t_now_course_first := t_now_course_first) (t_now_course_second := t_now_course_second) (t_now_course_thrown := t_now_course_thrown) (l1 := l1) (l2 := l2) (l3 := l3) hQ hR

/-! FistTrains.left -/
abbrev rmX8_left : Room := { frames := 6, cells := 0, slots := 0, locals := 141 }
set_option maxRecDepth 20000 in
theorem iX8_left_X8 : ∀ w ∈ wsX80, w ∈ wsX8_left := by decide +kernel
set_option maxRecDepth 20000 in
theorem mX8_left_1 : Cond.fieldLink RX8 35 "FistTrains" "now" "LFistTrains$Hall;" ∈ wsX8_left := List.mem_of_getElem? (i := 1) rfl
set_option maxRecDepth 20000 in
theorem mX8_left_3 : Cond.fieldLink RX8 39 "FistTrains" "trial" "LFistTrains$Hall;" ∈ wsX8_left := List.mem_of_getElem? (i := 3) rfl
set_option maxRecDepth 20000 in
theorem iX8_left_X3 : ∀ w ∈ wsX30, w ∈ wsX8_left := by decide +kernel
set_option maxRecDepth 20000 in
theorem mX8_left_4 : Cond.fieldLink RX8 214 "FistTrains$Hall" "leader" "[I" ∈ wsX8_left := List.mem_of_getElem? (i := 4) rfl
set_option maxRecDepth 20000 in
theorem mX8_left_5 : Cond.fieldLink RX8 226 "FistTrains$Hall" "round" "I" ∈ wsX8_left := List.mem_of_getElem? (i := 5) rfl
set_option maxRecDepth 20000 in
theorem mX8_left_6 : Cond.fieldLink RX8 171 "FistTrains$Hall" "time" "I" ∈ wsX8_left := List.mem_of_getElem? (i := 6) rfl
set_option maxRecDepth 20000 in
theorem mX8_left_7 : Cond.constant RX8 82 (-1000001) ∈ wsX8_left := List.mem_of_getElem? (i := 7) rfl
set_option maxRecDepth 20000 in
theorem mX8_left_2 : Cond.constant RX8 164 (-1000002) ∈ wsX8_left := List.mem_of_getElem? (i := 2) rfl
def o_X8_left (N : Nat) (t_now_players : Int32) (t_now_round : Int32) (t_now_time : Int32) (t_now_kind : (Nat → Int32)) (t_now_hand : (Nat → Int32)) (t_now_leader : (Nat → Int32)) (t_trial_players : Int32) (t_trial_round : Int32) (t_trial_time : Int32) (t_trial_kind : (Nat → Int32)) (t_trial_hand : (Nat → Int32)) (t_trial_leader : (Nat → Int32)) (t_trial_course_first : Int32) (t_trial_course_second : Int32) (t_trial_course_thrown : Int32) (l1 : Int32) : Option (Int32 × Int32 × Int32 × Int32 × (Nat → Int32) × (Nat → Int32) × (Nat → Int32) × Int32 × Int32 × Int32) :=
  Option.bind (o_X3_isMissing N t_now_players) (fun r4 =>
  if r4 = 0 then
    Option.bind (o_X3_become N t_trial_kind t_trial_hand t_trial_leader t_now_players t_now_round t_now_time t_now_kind t_now_hand t_now_leader) (fun r21 =>
    Option.bind (o_X3_playToTheEnd N r21.1 r21.2.1 r21.2.2.1 r21.2.2.2.1 r21.2.2.2.2.1 r21.2.2.2.2.2 t_trial_course_first t_trial_course_second t_trial_course_thrown) (fun r28 =>
    if l1 = 0 then
      ogd (inb 0 8) (
      some ((r28.2.2.2.1 (Int32.toNatClampNeg 0)), r21.1, r28.1, r28.2.1, r21.2.2.2.1, r28.2.2.1, r28.2.2.2.1, r28.2.2.2.2.1, r28.2.2.2.2.2.1, r28.2.2.2.2.2.2))
    else
      if l1 = 1 then
        some ((r28.1 - t_now_round), r21.1, r28.1, r28.2.1, r21.2.2.2.1, r28.2.2.1, r28.2.2.2.1, r28.2.2.2.2.1, r28.2.2.2.2.2.1, r28.2.2.2.2.2.2)
      else
        if l1 = 2 then
          some ((r28.2.1 - t_now_time), r21.1, r28.1, r28.2.1, r21.2.2.2.1, r28.2.2.1, r28.2.2.2.1, r28.2.2.2.2.1, r28.2.2.2.2.2.1, r28.2.2.2.2.2.2)
        else
          some ((-1000001), r21.1, r28.1, r28.2.1, r21.2.2.2.1, r28.2.2.1, r28.2.2.2.1, r28.2.2.2.2.1, r28.2.2.2.2.2.1, r28.2.2.2.2.2.2)))
  else
    some ((-1000002), t_trial_players, t_trial_round, t_trial_time, t_trial_kind, t_trial_hand, t_trial_leader, t_trial_course_first, t_trial_course_second, t_trial_course_thrown))
set_option maxHeartbeats 4000000 in
set_option maxRecDepth 100000 in
theorem z_X8_left_0 {sK sV : Nat → Nat} {E : ZE} {cI cB cZ : ClassId} (hC : ZC E 2 cX8_left wsX8_left RX8 rmX8_left (some .int) (zty cI cB cZ)) (hN : ZN sK sV (zA E) (zs E)) {N : Nat} {a_t : Nat} {a_t_now : Nat} {a_t_now_kind : Nat} {a_t_now_hand : Nat} {a_t_now_leader : Nat} {a_t_trial : Nat} {a_t_trial_kind : Nat} {a_t_trial_hand : Nat} {a_t_trial_leader : Nat} {a_t_trial_course : Nat} {a_t_rows : Nat} {a_t_tape : Nat} {a_t_reader : Nat} {a_t_acts : Nat} {a_t_ways : Nat} {a_t_asks : Nat} {a_t_images : Nat} {a_t_imageKept : Nat} {a_t_now_course : Nat} {t_latestFault : Int32} {t_latestFinding : Int32} {t_now_players : Int32} {t_now_round : Int32} {t_now_time : Int32} {t_now_kind : (Nat → Int32)} {t_now_hand : (Nat → Int32)} {t_now_leader : (Nat → Int32)} {t_trial_players : Int32} {t_trial_round : Int32} {t_trial_time : Int32} {t_trial_kind : (Nat → Int32)} {t_trial_hand : (Nat → Int32)} {t_trial_leader : (Nat → Int32)} {t_trial_course_first : Int32} {t_trial_course_second : Int32} {t_trial_course_thrown : Int32} {l1 : Int32} {rf : Int32 × Int32 × Int32 × Int32 × (Nat → Int32) × (Nat → Int32) × (Nat → Int32) × Int32 × Int32 × Int32} (hQ : ZQi E (zty cI cB cZ) rf.1 [(a_t, .inr (8, [.ref a_t_rows, .ref a_t_tape, .ref a_t_reader, .ref a_t_now, .ref a_t_trial, .ref a_t_acts, .ref a_t_ways, .ref a_t_asks, .ref a_t_images, .ref a_t_imageKept, .int t_latestFault, .int t_latestFinding])), (a_t_now, .inr (3, [.int t_now_players, .int t_now_round, .int t_now_time, .ref a_t_now_kind, .ref a_t_now_hand, .ref a_t_now_leader, .ref a_t_now_course])), (a_t_now_kind, .inl (cI, 8, .inl t_now_kind)), (a_t_now_hand, .inl (cI, 8, .inl t_now_hand)), (a_t_now_leader, .inl (cI, 8, .inl t_now_leader)), (a_t_trial, .inr (3, [.int rf.2.1, .int rf.2.2.1, .int rf.2.2.2.1, .ref a_t_trial_kind, .ref a_t_trial_hand, .ref a_t_trial_leader, .ref a_t_trial_course])), (a_t_trial_kind, .inl (cI, 8, .inl rf.2.2.2.2.1)), (a_t_trial_hand, .inl (cI, 8, .inl rf.2.2.2.2.2.1)), (a_t_trial_leader, .inl (cI, 8, .inl rf.2.2.2.2.2.2.1)), (a_t_trial_course, .inr (2, [.int rf.2.2.2.2.2.2.2.1, .int rf.2.2.2.2.2.2.2.2.1, .int rf.2.2.2.2.2.2.2.2.2]))]) (hR : o_X8_left N t_now_players t_now_round t_now_time t_now_kind t_now_hand t_now_leader t_trial_players t_trial_round t_trial_time t_trial_kind t_trial_hand t_trial_leader t_trial_course_first t_trial_course_second t_trial_course_thrown l1 = some rf) : Z E (0, 0) [(0, .ref a_t), (1, .int l1)] 0 [] [(a_t, .inr (8, [.ref a_t_rows, .ref a_t_tape, .ref a_t_reader, .ref a_t_now, .ref a_t_trial, .ref a_t_acts, .ref a_t_ways, .ref a_t_asks, .ref a_t_images, .ref a_t_imageKept, .int t_latestFault, .int t_latestFinding])), (a_t_now, .inr (3, [.int t_now_players, .int t_now_round, .int t_now_time, .ref a_t_now_kind, .ref a_t_now_hand, .ref a_t_now_leader, .ref a_t_now_course])), (a_t_now_kind, .inl (cI, 8, .inl t_now_kind)), (a_t_now_hand, .inl (cI, 8, .inl t_now_hand)), (a_t_now_leader, .inl (cI, 8, .inl t_now_leader)), (a_t_trial, .inr (3, [.int t_trial_players, .int t_trial_round, .int t_trial_time, .ref a_t_trial_kind, .ref a_t_trial_hand, .ref a_t_trial_leader, .ref a_t_trial_course])), (a_t_trial_kind, .inl (cI, 8, .inl t_trial_kind)), (a_t_trial_hand, .inl (cI, 8, .inl t_trial_hand)), (a_t_trial_leader, .inl (cI, 8, .inl t_trial_leader)), (a_t_trial_course, .inr (2, [.int t_trial_course_first, .int t_trial_course_second, .int t_trial_course_thrown]))] := by
  rw [o_X8_left] at hR
  refine z_aload_n hC dX8_left_0 rfl 0 rfl ?_
  refine z_get hC iX8_left_X8 rfl 0 3 rfl (by decide) mX8_left_1 rfl rfl dX8_left_1 ?_
  refine z_callVi_p hC hN [] [1] (c_X3_isMissing (l := zl E) (D := zD E) (cI := cI) (cB := cB) (cZ := cZ) (N := N) (a_t := a_t_now) (a_t_kind := a_t_now_kind) (a_t_hand := a_t_now_hand) (a_t_leader := a_t_now_leader) (a_t_course := a_t_now_course) (t_players := t_now_players) (t_round := t_now_round) (t_time := t_now_time)) rfl ⟨rfl, rfl⟩ gX8_left_X3_isMissing hvX3_isMissing 1 3 rfl rfl rfl ⟨Nat.le_of_ble_eq_true rfl, Nat.le_of_ble_eq_true rfl⟩ ⟨Nat.zero_le _, Nat.zero_le _⟩ rfl (Nat.le_of_ble_eq_true rfl) rfl (by decide) dX8_left_4 hR (fun r4 hR => ?_)
  refine z_if_eq hC 13 dX8_left_7 (by decide) hR (fun hR => ?_) (fun hR => ?_)
  · refine z_aload_n hC dX8_left_13 rfl 0 rfl ?_
    refine z_get hC iX8_left_X8 rfl 0 4 rfl (by decide) mX8_left_3 rfl rfl dX8_left_14 ?_
    refine z_aload_n hC dX8_left_17 rfl 0 rfl ?_
    refine z_get hC iX8_left_X8 rfl 0 3 rfl (by decide) mX8_left_1 rfl rfl dX8_left_18 ?_
    refine z_callVv hC hN [.ref a_t_now] [5, 6, 7, 8, 1, 2, 3, 4] (c_X3_become (l := zl E) (D := zD E) (cI := cI) (cB := cB) (cZ := cZ) (N := N) (a_t := a_t_trial) (a_t_kind := a_t_trial_kind) (a_t_hand := a_t_trial_hand) (a_t_leader := a_t_trial_leader) (a_t_course := a_t_trial_course) (a_p1 := a_t_now) (a_p1_kind := a_t_now_kind) (a_p1_hand := a_t_now_hand) (a_p1_leader := a_t_now_leader) (a_p1_course := a_t_now_course) (t_players := t_trial_players) (t_round := t_trial_round) (t_time := t_trial_time) (t_kind := t_trial_kind) (t_hand := t_trial_hand) (t_leader := t_trial_leader) (p1_players := t_now_players) (p1_round := t_now_round) (p1_time := t_now_time) (p1_kind := t_now_kind) (p1_hand := t_now_hand) (p1_leader := t_now_leader)) rfl ⟨rfl, rfl⟩ gX8_left_X3_become hvX3_become 5 3 rfl rfl rfl ⟨Nat.le_of_ble_eq_true rfl, Nat.le_of_ble_eq_true rfl⟩ ⟨Nat.zero_le _, Nat.zero_le _⟩ rfl (Nat.le_of_ble_eq_true rfl) rfl (by decide) (fun _ => rfl) dX8_left_21 hR (fun r21 hR => ?_)
    refine z_eq [(a_t, .inr (8, [.ref a_t_rows, .ref a_t_tape, .ref a_t_reader, .ref a_t_now, .ref a_t_trial, .ref a_t_acts, .ref a_t_ways, .ref a_t_asks, .ref a_t_images, .ref a_t_imageKept, .int t_latestFault, .int t_latestFinding])), (a_t_now, .inr (3, [.int t_now_players, .int t_now_round, .int t_now_time, .ref a_t_now_kind, .ref a_t_now_hand, .ref a_t_now_leader, .ref a_t_now_course])), (a_t_now_kind, .inl (cI, 8, .inl t_now_kind)), (a_t_now_hand, .inl (cI, 8, .inl t_now_hand)), (a_t_now_leader, .inl (cI, 8, .inl t_now_leader)), (a_t_trial, .inr (3, [.int r21.1, .int r21.2.1, .int r21.2.2.1, .ref a_t_trial_kind, .ref a_t_trial_hand, .ref a_t_trial_leader, .ref a_t_trial_course])), (a_t_trial_kind, .inl (cI, 8, .inl r21.2.2.2.1)), (a_t_trial_hand, .inl (cI, 8, .inl r21.2.2.2.2.1)), (a_t_trial_leader, .inl (cI, 8, .inl r21.2.2.2.2.2)), (a_t_trial_course, .inr (2, [.int t_trial_course_first, .int t_trial_course_second, .int t_trial_course_thrown]))] rfl ?_
    refine z_aload_n hC dX8_left_24 rfl 0 rfl ?_
    refine z_get hC iX8_left_X8 rfl 0 4 rfl (by decide) mX8_left_3 rfl rfl dX8_left_25 ?_
    refine z_callVv hC hN [] [5, 6, 7, 8, 9] (c_X3_playToTheEnd (l := zl E) (D := zD E) (cI := cI) (cB := cB) (cZ := cZ) (N := N) (a_t := a_t_trial) (a_t_kind := a_t_trial_kind) (a_t_hand := a_t_trial_hand) (a_t_leader := a_t_trial_leader) (a_t_course := a_t_trial_course) (t_players := r21.1) (t_round := r21.2.1) (t_time := r21.2.2.1) (t_kind := r21.2.2.2.1) (t_hand := r21.2.2.2.2.1) (t_leader := r21.2.2.2.2.2) (t_course_first := t_trial_course_first) (t_course_second := t_trial_course_second) (t_course_thrown := t_trial_course_thrown)) rfl ⟨rfl, rfl⟩ gX8_left_X3_playToTheEnd hvX3_playToTheEnd 5 3 rfl rfl rfl ⟨Nat.le_of_ble_eq_true rfl, Nat.le_of_ble_eq_true rfl⟩ ⟨Nat.zero_le _, Nat.zero_le _⟩ rfl (Nat.le_of_ble_eq_true rfl) rfl (by decide) (fun _ => rfl) dX8_left_28 hR (fun r28 hR => ?_)
    refine z_eq [(a_t, .inr (8, [.ref a_t_rows, .ref a_t_tape, .ref a_t_reader, .ref a_t_now, .ref a_t_trial, .ref a_t_acts, .ref a_t_ways, .ref a_t_asks, .ref a_t_images, .ref a_t_imageKept, .int t_latestFault, .int t_latestFinding])), (a_t_now, .inr (3, [.int t_now_players, .int t_now_round, .int t_now_time, .ref a_t_now_kind, .ref a_t_now_hand, .ref a_t_now_leader, .ref a_t_now_course])), (a_t_now_kind, .inl (cI, 8, .inl t_now_kind)), (a_t_now_hand, .inl (cI, 8, .inl t_now_hand)), (a_t_now_leader, .inl (cI, 8, .inl t_now_leader)), (a_t_trial, .inr (3, [.int r21.1, .int r28.1, .int r28.2.1, .ref a_t_trial_kind, .ref a_t_trial_hand, .ref a_t_trial_leader, .ref a_t_trial_course])), (a_t_trial_kind, .inl (cI, 8, .inl r21.2.2.2.1)), (a_t_trial_hand, .inl (cI, 8, .inl r28.2.2.1)), (a_t_trial_leader, .inl (cI, 8, .inl r28.2.2.2.1)), (a_t_trial_course, .inr (2, [.int r28.2.2.2.2.1, .int r28.2.2.2.2.2.1, .int r28.2.2.2.2.2.2]))] rfl ?_
    refine z_iload_n hC dX8_left_31 rfl 1 rfl ?_
    refine z_by hR (fun c0 hR => ?_) (fun c0 hR => ?_)
    · refine z_tin hC 0 60 c0 dX8_left_32 (by decide) (by decide) rfl (by decide) ?_
      refine z_aload_n hC dX8_left_60 rfl 0 rfl ?_
      refine z_get hC iX8_left_X8 rfl 0 4 rfl (by decide) mX8_left_3 rfl rfl dX8_left_61 ?_
      refine z_get hC iX8_left_X3 rfl 5 5 rfl (by decide) mX8_left_4 rfl rfl dX8_left_64 ?_
      refine z_ic0 hC dX8_left_67 ?_
      refine z_iald hC 8 0 rfl rfl dX8_left_68 hR (fun hR => ?_)
      obtain rfl := Option.some.inj hR
      exact z_iret hC hQ rfl rfl rfl dX8_left_69
    · refine z_by hR (fun c1 hR => ?_) (fun c1 hR => ?_)
      · refine z_tin hC 1 70 c1 dX8_left_32 (by decide) (by decide) rfl (by decide) ?_
        refine z_aload_n hC dX8_left_70 rfl 0 rfl ?_
        refine z_get hC iX8_left_X8 rfl 0 4 rfl (by decide) mX8_left_3 rfl rfl dX8_left_71 ?_
        refine z_get hC iX8_left_X3 rfl 5 1 rfl (by decide) mX8_left_5 rfl rfl dX8_left_74 ?_
        refine z_aload_n hC dX8_left_77 rfl 0 rfl ?_
        refine z_get hC iX8_left_X8 rfl 0 3 rfl (by decide) mX8_left_1 rfl rfl dX8_left_78 ?_
        refine z_get hC iX8_left_X3 rfl 1 1 rfl (by decide) mX8_left_5 rfl rfl dX8_left_81 ?_
        refine z_isub hC dX8_left_84 ?_
        obtain rfl := Option.some.inj hR
        exact z_iret hC hQ rfl rfl rfl dX8_left_85
      · refine z_by hR (fun c2 hR => ?_) (fun c2 hR => ?_)
        · refine z_tin hC 2 86 c2 dX8_left_32 (by decide) (by decide) rfl (by decide) ?_
          refine z_aload_n hC dX8_left_86 rfl 0 rfl ?_
          refine z_get hC iX8_left_X8 rfl 0 4 rfl (by decide) mX8_left_3 rfl rfl dX8_left_87 ?_
          refine z_get hC iX8_left_X3 rfl 5 2 rfl (by decide) mX8_left_6 rfl rfl dX8_left_90 ?_
          refine z_aload_n hC dX8_left_93 rfl 0 rfl ?_
          refine z_get hC iX8_left_X8 rfl 0 3 rfl (by decide) mX8_left_1 rfl rfl dX8_left_94 ?_
          refine z_get hC iX8_left_X3 rfl 1 2 rfl (by decide) mX8_left_6 rfl rfl dX8_left_97 ?_
          refine z_isub hC dX8_left_100 ?_
          obtain rfl := Option.some.inj hR
          exact z_iret hC hQ rfl rfl rfl dX8_left_101
        · refine z_tout hC 102 dX8_left_32 (by have h0 := lv_neT c0 (a := 0) rfl; have h1 := lv_neT c1 (a := 1) rfl; have h2 := lv_neT c2 (a := 2) rfl; omega) (by decide) ?_
          refine z_ldc hC (-1000001) mX8_left_7 dX8_left_102 ?_
          obtain rfl := Option.some.inj hR
          exact z_iret hC hQ rfl rfl rfl dX8_left_104
  · refine z_ldc hC (-1000002) mX8_left_2 dX8_left_10 ?_
    obtain rfl := Option.some.inj hR
    exact z_iret hC hQ rfl rfl rfl dX8_left_12
set_option maxHeartbeats 4000000 in
set_option maxRecDepth 100000 in
theorem c_X8_left {sK sV : Nat → Nat} {l : Launch} {D : va_G} {cI cB cZ : ClassId} {N : Nat} {a_t : Nat} {a_t_now : Nat} {a_t_now_kind : Nat} {a_t_now_hand : Nat} {a_t_now_leader : Nat} {a_t_trial : Nat} {a_t_trial_kind : Nat} {a_t_trial_hand : Nat} {a_t_trial_leader : Nat} {a_t_trial_course : Nat} {a_t_rows : Nat} {a_t_tape : Nat} {a_t_reader : Nat} {a_t_acts : Nat} {a_t_ways : Nat} {a_t_asks : Nat} {a_t_images : Nat} {a_t_imageKept : Nat} {a_t_now_course : Nat} {t_latestFault : Int32} {t_latestFinding : Int32} {t_now_players : Int32} {t_now_round : Int32} {t_now_time : Int32} {t_now_kind : (Nat → Int32)} {t_now_hand : (Nat → Int32)} {t_now_leader : (Nat → Int32)} {t_trial_players : Int32} {t_trial_round : Int32} {t_trial_time : Int32} {t_trial_kind : (Nat → Int32)} {t_trial_hand : (Nat → Int32)} {t_trial_leader : (Nat → Int32)} {t_trial_course_first : Int32} {t_trial_course_second : Int32} {t_trial_course_thrown : Int32} {l1 : Int32} : ∀ R : Int32 × Int32 × Int32 × Int32 × (Nat → Int32) × (Nat → Int32) × (Nat → Int32) × Int32 × Int32 × Int32, o_X8_left N t_now_players t_now_round t_now_time t_now_kind t_now_hand t_now_leader t_trial_players t_trial_round t_trial_time t_trial_kind t_trial_hand t_trial_leader t_trial_course_first t_trial_course_second t_trial_course_thrown l1 = some R → ZMi sK sV l yX8_left wsX8_left rmX8_left D (zty cI cB cZ) [.ref a_t, .int l1] [(a_t, .inr (8, [.ref a_t_rows, .ref a_t_tape, .ref a_t_reader, .ref a_t_now, .ref a_t_trial, .ref a_t_acts, .ref a_t_ways, .ref a_t_asks, .ref a_t_images, .ref a_t_imageKept, .int t_latestFault, .int t_latestFinding])), (a_t_now, .inr (3, [.int t_now_players, .int t_now_round, .int t_now_time, .ref a_t_now_kind, .ref a_t_now_hand, .ref a_t_now_leader, .ref a_t_now_course])), (a_t_now_kind, .inl (cI, 8, .inl t_now_kind)), (a_t_now_hand, .inl (cI, 8, .inl t_now_hand)), (a_t_now_leader, .inl (cI, 8, .inl t_now_leader)), (a_t_trial, .inr (3, [.int t_trial_players, .int t_trial_round, .int t_trial_time, .ref a_t_trial_kind, .ref a_t_trial_hand, .ref a_t_trial_leader, .ref a_t_trial_course])), (a_t_trial_kind, .inl (cI, 8, .inl t_trial_kind)), (a_t_trial_hand, .inl (cI, 8, .inl t_trial_hand)), (a_t_trial_leader, .inl (cI, 8, .inl t_trial_leader)), (a_t_trial_course, .inr (2, [.int t_trial_course_first, .int t_trial_course_second, .int t_trial_course_thrown]))] R.1 [(a_t, .inr (8, [.ref a_t_rows, .ref a_t_tape, .ref a_t_reader, .ref a_t_now, .ref a_t_trial, .ref a_t_acts, .ref a_t_ways, .ref a_t_asks, .ref a_t_images, .ref a_t_imageKept, .int t_latestFault, .int t_latestFinding])), (a_t_now, .inr (3, [.int t_now_players, .int t_now_round, .int t_now_time, .ref a_t_now_kind, .ref a_t_now_hand, .ref a_t_now_leader, .ref a_t_now_course])), (a_t_now_kind, .inl (cI, 8, .inl t_now_kind)), (a_t_now_hand, .inl (cI, 8, .inl t_now_hand)), (a_t_now_leader, .inl (cI, 8, .inl t_now_leader)), (a_t_trial, .inr (3, [.int R.2.1, .int R.2.2.1, .int R.2.2.2.1, .ref a_t_trial_kind, .ref a_t_trial_hand, .ref a_t_trial_leader, .ref a_t_trial_course])), (a_t_trial_kind, .inl (cI, 8, .inl R.2.2.2.2.1)), (a_t_trial_hand, .inl (cI, 8, .inl R.2.2.2.2.2.1)), (a_t_trial_leader, .inl (cI, 8, .inl R.2.2.2.2.2.2.1)), (a_t_trial_course, .inr (2, [.int R.2.2.2.2.2.2.2.1, .int R.2.2.2.2.2.2.2.2.1, .int R.2.2.2.2.2.2.2.2.2]))] := by
  intro R hR
  refine zi_of (cc := cX8_left) (maxL := 2) (ret := (some .int)) (by decide) rfl (Nat.le_of_ble_eq_true rfl) (fun E hE1 hE2 hC hN hQ => ?_)
  subst hE1 hE2
  exact z_X8_left_0 hC hN (N := N) (a_t := a_t) (a_t_now := a_t_now) (a_t_now_kind := a_t_now_kind) (a_t_now_hand := a_t_now_hand) (a_t_now_leader := a_t_now_leader) (a_t_trial := a_t_trial) (a_t_trial_kind := a_t_trial_kind) (a_t_trial_hand := a_t_trial_hand) (a_t_trial_leader := a_t_trial_leader) (a_t_trial_course := a_t_trial_course) (a_t_rows := a_t_rows) (a_t_tape := a_t_tape) (a_t_reader := a_t_reader) (a_t_acts := a_t_acts) (a_t_ways := a_t_ways) (a_t_asks := a_t_asks) (a_t_images := a_t_images) (a_t_imageKept := a_t_imageKept) (a_t_now_course := a_t_now_course) (t_latestFault := t_latestFault) (t_latestFinding := t_latestFinding) (t_now_players := t_now_players) (t_now_round := t_now_round) (t_now_time := t_now_time) (t_now_kind := t_now_kind) (t_now_hand := t_now_hand) (t_now_leader := t_now_leader) (t_trial_players := t_trial_players) (t_trial_round := t_trial_round) (t_trial_time := t_trial_time) (t_trial_kind := t_trial_kind) (t_trial_hand := t_trial_hand) (t_trial_leader := t_trial_leader) (t_trial_course_first := t_trial_course_first) (t_trial_course_second := t_trial_course_second) (t_trial_course_thrown := t_trial_course_thrown) (l1 := l1) hQ hR

/-! FistTrains.longest -/
abbrev rmX8_longest : Room := { frames := 5, cells := 0, slots := 0, locals := 120 }
set_option maxRecDepth 20000 in
theorem iX8_longest_X8 : ∀ w ∈ wsX80, w ∈ wsX8_longest := by decide +kernel
set_option maxRecDepth 20000 in
theorem mX8_longest_1 : Cond.fieldLink RX8 35 "FistTrains" "now" "LFistTrains$Hall;" ∈ wsX8_longest := List.mem_of_getElem? (i := 1) rfl
set_option maxRecDepth 20000 in
theorem mX8_longest_3 : Cond.constant RX8 82 (-1000001) ∈ wsX8_longest := List.mem_of_getElem? (i := 3) rfl
set_option maxRecDepth 20000 in
theorem mX8_longest_4 : Cond.fieldLink RX8 39 "FistTrains" "trial" "LFistTrains$Hall;" ∈ wsX8_longest := List.mem_of_getElem? (i := 4) rfl
set_option maxRecDepth 20000 in
theorem mX8_longest_2 : Cond.constant RX8 164 (-1000002) ∈ wsX8_longest := List.mem_of_getElem? (i := 2) rfl
def o_X8_longest_77 (N : Nat) (t_trial_players : Int32) (t_trial_round : Int32) (t_trial_time : Int32) (t_trial_kind : (Nat → Int32)) (t_trial_hand : (Nat → Int32)) (t_trial_leader : (Nat → Int32)) (t_trial_course_first : Int32) (t_trial_course_second : Int32) (t_trial_course_thrown : Int32) (l2 : Int32) : Option (Int32 × Int32 × Int32 × Int32 × (Nat → Int32) × (Nat → Int32) × (Nat → Int32) × Int32 × Int32 × Int32) :=
  Option.bind (o_X3_longestTrain N t_trial_players t_trial_leader) (fun r81 =>
  if l2 = 0 then
    Option.bind (o_X3_trainOf N t_trial_players t_trial_leader r81) (fun r94 =>
    some (r94, t_trial_players, t_trial_round, t_trial_time, t_trial_kind, t_trial_hand, t_trial_leader, t_trial_course_first, t_trial_course_second, t_trial_course_thrown))
  else
    some (r81, t_trial_players, t_trial_round, t_trial_time, t_trial_kind, t_trial_hand, t_trial_leader, t_trial_course_first, t_trial_course_second, t_trial_course_thrown))
def o_X8_longest_48 (N : Nat) (t_trial_players : Int32) (t_trial_kind : (Nat → Int32)) (l1 : Int32) (l2 : Int32) : Nat → Int32 → Int32 → (Nat → Int32) → (Nat → Int32) → Int32 → Int32 → Int32 → Int32 → Option (Int32 × Int32 × Int32 × Int32 × (Nat → Int32) × (Nat → Int32) × (Nat → Int32) × Int32 × Int32 × Int32)
  | 0 => fun _ _ _ _ _ _ _ _ => none
  | n + 1 => fun t_trial_round t_trial_time t_trial_hand t_trial_leader t_trial_course_first t_trial_course_second t_trial_course_thrown l3 => 
    if l1 ≤ l3 then
      o_X8_longest_77 N t_trial_players t_trial_round t_trial_time t_trial_kind t_trial_hand t_trial_leader t_trial_course_first t_trial_course_second t_trial_course_thrown l2
    else
      Option.bind (o_X3_leaders N t_trial_players t_trial_leader) (fun r57 =>
      if r57 ≤ 1 then
        o_X8_longest_77 N t_trial_players t_trial_round t_trial_time t_trial_kind t_trial_hand t_trial_leader t_trial_course_first t_trial_course_second t_trial_course_thrown l2
      else
        Option.bind (o_X3_playRound N t_trial_players t_trial_round t_trial_time t_trial_kind t_trial_hand t_trial_leader t_trial_course_first t_trial_course_second t_trial_course_thrown) (fun r68 =>
        o_X8_longest_48 N t_trial_players t_trial_kind l1 l2 n r68.1 r68.2.1 r68.2.2.1 r68.2.2.2.1 r68.2.2.2.2.1 r68.2.2.2.2.2.1 r68.2.2.2.2.2.2 (l3 + 1)))
def o_X8_longest (N : Nat) (t_now_players : Int32) (t_now_round : Int32) (t_now_time : Int32) (t_now_kind : (Nat → Int32)) (t_now_hand : (Nat → Int32)) (t_now_leader : (Nat → Int32)) (t_trial_players : Int32) (t_trial_round : Int32) (t_trial_time : Int32) (t_trial_kind : (Nat → Int32)) (t_trial_hand : (Nat → Int32)) (t_trial_leader : (Nat → Int32)) (t_trial_course_first : Int32) (t_trial_course_second : Int32) (t_trial_course_thrown : Int32) (l1 : Int32) (l2 : Int32) : Option (Int32 × Int32 × Int32 × Int32 × (Nat → Int32) × (Nat → Int32) × (Nat → Int32) × Int32 × Int32 × Int32) :=
  Option.bind (o_X3_isMissing N t_now_players) (fun r4 =>
  if r4 = 0 then
    if l1 < 0 then
      some ((-1000001), t_trial_players, t_trial_round, t_trial_time, t_trial_kind, t_trial_hand, t_trial_leader, t_trial_course_first, t_trial_course_second, t_trial_course_thrown)
    else
      if 9 < l1 then
        some ((-1000001), t_trial_players, t_trial_round, t_trial_time, t_trial_kind, t_trial_hand, t_trial_leader, t_trial_course_first, t_trial_course_second, t_trial_course_thrown)
      else
        if l2 < 0 then
          some ((-1000001), t_trial_players, t_trial_round, t_trial_time, t_trial_kind, t_trial_hand, t_trial_leader, t_trial_course_first, t_trial_course_second, t_trial_course_thrown)
        else
          if l2 ≤ 1 then
            Option.bind (o_X3_become N t_trial_kind t_trial_hand t_trial_leader t_now_players t_now_round t_now_time t_now_kind t_now_hand t_now_leader) (fun r43 =>
            o_X8_longest_48 N r43.1 r43.2.2.2.1 l1 l2 N r43.2.1 r43.2.2.1 r43.2.2.2.2.1 r43.2.2.2.2.2 t_trial_course_first t_trial_course_second t_trial_course_thrown 0)
          else
            some ((-1000001), t_trial_players, t_trial_round, t_trial_time, t_trial_kind, t_trial_hand, t_trial_leader, t_trial_course_first, t_trial_course_second, t_trial_course_thrown)
  else
    some ((-1000002), t_trial_players, t_trial_round, t_trial_time, t_trial_kind, t_trial_hand, t_trial_leader, t_trial_course_first, t_trial_course_second, t_trial_course_thrown))
set_option maxHeartbeats 4000000 in
set_option maxRecDepth 100000 in
theorem z_X8_longest_77 {sK sV : Nat → Nat} {E : ZE} {cI cB cZ : ClassId} (hC : ZC E 4 cX8_longest wsX8_longest RX8 rmX8_longest (some .int) (zty cI cB cZ)) (hN : ZN sK sV (zA E) (zs E)) {N : Nat} {a_t : Nat} {a_t_now : Nat} {a_t_now_kind : Nat} {a_t_now_hand : Nat} {a_t_now_leader : Nat} {a_t_trial : Nat} {a_t_trial_kind : Nat} {a_t_trial_hand : Nat} {a_t_trial_leader : Nat} {a_t_trial_course : Nat} {a_t_rows : Nat} {a_t_tape : Nat} {a_t_reader : Nat} {a_t_acts : Nat} {a_t_ways : Nat} {a_t_asks : Nat} {a_t_images : Nat} {a_t_imageKept : Nat} {a_t_now_course : Nat} {t_latestFault : Int32} {t_latestFinding : Int32} {t_now_players : Int32} {t_now_round : Int32} {t_now_time : Int32} {t_now_kind : (Nat → Int32)} {t_now_hand : (Nat → Int32)} {t_now_leader : (Nat → Int32)} {t_trial_players : Int32} {t_trial_round : Int32} {t_trial_time : Int32} {t_trial_kind : (Nat → Int32)} {t_trial_hand : (Nat → Int32)} {t_trial_leader : (Nat → Int32)} {t_trial_course_first : Int32} {t_trial_course_second : Int32} {t_trial_course_thrown : Int32} {l2 : Int32} {rf : Int32 × Int32 × Int32 × Int32 × (Nat → Int32) × (Nat → Int32) × (Nat → Int32) × Int32 × Int32 × Int32} (hQ : ZQi E (zty cI cB cZ) rf.1 [(a_t, .inr (8, [.ref a_t_rows, .ref a_t_tape, .ref a_t_reader, .ref a_t_now, .ref a_t_trial, .ref a_t_acts, .ref a_t_ways, .ref a_t_asks, .ref a_t_images, .ref a_t_imageKept, .int t_latestFault, .int t_latestFinding])), (a_t_now, .inr (3, [.int t_now_players, .int t_now_round, .int t_now_time, .ref a_t_now_kind, .ref a_t_now_hand, .ref a_t_now_leader, .ref a_t_now_course])), (a_t_now_kind, .inl (cI, 8, .inl t_now_kind)), (a_t_now_hand, .inl (cI, 8, .inl t_now_hand)), (a_t_now_leader, .inl (cI, 8, .inl t_now_leader)), (a_t_trial, .inr (3, [.int rf.2.1, .int rf.2.2.1, .int rf.2.2.2.1, .ref a_t_trial_kind, .ref a_t_trial_hand, .ref a_t_trial_leader, .ref a_t_trial_course])), (a_t_trial_kind, .inl (cI, 8, .inl rf.2.2.2.2.1)), (a_t_trial_hand, .inl (cI, 8, .inl rf.2.2.2.2.2.1)), (a_t_trial_leader, .inl (cI, 8, .inl rf.2.2.2.2.2.2.1)), (a_t_trial_course, .inr (2, [.int rf.2.2.2.2.2.2.2.1, .int rf.2.2.2.2.2.2.2.2.1, .int rf.2.2.2.2.2.2.2.2.2]))]) (hR : o_X8_longest_77 N t_trial_players t_trial_round t_trial_time t_trial_kind t_trial_hand t_trial_leader t_trial_course_first t_trial_course_second t_trial_course_thrown l2 = some rf) : Z E (0, 0) [(0, .ref a_t), (2, .int l2)] 77 [] [(a_t, .inr (8, [.ref a_t_rows, .ref a_t_tape, .ref a_t_reader, .ref a_t_now, .ref a_t_trial, .ref a_t_acts, .ref a_t_ways, .ref a_t_asks, .ref a_t_images, .ref a_t_imageKept, .int t_latestFault, .int t_latestFinding])), (a_t_now, .inr (3, [.int t_now_players, .int t_now_round, .int t_now_time, .ref a_t_now_kind, .ref a_t_now_hand, .ref a_t_now_leader, .ref a_t_now_course])), (a_t_now_kind, .inl (cI, 8, .inl t_now_kind)), (a_t_now_hand, .inl (cI, 8, .inl t_now_hand)), (a_t_now_leader, .inl (cI, 8, .inl t_now_leader)), (a_t_trial, .inr (3, [.int t_trial_players, .int t_trial_round, .int t_trial_time, .ref a_t_trial_kind, .ref a_t_trial_hand, .ref a_t_trial_leader, .ref a_t_trial_course])), (a_t_trial_kind, .inl (cI, 8, .inl t_trial_kind)), (a_t_trial_hand, .inl (cI, 8, .inl t_trial_hand)), (a_t_trial_leader, .inl (cI, 8, .inl t_trial_leader)), (a_t_trial_course, .inr (2, [.int t_trial_course_first, .int t_trial_course_second, .int t_trial_course_thrown]))] := by
  rw [o_X8_longest_77] at hR
  refine z_aload_n hC dX8_longest_77 rfl 0 rfl ?_
  refine z_get hC iX8_longest_X8 rfl 0 4 rfl (by decide) mX8_longest_4 rfl rfl dX8_longest_78 ?_
  refine z_callVi_p hC hN [] [5, 8] (c_X3_longestTrain (l := zl E) (D := zD E) (cI := cI) (cB := cB) (cZ := cZ) (N := N) (a_t := a_t_trial) (a_t_kind := a_t_trial_kind) (a_t_hand := a_t_trial_hand) (a_t_leader := a_t_trial_leader) (a_t_course := a_t_trial_course) (t_players := t_trial_players) (t_round := t_trial_round) (t_time := t_trial_time) (t_leader := t_trial_leader)) rfl ⟨rfl, rfl⟩ gX8_longest_X3_longestTrain hvX3_longestTrain 5 3 rfl rfl rfl ⟨Nat.le_of_ble_eq_true rfl, Nat.le_of_ble_eq_true rfl⟩ ⟨Nat.zero_le _, Nat.zero_le _⟩ rfl (Nat.le_of_ble_eq_true rfl) rfl (by decide) dX8_longest_81 hR (fun r81 hR => ?_)
  refine z_istore_n hC [(3, .int r81), (0, .ref a_t), (2, .int l2)] dX8_longest_84 rfl (by decide) rfl ?_
  refine z_iload_n hC dX8_longest_85 rfl 2 rfl ?_
  refine z_if_ne hC 100 dX8_longest_86 (by decide) hR (fun hR => ?_) (fun hR => ?_)
  · refine z_iload_n hC dX8_longest_100 rfl 0 rfl ?_
    obtain rfl := Option.some.inj hR
    exact z_iret hC hQ rfl rfl rfl dX8_longest_101
  · refine z_aload_n hC dX8_longest_89 rfl 1 rfl ?_
    refine z_get hC iX8_longest_X8 rfl 0 4 rfl (by decide) mX8_longest_4 rfl rfl dX8_longest_90 ?_
    refine z_iload_n hC dX8_longest_93 rfl 0 rfl ?_
    refine z_callVi_p hC hN [.int r81] [5, 8] (c_X3_trainOf (l := zl E) (D := zD E) (cI := cI) (cB := cB) (cZ := cZ) (N := N) (a_t := a_t_trial) (a_t_kind := a_t_trial_kind) (a_t_hand := a_t_trial_hand) (a_t_leader := a_t_trial_leader) (a_t_course := a_t_trial_course) (l1 := r81) (t_players := t_trial_players) (t_round := t_trial_round) (t_time := t_trial_time) (t_leader := t_trial_leader)) rfl ⟨rfl, rfl⟩ gX8_longest_X3_trainOf hvX3_trainOf 5 3 rfl rfl rfl ⟨Nat.le_of_ble_eq_true rfl, Nat.le_of_ble_eq_true rfl⟩ ⟨Nat.zero_le _, Nat.zero_le _⟩ rfl (Nat.le_of_ble_eq_true rfl) rfl (by decide) dX8_longest_94 hR (fun r94 hR => ?_)
    refine z_goto hC 101 dX8_longest_97 (by decide) ?_
    obtain rfl := Option.some.inj hR
    exact z_iret hC hQ rfl rfl rfl dX8_longest_101
set_option maxHeartbeats 4000000 in
set_option maxRecDepth 100000 in
theorem z_X8_longest_48 {sK sV : Nat → Nat} {E : ZE} {cI cB cZ : ClassId} (hC : ZC E 4 cX8_longest wsX8_longest RX8 rmX8_longest (some .int) (zty cI cB cZ)) (hN : ZN sK sV (zA E) (zs E)) {N : Nat} {a_t : Nat} {a_t_now : Nat} {a_t_now_kind : Nat} {a_t_now_hand : Nat} {a_t_now_leader : Nat} {a_t_trial : Nat} {a_t_trial_kind : Nat} {a_t_trial_hand : Nat} {a_t_trial_leader : Nat} {a_t_trial_course : Nat} {a_t_rows : Nat} {a_t_tape : Nat} {a_t_reader : Nat} {a_t_acts : Nat} {a_t_ways : Nat} {a_t_asks : Nat} {a_t_images : Nat} {a_t_imageKept : Nat} {a_t_now_course : Nat} {t_latestFault : Int32} {t_latestFinding : Int32} {t_now_players : Int32} {t_now_round : Int32} {t_now_time : Int32} {t_now_kind : (Nat → Int32)} {t_now_hand : (Nat → Int32)} {t_now_leader : (Nat → Int32)} {t_trial_players : Int32} {t_trial_kind : (Nat → Int32)} {l1 : Int32} {l2 : Int32} {rf : Int32 × Int32 × Int32 × Int32 × (Nat → Int32) × (Nat → Int32) × (Nat → Int32) × Int32 × Int32 × Int32} (hQ : ZQi E (zty cI cB cZ) rf.1 [(a_t, .inr (8, [.ref a_t_rows, .ref a_t_tape, .ref a_t_reader, .ref a_t_now, .ref a_t_trial, .ref a_t_acts, .ref a_t_ways, .ref a_t_asks, .ref a_t_images, .ref a_t_imageKept, .int t_latestFault, .int t_latestFinding])), (a_t_now, .inr (3, [.int t_now_players, .int t_now_round, .int t_now_time, .ref a_t_now_kind, .ref a_t_now_hand, .ref a_t_now_leader, .ref a_t_now_course])), (a_t_now_kind, .inl (cI, 8, .inl t_now_kind)), (a_t_now_hand, .inl (cI, 8, .inl t_now_hand)), (a_t_now_leader, .inl (cI, 8, .inl t_now_leader)), (a_t_trial, .inr (3, [.int rf.2.1, .int rf.2.2.1, .int rf.2.2.2.1, .ref a_t_trial_kind, .ref a_t_trial_hand, .ref a_t_trial_leader, .ref a_t_trial_course])), (a_t_trial_kind, .inl (cI, 8, .inl rf.2.2.2.2.1)), (a_t_trial_hand, .inl (cI, 8, .inl rf.2.2.2.2.2.1)), (a_t_trial_leader, .inl (cI, 8, .inl rf.2.2.2.2.2.2.1)), (a_t_trial_course, .inr (2, [.int rf.2.2.2.2.2.2.2.1, .int rf.2.2.2.2.2.2.2.2.1, .int rf.2.2.2.2.2.2.2.2.2]))]) : ∀ (n : Nat) (t_trial_round : Int32) (t_trial_time : Int32) (t_trial_hand : (Nat → Int32)) (t_trial_leader : (Nat → Int32)) (t_trial_course_first : Int32) (t_trial_course_second : Int32) (t_trial_course_thrown : Int32) (l3 : Int32), o_X8_longest_48 N t_trial_players t_trial_kind l1 l2 n t_trial_round t_trial_time t_trial_hand t_trial_leader t_trial_course_first t_trial_course_second t_trial_course_thrown l3 = some rf → Z E (0, 0) [(0, .ref a_t), (1, .int l1), (2, .int l2), (3, .int l3)] 48 [] [(a_t, .inr (8, [.ref a_t_rows, .ref a_t_tape, .ref a_t_reader, .ref a_t_now, .ref a_t_trial, .ref a_t_acts, .ref a_t_ways, .ref a_t_asks, .ref a_t_images, .ref a_t_imageKept, .int t_latestFault, .int t_latestFinding])), (a_t_now, .inr (3, [.int t_now_players, .int t_now_round, .int t_now_time, .ref a_t_now_kind, .ref a_t_now_hand, .ref a_t_now_leader, .ref a_t_now_course])), (a_t_now_kind, .inl (cI, 8, .inl t_now_kind)), (a_t_now_hand, .inl (cI, 8, .inl t_now_hand)), (a_t_now_leader, .inl (cI, 8, .inl t_now_leader)), (a_t_trial, .inr (3, [.int t_trial_players, .int t_trial_round, .int t_trial_time, .ref a_t_trial_kind, .ref a_t_trial_hand, .ref a_t_trial_leader, .ref a_t_trial_course])), (a_t_trial_kind, .inl (cI, 8, .inl t_trial_kind)), (a_t_trial_hand, .inl (cI, 8, .inl t_trial_hand)), (a_t_trial_leader, .inl (cI, 8, .inl t_trial_leader)), (a_t_trial_course, .inr (2, [.int t_trial_course_first, .int t_trial_course_second, .int t_trial_course_thrown]))] := by
  intro n
  induction n with
  | zero =>
    intro t_trial_round t_trial_time t_trial_hand t_trial_leader t_trial_course_first t_trial_course_second t_trial_course_thrown l3 hR
    cases hR
  | succ n ih =>
    intro t_trial_round t_trial_time t_trial_hand t_trial_leader t_trial_course_first t_trial_course_second t_trial_course_thrown l3 hR
    rw [o_X8_longest_48] at hR
    refine z_iload_n hC dX8_longest_48 rfl 3 rfl ?_
    refine z_iload_n hC dX8_longest_49 rfl 1 rfl ?_
    refine z_icmp_ge hC 77 dX8_longest_50 (by decide) hR (fun hR => ?_) (fun hR => ?_)
    · refine z_sub (lv' := [(0, .ref a_t), (2, .int l2)]) [0, 2] rfl ?_
      exact z_X8_longest_77 hC hN (N := N) (a_t := a_t) (a_t_now := a_t_now) (a_t_now_kind := a_t_now_kind) (a_t_now_hand := a_t_now_hand) (a_t_now_leader := a_t_now_leader) (a_t_trial := a_t_trial) (a_t_trial_kind := a_t_trial_kind) (a_t_trial_hand := a_t_trial_hand) (a_t_trial_leader := a_t_trial_leader) (a_t_trial_course := a_t_trial_course) (a_t_rows := a_t_rows) (a_t_tape := a_t_tape) (a_t_reader := a_t_reader) (a_t_acts := a_t_acts) (a_t_ways := a_t_ways) (a_t_asks := a_t_asks) (a_t_images := a_t_images) (a_t_imageKept := a_t_imageKept) (a_t_now_course := a_t_now_course) (t_latestFault := t_latestFault) (t_latestFinding := t_latestFinding) (t_now_players := t_now_players) (t_now_round := t_now_round) (t_now_time := t_now_time) (t_now_kind := t_now_kind) (t_now_hand := t_now_hand) (t_now_leader := t_now_leader) (t_trial_players := t_trial_players) (t_trial_round := t_trial_round) (t_trial_time := t_trial_time) (t_trial_kind := t_trial_kind) (t_trial_hand := t_trial_hand) (t_trial_leader := t_trial_leader) (t_trial_course_first := t_trial_course_first) (t_trial_course_second := t_trial_course_second) (t_trial_course_thrown := t_trial_course_thrown) (l2 := l2) hQ  hR
    · refine z_aload_n hC dX8_longest_53 rfl 0 rfl ?_
      refine z_get hC iX8_longest_X8 rfl 0 4 rfl (by decide) mX8_longest_4 rfl rfl dX8_longest_54 ?_
      refine z_callVi_p hC hN [] [5, 8] (c_X3_leaders (l := zl E) (D := zD E) (cI := cI) (cB := cB) (cZ := cZ) (N := N) (a_t := a_t_trial) (a_t_kind := a_t_trial_kind) (a_t_hand := a_t_trial_hand) (a_t_leader := a_t_trial_leader) (a_t_course := a_t_trial_course) (t_players := t_trial_players) (t_round := t_trial_round) (t_time := t_trial_time) (t_leader := t_trial_leader)) rfl ⟨rfl, rfl⟩ gX8_longest_X3_leaders hvX3_leaders 5 3 rfl rfl rfl ⟨Nat.le_of_ble_eq_true rfl, Nat.le_of_ble_eq_true rfl⟩ ⟨Nat.zero_le _, Nat.zero_le _⟩ rfl (Nat.le_of_ble_eq_true rfl) rfl (by decide) dX8_longest_57 hR (fun r57 hR => ?_)
      refine z_ic1 hC dX8_longest_60 ?_
      refine z_icmp_le hC 77 dX8_longest_61 (by decide) hR (fun hR => ?_) (fun hR => ?_)
      · refine z_sub (lv' := [(0, .ref a_t), (2, .int l2)]) [0, 2] rfl ?_
        exact z_X8_longest_77 hC hN (N := N) (a_t := a_t) (a_t_now := a_t_now) (a_t_now_kind := a_t_now_kind) (a_t_now_hand := a_t_now_hand) (a_t_now_leader := a_t_now_leader) (a_t_trial := a_t_trial) (a_t_trial_kind := a_t_trial_kind) (a_t_trial_hand := a_t_trial_hand) (a_t_trial_leader := a_t_trial_leader) (a_t_trial_course := a_t_trial_course) (a_t_rows := a_t_rows) (a_t_tape := a_t_tape) (a_t_reader := a_t_reader) (a_t_acts := a_t_acts) (a_t_ways := a_t_ways) (a_t_asks := a_t_asks) (a_t_images := a_t_images) (a_t_imageKept := a_t_imageKept) (a_t_now_course := a_t_now_course) (t_latestFault := t_latestFault) (t_latestFinding := t_latestFinding) (t_now_players := t_now_players) (t_now_round := t_now_round) (t_now_time := t_now_time) (t_now_kind := t_now_kind) (t_now_hand := t_now_hand) (t_now_leader := t_now_leader) (t_trial_players := t_trial_players) (t_trial_round := t_trial_round) (t_trial_time := t_trial_time) (t_trial_kind := t_trial_kind) (t_trial_hand := t_trial_hand) (t_trial_leader := t_trial_leader) (t_trial_course_first := t_trial_course_first) (t_trial_course_second := t_trial_course_second) (t_trial_course_thrown := t_trial_course_thrown) (l2 := l2) hQ  hR
      · refine z_aload_n hC dX8_longest_64 rfl 0 rfl ?_
        refine z_get hC iX8_longest_X8 rfl 0 4 rfl (by decide) mX8_longest_4 rfl rfl dX8_longest_65 ?_
        refine z_callVv hC hN [] [5, 6, 7, 8, 9] (c_X3_playRound (l := zl E) (D := zD E) (cI := cI) (cB := cB) (cZ := cZ) (N := N) (a_t := a_t_trial) (a_t_kind := a_t_trial_kind) (a_t_hand := a_t_trial_hand) (a_t_leader := a_t_trial_leader) (a_t_course := a_t_trial_course) (t_players := t_trial_players) (t_round := t_trial_round) (t_time := t_trial_time) (t_kind := t_trial_kind) (t_hand := t_trial_hand) (t_leader := t_trial_leader) (t_course_first := t_trial_course_first) (t_course_second := t_trial_course_second) (t_course_thrown := t_trial_course_thrown)) rfl ⟨rfl, rfl⟩ gX8_longest_X3_playRound hvX3_playRound 5 3 rfl rfl rfl ⟨Nat.le_of_ble_eq_true rfl, Nat.le_of_ble_eq_true rfl⟩ ⟨Nat.zero_le _, Nat.zero_le _⟩ rfl (Nat.le_of_ble_eq_true rfl) rfl (by decide) (fun _ => rfl) dX8_longest_68 hR (fun r68 hR => ?_)
        refine z_eq [(a_t, .inr (8, [.ref a_t_rows, .ref a_t_tape, .ref a_t_reader, .ref a_t_now, .ref a_t_trial, .ref a_t_acts, .ref a_t_ways, .ref a_t_asks, .ref a_t_images, .ref a_t_imageKept, .int t_latestFault, .int t_latestFinding])), (a_t_now, .inr (3, [.int t_now_players, .int t_now_round, .int t_now_time, .ref a_t_now_kind, .ref a_t_now_hand, .ref a_t_now_leader, .ref a_t_now_course])), (a_t_now_kind, .inl (cI, 8, .inl t_now_kind)), (a_t_now_hand, .inl (cI, 8, .inl t_now_hand)), (a_t_now_leader, .inl (cI, 8, .inl t_now_leader)), (a_t_trial, .inr (3, [.int t_trial_players, .int r68.1, .int r68.2.1, .ref a_t_trial_kind, .ref a_t_trial_hand, .ref a_t_trial_leader, .ref a_t_trial_course])), (a_t_trial_kind, .inl (cI, 8, .inl t_trial_kind)), (a_t_trial_hand, .inl (cI, 8, .inl r68.2.2.1)), (a_t_trial_leader, .inl (cI, 8, .inl r68.2.2.2.1)), (a_t_trial_course, .inr (2, [.int r68.2.2.2.2.1, .int r68.2.2.2.2.2.1, .int r68.2.2.2.2.2.2]))] rfl ?_
        refine z_iinc1 hC [(3, .int (l3 + 1)), (0, .ref a_t), (1, .int l1), (2, .int l2)] dX8_longest_71 3 rfl (by decide) rfl ?_
        refine z_goto hC 48 dX8_longest_74 (by decide) ?_
        refine z_sub (lv' := [(0, .ref a_t), (1, .int l1), (2, .int l2), (3, .int (l3 + 1))]) [1, 2, 3, 0] rfl ?_
        exact ih r68.1 r68.2.1 r68.2.2.1 r68.2.2.2.1 r68.2.2.2.2.1 r68.2.2.2.2.2.1 r68.2.2.2.2.2.2 (l3 + 1) hR
set_option maxHeartbeats 4000000 in
set_option maxRecDepth 100000 in
theorem z_X8_longest_0 {sK sV : Nat → Nat} {E : ZE} {cI cB cZ : ClassId} (hC : ZC E 4 cX8_longest wsX8_longest RX8 rmX8_longest (some .int) (zty cI cB cZ)) (hN : ZN sK sV (zA E) (zs E)) {N : Nat} {a_t : Nat} {a_t_now : Nat} {a_t_now_kind : Nat} {a_t_now_hand : Nat} {a_t_now_leader : Nat} {a_t_trial : Nat} {a_t_trial_kind : Nat} {a_t_trial_hand : Nat} {a_t_trial_leader : Nat} {a_t_trial_course : Nat} {a_t_rows : Nat} {a_t_tape : Nat} {a_t_reader : Nat} {a_t_acts : Nat} {a_t_ways : Nat} {a_t_asks : Nat} {a_t_images : Nat} {a_t_imageKept : Nat} {a_t_now_course : Nat} {t_latestFault : Int32} {t_latestFinding : Int32} {t_now_players : Int32} {t_now_round : Int32} {t_now_time : Int32} {t_now_kind : (Nat → Int32)} {t_now_hand : (Nat → Int32)} {t_now_leader : (Nat → Int32)} {t_trial_players : Int32} {t_trial_round : Int32} {t_trial_time : Int32} {t_trial_kind : (Nat → Int32)} {t_trial_hand : (Nat → Int32)} {t_trial_leader : (Nat → Int32)} {t_trial_course_first : Int32} {t_trial_course_second : Int32} {t_trial_course_thrown : Int32} {l1 : Int32} {l2 : Int32} {rf : Int32 × Int32 × Int32 × Int32 × (Nat → Int32) × (Nat → Int32) × (Nat → Int32) × Int32 × Int32 × Int32} (hQ : ZQi E (zty cI cB cZ) rf.1 [(a_t, .inr (8, [.ref a_t_rows, .ref a_t_tape, .ref a_t_reader, .ref a_t_now, .ref a_t_trial, .ref a_t_acts, .ref a_t_ways, .ref a_t_asks, .ref a_t_images, .ref a_t_imageKept, .int t_latestFault, .int t_latestFinding])), (a_t_now, .inr (3, [.int t_now_players, .int t_now_round, .int t_now_time, .ref a_t_now_kind, .ref a_t_now_hand, .ref a_t_now_leader, .ref a_t_now_course])), (a_t_now_kind, .inl (cI, 8, .inl t_now_kind)), (a_t_now_hand, .inl (cI, 8, .inl t_now_hand)), (a_t_now_leader, .inl (cI, 8, .inl t_now_leader)), (a_t_trial, .inr (3, [.int rf.2.1, .int rf.2.2.1, .int rf.2.2.2.1, .ref a_t_trial_kind, .ref a_t_trial_hand, .ref a_t_trial_leader, .ref a_t_trial_course])), (a_t_trial_kind, .inl (cI, 8, .inl rf.2.2.2.2.1)), (a_t_trial_hand, .inl (cI, 8, .inl rf.2.2.2.2.2.1)), (a_t_trial_leader, .inl (cI, 8, .inl rf.2.2.2.2.2.2.1)), (a_t_trial_course, .inr (2, [.int rf.2.2.2.2.2.2.2.1, .int rf.2.2.2.2.2.2.2.2.1, .int rf.2.2.2.2.2.2.2.2.2]))]) (hR : o_X8_longest N t_now_players t_now_round t_now_time t_now_kind t_now_hand t_now_leader t_trial_players t_trial_round t_trial_time t_trial_kind t_trial_hand t_trial_leader t_trial_course_first t_trial_course_second t_trial_course_thrown l1 l2 = some rf) : Z E (0, 0) [(0, .ref a_t), (1, .int l1), (2, .int l2)] 0 [] [(a_t, .inr (8, [.ref a_t_rows, .ref a_t_tape, .ref a_t_reader, .ref a_t_now, .ref a_t_trial, .ref a_t_acts, .ref a_t_ways, .ref a_t_asks, .ref a_t_images, .ref a_t_imageKept, .int t_latestFault, .int t_latestFinding])), (a_t_now, .inr (3, [.int t_now_players, .int t_now_round, .int t_now_time, .ref a_t_now_kind, .ref a_t_now_hand, .ref a_t_now_leader, .ref a_t_now_course])), (a_t_now_kind, .inl (cI, 8, .inl t_now_kind)), (a_t_now_hand, .inl (cI, 8, .inl t_now_hand)), (a_t_now_leader, .inl (cI, 8, .inl t_now_leader)), (a_t_trial, .inr (3, [.int t_trial_players, .int t_trial_round, .int t_trial_time, .ref a_t_trial_kind, .ref a_t_trial_hand, .ref a_t_trial_leader, .ref a_t_trial_course])), (a_t_trial_kind, .inl (cI, 8, .inl t_trial_kind)), (a_t_trial_hand, .inl (cI, 8, .inl t_trial_hand)), (a_t_trial_leader, .inl (cI, 8, .inl t_trial_leader)), (a_t_trial_course, .inr (2, [.int t_trial_course_first, .int t_trial_course_second, .int t_trial_course_thrown]))] := by
  rw [o_X8_longest] at hR
  refine z_aload_n hC dX8_longest_0 rfl 0 rfl ?_
  refine z_get hC iX8_longest_X8 rfl 0 3 rfl (by decide) mX8_longest_1 rfl rfl dX8_longest_1 ?_
  refine z_callVi_p hC hN [] [1] (c_X3_isMissing (l := zl E) (D := zD E) (cI := cI) (cB := cB) (cZ := cZ) (N := N) (a_t := a_t_now) (a_t_kind := a_t_now_kind) (a_t_hand := a_t_now_hand) (a_t_leader := a_t_now_leader) (a_t_course := a_t_now_course) (t_players := t_now_players) (t_round := t_now_round) (t_time := t_now_time)) rfl ⟨rfl, rfl⟩ gX8_longest_X3_isMissing hvX3_isMissing 1 3 rfl rfl rfl ⟨Nat.le_of_ble_eq_true rfl, Nat.le_of_ble_eq_true rfl⟩ ⟨Nat.zero_le _, Nat.zero_le _⟩ rfl (Nat.le_of_ble_eq_true rfl) rfl (by decide) dX8_longest_4 hR (fun r4 hR => ?_)
  refine z_if_eq hC 13 dX8_longest_7 (by decide) hR (fun hR => ?_) (fun hR => ?_)
  · refine z_iload_n hC dX8_longest_13 rfl 1 rfl ?_
    refine z_if_lt hC 32 dX8_longest_14 (by decide) hR (fun hR => ?_) (fun hR => ?_)
    · refine z_ldc hC (-1000001) mX8_longest_3 dX8_longest_32 ?_
      obtain rfl := Option.some.inj hR
      exact z_iret hC hQ rfl rfl rfl dX8_longest_34
    · refine z_iload_n hC dX8_longest_17 rfl 1 rfl ?_
      refine z_bipush (v := 9) hC dX8_longest_18 (by decide) ?_
      refine z_icmp_gt hC 32 dX8_longest_20 (by decide) hR (fun hR => ?_) (fun hR => ?_)
      · refine z_ldc hC (-1000001) mX8_longest_3 dX8_longest_32 ?_
        obtain rfl := Option.some.inj hR
        exact z_iret hC hQ rfl rfl rfl dX8_longest_34
      · refine z_iload_n hC dX8_longest_23 rfl 2 rfl ?_
        refine z_if_lt hC 32 dX8_longest_24 (by decide) hR (fun hR => ?_) (fun hR => ?_)
        · refine z_ldc hC (-1000001) mX8_longest_3 dX8_longest_32 ?_
          obtain rfl := Option.some.inj hR
          exact z_iret hC hQ rfl rfl rfl dX8_longest_34
        · refine z_iload_n hC dX8_longest_27 rfl 2 rfl ?_
          refine z_ic1 hC dX8_longest_28 ?_
          refine z_icmp_le hC 35 dX8_longest_29 (by decide) hR (fun hR => ?_) (fun hR => ?_)
          · refine z_aload_n hC dX8_longest_35 rfl 0 rfl ?_
            refine z_get hC iX8_longest_X8 rfl 0 4 rfl (by decide) mX8_longest_4 rfl rfl dX8_longest_36 ?_
            refine z_aload_n hC dX8_longest_39 rfl 0 rfl ?_
            refine z_get hC iX8_longest_X8 rfl 0 3 rfl (by decide) mX8_longest_1 rfl rfl dX8_longest_40 ?_
            refine z_callVv hC hN [.ref a_t_now] [5, 6, 7, 8, 1, 2, 3, 4] (c_X3_become (l := zl E) (D := zD E) (cI := cI) (cB := cB) (cZ := cZ) (N := N) (a_t := a_t_trial) (a_t_kind := a_t_trial_kind) (a_t_hand := a_t_trial_hand) (a_t_leader := a_t_trial_leader) (a_t_course := a_t_trial_course) (a_p1 := a_t_now) (a_p1_kind := a_t_now_kind) (a_p1_hand := a_t_now_hand) (a_p1_leader := a_t_now_leader) (a_p1_course := a_t_now_course) (t_players := t_trial_players) (t_round := t_trial_round) (t_time := t_trial_time) (t_kind := t_trial_kind) (t_hand := t_trial_hand) (t_leader := t_trial_leader) (p1_players := t_now_players) (p1_round := t_now_round) (p1_time := t_now_time) (p1_kind := t_now_kind) (p1_hand := t_now_hand) (p1_leader := t_now_leader)) rfl ⟨rfl, rfl⟩ gX8_longest_X3_become hvX3_become 5 3 rfl rfl rfl ⟨Nat.le_of_ble_eq_true rfl, Nat.le_of_ble_eq_true rfl⟩ ⟨Nat.zero_le _, Nat.zero_le _⟩ rfl (Nat.le_of_ble_eq_true rfl) rfl (by decide) (fun _ => rfl) dX8_longest_43 hR (fun r43 hR => ?_)
            refine z_eq [(a_t, .inr (8, [.ref a_t_rows, .ref a_t_tape, .ref a_t_reader, .ref a_t_now, .ref a_t_trial, .ref a_t_acts, .ref a_t_ways, .ref a_t_asks, .ref a_t_images, .ref a_t_imageKept, .int t_latestFault, .int t_latestFinding])), (a_t_now, .inr (3, [.int t_now_players, .int t_now_round, .int t_now_time, .ref a_t_now_kind, .ref a_t_now_hand, .ref a_t_now_leader, .ref a_t_now_course])), (a_t_now_kind, .inl (cI, 8, .inl t_now_kind)), (a_t_now_hand, .inl (cI, 8, .inl t_now_hand)), (a_t_now_leader, .inl (cI, 8, .inl t_now_leader)), (a_t_trial, .inr (3, [.int r43.1, .int r43.2.1, .int r43.2.2.1, .ref a_t_trial_kind, .ref a_t_trial_hand, .ref a_t_trial_leader, .ref a_t_trial_course])), (a_t_trial_kind, .inl (cI, 8, .inl r43.2.2.2.1)), (a_t_trial_hand, .inl (cI, 8, .inl r43.2.2.2.2.1)), (a_t_trial_leader, .inl (cI, 8, .inl r43.2.2.2.2.2)), (a_t_trial_course, .inr (2, [.int t_trial_course_first, .int t_trial_course_second, .int t_trial_course_thrown]))] rfl ?_
            refine z_ic0 hC dX8_longest_46 ?_
            refine z_istore_n hC [(3, .int 0), (0, .ref a_t), (1, .int l1), (2, .int l2)] dX8_longest_47 rfl (by decide) rfl ?_
            refine z_sub (lv' := [(0, .ref a_t), (1, .int l1), (2, .int l2), (3, .int 0)]) [1, 2, 3, 0] rfl ?_
            exact z_X8_longest_48 hC hN (N := N) (a_t := a_t) (a_t_now := a_t_now) (a_t_now_kind := a_t_now_kind) (a_t_now_hand := a_t_now_hand) (a_t_now_leader := a_t_now_leader) (a_t_trial := a_t_trial) (a_t_trial_kind := a_t_trial_kind) (a_t_trial_hand := a_t_trial_hand) (a_t_trial_leader := a_t_trial_leader) (a_t_trial_course := a_t_trial_course) (a_t_rows := a_t_rows) (a_t_tape := a_t_tape) (a_t_reader := a_t_reader) (a_t_acts := a_t_acts) (a_t_ways := a_t_ways) (a_t_asks := a_t_asks) (a_t_images := a_t_images) (a_t_imageKept := a_t_imageKept) (a_t_now_course := a_t_now_course) (t_latestFault := t_latestFault) (t_latestFinding := t_latestFinding) (t_now_players := t_now_players) (t_now_round := t_now_round) (t_now_time := t_now_time) (t_now_kind := t_now_kind) (t_now_hand := t_now_hand) (t_now_leader := t_now_leader) (t_trial_players := r43.1) (t_trial_kind := r43.2.2.2.1) (l1 := l1) (l2 := l2) hQ  N r43.2.1 r43.2.2.1 r43.2.2.2.2.1 r43.2.2.2.2.2 t_trial_course_first t_trial_course_second t_trial_course_thrown 0 hR
          · refine z_ldc hC (-1000001) mX8_longest_3 dX8_longest_32 ?_
            obtain rfl := Option.some.inj hR
            exact z_iret hC hQ rfl rfl rfl dX8_longest_34
  · refine z_ldc hC (-1000002) mX8_longest_2 dX8_longest_10 ?_
    obtain rfl := Option.some.inj hR
    exact z_iret hC hQ rfl rfl rfl dX8_longest_12
set_option maxHeartbeats 4000000 in
set_option maxRecDepth 100000 in
theorem c_X8_longest {sK sV : Nat → Nat} {l : Launch} {D : va_G} {cI cB cZ : ClassId} {N : Nat} {a_t : Nat} {a_t_now : Nat} {a_t_now_kind : Nat} {a_t_now_hand : Nat} {a_t_now_leader : Nat} {a_t_trial : Nat} {a_t_trial_kind : Nat} {a_t_trial_hand : Nat} {a_t_trial_leader : Nat} {a_t_trial_course : Nat} {a_t_rows : Nat} {a_t_tape : Nat} {a_t_reader : Nat} {a_t_acts : Nat} {a_t_ways : Nat} {a_t_asks : Nat} {a_t_images : Nat} {a_t_imageKept : Nat} {a_t_now_course : Nat} {t_latestFault : Int32} {t_latestFinding : Int32} {t_now_players : Int32} {t_now_round : Int32} {t_now_time : Int32} {t_now_kind : (Nat → Int32)} {t_now_hand : (Nat → Int32)} {t_now_leader : (Nat → Int32)} {t_trial_players : Int32} {t_trial_round : Int32} {t_trial_time : Int32} {t_trial_kind : (Nat → Int32)} {t_trial_hand : (Nat → Int32)} {t_trial_leader : (Nat → Int32)} {t_trial_course_first : Int32} {t_trial_course_second : Int32} {t_trial_course_thrown : Int32} {l1 : Int32} {l2 : Int32} : ∀ R : Int32 × Int32 × Int32 × Int32 × (Nat → Int32) × (Nat → Int32) × (Nat → Int32) × Int32 × Int32 × Int32, o_X8_longest N t_now_players t_now_round t_now_time t_now_kind t_now_hand t_now_leader t_trial_players t_trial_round t_trial_time t_trial_kind t_trial_hand t_trial_leader t_trial_course_first t_trial_course_second t_trial_course_thrown l1 l2 = some R → ZMi sK sV l yX8_longest wsX8_longest rmX8_longest D (zty cI cB cZ) [.ref a_t, .int l1, .int l2] [(a_t, .inr (8, [.ref a_t_rows, .ref a_t_tape, .ref a_t_reader, .ref a_t_now, .ref a_t_trial, .ref a_t_acts, .ref a_t_ways, .ref a_t_asks, .ref a_t_images, .ref a_t_imageKept, .int t_latestFault, .int t_latestFinding])), (a_t_now, .inr (3, [.int t_now_players, .int t_now_round, .int t_now_time, .ref a_t_now_kind, .ref a_t_now_hand, .ref a_t_now_leader, .ref a_t_now_course])), (a_t_now_kind, .inl (cI, 8, .inl t_now_kind)), (a_t_now_hand, .inl (cI, 8, .inl t_now_hand)), (a_t_now_leader, .inl (cI, 8, .inl t_now_leader)), (a_t_trial, .inr (3, [.int t_trial_players, .int t_trial_round, .int t_trial_time, .ref a_t_trial_kind, .ref a_t_trial_hand, .ref a_t_trial_leader, .ref a_t_trial_course])), (a_t_trial_kind, .inl (cI, 8, .inl t_trial_kind)), (a_t_trial_hand, .inl (cI, 8, .inl t_trial_hand)), (a_t_trial_leader, .inl (cI, 8, .inl t_trial_leader)), (a_t_trial_course, .inr (2, [.int t_trial_course_first, .int t_trial_course_second, .int t_trial_course_thrown]))] R.1 [(a_t, .inr (8, [.ref a_t_rows, .ref a_t_tape, .ref a_t_reader, .ref a_t_now, .ref a_t_trial, .ref a_t_acts, .ref a_t_ways, .ref a_t_asks, .ref a_t_images, .ref a_t_imageKept, .int t_latestFault, .int t_latestFinding])), (a_t_now, .inr (3, [.int t_now_players, .int t_now_round, .int t_now_time, .ref a_t_now_kind, .ref a_t_now_hand, .ref a_t_now_leader, .ref a_t_now_course])), (a_t_now_kind, .inl (cI, 8, .inl t_now_kind)), (a_t_now_hand, .inl (cI, 8, .inl t_now_hand)), (a_t_now_leader, .inl (cI, 8, .inl t_now_leader)), (a_t_trial, .inr (3, [.int R.2.1, .int R.2.2.1, .int R.2.2.2.1, .ref a_t_trial_kind, .ref a_t_trial_hand, .ref a_t_trial_leader, .ref a_t_trial_course])), (a_t_trial_kind, .inl (cI, 8, .inl R.2.2.2.2.1)), (a_t_trial_hand, .inl (cI, 8, .inl R.2.2.2.2.2.1)), (a_t_trial_leader, .inl (cI, 8, .inl R.2.2.2.2.2.2.1)), (a_t_trial_course, .inr (2, [.int R.2.2.2.2.2.2.2.1, .int R.2.2.2.2.2.2.2.2.1, .int R.2.2.2.2.2.2.2.2.2]))] := by
  intro R hR
  refine zi_of (cc := cX8_longest) (maxL := 4) (ret := (some .int)) (by decide) rfl (Nat.le_of_ble_eq_true rfl) (fun E hE1 hE2 hC hN hQ => ?_)
  subst hE1 hE2
  exact z_X8_longest_0 hC hN (N := N) (a_t := a_t) (a_t_now := a_t_now) (a_t_now_kind := a_t_now_kind) (a_t_now_hand := a_t_now_hand) (a_t_now_leader := a_t_now_leader) (a_t_trial := a_t_trial) (a_t_trial_kind := a_t_trial_kind) (a_t_trial_hand := a_t_trial_hand) (a_t_trial_leader := a_t_trial_leader) (a_t_trial_course := a_t_trial_course) (a_t_rows := a_t_rows) (a_t_tape := a_t_tape) (a_t_reader := a_t_reader) (a_t_acts := a_t_acts) (a_t_ways := a_t_ways) (a_t_asks := a_t_asks) (a_t_images := a_t_images) (a_t_imageKept := a_t_imageKept) (a_t_now_course := a_t_now_course) (t_latestFault := t_latestFault) (t_latestFinding := t_latestFinding) (t_now_players := t_now_players) (t_now_round := t_now_round) (t_now_time := t_now_time) (t_now_kind := t_now_kind) (t_now_hand := t_now_hand) (t_now_leader := t_now_leader) (t_trial_players := t_trial_players) (t_trial_round := t_trial_round) (t_trial_time := t_trial_time) (t_trial_kind := t_trial_kind) (t_trial_hand := t_trial_hand) (t_trial_leader := t_trial_leader) (t_trial_course_first := t_trial_course_first) (t_trial_course_second := t_trial_course_second) (t_trial_course_thrown := t_trial_course_thrown) (l1 := l1) (l2 := l2) hQ hR

/-! FistTrains.tryHand -/
abbrev rmX8_tryHand : Room := { frames := 1, cells := 0, slots := 0, locals := 22 }
set_option maxRecDepth 20000 in
theorem iX8_tryHand_X8 : ∀ w ∈ wsX80, w ∈ wsX8_tryHand := by decide +kernel
set_option maxRecDepth 20000 in
theorem mX8_tryHand_1 : Cond.fieldLink RX8 39 "FistTrains" "trial" "LFistTrains$Hall;" ∈ wsX8_tryHand := List.mem_of_getElem? (i := 1) rfl
set_option maxRecDepth 20000 in
theorem mX8_tryHand_2 : Cond.fieldLink RX8 35 "FistTrains" "now" "LFistTrains$Hall;" ∈ wsX8_tryHand := List.mem_of_getElem? (i := 2) rfl
set_option maxRecDepth 20000 in
theorem iX8_tryHand_X3 : ∀ w ∈ wsX30, w ∈ wsX8_tryHand := by decide +kernel
set_option maxRecDepth 20000 in
theorem mX8_tryHand_3 : Cond.fieldLink RX8 196 "FistTrains$Hall" "hand" "[I" ∈ wsX8_tryHand := List.mem_of_getElem? (i := 3) rfl
def o_X8_tryHand (N : Nat) (t_now_players : Int32) (t_now_round : Int32) (t_now_time : Int32) (t_now_kind : (Nat → Int32)) (t_now_hand : (Nat → Int32)) (t_now_leader : (Nat → Int32)) (t_trial_kind : (Nat → Int32)) (t_trial_hand : (Nat → Int32)) (t_trial_leader : (Nat → Int32)) (l1 : Int32) (l2 : Int32) : Option (Int32 × Int32 × Int32 × (Nat → Int32) × (Nat → Int32) × (Nat → Int32)) :=
  Option.bind (o_X3_become N t_trial_kind t_trial_hand t_trial_leader t_now_players t_now_round t_now_time t_now_kind t_now_hand t_now_leader) (fun r8 =>
  ogd (inb l1 8) (
  some (r8.1, r8.2.1, r8.2.2.1, r8.2.2.2.1, (upd r8.2.2.2.2.1 (Int32.toNatClampNeg l1) l2), r8.2.2.2.2.2)))
set_option maxHeartbeats 4000000 in
set_option maxRecDepth 100000 in
theorem z_X8_tryHand_0 {sK sV : Nat → Nat} {E : ZE} {cI cB cZ : ClassId} (hC : ZC E 3 cX8_tryHand wsX8_tryHand RX8 rmX8_tryHand none (zty cI cB cZ)) (hN : ZN sK sV (zA E) (zs E)) {N : Nat} {a_t : Nat} {a_t_now : Nat} {a_t_now_kind : Nat} {a_t_now_hand : Nat} {a_t_now_leader : Nat} {a_t_trial : Nat} {a_t_trial_kind : Nat} {a_t_trial_hand : Nat} {a_t_trial_leader : Nat} {a_t_rows : Nat} {a_t_tape : Nat} {a_t_reader : Nat} {a_t_acts : Nat} {a_t_ways : Nat} {a_t_asks : Nat} {a_t_images : Nat} {a_t_imageKept : Nat} {a_t_now_course : Nat} {a_t_trial_course : Nat} {t_latestFault : Int32} {t_latestFinding : Int32} {t_now_players : Int32} {t_now_round : Int32} {t_now_time : Int32} {t_now_kind : (Nat → Int32)} {t_now_hand : (Nat → Int32)} {t_now_leader : (Nat → Int32)} {t_trial_players : Int32} {t_trial_round : Int32} {t_trial_time : Int32} {t_trial_kind : (Nat → Int32)} {t_trial_hand : (Nat → Int32)} {t_trial_leader : (Nat → Int32)} {l1 : Int32} {l2 : Int32} {rf : Int32 × Int32 × Int32 × (Nat → Int32) × (Nat → Int32) × (Nat → Int32)} (hQ : ZQv E (zty cI cB cZ) [(a_t, .inr (8, [.ref a_t_rows, .ref a_t_tape, .ref a_t_reader, .ref a_t_now, .ref a_t_trial, .ref a_t_acts, .ref a_t_ways, .ref a_t_asks, .ref a_t_images, .ref a_t_imageKept, .int t_latestFault, .int t_latestFinding])), (a_t_now, .inr (3, [.int t_now_players, .int t_now_round, .int t_now_time, .ref a_t_now_kind, .ref a_t_now_hand, .ref a_t_now_leader, .ref a_t_now_course])), (a_t_now_kind, .inl (cI, 8, .inl t_now_kind)), (a_t_now_hand, .inl (cI, 8, .inl t_now_hand)), (a_t_now_leader, .inl (cI, 8, .inl t_now_leader)), (a_t_trial, .inr (3, [.int rf.1, .int rf.2.1, .int rf.2.2.1, .ref a_t_trial_kind, .ref a_t_trial_hand, .ref a_t_trial_leader, .ref a_t_trial_course])), (a_t_trial_kind, .inl (cI, 8, .inl rf.2.2.2.1)), (a_t_trial_hand, .inl (cI, 8, .inl rf.2.2.2.2.1)), (a_t_trial_leader, .inl (cI, 8, .inl rf.2.2.2.2.2))]) (hR : o_X8_tryHand N t_now_players t_now_round t_now_time t_now_kind t_now_hand t_now_leader t_trial_kind t_trial_hand t_trial_leader l1 l2 = some rf) : Z E (0, 0) [(0, .ref a_t), (1, .int l1), (2, .int l2)] 0 [] [(a_t, .inr (8, [.ref a_t_rows, .ref a_t_tape, .ref a_t_reader, .ref a_t_now, .ref a_t_trial, .ref a_t_acts, .ref a_t_ways, .ref a_t_asks, .ref a_t_images, .ref a_t_imageKept, .int t_latestFault, .int t_latestFinding])), (a_t_now, .inr (3, [.int t_now_players, .int t_now_round, .int t_now_time, .ref a_t_now_kind, .ref a_t_now_hand, .ref a_t_now_leader, .ref a_t_now_course])), (a_t_now_kind, .inl (cI, 8, .inl t_now_kind)), (a_t_now_hand, .inl (cI, 8, .inl t_now_hand)), (a_t_now_leader, .inl (cI, 8, .inl t_now_leader)), (a_t_trial, .inr (3, [.int t_trial_players, .int t_trial_round, .int t_trial_time, .ref a_t_trial_kind, .ref a_t_trial_hand, .ref a_t_trial_leader, .ref a_t_trial_course])), (a_t_trial_kind, .inl (cI, 8, .inl t_trial_kind)), (a_t_trial_hand, .inl (cI, 8, .inl t_trial_hand)), (a_t_trial_leader, .inl (cI, 8, .inl t_trial_leader))] := by
  rw [o_X8_tryHand] at hR
  refine z_aload_n hC dX8_tryHand_0 rfl 0 rfl ?_
  refine z_get hC iX8_tryHand_X8 rfl 0 4 rfl (by decide) mX8_tryHand_1 rfl rfl dX8_tryHand_1 ?_
  refine z_aload_n hC dX8_tryHand_4 rfl 0 rfl ?_
  refine z_get hC iX8_tryHand_X8 rfl 0 3 rfl (by decide) mX8_tryHand_2 rfl rfl dX8_tryHand_5 ?_
  refine z_callVv hC hN [.ref a_t_now] [5, 6, 7, 8, 1, 2, 3, 4] (c_X3_become (l := zl E) (D := zD E) (cI := cI) (cB := cB) (cZ := cZ) (N := N) (a_t := a_t_trial) (a_t_kind := a_t_trial_kind) (a_t_hand := a_t_trial_hand) (a_t_leader := a_t_trial_leader) (a_t_course := a_t_trial_course) (a_p1 := a_t_now) (a_p1_kind := a_t_now_kind) (a_p1_hand := a_t_now_hand) (a_p1_leader := a_t_now_leader) (a_p1_course := a_t_now_course) (t_players := t_trial_players) (t_round := t_trial_round) (t_time := t_trial_time) (t_kind := t_trial_kind) (t_hand := t_trial_hand) (t_leader := t_trial_leader) (p1_players := t_now_players) (p1_round := t_now_round) (p1_time := t_now_time) (p1_kind := t_now_kind) (p1_hand := t_now_hand) (p1_leader := t_now_leader)) rfl ⟨rfl, rfl⟩ gX8_tryHand_X3_become hvX3_become 5 3 rfl rfl rfl ⟨Nat.le_of_ble_eq_true rfl, Nat.le_of_ble_eq_true rfl⟩ ⟨Nat.zero_le _, Nat.zero_le _⟩ rfl (Nat.le_of_ble_eq_true rfl) rfl (by decide) (fun _ => rfl) dX8_tryHand_8 hR (fun r8 hR => ?_)
  refine z_eq [(a_t, .inr (8, [.ref a_t_rows, .ref a_t_tape, .ref a_t_reader, .ref a_t_now, .ref a_t_trial, .ref a_t_acts, .ref a_t_ways, .ref a_t_asks, .ref a_t_images, .ref a_t_imageKept, .int t_latestFault, .int t_latestFinding])), (a_t_now, .inr (3, [.int t_now_players, .int t_now_round, .int t_now_time, .ref a_t_now_kind, .ref a_t_now_hand, .ref a_t_now_leader, .ref a_t_now_course])), (a_t_now_kind, .inl (cI, 8, .inl t_now_kind)), (a_t_now_hand, .inl (cI, 8, .inl t_now_hand)), (a_t_now_leader, .inl (cI, 8, .inl t_now_leader)), (a_t_trial, .inr (3, [.int r8.1, .int r8.2.1, .int r8.2.2.1, .ref a_t_trial_kind, .ref a_t_trial_hand, .ref a_t_trial_leader, .ref a_t_trial_course])), (a_t_trial_kind, .inl (cI, 8, .inl r8.2.2.2.1)), (a_t_trial_hand, .inl (cI, 8, .inl r8.2.2.2.2.1)), (a_t_trial_leader, .inl (cI, 8, .inl r8.2.2.2.2.2))] rfl ?_
  refine z_aload_n hC dX8_tryHand_11 rfl 0 rfl ?_
  refine z_get hC iX8_tryHand_X8 rfl 0 4 rfl (by decide) mX8_tryHand_1 rfl rfl dX8_tryHand_12 ?_
  refine z_get hC iX8_tryHand_X3 rfl 5 4 rfl (by decide) mX8_tryHand_3 rfl rfl dX8_tryHand_15 ?_
  refine z_iload_n hC dX8_tryHand_18 rfl 1 rfl ?_
  refine z_iload_n hC dX8_tryHand_19 rfl 2 rfl ?_
  refine z_iast hC 7 0 rfl rfl dX8_tryHand_20 hR (fun hR => ?_)
  obtain rfl := Option.some.inj hR
  exact z_vret hC hQ rfl dX8_tryHand_21
set_option maxHeartbeats 4000000 in
set_option maxRecDepth 100000 in
theorem c_X8_tryHand {sK sV : Nat → Nat} {l : Launch} {D : va_G} {cI cB cZ : ClassId} {N : Nat} {a_t : Nat} {a_t_now : Nat} {a_t_now_kind : Nat} {a_t_now_hand : Nat} {a_t_now_leader : Nat} {a_t_trial : Nat} {a_t_trial_kind : Nat} {a_t_trial_hand : Nat} {a_t_trial_leader : Nat} {a_t_rows : Nat} {a_t_tape : Nat} {a_t_reader : Nat} {a_t_acts : Nat} {a_t_ways : Nat} {a_t_asks : Nat} {a_t_images : Nat} {a_t_imageKept : Nat} {a_t_now_course : Nat} {a_t_trial_course : Nat} {t_latestFault : Int32} {t_latestFinding : Int32} {t_now_players : Int32} {t_now_round : Int32} {t_now_time : Int32} {t_now_kind : (Nat → Int32)} {t_now_hand : (Nat → Int32)} {t_now_leader : (Nat → Int32)} {t_trial_players : Int32} {t_trial_round : Int32} {t_trial_time : Int32} {t_trial_kind : (Nat → Int32)} {t_trial_hand : (Nat → Int32)} {t_trial_leader : (Nat → Int32)} {l1 : Int32} {l2 : Int32} : ∀ R : Int32 × Int32 × Int32 × (Nat → Int32) × (Nat → Int32) × (Nat → Int32), o_X8_tryHand N t_now_players t_now_round t_now_time t_now_kind t_now_hand t_now_leader t_trial_kind t_trial_hand t_trial_leader l1 l2 = some R → ZMv sK sV l yX8_tryHand wsX8_tryHand rmX8_tryHand D (zty cI cB cZ) [.ref a_t, .int l1, .int l2] [(a_t, .inr (8, [.ref a_t_rows, .ref a_t_tape, .ref a_t_reader, .ref a_t_now, .ref a_t_trial, .ref a_t_acts, .ref a_t_ways, .ref a_t_asks, .ref a_t_images, .ref a_t_imageKept, .int t_latestFault, .int t_latestFinding])), (a_t_now, .inr (3, [.int t_now_players, .int t_now_round, .int t_now_time, .ref a_t_now_kind, .ref a_t_now_hand, .ref a_t_now_leader, .ref a_t_now_course])), (a_t_now_kind, .inl (cI, 8, .inl t_now_kind)), (a_t_now_hand, .inl (cI, 8, .inl t_now_hand)), (a_t_now_leader, .inl (cI, 8, .inl t_now_leader)), (a_t_trial, .inr (3, [.int t_trial_players, .int t_trial_round, .int t_trial_time, .ref a_t_trial_kind, .ref a_t_trial_hand, .ref a_t_trial_leader, .ref a_t_trial_course])), (a_t_trial_kind, .inl (cI, 8, .inl t_trial_kind)), (a_t_trial_hand, .inl (cI, 8, .inl t_trial_hand)), (a_t_trial_leader, .inl (cI, 8, .inl t_trial_leader))] [(a_t, .inr (8, [.ref a_t_rows, .ref a_t_tape, .ref a_t_reader, .ref a_t_now, .ref a_t_trial, .ref a_t_acts, .ref a_t_ways, .ref a_t_asks, .ref a_t_images, .ref a_t_imageKept, .int t_latestFault, .int t_latestFinding])), (a_t_now, .inr (3, [.int t_now_players, .int t_now_round, .int t_now_time, .ref a_t_now_kind, .ref a_t_now_hand, .ref a_t_now_leader, .ref a_t_now_course])), (a_t_now_kind, .inl (cI, 8, .inl t_now_kind)), (a_t_now_hand, .inl (cI, 8, .inl t_now_hand)), (a_t_now_leader, .inl (cI, 8, .inl t_now_leader)), (a_t_trial, .inr (3, [.int R.1, .int R.2.1, .int R.2.2.1, .ref a_t_trial_kind, .ref a_t_trial_hand, .ref a_t_trial_leader, .ref a_t_trial_course])), (a_t_trial_kind, .inl (cI, 8, .inl R.2.2.2.1)), (a_t_trial_hand, .inl (cI, 8, .inl R.2.2.2.2.1)), (a_t_trial_leader, .inl (cI, 8, .inl R.2.2.2.2.2))] := by
  intro R hR
  refine zv_of (cc := cX8_tryHand) (maxL := 3) (ret := none) (by decide) rfl (Nat.le_of_ble_eq_true rfl) (fun E hE1 hE2 hC hN hQ => ?_)
  subst hE1 hE2
  exact z_X8_tryHand_0 hC hN (N := N) (a_t := a_t) (a_t_now := a_t_now) (a_t_now_kind := a_t_now_kind) (a_t_now_hand := a_t_now_hand) (a_t_now_leader := a_t_now_leader) (a_t_trial := a_t_trial) (a_t_trial_kind := a_t_trial_kind) (a_t_trial_hand := a_t_trial_hand) (a_t_trial_leader := a_t_trial_leader) (a_t_rows := a_t_rows) (a_t_tape := a_t_tape) (a_t_reader := a_t_reader) (a_t_acts := a_t_acts) (a_t_ways := a_t_ways) (a_t_asks := a_t_asks) (a_t_images := a_t_images) (a_t_imageKept := a_t_imageKept) (a_t_now_course := a_t_now_course) (a_t_trial_course := a_t_trial_course) (t_latestFault := t_latestFault) (t_latestFinding := t_latestFinding) (t_now_players := t_now_players) (t_now_round := t_now_round) (t_now_time := t_now_time) (t_now_kind := t_now_kind) (t_now_hand := t_now_hand) (t_now_leader := t_now_leader) (t_trial_players := t_trial_players) (t_trial_round := t_trial_round) (t_trial_time := t_trial_time) (t_trial_kind := t_trial_kind) (t_trial_hand := t_trial_hand) (t_trial_leader := t_trial_leader) (l1 := l1) (l2 := l2) hQ hR

/-! FistTrains.begin -/
abbrev rmX8_begin : Room := { frames := 6, cells := 0, slots := 0, locals := 142 }
set_option maxRecDepth 20000 in
theorem iX8_begin_X8 : ∀ w ∈ wsX80, w ∈ wsX8_begin := by decide +kernel
set_option maxRecDepth 20000 in
theorem mX8_begin_2 : Cond.fieldLink RX8 35 "FistTrains" "now" "LFistTrains$Hall;" ∈ wsX8_begin := List.mem_of_getElem? (i := 2) rfl
set_option maxRecDepth 20000 in
theorem mX8_begin_3 : Cond.constant RX8 164 (-1000002) ∈ wsX8_begin := List.mem_of_getElem? (i := 3) rfl
set_option maxRecDepth 20000 in
theorem mX8_begin_1 : Cond.constant RX8 82 (-1000001) ∈ wsX8_begin := List.mem_of_getElem? (i := 1) rfl
set_option maxRecDepth 20000 in
theorem mX8_begin_4 : Cond.fieldLink RX8 39 "FistTrains" "trial" "LFistTrains$Hall;" ∈ wsX8_begin := List.mem_of_getElem? (i := 4) rfl
def o_X8_begin_32 (N : Nat) (t_now_players : Int32) (t_now_round : Int32) (t_now_time : Int32) (t_now_kind : (Nat → Int32)) (t_now_hand : (Nat → Int32)) (t_now_leader : (Nat → Int32)) (l1 : Int32) : Nat → Int32 → Int32 → Int32 → (Nat → Int32) → (Nat → Int32) → (Nat → Int32) → Int32 → Int32 → Int32 → Int32 → Int32 → Int32 → Option (Int32 × Int32 × Int32 × Int32 × (Nat → Int32) × (Nat → Int32) × (Nat → Int32) × Int32 × Int32 × Int32)
  | 0 => fun _ _ _ _ _ _ _ _ _ _ _ _ => none
  | n + 1 => fun t_trial_players t_trial_round t_trial_time t_trial_kind t_trial_hand t_trial_leader t_trial_course_first t_trial_course_second t_trial_course_thrown l2 l3 l4 => 
    if 3 ≤ l4 then
      some (l2, t_trial_players, t_trial_round, t_trial_time, t_trial_kind, t_trial_hand, t_trial_leader, t_trial_course_first, t_trial_course_second, t_trial_course_thrown)
    else
      Option.bind (o_X8_tryHand N t_now_players t_now_round t_now_time t_now_kind t_now_hand t_now_leader t_trial_kind t_trial_hand t_trial_leader l1 l4) (fun r42 =>
      Option.bind (o_X3_roundsLed N r42.1 r42.2.1 r42.2.2.1 r42.2.2.2.1 r42.2.2.2.2.1 r42.2.2.2.2.2 t_trial_course_first t_trial_course_second t_trial_course_thrown l1) (fun r50 =>
      if r50.1 ≤ l3 then
        o_X8_begin_32 N t_now_players t_now_round t_now_time t_now_kind t_now_hand t_now_leader l1 n r42.1 r50.2.1 r50.2.2.1 r42.2.2.2.1 r50.2.2.2.1 r50.2.2.2.2.1 r50.2.2.2.2.2.1 r50.2.2.2.2.2.2.1 r50.2.2.2.2.2.2.2 l2 l3 (l4 + 1)
      else
        o_X8_begin_32 N t_now_players t_now_round t_now_time t_now_kind t_now_hand t_now_leader l1 n r42.1 r50.2.1 r50.2.2.1 r42.2.2.2.1 r50.2.2.2.1 r50.2.2.2.2.1 r50.2.2.2.2.2.1 r50.2.2.2.2.2.2.1 r50.2.2.2.2.2.2.2 l4 r50.1 (l4 + 1)))
def o_X8_begin (N : Nat) (t_now_players : Int32) (t_now_round : Int32) (t_now_time : Int32) (t_now_kind : (Nat → Int32)) (t_now_hand : (Nat → Int32)) (t_now_leader : (Nat → Int32)) (t_trial_players : Int32) (t_trial_round : Int32) (t_trial_time : Int32) (t_trial_kind : (Nat → Int32)) (t_trial_hand : (Nat → Int32)) (t_trial_leader : (Nat → Int32)) (t_trial_course_first : Int32) (t_trial_course_second : Int32) (t_trial_course_thrown : Int32) (l1 : Int32) : Option (Int32 × Int32 × Int32 × Int32 × (Nat → Int32) × (Nat → Int32) × (Nat → Int32) × Int32 × Int32 × Int32) :=
  Option.bind (o_X8_isPlayer N t_now_players l1) (fun r2 =>
  if r2 = 0 then
    some ((-1000001), t_trial_players, t_trial_round, t_trial_time, t_trial_kind, t_trial_hand, t_trial_leader, t_trial_course_first, t_trial_course_second, t_trial_course_thrown)
  else
    Option.bind (o_X3_leads N t_now_leader l1) (fun r16 =>
    if r16 = 0 then
      some ((-1000002), t_trial_players, t_trial_round, t_trial_time, t_trial_kind, t_trial_hand, t_trial_leader, t_trial_course_first, t_trial_course_second, t_trial_course_thrown)
    else
      o_X8_begin_32 N t_now_players t_now_round t_now_time t_now_kind t_now_hand t_now_leader l1 N t_trial_players t_trial_round t_trial_time t_trial_kind t_trial_hand t_trial_leader t_trial_course_first t_trial_course_second t_trial_course_thrown 0 (-1) 0))
set_option maxHeartbeats 4000000 in
set_option maxRecDepth 100000 in
theorem z_X8_begin_32 {sK sV : Nat → Nat} {E : ZE} {cI cB cZ : ClassId} (hC : ZC E 6 cX8_begin wsX8_begin RX8 rmX8_begin (some .int) (zty cI cB cZ)) (hN : ZN sK sV (zA E) (zs E)) {N : Nat} {a_t : Nat} {a_t_now : Nat} {a_t_now_kind : Nat} {a_t_now_hand : Nat} {a_t_now_leader : Nat} {a_t_trial : Nat} {a_t_trial_kind : Nat} {a_t_trial_hand : Nat} {a_t_trial_leader : Nat} {a_t_trial_course : Nat} {a_t_rows : Nat} {a_t_tape : Nat} {a_t_reader : Nat} {a_t_acts : Nat} {a_t_ways : Nat} {a_t_asks : Nat} {a_t_images : Nat} {a_t_imageKept : Nat} {a_t_now_course : Nat} {t_latestFault : Int32} {t_latestFinding : Int32} {t_now_players : Int32} {t_now_round : Int32} {t_now_time : Int32} {t_now_kind : (Nat → Int32)} {t_now_hand : (Nat → Int32)} {t_now_leader : (Nat → Int32)} {l1 : Int32} {rf : Int32 × Int32 × Int32 × Int32 × (Nat → Int32) × (Nat → Int32) × (Nat → Int32) × Int32 × Int32 × Int32} (hQ : ZQi E (zty cI cB cZ) rf.1 [(a_t, .inr (8, [.ref a_t_rows, .ref a_t_tape, .ref a_t_reader, .ref a_t_now, .ref a_t_trial, .ref a_t_acts, .ref a_t_ways, .ref a_t_asks, .ref a_t_images, .ref a_t_imageKept, .int t_latestFault, .int t_latestFinding])), (a_t_now, .inr (3, [.int t_now_players, .int t_now_round, .int t_now_time, .ref a_t_now_kind, .ref a_t_now_hand, .ref a_t_now_leader, .ref a_t_now_course])), (a_t_now_kind, .inl (cI, 8, .inl t_now_kind)), (a_t_now_hand, .inl (cI, 8, .inl t_now_hand)), (a_t_now_leader, .inl (cI, 8, .inl t_now_leader)), (a_t_trial, .inr (3, [.int rf.2.1, .int rf.2.2.1, .int rf.2.2.2.1, .ref a_t_trial_kind, .ref a_t_trial_hand, .ref a_t_trial_leader, .ref a_t_trial_course])), (a_t_trial_kind, .inl (cI, 8, .inl rf.2.2.2.2.1)), (a_t_trial_hand, .inl (cI, 8, .inl rf.2.2.2.2.2.1)), (a_t_trial_leader, .inl (cI, 8, .inl rf.2.2.2.2.2.2.1)), (a_t_trial_course, .inr (2, [.int rf.2.2.2.2.2.2.2.1, .int rf.2.2.2.2.2.2.2.2.1, .int rf.2.2.2.2.2.2.2.2.2]))]) : ∀ (n : Nat) (t_trial_players : Int32) (t_trial_round : Int32) (t_trial_time : Int32) (t_trial_kind : (Nat → Int32)) (t_trial_hand : (Nat → Int32)) (t_trial_leader : (Nat → Int32)) (t_trial_course_first : Int32) (t_trial_course_second : Int32) (t_trial_course_thrown : Int32) (l2 : Int32) (l3 : Int32) (l4 : Int32), o_X8_begin_32 N t_now_players t_now_round t_now_time t_now_kind t_now_hand t_now_leader l1 n t_trial_players t_trial_round t_trial_time t_trial_kind t_trial_hand t_trial_leader t_trial_course_first t_trial_course_second t_trial_course_thrown l2 l3 l4 = some rf → Z E (0, 0) [(0, .ref a_t), (1, .int l1), (2, .int l2), (3, .int l3), (4, .int l4)] 32 [] [(a_t, .inr (8, [.ref a_t_rows, .ref a_t_tape, .ref a_t_reader, .ref a_t_now, .ref a_t_trial, .ref a_t_acts, .ref a_t_ways, .ref a_t_asks, .ref a_t_images, .ref a_t_imageKept, .int t_latestFault, .int t_latestFinding])), (a_t_now, .inr (3, [.int t_now_players, .int t_now_round, .int t_now_time, .ref a_t_now_kind, .ref a_t_now_hand, .ref a_t_now_leader, .ref a_t_now_course])), (a_t_now_kind, .inl (cI, 8, .inl t_now_kind)), (a_t_now_hand, .inl (cI, 8, .inl t_now_hand)), (a_t_now_leader, .inl (cI, 8, .inl t_now_leader)), (a_t_trial, .inr (3, [.int t_trial_players, .int t_trial_round, .int t_trial_time, .ref a_t_trial_kind, .ref a_t_trial_hand, .ref a_t_trial_leader, .ref a_t_trial_course])), (a_t_trial_kind, .inl (cI, 8, .inl t_trial_kind)), (a_t_trial_hand, .inl (cI, 8, .inl t_trial_hand)), (a_t_trial_leader, .inl (cI, 8, .inl t_trial_leader)), (a_t_trial_course, .inr (2, [.int t_trial_course_first, .int t_trial_course_second, .int t_trial_course_thrown]))] := by
  intro n
  induction n with
  | zero =>
    intro t_trial_players t_trial_round t_trial_time t_trial_kind t_trial_hand t_trial_leader t_trial_course_first t_trial_course_second t_trial_course_thrown l2 l3 l4 hR
    cases hR
  | succ n ih =>
    intro t_trial_players t_trial_round t_trial_time t_trial_kind t_trial_hand t_trial_leader t_trial_course_first t_trial_course_second t_trial_course_thrown l2 l3 l4 hR
    rw [o_X8_begin_32] at hR
    refine z_iload hC dX8_begin_32 4 rfl ?_
    refine z_ic3 hC dX8_begin_34 ?_
    refine z_icmp_ge hC 73 dX8_begin_35 (by decide) hR (fun hR => ?_) (fun hR => ?_)
    · refine z_iload_n hC dX8_begin_73 rfl 2 rfl ?_
      obtain rfl := Option.some.inj hR
      exact z_iret hC hQ rfl rfl rfl dX8_begin_74
    · refine z_aload_n hC dX8_begin_38 rfl 0 rfl ?_
      refine z_iload_n hC dX8_begin_39 rfl 1 rfl ?_
      refine z_iload hC dX8_begin_40 4 rfl ?_
      refine z_callVv hC hN [.int l1, .int l4] [0, 1, 2, 3, 4, 5, 6, 7, 8] (c_X8_tryHand (l := zl E) (D := zD E) (cI := cI) (cB := cB) (cZ := cZ) (N := N) (a_t := a_t) (a_t_rows := a_t_rows) (a_t_tape := a_t_tape) (a_t_reader := a_t_reader) (a_t_now := a_t_now) (a_t_trial := a_t_trial) (a_t_acts := a_t_acts) (a_t_ways := a_t_ways) (a_t_asks := a_t_asks) (a_t_images := a_t_images) (a_t_imageKept := a_t_imageKept) (a_t_now_kind := a_t_now_kind) (a_t_now_hand := a_t_now_hand) (a_t_now_leader := a_t_now_leader) (a_t_now_course := a_t_now_course) (a_t_trial_kind := a_t_trial_kind) (a_t_trial_hand := a_t_trial_hand) (a_t_trial_leader := a_t_trial_leader) (a_t_trial_course := a_t_trial_course) (l1 := l1) (l2 := l4) (t_latestFault := t_latestFault) (t_latestFinding := t_latestFinding) (t_now_players := t_now_players) (t_now_round := t_now_round) (t_now_time := t_now_time) (t_now_kind := t_now_kind) (t_now_hand := t_now_hand) (t_now_leader := t_now_leader) (t_trial_players := t_trial_players) (t_trial_round := t_trial_round) (t_trial_time := t_trial_time) (t_trial_kind := t_trial_kind) (t_trial_hand := t_trial_hand) (t_trial_leader := t_trial_leader)) rfl ⟨rfl, rfl⟩ gX8_begin_X8_tryHand hvX8_tryHand 0 8 rfl rfl rfl ⟨Nat.le_of_ble_eq_true rfl, Nat.le_of_ble_eq_true rfl⟩ ⟨Nat.zero_le _, Nat.zero_le _⟩ rfl (Nat.le_of_ble_eq_true rfl) rfl (by decide) (fun _ => rfl) dX8_begin_42 hR (fun r42 hR => ?_)
      refine z_eq [(a_t, .inr (8, [.ref a_t_rows, .ref a_t_tape, .ref a_t_reader, .ref a_t_now, .ref a_t_trial, .ref a_t_acts, .ref a_t_ways, .ref a_t_asks, .ref a_t_images, .ref a_t_imageKept, .int t_latestFault, .int t_latestFinding])), (a_t_now, .inr (3, [.int t_now_players, .int t_now_round, .int t_now_time, .ref a_t_now_kind, .ref a_t_now_hand, .ref a_t_now_leader, .ref a_t_now_course])), (a_t_now_kind, .inl (cI, 8, .inl t_now_kind)), (a_t_now_hand, .inl (cI, 8, .inl t_now_hand)), (a_t_now_leader, .inl (cI, 8, .inl t_now_leader)), (a_t_trial, .inr (3, [.int r42.1, .int r42.2.1, .int r42.2.2.1, .ref a_t_trial_kind, .ref a_t_trial_hand, .ref a_t_trial_leader, .ref a_t_trial_course])), (a_t_trial_kind, .inl (cI, 8, .inl r42.2.2.2.1)), (a_t_trial_hand, .inl (cI, 8, .inl r42.2.2.2.2.1)), (a_t_trial_leader, .inl (cI, 8, .inl r42.2.2.2.2.2)), (a_t_trial_course, .inr (2, [.int t_trial_course_first, .int t_trial_course_second, .int t_trial_course_thrown]))] rfl ?_
      refine z_aload_n hC dX8_begin_45 rfl 0 rfl ?_
      refine z_get hC iX8_begin_X8 rfl 0 4 rfl (by decide) mX8_begin_4 rfl rfl dX8_begin_46 ?_
      refine z_iload_n hC dX8_begin_49 rfl 1 rfl ?_
      refine z_callVi hC hN [.int l1] [5, 6, 7, 8, 9] (c_X3_roundsLed (l := zl E) (D := zD E) (cI := cI) (cB := cB) (cZ := cZ) (N := N) (a_t := a_t_trial) (a_t_kind := a_t_trial_kind) (a_t_hand := a_t_trial_hand) (a_t_leader := a_t_trial_leader) (a_t_course := a_t_trial_course) (l1 := l1) (t_players := r42.1) (t_round := r42.2.1) (t_time := r42.2.2.1) (t_kind := r42.2.2.2.1) (t_hand := r42.2.2.2.2.1) (t_leader := r42.2.2.2.2.2) (t_course_first := t_trial_course_first) (t_course_second := t_trial_course_second) (t_course_thrown := t_trial_course_thrown)) rfl ⟨rfl, rfl⟩ gX8_begin_X3_roundsLed hvX3_roundsLed 5 3 rfl rfl rfl ⟨Nat.le_of_ble_eq_true rfl, Nat.le_of_ble_eq_true rfl⟩ ⟨Nat.zero_le _, Nat.zero_le _⟩ rfl (Nat.le_of_ble_eq_true rfl) rfl (by decide) (fun _ => rfl) dX8_begin_50 hR (fun r50 hR => ?_)
      refine z_eq [(a_t, .inr (8, [.ref a_t_rows, .ref a_t_tape, .ref a_t_reader, .ref a_t_now, .ref a_t_trial, .ref a_t_acts, .ref a_t_ways, .ref a_t_asks, .ref a_t_images, .ref a_t_imageKept, .int t_latestFault, .int t_latestFinding])), (a_t_now, .inr (3, [.int t_now_players, .int t_now_round, .int t_now_time, .ref a_t_now_kind, .ref a_t_now_hand, .ref a_t_now_leader, .ref a_t_now_course])), (a_t_now_kind, .inl (cI, 8, .inl t_now_kind)), (a_t_now_hand, .inl (cI, 8, .inl t_now_hand)), (a_t_now_leader, .inl (cI, 8, .inl t_now_leader)), (a_t_trial, .inr (3, [.int r42.1, .int r50.2.1, .int r50.2.2.1, .ref a_t_trial_kind, .ref a_t_trial_hand, .ref a_t_trial_leader, .ref a_t_trial_course])), (a_t_trial_kind, .inl (cI, 8, .inl r42.2.2.2.1)), (a_t_trial_hand, .inl (cI, 8, .inl r50.2.2.2.1)), (a_t_trial_leader, .inl (cI, 8, .inl r50.2.2.2.2.1)), (a_t_trial_course, .inr (2, [.int r50.2.2.2.2.2.1, .int r50.2.2.2.2.2.2.1, .int r50.2.2.2.2.2.2.2]))] rfl ?_
      refine z_istore hC [(5, .int r50.1), (0, .ref a_t), (1, .int l1), (2, .int l2), (3, .int l3), (4, .int l4)] dX8_begin_53 (by decide) rfl ?_
      refine z_iload hC dX8_begin_55 0 rfl ?_
      refine z_iload_n hC dX8_begin_57 rfl 4 rfl ?_
      refine z_icmp_le hC 67 dX8_begin_58 (by decide) hR (fun hR => ?_) (fun hR => ?_)
      · refine z_iinc1 hC [(4, .int (l4 + 1)), (5, .int r50.1), (0, .ref a_t), (1, .int l1), (2, .int l2), (3, .int l3)] dX8_begin_67 5 rfl (by decide) rfl ?_
        refine z_goto hC 32 dX8_begin_70 (by decide) ?_
        refine z_sub (lv' := [(0, .ref a_t), (1, .int l1), (2, .int l2), (3, .int l3), (4, .int (l4 + 1))]) [2, 3, 4, 5, 0] rfl ?_
        exact ih r42.1 r50.2.1 r50.2.2.1 r42.2.2.2.1 r50.2.2.2.1 r50.2.2.2.2.1 r50.2.2.2.2.2.1 r50.2.2.2.2.2.2.1 r50.2.2.2.2.2.2.2 l2 l3 (l4 + 1) hR
      · refine z_iload hC dX8_begin_61 0 rfl ?_
        refine z_istore_n hC [(3, .int r50.1), (5, .int r50.1), (0, .ref a_t), (1, .int l1), (2, .int l2), (4, .int l4)] dX8_begin_63 rfl (by decide) rfl ?_
        refine z_iload hC dX8_begin_64 5 rfl ?_
        refine z_istore_n hC [(2, .int l4), (3, .int r50.1), (5, .int r50.1), (0, .ref a_t), (1, .int l1), (4, .int l4)] dX8_begin_66 rfl (by decide) rfl ?_
        refine z_iinc1 hC [(4, .int (l4 + 1)), (2, .int l4), (3, .int r50.1), (5, .int r50.1), (0, .ref a_t), (1, .int l1)] dX8_begin_67 5 rfl (by decide) rfl ?_
        refine z_goto hC 32 dX8_begin_70 (by decide) ?_
        refine z_sub (lv' := [(0, .ref a_t), (1, .int l1), (2, .int l4), (3, .int r50.1), (4, .int (l4 + 1))]) [4, 5, 1, 2, 0] rfl ?_
        exact ih r42.1 r50.2.1 r50.2.2.1 r42.2.2.2.1 r50.2.2.2.1 r50.2.2.2.2.1 r50.2.2.2.2.2.1 r50.2.2.2.2.2.2.1 r50.2.2.2.2.2.2.2 l4 r50.1 (l4 + 1) hR
set_option maxHeartbeats 4000000 in
set_option maxRecDepth 100000 in
theorem z_X8_begin_0 {sK sV : Nat → Nat} {E : ZE} {cI cB cZ : ClassId} (hC : ZC E 6 cX8_begin wsX8_begin RX8 rmX8_begin (some .int) (zty cI cB cZ)) (hN : ZN sK sV (zA E) (zs E)) {N : Nat} {a_t : Nat} {a_t_now : Nat} {a_t_now_kind : Nat} {a_t_now_hand : Nat} {a_t_now_leader : Nat} {a_t_trial : Nat} {a_t_trial_kind : Nat} {a_t_trial_hand : Nat} {a_t_trial_leader : Nat} {a_t_trial_course : Nat} {a_t_rows : Nat} {a_t_tape : Nat} {a_t_reader : Nat} {a_t_acts : Nat} {a_t_ways : Nat} {a_t_asks : Nat} {a_t_images : Nat} {a_t_imageKept : Nat} {a_t_now_course : Nat} {t_latestFault : Int32} {t_latestFinding : Int32} {t_now_players : Int32} {t_now_round : Int32} {t_now_time : Int32} {t_now_kind : (Nat → Int32)} {t_now_hand : (Nat → Int32)} {t_now_leader : (Nat → Int32)} {t_trial_players : Int32} {t_trial_round : Int32} {t_trial_time : Int32} {t_trial_kind : (Nat → Int32)} {t_trial_hand : (Nat → Int32)} {t_trial_leader : (Nat → Int32)} {t_trial_course_first : Int32} {t_trial_course_second : Int32} {t_trial_course_thrown : Int32} {l1 : Int32} {rf : Int32 × Int32 × Int32 × Int32 × (Nat → Int32) × (Nat → Int32) × (Nat → Int32) × Int32 × Int32 × Int32} (hQ : ZQi E (zty cI cB cZ) rf.1 [(a_t, .inr (8, [.ref a_t_rows, .ref a_t_tape, .ref a_t_reader, .ref a_t_now, .ref a_t_trial, .ref a_t_acts, .ref a_t_ways, .ref a_t_asks, .ref a_t_images, .ref a_t_imageKept, .int t_latestFault, .int t_latestFinding])), (a_t_now, .inr (3, [.int t_now_players, .int t_now_round, .int t_now_time, .ref a_t_now_kind, .ref a_t_now_hand, .ref a_t_now_leader, .ref a_t_now_course])), (a_t_now_kind, .inl (cI, 8, .inl t_now_kind)), (a_t_now_hand, .inl (cI, 8, .inl t_now_hand)), (a_t_now_leader, .inl (cI, 8, .inl t_now_leader)), (a_t_trial, .inr (3, [.int rf.2.1, .int rf.2.2.1, .int rf.2.2.2.1, .ref a_t_trial_kind, .ref a_t_trial_hand, .ref a_t_trial_leader, .ref a_t_trial_course])), (a_t_trial_kind, .inl (cI, 8, .inl rf.2.2.2.2.1)), (a_t_trial_hand, .inl (cI, 8, .inl rf.2.2.2.2.2.1)), (a_t_trial_leader, .inl (cI, 8, .inl rf.2.2.2.2.2.2.1)), (a_t_trial_course, .inr (2, [.int rf.2.2.2.2.2.2.2.1, .int rf.2.2.2.2.2.2.2.2.1, .int rf.2.2.2.2.2.2.2.2.2]))]) (hR : o_X8_begin N t_now_players t_now_round t_now_time t_now_kind t_now_hand t_now_leader t_trial_players t_trial_round t_trial_time t_trial_kind t_trial_hand t_trial_leader t_trial_course_first t_trial_course_second t_trial_course_thrown l1 = some rf) : Z E (0, 0) [(0, .ref a_t), (1, .int l1)] 0 [] [(a_t, .inr (8, [.ref a_t_rows, .ref a_t_tape, .ref a_t_reader, .ref a_t_now, .ref a_t_trial, .ref a_t_acts, .ref a_t_ways, .ref a_t_asks, .ref a_t_images, .ref a_t_imageKept, .int t_latestFault, .int t_latestFinding])), (a_t_now, .inr (3, [.int t_now_players, .int t_now_round, .int t_now_time, .ref a_t_now_kind, .ref a_t_now_hand, .ref a_t_now_leader, .ref a_t_now_course])), (a_t_now_kind, .inl (cI, 8, .inl t_now_kind)), (a_t_now_hand, .inl (cI, 8, .inl t_now_hand)), (a_t_now_leader, .inl (cI, 8, .inl t_now_leader)), (a_t_trial, .inr (3, [.int t_trial_players, .int t_trial_round, .int t_trial_time, .ref a_t_trial_kind, .ref a_t_trial_hand, .ref a_t_trial_leader, .ref a_t_trial_course])), (a_t_trial_kind, .inl (cI, 8, .inl t_trial_kind)), (a_t_trial_hand, .inl (cI, 8, .inl t_trial_hand)), (a_t_trial_leader, .inl (cI, 8, .inl t_trial_leader)), (a_t_trial_course, .inr (2, [.int t_trial_course_first, .int t_trial_course_second, .int t_trial_course_thrown]))] := by
  rw [o_X8_begin] at hR
  refine z_aload_n hC dX8_begin_0 rfl 0 rfl ?_
  refine z_iload_n hC dX8_begin_1 rfl 1 rfl ?_
  refine z_callVi_p hC hN [.int l1] [0, 1] (c_X8_isPlayer (l := zl E) (D := zD E) (cI := cI) (cB := cB) (cZ := cZ) (N := N) (a_t := a_t) (a_t_rows := a_t_rows) (a_t_tape := a_t_tape) (a_t_reader := a_t_reader) (a_t_now := a_t_now) (a_t_trial := a_t_trial) (a_t_acts := a_t_acts) (a_t_ways := a_t_ways) (a_t_asks := a_t_asks) (a_t_images := a_t_images) (a_t_imageKept := a_t_imageKept) (a_t_now_kind := a_t_now_kind) (a_t_now_hand := a_t_now_hand) (a_t_now_leader := a_t_now_leader) (a_t_now_course := a_t_now_course) (l1 := l1) (t_latestFault := t_latestFault) (t_latestFinding := t_latestFinding) (t_now_players := t_now_players) (t_now_round := t_now_round) (t_now_time := t_now_time)) rfl ⟨rfl, rfl⟩ gX8_begin_X8_isPlayer hvX8_isPlayer 0 8 rfl rfl rfl ⟨Nat.le_of_ble_eq_true rfl, Nat.le_of_ble_eq_true rfl⟩ ⟨Nat.zero_le _, Nat.zero_le _⟩ rfl (Nat.le_of_ble_eq_true rfl) rfl (by decide) dX8_begin_2 hR (fun r2 hR => ?_)
  refine z_if_ne hC 11 dX8_begin_5 (by decide) hR (fun hR => ?_) (fun hR => ?_)
  · refine z_aload_n hC dX8_begin_11 rfl 0 rfl ?_
    refine z_get hC iX8_begin_X8 rfl 0 3 rfl (by decide) mX8_begin_2 rfl rfl dX8_begin_12 ?_
    refine z_iload_n hC dX8_begin_15 rfl 1 rfl ?_
    refine z_callVi_p hC hN [.int l1] [1, 4] (c_X3_leads (l := zl E) (D := zD E) (cI := cI) (cB := cB) (cZ := cZ) (N := N) (a_t := a_t_now) (a_t_kind := a_t_now_kind) (a_t_hand := a_t_now_hand) (a_t_leader := a_t_now_leader) (a_t_course := a_t_now_course) (l1 := l1) (t_players := t_now_players) (t_round := t_now_round) (t_time := t_now_time) (t_leader := t_now_leader)) rfl ⟨rfl, rfl⟩ gX8_begin_X3_leads hvX3_leads 1 3 rfl rfl rfl ⟨Nat.le_of_ble_eq_true rfl, Nat.le_of_ble_eq_true rfl⟩ ⟨Nat.zero_le _, Nat.zero_le _⟩ rfl (Nat.le_of_ble_eq_true rfl) rfl (by decide) dX8_begin_16 hR (fun r16 hR => ?_)
    refine z_if_ne hC 25 dX8_begin_19 (by decide) hR (fun hR => ?_) (fun hR => ?_)
    · refine z_ic0 hC dX8_begin_25 ?_
      refine z_istore_n hC [(2, .int 0), (0, .ref a_t), (1, .int l1)] dX8_begin_26 rfl (by decide) rfl ?_
      refine z_icm1 hC dX8_begin_27 ?_
      refine z_istore_n hC [(3, .int (-1)), (2, .int 0), (0, .ref a_t), (1, .int l1)] dX8_begin_28 rfl (by decide) rfl ?_
      refine z_ic0 hC dX8_begin_29 ?_
      refine z_istore hC [(4, .int 0), (3, .int (-1)), (2, .int 0), (0, .ref a_t), (1, .int l1)] dX8_begin_30 (by decide) rfl ?_
      refine z_sub (lv' := [(0, .ref a_t), (1, .int l1), (2, .int 0), (3, .int (-1)), (4, .int 0)]) [3, 4, 2, 1, 0] rfl ?_
      exact z_X8_begin_32 hC hN (N := N) (a_t := a_t) (a_t_now := a_t_now) (a_t_now_kind := a_t_now_kind) (a_t_now_hand := a_t_now_hand) (a_t_now_leader := a_t_now_leader) (a_t_trial := a_t_trial) (a_t_trial_kind := a_t_trial_kind) (a_t_trial_hand := a_t_trial_hand) (a_t_trial_leader := a_t_trial_leader) (a_t_trial_course := a_t_trial_course) (a_t_rows := a_t_rows) (a_t_tape := a_t_tape) (a_t_reader := a_t_reader) (a_t_acts := a_t_acts) (a_t_ways := a_t_ways) (a_t_asks := a_t_asks) (a_t_images := a_t_images) (a_t_imageKept := a_t_imageKept) (a_t_now_course := a_t_now_course) (t_latestFault := t_latestFault) (t_latestFinding := t_latestFinding) (t_now_players := t_now_players) (t_now_round := t_now_round) (t_now_time := t_now_time) (t_now_kind := t_now_kind) (t_now_hand := t_now_hand) (t_now_leader := t_now_leader) (l1 := l1) hQ  N t_trial_players t_trial_round t_trial_time t_trial_kind t_trial_hand t_trial_leader t_trial_course_first t_trial_course_second t_trial_course_thrown 0 (-1) 0 hR
    · refine z_ldc hC (-1000002) mX8_begin_3 dX8_begin_22 ?_
      obtain rfl := Option.some.inj hR
      exact z_iret hC hQ rfl rfl rfl dX8_begin_24
  · refine z_ldc hC (-1000001) mX8_begin_1 dX8_begin_8 ?_
    obtain rfl := Option.some.inj hR
    exact z_iret hC hQ rfl rfl rfl dX8_begin_10
set_option maxHeartbeats 4000000 in
set_option maxRecDepth 100000 in
theorem c_X8_begin {sK sV : Nat → Nat} {l : Launch} {D : va_G} {cI cB cZ : ClassId} {N : Nat} {a_t : Nat} {a_t_now : Nat} {a_t_now_kind : Nat} {a_t_now_hand : Nat} {a_t_now_leader : Nat} {a_t_trial : Nat} {a_t_trial_kind : Nat} {a_t_trial_hand : Nat} {a_t_trial_leader : Nat} {a_t_trial_course : Nat} {a_t_rows : Nat} {a_t_tape : Nat} {a_t_reader : Nat} {a_t_acts : Nat} {a_t_ways : Nat} {a_t_asks : Nat} {a_t_images : Nat} {a_t_imageKept : Nat} {a_t_now_course : Nat} {t_latestFault : Int32} {t_latestFinding : Int32} {t_now_players : Int32} {t_now_round : Int32} {t_now_time : Int32} {t_now_kind : (Nat → Int32)} {t_now_hand : (Nat → Int32)} {t_now_leader : (Nat → Int32)} {t_trial_players : Int32} {t_trial_round : Int32} {t_trial_time : Int32} {t_trial_kind : (Nat → Int32)} {t_trial_hand : (Nat → Int32)} {t_trial_leader : (Nat → Int32)} {t_trial_course_first : Int32} {t_trial_course_second : Int32} {t_trial_course_thrown : Int32} {l1 : Int32} : ∀ R : Int32 × Int32 × Int32 × Int32 × (Nat → Int32) × (Nat → Int32) × (Nat → Int32) × Int32 × Int32 × Int32, o_X8_begin N t_now_players t_now_round t_now_time t_now_kind t_now_hand t_now_leader t_trial_players t_trial_round t_trial_time t_trial_kind t_trial_hand t_trial_leader t_trial_course_first t_trial_course_second t_trial_course_thrown l1 = some R → ZMi sK sV l yX8_begin wsX8_begin rmX8_begin D (zty cI cB cZ) [.ref a_t, .int l1] [(a_t, .inr (8, [.ref a_t_rows, .ref a_t_tape, .ref a_t_reader, .ref a_t_now, .ref a_t_trial, .ref a_t_acts, .ref a_t_ways, .ref a_t_asks, .ref a_t_images, .ref a_t_imageKept, .int t_latestFault, .int t_latestFinding])), (a_t_now, .inr (3, [.int t_now_players, .int t_now_round, .int t_now_time, .ref a_t_now_kind, .ref a_t_now_hand, .ref a_t_now_leader, .ref a_t_now_course])), (a_t_now_kind, .inl (cI, 8, .inl t_now_kind)), (a_t_now_hand, .inl (cI, 8, .inl t_now_hand)), (a_t_now_leader, .inl (cI, 8, .inl t_now_leader)), (a_t_trial, .inr (3, [.int t_trial_players, .int t_trial_round, .int t_trial_time, .ref a_t_trial_kind, .ref a_t_trial_hand, .ref a_t_trial_leader, .ref a_t_trial_course])), (a_t_trial_kind, .inl (cI, 8, .inl t_trial_kind)), (a_t_trial_hand, .inl (cI, 8, .inl t_trial_hand)), (a_t_trial_leader, .inl (cI, 8, .inl t_trial_leader)), (a_t_trial_course, .inr (2, [.int t_trial_course_first, .int t_trial_course_second, .int t_trial_course_thrown]))] R.1 [(a_t, .inr (8, [.ref a_t_rows, .ref a_t_tape, .ref a_t_reader, .ref a_t_now, .ref a_t_trial, .ref a_t_acts, .ref a_t_ways, .ref a_t_asks, .ref a_t_images, .ref a_t_imageKept, .int t_latestFault, .int t_latestFinding])), (a_t_now, .inr (3, [.int t_now_players, .int t_now_round, .int t_now_time, .ref a_t_now_kind, .ref a_t_now_hand, .ref a_t_now_leader, .ref a_t_now_course])), (a_t_now_kind, .inl (cI, 8, .inl t_now_kind)), (a_t_now_hand, .inl (cI, 8, .inl t_now_hand)), (a_t_now_leader, .inl (cI, 8, .inl t_now_leader)), (a_t_trial, .inr (3, [.int R.2.1, .int R.2.2.1, .int R.2.2.2.1, .ref a_t_trial_kind, .ref a_t_trial_hand, .ref a_t_trial_leader, .ref a_t_trial_course])), (a_t_trial_kind, .inl (cI, 8, .inl R.2.2.2.2.1)), (a_t_trial_hand, .inl (cI, 8, .inl R.2.2.2.2.2.1)), (a_t_trial_leader, .inl (cI, 8, .inl R.2.2.2.2.2.2.1)), (a_t_trial_course, .inr (2, [.int R.2.2.2.2.2.2.2.1, .int R.2.2.2.2.2.2.2.2.1, .int R.2.2.2.2.2.2.2.2.2]))] := by
  intro R hR
  refine zi_of (cc := cX8_begin) (maxL := 6) (ret := (some .int)) (by decide) rfl (Nat.le_of_ble_eq_true rfl) (fun E hE1 hE2 hC hN hQ => ?_)
  subst hE1 hE2
  exact z_X8_begin_0 hC hN (N := N) (a_t := a_t) (a_t_now := a_t_now) (a_t_now_kind := a_t_now_kind) (a_t_now_hand := a_t_now_hand) (a_t_now_leader := a_t_now_leader) (a_t_trial := a_t_trial) (a_t_trial_kind := a_t_trial_kind) (a_t_trial_hand := a_t_trial_hand) (a_t_trial_leader := a_t_trial_leader) (a_t_trial_course := a_t_trial_course) (a_t_rows := a_t_rows) (a_t_tape := a_t_tape) (a_t_reader := a_t_reader) (a_t_acts := a_t_acts) (a_t_ways := a_t_ways) (a_t_asks := a_t_asks) (a_t_images := a_t_images) (a_t_imageKept := a_t_imageKept) (a_t_now_course := a_t_now_course) (t_latestFault := t_latestFault) (t_latestFinding := t_latestFinding) (t_now_players := t_now_players) (t_now_round := t_now_round) (t_now_time := t_now_time) (t_now_kind := t_now_kind) (t_now_hand := t_now_hand) (t_now_leader := t_now_leader) (t_trial_players := t_trial_players) (t_trial_round := t_trial_round) (t_trial_time := t_trial_time) (t_trial_kind := t_trial_kind) (t_trial_hand := t_trial_hand) (t_trial_leader := t_trial_leader) (t_trial_course_first := t_trial_course_first) (t_trial_course_second := t_trial_course_second) (t_trial_course_thrown := t_trial_course_thrown) (l1 := l1) hQ hR

/-! FistTrains.seek -/
abbrev rmX8_seek : Room := { frames := 6, cells := 0, slots := 0, locals := 141 }
set_option maxRecDepth 20000 in
theorem iX8_seek_X8 : ∀ w ∈ wsX80, w ∈ wsX8_seek := by decide +kernel
set_option maxRecDepth 20000 in
theorem mX8_seek_2 : Cond.fieldLink RX8 35 "FistTrains" "now" "LFistTrains$Hall;" ∈ wsX8_seek := List.mem_of_getElem? (i := 2) rfl
set_option maxRecDepth 20000 in
theorem mX8_seek_3 : Cond.constant RX8 164 (-1000002) ∈ wsX8_seek := List.mem_of_getElem? (i := 3) rfl
set_option maxRecDepth 20000 in
theorem mX8_seek_1 : Cond.constant RX8 82 (-1000001) ∈ wsX8_seek := List.mem_of_getElem? (i := 1) rfl
set_option maxRecDepth 20000 in
theorem iX8_seek_X3 : ∀ w ∈ wsX30, w ∈ wsX8_seek := by decide +kernel
set_option maxRecDepth 20000 in
theorem mX8_seek_4 : Cond.fieldLink RX8 154 "FistTrains$Hall" "players" "I" ∈ wsX8_seek := List.mem_of_getElem? (i := 4) rfl
set_option maxRecDepth 20000 in
theorem mX8_seek_5 : Cond.fieldLink RX8 39 "FistTrains" "trial" "LFistTrains$Hall;" ∈ wsX8_seek := List.mem_of_getElem? (i := 5) rfl
def o_X8_seek_29 (N : Nat) (t_now_players : Int32) (t_now_round : Int32) (t_now_time : Int32) (t_now_kind : (Nat → Int32)) (t_now_hand : (Nat → Int32)) (t_now_leader : (Nat → Int32)) (l1 : Int32) : Nat → Int32 → Int32 → Int32 → (Nat → Int32) → (Nat → Int32) → (Nat → Int32) → Int32 → Int32 → Int32 → Int32 → Int32 → Option (Int32 × Int32 × Int32 × Int32 × (Nat → Int32) × (Nat → Int32) × (Nat → Int32) × Int32 × Int32 × Int32)
  | 0 => fun _ _ _ _ _ _ _ _ _ _ _ => none
  | n + 1 => fun t_trial_players t_trial_round t_trial_time t_trial_kind t_trial_hand t_trial_leader t_trial_course_first t_trial_course_second t_trial_course_thrown l2 l3 => 
    if t_now_players ≤ l3 then
      some (l2, t_trial_players, t_trial_round, t_trial_time, t_trial_kind, t_trial_hand, t_trial_leader, t_trial_course_first, t_trial_course_second, t_trial_course_thrown)
    else
      if l3 = l1 then
        o_X8_seek_29 N t_now_players t_now_round t_now_time t_now_kind t_now_hand t_now_leader l1 n t_trial_players t_trial_round t_trial_time t_trial_kind t_trial_hand t_trial_leader t_trial_course_first t_trial_course_second t_trial_course_thrown l2 (l3 + 1)
      else
        Option.bind (o_X3_leads N t_now_leader l3) (fun r50 =>
        if r50 = 0 then
          o_X8_seek_29 N t_now_players t_now_round t_now_time t_now_kind t_now_hand t_now_leader l1 n t_trial_players t_trial_round t_trial_time t_trial_kind t_trial_hand t_trial_leader t_trial_course_first t_trial_course_second t_trial_course_thrown l2 (l3 + 1)
        else
          Option.bind (o_X3_become N t_trial_kind t_trial_hand t_trial_leader t_now_players t_now_round t_now_time t_now_kind t_now_hand t_now_leader) (fun r64 =>
          Option.bind (o_X3_meet N r64.1 r64.2.2.2.1 r64.2.2.2.2.1 r64.2.2.2.2.2 l1 l3) (fun r73 =>
          Option.bind (o_X3_playToTheEnd N r64.1 r64.2.1 r64.2.2.1 r64.2.2.2.1 r73.2.1 r73.2.2.1 r73.2.2.2.1 r73.2.2.2.2.1 r73.2.2.2.2.2) (fun r81 =>
          Option.bind (o_X3_leads N r81.2.2.2.1 l1) (fun r89 =>
          if r89 = 0 then
            o_X8_seek_29 N t_now_players t_now_round t_now_time t_now_kind t_now_hand t_now_leader l1 n r64.1 r81.1 r81.2.1 r64.2.2.2.1 r81.2.2.1 r81.2.2.2.1 r81.2.2.2.2.1 r81.2.2.2.2.2.1 r81.2.2.2.2.2.2 l2 (l3 + 1)
          else
            o_X8_seek_29 N t_now_players t_now_round t_now_time t_now_kind t_now_hand t_now_leader l1 n r64.1 r81.1 r81.2.1 r64.2.2.2.1 r81.2.2.1 r81.2.2.2.1 r81.2.2.2.2.1 r81.2.2.2.2.2.1 r81.2.2.2.2.2.2 (l2 ||| (1 <<< (l3 &&& 31))) (l3 + 1))))))
def o_X8_seek (N : Nat) (t_now_players : Int32) (t_now_round : Int32) (t_now_time : Int32) (t_now_kind : (Nat → Int32)) (t_now_hand : (Nat → Int32)) (t_now_leader : (Nat → Int32)) (t_trial_players : Int32) (t_trial_round : Int32) (t_trial_time : Int32) (t_trial_kind : (Nat → Int32)) (t_trial_hand : (Nat → Int32)) (t_trial_leader : (Nat → Int32)) (t_trial_course_first : Int32) (t_trial_course_second : Int32) (t_trial_course_thrown : Int32) (l1 : Int32) : Option (Int32 × Int32 × Int32 × Int32 × (Nat → Int32) × (Nat → Int32) × (Nat → Int32) × Int32 × Int32 × Int32) :=
  Option.bind (o_X8_isPlayer N t_now_players l1) (fun r2 =>
  if r2 = 0 then
    some ((-1000001), t_trial_players, t_trial_round, t_trial_time, t_trial_kind, t_trial_hand, t_trial_leader, t_trial_course_first, t_trial_course_second, t_trial_course_thrown)
  else
    Option.bind (o_X3_leads N t_now_leader l1) (fun r16 =>
    if r16 = 0 then
      some ((-1000002), t_trial_players, t_trial_round, t_trial_time, t_trial_kind, t_trial_hand, t_trial_leader, t_trial_course_first, t_trial_course_second, t_trial_course_thrown)
    else
      o_X8_seek_29 N t_now_players t_now_round t_now_time t_now_kind t_now_hand t_now_leader l1 N t_trial_players t_trial_round t_trial_time t_trial_kind t_trial_hand t_trial_leader t_trial_course_first t_trial_course_second t_trial_course_thrown 0 0))
set_option maxHeartbeats 4000000 in
set_option maxRecDepth 100000 in
theorem z_X8_seek_29 {sK sV : Nat → Nat} {E : ZE} {cI cB cZ : ClassId} (hC : ZC E 4 cX8_seek wsX8_seek RX8 rmX8_seek (some .int) (zty cI cB cZ)) (hN : ZN sK sV (zA E) (zs E)) {N : Nat} {a_t : Nat} {a_t_now : Nat} {a_t_now_kind : Nat} {a_t_now_hand : Nat} {a_t_now_leader : Nat} {a_t_trial : Nat} {a_t_trial_kind : Nat} {a_t_trial_hand : Nat} {a_t_trial_leader : Nat} {a_t_trial_course : Nat} {a_t_rows : Nat} {a_t_tape : Nat} {a_t_reader : Nat} {a_t_acts : Nat} {a_t_ways : Nat} {a_t_asks : Nat} {a_t_images : Nat} {a_t_imageKept : Nat} {a_t_now_course : Nat} {t_latestFault : Int32} {t_latestFinding : Int32} {t_now_players : Int32} {t_now_round : Int32} {t_now_time : Int32} {t_now_kind : (Nat → Int32)} {t_now_hand : (Nat → Int32)} {t_now_leader : (Nat → Int32)} {l1 : Int32} {rf : Int32 × Int32 × Int32 × Int32 × (Nat → Int32) × (Nat → Int32) × (Nat → Int32) × Int32 × Int32 × Int32} (hQ : ZQi E (zty cI cB cZ) rf.1 [(a_t, .inr (8, [.ref a_t_rows, .ref a_t_tape, .ref a_t_reader, .ref a_t_now, .ref a_t_trial, .ref a_t_acts, .ref a_t_ways, .ref a_t_asks, .ref a_t_images, .ref a_t_imageKept, .int t_latestFault, .int t_latestFinding])), (a_t_now, .inr (3, [.int t_now_players, .int t_now_round, .int t_now_time, .ref a_t_now_kind, .ref a_t_now_hand, .ref a_t_now_leader, .ref a_t_now_course])), (a_t_now_kind, .inl (cI, 8, .inl t_now_kind)), (a_t_now_hand, .inl (cI, 8, .inl t_now_hand)), (a_t_now_leader, .inl (cI, 8, .inl t_now_leader)), (a_t_trial, .inr (3, [.int rf.2.1, .int rf.2.2.1, .int rf.2.2.2.1, .ref a_t_trial_kind, .ref a_t_trial_hand, .ref a_t_trial_leader, .ref a_t_trial_course])), (a_t_trial_kind, .inl (cI, 8, .inl rf.2.2.2.2.1)), (a_t_trial_hand, .inl (cI, 8, .inl rf.2.2.2.2.2.1)), (a_t_trial_leader, .inl (cI, 8, .inl rf.2.2.2.2.2.2.1)), (a_t_trial_course, .inr (2, [.int rf.2.2.2.2.2.2.2.1, .int rf.2.2.2.2.2.2.2.2.1, .int rf.2.2.2.2.2.2.2.2.2]))]) : ∀ (n : Nat) (t_trial_players : Int32) (t_trial_round : Int32) (t_trial_time : Int32) (t_trial_kind : (Nat → Int32)) (t_trial_hand : (Nat → Int32)) (t_trial_leader : (Nat → Int32)) (t_trial_course_first : Int32) (t_trial_course_second : Int32) (t_trial_course_thrown : Int32) (l2 : Int32) (l3 : Int32), o_X8_seek_29 N t_now_players t_now_round t_now_time t_now_kind t_now_hand t_now_leader l1 n t_trial_players t_trial_round t_trial_time t_trial_kind t_trial_hand t_trial_leader t_trial_course_first t_trial_course_second t_trial_course_thrown l2 l3 = some rf → Z E (0, 0) [(0, .ref a_t), (1, .int l1), (2, .int l2), (3, .int l3)] 29 [] [(a_t, .inr (8, [.ref a_t_rows, .ref a_t_tape, .ref a_t_reader, .ref a_t_now, .ref a_t_trial, .ref a_t_acts, .ref a_t_ways, .ref a_t_asks, .ref a_t_images, .ref a_t_imageKept, .int t_latestFault, .int t_latestFinding])), (a_t_now, .inr (3, [.int t_now_players, .int t_now_round, .int t_now_time, .ref a_t_now_kind, .ref a_t_now_hand, .ref a_t_now_leader, .ref a_t_now_course])), (a_t_now_kind, .inl (cI, 8, .inl t_now_kind)), (a_t_now_hand, .inl (cI, 8, .inl t_now_hand)), (a_t_now_leader, .inl (cI, 8, .inl t_now_leader)), (a_t_trial, .inr (3, [.int t_trial_players, .int t_trial_round, .int t_trial_time, .ref a_t_trial_kind, .ref a_t_trial_hand, .ref a_t_trial_leader, .ref a_t_trial_course])), (a_t_trial_kind, .inl (cI, 8, .inl t_trial_kind)), (a_t_trial_hand, .inl (cI, 8, .inl t_trial_hand)), (a_t_trial_leader, .inl (cI, 8, .inl t_trial_leader)), (a_t_trial_course, .inr (2, [.int t_trial_course_first, .int t_trial_course_second, .int t_trial_course_thrown]))] := by
  intro n
  induction n with
  | zero =>
    intro t_trial_players t_trial_round t_trial_time t_trial_kind t_trial_hand t_trial_leader t_trial_course_first t_trial_course_second t_trial_course_thrown l2 l3 hR
    cases hR
  | succ n ih =>
    intro t_trial_players t_trial_round t_trial_time t_trial_kind t_trial_hand t_trial_leader t_trial_course_first t_trial_course_second t_trial_course_thrown l2 l3 hR
    rw [o_X8_seek_29] at hR
    refine z_iload_n hC dX8_seek_29 rfl 3 rfl ?_
    refine z_aload_n hC dX8_seek_30 rfl 0 rfl ?_
    refine z_get hC iX8_seek_X8 rfl 0 3 rfl (by decide) mX8_seek_2 rfl rfl dX8_seek_31 ?_
    refine z_get hC iX8_seek_X3 rfl 1 0 rfl (by decide) mX8_seek_4 rfl rfl dX8_seek_34 ?_
    refine z_icmp_ge hC 107 dX8_seek_37 (by decide) hR (fun hR => ?_) (fun hR => ?_)
    · refine z_iload_n hC dX8_seek_107 rfl 2 rfl ?_
      obtain rfl := Option.some.inj hR
      exact z_iret hC hQ rfl rfl rfl dX8_seek_108
    · refine z_iload_n hC dX8_seek_40 rfl 3 rfl ?_
      refine z_iload_n hC dX8_seek_41 rfl 1 rfl ?_
      refine z_icmp_eq hC 101 dX8_seek_42 (by decide) hR (fun hR => ?_) (fun hR => ?_)
      · refine z_iinc1 hC [(3, .int (l3 + 1)), (0, .ref a_t), (1, .int l1), (2, .int l2)] dX8_seek_101 3 rfl (by decide) rfl ?_
        refine z_goto hC 29 dX8_seek_104 (by decide) ?_
        refine z_sub (lv' := [(0, .ref a_t), (1, .int l1), (2, .int l2), (3, .int (l3 + 1))]) [1, 2, 3, 0] rfl ?_
        exact ih t_trial_players t_trial_round t_trial_time t_trial_kind t_trial_hand t_trial_leader t_trial_course_first t_trial_course_second t_trial_course_thrown l2 (l3 + 1) hR
      · refine z_aload_n hC dX8_seek_45 rfl 0 rfl ?_
        refine z_get hC iX8_seek_X8 rfl 0 3 rfl (by decide) mX8_seek_2 rfl rfl dX8_seek_46 ?_
        refine z_iload_n hC dX8_seek_49 rfl 3 rfl ?_
        refine z_callVi_p hC hN [.int l3] [1, 4] (c_X3_leads (l := zl E) (D := zD E) (cI := cI) (cB := cB) (cZ := cZ) (N := N) (a_t := a_t_now) (a_t_kind := a_t_now_kind) (a_t_hand := a_t_now_hand) (a_t_leader := a_t_now_leader) (a_t_course := a_t_now_course) (l1 := l3) (t_players := t_now_players) (t_round := t_now_round) (t_time := t_now_time) (t_leader := t_now_leader)) rfl ⟨rfl, rfl⟩ gX8_seek_X3_leads hvX3_leads 1 3 rfl rfl rfl ⟨Nat.le_of_ble_eq_true rfl, Nat.le_of_ble_eq_true rfl⟩ ⟨Nat.zero_le _, Nat.zero_le _⟩ rfl (Nat.le_of_ble_eq_true rfl) rfl (by decide) dX8_seek_50 hR (fun r50 hR => ?_)
        refine z_if_eq hC 101 dX8_seek_53 (by decide) hR (fun hR => ?_) (fun hR => ?_)
        · refine z_iinc1 hC [(3, .int (l3 + 1)), (0, .ref a_t), (1, .int l1), (2, .int l2)] dX8_seek_101 3 rfl (by decide) rfl ?_
          refine z_goto hC 29 dX8_seek_104 (by decide) ?_
          refine z_sub (lv' := [(0, .ref a_t), (1, .int l1), (2, .int l2), (3, .int (l3 + 1))]) [1, 2, 3, 0] rfl ?_
          exact ih t_trial_players t_trial_round t_trial_time t_trial_kind t_trial_hand t_trial_leader t_trial_course_first t_trial_course_second t_trial_course_thrown l2 (l3 + 1) hR
        · refine z_aload_n hC dX8_seek_56 rfl 0 rfl ?_
          refine z_get hC iX8_seek_X8 rfl 0 4 rfl (by decide) mX8_seek_5 rfl rfl dX8_seek_57 ?_
          refine z_aload_n hC dX8_seek_60 rfl 0 rfl ?_
          refine z_get hC iX8_seek_X8 rfl 0 3 rfl (by decide) mX8_seek_2 rfl rfl dX8_seek_61 ?_
          refine z_callVv hC hN [.ref a_t_now] [5, 6, 7, 8, 1, 2, 3, 4] (c_X3_become (l := zl E) (D := zD E) (cI := cI) (cB := cB) (cZ := cZ) (N := N) (a_t := a_t_trial) (a_t_kind := a_t_trial_kind) (a_t_hand := a_t_trial_hand) (a_t_leader := a_t_trial_leader) (a_t_course := a_t_trial_course) (a_p1 := a_t_now) (a_p1_kind := a_t_now_kind) (a_p1_hand := a_t_now_hand) (a_p1_leader := a_t_now_leader) (a_p1_course := a_t_now_course) (t_players := t_trial_players) (t_round := t_trial_round) (t_time := t_trial_time) (t_kind := t_trial_kind) (t_hand := t_trial_hand) (t_leader := t_trial_leader) (p1_players := t_now_players) (p1_round := t_now_round) (p1_time := t_now_time) (p1_kind := t_now_kind) (p1_hand := t_now_hand) (p1_leader := t_now_leader)) rfl ⟨rfl, rfl⟩ gX8_seek_X3_become hvX3_become 5 3 rfl rfl rfl ⟨Nat.le_of_ble_eq_true rfl, Nat.le_of_ble_eq_true rfl⟩ ⟨Nat.zero_le _, Nat.zero_le _⟩ rfl (Nat.le_of_ble_eq_true rfl) rfl (by decide) (fun _ => rfl) dX8_seek_64 hR (fun r64 hR => ?_)
          refine z_eq [(a_t, .inr (8, [.ref a_t_rows, .ref a_t_tape, .ref a_t_reader, .ref a_t_now, .ref a_t_trial, .ref a_t_acts, .ref a_t_ways, .ref a_t_asks, .ref a_t_images, .ref a_t_imageKept, .int t_latestFault, .int t_latestFinding])), (a_t_now, .inr (3, [.int t_now_players, .int t_now_round, .int t_now_time, .ref a_t_now_kind, .ref a_t_now_hand, .ref a_t_now_leader, .ref a_t_now_course])), (a_t_now_kind, .inl (cI, 8, .inl t_now_kind)), (a_t_now_hand, .inl (cI, 8, .inl t_now_hand)), (a_t_now_leader, .inl (cI, 8, .inl t_now_leader)), (a_t_trial, .inr (3, [.int r64.1, .int r64.2.1, .int r64.2.2.1, .ref a_t_trial_kind, .ref a_t_trial_hand, .ref a_t_trial_leader, .ref a_t_trial_course])), (a_t_trial_kind, .inl (cI, 8, .inl r64.2.2.2.1)), (a_t_trial_hand, .inl (cI, 8, .inl r64.2.2.2.2.1)), (a_t_trial_leader, .inl (cI, 8, .inl r64.2.2.2.2.2)), (a_t_trial_course, .inr (2, [.int t_trial_course_first, .int t_trial_course_second, .int t_trial_course_thrown]))] rfl ?_
          refine z_aload_n hC dX8_seek_67 rfl 0 rfl ?_
          refine z_get hC iX8_seek_X8 rfl 0 4 rfl (by decide) mX8_seek_5 rfl rfl dX8_seek_68 ?_
          refine z_iload_n hC dX8_seek_71 rfl 1 rfl ?_
          refine z_iload_n hC dX8_seek_72 rfl 3 rfl ?_
          refine z_callVi hC hN [.int l1, .int l3] [5, 6, 7, 8, 9] (c_X3_meet (l := zl E) (D := zD E) (cI := cI) (cB := cB) (cZ := cZ) (N := N) (a_t := a_t_trial) (a_t_kind := a_t_trial_kind) (a_t_hand := a_t_trial_hand) (a_t_leader := a_t_trial_leader) (a_t_course := a_t_trial_course) (l1 := l1) (l2 := l3) (t_players := r64.1) (t_round := r64.2.1) (t_time := r64.2.2.1) (t_kind := r64.2.2.2.1) (t_hand := r64.2.2.2.2.1) (t_leader := r64.2.2.2.2.2) (t_course_first := t_trial_course_first) (t_course_second := t_trial_course_second) (t_course_thrown := t_trial_course_thrown)) rfl ⟨rfl, rfl⟩ gX8_seek_X3_meet hvX3_meet 5 3 rfl rfl rfl ⟨Nat.le_of_ble_eq_true rfl, Nat.le_of_ble_eq_true rfl⟩ ⟨Nat.zero_le _, Nat.zero_le _⟩ rfl (Nat.le_of_ble_eq_true rfl) rfl (by decide) (fun _ => rfl) dX8_seek_73 hR (fun r73 hR => ?_)
          refine z_eq [(a_t, .inr (8, [.ref a_t_rows, .ref a_t_tape, .ref a_t_reader, .ref a_t_now, .ref a_t_trial, .ref a_t_acts, .ref a_t_ways, .ref a_t_asks, .ref a_t_images, .ref a_t_imageKept, .int t_latestFault, .int t_latestFinding])), (a_t_now, .inr (3, [.int t_now_players, .int t_now_round, .int t_now_time, .ref a_t_now_kind, .ref a_t_now_hand, .ref a_t_now_leader, .ref a_t_now_course])), (a_t_now_kind, .inl (cI, 8, .inl t_now_kind)), (a_t_now_hand, .inl (cI, 8, .inl t_now_hand)), (a_t_now_leader, .inl (cI, 8, .inl t_now_leader)), (a_t_trial, .inr (3, [.int r64.1, .int r64.2.1, .int r64.2.2.1, .ref a_t_trial_kind, .ref a_t_trial_hand, .ref a_t_trial_leader, .ref a_t_trial_course])), (a_t_trial_kind, .inl (cI, 8, .inl r64.2.2.2.1)), (a_t_trial_hand, .inl (cI, 8, .inl r73.2.1)), (a_t_trial_leader, .inl (cI, 8, .inl r73.2.2.1)), (a_t_trial_course, .inr (2, [.int r73.2.2.2.1, .int r73.2.2.2.2.1, .int r73.2.2.2.2.2]))] rfl ?_
          refine z_pop hC dX8_seek_76 rfl ?_
          refine z_aload_n hC dX8_seek_77 rfl 0 rfl ?_
          refine z_get hC iX8_seek_X8 rfl 0 4 rfl (by decide) mX8_seek_5 rfl rfl dX8_seek_78 ?_
          refine z_callVv hC hN [] [5, 6, 7, 8, 9] (c_X3_playToTheEnd (l := zl E) (D := zD E) (cI := cI) (cB := cB) (cZ := cZ) (N := N) (a_t := a_t_trial) (a_t_kind := a_t_trial_kind) (a_t_hand := a_t_trial_hand) (a_t_leader := a_t_trial_leader) (a_t_course := a_t_trial_course) (t_players := r64.1) (t_round := r64.2.1) (t_time := r64.2.2.1) (t_kind := r64.2.2.2.1) (t_hand := r73.2.1) (t_leader := r73.2.2.1) (t_course_first := r73.2.2.2.1) (t_course_second := r73.2.2.2.2.1) (t_course_thrown := r73.2.2.2.2.2)) rfl ⟨rfl, rfl⟩ gX8_seek_X3_playToTheEnd hvX3_playToTheEnd 5 3 rfl rfl rfl ⟨Nat.le_of_ble_eq_true rfl, Nat.le_of_ble_eq_true rfl⟩ ⟨Nat.zero_le _, Nat.zero_le _⟩ rfl (Nat.le_of_ble_eq_true rfl) rfl (by decide) (fun _ => rfl) dX8_seek_81 hR (fun r81 hR => ?_)
          refine z_eq [(a_t, .inr (8, [.ref a_t_rows, .ref a_t_tape, .ref a_t_reader, .ref a_t_now, .ref a_t_trial, .ref a_t_acts, .ref a_t_ways, .ref a_t_asks, .ref a_t_images, .ref a_t_imageKept, .int t_latestFault, .int t_latestFinding])), (a_t_now, .inr (3, [.int t_now_players, .int t_now_round, .int t_now_time, .ref a_t_now_kind, .ref a_t_now_hand, .ref a_t_now_leader, .ref a_t_now_course])), (a_t_now_kind, .inl (cI, 8, .inl t_now_kind)), (a_t_now_hand, .inl (cI, 8, .inl t_now_hand)), (a_t_now_leader, .inl (cI, 8, .inl t_now_leader)), (a_t_trial, .inr (3, [.int r64.1, .int r81.1, .int r81.2.1, .ref a_t_trial_kind, .ref a_t_trial_hand, .ref a_t_trial_leader, .ref a_t_trial_course])), (a_t_trial_kind, .inl (cI, 8, .inl r64.2.2.2.1)), (a_t_trial_hand, .inl (cI, 8, .inl r81.2.2.1)), (a_t_trial_leader, .inl (cI, 8, .inl r81.2.2.2.1)), (a_t_trial_course, .inr (2, [.int r81.2.2.2.2.1, .int r81.2.2.2.2.2.1, .int r81.2.2.2.2.2.2]))] rfl ?_
          refine z_aload_n hC dX8_seek_84 rfl 0 rfl ?_
          refine z_get hC iX8_seek_X8 rfl 0 4 rfl (by decide) mX8_seek_5 rfl rfl dX8_seek_85 ?_
          refine z_iload_n hC dX8_seek_88 rfl 1 rfl ?_
          refine z_callVi_p hC hN [.int l1] [5, 8] (c_X3_leads (l := zl E) (D := zD E) (cI := cI) (cB := cB) (cZ := cZ) (N := N) (a_t := a_t_trial) (a_t_kind := a_t_trial_kind) (a_t_hand := a_t_trial_hand) (a_t_leader := a_t_trial_leader) (a_t_course := a_t_trial_course) (l1 := l1) (t_players := r64.1) (t_round := r81.1) (t_time := r81.2.1) (t_leader := r81.2.2.2.1)) rfl ⟨rfl, rfl⟩ gX8_seek_X3_leads hvX3_leads 5 3 rfl rfl rfl ⟨Nat.le_of_ble_eq_true rfl, Nat.le_of_ble_eq_true rfl⟩ ⟨Nat.zero_le _, Nat.zero_le _⟩ rfl (Nat.le_of_ble_eq_true rfl) rfl (by decide) dX8_seek_89 hR (fun r89 hR => ?_)
          refine z_if_eq hC 101 dX8_seek_92 (by decide) hR (fun hR => ?_) (fun hR => ?_)
          · refine z_iinc1 hC [(3, .int (l3 + 1)), (0, .ref a_t), (1, .int l1), (2, .int l2)] dX8_seek_101 3 rfl (by decide) rfl ?_
            refine z_goto hC 29 dX8_seek_104 (by decide) ?_
            refine z_sub (lv' := [(0, .ref a_t), (1, .int l1), (2, .int l2), (3, .int (l3 + 1))]) [1, 2, 3, 0] rfl ?_
            exact ih r64.1 r81.1 r81.2.1 r64.2.2.2.1 r81.2.2.1 r81.2.2.2.1 r81.2.2.2.2.1 r81.2.2.2.2.2.1 r81.2.2.2.2.2.2 l2 (l3 + 1) hR
          · refine z_iload_n hC dX8_seek_95 rfl 2 rfl ?_
            refine z_ic1 hC dX8_seek_96 ?_
            refine z_iload_n hC dX8_seek_97 rfl 3 rfl ?_
            refine z_ishl hC dX8_seek_98 ?_
            refine z_ior hC dX8_seek_99 ?_
            refine z_istore_n hC [(2, .int (l2 ||| (1 <<< (l3 &&& 31)))), (0, .ref a_t), (1, .int l1), (3, .int l3)] dX8_seek_100 rfl (by decide) rfl ?_
            refine z_iinc1 hC [(3, .int (l3 + 1)), (2, .int (l2 ||| (1 <<< (l3 &&& 31)))), (0, .ref a_t), (1, .int l1)] dX8_seek_101 3 rfl (by decide) rfl ?_
            refine z_goto hC 29 dX8_seek_104 (by decide) ?_
            refine z_sub (lv' := [(0, .ref a_t), (1, .int l1), (2, .int (l2 ||| (1 <<< (l3 &&& 31)))), (3, .int (l3 + 1))]) [2, 3, 1, 0] rfl ?_
            exact ih r64.1 r81.1 r81.2.1 r64.2.2.2.1 r81.2.2.1 r81.2.2.2.1 r81.2.2.2.2.1 r81.2.2.2.2.2.1 r81.2.2.2.2.2.2 (l2 ||| (1 <<< (l3 &&& 31))) (l3 + 1) hR
set_option maxHeartbeats 4000000 in
set_option maxRecDepth 100000 in
theorem z_X8_seek_0 {sK sV : Nat → Nat} {E : ZE} {cI cB cZ : ClassId} (hC : ZC E 4 cX8_seek wsX8_seek RX8 rmX8_seek (some .int) (zty cI cB cZ)) (hN : ZN sK sV (zA E) (zs E)) {N : Nat} {a_t : Nat} {a_t_now : Nat} {a_t_now_kind : Nat} {a_t_now_hand : Nat} {a_t_now_leader : Nat} {a_t_trial : Nat} {a_t_trial_kind : Nat} {a_t_trial_hand : Nat} {a_t_trial_leader : Nat} {a_t_trial_course : Nat} {a_t_rows : Nat} {a_t_tape : Nat} {a_t_reader : Nat} {a_t_acts : Nat} {a_t_ways : Nat} {a_t_asks : Nat} {a_t_images : Nat} {a_t_imageKept : Nat} {a_t_now_course : Nat} {t_latestFault : Int32} {t_latestFinding : Int32} {t_now_players : Int32} {t_now_round : Int32} {t_now_time : Int32} {t_now_kind : (Nat → Int32)} {t_now_hand : (Nat → Int32)} {t_now_leader : (Nat → Int32)} {t_trial_players : Int32} {t_trial_round : Int32} {t_trial_time : Int32} {t_trial_kind : (Nat → Int32)} {t_trial_hand : (Nat → Int32)} {t_trial_leader : (Nat → Int32)} {t_trial_course_first : Int32} {t_trial_course_second : Int32} {t_trial_course_thrown : Int32} {l1 : Int32} {rf : Int32 × Int32 × Int32 × Int32 × (Nat → Int32) × (Nat → Int32) × (Nat → Int32) × Int32 × Int32 × Int32} (hQ : ZQi E (zty cI cB cZ) rf.1 [(a_t, .inr (8, [.ref a_t_rows, .ref a_t_tape, .ref a_t_reader, .ref a_t_now, .ref a_t_trial, .ref a_t_acts, .ref a_t_ways, .ref a_t_asks, .ref a_t_images, .ref a_t_imageKept, .int t_latestFault, .int t_latestFinding])), (a_t_now, .inr (3, [.int t_now_players, .int t_now_round, .int t_now_time, .ref a_t_now_kind, .ref a_t_now_hand, .ref a_t_now_leader, .ref a_t_now_course])), (a_t_now_kind, .inl (cI, 8, .inl t_now_kind)), (a_t_now_hand, .inl (cI, 8, .inl t_now_hand)), (a_t_now_leader, .inl (cI, 8, .inl t_now_leader)), (a_t_trial, .inr (3, [.int rf.2.1, .int rf.2.2.1, .int rf.2.2.2.1, .ref a_t_trial_kind, .ref a_t_trial_hand, .ref a_t_trial_leader, .ref a_t_trial_course])), (a_t_trial_kind, .inl (cI, 8, .inl rf.2.2.2.2.1)), (a_t_trial_hand, .inl (cI, 8, .inl rf.2.2.2.2.2.1)), (a_t_trial_leader, .inl (cI, 8, .inl rf.2.2.2.2.2.2.1)), (a_t_trial_course, .inr (2, [.int rf.2.2.2.2.2.2.2.1, .int rf.2.2.2.2.2.2.2.2.1, .int rf.2.2.2.2.2.2.2.2.2]))]) (hR : o_X8_seek N t_now_players t_now_round t_now_time t_now_kind t_now_hand t_now_leader t_trial_players t_trial_round t_trial_time t_trial_kind t_trial_hand t_trial_leader t_trial_course_first t_trial_course_second t_trial_course_thrown l1 = some rf) : Z E (0, 0) [(0, .ref a_t), (1, .int l1)] 0 [] [(a_t, .inr (8, [.ref a_t_rows, .ref a_t_tape, .ref a_t_reader, .ref a_t_now, .ref a_t_trial, .ref a_t_acts, .ref a_t_ways, .ref a_t_asks, .ref a_t_images, .ref a_t_imageKept, .int t_latestFault, .int t_latestFinding])), (a_t_now, .inr (3, [.int t_now_players, .int t_now_round, .int t_now_time, .ref a_t_now_kind, .ref a_t_now_hand, .ref a_t_now_leader, .ref a_t_now_course])), (a_t_now_kind, .inl (cI, 8, .inl t_now_kind)), (a_t_now_hand, .inl (cI, 8, .inl t_now_hand)), (a_t_now_leader, .inl (cI, 8, .inl t_now_leader)), (a_t_trial, .inr (3, [.int t_trial_players, .int t_trial_round, .int t_trial_time, .ref a_t_trial_kind, .ref a_t_trial_hand, .ref a_t_trial_leader, .ref a_t_trial_course])), (a_t_trial_kind, .inl (cI, 8, .inl t_trial_kind)), (a_t_trial_hand, .inl (cI, 8, .inl t_trial_hand)), (a_t_trial_leader, .inl (cI, 8, .inl t_trial_leader)), (a_t_trial_course, .inr (2, [.int t_trial_course_first, .int t_trial_course_second, .int t_trial_course_thrown]))] := by
  rw [o_X8_seek] at hR
  refine z_aload_n hC dX8_seek_0 rfl 0 rfl ?_
  refine z_iload_n hC dX8_seek_1 rfl 1 rfl ?_
  refine z_callVi_p hC hN [.int l1] [0, 1] (c_X8_isPlayer (l := zl E) (D := zD E) (cI := cI) (cB := cB) (cZ := cZ) (N := N) (a_t := a_t) (a_t_rows := a_t_rows) (a_t_tape := a_t_tape) (a_t_reader := a_t_reader) (a_t_now := a_t_now) (a_t_trial := a_t_trial) (a_t_acts := a_t_acts) (a_t_ways := a_t_ways) (a_t_asks := a_t_asks) (a_t_images := a_t_images) (a_t_imageKept := a_t_imageKept) (a_t_now_kind := a_t_now_kind) (a_t_now_hand := a_t_now_hand) (a_t_now_leader := a_t_now_leader) (a_t_now_course := a_t_now_course) (l1 := l1) (t_latestFault := t_latestFault) (t_latestFinding := t_latestFinding) (t_now_players := t_now_players) (t_now_round := t_now_round) (t_now_time := t_now_time)) rfl ⟨rfl, rfl⟩ gX8_seek_X8_isPlayer hvX8_isPlayer 0 8 rfl rfl rfl ⟨Nat.le_of_ble_eq_true rfl, Nat.le_of_ble_eq_true rfl⟩ ⟨Nat.zero_le _, Nat.zero_le _⟩ rfl (Nat.le_of_ble_eq_true rfl) rfl (by decide) dX8_seek_2 hR (fun r2 hR => ?_)
  refine z_if_ne hC 11 dX8_seek_5 (by decide) hR (fun hR => ?_) (fun hR => ?_)
  · refine z_aload_n hC dX8_seek_11 rfl 0 rfl ?_
    refine z_get hC iX8_seek_X8 rfl 0 3 rfl (by decide) mX8_seek_2 rfl rfl dX8_seek_12 ?_
    refine z_iload_n hC dX8_seek_15 rfl 1 rfl ?_
    refine z_callVi_p hC hN [.int l1] [1, 4] (c_X3_leads (l := zl E) (D := zD E) (cI := cI) (cB := cB) (cZ := cZ) (N := N) (a_t := a_t_now) (a_t_kind := a_t_now_kind) (a_t_hand := a_t_now_hand) (a_t_leader := a_t_now_leader) (a_t_course := a_t_now_course) (l1 := l1) (t_players := t_now_players) (t_round := t_now_round) (t_time := t_now_time) (t_leader := t_now_leader)) rfl ⟨rfl, rfl⟩ gX8_seek_X3_leads hvX3_leads 1 3 rfl rfl rfl ⟨Nat.le_of_ble_eq_true rfl, Nat.le_of_ble_eq_true rfl⟩ ⟨Nat.zero_le _, Nat.zero_le _⟩ rfl (Nat.le_of_ble_eq_true rfl) rfl (by decide) dX8_seek_16 hR (fun r16 hR => ?_)
    refine z_if_ne hC 25 dX8_seek_19 (by decide) hR (fun hR => ?_) (fun hR => ?_)
    · refine z_ic0 hC dX8_seek_25 ?_
      refine z_istore_n hC [(2, .int 0), (0, .ref a_t), (1, .int l1)] dX8_seek_26 rfl (by decide) rfl ?_
      refine z_ic0 hC dX8_seek_27 ?_
      refine z_istore_n hC [(3, .int 0), (2, .int 0), (0, .ref a_t), (1, .int l1)] dX8_seek_28 rfl (by decide) rfl ?_
      refine z_sub (lv' := [(0, .ref a_t), (1, .int l1), (2, .int 0), (3, .int 0)]) [2, 3, 1, 0] rfl ?_
      exact z_X8_seek_29 hC hN (N := N) (a_t := a_t) (a_t_now := a_t_now) (a_t_now_kind := a_t_now_kind) (a_t_now_hand := a_t_now_hand) (a_t_now_leader := a_t_now_leader) (a_t_trial := a_t_trial) (a_t_trial_kind := a_t_trial_kind) (a_t_trial_hand := a_t_trial_hand) (a_t_trial_leader := a_t_trial_leader) (a_t_trial_course := a_t_trial_course) (a_t_rows := a_t_rows) (a_t_tape := a_t_tape) (a_t_reader := a_t_reader) (a_t_acts := a_t_acts) (a_t_ways := a_t_ways) (a_t_asks := a_t_asks) (a_t_images := a_t_images) (a_t_imageKept := a_t_imageKept) (a_t_now_course := a_t_now_course) (t_latestFault := t_latestFault) (t_latestFinding := t_latestFinding) (t_now_players := t_now_players) (t_now_round := t_now_round) (t_now_time := t_now_time) (t_now_kind := t_now_kind) (t_now_hand := t_now_hand) (t_now_leader := t_now_leader) (l1 := l1) hQ  N t_trial_players t_trial_round t_trial_time t_trial_kind t_trial_hand t_trial_leader t_trial_course_first t_trial_course_second t_trial_course_thrown 0 0 hR
    · refine z_ldc hC (-1000002) mX8_seek_3 dX8_seek_22 ?_
      obtain rfl := Option.some.inj hR
      exact z_iret hC hQ rfl rfl rfl dX8_seek_24
  · refine z_ldc hC (-1000001) mX8_seek_1 dX8_seek_8 ?_
    obtain rfl := Option.some.inj hR
    exact z_iret hC hQ rfl rfl rfl dX8_seek_10
set_option maxHeartbeats 4000000 in
set_option maxRecDepth 100000 in
theorem c_X8_seek {sK sV : Nat → Nat} {l : Launch} {D : va_G} {cI cB cZ : ClassId} {N : Nat} {a_t : Nat} {a_t_now : Nat} {a_t_now_kind : Nat} {a_t_now_hand : Nat} {a_t_now_leader : Nat} {a_t_trial : Nat} {a_t_trial_kind : Nat} {a_t_trial_hand : Nat} {a_t_trial_leader : Nat} {a_t_trial_course : Nat} {a_t_rows : Nat} {a_t_tape : Nat} {a_t_reader : Nat} {a_t_acts : Nat} {a_t_ways : Nat} {a_t_asks : Nat} {a_t_images : Nat} {a_t_imageKept : Nat} {a_t_now_course : Nat} {t_latestFault : Int32} {t_latestFinding : Int32} {t_now_players : Int32} {t_now_round : Int32} {t_now_time : Int32} {t_now_kind : (Nat → Int32)} {t_now_hand : (Nat → Int32)} {t_now_leader : (Nat → Int32)} {t_trial_players : Int32} {t_trial_round : Int32} {t_trial_time : Int32} {t_trial_kind : (Nat → Int32)} {t_trial_hand : (Nat → Int32)} {t_trial_leader : (Nat → Int32)} {t_trial_course_first : Int32} {t_trial_course_second : Int32} {t_trial_course_thrown : Int32} {l1 : Int32} : ∀ R : Int32 × Int32 × Int32 × Int32 × (Nat → Int32) × (Nat → Int32) × (Nat → Int32) × Int32 × Int32 × Int32, o_X8_seek N t_now_players t_now_round t_now_time t_now_kind t_now_hand t_now_leader t_trial_players t_trial_round t_trial_time t_trial_kind t_trial_hand t_trial_leader t_trial_course_first t_trial_course_second t_trial_course_thrown l1 = some R → ZMi sK sV l yX8_seek wsX8_seek rmX8_seek D (zty cI cB cZ) [.ref a_t, .int l1] [(a_t, .inr (8, [.ref a_t_rows, .ref a_t_tape, .ref a_t_reader, .ref a_t_now, .ref a_t_trial, .ref a_t_acts, .ref a_t_ways, .ref a_t_asks, .ref a_t_images, .ref a_t_imageKept, .int t_latestFault, .int t_latestFinding])), (a_t_now, .inr (3, [.int t_now_players, .int t_now_round, .int t_now_time, .ref a_t_now_kind, .ref a_t_now_hand, .ref a_t_now_leader, .ref a_t_now_course])), (a_t_now_kind, .inl (cI, 8, .inl t_now_kind)), (a_t_now_hand, .inl (cI, 8, .inl t_now_hand)), (a_t_now_leader, .inl (cI, 8, .inl t_now_leader)), (a_t_trial, .inr (3, [.int t_trial_players, .int t_trial_round, .int t_trial_time, .ref a_t_trial_kind, .ref a_t_trial_hand, .ref a_t_trial_leader, .ref a_t_trial_course])), (a_t_trial_kind, .inl (cI, 8, .inl t_trial_kind)), (a_t_trial_hand, .inl (cI, 8, .inl t_trial_hand)), (a_t_trial_leader, .inl (cI, 8, .inl t_trial_leader)), (a_t_trial_course, .inr (2, [.int t_trial_course_first, .int t_trial_course_second, .int t_trial_course_thrown]))] R.1 [(a_t, .inr (8, [.ref a_t_rows, .ref a_t_tape, .ref a_t_reader, .ref a_t_now, .ref a_t_trial, .ref a_t_acts, .ref a_t_ways, .ref a_t_asks, .ref a_t_images, .ref a_t_imageKept, .int t_latestFault, .int t_latestFinding])), (a_t_now, .inr (3, [.int t_now_players, .int t_now_round, .int t_now_time, .ref a_t_now_kind, .ref a_t_now_hand, .ref a_t_now_leader, .ref a_t_now_course])), (a_t_now_kind, .inl (cI, 8, .inl t_now_kind)), (a_t_now_hand, .inl (cI, 8, .inl t_now_hand)), (a_t_now_leader, .inl (cI, 8, .inl t_now_leader)), (a_t_trial, .inr (3, [.int R.2.1, .int R.2.2.1, .int R.2.2.2.1, .ref a_t_trial_kind, .ref a_t_trial_hand, .ref a_t_trial_leader, .ref a_t_trial_course])), (a_t_trial_kind, .inl (cI, 8, .inl R.2.2.2.2.1)), (a_t_trial_hand, .inl (cI, 8, .inl R.2.2.2.2.2.1)), (a_t_trial_leader, .inl (cI, 8, .inl R.2.2.2.2.2.2.1)), (a_t_trial_course, .inr (2, [.int R.2.2.2.2.2.2.2.1, .int R.2.2.2.2.2.2.2.2.1, .int R.2.2.2.2.2.2.2.2.2]))] := by
  intro R hR
  refine zi_of (cc := cX8_seek) (maxL := 4) (ret := (some .int)) (by decide) rfl (Nat.le_of_ble_eq_true rfl) (fun E hE1 hE2 hC hN hQ => ?_)
  subst hE1 hE2
  exact z_X8_seek_0 hC hN (N := N) (a_t := a_t) (a_t_now := a_t_now) (a_t_now_kind := a_t_now_kind) (a_t_now_hand := a_t_now_hand) (a_t_now_leader := a_t_now_leader) (a_t_trial := a_t_trial) (a_t_trial_kind := a_t_trial_kind) (a_t_trial_hand := a_t_trial_hand) (a_t_trial_leader := a_t_trial_leader) (a_t_trial_course := a_t_trial_course) (a_t_rows := a_t_rows) (a_t_tape := a_t_tape) (a_t_reader := a_t_reader) (a_t_acts := a_t_acts) (a_t_ways := a_t_ways) (a_t_asks := a_t_asks) (a_t_images := a_t_images) (a_t_imageKept := a_t_imageKept) (a_t_now_course := a_t_now_course) (t_latestFault := t_latestFault) (t_latestFinding := t_latestFinding) (t_now_players := t_now_players) (t_now_round := t_now_round) (t_now_time := t_now_time) (t_now_kind := t_now_kind) (t_now_hand := t_now_hand) (t_now_leader := t_now_leader) (t_trial_players := t_trial_players) (t_trial_round := t_trial_round) (t_trial_time := t_trial_time) (t_trial_kind := t_trial_kind) (t_trial_hand := t_trial_hand) (t_trial_leader := t_trial_leader) (t_trial_course_first := t_trial_course_first) (t_trial_course_second := t_trial_course_second) (t_trial_course_thrown := t_trial_course_thrown) (l1 := l1) hQ hR

/-! FistTrains.fewest -/
abbrev rmX8_fewest : Room := { frames := 5, cells := 0, slots := 0, locals := 125 }
set_option maxRecDepth 20000 in
theorem mX8_fewest_1 : Cond.constant RX8 82 (-1000001) ∈ wsX8_fewest := List.mem_of_getElem? (i := 1) rfl
set_option maxRecDepth 20000 in
theorem iX8_fewest_X8 : ∀ w ∈ wsX80, w ∈ wsX8_fewest := by decide +kernel
set_option maxRecDepth 20000 in
theorem mX8_fewest_2 : Cond.fieldLink RX8 35 "FistTrains" "now" "LFistTrains$Hall;" ∈ wsX8_fewest := List.mem_of_getElem? (i := 2) rfl
set_option maxRecDepth 20000 in
theorem mX8_fewest_4 : Cond.fieldLink RX8 52 "FistTrains" "ways" "LFistTrains$Ways;" ∈ wsX8_fewest := List.mem_of_getElem? (i := 4) rfl
set_option maxRecDepth 20000 in
theorem mX8_fewest_5 : Cond.constant RX8 243 (1073741824) ∈ wsX8_fewest := List.mem_of_getElem? (i := 5) rfl
set_option maxRecDepth 20000 in
theorem iX8_fewest_X3 : ∀ w ∈ wsX30, w ∈ wsX8_fewest := by decide +kernel
set_option maxRecDepth 20000 in
theorem mX8_fewest_7 : Cond.fieldLink RX8 196 "FistTrains$Hall" "hand" "[I" ∈ wsX8_fewest := List.mem_of_getElem? (i := 7) rfl
set_option maxRecDepth 20000 in
theorem mX8_fewest_6 : Cond.constant RX8 244 (-1000000) ∈ wsX8_fewest := List.mem_of_getElem? (i := 6) rfl
set_option maxRecDepth 20000 in
theorem mX8_fewest_3 : Cond.constant RX8 164 (-1000002) ∈ wsX8_fewest := List.mem_of_getElem? (i := 3) rfl
def o_X8_fewest_24 (N : Nat) (a_t_ways_best : Nat) (a_t_ways_better : Nat) (t_now_players : Int32) (t_now_kind : (Nat → Int32)) (t_now_hand : (Nat → Int32)) (t_now_leader : (Nat → Int32)) (t_ways_groups : Int32) (t_ways_group : (Nat → Int32)) (t_ways_train : (Nat → Int32)) (t_ways_best : (Nat → Int32)) (t_ways_better : (Nat → Int32)) (t_ways_course_first : Int32) (t_ways_course_second : Int32) (t_ways_course_thrown : Int32) (l1 : Int32) (l2 : Int32) : Option (Int32 × Int32 × Nat × Nat × (Nat → Int32) × (Nat → Int32) × (Nat → Int32) × (Nat → Int32) × Int32 × Int32 × Int32) :=
  Option.bind (o_X3_leads N t_now_leader l1) (fun r29 =>
  if r29 = 0 then
    some ((-1000002), t_ways_groups, a_t_ways_best, a_t_ways_better, t_ways_group, t_ways_train, t_ways_best, t_ways_better, t_ways_course_first, t_ways_course_second, t_ways_course_thrown)
  else
    Option.bind (o_X7_bestFor N a_t_ways_best a_t_ways_better t_ways_group t_ways_train t_ways_best t_ways_better t_ways_course_first t_ways_course_second t_ways_course_thrown t_now_players t_now_kind t_now_hand t_now_leader l1) (fun r47 =>
    if r47.1 = 1073741824 then
      some ((-1000000), r47.2.1, r47.2.2.1, r47.2.2.2.1, r47.2.2.2.2.1, r47.2.2.2.2.2.1, r47.2.2.2.2.2.2.1, r47.2.2.2.2.2.2.2.1, r47.2.2.2.2.2.2.2.2.1, r47.2.2.2.2.2.2.2.2.2.1, r47.2.2.2.2.2.2.2.2.2.2)
    else
      if l2 = (-1) then
        Option.bind (o_X7_othersOf N r47.1) (fun r66 =>
        some (r66, r47.2.1, r47.2.2.1, r47.2.2.2.1, r47.2.2.2.2.1, r47.2.2.2.2.2.1, r47.2.2.2.2.2.2.1, r47.2.2.2.2.2.2.2.1, r47.2.2.2.2.2.2.2.2.1, r47.2.2.2.2.2.2.2.2.2.1, r47.2.2.2.2.2.2.2.2.2.2))
      else
        Option.bind (o_X3_leads N t_now_leader l2) (fun r75 =>
        if r75 = 0 then
          ogd (inb l2 8) (
          some ((t_now_hand (Int32.toNatClampNeg l2)), r47.2.1, r47.2.2.1, r47.2.2.2.1, r47.2.2.2.2.1, r47.2.2.2.2.2.1, r47.2.2.2.2.2.2.1, r47.2.2.2.2.2.2.2.1, r47.2.2.2.2.2.2.2.2.1, r47.2.2.2.2.2.2.2.2.2.1, r47.2.2.2.2.2.2.2.2.2.2))
        else
          Option.bind (o_X7_handIn N r47.1 l2) (fun r83 =>
          some (r83, r47.2.1, r47.2.2.1, r47.2.2.2.1, r47.2.2.2.2.1, r47.2.2.2.2.2.1, r47.2.2.2.2.2.2.1, r47.2.2.2.2.2.2.2.1, r47.2.2.2.2.2.2.2.2.1, r47.2.2.2.2.2.2.2.2.2.1, r47.2.2.2.2.2.2.2.2.2.2)))))
def o_X8_fewest (N : Nat) (a_t_ways_best : Nat) (a_t_ways_better : Nat) (t_now_players : Int32) (t_now_kind : (Nat → Int32)) (t_now_hand : (Nat → Int32)) (t_now_leader : (Nat → Int32)) (t_ways_groups : Int32) (t_ways_group : (Nat → Int32)) (t_ways_train : (Nat → Int32)) (t_ways_best : (Nat → Int32)) (t_ways_better : (Nat → Int32)) (t_ways_course_first : Int32) (t_ways_course_second : Int32) (t_ways_course_thrown : Int32) (l1 : Int32) (l2 : Int32) : Option (Int32 × Int32 × Nat × Nat × (Nat → Int32) × (Nat → Int32) × (Nat → Int32) × (Nat → Int32) × Int32 × Int32 × Int32) :=
  Option.bind (o_X8_isPlayer N t_now_players l1) (fun r2 =>
  if r2 = 0 then
    some ((-1000001), t_ways_groups, a_t_ways_best, a_t_ways_better, t_ways_group, t_ways_train, t_ways_best, t_ways_better, t_ways_course_first, t_ways_course_second, t_ways_course_thrown)
  else
    if l2 = (-1) then
      o_X8_fewest_24 N a_t_ways_best a_t_ways_better t_now_players t_now_kind t_now_hand t_now_leader t_ways_groups t_ways_group t_ways_train t_ways_best t_ways_better t_ways_course_first t_ways_course_second t_ways_course_thrown l1 l2
    else
      Option.bind (o_X8_isPlayer N t_now_players l2) (fun r15 =>
      if r15 = 0 then
        some ((-1000001), t_ways_groups, a_t_ways_best, a_t_ways_better, t_ways_group, t_ways_train, t_ways_best, t_ways_better, t_ways_course_first, t_ways_course_second, t_ways_course_thrown)
      else
        o_X8_fewest_24 N a_t_ways_best a_t_ways_better t_now_players t_now_kind t_now_hand t_now_leader t_ways_groups t_ways_group t_ways_train t_ways_best t_ways_better t_ways_course_first t_ways_course_second t_ways_course_thrown l1 l2))
set_option maxHeartbeats 4000000 in
set_option maxRecDepth 100000 in
theorem z_X8_fewest_24 {sK sV : Nat → Nat} {E : ZE} {cI cB cZ : ClassId} (hC : ZC E 4 cX8_fewest wsX8_fewest RX8 rmX8_fewest (some .int) (zty cI cB cZ)) (hN : ZN sK sV (zA E) (zs E)) {N : Nat} {a_t : Nat} {a_t_now : Nat} {a_t_now_kind : Nat} {a_t_now_hand : Nat} {a_t_now_leader : Nat} {a_t_ways : Nat} {a_t_ways_group : Nat} {a_t_ways_train : Nat} {a_t_ways_best : Nat} {a_t_ways_better : Nat} {a_t_ways_course : Nat} {a_t_rows : Nat} {a_t_tape : Nat} {a_t_reader : Nat} {a_t_trial : Nat} {a_t_acts : Nat} {a_t_asks : Nat} {a_t_images : Nat} {a_t_imageKept : Nat} {a_t_now_course : Nat} {t_latestFault : Int32} {t_latestFinding : Int32} {t_now_players : Int32} {t_now_round : Int32} {t_now_time : Int32} {t_now_kind : (Nat → Int32)} {t_now_hand : (Nat → Int32)} {t_now_leader : (Nat → Int32)} {t_ways_groups : Int32} {t_ways_group : (Nat → Int32)} {t_ways_train : (Nat → Int32)} {t_ways_best : (Nat → Int32)} {t_ways_better : (Nat → Int32)} {t_ways_course_first : Int32} {t_ways_course_second : Int32} {t_ways_course_thrown : Int32} {l1 : Int32} {l2 : Int32} {rf : Int32 × Int32 × Nat × Nat × (Nat → Int32) × (Nat → Int32) × (Nat → Int32) × (Nat → Int32) × Int32 × Int32 × Int32} (hQ : ZQi E (zty cI cB cZ) rf.1 [(a_t, .inr (8, [.ref a_t_rows, .ref a_t_tape, .ref a_t_reader, .ref a_t_now, .ref a_t_trial, .ref a_t_acts, .ref a_t_ways, .ref a_t_asks, .ref a_t_images, .ref a_t_imageKept, .int t_latestFault, .int t_latestFinding])), (a_t_now, .inr (3, [.int t_now_players, .int t_now_round, .int t_now_time, .ref a_t_now_kind, .ref a_t_now_hand, .ref a_t_now_leader, .ref a_t_now_course])), (a_t_now_kind, .inl (cI, 8, .inl t_now_kind)), (a_t_now_hand, .inl (cI, 8, .inl t_now_hand)), (a_t_now_leader, .inl (cI, 8, .inl t_now_leader)), (a_t_ways, .inr (7, [.ref a_t_ways_group, .ref a_t_ways_train, .int rf.2.1, .ref rf.2.2.1, .ref rf.2.2.2.1, .ref a_t_ways_course])), (a_t_ways_group, .inl (cI, 8, .inl rf.2.2.2.2.1)), (a_t_ways_train, .inl (cI, 8, .inl rf.2.2.2.2.2.1)), (rf.2.2.1, .inl (cI, 24, .inl rf.2.2.2.2.2.2.1)), (rf.2.2.2.1, .inl (cI, 24, .inl rf.2.2.2.2.2.2.2.1)), (a_t_ways_course, .inr (2, [.int rf.2.2.2.2.2.2.2.2.1, .int rf.2.2.2.2.2.2.2.2.2.1, .int rf.2.2.2.2.2.2.2.2.2.2]))]) (hR : o_X8_fewest_24 N a_t_ways_best a_t_ways_better t_now_players t_now_kind t_now_hand t_now_leader t_ways_groups t_ways_group t_ways_train t_ways_best t_ways_better t_ways_course_first t_ways_course_second t_ways_course_thrown l1 l2 = some rf) : Z E (0, 0) [(0, .ref a_t), (1, .int l1), (2, .int l2)] 24 [] [(a_t, .inr (8, [.ref a_t_rows, .ref a_t_tape, .ref a_t_reader, .ref a_t_now, .ref a_t_trial, .ref a_t_acts, .ref a_t_ways, .ref a_t_asks, .ref a_t_images, .ref a_t_imageKept, .int t_latestFault, .int t_latestFinding])), (a_t_now, .inr (3, [.int t_now_players, .int t_now_round, .int t_now_time, .ref a_t_now_kind, .ref a_t_now_hand, .ref a_t_now_leader, .ref a_t_now_course])), (a_t_now_kind, .inl (cI, 8, .inl t_now_kind)), (a_t_now_hand, .inl (cI, 8, .inl t_now_hand)), (a_t_now_leader, .inl (cI, 8, .inl t_now_leader)), (a_t_ways, .inr (7, [.ref a_t_ways_group, .ref a_t_ways_train, .int t_ways_groups, .ref a_t_ways_best, .ref a_t_ways_better, .ref a_t_ways_course])), (a_t_ways_group, .inl (cI, 8, .inl t_ways_group)), (a_t_ways_train, .inl (cI, 8, .inl t_ways_train)), (a_t_ways_best, .inl (cI, 24, .inl t_ways_best)), (a_t_ways_better, .inl (cI, 24, .inl t_ways_better)), (a_t_ways_course, .inr (2, [.int t_ways_course_first, .int t_ways_course_second, .int t_ways_course_thrown]))] := by
  rw [o_X8_fewest_24] at hR
  refine z_aload_n hC dX8_fewest_24 rfl 0 rfl ?_
  refine z_get hC iX8_fewest_X8 rfl 0 3 rfl (by decide) mX8_fewest_2 rfl rfl dX8_fewest_25 ?_
  refine z_iload_n hC dX8_fewest_28 rfl 1 rfl ?_
  refine z_callVi_p hC hN [.int l1] [1, 4] (c_X3_leads (l := zl E) (D := zD E) (cI := cI) (cB := cB) (cZ := cZ) (N := N) (a_t := a_t_now) (a_t_kind := a_t_now_kind) (a_t_hand := a_t_now_hand) (a_t_leader := a_t_now_leader) (a_t_course := a_t_now_course) (l1 := l1) (t_players := t_now_players) (t_round := t_now_round) (t_time := t_now_time) (t_leader := t_now_leader)) rfl ⟨rfl, rfl⟩ gX8_fewest_X3_leads hvX3_leads 1 3 rfl rfl rfl ⟨Nat.le_of_ble_eq_true rfl, Nat.le_of_ble_eq_true rfl⟩ ⟨Nat.zero_le _, Nat.zero_le _⟩ rfl (Nat.le_of_ble_eq_true rfl) rfl (by decide) dX8_fewest_29 hR (fun r29 hR => ?_)
  refine z_if_ne hC 38 dX8_fewest_32 (by decide) hR (fun hR => ?_) (fun hR => ?_)
  · refine z_aload_n hC dX8_fewest_38 rfl 0 rfl ?_
    refine z_get hC iX8_fewest_X8 rfl 0 6 rfl (by decide) mX8_fewest_4 rfl rfl dX8_fewest_39 ?_
    refine z_aload_n hC dX8_fewest_42 rfl 0 rfl ?_
    refine z_get hC iX8_fewest_X8 rfl 0 3 rfl (by decide) mX8_fewest_2 rfl rfl dX8_fewest_43 ?_
    refine z_iload_n hC dX8_fewest_46 rfl 1 rfl ?_
    refine z_callVi hC hN [.ref a_t_now, .int l1] [5, 6, 7, 8, 9, 10, 1, 2, 3, 4] (c_X7_bestFor (l := zl E) (D := zD E) (cI := cI) (cB := cB) (cZ := cZ) (N := N) (a_t := a_t_ways) (a_t_group := a_t_ways_group) (a_t_train := a_t_ways_train) (a_t_best := a_t_ways_best) (a_t_better := a_t_ways_better) (a_t_course := a_t_ways_course) (a_p1 := a_t_now) (a_p1_kind := a_t_now_kind) (a_p1_hand := a_t_now_hand) (a_p1_leader := a_t_now_leader) (a_p1_course := a_t_now_course) (l2 := l1) (t_groups := t_ways_groups) (t_group := t_ways_group) (t_train := t_ways_train) (t_best := t_ways_best) (t_better := t_ways_better) (t_course_first := t_ways_course_first) (t_course_second := t_ways_course_second) (t_course_thrown := t_ways_course_thrown) (p1_players := t_now_players) (p1_round := t_now_round) (p1_time := t_now_time) (p1_kind := t_now_kind) (p1_hand := t_now_hand) (p1_leader := t_now_leader)) rfl ⟨rfl, rfl⟩ gX8_fewest_X7_bestFor hvX7_bestFor 5 7 rfl rfl rfl ⟨Nat.le_of_ble_eq_true rfl, Nat.le_of_ble_eq_true rfl⟩ ⟨Nat.zero_le _, Nat.zero_le _⟩ rfl (Nat.le_of_ble_eq_true rfl) rfl (by decide) (fun _ => rfl) dX8_fewest_47 hR (fun r47 hR => ?_)
    refine z_eq [(a_t, .inr (8, [.ref a_t_rows, .ref a_t_tape, .ref a_t_reader, .ref a_t_now, .ref a_t_trial, .ref a_t_acts, .ref a_t_ways, .ref a_t_asks, .ref a_t_images, .ref a_t_imageKept, .int t_latestFault, .int t_latestFinding])), (a_t_now, .inr (3, [.int t_now_players, .int t_now_round, .int t_now_time, .ref a_t_now_kind, .ref a_t_now_hand, .ref a_t_now_leader, .ref a_t_now_course])), (a_t_now_kind, .inl (cI, 8, .inl t_now_kind)), (a_t_now_hand, .inl (cI, 8, .inl t_now_hand)), (a_t_now_leader, .inl (cI, 8, .inl t_now_leader)), (a_t_ways, .inr (7, [.ref a_t_ways_group, .ref a_t_ways_train, .int r47.2.1, .ref r47.2.2.1, .ref r47.2.2.2.1, .ref a_t_ways_course])), (a_t_ways_group, .inl (cI, 8, .inl r47.2.2.2.2.1)), (a_t_ways_train, .inl (cI, 8, .inl r47.2.2.2.2.2.1)), (r47.2.2.1, .inl (cI, 24, .inl r47.2.2.2.2.2.2.1)), (r47.2.2.2.1, .inl (cI, 24, .inl r47.2.2.2.2.2.2.2.1)), (a_t_ways_course, .inr (2, [.int r47.2.2.2.2.2.2.2.2.1, .int r47.2.2.2.2.2.2.2.2.2.1, .int r47.2.2.2.2.2.2.2.2.2.2]))] rfl ?_
    refine z_istore_n hC [(3, .int r47.1), (0, .ref a_t), (1, .int l1), (2, .int l2)] dX8_fewest_50 rfl (by decide) rfl ?_
    refine z_iload_n hC dX8_fewest_51 rfl 0 rfl ?_
    refine z_ldc hC 1073741824 mX8_fewest_5 dX8_fewest_52 ?_
    refine z_icmp_ne hC 60 dX8_fewest_54 (by decide) hR (fun hR => ?_) (fun hR => ?_)
    · refine z_iload_n hC dX8_fewest_60 rfl 3 rfl ?_
      refine z_icm1 hC dX8_fewest_61 ?_
      refine z_icmp_ne hC 70 dX8_fewest_62 (by decide) hR (fun hR => ?_) (fun hR => ?_)
      · refine z_aload_n hC dX8_fewest_70 rfl 1 rfl ?_
        refine z_get hC iX8_fewest_X8 rfl 0 3 rfl (by decide) mX8_fewest_2 rfl rfl dX8_fewest_71 ?_
        refine z_iload_n hC dX8_fewest_74 rfl 3 rfl ?_
        refine z_callVi_p hC hN [.int l2] [1, 4] (c_X3_leads (l := zl E) (D := zD E) (cI := cI) (cB := cB) (cZ := cZ) (N := N) (a_t := a_t_now) (a_t_kind := a_t_now_kind) (a_t_hand := a_t_now_hand) (a_t_leader := a_t_now_leader) (a_t_course := a_t_now_course) (l1 := l2) (t_players := t_now_players) (t_round := t_now_round) (t_time := t_now_time) (t_leader := t_now_leader)) rfl ⟨rfl, rfl⟩ gX8_fewest_X3_leads hvX3_leads 1 3 rfl rfl rfl ⟨Nat.le_of_ble_eq_true rfl, Nat.le_of_ble_eq_true rfl⟩ ⟨Nat.zero_le _, Nat.zero_le _⟩ rfl (Nat.le_of_ble_eq_true rfl) rfl (by decide) dX8_fewest_75 hR (fun r75 hR => ?_)
        refine z_if_eq hC 89 dX8_fewest_78 (by decide) hR (fun hR => ?_) (fun hR => ?_)
        · refine z_aload_n hC dX8_fewest_89 rfl 1 rfl ?_
          refine z_get hC iX8_fewest_X8 rfl 0 3 rfl (by decide) mX8_fewest_2 rfl rfl dX8_fewest_90 ?_
          refine z_get hC iX8_fewest_X3 rfl 1 4 rfl (by decide) mX8_fewest_7 rfl rfl dX8_fewest_93 ?_
          refine z_iload_n hC dX8_fewest_96 rfl 3 rfl ?_
          refine z_iald hC 3 0 rfl rfl dX8_fewest_97 hR (fun hR => ?_)
          obtain rfl := Option.some.inj hR
          exact z_iret hC hQ rfl rfl rfl dX8_fewest_98
        · refine z_iload_n hC dX8_fewest_81 rfl 0 rfl ?_
          refine z_iload_n hC dX8_fewest_82 rfl 3 rfl ?_
          refine z_callSi_p hC hN [.int r47.1, .int l2] [] (c_X7_handIn (l := zl E) (D := zD E) (cI := cI) (cB := cB) (cZ := cZ) (N := N) (l0 := r47.1) (l1 := l2)) rfl ⟨rfl, rfl⟩ gX8_fewest_X7_handIn hsX7_handIn ⟨Nat.le_of_ble_eq_true rfl, Nat.le_of_ble_eq_true rfl⟩ ⟨Nat.zero_le _, Nat.zero_le _⟩ rfl (Nat.le_of_ble_eq_true rfl) rfl (by decide) dX8_fewest_83 hR (fun r83 hR => ?_)
          refine z_goto hC 98 dX8_fewest_86 (by decide) ?_
          obtain rfl := Option.some.inj hR
          exact z_iret hC hQ rfl rfl rfl dX8_fewest_98
      · refine z_iload_n hC dX8_fewest_65 rfl 0 rfl ?_
        refine z_callSi_p hC hN [.int r47.1] [] (c_X7_othersOf (l := zl E) (D := zD E) (cI := cI) (cB := cB) (cZ := cZ) (N := N) (l0 := r47.1)) rfl ⟨rfl, rfl⟩ gX8_fewest_X7_othersOf hsX7_othersOf ⟨Nat.le_of_ble_eq_true rfl, Nat.le_of_ble_eq_true rfl⟩ ⟨Nat.zero_le _, Nat.zero_le _⟩ rfl (Nat.le_of_ble_eq_true rfl) rfl (by decide) dX8_fewest_66 hR (fun r66 hR => ?_)
        obtain rfl := Option.some.inj hR
        exact z_iret hC hQ rfl rfl rfl dX8_fewest_69
    · refine z_ldc hC (-1000000) mX8_fewest_6 dX8_fewest_57 ?_
      obtain rfl := Option.some.inj hR
      exact z_iret hC hQ rfl rfl rfl dX8_fewest_59
  · refine z_ldc hC (-1000002) mX8_fewest_3 dX8_fewest_35 ?_
    obtain rfl := Option.some.inj hR
    exact z_iret hC hQ rfl rfl rfl dX8_fewest_37
set_option maxHeartbeats 4000000 in
set_option maxRecDepth 100000 in
theorem z_X8_fewest_0 {sK sV : Nat → Nat} {E : ZE} {cI cB cZ : ClassId} (hC : ZC E 4 cX8_fewest wsX8_fewest RX8 rmX8_fewest (some .int) (zty cI cB cZ)) (hN : ZN sK sV (zA E) (zs E)) {N : Nat} {a_t : Nat} {a_t_now : Nat} {a_t_now_kind : Nat} {a_t_now_hand : Nat} {a_t_now_leader : Nat} {a_t_ways : Nat} {a_t_ways_group : Nat} {a_t_ways_train : Nat} {a_t_ways_best : Nat} {a_t_ways_better : Nat} {a_t_ways_course : Nat} {a_t_rows : Nat} {a_t_tape : Nat} {a_t_reader : Nat} {a_t_trial : Nat} {a_t_acts : Nat} {a_t_asks : Nat} {a_t_images : Nat} {a_t_imageKept : Nat} {a_t_now_course : Nat} {t_latestFault : Int32} {t_latestFinding : Int32} {t_now_players : Int32} {t_now_round : Int32} {t_now_time : Int32} {t_now_kind : (Nat → Int32)} {t_now_hand : (Nat → Int32)} {t_now_leader : (Nat → Int32)} {t_ways_groups : Int32} {t_ways_group : (Nat → Int32)} {t_ways_train : (Nat → Int32)} {t_ways_best : (Nat → Int32)} {t_ways_better : (Nat → Int32)} {t_ways_course_first : Int32} {t_ways_course_second : Int32} {t_ways_course_thrown : Int32} {l1 : Int32} {l2 : Int32} {rf : Int32 × Int32 × Nat × Nat × (Nat → Int32) × (Nat → Int32) × (Nat → Int32) × (Nat → Int32) × Int32 × Int32 × Int32} (hQ : ZQi E (zty cI cB cZ) rf.1 [(a_t, .inr (8, [.ref a_t_rows, .ref a_t_tape, .ref a_t_reader, .ref a_t_now, .ref a_t_trial, .ref a_t_acts, .ref a_t_ways, .ref a_t_asks, .ref a_t_images, .ref a_t_imageKept, .int t_latestFault, .int t_latestFinding])), (a_t_now, .inr (3, [.int t_now_players, .int t_now_round, .int t_now_time, .ref a_t_now_kind, .ref a_t_now_hand, .ref a_t_now_leader, .ref a_t_now_course])), (a_t_now_kind, .inl (cI, 8, .inl t_now_kind)), (a_t_now_hand, .inl (cI, 8, .inl t_now_hand)), (a_t_now_leader, .inl (cI, 8, .inl t_now_leader)), (a_t_ways, .inr (7, [.ref a_t_ways_group, .ref a_t_ways_train, .int rf.2.1, .ref rf.2.2.1, .ref rf.2.2.2.1, .ref a_t_ways_course])), (a_t_ways_group, .inl (cI, 8, .inl rf.2.2.2.2.1)), (a_t_ways_train, .inl (cI, 8, .inl rf.2.2.2.2.2.1)), (rf.2.2.1, .inl (cI, 24, .inl rf.2.2.2.2.2.2.1)), (rf.2.2.2.1, .inl (cI, 24, .inl rf.2.2.2.2.2.2.2.1)), (a_t_ways_course, .inr (2, [.int rf.2.2.2.2.2.2.2.2.1, .int rf.2.2.2.2.2.2.2.2.2.1, .int rf.2.2.2.2.2.2.2.2.2.2]))]) (hR : o_X8_fewest N a_t_ways_best a_t_ways_better t_now_players t_now_kind t_now_hand t_now_leader t_ways_groups t_ways_group t_ways_train t_ways_best t_ways_better t_ways_course_first t_ways_course_second t_ways_course_thrown l1 l2 = some rf) : Z E (0, 0) [(0, .ref a_t), (1, .int l1), (2, .int l2)] 0 [] [(a_t, .inr (8, [.ref a_t_rows, .ref a_t_tape, .ref a_t_reader, .ref a_t_now, .ref a_t_trial, .ref a_t_acts, .ref a_t_ways, .ref a_t_asks, .ref a_t_images, .ref a_t_imageKept, .int t_latestFault, .int t_latestFinding])), (a_t_now, .inr (3, [.int t_now_players, .int t_now_round, .int t_now_time, .ref a_t_now_kind, .ref a_t_now_hand, .ref a_t_now_leader, .ref a_t_now_course])), (a_t_now_kind, .inl (cI, 8, .inl t_now_kind)), (a_t_now_hand, .inl (cI, 8, .inl t_now_hand)), (a_t_now_leader, .inl (cI, 8, .inl t_now_leader)), (a_t_ways, .inr (7, [.ref a_t_ways_group, .ref a_t_ways_train, .int t_ways_groups, .ref a_t_ways_best, .ref a_t_ways_better, .ref a_t_ways_course])), (a_t_ways_group, .inl (cI, 8, .inl t_ways_group)), (a_t_ways_train, .inl (cI, 8, .inl t_ways_train)), (a_t_ways_best, .inl (cI, 24, .inl t_ways_best)), (a_t_ways_better, .inl (cI, 24, .inl t_ways_better)), (a_t_ways_course, .inr (2, [.int t_ways_course_first, .int t_ways_course_second, .int t_ways_course_thrown]))] := by
  rw [o_X8_fewest] at hR
  refine z_aload_n hC dX8_fewest_0 rfl 0 rfl ?_
  refine z_iload_n hC dX8_fewest_1 rfl 1 rfl ?_
  refine z_callVi_p hC hN [.int l1] [0, 1] (c_X8_isPlayer (l := zl E) (D := zD E) (cI := cI) (cB := cB) (cZ := cZ) (N := N) (a_t := a_t) (a_t_rows := a_t_rows) (a_t_tape := a_t_tape) (a_t_reader := a_t_reader) (a_t_now := a_t_now) (a_t_trial := a_t_trial) (a_t_acts := a_t_acts) (a_t_ways := a_t_ways) (a_t_asks := a_t_asks) (a_t_images := a_t_images) (a_t_imageKept := a_t_imageKept) (a_t_now_kind := a_t_now_kind) (a_t_now_hand := a_t_now_hand) (a_t_now_leader := a_t_now_leader) (a_t_now_course := a_t_now_course) (l1 := l1) (t_latestFault := t_latestFault) (t_latestFinding := t_latestFinding) (t_now_players := t_now_players) (t_now_round := t_now_round) (t_now_time := t_now_time)) rfl ⟨rfl, rfl⟩ gX8_fewest_X8_isPlayer hvX8_isPlayer 0 8 rfl rfl rfl ⟨Nat.le_of_ble_eq_true rfl, Nat.le_of_ble_eq_true rfl⟩ ⟨Nat.zero_le _, Nat.zero_le _⟩ rfl (Nat.le_of_ble_eq_true rfl) rfl (by decide) dX8_fewest_2 hR (fun r2 hR => ?_)
  refine z_if_eq hC 21 dX8_fewest_5 (by decide) hR (fun hR => ?_) (fun hR => ?_)
  · refine z_ldc hC (-1000001) mX8_fewest_1 dX8_fewest_21 ?_
    obtain rfl := Option.some.inj hR
    exact z_iret hC hQ rfl rfl rfl dX8_fewest_23
  · refine z_iload_n hC dX8_fewest_8 rfl 2 rfl ?_
    refine z_icm1 hC dX8_fewest_9 ?_
    refine z_icmp_eq hC 24 dX8_fewest_10 (by decide) hR (fun hR => ?_) (fun hR => ?_)
    · exact z_X8_fewest_24 hC hN (N := N) (a_t := a_t) (a_t_now := a_t_now) (a_t_now_kind := a_t_now_kind) (a_t_now_hand := a_t_now_hand) (a_t_now_leader := a_t_now_leader) (a_t_ways := a_t_ways) (a_t_ways_group := a_t_ways_group) (a_t_ways_train := a_t_ways_train) (a_t_ways_best := a_t_ways_best) (a_t_ways_better := a_t_ways_better) (a_t_ways_course := a_t_ways_course) (a_t_rows := a_t_rows) (a_t_tape := a_t_tape) (a_t_reader := a_t_reader) (a_t_trial := a_t_trial) (a_t_acts := a_t_acts) (a_t_asks := a_t_asks) (a_t_images := a_t_images) (a_t_imageKept := a_t_imageKept) (a_t_now_course := a_t_now_course) (t_latestFault := t_latestFault) (t_latestFinding := t_latestFinding) (t_now_players := t_now_players) (t_now_round := t_now_round) (t_now_time := t_now_time) (t_now_kind := t_now_kind) (t_now_hand := t_now_hand) (t_now_leader := t_now_leader) (t_ways_groups := t_ways_groups) (t_ways_group := t_ways_group) (t_ways_train := t_ways_train) (t_ways_best := t_ways_best) (t_ways_better := t_ways_better) (t_ways_course_first := t_ways_course_first) (t_ways_course_second := t_ways_course_second) (t_ways_course_thrown := t_ways_course_thrown) (l1 := l1) (l2 := l2) hQ  hR
    · refine z_aload_n hC dX8_fewest_13 rfl 0 rfl ?_
      refine z_iload_n hC dX8_fewest_14 rfl 2 rfl ?_
      refine z_callVi_p hC hN [.int l2] [0, 1] (c_X8_isPlayer (l := zl E) (D := zD E) (cI := cI) (cB := cB) (cZ := cZ) (N := N) (a_t := a_t) (a_t_rows := a_t_rows) (a_t_tape := a_t_tape) (a_t_reader := a_t_reader) (a_t_now := a_t_now) (a_t_trial := a_t_trial) (a_t_acts := a_t_acts) (a_t_ways := a_t_ways) (a_t_asks := a_t_asks) (a_t_images := a_t_images) (a_t_imageKept := a_t_imageKept) (a_t_now_kind := a_t_now_kind) (a_t_now_hand := a_t_now_hand) (a_t_now_leader := a_t_now_leader) (a_t_now_course := a_t_now_course) (l1 := l2) (t_latestFault := t_latestFault) (t_latestFinding := t_latestFinding) (t_now_players := t_now_players) (t_now_round := t_now_round) (t_now_time := t_now_time)) rfl ⟨rfl, rfl⟩ gX8_fewest_X8_isPlayer hvX8_isPlayer 0 8 rfl rfl rfl ⟨Nat.le_of_ble_eq_true rfl, Nat.le_of_ble_eq_true rfl⟩ ⟨Nat.zero_le _, Nat.zero_le _⟩ rfl (Nat.le_of_ble_eq_true rfl) rfl (by decide) dX8_fewest_15 hR (fun r15 hR => ?_)
      refine z_if_ne hC 24 dX8_fewest_18 (by decide) hR (fun hR => ?_) (fun hR => ?_)
      · exact z_X8_fewest_24 hC hN (N := N) (a_t := a_t) (a_t_now := a_t_now) (a_t_now_kind := a_t_now_kind) (a_t_now_hand := a_t_now_hand) (a_t_now_leader := a_t_now_leader) (a_t_ways := a_t_ways) (a_t_ways_group := a_t_ways_group) (a_t_ways_train := a_t_ways_train) (a_t_ways_best := a_t_ways_best) (a_t_ways_better := a_t_ways_better) (a_t_ways_course := a_t_ways_course) (a_t_rows := a_t_rows) (a_t_tape := a_t_tape) (a_t_reader := a_t_reader) (a_t_trial := a_t_trial) (a_t_acts := a_t_acts) (a_t_asks := a_t_asks) (a_t_images := a_t_images) (a_t_imageKept := a_t_imageKept) (a_t_now_course := a_t_now_course) (t_latestFault := t_latestFault) (t_latestFinding := t_latestFinding) (t_now_players := t_now_players) (t_now_round := t_now_round) (t_now_time := t_now_time) (t_now_kind := t_now_kind) (t_now_hand := t_now_hand) (t_now_leader := t_now_leader) (t_ways_groups := t_ways_groups) (t_ways_group := t_ways_group) (t_ways_train := t_ways_train) (t_ways_best := t_ways_best) (t_ways_better := t_ways_better) (t_ways_course_first := t_ways_course_first) (t_ways_course_second := t_ways_course_second) (t_ways_course_thrown := t_ways_course_thrown) (l1 := l1) (l2 := l2) hQ  hR
      · refine z_ldc hC (-1000001) mX8_fewest_1 dX8_fewest_21 ?_
        obtain rfl := Option.some.inj hR
        exact z_iret hC hQ rfl rfl rfl dX8_fewest_23
set_option maxHeartbeats 4000000 in
set_option maxRecDepth 100000 in
theorem c_X8_fewest {sK sV : Nat → Nat} {l : Launch} {D : va_G} {cI cB cZ : ClassId} {N : Nat} {a_t : Nat} {a_t_now : Nat} {a_t_now_kind : Nat} {a_t_now_hand : Nat} {a_t_now_leader : Nat} {a_t_ways : Nat} {a_t_ways_group : Nat} {a_t_ways_train : Nat} {a_t_ways_best : Nat} {a_t_ways_better : Nat} {a_t_ways_course : Nat} {a_t_rows : Nat} {a_t_tape : Nat} {a_t_reader : Nat} {a_t_trial : Nat} {a_t_acts : Nat} {a_t_asks : Nat} {a_t_images : Nat} {a_t_imageKept : Nat} {a_t_now_course : Nat} {t_latestFault : Int32} {t_latestFinding : Int32} {t_now_players : Int32} {t_now_round : Int32} {t_now_time : Int32} {t_now_kind : (Nat → Int32)} {t_now_hand : (Nat → Int32)} {t_now_leader : (Nat → Int32)} {t_ways_groups : Int32} {t_ways_group : (Nat → Int32)} {t_ways_train : (Nat → Int32)} {t_ways_best : (Nat → Int32)} {t_ways_better : (Nat → Int32)} {t_ways_course_first : Int32} {t_ways_course_second : Int32} {t_ways_course_thrown : Int32} {l1 : Int32} {l2 : Int32} : ∀ R : Int32 × Int32 × Nat × Nat × (Nat → Int32) × (Nat → Int32) × (Nat → Int32) × (Nat → Int32) × Int32 × Int32 × Int32, o_X8_fewest N a_t_ways_best a_t_ways_better t_now_players t_now_kind t_now_hand t_now_leader t_ways_groups t_ways_group t_ways_train t_ways_best t_ways_better t_ways_course_first t_ways_course_second t_ways_course_thrown l1 l2 = some R → ZMi sK sV l yX8_fewest wsX8_fewest rmX8_fewest D (zty cI cB cZ) [.ref a_t, .int l1, .int l2] [(a_t, .inr (8, [.ref a_t_rows, .ref a_t_tape, .ref a_t_reader, .ref a_t_now, .ref a_t_trial, .ref a_t_acts, .ref a_t_ways, .ref a_t_asks, .ref a_t_images, .ref a_t_imageKept, .int t_latestFault, .int t_latestFinding])), (a_t_now, .inr (3, [.int t_now_players, .int t_now_round, .int t_now_time, .ref a_t_now_kind, .ref a_t_now_hand, .ref a_t_now_leader, .ref a_t_now_course])), (a_t_now_kind, .inl (cI, 8, .inl t_now_kind)), (a_t_now_hand, .inl (cI, 8, .inl t_now_hand)), (a_t_now_leader, .inl (cI, 8, .inl t_now_leader)), (a_t_ways, .inr (7, [.ref a_t_ways_group, .ref a_t_ways_train, .int t_ways_groups, .ref a_t_ways_best, .ref a_t_ways_better, .ref a_t_ways_course])), (a_t_ways_group, .inl (cI, 8, .inl t_ways_group)), (a_t_ways_train, .inl (cI, 8, .inl t_ways_train)), (a_t_ways_best, .inl (cI, 24, .inl t_ways_best)), (a_t_ways_better, .inl (cI, 24, .inl t_ways_better)), (a_t_ways_course, .inr (2, [.int t_ways_course_first, .int t_ways_course_second, .int t_ways_course_thrown]))] R.1 [(a_t, .inr (8, [.ref a_t_rows, .ref a_t_tape, .ref a_t_reader, .ref a_t_now, .ref a_t_trial, .ref a_t_acts, .ref a_t_ways, .ref a_t_asks, .ref a_t_images, .ref a_t_imageKept, .int t_latestFault, .int t_latestFinding])), (a_t_now, .inr (3, [.int t_now_players, .int t_now_round, .int t_now_time, .ref a_t_now_kind, .ref a_t_now_hand, .ref a_t_now_leader, .ref a_t_now_course])), (a_t_now_kind, .inl (cI, 8, .inl t_now_kind)), (a_t_now_hand, .inl (cI, 8, .inl t_now_hand)), (a_t_now_leader, .inl (cI, 8, .inl t_now_leader)), (a_t_ways, .inr (7, [.ref a_t_ways_group, .ref a_t_ways_train, .int R.2.1, .ref R.2.2.1, .ref R.2.2.2.1, .ref a_t_ways_course])), (a_t_ways_group, .inl (cI, 8, .inl R.2.2.2.2.1)), (a_t_ways_train, .inl (cI, 8, .inl R.2.2.2.2.2.1)), (R.2.2.1, .inl (cI, 24, .inl R.2.2.2.2.2.2.1)), (R.2.2.2.1, .inl (cI, 24, .inl R.2.2.2.2.2.2.2.1)), (a_t_ways_course, .inr (2, [.int R.2.2.2.2.2.2.2.2.1, .int R.2.2.2.2.2.2.2.2.2.1, .int R.2.2.2.2.2.2.2.2.2.2]))] := by
  intro R hR
  refine zi_of (cc := cX8_fewest) (maxL := 4) (ret := (some .int)) (by decide) rfl (Nat.le_of_ble_eq_true rfl) (fun E hE1 hE2 hC hN hQ => ?_)
  subst hE1 hE2
  exact z_X8_fewest_0 hC hN (N := N) (a_t := a_t) (a_t_now := a_t_now) (a_t_now_kind := a_t_now_kind) (a_t_now_hand := a_t_now_hand) (a_t_now_leader := a_t_now_leader) (a_t_ways := a_t_ways) (a_t_ways_group := a_t_ways_group) (a_t_ways_train := a_t_ways_train) (a_t_ways_best := a_t_ways_best) (a_t_ways_better := a_t_ways_better) (a_t_ways_course := a_t_ways_course) (a_t_rows := a_t_rows) (a_t_tape := a_t_tape) (a_t_reader := a_t_reader) (a_t_trial := a_t_trial) (a_t_acts := a_t_acts) (a_t_asks := a_t_asks) (a_t_images := a_t_images) (a_t_imageKept := a_t_imageKept) (a_t_now_course := a_t_now_course) (t_latestFault := t_latestFault) (t_latestFinding := t_latestFinding) (t_now_players := t_now_players) (t_now_round := t_now_round) (t_now_time := t_now_time) (t_now_kind := t_now_kind) (t_now_hand := t_now_hand) (t_now_leader := t_now_leader) (t_ways_groups := t_ways_groups) (t_ways_group := t_ways_group) (t_ways_train := t_ways_train) (t_ways_best := t_ways_best) (t_ways_better := t_ways_better) (t_ways_course_first := t_ways_course_first) (t_ways_course_second := t_ways_course_second) (t_ways_course_thrown := t_ways_course_thrown) (l1 := l1) (l2 := l2) hQ hR

/-! FistTrains.begun -/
abbrev rmX8_begun : Room := { frames := 6, cells := 0, slots := 0, locals := 141 }
set_option maxRecDepth 20000 in
theorem mX8_begun_1 : Cond.constant RX8 82 (-1000001) ∈ wsX8_begun := List.mem_of_getElem? (i := 1) rfl
set_option maxRecDepth 20000 in
theorem iX8_begun_X8 : ∀ w ∈ wsX80, w ∈ wsX8_begun := by decide +kernel
set_option maxRecDepth 20000 in
theorem mX8_begun_2 : Cond.fieldLink RX8 35 "FistTrains" "now" "LFistTrains$Hall;" ∈ wsX8_begun := List.mem_of_getElem? (i := 2) rfl
set_option maxRecDepth 20000 in
theorem mX8_begun_3 : Cond.constant RX8 164 (-1000002) ∈ wsX8_begun := List.mem_of_getElem? (i := 3) rfl
set_option maxRecDepth 20000 in
theorem mX8_begun_4 : Cond.fieldLink RX8 39 "FistTrains" "trial" "LFistTrains$Hall;" ∈ wsX8_begun := List.mem_of_getElem? (i := 4) rfl
def o_X8_begun_49 (N : Nat) (t_now_players : Int32) (t_now_round : Int32) (t_now_time : Int32) (t_now_kind : (Nat → Int32)) (t_now_hand : (Nat → Int32)) (t_now_leader : (Nat → Int32)) (l1 : Int32) (l2 : Int32) : Nat → Int32 → Int32 → Int32 → (Nat → Int32) → (Nat → Int32) → (Nat → Int32) → Int32 → Int32 → Int32 → Int32 → Int32 → Option (Int32 × Int32 × Int32 × Int32 × (Nat → Int32) × (Nat → Int32) × (Nat → Int32) × Int32 × Int32 × Int32)
  | 0 => fun _ _ _ _ _ _ _ _ _ _ _ => none
  | n + 1 => fun t_trial_players t_trial_round t_trial_time t_trial_kind t_trial_hand t_trial_leader t_trial_course_first t_trial_course_second t_trial_course_thrown l3 l4 => 
    if 3 ≤ l4 then
      some (l3, t_trial_players, t_trial_round, t_trial_time, t_trial_kind, t_trial_hand, t_trial_leader, t_trial_course_first, t_trial_course_second, t_trial_course_thrown)
    else
      Option.bind (o_X8_tryHand N t_now_players t_now_round t_now_time t_now_kind t_now_hand t_now_leader t_trial_kind t_trial_hand t_trial_leader l1 l4) (fun r59 =>
      Option.bind (o_X3_playToTheEnd N r59.1 r59.2.1 r59.2.2.1 r59.2.2.2.1 r59.2.2.2.2.1 r59.2.2.2.2.2 t_trial_course_first t_trial_course_second t_trial_course_thrown) (fun r66 =>
      Option.bind (o_X3_leads N r66.2.2.2.1 l2) (fun r74 =>
      if r74 = 0 then
        o_X8_begun_49 N t_now_players t_now_round t_now_time t_now_kind t_now_hand t_now_leader l1 l2 n r59.1 r66.1 r66.2.1 r59.2.2.2.1 r66.2.2.1 r66.2.2.2.1 r66.2.2.2.2.1 r66.2.2.2.2.2.1 r66.2.2.2.2.2.2 l3 (l4 + 1)
      else
        o_X8_begun_49 N t_now_players t_now_round t_now_time t_now_kind t_now_hand t_now_leader l1 l2 n r59.1 r66.1 r66.2.1 r59.2.2.2.1 r66.2.2.1 r66.2.2.2.1 r66.2.2.2.2.1 r66.2.2.2.2.2.1 r66.2.2.2.2.2.2 (l3 ||| (1 <<< (l4 &&& 31))) (l4 + 1))))
def o_X8_begun (N : Nat) (t_now_players : Int32) (t_now_round : Int32) (t_now_time : Int32) (t_now_kind : (Nat → Int32)) (t_now_hand : (Nat → Int32)) (t_now_leader : (Nat → Int32)) (t_trial_players : Int32) (t_trial_round : Int32) (t_trial_time : Int32) (t_trial_kind : (Nat → Int32)) (t_trial_hand : (Nat → Int32)) (t_trial_leader : (Nat → Int32)) (t_trial_course_first : Int32) (t_trial_course_second : Int32) (t_trial_course_thrown : Int32) (l1 : Int32) (l2 : Int32) : Option (Int32 × Int32 × Int32 × Int32 × (Nat → Int32) × (Nat → Int32) × (Nat → Int32) × Int32 × Int32 × Int32) :=
  Option.bind (o_X8_isPlayer N t_now_players l1) (fun r2 =>
  if r2 = 0 then
    some ((-1000001), t_trial_players, t_trial_round, t_trial_time, t_trial_kind, t_trial_hand, t_trial_leader, t_trial_course_first, t_trial_course_second, t_trial_course_thrown)
  else
    Option.bind (o_X8_isPlayer N t_now_players l2) (fun r10 =>
    if r10 = 0 then
      some ((-1000001), t_trial_players, t_trial_round, t_trial_time, t_trial_kind, t_trial_hand, t_trial_leader, t_trial_course_first, t_trial_course_second, t_trial_course_thrown)
    else
      Option.bind (o_X3_leads N t_now_leader l1) (fun r24 =>
      if r24 = 0 then
        some ((-1000002), t_trial_players, t_trial_round, t_trial_time, t_trial_kind, t_trial_hand, t_trial_leader, t_trial_course_first, t_trial_course_second, t_trial_course_thrown)
      else
        Option.bind (o_X3_leads N t_now_leader l2) (fun r35 =>
        if r35 = 0 then
          some ((-1000002), t_trial_players, t_trial_round, t_trial_time, t_trial_kind, t_trial_hand, t_trial_leader, t_trial_course_first, t_trial_course_second, t_trial_course_thrown)
        else
          o_X8_begun_49 N t_now_players t_now_round t_now_time t_now_kind t_now_hand t_now_leader l1 l2 N t_trial_players t_trial_round t_trial_time t_trial_kind t_trial_hand t_trial_leader t_trial_course_first t_trial_course_second t_trial_course_thrown 0 0))))
set_option maxHeartbeats 4000000 in
set_option maxRecDepth 100000 in
theorem z_X8_begun_49 {sK sV : Nat → Nat} {E : ZE} {cI cB cZ : ClassId} (hC : ZC E 5 cX8_begun wsX8_begun RX8 rmX8_begun (some .int) (zty cI cB cZ)) (hN : ZN sK sV (zA E) (zs E)) {N : Nat} {a_t : Nat} {a_t_now : Nat} {a_t_now_kind : Nat} {a_t_now_hand : Nat} {a_t_now_leader : Nat} {a_t_trial : Nat} {a_t_trial_kind : Nat} {a_t_trial_hand : Nat} {a_t_trial_leader : Nat} {a_t_trial_course : Nat} {a_t_rows : Nat} {a_t_tape : Nat} {a_t_reader : Nat} {a_t_acts : Nat} {a_t_ways : Nat} {a_t_asks : Nat} {a_t_images : Nat} {a_t_imageKept : Nat} {a_t_now_course : Nat} {t_latestFault : Int32} {t_latestFinding : Int32} {t_now_players : Int32} {t_now_round : Int32} {t_now_time : Int32} {t_now_kind : (Nat → Int32)} {t_now_hand : (Nat → Int32)} {t_now_leader : (Nat → Int32)} {l1 : Int32} {l2 : Int32} {rf : Int32 × Int32 × Int32 × Int32 × (Nat → Int32) × (Nat → Int32) × (Nat → Int32) × Int32 × Int32 × Int32} (hQ : ZQi E (zty cI cB cZ) rf.1 [(a_t, .inr (8, [.ref a_t_rows, .ref a_t_tape, .ref a_t_reader, .ref a_t_now, .ref a_t_trial, .ref a_t_acts, .ref a_t_ways, .ref a_t_asks, .ref a_t_images, .ref a_t_imageKept, .int t_latestFault, .int t_latestFinding])), (a_t_now, .inr (3, [.int t_now_players, .int t_now_round, .int t_now_time, .ref a_t_now_kind, .ref a_t_now_hand, .ref a_t_now_leader, .ref a_t_now_course])), (a_t_now_kind, .inl (cI, 8, .inl t_now_kind)), (a_t_now_hand, .inl (cI, 8, .inl t_now_hand)), (a_t_now_leader, .inl (cI, 8, .inl t_now_leader)), (a_t_trial, .inr (3, [.int rf.2.1, .int rf.2.2.1, .int rf.2.2.2.1, .ref a_t_trial_kind, .ref a_t_trial_hand, .ref a_t_trial_leader, .ref a_t_trial_course])), (a_t_trial_kind, .inl (cI, 8, .inl rf.2.2.2.2.1)), (a_t_trial_hand, .inl (cI, 8, .inl rf.2.2.2.2.2.1)), (a_t_trial_leader, .inl (cI, 8, .inl rf.2.2.2.2.2.2.1)), (a_t_trial_course, .inr (2, [.int rf.2.2.2.2.2.2.2.1, .int rf.2.2.2.2.2.2.2.2.1, .int rf.2.2.2.2.2.2.2.2.2]))]) : ∀ (n : Nat) (t_trial_players : Int32) (t_trial_round : Int32) (t_trial_time : Int32) (t_trial_kind : (Nat → Int32)) (t_trial_hand : (Nat → Int32)) (t_trial_leader : (Nat → Int32)) (t_trial_course_first : Int32) (t_trial_course_second : Int32) (t_trial_course_thrown : Int32) (l3 : Int32) (l4 : Int32), o_X8_begun_49 N t_now_players t_now_round t_now_time t_now_kind t_now_hand t_now_leader l1 l2 n t_trial_players t_trial_round t_trial_time t_trial_kind t_trial_hand t_trial_leader t_trial_course_first t_trial_course_second t_trial_course_thrown l3 l4 = some rf → Z E (0, 0) [(0, .ref a_t), (1, .int l1), (2, .int l2), (3, .int l3), (4, .int l4)] 49 [] [(a_t, .inr (8, [.ref a_t_rows, .ref a_t_tape, .ref a_t_reader, .ref a_t_now, .ref a_t_trial, .ref a_t_acts, .ref a_t_ways, .ref a_t_asks, .ref a_t_images, .ref a_t_imageKept, .int t_latestFault, .int t_latestFinding])), (a_t_now, .inr (3, [.int t_now_players, .int t_now_round, .int t_now_time, .ref a_t_now_kind, .ref a_t_now_hand, .ref a_t_now_leader, .ref a_t_now_course])), (a_t_now_kind, .inl (cI, 8, .inl t_now_kind)), (a_t_now_hand, .inl (cI, 8, .inl t_now_hand)), (a_t_now_leader, .inl (cI, 8, .inl t_now_leader)), (a_t_trial, .inr (3, [.int t_trial_players, .int t_trial_round, .int t_trial_time, .ref a_t_trial_kind, .ref a_t_trial_hand, .ref a_t_trial_leader, .ref a_t_trial_course])), (a_t_trial_kind, .inl (cI, 8, .inl t_trial_kind)), (a_t_trial_hand, .inl (cI, 8, .inl t_trial_hand)), (a_t_trial_leader, .inl (cI, 8, .inl t_trial_leader)), (a_t_trial_course, .inr (2, [.int t_trial_course_first, .int t_trial_course_second, .int t_trial_course_thrown]))] := by
  intro n
  induction n with
  | zero =>
    intro t_trial_players t_trial_round t_trial_time t_trial_kind t_trial_hand t_trial_leader t_trial_course_first t_trial_course_second t_trial_course_thrown l3 l4 hR
    cases hR
  | succ n ih =>
    intro t_trial_players t_trial_round t_trial_time t_trial_kind t_trial_hand t_trial_leader t_trial_course_first t_trial_course_second t_trial_course_thrown l3 l4 hR
    rw [o_X8_begun_49] at hR
    refine z_iload hC dX8_begun_49 4 rfl ?_
    refine z_ic3 hC dX8_begun_51 ?_
    refine z_icmp_ge hC 93 dX8_begun_52 (by decide) hR (fun hR => ?_) (fun hR => ?_)
    · refine z_iload_n hC dX8_begun_93 rfl 3 rfl ?_
      obtain rfl := Option.some.inj hR
      exact z_iret hC hQ rfl rfl rfl dX8_begun_94
    · refine z_aload_n hC dX8_begun_55 rfl 0 rfl ?_
      refine z_iload_n hC dX8_begun_56 rfl 1 rfl ?_
      refine z_iload hC dX8_begun_57 4 rfl ?_
      refine z_callVv hC hN [.int l1, .int l4] [0, 1, 2, 3, 4, 5, 6, 7, 8] (c_X8_tryHand (l := zl E) (D := zD E) (cI := cI) (cB := cB) (cZ := cZ) (N := N) (a_t := a_t) (a_t_rows := a_t_rows) (a_t_tape := a_t_tape) (a_t_reader := a_t_reader) (a_t_now := a_t_now) (a_t_trial := a_t_trial) (a_t_acts := a_t_acts) (a_t_ways := a_t_ways) (a_t_asks := a_t_asks) (a_t_images := a_t_images) (a_t_imageKept := a_t_imageKept) (a_t_now_kind := a_t_now_kind) (a_t_now_hand := a_t_now_hand) (a_t_now_leader := a_t_now_leader) (a_t_now_course := a_t_now_course) (a_t_trial_kind := a_t_trial_kind) (a_t_trial_hand := a_t_trial_hand) (a_t_trial_leader := a_t_trial_leader) (a_t_trial_course := a_t_trial_course) (l1 := l1) (l2 := l4) (t_latestFault := t_latestFault) (t_latestFinding := t_latestFinding) (t_now_players := t_now_players) (t_now_round := t_now_round) (t_now_time := t_now_time) (t_now_kind := t_now_kind) (t_now_hand := t_now_hand) (t_now_leader := t_now_leader) (t_trial_players := t_trial_players) (t_trial_round := t_trial_round) (t_trial_time := t_trial_time) (t_trial_kind := t_trial_kind) (t_trial_hand := t_trial_hand) (t_trial_leader := t_trial_leader)) rfl ⟨rfl, rfl⟩ gX8_begun_X8_tryHand hvX8_tryHand 0 8 rfl rfl rfl ⟨Nat.le_of_ble_eq_true rfl, Nat.le_of_ble_eq_true rfl⟩ ⟨Nat.zero_le _, Nat.zero_le _⟩ rfl (Nat.le_of_ble_eq_true rfl) rfl (by decide) (fun _ => rfl) dX8_begun_59 hR (fun r59 hR => ?_)
      refine z_eq [(a_t, .inr (8, [.ref a_t_rows, .ref a_t_tape, .ref a_t_reader, .ref a_t_now, .ref a_t_trial, .ref a_t_acts, .ref a_t_ways, .ref a_t_asks, .ref a_t_images, .ref a_t_imageKept, .int t_latestFault, .int t_latestFinding])), (a_t_now, .inr (3, [.int t_now_players, .int t_now_round, .int t_now_time, .ref a_t_now_kind, .ref a_t_now_hand, .ref a_t_now_leader, .ref a_t_now_course])), (a_t_now_kind, .inl (cI, 8, .inl t_now_kind)), (a_t_now_hand, .inl (cI, 8, .inl t_now_hand)), (a_t_now_leader, .inl (cI, 8, .inl t_now_leader)), (a_t_trial, .inr (3, [.int r59.1, .int r59.2.1, .int r59.2.2.1, .ref a_t_trial_kind, .ref a_t_trial_hand, .ref a_t_trial_leader, .ref a_t_trial_course])), (a_t_trial_kind, .inl (cI, 8, .inl r59.2.2.2.1)), (a_t_trial_hand, .inl (cI, 8, .inl r59.2.2.2.2.1)), (a_t_trial_leader, .inl (cI, 8, .inl r59.2.2.2.2.2)), (a_t_trial_course, .inr (2, [.int t_trial_course_first, .int t_trial_course_second, .int t_trial_course_thrown]))] rfl ?_
      refine z_aload_n hC dX8_begun_62 rfl 0 rfl ?_
      refine z_get hC iX8_begun_X8 rfl 0 4 rfl (by decide) mX8_begun_4 rfl rfl dX8_begun_63 ?_
      refine z_callVv hC hN [] [5, 6, 7, 8, 9] (c_X3_playToTheEnd (l := zl E) (D := zD E) (cI := cI) (cB := cB) (cZ := cZ) (N := N) (a_t := a_t_trial) (a_t_kind := a_t_trial_kind) (a_t_hand := a_t_trial_hand) (a_t_leader := a_t_trial_leader) (a_t_course := a_t_trial_course) (t_players := r59.1) (t_round := r59.2.1) (t_time := r59.2.2.1) (t_kind := r59.2.2.2.1) (t_hand := r59.2.2.2.2.1) (t_leader := r59.2.2.2.2.2) (t_course_first := t_trial_course_first) (t_course_second := t_trial_course_second) (t_course_thrown := t_trial_course_thrown)) rfl ⟨rfl, rfl⟩ gX8_begun_X3_playToTheEnd hvX3_playToTheEnd 5 3 rfl rfl rfl ⟨Nat.le_of_ble_eq_true rfl, Nat.le_of_ble_eq_true rfl⟩ ⟨Nat.zero_le _, Nat.zero_le _⟩ rfl (Nat.le_of_ble_eq_true rfl) rfl (by decide) (fun _ => rfl) dX8_begun_66 hR (fun r66 hR => ?_)
      refine z_eq [(a_t, .inr (8, [.ref a_t_rows, .ref a_t_tape, .ref a_t_reader, .ref a_t_now, .ref a_t_trial, .ref a_t_acts, .ref a_t_ways, .ref a_t_asks, .ref a_t_images, .ref a_t_imageKept, .int t_latestFault, .int t_latestFinding])), (a_t_now, .inr (3, [.int t_now_players, .int t_now_round, .int t_now_time, .ref a_t_now_kind, .ref a_t_now_hand, .ref a_t_now_leader, .ref a_t_now_course])), (a_t_now_kind, .inl (cI, 8, .inl t_now_kind)), (a_t_now_hand, .inl (cI, 8, .inl t_now_hand)), (a_t_now_leader, .inl (cI, 8, .inl t_now_leader)), (a_t_trial, .inr (3, [.int r59.1, .int r66.1, .int r66.2.1, .ref a_t_trial_kind, .ref a_t_trial_hand, .ref a_t_trial_leader, .ref a_t_trial_course])), (a_t_trial_kind, .inl (cI, 8, .inl r59.2.2.2.1)), (a_t_trial_hand, .inl (cI, 8, .inl r66.2.2.1)), (a_t_trial_leader, .inl (cI, 8, .inl r66.2.2.2.1)), (a_t_trial_course, .inr (2, [.int r66.2.2.2.2.1, .int r66.2.2.2.2.2.1, .int r66.2.2.2.2.2.2]))] rfl ?_
      refine z_aload_n hC dX8_begun_69 rfl 0 rfl ?_
      refine z_get hC iX8_begun_X8 rfl 0 4 rfl (by decide) mX8_begun_4 rfl rfl dX8_begun_70 ?_
      refine z_iload_n hC dX8_begun_73 rfl 2 rfl ?_
      refine z_callVi_p hC hN [.int l2] [5, 8] (c_X3_leads (l := zl E) (D := zD E) (cI := cI) (cB := cB) (cZ := cZ) (N := N) (a_t := a_t_trial) (a_t_kind := a_t_trial_kind) (a_t_hand := a_t_trial_hand) (a_t_leader := a_t_trial_leader) (a_t_course := a_t_trial_course) (l1 := l2) (t_players := r59.1) (t_round := r66.1) (t_time := r66.2.1) (t_leader := r66.2.2.2.1)) rfl ⟨rfl, rfl⟩ gX8_begun_X3_leads hvX3_leads 5 3 rfl rfl rfl ⟨Nat.le_of_ble_eq_true rfl, Nat.le_of_ble_eq_true rfl⟩ ⟨Nat.zero_le _, Nat.zero_le _⟩ rfl (Nat.le_of_ble_eq_true rfl) rfl (by decide) dX8_begun_74 hR (fun r74 hR => ?_)
      refine z_if_eq hC 87 dX8_begun_77 (by decide) hR (fun hR => ?_) (fun hR => ?_)
      · refine z_iinc1 hC [(4, .int (l4 + 1)), (0, .ref a_t), (1, .int l1), (2, .int l2), (3, .int l3)] dX8_begun_87 4 rfl (by decide) rfl ?_
        refine z_goto hC 49 dX8_begun_90 (by decide) ?_
        refine z_sub (lv' := [(0, .ref a_t), (1, .int l1), (2, .int l2), (3, .int l3), (4, .int (l4 + 1))]) [1, 2, 3, 4, 0] rfl ?_
        exact ih r59.1 r66.1 r66.2.1 r59.2.2.2.1 r66.2.2.1 r66.2.2.2.1 r66.2.2.2.2.1 r66.2.2.2.2.2.1 r66.2.2.2.2.2.2 l3 (l4 + 1) hR
      · refine z_iload_n hC dX8_begun_80 rfl 3 rfl ?_
        refine z_ic1 hC dX8_begun_81 ?_
        refine z_iload hC dX8_begun_82 4 rfl ?_
        refine z_ishl hC dX8_begun_84 ?_
        refine z_ior hC dX8_begun_85 ?_
        refine z_istore_n hC [(3, .int (l3 ||| (1 <<< (l4 &&& 31)))), (0, .ref a_t), (1, .int l1), (2, .int l2), (4, .int l4)] dX8_begun_86 rfl (by decide) rfl ?_
        refine z_iinc1 hC [(4, .int (l4 + 1)), (3, .int (l3 ||| (1 <<< (l4 &&& 31)))), (0, .ref a_t), (1, .int l1), (2, .int l2)] dX8_begun_87 4 rfl (by decide) rfl ?_
        refine z_goto hC 49 dX8_begun_90 (by decide) ?_
        refine z_sub (lv' := [(0, .ref a_t), (1, .int l1), (2, .int l2), (3, .int (l3 ||| (1 <<< (l4 &&& 31)))), (4, .int (l4 + 1))]) [2, 3, 4, 1, 0] rfl ?_
        exact ih r59.1 r66.1 r66.2.1 r59.2.2.2.1 r66.2.2.1 r66.2.2.2.1 r66.2.2.2.2.1 r66.2.2.2.2.2.1 r66.2.2.2.2.2.2 (l3 ||| (1 <<< (l4 &&& 31))) (l4 + 1) hR
set_option maxHeartbeats 4000000 in
set_option maxRecDepth 100000 in
theorem z_X8_begun_0 {sK sV : Nat → Nat} {E : ZE} {cI cB cZ : ClassId} (hC : ZC E 5 cX8_begun wsX8_begun RX8 rmX8_begun (some .int) (zty cI cB cZ)) (hN : ZN sK sV (zA E) (zs E)) {N : Nat} {a_t : Nat} {a_t_now : Nat} {a_t_now_kind : Nat} {a_t_now_hand : Nat} {a_t_now_leader : Nat} {a_t_trial : Nat} {a_t_trial_kind : Nat} {a_t_trial_hand : Nat} {a_t_trial_leader : Nat} {a_t_trial_course : Nat} {a_t_rows : Nat} {a_t_tape : Nat} {a_t_reader : Nat} {a_t_acts : Nat} {a_t_ways : Nat} {a_t_asks : Nat} {a_t_images : Nat} {a_t_imageKept : Nat} {a_t_now_course : Nat} {t_latestFault : Int32} {t_latestFinding : Int32} {t_now_players : Int32} {t_now_round : Int32} {t_now_time : Int32} {t_now_kind : (Nat → Int32)} {t_now_hand : (Nat → Int32)} {t_now_leader : (Nat → Int32)} {t_trial_players : Int32} {t_trial_round : Int32} {t_trial_time : Int32} {t_trial_kind : (Nat → Int32)} {t_trial_hand : (Nat → Int32)} {t_trial_leader : (Nat → Int32)} {t_trial_course_first : Int32} {t_trial_course_second : Int32} {t_trial_course_thrown : Int32} {l1 : Int32} {l2 : Int32} {rf : Int32 × Int32 × Int32 × Int32 × (Nat → Int32) × (Nat → Int32) × (Nat → Int32) × Int32 × Int32 × Int32} (hQ : ZQi E (zty cI cB cZ) rf.1 [(a_t, .inr (8, [.ref a_t_rows, .ref a_t_tape, .ref a_t_reader, .ref a_t_now, .ref a_t_trial, .ref a_t_acts, .ref a_t_ways, .ref a_t_asks, .ref a_t_images, .ref a_t_imageKept, .int t_latestFault, .int t_latestFinding])), (a_t_now, .inr (3, [.int t_now_players, .int t_now_round, .int t_now_time, .ref a_t_now_kind, .ref a_t_now_hand, .ref a_t_now_leader, .ref a_t_now_course])), (a_t_now_kind, .inl (cI, 8, .inl t_now_kind)), (a_t_now_hand, .inl (cI, 8, .inl t_now_hand)), (a_t_now_leader, .inl (cI, 8, .inl t_now_leader)), (a_t_trial, .inr (3, [.int rf.2.1, .int rf.2.2.1, .int rf.2.2.2.1, .ref a_t_trial_kind, .ref a_t_trial_hand, .ref a_t_trial_leader, .ref a_t_trial_course])), (a_t_trial_kind, .inl (cI, 8, .inl rf.2.2.2.2.1)), (a_t_trial_hand, .inl (cI, 8, .inl rf.2.2.2.2.2.1)), (a_t_trial_leader, .inl (cI, 8, .inl rf.2.2.2.2.2.2.1)), (a_t_trial_course, .inr (2, [.int rf.2.2.2.2.2.2.2.1, .int rf.2.2.2.2.2.2.2.2.1, .int rf.2.2.2.2.2.2.2.2.2]))]) (hR : o_X8_begun N t_now_players t_now_round t_now_time t_now_kind t_now_hand t_now_leader t_trial_players t_trial_round t_trial_time t_trial_kind t_trial_hand t_trial_leader t_trial_course_first t_trial_course_second t_trial_course_thrown l1 l2 = some rf) : Z E (0, 0) [(0, .ref a_t), (1, .int l1), (2, .int l2)] 0 [] [(a_t, .inr (8, [.ref a_t_rows, .ref a_t_tape, .ref a_t_reader, .ref a_t_now, .ref a_t_trial, .ref a_t_acts, .ref a_t_ways, .ref a_t_asks, .ref a_t_images, .ref a_t_imageKept, .int t_latestFault, .int t_latestFinding])), (a_t_now, .inr (3, [.int t_now_players, .int t_now_round, .int t_now_time, .ref a_t_now_kind, .ref a_t_now_hand, .ref a_t_now_leader, .ref a_t_now_course])), (a_t_now_kind, .inl (cI, 8, .inl t_now_kind)), (a_t_now_hand, .inl (cI, 8, .inl t_now_hand)), (a_t_now_leader, .inl (cI, 8, .inl t_now_leader)), (a_t_trial, .inr (3, [.int t_trial_players, .int t_trial_round, .int t_trial_time, .ref a_t_trial_kind, .ref a_t_trial_hand, .ref a_t_trial_leader, .ref a_t_trial_course])), (a_t_trial_kind, .inl (cI, 8, .inl t_trial_kind)), (a_t_trial_hand, .inl (cI, 8, .inl t_trial_hand)), (a_t_trial_leader, .inl (cI, 8, .inl t_trial_leader)), (a_t_trial_course, .inr (2, [.int t_trial_course_first, .int t_trial_course_second, .int t_trial_course_thrown]))] := by
  rw [o_X8_begun] at hR
  refine z_aload_n hC dX8_begun_0 rfl 0 rfl ?_
  refine z_iload_n hC dX8_begun_1 rfl 1 rfl ?_
  refine z_callVi_p hC hN [.int l1] [0, 1] (c_X8_isPlayer (l := zl E) (D := zD E) (cI := cI) (cB := cB) (cZ := cZ) (N := N) (a_t := a_t) (a_t_rows := a_t_rows) (a_t_tape := a_t_tape) (a_t_reader := a_t_reader) (a_t_now := a_t_now) (a_t_trial := a_t_trial) (a_t_acts := a_t_acts) (a_t_ways := a_t_ways) (a_t_asks := a_t_asks) (a_t_images := a_t_images) (a_t_imageKept := a_t_imageKept) (a_t_now_kind := a_t_now_kind) (a_t_now_hand := a_t_now_hand) (a_t_now_leader := a_t_now_leader) (a_t_now_course := a_t_now_course) (l1 := l1) (t_latestFault := t_latestFault) (t_latestFinding := t_latestFinding) (t_now_players := t_now_players) (t_now_round := t_now_round) (t_now_time := t_now_time)) rfl ⟨rfl, rfl⟩ gX8_begun_X8_isPlayer hvX8_isPlayer 0 8 rfl rfl rfl ⟨Nat.le_of_ble_eq_true rfl, Nat.le_of_ble_eq_true rfl⟩ ⟨Nat.zero_le _, Nat.zero_le _⟩ rfl (Nat.le_of_ble_eq_true rfl) rfl (by decide) dX8_begun_2 hR (fun r2 hR => ?_)
  refine z_if_eq hC 16 dX8_begun_5 (by decide) hR (fun hR => ?_) (fun hR => ?_)
  · refine z_ldc hC (-1000001) mX8_begun_1 dX8_begun_16 ?_
    obtain rfl := Option.some.inj hR
    exact z_iret hC hQ rfl rfl rfl dX8_begun_18
  · refine z_aload_n hC dX8_begun_8 rfl 0 rfl ?_
    refine z_iload_n hC dX8_begun_9 rfl 2 rfl ?_
    refine z_callVi_p hC hN [.int l2] [0, 1] (c_X8_isPlayer (l := zl E) (D := zD E) (cI := cI) (cB := cB) (cZ := cZ) (N := N) (a_t := a_t) (a_t_rows := a_t_rows) (a_t_tape := a_t_tape) (a_t_reader := a_t_reader) (a_t_now := a_t_now) (a_t_trial := a_t_trial) (a_t_acts := a_t_acts) (a_t_ways := a_t_ways) (a_t_asks := a_t_asks) (a_t_images := a_t_images) (a_t_imageKept := a_t_imageKept) (a_t_now_kind := a_t_now_kind) (a_t_now_hand := a_t_now_hand) (a_t_now_leader := a_t_now_leader) (a_t_now_course := a_t_now_course) (l1 := l2) (t_latestFault := t_latestFault) (t_latestFinding := t_latestFinding) (t_now_players := t_now_players) (t_now_round := t_now_round) (t_now_time := t_now_time)) rfl ⟨rfl, rfl⟩ gX8_begun_X8_isPlayer hvX8_isPlayer 0 8 rfl rfl rfl ⟨Nat.le_of_ble_eq_true rfl, Nat.le_of_ble_eq_true rfl⟩ ⟨Nat.zero_le _, Nat.zero_le _⟩ rfl (Nat.le_of_ble_eq_true rfl) rfl (by decide) dX8_begun_10 hR (fun r10 hR => ?_)
    refine z_if_ne hC 19 dX8_begun_13 (by decide) hR (fun hR => ?_) (fun hR => ?_)
    · refine z_aload_n hC dX8_begun_19 rfl 0 rfl ?_
      refine z_get hC iX8_begun_X8 rfl 0 3 rfl (by decide) mX8_begun_2 rfl rfl dX8_begun_20 ?_
      refine z_iload_n hC dX8_begun_23 rfl 1 rfl ?_
      refine z_callVi_p hC hN [.int l1] [1, 4] (c_X3_leads (l := zl E) (D := zD E) (cI := cI) (cB := cB) (cZ := cZ) (N := N) (a_t := a_t_now) (a_t_kind := a_t_now_kind) (a_t_hand := a_t_now_hand) (a_t_leader := a_t_now_leader) (a_t_course := a_t_now_course) (l1 := l1) (t_players := t_now_players) (t_round := t_now_round) (t_time := t_now_time) (t_leader := t_now_leader)) rfl ⟨rfl, rfl⟩ gX8_begun_X3_leads hvX3_leads 1 3 rfl rfl rfl ⟨Nat.le_of_ble_eq_true rfl, Nat.le_of_ble_eq_true rfl⟩ ⟨Nat.zero_le _, Nat.zero_le _⟩ rfl (Nat.le_of_ble_eq_true rfl) rfl (by decide) dX8_begun_24 hR (fun r24 hR => ?_)
      refine z_if_eq hC 41 dX8_begun_27 (by decide) hR (fun hR => ?_) (fun hR => ?_)
      · refine z_ldc hC (-1000002) mX8_begun_3 dX8_begun_41 ?_
        obtain rfl := Option.some.inj hR
        exact z_iret hC hQ rfl rfl rfl dX8_begun_43
      · refine z_aload_n hC dX8_begun_30 rfl 0 rfl ?_
        refine z_get hC iX8_begun_X8 rfl 0 3 rfl (by decide) mX8_begun_2 rfl rfl dX8_begun_31 ?_
        refine z_iload_n hC dX8_begun_34 rfl 2 rfl ?_
        refine z_callVi_p hC hN [.int l2] [1, 4] (c_X3_leads (l := zl E) (D := zD E) (cI := cI) (cB := cB) (cZ := cZ) (N := N) (a_t := a_t_now) (a_t_kind := a_t_now_kind) (a_t_hand := a_t_now_hand) (a_t_leader := a_t_now_leader) (a_t_course := a_t_now_course) (l1 := l2) (t_players := t_now_players) (t_round := t_now_round) (t_time := t_now_time) (t_leader := t_now_leader)) rfl ⟨rfl, rfl⟩ gX8_begun_X3_leads hvX3_leads 1 3 rfl rfl rfl ⟨Nat.le_of_ble_eq_true rfl, Nat.le_of_ble_eq_true rfl⟩ ⟨Nat.zero_le _, Nat.zero_le _⟩ rfl (Nat.le_of_ble_eq_true rfl) rfl (by decide) dX8_begun_35 hR (fun r35 hR => ?_)
        refine z_if_ne hC 44 dX8_begun_38 (by decide) hR (fun hR => ?_) (fun hR => ?_)
        · refine z_ic0 hC dX8_begun_44 ?_
          refine z_istore_n hC [(3, .int 0), (0, .ref a_t), (1, .int l1), (2, .int l2)] dX8_begun_45 rfl (by decide) rfl ?_
          refine z_ic0 hC dX8_begun_46 ?_
          refine z_istore hC [(4, .int 0), (3, .int 0), (0, .ref a_t), (1, .int l1), (2, .int l2)] dX8_begun_47 (by decide) rfl ?_
          refine z_sub (lv' := [(0, .ref a_t), (1, .int l1), (2, .int l2), (3, .int 0), (4, .int 0)]) [2, 3, 4, 1, 0] rfl ?_
          exact z_X8_begun_49 hC hN (N := N) (a_t := a_t) (a_t_now := a_t_now) (a_t_now_kind := a_t_now_kind) (a_t_now_hand := a_t_now_hand) (a_t_now_leader := a_t_now_leader) (a_t_trial := a_t_trial) (a_t_trial_kind := a_t_trial_kind) (a_t_trial_hand := a_t_trial_hand) (a_t_trial_leader := a_t_trial_leader) (a_t_trial_course := a_t_trial_course) (a_t_rows := a_t_rows) (a_t_tape := a_t_tape) (a_t_reader := a_t_reader) (a_t_acts := a_t_acts) (a_t_ways := a_t_ways) (a_t_asks := a_t_asks) (a_t_images := a_t_images) (a_t_imageKept := a_t_imageKept) (a_t_now_course := a_t_now_course) (t_latestFault := t_latestFault) (t_latestFinding := t_latestFinding) (t_now_players := t_now_players) (t_now_round := t_now_round) (t_now_time := t_now_time) (t_now_kind := t_now_kind) (t_now_hand := t_now_hand) (t_now_leader := t_now_leader) (l1 := l1) (l2 := l2) hQ  N t_trial_players t_trial_round t_trial_time t_trial_kind t_trial_hand t_trial_leader t_trial_course_first t_trial_course_second t_trial_course_thrown 0 0 hR
        · refine z_ldc hC (-1000002) mX8_begun_3 dX8_begun_41 ?_
          obtain rfl := Option.some.inj hR
          exact z_iret hC hQ rfl rfl rfl dX8_begun_43
    · refine z_ldc hC (-1000001) mX8_begun_1 dX8_begun_16 ?_
      obtain rfl := Option.some.inj hR
      exact z_iret hC hQ rfl rfl rfl dX8_begun_18
set_option maxHeartbeats 4000000 in
set_option maxRecDepth 100000 in
theorem c_X8_begun {sK sV : Nat → Nat} {l : Launch} {D : va_G} {cI cB cZ : ClassId} {N : Nat} {a_t : Nat} {a_t_now : Nat} {a_t_now_kind : Nat} {a_t_now_hand : Nat} {a_t_now_leader : Nat} {a_t_trial : Nat} {a_t_trial_kind : Nat} {a_t_trial_hand : Nat} {a_t_trial_leader : Nat} {a_t_trial_course : Nat} {a_t_rows : Nat} {a_t_tape : Nat} {a_t_reader : Nat} {a_t_acts : Nat} {a_t_ways : Nat} {a_t_asks : Nat} {a_t_images : Nat} {a_t_imageKept : Nat} {a_t_now_course : Nat} {t_latestFault : Int32} {t_latestFinding : Int32} {t_now_players : Int32} {t_now_round : Int32} {t_now_time : Int32} {t_now_kind : (Nat → Int32)} {t_now_hand : (Nat → Int32)} {t_now_leader : (Nat → Int32)} {t_trial_players : Int32} {t_trial_round : Int32} {t_trial_time : Int32} {t_trial_kind : (Nat → Int32)} {t_trial_hand : (Nat → Int32)} {t_trial_leader : (Nat → Int32)} {t_trial_course_first : Int32} {t_trial_course_second : Int32} {t_trial_course_thrown : Int32} {l1 : Int32} {l2 : Int32} : ∀ R : Int32 × Int32 × Int32 × Int32 × (Nat → Int32) × (Nat → Int32) × (Nat → Int32) × Int32 × Int32 × Int32, o_X8_begun N t_now_players t_now_round t_now_time t_now_kind t_now_hand t_now_leader t_trial_players t_trial_round t_trial_time t_trial_kind t_trial_hand t_trial_leader t_trial_course_first t_trial_course_second t_trial_course_thrown l1 l2 = some R → ZMi sK sV l yX8_begun wsX8_begun rmX8_begun D (zty cI cB cZ) [.ref a_t, .int l1, .int l2] [(a_t, .inr (8, [.ref a_t_rows, .ref a_t_tape, .ref a_t_reader, .ref a_t_now, .ref a_t_trial, .ref a_t_acts, .ref a_t_ways, .ref a_t_asks, .ref a_t_images, .ref a_t_imageKept, .int t_latestFault, .int t_latestFinding])), (a_t_now, .inr (3, [.int t_now_players, .int t_now_round, .int t_now_time, .ref a_t_now_kind, .ref a_t_now_hand, .ref a_t_now_leader, .ref a_t_now_course])), (a_t_now_kind, .inl (cI, 8, .inl t_now_kind)), (a_t_now_hand, .inl (cI, 8, .inl t_now_hand)), (a_t_now_leader, .inl (cI, 8, .inl t_now_leader)), (a_t_trial, .inr (3, [.int t_trial_players, .int t_trial_round, .int t_trial_time, .ref a_t_trial_kind, .ref a_t_trial_hand, .ref a_t_trial_leader, .ref a_t_trial_course])), (a_t_trial_kind, .inl (cI, 8, .inl t_trial_kind)), (a_t_trial_hand, .inl (cI, 8, .inl t_trial_hand)), (a_t_trial_leader, .inl (cI, 8, .inl t_trial_leader)), (a_t_trial_course, .inr (2, [.int t_trial_course_first, .int t_trial_course_second, .int t_trial_course_thrown]))] R.1 [(a_t, .inr (8, [.ref a_t_rows, .ref a_t_tape, .ref a_t_reader, .ref a_t_now, .ref a_t_trial, .ref a_t_acts, .ref a_t_ways, .ref a_t_asks, .ref a_t_images, .ref a_t_imageKept, .int t_latestFault, .int t_latestFinding])), (a_t_now, .inr (3, [.int t_now_players, .int t_now_round, .int t_now_time, .ref a_t_now_kind, .ref a_t_now_hand, .ref a_t_now_leader, .ref a_t_now_course])), (a_t_now_kind, .inl (cI, 8, .inl t_now_kind)), (a_t_now_hand, .inl (cI, 8, .inl t_now_hand)), (a_t_now_leader, .inl (cI, 8, .inl t_now_leader)), (a_t_trial, .inr (3, [.int R.2.1, .int R.2.2.1, .int R.2.2.2.1, .ref a_t_trial_kind, .ref a_t_trial_hand, .ref a_t_trial_leader, .ref a_t_trial_course])), (a_t_trial_kind, .inl (cI, 8, .inl R.2.2.2.2.1)), (a_t_trial_hand, .inl (cI, 8, .inl R.2.2.2.2.2.1)), (a_t_trial_leader, .inl (cI, 8, .inl R.2.2.2.2.2.2.1)), (a_t_trial_course, .inr (2, [.int R.2.2.2.2.2.2.2.1, .int R.2.2.2.2.2.2.2.2.1, .int R.2.2.2.2.2.2.2.2.2]))] := by
  intro R hR
  refine zi_of (cc := cX8_begun) (maxL := 5) (ret := (some .int)) (by decide) rfl (Nat.le_of_ble_eq_true rfl) (fun E hE1 hE2 hC hN hQ => ?_)
  subst hE1 hE2
  exact z_X8_begun_0 hC hN (N := N) (a_t := a_t) (a_t_now := a_t_now) (a_t_now_kind := a_t_now_kind) (a_t_now_hand := a_t_now_hand) (a_t_now_leader := a_t_now_leader) (a_t_trial := a_t_trial) (a_t_trial_kind := a_t_trial_kind) (a_t_trial_hand := a_t_trial_hand) (a_t_trial_leader := a_t_trial_leader) (a_t_trial_course := a_t_trial_course) (a_t_rows := a_t_rows) (a_t_tape := a_t_tape) (a_t_reader := a_t_reader) (a_t_acts := a_t_acts) (a_t_ways := a_t_ways) (a_t_asks := a_t_asks) (a_t_images := a_t_images) (a_t_imageKept := a_t_imageKept) (a_t_now_course := a_t_now_course) (t_latestFault := t_latestFault) (t_latestFinding := t_latestFinding) (t_now_players := t_now_players) (t_now_round := t_now_round) (t_now_time := t_now_time) (t_now_kind := t_now_kind) (t_now_hand := t_now_hand) (t_now_leader := t_now_leader) (t_trial_players := t_trial_players) (t_trial_round := t_trial_round) (t_trial_time := t_trial_time) (t_trial_kind := t_trial_kind) (t_trial_hand := t_trial_hand) (t_trial_leader := t_trial_leader) (t_trial_course_first := t_trial_course_first) (t_trial_course_second := t_trial_course_second) (t_trial_course_thrown := t_trial_course_thrown) (l1 := l1) (l2 := l2) hQ hR

/-! FistTrains.isShare -/
abbrev rmX8_isShare : Room := { frames := 0, cells := 0, slots := 0, locals := 0 }
def o_X8_isShare (N : Nat) (l0 : Int32) : Option (Int32) :=
  if l0 < 0 then
    some (0)
  else
    if 9 < l0 then
      some (0)
    else
      some (1)
set_option maxHeartbeats 4000000 in
set_option maxRecDepth 100000 in
theorem z_X8_isShare_0 {sK sV : Nat → Nat} {E : ZE} {cI cB cZ : ClassId} (hC : ZC E 1 cX8_isShare wsX8_isShare RX8 rmX8_isShare (some .boolean) (zty cI cB cZ)) (hN : ZN sK sV (zA E) (zs E)) {N : Nat} {l0 : Int32} {rf : Int32} (hQ : ZQi E (zty cI cB cZ) rf []) (hR : o_X8_isShare N l0 = some rf) : Z E (0, 0) [(0, .int l0)] 0 [] [] := by
  rw [o_X8_isShare] at hR
  refine z_iload_n hC dX8_isShare_0 rfl 0 rfl ?_
  refine z_if_lt hC 14 dX8_isShare_1 (by decide) hR (fun hR => ?_) (fun hR => ?_)
  · refine z_ic0 hC dX8_isShare_14 ?_
    obtain rfl := Option.some.inj hR
    exact z_iret hC hQ rfl rfl rfl dX8_isShare_15
  · refine z_iload_n hC dX8_isShare_4 rfl 0 rfl ?_
    refine z_bipush (v := 9) hC dX8_isShare_5 (by decide) ?_
    refine z_icmp_gt hC 14 dX8_isShare_7 (by decide) hR (fun hR => ?_) (fun hR => ?_)
    · refine z_ic0 hC dX8_isShare_14 ?_
      obtain rfl := Option.some.inj hR
      exact z_iret hC hQ rfl rfl rfl dX8_isShare_15
    · refine z_ic1 hC dX8_isShare_10 ?_
      refine z_goto hC 15 dX8_isShare_11 (by decide) ?_
      obtain rfl := Option.some.inj hR
      exact z_iret hC hQ rfl rfl rfl dX8_isShare_15
set_option maxHeartbeats 4000000 in
set_option maxRecDepth 100000 in
theorem c_X8_isShare {sK sV : Nat → Nat} {l : Launch} {D : va_G} {cI cB cZ : ClassId} {N : Nat} {l0 : Int32} : ∀ R : Int32, o_X8_isShare N l0 = some R → ZMi sK sV l yX8_isShare wsX8_isShare rmX8_isShare D (zty cI cB cZ) [.int l0] [] R [] := by
  intro R hR
  refine zi_of (cc := cX8_isShare) (maxL := 1) (ret := (some .boolean)) (by decide) rfl (Nat.le_of_ble_eq_true rfl) (fun E hE1 hE2 hC hN hQ => ?_)
  subst hE1 hE2
  exact z_X8_isShare_0 hC hN (N := N) (l0 := l0) hQ hR

/-! FistTrains.areOdds -/
abbrev rmX8_areOdds : Room := { frames := 1, cells := 0, slots := 0, locals := 20 }
def o_X8_areOdds (N : Nat) (l0 : Int32) (l1 : Int32) (l2 : Int32) : Option (Int32) :=
  Option.bind (o_X8_isShare N l0) (fun r1 =>
  if r1 = 0 then
    some (0)
  else
    Option.bind (o_X8_isShare N l1) (fun r8 =>
    if r8 = 0 then
      some (0)
    else
      Option.bind (o_X8_isShare N l2) (fun r15 =>
      if r15 = 0 then
        some (0)
      else
        if ((l0 + l1) + l2) = 9 then
          some (1)
        else
          some (0))))
set_option maxHeartbeats 4000000 in
set_option maxRecDepth 100000 in
theorem z_X8_areOdds_0 {sK sV : Nat → Nat} {E : ZE} {cI cB cZ : ClassId} (hC : ZC E 3 cX8_areOdds wsX8_areOdds RX8 rmX8_areOdds (some .boolean) (zty cI cB cZ)) (hN : ZN sK sV (zA E) (zs E)) {N : Nat} {l0 : Int32} {l1 : Int32} {l2 : Int32} {rf : Int32} (hQ : ZQi E (zty cI cB cZ) rf []) (hR : o_X8_areOdds N l0 l1 l2 = some rf) : Z E (0, 0) [(0, .int l0), (1, .int l1), (2, .int l2)] 0 [] [] := by
  rw [o_X8_areOdds] at hR
  refine z_iload_n hC dX8_areOdds_0 rfl 0 rfl ?_
  refine z_callSi_p hC hN [.int l0] [] (c_X8_isShare (l := zl E) (D := zD E) (cI := cI) (cB := cB) (cZ := cZ) (N := N) (l0 := l0)) rfl ⟨rfl, rfl⟩ gX8_areOdds_X8_isShare hsX8_isShare ⟨Nat.le_of_ble_eq_true rfl, Nat.le_of_ble_eq_true rfl⟩ ⟨Nat.zero_le _, Nat.zero_le _⟩ rfl (Nat.le_of_ble_eq_true rfl) rfl (by decide) dX8_areOdds_1 hR (fun r1 hR => ?_)
  refine z_if_eq hC 35 dX8_areOdds_4 (by decide) hR (fun hR => ?_) (fun hR => ?_)
  · refine z_ic0 hC dX8_areOdds_35 ?_
    obtain rfl := Option.some.inj hR
    exact z_iret hC hQ rfl rfl rfl dX8_areOdds_36
  · refine z_iload_n hC dX8_areOdds_7 rfl 1 rfl ?_
    refine z_callSi_p hC hN [.int l1] [] (c_X8_isShare (l := zl E) (D := zD E) (cI := cI) (cB := cB) (cZ := cZ) (N := N) (l0 := l1)) rfl ⟨rfl, rfl⟩ gX8_areOdds_X8_isShare hsX8_isShare ⟨Nat.le_of_ble_eq_true rfl, Nat.le_of_ble_eq_true rfl⟩ ⟨Nat.zero_le _, Nat.zero_le _⟩ rfl (Nat.le_of_ble_eq_true rfl) rfl (by decide) dX8_areOdds_8 hR (fun r8 hR => ?_)
    refine z_if_eq hC 35 dX8_areOdds_11 (by decide) hR (fun hR => ?_) (fun hR => ?_)
    · refine z_ic0 hC dX8_areOdds_35 ?_
      obtain rfl := Option.some.inj hR
      exact z_iret hC hQ rfl rfl rfl dX8_areOdds_36
    · refine z_iload_n hC dX8_areOdds_14 rfl 2 rfl ?_
      refine z_callSi_p hC hN [.int l2] [] (c_X8_isShare (l := zl E) (D := zD E) (cI := cI) (cB := cB) (cZ := cZ) (N := N) (l0 := l2)) rfl ⟨rfl, rfl⟩ gX8_areOdds_X8_isShare hsX8_isShare ⟨Nat.le_of_ble_eq_true rfl, Nat.le_of_ble_eq_true rfl⟩ ⟨Nat.zero_le _, Nat.zero_le _⟩ rfl (Nat.le_of_ble_eq_true rfl) rfl (by decide) dX8_areOdds_15 hR (fun r15 hR => ?_)
      refine z_if_eq hC 35 dX8_areOdds_18 (by decide) hR (fun hR => ?_) (fun hR => ?_)
      · refine z_ic0 hC dX8_areOdds_35 ?_
        obtain rfl := Option.some.inj hR
        exact z_iret hC hQ rfl rfl rfl dX8_areOdds_36
      · refine z_iload_n hC dX8_areOdds_21 rfl 0 rfl ?_
        refine z_iload_n hC dX8_areOdds_22 rfl 1 rfl ?_
        refine z_iadd hC dX8_areOdds_23 ?_
        refine z_iload_n hC dX8_areOdds_24 rfl 2 rfl ?_
        refine z_iadd hC dX8_areOdds_25 ?_
        refine z_bipush (v := 9) hC dX8_areOdds_26 (by decide) ?_
        refine z_icmp_ne hC 35 dX8_areOdds_28 (by decide) hR (fun hR => ?_) (fun hR => ?_)
        · refine z_ic0 hC dX8_areOdds_35 ?_
          obtain rfl := Option.some.inj hR
          exact z_iret hC hQ rfl rfl rfl dX8_areOdds_36
        · refine z_ic1 hC dX8_areOdds_31 ?_
          refine z_goto hC 36 dX8_areOdds_32 (by decide) ?_
          obtain rfl := Option.some.inj hR
          exact z_iret hC hQ rfl rfl rfl dX8_areOdds_36
set_option maxHeartbeats 4000000 in
set_option maxRecDepth 100000 in
theorem c_X8_areOdds {sK sV : Nat → Nat} {l : Launch} {D : va_G} {cI cB cZ : ClassId} {N : Nat} {l0 : Int32} {l1 : Int32} {l2 : Int32} : ∀ R : Int32, o_X8_areOdds N l0 l1 l2 = some R → ZMi sK sV l yX8_areOdds wsX8_areOdds rmX8_areOdds D (zty cI cB cZ) [.int l0, .int l1, .int l2] [] R [] := by
  intro R hR
  refine zi_of (cc := cX8_areOdds) (maxL := 3) (ret := (some .boolean)) (by decide) rfl (Nat.le_of_ble_eq_true rfl) (fun E hE1 hE2 hC hN hQ => ?_)
  subst hE1 hE2
  exact z_X8_areOdds_0 hC hN (N := N) (l0 := l0) (l1 := l1) (l2 := l2) hQ hR

/-! FistTrains.shareOf -/
abbrev rmX8_shareOf : Room := { frames := 0, cells := 0, slots := 0, locals := 0 }
def o_X8_shareOf (N : Nat) (l0 : Int32) (l1 : Int32) (l2 : Int32) (l3 : Int32) : Option (Int32) :=
  if l0 = 0 then
    some (l1)
  else
    if l0 = 1 then
      some (l2)
    else
      some (l3)
set_option maxHeartbeats 4000000 in
set_option maxRecDepth 100000 in
theorem z_X8_shareOf_0 {sK sV : Nat → Nat} {E : ZE} {cI cB cZ : ClassId} (hC : ZC E 4 cX8_shareOf wsX8_shareOf RX8 rmX8_shareOf (some .int) (zty cI cB cZ)) (hN : ZN sK sV (zA E) (zs E)) {N : Nat} {l0 : Int32} {l1 : Int32} {l2 : Int32} {l3 : Int32} {rf : Int32} (hQ : ZQi E (zty cI cB cZ) rf []) (hR : o_X8_shareOf N l0 l1 l2 l3 = some rf) : Z E (0, 0) [(0, .int l0), (1, .int l1), (2, .int l2), (3, .int l3)] 0 [] [] := by
  rw [o_X8_shareOf] at hR
  refine z_iload_n hC dX8_shareOf_0 rfl 0 rfl ?_
  refine z_if_ne hC 8 dX8_shareOf_1 (by decide) hR (fun hR => ?_) (fun hR => ?_)
  · refine z_iload_n hC dX8_shareOf_8 rfl 0 rfl ?_
    refine z_ic1 hC dX8_shareOf_9 ?_
    refine z_icmp_ne hC 17 dX8_shareOf_10 (by decide) hR (fun hR => ?_) (fun hR => ?_)
    · refine z_iload_n hC dX8_shareOf_17 rfl 3 rfl ?_
      obtain rfl := Option.some.inj hR
      exact z_iret hC hQ rfl rfl rfl dX8_shareOf_18
    · refine z_iload_n hC dX8_shareOf_13 rfl 2 rfl ?_
      refine z_goto hC 18 dX8_shareOf_14 (by decide) ?_
      obtain rfl := Option.some.inj hR
      exact z_iret hC hQ rfl rfl rfl dX8_shareOf_18
  · refine z_iload_n hC dX8_shareOf_4 rfl 1 rfl ?_
    refine z_goto hC 18 dX8_shareOf_5 (by decide) ?_
    obtain rfl := Option.some.inj hR
    exact z_iret hC hQ rfl rfl rfl dX8_shareOf_18
set_option maxHeartbeats 4000000 in
set_option maxRecDepth 100000 in
theorem c_X8_shareOf {sK sV : Nat → Nat} {l : Launch} {D : va_G} {cI cB cZ : ClassId} {N : Nat} {l0 : Int32} {l1 : Int32} {l2 : Int32} {l3 : Int32} : ∀ R : Int32, o_X8_shareOf N l0 l1 l2 l3 = some R → ZMi sK sV l yX8_shareOf wsX8_shareOf rmX8_shareOf D (zty cI cB cZ) [.int l0, .int l1, .int l2, .int l3] [] R [] := by
  intro R hR
  refine zi_of (cc := cX8_shareOf) (maxL := 4) (ret := (some .int)) (by decide) rfl (Nat.le_of_ble_eq_true rfl) (fun E hE1 hE2 hC hN hQ => ?_)
  subst hE1 hE2
  exact z_X8_shareOf_0 hC hN (N := N) (l0 := l0) (l1 := l1) (l2 := l2) (l3 := l3) hQ hR

/-! FistTrains.winsOf -/
abbrev rmX8_winsOf : Room := { frames := 1, cells := 0, slots := 0, locals := 23 }
def o_X8_winsOf (N : Nat) (l0 : Int32) (l1 : Int32) (l2 : Int32) (l3 : Int32) : Option (Int32) :=
  Option.bind (o_X8_nextOf N l0) (fun r1 =>
  Option.bind (o_X8_nextOf N r1) (fun r4 =>
  Option.bind (o_X8_shareOf N r4 l1 l2 l3) (fun r10 =>
  some (r10))))
set_option maxHeartbeats 4000000 in
set_option maxRecDepth 100000 in
theorem z_X8_winsOf_0 {sK sV : Nat → Nat} {E : ZE} {cI cB cZ : ClassId} (hC : ZC E 4 cX8_winsOf wsX8_winsOf RX8 rmX8_winsOf (some .int) (zty cI cB cZ)) (hN : ZN sK sV (zA E) (zs E)) {N : Nat} {l0 : Int32} {l1 : Int32} {l2 : Int32} {l3 : Int32} {rf : Int32} (hQ : ZQi E (zty cI cB cZ) rf []) (hR : o_X8_winsOf N l0 l1 l2 l3 = some rf) : Z E (0, 0) [(0, .int l0), (1, .int l1), (2, .int l2), (3, .int l3)] 0 [] [] := by
  rw [o_X8_winsOf] at hR
  refine z_iload_n hC dX8_winsOf_0 rfl 0 rfl ?_
  refine z_callSi_p hC hN [.int l0] [] (c_X8_nextOf (l := zl E) (D := zD E) (cI := cI) (cB := cB) (cZ := cZ) (N := N) (l0 := l0)) rfl ⟨rfl, rfl⟩ gX8_winsOf_X8_nextOf hsX8_nextOf ⟨Nat.le_of_ble_eq_true rfl, Nat.le_of_ble_eq_true rfl⟩ ⟨Nat.zero_le _, Nat.zero_le _⟩ rfl (Nat.le_of_ble_eq_true rfl) rfl (by decide) dX8_winsOf_1 hR (fun r1 hR => ?_)
  refine z_callSi_p hC hN [.int r1] [] (c_X8_nextOf (l := zl E) (D := zD E) (cI := cI) (cB := cB) (cZ := cZ) (N := N) (l0 := r1)) rfl ⟨rfl, rfl⟩ gX8_winsOf_X8_nextOf hsX8_nextOf ⟨Nat.le_of_ble_eq_true rfl, Nat.le_of_ble_eq_true rfl⟩ ⟨Nat.zero_le _, Nat.zero_le _⟩ rfl (Nat.le_of_ble_eq_true rfl) rfl (by decide) dX8_winsOf_4 hR (fun r4 hR => ?_)
  refine z_iload_n hC dX8_winsOf_7 rfl 1 rfl ?_
  refine z_iload_n hC dX8_winsOf_8 rfl 2 rfl ?_
  refine z_iload_n hC dX8_winsOf_9 rfl 3 rfl ?_
  refine z_callSi_p hC hN [.int r4, .int l1, .int l2, .int l3] [] (c_X8_shareOf (l := zl E) (D := zD E) (cI := cI) (cB := cB) (cZ := cZ) (N := N) (l0 := r4) (l1 := l1) (l2 := l2) (l3 := l3)) rfl ⟨rfl, rfl⟩ gX8_winsOf_X8_shareOf hsX8_shareOf ⟨Nat.le_of_ble_eq_true rfl, Nat.le_of_ble_eq_true rfl⟩ ⟨Nat.zero_le _, Nat.zero_le _⟩ rfl (Nat.le_of_ble_eq_true rfl) rfl (by decide) dX8_winsOf_10 hR (fun r10 hR => ?_)
  obtain rfl := Option.some.inj hR
  exact z_iret hC hQ rfl rfl rfl dX8_winsOf_13
set_option maxHeartbeats 4000000 in
set_option maxRecDepth 100000 in
theorem c_X8_winsOf {sK sV : Nat → Nat} {l : Launch} {D : va_G} {cI cB cZ : ClassId} {N : Nat} {l0 : Int32} {l1 : Int32} {l2 : Int32} {l3 : Int32} : ∀ R : Int32, o_X8_winsOf N l0 l1 l2 l3 = some R → ZMi sK sV l yX8_winsOf wsX8_winsOf rmX8_winsOf D (zty cI cB cZ) [.int l0, .int l1, .int l2, .int l3] [] R [] := by
  intro R hR
  refine zi_of (cc := cX8_winsOf) (maxL := 4) (ret := (some .int)) (by decide) rfl (Nat.le_of_ble_eq_true rfl) (fun E hE1 hE2 hC hN hQ => ?_)
  subst hE1 hE2
  exact z_X8_winsOf_0 hC hN (N := N) (l0 := l0) (l1 := l1) (l2 := l2) (l3 := l3) hQ hR

/-! FistTrains.lossesOf -/
abbrev rmX8_lossesOf : Room := { frames := 1, cells := 0, slots := 0, locals := 23 }
def o_X8_lossesOf (N : Nat) (l0 : Int32) (l1 : Int32) (l2 : Int32) (l3 : Int32) : Option (Int32) :=
  Option.bind (o_X8_nextOf N l0) (fun r1 =>
  Option.bind (o_X8_shareOf N r1 l1 l2 l3) (fun r7 =>
  some (r7)))
set_option maxHeartbeats 4000000 in
set_option maxRecDepth 100000 in
theorem z_X8_lossesOf_0 {sK sV : Nat → Nat} {E : ZE} {cI cB cZ : ClassId} (hC : ZC E 4 cX8_lossesOf wsX8_lossesOf RX8 rmX8_lossesOf (some .int) (zty cI cB cZ)) (hN : ZN sK sV (zA E) (zs E)) {N : Nat} {l0 : Int32} {l1 : Int32} {l2 : Int32} {l3 : Int32} {rf : Int32} (hQ : ZQi E (zty cI cB cZ) rf []) (hR : o_X8_lossesOf N l0 l1 l2 l3 = some rf) : Z E (0, 0) [(0, .int l0), (1, .int l1), (2, .int l2), (3, .int l3)] 0 [] [] := by
  rw [o_X8_lossesOf] at hR
  refine z_iload_n hC dX8_lossesOf_0 rfl 0 rfl ?_
  refine z_callSi_p hC hN [.int l0] [] (c_X8_nextOf (l := zl E) (D := zD E) (cI := cI) (cB := cB) (cZ := cZ) (N := N) (l0 := l0)) rfl ⟨rfl, rfl⟩ gX8_lossesOf_X8_nextOf hsX8_nextOf ⟨Nat.le_of_ble_eq_true rfl, Nat.le_of_ble_eq_true rfl⟩ ⟨Nat.zero_le _, Nat.zero_le _⟩ rfl (Nat.le_of_ble_eq_true rfl) rfl (by decide) dX8_lossesOf_1 hR (fun r1 hR => ?_)
  refine z_iload_n hC dX8_lossesOf_4 rfl 1 rfl ?_
  refine z_iload_n hC dX8_lossesOf_5 rfl 2 rfl ?_
  refine z_iload_n hC dX8_lossesOf_6 rfl 3 rfl ?_
  refine z_callSi_p hC hN [.int r1, .int l1, .int l2, .int l3] [] (c_X8_shareOf (l := zl E) (D := zD E) (cI := cI) (cB := cB) (cZ := cZ) (N := N) (l0 := r1) (l1 := l1) (l2 := l2) (l3 := l3)) rfl ⟨rfl, rfl⟩ gX8_lossesOf_X8_shareOf hsX8_shareOf ⟨Nat.le_of_ble_eq_true rfl, Nat.le_of_ble_eq_true rfl⟩ ⟨Nat.zero_le _, Nat.zero_le _⟩ rfl (Nat.le_of_ble_eq_true rfl) rfl (by decide) dX8_lossesOf_7 hR (fun r7 hR => ?_)
  obtain rfl := Option.some.inj hR
  exact z_iret hC hQ rfl rfl rfl dX8_lossesOf_10
set_option maxHeartbeats 4000000 in
set_option maxRecDepth 100000 in
theorem c_X8_lossesOf {sK sV : Nat → Nat} {l : Launch} {D : va_G} {cI cB cZ : ClassId} {N : Nat} {l0 : Int32} {l1 : Int32} {l2 : Int32} {l3 : Int32} : ∀ R : Int32, o_X8_lossesOf N l0 l1 l2 l3 = some R → ZMi sK sV l yX8_lossesOf wsX8_lossesOf rmX8_lossesOf D (zty cI cB cZ) [.int l0, .int l1, .int l2, .int l3] [] R [] := by
  intro R hR
  refine zi_of (cc := cX8_lossesOf) (maxL := 4) (ret := (some .int)) (by decide) rfl (Nat.le_of_ble_eq_true rfl) (fun E hE1 hE2 hC hN hQ => ?_)
  subst hE1 hE2
  exact z_X8_lossesOf_0 hC hN (N := N) (l0 := l0) (l1 := l1) (l2 := l2) (l3 := l3) hQ hR

/-! FistTrains.commonDivisor -/
abbrev rmX8_commonDivisor : Room := { frames := 0, cells := 0, slots := 0, locals := 0 }
def o_X8_commonDivisor_3 (N : Nat) (l0 : Int32) (l1 : Int32) : Nat → Int32 → Option (Int32)
  | 0 => fun _ => none
  | n + 1 => fun l2 => 
    if l2 ≤ 1 then
      some (1)
    else
      ogd (nz32 l2) (
      if (l0 - l0 / l2 * l2) = 0 then
        ogd (nz32 l2) (
        if (l1 - l1 / l2 * l2) = 0 then
          some (l2)
        else
          o_X8_commonDivisor_3 N l0 l1 n (l2 + (-1)))
      else
        o_X8_commonDivisor_3 N l0 l1 n (l2 + (-1)))
def o_X8_commonDivisor (N : Nat) (l0 : Int32) (l1 : Int32) : Option (Int32) :=
  o_X8_commonDivisor_3 N l0 l1 N 9
set_option maxHeartbeats 4000000 in
set_option maxRecDepth 100000 in
theorem z_X8_commonDivisor_3 {sK sV : Nat → Nat} {E : ZE} {cI cB cZ : ClassId} (hC : ZC E 3 cX8_commonDivisor wsX8_commonDivisor RX8 rmX8_commonDivisor (some .int) (zty cI cB cZ)) (hN : ZN sK sV (zA E) (zs E)) {N : Nat} {l0 : Int32} {l1 : Int32} {rf : Int32} (hQ : ZQi E (zty cI cB cZ) rf []) : ∀ (n : Nat) (l2 : Int32), o_X8_commonDivisor_3 N l0 l1 n l2 = some rf → Z E (0, 0) [(0, .int l0), (1, .int l1), (2, .int l2)] 3 [] [] := by
  intro n
  induction n with
  | zero =>
    intro l2 hR
    cases hR
  | succ n ih =>
    intro l2 hR
    rw [o_X8_commonDivisor_3] at hR
    refine z_iload_n hC dX8_commonDivisor_3 rfl 2 rfl ?_
    refine z_ic1 hC dX8_commonDivisor_4 ?_
    refine z_icmp_le hC 28 dX8_commonDivisor_5 (by decide) hR (fun hR => ?_) (fun hR => ?_)
    · refine z_ic1 hC dX8_commonDivisor_28 ?_
      obtain rfl := Option.some.inj hR
      exact z_iret hC hQ rfl rfl rfl dX8_commonDivisor_29
    · refine z_iload_n hC dX8_commonDivisor_8 rfl 0 rfl ?_
      refine z_iload_n hC dX8_commonDivisor_9 rfl 2 rfl ?_
      refine z_irem hC dX8_commonDivisor_10 hR (fun hR => ?_)
      refine z_if_ne hC 22 dX8_commonDivisor_11 (by decide) hR (fun hR => ?_) (fun hR => ?_)
      · refine z_iincm1 hC [(2, .int (l2 + (-1))), (0, .int l0), (1, .int l1)] dX8_commonDivisor_22 2 rfl (by decide) rfl ?_
        refine z_goto hC 3 dX8_commonDivisor_25 (by decide) ?_
        refine z_sub (lv' := [(0, .int l0), (1, .int l1), (2, .int (l2 + (-1)))]) [1, 2, 0] rfl ?_
        exact ih (l2 + (-1)) hR
      · refine z_iload_n hC dX8_commonDivisor_14 rfl 1 rfl ?_
        refine z_iload_n hC dX8_commonDivisor_15 rfl 2 rfl ?_
        refine z_irem hC dX8_commonDivisor_16 hR (fun hR => ?_)
        refine z_if_ne hC 22 dX8_commonDivisor_17 (by decide) hR (fun hR => ?_) (fun hR => ?_)
        · refine z_iincm1 hC [(2, .int (l2 + (-1))), (0, .int l0), (1, .int l1)] dX8_commonDivisor_22 2 rfl (by decide) rfl ?_
          refine z_goto hC 3 dX8_commonDivisor_25 (by decide) ?_
          refine z_sub (lv' := [(0, .int l0), (1, .int l1), (2, .int (l2 + (-1)))]) [1, 2, 0] rfl ?_
          exact ih (l2 + (-1)) hR
        · refine z_iload_n hC dX8_commonDivisor_20 rfl 2 rfl ?_
          obtain rfl := Option.some.inj hR
          exact z_iret hC hQ rfl rfl rfl dX8_commonDivisor_21
set_option maxHeartbeats 4000000 in
set_option maxRecDepth 100000 in
theorem z_X8_commonDivisor_0 {sK sV : Nat → Nat} {E : ZE} {cI cB cZ : ClassId} (hC : ZC E 3 cX8_commonDivisor wsX8_commonDivisor RX8 rmX8_commonDivisor (some .int) (zty cI cB cZ)) (hN : ZN sK sV (zA E) (zs E)) {N : Nat} {l0 : Int32} {l1 : Int32} {rf : Int32} (hQ : ZQi E (zty cI cB cZ) rf []) (hR : o_X8_commonDivisor N l0 l1 = some rf) : Z E (0, 0) [(0, .int l0), (1, .int l1)] 0 [] [] := by
  rw [o_X8_commonDivisor] at hR
  refine z_bipush (v := 9) hC dX8_commonDivisor_0 (by decide) ?_
  refine z_istore_n hC [(2, .int 9), (0, .int l0), (1, .int l1)] dX8_commonDivisor_2 rfl (by decide) rfl ?_
  refine z_sub (lv' := [(0, .int l0), (1, .int l1), (2, .int 9)]) [1, 2, 0] rfl ?_
  exact z_X8_commonDivisor_3 hC hN (N := N) (l0 := l0) (l1 := l1) hQ  N 9 hR
set_option maxHeartbeats 4000000 in
set_option maxRecDepth 100000 in
theorem c_X8_commonDivisor {sK sV : Nat → Nat} {l : Launch} {D : va_G} {cI cB cZ : ClassId} {N : Nat} {l0 : Int32} {l1 : Int32} : ∀ R : Int32, o_X8_commonDivisor N l0 l1 = some R → ZMi sK sV l yX8_commonDivisor wsX8_commonDivisor rmX8_commonDivisor D (zty cI cB cZ) [.int l0, .int l1] [] R [] := by
  intro R hR
  refine zi_of (cc := cX8_commonDivisor) (maxL := 3) (ret := (some .int)) (by decide) rfl (Nat.le_of_ble_eq_true rfl) (fun E hE1 hE2 hC hN hQ => ?_)
  subst hE1 hE2
  exact z_X8_commonDivisor_0 hC hN (N := N) (l0 := l0) (l1 := l1) hQ hR

/-! FistTrains.odds -/
abbrev rmX8_odds : Room := { frames := 2, cells := 0, slots := 0, locals := 46 }
set_option maxRecDepth 20000 in
theorem mX8_odds_1 : Cond.constant RX8 82 (-1000001) ∈ wsX8_odds := List.mem_of_getElem? (i := 1) rfl
set_option maxRecDepth 20000 in
theorem mX8_odds_2 : Cond.constant RX8 244 (-1000000) ∈ wsX8_odds := List.mem_of_getElem? (i := 2) rfl
def o_X8_odds (N : Nat) (l1 : Int32) (l2 : Int32) (l3 : Int32) (l4 : Int32) (l5 : Int32) : Option (Int32) :=
  Option.bind (o_X8_isHand N l1) (fun r1 =>
  if r1 = 0 then
    some ((-1000001))
  else
    Option.bind (o_X8_areOdds N l2 l3 l4) (fun r11 =>
    if r11 = 0 then
      some ((-1000001))
    else
      if l5 < 0 then
        some ((-1000001))
      else
        if l5 ≤ 1 then
          Option.bind (o_X8_winsOf N l1 l2 l3 l4) (fun r36 =>
          Option.bind (o_X8_lossesOf N l1 l2 l3 l4) (fun r48 =>
          if (r36 + r48) = 0 then
            some ((-1000000))
          else
            Option.bind (o_X8_commonDivisor N r36 (r36 + r48)) (fun r66 =>
            if l5 = 0 then
              ogd (nz32 r66) (
              some ((r36 / r66)))
            else
              ogd (nz32 r66) (
              some (((r36 + r48) / r66))))))
        else
          some ((-1000001))))
set_option maxHeartbeats 4000000 in
set_option maxRecDepth 100000 in
theorem z_X8_odds_0 {sK sV : Nat → Nat} {E : ZE} {cI cB cZ : ClassId} (hC : ZC E 9 cX8_odds wsX8_odds RX8 rmX8_odds (some .int) (zty cI cB cZ)) (hN : ZN sK sV (zA E) (zs E)) {N : Nat} {a_t : Nat} {a_t_rows : Nat} {a_t_tape : Nat} {a_t_reader : Nat} {a_t_now : Nat} {a_t_trial : Nat} {a_t_acts : Nat} {a_t_ways : Nat} {a_t_asks : Nat} {a_t_images : Nat} {a_t_imageKept : Nat} {t_latestFault : Int32} {t_latestFinding : Int32} {l1 : Int32} {l2 : Int32} {l3 : Int32} {l4 : Int32} {l5 : Int32} {rf : Int32} (hQ : ZQi E (zty cI cB cZ) rf [(a_t, .inr (8, [.ref a_t_rows, .ref a_t_tape, .ref a_t_reader, .ref a_t_now, .ref a_t_trial, .ref a_t_acts, .ref a_t_ways, .ref a_t_asks, .ref a_t_images, .ref a_t_imageKept, .int t_latestFault, .int t_latestFinding]))]) (hR : o_X8_odds N l1 l2 l3 l4 l5 = some rf) : Z E (0, 0) [(0, .ref a_t), (1, .int l1), (2, .int l2), (3, .int l3), (4, .int l4), (5, .int l5)] 0 [] [(a_t, .inr (8, [.ref a_t_rows, .ref a_t_tape, .ref a_t_reader, .ref a_t_now, .ref a_t_trial, .ref a_t_acts, .ref a_t_ways, .ref a_t_asks, .ref a_t_images, .ref a_t_imageKept, .int t_latestFault, .int t_latestFinding]))] := by
  rw [o_X8_odds] at hR
  refine z_iload_n hC dX8_odds_0 rfl 1 rfl ?_
  refine z_callSi_p hC hN [.int l1] [] (c_X8_isHand (l := zl E) (D := zD E) (cI := cI) (cB := cB) (cZ := cZ) (N := N) (l0 := l1)) rfl ⟨rfl, rfl⟩ gX8_odds_X8_isHand hsX8_isHand ⟨Nat.le_of_ble_eq_true rfl, Nat.le_of_ble_eq_true rfl⟩ ⟨Nat.zero_le _, Nat.zero_le _⟩ rfl (Nat.le_of_ble_eq_true rfl) rfl (by decide) dX8_odds_1 hR (fun r1 hR => ?_)
  refine z_if_eq hC 28 dX8_odds_4 (by decide) hR (fun hR => ?_) (fun hR => ?_)
  · refine z_ldc hC (-1000001) mX8_odds_1 dX8_odds_28 ?_
    obtain rfl := Option.some.inj hR
    exact z_iret hC hQ rfl rfl rfl dX8_odds_30
  · refine z_iload_n hC dX8_odds_7 rfl 2 rfl ?_
    refine z_iload_n hC dX8_odds_8 rfl 3 rfl ?_
    refine z_iload hC dX8_odds_9 4 rfl ?_
    refine z_callSi_p hC hN [.int l2, .int l3, .int l4] [] (c_X8_areOdds (l := zl E) (D := zD E) (cI := cI) (cB := cB) (cZ := cZ) (N := N) (l0 := l2) (l1 := l3) (l2 := l4)) rfl ⟨rfl, rfl⟩ gX8_odds_X8_areOdds hsX8_areOdds ⟨Nat.le_of_ble_eq_true rfl, Nat.le_of_ble_eq_true rfl⟩ ⟨Nat.zero_le _, Nat.zero_le _⟩ rfl (Nat.le_of_ble_eq_true rfl) rfl (by decide) dX8_odds_11 hR (fun r11 hR => ?_)
    refine z_if_eq hC 28 dX8_odds_14 (by decide) hR (fun hR => ?_) (fun hR => ?_)
    · refine z_ldc hC (-1000001) mX8_odds_1 dX8_odds_28 ?_
      obtain rfl := Option.some.inj hR
      exact z_iret hC hQ rfl rfl rfl dX8_odds_30
    · refine z_iload hC dX8_odds_17 5 rfl ?_
      refine z_if_lt hC 28 dX8_odds_19 (by decide) hR (fun hR => ?_) (fun hR => ?_)
      · refine z_ldc hC (-1000001) mX8_odds_1 dX8_odds_28 ?_
        obtain rfl := Option.some.inj hR
        exact z_iret hC hQ rfl rfl rfl dX8_odds_30
      · refine z_iload hC dX8_odds_22 5 rfl ?_
        refine z_ic1 hC dX8_odds_24 ?_
        refine z_icmp_le hC 31 dX8_odds_25 (by decide) hR (fun hR => ?_) (fun hR => ?_)
        · refine z_iload_n hC dX8_odds_31 rfl 1 rfl ?_
          refine z_iload_n hC dX8_odds_32 rfl 2 rfl ?_
          refine z_iload_n hC dX8_odds_33 rfl 3 rfl ?_
          refine z_iload hC dX8_odds_34 4 rfl ?_
          refine z_callSi_p hC hN [.int l1, .int l2, .int l3, .int l4] [] (c_X8_winsOf (l := zl E) (D := zD E) (cI := cI) (cB := cB) (cZ := cZ) (N := N) (l0 := l1) (l1 := l2) (l2 := l3) (l3 := l4)) rfl ⟨rfl, rfl⟩ gX8_odds_X8_winsOf hsX8_winsOf ⟨Nat.le_of_ble_eq_true rfl, Nat.le_of_ble_eq_true rfl⟩ ⟨Nat.zero_le _, Nat.zero_le _⟩ rfl (Nat.le_of_ble_eq_true rfl) rfl (by decide) dX8_odds_36 hR (fun r36 hR => ?_)
          refine z_istore hC [(6, .int r36), (0, .ref a_t), (1, .int l1), (2, .int l2), (3, .int l3), (4, .int l4), (5, .int l5)] dX8_odds_39 (by decide) rfl ?_
          refine z_iload hC dX8_odds_41 0 rfl ?_
          refine z_iload_n hC dX8_odds_43 rfl 2 rfl ?_
          refine z_iload_n hC dX8_odds_44 rfl 3 rfl ?_
          refine z_iload_n hC dX8_odds_45 rfl 4 rfl ?_
          refine z_iload hC dX8_odds_46 5 rfl ?_
          refine z_callSi_p hC hN [.int l1, .int l2, .int l3, .int l4] [] (c_X8_lossesOf (l := zl E) (D := zD E) (cI := cI) (cB := cB) (cZ := cZ) (N := N) (l0 := l1) (l1 := l2) (l2 := l3) (l3 := l4)) rfl ⟨rfl, rfl⟩ gX8_odds_X8_lossesOf hsX8_lossesOf ⟨Nat.le_of_ble_eq_true rfl, Nat.le_of_ble_eq_true rfl⟩ ⟨Nat.zero_le _, Nat.zero_le _⟩ rfl (Nat.le_of_ble_eq_true rfl) rfl (by decide) dX8_odds_48 hR (fun r48 hR => ?_)
          refine z_iadd hC dX8_odds_51 ?_
          refine z_istore hC [(7, .int (r36 + r48)), (6, .int r36), (0, .ref a_t), (1, .int l1), (2, .int l2), (3, .int l3), (4, .int l4), (5, .int l5)] dX8_odds_52 (by decide) rfl ?_
          refine z_iload hC dX8_odds_54 0 rfl ?_
          refine z_if_ne hC 62 dX8_odds_56 (by decide) hR (fun hR => ?_) (fun hR => ?_)
          · refine z_iload hC dX8_odds_62 1 rfl ?_
            refine z_iload hC dX8_odds_64 0 rfl ?_
            refine z_callSi_p hC hN [.int r36, .int (r36 + r48)] [] (c_X8_commonDivisor (l := zl E) (D := zD E) (cI := cI) (cB := cB) (cZ := cZ) (N := N) (l0 := r36) (l1 := (r36 + r48))) rfl ⟨rfl, rfl⟩ gX8_odds_X8_commonDivisor hsX8_commonDivisor ⟨Nat.le_of_ble_eq_true rfl, Nat.le_of_ble_eq_true rfl⟩ ⟨Nat.zero_le _, Nat.zero_le _⟩ rfl (Nat.le_of_ble_eq_true rfl) rfl (by decide) dX8_odds_66 hR (fun r66 hR => ?_)
            refine z_istore hC [(8, .int r66), (7, .int (r36 + r48)), (6, .int r36), (0, .ref a_t), (1, .int l1), (2, .int l2), (3, .int l3), (4, .int l4), (5, .int l5)] dX8_odds_69 (by decide) rfl ?_
            refine z_iload hC dX8_odds_71 8 rfl ?_
            refine z_if_ne hC 81 dX8_odds_73 (by decide) hR (fun hR => ?_) (fun hR => ?_)
            · refine z_iload hC dX8_odds_81 1 rfl ?_
              refine z_iload hC dX8_odds_83 0 rfl ?_
              refine z_idiv hC dX8_odds_85 hR (fun hR => ?_)
              obtain rfl := Option.some.inj hR
              exact z_iret hC hQ rfl rfl rfl dX8_odds_86
            · refine z_iload hC dX8_odds_76 2 rfl ?_
              refine z_goto hC 83 dX8_odds_78 (by decide) ?_
              refine z_iload hC dX8_odds_83 0 rfl ?_
              refine z_idiv hC dX8_odds_85 hR (fun hR => ?_)
              obtain rfl := Option.some.inj hR
              exact z_iret hC hQ rfl rfl rfl dX8_odds_86
          · refine z_ldc hC (-1000000) mX8_odds_2 dX8_odds_59 ?_
            obtain rfl := Option.some.inj hR
            exact z_iret hC hQ rfl rfl rfl dX8_odds_61
        · refine z_ldc hC (-1000001) mX8_odds_1 dX8_odds_28 ?_
          obtain rfl := Option.some.inj hR
          exact z_iret hC hQ rfl rfl rfl dX8_odds_30
set_option maxHeartbeats 4000000 in
set_option maxRecDepth 100000 in
theorem c_X8_odds {sK sV : Nat → Nat} {l : Launch} {D : va_G} {cI cB cZ : ClassId} {N : Nat} {a_t : Nat} {a_t_rows : Nat} {a_t_tape : Nat} {a_t_reader : Nat} {a_t_now : Nat} {a_t_trial : Nat} {a_t_acts : Nat} {a_t_ways : Nat} {a_t_asks : Nat} {a_t_images : Nat} {a_t_imageKept : Nat} {t_latestFault : Int32} {t_latestFinding : Int32} {l1 : Int32} {l2 : Int32} {l3 : Int32} {l4 : Int32} {l5 : Int32} : ∀ R : Int32, o_X8_odds N l1 l2 l3 l4 l5 = some R → ZMi sK sV l yX8_odds wsX8_odds rmX8_odds D (zty cI cB cZ) [.ref a_t, .int l1, .int l2, .int l3, .int l4, .int l5] [(a_t, .inr (8, [.ref a_t_rows, .ref a_t_tape, .ref a_t_reader, .ref a_t_now, .ref a_t_trial, .ref a_t_acts, .ref a_t_ways, .ref a_t_asks, .ref a_t_images, .ref a_t_imageKept, .int t_latestFault, .int t_latestFinding]))] R [(a_t, .inr (8, [.ref a_t_rows, .ref a_t_tape, .ref a_t_reader, .ref a_t_now, .ref a_t_trial, .ref a_t_acts, .ref a_t_ways, .ref a_t_asks, .ref a_t_images, .ref a_t_imageKept, .int t_latestFault, .int t_latestFinding]))] := by
  intro R hR
  refine zi_of (cc := cX8_odds) (maxL := 9) (ret := (some .int)) (by decide) rfl (Nat.le_of_ble_eq_true rfl) (fun E hE1 hE2 hC hN hQ => ?_)
  subst hE1 hE2
  exact z_X8_odds_0 hC hN (N := N) (a_t := a_t) (a_t_rows := a_t_rows) (a_t_tape := a_t_tape) (a_t_reader := a_t_reader) (a_t_now := a_t_now) (a_t_trial := a_t_trial) (a_t_acts := a_t_acts) (a_t_ways := a_t_ways) (a_t_asks := a_t_asks) (a_t_images := a_t_images) (a_t_imageKept := a_t_imageKept) (t_latestFault := t_latestFault) (t_latestFinding := t_latestFinding) (l1 := l1) (l2 := l2) (l3 := l3) (l4 := l4) (l5 := l5) hQ hR

/-! FistTrains.gain -/
abbrev rmX8_gain : Room := { frames := 2, cells := 0, slots := 0, locals := 46 }
set_option maxRecDepth 20000 in
theorem mX8_gain_2 : Cond.constant RX8 244 (-1000000) ∈ wsX8_gain := List.mem_of_getElem? (i := 2) rfl
set_option maxRecDepth 20000 in
theorem mX8_gain_1 : Cond.constant RX8 82 (-1000001) ∈ wsX8_gain := List.mem_of_getElem? (i := 1) rfl
def o_X8_gain_79 (N : Nat) (K25 : Int32 → Int32 → Int32 → Int32 → Option (Int32)) (l1 : Int32) (l2 : Int32) (l3 : Int32) (l7 : Int32) (l8 : Int32) (l9 : Int32) : Option (Int32) :=
  K25 l7 l8 l9 (l7 + 1)
def o_X8_gain_25 (N : Nat) (l1 : Int32) (l2 : Int32) (l3 : Int32) : Nat → Int32 → Int32 → Int32 → Int32 → Option (Int32)
  | 0 => fun _ _ _ _ => none
  | n + 1 => fun l4 l5 l6 l7 => 
    if 3 ≤ l7 then
      some (l4)
    else
      Option.bind (o_X8_winsOf N l7 l1 l2 l3) (fun r36 =>
      Option.bind (o_X8_lossesOf N l7 l1 l2 l3) (fun r48 =>
      if (r36 + r48) ≤ 0 then
        o_X8_gain_25 N l1 l2 l3 n l4 l5 l6 (l7 + 1)
      else
        if l4 = (-1000000) then
          o_X8_gain_79 N (o_X8_gain_25 N l1 l2 l3 n) l1 l2 l3 l7 r36 (r36 + r48)
        else
          if (r36 * l6) ≤ (l5 * (r36 + r48)) then
            o_X8_gain_25 N l1 l2 l3 n l4 l5 l6 (l7 + 1)
          else
            o_X8_gain_79 N (o_X8_gain_25 N l1 l2 l3 n) l1 l2 l3 l7 r36 (r36 + r48)))
def o_X8_gain (N : Nat) (l1 : Int32) (l2 : Int32) (l3 : Int32) : Option (Int32) :=
  Option.bind (o_X8_areOdds N l1 l2 l3) (fun r3 =>
  if r3 = 0 then
    some ((-1000001))
  else
    o_X8_gain_25 N l1 l2 l3 N (-1000000) 0 0 0)
set_option maxHeartbeats 4000000 in
set_option maxRecDepth 100000 in
theorem z_X8_gain_79 {sK sV : Nat → Nat} {E : ZE} {cI cB cZ : ClassId} (hC : ZC E 10 cX8_gain wsX8_gain RX8 rmX8_gain (some .int) (zty cI cB cZ)) (hN : ZN sK sV (zA E) (zs E)) {N : Nat} {a_t : Nat} {a_t_rows : Nat} {a_t_tape : Nat} {a_t_reader : Nat} {a_t_now : Nat} {a_t_trial : Nat} {a_t_acts : Nat} {a_t_ways : Nat} {a_t_asks : Nat} {a_t_images : Nat} {a_t_imageKept : Nat} {t_latestFault : Int32} {t_latestFinding : Int32} {l1 : Int32} {l2 : Int32} {l3 : Int32} {l7 : Int32} {l8 : Int32} {l9 : Int32} {K25 : Int32 → Int32 → Int32 → Int32 → Option (Int32)} {rf : Int32} (hQ : ZQi E (zty cI cB cZ) rf [(a_t, .inr (8, [.ref a_t_rows, .ref a_t_tape, .ref a_t_reader, .ref a_t_now, .ref a_t_trial, .ref a_t_acts, .ref a_t_ways, .ref a_t_asks, .ref a_t_images, .ref a_t_imageKept, .int t_latestFault, .int t_latestFinding]))]) (hK25 : ∀ (l4 : Int32) (l5 : Int32) (l6 : Int32) (l7 : Int32), K25 l4 l5 l6 l7 = some rf → Z E (0, 0) [(1, .int l1), (2, .int l2), (3, .int l3), (4, .int l4), (5, .int l5), (6, .int l6), (7, .int l7)] 25 [] [(a_t, .inr (8, [.ref a_t_rows, .ref a_t_tape, .ref a_t_reader, .ref a_t_now, .ref a_t_trial, .ref a_t_acts, .ref a_t_ways, .ref a_t_asks, .ref a_t_images, .ref a_t_imageKept, .int t_latestFault, .int t_latestFinding]))]) (hR : o_X8_gain_79 N K25 l1 l2 l3 l7 l8 l9 = some rf) : Z E (0, 0) [(1, .int l1), (2, .int l2), (3, .int l3), (7, .int l7), (8, .int l8), (9, .int l9)] 79 [] [(a_t, .inr (8, [.ref a_t_rows, .ref a_t_tape, .ref a_t_reader, .ref a_t_now, .ref a_t_trial, .ref a_t_acts, .ref a_t_ways, .ref a_t_asks, .ref a_t_images, .ref a_t_imageKept, .int t_latestFault, .int t_latestFinding]))] := by
  rw [o_X8_gain_79] at hR
  refine z_iload hC dX8_gain_79 3 rfl ?_
  refine z_istore hC [(4, .int l7), (1, .int l1), (2, .int l2), (3, .int l3), (7, .int l7), (8, .int l8), (9, .int l9)] dX8_gain_81 (by decide) rfl ?_
  refine z_iload hC dX8_gain_83 5 rfl ?_
  refine z_istore hC [(5, .int l8), (4, .int l7), (1, .int l1), (2, .int l2), (3, .int l3), (7, .int l7), (8, .int l8), (9, .int l9)] dX8_gain_85 (by decide) rfl ?_
  refine z_iload hC dX8_gain_87 7 rfl ?_
  refine z_istore hC [(6, .int l9), (5, .int l8), (4, .int l7), (1, .int l1), (2, .int l2), (3, .int l3), (7, .int l7), (8, .int l8), (9, .int l9)] dX8_gain_89 (by decide) rfl ?_
  refine z_iinc1 hC [(7, .int (l7 + 1)), (6, .int l9), (5, .int l8), (4, .int l7), (1, .int l1), (2, .int l2), (3, .int l3), (8, .int l8), (9, .int l9)] dX8_gain_91 6 rfl (by decide) rfl ?_
  refine z_goto hC 25 dX8_gain_94 (by decide) ?_
  refine z_sub (lv' := [(1, .int l1), (2, .int l2), (3, .int l3), (4, .int l7), (5, .int l8), (6, .int l9), (7, .int (l7 + 1))]) [4, 5, 6, 3, 2, 1, 0] rfl ?_
  exact hK25 l7 l8 l9 (l7 + 1) hR
set_option maxHeartbeats 4000000 in
set_option maxRecDepth 100000 in
theorem z_X8_gain_25 {sK sV : Nat → Nat} {E : ZE} {cI cB cZ : ClassId} (hC : ZC E 10 cX8_gain wsX8_gain RX8 rmX8_gain (some .int) (zty cI cB cZ)) (hN : ZN sK sV (zA E) (zs E)) {N : Nat} {a_t : Nat} {a_t_rows : Nat} {a_t_tape : Nat} {a_t_reader : Nat} {a_t_now : Nat} {a_t_trial : Nat} {a_t_acts : Nat} {a_t_ways : Nat} {a_t_asks : Nat} {a_t_images : Nat} {a_t_imageKept : Nat} {t_latestFault : Int32} {t_latestFinding : Int32} {l1 : Int32} {l2 : Int32} {l3 : Int32} {rf : Int32} (hQ : ZQi E (zty cI cB cZ) rf [(a_t, .inr (8, [.ref a_t_rows, .ref a_t_tape, .ref a_t_reader, .ref a_t_now, .ref a_t_trial, .ref a_t_acts, .ref a_t_ways, .ref a_t_asks, .ref a_t_images, .ref a_t_imageKept, .int t_latestFault, .int t_latestFinding]))]) : ∀ (n : Nat) (l4 : Int32) (l5 : Int32) (l6 : Int32) (l7 : Int32), o_X8_gain_25 N l1 l2 l3 n l4 l5 l6 l7 = some rf → Z E (0, 0) [(1, .int l1), (2, .int l2), (3, .int l3), (4, .int l4), (5, .int l5), (6, .int l6), (7, .int l7)] 25 [] [(a_t, .inr (8, [.ref a_t_rows, .ref a_t_tape, .ref a_t_reader, .ref a_t_now, .ref a_t_trial, .ref a_t_acts, .ref a_t_ways, .ref a_t_asks, .ref a_t_images, .ref a_t_imageKept, .int t_latestFault, .int t_latestFinding]))] := by
  intro n
  induction n with
  | zero =>
    intro l4 l5 l6 l7 hR
    cases hR
  | succ n ih =>
    intro l4 l5 l6 l7 hR
    rw [o_X8_gain_25] at hR
    refine z_iload hC dX8_gain_25 6 rfl ?_
    refine z_ic3 hC dX8_gain_27 ?_
    refine z_icmp_ge hC 97 dX8_gain_28 (by decide) hR (fun hR => ?_) (fun hR => ?_)
    · refine z_iload hC dX8_gain_97 3 rfl ?_
      obtain rfl := Option.some.inj hR
      exact z_iret hC hQ rfl rfl rfl dX8_gain_99
    · refine z_iload hC dX8_gain_31 6 rfl ?_
      refine z_iload_n hC dX8_gain_33 rfl 0 rfl ?_
      refine z_iload_n hC dX8_gain_34 rfl 1 rfl ?_
      refine z_iload_n hC dX8_gain_35 rfl 2 rfl ?_
      refine z_callSi_p hC hN [.int l7, .int l1, .int l2, .int l3] [] (c_X8_winsOf (l := zl E) (D := zD E) (cI := cI) (cB := cB) (cZ := cZ) (N := N) (l0 := l7) (l1 := l1) (l2 := l2) (l3 := l3)) rfl ⟨rfl, rfl⟩ gX8_gain_X8_winsOf hsX8_winsOf ⟨Nat.le_of_ble_eq_true rfl, Nat.le_of_ble_eq_true rfl⟩ ⟨Nat.zero_le _, Nat.zero_le _⟩ rfl (Nat.le_of_ble_eq_true rfl) rfl (by decide) dX8_gain_36 hR (fun r36 hR => ?_)
      refine z_istore hC [(8, .int r36), (1, .int l1), (2, .int l2), (3, .int l3), (4, .int l4), (5, .int l5), (6, .int l6), (7, .int l7)] dX8_gain_39 (by decide) rfl ?_
      refine z_iload hC dX8_gain_41 0 rfl ?_
      refine z_iload hC dX8_gain_43 7 rfl ?_
      refine z_iload_n hC dX8_gain_45 rfl 1 rfl ?_
      refine z_iload_n hC dX8_gain_46 rfl 2 rfl ?_
      refine z_iload_n hC dX8_gain_47 rfl 3 rfl ?_
      refine z_callSi_p hC hN [.int l7, .int l1, .int l2, .int l3] [] (c_X8_lossesOf (l := zl E) (D := zD E) (cI := cI) (cB := cB) (cZ := cZ) (N := N) (l0 := l7) (l1 := l1) (l2 := l2) (l3 := l3)) rfl ⟨rfl, rfl⟩ gX8_gain_X8_lossesOf hsX8_lossesOf ⟨Nat.le_of_ble_eq_true rfl, Nat.le_of_ble_eq_true rfl⟩ ⟨Nat.zero_le _, Nat.zero_le _⟩ rfl (Nat.le_of_ble_eq_true rfl) rfl (by decide) dX8_gain_48 hR (fun r48 hR => ?_)
      refine z_iadd hC dX8_gain_51 ?_
      refine z_istore hC [(9, .int (r36 + r48)), (8, .int r36), (1, .int l1), (2, .int l2), (3, .int l3), (4, .int l4), (5, .int l5), (6, .int l6), (7, .int l7)] dX8_gain_52 (by decide) rfl ?_
      refine z_iload hC dX8_gain_54 0 rfl ?_
      refine z_if_le hC 91 dX8_gain_56 (by decide) hR (fun hR => ?_) (fun hR => ?_)
      · refine z_iinc1 hC [(7, .int (l7 + 1)), (9, .int (r36 + r48)), (8, .int r36), (1, .int l1), (2, .int l2), (3, .int l3), (4, .int l4), (5, .int l5), (6, .int l6)] dX8_gain_91 8 rfl (by decide) rfl ?_
        refine z_goto hC 25 dX8_gain_94 (by decide) ?_
        refine z_sub (lv' := [(1, .int l1), (2, .int l2), (3, .int l3), (4, .int l4), (5, .int l5), (6, .int l6), (7, .int (l7 + 1))]) [3, 4, 5, 6, 7, 8, 0] rfl ?_
        exact ih l4 l5 l6 (l7 + 1) hR
      · refine z_iload hC dX8_gain_59 5 rfl ?_
        refine z_ldc hC (-1000000) mX8_gain_2 dX8_gain_61 ?_
        refine z_icmp_eq hC 79 dX8_gain_63 (by decide) hR (fun hR => ?_) (fun hR => ?_)
        · refine z_sub (lv' := [(1, .int l1), (2, .int l2), (3, .int l3), (7, .int l7), (8, .int r36), (9, .int (r36 + r48))]) [2, 3, 4, 8, 1, 0] rfl ?_
          exact z_X8_gain_79 hC hN (N := N) (a_t := a_t) (a_t_rows := a_t_rows) (a_t_tape := a_t_tape) (a_t_reader := a_t_reader) (a_t_now := a_t_now) (a_t_trial := a_t_trial) (a_t_acts := a_t_acts) (a_t_ways := a_t_ways) (a_t_asks := a_t_asks) (a_t_images := a_t_images) (a_t_imageKept := a_t_imageKept) (t_latestFault := t_latestFault) (t_latestFinding := t_latestFinding) (l1 := l1) (l2 := l2) (l3 := l3) (l7 := l7) (l8 := r36) (l9 := (r36 + r48)) hQ ih hR
        · refine z_iload hC dX8_gain_66 1 rfl ?_
          refine z_iload hC dX8_gain_68 7 rfl ?_
          refine z_imul hC dX8_gain_70 ?_
          refine z_iload hC dX8_gain_71 6 rfl ?_
          refine z_iload hC dX8_gain_73 0 rfl ?_
          refine z_imul hC dX8_gain_75 ?_
          refine z_icmp_le hC 91 dX8_gain_76 (by decide) hR (fun hR => ?_) (fun hR => ?_)
          · refine z_iinc1 hC [(7, .int (l7 + 1)), (9, .int (r36 + r48)), (8, .int r36), (1, .int l1), (2, .int l2), (3, .int l3), (4, .int l4), (5, .int l5), (6, .int l6)] dX8_gain_91 8 rfl (by decide) rfl ?_
            refine z_goto hC 25 dX8_gain_94 (by decide) ?_
            refine z_sub (lv' := [(1, .int l1), (2, .int l2), (3, .int l3), (4, .int l4), (5, .int l5), (6, .int l6), (7, .int (l7 + 1))]) [3, 4, 5, 6, 7, 8, 0] rfl ?_
            exact ih l4 l5 l6 (l7 + 1) hR
          · refine z_sub (lv' := [(1, .int l1), (2, .int l2), (3, .int l3), (7, .int l7), (8, .int r36), (9, .int (r36 + r48))]) [2, 3, 4, 8, 1, 0] rfl ?_
            exact z_X8_gain_79 hC hN (N := N) (a_t := a_t) (a_t_rows := a_t_rows) (a_t_tape := a_t_tape) (a_t_reader := a_t_reader) (a_t_now := a_t_now) (a_t_trial := a_t_trial) (a_t_acts := a_t_acts) (a_t_ways := a_t_ways) (a_t_asks := a_t_asks) (a_t_images := a_t_images) (a_t_imageKept := a_t_imageKept) (t_latestFault := t_latestFault) (t_latestFinding := t_latestFinding) (l1 := l1) (l2 := l2) (l3 := l3) (l7 := l7) (l8 := r36) (l9 := (r36 + r48)) hQ ih hR
set_option maxHeartbeats 4000000 in
set_option maxRecDepth 100000 in
theorem z_X8_gain_0 {sK sV : Nat → Nat} {E : ZE} {cI cB cZ : ClassId} (hC : ZC E 10 cX8_gain wsX8_gain RX8 rmX8_gain (some .int) (zty cI cB cZ)) (hN : ZN sK sV (zA E) (zs E)) {N : Nat} {a_t : Nat} {a_t_rows : Nat} {a_t_tape : Nat} {a_t_reader : Nat} {a_t_now : Nat} {a_t_trial : Nat} {a_t_acts : Nat} {a_t_ways : Nat} {a_t_asks : Nat} {a_t_images : Nat} {a_t_imageKept : Nat} {t_latestFault : Int32} {t_latestFinding : Int32} {l1 : Int32} {l2 : Int32} {l3 : Int32} {rf : Int32} (hQ : ZQi E (zty cI cB cZ) rf [(a_t, .inr (8, [.ref a_t_rows, .ref a_t_tape, .ref a_t_reader, .ref a_t_now, .ref a_t_trial, .ref a_t_acts, .ref a_t_ways, .ref a_t_asks, .ref a_t_images, .ref a_t_imageKept, .int t_latestFault, .int t_latestFinding]))]) (hR : o_X8_gain N l1 l2 l3 = some rf) : Z E (0, 0) [(0, .ref a_t), (1, .int l1), (2, .int l2), (3, .int l3)] 0 [] [(a_t, .inr (8, [.ref a_t_rows, .ref a_t_tape, .ref a_t_reader, .ref a_t_now, .ref a_t_trial, .ref a_t_acts, .ref a_t_ways, .ref a_t_asks, .ref a_t_images, .ref a_t_imageKept, .int t_latestFault, .int t_latestFinding]))] := by
  rw [o_X8_gain] at hR
  refine z_iload_n hC dX8_gain_0 rfl 1 rfl ?_
  refine z_iload_n hC dX8_gain_1 rfl 2 rfl ?_
  refine z_iload_n hC dX8_gain_2 rfl 3 rfl ?_
  refine z_callSi_p hC hN [.int l1, .int l2, .int l3] [] (c_X8_areOdds (l := zl E) (D := zD E) (cI := cI) (cB := cB) (cZ := cZ) (N := N) (l0 := l1) (l1 := l2) (l2 := l3)) rfl ⟨rfl, rfl⟩ gX8_gain_X8_areOdds hsX8_areOdds ⟨Nat.le_of_ble_eq_true rfl, Nat.le_of_ble_eq_true rfl⟩ ⟨Nat.zero_le _, Nat.zero_le _⟩ rfl (Nat.le_of_ble_eq_true rfl) rfl (by decide) dX8_gain_3 hR (fun r3 hR => ?_)
  refine z_if_ne hC 12 dX8_gain_6 (by decide) hR (fun hR => ?_) (fun hR => ?_)
  · refine z_ldc hC (-1000000) mX8_gain_2 dX8_gain_12 ?_
    refine z_istore hC [(4, .int (-1000000)), (0, .ref a_t), (1, .int l1), (2, .int l2), (3, .int l3)] dX8_gain_14 (by decide) rfl ?_
    refine z_ic0 hC dX8_gain_16 ?_
    refine z_istore hC [(5, .int 0), (4, .int (-1000000)), (0, .ref a_t), (1, .int l1), (2, .int l2), (3, .int l3)] dX8_gain_17 (by decide) rfl ?_
    refine z_ic0 hC dX8_gain_19 ?_
    refine z_istore hC [(6, .int 0), (5, .int 0), (4, .int (-1000000)), (0, .ref a_t), (1, .int l1), (2, .int l2), (3, .int l3)] dX8_gain_20 (by decide) rfl ?_
    refine z_ic0 hC dX8_gain_22 ?_
    refine z_istore hC [(7, .int 0), (6, .int 0), (5, .int 0), (4, .int (-1000000)), (0, .ref a_t), (1, .int l1), (2, .int l2), (3, .int l3)] dX8_gain_23 (by decide) rfl ?_
    refine z_sub (lv' := [(1, .int l1), (2, .int l2), (3, .int l3), (4, .int (-1000000)), (5, .int 0), (6, .int 0), (7, .int 0)]) [5, 6, 7, 3, 2, 1, 0] rfl ?_
    exact z_X8_gain_25 hC hN (N := N) (a_t := a_t) (a_t_rows := a_t_rows) (a_t_tape := a_t_tape) (a_t_reader := a_t_reader) (a_t_now := a_t_now) (a_t_trial := a_t_trial) (a_t_acts := a_t_acts) (a_t_ways := a_t_ways) (a_t_asks := a_t_asks) (a_t_images := a_t_images) (a_t_imageKept := a_t_imageKept) (t_latestFault := t_latestFault) (t_latestFinding := t_latestFinding) (l1 := l1) (l2 := l2) (l3 := l3) hQ  N (-1000000) 0 0 0 hR
  · refine z_ldc hC (-1000001) mX8_gain_1 dX8_gain_9 ?_
    obtain rfl := Option.some.inj hR
    exact z_iret hC hQ rfl rfl rfl dX8_gain_11
set_option maxHeartbeats 4000000 in
set_option maxRecDepth 100000 in
theorem c_X8_gain {sK sV : Nat → Nat} {l : Launch} {D : va_G} {cI cB cZ : ClassId} {N : Nat} {a_t : Nat} {a_t_rows : Nat} {a_t_tape : Nat} {a_t_reader : Nat} {a_t_now : Nat} {a_t_trial : Nat} {a_t_acts : Nat} {a_t_ways : Nat} {a_t_asks : Nat} {a_t_images : Nat} {a_t_imageKept : Nat} {t_latestFault : Int32} {t_latestFinding : Int32} {l1 : Int32} {l2 : Int32} {l3 : Int32} : ∀ R : Int32, o_X8_gain N l1 l2 l3 = some R → ZMi sK sV l yX8_gain wsX8_gain rmX8_gain D (zty cI cB cZ) [.ref a_t, .int l1, .int l2, .int l3] [(a_t, .inr (8, [.ref a_t_rows, .ref a_t_tape, .ref a_t_reader, .ref a_t_now, .ref a_t_trial, .ref a_t_acts, .ref a_t_ways, .ref a_t_asks, .ref a_t_images, .ref a_t_imageKept, .int t_latestFault, .int t_latestFinding]))] R [(a_t, .inr (8, [.ref a_t_rows, .ref a_t_tape, .ref a_t_reader, .ref a_t_now, .ref a_t_trial, .ref a_t_acts, .ref a_t_ways, .ref a_t_asks, .ref a_t_images, .ref a_t_imageKept, .int t_latestFault, .int t_latestFinding]))] := by
  intro R hR
  refine zi_of (cc := cX8_gain) (maxL := 10) (ret := (some .int)) (by decide) rfl (Nat.le_of_ble_eq_true rfl) (fun E hE1 hE2 hC hN hQ => ?_)
  subst hE1 hE2
  exact z_X8_gain_0 hC hN (N := N) (a_t := a_t) (a_t_rows := a_t_rows) (a_t_tape := a_t_tape) (a_t_reader := a_t_reader) (a_t_now := a_t_now) (a_t_trial := a_t_trial) (a_t_acts := a_t_acts) (a_t_ways := a_t_ways) (a_t_asks := a_t_asks) (a_t_images := a_t_images) (a_t_imageKept := a_t_imageKept) (t_latestFault := t_latestFault) (t_latestFinding := t_latestFinding) (l1 := l1) (l2 := l2) (l3 := l3) hQ hR

/-! FistTrains.isImage -/
abbrev rmX8_isImage : Room := { frames := 0, cells := 0, slots := 0, locals := 0 }
def o_X8_isImage (N : Nat) (l0 : Int32) : Option (Int32) :=
  if l0 < 0 then
    some (0)
  else
    if 2 ≤ l0 then
      some (0)
    else
      some (1)
set_option maxHeartbeats 4000000 in
set_option maxRecDepth 100000 in
theorem z_X8_isImage_0 {sK sV : Nat → Nat} {E : ZE} {cI cB cZ : ClassId} (hC : ZC E 1 cX8_isImage wsX8_isImage RX8 rmX8_isImage (some .boolean) (zty cI cB cZ)) (hN : ZN sK sV (zA E) (zs E)) {N : Nat} {l0 : Int32} {rf : Int32} (hQ : ZQi E (zty cI cB cZ) rf []) (hR : o_X8_isImage N l0 = some rf) : Z E (0, 0) [(0, .int l0)] 0 [] [] := by
  rw [o_X8_isImage] at hR
  refine z_iload_n hC dX8_isImage_0 rfl 0 rfl ?_
  refine z_if_lt hC 13 dX8_isImage_1 (by decide) hR (fun hR => ?_) (fun hR => ?_)
  · refine z_ic0 hC dX8_isImage_13 ?_
    obtain rfl := Option.some.inj hR
    exact z_iret hC hQ rfl rfl rfl dX8_isImage_14
  · refine z_iload_n hC dX8_isImage_4 rfl 0 rfl ?_
    refine z_ic2 hC dX8_isImage_5 ?_
    refine z_icmp_ge hC 13 dX8_isImage_6 (by decide) hR (fun hR => ?_) (fun hR => ?_)
    · refine z_ic0 hC dX8_isImage_13 ?_
      obtain rfl := Option.some.inj hR
      exact z_iret hC hQ rfl rfl rfl dX8_isImage_14
    · refine z_ic1 hC dX8_isImage_9 ?_
      refine z_goto hC 14 dX8_isImage_10 (by decide) ?_
      obtain rfl := Option.some.inj hR
      exact z_iret hC hQ rfl rfl rfl dX8_isImage_14
set_option maxHeartbeats 4000000 in
set_option maxRecDepth 100000 in
theorem c_X8_isImage {sK sV : Nat → Nat} {l : Launch} {D : va_G} {cI cB cZ : ClassId} {N : Nat} {l0 : Int32} : ∀ R : Int32, o_X8_isImage N l0 = some R → ZMi sK sV l yX8_isImage wsX8_isImage rmX8_isImage D (zty cI cB cZ) [.int l0] [] R [] := by
  intro R hR
  refine zi_of (cc := cX8_isImage) (maxL := 1) (ret := (some .boolean)) (by decide) rfl (Nat.le_of_ble_eq_true rfl) (fun E hE1 hE2 hC hN hQ => ?_)
  subst hE1 hE2
  exact z_X8_isImage_0 hC hN (N := N) (l0 := l0) hQ hR

/-! FistTrains.image -/
abbrev rmX8_image : Room := { frames := 1, cells := 0, slots := 0, locals := 23 }
set_option maxRecDepth 20000 in
theorem iX8_image_X8 : ∀ w ∈ wsX80, w ∈ wsX8_image := by decide +kernel
set_option maxRecDepth 20000 in
theorem mX8_image_2 : Cond.fieldLink RX8 35 "FistTrains" "now" "LFistTrains$Hall;" ∈ wsX8_image := List.mem_of_getElem? (i := 2) rfl
set_option maxRecDepth 20000 in
theorem mX8_image_4 : Cond.fieldLink RX8 63 "FistTrains" "images" "[I" ∈ wsX8_image := List.mem_of_getElem? (i := 4) rfl
set_option maxRecDepth 20000 in
theorem mX8_image_5 : Cond.fieldLink RX8 67 "FistTrains" "imageKept" "[Z" ∈ wsX8_image := List.mem_of_getElem? (i := 5) rfl
set_option maxRecDepth 20000 in
theorem mX8_image_3 : Cond.constant RX8 164 (-1000002) ∈ wsX8_image := List.mem_of_getElem? (i := 3) rfl
set_option maxRecDepth 20000 in
theorem mX8_image_1 : Cond.constant RX8 82 (-1000001) ∈ wsX8_image := List.mem_of_getElem? (i := 1) rfl
def o_X8_image (N : Nat) (t_now_players : Int32) (t_now_round : Int32) (t_now_time : Int32) (t_now_kind : (Nat → Int32)) (t_now_hand : (Nat → Int32)) (t_now_leader : (Nat → Int32)) (t_images : (Nat → Int32)) (t_imageKept : (Nat → Int32)) (l1 : Int32) : Option (Int32 × (Nat → Int32) × (Nat → Int32)) :=
  Option.bind (o_X8_isImage N l1) (fun r1 =>
  if r1 = 0 then
    some ((-1000001), t_images, t_imageKept)
  else
    Option.bind (o_X3_isMissing N t_now_players) (fun r14 =>
    if r14 = 0 then
      Option.bind (o_X3_save N 54 t_now_players t_now_round t_now_time t_now_kind t_now_hand t_now_leader t_images (l1 * 27)) (fun r35 =>
      ogd (inb l1 2) (
      some (1, r35, (upd t_imageKept (Int32.toNatClampNeg l1) (vp_nar .boolean 1)))))
    else
      some ((-1000002), t_images, t_imageKept)))
set_option maxHeartbeats 4000000 in
set_option maxRecDepth 100000 in
theorem z_X8_image_0 {sK sV : Nat → Nat} {E : ZE} {cI cB cZ : ClassId} (hC : ZC E 2 cX8_image wsX8_image RX8 rmX8_image (some .int) (zty cI cB cZ)) (hN : ZN sK sV (zA E) (zs E)) {N : Nat} {a_t : Nat} {a_t_now : Nat} {a_t_now_kind : Nat} {a_t_now_hand : Nat} {a_t_now_leader : Nat} {a_t_images : Nat} {a_t_imageKept : Nat} {a_t_rows : Nat} {a_t_tape : Nat} {a_t_reader : Nat} {a_t_trial : Nat} {a_t_acts : Nat} {a_t_ways : Nat} {a_t_asks : Nat} {a_t_now_course : Nat} {t_latestFault : Int32} {t_latestFinding : Int32} {t_now_players : Int32} {t_now_round : Int32} {t_now_time : Int32} {t_now_kind : (Nat → Int32)} {t_now_hand : (Nat → Int32)} {t_now_leader : (Nat → Int32)} {t_images : (Nat → Int32)} {t_imageKept : (Nat → Int32)} {l1 : Int32} {rf : Int32 × (Nat → Int32) × (Nat → Int32)} (hQ : ZQi E (zty cI cB cZ) rf.1 [(a_t, .inr (8, [.ref a_t_rows, .ref a_t_tape, .ref a_t_reader, .ref a_t_now, .ref a_t_trial, .ref a_t_acts, .ref a_t_ways, .ref a_t_asks, .ref a_t_images, .ref a_t_imageKept, .int t_latestFault, .int t_latestFinding])), (a_t_now, .inr (3, [.int t_now_players, .int t_now_round, .int t_now_time, .ref a_t_now_kind, .ref a_t_now_hand, .ref a_t_now_leader, .ref a_t_now_course])), (a_t_now_kind, .inl (cI, 8, .inl t_now_kind)), (a_t_now_hand, .inl (cI, 8, .inl t_now_hand)), (a_t_now_leader, .inl (cI, 8, .inl t_now_leader)), (a_t_images, .inl (cI, 54, .inl rf.2.1)), (a_t_imageKept, .inl (cZ, 2, .inl rf.2.2))]) (hR : o_X8_image N t_now_players t_now_round t_now_time t_now_kind t_now_hand t_now_leader t_images t_imageKept l1 = some rf) : Z E (0, 0) [(0, .ref a_t), (1, .int l1)] 0 [] [(a_t, .inr (8, [.ref a_t_rows, .ref a_t_tape, .ref a_t_reader, .ref a_t_now, .ref a_t_trial, .ref a_t_acts, .ref a_t_ways, .ref a_t_asks, .ref a_t_images, .ref a_t_imageKept, .int t_latestFault, .int t_latestFinding])), (a_t_now, .inr (3, [.int t_now_players, .int t_now_round, .int t_now_time, .ref a_t_now_kind, .ref a_t_now_hand, .ref a_t_now_leader, .ref a_t_now_course])), (a_t_now_kind, .inl (cI, 8, .inl t_now_kind)), (a_t_now_hand, .inl (cI, 8, .inl t_now_hand)), (a_t_now_leader, .inl (cI, 8, .inl t_now_leader)), (a_t_images, .inl (cI, 54, .inl t_images)), (a_t_imageKept, .inl (cZ, 2, .inl t_imageKept))] := by
  rw [o_X8_image] at hR
  refine z_iload_n hC dX8_image_0 rfl 1 rfl ?_
  refine z_callSi_p hC hN [.int l1] [] (c_X8_isImage (l := zl E) (D := zD E) (cI := cI) (cB := cB) (cZ := cZ) (N := N) (l0 := l1)) rfl ⟨rfl, rfl⟩ gX8_image_X8_isImage hsX8_isImage ⟨Nat.le_of_ble_eq_true rfl, Nat.le_of_ble_eq_true rfl⟩ ⟨Nat.zero_le _, Nat.zero_le _⟩ rfl (Nat.le_of_ble_eq_true rfl) rfl (by decide) dX8_image_1 hR (fun r1 hR => ?_)
  refine z_if_ne hC 10 dX8_image_4 (by decide) hR (fun hR => ?_) (fun hR => ?_)
  · refine z_aload_n hC dX8_image_10 rfl 0 rfl ?_
    refine z_get hC iX8_image_X8 rfl 0 3 rfl (by decide) mX8_image_2 rfl rfl dX8_image_11 ?_
    refine z_callVi_p hC hN [] [1] (c_X3_isMissing (l := zl E) (D := zD E) (cI := cI) (cB := cB) (cZ := cZ) (N := N) (a_t := a_t_now) (a_t_kind := a_t_now_kind) (a_t_hand := a_t_now_hand) (a_t_leader := a_t_now_leader) (a_t_course := a_t_now_course) (t_players := t_now_players) (t_round := t_now_round) (t_time := t_now_time)) rfl ⟨rfl, rfl⟩ gX8_image_X3_isMissing hvX3_isMissing 1 3 rfl rfl rfl ⟨Nat.le_of_ble_eq_true rfl, Nat.le_of_ble_eq_true rfl⟩ ⟨Nat.zero_le _, Nat.zero_le _⟩ rfl (Nat.le_of_ble_eq_true rfl) rfl (by decide) dX8_image_14 hR (fun r14 hR => ?_)
    refine z_if_eq hC 23 dX8_image_17 (by decide) hR (fun hR => ?_) (fun hR => ?_)
    · refine z_aload_n hC dX8_image_23 rfl 0 rfl ?_
      refine z_get hC iX8_image_X8 rfl 0 3 rfl (by decide) mX8_image_2 rfl rfl dX8_image_24 ?_
      refine z_aload_n hC dX8_image_27 rfl 0 rfl ?_
      refine z_get hC iX8_image_X8 rfl 0 8 rfl (by decide) mX8_image_4 rfl rfl dX8_image_28 ?_
      refine z_iload_n hC dX8_image_31 rfl 1 rfl ?_
      refine z_bipush (v := 27) hC dX8_image_32 (by decide) ?_
      refine z_imul hC dX8_image_34 ?_
      refine z_callVv hC hN [.ref a_t_images, .int (l1 * 27)] [1, 2, 3, 4, 5] (c_X3_save (l := zl E) (D := zD E) (cI := cI) (cB := cB) (cZ := cZ) (N := N) (a_t := a_t_now) (a_t_kind := a_t_now_kind) (a_t_hand := a_t_now_hand) (a_t_leader := a_t_now_leader) (a_t_course := a_t_now_course) (a_p1 := a_t_images) (l2 := (l1 * 27)) (t_players := t_now_players) (t_round := t_now_round) (t_time := t_now_time) (t_kind := t_now_kind) (t_hand := t_now_hand) (t_leader := t_now_leader) (p1 := t_images) (p1_n := 54)) rfl ⟨rfl, rfl⟩ gX8_image_X3_save hvX3_save 1 3 rfl rfl rfl ⟨Nat.le_of_ble_eq_true rfl, Nat.le_of_ble_eq_true rfl⟩ ⟨Nat.zero_le _, Nat.zero_le _⟩ rfl (Nat.le_of_ble_eq_true rfl) rfl (by decide) (fun _ => rfl) dX8_image_35 hR (fun r35 hR => ?_)
      refine z_eq [(a_t, .inr (8, [.ref a_t_rows, .ref a_t_tape, .ref a_t_reader, .ref a_t_now, .ref a_t_trial, .ref a_t_acts, .ref a_t_ways, .ref a_t_asks, .ref a_t_images, .ref a_t_imageKept, .int t_latestFault, .int t_latestFinding])), (a_t_now, .inr (3, [.int t_now_players, .int t_now_round, .int t_now_time, .ref a_t_now_kind, .ref a_t_now_hand, .ref a_t_now_leader, .ref a_t_now_course])), (a_t_now_kind, .inl (cI, 8, .inl t_now_kind)), (a_t_now_hand, .inl (cI, 8, .inl t_now_hand)), (a_t_now_leader, .inl (cI, 8, .inl t_now_leader)), (a_t_images, .inl (cI, 54, .inl r35)), (a_t_imageKept, .inl (cZ, 2, .inl t_imageKept))] rfl ?_
      refine z_aload_n hC dX8_image_38 rfl 0 rfl ?_
      refine z_get hC iX8_image_X8 rfl 0 9 rfl (by decide) mX8_image_5 rfl rfl dX8_image_39 ?_
      refine z_iload_n hC dX8_image_42 rfl 1 rfl ?_
      refine z_ic1 hC dX8_image_43 ?_
      refine z_zast hC 6 2 rfl rfl dX8_image_44 hR (fun hR => ?_)
      refine z_ic1 hC dX8_image_45 ?_
      obtain rfl := Option.some.inj hR
      exact z_iret hC hQ rfl rfl rfl dX8_image_46
    · refine z_ldc hC (-1000002) mX8_image_3 dX8_image_20 ?_
      obtain rfl := Option.some.inj hR
      exact z_iret hC hQ rfl rfl rfl dX8_image_22
  · refine z_ldc hC (-1000001) mX8_image_1 dX8_image_7 ?_
    obtain rfl := Option.some.inj hR
    exact z_iret hC hQ rfl rfl rfl dX8_image_9
set_option maxHeartbeats 4000000 in
set_option maxRecDepth 100000 in
theorem c_X8_image {sK sV : Nat → Nat} {l : Launch} {D : va_G} {cI cB cZ : ClassId} {N : Nat} {a_t : Nat} {a_t_now : Nat} {a_t_now_kind : Nat} {a_t_now_hand : Nat} {a_t_now_leader : Nat} {a_t_images : Nat} {a_t_imageKept : Nat} {a_t_rows : Nat} {a_t_tape : Nat} {a_t_reader : Nat} {a_t_trial : Nat} {a_t_acts : Nat} {a_t_ways : Nat} {a_t_asks : Nat} {a_t_now_course : Nat} {t_latestFault : Int32} {t_latestFinding : Int32} {t_now_players : Int32} {t_now_round : Int32} {t_now_time : Int32} {t_now_kind : (Nat → Int32)} {t_now_hand : (Nat → Int32)} {t_now_leader : (Nat → Int32)} {t_images : (Nat → Int32)} {t_imageKept : (Nat → Int32)} {l1 : Int32} : ∀ R : Int32 × (Nat → Int32) × (Nat → Int32), o_X8_image N t_now_players t_now_round t_now_time t_now_kind t_now_hand t_now_leader t_images t_imageKept l1 = some R → ZMi sK sV l yX8_image wsX8_image rmX8_image D (zty cI cB cZ) [.ref a_t, .int l1] [(a_t, .inr (8, [.ref a_t_rows, .ref a_t_tape, .ref a_t_reader, .ref a_t_now, .ref a_t_trial, .ref a_t_acts, .ref a_t_ways, .ref a_t_asks, .ref a_t_images, .ref a_t_imageKept, .int t_latestFault, .int t_latestFinding])), (a_t_now, .inr (3, [.int t_now_players, .int t_now_round, .int t_now_time, .ref a_t_now_kind, .ref a_t_now_hand, .ref a_t_now_leader, .ref a_t_now_course])), (a_t_now_kind, .inl (cI, 8, .inl t_now_kind)), (a_t_now_hand, .inl (cI, 8, .inl t_now_hand)), (a_t_now_leader, .inl (cI, 8, .inl t_now_leader)), (a_t_images, .inl (cI, 54, .inl t_images)), (a_t_imageKept, .inl (cZ, 2, .inl t_imageKept))] R.1 [(a_t, .inr (8, [.ref a_t_rows, .ref a_t_tape, .ref a_t_reader, .ref a_t_now, .ref a_t_trial, .ref a_t_acts, .ref a_t_ways, .ref a_t_asks, .ref a_t_images, .ref a_t_imageKept, .int t_latestFault, .int t_latestFinding])), (a_t_now, .inr (3, [.int t_now_players, .int t_now_round, .int t_now_time, .ref a_t_now_kind, .ref a_t_now_hand, .ref a_t_now_leader, .ref a_t_now_course])), (a_t_now_kind, .inl (cI, 8, .inl t_now_kind)), (a_t_now_hand, .inl (cI, 8, .inl t_now_hand)), (a_t_now_leader, .inl (cI, 8, .inl t_now_leader)), (a_t_images, .inl (cI, 54, .inl R.2.1)), (a_t_imageKept, .inl (cZ, 2, .inl R.2.2))] := by
  intro R hR
  refine zi_of (cc := cX8_image) (maxL := 2) (ret := (some .int)) (by decide) rfl (Nat.le_of_ble_eq_true rfl) (fun E hE1 hE2 hC hN hQ => ?_)
  subst hE1 hE2
  exact z_X8_image_0 hC hN (N := N) (a_t := a_t) (a_t_now := a_t_now) (a_t_now_kind := a_t_now_kind) (a_t_now_hand := a_t_now_hand) (a_t_now_leader := a_t_now_leader) (a_t_images := a_t_images) (a_t_imageKept := a_t_imageKept) (a_t_rows := a_t_rows) (a_t_tape := a_t_tape) (a_t_reader := a_t_reader) (a_t_trial := a_t_trial) (a_t_acts := a_t_acts) (a_t_ways := a_t_ways) (a_t_asks := a_t_asks) (a_t_now_course := a_t_now_course) (t_latestFault := t_latestFault) (t_latestFinding := t_latestFinding) (t_now_players := t_now_players) (t_now_round := t_now_round) (t_now_time := t_now_time) (t_now_kind := t_now_kind) (t_now_hand := t_now_hand) (t_now_leader := t_now_leader) (t_images := t_images) (t_imageKept := t_imageKept) (l1 := l1) hQ hR

/-! FistTrains.restore -/
abbrev rmX8_restore : Room := { frames := 1, cells := 0, slots := 0, locals := 23 }
set_option maxRecDepth 20000 in
theorem iX8_restore_X8 : ∀ w ∈ wsX80, w ∈ wsX8_restore := by decide +kernel
set_option maxRecDepth 20000 in
theorem mX8_restore_2 : Cond.fieldLink RX8 67 "FistTrains" "imageKept" "[Z" ∈ wsX8_restore := List.mem_of_getElem? (i := 2) rfl
set_option maxRecDepth 20000 in
theorem mX8_restore_4 : Cond.fieldLink RX8 35 "FistTrains" "now" "LFistTrains$Hall;" ∈ wsX8_restore := List.mem_of_getElem? (i := 4) rfl
set_option maxRecDepth 20000 in
theorem mX8_restore_5 : Cond.fieldLink RX8 63 "FistTrains" "images" "[I" ∈ wsX8_restore := List.mem_of_getElem? (i := 5) rfl
set_option maxRecDepth 20000 in
theorem mX8_restore_6 : Cond.fieldLink RX8 45 "FistTrains" "acts" "LFistTrains$Acts;" ∈ wsX8_restore := List.mem_of_getElem? (i := 6) rfl
set_option maxRecDepth 20000 in
theorem mX8_restore_3 : Cond.constant RX8 164 (-1000002) ∈ wsX8_restore := List.mem_of_getElem? (i := 3) rfl
set_option maxRecDepth 20000 in
theorem mX8_restore_1 : Cond.constant RX8 82 (-1000001) ∈ wsX8_restore := List.mem_of_getElem? (i := 1) rfl
def o_X8_restore (N : Nat) (t_now_players : Int32) (t_now_round : Int32) (t_now_time : Int32) (t_now_kind : (Nat → Int32)) (t_now_hand : (Nat → Int32)) (t_now_leader : (Nat → Int32)) (t_acts_kept : Int32) (t_images : (Nat → Int32)) (t_imageKept : (Nat → Int32)) (l1 : Int32) : Option (Int32 × Int32 × Int32 × Int32 × (Nat → Int32) × (Nat → Int32) × (Nat → Int32) × Int32) :=
  Option.bind (o_X8_isImage N l1) (fun r1 =>
  if r1 = 0 then
    some ((-1000001), t_now_players, t_now_round, t_now_time, t_now_kind, t_now_hand, t_now_leader, t_acts_kept)
  else
    ogd (inb l1 2) (
    if (t_imageKept (Int32.toNatClampNeg l1)) = 0 then
      some ((-1000002), t_now_players, t_now_round, t_now_time, t_now_kind, t_now_hand, t_now_leader, t_acts_kept)
    else
      Option.bind (o_X3_load N 54 t_now_kind t_now_hand t_now_leader t_images (l1 * 27)) (fun r34 =>
      Option.bind (o_X0_forget N) (fun r41 =>
      some (1, r34.1, r34.2.1, r34.2.2.1, r34.2.2.2.1, r34.2.2.2.2.1, r34.2.2.2.2.2, r41)))))
set_option maxHeartbeats 4000000 in
set_option maxRecDepth 100000 in
theorem z_X8_restore_0 {sK sV : Nat → Nat} {E : ZE} {cI cB cZ : ClassId} (hC : ZC E 2 cX8_restore wsX8_restore RX8 rmX8_restore (some .int) (zty cI cB cZ)) (hN : ZN sK sV (zA E) (zs E)) {N : Nat} {a_t : Nat} {a_t_now : Nat} {a_t_now_kind : Nat} {a_t_now_hand : Nat} {a_t_now_leader : Nat} {a_t_acts : Nat} {a_t_images : Nat} {a_t_imageKept : Nat} {a_t_rows : Nat} {a_t_tape : Nat} {a_t_reader : Nat} {a_t_trial : Nat} {a_t_ways : Nat} {a_t_asks : Nat} {a_t_now_course : Nat} {a_t_acts_halls : Nat} {t_latestFault : Int32} {t_latestFinding : Int32} {t_now_players : Int32} {t_now_round : Int32} {t_now_time : Int32} {t_now_kind : (Nat → Int32)} {t_now_hand : (Nat → Int32)} {t_now_leader : (Nat → Int32)} {t_acts_kept : Int32} {t_acts_next : Int32} {t_images : (Nat → Int32)} {t_imageKept : (Nat → Int32)} {l1 : Int32} {rf : Int32 × Int32 × Int32 × Int32 × (Nat → Int32) × (Nat → Int32) × (Nat → Int32) × Int32} (hQ : ZQi E (zty cI cB cZ) rf.1 [(a_t, .inr (8, [.ref a_t_rows, .ref a_t_tape, .ref a_t_reader, .ref a_t_now, .ref a_t_trial, .ref a_t_acts, .ref a_t_ways, .ref a_t_asks, .ref a_t_images, .ref a_t_imageKept, .int t_latestFault, .int t_latestFinding])), (a_t_now, .inr (3, [.int rf.2.1, .int rf.2.2.1, .int rf.2.2.2.1, .ref a_t_now_kind, .ref a_t_now_hand, .ref a_t_now_leader, .ref a_t_now_course])), (a_t_now_kind, .inl (cI, 8, .inl rf.2.2.2.2.1)), (a_t_now_hand, .inl (cI, 8, .inl rf.2.2.2.2.2.1)), (a_t_now_leader, .inl (cI, 8, .inl rf.2.2.2.2.2.2.1)), (a_t_acts, .inr (0, [.ref a_t_acts_halls, .int rf.2.2.2.2.2.2.2, .int t_acts_next])), (a_t_images, .inl (cI, 54, .inl t_images)), (a_t_imageKept, .inl (cZ, 2, .inl t_imageKept))]) (hR : o_X8_restore N t_now_players t_now_round t_now_time t_now_kind t_now_hand t_now_leader t_acts_kept t_images t_imageKept l1 = some rf) : Z E (0, 0) [(0, .ref a_t), (1, .int l1)] 0 [] [(a_t, .inr (8, [.ref a_t_rows, .ref a_t_tape, .ref a_t_reader, .ref a_t_now, .ref a_t_trial, .ref a_t_acts, .ref a_t_ways, .ref a_t_asks, .ref a_t_images, .ref a_t_imageKept, .int t_latestFault, .int t_latestFinding])), (a_t_now, .inr (3, [.int t_now_players, .int t_now_round, .int t_now_time, .ref a_t_now_kind, .ref a_t_now_hand, .ref a_t_now_leader, .ref a_t_now_course])), (a_t_now_kind, .inl (cI, 8, .inl t_now_kind)), (a_t_now_hand, .inl (cI, 8, .inl t_now_hand)), (a_t_now_leader, .inl (cI, 8, .inl t_now_leader)), (a_t_acts, .inr (0, [.ref a_t_acts_halls, .int t_acts_kept, .int t_acts_next])), (a_t_images, .inl (cI, 54, .inl t_images)), (a_t_imageKept, .inl (cZ, 2, .inl t_imageKept))] := by
  rw [o_X8_restore] at hR
  refine z_iload_n hC dX8_restore_0 rfl 1 rfl ?_
  refine z_callSi_p hC hN [.int l1] [] (c_X8_isImage (l := zl E) (D := zD E) (cI := cI) (cB := cB) (cZ := cZ) (N := N) (l0 := l1)) rfl ⟨rfl, rfl⟩ gX8_restore_X8_isImage hsX8_isImage ⟨Nat.le_of_ble_eq_true rfl, Nat.le_of_ble_eq_true rfl⟩ ⟨Nat.zero_le _, Nat.zero_le _⟩ rfl (Nat.le_of_ble_eq_true rfl) rfl (by decide) dX8_restore_1 hR (fun r1 hR => ?_)
  refine z_if_ne hC 10 dX8_restore_4 (by decide) hR (fun hR => ?_) (fun hR => ?_)
  · refine z_aload_n hC dX8_restore_10 rfl 0 rfl ?_
    refine z_get hC iX8_restore_X8 rfl 0 9 rfl (by decide) mX8_restore_2 rfl rfl dX8_restore_11 ?_
    refine z_iload_n hC dX8_restore_14 rfl 1 rfl ?_
    refine z_zald hC 7 2 rfl rfl dX8_restore_15 hR (fun hR => ?_)
    refine z_if_ne hC 22 dX8_restore_16 (by decide) hR (fun hR => ?_) (fun hR => ?_)
    · refine z_aload_n hC dX8_restore_22 rfl 0 rfl ?_
      refine z_get hC iX8_restore_X8 rfl 0 3 rfl (by decide) mX8_restore_4 rfl rfl dX8_restore_23 ?_
      refine z_aload_n hC dX8_restore_26 rfl 0 rfl ?_
      refine z_get hC iX8_restore_X8 rfl 0 8 rfl (by decide) mX8_restore_5 rfl rfl dX8_restore_27 ?_
      refine z_iload_n hC dX8_restore_30 rfl 1 rfl ?_
      refine z_bipush (v := 27) hC dX8_restore_31 (by decide) ?_
      refine z_imul hC dX8_restore_33 ?_
      refine z_callVv hC hN [.ref a_t_images, .int (l1 * 27)] [1, 2, 3, 4, 6] (c_X3_load (l := zl E) (D := zD E) (cI := cI) (cB := cB) (cZ := cZ) (N := N) (a_t := a_t_now) (a_t_kind := a_t_now_kind) (a_t_hand := a_t_now_hand) (a_t_leader := a_t_now_leader) (a_t_course := a_t_now_course) (a_p1 := a_t_images) (l2 := (l1 * 27)) (t_players := t_now_players) (t_round := t_now_round) (t_time := t_now_time) (t_kind := t_now_kind) (t_hand := t_now_hand) (t_leader := t_now_leader) (p1 := t_images) (p1_n := 54)) rfl ⟨rfl, rfl⟩ gX8_restore_X3_load hvX3_load 1 3 rfl rfl rfl ⟨Nat.le_of_ble_eq_true rfl, Nat.le_of_ble_eq_true rfl⟩ ⟨Nat.zero_le _, Nat.zero_le _⟩ rfl (Nat.le_of_ble_eq_true rfl) rfl (by decide) (fun _ => rfl) dX8_restore_34 hR (fun r34 hR => ?_)
      refine z_eq [(a_t, .inr (8, [.ref a_t_rows, .ref a_t_tape, .ref a_t_reader, .ref a_t_now, .ref a_t_trial, .ref a_t_acts, .ref a_t_ways, .ref a_t_asks, .ref a_t_images, .ref a_t_imageKept, .int t_latestFault, .int t_latestFinding])), (a_t_now, .inr (3, [.int r34.1, .int r34.2.1, .int r34.2.2.1, .ref a_t_now_kind, .ref a_t_now_hand, .ref a_t_now_leader, .ref a_t_now_course])), (a_t_now_kind, .inl (cI, 8, .inl r34.2.2.2.1)), (a_t_now_hand, .inl (cI, 8, .inl r34.2.2.2.2.1)), (a_t_now_leader, .inl (cI, 8, .inl r34.2.2.2.2.2)), (a_t_acts, .inr (0, [.ref a_t_acts_halls, .int t_acts_kept, .int t_acts_next])), (a_t_images, .inl (cI, 54, .inl t_images)), (a_t_imageKept, .inl (cZ, 2, .inl t_imageKept))] rfl ?_
      refine z_aload_n hC dX8_restore_37 rfl 0 rfl ?_
      refine z_get hC iX8_restore_X8 rfl 0 5 rfl (by decide) mX8_restore_6 rfl rfl dX8_restore_38 ?_
      refine z_callVv hC hN [] [5] (c_X0_forget (l := zl E) (D := zD E) (cI := cI) (cB := cB) (cZ := cZ) (N := N) (a_t := a_t_acts) (a_t_halls := a_t_acts_halls) (t_kept := t_acts_kept) (t_next := t_acts_next)) rfl ⟨rfl, rfl⟩ gX8_restore_X0_forget hvX0_forget 5 0 rfl rfl rfl ⟨Nat.le_of_ble_eq_true rfl, Nat.le_of_ble_eq_true rfl⟩ ⟨Nat.zero_le _, Nat.zero_le _⟩ rfl (Nat.le_of_ble_eq_true rfl) rfl (by decide) (fun _ => rfl) dX8_restore_41 hR (fun r41 hR => ?_)
      refine z_eq [(a_t, .inr (8, [.ref a_t_rows, .ref a_t_tape, .ref a_t_reader, .ref a_t_now, .ref a_t_trial, .ref a_t_acts, .ref a_t_ways, .ref a_t_asks, .ref a_t_images, .ref a_t_imageKept, .int t_latestFault, .int t_latestFinding])), (a_t_now, .inr (3, [.int r34.1, .int r34.2.1, .int r34.2.2.1, .ref a_t_now_kind, .ref a_t_now_hand, .ref a_t_now_leader, .ref a_t_now_course])), (a_t_now_kind, .inl (cI, 8, .inl r34.2.2.2.1)), (a_t_now_hand, .inl (cI, 8, .inl r34.2.2.2.2.1)), (a_t_now_leader, .inl (cI, 8, .inl r34.2.2.2.2.2)), (a_t_acts, .inr (0, [.ref a_t_acts_halls, .int r41, .int t_acts_next])), (a_t_images, .inl (cI, 54, .inl t_images)), (a_t_imageKept, .inl (cZ, 2, .inl t_imageKept))] rfl ?_
      refine z_ic1 hC dX8_restore_44 ?_
      obtain rfl := Option.some.inj hR
      exact z_iret hC hQ rfl rfl rfl dX8_restore_45
    · refine z_ldc hC (-1000002) mX8_restore_3 dX8_restore_19 ?_
      obtain rfl := Option.some.inj hR
      exact z_iret hC hQ rfl rfl rfl dX8_restore_21
  · refine z_ldc hC (-1000001) mX8_restore_1 dX8_restore_7 ?_
    obtain rfl := Option.some.inj hR
    exact z_iret hC hQ rfl rfl rfl dX8_restore_9
set_option maxHeartbeats 4000000 in
set_option maxRecDepth 100000 in
theorem c_X8_restore {sK sV : Nat → Nat} {l : Launch} {D : va_G} {cI cB cZ : ClassId} {N : Nat} {a_t : Nat} {a_t_now : Nat} {a_t_now_kind : Nat} {a_t_now_hand : Nat} {a_t_now_leader : Nat} {a_t_acts : Nat} {a_t_images : Nat} {a_t_imageKept : Nat} {a_t_rows : Nat} {a_t_tape : Nat} {a_t_reader : Nat} {a_t_trial : Nat} {a_t_ways : Nat} {a_t_asks : Nat} {a_t_now_course : Nat} {a_t_acts_halls : Nat} {t_latestFault : Int32} {t_latestFinding : Int32} {t_now_players : Int32} {t_now_round : Int32} {t_now_time : Int32} {t_now_kind : (Nat → Int32)} {t_now_hand : (Nat → Int32)} {t_now_leader : (Nat → Int32)} {t_acts_kept : Int32} {t_acts_next : Int32} {t_images : (Nat → Int32)} {t_imageKept : (Nat → Int32)} {l1 : Int32} : ∀ R : Int32 × Int32 × Int32 × Int32 × (Nat → Int32) × (Nat → Int32) × (Nat → Int32) × Int32, o_X8_restore N t_now_players t_now_round t_now_time t_now_kind t_now_hand t_now_leader t_acts_kept t_images t_imageKept l1 = some R → ZMi sK sV l yX8_restore wsX8_restore rmX8_restore D (zty cI cB cZ) [.ref a_t, .int l1] [(a_t, .inr (8, [.ref a_t_rows, .ref a_t_tape, .ref a_t_reader, .ref a_t_now, .ref a_t_trial, .ref a_t_acts, .ref a_t_ways, .ref a_t_asks, .ref a_t_images, .ref a_t_imageKept, .int t_latestFault, .int t_latestFinding])), (a_t_now, .inr (3, [.int t_now_players, .int t_now_round, .int t_now_time, .ref a_t_now_kind, .ref a_t_now_hand, .ref a_t_now_leader, .ref a_t_now_course])), (a_t_now_kind, .inl (cI, 8, .inl t_now_kind)), (a_t_now_hand, .inl (cI, 8, .inl t_now_hand)), (a_t_now_leader, .inl (cI, 8, .inl t_now_leader)), (a_t_acts, .inr (0, [.ref a_t_acts_halls, .int t_acts_kept, .int t_acts_next])), (a_t_images, .inl (cI, 54, .inl t_images)), (a_t_imageKept, .inl (cZ, 2, .inl t_imageKept))] R.1 [(a_t, .inr (8, [.ref a_t_rows, .ref a_t_tape, .ref a_t_reader, .ref a_t_now, .ref a_t_trial, .ref a_t_acts, .ref a_t_ways, .ref a_t_asks, .ref a_t_images, .ref a_t_imageKept, .int t_latestFault, .int t_latestFinding])), (a_t_now, .inr (3, [.int R.2.1, .int R.2.2.1, .int R.2.2.2.1, .ref a_t_now_kind, .ref a_t_now_hand, .ref a_t_now_leader, .ref a_t_now_course])), (a_t_now_kind, .inl (cI, 8, .inl R.2.2.2.2.1)), (a_t_now_hand, .inl (cI, 8, .inl R.2.2.2.2.2.1)), (a_t_now_leader, .inl (cI, 8, .inl R.2.2.2.2.2.2.1)), (a_t_acts, .inr (0, [.ref a_t_acts_halls, .int R.2.2.2.2.2.2.2, .int t_acts_next])), (a_t_images, .inl (cI, 54, .inl t_images)), (a_t_imageKept, .inl (cZ, 2, .inl t_imageKept))] := by
  intro R hR
  refine zi_of (cc := cX8_restore) (maxL := 2) (ret := (some .int)) (by decide) rfl (Nat.le_of_ble_eq_true rfl) (fun E hE1 hE2 hC hN hQ => ?_)
  subst hE1 hE2
  exact z_X8_restore_0 hC hN (N := N) (a_t := a_t) (a_t_now := a_t_now) (a_t_now_kind := a_t_now_kind) (a_t_now_hand := a_t_now_hand) (a_t_now_leader := a_t_now_leader) (a_t_acts := a_t_acts) (a_t_images := a_t_images) (a_t_imageKept := a_t_imageKept) (a_t_rows := a_t_rows) (a_t_tape := a_t_tape) (a_t_reader := a_t_reader) (a_t_trial := a_t_trial) (a_t_ways := a_t_ways) (a_t_asks := a_t_asks) (a_t_now_course := a_t_now_course) (a_t_acts_halls := a_t_acts_halls) (t_latestFault := t_latestFault) (t_latestFinding := t_latestFinding) (t_now_players := t_now_players) (t_now_round := t_now_round) (t_now_time := t_now_time) (t_now_kind := t_now_kind) (t_now_hand := t_now_hand) (t_now_leader := t_now_leader) (t_acts_kept := t_acts_kept) (t_acts_next := t_acts_next) (t_images := t_images) (t_imageKept := t_imageKept) (l1 := l1) hQ hR

/-! FistTrains.kind -/
abbrev rmX8_kind : Room := { frames := 1, cells := 0, slots := 0, locals := 21 }
set_option maxRecDepth 20000 in
theorem mX8_kind_3 : Cond.constant RX8 82 (-1000001) ∈ wsX8_kind := List.mem_of_getElem? (i := 3) rfl
set_option maxRecDepth 20000 in
theorem iX8_kind_X8 : ∀ w ∈ wsX80, w ∈ wsX8_kind := by decide +kernel
set_option maxRecDepth 20000 in
theorem mX8_kind_1 : Cond.fieldLink RX8 35 "FistTrains" "now" "LFistTrains$Hall;" ∈ wsX8_kind := List.mem_of_getElem? (i := 1) rfl
set_option maxRecDepth 20000 in
theorem iX8_kind_X3 : ∀ w ∈ wsX30, w ∈ wsX8_kind := by decide +kernel
set_option maxRecDepth 20000 in
theorem mX8_kind_2 : Cond.fieldLink RX8 283 "FistTrains$Hall" "kind" "[I" ∈ wsX8_kind := List.mem_of_getElem? (i := 2) rfl
def o_X8_kind (N : Nat) (t_now_players : Int32) (t_now_kind : (Nat → Int32)) (l1 : Int32) : Option (Int32) :=
  Option.bind (o_X8_isPlayer N t_now_players l1) (fun r2 =>
  if r2 = 0 then
    some ((-1000001))
  else
    ogd (inb l1 8) (
    some ((t_now_kind (Int32.toNatClampNeg l1)))))
set_option maxHeartbeats 4000000 in
set_option maxRecDepth 100000 in
theorem z_X8_kind_0 {sK sV : Nat → Nat} {E : ZE} {cI cB cZ : ClassId} (hC : ZC E 2 cX8_kind wsX8_kind RX8 rmX8_kind (some .int) (zty cI cB cZ)) (hN : ZN sK sV (zA E) (zs E)) {N : Nat} {a_t : Nat} {a_t_now : Nat} {a_t_now_kind : Nat} {a_t_rows : Nat} {a_t_tape : Nat} {a_t_reader : Nat} {a_t_trial : Nat} {a_t_acts : Nat} {a_t_ways : Nat} {a_t_asks : Nat} {a_t_images : Nat} {a_t_imageKept : Nat} {a_t_now_hand : Nat} {a_t_now_leader : Nat} {a_t_now_course : Nat} {t_latestFault : Int32} {t_latestFinding : Int32} {t_now_players : Int32} {t_now_round : Int32} {t_now_time : Int32} {t_now_kind : (Nat → Int32)} {l1 : Int32} {rf : Int32} (hQ : ZQi E (zty cI cB cZ) rf [(a_t, .inr (8, [.ref a_t_rows, .ref a_t_tape, .ref a_t_reader, .ref a_t_now, .ref a_t_trial, .ref a_t_acts, .ref a_t_ways, .ref a_t_asks, .ref a_t_images, .ref a_t_imageKept, .int t_latestFault, .int t_latestFinding])), (a_t_now, .inr (3, [.int t_now_players, .int t_now_round, .int t_now_time, .ref a_t_now_kind, .ref a_t_now_hand, .ref a_t_now_leader, .ref a_t_now_course])), (a_t_now_kind, .inl (cI, 8, .inl t_now_kind))]) (hR : o_X8_kind N t_now_players t_now_kind l1 = some rf) : Z E (0, 0) [(0, .ref a_t), (1, .int l1)] 0 [] [(a_t, .inr (8, [.ref a_t_rows, .ref a_t_tape, .ref a_t_reader, .ref a_t_now, .ref a_t_trial, .ref a_t_acts, .ref a_t_ways, .ref a_t_asks, .ref a_t_images, .ref a_t_imageKept, .int t_latestFault, .int t_latestFinding])), (a_t_now, .inr (3, [.int t_now_players, .int t_now_round, .int t_now_time, .ref a_t_now_kind, .ref a_t_now_hand, .ref a_t_now_leader, .ref a_t_now_course])), (a_t_now_kind, .inl (cI, 8, .inl t_now_kind))] := by
  rw [o_X8_kind] at hR
  refine z_aload_n hC dX8_kind_0 rfl 0 rfl ?_
  refine z_iload_n hC dX8_kind_1 rfl 1 rfl ?_
  refine z_callVi_p hC hN [.int l1] [0, 1] (c_X8_isPlayer (l := zl E) (D := zD E) (cI := cI) (cB := cB) (cZ := cZ) (N := N) (a_t := a_t) (a_t_rows := a_t_rows) (a_t_tape := a_t_tape) (a_t_reader := a_t_reader) (a_t_now := a_t_now) (a_t_trial := a_t_trial) (a_t_acts := a_t_acts) (a_t_ways := a_t_ways) (a_t_asks := a_t_asks) (a_t_images := a_t_images) (a_t_imageKept := a_t_imageKept) (a_t_now_kind := a_t_now_kind) (a_t_now_hand := a_t_now_hand) (a_t_now_leader := a_t_now_leader) (a_t_now_course := a_t_now_course) (l1 := l1) (t_latestFault := t_latestFault) (t_latestFinding := t_latestFinding) (t_now_players := t_now_players) (t_now_round := t_now_round) (t_now_time := t_now_time)) rfl ⟨rfl, rfl⟩ gX8_kind_X8_isPlayer hvX8_isPlayer 0 8 rfl rfl rfl ⟨Nat.le_of_ble_eq_true rfl, Nat.le_of_ble_eq_true rfl⟩ ⟨Nat.zero_le _, Nat.zero_le _⟩ rfl (Nat.le_of_ble_eq_true rfl) rfl (by decide) dX8_kind_2 hR (fun r2 hR => ?_)
  refine z_if_eq hC 20 dX8_kind_5 (by decide) hR (fun hR => ?_) (fun hR => ?_)
  · refine z_ldc hC (-1000001) mX8_kind_3 dX8_kind_20 ?_
    obtain rfl := Option.some.inj hR
    exact z_iret hC hQ rfl rfl rfl dX8_kind_22
  · refine z_aload_n hC dX8_kind_8 rfl 0 rfl ?_
    refine z_get hC iX8_kind_X8 rfl 0 3 rfl (by decide) mX8_kind_1 rfl rfl dX8_kind_9 ?_
    refine z_get hC iX8_kind_X3 rfl 1 3 rfl (by decide) mX8_kind_2 rfl rfl dX8_kind_12 ?_
    refine z_iload_n hC dX8_kind_15 rfl 1 rfl ?_
    refine z_iald hC 2 0 rfl rfl dX8_kind_16 hR (fun hR => ?_)
    refine z_goto hC 22 dX8_kind_17 (by decide) ?_
    obtain rfl := Option.some.inj hR
    exact z_iret hC hQ rfl rfl rfl dX8_kind_22
set_option maxHeartbeats 4000000 in
set_option maxRecDepth 100000 in
theorem c_X8_kind {sK sV : Nat → Nat} {l : Launch} {D : va_G} {cI cB cZ : ClassId} {N : Nat} {a_t : Nat} {a_t_now : Nat} {a_t_now_kind : Nat} {a_t_rows : Nat} {a_t_tape : Nat} {a_t_reader : Nat} {a_t_trial : Nat} {a_t_acts : Nat} {a_t_ways : Nat} {a_t_asks : Nat} {a_t_images : Nat} {a_t_imageKept : Nat} {a_t_now_hand : Nat} {a_t_now_leader : Nat} {a_t_now_course : Nat} {t_latestFault : Int32} {t_latestFinding : Int32} {t_now_players : Int32} {t_now_round : Int32} {t_now_time : Int32} {t_now_kind : (Nat → Int32)} {l1 : Int32} : ∀ R : Int32, o_X8_kind N t_now_players t_now_kind l1 = some R → ZMi sK sV l yX8_kind wsX8_kind rmX8_kind D (zty cI cB cZ) [.ref a_t, .int l1] [(a_t, .inr (8, [.ref a_t_rows, .ref a_t_tape, .ref a_t_reader, .ref a_t_now, .ref a_t_trial, .ref a_t_acts, .ref a_t_ways, .ref a_t_asks, .ref a_t_images, .ref a_t_imageKept, .int t_latestFault, .int t_latestFinding])), (a_t_now, .inr (3, [.int t_now_players, .int t_now_round, .int t_now_time, .ref a_t_now_kind, .ref a_t_now_hand, .ref a_t_now_leader, .ref a_t_now_course])), (a_t_now_kind, .inl (cI, 8, .inl t_now_kind))] R [(a_t, .inr (8, [.ref a_t_rows, .ref a_t_tape, .ref a_t_reader, .ref a_t_now, .ref a_t_trial, .ref a_t_acts, .ref a_t_ways, .ref a_t_asks, .ref a_t_images, .ref a_t_imageKept, .int t_latestFault, .int t_latestFinding])), (a_t_now, .inr (3, [.int t_now_players, .int t_now_round, .int t_now_time, .ref a_t_now_kind, .ref a_t_now_hand, .ref a_t_now_leader, .ref a_t_now_course])), (a_t_now_kind, .inl (cI, 8, .inl t_now_kind))] := by
  intro R hR
  refine zi_of (cc := cX8_kind) (maxL := 2) (ret := (some .int)) (by decide) rfl (Nat.le_of_ble_eq_true rfl) (fun E hE1 hE2 hC hN hQ => ?_)
  subst hE1 hE2
  exact z_X8_kind_0 hC hN (N := N) (a_t := a_t) (a_t_now := a_t_now) (a_t_now_kind := a_t_now_kind) (a_t_rows := a_t_rows) (a_t_tape := a_t_tape) (a_t_reader := a_t_reader) (a_t_trial := a_t_trial) (a_t_acts := a_t_acts) (a_t_ways := a_t_ways) (a_t_asks := a_t_asks) (a_t_images := a_t_images) (a_t_imageKept := a_t_imageKept) (a_t_now_hand := a_t_now_hand) (a_t_now_leader := a_t_now_leader) (a_t_now_course := a_t_now_course) (t_latestFault := t_latestFault) (t_latestFinding := t_latestFinding) (t_now_players := t_now_players) (t_now_round := t_now_round) (t_now_time := t_now_time) (t_now_kind := t_now_kind) (l1 := l1) hQ hR

/-! FistTrains.isOne -/
abbrev rmX8_isOne : Room := { frames := 1, cells := 0, slots := 0, locals := 20 }
def o_X8_isOne (N : Nat) (l0 : Int32) (l1 : Int32) : Option (Int32) :=
  if l1 = 1 then
    Option.bind (o_X8_isBoyish N l0) (fun r6 =>
    ogd (isb r6) (
    some (r6)))
  else
    if l1 = 4 then
      if l0 = 4 then
        some (1)
      else
        if l0 = 5 then
          some (1)
        else
          some (0)
    else
      if l1 = 0 then
        some (1)
      else
        if l1 = l0 then
          some (1)
        else
          some (0)
set_option maxHeartbeats 4000000 in
set_option maxRecDepth 100000 in
theorem z_X8_isOne_0 {sK sV : Nat → Nat} {E : ZE} {cI cB cZ : ClassId} (hC : ZC E 2 cX8_isOne wsX8_isOne RX8 rmX8_isOne (some .boolean) (zty cI cB cZ)) (hN : ZN sK sV (zA E) (zs E)) {N : Nat} {l0 : Int32} {l1 : Int32} {rf : Int32} (hQ : ZQi E (zty cI cB cZ) rf []) (hR : o_X8_isOne N l0 l1 = some rf) : Z E (0, 0) [(0, .int l0), (1, .int l1)] 0 [] [] := by
  rw [o_X8_isOne] at hR
  refine z_iload_n hC dX8_isOne_0 rfl 1 rfl ?_
  refine z_ic1 hC dX8_isOne_1 ?_
  refine z_icmp_ne hC 10 dX8_isOne_2 (by decide) hR (fun hR => ?_) (fun hR => ?_)
  · refine z_iload_n hC dX8_isOne_10 rfl 1 rfl ?_
    refine z_ic4 hC dX8_isOne_11 ?_
    refine z_icmp_ne hC 31 dX8_isOne_12 (by decide) hR (fun hR => ?_) (fun hR => ?_)
    · refine z_iload_n hC dX8_isOne_31 rfl 1 rfl ?_
      refine z_if_eq hC 40 dX8_isOne_32 (by decide) hR (fun hR => ?_) (fun hR => ?_)
      · refine z_ic1 hC dX8_isOne_40 ?_
        refine z_goto hC 45 dX8_isOne_41 (by decide) ?_
        obtain rfl := Option.some.inj hR
        exact z_iret hC hQ rfl rfl rfl dX8_isOne_45
      · refine z_iload_n hC dX8_isOne_35 rfl 1 rfl ?_
        refine z_iload_n hC dX8_isOne_36 rfl 0 rfl ?_
        refine z_icmp_ne hC 44 dX8_isOne_37 (by decide) hR (fun hR => ?_) (fun hR => ?_)
        · refine z_ic0 hC dX8_isOne_44 ?_
          obtain rfl := Option.some.inj hR
          exact z_iret hC hQ rfl rfl rfl dX8_isOne_45
        · refine z_ic1 hC dX8_isOne_40 ?_
          refine z_goto hC 45 dX8_isOne_41 (by decide) ?_
          obtain rfl := Option.some.inj hR
          exact z_iret hC hQ rfl rfl rfl dX8_isOne_45
    · refine z_iload_n hC dX8_isOne_15 rfl 0 rfl ?_
      refine z_ic4 hC dX8_isOne_16 ?_
      refine z_icmp_eq hC 25 dX8_isOne_17 (by decide) hR (fun hR => ?_) (fun hR => ?_)
      · refine z_ic1 hC dX8_isOne_25 ?_
        refine z_goto hC 30 dX8_isOne_26 (by decide) ?_
        obtain rfl := Option.some.inj hR
        exact z_iret hC hQ rfl rfl rfl dX8_isOne_30
      · refine z_iload_n hC dX8_isOne_20 rfl 0 rfl ?_
        refine z_ic5 hC dX8_isOne_21 ?_
        refine z_icmp_ne hC 29 dX8_isOne_22 (by decide) hR (fun hR => ?_) (fun hR => ?_)
        · refine z_ic0 hC dX8_isOne_29 ?_
          obtain rfl := Option.some.inj hR
          exact z_iret hC hQ rfl rfl rfl dX8_isOne_30
        · refine z_ic1 hC dX8_isOne_25 ?_
          refine z_goto hC 30 dX8_isOne_26 (by decide) ?_
          obtain rfl := Option.some.inj hR
          exact z_iret hC hQ rfl rfl rfl dX8_isOne_30
  · refine z_iload_n hC dX8_isOne_5 rfl 0 rfl ?_
    refine z_callSi_p hC hN [.int l0] [] (c_X8_isBoyish (l := zl E) (D := zD E) (cI := cI) (cB := cB) (cZ := cZ) (N := N) (l0 := l0)) rfl ⟨rfl, rfl⟩ gX8_isOne_X8_isBoyish hsX8_isBoyish ⟨Nat.le_of_ble_eq_true rfl, Nat.le_of_ble_eq_true rfl⟩ ⟨Nat.zero_le _, Nat.zero_le _⟩ rfl (Nat.le_of_ble_eq_true rfl) rfl (by decide) dX8_isOne_6 hR (fun r6 hR => ?_)
    obtain ⟨hb9, hR⟩ := ogd_s hR
    obtain rfl := Option.some.inj hR
    exact z_iret hC hQ (isb_s hb9) rfl rfl dX8_isOne_9
set_option maxHeartbeats 4000000 in
set_option maxRecDepth 100000 in
theorem c_X8_isOne {sK sV : Nat → Nat} {l : Launch} {D : va_G} {cI cB cZ : ClassId} {N : Nat} {l0 : Int32} {l1 : Int32} : ∀ R : Int32, o_X8_isOne N l0 l1 = some R → ZMi sK sV l yX8_isOne wsX8_isOne rmX8_isOne D (zty cI cB cZ) [.int l0, .int l1] [] R [] := by
  intro R hR
  refine zi_of (cc := cX8_isOne) (maxL := 2) (ret := (some .boolean)) (by decide) rfl (Nat.le_of_ble_eq_true rfl) (fun E hE1 hE2 hC hN hQ => ?_)
  subst hE1 hE2
  exact z_X8_isOne_0 hC hN (N := N) (l0 := l0) (l1 := l1) hQ hR

/-! FistTrains.as -/
abbrev rmX8_as : Room := { frames := 2, cells := 0, slots := 0, locals := 41 }
set_option maxRecDepth 20000 in
theorem mX8_as_1 : Cond.constant RX8 82 (-1000001) ∈ wsX8_as := List.mem_of_getElem? (i := 1) rfl
set_option maxRecDepth 20000 in
theorem iX8_as_X8 : ∀ w ∈ wsX80, w ∈ wsX8_as := by decide +kernel
set_option maxRecDepth 20000 in
theorem mX8_as_2 : Cond.fieldLink RX8 35 "FistTrains" "now" "LFistTrains$Hall;" ∈ wsX8_as := List.mem_of_getElem? (i := 2) rfl
set_option maxRecDepth 20000 in
theorem iX8_as_X3 : ∀ w ∈ wsX30, w ∈ wsX8_as := by decide +kernel
set_option maxRecDepth 20000 in
theorem mX8_as_3 : Cond.fieldLink RX8 283 "FistTrains$Hall" "kind" "[I" ∈ wsX8_as := List.mem_of_getElem? (i := 3) rfl
def o_X8_as (N : Nat) (t_latestFinding : Int32) (t_now_players : Int32) (t_now_kind : (Nat → Int32)) (l1 : Int32) (l2 : Int32) : Option (Int32 × Int32) :=
  Option.bind (o_X8_isPlayer N t_now_players l1) (fun r2 =>
  if r2 = 0 then
    some ((-1000001), t_latestFinding)
  else
    if l2 < 0 then
      some ((-1000001), t_latestFinding)
    else
      if l2 ≤ 5 then
        ogd (inb l1 8) (
        Option.bind (o_X8_isOne N (t_now_kind (Int32.toNatClampNeg l1)) l2) (fun r30 =>
        if r30 = 0 then
          Option.bind (o_X8_found N 3) (fun r46 =>
          some (r46.1, r46.2))
        else
          Option.bind (o_X8_fine N l1) (fun r38 =>
          some (r38.1, r38.2))))
      else
        some ((-1000001), t_latestFinding))
set_option maxHeartbeats 4000000 in
set_option maxRecDepth 100000 in
theorem z_X8_as_0 {sK sV : Nat → Nat} {E : ZE} {cI cB cZ : ClassId} (hC : ZC E 3 cX8_as wsX8_as RX8 rmX8_as (some .int) (zty cI cB cZ)) (hN : ZN sK sV (zA E) (zs E)) {N : Nat} {a_t : Nat} {a_t_now : Nat} {a_t_now_kind : Nat} {a_t_rows : Nat} {a_t_tape : Nat} {a_t_reader : Nat} {a_t_trial : Nat} {a_t_acts : Nat} {a_t_ways : Nat} {a_t_asks : Nat} {a_t_images : Nat} {a_t_imageKept : Nat} {a_t_now_hand : Nat} {a_t_now_leader : Nat} {a_t_now_course : Nat} {t_latestFault : Int32} {t_latestFinding : Int32} {t_now_players : Int32} {t_now_round : Int32} {t_now_time : Int32} {t_now_kind : (Nat → Int32)} {l1 : Int32} {l2 : Int32} {rf : Int32 × Int32} (hQ : ZQi E (zty cI cB cZ) rf.1 [(a_t, .inr (8, [.ref a_t_rows, .ref a_t_tape, .ref a_t_reader, .ref a_t_now, .ref a_t_trial, .ref a_t_acts, .ref a_t_ways, .ref a_t_asks, .ref a_t_images, .ref a_t_imageKept, .int t_latestFault, .int rf.2])), (a_t_now, .inr (3, [.int t_now_players, .int t_now_round, .int t_now_time, .ref a_t_now_kind, .ref a_t_now_hand, .ref a_t_now_leader, .ref a_t_now_course])), (a_t_now_kind, .inl (cI, 8, .inl t_now_kind))]) (hR : o_X8_as N t_latestFinding t_now_players t_now_kind l1 l2 = some rf) : Z E (0, 0) [(0, .ref a_t), (1, .int l1), (2, .int l2)] 0 [] [(a_t, .inr (8, [.ref a_t_rows, .ref a_t_tape, .ref a_t_reader, .ref a_t_now, .ref a_t_trial, .ref a_t_acts, .ref a_t_ways, .ref a_t_asks, .ref a_t_images, .ref a_t_imageKept, .int t_latestFault, .int t_latestFinding])), (a_t_now, .inr (3, [.int t_now_players, .int t_now_round, .int t_now_time, .ref a_t_now_kind, .ref a_t_now_hand, .ref a_t_now_leader, .ref a_t_now_course])), (a_t_now_kind, .inl (cI, 8, .inl t_now_kind))] := by
  rw [o_X8_as] at hR
  refine z_aload_n hC dX8_as_0 rfl 0 rfl ?_
  refine z_iload_n hC dX8_as_1 rfl 1 rfl ?_
  refine z_callVi_p hC hN [.int l1] [0, 1] (c_X8_isPlayer (l := zl E) (D := zD E) (cI := cI) (cB := cB) (cZ := cZ) (N := N) (a_t := a_t) (a_t_rows := a_t_rows) (a_t_tape := a_t_tape) (a_t_reader := a_t_reader) (a_t_now := a_t_now) (a_t_trial := a_t_trial) (a_t_acts := a_t_acts) (a_t_ways := a_t_ways) (a_t_asks := a_t_asks) (a_t_images := a_t_images) (a_t_imageKept := a_t_imageKept) (a_t_now_kind := a_t_now_kind) (a_t_now_hand := a_t_now_hand) (a_t_now_leader := a_t_now_leader) (a_t_now_course := a_t_now_course) (l1 := l1) (t_latestFault := t_latestFault) (t_latestFinding := t_latestFinding) (t_now_players := t_now_players) (t_now_round := t_now_round) (t_now_time := t_now_time)) rfl ⟨rfl, rfl⟩ gX8_as_X8_isPlayer hvX8_isPlayer 0 8 rfl rfl rfl ⟨Nat.le_of_ble_eq_true rfl, Nat.le_of_ble_eq_true rfl⟩ ⟨Nat.zero_le _, Nat.zero_le _⟩ rfl (Nat.le_of_ble_eq_true rfl) rfl (by decide) dX8_as_2 hR (fun r2 hR => ?_)
  refine z_if_eq hC 17 dX8_as_5 (by decide) hR (fun hR => ?_) (fun hR => ?_)
  · refine z_ldc hC (-1000001) mX8_as_1 dX8_as_17 ?_
    obtain rfl := Option.some.inj hR
    exact z_iret hC hQ rfl rfl rfl dX8_as_19
  · refine z_iload_n hC dX8_as_8 rfl 2 rfl ?_
    refine z_if_lt hC 17 dX8_as_9 (by decide) hR (fun hR => ?_) (fun hR => ?_)
    · refine z_ldc hC (-1000001) mX8_as_1 dX8_as_17 ?_
      obtain rfl := Option.some.inj hR
      exact z_iret hC hQ rfl rfl rfl dX8_as_19
    · refine z_iload_n hC dX8_as_12 rfl 2 rfl ?_
      refine z_ic5 hC dX8_as_13 ?_
      refine z_icmp_le hC 20 dX8_as_14 (by decide) hR (fun hR => ?_) (fun hR => ?_)
      · refine z_aload_n hC dX8_as_20 rfl 0 rfl ?_
        refine z_get hC iX8_as_X8 rfl 0 3 rfl (by decide) mX8_as_2 rfl rfl dX8_as_21 ?_
        refine z_get hC iX8_as_X3 rfl 1 3 rfl (by decide) mX8_as_3 rfl rfl dX8_as_24 ?_
        refine z_iload_n hC dX8_as_27 rfl 1 rfl ?_
        refine z_iald hC 2 0 rfl rfl dX8_as_28 hR (fun hR => ?_)
        refine z_iload_n hC dX8_as_29 rfl 2 rfl ?_
        refine z_callSi_p hC hN [.int (t_now_kind (Int32.toNatClampNeg l1)), .int l2] [] (c_X8_isOne (l := zl E) (D := zD E) (cI := cI) (cB := cB) (cZ := cZ) (N := N) (l0 := (t_now_kind (Int32.toNatClampNeg l1))) (l1 := l2)) rfl ⟨rfl, rfl⟩ gX8_as_X8_isOne hsX8_isOne ⟨Nat.le_of_ble_eq_true rfl, Nat.le_of_ble_eq_true rfl⟩ ⟨Nat.zero_le _, Nat.zero_le _⟩ rfl (Nat.le_of_ble_eq_true rfl) rfl (by decide) dX8_as_30 hR (fun r30 hR => ?_)
        refine z_if_eq hC 44 dX8_as_33 (by decide) hR (fun hR => ?_) (fun hR => ?_)
        · refine z_aload_n hC dX8_as_44 rfl 0 rfl ?_
          refine z_ic3 hC dX8_as_45 ?_
          refine z_callVi hC hN [.int 3] [0] (c_X8_found (l := zl E) (D := zD E) (cI := cI) (cB := cB) (cZ := cZ) (N := N) (a_t := a_t) (a_t_rows := a_t_rows) (a_t_tape := a_t_tape) (a_t_reader := a_t_reader) (a_t_now := a_t_now) (a_t_trial := a_t_trial) (a_t_acts := a_t_acts) (a_t_ways := a_t_ways) (a_t_asks := a_t_asks) (a_t_images := a_t_images) (a_t_imageKept := a_t_imageKept) (l1 := 3) (t_latestFault := t_latestFault) (t_latestFinding := t_latestFinding)) rfl ⟨rfl, rfl⟩ gX8_as_X8_found hvX8_found 0 8 rfl rfl rfl ⟨Nat.le_of_ble_eq_true rfl, Nat.le_of_ble_eq_true rfl⟩ ⟨Nat.zero_le _, Nat.zero_le _⟩ rfl (Nat.le_of_ble_eq_true rfl) rfl (by decide) (fun _ => rfl) dX8_as_46 hR (fun r46 hR => ?_)
          refine z_eq [(a_t, .inr (8, [.ref a_t_rows, .ref a_t_tape, .ref a_t_reader, .ref a_t_now, .ref a_t_trial, .ref a_t_acts, .ref a_t_ways, .ref a_t_asks, .ref a_t_images, .ref a_t_imageKept, .int t_latestFault, .int r46.2])), (a_t_now, .inr (3, [.int t_now_players, .int t_now_round, .int t_now_time, .ref a_t_now_kind, .ref a_t_now_hand, .ref a_t_now_leader, .ref a_t_now_course])), (a_t_now_kind, .inl (cI, 8, .inl t_now_kind))] rfl ?_
          obtain rfl := Option.some.inj hR
          exact z_iret hC hQ rfl rfl rfl dX8_as_49
        · refine z_aload_n hC dX8_as_36 rfl 0 rfl ?_
          refine z_iload_n hC dX8_as_37 rfl 1 rfl ?_
          refine z_callVi hC hN [.int l1] [0] (c_X8_fine (l := zl E) (D := zD E) (cI := cI) (cB := cB) (cZ := cZ) (N := N) (a_t := a_t) (a_t_rows := a_t_rows) (a_t_tape := a_t_tape) (a_t_reader := a_t_reader) (a_t_now := a_t_now) (a_t_trial := a_t_trial) (a_t_acts := a_t_acts) (a_t_ways := a_t_ways) (a_t_asks := a_t_asks) (a_t_images := a_t_images) (a_t_imageKept := a_t_imageKept) (l1 := l1) (t_latestFault := t_latestFault) (t_latestFinding := t_latestFinding)) rfl ⟨rfl, rfl⟩ gX8_as_X8_fine hvX8_fine 0 8 rfl rfl rfl ⟨Nat.le_of_ble_eq_true rfl, Nat.le_of_ble_eq_true rfl⟩ ⟨Nat.zero_le _, Nat.zero_le _⟩ rfl (Nat.le_of_ble_eq_true rfl) rfl (by decide) (fun _ => rfl) dX8_as_38 hR (fun r38 hR => ?_)
          refine z_eq [(a_t, .inr (8, [.ref a_t_rows, .ref a_t_tape, .ref a_t_reader, .ref a_t_now, .ref a_t_trial, .ref a_t_acts, .ref a_t_ways, .ref a_t_asks, .ref a_t_images, .ref a_t_imageKept, .int t_latestFault, .int r38.2])), (a_t_now, .inr (3, [.int t_now_players, .int t_now_round, .int t_now_time, .ref a_t_now_kind, .ref a_t_now_hand, .ref a_t_now_leader, .ref a_t_now_course])), (a_t_now_kind, .inl (cI, 8, .inl t_now_kind))] rfl ?_
          refine z_goto hC 49 dX8_as_41 (by decide) ?_
          obtain rfl := Option.some.inj hR
          exact z_iret hC hQ rfl rfl rfl dX8_as_49
      · refine z_ldc hC (-1000001) mX8_as_1 dX8_as_17 ?_
        obtain rfl := Option.some.inj hR
        exact z_iret hC hQ rfl rfl rfl dX8_as_19
set_option maxHeartbeats 4000000 in
set_option maxRecDepth 100000 in
theorem c_X8_as {sK sV : Nat → Nat} {l : Launch} {D : va_G} {cI cB cZ : ClassId} {N : Nat} {a_t : Nat} {a_t_now : Nat} {a_t_now_kind : Nat} {a_t_rows : Nat} {a_t_tape : Nat} {a_t_reader : Nat} {a_t_trial : Nat} {a_t_acts : Nat} {a_t_ways : Nat} {a_t_asks : Nat} {a_t_images : Nat} {a_t_imageKept : Nat} {a_t_now_hand : Nat} {a_t_now_leader : Nat} {a_t_now_course : Nat} {t_latestFault : Int32} {t_latestFinding : Int32} {t_now_players : Int32} {t_now_round : Int32} {t_now_time : Int32} {t_now_kind : (Nat → Int32)} {l1 : Int32} {l2 : Int32} : ∀ R : Int32 × Int32, o_X8_as N t_latestFinding t_now_players t_now_kind l1 l2 = some R → ZMi sK sV l yX8_as wsX8_as rmX8_as D (zty cI cB cZ) [.ref a_t, .int l1, .int l2] [(a_t, .inr (8, [.ref a_t_rows, .ref a_t_tape, .ref a_t_reader, .ref a_t_now, .ref a_t_trial, .ref a_t_acts, .ref a_t_ways, .ref a_t_asks, .ref a_t_images, .ref a_t_imageKept, .int t_latestFault, .int t_latestFinding])), (a_t_now, .inr (3, [.int t_now_players, .int t_now_round, .int t_now_time, .ref a_t_now_kind, .ref a_t_now_hand, .ref a_t_now_leader, .ref a_t_now_course])), (a_t_now_kind, .inl (cI, 8, .inl t_now_kind))] R.1 [(a_t, .inr (8, [.ref a_t_rows, .ref a_t_tape, .ref a_t_reader, .ref a_t_now, .ref a_t_trial, .ref a_t_acts, .ref a_t_ways, .ref a_t_asks, .ref a_t_images, .ref a_t_imageKept, .int t_latestFault, .int R.2])), (a_t_now, .inr (3, [.int t_now_players, .int t_now_round, .int t_now_time, .ref a_t_now_kind, .ref a_t_now_hand, .ref a_t_now_leader, .ref a_t_now_course])), (a_t_now_kind, .inl (cI, 8, .inl t_now_kind))] := by
  intro R hR
  refine zi_of (cc := cX8_as) (maxL := 3) (ret := (some .int)) (by decide) rfl (Nat.le_of_ble_eq_true rfl) (fun E hE1 hE2 hC hN hQ => ?_)
  subst hE1 hE2
  exact z_X8_as_0 hC hN (N := N) (a_t := a_t) (a_t_now := a_t_now) (a_t_now_kind := a_t_now_kind) (a_t_rows := a_t_rows) (a_t_tape := a_t_tape) (a_t_reader := a_t_reader) (a_t_trial := a_t_trial) (a_t_acts := a_t_acts) (a_t_ways := a_t_ways) (a_t_asks := a_t_asks) (a_t_images := a_t_images) (a_t_imageKept := a_t_imageKept) (a_t_now_hand := a_t_now_hand) (a_t_now_leader := a_t_now_leader) (a_t_now_course := a_t_now_course) (t_latestFault := t_latestFault) (t_latestFinding := t_latestFinding) (t_now_players := t_now_players) (t_now_round := t_now_round) (t_now_time := t_now_time) (t_now_kind := t_now_kind) (l1 := l1) (l2 := l2) hQ hR

/-! FistTrains.ask -/
abbrev rmX8_ask : Room := { frames := 6, cells := 0, slots := 0, locals := 134 }
set_option maxRecDepth 20000 in
theorem mX8_ask_1 : Cond.constant RX8 82 (-1000001) ∈ wsX8_ask := List.mem_of_getElem? (i := 1) rfl
set_option maxRecDepth 20000 in
theorem iX8_ask_X8 : ∀ w ∈ wsX80, w ∈ wsX8_ask := by decide +kernel
set_option maxRecDepth 20000 in
theorem mX8_ask_2 : Cond.fieldLink RX8 59 "FistTrains" "asks" "LFistTrains$Asks;" ∈ wsX8_ask := List.mem_of_getElem? (i := 2) rfl
set_option maxRecDepth 20000 in
theorem iX8_ask_X1 : ∀ w ∈ wsX10, w ∈ wsX8_ask := by decide +kernel
set_option maxRecDepth 20000 in
theorem mX8_ask_3 : Cond.fieldLink RX8 289 "FistTrains$Asks" "length" "I" ∈ wsX8_ask := List.mem_of_getElem? (i := 3) rfl
set_option maxRecDepth 20000 in
theorem mX8_ask_4 : Cond.fieldLink RX8 35 "FistTrains" "now" "LFistTrains$Hall;" ∈ wsX8_ask := List.mem_of_getElem? (i := 4) rfl
def o_X8_ask (N : Nat) (t_now_players : Int32) (t_now_kind : (Nat → Int32)) (t_now_hand : (Nat → Int32)) (t_now_leader : (Nat → Int32)) (t_asks_length : Int32) (t_asks_numbers : (Nat → Int32)) (l1 : Int32) (l2 : Int32) : Option (Int32 × Int32 × (Nat → Int32)) :=
  Option.bind (o_X8_isPlayer N t_now_players l1) (fun r2 =>
  if r2 = 0 then
    some ((-1000001), t_asks_length, t_asks_numbers)
  else
    if l2 < 0 then
      some ((-1000001), t_asks_length, t_asks_numbers)
    else
      if l2 ≤ 1 then
        if l2 = 0 then
          Option.bind (o_X1_sizeOf N 0 t_asks_numbers t_now_players t_now_kind t_now_hand t_now_leader l1) (fun r41 =>
          some (r41.1, r41.2.1, r41.2.2))
        else
          Option.bind (o_X1_markOf N 0 t_asks_numbers t_now_players t_now_kind t_now_hand t_now_leader l1) (fun r56 =>
          some (r56.1, r56.2.1, r56.2.2))
      else
        some ((-1000001), t_asks_length, t_asks_numbers))
set_option maxHeartbeats 4000000 in
set_option maxRecDepth 100000 in
theorem z_X8_ask_0 {sK sV : Nat → Nat} {E : ZE} {cI cB cZ : ClassId} (hC : ZC E 3 cX8_ask wsX8_ask RX8 rmX8_ask (some .int) (zty cI cB cZ)) (hN : ZN sK sV (zA E) (zs E)) {N : Nat} {a_t : Nat} {a_t_now : Nat} {a_t_now_kind : Nat} {a_t_now_hand : Nat} {a_t_now_leader : Nat} {a_t_asks : Nat} {a_t_asks_numbers : Nat} {a_t_rows : Nat} {a_t_tape : Nat} {a_t_reader : Nat} {a_t_trial : Nat} {a_t_acts : Nat} {a_t_ways : Nat} {a_t_images : Nat} {a_t_imageKept : Nat} {a_t_now_course : Nat} {t_latestFault : Int32} {t_latestFinding : Int32} {t_now_players : Int32} {t_now_round : Int32} {t_now_time : Int32} {t_now_kind : (Nat → Int32)} {t_now_hand : (Nat → Int32)} {t_now_leader : (Nat → Int32)} {t_asks_length : Int32} {t_asks_numbers : (Nat → Int32)} {l1 : Int32} {l2 : Int32} {rf : Int32 × Int32 × (Nat → Int32)} (hQ : ZQi E (zty cI cB cZ) rf.1 [(a_t, .inr (8, [.ref a_t_rows, .ref a_t_tape, .ref a_t_reader, .ref a_t_now, .ref a_t_trial, .ref a_t_acts, .ref a_t_ways, .ref a_t_asks, .ref a_t_images, .ref a_t_imageKept, .int t_latestFault, .int t_latestFinding])), (a_t_now, .inr (3, [.int t_now_players, .int t_now_round, .int t_now_time, .ref a_t_now_kind, .ref a_t_now_hand, .ref a_t_now_leader, .ref a_t_now_course])), (a_t_now_kind, .inl (cI, 8, .inl t_now_kind)), (a_t_now_hand, .inl (cI, 8, .inl t_now_hand)), (a_t_now_leader, .inl (cI, 8, .inl t_now_leader)), (a_t_asks, .inr (1, [.ref a_t_asks_numbers, .int rf.2.1])), (a_t_asks_numbers, .inl (cI, 16, .inl rf.2.2))]) (hR : o_X8_ask N t_now_players t_now_kind t_now_hand t_now_leader t_asks_length t_asks_numbers l1 l2 = some rf) : Z E (0, 0) [(0, .ref a_t), (1, .int l1), (2, .int l2)] 0 [] [(a_t, .inr (8, [.ref a_t_rows, .ref a_t_tape, .ref a_t_reader, .ref a_t_now, .ref a_t_trial, .ref a_t_acts, .ref a_t_ways, .ref a_t_asks, .ref a_t_images, .ref a_t_imageKept, .int t_latestFault, .int t_latestFinding])), (a_t_now, .inr (3, [.int t_now_players, .int t_now_round, .int t_now_time, .ref a_t_now_kind, .ref a_t_now_hand, .ref a_t_now_leader, .ref a_t_now_course])), (a_t_now_kind, .inl (cI, 8, .inl t_now_kind)), (a_t_now_hand, .inl (cI, 8, .inl t_now_hand)), (a_t_now_leader, .inl (cI, 8, .inl t_now_leader)), (a_t_asks, .inr (1, [.ref a_t_asks_numbers, .int t_asks_length])), (a_t_asks_numbers, .inl (cI, 16, .inl t_asks_numbers))] := by
  rw [o_X8_ask] at hR
  refine z_aload_n hC dX8_ask_0 rfl 0 rfl ?_
  refine z_iload_n hC dX8_ask_1 rfl 1 rfl ?_
  refine z_callVi_p hC hN [.int l1] [0, 1] (c_X8_isPlayer (l := zl E) (D := zD E) (cI := cI) (cB := cB) (cZ := cZ) (N := N) (a_t := a_t) (a_t_rows := a_t_rows) (a_t_tape := a_t_tape) (a_t_reader := a_t_reader) (a_t_now := a_t_now) (a_t_trial := a_t_trial) (a_t_acts := a_t_acts) (a_t_ways := a_t_ways) (a_t_asks := a_t_asks) (a_t_images := a_t_images) (a_t_imageKept := a_t_imageKept) (a_t_now_kind := a_t_now_kind) (a_t_now_hand := a_t_now_hand) (a_t_now_leader := a_t_now_leader) (a_t_now_course := a_t_now_course) (l1 := l1) (t_latestFault := t_latestFault) (t_latestFinding := t_latestFinding) (t_now_players := t_now_players) (t_now_round := t_now_round) (t_now_time := t_now_time)) rfl ⟨rfl, rfl⟩ gX8_ask_X8_isPlayer hvX8_isPlayer 0 8 rfl rfl rfl ⟨Nat.le_of_ble_eq_true rfl, Nat.le_of_ble_eq_true rfl⟩ ⟨Nat.zero_le _, Nat.zero_le _⟩ rfl (Nat.le_of_ble_eq_true rfl) rfl (by decide) dX8_ask_2 hR (fun r2 hR => ?_)
  refine z_if_eq hC 17 dX8_ask_5 (by decide) hR (fun hR => ?_) (fun hR => ?_)
  · refine z_ldc hC (-1000001) mX8_ask_1 dX8_ask_17 ?_
    obtain rfl := Option.some.inj hR
    exact z_iret hC hQ rfl rfl rfl dX8_ask_19
  · refine z_iload_n hC dX8_ask_8 rfl 2 rfl ?_
    refine z_if_lt hC 17 dX8_ask_9 (by decide) hR (fun hR => ?_) (fun hR => ?_)
    · refine z_ldc hC (-1000001) mX8_ask_1 dX8_ask_17 ?_
      obtain rfl := Option.some.inj hR
      exact z_iret hC hQ rfl rfl rfl dX8_ask_19
    · refine z_iload_n hC dX8_ask_12 rfl 2 rfl ?_
      refine z_ic1 hC dX8_ask_13 ?_
      refine z_icmp_le hC 20 dX8_ask_14 (by decide) hR (fun hR => ?_) (fun hR => ?_)
      · refine z_aload_n hC dX8_ask_20 rfl 0 rfl ?_
        refine z_get hC iX8_ask_X8 rfl 0 7 rfl (by decide) mX8_ask_2 rfl rfl dX8_ask_21 ?_
        refine z_ic0 hC dX8_ask_24 ?_
        refine z_put hC iX8_ask_X1 tyX1_ok nmX1 rfl 5 1 rfl (by decide) mX8_ask_3 rfl rfl rfl rfl (Nat.le_of_ble_eq_true rfl) dX8_ask_25 ?_
        refine z_iload_n hC dX8_ask_28 rfl 2 rfl ?_
        refine z_if_ne hC 47 dX8_ask_29 (by decide) hR (fun hR => ?_) (fun hR => ?_)
        · refine z_aload_n hC dX8_ask_47 rfl 0 rfl ?_
          refine z_get hC iX8_ask_X8 rfl 0 7 rfl (by decide) mX8_ask_2 rfl rfl dX8_ask_48 ?_
          refine z_aload_n hC dX8_ask_51 rfl 0 rfl ?_
          refine z_get hC iX8_ask_X8 rfl 0 3 rfl (by decide) mX8_ask_4 rfl rfl dX8_ask_52 ?_
          refine z_iload_n hC dX8_ask_55 rfl 1 rfl ?_
          refine z_callVi hC hN [.ref a_t_now, .int l1] [5, 6, 1, 2, 3, 4] (c_X1_markOf (l := zl E) (D := zD E) (cI := cI) (cB := cB) (cZ := cZ) (N := N) (a_t := a_t_asks) (a_t_numbers := a_t_asks_numbers) (a_p1 := a_t_now) (a_p1_kind := a_t_now_kind) (a_p1_hand := a_t_now_hand) (a_p1_leader := a_t_now_leader) (a_p1_course := a_t_now_course) (l2 := l1) (t_length := 0) (t_numbers := t_asks_numbers) (p1_players := t_now_players) (p1_round := t_now_round) (p1_time := t_now_time) (p1_kind := t_now_kind) (p1_hand := t_now_hand) (p1_leader := t_now_leader)) rfl ⟨rfl, rfl⟩ gX8_ask_X1_markOf hvX1_markOf 5 1 rfl rfl rfl ⟨Nat.le_of_ble_eq_true rfl, Nat.le_of_ble_eq_true rfl⟩ ⟨Nat.zero_le _, Nat.zero_le _⟩ rfl (Nat.le_of_ble_eq_true rfl) rfl (by decide) (fun _ => rfl) dX8_ask_56 hR (fun r56 hR => ?_)
          refine z_eq [(a_t, .inr (8, [.ref a_t_rows, .ref a_t_tape, .ref a_t_reader, .ref a_t_now, .ref a_t_trial, .ref a_t_acts, .ref a_t_ways, .ref a_t_asks, .ref a_t_images, .ref a_t_imageKept, .int t_latestFault, .int t_latestFinding])), (a_t_now, .inr (3, [.int t_now_players, .int t_now_round, .int t_now_time, .ref a_t_now_kind, .ref a_t_now_hand, .ref a_t_now_leader, .ref a_t_now_course])), (a_t_now_kind, .inl (cI, 8, .inl t_now_kind)), (a_t_now_hand, .inl (cI, 8, .inl t_now_hand)), (a_t_now_leader, .inl (cI, 8, .inl t_now_leader)), (a_t_asks, .inr (1, [.ref a_t_asks_numbers, .int r56.2.1])), (a_t_asks_numbers, .inl (cI, 16, .inl r56.2.2))] rfl ?_
          obtain rfl := Option.some.inj hR
          exact z_iret hC hQ rfl rfl rfl dX8_ask_59
        · refine z_aload_n hC dX8_ask_32 rfl 0 rfl ?_
          refine z_get hC iX8_ask_X8 rfl 0 7 rfl (by decide) mX8_ask_2 rfl rfl dX8_ask_33 ?_
          refine z_aload_n hC dX8_ask_36 rfl 0 rfl ?_
          refine z_get hC iX8_ask_X8 rfl 0 3 rfl (by decide) mX8_ask_4 rfl rfl dX8_ask_37 ?_
          refine z_iload_n hC dX8_ask_40 rfl 1 rfl ?_
          refine z_callVi hC hN [.ref a_t_now, .int l1] [5, 6, 1, 2, 3, 4] (c_X1_sizeOf (l := zl E) (D := zD E) (cI := cI) (cB := cB) (cZ := cZ) (N := N) (a_t := a_t_asks) (a_t_numbers := a_t_asks_numbers) (a_p1 := a_t_now) (a_p1_kind := a_t_now_kind) (a_p1_hand := a_t_now_hand) (a_p1_leader := a_t_now_leader) (a_p1_course := a_t_now_course) (l2 := l1) (t_length := 0) (t_numbers := t_asks_numbers) (p1_players := t_now_players) (p1_round := t_now_round) (p1_time := t_now_time) (p1_kind := t_now_kind) (p1_hand := t_now_hand) (p1_leader := t_now_leader)) rfl ⟨rfl, rfl⟩ gX8_ask_X1_sizeOf hvX1_sizeOf 5 1 rfl rfl rfl ⟨Nat.le_of_ble_eq_true rfl, Nat.le_of_ble_eq_true rfl⟩ ⟨Nat.zero_le _, Nat.zero_le _⟩ rfl (Nat.le_of_ble_eq_true rfl) rfl (by decide) (fun _ => rfl) dX8_ask_41 hR (fun r41 hR => ?_)
          refine z_eq [(a_t, .inr (8, [.ref a_t_rows, .ref a_t_tape, .ref a_t_reader, .ref a_t_now, .ref a_t_trial, .ref a_t_acts, .ref a_t_ways, .ref a_t_asks, .ref a_t_images, .ref a_t_imageKept, .int t_latestFault, .int t_latestFinding])), (a_t_now, .inr (3, [.int t_now_players, .int t_now_round, .int t_now_time, .ref a_t_now_kind, .ref a_t_now_hand, .ref a_t_now_leader, .ref a_t_now_course])), (a_t_now_kind, .inl (cI, 8, .inl t_now_kind)), (a_t_now_hand, .inl (cI, 8, .inl t_now_hand)), (a_t_now_leader, .inl (cI, 8, .inl t_now_leader)), (a_t_asks, .inr (1, [.ref a_t_asks_numbers, .int r41.2.1])), (a_t_asks_numbers, .inl (cI, 16, .inl r41.2.2))] rfl ?_
          refine z_goto hC 59 dX8_ask_44 (by decide) ?_
          obtain rfl := Option.some.inj hR
          exact z_iret hC hQ rfl rfl rfl dX8_ask_59
      · refine z_ldc hC (-1000001) mX8_ask_1 dX8_ask_17 ?_
        obtain rfl := Option.some.inj hR
        exact z_iret hC hQ rfl rfl rfl dX8_ask_19
set_option maxHeartbeats 4000000 in
set_option maxRecDepth 100000 in
theorem c_X8_ask {sK sV : Nat → Nat} {l : Launch} {D : va_G} {cI cB cZ : ClassId} {N : Nat} {a_t : Nat} {a_t_now : Nat} {a_t_now_kind : Nat} {a_t_now_hand : Nat} {a_t_now_leader : Nat} {a_t_asks : Nat} {a_t_asks_numbers : Nat} {a_t_rows : Nat} {a_t_tape : Nat} {a_t_reader : Nat} {a_t_trial : Nat} {a_t_acts : Nat} {a_t_ways : Nat} {a_t_images : Nat} {a_t_imageKept : Nat} {a_t_now_course : Nat} {t_latestFault : Int32} {t_latestFinding : Int32} {t_now_players : Int32} {t_now_round : Int32} {t_now_time : Int32} {t_now_kind : (Nat → Int32)} {t_now_hand : (Nat → Int32)} {t_now_leader : (Nat → Int32)} {t_asks_length : Int32} {t_asks_numbers : (Nat → Int32)} {l1 : Int32} {l2 : Int32} : ∀ R : Int32 × Int32 × (Nat → Int32), o_X8_ask N t_now_players t_now_kind t_now_hand t_now_leader t_asks_length t_asks_numbers l1 l2 = some R → ZMi sK sV l yX8_ask wsX8_ask rmX8_ask D (zty cI cB cZ) [.ref a_t, .int l1, .int l2] [(a_t, .inr (8, [.ref a_t_rows, .ref a_t_tape, .ref a_t_reader, .ref a_t_now, .ref a_t_trial, .ref a_t_acts, .ref a_t_ways, .ref a_t_asks, .ref a_t_images, .ref a_t_imageKept, .int t_latestFault, .int t_latestFinding])), (a_t_now, .inr (3, [.int t_now_players, .int t_now_round, .int t_now_time, .ref a_t_now_kind, .ref a_t_now_hand, .ref a_t_now_leader, .ref a_t_now_course])), (a_t_now_kind, .inl (cI, 8, .inl t_now_kind)), (a_t_now_hand, .inl (cI, 8, .inl t_now_hand)), (a_t_now_leader, .inl (cI, 8, .inl t_now_leader)), (a_t_asks, .inr (1, [.ref a_t_asks_numbers, .int t_asks_length])), (a_t_asks_numbers, .inl (cI, 16, .inl t_asks_numbers))] R.1 [(a_t, .inr (8, [.ref a_t_rows, .ref a_t_tape, .ref a_t_reader, .ref a_t_now, .ref a_t_trial, .ref a_t_acts, .ref a_t_ways, .ref a_t_asks, .ref a_t_images, .ref a_t_imageKept, .int t_latestFault, .int t_latestFinding])), (a_t_now, .inr (3, [.int t_now_players, .int t_now_round, .int t_now_time, .ref a_t_now_kind, .ref a_t_now_hand, .ref a_t_now_leader, .ref a_t_now_course])), (a_t_now_kind, .inl (cI, 8, .inl t_now_kind)), (a_t_now_hand, .inl (cI, 8, .inl t_now_hand)), (a_t_now_leader, .inl (cI, 8, .inl t_now_leader)), (a_t_asks, .inr (1, [.ref a_t_asks_numbers, .int R.2.1])), (a_t_asks_numbers, .inl (cI, 16, .inl R.2.2))] := by
  intro R hR
  refine zi_of (cc := cX8_ask) (maxL := 3) (ret := (some .int)) (by decide) rfl (Nat.le_of_ble_eq_true rfl) (fun E hE1 hE2 hC hN hQ => ?_)
  subst hE1 hE2
  exact z_X8_ask_0 hC hN (N := N) (a_t := a_t) (a_t_now := a_t_now) (a_t_now_kind := a_t_now_kind) (a_t_now_hand := a_t_now_hand) (a_t_now_leader := a_t_now_leader) (a_t_asks := a_t_asks) (a_t_asks_numbers := a_t_asks_numbers) (a_t_rows := a_t_rows) (a_t_tape := a_t_tape) (a_t_reader := a_t_reader) (a_t_trial := a_t_trial) (a_t_acts := a_t_acts) (a_t_ways := a_t_ways) (a_t_images := a_t_images) (a_t_imageKept := a_t_imageKept) (a_t_now_course := a_t_now_course) (t_latestFault := t_latestFault) (t_latestFinding := t_latestFinding) (t_now_players := t_now_players) (t_now_round := t_now_round) (t_now_time := t_now_time) (t_now_kind := t_now_kind) (t_now_hand := t_now_hand) (t_now_leader := t_now_leader) (t_asks_length := t_asks_length) (t_asks_numbers := t_asks_numbers) (l1 := l1) (l2 := l2) hQ hR

/-! FistTrains.trace -/
abbrev rmX8_trace : Room := { frames := 0, cells := 0, slots := 0, locals := 0 }
set_option maxRecDepth 20000 in
theorem mX8_trace_4 : Cond.constant RX8 244 (-1000000) ∈ wsX8_trace := List.mem_of_getElem? (i := 4) rfl
set_option maxRecDepth 20000 in
theorem iX8_trace_X8 : ∀ w ∈ wsX80, w ∈ wsX8_trace := by decide +kernel
set_option maxRecDepth 20000 in
theorem mX8_trace_1 : Cond.fieldLink RX8 59 "FistTrains" "asks" "LFistTrains$Asks;" ∈ wsX8_trace := List.mem_of_getElem? (i := 1) rfl
set_option maxRecDepth 20000 in
theorem iX8_trace_X1 : ∀ w ∈ wsX10, w ∈ wsX8_trace := by decide +kernel
set_option maxRecDepth 20000 in
theorem mX8_trace_2 : Cond.fieldLink RX8 289 "FistTrains$Asks" "length" "I" ∈ wsX8_trace := List.mem_of_getElem? (i := 2) rfl
set_option maxRecDepth 20000 in
theorem mX8_trace_3 : Cond.fieldLink RX8 296 "FistTrains$Asks" "numbers" "[I" ∈ wsX8_trace := List.mem_of_getElem? (i := 3) rfl
def o_X8_trace (N : Nat) (t_asks_length : Int32) (t_asks_numbers : (Nat → Int32)) (l1 : Int32) : Option (Int32) :=
  if l1 < 0 then
    some ((-1000000))
  else
    if t_asks_length ≤ l1 then
      some ((-1000000))
    else
      ogd (inb l1 16) (
      some ((t_asks_numbers (Int32.toNatClampNeg l1))))
set_option maxHeartbeats 4000000 in
set_option maxRecDepth 100000 in
theorem z_X8_trace_0 {sK sV : Nat → Nat} {E : ZE} {cI cB cZ : ClassId} (hC : ZC E 2 cX8_trace wsX8_trace RX8 rmX8_trace (some .int) (zty cI cB cZ)) (hN : ZN sK sV (zA E) (zs E)) {N : Nat} {a_t : Nat} {a_t_asks : Nat} {a_t_asks_numbers : Nat} {a_t_rows : Nat} {a_t_tape : Nat} {a_t_reader : Nat} {a_t_now : Nat} {a_t_trial : Nat} {a_t_acts : Nat} {a_t_ways : Nat} {a_t_images : Nat} {a_t_imageKept : Nat} {t_latestFault : Int32} {t_latestFinding : Int32} {t_asks_length : Int32} {t_asks_numbers : (Nat → Int32)} {l1 : Int32} {rf : Int32} (hQ : ZQi E (zty cI cB cZ) rf [(a_t, .inr (8, [.ref a_t_rows, .ref a_t_tape, .ref a_t_reader, .ref a_t_now, .ref a_t_trial, .ref a_t_acts, .ref a_t_ways, .ref a_t_asks, .ref a_t_images, .ref a_t_imageKept, .int t_latestFault, .int t_latestFinding])), (a_t_asks, .inr (1, [.ref a_t_asks_numbers, .int t_asks_length])), (a_t_asks_numbers, .inl (cI, 16, .inl t_asks_numbers))]) (hR : o_X8_trace N t_asks_length t_asks_numbers l1 = some rf) : Z E (0, 0) [(0, .ref a_t), (1, .int l1)] 0 [] [(a_t, .inr (8, [.ref a_t_rows, .ref a_t_tape, .ref a_t_reader, .ref a_t_now, .ref a_t_trial, .ref a_t_acts, .ref a_t_ways, .ref a_t_asks, .ref a_t_images, .ref a_t_imageKept, .int t_latestFault, .int t_latestFinding])), (a_t_asks, .inr (1, [.ref a_t_asks_numbers, .int t_asks_length])), (a_t_asks_numbers, .inl (cI, 16, .inl t_asks_numbers))] := by
  rw [o_X8_trace] at hR
  refine z_iload_n hC dX8_trace_0 rfl 1 rfl ?_
  refine z_if_lt hC 27 dX8_trace_1 (by decide) hR (fun hR => ?_) (fun hR => ?_)
  · refine z_ldc hC (-1000000) mX8_trace_4 dX8_trace_27 ?_
    obtain rfl := Option.some.inj hR
    exact z_iret hC hQ rfl rfl rfl dX8_trace_29
  · refine z_iload_n hC dX8_trace_4 rfl 1 rfl ?_
    refine z_aload_n hC dX8_trace_5 rfl 0 rfl ?_
    refine z_get hC iX8_trace_X8 rfl 0 7 rfl (by decide) mX8_trace_1 rfl rfl dX8_trace_6 ?_
    refine z_get hC iX8_trace_X1 rfl 1 1 rfl (by decide) mX8_trace_2 rfl rfl dX8_trace_9 ?_
    refine z_icmp_ge hC 27 dX8_trace_12 (by decide) hR (fun hR => ?_) (fun hR => ?_)
    · refine z_ldc hC (-1000000) mX8_trace_4 dX8_trace_27 ?_
      obtain rfl := Option.some.inj hR
      exact z_iret hC hQ rfl rfl rfl dX8_trace_29
    · refine z_aload_n hC dX8_trace_15 rfl 0 rfl ?_
      refine z_get hC iX8_trace_X8 rfl 0 7 rfl (by decide) mX8_trace_1 rfl rfl dX8_trace_16 ?_
      refine z_get hC iX8_trace_X1 rfl 1 0 rfl (by decide) mX8_trace_3 rfl rfl dX8_trace_19 ?_
      refine z_iload_n hC dX8_trace_22 rfl 1 rfl ?_
      refine z_iald hC 2 0 rfl rfl dX8_trace_23 hR (fun hR => ?_)
      refine z_goto hC 29 dX8_trace_24 (by decide) ?_
      obtain rfl := Option.some.inj hR
      exact z_iret hC hQ rfl rfl rfl dX8_trace_29
set_option maxHeartbeats 4000000 in
set_option maxRecDepth 100000 in
theorem c_X8_trace {sK sV : Nat → Nat} {l : Launch} {D : va_G} {cI cB cZ : ClassId} {N : Nat} {a_t : Nat} {a_t_asks : Nat} {a_t_asks_numbers : Nat} {a_t_rows : Nat} {a_t_tape : Nat} {a_t_reader : Nat} {a_t_now : Nat} {a_t_trial : Nat} {a_t_acts : Nat} {a_t_ways : Nat} {a_t_images : Nat} {a_t_imageKept : Nat} {t_latestFault : Int32} {t_latestFinding : Int32} {t_asks_length : Int32} {t_asks_numbers : (Nat → Int32)} {l1 : Int32} : ∀ R : Int32, o_X8_trace N t_asks_length t_asks_numbers l1 = some R → ZMi sK sV l yX8_trace wsX8_trace rmX8_trace D (zty cI cB cZ) [.ref a_t, .int l1] [(a_t, .inr (8, [.ref a_t_rows, .ref a_t_tape, .ref a_t_reader, .ref a_t_now, .ref a_t_trial, .ref a_t_acts, .ref a_t_ways, .ref a_t_asks, .ref a_t_images, .ref a_t_imageKept, .int t_latestFault, .int t_latestFinding])), (a_t_asks, .inr (1, [.ref a_t_asks_numbers, .int t_asks_length])), (a_t_asks_numbers, .inl (cI, 16, .inl t_asks_numbers))] R [(a_t, .inr (8, [.ref a_t_rows, .ref a_t_tape, .ref a_t_reader, .ref a_t_now, .ref a_t_trial, .ref a_t_acts, .ref a_t_ways, .ref a_t_asks, .ref a_t_images, .ref a_t_imageKept, .int t_latestFault, .int t_latestFinding])), (a_t_asks, .inr (1, [.ref a_t_asks_numbers, .int t_asks_length])), (a_t_asks_numbers, .inl (cI, 16, .inl t_asks_numbers))] := by
  intro R hR
  refine zi_of (cc := cX8_trace) (maxL := 2) (ret := (some .int)) (by decide) rfl (Nat.le_of_ble_eq_true rfl) (fun E hE1 hE2 hC hN hQ => ?_)
  subst hE1 hE2
  exact z_X8_trace_0 hC hN (N := N) (a_t := a_t) (a_t_asks := a_t_asks) (a_t_asks_numbers := a_t_asks_numbers) (a_t_rows := a_t_rows) (a_t_tape := a_t_tape) (a_t_reader := a_t_reader) (a_t_now := a_t_now) (a_t_trial := a_t_trial) (a_t_acts := a_t_acts) (a_t_ways := a_t_ways) (a_t_images := a_t_images) (a_t_imageKept := a_t_imageKept) (t_latestFault := t_latestFault) (t_latestFinding := t_latestFinding) (t_asks_length := t_asks_length) (t_asks_numbers := t_asks_numbers) (l1 := l1) hQ hR

/-! FistTrains.count -/
abbrev rmX8_count : Room := { frames := 2, cells := 0, slots := 0, locals := 43 }
set_option maxRecDepth 20000 in
theorem iX8_count_X8 : ∀ w ∈ wsX80, w ∈ wsX8_count := by decide +kernel
set_option maxRecDepth 20000 in
theorem mX8_count_1 : Cond.fieldLink RX8 10 "FistTrains" "rows" "LFistTrains$Rows;" ∈ wsX8_count := List.mem_of_getElem? (i := 1) rfl
set_option maxRecDepth 20000 in
theorem mX8_count_2 : Cond.fieldLink RX8 35 "FistTrains" "now" "LFistTrains$Hall;" ∈ wsX8_count := List.mem_of_getElem? (i := 2) rfl
set_option maxRecDepth 20000 in
theorem iX8_count_X3 : ∀ w ∈ wsX30, w ∈ wsX8_count := by decide +kernel
set_option maxRecDepth 20000 in
theorem mX8_count_3 : Cond.fieldLink RX8 154 "FistTrains$Hall" "players" "I" ∈ wsX8_count := List.mem_of_getElem? (i := 3) rfl
set_option maxRecDepth 20000 in
theorem mX8_count_4 : Cond.fieldLink RX8 226 "FistTrains$Hall" "round" "I" ∈ wsX8_count := List.mem_of_getElem? (i := 4) rfl
set_option maxRecDepth 20000 in
theorem mX8_count_5 : Cond.fieldLink RX8 171 "FistTrains$Hall" "time" "I" ∈ wsX8_count := List.mem_of_getElem? (i := 5) rfl
set_option maxRecDepth 20000 in
theorem mX8_count_6 : Cond.fieldLink RX8 45 "FistTrains" "acts" "LFistTrains$Acts;" ∈ wsX8_count := List.mem_of_getElem? (i := 6) rfl
set_option maxRecDepth 20000 in
theorem iX8_count_X0 : ∀ w ∈ wsX00, w ∈ wsX8_count := by decide +kernel
set_option maxRecDepth 20000 in
theorem mX8_count_7 : Cond.fieldLink RX8 208 "FistTrains$Acts" "kept" "I" ∈ wsX8_count := List.mem_of_getElem? (i := 7) rfl
set_option maxRecDepth 20000 in
theorem mX8_count_8 : Cond.fieldLink RX8 19 "FistTrains" "tape" "LFistTrains$Tape;" ∈ wsX8_count := List.mem_of_getElem? (i := 8) rfl
set_option maxRecDepth 20000 in
theorem iX8_count_X6 : ∀ w ∈ wsX60, w ∈ wsX8_count := by decide +kernel
set_option maxRecDepth 20000 in
theorem mX8_count_9 : Cond.fieldLink RX8 136 "FistTrains$Tape" "length" "I" ∈ wsX8_count := List.mem_of_getElem? (i := 9) rfl
set_option maxRecDepth 20000 in
theorem mX8_count_10 : Cond.constant RX8 82 (-1000001) ∈ wsX8_count := List.mem_of_getElem? (i := 10) rfl
def o_X8_count (N : Nat) (t_rows_lane : (Nat → Int32)) (t_tape_length : Int32) (t_now_players : Int32) (t_now_round : Int32) (t_now_time : Int32) (t_now_leader : (Nat → Int32)) (t_acts_kept : Int32) (l1 : Int32) : Option (Int32) :=
  if l1 = 0 then
    Option.bind (o_X5_present N t_rows_lane) (fun r48 =>
    some (r48))
  else
    if l1 = 1 then
      some (t_now_players)
    else
      if l1 = 2 then
        Option.bind (o_X3_leaders N t_now_players t_now_leader) (fun r64 =>
        some (r64))
      else
        if l1 = 3 then
          some (t_now_round)
        else
          if l1 = 4 then
            some (t_now_time)
          else
            if l1 = 5 then
              some (t_acts_kept)
            else
              if l1 = 6 then
                some (t_tape_length)
              else
                some ((-1000001))
set_option maxHeartbeats 4000000 in
set_option maxRecDepth 100000 in
theorem z_X8_count_0 {sK sV : Nat → Nat} {E : ZE} {cI cB cZ : ClassId} (hC : ZC E 2 cX8_count wsX8_count RX8 rmX8_count (some .int) (zty cI cB cZ)) (hN : ZN sK sV (zA E) (zs E)) {N : Nat} {a_t : Nat} {a_t_rows : Nat} {a_t_rows_lane : Nat} {a_t_tape : Nat} {a_t_now : Nat} {a_t_now_leader : Nat} {a_t_acts : Nat} {a_t_reader : Nat} {a_t_trial : Nat} {a_t_ways : Nat} {a_t_asks : Nat} {a_t_images : Nat} {a_t_imageKept : Nat} {a_t_rows_size : Nat} {a_t_rows_items : Nat} {a_t_tape_bytes : Nat} {a_t_now_kind : Nat} {a_t_now_hand : Nat} {a_t_now_course : Nat} {a_t_acts_halls : Nat} {t_latestFault : Int32} {t_latestFinding : Int32} {t_rows_lane : (Nat → Int32)} {t_tape_length : Int32} {t_now_players : Int32} {t_now_round : Int32} {t_now_time : Int32} {t_now_leader : (Nat → Int32)} {t_acts_kept : Int32} {t_acts_next : Int32} {l1 : Int32} {rf : Int32} (hQ : ZQi E (zty cI cB cZ) rf [(a_t, .inr (8, [.ref a_t_rows, .ref a_t_tape, .ref a_t_reader, .ref a_t_now, .ref a_t_trial, .ref a_t_acts, .ref a_t_ways, .ref a_t_asks, .ref a_t_images, .ref a_t_imageKept, .int t_latestFault, .int t_latestFinding])), (a_t_rows, .inr (5, [.ref a_t_rows_lane, .ref a_t_rows_size, .ref a_t_rows_items])), (a_t_rows_lane, .inl (cI, 8, .inl t_rows_lane)), (a_t_tape, .inr (6, [.ref a_t_tape_bytes, .int t_tape_length])), (a_t_now, .inr (3, [.int t_now_players, .int t_now_round, .int t_now_time, .ref a_t_now_kind, .ref a_t_now_hand, .ref a_t_now_leader, .ref a_t_now_course])), (a_t_now_leader, .inl (cI, 8, .inl t_now_leader)), (a_t_acts, .inr (0, [.ref a_t_acts_halls, .int t_acts_kept, .int t_acts_next]))]) (hR : o_X8_count N t_rows_lane t_tape_length t_now_players t_now_round t_now_time t_now_leader t_acts_kept l1 = some rf) : Z E (0, 0) [(0, .ref a_t), (1, .int l1)] 0 [] [(a_t, .inr (8, [.ref a_t_rows, .ref a_t_tape, .ref a_t_reader, .ref a_t_now, .ref a_t_trial, .ref a_t_acts, .ref a_t_ways, .ref a_t_asks, .ref a_t_images, .ref a_t_imageKept, .int t_latestFault, .int t_latestFinding])), (a_t_rows, .inr (5, [.ref a_t_rows_lane, .ref a_t_rows_size, .ref a_t_rows_items])), (a_t_rows_lane, .inl (cI, 8, .inl t_rows_lane)), (a_t_tape, .inr (6, [.ref a_t_tape_bytes, .int t_tape_length])), (a_t_now, .inr (3, [.int t_now_players, .int t_now_round, .int t_now_time, .ref a_t_now_kind, .ref a_t_now_hand, .ref a_t_now_leader, .ref a_t_now_course])), (a_t_now_leader, .inl (cI, 8, .inl t_now_leader)), (a_t_acts, .inr (0, [.ref a_t_acts_halls, .int t_acts_kept, .int t_acts_next]))] := by
  rw [o_X8_count] at hR
  refine z_iload_n hC dX8_count_0 rfl 1 rfl ?_
  refine z_by hR (fun c0 hR => ?_) (fun c0 hR => ?_)
  · refine z_tin hC 0 44 c0 dX8_count_1 (by decide) (by decide) rfl (by decide) ?_
    refine z_aload_n hC dX8_count_44 rfl 0 rfl ?_
    refine z_get hC iX8_count_X8 rfl 0 0 rfl (by decide) mX8_count_1 rfl rfl dX8_count_45 ?_
    refine z_callVi_p hC hN [] [1, 2] (c_X5_present (l := zl E) (D := zD E) (cI := cI) (cB := cB) (cZ := cZ) (N := N) (a_t := a_t_rows) (a_t_lane := a_t_rows_lane) (a_t_size := a_t_rows_size) (a_t_items := a_t_rows_items) (t_lane := t_rows_lane)) rfl ⟨rfl, rfl⟩ gX8_count_X5_present hvX5_present 1 5 rfl rfl rfl ⟨Nat.le_of_ble_eq_true rfl, Nat.le_of_ble_eq_true rfl⟩ ⟨Nat.zero_le _, Nat.zero_le _⟩ rfl (Nat.le_of_ble_eq_true rfl) rfl (by decide) dX8_count_48 hR (fun r48 hR => ?_)
    obtain rfl := Option.some.inj hR
    exact z_iret hC hQ rfl rfl rfl dX8_count_51
  · refine z_by hR (fun c1 hR => ?_) (fun c1 hR => ?_)
    · refine z_tin hC 1 52 c1 dX8_count_1 (by decide) (by decide) rfl (by decide) ?_
      refine z_aload_n hC dX8_count_52 rfl 0 rfl ?_
      refine z_get hC iX8_count_X8 rfl 0 3 rfl (by decide) mX8_count_2 rfl rfl dX8_count_53 ?_
      refine z_get hC iX8_count_X3 rfl 4 0 rfl (by decide) mX8_count_3 rfl rfl dX8_count_56 ?_
      obtain rfl := Option.some.inj hR
      exact z_iret hC hQ rfl rfl rfl dX8_count_59
    · refine z_by hR (fun c2 hR => ?_) (fun c2 hR => ?_)
      · refine z_tin hC 2 60 c2 dX8_count_1 (by decide) (by decide) rfl (by decide) ?_
        refine z_aload_n hC dX8_count_60 rfl 0 rfl ?_
        refine z_get hC iX8_count_X8 rfl 0 3 rfl (by decide) mX8_count_2 rfl rfl dX8_count_61 ?_
        refine z_callVi_p hC hN [] [4, 5] (c_X3_leaders (l := zl E) (D := zD E) (cI := cI) (cB := cB) (cZ := cZ) (N := N) (a_t := a_t_now) (a_t_kind := a_t_now_kind) (a_t_hand := a_t_now_hand) (a_t_leader := a_t_now_leader) (a_t_course := a_t_now_course) (t_players := t_now_players) (t_round := t_now_round) (t_time := t_now_time) (t_leader := t_now_leader)) rfl ⟨rfl, rfl⟩ gX8_count_X3_leaders hvX3_leaders 4 3 rfl rfl rfl ⟨Nat.le_of_ble_eq_true rfl, Nat.le_of_ble_eq_true rfl⟩ ⟨Nat.zero_le _, Nat.zero_le _⟩ rfl (Nat.le_of_ble_eq_true rfl) rfl (by decide) dX8_count_64 hR (fun r64 hR => ?_)
        obtain rfl := Option.some.inj hR
        exact z_iret hC hQ rfl rfl rfl dX8_count_67
      · refine z_by hR (fun c3 hR => ?_) (fun c3 hR => ?_)
        · refine z_tin hC 3 68 c3 dX8_count_1 (by decide) (by decide) rfl (by decide) ?_
          refine z_aload_n hC dX8_count_68 rfl 0 rfl ?_
          refine z_get hC iX8_count_X8 rfl 0 3 rfl (by decide) mX8_count_2 rfl rfl dX8_count_69 ?_
          refine z_get hC iX8_count_X3 rfl 4 1 rfl (by decide) mX8_count_4 rfl rfl dX8_count_72 ?_
          obtain rfl := Option.some.inj hR
          exact z_iret hC hQ rfl rfl rfl dX8_count_75
        · refine z_by hR (fun c4 hR => ?_) (fun c4 hR => ?_)
          · refine z_tin hC 4 76 c4 dX8_count_1 (by decide) (by decide) rfl (by decide) ?_
            refine z_aload_n hC dX8_count_76 rfl 0 rfl ?_
            refine z_get hC iX8_count_X8 rfl 0 3 rfl (by decide) mX8_count_2 rfl rfl dX8_count_77 ?_
            refine z_get hC iX8_count_X3 rfl 4 2 rfl (by decide) mX8_count_5 rfl rfl dX8_count_80 ?_
            obtain rfl := Option.some.inj hR
            exact z_iret hC hQ rfl rfl rfl dX8_count_83
          · refine z_by hR (fun c5 hR => ?_) (fun c5 hR => ?_)
            · refine z_tin hC 5 84 c5 dX8_count_1 (by decide) (by decide) rfl (by decide) ?_
              refine z_aload_n hC dX8_count_84 rfl 0 rfl ?_
              refine z_get hC iX8_count_X8 rfl 0 5 rfl (by decide) mX8_count_6 rfl rfl dX8_count_85 ?_
              refine z_get hC iX8_count_X0 rfl 6 1 rfl (by decide) mX8_count_7 rfl rfl dX8_count_88 ?_
              obtain rfl := Option.some.inj hR
              exact z_iret hC hQ rfl rfl rfl dX8_count_91
            · refine z_by hR (fun c6 hR => ?_) (fun c6 hR => ?_)
              · refine z_tin hC 6 92 c6 dX8_count_1 (by decide) (by decide) rfl (by decide) ?_
                refine z_aload_n hC dX8_count_92 rfl 0 rfl ?_
                refine z_get hC iX8_count_X8 rfl 0 1 rfl (by decide) mX8_count_8 rfl rfl dX8_count_93 ?_
                refine z_get hC iX8_count_X6 rfl 3 1 rfl (by decide) mX8_count_9 rfl rfl dX8_count_96 ?_
                obtain rfl := Option.some.inj hR
                exact z_iret hC hQ rfl rfl rfl dX8_count_99
              · refine z_tout hC 100 dX8_count_1 (by have h0 := lv_neT c0 (a := 0) rfl; have h1 := lv_neT c1 (a := 1) rfl; have h2 := lv_neT c2 (a := 2) rfl; have h3 := lv_neT c3 (a := 3) rfl; have h4 := lv_neT c4 (a := 4) rfl; have h5 := lv_neT c5 (a := 5) rfl; have h6 := lv_neT c6 (a := 6) rfl; omega) (by decide) ?_
                refine z_ldc hC (-1000001) mX8_count_10 dX8_count_100 ?_
                obtain rfl := Option.some.inj hR
                exact z_iret hC hQ rfl rfl rfl dX8_count_102
set_option maxHeartbeats 4000000 in
set_option maxRecDepth 100000 in
theorem c_X8_count {sK sV : Nat → Nat} {l : Launch} {D : va_G} {cI cB cZ : ClassId} {N : Nat} {a_t : Nat} {a_t_rows : Nat} {a_t_rows_lane : Nat} {a_t_tape : Nat} {a_t_now : Nat} {a_t_now_leader : Nat} {a_t_acts : Nat} {a_t_reader : Nat} {a_t_trial : Nat} {a_t_ways : Nat} {a_t_asks : Nat} {a_t_images : Nat} {a_t_imageKept : Nat} {a_t_rows_size : Nat} {a_t_rows_items : Nat} {a_t_tape_bytes : Nat} {a_t_now_kind : Nat} {a_t_now_hand : Nat} {a_t_now_course : Nat} {a_t_acts_halls : Nat} {t_latestFault : Int32} {t_latestFinding : Int32} {t_rows_lane : (Nat → Int32)} {t_tape_length : Int32} {t_now_players : Int32} {t_now_round : Int32} {t_now_time : Int32} {t_now_leader : (Nat → Int32)} {t_acts_kept : Int32} {t_acts_next : Int32} {l1 : Int32} : ∀ R : Int32, o_X8_count N t_rows_lane t_tape_length t_now_players t_now_round t_now_time t_now_leader t_acts_kept l1 = some R → ZMi sK sV l yX8_count wsX8_count rmX8_count D (zty cI cB cZ) [.ref a_t, .int l1] [(a_t, .inr (8, [.ref a_t_rows, .ref a_t_tape, .ref a_t_reader, .ref a_t_now, .ref a_t_trial, .ref a_t_acts, .ref a_t_ways, .ref a_t_asks, .ref a_t_images, .ref a_t_imageKept, .int t_latestFault, .int t_latestFinding])), (a_t_rows, .inr (5, [.ref a_t_rows_lane, .ref a_t_rows_size, .ref a_t_rows_items])), (a_t_rows_lane, .inl (cI, 8, .inl t_rows_lane)), (a_t_tape, .inr (6, [.ref a_t_tape_bytes, .int t_tape_length])), (a_t_now, .inr (3, [.int t_now_players, .int t_now_round, .int t_now_time, .ref a_t_now_kind, .ref a_t_now_hand, .ref a_t_now_leader, .ref a_t_now_course])), (a_t_now_leader, .inl (cI, 8, .inl t_now_leader)), (a_t_acts, .inr (0, [.ref a_t_acts_halls, .int t_acts_kept, .int t_acts_next]))] R [(a_t, .inr (8, [.ref a_t_rows, .ref a_t_tape, .ref a_t_reader, .ref a_t_now, .ref a_t_trial, .ref a_t_acts, .ref a_t_ways, .ref a_t_asks, .ref a_t_images, .ref a_t_imageKept, .int t_latestFault, .int t_latestFinding])), (a_t_rows, .inr (5, [.ref a_t_rows_lane, .ref a_t_rows_size, .ref a_t_rows_items])), (a_t_rows_lane, .inl (cI, 8, .inl t_rows_lane)), (a_t_tape, .inr (6, [.ref a_t_tape_bytes, .int t_tape_length])), (a_t_now, .inr (3, [.int t_now_players, .int t_now_round, .int t_now_time, .ref a_t_now_kind, .ref a_t_now_hand, .ref a_t_now_leader, .ref a_t_now_course])), (a_t_now_leader, .inl (cI, 8, .inl t_now_leader)), (a_t_acts, .inr (0, [.ref a_t_acts_halls, .int t_acts_kept, .int t_acts_next]))] := by
  intro R hR
  refine zi_of (cc := cX8_count) (maxL := 2) (ret := (some .int)) (by decide) rfl (Nat.le_of_ble_eq_true rfl) (fun E hE1 hE2 hC hN hQ => ?_)
  subst hE1 hE2
  exact z_X8_count_0 hC hN (N := N) (a_t := a_t) (a_t_rows := a_t_rows) (a_t_rows_lane := a_t_rows_lane) (a_t_tape := a_t_tape) (a_t_now := a_t_now) (a_t_now_leader := a_t_now_leader) (a_t_acts := a_t_acts) (a_t_reader := a_t_reader) (a_t_trial := a_t_trial) (a_t_ways := a_t_ways) (a_t_asks := a_t_asks) (a_t_images := a_t_images) (a_t_imageKept := a_t_imageKept) (a_t_rows_size := a_t_rows_size) (a_t_rows_items := a_t_rows_items) (a_t_tape_bytes := a_t_tape_bytes) (a_t_now_kind := a_t_now_kind) (a_t_now_hand := a_t_now_hand) (a_t_now_course := a_t_now_course) (a_t_acts_halls := a_t_acts_halls) (t_latestFault := t_latestFault) (t_latestFinding := t_latestFinding) (t_rows_lane := t_rows_lane) (t_tape_length := t_tape_length) (t_now_players := t_now_players) (t_now_round := t_now_round) (t_now_time := t_now_time) (t_now_leader := t_now_leader) (t_acts_kept := t_acts_kept) (t_acts_next := t_acts_next) (l1 := l1) hQ hR

/-! FistTrains.status -/
abbrev rmX8_status : Room := { frames := 0, cells := 0, slots := 0, locals := 0 }
set_option maxRecDepth 20000 in
theorem iX8_status_X8 : ∀ w ∈ wsX80, w ∈ wsX8_status := by decide +kernel
set_option maxRecDepth 20000 in
theorem mX8_status_1 : Cond.fieldLink RX8 75 "FistTrains" "latestFinding" "I" ∈ wsX8_status := List.mem_of_getElem? (i := 1) rfl
def o_X8_status (N : Nat) (t_latestFinding : Int32) : Option (Int32) :=
  some (t_latestFinding)
set_option maxHeartbeats 4000000 in
set_option maxRecDepth 100000 in
theorem z_X8_status_0 {sK sV : Nat → Nat} {E : ZE} {cI cB cZ : ClassId} (hC : ZC E 1 cX8_status wsX8_status RX8 rmX8_status (some .int) (zty cI cB cZ)) (hN : ZN sK sV (zA E) (zs E)) {N : Nat} {a_t : Nat} {a_t_rows : Nat} {a_t_tape : Nat} {a_t_reader : Nat} {a_t_now : Nat} {a_t_trial : Nat} {a_t_acts : Nat} {a_t_ways : Nat} {a_t_asks : Nat} {a_t_images : Nat} {a_t_imageKept : Nat} {t_latestFault : Int32} {t_latestFinding : Int32} {rf : Int32} (hQ : ZQi E (zty cI cB cZ) rf [(a_t, .inr (8, [.ref a_t_rows, .ref a_t_tape, .ref a_t_reader, .ref a_t_now, .ref a_t_trial, .ref a_t_acts, .ref a_t_ways, .ref a_t_asks, .ref a_t_images, .ref a_t_imageKept, .int t_latestFault, .int t_latestFinding]))]) (hR : o_X8_status N t_latestFinding = some rf) : Z E (0, 0) [(0, .ref a_t)] 0 [] [(a_t, .inr (8, [.ref a_t_rows, .ref a_t_tape, .ref a_t_reader, .ref a_t_now, .ref a_t_trial, .ref a_t_acts, .ref a_t_ways, .ref a_t_asks, .ref a_t_images, .ref a_t_imageKept, .int t_latestFault, .int t_latestFinding]))] := by
  rw [o_X8_status] at hR
  refine z_aload_n hC dX8_status_0 rfl 0 rfl ?_
  refine z_get hC iX8_status_X8 rfl 0 11 rfl (by decide) mX8_status_1 rfl rfl dX8_status_1 ?_
  obtain rfl := Option.some.inj hR
  exact z_iret hC hQ rfl rfl rfl dX8_status_4
set_option maxHeartbeats 4000000 in
set_option maxRecDepth 100000 in
theorem c_X8_status {sK sV : Nat → Nat} {l : Launch} {D : va_G} {cI cB cZ : ClassId} {N : Nat} {a_t : Nat} {a_t_rows : Nat} {a_t_tape : Nat} {a_t_reader : Nat} {a_t_now : Nat} {a_t_trial : Nat} {a_t_acts : Nat} {a_t_ways : Nat} {a_t_asks : Nat} {a_t_images : Nat} {a_t_imageKept : Nat} {t_latestFault : Int32} {t_latestFinding : Int32} : ∀ R : Int32, o_X8_status N t_latestFinding = some R → ZMi sK sV l yX8_status wsX8_status rmX8_status D (zty cI cB cZ) [.ref a_t] [(a_t, .inr (8, [.ref a_t_rows, .ref a_t_tape, .ref a_t_reader, .ref a_t_now, .ref a_t_trial, .ref a_t_acts, .ref a_t_ways, .ref a_t_asks, .ref a_t_images, .ref a_t_imageKept, .int t_latestFault, .int t_latestFinding]))] R [(a_t, .inr (8, [.ref a_t_rows, .ref a_t_tape, .ref a_t_reader, .ref a_t_now, .ref a_t_trial, .ref a_t_acts, .ref a_t_ways, .ref a_t_asks, .ref a_t_images, .ref a_t_imageKept, .int t_latestFault, .int t_latestFinding]))] := by
  intro R hR
  refine zi_of (cc := cX8_status) (maxL := 1) (ret := (some .int)) (by decide) rfl (Nat.le_of_ble_eq_true rfl) (fun E hE1 hE2 hC hN hQ => ?_)
  subst hE1 hE2
  exact z_X8_status_0 hC hN (N := N) (a_t := a_t) (a_t_rows := a_t_rows) (a_t_tape := a_t_tape) (a_t_reader := a_t_reader) (a_t_now := a_t_now) (a_t_trial := a_t_trial) (a_t_acts := a_t_acts) (a_t_ways := a_t_ways) (a_t_asks := a_t_asks) (a_t_images := a_t_images) (a_t_imageKept := a_t_imageKept) (t_latestFault := t_latestFault) (t_latestFinding := t_latestFinding) hQ hR
