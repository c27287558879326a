/-! FistTrains$Rows.placeOf -/
abbrev rmX5_placeOf : Room := { frames := 0, cells := 0, slots := 0, locals := 0 }
def o_X5_placeOf (N : Nat) (l1 : Int32) (l2 : Int32) : Option (Int32) :=
  some (((l1 * 40) + l2))
set_option maxHeartbeats 4000000 in
set_option maxRecDepth 100000 in
theorem z_X5_placeOf_0 {sK sV : Nat → Nat} {E : ZE} {cI cB cZ : ClassId} (hC : ZC E 3 cX5_placeOf wsX5_placeOf RX5 rmX5_placeOf (some .int) (zty cI cB cZ)) (hN : ZN sK sV (zA E) (zs E)) {N : Nat} {a_t : Nat} {a_t_lane : Nat} {a_t_size : Nat} {a_t_items : Nat} {l1 : Int32} {l2 : Int32} {rf : Int32} (hQ : ZQi E (zty cI cB cZ) rf [(a_t, .inr (5, [.ref a_t_lane, .ref a_t_size, .ref a_t_items]))]) (hR : o_X5_placeOf N l1 l2 = some rf) : Z E (0, 0) [(0, .ref a_t), (1, .int l1), (2, .int l2)] 0 [] [(a_t, .inr (5, [.ref a_t_lane, .ref a_t_size, .ref a_t_items]))] := by
  rw [o_X5_placeOf] at hR
  refine z_iload_n hC dX5_placeOf_0 rfl 1 rfl ?_
  refine z_bipush (v := 40) hC dX5_placeOf_1 (by decide) ?_
  refine z_imul hC dX5_placeOf_3 ?_
  refine z_iload_n hC dX5_placeOf_4 rfl 2 rfl ?_
  refine z_iadd hC dX5_placeOf_5 ?_
  obtain rfl := Option.some.inj hR
  exact z_iret hC hQ rfl rfl rfl dX5_placeOf_6
set_option maxHeartbeats 4000000 in
set_option maxRecDepth 100000 in
theorem c_X5_placeOf {sK sV : Nat → Nat} {l : Launch} {D : va_G} {cI cB cZ : ClassId} {N : Nat} {a_t : Nat} {a_t_lane : Nat} {a_t_size : Nat} {a_t_items : Nat} {l1 : Int32} {l2 : Int32} : ∀ R : Int32, o_X5_placeOf N l1 l2 = some R → ZMi sK sV l yX5_placeOf wsX5_placeOf rmX5_placeOf D (zty cI cB cZ) [.ref a_t, .int l1, .int l2] [(a_t, .inr (5, [.ref a_t_lane, .ref a_t_size, .ref a_t_items]))] R [(a_t, .inr (5, [.ref a_t_lane, .ref a_t_size, .ref a_t_items]))] := by
  intro R hR
  refine zi_of (cc := cX5_placeOf) (maxL := 3) (ret := (some .int)) (by decide) rfl (Nat.le_of_ble_eq_true rfl) (fun E hE1 hE2 hC hN hQ => ?_)
  subst hE1 hE2
  exact z_X5_placeOf_0 hC hN (N := N) (a_t := a_t) (a_t_lane := a_t_lane) (a_t_size := a_t_size) (a_t_items := a_t_items) (l1 := l1) (l2 := l2) hQ hR

/-! FistTrains$Rows.make -/
abbrev rmX5_make : Room := { frames := 1, cells := 0, slots := 0, locals := 22 }
set_option maxRecDepth 20000 in
theorem iX5_make_X5 : ∀ w ∈ wsX50, w ∈ wsX5_make := by decide +kernel
set_option maxRecDepth 20000 in
theorem mX5_make_1 : Cond.fieldLink RX5 9 "FistTrains$Rows" "lane" "[I" ∈ wsX5_make := List.mem_of_getElem? (i := 1) rfl
set_option maxRecDepth 20000 in
theorem mX5_make_2 : Cond.fieldLink RX5 13 "FistTrains$Rows" "size" "[I" ∈ wsX5_make := List.mem_of_getElem? (i := 2) rfl
set_option maxRecDepth 20000 in
theorem mX5_make_3 : Cond.fieldLink RX5 16 "FistTrains$Rows" "items" "[I" ∈ wsX5_make := List.mem_of_getElem? (i := 3) rfl
def o_X5_make_17 (N : Nat) (t_lane : (Nat → Int32)) (t_size : (Nat → Int32)) (l1 : Int32) (l3 : Int32) : Nat → (Nat → Int32) → Int32 → Option ((Nat → Int32) × (Nat → Int32) × (Nat → Int32))
  | 0 => fun _ _ => none
  | n + 1 => fun t_items l4 => 
    if l3 ≤ l4 then
      some (t_lane, t_size, t_items)
    else
      Option.bind (o_X5_placeOf N l1 l4) (fun r31 =>
      ogd (inb r31 320) (
      o_X5_make_17 N t_lane t_size l1 l3 n (upd t_items (Int32.toNatClampNeg r31) 0) (l4 + 1)))
def o_X5_make (N : Nat) (t_lane : (Nat → Int32)) (t_size : (Nat → Int32)) (t_items : (Nat → Int32)) (l1 : Int32) (l2 : Int32) (l3 : Int32) : Option ((Nat → Int32) × (Nat → Int32) × (Nat → Int32)) :=
  ogd (inb l1 8) (
  ogd (inb l1 8) (
  o_X5_make_17 N (upd t_lane (Int32.toNatClampNeg l1) l2) (upd t_size (Int32.toNatClampNeg l1) l3) l1 l3 N t_items 0))
set_option maxHeartbeats 4000000 in
set_option maxRecDepth 100000 in
theorem z_X5_make_17 {sK sV : Nat → Nat} {E : ZE} {cI cB cZ : ClassId} (hC : ZC E 5 cX5_make wsX5_make RX5 rmX5_make none (zty cI cB cZ)) (hN : ZN sK sV (zA E) (zs E)) {N : Nat} {a_t : Nat} {a_t_lane : Nat} {a_t_size : Nat} {a_t_items : Nat} {t_lane : (Nat → Int32)} {t_size : (Nat → Int32)} {l1 : Int32} {l3 : Int32} {rf : (Nat → Int32) × (Nat → Int32) × (Nat → Int32)} (hQ : ZQv E (zty cI cB cZ) [(a_t, .inr (5, [.ref a_t_lane, .ref a_t_size, .ref a_t_items])), (a_t_lane, .inl (cI, 8, .inl rf.1)), (a_t_size, .inl (cI, 8, .inl rf.2.1)), (a_t_items, .inl (cI, 320, .inl rf.2.2))]) : ∀ (n : Nat) (t_items : (Nat → Int32)) (l4 : Int32), o_X5_make_17 N t_lane t_size l1 l3 n t_items l4 = some rf → Z E (0, 0) [(0, .ref a_t), (1, .int l1), (3, .int l3), (4, .int l4)] 17 [] [(a_t, .inr (5, [.ref a_t_lane, .ref a_t_size, .ref a_t_items])), (a_t_lane, .inl (cI, 8, .inl t_lane)), (a_t_size, .inl (cI, 8, .inl t_size)), (a_t_items, .inl (cI, 320, .inl t_items))] := by
  intro n
  induction n with
  | zero =>
    intro t_items l4 hR
    cases hR
  | succ n ih =>
    intro t_items l4 hR
    rw [o_X5_make_17] at hR
    refine z_iload hC dX5_make_17 3 rfl ?_
    refine z_iload_n hC dX5_make_19 rfl 2 rfl ?_
    refine z_icmp_ge hC 42 dX5_make_20 (by decide) hR (fun hR => ?_) (fun hR => ?_)
    · obtain rfl := Option.some.inj hR
      exact z_vret hC hQ rfl dX5_make_42
    · refine z_aload_n hC dX5_make_23 rfl 0 rfl ?_
      refine z_get hC iX5_make_X5 rfl 0 2 rfl (by decide) mX5_make_3 rfl rfl dX5_make_24 ?_
      refine z_aload_n hC dX5_make_27 rfl 0 rfl ?_
      refine z_iload_n hC dX5_make_28 rfl 1 rfl ?_
      refine z_iload hC dX5_make_29 3 rfl ?_
      refine z_callVi_p hC hN [.int l1, .int l4] [0] (c_X5_placeOf (l := zl E) (D := zD E) (cI := cI) (cB := cB) (cZ := cZ) (N := N) (a_t := a_t) (a_t_lane := a_t_lane) (a_t_size := a_t_size) (a_t_items := a_t_items) (l1 := l1) (l2 := l4)) rfl ⟨rfl, rfl⟩ gX5_make_X5_placeOf hvX5_placeOf 0 5 rfl rfl rfl ⟨Nat.le_of_ble_eq_true rfl, Nat.le_of_ble_eq_true rfl⟩ ⟨Nat.zero_le _, Nat.zero_le _⟩ rfl (Nat.le_of_ble_eq_true rfl) rfl (by decide) dX5_make_31 hR (fun r31 hR => ?_)
      refine z_ic0 hC dX5_make_34 ?_
      refine z_iast hC 3 0 rfl rfl dX5_make_35 hR (fun hR => ?_)
      refine z_iinc1 hC [(4, .int (l4 + 1)), (0, .ref a_t), (1, .int l1), (3, .int l3)] dX5_make_36 3 rfl (by decide) rfl ?_
      refine z_goto hC 17 dX5_make_39 (by decide) ?_
      refine z_sub (lv' := [(0, .ref a_t), (1, .int l1), (3, .int l3), (4, .int (l4 + 1))]) [1, 2, 3, 0] rfl ?_
      exact ih (upd t_items (Int32.toNatClampNeg r31) 0) (l4 + 1) hR
set_option maxHeartbeats 4000000 in
set_option maxRecDepth 100000 in
theorem z_X5_make_0 {sK sV : Nat → Nat} {E : ZE} {cI cB cZ : ClassId} (hC : ZC E 5 cX5_make wsX5_make RX5 rmX5_make none (zty cI cB cZ)) (hN : ZN sK sV (zA E) (zs E)) {N : Nat} {a_t : Nat} {a_t_lane : Nat} {a_t_size : Nat} {a_t_items : Nat} {t_lane : (Nat → Int32)} {t_size : (Nat → Int32)} {t_items : (Nat → Int32)} {l1 : Int32} {l2 : Int32} {l3 : Int32} {rf : (Nat → Int32) × (Nat → Int32) × (Nat → Int32)} (hQ : ZQv E (zty cI cB cZ) [(a_t, .inr (5, [.ref a_t_lane, .ref a_t_size, .ref a_t_items])), (a_t_lane, .inl (cI, 8, .inl rf.1)), (a_t_size, .inl (cI, 8, .inl rf.2.1)), (a_t_items, .inl (cI, 320, .inl rf.2.2))]) (hR : o_X5_make N t_lane t_size t_items l1 l2 l3 = some rf) : Z E (0, 0) [(0, .ref a_t), (1, .int l1), (2, .int l2), (3, .int l3)] 0 [] [(a_t, .inr (5, [.ref a_t_lane, .ref a_t_size, .ref a_t_items])), (a_t_lane, .inl (cI, 8, .inl t_lane)), (a_t_size, .inl (cI, 8, .inl t_size)), (a_t_items, .inl (cI, 320, .inl t_items))] := by
  rw [o_X5_make] at hR
  refine z_aload_n hC dX5_make_0 rfl 0 rfl ?_
  refine z_get hC iX5_make_X5 rfl 0 0 rfl (by decide) mX5_make_1 rfl rfl dX5_make_1 ?_
  refine z_iload_n hC dX5_make_4 rfl 1 rfl ?_
  refine z_iload_n hC dX5_make_5 rfl 2 rfl ?_
  refine z_iast hC 1 0 rfl rfl dX5_make_6 hR (fun hR => ?_)
  refine z_aload_n hC dX5_make_7 rfl 0 rfl ?_
  refine z_get hC iX5_make_X5 rfl 0 1 rfl (by decide) mX5_make_2 rfl rfl dX5_make_8 ?_
  refine z_iload_n hC dX5_make_11 rfl 1 rfl ?_
  refine z_iload_n hC dX5_make_12 rfl 3 rfl ?_
  refine z_iast hC 2 0 rfl rfl dX5_make_13 hR (fun hR => ?_)
  refine z_ic0 hC dX5_make_14 ?_
  refine z_istore hC [(4, .int 0), (0, .ref a_t), (1, .int l1), (2, .int l2), (3, .int l3)] dX5_make_15 (by decide) rfl ?_
  refine z_sub (lv' := [(0, .ref a_t), (1, .int l1), (3, .int l3), (4, .int 0)]) [1, 2, 4, 0] rfl ?_
  exact z_X5_make_17 hC hN (N := N) (a_t := a_t) (a_t_lane := a_t_lane) (a_t_size := a_t_size) (a_t_items := a_t_items) (t_lane := (upd t_lane (Int32.toNatClampNeg l1) l2)) (t_size := (upd t_size (Int32.toNatClampNeg l1) l3)) (l1 := l1) (l3 := l3) hQ  N t_items 0 hR
set_option maxHeartbeats 4000000 in
set_option maxRecDepth 100000 in
theorem c_X5_make {sK sV : Nat → Nat} {l : Launch} {D : va_G} {cI cB cZ : ClassId} {N : Nat} {a_t : Nat} {a_t_lane : Nat} {a_t_size : Nat} {a_t_items : Nat} {t_lane : (Nat → Int32)} {t_size : (Nat → Int32)} {t_items : (Nat → Int32)} {l1 : Int32} {l2 : Int32} {l3 : Int32} : ∀ R : (Nat → Int32) × (Nat → Int32) × (Nat → Int32), o_X5_make N t_lane t_size t_items l1 l2 l3 = some R → ZMv sK sV l yX5_make wsX5_make rmX5_make D (zty cI cB cZ) [.ref a_t, .int l1, .int l2, .int l3] [(a_t, .inr (5, [.ref a_t_lane, .ref a_t_size, .ref a_t_items])), (a_t_lane, .inl (cI, 8, .inl t_lane)), (a_t_size, .inl (cI, 8, .inl t_size)), (a_t_items, .inl (cI, 320, .inl t_items))] [(a_t, .inr (5, [.ref a_t_lane, .ref a_t_size, .ref a_t_items])), (a_t_lane, .inl (cI, 8, .inl R.1)), (a_t_size, .inl (cI, 8, .inl R.2.1)), (a_t_items, .inl (cI, 320, .inl R.2.2))] := by
  intro R hR
  refine zv_of (cc := cX5_make) (maxL := 5) (ret := none) (by decide) rfl (Nat.le_of_ble_eq_true rfl) (fun E hE1 hE2 hC hN hQ => ?_)
  subst hE1 hE2
  exact z_X5_make_0 hC hN (N := N) (a_t := a_t) (a_t_lane := a_t_lane) (a_t_size := a_t_size) (a_t_items := a_t_items) (t_lane := t_lane) (t_size := t_size) (t_items := t_items) (l1 := l1) (l2 := l2) (l3 := l3) hQ hR

/-! FistTrains$Rows.isMissing -/
abbrev rmX5_isMissing : Room := { frames := 0, cells := 0, slots := 0, locals := 0 }
set_option maxRecDepth 20000 in
theorem iX5_isMissing_X5 : ∀ w ∈ wsX50, w ∈ wsX5_isMissing := by decide +kernel
set_option maxRecDepth 20000 in
theorem mX5_isMissing_1 : Cond.fieldLink RX5 9 "FistTrains$Rows" "lane" "[I" ∈ wsX5_isMissing := List.mem_of_getElem? (i := 1) rfl
def o_X5_isMissing (N : Nat) (t_lane : (Nat → Int32)) (l1 : Int32) : Option (Int32) :=
  ogd (inb l1 8) (
  if (t_lane (Int32.toNatClampNeg l1)) = (-1) then
    some (1)
  else
    some (0))
set_option maxHeartbeats 4000000 in
set_option maxRecDepth 100000 in
theorem z_X5_isMissing_0 {sK sV : Nat → Nat} {E : ZE} {cI cB cZ : ClassId} (hC : ZC E 2 cX5_isMissing wsX5_isMissing RX5 rmX5_isMissing (some .boolean) (zty cI cB cZ)) (hN : ZN sK sV (zA E) (zs E)) {N : Nat} {a_t : Nat} {a_t_lane : Nat} {a_t_size : Nat} {a_t_items : Nat} {t_lane : (Nat → Int32)} {l1 : Int32} {rf : Int32} (hQ : ZQi E (zty cI cB cZ) rf [(a_t, .inr (5, [.ref a_t_lane, .ref a_t_size, .ref a_t_items])), (a_t_lane, .inl (cI, 8, .inl t_lane))]) (hR : o_X5_isMissing N t_lane l1 = some rf) : Z E (0, 0) [(0, .ref a_t), (1, .int l1)] 0 [] [(a_t, .inr (5, [.ref a_t_lane, .ref a_t_size, .ref a_t_items])), (a_t_lane, .inl (cI, 8, .inl t_lane))] := by
  rw [o_X5_isMissing] at hR
  refine z_aload_n hC dX5_isMissing_0 rfl 0 rfl ?_
  refine z_get hC iX5_isMissing_X5 rfl 0 0 rfl (by decide) mX5_isMissing_1 rfl rfl dX5_isMissing_1 ?_
  refine z_iload_n hC dX5_isMissing_4 rfl 1 rfl ?_
  refine z_iald hC 1 0 rfl rfl dX5_isMissing_5 hR (fun hR => ?_)
  refine z_icm1 hC dX5_isMissing_6 ?_
  refine z_icmp_ne hC 14 dX5_isMissing_7 (by decide) hR (fun hR => ?_) (fun hR => ?_)
  · refine z_ic0 hC dX5_isMissing_14 ?_
    obtain rfl := Option.some.inj hR
    exact z_iret hC hQ rfl rfl rfl dX5_isMissing_15
  · refine z_ic1 hC dX5_isMissing_10 ?_
    refine z_goto hC 15 dX5_isMissing_11 (by decide) ?_
    obtain rfl := Option.some.inj hR
    exact z_iret hC hQ rfl rfl rfl dX5_isMissing_15
set_option maxHeartbeats 4000000 in
set_option maxRecDepth 100000 in
theorem c_X5_isMissing {sK sV : Nat → Nat} {l : Launch} {D : va_G} {cI cB cZ : ClassId} {N : Nat} {a_t : Nat} {a_t_lane : Nat} {a_t_size : Nat} {a_t_items : Nat} {t_lane : (Nat → Int32)} {l1 : Int32} : ∀ R : Int32, o_X5_isMissing N t_lane l1 = some R → ZMi sK sV l yX5_isMissing wsX5_isMissing rmX5_isMissing D (zty cI cB cZ) [.ref a_t, .int l1] [(a_t, .inr (5, [.ref a_t_lane, .ref a_t_size, .ref a_t_items])), (a_t_lane, .inl (cI, 8, .inl t_lane))] R [(a_t, .inr (5, [.ref a_t_lane, .ref a_t_size, .ref a_t_items])), (a_t_lane, .inl (cI, 8, .inl t_lane))] := by
  intro R hR
  refine zi_of (cc := cX5_isMissing) (maxL := 2) (ret := (some .boolean)) (by decide) rfl (Nat.le_of_ble_eq_true rfl) (fun E hE1 hE2 hC hN hQ => ?_)
  subst hE1 hE2
  exact z_X5_isMissing_0 hC hN (N := N) (a_t := a_t) (a_t_lane := a_t_lane) (a_t_size := a_t_size) (a_t_items := a_t_items) (t_lane := t_lane) (l1 := l1) hQ hR

/-! FistTrains$Rows.put -/
abbrev rmX5_put : Room := { frames := 1, cells := 0, slots := 0, locals := 22 }
set_option maxRecDepth 20000 in
theorem iX5_put_X5 : ∀ w ∈ wsX50, w ∈ wsX5_put := by decide +kernel
set_option maxRecDepth 20000 in
theorem mX5_put_1 : Cond.fieldLink RX5 9 "FistTrains$Rows" "lane" "[I" ∈ wsX5_put := List.mem_of_getElem? (i := 1) rfl
set_option maxRecDepth 20000 in
theorem mX5_put_2 : Cond.fieldLink RX5 16 "FistTrains$Rows" "items" "[I" ∈ wsX5_put := List.mem_of_getElem? (i := 2) rfl
def o_X5_put_33 (N : Nat) (t_items : (Nat → Int32)) (l1 : Int32) (l2 : Int32) (l4 : Int32) : Option (Int32 × (Nat → Int32)) :=
  Option.bind (o_X5_placeOf N l1 l2) (fun r40 =>
  ogd (inb r40 320) (
  some (l4, (upd t_items (Int32.toNatClampNeg r40) l4))))
def o_X5_put (N : Nat) (t_lane : (Nat → Int32)) (t_items : (Nat → Int32)) (l1 : Int32) (l2 : Int32) (l3 : Int32) : Option (Int32 × (Nat → Int32)) :=
  ogd (inb l1 8) (
  if (t_lane (Int32.toNatClampNeg l1)) = 0 then
    o_X5_put_33 N t_items l1 l2 (Int8.toInt32 (Int32.toInt8 l3))
  else
    ogd (inb l1 8) (
    if (t_lane (Int32.toNatClampNeg l1)) = 1 then
      o_X5_put_33 N t_items l1 l2 (Int16.toInt32 (Int32.toInt16 l3))
    else
      o_X5_put_33 N t_items l1 l2 l3))
set_option maxHeartbeats 4000000 in
set_option maxRecDepth 100000 in
theorem z_X5_put_33 {sK sV : Nat → Nat} {E : ZE} {cI cB cZ : ClassId} (hC : ZC E 5 cX5_put wsX5_put RX5 rmX5_put (some .int) (zty cI cB cZ)) (hN : ZN sK sV (zA E) (zs E)) {N : Nat} {a_t : Nat} {a_t_lane : Nat} {a_t_items : Nat} {a_t_size : Nat} {t_lane : (Nat → Int32)} {t_items : (Nat → Int32)} {l1 : Int32} {l2 : Int32} {l4 : Int32} {rf : Int32 × (Nat → Int32)} (hQ : ZQi E (zty cI cB cZ) rf.1 [(a_t, .inr (5, [.ref a_t_lane, .ref a_t_size, .ref a_t_items])), (a_t_lane, .inl (cI, 8, .inl t_lane)), (a_t_items, .inl (cI, 320, .inl rf.2))]) (hR : o_X5_put_33 N t_items l1 l2 l4 = some rf) : Z E (0, 0) [(0, .ref a_t), (1, .int l1), (2, .int l2), (4, .int l4)] 33 [] [(a_t, .inr (5, [.ref a_t_lane, .ref a_t_size, .ref a_t_items])), (a_t_lane, .inl (cI, 8, .inl t_lane)), (a_t_items, .inl (cI, 320, .inl t_items))] := by
  rw [o_X5_put_33] at hR
  refine z_aload_n hC dX5_put_33 rfl 0 rfl ?_
  refine z_get hC iX5_put_X5 rfl 0 2 rfl (by decide) mX5_put_2 rfl rfl dX5_put_34 ?_
  refine z_aload_n hC dX5_put_37 rfl 0 rfl ?_
  refine z_iload_n hC dX5_put_38 rfl 1 rfl ?_
  refine z_iload_n hC dX5_put_39 rfl 2 rfl ?_
  refine z_callVi_p hC hN [.int l1, .int l2] [0] (c_X5_placeOf (l := zl E) (D := zD E) (cI := cI) (cB := cB) (cZ := cZ) (N := N) (a_t := a_t) (a_t_lane := a_t_lane) (a_t_size := a_t_size) (a_t_items := a_t_items) (l1 := l1) (l2 := l2)) rfl ⟨rfl, rfl⟩ gX5_put_X5_placeOf hvX5_placeOf 0 5 rfl rfl rfl ⟨Nat.le_of_ble_eq_true rfl, Nat.le_of_ble_eq_true rfl⟩ ⟨Nat.zero_le _, Nat.zero_le _⟩ rfl (Nat.le_of_ble_eq_true rfl) rfl (by decide) dX5_put_40 hR (fun r40 hR => ?_)
  refine z_iload hC dX5_put_43 3 rfl ?_
  refine z_iast hC 2 0 rfl rfl dX5_put_45 hR (fun hR => ?_)
  refine z_iload hC dX5_put_46 3 rfl ?_
  obtain rfl := Option.some.inj hR
  exact z_iret hC hQ rfl rfl rfl dX5_put_48
set_option maxHeartbeats 4000000 in
set_option maxRecDepth 100000 in
theorem z_X5_put_0 {sK sV : Nat → Nat} {E : ZE} {cI cB cZ : ClassId} (hC : ZC E 5 cX5_put wsX5_put RX5 rmX5_put (some .int) (zty cI cB cZ)) (hN : ZN sK sV (zA E) (zs E)) {N : Nat} {a_t : Nat} {a_t_lane : Nat} {a_t_items : Nat} {a_t_size : Nat} {t_lane : (Nat → Int32)} {t_items : (Nat → Int32)} {l1 : Int32} {l2 : Int32} {l3 : Int32} {rf : Int32 × (Nat → Int32)} (hQ : ZQi E (zty cI cB cZ) rf.1 [(a_t, .inr (5, [.ref a_t_lane, .ref a_t_size, .ref a_t_items])), (a_t_lane, .inl (cI, 8, .inl t_lane)), (a_t_items, .inl (cI, 320, .inl rf.2))]) (hR : o_X5_put N t_lane t_items l1 l2 l3 = some rf) : Z E (0, 0) [(0, .ref a_t), (1, .int l1), (2, .int l2), (3, .int l3)] 0 [] [(a_t, .inr (5, [.ref a_t_lane, .ref a_t_size, .ref a_t_items])), (a_t_lane, .inl (cI, 8, .inl t_lane)), (a_t_items, .inl (cI, 320, .inl t_items))] := by
  rw [o_X5_put] at hR
  refine z_iload_n hC dX5_put_0 rfl 3 rfl ?_
  refine z_istore hC [(4, .int l3), (0, .ref a_t), (1, .int l1), (2, .int l2), (3, .int l3)] dX5_put_1 (by decide) rfl ?_
  refine z_aload_n hC dX5_put_3 rfl 1 rfl ?_
  refine z_get hC iX5_put_X5 rfl 0 0 rfl (by decide) mX5_put_1 rfl rfl dX5_put_4 ?_
  refine z_iload_n hC dX5_put_7 rfl 2 rfl ?_
  refine z_iald hC 1 0 rfl rfl dX5_put_8 hR (fun hR => ?_)
  refine z_if_ne hC 19 dX5_put_9 (by decide) hR (fun hR => ?_) (fun hR => ?_)
  · refine z_aload_n hC dX5_put_19 rfl 1 rfl ?_
    refine z_get hC iX5_put_X5 rfl 0 0 rfl (by decide) mX5_put_1 rfl rfl dX5_put_20 ?_
    refine z_iload_n hC dX5_put_23 rfl 2 rfl ?_
    refine z_iald hC 1 0 rfl rfl dX5_put_24 hR (fun hR => ?_)
    refine z_ic1 hC dX5_put_25 ?_
    refine z_icmp_ne hC 33 dX5_put_26 (by decide) hR (fun hR => ?_) (fun hR => ?_)
    · refine z_sub (lv' := [(0, .ref a_t), (1, .int l1), (2, .int l2), (4, .int l3)]) [1, 2, 3, 0] rfl ?_
      exact z_X5_put_33 hC hN (N := N) (a_t := a_t) (a_t_lane := a_t_lane) (a_t_items := a_t_items) (a_t_size := a_t_size) (t_lane := t_lane) (t_items := t_items) (l1 := l1) (l2 := l2) (l4 := l3) hQ  hR
    · refine z_iload_n hC dX5_put_29 rfl 4 rfl ?_
      refine z_i2s hC dX5_put_30 ?_
      refine z_istore hC [(4, .int (Int16.toInt32 (Int32.toInt16 l3))), (0, .ref a_t), (1, .int l1), (2, .int l2), (3, .int l3)] dX5_put_31 (by decide) rfl ?_
      refine z_sub (lv' := [(0, .ref a_t), (1, .int l1), (2, .int l2), (4, .int (Int16.toInt32 (Int32.toInt16 l3)))]) [1, 2, 3, 0] rfl ?_
      exact z_X5_put_33 hC hN (N := N) (a_t := a_t) (a_t_lane := a_t_lane) (a_t_items := a_t_items) (a_t_size := a_t_size) (t_lane := t_lane) (t_items := t_items) (l1 := l1) (l2 := l2) (l4 := (Int16.toInt32 (Int32.toInt16 l3))) hQ  hR
  · refine z_iload_n hC dX5_put_12 rfl 4 rfl ?_
    refine z_i2b hC dX5_put_13 ?_
    refine z_istore hC [(4, .int (Int8.toInt32 (Int32.toInt8 l3))), (0, .ref a_t), (1, .int l1), (2, .int l2), (3, .int l3)] dX5_put_14 (by decide) rfl ?_
    refine z_goto hC 33 dX5_put_16 (by decide) ?_
    refine z_sub (lv' := [(0, .ref a_t), (1, .int l1), (2, .int l2), (4, .int (Int8.toInt32 (Int32.toInt8 l3)))]) [1, 2, 3, 0] rfl ?_
    exact z_X5_put_33 hC hN (N := N) (a_t := a_t) (a_t_lane := a_t_lane) (a_t_items := a_t_items) (a_t_size := a_t_size) (t_lane := t_lane) (t_items := t_items) (l1 := l1) (l2 := l2) (l4 := (Int8.toInt32 (Int32.toInt8 l3))) hQ  hR
set_option maxHeartbeats 4000000 in
set_option maxRecDepth 100000 in
theorem c_X5_put {sK sV : Nat → Nat} {l : Launch} {D : va_G} {cI cB cZ : ClassId} {N : Nat} {a_t : Nat} {a_t_lane : Nat} {a_t_items : Nat} {a_t_size : Nat} {t_lane : (Nat → Int32)} {t_items : (Nat → Int32)} {l1 : Int32} {l2 : Int32} {l3 : Int32} : ∀ R : Int32 × (Nat → Int32), o_X5_put N t_lane t_items l1 l2 l3 = some R → ZMi sK sV l yX5_put wsX5_put rmX5_put D (zty cI cB cZ) [.ref a_t, .int l1, .int l2, .int l3] [(a_t, .inr (5, [.ref a_t_lane, .ref a_t_size, .ref a_t_items])), (a_t_lane, .inl (cI, 8, .inl t_lane)), (a_t_items, .inl (cI, 320, .inl t_items))] R.1 [(a_t, .inr (5, [.ref a_t_lane, .ref a_t_size, .ref a_t_items])), (a_t_lane, .inl (cI, 8, .inl t_lane)), (a_t_items, .inl (cI, 320, .inl R.2))] := by
  intro R hR
  refine zi_of (cc := cX5_put) (maxL := 5) (ret := (some .int)) (by decide) rfl (Nat.le_of_ble_eq_true rfl) (fun E hE1 hE2 hC hN hQ => ?_)
  subst hE1 hE2
  exact z_X5_put_0 hC hN (N := N) (a_t := a_t) (a_t_lane := a_t_lane) (a_t_items := a_t_items) (a_t_size := a_t_size) (t_lane := t_lane) (t_items := t_items) (l1 := l1) (l2 := l2) (l3 := l3) hQ hR

/-! FistTrains$Rows.hasPlaces -/
abbrev rmX5_hasPlaces : Room := { frames := 0, cells := 0, slots := 0, locals := 0 }
set_option maxRecDepth 20000 in
theorem iX5_hasPlaces_X5 : ∀ w ∈ wsX50, w ∈ wsX5_hasPlaces := by decide +kernel
set_option maxRecDepth 20000 in
theorem mX5_hasPlaces_1 : Cond.fieldLink RX5 13 "FistTrains$Rows" "size" "[I" ∈ wsX5_hasPlaces := List.mem_of_getElem? (i := 1) rfl
def o_X5_hasPlaces (N : Nat) (t_size : (Nat → Int32)) (l1 : Int32) (l2 : Int32) (l3 : Int32) : Option (Int32) :=
  if l2 < 0 then
    some (0)
  else
    if l3 < 0 then
      some (0)
    else
      ogd (inb l1 8) (
      if (t_size (Int32.toNatClampNeg l1)) < l2 then
        some (0)
      else
        ogd (inb l1 8) (
        if ((t_size (Int32.toNatClampNeg l1)) - l2) < l3 then
          some (0)
        else
          some (1)))
set_option maxHeartbeats 4000000 in
set_option maxRecDepth 100000 in
theorem z_X5_hasPlaces_0 {sK sV : Nat → Nat} {E : ZE} {cI cB cZ : ClassId} (hC : ZC E 4 cX5_hasPlaces wsX5_hasPlaces RX5 rmX5_hasPlaces (some .boolean) (zty cI cB cZ)) (hN : ZN sK sV (zA E) (zs E)) {N : Nat} {a_t : Nat} {a_t_size : Nat} {a_t_lane : Nat} {a_t_items : Nat} {t_size : (Nat → Int32)} {l1 : Int32} {l2 : Int32} {l3 : Int32} {rf : Int32} (hQ : ZQi E (zty cI cB cZ) rf [(a_t, .inr (5, [.ref a_t_lane, .ref a_t_size, .ref a_t_items])), (a_t_size, .inl (cI, 8, .inl t_size))]) (hR : o_X5_hasPlaces N t_size l1 l2 l3 = some rf) : Z E (0, 0) [(0, .ref a_t), (1, .int l1), (2, .int l2), (3, .int l3)] 0 [] [(a_t, .inr (5, [.ref a_t_lane, .ref a_t_size, .ref a_t_items])), (a_t_size, .inl (cI, 8, .inl t_size))] := by
  rw [o_X5_hasPlaces] at hR
  refine z_iload_n hC dX5_hasPlaces_0 rfl 2 rfl ?_
  refine z_if_lt hC 34 dX5_hasPlaces_1 (by decide) hR (fun hR => ?_) (fun hR => ?_)
  · refine z_ic0 hC dX5_hasPlaces_34 ?_
    obtain rfl := Option.some.inj hR
    exact z_iret hC hQ rfl rfl rfl dX5_hasPlaces_35
  · refine z_iload_n hC dX5_hasPlaces_4 rfl 3 rfl ?_
    refine z_if_lt hC 34 dX5_hasPlaces_5 (by decide) hR (fun hR => ?_) (fun hR => ?_)
    · refine z_ic0 hC dX5_hasPlaces_34 ?_
      obtain rfl := Option.some.inj hR
      exact z_iret hC hQ rfl rfl rfl dX5_hasPlaces_35
    · refine z_iload_n hC dX5_hasPlaces_8 rfl 2 rfl ?_
      refine z_aload_n hC dX5_hasPlaces_9 rfl 0 rfl ?_
      refine z_get hC iX5_hasPlaces_X5 rfl 0 1 rfl (by decide) mX5_hasPlaces_1 rfl rfl dX5_hasPlaces_10 ?_
      refine z_iload_n hC dX5_hasPlaces_13 rfl 1 rfl ?_
      refine z_iald hC 1 0 rfl rfl dX5_hasPlaces_14 hR (fun hR => ?_)
      refine z_icmp_gt hC 34 dX5_hasPlaces_15 (by decide) hR (fun hR => ?_) (fun hR => ?_)
      · refine z_ic0 hC dX5_hasPlaces_34 ?_
        obtain rfl := Option.some.inj hR
        exact z_iret hC hQ rfl rfl rfl dX5_hasPlaces_35
      · refine z_iload_n hC dX5_hasPlaces_18 rfl 3 rfl ?_
        refine z_aload_n hC dX5_hasPlaces_19 rfl 0 rfl ?_
        refine z_get hC iX5_hasPlaces_X5 rfl 0 1 rfl (by decide) mX5_hasPlaces_1 rfl rfl dX5_hasPlaces_20 ?_
        refine z_iload_n hC dX5_hasPlaces_23 rfl 1 rfl ?_
        refine z_iald hC 1 0 rfl rfl dX5_hasPlaces_24 hR (fun hR => ?_)
        refine z_iload_n hC dX5_hasPlaces_25 rfl 2 rfl ?_
        refine z_isub hC dX5_hasPlaces_26 ?_
        refine z_icmp_gt hC 34 dX5_hasPlaces_27 (by decide) hR (fun hR => ?_) (fun hR => ?_)
        · refine z_ic0 hC dX5_hasPlaces_34 ?_
          obtain rfl := Option.some.inj hR
          exact z_iret hC hQ rfl rfl rfl dX5_hasPlaces_35
        · refine z_ic1 hC dX5_hasPlaces_30 ?_
          refine z_goto hC 35 dX5_hasPlaces_31 (by decide) ?_
          obtain rfl := Option.some.inj hR
          exact z_iret hC hQ rfl rfl rfl dX5_hasPlaces_35
set_option maxHeartbeats 4000000 in
set_option maxRecDepth 100000 in
theorem c_X5_hasPlaces {sK sV : Nat → Nat} {l : Launch} {D : va_G} {cI cB cZ : ClassId} {N : Nat} {a_t : Nat} {a_t_size : Nat} {a_t_lane : Nat} {a_t_items : Nat} {t_size : (Nat → Int32)} {l1 : Int32} {l2 : Int32} {l3 : Int32} : ∀ R : Int32, o_X5_hasPlaces N t_size l1 l2 l3 = some R → ZMi sK sV l yX5_hasPlaces wsX5_hasPlaces rmX5_hasPlaces D (zty cI cB cZ) [.ref a_t, .int l1, .int l2, .int l3] [(a_t, .inr (5, [.ref a_t_lane, .ref a_t_size, .ref a_t_items])), (a_t_size, .inl (cI, 8, .inl t_size))] R [(a_t, .inr (5, [.ref a_t_lane, .ref a_t_size, .ref a_t_items])), (a_t_size, .inl (cI, 8, .inl t_size))] := by
  intro R hR
  refine zi_of (cc := cX5_hasPlaces) (maxL := 4) (ret := (some .boolean)) (by decide) rfl (Nat.le_of_ble_eq_true rfl) (fun E hE1 hE2 hC hN hQ => ?_)
  subst hE1 hE2
  exact z_X5_hasPlaces_0 hC hN (N := N) (a_t := a_t) (a_t_size := a_t_size) (a_t_lane := a_t_lane) (a_t_items := a_t_items) (t_size := t_size) (l1 := l1) (l2 := l2) (l3 := l3) hQ hR

/-! FistTrains$Rows.remove -/
abbrev rmX5_remove : Room := { frames := 0, cells := 0, slots := 0, locals := 0 }
set_option maxRecDepth 20000 in
theorem iX5_remove_X5 : ∀ w ∈ wsX50, w ∈ wsX5_remove := by decide +kernel
set_option maxRecDepth 20000 in
theorem mX5_remove_1 : Cond.fieldLink RX5 13 "FistTrains$Rows" "size" "[I" ∈ wsX5_remove := List.mem_of_getElem? (i := 1) rfl
set_option maxRecDepth 20000 in
theorem mX5_remove_2 : Cond.fieldLink RX5 9 "FistTrains$Rows" "lane" "[I" ∈ wsX5_remove := List.mem_of_getElem? (i := 2) rfl
def o_X5_remove (N : Nat) (t_lane : (Nat → Int32)) (t_size : (Nat → Int32)) (l1 : Int32) : Option (Int32 × (Nat → Int32) × (Nat → Int32)) :=
  ogd (inb l1 8) (
  ogd (inb l1 8) (
  ogd (inb l1 8) (
  some ((t_size (Int32.toNatClampNeg l1)), (upd t_lane (Int32.toNatClampNeg l1) (-1)), (upd t_size (Int32.toNatClampNeg l1) 0)))))
set_option maxHeartbeats 4000000 in
set_option maxRecDepth 100000 in
theorem z_X5_remove_0 {sK sV : Nat → Nat} {E : ZE} {cI cB cZ : ClassId} (hC : ZC E 3 cX5_remove wsX5_remove RX5 rmX5_remove (some .int) (zty cI cB cZ)) (hN : ZN sK sV (zA E) (zs E)) {N : Nat} {a_t : Nat} {a_t_lane : Nat} {a_t_size : Nat} {a_t_items : Nat} {t_lane : (Nat → Int32)} {t_size : (Nat → Int32)} {l1 : Int32} {rf : Int32 × (Nat → Int32) × (Nat → Int32)} (hQ : ZQi E (zty cI cB cZ) rf.1 [(a_t, .inr (5, [.ref a_t_lane, .ref a_t_size, .ref a_t_items])), (a_t_lane, .inl (cI, 8, .inl rf.2.1)), (a_t_size, .inl (cI, 8, .inl rf.2.2))]) (hR : o_X5_remove N t_lane t_size l1 = some rf) : Z E (0, 0) [(0, .ref a_t), (1, .int l1)] 0 [] [(a_t, .inr (5, [.ref a_t_lane, .ref a_t_size, .ref a_t_items])), (a_t_lane, .inl (cI, 8, .inl t_lane)), (a_t_size, .inl (cI, 8, .inl t_size))] := by
  rw [o_X5_remove] at hR
  refine z_aload_n hC dX5_remove_0 rfl 0 rfl ?_
  refine z_get hC iX5_remove_X5 rfl 0 1 rfl (by decide) mX5_remove_1 rfl rfl dX5_remove_1 ?_
  refine z_iload_n hC dX5_remove_4 rfl 1 rfl ?_
  refine z_iald hC 2 0 rfl rfl dX5_remove_5 hR (fun hR => ?_)
  refine z_istore_n hC [(2, .int (t_size (Int32.toNatClampNeg l1))), (0, .ref a_t), (1, .int l1)] dX5_remove_6 rfl (by decide) rfl ?_
  refine z_aload_n hC dX5_remove_7 rfl 1 rfl ?_
  refine z_get hC iX5_remove_X5 rfl 0 0 rfl (by decide) mX5_remove_2 rfl rfl dX5_remove_8 ?_
  refine z_iload_n hC dX5_remove_11 rfl 2 rfl ?_
  refine z_icm1 hC dX5_remove_12 ?_
  refine z_iast hC 1 0 rfl rfl dX5_remove_13 hR (fun hR => ?_)
  refine z_aload_n hC dX5_remove_14 rfl 1 rfl ?_
  refine z_get hC iX5_remove_X5 rfl 0 1 rfl (by decide) mX5_remove_1 rfl rfl dX5_remove_15 ?_
  refine z_iload_n hC dX5_remove_18 rfl 2 rfl ?_
  refine z_ic0 hC dX5_remove_19 ?_
  refine z_iast hC 2 0 rfl rfl dX5_remove_20 hR (fun hR => ?_)
  refine z_iload_n hC dX5_remove_21 rfl 0 rfl ?_
  obtain rfl := Option.some.inj hR
  exact z_iret hC hQ rfl rfl rfl dX5_remove_22
set_option maxHeartbeats 4000000 in
set_option maxRecDepth 100000 in
theorem c_X5_remove {sK sV : Nat → Nat} {l : Launch} {D : va_G} {cI cB cZ : ClassId} {N : Nat} {a_t : Nat} {a_t_lane : Nat} {a_t_size : Nat} {a_t_items : Nat} {t_lane : (Nat → Int32)} {t_size : (Nat → Int32)} {l1 : Int32} : ∀ R : Int32 × (Nat → Int32) × (Nat → Int32), o_X5_remove N t_lane t_size l1 = some R → ZMi sK sV l yX5_remove wsX5_remove rmX5_remove D (zty cI cB cZ) [.ref a_t, .int l1] [(a_t, .inr (5, [.ref a_t_lane, .ref a_t_size, .ref a_t_items])), (a_t_lane, .inl (cI, 8, .inl t_lane)), (a_t_size, .inl (cI, 8, .inl t_size))] R.1 [(a_t, .inr (5, [.ref a_t_lane, .ref a_t_size, .ref a_t_items])), (a_t_lane, .inl (cI, 8, .inl R.2.1)), (a_t_size, .inl (cI, 8, .inl R.2.2))] := by
  intro R hR
  refine zi_of (cc := cX5_remove) (maxL := 3) (ret := (some .int)) (by decide) rfl (Nat.le_of_ble_eq_true rfl) (fun E hE1 hE2 hC hN hQ => ?_)
  subst hE1 hE2
  exact z_X5_remove_0 hC hN (N := N) (a_t := a_t) (a_t_lane := a_t_lane) (a_t_size := a_t_size) (a_t_items := a_t_items) (t_lane := t_lane) (t_size := t_size) (l1 := l1) hQ hR

/-! FistTrains$Tape.hasRoom -/
abbrev rmX6_hasRoom : Room := { frames := 0, cells := 0, slots := 0, locals := 0 }
set_option maxRecDepth 20000 in
theorem iX6_hasRoom_X6 : ∀ w ∈ wsX60, w ∈ wsX6_hasRoom := by decide +kernel
set_option maxRecDepth 20000 in
theorem mX6_hasRoom_1 : Cond.fieldLink RX6 13 "FistTrains$Tape" "length" "I" ∈ wsX6_hasRoom := List.mem_of_getElem? (i := 1) rfl
def o_X6_hasRoom (N : Nat) (t_length : Int32) (l1 : Int32) : Option (Int32) :=
  if (200 - t_length) < l1 then
    some (0)
  else
    some (1)
set_option maxHeartbeats 4000000 in
set_option maxRecDepth 100000 in
theorem z_X6_hasRoom_0 {sK sV : Nat → Nat} {E : ZE} {cI cB cZ : ClassId} (hC : ZC E 2 cX6_hasRoom wsX6_hasRoom RX6 rmX6_hasRoom (some .boolean) (zty cI cB cZ)) (hN : ZN sK sV (zA E) (zs E)) {N : Nat} {a_t : Nat} {a_t_bytes : Nat} {t_length : Int32} {l1 : Int32} {rf : Int32} (hQ : ZQi E (zty cI cB cZ) rf [(a_t, .inr (6, [.ref a_t_bytes, .int t_length]))]) (hR : o_X6_hasRoom N t_length l1 = some rf) : Z E (0, 0) [(0, .ref a_t), (1, .int l1)] 0 [] [(a_t, .inr (6, [.ref a_t_bytes, .int t_length]))] := by
  rw [o_X6_hasRoom] at hR
  refine z_iload_n hC dX6_hasRoom_0 rfl 1 rfl ?_
  refine z_sipush (v := 200) hC dX6_hasRoom_1 (by decide) ?_
  refine z_aload_n hC dX6_hasRoom_4 rfl 0 rfl ?_
  refine z_get hC iX6_hasRoom_X6 rfl 0 1 rfl (by decide) mX6_hasRoom_1 rfl rfl dX6_hasRoom_5 ?_
  refine z_isub hC dX6_hasRoom_8 ?_
  refine z_icmp_gt hC 16 dX6_hasRoom_9 (by decide) hR (fun hR => ?_) (fun hR => ?_)
  · refine z_ic0 hC dX6_hasRoom_16 ?_
    obtain rfl := Option.some.inj hR
    exact z_iret hC hQ rfl rfl rfl dX6_hasRoom_17
  · refine z_ic1 hC dX6_hasRoom_12 ?_
    refine z_goto hC 17 dX6_hasRoom_13 (by decide) ?_
    obtain rfl := Option.some.inj hR
    exact z_iret hC hQ rfl rfl rfl dX6_hasRoom_17
set_option maxHeartbeats 4000000 in
set_option maxRecDepth 100000 in
theorem c_X6_hasRoom {sK sV : Nat → Nat} {l : Launch} {D : va_G} {cI cB cZ : ClassId} {N : Nat} {a_t : Nat} {a_t_bytes : Nat} {t_length : Int32} {l1 : Int32} : ∀ R : Int32, o_X6_hasRoom N t_length l1 = some R → ZMi sK sV l yX6_hasRoom wsX6_hasRoom rmX6_hasRoom D (zty cI cB cZ) [.ref a_t, .int l1] [(a_t, .inr (6, [.ref a_t_bytes, .int t_length]))] R [(a_t, .inr (6, [.ref a_t_bytes, .int t_length]))] := by
  intro R hR
  refine zi_of (cc := cX6_hasRoom) (maxL := 2) (ret := (some .boolean)) (by decide) rfl (Nat.le_of_ble_eq_true rfl) (fun E hE1 hE2 hC hN hQ => ?_)
  subst hE1 hE2
  exact z_X6_hasRoom_0 hC hN (N := N) (a_t := a_t) (a_t_bytes := a_t_bytes) (t_length := t_length) (l1 := l1) hQ hR

/-! FistTrains$Tape.add -/
abbrev rmX6_add : Room := { frames := 0, cells := 0, slots := 0, locals := 0 }
set_option maxRecDepth 20000 in
theorem iX6_add_X6 : ∀ w ∈ wsX60, w ∈ wsX6_add := by decide +kernel
set_option maxRecDepth 20000 in
theorem mX6_add_1 : Cond.fieldLink RX6 9 "FistTrains$Tape" "bytes" "[B" ∈ wsX6_add := List.mem_of_getElem? (i := 1) rfl
set_option maxRecDepth 20000 in
theorem mX6_add_2 : Cond.fieldLink RX6 13 "FistTrains$Tape" "length" "I" ∈ wsX6_add := List.mem_of_getElem? (i := 2) rfl
def o_X6_add_5 (N : Nat) (L1 : Int64) : Nat → Int32 → (Nat → Int32) → Int32 → Option (Int32 × (Nat → Int32))
  | 0 => fun _ _ _ => none
  | n + 1 => fun t_length t_bytes l4 => 
    if l4 < 0 then
      some (t_length, t_bytes)
    else
      ogd (inb t_length 200) (
      o_X6_add_5 N L1 n (t_length + 1) (upd t_bytes (Int32.toNatClampNeg t_length) (vp_nar .byte (Int8.toInt32 (Int32.toInt8 (Int64.toInt32 (L1 >>> (Int32.toInt64 (8 * l4) &&& 63))))))) (l4 + (-1)))
def o_X6_add (N : Nat) (t_length : Int32) (t_bytes : (Nat → Int32)) (L1 : Int64) (l3 : Int32) : Option (Int32 × (Nat → Int32)) :=
  o_X6_add_5 N L1 N t_length t_bytes (l3 - 1)
set_option maxHeartbeats 4000000 in
set_option maxRecDepth 100000 in
theorem z_X6_add_5 {sK sV : Nat → Nat} {E : ZE} {cI cB cZ : ClassId} (hC : ZC E 5 cX6_add wsX6_add RX6 rmX6_add none (zty cI cB cZ)) (hN : ZN sK sV (zA E) (zs E)) {N : Nat} {a_t : Nat} {a_t_bytes : Nat} {L1 : Int64} {rf : Int32 × (Nat → Int32)} (hQ : ZQv E (zty cI cB cZ) [(a_t, .inr (6, [.ref a_t_bytes, .int rf.1])), (a_t_bytes, .inl (cB, 200, .inl rf.2))]) : ∀ (n : Nat) (t_length : Int32) (t_bytes : (Nat → Int32)) (l4 : Int32), o_X6_add_5 N L1 n t_length t_bytes l4 = some rf → Z E (0, 0) [(0, .ref a_t), (1, .long L1), (4, .int l4)] 5 [] [(a_t, .inr (6, [.ref a_t_bytes, .int t_length])), (a_t_bytes, .inl (cB, 200, .inl t_bytes))] := by
  intro n
  induction n with
  | zero =>
    intro t_length t_bytes l4 hR
    cases hR
  | succ n ih =>
    intro t_length t_bytes l4 hR
    rw [o_X6_add_5] at hR
    refine z_iload hC dX6_add_5 2 rfl ?_
    refine z_if_lt hC 44 dX6_add_7 (by decide) hR (fun hR => ?_) (fun hR => ?_)
    · obtain rfl := Option.some.inj hR
      exact z_vret hC hQ rfl dX6_add_44
    · refine z_aload_n hC dX6_add_10 rfl 0 rfl ?_
      refine z_get hC iX6_add_X6 rfl 0 0 rfl (by decide) mX6_add_1 rfl rfl dX6_add_11 ?_
      refine z_aload_n hC dX6_add_14 rfl 0 rfl ?_
      refine z_get hC iX6_add_X6 rfl 0 1 rfl (by decide) mX6_add_2 rfl rfl dX6_add_15 ?_
      refine z_lload_n hC dX6_add_18 rfl 1 rfl ?_
      refine z_bipush (v := 8) hC dX6_add_19 (by decide) ?_
      refine z_iload hC dX6_add_21 2 rfl ?_
      refine z_imul hC dX6_add_23 ?_
      refine z_lshr hC dX6_add_24 ?_
      refine z_l2i hC dX6_add_25 ?_
      refine z_i2b hC dX6_add_26 ?_
      refine z_bast hC 1 1 rfl rfl dX6_add_27 hR (fun hR => ?_)
      refine z_aload_n hC dX6_add_28 rfl 0 rfl ?_
      refine z_dup hC dX6_add_29 rfl ?_
      refine z_get hC iX6_add_X6 rfl 0 1 rfl (by decide) mX6_add_2 rfl rfl dX6_add_30 ?_
      refine z_ic1 hC dX6_add_33 ?_
      refine z_iadd hC dX6_add_34 ?_
      refine z_put hC iX6_add_X6 tyX6_ok nmX6 rfl 0 1 rfl (by decide) mX6_add_2 rfl rfl rfl rfl (Nat.le_of_ble_eq_true rfl) dX6_add_35 ?_
      refine z_iincm1 hC [(4, .int (l4 + (-1))), (0, .ref a_t), (1, .long L1)] dX6_add_38 2 rfl (by decide) rfl ?_
      refine z_goto hC 5 dX6_add_41 (by decide) ?_
      refine z_sub (lv' := [(0, .ref a_t), (1, .long L1), (4, .int (l4 + (-1)))]) [1, 2, 0] rfl ?_
      exact ih (t_length + 1) (upd t_bytes (Int32.toNatClampNeg t_length) (vp_nar .byte (Int8.toInt32 (Int32.toInt8 (Int64.toInt32 (L1 >>> (Int32.toInt64 (8 * l4) &&& 63))))))) (l4 + (-1)) hR
set_option maxHeartbeats 4000000 in
set_option maxRecDepth 100000 in
theorem z_X6_add_0 {sK sV : Nat → Nat} {E : ZE} {cI cB cZ : ClassId} (hC : ZC E 5 cX6_add wsX6_add RX6 rmX6_add none (zty cI cB cZ)) (hN : ZN sK sV (zA E) (zs E)) {N : Nat} {a_t : Nat} {a_t_bytes : Nat} {t_length : Int32} {t_bytes : (Nat → Int32)} {L1 : Int64} {l3 : Int32} {rf : Int32 × (Nat → Int32)} (hQ : ZQv E (zty cI cB cZ) [(a_t, .inr (6, [.ref a_t_bytes, .int rf.1])), (a_t_bytes, .inl (cB, 200, .inl rf.2))]) (hR : o_X6_add N t_length t_bytes L1 l3 = some rf) : Z E (0, 0) [(0, .ref a_t), (1, .long L1), (3, .int l3)] 0 [] [(a_t, .inr (6, [.ref a_t_bytes, .int t_length])), (a_t_bytes, .inl (cB, 200, .inl t_bytes))] := by
  rw [o_X6_add] at hR
  refine z_iload_n hC dX6_add_0 rfl 2 rfl ?_
  refine z_ic1 hC dX6_add_1 ?_
  refine z_isub hC dX6_add_2 ?_
  refine z_istore hC [(4, .int (l3 - 1)), (0, .ref a_t), (1, .long L1), (3, .int l3)] dX6_add_3 (by decide) rfl ?_
  refine z_sub (lv' := [(0, .ref a_t), (1, .long L1), (4, .int (l3 - 1))]) [1, 2, 0] rfl ?_
  exact z_X6_add_5 hC hN (N := N) (a_t := a_t) (a_t_bytes := a_t_bytes) (L1 := L1) hQ  N t_length t_bytes (l3 - 1) hR
set_option maxHeartbeats 4000000 in
set_option maxRecDepth 100000 in
theorem c_X6_add {sK sV : Nat → Nat} {l : Launch} {D : va_G} {cI cB cZ : ClassId} {N : Nat} {a_t : Nat} {a_t_bytes : Nat} {t_length : Int32} {t_bytes : (Nat → Int32)} {L1 : Int64} {l3 : Int32} : ∀ R : Int32 × (Nat → Int32), o_X6_add N t_length t_bytes L1 l3 = some R → ZMv sK sV l yX6_add wsX6_add rmX6_add D (zty cI cB cZ) [.ref a_t, .long L1, .int l3] [(a_t, .inr (6, [.ref a_t_bytes, .int t_length])), (a_t_bytes, .inl (cB, 200, .inl t_bytes))] [(a_t, .inr (6, [.ref a_t_bytes, .int R.1])), (a_t_bytes, .inl (cB, 200, .inl R.2))] := by
  intro R hR
  refine zv_of (cc := cX6_add) (maxL := 5) (ret := none) (by decide) rfl (Nat.le_of_ble_eq_true rfl) (fun E hE1 hE2 hC hN hQ => ?_)
  subst hE1 hE2
  exact z_X6_add_0 hC hN (N := N) (a_t := a_t) (a_t_bytes := a_t_bytes) (t_length := t_length) (t_bytes := t_bytes) (L1 := L1) (l3 := l3) hQ hR

/-! FistTrains$Tape.at -/
abbrev rmX6_at : Room := { frames := 0, cells := 0, slots := 0, locals := 0 }
set_option maxRecDepth 20000 in
theorem iX6_at_X6 : ∀ w ∈ wsX60, w ∈ wsX6_at := by decide +kernel
set_option maxRecDepth 20000 in
theorem mX6_at_1 : Cond.fieldLink RX6 13 "FistTrains$Tape" "length" "I" ∈ wsX6_at := List.mem_of_getElem? (i := 1) rfl
set_option maxRecDepth 20000 in
theorem mX6_at_2 : Cond.fieldLink RX6 9 "FistTrains$Tape" "bytes" "[B" ∈ wsX6_at := List.mem_of_getElem? (i := 2) rfl
def o_X6_at (N : Nat) (t_length : Int32) (t_bytes : (Nat → Int32)) (l1 : Int32) : Option (Int32) :=
  if t_length ≤ l1 then
    some (0)
  else
    ogd (inb l1 200) (
    some ((t_bytes (Int32.toNatClampNeg l1))))
set_option maxHeartbeats 4000000 in
set_option maxRecDepth 100000 in
theorem z_X6_at_0 {sK sV : Nat → Nat} {E : ZE} {cI cB cZ : ClassId} (hC : ZC E 2 cX6_at wsX6_at RX6 rmX6_at (some .int) (zty cI cB cZ)) (hN : ZN sK sV (zA E) (zs E)) {N : Nat} {a_t : Nat} {a_t_bytes : Nat} {t_length : Int32} {t_bytes : (Nat → Int32)} {l1 : Int32} {rf : Int32} (hQ : ZQi E (zty cI cB cZ) rf [(a_t, .inr (6, [.ref a_t_bytes, .int t_length])), (a_t_bytes, .inl (cB, 200, .inl t_bytes))]) (hR : o_X6_at N t_length t_bytes l1 = some rf) : Z E (0, 0) [(0, .ref a_t), (1, .int l1)] 0 [] [(a_t, .inr (6, [.ref a_t_bytes, .int t_length])), (a_t_bytes, .inl (cB, 200, .inl t_bytes))] := by
  rw [o_X6_at] at hR
  refine z_iload_n hC dX6_at_0 rfl 1 rfl ?_
  refine z_aload_n hC dX6_at_1 rfl 0 rfl ?_
  refine z_get hC iX6_at_X6 rfl 0 1 rfl (by decide) mX6_at_1 rfl rfl dX6_at_2 ?_
  refine z_icmp_ge hC 17 dX6_at_5 (by decide) hR (fun hR => ?_) (fun hR => ?_)
  · refine z_ic0 hC dX6_at_17 ?_
    obtain rfl := Option.some.inj hR
    exact z_iret hC hQ rfl rfl rfl dX6_at_18
  · refine z_aload_n hC dX6_at_8 rfl 0 rfl ?_
    refine z_get hC iX6_at_X6 rfl 0 0 rfl (by decide) mX6_at_2 rfl rfl dX6_at_9 ?_
    refine z_iload_n hC dX6_at_12 rfl 1 rfl ?_
    refine z_bald hC 1 1 rfl rfl dX6_at_13 hR (fun hR => ?_)
    refine z_goto hC 18 dX6_at_14 (by decide) ?_
    obtain rfl := Option.some.inj hR
    exact z_iret hC hQ rfl rfl rfl dX6_at_18
set_option maxHeartbeats 4000000 in
set_option maxRecDepth 100000 in
theorem c_X6_at {sK sV : Nat → Nat} {l : Launch} {D : va_G} {cI cB cZ : ClassId} {N : Nat} {a_t : Nat} {a_t_bytes : Nat} {t_length : Int32} {t_bytes : (Nat → Int32)} {l1 : Int32} : ∀ R : Int32, o_X6_at N t_length t_bytes l1 = some R → ZMi sK sV l yX6_at wsX6_at rmX6_at D (zty cI cB cZ) [.ref a_t, .int l1] [(a_t, .inr (6, [.ref a_t_bytes, .int t_length])), (a_t_bytes, .inl (cB, 200, .inl t_bytes))] R [(a_t, .inr (6, [.ref a_t_bytes, .int t_length])), (a_t_bytes, .inl (cB, 200, .inl t_bytes))] := by
  intro R hR
  refine zi_of (cc := cX6_at) (maxL := 2) (ret := (some .int)) (by decide) rfl (Nat.le_of_ble_eq_true rfl) (fun E hE1 hE2 hC hN hQ => ?_)
  subst hE1 hE2
  exact z_X6_at_0 hC hN (N := N) (a_t := a_t) (a_t_bytes := a_t_bytes) (t_length := t_length) (t_bytes := t_bytes) (l1 := l1) hQ hR

/-! FistTrains$Reader.isBlank -/
abbrev rmX4_isBlank : Room := { frames := 0, cells := 0, slots := 0, locals := 0 }
def o_X4_isBlank (N : Nat) (l0 : Int32) : Option (Int32) :=
  if l0 = 32 then
    some (1)
  else
    if l0 = 10 then
      some (1)
    else
      some (0)
set_option maxHeartbeats 4000000 in
set_option maxRecDepth 100000 in
theorem z_X4_isBlank_0 {sK sV : Nat → Nat} {E : ZE} {cI cB cZ : ClassId} (hC : ZC E 1 cX4_isBlank wsX4_isBlank RX4 rmX4_isBlank (some .boolean) (zty cI cB cZ)) (hN : ZN sK sV (zA E) (zs E)) {N : Nat} {l0 : Int32} {rf : Int32} (hQ : ZQi E (zty cI cB cZ) rf []) (hR : o_X4_isBlank N l0 = some rf) : Z E (0, 0) [(0, .int l0)] 0 [] [] := by
  rw [o_X4_isBlank] at hR
  refine z_iload_n hC dX4_isBlank_0 rfl 0 rfl ?_
  refine z_bipush (v := 32) hC dX4_isBlank_1 (by decide) ?_
  refine z_icmp_eq hC 12 dX4_isBlank_3 (by decide) hR (fun hR => ?_) (fun hR => ?_)
  · refine z_ic1 hC dX4_isBlank_12 ?_
    refine z_goto hC 17 dX4_isBlank_13 (by decide) ?_
    obtain rfl := Option.some.inj hR
    exact z_iret hC hQ rfl rfl rfl dX4_isBlank_17
  · refine z_iload_n hC dX4_isBlank_6 rfl 0 rfl ?_
    refine z_bipush (v := 10) hC dX4_isBlank_7 (by decide) ?_
    refine z_icmp_ne hC 16 dX4_isBlank_9 (by decide) hR (fun hR => ?_) (fun hR => ?_)
    · refine z_ic0 hC dX4_isBlank_16 ?_
      obtain rfl := Option.some.inj hR
      exact z_iret hC hQ rfl rfl rfl dX4_isBlank_17
    · refine z_ic1 hC dX4_isBlank_12 ?_
      refine z_goto hC 17 dX4_isBlank_13 (by decide) ?_
      obtain rfl := Option.some.inj hR
      exact z_iret hC hQ rfl rfl rfl dX4_isBlank_17
set_option maxHeartbeats 4000000 in
set_option maxRecDepth 100000 in
theorem c_X4_isBlank {sK sV : Nat → Nat} {l : Launch} {D : va_G} {cI cB cZ : ClassId} {N : Nat} {l0 : Int32} : ∀ R : Int32, o_X4_isBlank N l0 = some R → ZMi sK sV l yX4_isBlank wsX4_isBlank rmX4_isBlank D (zty cI cB cZ) [.int l0] [] R [] := by
  intro R hR
  refine zi_of (cc := cX4_isBlank) (maxL := 1) (ret := (some .boolean)) (by decide) rfl (Nat.le_of_ble_eq_true rfl) (fun E hE1 hE2 hC hN hQ => ?_)
  subst hE1 hE2
  exact z_X4_isBlank_0 hC hN (N := N) (l0 := l0) hQ hR

/-! FistTrains$Reader.isLetter -/
abbrev rmX4_isLetter : Room := { frames := 0, cells := 0, slots := 0, locals := 0 }
def o_X4_isLetter (N : Nat) (l0 : Int32) : Option (Int32) :=
  if l0 < 97 then
    some (0)
  else
    if 122 < l0 then
      some (0)
    else
      some (1)
set_option maxHeartbeats 4000000 in
set_option maxRecDepth 100000 in
theorem z_X4_isLetter_0 {sK sV : Nat → Nat} {E : ZE} {cI cB cZ : ClassId} (hC : ZC E 1 cX4_isLetter wsX4_isLetter RX4 rmX4_isLetter (some .boolean) (zty cI cB cZ)) (hN : ZN sK sV (zA E) (zs E)) {N : Nat} {l0 : Int32} {rf : Int32} (hQ : ZQi E (zty cI cB cZ) rf []) (hR : o_X4_isLetter N l0 = some rf) : Z E (0, 0) [(0, .int l0)] 0 [] [] := by
  rw [o_X4_isLetter] at hR
  refine z_iload_n hC dX4_isLetter_0 rfl 0 rfl ?_
  refine z_bipush (v := 97) hC dX4_isLetter_1 (by decide) ?_
  refine z_icmp_lt hC 16 dX4_isLetter_3 (by decide) hR (fun hR => ?_) (fun hR => ?_)
  · refine z_ic0 hC dX4_isLetter_16 ?_
    obtain rfl := Option.some.inj hR
    exact z_iret hC hQ rfl rfl rfl dX4_isLetter_17
  · refine z_iload_n hC dX4_isLetter_6 rfl 0 rfl ?_
    refine z_bipush (v := 122) hC dX4_isLetter_7 (by decide) ?_
    refine z_icmp_gt hC 16 dX4_isLetter_9 (by decide) hR (fun hR => ?_) (fun hR => ?_)
    · refine z_ic0 hC dX4_isLetter_16 ?_
      obtain rfl := Option.some.inj hR
      exact z_iret hC hQ rfl rfl rfl dX4_isLetter_17
    · refine z_ic1 hC dX4_isLetter_12 ?_
      refine z_goto hC 17 dX4_isLetter_13 (by decide) ?_
      obtain rfl := Option.some.inj hR
      exact z_iret hC hQ rfl rfl rfl dX4_isLetter_17
set_option maxHeartbeats 4000000 in
set_option maxRecDepth 100000 in
theorem c_X4_isLetter {sK sV : Nat → Nat} {l : Launch} {D : va_G} {cI cB cZ : ClassId} {N : Nat} {l0 : Int32} : ∀ R : Int32, o_X4_isLetter N l0 = some R → ZMi sK sV l yX4_isLetter wsX4_isLetter rmX4_isLetter D (zty cI cB cZ) [.int l0] [] R [] := by
  intro R hR
  refine zi_of (cc := cX4_isLetter) (maxL := 1) (ret := (some .boolean)) (by decide) rfl (Nat.le_of_ble_eq_true rfl) (fun E hE1 hE2 hC hN hQ => ?_)
  subst hE1 hE2
  exact z_X4_isLetter_0 hC hN (N := N) (l0 := l0) hQ hR

/-! FistTrains$Reader.stepName -/
abbrev rmX4_stepName : Room := { frames := 1, cells := 0, slots := 0, locals := 21 }
set_option maxRecDepth 20000 in
theorem iX4_stepName_X4 : ∀ w ∈ wsX40, w ∈ wsX4_stepName := by decide +kernel
set_option maxRecDepth 20000 in
theorem mX4_stepName_1 : Cond.fieldLink RX4 15 "FistTrains$Reader" "token" "I" ∈ wsX4_stepName := List.mem_of_getElem? (i := 1) rfl
set_option maxRecDepth 20000 in
theorem mX4_stepName_2 : Cond.fieldLink RX4 22 "FistTrains$Reader" "past" "I" ∈ wsX4_stepName := List.mem_of_getElem? (i := 2) rfl
set_option maxRecDepth 20000 in
theorem mX4_stepName_3 : Cond.fieldLink RX4 9 "FistTrains$Reader" "text" "LFistTrains$Tape;" ∈ wsX4_stepName := List.mem_of_getElem? (i := 3) rfl
set_option maxRecDepth 20000 in
theorem iX4_stepName_X6 : ∀ w ∈ wsX60, w ∈ wsX4_stepName := by decide +kernel
set_option maxRecDepth 20000 in
theorem mX4_stepName_4 : Cond.fieldLink RX4 86 "FistTrains$Tape" "length" "I" ∈ wsX4_stepName := List.mem_of_getElem? (i := 4) rfl
def o_X4_stepName_5 (N : Nat) (t_token : Int32) (t_text_length : Int32) (t_text_bytes : (Nat → Int32)) : Nat → Int32 → Option (Int32 × Int32)
  | 0 => fun _ => none
  | n + 1 => fun t_past => 
    if t_text_length ≤ t_past then
      some (t_token, t_past)
    else
      Option.bind (o_X6_at N t_text_length t_text_bytes t_past) (fun r27 =>
      Option.bind (o_X4_isLetter N r27) (fun r30 =>
      if r30 = 0 then
        some (t_token, t_past)
      else
        o_X4_stepName_5 N t_token t_text_length t_text_bytes n (t_past + 1)))
def o_X4_stepName (N : Nat) (t_past : Int32) (t_text_length : Int32) (t_text_bytes : (Nat → Int32)) : Option (Int32 × Int32) :=
  o_X4_stepName_5 N 1 t_text_length t_text_bytes N t_past
set_option maxHeartbeats 4000000 in
set_option maxRecDepth 100000 in
theorem z_X4_stepName_5 {sK sV : Nat → Nat} {E : ZE} {cI cB cZ : ClassId} (hC : ZC E 1 cX4_stepName wsX4_stepName RX4 rmX4_stepName none (zty cI cB cZ)) (hN : ZN sK sV (zA E) (zs E)) {N : Nat} {a_t : Nat} {a_t_text : Nat} {a_t_text_bytes : Nat} {t_token : Int32} {t_start : Int32} {t_value : Int32} {t_text_length : Int32} {t_text_bytes : (Nat → Int32)} {rf : Int32 × Int32} (hQ : ZQv E (zty cI cB cZ) [(a_t, .inr (4, [.ref a_t_text, .int rf.1, .int t_start, .int rf.2, .int t_value])), (a_t_text, .inr (6, [.ref a_t_text_bytes, .int t_text_length])), (a_t_text_bytes, .inl (cB, 200, .inl t_text_bytes))]) : ∀ (n : Nat) (t_past : Int32), o_X4_stepName_5 N t_token t_text_length t_text_bytes n t_past = some rf → Z E (0, 0) [(0, .ref a_t)] 5 [] [(a_t, .inr (4, [.ref a_t_text, .int t_token, .int t_start, .int t_past, .int t_value])), (a_t_text, .inr (6, [.ref a_t_text_bytes, .int t_text_length])), (a_t_text_bytes, .inl (cB, 200, .inl t_text_bytes))] := by
  intro n
  induction n with
  | zero =>
    intro t_past hR
    cases hR
  | succ n ih =>
    intro t_past hR
    rw [o_X4_stepName_5] at hR
    refine z_aload_n hC dX4_stepName_5 rfl 0 rfl ?_
    refine z_get hC iX4_stepName_X4 rfl 0 3 rfl (by decide) mX4_stepName_2 rfl rfl dX4_stepName_6 ?_
    refine z_aload_n hC dX4_stepName_9 rfl 0 rfl ?_
    refine z_get hC iX4_stepName_X4 rfl 0 0 rfl (by decide) mX4_stepName_3 rfl rfl dX4_stepName_10 ?_
    refine z_get hC iX4_stepName_X6 rfl 1 1 rfl (by decide) mX4_stepName_4 rfl rfl dX4_stepName_13 ?_
    refine z_icmp_ge hC 49 dX4_stepName_16 (by decide) hR (fun hR => ?_) (fun hR => ?_)
    · obtain rfl := Option.some.inj hR
      exact z_vret hC hQ rfl dX4_stepName_49
    · refine z_aload_n hC dX4_stepName_19 rfl 0 rfl ?_
      refine z_get hC iX4_stepName_X4 rfl 0 0 rfl (by decide) mX4_stepName_3 rfl rfl dX4_stepName_20 ?_
      refine z_aload_n hC dX4_stepName_23 rfl 0 rfl ?_
      refine z_get hC iX4_stepName_X4 rfl 0 3 rfl (by decide) mX4_stepName_2 rfl rfl dX4_stepName_24 ?_
      refine z_callVi_p hC hN [.int t_past] [1, 2] (c_X6_at (l := zl E) (D := zD E) (cI := cI) (cB := cB) (cZ := cZ) (N := N) (a_t := a_t_text) (a_t_bytes := a_t_text_bytes) (l1 := t_past) (t_length := t_text_length) (t_bytes := t_text_bytes)) rfl ⟨rfl, rfl⟩ gX4_stepName_X6_at hvX6_at 1 6 rfl rfl rfl ⟨Nat.le_of_ble_eq_true rfl, Nat.le_of_ble_eq_true rfl⟩ ⟨Nat.zero_le _, Nat.zero_le _⟩ rfl (Nat.le_of_ble_eq_true rfl) rfl (by decide) dX4_stepName_27 hR (fun r27 hR => ?_)
      refine z_callSi_p hC hN [.int r27] [] (c_X4_isLetter (l := zl E) (D := zD E) (cI := cI) (cB := cB) (cZ := cZ) (N := N) (l0 := r27)) rfl ⟨rfl, rfl⟩ gX4_stepName_X4_isLetter hsX4_isLetter ⟨Nat.le_of_ble_eq_true rfl, Nat.le_of_ble_eq_true rfl⟩ ⟨Nat.zero_le _, Nat.zero_le _⟩ rfl (Nat.le_of_ble_eq_true rfl) rfl (by decide) dX4_stepName_30 hR (fun r30 hR => ?_)
      refine z_if_eq hC 49 dX4_stepName_33 (by decide) hR (fun hR => ?_) (fun hR => ?_)
      · obtain rfl := Option.some.inj hR
        exact z_vret hC hQ rfl dX4_stepName_49
      · refine z_aload_n hC dX4_stepName_36 rfl 0 rfl ?_
        refine z_dup hC dX4_stepName_37 rfl ?_
        refine z_get hC iX4_stepName_X4 rfl 0 3 rfl (by decide) mX4_stepName_2 rfl rfl dX4_stepName_38 ?_
        refine z_ic1 hC dX4_stepName_41 ?_
        refine z_iadd hC dX4_stepName_42 ?_
        refine z_put hC iX4_stepName_X4 tyX4_ok nmX4 rfl 0 3 rfl (by decide) mX4_stepName_2 rfl rfl rfl rfl (Nat.le_of_ble_eq_true rfl) dX4_stepName_43 ?_
        refine z_goto hC 5 dX4_stepName_46 (by decide) ?_
        exact ih (t_past + 1) hR
set_option maxHeartbeats 4000000 in
set_option maxRecDepth 100000 in
theorem z_X4_stepName_0 {sK sV : Nat → Nat} {E : ZE} {cI cB cZ : ClassId} (hC : ZC E 1 cX4_stepName wsX4_stepName RX4 rmX4_stepName none (zty cI cB cZ)) (hN : ZN sK sV (zA E) (zs E)) {N : Nat} {a_t : Nat} {a_t_text : Nat} {a_t_text_bytes : Nat} {t_token : Int32} {t_start : Int32} {t_past : Int32} {t_value : Int32} {t_text_length : Int32} {t_text_bytes : (Nat → Int32)} {rf : Int32 × Int32} (hQ : ZQv E (zty cI cB cZ) [(a_t, .inr (4, [.ref a_t_text, .int rf.1, .int t_start, .int rf.2, .int t_value])), (a_t_text, .inr (6, [.ref a_t_text_bytes, .int t_text_length])), (a_t_text_bytes, .inl (cB, 200, .inl t_text_bytes))]) (hR : o_X4_stepName N t_past t_text_length t_text_bytes = some rf) : Z E (0, 0) [(0, .ref a_t)] 0 [] [(a_t, .inr (4, [.ref a_t_text, .int t_token, .int t_start, .int t_past, .int t_value])), (a_t_text, .inr (6, [.ref a_t_text_bytes, .int t_text_length])), (a_t_text_bytes, .inl (cB, 200, .inl t_text_bytes))] := by
  rw [o_X4_stepName] at hR
  refine z_aload_n hC dX4_stepName_0 rfl 0 rfl ?_
  refine z_ic1 hC dX4_stepName_1 ?_
  refine z_put hC iX4_stepName_X4 tyX4_ok nmX4 rfl 0 1 rfl (by decide) mX4_stepName_1 rfl rfl rfl rfl (Nat.le_of_ble_eq_true rfl) dX4_stepName_2 ?_
  exact z_X4_stepName_5 hC hN (N := N) (a_t := a_t) (a_t_text := a_t_text) (a_t_text_bytes := a_t_text_bytes) (t_token := 1) (t_start := t_start) (t_value := t_value) (t_text_length := t_text_length) (t_text_bytes := t_text_bytes) hQ  N t_past hR
set_option maxHeartbeats 4000000 in
set_option maxRecDepth 100000 in
theorem c_X4_stepName {sK sV : Nat → Nat} {l : Launch} {D : va_G} {cI cB cZ : ClassId} {N : Nat} {a_t : Nat} {a_t_text : Nat} {a_t_text_bytes : Nat} {t_token : Int32} {t_start : Int32} {t_past : Int32} {t_value : Int32} {t_text_length : Int32} {t_text_bytes : (Nat → Int32)} : ∀ R : Int32 × Int32, o_X4_stepName N t_past t_text_length t_text_bytes = some R → ZMv sK sV l yX4_stepName wsX4_stepName rmX4_stepName D (zty cI cB cZ) [.ref a_t] [(a_t, .inr (4, [.ref a_t_text, .int t_token, .int t_start, .int t_past, .int t_value])), (a_t_text, .inr (6, [.ref a_t_text_bytes, .int t_text_length])), (a_t_text_bytes, .inl (cB, 200, .inl t_text_bytes))] [(a_t, .inr (4, [.ref a_t_text, .int R.1, .int t_start, .int R.2, .int t_value])), (a_t_text, .inr (6, [.ref a_t_text_bytes, .int t_text_length])), (a_t_text_bytes, .inl (cB, 200, .inl t_text_bytes))] := by
  intro R hR
  refine zv_of (cc := cX4_stepName) (maxL := 1) (ret := none) (by decide) rfl (Nat.le_of_ble_eq_true rfl) (fun E hE1 hE2 hC hN hQ => ?_)
  subst hE1 hE2
  exact z_X4_stepName_0 hC hN (N := N) (a_t := a_t) (a_t_text := a_t_text) (a_t_text_bytes := a_t_text_bytes) (t_token := t_token) (t_start := t_start) (t_past := t_past) (t_value := t_value) (t_text_length := t_text_length) (t_text_bytes := t_text_bytes) hQ hR

/-! FistTrains$Reader.isFigure -/
abbrev rmX4_isFigure : Room := { frames := 0, cells := 0, slots := 0, locals := 0 }
def o_X4_isFigure (N : Nat) (l0 : Int32) : Option (Int32) :=
  if l0 < 48 then
    some (0)
  else
    if 57 < l0 then
      some (0)
    else
      some (1)
set_option maxHeartbeats 4000000 in
set_option maxRecDepth 100000 in
theorem z_X4_isFigure_0 {sK sV : Nat → Nat} {E : ZE} {cI cB cZ : ClassId} (hC : ZC E 1 cX4_isFigure wsX4_isFigure RX4 rmX4_isFigure (some .boolean) (zty cI cB cZ)) (hN : ZN sK sV (zA E) (zs E)) {N : Nat} {l0 : Int32} {rf : Int32} (hQ : ZQi E (zty cI cB cZ) rf []) (hR : o_X4_isFigure N l0 = some rf) : Z E (0, 0) [(0, .int l0)] 0 [] [] := by
  rw [o_X4_isFigure] at hR
  refine z_iload_n hC dX4_isFigure_0 rfl 0 rfl ?_
  refine z_bipush (v := 48) hC dX4_isFigure_1 (by decide) ?_
  refine z_icmp_lt hC 16 dX4_isFigure_3 (by decide) hR (fun hR => ?_) (fun hR => ?_)
  · refine z_ic0 hC dX4_isFigure_16 ?_
    obtain rfl := Option.some.inj hR
    exact z_iret hC hQ rfl rfl rfl dX4_isFigure_17
  · refine z_iload_n hC dX4_isFigure_6 rfl 0 rfl ?_
    refine z_bipush (v := 57) hC dX4_isFigure_7 (by decide) ?_
    refine z_icmp_gt hC 16 dX4_isFigure_9 (by decide) hR (fun hR => ?_) (fun hR => ?_)
    · refine z_ic0 hC dX4_isFigure_16 ?_
      obtain rfl := Option.some.inj hR
      exact z_iret hC hQ rfl rfl rfl dX4_isFigure_17
    · refine z_ic1 hC dX4_isFigure_12 ?_
      refine z_goto hC 17 dX4_isFigure_13 (by decide) ?_
      obtain rfl := Option.some.inj hR
      exact z_iret hC hQ rfl rfl rfl dX4_isFigure_17
set_option maxHeartbeats 4000000 in
set_option maxRecDepth 100000 in
theorem c_X4_isFigure {sK sV : Nat → Nat} {l : Launch} {D : va_G} {cI cB cZ : ClassId} {N : Nat} {l0 : Int32} : ∀ R : Int32, o_X4_isFigure N l0 = some R → ZMi sK sV l yX4_isFigure wsX4_isFigure rmX4_isFigure D (zty cI cB cZ) [.int l0] [] R [] := by
  intro R hR
  refine zi_of (cc := cX4_isFigure) (maxL := 1) (ret := (some .boolean)) (by decide) rfl (Nat.le_of_ble_eq_true rfl) (fun E hE1 hE2 hC hN hQ => ?_)
  subst hE1 hE2
  exact z_X4_isFigure_0 hC hN (N := N) (l0 := l0) hQ hR

/-! FistTrains$Reader.stepNumber -/
abbrev rmX4_stepNumber : Room := { frames := 1, cells := 0, slots := 0, locals := 21 }
set_option maxRecDepth 20000 in
theorem iX4_stepNumber_X4 : ∀ w ∈ wsX40, w ∈ wsX4_stepNumber := by decide +kernel
set_option maxRecDepth 20000 in
theorem mX4_stepNumber_1 : Cond.fieldLink RX4 25 "FistTrains$Reader" "value" "I" ∈ wsX4_stepNumber := List.mem_of_getElem? (i := 1) rfl
set_option maxRecDepth 20000 in
theorem mX4_stepNumber_2 : Cond.fieldLink RX4 22 "FistTrains$Reader" "past" "I" ∈ wsX4_stepNumber := List.mem_of_getElem? (i := 2) rfl
set_option maxRecDepth 20000 in
theorem mX4_stepNumber_3 : Cond.fieldLink RX4 9 "FistTrains$Reader" "text" "LFistTrains$Tape;" ∈ wsX4_stepNumber := List.mem_of_getElem? (i := 3) rfl
set_option maxRecDepth 20000 in
theorem iX4_stepNumber_X6 : ∀ w ∈ wsX60, w ∈ wsX4_stepNumber := by decide +kernel
set_option maxRecDepth 20000 in
theorem mX4_stepNumber_4 : Cond.fieldLink RX4 86 "FistTrains$Tape" "length" "I" ∈ wsX4_stepNumber := List.mem_of_getElem? (i := 4) rfl
set_option maxRecDepth 20000 in
theorem mX4_stepNumber_5 : Cond.fieldLink RX4 19 "FistTrains$Reader" "start" "I" ∈ wsX4_stepNumber := List.mem_of_getElem? (i := 5) rfl
set_option maxRecDepth 20000 in
theorem mX4_stepNumber_6 : Cond.fieldLink RX4 15 "FistTrains$Reader" "token" "I" ∈ wsX4_stepNumber := List.mem_of_getElem? (i := 6) rfl
def o_X4_stepNumber_79 (N : Nat) (K5 : Int32 → Int32 → Option (Int32 × Int32 × Int32)) (t_start : Int32) (t_past : Int32) (t_text_length : Int32) (t_text_bytes : (Nat → Int32)) (s1 : Int32) : Option (Int32 × Int32 × Int32) :=
  K5 (t_past + 1) s1
def o_X4_stepNumber_95 (N : Nat) (t_start : Int32) (t_past : Int32) (t_value : Int32) : Option (Int32 × Int32 × Int32) :=
  if (t_past - t_start) ≤ 3 then
    some (2, t_past, t_value)
  else
    some (4, t_past, t_value)
def o_X4_stepNumber_5 (N : Nat) (t_start : Int32) (t_text_length : Int32) (t_text_bytes : (Nat → Int32)) : Nat → Int32 → Int32 → Option (Int32 × Int32 × Int32)
  | 0 => fun _ _ => none
  | n + 1 => fun t_past t_value => 
    if t_text_length ≤ t_past then
      o_X4_stepNumber_95 N t_start t_past t_value
    else
      Option.bind (o_X6_at N t_text_length t_text_bytes t_past) (fun r27 =>
      Option.bind (o_X4_isFigure N r27) (fun r30 =>
      if r30 = 0 then
        o_X4_stepNumber_95 N t_start t_past t_value
      else
        if 3 ≤ (t_past - t_start) then
          o_X4_stepNumber_79 N (o_X4_stepNumber_5 N t_start t_text_length t_text_bytes n) t_start t_past t_text_length t_text_bytes t_value
        else
          Option.bind (o_X6_at N t_text_length t_text_bytes t_past) (fun r65 =>
          o_X4_stepNumber_79 N (o_X4_stepNumber_5 N t_start t_text_length t_text_bytes n) t_start t_past t_text_length t_text_bytes (((t_value * 10) + r65) - 48))))
def o_X4_stepNumber (N : Nat) (t_start : Int32) (t_past : Int32) (t_text_length : Int32) (t_text_bytes : (Nat → Int32)) : Option (Int32 × Int32 × Int32) :=
  o_X4_stepNumber_5 N t_start t_text_length t_text_bytes N t_past 0
set_option maxHeartbeats 4000000 in
set_option maxRecDepth 100000 in
theorem z_X4_stepNumber_79 {sK sV : Nat → Nat} {E : ZE} {cI cB cZ : ClassId} (hC : ZC E 1 cX4_stepNumber wsX4_stepNumber RX4 rmX4_stepNumber none (zty cI cB cZ)) (hN : ZN sK sV (zA E) (zs E)) {N : Nat} {a_t : Nat} {a_t_text : Nat} {a_t_text_bytes : Nat} {t_token : Int32} {t_start : Int32} {t_past : Int32} {t_value : Int32} {t_text_length : Int32} {t_text_bytes : (Nat → Int32)} {s1 : Int32} {K5 : Int32 → Int32 → Option (Int32 × Int32 × Int32)} {rf : Int32 × Int32 × Int32} (hQ : ZQv E (zty cI cB cZ) [(a_t, .inr (4, [.ref a_t_text, .int rf.1, .int t_start, .int rf.2.1, .int rf.2.2])), (a_t_text, .inr (6, [.ref a_t_text_bytes, .int t_text_length])), (a_t_text_bytes, .inl (cB, 200, .inl t_text_bytes))]) (hK5 : ∀ (t_past : Int32) (t_value : Int32), K5 t_past t_value = some rf → Z E (0, 0) [(0, .ref a_t)] 5 [] [(a_t, .inr (4, [.ref a_t_text, .int t_token, .int t_start, .int t_past, .int t_value])), (a_t_text, .inr (6, [.ref a_t_text_bytes, .int t_text_length])), (a_t_text_bytes, .inl (cB, 200, .inl t_text_bytes))]) (hR : o_X4_stepNumber_79 N K5 t_start t_past t_text_length t_text_bytes s1 = some rf) : Z E (0, 0) [(0, .ref a_t)] 79 [.int s1, .ref a_t] [(a_t, .inr (4, [.ref a_t_text, .int t_token, .int t_start, .int t_past, .int t_value])), (a_t_text, .inr (6, [.ref a_t_text_bytes, .int t_text_length])), (a_t_text_bytes, .inl (cB, 200, .inl t_text_bytes))] := by
  rw [o_X4_stepNumber_79] at hR
  refine z_put hC iX4_stepNumber_X4 tyX4_ok nmX4 rfl 0 4 rfl (by decide) mX4_stepNumber_1 rfl rfl rfl rfl (Nat.le_of_ble_eq_true rfl) dX4_stepNumber_79 ?_
  refine z_aload_n hC dX4_stepNumber_82 rfl 0 rfl ?_
  refine z_dup hC dX4_stepNumber_83 rfl ?_
  refine z_get hC iX4_stepNumber_X4 rfl 0 3 rfl (by decide) mX4_stepNumber_2 rfl rfl dX4_stepNumber_84 ?_
  refine z_ic1 hC dX4_stepNumber_87 ?_
  refine z_iadd hC dX4_stepNumber_88 ?_
  refine z_put hC iX4_stepNumber_X4 tyX4_ok nmX4 rfl 0 3 rfl (by decide) mX4_stepNumber_2 rfl rfl rfl rfl (Nat.le_of_ble_eq_true rfl) dX4_stepNumber_89 ?_
  refine z_goto hC 5 dX4_stepNumber_92 (by decide) ?_
  exact hK5 (t_past + 1) s1 hR
set_option maxHeartbeats 4000000 in
set_option maxRecDepth 100000 in
theorem z_X4_stepNumber_95 {sK sV : Nat → Nat} {E : ZE} {cI cB cZ : ClassId} (hC : ZC E 1 cX4_stepNumber wsX4_stepNumber RX4 rmX4_stepNumber none (zty cI cB cZ)) (hN : ZN sK sV (zA E) (zs E)) {N : Nat} {a_t : Nat} {a_t_text : Nat} {a_t_text_bytes : Nat} {t_token : Int32} {t_start : Int32} {t_past : Int32} {t_value : Int32} {t_text_length : Int32} {t_text_bytes : (Nat → Int32)} {rf : Int32 × Int32 × Int32} (hQ : ZQv E (zty cI cB cZ) [(a_t, .inr (4, [.ref a_t_text, .int rf.1, .int t_start, .int rf.2.1, .int rf.2.2])), (a_t_text, .inr (6, [.ref a_t_text_bytes, .int t_text_length])), (a_t_text_bytes, .inl (cB, 200, .inl t_text_bytes))]) (hR : o_X4_stepNumber_95 N t_start t_past t_value = some rf) : Z E (0, 0) [(0, .ref a_t)] 95 [] [(a_t, .inr (4, [.ref a_t_text, .int t_token, .int t_start, .int t_past, .int t_value])), (a_t_text, .inr (6, [.ref a_t_text_bytes, .int t_text_length])), (a_t_text_bytes, .inl (cB, 200, .inl t_text_bytes))] := by
  rw [o_X4_stepNumber_95] at hR
  refine z_aload_n hC dX4_stepNumber_95 rfl 0 rfl ?_
  refine z_aload_n hC dX4_stepNumber_96 rfl 0 rfl ?_
  refine z_get hC iX4_stepNumber_X4 rfl 0 3 rfl (by decide) mX4_stepNumber_2 rfl rfl dX4_stepNumber_97 ?_
  refine z_aload_n hC dX4_stepNumber_100 rfl 0 rfl ?_
  refine z_get hC iX4_stepNumber_X4 rfl 0 2 rfl (by decide) mX4_stepNumber_5 rfl rfl dX4_stepNumber_101 ?_
  refine z_isub hC dX4_stepNumber_104 ?_
  refine z_ic3 hC dX4_stepNumber_105 ?_
  refine z_icmp_le hC 113 dX4_stepNumber_106 (by decide) hR (fun hR => ?_) (fun hR => ?_)
  · refine z_ic2 hC dX4_stepNumber_113 ?_
    refine z_put hC iX4_stepNumber_X4 tyX4_ok nmX4 rfl 0 1 rfl (by decide) mX4_stepNumber_6 rfl rfl rfl rfl (Nat.le_of_ble_eq_true rfl) dX4_stepNumber_114 ?_
    obtain rfl := Option.some.inj hR
    exact z_vret hC hQ rfl dX4_stepNumber_117
  · refine z_ic4 hC dX4_stepNumber_109 ?_
    refine z_goto hC 114 dX4_stepNumber_110 (by decide) ?_
    refine z_put hC iX4_stepNumber_X4 tyX4_ok nmX4 rfl 0 1 rfl (by decide) mX4_stepNumber_6 rfl rfl rfl rfl (Nat.le_of_ble_eq_true rfl) dX4_stepNumber_114 ?_
    obtain rfl := Option.some.inj hR
    exact z_vret hC hQ rfl dX4_stepNumber_117
set_option maxHeartbeats 4000000 in
set_option maxRecDepth 100000 in
theorem z_X4_stepNumber_5 {sK sV : Nat → Nat} {E : ZE} {cI cB cZ : ClassId} (hC : ZC E 1 cX4_stepNumber wsX4_stepNumber RX4 rmX4_stepNumber none (zty cI cB cZ)) (hN : ZN sK sV (zA E) (zs E)) {N : Nat} {a_t : Nat} {a_t_text : Nat} {a_t_text_bytes : Nat} {t_token : Int32} {t_start : Int32} {t_text_length : Int32} {t_text_bytes : (Nat → Int32)} {rf : Int32 × Int32 × Int32} (hQ : ZQv E (zty cI cB cZ) [(a_t, .inr (4, [.ref a_t_text, .int rf.1, .int t_start, .int rf.2.1, .int rf.2.2])), (a_t_text, .inr (6, [.ref a_t_text_bytes, .int t_text_length])), (a_t_text_bytes, .inl (cB, 200, .inl t_text_bytes))]) : ∀ (n : Nat) (t_past : Int32) (t_value : Int32), o_X4_stepNumber_5 N t_start t_text_length t_text_bytes n t_past t_value = some rf → Z E (0, 0) [(0, .ref a_t)] 5 [] [(a_t, .inr (4, [.ref a_t_text, .int t_token, .int t_start, .int t_past, .int t_value])), (a_t_text, .inr (6, [.ref a_t_text_bytes, .int t_text_length])), (a_t_text_bytes, .inl (cB, 200, .inl t_text_bytes))] := by
  intro n
  induction n with
  | zero =>
    intro t_past t_value hR
    cases hR
  | succ n ih =>
    intro t_past t_value hR
    rw [o_X4_stepNumber_5] at hR
    refine z_aload_n hC dX4_stepNumber_5 rfl 0 rfl ?_
    refine z_get hC iX4_stepNumber_X4 rfl 0 3 rfl (by decide) mX4_stepNumber_2 rfl rfl dX4_stepNumber_6 ?_
    refine z_aload_n hC dX4_stepNumber_9 rfl 0 rfl ?_
    refine z_get hC iX4_stepNumber_X4 rfl 0 0 rfl (by decide) mX4_stepNumber_3 rfl rfl dX4_stepNumber_10 ?_
    refine z_get hC iX4_stepNumber_X6 rfl 1 1 rfl (by decide) mX4_stepNumber_4 rfl rfl dX4_stepNumber_13 ?_
    refine z_icmp_ge hC 95 dX4_stepNumber_16 (by decide) hR (fun hR => ?_) (fun hR => ?_)
    · exact z_X4_stepNumber_95 hC hN (N := N) (a_t := a_t) (a_t_text := a_t_text) (a_t_text_bytes := a_t_text_bytes) (t_token := t_token) (t_start := t_start) (t_past := t_past) (t_value := t_value) (t_text_length := t_text_length) (t_text_bytes := t_text_bytes) hQ  hR
    · refine z_aload_n hC dX4_stepNumber_19 rfl 0 rfl ?_
      refine z_get hC iX4_stepNumber_X4 rfl 0 0 rfl (by decide) mX4_stepNumber_3 rfl rfl dX4_stepNumber_20 ?_
      refine z_aload_n hC dX4_stepNumber_23 rfl 0 rfl ?_
      refine z_get hC iX4_stepNumber_X4 rfl 0 3 rfl (by decide) mX4_stepNumber_2 rfl rfl dX4_stepNumber_24 ?_
      refine z_callVi_p hC hN [.int t_past] [1, 2] (c_X6_at (l := zl E) (D := zD E) (cI := cI) (cB := cB) (cZ := cZ) (N := N) (a_t := a_t_text) (a_t_bytes := a_t_text_bytes) (l1 := t_past) (t_length := t_text_length) (t_bytes := t_text_bytes)) rfl ⟨rfl, rfl⟩ gX4_stepNumber_X6_at hvX6_at 1 6 rfl rfl rfl ⟨Nat.le_of_ble_eq_true rfl, Nat.le_of_ble_eq_true rfl⟩ ⟨Nat.zero_le _, Nat.zero_le _⟩ rfl (Nat.le_of_ble_eq_true rfl) rfl (by decide) dX4_stepNumber_27 hR (fun r27 hR => ?_)
      refine z_callSi_p hC hN [.int r27] [] (c_X4_isFigure (l := zl E) (D := zD E) (cI := cI) (cB := cB) (cZ := cZ) (N := N) (l0 := r27)) rfl ⟨rfl, rfl⟩ gX4_stepNumber_X4_isFigure hsX4_isFigure ⟨Nat.le_of_ble_eq_true rfl, Nat.le_of_ble_eq_true rfl⟩ ⟨Nat.zero_le _, Nat.zero_le _⟩ rfl (Nat.le_of_ble_eq_true rfl) rfl (by decide) dX4_stepNumber_30 hR (fun r30 hR => ?_)
      refine z_if_eq hC 95 dX4_stepNumber_33 (by decide) hR (fun hR => ?_) (fun hR => ?_)
      · exact z_X4_stepNumber_95 hC hN (N := N) (a_t := a_t) (a_t_text := a_t_text) (a_t_text_bytes := a_t_text_bytes) (t_token := t_token) (t_start := t_start) (t_past := t_past) (t_value := t_value) (t_text_length := t_text_length) (t_text_bytes := t_text_bytes) hQ  hR
      · refine z_aload_n hC dX4_stepNumber_36 rfl 0 rfl ?_
        refine z_aload_n hC dX4_stepNumber_37 rfl 0 rfl ?_
        refine z_get hC iX4_stepNumber_X4 rfl 0 3 rfl (by decide) mX4_stepNumber_2 rfl rfl dX4_stepNumber_38 ?_
        refine z_aload_n hC dX4_stepNumber_41 rfl 0 rfl ?_
        refine z_get hC iX4_stepNumber_X4 rfl 0 2 rfl (by decide) mX4_stepNumber_5 rfl rfl dX4_stepNumber_42 ?_
        refine z_isub hC dX4_stepNumber_45 ?_
        refine z_ic3 hC dX4_stepNumber_46 ?_
        refine z_icmp_ge hC 75 dX4_stepNumber_47 (by decide) hR (fun hR => ?_) (fun hR => ?_)
        · refine z_aload_n hC dX4_stepNumber_75 rfl 0 rfl ?_
          refine z_get hC iX4_stepNumber_X4 rfl 0 4 rfl (by decide) mX4_stepNumber_1 rfl rfl dX4_stepNumber_76 ?_
          exact z_X4_stepNumber_79 hC hN (N := N) (a_t := a_t) (a_t_text := a_t_text) (a_t_text_bytes := a_t_text_bytes) (t_token := t_token) (t_start := t_start) (t_past := t_past) (t_value := t_value) (t_text_length := t_text_length) (t_text_bytes := t_text_bytes) (s1 := t_value) hQ ih hR
        · refine z_aload_n hC dX4_stepNumber_50 rfl 0 rfl ?_
          refine z_get hC iX4_stepNumber_X4 rfl 0 4 rfl (by decide) mX4_stepNumber_1 rfl rfl dX4_stepNumber_51 ?_
          refine z_bipush (v := 10) hC dX4_stepNumber_54 (by decide) ?_
          refine z_imul hC dX4_stepNumber_56 ?_
          refine z_aload_n hC dX4_stepNumber_57 rfl 0 rfl ?_
          refine z_get hC iX4_stepNumber_X4 rfl 0 0 rfl (by decide) mX4_stepNumber_3 rfl rfl dX4_stepNumber_58 ?_
          refine z_aload_n hC dX4_stepNumber_61 rfl 0 rfl ?_
          refine z_get hC iX4_stepNumber_X4 rfl 0 3 rfl (by decide) mX4_stepNumber_2 rfl rfl dX4_stepNumber_62 ?_
          refine z_callVi_p hC hN [.int t_past] [1, 2] (c_X6_at (l := zl E) (D := zD E) (cI := cI) (cB := cB) (cZ := cZ) (N := N) (a_t := a_t_text) (a_t_bytes := a_t_text_bytes) (l1 := t_past) (t_length := t_text_length) (t_bytes := t_text_bytes)) rfl ⟨rfl, rfl⟩ gX4_stepNumber_X6_at hvX6_at 1 6 rfl rfl rfl ⟨Nat.le_of_ble_eq_true rfl, Nat.le_of_ble_eq_true rfl⟩ ⟨Nat.zero_le _, Nat.zero_le _⟩ rfl (Nat.le_of_ble_eq_true rfl) rfl (by decide) dX4_stepNumber_65 hR (fun r65 hR => ?_)
          refine z_iadd hC dX4_stepNumber_68 ?_
          refine z_bipush (v := 48) hC dX4_stepNumber_69 (by decide) ?_
          refine z_isub hC dX4_stepNumber_71 ?_
          refine z_goto hC 79 dX4_stepNumber_72 (by decide) ?_
          exact z_X4_stepNumber_79 hC hN (N := N) (a_t := a_t) (a_t_text := a_t_text) (a_t_text_bytes := a_t_text_bytes) (t_token := t_token) (t_start := t_start) (t_past := t_past) (t_value := t_value) (t_text_length := t_text_length) (t_text_bytes := t_text_bytes) (s1 := (((t_value * 10) + r65) - 48)) hQ ih hR
set_option maxHeartbeats 4000000 in
set_option maxRecDepth 100000 in
theorem z_X4_stepNumber_0 {sK sV : Nat → Nat} {E : ZE} {cI cB cZ : ClassId} (hC : ZC E 1 cX4_stepNumber wsX4_stepNumber RX4 rmX4_stepNumber none (zty cI cB cZ)) (hN : ZN sK sV (zA E) (zs E)) {N : Nat} {a_t : Nat} {a_t_text : Nat} {a_t_text_bytes : Nat} {t_token : Int32} {t_start : Int32} {t_past : Int32} {t_value : Int32} {t_text_length : Int32} {t_text_bytes : (Nat → Int32)} {rf : Int32 × Int32 × Int32} (hQ : ZQv E (zty cI cB cZ) [(a_t, .inr (4, [.ref a_t_text, .int rf.1, .int t_start, .int rf.2.1, .int rf.2.2])), (a_t_text, .inr (6, [.ref a_t_text_bytes, .int t_text_length])), (a_t_text_bytes, .inl (cB, 200, .inl t_text_bytes))]) (hR : o_X4_stepNumber N t_start t_past t_text_length t_text_bytes = some rf) : Z E (0, 0) [(0, .ref a_t)] 0 [] [(a_t, .inr (4, [.ref a_t_text, .int t_token, .int t_start, .int t_past, .int t_value])), (a_t_text, .inr (6, [.ref a_t_text_bytes, .int t_text_length])), (a_t_text_bytes, .inl (cB, 200, .inl t_text_bytes))] := by
  rw [o_X4_stepNumber] at hR
  refine z_aload_n hC dX4_stepNumber_0 rfl 0 rfl ?_
  refine z_ic0 hC dX4_stepNumber_1 ?_
  refine z_put hC iX4_stepNumber_X4 tyX4_ok nmX4 rfl 0 4 rfl (by decide) mX4_stepNumber_1 rfl rfl rfl rfl (Nat.le_of_ble_eq_true rfl) dX4_stepNumber_2 ?_
  exact z_X4_stepNumber_5 hC hN (N := N) (a_t := a_t) (a_t_text := a_t_text) (a_t_text_bytes := a_t_text_bytes) (t_token := t_token) (t_start := t_start) (t_text_length := t_text_length) (t_text_bytes := t_text_bytes) hQ  N t_past 0 hR
set_option maxHeartbeats 4000000 in
set_option maxRecDepth 100000 in
theorem c_X4_stepNumber {sK sV : Nat → Nat} {l : Launch} {D : va_G} {cI cB cZ : ClassId} {N : Nat} {a_t : Nat} {a_t_text : Nat} {a_t_text_bytes : Nat} {t_token : Int32} {t_start : Int32} {t_past : Int32} {t_value : Int32} {t_text_length : Int32} {t_text_bytes : (Nat → Int32)} : ∀ R : Int32 × Int32 × Int32, o_X4_stepNumber N t_start t_past t_text_length t_text_bytes = some R → ZMv sK sV l yX4_stepNumber wsX4_stepNumber rmX4_stepNumber D (zty cI cB cZ) [.ref a_t] [(a_t, .inr (4, [.ref a_t_text, .int t_token, .int t_start, .int t_past, .int t_value])), (a_t_text, .inr (6, [.ref a_t_text_bytes, .int t_text_length])), (a_t_text_bytes, .inl (cB, 200, .inl t_text_bytes))] [(a_t, .inr (4, [.ref a_t_text, .int R.1, .int t_start, .int R.2.1, .int R.2.2])), (a_t_text, .inr (6, [.ref a_t_text_bytes, .int t_text_length])), (a_t_text_bytes, .inl (cB, 200, .inl t_text_bytes))] := by
  intro R hR
  refine zv_of (cc := cX4_stepNumber) (maxL := 1) (ret := none) (by decide) rfl (Nat.le_of_ble_eq_true rfl) (fun E hE1 hE2 hC hN hQ => ?_)
  subst hE1 hE2
  exact z_X4_stepNumber_0 hC hN (N := N) (a_t := a_t) (a_t_text := a_t_text) (a_t_text_bytes := a_t_text_bytes) (t_token := t_token) (t_start := t_start) (t_past := t_past) (t_value := t_value) (t_text_length := t_text_length) (t_text_bytes := t_text_bytes) hQ hR

/-! FistTrains$Reader.step -/
abbrev rmX4_step : Room := { frames := 2, cells := 0, slots := 0, locals := 41 }
set_option maxRecDepth 20000 in
theorem iX4_step_X4 : ∀ w ∈ wsX40, w ∈ wsX4_step := by decide +kernel
set_option maxRecDepth 20000 in
theorem mX4_step_1 : Cond.fieldLink RX4 22 "FistTrains$Reader" "past" "I" ∈ wsX4_step := List.mem_of_getElem? (i := 1) rfl
set_option maxRecDepth 20000 in
theorem mX4_step_2 : Cond.fieldLink RX4 19 "FistTrains$Reader" "start" "I" ∈ wsX4_step := List.mem_of_getElem? (i := 2) rfl
set_option maxRecDepth 20000 in
theorem mX4_step_3 : Cond.fieldLink RX4 9 "FistTrains$Reader" "text" "LFistTrains$Tape;" ∈ wsX4_step := List.mem_of_getElem? (i := 3) rfl
set_option maxRecDepth 20000 in
theorem iX4_step_X6 : ∀ w ∈ wsX60, w ∈ wsX4_step := by decide +kernel
set_option maxRecDepth 20000 in
theorem mX4_step_4 : Cond.fieldLink RX4 86 "FistTrains$Tape" "length" "I" ∈ wsX4_step := List.mem_of_getElem? (i := 4) rfl
set_option maxRecDepth 20000 in
theorem mX4_step_5 : Cond.fieldLink RX4 15 "FistTrains$Reader" "token" "I" ∈ wsX4_step := List.mem_of_getElem? (i := 5) rfl
def o_X4_step_152 (N : Nat) (t_start : Int32) (t_value : Int32) (s1 : Int32) : Option (Int32 × Int32 × Int32 × Int32) :=
  some (s1, t_start, (t_start + 1), t_value)
def o_X4_step_52 (N : Nat) (t_start : Int32) (t_value : Int32) (t_text_length : Int32) (t_text_bytes : (Nat → Int32)) : Option (Int32 × Int32 × Int32 × Int32) :=
  if t_start < t_text_length then
    Option.bind (o_X6_at N t_text_length t_text_bytes t_start) (fun r90 =>
    Option.bind (o_X4_isLetter N r90) (fun r93 =>
    if r93 = 0 then
      Option.bind (o_X6_at N t_text_length t_text_bytes t_start) (fun r114 =>
      Option.bind (o_X4_isFigure N r114) (fun r117 =>
      if r117 = 0 then
        Option.bind (o_X6_at N t_text_length t_text_bytes t_start) (fun r139 =>
        if r139 = 59 then
          o_X4_step_152 N t_start t_value 3
        else
          o_X4_step_152 N t_start t_value 4)
      else
        Option.bind (o_X4_stepNumber N t_start t_start t_text_length t_text_bytes) (fun r124 =>
        some (r124.1, t_start, r124.2.1, r124.2.2))))
    else
      Option.bind (o_X4_stepName N t_start t_text_length t_text_bytes) (fun r100 =>
      some (r100.1, t_start, r100.2, t_value))))
  else
    some (0, t_start, t_start, t_value)
def o_X4_step_8 (N : Nat) (t_value : Int32) (t_text_length : Int32) (t_text_bytes : (Nat → Int32)) : Nat → Int32 → Option (Int32 × Int32 × Int32 × Int32)
  | 0 => fun _ => none
  | n + 1 => fun t_start => 
    if t_text_length ≤ t_start then
      o_X4_step_52 N t_start t_value t_text_length t_text_bytes
    else
      Option.bind (o_X6_at N t_text_length t_text_bytes t_start) (fun r30 =>
      Option.bind (o_X4_isBlank N r30) (fun r33 =>
      if r33 = 0 then
        o_X4_step_52 N t_start t_value t_text_length t_text_bytes
      else
        o_X4_step_8 N t_value t_text_length t_text_bytes n (t_start + 1)))
def o_X4_step (N : Nat) (t_past : Int32) (t_value : Int32) (t_text_length : Int32) (t_text_bytes : (Nat → Int32)) : Option (Int32 × Int32 × Int32 × Int32) :=
  o_X4_step_8 N t_value t_text_length t_text_bytes N t_past
set_option maxHeartbeats 4000000 in
set_option maxRecDepth 100000 in
theorem z_X4_step_152 {sK sV : Nat → Nat} {E : ZE} {cI cB cZ : ClassId} (hC : ZC E 1 cX4_step wsX4_step RX4 rmX4_step none (zty cI cB cZ)) (hN : ZN sK sV (zA E) (zs E)) {N : Nat} {a_t : Nat} {a_t_text : Nat} {a_t_text_bytes : Nat} {t_token : Int32} {t_start : Int32} {t_past : Int32} {t_value : Int32} {t_text_length : Int32} {t_text_bytes : (Nat → Int32)} {s1 : Int32} {rf : Int32 × Int32 × Int32 × Int32} (hQ : ZQv E (zty cI cB cZ) [(a_t, .inr (4, [.ref a_t_text, .int rf.1, .int rf.2.1, .int rf.2.2.1, .int rf.2.2.2])), (a_t_text, .inr (6, [.ref a_t_text_bytes, .int t_text_length])), (a_t_text_bytes, .inl (cB, 200, .inl t_text_bytes))]) (hR : o_X4_step_152 N t_start t_value s1 = some rf) : Z E (0, 0) [(0, .ref a_t)] 152 [.int s1, .ref a_t] [(a_t, .inr (4, [.ref a_t_text, .int t_token, .int t_start, .int t_past, .int t_value])), (a_t_text, .inr (6, [.ref a_t_text_bytes, .int t_text_length])), (a_t_text_bytes, .inl (cB, 200, .inl t_text_bytes))] := by
  rw [o_X4_step_152] at hR
  refine z_put hC iX4_step_X4 tyX4_ok nmX4 rfl 0 1 rfl (by decide) mX4_step_5 rfl rfl rfl rfl (Nat.le_of_ble_eq_true rfl) dX4_step_152 ?_
  refine z_aload_n hC dX4_step_155 rfl 0 rfl ?_
  refine z_aload_n hC dX4_step_156 rfl 0 rfl ?_
  refine z_get hC iX4_step_X4 rfl 0 2 rfl (by decide) mX4_step_2 rfl rfl dX4_step_157 ?_
  refine z_ic1 hC dX4_step_160 ?_
  refine z_iadd hC dX4_step_161 ?_
  refine z_put hC iX4_step_X4 tyX4_ok nmX4 rfl 0 3 rfl (by decide) mX4_step_1 rfl rfl rfl rfl (Nat.le_of_ble_eq_true rfl) dX4_step_162 ?_
  obtain rfl := Option.some.inj hR
  exact z_vret hC hQ rfl dX4_step_165
set_option maxHeartbeats 4000000 in
set_option maxRecDepth 100000 in
theorem z_X4_step_52 {sK sV : Nat → Nat} {E : ZE} {cI cB cZ : ClassId} (hC : ZC E 1 cX4_step wsX4_step RX4 rmX4_step none (zty cI cB cZ)) (hN : ZN sK sV (zA E) (zs E)) {N : Nat} {a_t : Nat} {a_t_text : Nat} {a_t_text_bytes : Nat} {t_token : Int32} {t_start : Int32} {t_past : Int32} {t_value : Int32} {t_text_length : Int32} {t_text_bytes : (Nat → Int32)} {rf : Int32 × Int32 × Int32 × Int32} (hQ : ZQv E (zty cI cB cZ) [(a_t, .inr (4, [.ref a_t_text, .int rf.1, .int rf.2.1, .int rf.2.2.1, .int rf.2.2.2])), (a_t_text, .inr (6, [.ref a_t_text_bytes, .int t_text_length])), (a_t_text_bytes, .inl (cB, 200, .inl t_text_bytes))]) (hR : o_X4_step_52 N t_start t_value t_text_length t_text_bytes = some rf) : Z E (0, 0) [(0, .ref a_t)] 52 [] [(a_t, .inr (4, [.ref a_t_text, .int t_token, .int t_start, .int t_past, .int t_value])), (a_t_text, .inr (6, [.ref a_t_text_bytes, .int t_text_length])), (a_t_text_bytes, .inl (cB, 200, .inl t_text_bytes))] := by
  rw [o_X4_step_52] at hR
  refine z_aload_n hC dX4_step_52 rfl 0 rfl ?_
  refine z_aload_n hC dX4_step_53 rfl 0 rfl ?_
  refine z_get hC iX4_step_X4 rfl 0 2 rfl (by decide) mX4_step_2 rfl rfl dX4_step_54 ?_
  refine z_put hC iX4_step_X4 tyX4_ok nmX4 rfl 0 3 rfl (by decide) mX4_step_1 rfl rfl rfl rfl (Nat.le_of_ble_eq_true rfl) dX4_step_57 ?_
  refine z_aload_n hC dX4_step_60 rfl 0 rfl ?_
  refine z_get hC iX4_step_X4 rfl 0 2 rfl (by decide) mX4_step_2 rfl rfl dX4_step_61 ?_
  refine z_aload_n hC dX4_step_64 rfl 0 rfl ?_
  refine z_get hC iX4_step_X4 rfl 0 0 rfl (by decide) mX4_step_3 rfl rfl dX4_step_65 ?_
  refine z_get hC iX4_step_X6 rfl 1 1 rfl (by decide) mX4_step_4 rfl rfl dX4_step_68 ?_
  refine z_icmp_lt hC 82 dX4_step_71 (by decide) hR (fun hR => ?_) (fun hR => ?_)
  · refine z_aload_n hC dX4_step_82 rfl 0 rfl ?_
    refine z_get hC iX4_step_X4 rfl 0 0 rfl (by decide) mX4_step_3 rfl rfl dX4_step_83 ?_
    refine z_aload_n hC dX4_step_86 rfl 0 rfl ?_
    refine z_get hC iX4_step_X4 rfl 0 2 rfl (by decide) mX4_step_2 rfl rfl dX4_step_87 ?_
    refine z_callVi_p hC hN [.int t_start] [1, 2] (c_X6_at (l := zl E) (D := zD E) (cI := cI) (cB := cB) (cZ := cZ) (N := N) (a_t := a_t_text) (a_t_bytes := a_t_text_bytes) (l1 := t_start) (t_length := t_text_length) (t_bytes := t_text_bytes)) rfl ⟨rfl, rfl⟩ gX4_step_X6_at hvX6_at 1 6 rfl rfl rfl ⟨Nat.le_of_ble_eq_true rfl, Nat.le_of_ble_eq_true rfl⟩ ⟨Nat.zero_le _, Nat.zero_le _⟩ rfl (Nat.le_of_ble_eq_true rfl) rfl (by decide) dX4_step_90 hR (fun r90 hR => ?_)
    refine z_callSi_p hC hN [.int r90] [] (c_X4_isLetter (l := zl E) (D := zD E) (cI := cI) (cB := cB) (cZ := cZ) (N := N) (l0 := r90)) rfl ⟨rfl, rfl⟩ gX4_step_X4_isLetter hsX4_isLetter ⟨Nat.le_of_ble_eq_true rfl, Nat.le_of_ble_eq_true rfl⟩ ⟨Nat.zero_le _, Nat.zero_le _⟩ rfl (Nat.le_of_ble_eq_true rfl) rfl (by decide) dX4_step_93 hR (fun r93 hR => ?_)
    refine z_if_eq hC 106 dX4_step_96 (by decide) hR (fun hR => ?_) (fun hR => ?_)
    · refine z_aload_n hC dX4_step_106 rfl 0 rfl ?_
      refine z_get hC iX4_step_X4 rfl 0 0 rfl (by decide) mX4_step_3 rfl rfl dX4_step_107 ?_
      refine z_aload_n hC dX4_step_110 rfl 0 rfl ?_
      refine z_get hC iX4_step_X4 rfl 0 2 rfl (by decide) mX4_step_2 rfl rfl dX4_step_111 ?_
      refine z_callVi_p hC hN [.int t_start] [1, 2] (c_X6_at (l := zl E) (D := zD E) (cI := cI) (cB := cB) (cZ := cZ) (N := N) (a_t := a_t_text) (a_t_bytes := a_t_text_bytes) (l1 := t_start) (t_length := t_text_length) (t_bytes := t_text_bytes)) rfl ⟨rfl, rfl⟩ gX4_step_X6_at hvX6_at 1 6 rfl rfl rfl ⟨Nat.le_of_ble_eq_true rfl, Nat.le_of_ble_eq_true rfl⟩ ⟨Nat.zero_le _, Nat.zero_le _⟩ rfl (Nat.le_of_ble_eq_true rfl) rfl (by decide) dX4_step_114 hR (fun r114 hR => ?_)
      refine z_callSi_p hC hN [.int r114] [] (c_X4_isFigure (l := zl E) (D := zD E) (cI := cI) (cB := cB) (cZ := cZ) (N := N) (l0 := r114)) rfl ⟨rfl, rfl⟩ gX4_step_X4_isFigure hsX4_isFigure ⟨Nat.le_of_ble_eq_true rfl, Nat.le_of_ble_eq_true rfl⟩ ⟨Nat.zero_le _, Nat.zero_le _⟩ rfl (Nat.le_of_ble_eq_true rfl) rfl (by decide) dX4_step_117 hR (fun r117 hR => ?_)
      refine z_if_eq hC 130 dX4_step_120 (by decide) hR (fun hR => ?_) (fun hR => ?_)
      · refine z_aload_n hC dX4_step_130 rfl 0 rfl ?_
        refine z_aload_n hC dX4_step_131 rfl 0 rfl ?_
        refine z_get hC iX4_step_X4 rfl 0 0 rfl (by decide) mX4_step_3 rfl rfl dX4_step_132 ?_
        refine z_aload_n hC dX4_step_135 rfl 0 rfl ?_
        refine z_get hC iX4_step_X4 rfl 0 2 rfl (by decide) mX4_step_2 rfl rfl dX4_step_136 ?_
        refine z_callVi_p hC hN [.int t_start] [1, 2] (c_X6_at (l := zl E) (D := zD E) (cI := cI) (cB := cB) (cZ := cZ) (N := N) (a_t := a_t_text) (a_t_bytes := a_t_text_bytes) (l1 := t_start) (t_length := t_text_length) (t_bytes := t_text_bytes)) rfl ⟨rfl, rfl⟩ gX4_step_X6_at hvX6_at 1 6 rfl rfl rfl ⟨Nat.le_of_ble_eq_true rfl, Nat.le_of_ble_eq_true rfl⟩ ⟨Nat.zero_le _, Nat.zero_le _⟩ rfl (Nat.le_of_ble_eq_true rfl) rfl (by decide) dX4_step_139 hR (fun r139 hR => ?_)
        refine z_bipush (v := 59) hC dX4_step_142 (by decide) ?_
        refine z_icmp_ne hC 151 dX4_step_144 (by decide) hR (fun hR => ?_) (fun hR => ?_)
        · refine z_ic4 hC dX4_step_151 ?_
          exact z_X4_step_152 hC hN (N := N) (a_t := a_t) (a_t_text := a_t_text) (a_t_text_bytes := a_t_text_bytes) (t_token := t_token) (t_start := t_start) (t_past := t_start) (t_value := t_value) (t_text_length := t_text_length) (t_text_bytes := t_text_bytes) (s1 := 4) hQ  hR
        · refine z_ic3 hC dX4_step_147 ?_
          refine z_goto hC 152 dX4_step_148 (by decide) ?_
          exact z_X4_step_152 hC hN (N := N) (a_t := a_t) (a_t_text := a_t_text) (a_t_text_bytes := a_t_text_bytes) (t_token := t_token) (t_start := t_start) (t_past := t_start) (t_value := t_value) (t_text_length := t_text_length) (t_text_bytes := t_text_bytes) (s1 := 3) hQ  hR
      · refine z_aload_n hC dX4_step_123 rfl 0 rfl ?_
        refine z_callVv hC hN [] [0, 1, 2] (c_X4_stepNumber (l := zl E) (D := zD E) (cI := cI) (cB := cB) (cZ := cZ) (N := N) (a_t := a_t) (a_t_text := a_t_text) (a_t_text_bytes := a_t_text_bytes) (t_token := t_token) (t_start := t_start) (t_past := t_start) (t_value := t_value) (t_text_length := t_text_length) (t_text_bytes := t_text_bytes)) rfl ⟨rfl, rfl⟩ gX4_step_X4_stepNumber hvX4_stepNumber 0 4 rfl rfl rfl ⟨Nat.le_of_ble_eq_true rfl, Nat.le_of_ble_eq_true rfl⟩ ⟨Nat.zero_le _, Nat.zero_le _⟩ rfl (Nat.le_of_ble_eq_true rfl) rfl (by decide) (fun _ => rfl) dX4_step_124 hR (fun r124 hR => ?_)
        refine z_goto hC 165 dX4_step_127 (by decide) ?_
        obtain rfl := Option.some.inj hR
        exact z_vret hC hQ rfl dX4_step_165
    · refine z_aload_n hC dX4_step_99 rfl 0 rfl ?_
      refine z_callVv hC hN [] [0, 1, 2] (c_X4_stepName (l := zl E) (D := zD E) (cI := cI) (cB := cB) (cZ := cZ) (N := N) (a_t := a_t) (a_t_text := a_t_text) (a_t_text_bytes := a_t_text_bytes) (t_token := t_token) (t_start := t_start) (t_past := t_start) (t_value := t_value) (t_text_length := t_text_length) (t_text_bytes := t_text_bytes)) rfl ⟨rfl, rfl⟩ gX4_step_X4_stepName hvX4_stepName 0 4 rfl rfl rfl ⟨Nat.le_of_ble_eq_true rfl, Nat.le_of_ble_eq_true rfl⟩ ⟨Nat.zero_le _, Nat.zero_le _⟩ rfl (Nat.le_of_ble_eq_true rfl) rfl (by decide) (fun _ => rfl) dX4_step_100 hR (fun r100 hR => ?_)
      refine z_goto hC 165 dX4_step_103 (by decide) ?_
      obtain rfl := Option.some.inj hR
      exact z_vret hC hQ rfl dX4_step_165
  · refine z_aload_n hC dX4_step_74 rfl 0 rfl ?_
    refine z_ic0 hC dX4_step_75 ?_
    refine z_put hC iX4_step_X4 tyX4_ok nmX4 rfl 0 1 rfl (by decide) mX4_step_5 rfl rfl rfl rfl (Nat.le_of_ble_eq_true rfl) dX4_step_76 ?_
    refine z_goto hC 165 dX4_step_79 (by decide) ?_
    obtain rfl := Option.some.inj hR
    exact z_vret hC hQ rfl dX4_step_165
set_option maxHeartbeats 4000000 in
set_option maxRecDepth 100000 in
theorem z_X4_step_8 {sK sV : Nat → Nat} {E : ZE} {cI cB cZ : ClassId} (hC : ZC E 1 cX4_step wsX4_step RX4 rmX4_step none (zty cI cB cZ)) (hN : ZN sK sV (zA E) (zs E)) {N : Nat} {a_t : Nat} {a_t_text : Nat} {a_t_text_bytes : Nat} {t_token : Int32} {t_past : Int32} {t_value : Int32} {t_text_length : Int32} {t_text_bytes : (Nat → Int32)} {rf : Int32 × Int32 × Int32 × Int32} (hQ : ZQv E (zty cI cB cZ) [(a_t, .inr (4, [.ref a_t_text, .int rf.1, .int rf.2.1, .int rf.2.2.1, .int rf.2.2.2])), (a_t_text, .inr (6, [.ref a_t_text_bytes, .int t_text_length])), (a_t_text_bytes, .inl (cB, 200, .inl t_text_bytes))]) : ∀ (n : Nat) (t_start : Int32), o_X4_step_8 N t_value t_text_length t_text_bytes n t_start = some rf → Z E (0, 0) [(0, .ref a_t)] 8 [] [(a_t, .inr (4, [.ref a_t_text, .int t_token, .int t_start, .int t_past, .int t_value])), (a_t_text, .inr (6, [.ref a_t_text_bytes, .int t_text_length])), (a_t_text_bytes, .inl (cB, 200, .inl t_text_bytes))] := by
  intro n
  induction n with
  | zero =>
    intro t_start hR
    cases hR
  | succ n ih =>
    intro t_start hR
    rw [o_X4_step_8] at hR
    refine z_aload_n hC dX4_step_8 rfl 0 rfl ?_
    refine z_get hC iX4_step_X4 rfl 0 2 rfl (by decide) mX4_step_2 rfl rfl dX4_step_9 ?_
    refine z_aload_n hC dX4_step_12 rfl 0 rfl ?_
    refine z_get hC iX4_step_X4 rfl 0 0 rfl (by decide) mX4_step_3 rfl rfl dX4_step_13 ?_
    refine z_get hC iX4_step_X6 rfl 1 1 rfl (by decide) mX4_step_4 rfl rfl dX4_step_16 ?_
    refine z_icmp_ge hC 52 dX4_step_19 (by decide) hR (fun hR => ?_) (fun hR => ?_)
    · exact z_X4_step_52 hC hN (N := N) (a_t := a_t) (a_t_text := a_t_text) (a_t_text_bytes := a_t_text_bytes) (t_token := t_token) (t_start := t_start) (t_past := t_past) (t_value := t_value) (t_text_length := t_text_length) (t_text_bytes := t_text_bytes) hQ  hR
    · refine z_aload_n hC dX4_step_22 rfl 0 rfl ?_
      refine z_get hC iX4_step_X4 rfl 0 0 rfl (by decide) mX4_step_3 rfl rfl dX4_step_23 ?_
      refine z_aload_n hC dX4_step_26 rfl 0 rfl ?_
      refine z_get hC iX4_step_X4 rfl 0 2 rfl (by decide) mX4_step_2 rfl rfl dX4_step_27 ?_
      refine z_callVi_p hC hN [.int t_start] [1, 2] (c_X6_at (l := zl E) (D := zD E) (cI := cI) (cB := cB) (cZ := cZ) (N := N) (a_t := a_t_text) (a_t_bytes := a_t_text_bytes) (l1 := t_start) (t_length := t_text_length) (t_bytes := t_text_bytes)) rfl ⟨rfl, rfl⟩ gX4_step_X6_at hvX6_at 1 6 rfl rfl rfl ⟨Nat.le_of_ble_eq_true rfl, Nat.le_of_ble_eq_true rfl⟩ ⟨Nat.zero_le _, Nat.zero_le _⟩ rfl (Nat.le_of_ble_eq_true rfl) rfl (by decide) dX4_step_30 hR (fun r30 hR => ?_)
      refine z_callSi_p hC hN [.int r30] [] (c_X4_isBlank (l := zl E) (D := zD E) (cI := cI) (cB := cB) (cZ := cZ) (N := N) (l0 := r30)) rfl ⟨rfl, rfl⟩ gX4_step_X4_isBlank hsX4_isBlank ⟨Nat.le_of_ble_eq_true rfl, Nat.le_of_ble_eq_true rfl⟩ ⟨Nat.zero_le _, Nat.zero_le _⟩ rfl (Nat.le_of_ble_eq_true rfl) rfl (by decide) dX4_step_33 hR (fun r33 hR => ?_)
      refine z_if_eq hC 52 dX4_step_36 (by decide) hR (fun hR => ?_) (fun hR => ?_)
      · exact z_X4_step_52 hC hN (N := N) (a_t := a_t) (a_t_text := a_t_text) (a_t_text_bytes := a_t_text_bytes) (t_token := t_token) (t_start := t_start) (t_past := t_past) (t_value := t_value) (t_text_length := t_text_length) (t_text_bytes := t_text_bytes) hQ  hR
      · refine z_aload_n hC dX4_step_39 rfl 0 rfl ?_
        refine z_dup hC dX4_step_40 rfl ?_
        refine z_get hC iX4_step_X4 rfl 0 2 rfl (by decide) mX4_step_2 rfl rfl dX4_step_41 ?_
        refine z_ic1 hC dX4_step_44 ?_
        refine z_iadd hC dX4_step_45 ?_
        refine z_put hC iX4_step_X4 tyX4_ok nmX4 rfl 0 2 rfl (by decide) mX4_step_2 rfl rfl rfl rfl (Nat.le_of_ble_eq_true rfl) dX4_step_46 ?_
        refine z_goto hC 8 dX4_step_49 (by decide) ?_
        exact ih (t_start + 1) hR
set_option maxHeartbeats 4000000 in
set_option maxRecDepth 100000 in
theorem z_X4_step_0 {sK sV : Nat → Nat} {E : ZE} {cI cB cZ : ClassId} (hC : ZC E 1 cX4_step wsX4_step RX4 rmX4_step none (zty cI cB cZ)) (hN : ZN sK sV (zA E) (zs E)) {N : Nat} {a_t : Nat} {a_t_text : Nat} {a_t_text_bytes : Nat} {t_token : Int32} {t_start : Int32} {t_past : Int32} {t_value : Int32} {t_text_length : Int32} {t_text_bytes : (Nat → Int32)} {rf : Int32 × Int32 × Int32 × Int32} (hQ : ZQv E (zty cI cB cZ) [(a_t, .inr (4, [.ref a_t_text, .int rf.1, .int rf.2.1, .int rf.2.2.1, .int rf.2.2.2])), (a_t_text, .inr (6, [.ref a_t_text_bytes, .int t_text_length])), (a_t_text_bytes, .inl (cB, 200, .inl t_text_bytes))]) (hR : o_X4_step N t_past t_value t_text_length t_text_bytes = some rf) : Z E (0, 0) [(0, .ref a_t)] 0 [] [(a_t, .inr (4, [.ref a_t_text, .int t_token, .int t_start, .int t_past, .int t_value])), (a_t_text, .inr (6, [.ref a_t_text_bytes, .int t_text_length])), (a_t_text_bytes, .inl (cB, 200, .inl t_text_bytes))] := by
  rw [o_X4_step] at hR
  refine z_aload_n hC dX4_step_0 rfl 0 rfl ?_
  refine z_aload_n hC dX4_step_1 rfl 0 rfl ?_
  refine z_get hC iX4_step_X4 rfl 0 3 rfl (by decide) mX4_step_1 rfl rfl dX4_step_2 ?_
  refine z_put hC iX4_step_X4 tyX4_ok nmX4 rfl 0 2 rfl (by decide) mX4_step_2 rfl rfl rfl rfl (Nat.le_of_ble_eq_true rfl) dX4_step_5 ?_
  exact z_X4_step_8 hC hN (N := N) (a_t := a_t) (a_t_text := a_t_text) (a_t_text_bytes := a_t_text_bytes) (t_token := t_token) (t_past := t_past) (t_value := t_value) (t_text_length := t_text_length) (t_text_bytes := t_text_bytes) hQ  N t_past hR
set_option maxHeartbeats 4000000 in
set_option maxRecDepth 100000 in
theorem c_X4_step {sK sV : Nat → Nat} {l : Launch} {D : va_G} {cI cB cZ : ClassId} {N : Nat} {a_t : Nat} {a_t_text : Nat} {a_t_text_bytes : Nat} {t_token : Int32} {t_start : Int32} {t_past : Int32} {t_value : Int32} {t_text_length : Int32} {t_text_bytes : (Nat → Int32)} : ∀ R : Int32 × Int32 × Int32 × Int32, o_X4_step N t_past t_value t_text_length t_text_bytes = some R → ZMv sK sV l yX4_step wsX4_step rmX4_step D (zty cI cB cZ) [.ref a_t] [(a_t, .inr (4, [.ref a_t_text, .int t_token, .int t_start, .int t_past, .int t_value])), (a_t_text, .inr (6, [.ref a_t_text_bytes, .int t_text_length])), (a_t_text_bytes, .inl (cB, 200, .inl t_text_bytes))] [(a_t, .inr (4, [.ref a_t_text, .int R.1, .int R.2.1, .int R.2.2.1, .int R.2.2.2])), (a_t_text, .inr (6, [.ref a_t_text_bytes, .int t_text_length])), (a_t_text_bytes, .inl (cB, 200, .inl t_text_bytes))] := by
  intro R hR
  refine zv_of (cc := cX4_step) (maxL := 1) (ret := none) (by decide) rfl (Nat.le_of_ble_eq_true rfl) (fun E hE1 hE2 hC hN hQ => ?_)
  subst hE1 hE2
  exact z_X4_step_0 hC hN (N := N) (a_t := a_t) (a_t_text := a_t_text) (a_t_text_bytes := a_t_text_bytes) (t_token := t_token) (t_start := t_start) (t_past := t_past) (t_value := t_value) (t_text_length := t_text_length) (t_text_bytes := t_text_bytes) hQ hR

/-! FistTrains$Rows.itemOf -/
abbrev rmX5_itemOf : Room := { frames := 1, cells := 0, slots := 0, locals := 22 }
set_option maxRecDepth 20000 in
theorem iX5_itemOf_X5 : ∀ w ∈ wsX50, w ∈ wsX5_itemOf := by decide +kernel
set_option maxRecDepth 20000 in
theorem mX5_itemOf_1 : Cond.fieldLink RX5 16 "FistTrains$Rows" "items" "[I" ∈ wsX5_itemOf := List.mem_of_getElem? (i := 1) rfl
def o_X5_itemOf (N : Nat) (t_items : (Nat → Int32)) (l1 : Int32) (l2 : Int32) : Option (Int32) :=
  Option.bind (o_X5_placeOf N l1 l2) (fun r7 =>
  ogd (inb r7 320) (
  some ((t_items (Int32.toNatClampNeg r7)))))
set_option maxHeartbeats 4000000 in
set_option maxRecDepth 100000 in
theorem z_X5_itemOf_0 {sK sV : Nat → Nat} {E : ZE} {cI cB cZ : ClassId} (hC : ZC E 3 cX5_itemOf wsX5_itemOf RX5 rmX5_itemOf (some .int) (zty cI cB cZ)) (hN : ZN sK sV (zA E) (zs E)) {N : Nat} {a_t : Nat} {a_t_items : Nat} {a_t_lane : Nat} {a_t_size : Nat} {t_items : (Nat → Int32)} {l1 : Int32} {l2 : Int32} {rf : Int32} (hQ : ZQi E (zty cI cB cZ) rf [(a_t, .inr (5, [.ref a_t_lane, .ref a_t_size, .ref a_t_items])), (a_t_items, .inl (cI, 320, .inl t_items))]) (hR : o_X5_itemOf N t_items l1 l2 = some rf) : Z E (0, 0) [(0, .ref a_t), (1, .int l1), (2, .int l2)] 0 [] [(a_t, .inr (5, [.ref a_t_lane, .ref a_t_size, .ref a_t_items])), (a_t_items, .inl (cI, 320, .inl t_items))] := by
  rw [o_X5_itemOf] at hR
  refine z_aload_n hC dX5_itemOf_0 rfl 0 rfl ?_
  refine z_get hC iX5_itemOf_X5 rfl 0 2 rfl (by decide) mX5_itemOf_1 rfl rfl dX5_itemOf_1 ?_
  refine z_aload_n hC dX5_itemOf_4 rfl 0 rfl ?_
  refine z_iload_n hC dX5_itemOf_5 rfl 1 rfl ?_
  refine z_iload_n hC dX5_itemOf_6 rfl 2 rfl ?_
  refine z_callVi_p hC hN [.int l1, .int l2] [0] (c_X5_placeOf (l := zl E) (D := zD E) (cI := cI) (cB := cB) (cZ := cZ) (N := N) (a_t := a_t) (a_t_lane := a_t_lane) (a_t_size := a_t_size) (a_t_items := a_t_items) (l1 := l1) (l2 := l2)) rfl ⟨rfl, rfl⟩ gX5_itemOf_X5_placeOf hvX5_placeOf 0 5 rfl rfl rfl ⟨Nat.le_of_ble_eq_true rfl, Nat.le_of_ble_eq_true rfl⟩ ⟨Nat.zero_le _, Nat.zero_le _⟩ rfl (Nat.le_of_ble_eq_true rfl) rfl (by decide) dX5_itemOf_7 hR (fun r7 hR => ?_)
  refine z_iald hC 1 0 rfl rfl dX5_itemOf_10 hR (fun hR => ?_)
  obtain rfl := Option.some.inj hR
  exact z_iret hC hQ rfl rfl rfl dX5_itemOf_11
set_option maxHeartbeats 4000000 in
set_option maxRecDepth 100000 in
theorem c_X5_itemOf {sK sV : Nat → Nat} {l : Launch} {D : va_G} {cI cB cZ : ClassId} {N : Nat} {a_t : Nat} {a_t_items : Nat} {a_t_lane : Nat} {a_t_size : Nat} {t_items : (Nat → Int32)} {l1 : Int32} {l2 : Int32} : ∀ R : Int32, o_X5_itemOf N t_items l1 l2 = some R → ZMi sK sV l yX5_itemOf wsX5_itemOf rmX5_itemOf D (zty cI cB cZ) [.ref a_t, .int l1, .int l2] [(a_t, .inr (5, [.ref a_t_lane, .ref a_t_size, .ref a_t_items])), (a_t_items, .inl (cI, 320, .inl t_items))] R [(a_t, .inr (5, [.ref a_t_lane, .ref a_t_size, .ref a_t_items])), (a_t_items, .inl (cI, 320, .inl t_items))] := by
  intro R hR
  refine zi_of (cc := cX5_itemOf) (maxL := 3) (ret := (some .int)) (by decide) rfl (Nat.le_of_ble_eq_true rfl) (fun E hE1 hE2 hC hN hQ => ?_)
  subst hE1 hE2
  exact z_X5_itemOf_0 hC hN (N := N) (a_t := a_t) (a_t_items := a_t_items) (a_t_lane := a_t_lane) (a_t_size := a_t_size) (t_items := t_items) (l1 := l1) (l2 := l2) hQ hR

/-! FistTrains$Ways.shiftOf -/
abbrev rmX7_shiftOf : Room := { frames := 0, cells := 0, slots := 0, locals := 0 }
def o_X7_shiftOf (N : Nat) (l0 : Int32) : Option (Int32) :=
  some ((2 * (7 - l0)))
set_option maxHeartbeats 4000000 in
set_option maxRecDepth 100000 in
theorem z_X7_shiftOf_0 {sK sV : Nat → Nat} {E : ZE} {cI cB cZ : ClassId} (hC : ZC E 1 cX7_shiftOf wsX7_shiftOf RX7 rmX7_shiftOf (some .int) (zty cI cB cZ)) (hN : ZN sK sV (zA E) (zs E)) {N : Nat} {l0 : Int32} {rf : Int32} (hQ : ZQi E (zty cI cB cZ) rf []) (hR : o_X7_shiftOf N l0 = some rf) : Z E (0, 0) [(0, .int l0)] 0 [] [] := by
  rw [o_X7_shiftOf] at hR
  refine z_ic2 hC dX7_shiftOf_0 ?_
  refine z_bipush (v := 7) hC dX7_shiftOf_1 (by decide) ?_
  refine z_iload_n hC dX7_shiftOf_3 rfl 0 rfl ?_
  refine z_isub hC dX7_shiftOf_4 ?_
  refine z_imul hC dX7_shiftOf_5 ?_
  obtain rfl := Option.some.inj hR
  exact z_iret hC hQ rfl rfl rfl dX7_shiftOf_6
set_option maxHeartbeats 4000000 in
set_option maxRecDepth 100000 in
theorem c_X7_shiftOf {sK sV : Nat → Nat} {l : Launch} {D : va_G} {cI cB cZ : ClassId} {N : Nat} {l0 : Int32} : ∀ R : Int32, o_X7_shiftOf N l0 = some R → ZMi sK sV l yX7_shiftOf wsX7_shiftOf rmX7_shiftOf D (zty cI cB cZ) [.int l0] [] R [] := by
  intro R hR
  refine zi_of (cc := cX7_shiftOf) (maxL := 1) (ret := (some .int)) (by decide) rfl (Nat.le_of_ble_eq_true rfl) (fun E hE1 hE2 hC hN hQ => ?_)
  subst hE1 hE2
  exact z_X7_shiftOf_0 hC hN (N := N) (l0 := l0) hQ hR

/-! FistTrains$Ways.start -/
abbrev rmX7_start : Room := { frames := 1, cells := 0, slots := 0, locals := 23 }
set_option maxRecDepth 20000 in
theorem iX7_start_X7 : ∀ w ∈ wsX70, w ∈ wsX7_start := by decide +kernel
set_option maxRecDepth 20000 in
theorem mX7_start_1 : Cond.fieldLink RX7 18 "FistTrains$Ways" "groups" "I" ∈ wsX7_start := List.mem_of_getElem? (i := 1) rfl
set_option maxRecDepth 20000 in
theorem mX7_start_6 : Cond.fieldLink RX7 9 "FistTrains$Ways" "group" "[I" ∈ wsX7_start := List.mem_of_getElem? (i := 6) rfl
set_option maxRecDepth 20000 in
theorem mX7_start_7 : Cond.fieldLink RX7 15 "FistTrains$Ways" "train" "[I" ∈ wsX7_start := List.mem_of_getElem? (i := 7) rfl
set_option maxRecDepth 20000 in
theorem iX7_start_X3 : ∀ w ∈ wsX30, w ∈ wsX7_start := by decide +kernel
set_option maxRecDepth 20000 in
theorem mX7_start_3 : Cond.fieldLink RX7 62 "FistTrains$Hall" "hand" "[I" ∈ wsX7_start := List.mem_of_getElem? (i := 3) rfl
set_option maxRecDepth 20000 in
theorem mX7_start_2 : Cond.fieldLink RX7 53 "FistTrains$Hall" "players" "I" ∈ wsX7_start := List.mem_of_getElem? (i := 2) rfl
set_option maxRecDepth 20000 in
theorem mX7_start_4 : Cond.fieldLink RX7 22 "FistTrains$Ways" "best" "[I" ∈ wsX7_start := List.mem_of_getElem? (i := 4) rfl
set_option maxRecDepth 20000 in
theorem mX7_start_5 : Cond.constant RX7 46 (1073741824) ∈ wsX7_start := List.mem_of_getElem? (i := 5) rfl
def o_X7_start_60 (N : Nat) (K38 : (Nat → Int32) → Int32 → Option (Int32 × (Nat → Int32) × (Nat → Int32) × (Nat → Int32))) (t_groups : Int32) (t_group : (Nat → Int32)) (t_train : (Nat → Int32)) (t_best : (Nat → Int32)) (p1_players : Int32) (p1_hand : (Nat → Int32)) (p1_leader : (Nat → Int32)) (l2 : Int32) (l3 : Int32) (l4 : Int32) (s0 : Int32) : Option (Int32 × (Nat → Int32) × (Nat → Int32) × (Nat → Int32)) :=
  if l3 = 0 then
    ogd (inb ((l2 * 3) + l4) 24) (
    K38 (upd t_best (Int32.toNatClampNeg ((l2 * 3) + l4)) 1073741824) (l4 + 1))
  else
    Option.bind (o_X7_shiftOf N l2) (fun r84 =>
    ogd (inb ((l2 * 3) + l4) 24) (
    K38 (upd t_best (Int32.toNatClampNeg ((l2 * 3) + l4)) ((s0 <<< (16 &&& 31)) + (l4 <<< (r84 &&& 31)))) (l4 + 1)))
def o_X7_start_38 (N : Nat) (K7 : Int32 → (Nat → Int32) → (Nat → Int32) → (Nat → Int32) → Int32 → Option (Int32 × (Nat → Int32) × (Nat → Int32) × (Nat → Int32))) (t_groups : Int32) (t_group : (Nat → Int32)) (t_train : (Nat → Int32)) (p1_players : Int32) (p1_hand : (Nat → Int32)) (p1_leader : (Nat → Int32)) (l2 : Int32) (l3 : Int32) : Nat → (Nat → Int32) → Int32 → Option (Int32 × (Nat → Int32) × (Nat → Int32) × (Nat → Int32))
  | 0 => fun _ _ => none
  | n + 1 => fun t_best l4 => 
    if 3 ≤ l4 then
      ogd (inb l2 8) (
      if l3 = 0 then
        K7 t_groups (upd t_group (Int32.toNatClampNeg l2) (-1)) t_train t_best (l2 + 1)
      else
        ogd (inb l2 8) (
        Option.bind (o_X3_trainOf N p1_players p1_leader l2) (fun r132 =>
        ogd (inb t_groups 8) (
        K7 (t_groups + 1) (upd (upd t_group (Int32.toNatClampNeg l2) (-1)) (Int32.toNatClampNeg l2) t_groups) (upd t_train (Int32.toNatClampNeg t_groups) r132) t_best (l2 + 1)))))
    else
      ogd (inb l2 8) (
      if l4 = (p1_hand (Int32.toNatClampNeg l2)) then
        o_X7_start_60 N (o_X7_start_38 N K7 t_groups t_group t_train p1_players p1_hand p1_leader l2 l3 n) t_groups t_group t_train t_best p1_players p1_hand p1_leader l2 l3 l4 0
      else
        o_X7_start_60 N (o_X7_start_38 N K7 t_groups t_group t_train p1_players p1_hand p1_leader l2 l3 n) t_groups t_group t_train t_best p1_players p1_hand p1_leader l2 l3 l4 1)
def o_X7_start_33 (N : Nat) (K7 : Int32 → (Nat → Int32) → (Nat → Int32) → (Nat → Int32) → Int32 → Option (Int32 × (Nat → Int32) × (Nat → Int32) × (Nat → Int32))) (t_groups : Int32) (t_group : (Nat → Int32)) (t_train : (Nat → Int32)) (t_best : (Nat → Int32)) (p1_players : Int32) (p1_hand : (Nat → Int32)) (p1_leader : (Nat → Int32)) (l2 : Int32) : Option (Int32 × (Nat → Int32) × (Nat → Int32) × (Nat → Int32)) :=
  o_X7_start_38 N K7 t_groups t_group t_train p1_players p1_hand p1_leader l2 0 N t_best 0
def o_X7_start_7 (N : Nat) (p1_players : Int32) (p1_hand : (Nat → Int32)) (p1_leader : (Nat → Int32)) : Nat → Int32 → (Nat → Int32) → (Nat → Int32) → (Nat → Int32) → Int32 → Option (Int32 × (Nat → Int32) × (Nat → Int32) × (Nat → Int32))
  | 0 => fun _ _ _ _ _ => none
  | n + 1 => fun t_groups t_group t_train t_best l2 => 
    if 8 ≤ l2 then
      some (t_groups, t_group, t_train, t_best)
    else
      if p1_players ≤ l2 then
        o_X7_start_33 N (o_X7_start_7 N p1_players p1_hand p1_leader n) t_groups t_group t_train t_best p1_players p1_hand p1_leader l2
      else
        Option.bind (o_X3_leads N p1_leader l2) (fun r23 =>
        if r23 = 0 then
          o_X7_start_33 N (o_X7_start_7 N p1_players p1_hand p1_leader n) t_groups t_group t_train t_best p1_players p1_hand p1_leader l2
        else
          o_X7_start_38 N (o_X7_start_7 N p1_players p1_hand p1_leader n) t_groups t_group t_train p1_players p1_hand p1_leader l2 1 N t_best 0)
def o_X7_start (N : Nat) (t_group : (Nat → Int32)) (t_train : (Nat → Int32)) (t_best : (Nat → Int32)) (p1_players : Int32) (p1_hand : (Nat → Int32)) (p1_leader : (Nat → Int32)) : Option (Int32 × (Nat → Int32) × (Nat → Int32) × (Nat → Int32)) :=
  o_X7_start_7 N p1_players p1_hand p1_leader N 0 t_group t_train t_best 0
set_option maxHeartbeats 4000000 in
set_option maxRecDepth 100000 in
theorem z_X7_start_60 {sK sV : Nat → Nat} {E : ZE} {cI cB cZ : ClassId} (hC : ZC E 6 cX7_start wsX7_start RX7 rmX7_start none (zty cI cB cZ)) (hN : ZN sK sV (zA E) (zs E)) {N : Nat} {a_t : Nat} {a_t_group : Nat} {a_t_train : Nat} {a_t_best : Nat} {a_p1 : Nat} {a_p1_hand : Nat} {a_p1_leader : Nat} {a_t_better : Nat} {a_t_course : Nat} {a_p1_kind : Nat} {a_p1_course : Nat} {t_groups : Int32} {t_group : (Nat → Int32)} {t_train : (Nat → Int32)} {t_best : (Nat → Int32)} {p1_players : Int32} {p1_round : Int32} {p1_time : Int32} {p1_hand : (Nat → Int32)} {p1_leader : (Nat → Int32)} {l2 : Int32} {l3 : Int32} {l4 : Int32} {s0 : Int32} {K38 : (Nat → Int32) → Int32 → Option (Int32 × (Nat → Int32) × (Nat → Int32) × (Nat → Int32))} {rf : Int32 × (Nat → Int32) × (Nat → Int32) × (Nat → Int32)} (hQ : ZQv E (zty cI cB cZ) [(a_t, .inr (7, [.ref a_t_group, .ref a_t_train, .int rf.1, .ref a_t_best, .ref a_t_better, .ref a_t_course])), (a_t_group, .inl (cI, 8, .inl rf.2.1)), (a_t_train, .inl (cI, 8, .inl rf.2.2.1)), (a_t_best, .inl (cI, 24, .inl rf.2.2.2)), (a_p1, .inr (3, [.int p1_players, .int p1_round, .int p1_time, .ref a_p1_kind, .ref a_p1_hand, .ref a_p1_leader, .ref a_p1_course])), (a_p1_hand, .inl (cI, 8, .inl p1_hand)), (a_p1_leader, .inl (cI, 8, .inl p1_leader))]) (hK38 : ∀ (t_best : (Nat → Int32)) (l4 : Int32), K38 t_best l4 = some rf → Z E (0, 0) [(0, .ref a_t), (1, .ref a_p1), (2, .int l2), (3, .int l3), (4, .int l4)] 38 [] [(a_t, .inr (7, [.ref a_t_group, .ref a_t_train, .int t_groups, .ref a_t_best, .ref a_t_better, .ref a_t_course])), (a_t_group, .inl (cI, 8, .inl t_group)), (a_t_train, .inl (cI, 8, .inl t_train)), (a_t_best, .inl (cI, 24, .inl t_best)), (a_p1, .inr (3, [.int p1_players, .int p1_round, .int p1_time, .ref a_p1_kind, .ref a_p1_hand, .ref a_p1_leader, .ref a_p1_course])), (a_p1_hand, .inl (cI, 8, .inl p1_hand)), (a_p1_leader, .inl (cI, 8, .inl p1_leader))]) (hR : o_X7_start_60 N K38 t_groups t_group t_train t_best p1_players p1_hand p1_leader l2 l3 l4 s0 = some rf) : Z E (0, 0) [(0, .ref a_t), (1, .ref a_p1), (2, .int l2), (3, .int l3), (4, .int l4)] 60 [.int s0] [(a_t, .inr (7, [.ref a_t_group, .ref a_t_train, .int t_groups, .ref a_t_best, .ref a_t_better, .ref a_t_course])), (a_t_group, .inl (cI, 8, .inl t_group)), (a_t_train, .inl (cI, 8, .inl t_train)), (a_t_best, .inl (cI, 24, .inl t_best)), (a_p1, .inr (3, [.int p1_players, .int p1_round, .int p1_time, .ref a_p1_kind, .ref a_p1_hand, .ref a_p1_leader, .ref a_p1_course])), (a_p1_hand, .inl (cI, 8, .inl p1_hand)), (a_p1_leader, .inl (cI, 8, .inl p1_leader))] := by
  rw [o_X7_start_60] at hR
  refine z_istore hC [(5, .int s0), (0, .ref a_t), (1, .ref a_p1), (2, .int l2), (3, .int l3), (4, .int l4)] dX7_start_60 (by decide) rfl ?_
  refine z_aload_n hC dX7_start_62 rfl 1 rfl ?_
  refine z_get hC iX7_start_X7 rfl 0 3 rfl (by decide) mX7_start_4 rfl rfl dX7_start_63 ?_
  refine z_iload_n hC dX7_start_66 rfl 3 rfl ?_
  refine z_ic3 hC dX7_start_67 ?_
  refine z_imul hC dX7_start_68 ?_
  refine z_iload hC dX7_start_69 5 rfl ?_
  refine z_iadd hC dX7_start_71 ?_
  refine z_iload_n hC dX7_start_72 rfl 4 rfl ?_
  refine z_if_eq hC 92 dX7_start_73 (by decide) hR (fun hR => ?_) (fun hR => ?_)
  · refine z_ldc hC 1073741824 mX7_start_5 dX7_start_92 ?_
    refine z_iast hC 3 0 rfl rfl dX7_start_94 hR (fun hR => ?_)
    refine z_iinc1 hC [(4, .int (l4 + 1)), (5, .int s0), (0, .ref a_t), (1, .ref a_p1), (2, .int l2), (3, .int l3)] dX7_start_95 5 rfl (by decide) rfl ?_
    refine z_goto hC 38 dX7_start_98 (by decide) ?_
    refine z_sub (lv' := [(0, .ref a_t), (1, .ref a_p1), (2, .int l2), (3, .int l3), (4, .int (l4 + 1))]) [2, 3, 4, 5, 0] rfl ?_
    exact hK38 (upd t_best (Int32.toNatClampNeg ((l2 * 3) + l4)) 1073741824) (l4 + 1) hR
  · refine z_iload hC dX7_start_76 0 rfl ?_
    refine z_bipush (v := 16) hC dX7_start_78 (by decide) ?_
    refine z_ishl hC dX7_start_80 ?_
    refine z_iload hC dX7_start_81 5 rfl ?_
    refine z_iload_n hC dX7_start_83 rfl 3 rfl ?_
    refine z_callSi_p hC hN [.int l2] [] (c_X7_shiftOf (l := zl E) (D := zD E) (cI := cI) (cB := cB) (cZ := cZ) (N := N) (l0 := l2)) rfl ⟨rfl, rfl⟩ gX7_start_X7_shiftOf hsX7_shiftOf ⟨Nat.le_of_ble_eq_true rfl, Nat.le_of_ble_eq_true rfl⟩ ⟨Nat.zero_le _, Nat.zero_le _⟩ rfl (Nat.le_of_ble_eq_true rfl) rfl (by decide) dX7_start_84 hR (fun r84 hR => ?_)
    refine z_ishl hC dX7_start_87 ?_
    refine z_iadd hC dX7_start_88 ?_
    refine z_goto hC 94 dX7_start_89 (by decide) ?_
    refine z_iast hC 3 0 rfl rfl dX7_start_94 hR (fun hR => ?_)
    refine z_iinc1 hC [(4, .int (l4 + 1)), (5, .int s0), (0, .ref a_t), (1, .ref a_p1), (2, .int l2), (3, .int l3)] dX7_start_95 5 rfl (by decide) rfl ?_
    refine z_goto hC 38 dX7_start_98 (by decide) ?_
    refine z_sub (lv' := [(0, .ref a_t), (1, .ref a_p1), (2, .int l2), (3, .int l3), (4, .int (l4 + 1))]) [2, 3, 4, 5, 0] rfl ?_
    exact hK38 (upd t_best (Int32.toNatClampNeg ((l2 * 3) + l4)) ((s0 <<< (16 &&& 31)) + (l4 <<< (r84 &&& 31)))) (l4 + 1) hR
set_option maxHeartbeats 4000000 in
set_option maxRecDepth 100000 in
theorem z_X7_start_38 {sK sV : Nat → Nat} {E : ZE} {cI cB cZ : ClassId} (hC : ZC E 6 cX7_start wsX7_start RX7 rmX7_start none (zty cI cB cZ)) (hN : ZN sK sV (zA E) (zs E)) {N : Nat} {a_t : Nat} {a_t_group : Nat} {a_t_train : Nat} {a_t_best : Nat} {a_p1 : Nat} {a_p1_hand : Nat} {a_p1_leader : Nat} {a_t_better : Nat} {a_t_course : Nat} {a_p1_kind : Nat} {a_p1_course : Nat} {t_groups : Int32} {t_group : (Nat → Int32)} {t_train : (Nat → Int32)} {p1_players : Int32} {p1_round : Int32} {p1_time : Int32} {p1_hand : (Nat → Int32)} {p1_leader : (Nat → Int32)} {l2 : Int32} {l3 : Int32} {K7 : Int32 → (Nat → Int32) → (Nat → Int32) → (Nat → Int32) → Int32 → Option (Int32 × (Nat → Int32) × (Nat → Int32) × (Nat → Int32))} {rf : Int32 × (Nat → Int32) × (Nat → Int32) × (Nat → Int32)} (hQ : ZQv E (zty cI cB cZ) [(a_t, .inr (7, [.ref a_t_group, .ref a_t_train, .int rf.1, .ref a_t_best, .ref a_t_better, .ref a_t_course])), (a_t_group, .inl (cI, 8, .inl rf.2.1)), (a_t_train, .inl (cI, 8, .inl rf.2.2.1)), (a_t_best, .inl (cI, 24, .inl rf.2.2.2)), (a_p1, .inr (3, [.int p1_players, .int p1_round, .int p1_time, .ref a_p1_kind, .ref a_p1_hand, .ref a_p1_leader, .ref a_p1_course])), (a_p1_hand, .inl (cI, 8, .inl p1_hand)), (a_p1_leader, .inl (cI, 8, .inl p1_leader))]) (hK7 : ∀ (t_groups : Int32) (t_group : (Nat → Int32)) (t_train : (Nat → Int32)) (t_best : (Nat → Int32)) (l2 : Int32), K7 t_groups t_group t_train t_best l2 = some rf → Z E (0, 0) [(0, .ref a_t), (1, .ref a_p1), (2, .int l2)] 7 [] [(a_t, .inr (7, [.ref a_t_group, .ref a_t_train, .int t_groups, .ref a_t_best, .ref a_t_better, .ref a_t_course])), (a_t_group, .inl (cI, 8, .inl t_group)), (a_t_train, .inl (cI, 8, .inl t_train)), (a_t_best, .inl (cI, 24, .inl t_best)), (a_p1, .inr (3, [.int p1_players, .int p1_round, .int p1_time, .ref a_p1_kind, .ref a_p1_hand, .ref a_p1_leader, .ref a_p1_course])), (a_p1_hand, .inl (cI, 8, .inl p1_hand)), (a_p1_leader, .inl (cI, 8, .inl p1_leader))]) : ∀ (n : Nat) (t_best : (Nat → Int32)) (l4 : Int32), o_X7_start_38 N K7 t_groups t_group t_train p1_players p1_hand p1_leader l2 l3 n t_best l4 = some rf → Z E (0, 0) [(0, .ref a_t), (1, .ref a_p1), (2, .int l2), (3, .int l3), (4, .int l4)] 38 [] [(a_t, .inr (7, [.ref a_t_group, .ref a_t_train, .int t_groups, .ref a_t_best, .ref a_t_better, .ref a_t_course])), (a_t_group, .inl (cI, 8, .inl t_group)), (a_t_train, .inl (cI, 8, .inl t_train)), (a_t_best, .inl (cI, 24, .inl t_best)), (a_p1, .inr (3, [.int p1_players, .int p1_round, .int p1_time, .ref a_p1_kind, .ref a_p1_hand, .ref a_p1_leader, .ref a_p1_course])), (a_p1_hand, .inl (cI, 8, .inl p1_hand)), (a_p1_leader, .inl (cI, 8, .inl p1_leader))] := by
  intro n
  induction n with
  | zero =>
    intro t_best l4 hR
    cases hR
  | succ n ih =>
    intro t_best l4 hR
    rw [o_X7_start_38] at hR
    refine z_iload hC dX7_start_38 4 rfl ?_
    refine z_ic3 hC dX7_start_40 ?_
    refine z_icmp_ge hC 101 dX7_start_41 (by decide) hR (fun hR => ?_) (fun hR => ?_)
    · refine z_aload_n hC dX7_start_101 rfl 0 rfl ?_
      refine z_get hC iX7_start_X7 rfl 0 0 rfl (by decide) mX7_start_6 rfl rfl dX7_start_102 ?_
      refine z_iload_n hC dX7_start_105 rfl 2 rfl ?_
      refine z_icm1 hC dX7_start_106 ?_
      refine z_iast hC 1 0 rfl rfl dX7_start_107 hR (fun hR => ?_)
      refine z_iload_n hC dX7_start_108 rfl 3 rfl ?_
      refine z_if_eq hC 146 dX7_start_109 (by decide) hR (fun hR => ?_) (fun hR => ?_)
      · refine z_iinc1 hC [(2, .int (l2 + 1)), (0, .ref a_t), (1, .ref a_p1), (3, .int l3), (4, .int l4)] dX7_start_146 2 rfl (by decide) rfl ?_
        refine z_goto hC 7 dX7_start_149 (by decide) ?_
        refine z_sub (lv' := [(0, .ref a_t), (1, .ref a_p1), (2, .int (l2 + 1))]) [1, 2, 0] rfl ?_
        exact hK7 t_groups (upd t_group (Int32.toNatClampNeg l2) (-1)) t_train t_best (l2 + 1) hR
      · refine z_aload_n hC dX7_start_112 rfl 0 rfl ?_
        refine z_get hC iX7_start_X7 rfl 0 0 rfl (by decide) mX7_start_6 rfl rfl dX7_start_113 ?_
        refine z_iload_n hC dX7_start_116 rfl 2 rfl ?_
        refine z_aload_n hC dX7_start_117 rfl 0 rfl ?_
        refine z_get hC iX7_start_X7 rfl 0 2 rfl (by decide) mX7_start_1 rfl rfl dX7_start_118 ?_
        refine z_iast hC 1 0 rfl rfl dX7_start_121 hR (fun hR => ?_)
        refine z_aload_n hC dX7_start_122 rfl 0 rfl ?_
        refine z_get hC iX7_start_X7 rfl 0 1 rfl (by decide) mX7_start_7 rfl rfl dX7_start_123 ?_
        refine z_aload_n hC dX7_start_126 rfl 0 rfl ?_
        refine z_get hC iX7_start_X7 rfl 0 2 rfl (by decide) mX7_start_1 rfl rfl dX7_start_127 ?_
        refine z_aload_n hC dX7_start_130 rfl 1 rfl ?_
        refine z_iload_n hC dX7_start_131 rfl 2 rfl ?_
        refine z_callVi_p hC hN [.int l2] [4, 6] (c_X3_trainOf (l := zl E) (D := zD E) (cI := cI) (cB := cB) (cZ := cZ) (N := N) (a_t := a_p1) (a_t_kind := a_p1_kind) (a_t_hand := a_p1_hand) (a_t_leader := a_p1_leader) (a_t_course := a_p1_course) (l1 := l2) (t_players := p1_players) (t_round := p1_round) (t_time := p1_time) (t_leader := p1_leader)) rfl ⟨rfl, rfl⟩ gX7_start_X3_trainOf hvX3_trainOf 4 3 rfl rfl rfl ⟨Nat.le_of_ble_eq_true rfl, Nat.le_of_ble_eq_true rfl⟩ ⟨Nat.zero_le _, Nat.zero_le _⟩ rfl (Nat.le_of_ble_eq_true rfl) rfl (by decide) dX7_start_132 hR (fun r132 hR => ?_)
        refine z_iast hC 2 0 rfl rfl dX7_start_135 hR (fun hR => ?_)
        refine z_aload_n hC dX7_start_136 rfl 0 rfl ?_
        refine z_dup hC dX7_start_137 rfl ?_
        refine z_get hC iX7_start_X7 rfl 0 2 rfl (by decide) mX7_start_1 rfl rfl dX7_start_138 ?_
        refine z_ic1 hC dX7_start_141 ?_
        refine z_iadd hC dX7_start_142 ?_
        refine z_put hC iX7_start_X7 tyX7_ok nmX7 rfl 0 2 rfl (by decide) mX7_start_1 rfl rfl rfl rfl (Nat.le_of_ble_eq_true rfl) dX7_start_143 ?_
        refine z_iinc1 hC [(2, .int (l2 + 1)), (0, .ref a_t), (1, .ref a_p1), (3, .int l3), (4, .int l4)] dX7_start_146 2 rfl (by decide) rfl ?_
        refine z_goto hC 7 dX7_start_149 (by decide) ?_
        refine z_sub (lv' := [(0, .ref a_t), (1, .ref a_p1), (2, .int (l2 + 1))]) [1, 2, 0] rfl ?_
        exact hK7 (t_groups + 1) (upd (upd t_group (Int32.toNatClampNeg l2) (-1)) (Int32.toNatClampNeg l2) t_groups) (upd t_train (Int32.toNatClampNeg t_groups) r132) t_best (l2 + 1) hR
    · refine z_iload hC dX7_start_44 4 rfl ?_
      refine z_aload_n hC dX7_start_46 rfl 1 rfl ?_
      refine z_get hC iX7_start_X3 rfl 4 4 rfl (by decide) mX7_start_3 rfl rfl dX7_start_47 ?_
      refine z_iload_n hC dX7_start_50 rfl 2 rfl ?_
      refine z_iald hC 5 0 rfl rfl dX7_start_51 hR (fun hR => ?_)
      refine z_icmp_ne hC 59 dX7_start_52 (by decide) hR (fun hR => ?_) (fun hR => ?_)
      · refine z_ic1 hC dX7_start_59 ?_
        exact z_X7_start_60 hC hN (N := N) (a_t := a_t) (a_t_group := a_t_group) (a_t_train := a_t_train) (a_t_best := a_t_best) (a_p1 := a_p1) (a_p1_hand := a_p1_hand) (a_p1_leader := a_p1_leader) (a_t_better := a_t_better) (a_t_course := a_t_course) (a_p1_kind := a_p1_kind) (a_p1_course := a_p1_course) (t_groups := t_groups) (t_group := t_group) (t_train := t_train) (t_best := t_best) (p1_players := p1_players) (p1_round := p1_round) (p1_time := p1_time) (p1_hand := p1_hand) (p1_leader := p1_leader) (l2 := l2) (l3 := l3) (l4 := l4) (s0 := 1) hQ ih hR
      · refine z_ic0 hC dX7_start_55 ?_
        refine z_goto hC 60 dX7_start_56 (by decide) ?_
        exact z_X7_start_60 hC hN (N := N) (a_t := a_t) (a_t_group := a_t_group) (a_t_train := a_t_train) (a_t_best := a_t_best) (a_p1 := a_p1) (a_p1_hand := a_p1_hand) (a_p1_leader := a_p1_leader) (a_t_better := a_t_better) (a_t_course := a_t_course) (a_p1_kind := a_p1_kind) (a_p1_course := a_p1_course) (t_groups := t_groups) (t_group := t_group) (t_train := t_train) (t_best := t_best) (p1_players := p1_players) (p1_round := p1_round) (p1_time := p1_time) (p1_hand := p1_hand) (p1_leader := p1_leader) (l2 := l2) (l3 := l3) (l4 := l4) (s0 := 0) hQ ih hR
set_option maxHeartbeats 4000000 in
set_option maxRecDepth 100000 in
theorem z_X7_start_33 {sK sV : Nat → Nat} {E : ZE} {cI cB cZ : ClassId} (hC : ZC E 6 cX7_start wsX7_start RX7 rmX7_start none (zty cI cB cZ)) (hN : ZN sK sV (zA E) (zs E)) {N : Nat} {a_t : Nat} {a_t_group : Nat} {a_t_train : Nat} {a_t_best : Nat} {a_p1 : Nat} {a_p1_hand : Nat} {a_p1_leader : Nat} {a_t_better : Nat} {a_t_course : Nat} {a_p1_kind : Nat} {a_p1_course : Nat} {t_groups : Int32} {t_group : (Nat → Int32)} {t_train : (Nat → Int32)} {t_best : (Nat → Int32)} {p1_players : Int32} {p1_round : Int32} {p1_time : Int32} {p1_hand : (Nat → Int32)} {p1_leader : (Nat → Int32)} {l2 : Int32} {K7 : Int32 → (Nat → Int32) → (Nat → Int32) → (Nat → Int32) → Int32 → Option (Int32 × (Nat → Int32) × (Nat → Int32) × (Nat → Int32))} {rf : Int32 × (Nat → Int32) × (Nat → Int32) × (Nat → Int32)} (hQ : ZQv E (zty cI cB cZ) [(a_t, .inr (7, [.ref a_t_group, .ref a_t_train, .int rf.1, .ref a_t_best, .ref a_t_better, .ref a_t_course])), (a_t_group, .inl (cI, 8, .inl rf.2.1)), (a_t_train, .inl (cI, 8, .inl rf.2.2.1)), (a_t_best, .inl (cI, 24, .inl rf.2.2.2)), (a_p1, .inr (3, [.int p1_players, .int p1_round, .int p1_time, .ref a_p1_kind, .ref a_p1_hand, .ref a_p1_leader, .ref a_p1_course])), (a_p1_hand, .inl (cI, 8, .inl p1_hand)), (a_p1_leader, .inl (cI, 8, .inl p1_leader))]) (hK7 : ∀ (t_groups : Int32) (t_group : (Nat → Int32)) (t_train : (Nat → Int32)) (t_best : (Nat → Int32)) (l2 : Int32), K7 t_groups t_group t_train t_best l2 = some rf → Z E (0, 0) [(0, .ref a_t), (1, .ref a_p1), (2, .int l2)] 7 [] [(a_t, .inr (7, [.ref a_t_group, .ref a_t_train, .int t_groups, .ref a_t_best, .ref a_t_better, .ref a_t_course])), (a_t_group, .inl (cI, 8, .inl t_group)), (a_t_train, .inl (cI, 8, .inl t_train)), (a_t_best, .inl (cI, 24, .inl t_best)), (a_p1, .inr (3, [.int p1_players, .int p1_round, .int p1_time, .ref a_p1_kind, .ref a_p1_hand, .ref a_p1_leader, .ref a_p1_course])), (a_p1_hand, .inl (cI, 8, .inl p1_hand)), (a_p1_leader, .inl (cI, 8, .inl p1_leader))]) (hR : o_X7_start_33 N K7 t_groups t_group t_train t_best p1_players p1_hand p1_leader l2 = some rf) : Z E (0, 0) [(0, .ref a_t), (1, .ref a_p1), (2, .int l2)] 33 [] [(a_t, .inr (7, [.ref a_t_group, .ref a_t_train, .int t_groups, .ref a_t_best, .ref a_t_better, .ref a_t_course])), (a_t_group, .inl (cI, 8, .inl t_group)), (a_t_train, .inl (cI, 8, .inl t_train)), (a_t_best, .inl (cI, 24, .inl t_best)), (a_p1, .inr (3, [.int p1_players, .int p1_round, .int p1_time, .ref a_p1_kind, .ref a_p1_hand, .ref a_p1_leader, .ref a_p1_course])), (a_p1_hand, .inl (cI, 8, .inl p1_hand)), (a_p1_leader, .inl (cI, 8, .inl p1_leader))] := by
  rw [o_X7_start_33] at hR
  refine z_ic0 hC dX7_start_33 ?_
  refine z_istore_n hC [(3, .int 0), (0, .ref a_t), (1, .ref a_p1), (2, .int l2)] dX7_start_34 rfl (by decide) rfl ?_
  refine z_ic0 hC dX7_start_35 ?_
  refine z_istore hC [(4, .int 0), (3, .int 0), (0, .ref a_t), (1, .ref a_p1), (2, .int l2)] dX7_start_36 (by decide) rfl ?_
  refine z_sub (lv' := [(0, .ref a_t), (1, .ref a_p1), (2, .int l2), (3, .int 0), (4, .int 0)]) [2, 3, 4, 1, 0] rfl ?_
  exact z_X7_start_38 hC hN (N := N) (a_t := a_t) (a_t_group := a_t_group) (a_t_train := a_t_train) (a_t_best := a_t_best) (a_p1 := a_p1) (a_p1_hand := a_p1_hand) (a_p1_leader := a_p1_leader) (a_t_better := a_t_better) (a_t_course := a_t_course) (a_p1_kind := a_p1_kind) (a_p1_course := a_p1_course) (t_groups := t_groups) (t_group := t_group) (t_train := t_train) (p1_players := p1_players) (p1_round := p1_round) (p1_time := p1_time) (p1_hand := p1_hand) (p1_leader := p1_leader) (l2 := l2) (l3 := 0) hQ hK7 N t_best 0 hR
set_option maxHeartbeats 4000000 in
set_option maxRecDepth 100000 in
theorem z_X7_start_7 {sK sV : Nat → Nat} {E : ZE} {cI cB cZ : ClassId} (hC : ZC E 6 cX7_start wsX7_start RX7 rmX7_start none (zty cI cB cZ)) (hN : ZN sK sV (zA E) (zs E)) {N : Nat} {a_t : Nat} {a_t_group : Nat} {a_t_train : Nat} {a_t_best : Nat} {a_p1 : Nat} {a_p1_hand : Nat} {a_p1_leader : Nat} {a_t_better : Nat} {a_t_course : Nat} {a_p1_kind : Nat} {a_p1_course : Nat} {p1_players : Int32} {p1_round : Int32} {p1_time : Int32} {p1_hand : (Nat → Int32)} {p1_leader : (Nat → Int32)} {rf : Int32 × (Nat → Int32) × (Nat → Int32) × (Nat → Int32)} (hQ : ZQv E (zty cI cB cZ) [(a_t, .inr (7, [.ref a_t_group, .ref a_t_train, .int rf.1, .ref a_t_best, .ref a_t_better, .ref a_t_course])), (a_t_group, .inl (cI, 8, .inl rf.2.1)), (a_t_train, .inl (cI, 8, .inl rf.2.2.1)), (a_t_best, .inl (cI, 24, .inl rf.2.2.2)), (a_p1, .inr (3, [.int p1_players, .int p1_round, .int p1_time, .ref a_p1_kind, .ref a_p1_hand, .ref a_p1_leader, .ref a_p1_course])), (a_p1_hand, .inl (cI, 8, .inl p1_hand)), (a_p1_leader, .inl (cI, 8, .inl p1_leader))]) : ∀ (n : Nat) (t_groups : Int32) (t_group : (Nat → Int32)) (t_train : (Nat → Int32)) (t_best : (Nat → Int32)) (l2 : Int32), o_X7_start_7 N p1_players p1_hand p1_leader n t_groups t_group t_train t_best l2 = some rf → Z E (0, 0) [(0, .ref a_t), (1, .ref a_p1), (2, .int l2)] 7 [] [(a_t, .inr (7, [.ref a_t_group, .ref a_t_train, .int t_groups, .ref a_t_best, .ref a_t_better, .ref a_t_course])), (a_t_group, .inl (cI, 8, .inl t_group)), (a_t_train, .inl (cI, 8, .inl t_train)), (a_t_best, .inl (cI, 24, .inl t_best)), (a_p1, .inr (3, [.int p1_players, .int p1_round, .int p1_time, .ref a_p1_kind, .ref a_p1_hand, .ref a_p1_leader, .ref a_p1_course])), (a_p1_hand, .inl (cI, 8, .inl p1_hand)), (a_p1_leader, .inl (cI, 8, .inl p1_leader))] := by
  intro n
  induction n with
  | zero =>
    intro t_groups t_group t_train t_best l2 hR
    cases hR
  | succ n ih =>
    intro t_groups t_group t_train t_best l2 hR
    rw [o_X7_start_7] at hR
    refine z_iload_n hC dX7_start_7 rfl 2 rfl ?_
    refine z_bipush (v := 8) hC dX7_start_8 (by decide) ?_
    refine z_icmp_ge hC 152 dX7_start_10 (by decide) hR (fun hR => ?_) (fun hR => ?_)
    · obtain rfl := Option.some.inj hR
      exact z_vret hC hQ rfl dX7_start_152
    · refine z_iload_n hC dX7_start_13 rfl 2 rfl ?_
      refine z_aload_n hC dX7_start_14 rfl 1 rfl ?_
      refine z_get hC iX7_start_X3 rfl 4 0 rfl (by decide) mX7_start_2 rfl rfl dX7_start_15 ?_
      refine z_icmp_ge hC 33 dX7_start_18 (by decide) hR (fun hR => ?_) (fun hR => ?_)
      · exact z_X7_start_33 hC hN (N := N) (a_t := a_t) (a_t_group := a_t_group) (a_t_train := a_t_train) (a_t_best := a_t_best) (a_p1 := a_p1) (a_p1_hand := a_p1_hand) (a_p1_leader := a_p1_leader) (a_t_better := a_t_better) (a_t_course := a_t_course) (a_p1_kind := a_p1_kind) (a_p1_course := a_p1_course) (t_groups := t_groups) (t_group := t_group) (t_train := t_train) (t_best := t_best) (p1_players := p1_players) (p1_round := p1_round) (p1_time := p1_time) (p1_hand := p1_hand) (p1_leader := p1_leader) (l2 := l2) hQ ih hR
      · refine z_aload_n hC dX7_start_21 rfl 1 rfl ?_
        refine z_iload_n hC dX7_start_22 rfl 2 rfl ?_
        refine z_callVi_p hC hN [.int l2] [4, 6] (c_X3_leads (l := zl E) (D := zD E) (cI := cI) (cB := cB) (cZ := cZ) (N := N) (a_t := a_p1) (a_t_kind := a_p1_kind) (a_t_hand := a_p1_hand) (a_t_leader := a_p1_leader) (a_t_course := a_p1_course) (l1 := l2) (t_players := p1_players) (t_round := p1_round) (t_time := p1_time) (t_leader := p1_leader)) rfl ⟨rfl, rfl⟩ gX7_start_X3_leads hvX3_leads 4 3 rfl rfl rfl ⟨Nat.le_of_ble_eq_true rfl, Nat.le_of_ble_eq_true rfl⟩ ⟨Nat.zero_le _, Nat.zero_le _⟩ rfl (Nat.le_of_ble_eq_true rfl) rfl (by decide) dX7_start_23 hR (fun r23 hR => ?_)
        refine z_if_eq hC 33 dX7_start_26 (by decide) hR (fun hR => ?_) (fun hR => ?_)
        · exact z_X7_start_33 hC hN (N := N) (a_t := a_t) (a_t_group := a_t_group) (a_t_train := a_t_train) (a_t_best := a_t_best) (a_p1 := a_p1) (a_p1_hand := a_p1_hand) (a_p1_leader := a_p1_leader) (a_t_better := a_t_better) (a_t_course := a_t_course) (a_p1_kind := a_p1_kind) (a_p1_course := a_p1_course) (t_groups := t_groups) (t_group := t_group) (t_train := t_train) (t_best := t_best) (p1_players := p1_players) (p1_round := p1_round) (p1_time := p1_time) (p1_hand := p1_hand) (p1_leader := p1_leader) (l2 := l2) hQ ih hR
        · refine z_ic1 hC dX7_start_29 ?_
          refine z_goto hC 34 dX7_start_30 (by decide) ?_
          refine z_istore_n hC [(3, .int 1), (0, .ref a_t), (1, .ref a_p1), (2, .int l2)] dX7_start_34 rfl (by decide) rfl ?_
          refine z_ic0 hC dX7_start_35 ?_
          refine z_istore hC [(4, .int 0), (3, .int 1), (0, .ref a_t), (1, .ref a_p1), (2, .int l2)] dX7_start_36 (by decide) rfl ?_
          refine z_sub (lv' := [(0, .ref a_t), (1, .ref a_p1), (2, .int l2), (3, .int 1), (4, .int 0)]) [2, 3, 4, 1, 0] rfl ?_
          exact z_X7_start_38 hC hN (N := N) (a_t := a_t) (a_t_group := a_t_group) (a_t_train := a_t_train) (a_t_best := a_t_best) (a_p1 := a_p1) (a_p1_hand := a_p1_hand) (a_p1_leader := a_p1_leader) (a_t_better := a_t_better) (a_t_course := a_t_course) (a_p1_kind := a_p1_kind) (a_p1_course := a_p1_course) (t_groups := t_groups) (t_group := t_group) (t_train := t_train) (p1_players := p1_players) (p1_round := p1_round) (p1_time := p1_time) (p1_hand := p1_hand) (p1_leader := p1_leader) (l2 := l2) (l3 := 1) hQ ih N t_best 0 hR
set_option maxHeartbeats 4000000 in
set_option maxRecDepth 100000 in
theorem z_X7_start_0 {sK sV : Nat → Nat} {E : ZE} {cI cB cZ : ClassId} (hC : ZC E 6 cX7_start wsX7_start RX7 rmX7_start none (zty cI cB cZ)) (hN : ZN sK sV (zA E) (zs E)) {N : Nat} {a_t : Nat} {a_t_group : Nat} {a_t_train : Nat} {a_t_best : Nat} {a_p1 : Nat} {a_p1_hand : Nat} {a_p1_leader : Nat} {a_t_better : Nat} {a_t_course : Nat} {a_p1_kind : Nat} {a_p1_course : Nat} {t_groups : Int32} {t_group : (Nat → Int32)} {t_train : (Nat → Int32)} {t_best : (Nat → Int32)} {p1_players : Int32} {p1_round : Int32} {p1_time : Int32} {p1_hand : (Nat → Int32)} {p1_leader : (Nat → Int32)} {rf : Int32 × (Nat → Int32) × (Nat → Int32) × (Nat → Int32)} (hQ : ZQv E (zty cI cB cZ) [(a_t, .inr (7, [.ref a_t_group, .ref a_t_train, .int rf.1, .ref a_t_best, .ref a_t_better, .ref a_t_course])), (a_t_group, .inl (cI, 8, .inl rf.2.1)), (a_t_train, .inl (cI, 8, .inl rf.2.2.1)), (a_t_best, .inl (cI, 24, .inl rf.2.2.2)), (a_p1, .inr (3, [.int p1_players, .int p1_round, .int p1_time, .ref a_p1_kind, .ref a_p1_hand, .ref a_p1_leader, .ref a_p1_course])), (a_p1_hand, .inl (cI, 8, .inl p1_hand)), (a_p1_leader, .inl (cI, 8, .inl p1_leader))]) (hR : o_X7_start N t_group t_train t_best p1_players p1_hand p1_leader = some rf) : Z E (0, 0) [(0, .ref a_t), (1, .ref a_p1)] 0 [] [(a_t, .inr (7, [.ref a_t_group, .ref a_t_train, .int t_groups, .ref a_t_best, .ref a_t_better, .ref a_t_course])), (a_t_group, .inl (cI, 8, .inl t_group)), (a_t_train, .inl (cI, 8, .inl t_train)), (a_t_best, .inl (cI, 24, .inl t_best)), (a_p1, .inr (3, [.int p1_players, .int p1_round, .int p1_time, .ref a_p1_kind, .ref a_p1_hand, .ref a_p1_leader, .ref a_p1_course])), (a_p1_hand, .inl (cI, 8, .inl p1_hand)), (a_p1_leader, .inl (cI, 8, .inl p1_leader))] := by
  rw [o_X7_start] at hR
  refine z_aload_n hC dX7_start_0 rfl 0 rfl ?_
  refine z_ic0 hC dX7_start_1 ?_
  refine z_put hC iX7_start_X7 tyX7_ok nmX7 rfl 0 2 rfl (by decide) mX7_start_1 rfl rfl rfl rfl (Nat.le_of_ble_eq_true rfl) dX7_start_2 ?_
  refine z_ic0 hC dX7_start_5 ?_
  refine z_istore_n hC [(2, .int 0), (0, .ref a_t), (1, .ref a_p1)] dX7_start_6 rfl (by decide) rfl ?_
  refine z_sub (lv' := [(0, .ref a_t), (1, .ref a_p1), (2, .int 0)]) [1, 2, 0] rfl ?_
  exact z_X7_start_7 hC hN (N := N) (a_t := a_t) (a_t_group := a_t_group) (a_t_train := a_t_train) (a_t_best := a_t_best) (a_p1 := a_p1) (a_p1_hand := a_p1_hand) (a_p1_leader := a_p1_leader) (a_t_better := a_t_better) (a_t_course := a_t_course) (a_p1_kind := a_p1_kind) (a_p1_course := a_p1_course) (p1_players := p1_players) (p1_round := p1_round) (p1_time := p1_time) (p1_hand := p1_hand) (p1_leader := p1_leader) hQ  N 0 t_group t_train t_best 0 hR
set_option maxHeartbeats 4000000 in
set_option maxRecDepth 100000 in
theorem c_X7_start {sK sV : Nat → Nat} {l : Launch} {D : va_G} {cI cB cZ : ClassId} {N : Nat} {a_t : Nat} {a_t_group : Nat} {a_t_train : Nat} {a_t_best : Nat} {a_p1 : Nat} {a_p1_hand : Nat} {a_p1_leader : Nat} {a_t_better : Nat} {a_t_course : Nat} {a_p1_kind : Nat} {a_p1_course : Nat} {t_groups : Int32} {t_group : (Nat → Int32)} {t_train : (Nat → Int32)} {t_best : (Nat → Int32)} {p1_players : Int32} {p1_round : Int32} {p1_time : Int32} {p1_hand : (Nat → Int32)} {p1_leader : (Nat → Int32)} : ∀ R : Int32 × (Nat → Int32) × (Nat → Int32) × (Nat → Int32), o_X7_start N t_group t_train t_best p1_players p1_hand p1_leader = some R → ZMv sK sV l yX7_start wsX7_start rmX7_start D (zty cI cB cZ) [.ref a_t, .ref a_p1] [(a_t, .inr (7, [.ref a_t_group, .ref a_t_train, .int t_groups, .ref a_t_best, .ref a_t_better, .ref a_t_course])), (a_t_group, .inl (cI, 8, .inl t_group)), (a_t_train, .inl (cI, 8, .inl t_train)), (a_t_best, .inl (cI, 24, .inl t_best)), (a_p1, .inr (3, [.int p1_players, .int p1_round, .int p1_time, .ref a_p1_kind, .ref a_p1_hand, .ref a_p1_leader, .ref a_p1_course])), (a_p1_hand, .inl (cI, 8, .inl p1_hand)), (a_p1_leader, .inl (cI, 8, .inl p1_leader))] [(a_t, .inr (7, [.ref a_t_group, .ref a_t_train, .int R.1, .ref a_t_best, .ref a_t_better, .ref a_t_course])), (a_t_group, .inl (cI, 8, .inl R.2.1)), (a_t_train, .inl (cI, 8, .inl R.2.2.1)), (a_t_best, .inl (cI, 24, .inl R.2.2.2)), (a_p1, .inr (3, [.int p1_players, .int p1_round, .int p1_time, .ref a_p1_kind, .ref a_p1_hand, .ref a_p1_leader, .ref a_p1_course])), (a_p1_hand, .inl (cI, 8, .inl p1_hand)), (a_p1_leader, .inl (cI, 8, .inl p1_leader))] := by
  intro R hR
  refine zv_of (cc := cX7_start) (maxL := 6) (ret := none) (by decide) rfl (Nat.le_of_ble_eq_true rfl) (fun E hE1 hE2 hC hN hQ => ?_)
  subst hE1 hE2
  exact z_X7_start_0 hC hN (N := N) (a_t := a_t) (a_t_group := a_t_group) (a_t_train := a_t_train) (a_t_best := a_t_best) (a_p1 := a_p1) (a_p1_hand := a_p1_hand) (a_p1_leader := a_p1_leader) (a_t_better := a_t_better) (a_t_course := a_t_course) (a_p1_kind := a_p1_kind) (a_p1_course := a_p1_course) (t_groups := t_groups) (t_group := t_group) (t_train := t_train) (t_best := t_best) (p1_players := p1_players) (p1_round := p1_round) (p1_time := p1_time) (p1_hand := p1_hand) (p1_leader := p1_leader) hQ hR

/-! FistTrains$Ways.pairPlayers -/
abbrev rmX7_pairPlayers : Room := { frames := 2, cells := 0, slots := 0, locals := 48 }
set_option maxRecDepth 20000 in
theorem iX7_pairPlayers_X7 : ∀ w ∈ wsX70, w ∈ wsX7_pairPlayers := by decide +kernel
set_option maxRecDepth 20000 in
theorem mX7_pairPlayers_1 : Cond.fieldLink RX7 15 "FistTrains$Ways" "train" "[I" ∈ wsX7_pairPlayers := List.mem_of_getElem? (i := 1) rfl
set_option maxRecDepth 20000 in
theorem mX7_pairPlayers_2 : Cond.fieldLink RX7 9 "FistTrains$Ways" "group" "[I" ∈ wsX7_pairPlayers := List.mem_of_getElem? (i := 2) rfl
set_option maxRecDepth 20000 in
theorem mX7_pairPlayers_5 : Cond.fieldLink RX7 31 "FistTrains$Ways" "course" "LFistTrains$Course;" ∈ wsX7_pairPlayers := List.mem_of_getElem? (i := 5) rfl
set_option maxRecDepth 20000 in
theorem iX7_pairPlayers_X2 : ∀ w ∈ wsX20, w ∈ wsX7_pairPlayers := by decide +kernel
set_option maxRecDepth 20000 in
theorem mX7_pairPlayers_8 : Cond.fieldLink RX7 96 "FistTrains$Course" "first" "I" ∈ wsX7_pairPlayers := List.mem_of_getElem? (i := 8) rfl
set_option maxRecDepth 20000 in
theorem mX7_pairPlayers_7 : Cond.fieldLink RX7 93 "FistTrains$Course" "second" "I" ∈ wsX7_pairPlayers := List.mem_of_getElem? (i := 7) rfl
set_option maxRecDepth 20000 in
theorem mX7_pairPlayers_3 : Cond.fieldLink RX7 22 "FistTrains$Ways" "best" "[I" ∈ wsX7_pairPlayers := List.mem_of_getElem? (i := 3) rfl
set_option maxRecDepth 20000 in
theorem mX7_pairPlayers_4 : Cond.constant RX7 46 (1073741824) ∈ wsX7_pairPlayers := List.mem_of_getElem? (i := 4) rfl
set_option maxRecDepth 20000 in
theorem iX7_pairPlayers_X3 : ∀ w ∈ wsX30, w ∈ wsX7_pairPlayers := by decide +kernel
set_option maxRecDepth 20000 in
theorem mX7_pairPlayers_6 : Cond.fieldLink RX7 79 "FistTrains$Hall" "kind" "[I" ∈ wsX7_pairPlayers := List.mem_of_getElem? (i := 6) rfl
set_option maxRecDepth 20000 in
theorem mX7_pairPlayers_9 : Cond.fieldLink RX7 25 "FistTrains$Ways" "better" "[I" ∈ wsX7_pairPlayers := List.mem_of_getElem? (i := 9) rfl
set_option maxRecDepth 20000 in
theorem mX7_pairPlayers_10 : Cond.methodLink RX7 47 Lib.Math.min.name ∈ wsX7_pairPlayers := List.mem_of_getElem? (i := 10) rfl
set_option maxRecDepth 20000 in
theorem mX7_pairPlayers_11 : Cond.static Lib.Math.min.name ∈ wsX7_pairPlayers := List.mem_of_getElem? (i := 11) rfl
set_option maxRecDepth 20000 in
theorem mX7_pairPlayers_12 : Cond.initialized "java/lang/Math" ∈ wsX7_pairPlayers := List.mem_of_getElem? (i := 12) rfl
set_option maxRecDepth 20000 in
theorem mX7_pairPlayers_13 : Cond.code Lib.Math.min.name Lib.Math.min.code 2 (some .int) ∈ wsX7_pairPlayers := List.mem_of_getElem? (i := 13) rfl
def o_X7_pairPlayers_175 (N : Nat) (K44 : (Nat → Int32) → Int32 → Int32 → Int32 → Int32 → Option ((Nat → Int32) × Int32 × Int32 × Int32)) (t_best : (Nat → Int32)) (t_better : (Nat → Int32)) (t_course_first : Int32) (t_course_second : Int32) (t_course_thrown : Int32) (p1_kind : (Nat → Int32)) (l2 : Int32) (l3 : Int32) (l4 : Int32) (l5 : Int32) (l6 : Int32) (l7 : Int32) (l8 : Int32) (s0 : Int32) : Option ((Nat → Int32) × Int32 × Int32 × Int32) :=
  ogd (inb s0 24) (
  ogd (inb s0 24) (
  K44 (upd t_better (Int32.toNatClampNeg s0) (if (l7 + l8) < (t_better (Int32.toNatClampNeg s0)) then (l7 + l8) else (t_better (Int32.toNatClampNeg s0)))) t_course_first t_course_second t_course_thrown (l6 + 1)))
def o_X7_pairPlayers_143 (N : Nat) (K44 : (Nat → Int32) → Int32 → Int32 → Int32 → Int32 → Option ((Nat → Int32) × Int32 × Int32 × Int32)) (t_best : (Nat → Int32)) (t_better : (Nat → Int32)) (t_course_first : Int32) (t_course_second : Int32) (t_course_thrown : Int32) (p1_kind : (Nat → Int32)) (l2 : Int32) (l3 : Int32) (l4 : Int32) (l5 : Int32) (l6 : Int32) (l7 : Int32) (l8 : Int32) (s0 : Int32) : Option ((Nat → Int32) × Int32 × Int32 × Int32) :=
  if s0 = 0 then
    o_X7_pairPlayers_175 N K44 t_best t_better t_course_first t_course_second t_course_thrown p1_kind l2 l3 l4 l5 l6 l7 l8 ((l2 * 3) + t_course_first)
  else
    o_X7_pairPlayers_175 N K44 t_best t_better t_course_first t_course_second t_course_thrown p1_kind l2 l3 l4 l5 l6 l7 l8 ((l3 * 3) + t_course_second)
def o_X7_pairPlayers_44 (N : Nat) (K35 : (Nat → Int32) → Int32 → Int32 → Int32 → Int32 → Option ((Nat → Int32) × Int32 × Int32 × Int32)) (t_best : (Nat → Int32)) (p1_kind : (Nat → Int32)) (l2 : Int32) (l3 : Int32) (l4 : Int32) (l5 : Int32) : Nat → (Nat → Int32) → Int32 → Int32 → Int32 → Int32 → Option ((Nat → Int32) × Int32 × Int32 × Int32)
  | 0 => fun _ _ _ _ _ => none
  | n + 1 => fun t_better t_course_first t_course_second t_course_thrown l6 => 
    if 3 ≤ l6 then
      K35 t_better t_course_first t_course_second t_course_thrown (l5 + 1)
    else
      ogd (inb ((l2 * 3) + l5) 24) (
      ogd (inb ((l3 * 3) + l6) 24) (
      if (t_best (Int32.toNatClampNeg ((l2 * 3) + l5))) = 1073741824 then
        o_X7_pairPlayers_44 N K35 t_best p1_kind l2 l3 l4 l5 n t_better t_course_first t_course_second t_course_thrown (l6 + 1)
      else
        if (t_best (Int32.toNatClampNeg ((l3 * 3) + l6))) = 1073741824 then
          o_X7_pairPlayers_44 N K35 t_best p1_kind l2 l3 l4 l5 n t_better t_course_first t_course_second t_course_thrown (l6 + 1)
        else
          ogd (inb l2 8) (
          ogd (inb l3 8) (
          Option.bind (o_X2_play N (p1_kind (Int32.toNatClampNeg l2)) l5 (p1_kind (Int32.toNatClampNeg l3)) l6) (fun r110 =>
          Option.bind (o_X2_isTie N r110.1 r110.2.1) (fun r117 =>
          if r117 = 0 then
            Option.bind (o_X2_firstHasBeaten N r110.1 r110.2.1) (fun r132 =>
            if r132 = 0 then
              o_X7_pairPlayers_143 N (o_X7_pairPlayers_44 N K35 t_best p1_kind l2 l3 l4 l5 n) t_best t_better r110.1 r110.2.1 r110.2.2 p1_kind l2 l3 l4 l5 l6 (t_best (Int32.toNatClampNeg ((l2 * 3) + l5))) (t_best (Int32.toNatClampNeg ((l3 * 3) + l6))) 1
            else
              o_X7_pairPlayers_143 N (o_X7_pairPlayers_44 N K35 t_best p1_kind l2 l3 l4 l5 n) t_best t_better r110.1 r110.2.1 r110.2.2 p1_kind l2 l3 l4 l5 l6 (t_best (Int32.toNatClampNeg ((l2 * 3) + l5))) (t_best (Int32.toNatClampNeg ((l3 * 3) + l6))) 0)
          else
            o_X7_pairPlayers_143 N (o_X7_pairPlayers_44 N K35 t_best p1_kind l2 l3 l4 l5 n) t_best t_better r110.1 r110.2.1 r110.2.2 p1_kind l2 l3 l4 l5 l6 (t_best (Int32.toNatClampNeg ((l2 * 3) + l5))) (t_best (Int32.toNatClampNeg ((l3 * 3) + l6))) l4))))))
def o_X7_pairPlayers_35 (N : Nat) (t_best : (Nat → Int32)) (p1_kind : (Nat → Int32)) (l2 : Int32) (l3 : Int32) (l4 : Int32) : Nat → (Nat → Int32) → Int32 → Int32 → Int32 → Int32 → Option ((Nat → Int32) × Int32 × Int32 × Int32)
  | 0 => fun _ _ _ _ _ => none
  | n + 1 => fun t_better t_course_first t_course_second t_course_thrown l5 => 
    if 3 ≤ l5 then
      some (t_better, t_course_first, t_course_second, t_course_thrown)
    else
      o_X7_pairPlayers_44 N (o_X7_pairPlayers_35 N t_best p1_kind l2 l3 l4 n) t_best p1_kind l2 l3 l4 l5 N t_better t_course_first t_course_second t_course_thrown 0
def o_X7_pairPlayers (N : Nat) (t_group : (Nat → Int32)) (t_train : (Nat → Int32)) (t_best : (Nat → Int32)) (t_better : (Nat → Int32)) (t_course_first : Int32) (t_course_second : Int32) (t_course_thrown : Int32) (p1_kind : (Nat → Int32)) (l2 : Int32) (l3 : Int32) : Option ((Nat → Int32) × Int32 × Int32 × Int32) :=
  ogd (inb l3 8) (
  ogd (inb (t_group (Int32.toNatClampNeg l3)) 8) (
  ogd (inb l2 8) (
  ogd (inb (t_group (Int32.toNatClampNeg l2)) 8) (
  if (t_train (Int32.toNatClampNeg (t_group (Int32.toNatClampNeg l3)))) ≤ (t_train (Int32.toNatClampNeg (t_group (Int32.toNatClampNeg l2)))) then
    o_X7_pairPlayers_35 N t_best p1_kind l2 l3 0 N t_better t_course_first t_course_second t_course_thrown 0
  else
    o_X7_pairPlayers_35 N t_best p1_kind l2 l3 1 N t_better t_course_first t_course_second t_course_thrown 0))))
set_option maxHeartbeats 4000000 in
set_option maxRecDepth 100000 in
theorem z_X7_pairPlayers_175 {sK sV : Nat → Nat} {E : ZE} {cI cB cZ : ClassId} (hC : ZC E 11 cX7_pairPlayers wsX7_pairPlayers RX7 rmX7_pairPlayers none (zty cI cB cZ)) (hN : ZN sK sV (zA E) (zs E)) {N : Nat} {a_t : Nat} {a_t_group : Nat} {a_t_train : Nat} {a_t_best : Nat} {a_t_better : Nat} {a_t_course : Nat} {a_p1 : Nat} {a_p1_kind : Nat} {a_p1_hand : Nat} {a_p1_leader : Nat} {a_p1_course : Nat} {t_groups : Int32} {t_group : (Nat → Int32)} {t_train : (Nat → Int32)} {t_best : (Nat → Int32)} {t_better : (Nat → Int32)} {t_course_first : Int32} {t_course_second : Int32} {t_course_thrown : Int32} {p1_players : Int32} {p1_round : Int32} {p1_time : Int32} {p1_kind : (Nat → Int32)} {l2 : Int32} {l3 : Int32} {l4 : Int32} {l5 : Int32} {l6 : Int32} {l7 : Int32} {l8 : Int32} {s0 : Int32} {K44 : (Nat → Int32) → Int32 → Int32 → Int32 → Int32 → Option ((Nat → Int32) × Int32 × Int32 × Int32)} {rf : (Nat → Int32) × Int32 × Int32 × Int32} (hQ : ZQv E (zty cI cB cZ) [(a_t, .inr (7, [.ref a_t_group, .ref a_t_train, .int t_groups, .ref a_t_best, .ref a_t_better, .ref a_t_course])), (a_t_group, .inl (cI, 8, .inl t_group)), (a_t_train, .inl (cI, 8, .inl t_train)), (a_t_best, .inl (cI, 24, .inl t_best)), (a_t_better, .inl (cI, 24, .inl rf.1)), (a_t_course, .inr (2, [.int rf.2.1, .int rf.2.2.1, .int rf.2.2.2])), (a_p1, .inr (3, [.int p1_players, .int p1_round, .int p1_time, .ref a_p1_kind, .ref a_p1_hand, .ref a_p1_leader, .ref a_p1_course])), (a_p1_kind, .inl (cI, 8, .inl p1_kind))]) (hK44 : ∀ (t_better : (Nat → Int32)) (t_course_first : Int32) (t_course_second : Int32) (t_course_thrown : Int32) (l6 : Int32), K44 t_better t_course_first t_course_second t_course_thrown l6 = some rf → Z E (0, 0) [(0, .ref a_t), (1, .ref a_p1), (2, .int l2), (3, .int l3), (4, .int l4), (5, .int l5), (6, .int l6)] 44 [] [(a_t, .inr (7, [.ref a_t_group, .ref a_t_train, .int t_groups, .ref a_t_best, .ref a_t_better, .ref a_t_course])), (a_t_group, .inl (cI, 8, .inl t_group)), (a_t_train, .inl (cI, 8, .inl t_train)), (a_t_best, .inl (cI, 24, .inl t_best)), (a_t_better, .inl (cI, 24, .inl t_better)), (a_t_course, .inr (2, [.int t_course_first, .int t_course_second, .int t_course_thrown])), (a_p1, .inr (3, [.int p1_players, .int p1_round, .int p1_time, .ref a_p1_kind, .ref a_p1_hand, .ref a_p1_leader, .ref a_p1_course])), (a_p1_kind, .inl (cI, 8, .inl p1_kind))]) (hR : o_X7_pairPlayers_175 N K44 t_best t_better t_course_first t_course_second t_course_thrown p1_kind l2 l3 l4 l5 l6 l7 l8 s0 = some rf) : Z E (0, 0) [(0, .ref a_t), (1, .ref a_p1), (2, .int l2), (3, .int l3), (4, .int l4), (5, .int l5), (6, .int l6), (7, .int l7), (8, .int l8)] 175 [.int s0] [(a_t, .inr (7, [.ref a_t_group, .ref a_t_train, .int t_groups, .ref a_t_best, .ref a_t_better, .ref a_t_course])), (a_t_group, .inl (cI, 8, .inl t_group)), (a_t_train, .inl (cI, 8, .inl t_train)), (a_t_best, .inl (cI, 24, .inl t_best)), (a_t_better, .inl (cI, 24, .inl t_better)), (a_t_course, .inr (2, [.int t_course_first, .int t_course_second, .int t_course_thrown])), (a_p1, .inr (3, [.int p1_players, .int p1_round, .int p1_time, .ref a_p1_kind, .ref a_p1_hand, .ref a_p1_leader, .ref a_p1_course])), (a_p1_kind, .inl (cI, 8, .inl p1_kind))] := by
  rw [o_X7_pairPlayers_175] at hR
  refine z_istore hC [(10, .int s0), (0, .ref a_t), (1, .ref a_p1), (2, .int l2), (3, .int l3), (4, .int l4), (5, .int l5), (6, .int l6), (7, .int l7), (8, .int l8)] dX7_pairPlayers_175 (by decide) rfl ?_
  refine z_aload_n hC dX7_pairPlayers_177 rfl 1 rfl ?_
  refine z_get hC iX7_pairPlayers_X7 rfl 0 4 rfl (by decide) mX7_pairPlayers_9 rfl rfl dX7_pairPlayers_178 ?_
  refine z_iload hC dX7_pairPlayers_181 0 rfl ?_
  refine z_aload_n hC dX7_pairPlayers_183 rfl 1 rfl ?_
  refine z_get hC iX7_pairPlayers_X7 rfl 0 4 rfl (by decide) mX7_pairPlayers_9 rfl rfl dX7_pairPlayers_184 ?_
  refine z_iload hC dX7_pairPlayers_187 0 rfl ?_
  refine z_iald hC 4 0 rfl rfl dX7_pairPlayers_189 hR (fun hR => ?_)
  refine z_iload hC dX7_pairPlayers_190 8 rfl ?_
  refine z_iload hC dX7_pairPlayers_192 9 rfl ?_
  refine z_iadd hC dX7_pairPlayers_194 ?_
  refine z_mmin hC mX7_pairPlayers_10 mX7_pairPlayers_11 mX7_pairPlayers_12 mX7_pairPlayers_13 (Nat.le_of_ble_eq_true rfl) (Nat.le_of_ble_eq_true rfl) ⟨Nat.zero_le _, Nat.zero_le _⟩ dX7_pairPlayers_195 ?_
  refine z_iast hC 4 0 rfl rfl dX7_pairPlayers_198 hR (fun hR => ?_)
  refine z_iinc1 hC [(6, .int (l6 + 1)), (10, .int s0), (0, .ref a_t), (1, .ref a_p1), (2, .int l2), (3, .int l3), (4, .int l4), (5, .int l5), (7, .int l7), (8, .int l8)] dX7_pairPlayers_199 7 rfl (by decide) rfl ?_
  refine z_goto hC 44 dX7_pairPlayers_202 (by decide) ?_
  refine z_sub (lv' := [(0, .ref a_t), (1, .ref a_p1), (2, .int l2), (3, .int l3), (4, .int l4), (5, .int l5), (6, .int (l6 + 1))]) [2, 3, 4, 5, 6, 7, 0] rfl ?_
  exact hK44 (upd t_better (Int32.toNatClampNeg s0) (if (l7 + l8) < (t_better (Int32.toNatClampNeg s0)) then (l7 + l8) else (t_better (Int32.toNatClampNeg s0)))) t_course_first t_course_second t_course_thrown (l6 + 1) hR
set_option maxHeartbeats 4000000 in
set_option maxRecDepth 100000 in
theorem z_X7_pairPlayers_143 {sK sV : Nat → Nat} {E : ZE} {cI cB cZ : ClassId} (hC : ZC E 11 cX7_pairPlayers wsX7_pairPlayers RX7 rmX7_pairPlayers none (zty cI cB cZ)) (hN : ZN sK sV (zA E) (zs E)) {N : Nat} {a_t : Nat} {a_t_group : Nat} {a_t_train : Nat} {a_t_best : Nat} {a_t_better : Nat} {a_t_course : Nat} {a_p1 : Nat} {a_p1_kind : Nat} {a_p1_hand : Nat} {a_p1_leader : Nat} {a_p1_course : Nat} {t_groups : Int32} {t_group : (Nat → Int32)} {t_train : (Nat → Int32)} {t_best : (Nat → Int32)} {t_better : (Nat → Int32)} {t_course_first : Int32} {t_course_second : Int32} {t_course_thrown : Int32} {p1_players : Int32} {p1_round : Int32} {p1_time : Int32} {p1_kind : (Nat → Int32)} {l2 : Int32} {l3 : Int32} {l4 : Int32} {l5 : Int32} {l6 : Int32} {l7 : Int32} {l8 : Int32} {s0 : Int32} {K44 : (Nat → Int32) → Int32 → Int32 → Int32 → Int32 → Option ((Nat → Int32) × Int32 × Int32 × Int32)} {rf : (Nat → Int32) × Int32 × Int32 × Int32} (hQ : ZQv E (zty cI cB cZ) [(a_t, .inr (7, [.ref a_t_group, .ref a_t_train, .int t_groups, .ref a_t_best, .ref a_t_better, .ref a_t_course])), (a_t_group, .inl (cI, 8, .inl t_group)), (a_t_train, .inl (cI, 8, .inl t_train)), (a_t_best, .inl (cI, 24, .inl t_best)), (a_t_better, .inl (cI, 24, .inl rf.1)), (a_t_course, .inr (2, [.int rf.2.1, .int rf.2.2.1, .int rf.2.2.2])), (a_p1, .inr (3, [.int p1_players, .int p1_round, .int p1_time, .ref a_p1_kind, .ref a_p1_hand, .ref a_p1_leader, .ref a_p1_course])), (a_p1_kind, .inl (cI, 8, .inl p1_kind))]) (hK44 : ∀ (t_better : (Nat → Int32)) (t_course_first : Int32) (t_course_second : Int32) (t_course_thrown : Int32) (l6 : Int32), K44 t_better t_course_first t_course_second t_course_thrown l6 = some rf → Z E (0, 0) [(0, .ref a_t), (1, .ref a_p1), (2, .int l2), (3, .int l3), (4, .int l4), (5, .int l5), (6, .int l6)] 44 [] [(a_t, .inr (7, [.ref a_t_group, .ref a_t_train, .int t_groups, .ref a_t_best, .ref a_t_better, .ref a_t_course])), (a_t_group, .inl (cI, 8, .inl t_group)), (a_t_train, .inl (cI, 8, .inl t_train)), (a_t_best, .inl (cI, 24, .inl t_best)), (a_t_better, .inl (cI, 24, .inl t_better)), (a_t_course, .inr (2, [.int t_course_first, .int t_course_second, .int t_course_thrown])), (a_p1, .inr (3, [.int p1_players, .int p1_round, .int p1_time, .ref a_p1_kind, .ref a_p1_hand, .ref a_p1_leader, .ref a_p1_course])), (a_p1_kind, .inl (cI, 8, .inl p1_kind))]) (hR : o_X7_pairPlayers_143 N K44 t_best t_better t_course_first t_course_second t_course_thrown p1_kind l2 l3 l4 l5 l6 l7 l8 s0 = some rf) : Z E (0, 0) [(0, .ref a_t), (1, .ref a_p1), (2, .int l2), (3, .int l3), (4, .int l4), (5, .int l5), (6, .int l6), (7, .int l7), (8, .int l8)] 143 [.int s0] [(a_t, .inr (7, [.ref a_t_group, .ref a_t_train, .int t_groups, .ref a_t_best, .ref a_t_better, .ref a_t_course])), (a_t_group, .inl (cI, 8, .inl t_group)), (a_t_train, .inl (cI, 8, .inl t_train)), (a_t_best, .inl (cI, 24, .inl t_best)), (a_t_better, .inl (cI, 24, .inl t_better)), (a_t_course, .inr (2, [.int t_course_first, .int t_course_second, .int t_course_thrown])), (a_p1, .inr (3, [.int p1_players, .int p1_round, .int p1_time, .ref a_p1_kind, .ref a_p1_hand, .ref a_p1_leader, .ref a_p1_course])), (a_p1_kind, .inl (cI, 8, .inl p1_kind))] := by
  rw [o_X7_pairPlayers_143] at hR
  refine z_istore hC [(9, .int s0), (0, .ref a_t), (1, .ref a_p1), (2, .int l2), (3, .int l3), (4, .int l4), (5, .int l5), (6, .int l6), (7, .int l7), (8, .int l8)] dX7_pairPlayers_143 (by decide) rfl ?_
  refine z_iload hC dX7_pairPlayers_145 0 rfl ?_
  refine z_if_eq hC 164 dX7_pairPlayers_147 (by decide) hR (fun hR => ?_) (fun hR => ?_)
  · refine z_iload_n hC dX7_pairPlayers_164 rfl 3 rfl ?_
    refine z_ic3 hC dX7_pairPlayers_165 ?_
    refine z_imul hC dX7_pairPlayers_166 ?_
    refine z_aload_n hC dX7_pairPlayers_167 rfl 1 rfl ?_
    refine z_get hC iX7_pairPlayers_X7 rfl 0 5 rfl (by decide) mX7_pairPlayers_5 rfl rfl dX7_pairPlayers_168 ?_
    refine z_get hC iX7_pairPlayers_X2 rfl 5 0 rfl (by decide) mX7_pairPlayers_8 rfl rfl dX7_pairPlayers_171 ?_
    refine z_iadd hC dX7_pairPlayers_174 ?_
    refine z_sub (lv' := [(0, .ref a_t), (1, .ref a_p1), (2, .int l2), (3, .int l3), (4, .int l4), (5, .int l5), (6, .int l6), (7, .int l7), (8, .int l8)]) [1, 2, 3, 4, 5, 6, 7, 8, 9] rfl ?_
    exact z_X7_pairPlayers_175 hC hN (N := N) (a_t := a_t) (a_t_group := a_t_group) (a_t_train := a_t_train) (a_t_best := a_t_best) (a_t_better := a_t_better) (a_t_course := a_t_course) (a_p1 := a_p1) (a_p1_kind := a_p1_kind) (a_p1_hand := a_p1_hand) (a_p1_leader := a_p1_leader) (a_p1_course := a_p1_course) (t_groups := t_groups) (t_group := t_group) (t_train := t_train) (t_best := t_best) (t_better := t_better) (t_course_first := t_course_first) (t_course_second := t_course_second) (t_course_thrown := t_course_thrown) (p1_players := p1_players) (p1_round := p1_round) (p1_time := p1_time) (p1_kind := p1_kind) (l2 := l2) (l3 := l3) (l4 := l4) (l5 := l5) (l6 := l6) (l7 := l7) (l8 := l8) (s0 := ((l2 * 3) + t_course_first)) hQ hK44 hR
  · refine z_iload_n hC dX7_pairPlayers_150 rfl 4 rfl ?_
    refine z_ic3 hC dX7_pairPlayers_151 ?_
    refine z_imul hC dX7_pairPlayers_152 ?_
    refine z_aload_n hC dX7_pairPlayers_153 rfl 1 rfl ?_
    refine z_get hC iX7_pairPlayers_X7 rfl 0 5 rfl (by decide) mX7_pairPlayers_5 rfl rfl dX7_pairPlayers_154 ?_
    refine z_get hC iX7_pairPlayers_X2 rfl 5 1 rfl (by decide) mX7_pairPlayers_7 rfl rfl dX7_pairPlayers_157 ?_
    refine z_iadd hC dX7_pairPlayers_160 ?_
    refine z_goto hC 175 dX7_pairPlayers_161 (by decide) ?_
    refine z_sub (lv' := [(0, .ref a_t), (1, .ref a_p1), (2, .int l2), (3, .int l3), (4, .int l4), (5, .int l5), (6, .int l6), (7, .int l7), (8, .int l8)]) [1, 2, 3, 4, 5, 6, 7, 8, 9] rfl ?_
    exact z_X7_pairPlayers_175 hC hN (N := N) (a_t := a_t) (a_t_group := a_t_group) (a_t_train := a_t_train) (a_t_best := a_t_best) (a_t_better := a_t_better) (a_t_course := a_t_course) (a_p1 := a_p1) (a_p1_kind := a_p1_kind) (a_p1_hand := a_p1_hand) (a_p1_leader := a_p1_leader) (a_p1_course := a_p1_course) (t_groups := t_groups) (t_group := t_group) (t_train := t_train) (t_best := t_best) (t_better := t_better) (t_course_first := t_course_first) (t_course_second := t_course_second) (t_course_thrown := t_course_thrown) (p1_players := p1_players) (p1_round := p1_round) (p1_time := p1_time) (p1_kind := p1_kind) (l2 := l2) (l3 := l3) (l4 := l4) (l5 := l5) (l6 := l6) (l7 := l7) (l8 := l8) (s0 := ((l3 * 3) + t_course_second)) hQ hK44 hR
set_option maxHeartbeats 4000000 in
set_option maxRecDepth 100000 in
theorem z_X7_pairPlayers_44 {sK sV : Nat → Nat} {E : ZE} {cI cB cZ : ClassId} (hC : ZC E 11 cX7_pairPlayers wsX7_pairPlayers RX7 rmX7_pairPlayers none (zty cI cB cZ)) (hN : ZN sK sV (zA E) (zs E)) {N : Nat} {a_t : Nat} {a_t_group : Nat} {a_t_train : Nat} {a_t_best : Nat} {a_t_better : Nat} {a_t_course : Nat} {a_p1 : Nat} {a_p1_kind : Nat} {a_p1_hand : Nat} {a_p1_leader : Nat} {a_p1_course : Nat} {t_groups : Int32} {t_group : (Nat → Int32)} {t_train : (Nat → Int32)} {t_best : (Nat → Int32)} {p1_players : Int32} {p1_round : Int32} {p1_time : Int32} {p1_kind : (Nat → Int32)} {l2 : Int32} {l3 : Int32} {l4 : Int32} {l5 : Int32} {K35 : (Nat → Int32) → Int32 → Int32 → Int32 → Int32 → Option ((Nat → Int32) × Int32 × Int32 × Int32)} {rf : (Nat → Int32) × Int32 × Int32 × Int32} (hQ : ZQv E (zty cI cB cZ) [(a_t, .inr (7, [.ref a_t_group, .ref a_t_train, .int t_groups, .ref a_t_best, .ref a_t_better, .ref a_t_course])), (a_t_group, .inl (cI, 8, .inl t_group)), (a_t_train, .inl (cI, 8, .inl t_train)), (a_t_best, .inl (cI, 24, .inl t_best)), (a_t_better, .inl (cI, 24, .inl rf.1)), (a_t_course, .inr (2, [.int rf.2.1, .int rf.2.2.1, .int rf.2.2.2])), (a_p1, .inr (3, [.int p1_players, .int p1_round, .int p1_time, .ref a_p1_kind, .ref a_p1_hand, .ref a_p1_leader, .ref a_p1_course])), (a_p1_kind, .inl (cI, 8, .inl p1_kind))]) (hK35 : ∀ (t_better : (Nat → Int32)) (t_course_first : Int32) (t_course_second : Int32) (t_course_thrown : Int32) (l5 : Int32), K35 t_better t_course_first t_course_second t_course_thrown l5 = some rf → Z E (0, 0) [(0, .ref a_t), (1, .ref a_p1), (2, .int l2), (3, .int l3), (4, .int l4), (5, .int l5)] 35 [] [(a_t, .inr (7, [.ref a_t_group, .ref a_t_train, .int t_groups, .ref a_t_best, .ref a_t_better, .ref a_t_course])), (a_t_group, .inl (cI, 8, .inl t_group)), (a_t_train, .inl (cI, 8, .inl t_train)), (a_t_best, .inl (cI, 24, .inl t_best)), (a_t_better, .inl (cI, 24, .inl t_better)), (a_t_course, .inr (2, [.int t_course_first, .int t_course_second, .int t_course_thrown])), (a_p1, .inr (3, [.int p1_players, .int p1_round, .int p1_time, .ref a_p1_kind, .ref a_p1_hand, .ref a_p1_leader, .ref a_p1_course])), (a_p1_kind, .inl (cI, 8, .inl p1_kind))]) : ∀ (n : Nat) (t_better : (Nat → Int32)) (t_course_first : Int32) (t_course_second : Int32) (t_course_thrown : Int32) (l6 : Int32), o_X7_pairPlayers_44 N K35 t_best p1_kind l2 l3 l4 l5 n t_better t_course_first t_course_second t_course_thrown l6 = some rf → Z E (0, 0) [(0, .ref a_t), (1, .ref a_p1), (2, .int l2), (3, .int l3), (4, .int l4), (5, .int l5), (6, .int l6)] 44 [] [(a_t, .inr (7, [.ref a_t_group, .ref a_t_train, .int t_groups, .ref a_t_best, .ref a_t_better, .ref a_t_course])), (a_t_group, .inl (cI, 8, .inl t_group)), (a_t_train, .inl (cI, 8, .inl t_train)), (a_t_best, .inl (cI, 24, .inl t_best)), (a_t_better, .inl (cI, 24, .inl t_better)), (a_t_course, .inr (2, [.int t_course_first, .int t_course_second, .int t_course_thrown])), (a_p1, .inr (3, [.int p1_players, .int p1_round, .int p1_time, .ref a_p1_kind, .ref a_p1_hand, .ref a_p1_leader, .ref a_p1_course])), (a_p1_kind, .inl (cI, 8, .inl p1_kind))] := by
  intro n
  induction n with
  | zero =>
    intro t_better t_course_first t_course_second t_course_thrown l6 hR
    cases hR
  | succ n ih =>
    intro t_better t_course_first t_course_second t_course_thrown l6 hR
    rw [o_X7_pairPlayers_44] at hR
    refine z_iload hC dX7_pairPlayers_44 6 rfl ?_
    refine z_ic3 hC dX7_pairPlayers_46 ?_
    refine z_icmp_ge hC 205 dX7_pairPlayers_47 (by decide) hR (fun hR => ?_) (fun hR => ?_)
    · refine z_iinc1 hC [(5, .int (l5 + 1)), (0, .ref a_t), (1, .ref a_p1), (2, .int l2), (3, .int l3), (4, .int l4), (6, .int l6)] dX7_pairPlayers_205 5 rfl (by decide) rfl ?_
      refine z_goto hC 35 dX7_pairPlayers_208 (by decide) ?_
      refine z_sub (lv' := [(0, .ref a_t), (1, .ref a_p1), (2, .int l2), (3, .int l3), (4, .int l4), (5, .int (l5 + 1))]) [1, 2, 3, 4, 5, 0] rfl ?_
      exact hK35 t_better t_course_first t_course_second t_course_thrown (l5 + 1) hR
    · refine z_aload_n hC dX7_pairPlayers_50 rfl 0 rfl ?_
      refine z_get hC iX7_pairPlayers_X7 rfl 0 3 rfl (by decide) mX7_pairPlayers_3 rfl rfl dX7_pairPlayers_51 ?_
      refine z_iload_n hC dX7_pairPlayers_54 rfl 2 rfl ?_
      refine z_ic3 hC dX7_pairPlayers_55 ?_
      refine z_imul hC dX7_pairPlayers_56 ?_
      refine z_iload hC dX7_pairPlayers_57 5 rfl ?_
      refine z_iadd hC dX7_pairPlayers_59 ?_
      refine z_iald hC 3 0 rfl rfl dX7_pairPlayers_60 hR (fun hR => ?_)
      refine z_istore hC [(7, .int (t_best (Int32.toNatClampNeg ((l2 * 3) + l5)))), (0, .ref a_t), (1, .ref a_p1), (2, .int l2), (3, .int l3), (4, .int l4), (5, .int l5), (6, .int l6)] dX7_pairPlayers_61 (by decide) rfl ?_
      refine z_aload_n hC dX7_pairPlayers_63 rfl 1 rfl ?_
      refine z_get hC iX7_pairPlayers_X7 rfl 0 3 rfl (by decide) mX7_pairPlayers_3 rfl rfl dX7_pairPlayers_64 ?_
      refine z_iload_n hC dX7_pairPlayers_67 rfl 4 rfl ?_
      refine z_ic3 hC dX7_pairPlayers_68 ?_
      refine z_imul hC dX7_pairPlayers_69 ?_
      refine z_iload hC dX7_pairPlayers_70 7 rfl ?_
      refine z_iadd hC dX7_pairPlayers_72 ?_
      refine z_iald hC 3 0 rfl rfl dX7_pairPlayers_73 hR (fun hR => ?_)
      refine z_istore hC [(8, .int (t_best (Int32.toNatClampNeg ((l3 * 3) + l6)))), (7, .int (t_best (Int32.toNatClampNeg ((l2 * 3) + l5)))), (0, .ref a_t), (1, .ref a_p1), (2, .int l2), (3, .int l3), (4, .int l4), (5, .int l5), (6, .int l6)] dX7_pairPlayers_74 (by decide) rfl ?_
      refine z_iload hC dX7_pairPlayers_76 1 rfl ?_
      refine z_ldc hC 1073741824 mX7_pairPlayers_4 dX7_pairPlayers_78 ?_
      refine z_icmp_eq hC 199 dX7_pairPlayers_80 (by decide) hR (fun hR => ?_) (fun hR => ?_)
      · refine z_iinc1 hC [(6, .int (l6 + 1)), (8, .int (t_best (Int32.toNatClampNeg ((l3 * 3) + l6)))), (7, .int (t_best (Int32.toNatClampNeg ((l2 * 3) + l5)))), (0, .ref a_t), (1, .ref a_p1), (2, .int l2), (3, .int l3), (4, .int l4), (5, .int l5)] dX7_pairPlayers_199 8 rfl (by decide) rfl ?_
        refine z_goto hC 44 dX7_pairPlayers_202 (by decide) ?_
        refine z_sub (lv' := [(0, .ref a_t), (1, .ref a_p1), (2, .int l2), (3, .int l3), (4, .int l4), (5, .int l5), (6, .int (l6 + 1))]) [3, 4, 5, 6, 7, 8, 0] rfl ?_
        exact ih t_better t_course_first t_course_second t_course_thrown (l6 + 1) hR
      · refine z_iload hC dX7_pairPlayers_83 0 rfl ?_
        refine z_ldc hC 1073741824 mX7_pairPlayers_4 dX7_pairPlayers_85 ?_
        refine z_icmp_eq hC 199 dX7_pairPlayers_87 (by decide) hR (fun hR => ?_) (fun hR => ?_)
        · refine z_iinc1 hC [(6, .int (l6 + 1)), (8, .int (t_best (Int32.toNatClampNeg ((l3 * 3) + l6)))), (7, .int (t_best (Int32.toNatClampNeg ((l2 * 3) + l5)))), (0, .ref a_t), (1, .ref a_p1), (2, .int l2), (3, .int l3), (4, .int l4), (5, .int l5)] dX7_pairPlayers_199 8 rfl (by decide) rfl ?_
          refine z_goto hC 44 dX7_pairPlayers_202 (by decide) ?_
          refine z_sub (lv' := [(0, .ref a_t), (1, .ref a_p1), (2, .int l2), (3, .int l3), (4, .int l4), (5, .int l5), (6, .int (l6 + 1))]) [3, 4, 5, 6, 7, 8, 0] rfl ?_
          exact ih t_better t_course_first t_course_second t_course_thrown (l6 + 1) hR
        · refine z_aload_n hC dX7_pairPlayers_90 rfl 2 rfl ?_
          refine z_get hC iX7_pairPlayers_X7 rfl 0 5 rfl (by decide) mX7_pairPlayers_5 rfl rfl dX7_pairPlayers_91 ?_
          refine z_aload_n hC dX7_pairPlayers_94 rfl 3 rfl ?_
          refine z_get hC iX7_pairPlayers_X3 rfl 6 3 rfl (by decide) mX7_pairPlayers_6 rfl rfl dX7_pairPlayers_95 ?_
          refine z_iload_n hC dX7_pairPlayers_98 rfl 4 rfl ?_
          refine z_iald hC 7 0 rfl rfl dX7_pairPlayers_99 hR (fun hR => ?_)
          refine z_iload hC dX7_pairPlayers_100 7 rfl ?_
          refine z_aload_n hC dX7_pairPlayers_102 rfl 3 rfl ?_
          refine z_get hC iX7_pairPlayers_X3 rfl 6 3 rfl (by decide) mX7_pairPlayers_6 rfl rfl dX7_pairPlayers_103 ?_
          refine z_iload_n hC dX7_pairPlayers_106 rfl 5 rfl ?_
          refine z_iald hC 7 0 rfl rfl dX7_pairPlayers_107 hR (fun hR => ?_)
          refine z_iload hC dX7_pairPlayers_108 8 rfl ?_
          refine z_callVv hC hN [.int (p1_kind (Int32.toNatClampNeg l2)), .int l5, .int (p1_kind (Int32.toNatClampNeg l3)), .int l6] [5] (c_X2_play (l := zl E) (D := zD E) (cI := cI) (cB := cB) (cZ := cZ) (N := N) (a_t := a_t_course) (l1 := (p1_kind (Int32.toNatClampNeg l2))) (l2 := l5) (l3 := (p1_kind (Int32.toNatClampNeg l3))) (l4 := l6) (t_first := t_course_first) (t_second := t_course_second) (t_thrown := t_course_thrown)) rfl ⟨rfl, rfl⟩ gX7_pairPlayers_X2_play hvX2_play 5 2 rfl rfl rfl ⟨Nat.le_of_ble_eq_true rfl, Nat.le_of_ble_eq_true rfl⟩ ⟨Nat.zero_le _, Nat.zero_le _⟩ rfl (Nat.le_of_ble_eq_true rfl) rfl (by decide) (fun _ => rfl) dX7_pairPlayers_110 hR (fun r110 hR => ?_)
          refine z_aload_n hC dX7_pairPlayers_113 rfl 2 rfl ?_
          refine z_get hC iX7_pairPlayers_X7 rfl 0 5 rfl (by decide) mX7_pairPlayers_5 rfl rfl dX7_pairPlayers_114 ?_
          refine z_callVi_p hC hN [] [5] (c_X2_isTie (l := zl E) (D := zD E) (cI := cI) (cB := cB) (cZ := cZ) (N := N) (a_t := a_t_course) (t_first := r110.1) (t_second := r110.2.1) (t_thrown := r110.2.2)) rfl ⟨rfl, rfl⟩ gX7_pairPlayers_X2_isTie hvX2_isTie 5 2 rfl rfl rfl ⟨Nat.le_of_ble_eq_true rfl, Nat.le_of_ble_eq_true rfl⟩ ⟨Nat.zero_le _, Nat.zero_le _⟩ rfl (Nat.le_of_ble_eq_true rfl) rfl (by decide) dX7_pairPlayers_117 hR (fun r117 hR => ?_)
          refine z_if_eq hC 128 dX7_pairPlayers_120 (by decide) hR (fun hR => ?_) (fun hR => ?_)
          · refine z_aload_n hC dX7_pairPlayers_128 rfl 2 rfl ?_
            refine z_get hC iX7_pairPlayers_X7 rfl 0 5 rfl (by decide) mX7_pairPlayers_5 rfl rfl dX7_pairPlayers_129 ?_
            refine z_callVi_p hC hN [] [5] (c_X2_firstHasBeaten (l := zl E) (D := zD E) (cI := cI) (cB := cB) (cZ := cZ) (N := N) (a_t := a_t_course) (t_first := r110.1) (t_second := r110.2.1) (t_thrown := r110.2.2)) rfl ⟨rfl, rfl⟩ gX7_pairPlayers_X2_firstHasBeaten hvX2_firstHasBeaten 5 2 rfl rfl rfl ⟨Nat.le_of_ble_eq_true rfl, Nat.le_of_ble_eq_true rfl⟩ ⟨Nat.zero_le _, Nat.zero_le _⟩ rfl (Nat.le_of_ble_eq_true rfl) rfl (by decide) dX7_pairPlayers_132 hR (fun r132 hR => ?_)
            refine z_if_ne hC 142 dX7_pairPlayers_135 (by decide) hR (fun hR => ?_) (fun hR => ?_)
            · refine z_ic0 hC dX7_pairPlayers_142 ?_
              refine z_sub (lv' := [(0, .ref a_t), (1, .ref a_p1), (2, .int l2), (3, .int l3), (4, .int l4), (5, .int l5), (6, .int l6), (7, .int (t_best (Int32.toNatClampNeg ((l2 * 3) + l5)))), (8, .int (t_best (Int32.toNatClampNeg ((l3 * 3) + l6))))]) [2, 3, 4, 5, 6, 7, 8, 1, 0] rfl ?_
              exact z_X7_pairPlayers_143 hC hN (N := N) (a_t := a_t) (a_t_group := a_t_group) (a_t_train := a_t_train) (a_t_best := a_t_best) (a_t_better := a_t_better) (a_t_course := a_t_course) (a_p1 := a_p1) (a_p1_kind := a_p1_kind) (a_p1_hand := a_p1_hand) (a_p1_leader := a_p1_leader) (a_p1_course := a_p1_course) (t_groups := t_groups) (t_group := t_group) (t_train := t_train) (t_best := t_best) (t_better := t_better) (t_course_first := r110.1) (t_course_second := r110.2.1) (t_course_thrown := r110.2.2) (p1_players := p1_players) (p1_round := p1_round) (p1_time := p1_time) (p1_kind := p1_kind) (l2 := l2) (l3 := l3) (l4 := l4) (l5 := l5) (l6 := l6) (l7 := (t_best (Int32.toNatClampNeg ((l2 * 3) + l5)))) (l8 := (t_best (Int32.toNatClampNeg ((l3 * 3) + l6)))) (s0 := 0) hQ ih hR
            · refine z_ic1 hC dX7_pairPlayers_138 ?_
              refine z_goto hC 143 dX7_pairPlayers_139 (by decide) ?_
              refine z_sub (lv' := [(0, .ref a_t), (1, .ref a_p1), (2, .int l2), (3, .int l3), (4, .int l4), (5, .int l5), (6, .int l6), (7, .int (t_best (Int32.toNatClampNeg ((l2 * 3) + l5)))), (8, .int (t_best (Int32.toNatClampNeg ((l3 * 3) + l6))))]) [2, 3, 4, 5, 6, 7, 8, 1, 0] rfl ?_
              exact z_X7_pairPlayers_143 hC hN (N := N) (a_t := a_t) (a_t_group := a_t_group) (a_t_train := a_t_train) (a_t_best := a_t_best) (a_t_better := a_t_better) (a_t_course := a_t_course) (a_p1 := a_p1) (a_p1_kind := a_p1_kind) (a_p1_hand := a_p1_hand) (a_p1_leader := a_p1_leader) (a_p1_course := a_p1_course) (t_groups := t_groups) (t_group := t_group) (t_train := t_train) (t_best := t_best) (t_better := t_better) (t_course_first := r110.1) (t_course_second := r110.2.1) (t_course_thrown := r110.2.2) (p1_players := p1_players) (p1_round := p1_round) (p1_time := p1_time) (p1_kind := p1_kind) (l2 := l2) (l3 := l3) (l4 := l4) (l5 := l5) (l6 := l6) (l7 := (t_best (Int32.toNatClampNeg ((l2 * 3) + l5)))) (l8 := (t_best (Int32.toNatClampNeg ((l3 * 3) + l6)))) (s0 := 1) hQ ih hR
          · refine z_iload hC dX7_pairPlayers_123 6 rfl ?_
            refine z_goto hC 143 dX7_pairPlayers_125 (by decide) ?_
            refine z_sub (lv' := [(0, .ref a_t), (1, .ref a_p1), (2, .int l2), (3, .int l3), (4, .int l4), (5, .int l5), (6, .int l6), (7, .int (t_best (Int32.toNatClampNeg ((l2 * 3) + l5)))), (8, .int (t_best (Int32.toNatClampNeg ((l3 * 3) + l6))))]) [2, 3, 4, 5, 6, 7, 8, 1, 0] rfl ?_
            exact z_X7_pairPlayers_143 hC hN (N := N) (a_t := a_t) (a_t_group := a_t_group) (a_t_train := a_t_train) (a_t_best := a_t_best) (a_t_better := a_t_better) (a_t_course := a_t_course) (a_p1 := a_p1) (a_p1_kind := a_p1_kind) (a_p1_hand := a_p1_hand) (a_p1_leader := a_p1_leader) (a_p1_course := a_p1_course) (t_groups := t_groups) (t_group := t_group) (t_train := t_train) (t_best := t_best) (t_better := t_better) (t_course_first := r110.1) (t_course_second := r110.2.1) (t_course_thrown := r110.2.2) (p1_players := p1_players) (p1_round := p1_round) (p1_time := p1_time) (p1_kind := p1_kind) (l2 := l2) (l3 := l3) (l4 := l4) (l5 := l5) (l6 := l6) (l7 := (t_best (Int32.toNatClampNeg ((l2 * 3) + l5)))) (l8 := (t_best (Int32.toNatClampNeg ((l3 * 3) + l6)))) (s0 := l4) hQ ih hR
set_option maxHeartbeats 4000000 in
set_option maxRecDepth 100000 in
theorem z_X7_pairPlayers_35 {sK sV : Nat → Nat} {E : ZE} {cI cB cZ : ClassId} (hC : ZC E 11 cX7_pairPlayers wsX7_pairPlayers RX7 rmX7_pairPlayers none (zty cI cB cZ)) (hN : ZN sK sV (zA E) (zs E)) {N : Nat} {a_t : Nat} {a_t_group : Nat} {a_t_train : Nat} {a_t_best : Nat} {a_t_better : Nat} {a_t_course : Nat} {a_p1 : Nat} {a_p1_kind : Nat} {a_p1_hand : Nat} {a_p1_leader : Nat} {a_p1_course : Nat} {t_groups : Int32} {t_group : (Nat → Int32)} {t_train : (Nat → Int32)} {t_best : (Nat → Int32)} {p1_players : Int32} {p1_round : Int32} {p1_time : Int32} {p1_kind : (Nat → Int32)} {l2 : Int32} {l3 : Int32} {l4 : Int32} {rf : (Nat → Int32) × Int32 × Int32 × Int32} (hQ : ZQv E (zty cI cB cZ) [(a_t, .inr (7, [.ref a_t_group, .ref a_t_train, .int t_groups, .ref a_t_best, .ref a_t_better, .ref a_t_course])), (a_t_group, .inl (cI, 8, .inl t_group)), (a_t_train, .inl (cI, 8, .inl t_train)), (a_t_best, .inl (cI, 24, .inl t_best)), (a_t_better, .inl (cI, 24, .inl rf.1)), (a_t_course, .inr (2, [.int rf.2.1, .int rf.2.2.1, .int rf.2.2.2])), (a_p1, .inr (3, [.int p1_players, .int p1_round, .int p1_time, .ref a_p1_kind, .ref a_p1_hand, .ref a_p1_leader, .ref a_p1_course])), (a_p1_kind, .inl (cI, 8, .inl p1_kind))]) : ∀ (n : Nat) (t_better : (Nat → Int32)) (t_course_first : Int32) (t_course_second : Int32) (t_course_thrown : Int32) (l5 : Int32), o_X7_pairPlayers_35 N t_best p1_kind l2 l3 l4 n t_better t_course_first t_course_second t_course_thrown l5 = some rf → Z E (0, 0) [(0, .ref a_t), (1, .ref a_p1), (2, .int l2), (3, .int l3), (4, .int l4), (5, .int l5)] 35 [] [(a_t, .inr (7, [.ref a_t_group, .ref a_t_train, .int t_groups, .ref a_t_best, .ref a_t_better, .ref a_t_course])), (a_t_group, .inl (cI, 8, .inl t_group)), (a_t_train, .inl (cI, 8, .inl t_train)), (a_t_best, .inl (cI, 24, .inl t_best)), (a_t_better, .inl (cI, 24, .inl t_better)), (a_t_course, .inr (2, [.int t_course_first, .int t_course_second, .int t_course_thrown])), (a_p1, .inr (3, [.int p1_players, .int p1_round, .int p1_time, .ref a_p1_kind, .ref a_p1_hand, .ref a_p1_leader, .ref a_p1_course])), (a_p1_kind, .inl (cI, 8, .inl p1_kind))] := by
  intro n
  induction n with
  | zero =>
    intro t_better t_course_first t_course_second t_course_thrown l5 hR
    cases hR
  | succ n ih =>
    intro t_better t_course_first t_course_second t_course_thrown l5 hR
    rw [o_X7_pairPlayers_35] at hR
    refine z_iload hC dX7_pairPlayers_35 5 rfl ?_
    refine z_ic3 hC dX7_pairPlayers_37 ?_
    refine z_icmp_ge hC 211 dX7_pairPlayers_38 (by decide) hR (fun hR => ?_) (fun hR => ?_)
    · obtain rfl := Option.some.inj hR
      exact z_vret hC hQ rfl dX7_pairPlayers_211
    · refine z_ic0 hC dX7_pairPlayers_41 ?_
      refine z_istore hC [(6, .int 0), (0, .ref a_t), (1, .ref a_p1), (2, .int l2), (3, .int l3), (4, .int l4), (5, .int l5)] dX7_pairPlayers_42 (by decide) rfl ?_
      refine z_sub (lv' := [(0, .ref a_t), (1, .ref a_p1), (2, .int l2), (3, .int l3), (4, .int l4), (5, .int l5), (6, .int 0)]) [1, 2, 3, 4, 5, 6, 0] rfl ?_
      exact z_X7_pairPlayers_44 hC hN (N := N) (a_t := a_t) (a_t_group := a_t_group) (a_t_train := a_t_train) (a_t_best := a_t_best) (a_t_better := a_t_better) (a_t_course := a_t_course) (a_p1 := a_p1) (a_p1_kind := a_p1_kind) (a_p1_hand := a_p1_hand) (a_p1_leader := a_p1_leader) (a_p1_course := a_p1_course) (t_groups := t_groups) (t_group := t_group) (t_train := t_train) (t_best := t_best) (p1_players := p1_players) (p1_round := p1_round) (p1_time := p1_time) (p1_kind := p1_kind) (l2 := l2) (l3 := l3) (l4 := l4) (l5 := l5) hQ ih N t_better t_course_first t_course_second t_course_thrown 0 hR
set_option maxHeartbeats 4000000 in
set_option maxRecDepth 100000 in
theorem z_X7_pairPlayers_0 {sK sV : Nat → Nat} {E : ZE} {cI cB cZ : ClassId} (hC : ZC E 11 cX7_pairPlayers wsX7_pairPlayers RX7 rmX7_pairPlayers none (zty cI cB cZ)) (hN : ZN sK sV (zA E) (zs E)) {N : Nat} {a_t : Nat} {a_t_group : Nat} {a_t_train : Nat} {a_t_best : Nat} {a_t_better : Nat} {a_t_course : Nat} {a_p1 : Nat} {a_p1_kind : Nat} {a_p1_hand : Nat} {a_p1_leader : Nat} {a_p1_course : Nat} {t_groups : Int32} {t_group : (Nat → Int32)} {t_train : (Nat → Int32)} {t_best : (Nat → Int32)} {t_better : (Nat → Int32)} {t_course_first : Int32} {t_course_second : Int32} {t_course_thrown : Int32} {p1_players : Int32} {p1_round : Int32} {p1_time : Int32} {p1_kind : (Nat → Int32)} {l2 : Int32} {l3 : Int32} {rf : (Nat → Int32) × Int32 × Int32 × Int32} (hQ : ZQv E (zty cI cB cZ) [(a_t, .inr (7, [.ref a_t_group, .ref a_t_train, .int t_groups, .ref a_t_best, .ref a_t_better, .ref a_t_course])), (a_t_group, .inl (cI, 8, .inl t_group)), (a_t_train, .inl (cI, 8, .inl t_train)), (a_t_best, .inl (cI, 24, .inl t_best)), (a_t_better, .inl (cI, 24, .inl rf.1)), (a_t_course, .inr (2, [.int rf.2.1, .int rf.2.2.1, .int rf.2.2.2])), (a_p1, .inr (3, [.int p1_players, .int p1_round, .int p1_time, .ref a_p1_kind, .ref a_p1_hand, .ref a_p1_leader, .ref a_p1_course])), (a_p1_kind, .inl (cI, 8, .inl p1_kind))]) (hR : o_X7_pairPlayers N t_group t_train t_best t_better t_course_first t_course_second t_course_thrown p1_kind l2 l3 = some rf) : Z E (0, 0) [(0, .ref a_t), (1, .ref a_p1), (2, .int l2), (3, .int l3)] 0 [] [(a_t, .inr (7, [.ref a_t_group, .ref a_t_train, .int t_groups, .ref a_t_best, .ref a_t_better, .ref a_t_course])), (a_t_group, .inl (cI, 8, .inl t_group)), (a_t_train, .inl (cI, 8, .inl t_train)), (a_t_best, .inl (cI, 24, .inl t_best)), (a_t_better, .inl (cI, 24, .inl t_better)), (a_t_course, .inr (2, [.int t_course_first, .int t_course_second, .int t_course_thrown])), (a_p1, .inr (3, [.int p1_players, .int p1_round, .int p1_time, .ref a_p1_kind, .ref a_p1_hand, .ref a_p1_leader, .ref a_p1_course])), (a_p1_kind, .inl (cI, 8, .inl p1_kind))] := by
  rw [o_X7_pairPlayers] at hR
  refine z_aload_n hC dX7_pairPlayers_0 rfl 0 rfl ?_
  refine z_get hC iX7_pairPlayers_X7 rfl 0 1 rfl (by decide) mX7_pairPlayers_1 rfl rfl dX7_pairPlayers_1 ?_
  refine z_aload_n hC dX7_pairPlayers_4 rfl 0 rfl ?_
  refine z_get hC iX7_pairPlayers_X7 rfl 0 0 rfl (by decide) mX7_pairPlayers_2 rfl rfl dX7_pairPlayers_5 ?_
  refine z_iload_n hC dX7_pairPlayers_8 rfl 3 rfl ?_
  refine z_iald hC 1 0 rfl rfl dX7_pairPlayers_9 hR (fun hR => ?_)
  refine z_iald hC 2 0 rfl rfl dX7_pairPlayers_10 hR (fun hR => ?_)
  refine z_aload_n hC dX7_pairPlayers_11 rfl 0 rfl ?_
  refine z_get hC iX7_pairPlayers_X7 rfl 0 1 rfl (by decide) mX7_pairPlayers_1 rfl rfl dX7_pairPlayers_12 ?_
  refine z_aload_n hC dX7_pairPlayers_15 rfl 0 rfl ?_
  refine z_get hC iX7_pairPlayers_X7 rfl 0 0 rfl (by decide) mX7_pairPlayers_2 rfl rfl dX7_pairPlayers_16 ?_
  refine z_iload_n hC dX7_pairPlayers_19 rfl 2 rfl ?_
  refine z_iald hC 1 0 rfl rfl dX7_pairPlayers_20 hR (fun hR => ?_)
  refine z_iald hC 2 0 rfl rfl dX7_pairPlayers_21 hR (fun hR => ?_)
  refine z_icmp_le hC 29 dX7_pairPlayers_22 (by decide) hR (fun hR => ?_) (fun hR => ?_)
  · refine z_ic0 hC dX7_pairPlayers_29 ?_
    refine z_istore hC [(4, .int 0), (0, .ref a_t), (1, .ref a_p1), (2, .int l2), (3, .int l3)] dX7_pairPlayers_30 (by decide) rfl ?_
    refine z_ic0 hC dX7_pairPlayers_32 ?_
    refine z_istore hC [(5, .int 0), (4, .int 0), (0, .ref a_t), (1, .ref a_p1), (2, .int l2), (3, .int l3)] dX7_pairPlayers_33 (by decide) rfl ?_
    refine z_sub (lv' := [(0, .ref a_t), (1, .ref a_p1), (2, .int l2), (3, .int l3), (4, .int 0), (5, .int 0)]) [2, 3, 4, 5, 1, 0] rfl ?_
    exact z_X7_pairPlayers_35 hC hN (N := N) (a_t := a_t) (a_t_group := a_t_group) (a_t_train := a_t_train) (a_t_best := a_t_best) (a_t_better := a_t_better) (a_t_course := a_t_course) (a_p1 := a_p1) (a_p1_kind := a_p1_kind) (a_p1_hand := a_p1_hand) (a_p1_leader := a_p1_leader) (a_p1_course := a_p1_course) (t_groups := t_groups) (t_group := t_group) (t_train := t_train) (t_best := t_best) (p1_players := p1_players) (p1_round := p1_round) (p1_time := p1_time) (p1_kind := p1_kind) (l2 := l2) (l3 := l3) (l4 := 0) hQ  N t_better t_course_first t_course_second t_course_thrown 0 hR
  · refine z_ic1 hC dX7_pairPlayers_25 ?_
    refine z_goto hC 30 dX7_pairPlayers_26 (by decide) ?_
    refine z_istore hC [(4, .int 1), (0, .ref a_t), (1, .ref a_p1), (2, .int l2), (3, .int l3)] dX7_pairPlayers_30 (by decide) rfl ?_
    refine z_ic0 hC dX7_pairPlayers_32 ?_
    refine z_istore hC [(5, .int 0), (4, .int 1), (0, .ref a_t), (1, .ref a_p1), (2, .int l2), (3, .int l3)] dX7_pairPlayers_33 (by decide) rfl ?_
    refine z_sub (lv' := [(0, .ref a_t), (1, .ref a_p1), (2, .int l2), (3, .int l3), (4, .int 1), (5, .int 0)]) [2, 3, 4, 5, 1, 0] rfl ?_
    exact z_X7_pairPlayers_35 hC hN (N := N) (a_t := a_t) (a_t_group := a_t_group) (a_t_train := a_t_train) (a_t_best := a_t_best) (a_t_better := a_t_better) (a_t_course := a_t_course) (a_p1 := a_p1) (a_p1_kind := a_p1_kind) (a_p1_hand := a_p1_hand) (a_p1_leader := a_p1_leader) (a_p1_course := a_p1_course) (t_groups := t_groups) (t_group := t_group) (t_train := t_train) (t_best := t_best) (p1_players := p1_players) (p1_round := p1_round) (p1_time := p1_time) (p1_kind := p1_kind) (l2 := l2) (l3 := l3) (l4 := 1) hQ  N t_better t_course_first t_course_second t_course_thrown 0 hR
set_option maxHeartbeats 4000000 in
set_option maxRecDepth 100000 in
theorem c_X7_pairPlayers {sK sV : Nat → Nat} {l : Launch} {D : va_G} {cI cB cZ : ClassId} {N : Nat} {a_t : Nat} {a_t_group : Nat} {a_t_train : Nat} {a_t_best : Nat} {a_t_better : Nat} {a_t_course : Nat} {a_p1 : Nat} {a_p1_kind : Nat} {a_p1_hand : Nat} {a_p1_leader : Nat} {a_p1_course : Nat} {t_groups : Int32} {t_group : (Nat → Int32)} {t_train : (Nat → Int32)} {t_best : (Nat → Int32)} {t_better : (Nat → Int32)} {t_course_first : Int32} {t_course_second : Int32} {t_course_thrown : Int32} {p1_players : Int32} {p1_round : Int32} {p1_time : Int32} {p1_kind : (Nat → Int32)} {l2 : Int32} {l3 : Int32} : ∀ R : (Nat → Int32) × Int32 × Int32 × Int32, o_X7_pairPlayers N t_group t_train t_best t_better t_course_first t_course_second t_course_thrown p1_kind l2 l3 = some R → ZMv sK sV l yX7_pairPlayers wsX7_pairPlayers rmX7_pairPlayers D (zty cI cB cZ) [.ref a_t, .ref a_p1, .int l2, .int l3] [(a_t, .inr (7, [.ref a_t_group, .ref a_t_train, .int t_groups, .ref a_t_best, .ref a_t_better, .ref a_t_course])), (a_t_group, .inl (cI, 8, .inl t_group)), (a_t_train, .inl (cI, 8, .inl t_train)), (a_t_best, .inl (cI, 24, .inl t_best)), (a_t_better, .inl (cI, 24, .inl t_better)), (a_t_course, .inr (2, [.int t_course_first, .int t_course_second, .int t_course_thrown])), (a_p1, .inr (3, [.int p1_players, .int p1_round, .int p1_time, .ref a_p1_kind, .ref a_p1_hand, .ref a_p1_leader, .ref a_p1_course])), (a_p1_kind, .inl (cI, 8, .inl p1_kind))] [(a_t, .inr (7, [.ref a_t_group, .ref a_t_train, .int t_groups, .ref a_t_best, .ref a_t_better, .ref a_t_course])), (a_t_group, .inl (cI, 8, .inl t_group)), (a_t_train, .inl (cI, 8, .inl t_train)), (a_t_best, .inl (cI, 24, .inl t_best)), (a_t_better, .inl (cI, 24, .inl R.1)), (a_t_course, .inr (2, [.int R.2.1, .int R.2.2.1, .int R.2.2.2])), (a_p1, .inr (3, [.int p1_players, .int p1_round, .int p1_time, .ref a_p1_kind, .ref a_p1_hand, .ref a_p1_leader, .ref a_p1_course])), (a_p1_kind, .inl (cI, 8, .inl p1_kind))] := by
  intro R hR
  refine zv_of (cc := cX7_pairPlayers) (maxL := 11) (ret := none) (by decide) rfl (Nat.le_of_ble_eq_true rfl) (fun E hE1 hE2 hC hN hQ => ?_)
  subst hE1 hE2
  exact z_X7_pairPlayers_0 hC hN (N := N) (a_t := a_t) (a_t_group := a_t_group) (a_t_train := a_t_train) (a_t_best := a_t_best) (a_t_better := a_t_better) (a_t_course := a_t_course) (a_p1 := a_p1) (a_p1_kind := a_p1_kind) (a_p1_hand := a_p1_hand) (a_p1_leader := a_p1_leader) (a_p1_course := a_p1_course) (t_groups := t_groups) (t_group := t_group) (t_train := t_train) (t_best := t_best) (t_better := t_better) (t_course_first := t_course_first) (t_course_second := t_course_second) (t_course_thrown := t_course_thrown) (p1_players := p1_players) (p1_round := p1_round) (p1_time := p1_time) (p1_kind := p1_kind) (l2 := l2) (l3 := l3) hQ hR

/-! FistTrains$Ways.keepWays -/
abbrev rmX7_keepWays : Room := { frames := 0, cells := 0, slots := 0, locals := 0 }
set_option maxRecDepth 20000 in
theorem iX7_keepWays_X7 : ∀ w ∈ wsX70, w ∈ wsX7_keepWays := by decide +kernel
set_option maxRecDepth 20000 in
theorem mX7_keepWays_1 : Cond.fieldLink RX7 25 "FistTrains$Ways" "better" "[I" ∈ wsX7_keepWays := List.mem_of_getElem? (i := 1) rfl
set_option maxRecDepth 20000 in
theorem mX7_keepWays_2 : Cond.fieldLink RX7 22 "FistTrains$Ways" "best" "[I" ∈ wsX7_keepWays := List.mem_of_getElem? (i := 2) rfl
def o_X7_keepWays_2 (N : Nat) (t_best : (Nat → Int32)) (l1 : Int32) : Nat → (Nat → Int32) → Int32 → Option ((Nat → Int32))
  | 0 => fun _ _ => none
  | n + 1 => fun t_better l2 => 
    if 3 ≤ l2 then
      some (t_better)
    else
      ogd (inb ((l1 * 3) + l2) 24) (
      ogd (inb ((l1 * 3) + l2) 24) (
      o_X7_keepWays_2 N t_best l1 n (upd t_better (Int32.toNatClampNeg ((l1 * 3) + l2)) (t_best (Int32.toNatClampNeg ((l1 * 3) + l2)))) (l2 + 1)))
def o_X7_keepWays (N : Nat) (t_best : (Nat → Int32)) (t_better : (Nat → Int32)) (l1 : Int32) : Option ((Nat → Int32)) :=
  o_X7_keepWays_2 N t_best l1 N t_better 0
set_option maxHeartbeats 4000000 in
set_option maxRecDepth 100000 in
theorem z_X7_keepWays_2 {sK sV : Nat → Nat} {E : ZE} {cI cB cZ : ClassId} (hC : ZC E 3 cX7_keepWays wsX7_keepWays RX7 rmX7_keepWays none (zty cI cB cZ)) (hN : ZN sK sV (zA E) (zs E)) {N : Nat} {a_t : Nat} {a_t_best : Nat} {a_t_better : Nat} {a_t_group : Nat} {a_t_train : Nat} {a_t_course : Nat} {t_groups : Int32} {t_best : (Nat → Int32)} {l1 : Int32} {rf : (Nat → Int32)} (hQ : ZQv E (zty cI cB cZ) [(a_t, .inr (7, [.ref a_t_group, .ref a_t_train, .int t_groups, .ref a_t_best, .ref a_t_better, .ref a_t_course])), (a_t_best, .inl (cI, 24, .inl t_best)), (a_t_better, .inl (cI, 24, .inl rf))]) : ∀ (n : Nat) (t_better : (Nat → Int32)) (l2 : Int32), o_X7_keepWays_2 N t_best l1 n t_better l2 = some rf → Z E (0, 0) [(0, .ref a_t), (1, .int l1), (2, .int l2)] 2 [] [(a_t, .inr (7, [.ref a_t_group, .ref a_t_train, .int t_groups, .ref a_t_best, .ref a_t_better, .ref a_t_course])), (a_t_best, .inl (cI, 24, .inl t_best)), (a_t_better, .inl (cI, 24, .inl t_better))] := by
  intro n
  induction n with
  | zero =>
    intro t_better l2 hR
    cases hR
  | succ n ih =>
    intro t_better l2 hR
    rw [o_X7_keepWays_2] at hR
    refine z_iload_n hC dX7_keepWays_2 rfl 2 rfl ?_
    refine z_ic3 hC dX7_keepWays_3 ?_
    refine z_icmp_ge hC 33 dX7_keepWays_4 (by decide) hR (fun hR => ?_) (fun hR => ?_)
    · obtain rfl := Option.some.inj hR
      exact z_vret hC hQ rfl dX7_keepWays_33
    · refine z_aload_n hC dX7_keepWays_7 rfl 0 rfl ?_
      refine z_get hC iX7_keepWays_X7 rfl 0 4 rfl (by decide) mX7_keepWays_1 rfl rfl dX7_keepWays_8 ?_
      refine z_iload_n hC dX7_keepWays_11 rfl 1 rfl ?_
      refine z_ic3 hC dX7_keepWays_12 ?_
      refine z_imul hC dX7_keepWays_13 ?_
      refine z_iload_n hC dX7_keepWays_14 rfl 2 rfl ?_
      refine z_iadd hC dX7_keepWays_15 ?_
      refine z_aload_n hC dX7_keepWays_16 rfl 0 rfl ?_
      refine z_get hC iX7_keepWays_X7 rfl 0 3 rfl (by decide) mX7_keepWays_2 rfl rfl dX7_keepWays_17 ?_
      refine z_iload_n hC dX7_keepWays_20 rfl 1 rfl ?_
      refine z_ic3 hC dX7_keepWays_21 ?_
      refine z_imul hC dX7_keepWays_22 ?_
      refine z_iload_n hC dX7_keepWays_23 rfl 2 rfl ?_
      refine z_iadd hC dX7_keepWays_24 ?_
      refine z_iald hC 1 0 rfl rfl dX7_keepWays_25 hR (fun hR => ?_)
      refine z_iast hC 2 0 rfl rfl dX7_keepWays_26 hR (fun hR => ?_)
      refine z_iinc1 hC [(2, .int (l2 + 1)), (0, .ref a_t), (1, .int l1)] dX7_keepWays_27 2 rfl (by decide) rfl ?_
      refine z_goto hC 2 dX7_keepWays_30 (by decide) ?_
      refine z_sub (lv' := [(0, .ref a_t), (1, .int l1), (2, .int (l2 + 1))]) [1, 2, 0] rfl ?_
      exact ih (upd t_better (Int32.toNatClampNeg ((l1 * 3) + l2)) (t_best (Int32.toNatClampNeg ((l1 * 3) + l2)))) (l2 + 1) hR
set_option maxHeartbeats 4000000 in
set_option maxRecDepth 100000 in
theorem z_X7_keepWays_0 {sK sV : Nat → Nat} {E : ZE} {cI cB cZ : ClassId} (hC : ZC E 3 cX7_keepWays wsX7_keepWays RX7 rmX7_keepWays none (zty cI cB cZ)) (hN : ZN sK sV (zA E) (zs E)) {N : Nat} {a_t : Nat} {a_t_best : Nat} {a_t_better : Nat} {a_t_group : Nat} {a_t_train : Nat} {a_t_course : Nat} {t_groups : Int32} {t_best : (Nat → Int32)} {t_better : (Nat → Int32)} {l1 : Int32} {rf : (Nat → Int32)} (hQ : ZQv E (zty cI cB cZ) [(a_t, .inr (7, [.ref a_t_group, .ref a_t_train, .int t_groups, .ref a_t_best, .ref a_t_better, .ref a_t_course])), (a_t_best, .inl (cI, 24, .inl t_best)), (a_t_better, .inl (cI, 24, .inl rf))]) (hR : o_X7_keepWays N t_best t_better l1 = some rf) : Z E (0, 0) [(0, .ref a_t), (1, .int l1)] 0 [] [(a_t, .inr (7, [.ref a_t_group, .ref a_t_train, .int t_groups, .ref a_t_best, .ref a_t_better, .ref a_t_course])), (a_t_best, .inl (cI, 24, .inl t_best)), (a_t_better, .inl (cI, 24, .inl t_better))] := by
  rw [o_X7_keepWays] at hR
  refine z_ic0 hC dX7_keepWays_0 ?_
  refine z_istore_n hC [(2, .int 0), (0, .ref a_t), (1, .int l1)] dX7_keepWays_1 rfl (by decide) rfl ?_
  refine z_sub (lv' := [(0, .ref a_t), (1, .int l1), (2, .int 0)]) [1, 2, 0] rfl ?_
  exact z_X7_keepWays_2 hC hN (N := N) (a_t := a_t) (a_t_best := a_t_best) (a_t_better := a_t_better) (a_t_group := a_t_group) (a_t_train := a_t_train) (a_t_course := a_t_course) (t_groups := t_groups) (t_best := t_best) (l1 := l1) hQ  N t_better 0 hR
set_option maxHeartbeats 4000000 in
set_option maxRecDepth 100000 in
theorem c_X7_keepWays {sK sV : Nat → Nat} {l : Launch} {D : va_G} {cI cB cZ : ClassId} {N : Nat} {a_t : Nat} {a_t_best : Nat} {a_t_better : Nat} {a_t_group : Nat} {a_t_train : Nat} {a_t_course : Nat} {t_groups : Int32} {t_best : (Nat → Int32)} {t_better : (Nat → Int32)} {l1 : Int32} : ∀ R : (Nat → Int32), o_X7_keepWays N t_best t_better l1 = some R → ZMv sK sV l yX7_keepWays wsX7_keepWays rmX7_keepWays D (zty cI cB cZ) [.ref a_t, .int l1] [(a_t, .inr (7, [.ref a_t_group, .ref a_t_train, .int t_groups, .ref a_t_best, .ref a_t_better, .ref a_t_course])), (a_t_best, .inl (cI, 24, .inl t_best)), (a_t_better, .inl (cI, 24, .inl t_better))] [(a_t, .inr (7, [.ref a_t_group, .ref a_t_train, .int t_groups, .ref a_t_best, .ref a_t_better, .ref a_t_course])), (a_t_best, .inl (cI, 24, .inl t_best)), (a_t_better, .inl (cI, 24, .inl R))] := by
  intro R hR
  refine zv_of (cc := cX7_keepWays) (maxL := 3) (ret := none) (by decide) rfl (Nat.le_of_ble_eq_true rfl) (fun E hE1 hE2 hC hN hQ => ?_)
  subst hE1 hE2
  exact z_X7_keepWays_0 hC hN (N := N) (a_t := a_t) (a_t_best := a_t_best) (a_t_better := a_t_better) (a_t_group := a_t_group) (a_t_train := a_t_train) (a_t_course := a_t_course) (t_groups := t_groups) (t_best := t_best) (t_better := t_better) (l1 := l1) hQ hR

/-! FistTrains$Ways.joinGroups -/
abbrev rmX7_joinGroups : Room := { frames := 0, cells := 0, slots := 0, locals := 0 }
set_option maxRecDepth 20000 in
theorem iX7_joinGroups_X7 : ∀ w ∈ wsX70, w ∈ wsX7_joinGroups := by decide +kernel
set_option maxRecDepth 20000 in
theorem mX7_joinGroups_1 : Cond.fieldLink RX7 18 "FistTrains$Ways" "groups" "I" ∈ wsX7_joinGroups := List.mem_of_getElem? (i := 1) rfl
set_option maxRecDepth 20000 in
theorem mX7_joinGroups_2 : Cond.fieldLink RX7 15 "FistTrains$Ways" "train" "[I" ∈ wsX7_joinGroups := List.mem_of_getElem? (i := 2) rfl
set_option maxRecDepth 20000 in
theorem iX7_joinGroups_X3 : ∀ w ∈ wsX30, w ∈ wsX7_joinGroups := by decide +kernel
set_option maxRecDepth 20000 in
theorem mX7_joinGroups_3 : Cond.fieldLink RX7 53 "FistTrains$Hall" "players" "I" ∈ wsX7_joinGroups := List.mem_of_getElem? (i := 3) rfl
set_option maxRecDepth 20000 in
theorem mX7_joinGroups_4 : Cond.fieldLink RX7 9 "FistTrains$Ways" "group" "[I" ∈ wsX7_joinGroups := List.mem_of_getElem? (i := 4) rfl
def o_X7_joinGroups_53 (N : Nat) (K11 : (Nat → Int32) → Int32 → Option (Int32 × (Nat → Int32) × (Nat → Int32))) (t_groups : Int32) (t_group : (Nat → Int32)) (t_train : (Nat → Int32)) (p1_players : Int32) (l2 : Int32) (l3 : Int32) (l4 : Int32) : Option (Int32 × (Nat → Int32) × (Nat → Int32)) :=
  ogd (inb l3 8) (
  K11 (upd t_train (Int32.toNatClampNeg l3) l4) (l3 + 1))
def o_X7_joinGroups_69 (N : Nat) (t_train : (Nat → Int32)) (p1_players : Int32) (l2 : Int32) : Nat → (Nat → Int32) → Int32 → Option (Int32 × (Nat → Int32) × (Nat → Int32))
  | 0 => fun _ _ => none
  | n + 1 => fun t_group l3 => 
    if p1_players ≤ l3 then
      some (l2, t_group, t_train)
    else
      ogd (inb l3 8) (
      if (t_group (Int32.toNatClampNeg l3)) < 0 then
        o_X7_joinGroups_69 N t_train p1_players l2 n t_group (l3 + 1)
      else
        ogd (inb l3 8) (
        ogd (inb l3 8) (
        o_X7_joinGroups_69 N t_train p1_players l2 n (upd t_group (Int32.toNatClampNeg l3) ((t_group (Int32.toNatClampNeg l3)) / 2)) (l3 + 1))))
def o_X7_joinGroups_11 (N : Nat) (t_groups : Int32) (t_group : (Nat → Int32)) (p1_players : Int32) (l2 : Int32) : Nat → (Nat → Int32) → Int32 → Option (Int32 × (Nat → Int32) × (Nat → Int32))
  | 0 => fun _ _ => none
  | n + 1 => fun t_train l3 => 
    if l2 ≤ l3 then
      o_X7_joinGroups_69 N t_train p1_players l2 N t_group 0
    else
      ogd (inb (2 * l3) 8) (
      if t_groups ≤ ((2 * l3) + 1) then
        o_X7_joinGroups_53 N (o_X7_joinGroups_11 N t_groups t_group p1_players l2 n) t_groups t_group t_train p1_players l2 l3 (t_train (Int32.toNatClampNeg (2 * l3)))
      else
        ogd (inb ((2 * l3) + 1) 8) (
        o_X7_joinGroups_53 N (o_X7_joinGroups_11 N t_groups t_group p1_players l2 n) t_groups t_group t_train p1_players l2 l3 ((t_train (Int32.toNatClampNeg (2 * l3))) + (t_train (Int32.toNatClampNeg ((2 * l3) + 1))))))
def o_X7_joinGroups (N : Nat) (t_groups : Int32) (t_group : (Nat → Int32)) (t_train : (Nat → Int32)) (p1_players : Int32) : Option (Int32 × (Nat → Int32) × (Nat → Int32)) :=
  o_X7_joinGroups_11 N t_groups t_group p1_players ((t_groups + 1) / 2) N t_train 0
set_option maxHeartbeats 4000000 in
set_option maxRecDepth 100000 in
theorem z_X7_joinGroups_53 {sK sV : Nat → Nat} {E : ZE} {cI cB cZ : ClassId} (hC : ZC E 5 cX7_joinGroups wsX7_joinGroups RX7 rmX7_joinGroups none (zty cI cB cZ)) (hN : ZN sK sV (zA E) (zs E)) {N : Nat} {a_t : Nat} {a_t_group : Nat} {a_t_train : Nat} {a_p1 : Nat} {a_t_best : Nat} {a_t_better : Nat} {a_t_course : Nat} {a_p1_kind : Nat} {a_p1_hand : Nat} {a_p1_leader : Nat} {a_p1_course : Nat} {t_groups : Int32} {t_group : (Nat → Int32)} {t_train : (Nat → Int32)} {p1_players : Int32} {p1_round : Int32} {p1_time : Int32} {l2 : Int32} {l3 : Int32} {l4 : Int32} {K11 : (Nat → Int32) → Int32 → Option (Int32 × (Nat → Int32) × (Nat → Int32))} {rf : Int32 × (Nat → Int32) × (Nat → Int32)} (hQ : ZQv E (zty cI cB cZ) [(a_t, .inr (7, [.ref a_t_group, .ref a_t_train, .int rf.1, .ref a_t_best, .ref a_t_better, .ref a_t_course])), (a_t_group, .inl (cI, 8, .inl rf.2.1)), (a_t_train, .inl (cI, 8, .inl rf.2.2)), (a_p1, .inr (3, [.int p1_players, .int p1_round, .int p1_time, .ref a_p1_kind, .ref a_p1_hand, .ref a_p1_leader, .ref a_p1_course]))]) (hK11 : ∀ (t_train : (Nat → Int32)) (l3 : Int32), K11 t_train l3 = some rf → Z E (0, 0) [(0, .ref a_t), (1, .ref a_p1), (2, .int l2), (3, .int l3)] 11 [] [(a_t, .inr (7, [.ref a_t_group, .ref a_t_train, .int t_groups, .ref a_t_best, .ref a_t_better, .ref a_t_course])), (a_t_group, .inl (cI, 8, .inl t_group)), (a_t_train, .inl (cI, 8, .inl t_train)), (a_p1, .inr (3, [.int p1_players, .int p1_round, .int p1_time, .ref a_p1_kind, .ref a_p1_hand, .ref a_p1_leader, .ref a_p1_course]))]) (hR : o_X7_joinGroups_53 N K11 t_groups t_group t_train p1_players l2 l3 l4 = some rf) : Z E (0, 0) [(0, .ref a_t), (1, .ref a_p1), (2, .int l2), (3, .int l3), (4, .int l4)] 53 [] [(a_t, .inr (7, [.ref a_t_group, .ref a_t_train, .int t_groups, .ref a_t_best, .ref a_t_better, .ref a_t_course])), (a_t_group, .inl (cI, 8, .inl t_group)), (a_t_train, .inl (cI, 8, .inl t_train)), (a_p1, .inr (3, [.int p1_players, .int p1_round, .int p1_time, .ref a_p1_kind, .ref a_p1_hand, .ref a_p1_leader, .ref a_p1_course]))] := by
  rw [o_X7_joinGroups_53] at hR
  refine z_aload_n hC dX7_joinGroups_53 rfl 0 rfl ?_
  refine z_get hC iX7_joinGroups_X7 rfl 0 1 rfl (by decide) mX7_joinGroups_2 rfl rfl dX7_joinGroups_54 ?_
  refine z_iload_n hC dX7_joinGroups_57 rfl 3 rfl ?_
  refine z_iload hC dX7_joinGroups_58 4 rfl ?_
  refine z_iast hC 2 0 rfl rfl dX7_joinGroups_60 hR (fun hR => ?_)
  refine z_iinc1 hC [(3, .int (l3 + 1)), (0, .ref a_t), (1, .ref a_p1), (2, .int l2), (4, .int l4)] dX7_joinGroups_61 3 rfl (by decide) rfl ?_
  refine z_goto hC 11 dX7_joinGroups_64 (by decide) ?_
  refine z_sub (lv' := [(0, .ref a_t), (1, .ref a_p1), (2, .int l2), (3, .int (l3 + 1))]) [1, 2, 3, 0] rfl ?_
  exact hK11 (upd t_train (Int32.toNatClampNeg l3) l4) (l3 + 1) hR
set_option maxHeartbeats 4000000 in
set_option maxRecDepth 100000 in
theorem z_X7_joinGroups_69 {sK sV : Nat → Nat} {E : ZE} {cI cB cZ : ClassId} (hC : ZC E 5 cX7_joinGroups wsX7_joinGroups RX7 rmX7_joinGroups none (zty cI cB cZ)) (hN : ZN sK sV (zA E) (zs E)) {N : Nat} {a_t : Nat} {a_t_group : Nat} {a_t_train : Nat} {a_p1 : Nat} {a_t_best : Nat} {a_t_better : Nat} {a_t_course : Nat} {a_p1_kind : Nat} {a_p1_hand : Nat} {a_p1_leader : Nat} {a_p1_course : Nat} {t_groups : Int32} {t_train : (Nat → Int32)} {p1_players : Int32} {p1_round : Int32} {p1_time : Int32} {l2 : Int32} {rf : Int32 × (Nat → Int32) × (Nat → Int32)} (hQ : ZQv E (zty cI cB cZ) [(a_t, .inr (7, [.ref a_t_group, .ref a_t_train, .int rf.1, .ref a_t_best, .ref a_t_better, .ref a_t_course])), (a_t_group, .inl (cI, 8, .inl rf.2.1)), (a_t_train, .inl (cI, 8, .inl rf.2.2)), (a_p1, .inr (3, [.int p1_players, .int p1_round, .int p1_time, .ref a_p1_kind, .ref a_p1_hand, .ref a_p1_leader, .ref a_p1_course]))]) : ∀ (n : Nat) (t_group : (Nat → Int32)) (l3 : Int32), o_X7_joinGroups_69 N t_train p1_players l2 n t_group l3 = some rf → Z E (0, 0) [(0, .ref a_t), (1, .ref a_p1), (2, .int l2), (3, .int l3)] 69 [] [(a_t, .inr (7, [.ref a_t_group, .ref a_t_train, .int t_groups, .ref a_t_best, .ref a_t_better, .ref a_t_course])), (a_t_group, .inl (cI, 8, .inl t_group)), (a_t_train, .inl (cI, 8, .inl t_train)), (a_p1, .inr (3, [.int p1_players, .int p1_round, .int p1_time, .ref a_p1_kind, .ref a_p1_hand, .ref a_p1_leader, .ref a_p1_course]))] := by
  intro n
  induction n with
  | zero =>
    intro t_group l3 hR
    cases hR
  | succ n ih =>
    intro t_group l3 hR
    rw [o_X7_joinGroups_69] at hR
    refine z_iload_n hC dX7_joinGroups_69 rfl 3 rfl ?_
    refine z_aload_n hC dX7_joinGroups_70 rfl 1 rfl ?_
    refine z_get hC iX7_joinGroups_X3 rfl 3 0 rfl (by decide) mX7_joinGroups_3 rfl rfl dX7_joinGroups_71 ?_
    refine z_icmp_ge hC 102 dX7_joinGroups_74 (by decide) hR (fun hR => ?_) (fun hR => ?_)
    · refine z_aload_n hC dX7_joinGroups_102 rfl 0 rfl ?_
      refine z_iload_n hC dX7_joinGroups_103 rfl 2 rfl ?_
      refine z_put hC iX7_joinGroups_X7 tyX7_ok nmX7 rfl 0 2 rfl (by decide) mX7_joinGroups_1 rfl rfl rfl rfl (Nat.le_of_ble_eq_true rfl) dX7_joinGroups_104 ?_
      obtain rfl := Option.some.inj hR
      exact z_vret hC hQ rfl dX7_joinGroups_107
    · refine z_aload_n hC dX7_joinGroups_77 rfl 0 rfl ?_
      refine z_get hC iX7_joinGroups_X7 rfl 0 0 rfl (by decide) mX7_joinGroups_4 rfl rfl dX7_joinGroups_78 ?_
      refine z_iload_n hC dX7_joinGroups_81 rfl 3 rfl ?_
      refine z_iald hC 1 0 rfl rfl dX7_joinGroups_82 hR (fun hR => ?_)
      refine z_if_lt hC 96 dX7_joinGroups_83 (by decide) hR (fun hR => ?_) (fun hR => ?_)
      · refine z_iinc1 hC [(3, .int (l3 + 1)), (0, .ref a_t), (1, .ref a_p1), (2, .int l2)] dX7_joinGroups_96 3 rfl (by decide) rfl ?_
        refine z_goto hC 69 dX7_joinGroups_99 (by decide) ?_
        refine z_sub (lv' := [(0, .ref a_t), (1, .ref a_p1), (2, .int l2), (3, .int (l3 + 1))]) [1, 2, 3, 0] rfl ?_
        exact ih t_group (l3 + 1) hR
      · refine z_aload_n hC dX7_joinGroups_86 rfl 0 rfl ?_
        refine z_get hC iX7_joinGroups_X7 rfl 0 0 rfl (by decide) mX7_joinGroups_4 rfl rfl dX7_joinGroups_87 ?_
        refine z_iload_n hC dX7_joinGroups_90 rfl 3 rfl ?_
        refine z_dup2 hC dX7_joinGroups_91 rfl rfl ?_
        refine z_iald hC 1 0 rfl rfl dX7_joinGroups_92 hR (fun hR => ?_)
        refine z_ic2 hC dX7_joinGroups_93 ?_
        refine z_idivK hC dX7_joinGroups_94 (by decide) ?_
        refine z_iast hC 1 0 rfl rfl dX7_joinGroups_95 hR (fun hR => ?_)
        refine z_iinc1 hC [(3, .int (l3 + 1)), (0, .ref a_t), (1, .ref a_p1), (2, .int l2)] dX7_joinGroups_96 3 rfl (by decide) rfl ?_
        refine z_goto hC 69 dX7_joinGroups_99 (by decide) ?_
        refine z_sub (lv' := [(0, .ref a_t), (1, .ref a_p1), (2, .int l2), (3, .int (l3 + 1))]) [1, 2, 3, 0] rfl ?_
        exact ih (upd t_group (Int32.toNatClampNeg l3) ((t_group (Int32.toNatClampNeg l3)) / 2)) (l3 + 1) hR
set_option maxHeartbeats 4000000 in
set_option maxRecDepth 100000 in
theorem z_X7_joinGroups_11 {sK sV : Nat → Nat} {E : ZE} {cI cB cZ : ClassId} (hC : ZC E 5 cX7_joinGroups wsX7_joinGroups RX7 rmX7_joinGroups none (zty cI cB cZ)) (hN : ZN sK sV (zA E) (zs E)) {N : Nat} {a_t : Nat} {a_t_group : Nat} {a_t_train : Nat} {a_p1 : Nat} {a_t_best : Nat} {a_t_better : Nat} {a_t_course : Nat} {a_p1_kind : Nat} {a_p1_hand : Nat} {a_p1_leader : Nat} {a_p1_course : Nat} {t_groups : Int32} {t_group : (Nat → Int32)} {p1_players : Int32} {p1_round : Int32} {p1_time : Int32} {l2 : Int32} {rf : Int32 × (Nat → Int32) × (Nat → Int32)} (hQ : ZQv E (zty cI cB cZ) [(a_t, .inr (7, [.ref a_t_group, .ref a_t_train, .int rf.1, .ref a_t_best, .ref a_t_better, .ref a_t_course])), (a_t_group, .inl (cI, 8, .inl rf.2.1)), (a_t_train, .inl (cI, 8, .inl rf.2.2)), (a_p1, .inr (3, [.int p1_players, .int p1_round, .int p1_time, .ref a_p1_kind, .ref a_p1_hand, .ref a_p1_leader, .ref a_p1_course]))]) : ∀ (n : Nat) (t_train : (Nat → Int32)) (l3 : Int32), o_X7_joinGroups_11 N t_groups t_group p1_players l2 n t_train l3 = some rf → Z E (0, 0) [(0, .ref a_t), (1, .ref a_p1), (2, .int l2), (3, .int l3)] 11 [] [(a_t, .inr (7, [.ref a_t_group, .ref a_t_train, .int t_groups, .ref a_t_best, .ref a_t_better, .ref a_t_course])), (a_t_group, .inl (cI, 8, .inl t_group)), (a_t_train, .inl (cI, 8, .inl t_train)), (a_p1, .inr (3, [.int p1_players, .int p1_round, .int p1_time, .ref a_p1_kind, .ref a_p1_hand, .ref a_p1_leader, .ref a_p1_course]))] := by
  intro n
  induction n with
  | zero =>
    intro t_train l3 hR
    cases hR
  | succ n ih =>
    intro t_train l3 hR
    rw [o_X7_joinGroups_11] at hR
    refine z_iload_n hC dX7_joinGroups_11 rfl 3 rfl ?_
    refine z_iload_n hC dX7_joinGroups_12 rfl 2 rfl ?_
    refine z_icmp_ge hC 67 dX7_joinGroups_13 (by decide) hR (fun hR => ?_) (fun hR => ?_)
    · refine z_ic0 hC dX7_joinGroups_67 ?_
      refine z_istore_n hC [(3, .int 0), (0, .ref a_t), (1, .ref a_p1), (2, .int l2)] dX7_joinGroups_68 rfl (by decide) rfl ?_
      refine z_sub (lv' := [(0, .ref a_t), (1, .ref a_p1), (2, .int l2), (3, .int 0)]) [1, 2, 3, 0] rfl ?_
      exact z_X7_joinGroups_69 hC hN (N := N) (a_t := a_t) (a_t_group := a_t_group) (a_t_train := a_t_train) (a_p1 := a_p1) (a_t_best := a_t_best) (a_t_better := a_t_better) (a_t_course := a_t_course) (a_p1_kind := a_p1_kind) (a_p1_hand := a_p1_hand) (a_p1_leader := a_p1_leader) (a_p1_course := a_p1_course) (t_groups := t_groups) (t_train := t_train) (p1_players := p1_players) (p1_round := p1_round) (p1_time := p1_time) (l2 := l2) hQ  N t_group 0 hR
    · refine z_aload_n hC dX7_joinGroups_16 rfl 0 rfl ?_
      refine z_get hC iX7_joinGroups_X7 rfl 0 1 rfl (by decide) mX7_joinGroups_2 rfl rfl dX7_joinGroups_17 ?_
      refine z_ic2 hC dX7_joinGroups_20 ?_
      refine z_iload_n hC dX7_joinGroups_21 rfl 3 rfl ?_
      refine z_imul hC dX7_joinGroups_22 ?_
      refine z_iald hC 2 0 rfl rfl dX7_joinGroups_23 hR (fun hR => ?_)
      refine z_istore hC [(4, .int (t_train (Int32.toNatClampNeg (2 * l3)))), (0, .ref a_t), (1, .ref a_p1), (2, .int l2), (3, .int l3)] dX7_joinGroups_24 (by decide) rfl ?_
      refine z_ic2 hC dX7_joinGroups_26 ?_
      refine z_iload_n hC dX7_joinGroups_27 rfl 4 rfl ?_
      refine z_imul hC dX7_joinGroups_28 ?_
      refine z_ic1 hC dX7_joinGroups_29 ?_
      refine z_iadd hC dX7_joinGroups_30 ?_
      refine z_aload_n hC dX7_joinGroups_31 rfl 1 rfl ?_
      refine z_get hC iX7_joinGroups_X7 rfl 0 2 rfl (by decide) mX7_joinGroups_1 rfl rfl dX7_joinGroups_32 ?_
      refine z_icmp_ge hC 53 dX7_joinGroups_35 (by decide) hR (fun hR => ?_) (fun hR => ?_)
      · refine z_sub (lv' := [(0, .ref a_t), (1, .ref a_p1), (2, .int l2), (3, .int l3), (4, .int (t_train (Int32.toNatClampNeg (2 * l3))))]) [1, 2, 3, 4, 0] rfl ?_
        exact z_X7_joinGroups_53 hC hN (N := N) (a_t := a_t) (a_t_group := a_t_group) (a_t_train := a_t_train) (a_p1 := a_p1) (a_t_best := a_t_best) (a_t_better := a_t_better) (a_t_course := a_t_course) (a_p1_kind := a_p1_kind) (a_p1_hand := a_p1_hand) (a_p1_leader := a_p1_leader) (a_p1_course := a_p1_course) (t_groups := t_groups) (t_group := t_group) (t_train := t_train) (p1_players := p1_players) (p1_round := p1_round) (p1_time := p1_time) (l2 := l2) (l3 := l3) (l4 := (t_train (Int32.toNatClampNeg (2 * l3)))) hQ ih hR
      · refine z_iload hC dX7_joinGroups_38 0 rfl ?_
        refine z_aload_n hC dX7_joinGroups_40 rfl 1 rfl ?_
        refine z_get hC iX7_joinGroups_X7 rfl 0 1 rfl (by decide) mX7_joinGroups_2 rfl rfl dX7_joinGroups_41 ?_
        refine z_ic2 hC dX7_joinGroups_44 ?_
        refine z_iload_n hC dX7_joinGroups_45 rfl 4 rfl ?_
        refine z_imul hC dX7_joinGroups_46 ?_
        refine z_ic1 hC dX7_joinGroups_47 ?_
        refine z_iadd hC dX7_joinGroups_48 ?_
        refine z_iald hC 2 0 rfl rfl dX7_joinGroups_49 hR (fun hR => ?_)
        refine z_iadd hC dX7_joinGroups_50 ?_
        refine z_istore hC [(4, .int ((t_train (Int32.toNatClampNeg (2 * l3))) + (t_train (Int32.toNatClampNeg ((2 * l3) + 1))))), (0, .ref a_t), (1, .ref a_p1), (2, .int l2), (3, .int l3)] dX7_joinGroups_51 (by decide) rfl ?_
        refine z_sub (lv' := [(0, .ref a_t), (1, .ref a_p1), (2, .int l2), (3, .int l3), (4, .int ((t_train (Int32.toNatClampNeg (2 * l3))) + (t_train (Int32.toNatClampNeg ((2 * l3) + 1)))))]) [1, 2, 3, 4, 0] rfl ?_
        exact z_X7_joinGroups_53 hC hN (N := N) (a_t := a_t) (a_t_group := a_t_group) (a_t_train := a_t_train) (a_p1 := a_p1) (a_t_best := a_t_best) (a_t_better := a_t_better) (a_t_course := a_t_course) (a_p1_kind := a_p1_kind) (a_p1_hand := a_p1_hand) (a_p1_leader := a_p1_leader) (a_p1_course := a_p1_course) (t_groups := t_groups) (t_group := t_group) (t_train := t_train) (p1_players := p1_players) (p1_round := p1_round) (p1_time := p1_time) (l2 := l2) (l3 := l3) (l4 := ((t_train (Int32.toNatClampNeg (2 * l3))) + (t_train (Int32.toNatClampNeg ((2 * l3) + 1))))) hQ ih hR
set_option maxHeartbeats 4000000 in
set_option maxRecDepth 100000 in
theorem z_X7_joinGroups_0 {sK sV : Nat → Nat} {E : ZE} {cI cB cZ : ClassId} (hC : ZC E 5 cX7_joinGroups wsX7_joinGroups RX7 rmX7_joinGroups none (zty cI cB cZ)) (hN : ZN sK sV (zA E) (zs E)) {N : Nat} {a_t : Nat} {a_t_group : Nat} {a_t_train : Nat} {a_p1 : Nat} {a_t_best : Nat} {a_t_better : Nat} {a_t_course : Nat} {a_p1_kind : Nat} {a_p1_hand : Nat} {a_p1_leader : Nat} {a_p1_course : Nat} {t_groups : Int32} {t_group : (Nat → Int32)} {t_train : (Nat → Int32)} {p1_players : Int32} {p1_round : Int32} {p1_time : Int32} {rf : Int32 × (Nat → Int32) × (Nat → Int32)} (hQ : ZQv E (zty cI cB cZ) [(a_t, .inr (7, [.ref a_t_group, .ref a_t_train, .int rf.1, .ref a_t_best, .ref a_t_better, .ref a_t_course])), (a_t_group, .inl (cI, 8, .inl rf.2.1)), (a_t_train, .inl (cI, 8, .inl rf.2.2)), (a_p1, .inr (3, [.int p1_players, .int p1_round, .int p1_time, .ref a_p1_kind, .ref a_p1_hand, .ref a_p1_leader, .ref a_p1_course]))]) (hR : o_X7_joinGroups N t_groups t_group t_train p1_players = some rf) : Z E (0, 0) [(0, .ref a_t), (1, .ref a_p1)] 0 [] [(a_t, .inr (7, [.ref a_t_group, .ref a_t_train, .int t_groups, .ref a_t_best, .ref a_t_better, .ref a_t_course])), (a_t_group, .inl (cI, 8, .inl t_group)), (a_t_train, .inl (cI, 8, .inl t_train)), (a_p1, .inr (3, [.int p1_players, .int p1_round, .int p1_time, .ref a_p1_kind, .ref a_p1_hand, .ref a_p1_leader, .ref a_p1_course]))] := by
  rw [o_X7_joinGroups] at hR
  refine z_aload_n hC dX7_joinGroups_0 rfl 0 rfl ?_
  refine z_get hC iX7_joinGroups_X7 rfl 0 2 rfl (by decide) mX7_joinGroups_1 rfl rfl dX7_joinGroups_1 ?_
  refine z_ic1 hC dX7_joinGroups_4 ?_
  refine z_iadd hC dX7_joinGroups_5 ?_
  refine z_ic2 hC dX7_joinGroups_6 ?_
  refine z_idivK hC dX7_joinGroups_7 (by decide) ?_
  refine z_istore_n hC [(2, .int ((t_groups + 1) / 2)), (0, .ref a_t), (1, .ref a_p1)] dX7_joinGroups_8 rfl (by decide) rfl ?_
  refine z_ic0 hC dX7_joinGroups_9 ?_
  refine z_istore_n hC [(3, .int 0), (2, .int ((t_groups + 1) / 2)), (0, .ref a_t), (1, .ref a_p1)] dX7_joinGroups_10 rfl (by decide) rfl ?_
  refine z_sub (lv' := [(0, .ref a_t), (1, .ref a_p1), (2, .int ((t_groups + 1) / 2)), (3, .int 0)]) [2, 3, 1, 0] rfl ?_
  exact z_X7_joinGroups_11 hC hN (N := N) (a_t := a_t) (a_t_group := a_t_group) (a_t_train := a_t_train) (a_p1 := a_p1) (a_t_best := a_t_best) (a_t_better := a_t_better) (a_t_course := a_t_course) (a_p1_kind := a_p1_kind) (a_p1_hand := a_p1_hand) (a_p1_leader := a_p1_leader) (a_p1_course := a_p1_course) (t_groups := t_groups) (t_group := t_group) (p1_players := p1_players) (p1_round := p1_round) (p1_time := p1_time) (l2 := ((t_groups + 1) / 2)) hQ  N t_train 0 hR
set_option maxHeartbeats 4000000 in
set_option maxRecDepth 100000 in
theorem c_X7_joinGroups {sK sV : Nat → Nat} {l : Launch} {D : va_G} {cI cB cZ : ClassId} {N : Nat} {a_t : Nat} {a_t_group : Nat} {a_t_train : Nat} {a_p1 : Nat} {a_t_best : Nat} {a_t_better : Nat} {a_t_course : Nat} {a_p1_kind : Nat} {a_p1_hand : Nat} {a_p1_leader : Nat} {a_p1_course : Nat} {t_groups : Int32} {t_group : (Nat → Int32)} {t_train : (Nat → Int32)} {p1_players : Int32} {p1_round : Int32} {p1_time : Int32} : ∀ R : Int32 × (Nat → Int32) × (Nat → Int32), o_X7_joinGroups N t_groups t_group t_train p1_players = some R → ZMv sK sV l yX7_joinGroups wsX7_joinGroups rmX7_joinGroups D (zty cI cB cZ) [.ref a_t, .ref a_p1] [(a_t, .inr (7, [.ref a_t_group, .ref a_t_train, .int t_groups, .ref a_t_best, .ref a_t_better, .ref a_t_course])), (a_t_group, .inl (cI, 8, .inl t_group)), (a_t_train, .inl (cI, 8, .inl t_train)), (a_p1, .inr (3, [.int p1_players, .int p1_round, .int p1_time, .ref a_p1_kind, .ref a_p1_hand, .ref a_p1_leader, .ref a_p1_course]))] [(a_t, .inr (7, [.ref a_t_group, .ref a_t_train, .int R.1, .ref a_t_best, .ref a_t_better, .ref a_t_course])), (a_t_group, .inl (cI, 8, .inl R.2.1)), (a_t_train, .inl (cI, 8, .inl R.2.2)), (a_p1, .inr (3, [.int p1_players, .int p1_round, .int p1_time, .ref a_p1_kind, .ref a_p1_hand, .ref a_p1_leader, .ref a_p1_course]))] := by
  intro R hR
  refine zv_of (cc := cX7_joinGroups) (maxL := 5) (ret := none) (by decide) rfl (Nat.le_of_ble_eq_true rfl) (fun E hE1 hE2 hC hN hQ => ?_)
  subst hE1 hE2
  exact z_X7_joinGroups_0 hC hN (N := N) (a_t := a_t) (a_t_group := a_t_group) (a_t_train := a_t_train) (a_p1 := a_p1) (a_t_best := a_t_best) (a_t_better := a_t_better) (a_t_course := a_t_course) (a_p1_kind := a_p1_kind) (a_p1_hand := a_p1_hand) (a_p1_leader := a_p1_leader) (a_p1_course := a_p1_course) (t_groups := t_groups) (t_group := t_group) (t_train := t_train) (p1_players := p1_players) (p1_round := p1_round) (p1_time := p1_time) hQ hR

/-! FistTrains$Ways.pairGroups -/
abbrev rmX7_pairGroups : Room := { frames := 3, cells := 0, slots := 0, locals := 78 }
set_option maxRecDepth 20000 in
theorem iX7_pairGroups_X3 : ∀ w ∈ wsX30, w ∈ wsX7_pairGroups := by decide +kernel
set_option maxRecDepth 20000 in
theorem mX7_pairGroups_3 : Cond.fieldLink RX7 53 "FistTrains$Hall" "players" "I" ∈ wsX7_pairGroups := List.mem_of_getElem? (i := 3) rfl
set_option maxRecDepth 20000 in
theorem iX7_pairGroups_X7 : ∀ w ∈ wsX70, w ∈ wsX7_pairGroups := by decide +kernel
set_option maxRecDepth 20000 in
theorem mX7_pairGroups_6 : Cond.fieldLink RX7 22 "FistTrains$Ways" "best" "[I" ∈ wsX7_pairGroups := List.mem_of_getElem? (i := 6) rfl
set_option maxRecDepth 20000 in
theorem mX7_pairGroups_1 : Cond.fieldLink RX7 25 "FistTrains$Ways" "better" "[I" ∈ wsX7_pairGroups := List.mem_of_getElem? (i := 1) rfl
set_option maxRecDepth 20000 in
theorem mX7_pairGroups_2 : Cond.constant RX7 46 (1073741824) ∈ wsX7_pairGroups := List.mem_of_getElem? (i := 2) rfl
set_option maxRecDepth 20000 in
theorem mX7_pairGroups_4 : Cond.fieldLink RX7 9 "FistTrains$Ways" "group" "[I" ∈ wsX7_pairGroups := List.mem_of_getElem? (i := 4) rfl
set_option maxRecDepth 20000 in
theorem mX7_pairGroups_5 : Cond.fieldLink RX7 18 "FistTrains$Ways" "groups" "I" ∈ wsX7_pairGroups := List.mem_of_getElem? (i := 5) rfl
def o_X7_pairGroups_36 (N : Nat) (K24 : (Nat → Int32) → Int32 → Int32 → Int32 → Int32 → Option (Int32 × Nat × Nat × (Nat → Int32) × (Nat → Int32) × (Nat → Int32) × (Nat → Int32) × Int32 × Int32 × Int32)) (a_t_best : Nat) (a_t_better : Nat) (t_groups : Int32) (t_group : (Nat → Int32)) (t_train : (Nat → Int32)) (t_best : (Nat → Int32)) (p1_players : Int32) (p1_kind : (Nat → Int32)) (l2 : Int32) : Nat → (Nat → Int32) → Int32 → Int32 → Int32 → Int32 → Option (Int32 × Nat × Nat × (Nat → Int32) × (Nat → Int32) × (Nat → Int32) × (Nat → Int32) × Int32 × Int32 × Int32)
  | 0 => fun _ _ _ _ _ => none
  | n + 1 => fun t_better t_course_first t_course_second t_course_thrown l3 => 
    if p1_players ≤ l3 then
      ogd (inb l2 8) (
      if (t_group (Int32.toNatClampNeg l2)) = (t_groups - 1) then
        ogd (inb l2 8) (
        if ((t_group (Int32.toNatClampNeg l2)) - (t_group (Int32.toNatClampNeg l2)) / 2 * 2) = 0 then
          Option.bind (o_X7_keepWays N t_best t_better l2) (fun r122 =>
          K24 r122 t_course_first t_course_second t_course_thrown (l2 + 1))
        else
          K24 t_better t_course_first t_course_second t_course_thrown (l2 + 1))
      else
        K24 t_better t_course_first t_course_second t_course_thrown (l2 + 1))
    else
      ogd (inb l2 8) (
      if (t_group (Int32.toNatClampNeg l2)) < 0 then
        o_X7_pairGroups_36 N K24 a_t_best a_t_better t_groups t_group t_train t_best p1_players p1_kind l2 n t_better t_course_first t_course_second t_course_thrown (l3 + 1)
      else
        ogd (inb l2 8) (
        if ((t_group (Int32.toNatClampNeg l2)) - (t_group (Int32.toNatClampNeg l2)) / 2 * 2) = 0 then
          ogd (inb l3 8) (
          ogd (inb l2 8) (
          if (t_group (Int32.toNatClampNeg l3)) = ((t_group (Int32.toNatClampNeg l2)) + 1) then
            Option.bind (o_X7_pairPlayers N t_group t_train t_best t_better t_course_first t_course_second t_course_thrown p1_kind l2 l3) (fun r85 =>
            o_X7_pairGroups_36 N K24 a_t_best a_t_better t_groups t_group t_train t_best p1_players p1_kind l2 n r85.1 r85.2.1 r85.2.2.1 r85.2.2.2 (l3 + 1))
          else
            o_X7_pairGroups_36 N K24 a_t_best a_t_better t_groups t_group t_train t_best p1_players p1_kind l2 n t_better t_course_first t_course_second t_course_thrown (l3 + 1)))
        else
          o_X7_pairGroups_36 N K24 a_t_best a_t_better t_groups t_group t_train t_best p1_players p1_kind l2 n t_better t_course_first t_course_second t_course_thrown (l3 + 1)))
def o_X7_pairGroups_24 (N : Nat) (a_t_best : Nat) (a_t_better : Nat) (t_groups : Int32) (t_group : (Nat → Int32)) (t_train : (Nat → Int32)) (t_best : (Nat → Int32)) (p1_players : Int32) (p1_kind : (Nat → Int32)) : Nat → (Nat → Int32) → Int32 → Int32 → Int32 → Int32 → Option (Int32 × Nat × Nat × (Nat → Int32) × (Nat → Int32) × (Nat → Int32) × (Nat → Int32) × Int32 × Int32 × Int32)
  | 0 => fun _ _ _ _ _ => none
  | n + 1 => fun t_better t_course_first t_course_second t_course_thrown l2 => 
    if p1_players ≤ l2 then
      Option.bind (o_X7_joinGroups N t_groups t_group t_train p1_players) (fun r151 =>
      some (r151.1, a_t_better, a_t_best, r151.2.1, r151.2.2, t_better, t_best, t_course_first, t_course_second, t_course_thrown))
    else
      o_X7_pairGroups_36 N (o_X7_pairGroups_24 N a_t_best a_t_better t_groups t_group t_train t_best p1_players p1_kind n) a_t_best a_t_better t_groups t_group t_train t_best p1_players p1_kind l2 N t_better t_course_first t_course_second t_course_thrown (l2 + 1)
def o_X7_pairGroups_2 (N : Nat) (a_t_best : Nat) (a_t_better : Nat) (t_groups : Int32) (t_group : (Nat → Int32)) (t_train : (Nat → Int32)) (t_best : (Nat → Int32)) (t_course_first : Int32) (t_course_second : Int32) (t_course_thrown : Int32) (p1_players : Int32) (p1_kind : (Nat → Int32)) : Nat → (Nat → Int32) → Int32 → Option (Int32 × Nat × Nat × (Nat → Int32) × (Nat → Int32) × (Nat → Int32) × (Nat → Int32) × Int32 × Int32 × Int32)
  | 0 => fun _ _ => none
  | n + 1 => fun t_better l2 => 
    if 24 ≤ l2 then
      o_X7_pairGroups_24 N a_t_best a_t_better t_groups t_group t_train t_best p1_players p1_kind N t_better t_course_first t_course_second t_course_thrown 0
    else
      ogd (inb l2 24) (
      o_X7_pairGroups_2 N a_t_best a_t_better t_groups t_group t_train t_best t_course_first t_course_second t_course_thrown p1_players p1_kind n (upd t_better (Int32.toNatClampNeg l2) 1073741824) (l2 + 1))
def o_X7_pairGroups (N : Nat) (a_t_best : Nat) (a_t_better : Nat) (t_groups : Int32) (t_group : (Nat → Int32)) (t_train : (Nat → Int32)) (t_best : (Nat → Int32)) (t_better : (Nat → Int32)) (t_course_first : Int32) (t_course_second : Int32) (t_course_thrown : Int32) (p1_players : Int32) (p1_kind : (Nat → Int32)) : Option (Int32 × Nat × Nat × (Nat → Int32) × (Nat → Int32) × (Nat → Int32) × (Nat → Int32) × Int32 × Int32 × Int32) :=
  o_X7_pairGroups_2 N a_t_best a_t_better t_groups t_group t_train t_best t_course_first t_course_second t_course_thrown p1_players p1_kind N t_better 0
set_option maxHeartbeats 4000000 in
set_option maxRecDepth 100000 in
theorem z_X7_pairGroups_36 {sK sV : Nat → Nat} {E : ZE} {cI cB cZ : ClassId} (hC : ZC E 4 cX7_pairGroups wsX7_pairGroups RX7 rmX7_pairGroups none (zty cI cB cZ)) (hN : ZN sK sV (zA E) (zs E)) {N : Nat} {a_t : Nat} {a_t_group : Nat} {a_t_train : Nat} {a_t_best : Nat} {a_t_better : Nat} {a_t_course : Nat} {a_p1 : Nat} {a_p1_kind : Nat} {a_p1_hand : Nat} {a_p1_leader : Nat} {a_p1_course : Nat} {t_groups : Int32} {t_group : (Nat → Int32)} {t_train : (Nat → Int32)} {t_best : (Nat → Int32)} {p1_players : Int32} {p1_round : Int32} {p1_time : Int32} {p1_kind : (Nat → Int32)} {l2 : Int32} {K24 : (Nat → Int32) → Int32 → Int32 → Int32 → Int32 → Option (Int32 × Nat × Nat × (Nat → Int32) × (Nat → Int32) × (Nat → Int32) × (Nat → Int32) × Int32 × Int32 × Int32)} {rf : Int32 × Nat × Nat × (Nat → Int32) × (Nat → Int32) × (Nat → Int32) × (Nat → Int32) × Int32 × Int32 × Int32} (hQ : ZQv E (zty cI cB cZ) [(a_t, .inr (7, [.ref a_t_group, .ref a_t_train, .int rf.1, .ref rf.2.1, .ref rf.2.2.1, .ref a_t_course])), (a_t_group, .inl (cI, 8, .inl rf.2.2.2.1)), (a_t_train, .inl (cI, 8, .inl rf.2.2.2.2.1)), (rf.2.1, .inl (cI, 24, .inl rf.2.2.2.2.2.1)), (rf.2.2.1, .inl (cI, 24, .inl rf.2.2.2.2.2.2.1)), (a_t_course, .inr (2, [.int rf.2.2.2.2.2.2.2.1, .int rf.2.2.2.2.2.2.2.2.1, .int rf.2.2.2.2.2.2.2.2.2])), (a_p1, .inr (3, [.int p1_players, .int p1_round, .int p1_time, .ref a_p1_kind, .ref a_p1_hand, .ref a_p1_leader, .ref a_p1_course])), (a_p1_kind, .inl (cI, 8, .inl p1_kind))]) (hK24 : ∀ (t_better : (Nat → Int32)) (t_course_first : Int32) (t_course_second : Int32) (t_course_thrown : Int32) (l2 : Int32), K24 t_better t_course_first t_course_second t_course_thrown l2 = some rf → Z E (0, 0) [(0, .ref a_t), (1, .ref a_p1), (2, .int l2)] 24 [] [(a_t, .inr (7, [.ref a_t_group, .ref a_t_train, .int t_groups, .ref a_t_best, .ref a_t_better, .ref a_t_course])), (a_t_group, .inl (cI, 8, .inl t_group)), (a_t_train, .inl (cI, 8, .inl t_train)), (a_t_best, .inl (cI, 24, .inl t_best)), (a_t_better, .inl (cI, 24, .inl t_better)), (a_t_course, .inr (2, [.int t_course_first, .int t_course_second, .int t_course_thrown])), (a_p1, .inr (3, [.int p1_players, .int p1_round, .int p1_time, .ref a_p1_kind, .ref a_p1_hand, .ref a_p1_leader, .ref a_p1_course])), (a_p1_kind, .inl (cI, 8, .inl p1_kind))]) : ∀ (n : Nat) (t_better : (Nat → Int32)) (t_course_first : Int32) (t_course_second : Int32) (t_course_thrown : Int32) (l3 : Int32), o_X7_pairGroups_36 N K24 a_t_best a_t_better t_groups t_group t_train t_best p1_players p1_kind l2 n t_better t_course_first t_course_second t_course_thrown l3 = some rf → Z E (0, 0) [(0, .ref a_t), (1, .ref a_p1), (2, .int l2), (3, .int l3)] 36 [] [(a_t, .inr (7, [.ref a_t_group, .ref a_t_train, .int t_groups, .ref a_t_best, .ref a_t_better, .ref a_t_course])), (a_t_group, .inl (cI, 8, .inl t_group)), (a_t_train, .inl (cI, 8, .inl t_train)), (a_t_best, .inl (cI, 24, .inl t_best)), (a_t_better, .inl (cI, 24, .inl t_better)), (a_t_course, .inr (2, [.int t_course_first, .int t_course_second, .int t_course_thrown])), (a_p1, .inr (3, [.int p1_players, .int p1_round, .int p1_time, .ref a_p1_kind, .ref a_p1_hand, .ref a_p1_leader, .ref a_p1_course])), (a_p1_kind, .inl (cI, 8, .inl p1_kind))] := by
  intro n
  induction n with
  | zero =>
    intro t_better t_course_first t_course_second t_course_thrown l3 hR
    cases hR
  | succ n ih =>
    intro t_better t_course_first t_course_second t_course_thrown l3 hR
    rw [o_X7_pairGroups_36] at hR
    refine z_iload_n hC dX7_pairGroups_36 rfl 3 rfl ?_
    refine z_aload_n hC dX7_pairGroups_37 rfl 1 rfl ?_
    refine z_get hC iX7_pairGroups_X3 rfl 6 0 rfl (by decide) mX7_pairGroups_3 rfl rfl dX7_pairGroups_38 ?_
    refine z_icmp_ge hC 94 dX7_pairGroups_41 (by decide) hR (fun hR => ?_) (fun hR => ?_)
    · refine z_aload_n hC dX7_pairGroups_94 rfl 0 rfl ?_
      refine z_get hC iX7_pairGroups_X7 rfl 0 0 rfl (by decide) mX7_pairGroups_4 rfl rfl dX7_pairGroups_95 ?_
      refine z_iload_n hC dX7_pairGroups_98 rfl 2 rfl ?_
      refine z_iald hC 1 0 rfl rfl dX7_pairGroups_99 hR (fun hR => ?_)
      refine z_aload_n hC dX7_pairGroups_100 rfl 0 rfl ?_
      refine z_get hC iX7_pairGroups_X7 rfl 0 2 rfl (by decide) mX7_pairGroups_5 rfl rfl dX7_pairGroups_101 ?_
      refine z_ic1 hC dX7_pairGroups_104 ?_
      refine z_isub hC dX7_pairGroups_105 ?_
      refine z_icmp_ne hC 125 dX7_pairGroups_106 (by decide) hR (fun hR => ?_) (fun hR => ?_)
      · refine z_iinc1 hC [(2, .int (l2 + 1)), (0, .ref a_t), (1, .ref a_p1), (3, .int l3)] dX7_pairGroups_125 2 rfl (by decide) rfl ?_
        refine z_goto hC 24 dX7_pairGroups_128 (by decide) ?_
        refine z_sub (lv' := [(0, .ref a_t), (1, .ref a_p1), (2, .int (l2 + 1))]) [1, 2, 0] rfl ?_
        exact hK24 t_better t_course_first t_course_second t_course_thrown (l2 + 1) hR
      · refine z_aload_n hC dX7_pairGroups_109 rfl 0 rfl ?_
        refine z_get hC iX7_pairGroups_X7 rfl 0 0 rfl (by decide) mX7_pairGroups_4 rfl rfl dX7_pairGroups_110 ?_
        refine z_iload_n hC dX7_pairGroups_113 rfl 2 rfl ?_
        refine z_iald hC 1 0 rfl rfl dX7_pairGroups_114 hR (fun hR => ?_)
        refine z_ic2 hC dX7_pairGroups_115 ?_
        refine z_iremK hC dX7_pairGroups_116 (by decide) ?_
        refine z_if_ne hC 125 dX7_pairGroups_117 (by decide) hR (fun hR => ?_) (fun hR => ?_)
        · refine z_iinc1 hC [(2, .int (l2 + 1)), (0, .ref a_t), (1, .ref a_p1), (3, .int l3)] dX7_pairGroups_125 2 rfl (by decide) rfl ?_
          refine z_goto hC 24 dX7_pairGroups_128 (by decide) ?_
          refine z_sub (lv' := [(0, .ref a_t), (1, .ref a_p1), (2, .int (l2 + 1))]) [1, 2, 0] rfl ?_
          exact hK24 t_better t_course_first t_course_second t_course_thrown (l2 + 1) hR
        · refine z_aload_n hC dX7_pairGroups_120 rfl 0 rfl ?_
          refine z_iload_n hC dX7_pairGroups_121 rfl 2 rfl ?_
          refine z_callVv hC hN [.int l2] [0, 3, 4] (c_X7_keepWays (l := zl E) (D := zD E) (cI := cI) (cB := cB) (cZ := cZ) (N := N) (a_t := a_t) (a_t_group := a_t_group) (a_t_train := a_t_train) (a_t_best := a_t_best) (a_t_better := a_t_better) (a_t_course := a_t_course) (l1 := l2) (t_groups := t_groups) (t_best := t_best) (t_better := t_better)) rfl ⟨rfl, rfl⟩ gX7_pairGroups_X7_keepWays hvX7_keepWays 0 7 rfl rfl rfl ⟨Nat.le_of_ble_eq_true rfl, Nat.le_of_ble_eq_true rfl⟩ ⟨Nat.zero_le _, Nat.zero_le _⟩ rfl (Nat.le_of_ble_eq_true rfl) rfl (by decide) (fun _ => rfl) dX7_pairGroups_122 hR (fun r122 hR => ?_)
          refine z_iinc1 hC [(2, .int (l2 + 1)), (0, .ref a_t), (1, .ref a_p1), (3, .int l3)] dX7_pairGroups_125 2 rfl (by decide) rfl ?_
          refine z_goto hC 24 dX7_pairGroups_128 (by decide) ?_
          refine z_sub (lv' := [(0, .ref a_t), (1, .ref a_p1), (2, .int (l2 + 1))]) [1, 2, 0] rfl ?_
          exact hK24 r122 t_course_first t_course_second t_course_thrown (l2 + 1) hR
    · refine z_aload_n hC dX7_pairGroups_44 rfl 0 rfl ?_
      refine z_get hC iX7_pairGroups_X7 rfl 0 0 rfl (by decide) mX7_pairGroups_4 rfl rfl dX7_pairGroups_45 ?_
      refine z_iload_n hC dX7_pairGroups_48 rfl 2 rfl ?_
      refine z_iald hC 1 0 rfl rfl dX7_pairGroups_49 hR (fun hR => ?_)
      refine z_if_lt hC 88 dX7_pairGroups_50 (by decide) hR (fun hR => ?_) (fun hR => ?_)
      · refine z_iinc1 hC [(3, .int (l3 + 1)), (0, .ref a_t), (1, .ref a_p1), (2, .int l2)] dX7_pairGroups_88 3 rfl (by decide) rfl ?_
        refine z_goto hC 36 dX7_pairGroups_91 (by decide) ?_
        refine z_sub (lv' := [(0, .ref a_t), (1, .ref a_p1), (2, .int l2), (3, .int (l3 + 1))]) [1, 2, 3, 0] rfl ?_
        exact ih t_better t_course_first t_course_second t_course_thrown (l3 + 1) hR
      · refine z_aload_n hC dX7_pairGroups_53 rfl 0 rfl ?_
        refine z_get hC iX7_pairGroups_X7 rfl 0 0 rfl (by decide) mX7_pairGroups_4 rfl rfl dX7_pairGroups_54 ?_
        refine z_iload_n hC dX7_pairGroups_57 rfl 2 rfl ?_
        refine z_iald hC 1 0 rfl rfl dX7_pairGroups_58 hR (fun hR => ?_)
        refine z_ic2 hC dX7_pairGroups_59 ?_
        refine z_iremK hC dX7_pairGroups_60 (by decide) ?_
        refine z_if_ne hC 88 dX7_pairGroups_61 (by decide) hR (fun hR => ?_) (fun hR => ?_)
        · refine z_iinc1 hC [(3, .int (l3 + 1)), (0, .ref a_t), (1, .ref a_p1), (2, .int l2)] dX7_pairGroups_88 3 rfl (by decide) rfl ?_
          refine z_goto hC 36 dX7_pairGroups_91 (by decide) ?_
          refine z_sub (lv' := [(0, .ref a_t), (1, .ref a_p1), (2, .int l2), (3, .int (l3 + 1))]) [1, 2, 3, 0] rfl ?_
          exact ih t_better t_course_first t_course_second t_course_thrown (l3 + 1) hR
        · refine z_aload_n hC dX7_pairGroups_64 rfl 0 rfl ?_
          refine z_get hC iX7_pairGroups_X7 rfl 0 0 rfl (by decide) mX7_pairGroups_4 rfl rfl dX7_pairGroups_65 ?_
          refine z_iload_n hC dX7_pairGroups_68 rfl 3 rfl ?_
          refine z_iald hC 1 0 rfl rfl dX7_pairGroups_69 hR (fun hR => ?_)
          refine z_aload_n hC dX7_pairGroups_70 rfl 0 rfl ?_
          refine z_get hC iX7_pairGroups_X7 rfl 0 0 rfl (by decide) mX7_pairGroups_4 rfl rfl dX7_pairGroups_71 ?_
          refine z_iload_n hC dX7_pairGroups_74 rfl 2 rfl ?_
          refine z_iald hC 1 0 rfl rfl dX7_pairGroups_75 hR (fun hR => ?_)
          refine z_ic1 hC dX7_pairGroups_76 ?_
          refine z_iadd hC dX7_pairGroups_77 ?_
          refine z_icmp_ne hC 88 dX7_pairGroups_78 (by decide) hR (fun hR => ?_) (fun hR => ?_)
          · refine z_iinc1 hC [(3, .int (l3 + 1)), (0, .ref a_t), (1, .ref a_p1), (2, .int l2)] dX7_pairGroups_88 3 rfl (by decide) rfl ?_
            refine z_goto hC 36 dX7_pairGroups_91 (by decide) ?_
            refine z_sub (lv' := [(0, .ref a_t), (1, .ref a_p1), (2, .int l2), (3, .int (l3 + 1))]) [1, 2, 3, 0] rfl ?_
            exact ih t_better t_course_first t_course_second t_course_thrown (l3 + 1) hR
          · refine z_aload_n hC dX7_pairGroups_81 rfl 0 rfl ?_
            refine z_aload_n hC dX7_pairGroups_82 rfl 1 rfl ?_
            refine z_iload_n hC dX7_pairGroups_83 rfl 2 rfl ?_
            refine z_iload_n hC dX7_pairGroups_84 rfl 3 rfl ?_
            refine z_callVv hC hN [.ref a_p1, .int l2, .int l3] [0, 1, 2, 3, 4, 5, 6, 7] (c_X7_pairPlayers (l := zl E) (D := zD E) (cI := cI) (cB := cB) (cZ := cZ) (N := N) (a_t := a_t) (a_t_group := a_t_group) (a_t_train := a_t_train) (a_t_best := a_t_best) (a_t_better := a_t_better) (a_t_course := a_t_course) (a_p1 := a_p1) (a_p1_kind := a_p1_kind) (a_p1_hand := a_p1_hand) (a_p1_leader := a_p1_leader) (a_p1_course := a_p1_course) (l2 := l2) (l3 := l3) (t_groups := t_groups) (t_group := t_group) (t_train := t_train) (t_best := t_best) (t_better := t_better) (t_course_first := t_course_first) (t_course_second := t_course_second) (t_course_thrown := t_course_thrown) (p1_players := p1_players) (p1_round := p1_round) (p1_time := p1_time) (p1_kind := p1_kind)) rfl ⟨rfl, rfl⟩ gX7_pairGroups_X7_pairPlayers hvX7_pairPlayers 0 7 rfl rfl rfl ⟨Nat.le_of_ble_eq_true rfl, Nat.le_of_ble_eq_true rfl⟩ ⟨Nat.zero_le _, Nat.zero_le _⟩ rfl (Nat.le_of_ble_eq_true rfl) rfl (by decide) (fun _ => rfl) dX7_pairGroups_85 hR (fun r85 hR => ?_)
            refine z_iinc1 hC [(3, .int (l3 + 1)), (0, .ref a_t), (1, .ref a_p1), (2, .int l2)] dX7_pairGroups_88 3 rfl (by decide) rfl ?_
            refine z_goto hC 36 dX7_pairGroups_91 (by decide) ?_
            refine z_sub (lv' := [(0, .ref a_t), (1, .ref a_p1), (2, .int l2), (3, .int (l3 + 1))]) [1, 2, 3, 0] rfl ?_
            exact ih r85.1 r85.2.1 r85.2.2.1 r85.2.2.2 (l3 + 1) hR
set_option maxHeartbeats 4000000 in
set_option maxRecDepth 100000 in
theorem z_X7_pairGroups_24 {sK sV : Nat → Nat} {E : ZE} {cI cB cZ : ClassId} (hC : ZC E 4 cX7_pairGroups wsX7_pairGroups RX7 rmX7_pairGroups none (zty cI cB cZ)) (hN : ZN sK sV (zA E) (zs E)) {N : Nat} {a_t : Nat} {a_t_group : Nat} {a_t_train : Nat} {a_t_best : Nat} {a_t_better : Nat} {a_t_course : Nat} {a_p1 : Nat} {a_p1_kind : Nat} {a_p1_hand : Nat} {a_p1_leader : Nat} {a_p1_course : Nat} {t_groups : Int32} {t_group : (Nat → Int32)} {t_train : (Nat → Int32)} {t_best : (Nat → Int32)} {p1_players : Int32} {p1_round : Int32} {p1_time : Int32} {p1_kind : (Nat → Int32)} {rf : Int32 × Nat × Nat × (Nat → Int32) × (Nat → Int32) × (Nat → Int32) × (Nat → Int32) × Int32 × Int32 × Int32} (hQ : ZQv E (zty cI cB cZ) [(a_t, .inr (7, [.ref a_t_group, .ref a_t_train, .int rf.1, .ref rf.2.1, .ref rf.2.2.1, .ref a_t_course])), (a_t_group, .inl (cI, 8, .inl rf.2.2.2.1)), (a_t_train, .inl (cI, 8, .inl rf.2.2.2.2.1)), (rf.2.1, .inl (cI, 24, .inl rf.2.2.2.2.2.1)), (rf.2.2.1, .inl (cI, 24, .inl rf.2.2.2.2.2.2.1)), (a_t_course, .inr (2, [.int rf.2.2.2.2.2.2.2.1, .int rf.2.2.2.2.2.2.2.2.1, .int rf.2.2.2.2.2.2.2.2.2])), (a_p1, .inr (3, [.int p1_players, .int p1_round, .int p1_time, .ref a_p1_kind, .ref a_p1_hand, .ref a_p1_leader, .ref a_p1_course])), (a_p1_kind, .inl (cI, 8, .inl p1_kind))]) : ∀ (n : Nat) (t_better : (Nat → Int32)) (t_course_first : Int32) (t_course_second : Int32) (t_course_thrown : Int32) (l2 : Int32), o_X7_pairGroups_24 N a_t_best a_t_better t_groups t_group t_train t_best p1_players p1_kind n t_better t_course_first t_course_second t_course_thrown l2 = some rf → Z E (0, 0) [(0, .ref a_t), (1, .ref a_p1), (2, .int l2)] 24 [] [(a_t, .inr (7, [.ref a_t_group, .ref a_t_train, .int t_groups, .ref a_t_best, .ref a_t_better, .ref a_t_course])), (a_t_group, .inl (cI, 8, .inl t_group)), (a_t_train, .inl (cI, 8, .inl t_train)), (a_t_best, .inl (cI, 24, .inl t_best)), (a_t_better, .inl (cI, 24, .inl t_better)), (a_t_course, .inr (2, [.int t_course_first, .int t_course_second, .int t_course_thrown])), (a_p1, .inr (3, [.int p1_players, .int p1_round, .int p1_time, .ref a_p1_kind, .ref a_p1_hand, .ref a_p1_leader, .ref a_p1_course])), (a_p1_kind, .inl (cI, 8, .inl p1_kind))] := by
  intro n
  induction n with
  | zero =>
    intro t_better t_course_first t_course_second t_course_thrown l2 hR
    cases hR
  | succ n ih =>
    intro t_better t_course_first t_course_second t_course_thrown l2 hR
    rw [o_X7_pairGroups_24] at hR
    refine z_iload_n hC dX7_pairGroups_24 rfl 2 rfl ?_
    refine z_aload_n hC dX7_pairGroups_25 rfl 1 rfl ?_
    refine z_get hC iX7_pairGroups_X3 rfl 6 0 rfl (by decide) mX7_pairGroups_3 rfl rfl dX7_pairGroups_26 ?_
    refine z_icmp_ge hC 131 dX7_pairGroups_29 (by decide) hR (fun hR => ?_) (fun hR => ?_)
    · refine z_aload_n hC dX7_pairGroups_131 rfl 0 rfl ?_
      refine z_get hC iX7_pairGroups_X7 rfl 0 3 rfl (by decide) mX7_pairGroups_6 rfl rfl dX7_pairGroups_132 ?_
      refine z_astore_n hC [(2, .ref a_t_best), (0, .ref a_t), (1, .ref a_p1)] dX7_pairGroups_135 rfl (by decide) rfl ?_
      refine z_aload_n hC dX7_pairGroups_136 rfl 1 rfl ?_
      refine z_aload_n hC dX7_pairGroups_137 rfl 1 rfl ?_
      refine z_get hC iX7_pairGroups_X7 rfl 0 4 rfl (by decide) mX7_pairGroups_1 rfl rfl dX7_pairGroups_138 ?_
      refine z_put hC iX7_pairGroups_X7 tyX7_ok nmX7 rfl 0 3 rfl (by decide) mX7_pairGroups_6 rfl rfl rfl rfl (Nat.le_of_ble_eq_true rfl) dX7_pairGroups_141 ?_
      refine z_aload_n hC dX7_pairGroups_144 rfl 1 rfl ?_
      refine z_aload_n hC dX7_pairGroups_145 rfl 0 rfl ?_
      refine z_put hC iX7_pairGroups_X7 tyX7_ok nmX7 rfl 0 4 rfl (by decide) mX7_pairGroups_1 rfl rfl rfl rfl (Nat.le_of_ble_eq_true rfl) dX7_pairGroups_146 ?_
      refine z_aload_n hC dX7_pairGroups_149 rfl 1 rfl ?_
      refine z_aload_n hC dX7_pairGroups_150 rfl 2 rfl ?_
      refine z_callVv hC hN [.ref a_p1] [0, 1, 2, 6] (c_X7_joinGroups (l := zl E) (D := zD E) (cI := cI) (cB := cB) (cZ := cZ) (N := N) (a_t := a_t) (a_t_group := a_t_group) (a_t_train := a_t_train) (a_t_best := a_t_better) (a_t_better := a_t_best) (a_t_course := a_t_course) (a_p1 := a_p1) (a_p1_kind := a_p1_kind) (a_p1_hand := a_p1_hand) (a_p1_leader := a_p1_leader) (a_p1_course := a_p1_course) (t_groups := t_groups) (t_group := t_group) (t_train := t_train) (p1_players := p1_players) (p1_round := p1_round) (p1_time := p1_time)) rfl ⟨rfl, rfl⟩ gX7_pairGroups_X7_joinGroups hvX7_joinGroups 0 7 rfl rfl rfl ⟨Nat.le_of_ble_eq_true rfl, Nat.le_of_ble_eq_true rfl⟩ ⟨Nat.zero_le _, Nat.zero_le _⟩ rfl (Nat.le_of_ble_eq_true rfl) rfl (by decide) (fun _ => rfl) dX7_pairGroups_151 hR (fun r151 hR => ?_)
      refine z_perm [(a_t, .inr (7, [.ref a_t_group, .ref a_t_train, .int r151.1, .ref a_t_better, .ref a_t_best, .ref a_t_course])), (a_t_group, .inl (cI, 8, .inl r151.2.1)), (a_t_train, .inl (cI, 8, .inl r151.2.2)), (a_t_better, .inl (cI, 24, .inl t_better)), (a_t_best, .inl (cI, 24, .inl t_best)), (a_t_course, .inr (2, [.int t_course_first, .int t_course_second, .int t_course_thrown])), (a_p1, .inr (3, [.int p1_players, .int p1_round, .int p1_time, .ref a_p1_kind, .ref a_p1_hand, .ref a_p1_leader, .ref a_p1_course])), (a_p1_kind, .inl (cI, 8, .inl p1_kind))] [0, 1, 2, 4, 3, 5, 6, 7] rfl (by decide) ?_
      obtain rfl := Option.some.inj hR
      exact z_vret hC hQ rfl dX7_pairGroups_154
    · refine z_iload_n hC dX7_pairGroups_32 rfl 2 rfl ?_
      refine z_ic1 hC dX7_pairGroups_33 ?_
      refine z_iadd hC dX7_pairGroups_34 ?_
      refine z_istore_n hC [(3, .int (l2 + 1)), (0, .ref a_t), (1, .ref a_p1), (2, .int l2)] dX7_pairGroups_35 rfl (by decide) rfl ?_
      refine z_sub (lv' := [(0, .ref a_t), (1, .ref a_p1), (2, .int l2), (3, .int (l2 + 1))]) [1, 2, 3, 0] rfl ?_
      exact z_X7_pairGroups_36 hC hN (N := N) (a_t := a_t) (a_t_group := a_t_group) (a_t_train := a_t_train) (a_t_best := a_t_best) (a_t_better := a_t_better) (a_t_course := a_t_course) (a_p1 := a_p1) (a_p1_kind := a_p1_kind) (a_p1_hand := a_p1_hand) (a_p1_leader := a_p1_leader) (a_p1_course := a_p1_course) (t_groups := t_groups) (t_group := t_group) (t_train := t_train) (t_best := t_best) (p1_players := p1_players) (p1_round := p1_round) (p1_time := p1_time) (p1_kind := p1_kind) (l2 := l2) hQ ih N t_better t_course_first t_course_second t_course_thrown (l2 + 1) hR
set_option maxHeartbeats 4000000 in
set_option maxRecDepth 100000 in
theorem z_X7_pairGroups_2 {sK sV : Nat → Nat} {E : ZE} {cI cB cZ : ClassId} (hC : ZC E 4 cX7_pairGroups wsX7_pairGroups RX7 rmX7_pairGroups none (zty cI cB cZ)) (hN : ZN sK sV (zA E) (zs E)) {N : Nat} {a_t : Nat} {a_t_group : Nat} {a_t_train : Nat} {a_t_best : Nat} {a_t_better : Nat} {a_t_course : Nat} {a_p1 : Nat} {a_p1_kind : Nat} {a_p1_hand : Nat} {a_p1_leader : Nat} {a_p1_course : Nat} {t_groups : Int32} {t_group : (Nat → Int32)} {t_train : (Nat → Int32)} {t_best : (Nat → Int32)} {t_course_first : Int32} {t_course_second : Int32} {t_course_thrown : Int32} {p1_players : Int32} {p1_round : Int32} {p1_time : Int32} {p1_kind : (Nat → Int32)} {rf : Int32 × Nat × Nat × (Nat → Int32) × (Nat → Int32) × (Nat → Int32) × (Nat → Int32) × Int32 × Int32 × Int32} (hQ : ZQv E (zty cI cB cZ) [(a_t, .inr (7, [.ref a_t_group, .ref a_t_train, .int rf.1, .ref rf.2.1, .ref rf.2.2.1, .ref a_t_course])), (a_t_group, .inl (cI, 8, .inl rf.2.2.2.1)), (a_t_train, .inl (cI, 8, .inl rf.2.2.2.2.1)), (rf.2.1, .inl (cI, 24, .inl rf.2.2.2.2.2.1)), (rf.2.2.1, .inl (cI, 24, .inl rf.2.2.2.2.2.2.1)), (a_t_course, .inr (2, [.int rf.2.2.2.2.2.2.2.1, .int rf.2.2.2.2.2.2.2.2.1, .int rf.2.2.2.2.2.2.2.2.2])), (a_p1, .inr (3, [.int p1_players, .int p1_round, .int p1_time, .ref a_p1_kind, .ref a_p1_hand, .ref a_p1_leader, .ref a_p1_course])), (a_p1_kind, .inl (cI, 8, .inl p1_kind))]) : ∀ (n : Nat) (t_better : (Nat → Int32)) (l2 : Int32), o_X7_pairGroups_2 N a_t_best a_t_better t_groups t_group t_train t_best t_course_first t_course_second t_course_thrown p1_players p1_kind n t_better l2 = some rf → Z E (0, 0) [(0, .ref a_t), (1, .ref a_p1), (2, .int l2)] 2 [] [(a_t, .inr (7, [.ref a_t_group, .ref a_t_train, .int t_groups, .ref a_t_best, .ref a_t_better, .ref a_t_course])), (a_t_group, .inl (cI, 8, .inl t_group)), (a_t_train, .inl (cI, 8, .inl t_train)), (a_t_best, .inl (cI, 24, .inl t_best)), (a_t_better, .inl (cI, 24, .inl t_better)), (a_t_course, .inr (2, [.int t_course_first, .int t_course_second, .int t_course_thrown])), (a_p1, .inr (3, [.int p1_players, .int p1_round, .int p1_time, .ref a_p1_kind, .ref a_p1_hand, .ref a_p1_leader, .ref a_p1_course])), (a_p1_kind, .inl (cI, 8, .inl p1_kind))] := by
  intro n
  induction n with
  | zero =>
    intro t_better l2 hR
    cases hR
  | succ n ih =>
    intro t_better l2 hR
    rw [o_X7_pairGroups_2] at hR
    refine z_iload_n hC dX7_pairGroups_2 rfl 2 rfl ?_
    refine z_bipush (v := 24) hC dX7_pairGroups_3 (by decide) ?_
    refine z_icmp_ge hC 22 dX7_pairGroups_5 (by decide) hR (fun hR => ?_) (fun hR => ?_)
    · refine z_ic0 hC dX7_pairGroups_22 ?_
      refine z_istore_n hC [(2, .int 0), (0, .ref a_t), (1, .ref a_p1)] dX7_pairGroups_23 rfl (by decide) rfl ?_
      refine z_sub (lv' := [(0, .ref a_t), (1, .ref a_p1), (2, .int 0)]) [1, 2, 0] rfl ?_
      exact z_X7_pairGroups_24 hC hN (N := N) (a_t := a_t) (a_t_group := a_t_group) (a_t_train := a_t_train) (a_t_best := a_t_best) (a_t_better := a_t_better) (a_t_course := a_t_course) (a_p1 := a_p1) (a_p1_kind := a_p1_kind) (a_p1_hand := a_p1_hand) (a_p1_leader := a_p1_leader) (a_p1_course := a_p1_course) (t_groups := t_groups) (t_group := t_group) (t_train := t_train) (t_best := t_best) (p1_players := p1_players) (p1_round := p1_round) (p1_time := p1_time) (p1_kind := p1_kind) hQ  N t_better t_course_first t_course_second t_course_thrown 0 hR
    · refine z_aload_n hC dX7_pairGroups_8 rfl 0 rfl ?_
      refine z_get hC iX7_pairGroups_X7 rfl 0 4 rfl (by decide) mX7_pairGroups_1 rfl rfl dX7_pairGroups_9 ?_
      refine z_iload_n hC dX7_pairGroups_12 rfl 2 rfl ?_
      refine z_ldc hC 1073741824 mX7_pairGroups_2 dX7_pairGroups_13 ?_
      refine z_iast hC 4 0 rfl rfl dX7_pairGroups_15 hR (fun hR => ?_)
      refine z_iinc1 hC [(2, .int (l2 + 1)), (0, .ref a_t), (1, .ref a_p1)] dX7_pairGroups_16 2 rfl (by decide) rfl ?_
      refine z_goto hC 2 dX7_pairGroups_19 (by decide) ?_
      refine z_sub (lv' := [(0, .ref a_t), (1, .ref a_p1), (2, .int (l2 + 1))]) [1, 2, 0] rfl ?_
      exact ih (upd t_better (Int32.toNatClampNeg l2) 1073741824) (l2 + 1) hR
set_option maxHeartbeats 4000000 in
set_option maxRecDepth 100000 in
theorem z_X7_pairGroups_0 {sK sV : Nat → Nat} {E : ZE} {cI cB cZ : ClassId} (hC : ZC E 4 cX7_pairGroups wsX7_pairGroups RX7 rmX7_pairGroups none (zty cI cB cZ)) (hN : ZN sK sV (zA E) (zs E)) {N : Nat} {a_t : Nat} {a_t_group : Nat} {a_t_train : Nat} {a_t_best : Nat} {a_t_better : Nat} {a_t_course : Nat} {a_p1 : Nat} {a_p1_kind : Nat} {a_p1_hand : Nat} {a_p1_leader : Nat} {a_p1_course : Nat} {t_groups : Int32} {t_group : (Nat → Int32)} {t_train : (Nat → Int32)} {t_best : (Nat → Int32)} {t_better : (Nat → Int32)} {t_course_first : Int32} {t_course_second : Int32} {t_course_thrown : Int32} {p1_players : Int32} {p1_round : Int32} {p1_time : Int32} {p1_kind : (Nat → Int32)} {rf : Int32 × Nat × Nat × (Nat → Int32) × (Nat → Int32) × (Nat → Int32) × (Nat → Int32) × Int32 × Int32 × Int32} (hQ : ZQv E (zty cI cB cZ) [(a_t, .inr (7, [.ref a_t_group, .ref a_t_train, .int rf.1, .ref rf.2.1, .ref rf.2.2.1, .ref a_t_course])), (a_t_group, .inl (cI, 8, .inl rf.2.2.2.1)), (a_t_train, .inl (cI, 8, .inl rf.2.2.2.2.1)), (rf.2.1, .inl (cI, 24, .inl rf.2.2.2.2.2.1)), (rf.2.2.1, .inl (cI, 24, .inl rf.2.2.2.2.2.2.1)), (a_t_course, .inr (2, [.int rf.2.2.2.2.2.2.2.1, .int rf.2.2.2.2.2.2.2.2.1, .int rf.2.2.2.2.2.2.2.2.2])), (a_p1, .inr (3, [.int p1_players, .int p1_round, .int p1_time, .ref a_p1_kind, .ref a_p1_hand, .ref a_p1_leader, .ref a_p1_course])), (a_p1_kind, .inl (cI, 8, .inl p1_kind))]) (hR : o_X7_pairGroups N a_t_best a_t_better t_groups t_group t_train t_best t_better t_course_first t_course_second t_course_thrown p1_players p1_kind = some rf) : Z E (0, 0) [(0, .ref a_t), (1, .ref a_p1)] 0 [] [(a_t, .inr (7, [.ref a_t_group, .ref a_t_train, .int t_groups, .ref a_t_best, .ref a_t_better, .ref a_t_course])), (a_t_group, .inl (cI, 8, .inl t_group)), (a_t_train, .inl (cI, 8, .inl t_train)), (a_t_best, .inl (cI, 24, .inl t_best)), (a_t_better, .inl (cI, 24, .inl t_better)), (a_t_course, .inr (2, [.int t_course_first, .int t_course_second, .int t_course_thrown])), (a_p1, .inr (3, [.int p1_players, .int p1_round, .int p1_time, .ref a_p1_kind, .ref a_p1_hand, .ref a_p1_leader, .ref a_p1_course])), (a_p1_kind, .inl (cI, 8, .inl p1_kind))] := by
  rw [o_X7_pairGroups] at hR
  refine z_ic0 hC dX7_pairGroups_0 ?_
  refine z_istore_n hC [(2, .int 0), (0, .ref a_t), (1, .ref a_p1)] dX7_pairGroups_1 rfl (by decide) rfl ?_
  refine z_sub (lv' := [(0, .ref a_t), (1, .ref a_p1), (2, .int 0)]) [1, 2, 0] rfl ?_
  exact z_X7_pairGroups_2 hC hN (N := N) (a_t := a_t) (a_t_group := a_t_group) (a_t_train := a_t_train) (a_t_best := a_t_best) (a_t_better := a_t_better) (a_t_course := a_t_course) (a_p1 := a_p1) (a_p1_kind := a_p1_kind) (a_p1_hand := a_p1_hand) (a_p1_leader := a_p1_leader) (a_p1_course := a_p1_course) (t_groups := t_groups) (t_group := t_group) (t_train := t_train) (t_best := t_best) (t_course_first := t_course_first) (t_course_second := t_course_second) (t_course_thrown := t_course_thrown) (p1_players := p1_players) (p1_round := p1_round) (p1_time := p1_time) (p1_kind := p1_kind) hQ  N t_better 0 hR
set_option maxHeartbeats 4000000 in
set_option maxRecDepth 100000 in
theorem c_X7_pairGroups {sK sV : Nat → Nat} {l : Launch} {D : va_G} {cI cB cZ : ClassId} {N : Nat} {a_t : Nat} {a_t_group : Nat} {a_t_train : Nat} {a_t_best : Nat} {a_t_better : Nat} {a_t_course : Nat} {a_p1 : Nat} {a_p1_kind : Nat} {a_p1_hand : Nat} {a_p1_leader : Nat} {a_p1_course : Nat} {t_groups : Int32} {t_group : (Nat → Int32)} {t_train : (Nat → Int32)} {t_best : (Nat → Int32)} {t_better : (Nat → Int32)} {t_course_first : Int32} {t_course_second : Int32} {t_course_thrown : Int32} {p1_players : Int32} {p1_round : Int32} {p1_time : Int32} {p1_kind : (Nat → Int32)} : ∀ R : Int32 × Nat × Nat × (Nat → Int32) × (Nat → Int32) × (Nat → Int32) × (Nat → Int32) × Int32 × Int32 × Int32, o_X7_pairGroups N a_t_best a_t_better t_groups t_group t_train t_best t_better t_course_first t_course_second t_course_thrown p1_players p1_kind = some R → ZMv sK sV l yX7_pairGroups wsX7_pairGroups rmX7_pairGroups D (zty cI cB cZ) [.ref a_t, .ref a_p1] [(a_t, .inr (7, [.ref a_t_group, .ref a_t_train, .int t_groups, .ref a_t_best, .ref a_t_better, .ref a_t_course])), (a_t_group, .inl (cI, 8, .inl t_group)), (a_t_train, .inl (cI, 8, .inl t_train)), (a_t_best, .inl (cI, 24, .inl t_best)), (a_t_better, .inl (cI, 24, .inl t_better)), (a_t_course, .inr (2, [.int t_course_first, .int t_course_second, .int t_course_thrown])), (a_p1, .inr (3, [.int p1_players, .int p1_round, .int p1_time, .ref a_p1_kind, .ref a_p1_hand, .ref a_p1_leader, .ref a_p1_course])), (a_p1_kind, .inl (cI, 8, .inl p1_kind))] [(a_t, .inr (7, [.ref a_t_group, .ref a_t_train, .int R.1, .ref R.2.1, .ref R.2.2.1, .ref a_t_course])), (a_t_group, .inl (cI, 8, .inl R.2.2.2.1)), (a_t_train, .inl (cI, 8, .inl R.2.2.2.2.1)), (R.2.1, .inl (cI, 24, .inl R.2.2.2.2.2.1)), (R.2.2.1, .inl (cI, 24, .inl R.2.2.2.2.2.2.1)), (a_t_course, .inr (2, [.int R.2.2.2.2.2.2.2.1, .int R.2.2.2.2.2.2.2.2.1, .int R.2.2.2.2.2.2.2.2.2])), (a_p1, .inr (3, [.int p1_players, .int p1_round, .int p1_time, .ref a_p1_kind, .ref a_p1_hand, .ref a_p1_leader, .ref a_p1_course])), (a_p1_kind, .inl (cI, 8, .inl p1_kind))] := by
  intro R hR
  refine zv_of (cc := cX7_pairGroups) (maxL := 4) (ret := none) (by decide) rfl (Nat.le_of_ble_eq_true rfl) (fun E hE1 hE2 hC hN hQ => ?_)
  subst hE1 hE2
  exact z_X7_pairGroups_0 hC hN (N := N) (a_t := a_t) (a_t_group := a_t_group) (a_t_train := a_t_train) (a_t_best := a_t_best) (a_t_better := a_t_better) (a_t_course := a_t_course) (a_p1 := a_p1) (a_p1_kind := a_p1_kind) (a_p1_hand := a_p1_hand) (a_p1_leader := a_p1_leader) (a_p1_course := a_p1_course) (t_groups := t_groups) (t_group := t_group) (t_train := t_train) (t_best := t_best) (t_better := t_better) (t_course_first := t_course_first) (t_course_second := t_course_second) (t_course_thrown := t_course_thrown) (p1_players := p1_players) (p1_round := p1_round) (p1_time := p1_time) (p1_kind := p1_kind) hQ hR

/-! FistTrains$Ways.bestFor -/
abbrev rmX7_bestFor : Room := { frames := 4, cells := 0, slots := 0, locals := 101 }
set_option maxRecDepth 20000 in
theorem mX7_bestFor_2 : Cond.constant RX7 46 (1073741824) ∈ wsX7_bestFor := List.mem_of_getElem? (i := 2) rfl
set_option maxRecDepth 20000 in
theorem iX7_bestFor_X7 : ∀ w ∈ wsX70, w ∈ wsX7_bestFor := by decide +kernel
set_option maxRecDepth 20000 in
theorem mX7_bestFor_3 : Cond.fieldLink RX7 22 "FistTrains$Ways" "best" "[I" ∈ wsX7_bestFor := List.mem_of_getElem? (i := 3) rfl
set_option maxRecDepth 20000 in
theorem mX7_bestFor_4 : Cond.methodLink RX7 47 Lib.Math.min.name ∈ wsX7_bestFor := List.mem_of_getElem? (i := 4) rfl
set_option maxRecDepth 20000 in
theorem mX7_bestFor_5 : Cond.static Lib.Math.min.name ∈ wsX7_bestFor := List.mem_of_getElem? (i := 5) rfl
set_option maxRecDepth 20000 in
theorem mX7_bestFor_6 : Cond.initialized "java/lang/Math" ∈ wsX7_bestFor := List.mem_of_getElem? (i := 6) rfl
set_option maxRecDepth 20000 in
theorem mX7_bestFor_7 : Cond.code Lib.Math.min.name Lib.Math.min.code 2 (some .int) ∈ wsX7_bestFor := List.mem_of_getElem? (i := 7) rfl
set_option maxRecDepth 20000 in
theorem mX7_bestFor_1 : Cond.fieldLink RX7 18 "FistTrains$Ways" "groups" "I" ∈ wsX7_bestFor := List.mem_of_getElem? (i := 1) rfl
def o_X7_bestFor_38 (N : Nat) (a_t_best : Nat) (a_t_better : Nat) (t_groups : Int32) (t_group : (Nat → Int32)) (t_train : (Nat → Int32)) (t_best : (Nat → Int32)) (t_better : (Nat → Int32)) (t_course_first : Int32) (t_course_second : Int32) (t_course_thrown : Int32) (l2 : Int32) : Nat → Int32 → Int32 → Option (Int32 × Int32 × Nat × Nat × (Nat → Int32) × (Nat → Int32) × (Nat → Int32) × (Nat → Int32) × Int32 × Int32 × Int32)
  | 0 => fun _ _ => none
  | n + 1 => fun l3 l4 => 
    if 3 ≤ l4 then
      some (l3, t_groups, a_t_best, a_t_better, t_group, t_train, t_best, t_better, t_course_first, t_course_second, t_course_thrown)
    else
      ogd (inb ((l2 * 3) + l4) 24) (
      o_X7_bestFor_38 N a_t_best a_t_better t_groups t_group t_train t_best t_better t_course_first t_course_second t_course_thrown l2 n (if (t_best (Int32.toNatClampNeg ((l2 * 3) + l4))) < l3 then (t_best (Int32.toNatClampNeg ((l2 * 3) + l4))) else l3) (l4 + 1))
def o_X7_bestFor_32 (N : Nat) (a_t_best : Nat) (a_t_better : Nat) (t_groups : Int32) (t_group : (Nat → Int32)) (t_train : (Nat → Int32)) (t_best : (Nat → Int32)) (t_better : (Nat → Int32)) (t_course_first : Int32) (t_course_second : Int32) (t_course_thrown : Int32) (l2 : Int32) : Option (Int32 × Int32 × Nat × Nat × (Nat → Int32) × (Nat → Int32) × (Nat → Int32) × (Nat → Int32) × Int32 × Int32 × Int32) :=
  o_X7_bestFor_38 N a_t_best a_t_better t_groups t_group t_train t_best t_better t_course_first t_course_second t_course_thrown l2 N 1073741824 0
def o_X7_bestFor_7 (N : Nat) (p1_players : Int32) (p1_kind : (Nat → Int32)) (l2 : Int32) : Nat → Nat → Nat → Int32 → (Nat → Int32) → (Nat → Int32) → (Nat → Int32) → (Nat → Int32) → Int32 → Int32 → Int32 → Int32 → Option (Int32 × Int32 × Nat × Nat × (Nat → Int32) × (Nat → Int32) × (Nat → Int32) × (Nat → Int32) × Int32 × Int32 × Int32)
  | 0 => fun _ _ _ _ _ _ _ _ _ _ _ => none
  | n + 1 => fun a_t_best a_t_better t_groups t_group t_train t_best t_better t_course_first t_course_second t_course_thrown l3 => 
    if 8 ≤ l3 then
      o_X7_bestFor_32 N a_t_best a_t_better t_groups t_group t_train t_best t_better t_course_first t_course_second t_course_thrown l2
    else
      if t_groups ≤ 1 then
        o_X7_bestFor_32 N a_t_best a_t_better t_groups t_group t_train t_best t_better t_course_first t_course_second t_course_thrown l2
      else
        Option.bind (o_X7_pairGroups N a_t_best a_t_better t_groups t_group t_train t_best t_better t_course_first t_course_second t_course_thrown p1_players p1_kind) (fun r23 =>
        o_X7_bestFor_7 N p1_players p1_kind l2 n r23.2.1 r23.2.2.1 r23.1 r23.2.2.2.1 r23.2.2.2.2.1 r23.2.2.2.2.2.1 r23.2.2.2.2.2.2.1 r23.2.2.2.2.2.2.2.1 r23.2.2.2.2.2.2.2.2.1 r23.2.2.2.2.2.2.2.2.2 (l3 + 1))
def o_X7_bestFor (N : Nat) (a_t_best : Nat) (a_t_better : Nat) (t_group : (Nat → Int32)) (t_train : (Nat → Int32)) (t_best : (Nat → Int32)) (t_better : (Nat → Int32)) (t_course_first : Int32) (t_course_second : Int32) (t_course_thrown : Int32) (p1_players : Int32) (p1_kind : (Nat → Int32)) (p1_hand : (Nat → Int32)) (p1_leader : (Nat → Int32)) (l2 : Int32) : Option (Int32 × Int32 × Nat × Nat × (Nat → Int32) × (Nat → Int32) × (Nat → Int32) × (Nat → Int32) × Int32 × Int32 × Int32) :=
  Option.bind (o_X7_start N t_group t_train t_best p1_players p1_hand p1_leader) (fun r2 =>
  o_X7_bestFor_7 N p1_players p1_kind l2 N a_t_best a_t_better r2.1 r2.2.1 r2.2.2.1 r2.2.2.2 t_better t_course_first t_course_second t_course_thrown 0)
set_option maxHeartbeats 4000000 in
set_option maxRecDepth 100000 in
theorem z_X7_bestFor_38 {sK sV : Nat → Nat} {E : ZE} {cI cB cZ : ClassId} (hC : ZC E 5 cX7_bestFor wsX7_bestFor RX7 rmX7_bestFor (some .int) (zty cI cB cZ)) (hN : ZN sK sV (zA E) (zs E)) {N : Nat} {a_t : Nat} {a_t_group : Nat} {a_t_train : Nat} {a_t_best : Nat} {a_t_better : Nat} {a_t_course : Nat} {a_p1 : Nat} {a_p1_kind : Nat} {a_p1_hand : Nat} {a_p1_leader : Nat} {a_p1_course : Nat} {t_groups : Int32} {t_group : (Nat → Int32)} {t_train : (Nat → Int32)} {t_best : (Nat → Int32)} {t_better : (Nat → Int32)} {t_course_first : Int32} {t_course_second : Int32} {t_course_thrown : Int32} {p1_players : Int32} {p1_round : Int32} {p1_time : Int32} {p1_kind : (Nat → Int32)} {p1_hand : (Nat → Int32)} {p1_leader : (Nat → Int32)} {l2 : Int32} {rf : Int32 × Int32 × Nat × Nat × (Nat → Int32) × (Nat → Int32) × (Nat → Int32) × (Nat → Int32) × Int32 × Int32 × Int32} (hQ : ZQi E (zty cI cB cZ) rf.1 [(a_t, .inr (7, [.ref a_t_group, .ref a_t_train, .int rf.2.1, .ref rf.2.2.1, .ref rf.2.2.2.1, .ref a_t_course])), (a_t_group, .inl (cI, 8, .inl rf.2.2.2.2.1)), (a_t_train, .inl (cI, 8, .inl rf.2.2.2.2.2.1)), (rf.2.2.1, .inl (cI, 24, .inl rf.2.2.2.2.2.2.1)), (rf.2.2.2.1, .inl (cI, 24, .inl rf.2.2.2.2.2.2.2.1)), (a_t_course, .inr (2, [.int rf.2.2.2.2.2.2.2.2.1, .int rf.2.2.2.2.2.2.2.2.2.1, .int rf.2.2.2.2.2.2.2.2.2.2])), (a_p1, .inr (3, [.int p1_players, .int p1_round, .int p1_time, .ref a_p1_kind, .ref a_p1_hand, .ref a_p1_leader, .ref a_p1_course])), (a_p1_kind, .inl (cI, 8, .inl p1_kind)), (a_p1_hand, .inl (cI, 8, .inl p1_hand)), (a_p1_leader, .inl (cI, 8, .inl p1_leader))]) : ∀ (n : Nat) (l3 : Int32) (l4 : Int32), o_X7_bestFor_38 N a_t_best a_t_better t_groups t_group t_train t_best t_better t_course_first t_course_second t_course_thrown l2 n l3 l4 = some rf → Z E (0, 0) [(0, .ref a_t), (2, .int l2), (3, .int l3), (4, .int l4)] 38 [] [(a_t, .inr (7, [.ref a_t_group, .ref a_t_train, .int t_groups, .ref a_t_best, .ref a_t_better, .ref a_t_course])), (a_t_group, .inl (cI, 8, .inl t_group)), (a_t_train, .inl (cI, 8, .inl t_train)), (a_t_best, .inl (cI, 24, .inl t_best)), (a_t_better, .inl (cI, 24, .inl t_better)), (a_t_course, .inr (2, [.int t_course_first, .int t_course_second, .int t_course_thrown])), (a_p1, .inr (3, [.int p1_players, .int p1_round, .int p1_time, .ref a_p1_kind, .ref a_p1_hand, .ref a_p1_leader, .ref a_p1_course])), (a_p1_kind, .inl (cI, 8, .inl p1_kind)), (a_p1_hand, .inl (cI, 8, .inl p1_hand)), (a_p1_leader, .inl (cI, 8, .inl p1_leader))] := by
  intro n
  induction n with
  | zero =>
    intro l3 l4 hR
    cases hR
  | succ n ih =>
    intro l3 l4 hR
    rw [o_X7_bestFor_38] at hR
    refine z_iload hC dX7_bestFor_38 3 rfl ?_
    refine z_ic3 hC dX7_bestFor_40 ?_
    refine z_icmp_ge hC 66 dX7_bestFor_41 (by decide) hR (fun hR => ?_) (fun hR => ?_)
    · refine z_iload_n hC dX7_bestFor_66 rfl 2 rfl ?_
      obtain rfl := Option.some.inj hR
      exact z_iret hC hQ rfl rfl rfl dX7_bestFor_67
    · refine z_iload_n hC dX7_bestFor_44 rfl 2 rfl ?_
      refine z_aload_n hC dX7_bestFor_45 rfl 0 rfl ?_
      refine z_get hC iX7_bestFor_X7 rfl 0 3 rfl (by decide) mX7_bestFor_3 rfl rfl dX7_bestFor_46 ?_
      refine z_iload_n hC dX7_bestFor_49 rfl 1 rfl ?_
      refine z_ic3 hC dX7_bestFor_50 ?_
      refine z_imul hC dX7_bestFor_51 ?_
      refine z_iload hC dX7_bestFor_52 3 rfl ?_
      refine z_iadd hC dX7_bestFor_54 ?_
      refine z_iald hC 3 0 rfl rfl dX7_bestFor_55 hR (fun hR => ?_)
      refine z_mmin hC mX7_bestFor_4 mX7_bestFor_5 mX7_bestFor_6 mX7_bestFor_7 (Nat.le_of_ble_eq_true rfl) (Nat.le_of_ble_eq_true rfl) ⟨Nat.zero_le _, Nat.zero_le _⟩ dX7_bestFor_56 ?_
      refine z_istore_n hC [(3, .int (if (t_best (Int32.toNatClampNeg ((l2 * 3) + l4))) < l3 then (t_best (Int32.toNatClampNeg ((l2 * 3) + l4))) else l3)), (0, .ref a_t), (2, .int l2), (4, .int l4)] dX7_bestFor_59 rfl (by decide) rfl ?_
      refine z_iinc1 hC [(4, .int (l4 + 1)), (3, .int (if (t_best (Int32.toNatClampNeg ((l2 * 3) + l4))) < l3 then (t_best (Int32.toNatClampNeg ((l2 * 3) + l4))) else l3)), (0, .ref a_t), (2, .int l2)] dX7_bestFor_60 3 rfl (by decide) rfl ?_
      refine z_goto hC 38 dX7_bestFor_63 (by decide) ?_
      refine z_sub (lv' := [(0, .ref a_t), (2, .int l2), (3, .int (if (t_best (Int32.toNatClampNeg ((l2 * 3) + l4))) < l3 then (t_best (Int32.toNatClampNeg ((l2 * 3) + l4))) else l3)), (4, .int (l4 + 1))]) [2, 3, 1, 0] rfl ?_
      exact ih (if (t_best (Int32.toNatClampNeg ((l2 * 3) + l4))) < l3 then (t_best (Int32.toNatClampNeg ((l2 * 3) + l4))) else l3) (l4 + 1) hR
set_option maxHeartbeats 4000000 in
set_option maxRecDepth 100000 in
theorem z_X7_bestFor_32 {sK sV : Nat → Nat} {E : ZE} {cI cB cZ : ClassId} (hC : ZC E 5 cX7_bestFor wsX7_bestFor RX7 rmX7_bestFor (some .int) (zty cI cB cZ)) (hN : ZN sK sV (zA E) (zs E)) {N : Nat} {a_t : Nat} {a_t_group : Nat} {a_t_train : Nat} {a_t_best : Nat} {a_t_better : Nat} {a_t_course : Nat} {a_p1 : Nat} {a_p1_kind : Nat} {a_p1_hand : Nat} {a_p1_leader : Nat} {a_p1_course : Nat} {t_groups : Int32} {t_group : (Nat → Int32)} {t_train : (Nat → Int32)} {t_best : (Nat → Int32)} {t_better : (Nat → Int32)} {t_course_first : Int32} {t_course_second : Int32} {t_course_thrown : Int32} {p1_players : Int32} {p1_round : Int32} {p1_time : Int32} {p1_kind : (Nat → Int32)} {p1_hand : (Nat → Int32)} {p1_leader : (Nat → Int32)} {l2 : Int32} {rf : Int32 × Int32 × Nat × Nat × (Nat → Int32) × (Nat → Int32) × (Nat → Int32) × (Nat → Int32) × Int32 × Int32 × Int32} (hQ : ZQi E (zty cI cB cZ) rf.1 [(a_t, .inr (7, [.ref a_t_group, .ref a_t_train, .int rf.2.1, .ref rf.2.2.1, .ref rf.2.2.2.1, .ref a_t_course])), (a_t_group, .inl (cI, 8, .inl rf.2.2.2.2.1)), (a_t_train, .inl (cI, 8, .inl rf.2.2.2.2.2.1)), (rf.2.2.1, .inl (cI, 24, .inl rf.2.2.2.2.2.2.1)), (rf.2.2.2.1, .inl (cI, 24, .inl rf.2.2.2.2.2.2.2.1)), (a_t_course, .inr (2, [.int rf.2.2.2.2.2.2.2.2.1, .int rf.2.2.2.2.2.2.2.2.2.1, .int rf.2.2.2.2.2.2.2.2.2.2])), (a_p1, .inr (3, [.int p1_players, .int p1_round, .int p1_time, .ref a_p1_kind, .ref a_p1_hand, .ref a_p1_leader, .ref a_p1_course])), (a_p1_kind, .inl (cI, 8, .inl p1_kind)), (a_p1_hand, .inl (cI, 8, .inl p1_hand)), (a_p1_leader, .inl (cI, 8, .inl p1_leader))]) (hR : o_X7_bestFor_32 N a_t_best a_t_better t_groups t_group t_train t_best t_better t_course_first t_course_second t_course_thrown l2 = some rf) : Z E (0, 0) [(0, .ref a_t), (2, .int l2)] 32 [] [(a_t, .inr (7, [.ref a_t_group, .ref a_t_train, .int t_groups, .ref a_t_best, .ref a_t_better, .ref a_t_course])), (a_t_group, .inl (cI, 8, .inl t_group)), (a_t_train, .inl (cI, 8, .inl t_train)), (a_t_best, .inl (cI, 24, .inl t_best)), (a_t_better, .inl (cI, 24, .inl t_better)), (a_t_course, .inr (2, [.int t_course_first, .int t_course_second, .int t_course_thrown])), (a_p1, .inr (3, [.int p1_players, .int p1_round, .int p1_time, .ref a_p1_kind, .ref a_p1_hand, .ref a_p1_leader, .ref a_p1_course])), (a_p1_kind, .inl (cI, 8, .inl p1_kind)), (a_p1_hand, .inl (cI, 8, .inl p1_hand)), (a_p1_leader, .inl (cI, 8, .inl p1_leader))] := by
  rw [o_X7_bestFor_32] at hR
  refine z_ldc hC 1073741824 mX7_bestFor_2 dX7_bestFor_32 ?_
  refine z_istore_n hC [(3, .int 1073741824), (0, .ref a_t), (2, .int l2)] dX7_bestFor_34 rfl (by decide) rfl ?_
  refine z_ic0 hC dX7_bestFor_35 ?_
  refine z_istore hC [(4, .int 0), (3, .int 1073741824), (0, .ref a_t), (2, .int l2)] dX7_bestFor_36 (by decide) rfl ?_
  refine z_sub (lv' := [(0, .ref a_t), (2, .int l2), (3, .int 1073741824), (4, .int 0)]) [2, 3, 1, 0] rfl ?_
  exact z_X7_bestFor_38 hC hN (N := N) (a_t := a_t) (a_t_group := a_t_group) (a_t_train := a_t_train) (a_t_best := a_t_best) (a_t_better := a_t_better) (a_t_course := a_t_course) (a_p1 := a_p1) (a_p1_kind := a_p1_kind) (a_p1_hand := a_p1_hand) (a_p1_leader := a_p1_leader) (a_p1_course := a_p1_course) (t_groups := t_groups) (t_group := t_group) (t_train := t_train) (t_best := t_best) (t_better := t_better) (t_course_first := t_course_first) (t_course_second := t_course_second) (t_course_thrown := t_course_thrown) (p1_players := p1_players) (p1_round := p1_round) (p1_time := p1_time) (p1_kind := p1_kind) (p1_hand := p1_hand) (p1_leader := p1_leader) (l2 := l2) hQ  N 1073741824 0 hR
set_option maxHeartbeats 4000000 in
set_option maxRecDepth 100000 in
theorem z_X7_bestFor_7 {sK sV : Nat → Nat} {E : ZE} {cI cB cZ : ClassId} (hC : ZC E 5 cX7_bestFor wsX7_bestFor RX7 rmX7_bestFor (some .int) (zty cI cB cZ)) (hN : ZN sK sV (zA E) (zs E)) {N : Nat} {a_t : Nat} {a_t_group : Nat} {a_t_train : Nat} {a_t_course : Nat} {a_p1 : Nat} {a_p1_kind : Nat} {a_p1_hand : Nat} {a_p1_leader : Nat} {a_p1_course : Nat} {p1_players : Int32} {p1_round : Int32} {p1_time : Int32} {p1_kind : (Nat → Int32)} {p1_hand : (Nat → Int32)} {p1_leader : (Nat → Int32)} {l2 : Int32} {rf : Int32 × Int32 × Nat × Nat × (Nat → Int32) × (Nat → Int32) × (Nat → Int32) × (Nat → Int32) × Int32 × Int32 × Int32} (hQ : ZQi E (zty cI cB cZ) rf.1 [(a_t, .inr (7, [.ref a_t_group, .ref a_t_train, .int rf.2.1, .ref rf.2.2.1, .ref rf.2.2.2.1, .ref a_t_course])), (a_t_group, .inl (cI, 8, .inl rf.2.2.2.2.1)), (a_t_train, .inl (cI, 8, .inl rf.2.2.2.2.2.1)), (rf.2.2.1, .inl (cI, 24, .inl rf.2.2.2.2.2.2.1)), (rf.2.2.2.1, .inl (cI, 24, .inl rf.2.2.2.2.2.2.2.1)), (a_t_course, .inr (2, [.int rf.2.2.2.2.2.2.2.2.1, .int rf.2.2.2.2.2.2.2.2.2.1, .int rf.2.2.2.2.2.2.2.2.2.2])), (a_p1, .inr (3, [.int p1_players, .int p1_round, .int p1_time, .ref a_p1_kind, .ref a_p1_hand, .ref a_p1_leader, .ref a_p1_course])), (a_p1_kind, .inl (cI, 8, .inl p1_kind)), (a_p1_hand, .inl (cI, 8, .inl p1_hand)), (a_p1_leader, .inl (cI, 8, .inl p1_leader))]) : ∀ (n : Nat) (a_t_best : Nat) (a_t_better : Nat) (t_groups : Int32) (t_group : (Nat → Int32)) (t_train : (Nat → Int32)) (t_best : (Nat → Int32)) (t_better : (Nat → Int32)) (t_course_first : Int32) (t_course_second : Int32) (t_course_thrown : Int32) (l3 : Int32), o_X7_bestFor_7 N p1_players p1_kind l2 n a_t_best a_t_better t_groups t_group t_train t_best t_better t_course_first t_course_second t_course_thrown l3 = some rf → Z E (0, 0) [(0, .ref a_t), (1, .ref a_p1), (2, .int l2), (3, .int l3)] 7 [] [(a_t, .inr (7, [.ref a_t_group, .ref a_t_train, .int t_groups, .ref a_t_best, .ref a_t_better, .ref a_t_course])), (a_t_group, .inl (cI, 8, .inl t_group)), (a_t_train, .inl (cI, 8, .inl t_train)), (a_t_best, .inl (cI, 24, .inl t_best)), (a_t_better, .inl (cI, 24, .inl t_better)), (a_t_course, .inr (2, [.int t_course_first, .int t_course_second, .int t_course_thrown])), (a_p1, .inr (3, [.int p1_players, .int p1_round, .int p1_time, .ref a_p1_kind, .ref a_p1_hand, .ref a_p1_leader, .ref a_p1_course])), (a_p1_kind, .inl (cI, 8, .inl p1_kind)), (a_p1_hand, .inl (cI, 8, .inl p1_hand)), (a_p1_leader, .inl (cI, 8, .inl p1_leader))] := by
  intro n
  induction n with
  | zero =>
    intro a_t_best a_t_better t_groups t_group t_train t_best t_better t_course_first t_course_second t_course_thrown l3 hR
    cases hR
  | succ n ih =>
    intro a_t_best a_t_better t_groups t_group t_train t_best t_better t_course_first t_course_second t_course_thrown l3 hR
    rw [o_X7_bestFor_7] at hR
    refine z_iload_n hC dX7_bestFor_7 rfl 3 rfl ?_
    refine z_bipush (v := 8) hC dX7_bestFor_8 (by decide) ?_
    refine z_icmp_ge hC 32 dX7_bestFor_10 (by decide) hR (fun hR => ?_) (fun hR => ?_)
    · refine z_sub (lv' := [(0, .ref a_t), (2, .int l2)]) [0, 2] rfl ?_
      exact z_X7_bestFor_32 hC hN (N := N) (a_t := a_t) (a_t_group := a_t_group) (a_t_train := a_t_train) (a_t_best := a_t_best) (a_t_better := a_t_better) (a_t_course := a_t_course) (a_p1 := a_p1) (a_p1_kind := a_p1_kind) (a_p1_hand := a_p1_hand) (a_p1_leader := a_p1_leader) (a_p1_course := a_p1_course) (t_groups := t_groups) (t_group := t_group) (t_train := t_train) (t_best := t_best) (t_better := t_better) (t_course_first := t_course_first) (t_course_second := t_course_second) (t_course_thrown := t_course_thrown) (p1_players := p1_players) (p1_round := p1_round) (p1_time := p1_time) (p1_kind := p1_kind) (p1_hand := p1_hand) (p1_leader := p1_leader) (l2 := l2) hQ  hR
    · refine z_aload_n hC dX7_bestFor_13 rfl 0 rfl ?_
      refine z_get hC iX7_bestFor_X7 rfl 0 2 rfl (by decide) mX7_bestFor_1 rfl rfl dX7_bestFor_14 ?_
      refine z_ic1 hC dX7_bestFor_17 ?_
      refine z_icmp_le hC 32 dX7_bestFor_18 (by decide) hR (fun hR => ?_) (fun hR => ?_)
      · refine z_sub (lv' := [(0, .ref a_t), (2, .int l2)]) [0, 2] rfl ?_
        exact z_X7_bestFor_32 hC hN (N := N) (a_t := a_t) (a_t_group := a_t_group) (a_t_train := a_t_train) (a_t_best := a_t_best) (a_t_better := a_t_better) (a_t_course := a_t_course) (a_p1 := a_p1) (a_p1_kind := a_p1_kind) (a_p1_hand := a_p1_hand) (a_p1_leader := a_p1_leader) (a_p1_course := a_p1_course) (t_groups := t_groups) (t_group := t_group) (t_train := t_train) (t_best := t_best) (t_better := t_better) (t_course_first := t_course_first) (t_course_second := t_course_second) (t_course_thrown := t_course_thrown) (p1_players := p1_players) (p1_round := p1_round) (p1_time := p1_time) (p1_kind := p1_kind) (p1_hand := p1_hand) (p1_leader := p1_leader) (l2 := l2) hQ  hR
      · refine z_aload_n hC dX7_bestFor_21 rfl 0 rfl ?_
        refine z_aload_n hC dX7_bestFor_22 rfl 1 rfl ?_
        refine z_callVv hC hN [.ref a_p1] [0, 1, 2, 3, 4, 5, 6, 7] (c_X7_pairGroups (l := zl E) (D := zD E) (cI := cI) (cB := cB) (cZ := cZ) (N := N) (a_t := a_t) (a_t_group := a_t_group) (a_t_train := a_t_train) (a_t_best := a_t_best) (a_t_better := a_t_better) (a_t_course := a_t_course) (a_p1 := a_p1) (a_p1_kind := a_p1_kind) (a_p1_hand := a_p1_hand) (a_p1_leader := a_p1_leader) (a_p1_course := a_p1_course) (t_groups := t_groups) (t_group := t_group) (t_train := t_train) (t_best := t_best) (t_better := t_better) (t_course_first := t_course_first) (t_course_second := t_course_second) (t_course_thrown := t_course_thrown) (p1_players := p1_players) (p1_round := p1_round) (p1_time := p1_time) (p1_kind := p1_kind)) rfl ⟨rfl, rfl⟩ gX7_bestFor_X7_pairGroups hvX7_pairGroups 0 7 rfl rfl rfl ⟨Nat.le_of_ble_eq_true rfl, Nat.le_of_ble_eq_true rfl⟩ ⟨Nat.zero_le _, Nat.zero_le _⟩ rfl (Nat.le_of_ble_eq_true rfl) rfl (by decide) (fun _ => rfl) dX7_bestFor_23 hR (fun r23 hR => ?_)
        refine z_iinc1 hC [(3, .int (l3 + 1)), (0, .ref a_t), (1, .ref a_p1), (2, .int l2)] dX7_bestFor_26 3 rfl (by decide) rfl ?_
        refine z_goto hC 7 dX7_bestFor_29 (by decide) ?_
        refine z_sub (lv' := [(0, .ref a_t), (1, .ref a_p1), (2, .int l2), (3, .int (l3 + 1))]) [1, 2, 3, 0] rfl ?_
        exact ih r23.2.1 r23.2.2.1 r23.1 r23.2.2.2.1 r23.2.2.2.2.1 r23.2.2.2.2.2.1 r23.2.2.2.2.2.2.1 r23.2.2.2.2.2.2.2.1 r23.2.2.2.2.2.2.2.2.1 r23.2.2.2.2.2.2.2.2.2 (l3 + 1) hR
set_option maxHeartbeats 4000000 in
set_option maxRecDepth 100000 in
theorem z_X7_bestFor_0 {sK sV : Nat → Nat} {E : ZE} {cI cB cZ : ClassId} (hC : ZC E 5 cX7_bestFor wsX7_bestFor RX7 rmX7_bestFor (some .int) (zty cI cB cZ)) (hN : ZN sK sV (zA E) (zs E)) {N : Nat} {a_t : Nat} {a_t_group : Nat} {a_t_train : Nat} {a_t_best : Nat} {a_t_better : Nat} {a_t_course : Nat} {a_p1 : Nat} {a_p1_kind : Nat} {a_p1_hand : Nat} {a_p1_leader : Nat} {a_p1_course : Nat} {t_groups : Int32} {t_group : (Nat → Int32)} {t_train : (Nat → Int32)} {t_best : (Nat → Int32)} {t_better : (Nat → Int32)} {t_course_first : Int32} {t_course_second : Int32} {t_course_thrown : Int32} {p1_players : Int32} {p1_round : Int32} {p1_time : Int32} {p1_kind : (Nat → Int32)} {p1_hand : (Nat → Int32)} {p1_leader : (Nat → Int32)} {l2 : Int32} {rf : Int32 × Int32 × Nat × Nat × (Nat → Int32) × (Nat → Int32) × (Nat → Int32) × (Nat → Int32) × Int32 × Int32 × Int32} (hQ : ZQi E (zty cI cB cZ) rf.1 [(a_t, .inr (7, [.ref a_t_group, .ref a_t_train, .int rf.2.1, .ref rf.2.2.1, .ref rf.2.2.2.1, .ref a_t_course])), (a_t_group, .inl (cI, 8, .inl rf.2.2.2.2.1)), (a_t_train, .inl (cI, 8, .inl rf.2.2.2.2.2.1)), (rf.2.2.1, .inl (cI, 24, .inl rf.2.2.2.2.2.2.1)), (rf.2.2.2.1, .inl (cI, 24, .inl rf.2.2.2.2.2.2.2.1)), (a_t_course, .inr (2, [.int rf.2.2.2.2.2.2.2.2.1, .int rf.2.2.2.2.2.2.2.2.2.1, .int rf.2.2.2.2.2.2.2.2.2.2])), (a_p1, .inr (3, [.int p1_players, .int p1_round, .int p1_time, .ref a_p1_kind, .ref a_p1_hand, .ref a_p1_leader, .ref a_p1_course])), (a_p1_kind, .inl (cI, 8, .inl p1_kind)), (a_p1_hand, .inl (cI, 8, .inl p1_hand)), (a_p1_leader, .inl (cI, 8, .inl p1_leader))]) (hR : o_X7_bestFor N a_t_best a_t_better t_group t_train t_best t_better t_course_first t_course_second t_course_thrown p1_players p1_kind p1_hand p1_leader l2 = some rf) : Z E (0, 0) [(0, .ref a_t), (1, .ref a_p1), (2, .int l2)] 0 [] [(a_t, .inr (7, [.ref a_t_group, .ref a_t_train, .int t_groups, .ref a_t_best, .ref a_t_better, .ref a_t_course])), (a_t_group, .inl (cI, 8, .inl t_group)), (a_t_train, .inl (cI, 8, .inl t_train)), (a_t_best, .inl (cI, 24, .inl t_best)), (a_t_better, .inl (cI, 24, .inl t_better)), (a_t_course, .inr (2, [.int t_course_first, .int t_course_second, .int t_course_thrown])), (a_p1, .inr (3, [.int p1_players, .int p1_round, .int p1_time, .ref a_p1_kind, .ref a_p1_hand, .ref a_p1_leader, .ref a_p1_course])), (a_p1_kind, .inl (cI, 8, .inl p1_kind)), (a_p1_hand, .inl (cI, 8, .inl p1_hand)), (a_p1_leader, .inl (cI, 8, .inl p1_leader))] := by
  rw [o_X7_bestFor] at hR
  refine z_aload_n hC dX7_bestFor_0 rfl 0 rfl ?_
  refine z_aload_n hC dX7_bestFor_1 rfl 1 rfl ?_
  refine z_callVv hC hN [.ref a_p1] [0, 1, 2, 3, 6, 8, 9] (c_X7_start (l := zl E) (D := zD E) (cI := cI) (cB := cB) (cZ := cZ) (N := N) (a_t := a_t) (a_t_group := a_t_group) (a_t_train := a_t_train) (a_t_best := a_t_best) (a_t_better := a_t_better) (a_t_course := a_t_course) (a_p1 := a_p1) (a_p1_kind := a_p1_kind) (a_p1_hand := a_p1_hand) (a_p1_leader := a_p1_leader) (a_p1_course := a_p1_course) (t_groups := t_groups) (t_group := t_group) (t_train := t_train) (t_best := t_best) (p1_players := p1_players) (p1_round := p1_round) (p1_time := p1_time) (p1_hand := p1_hand) (p1_leader := p1_leader)) rfl ⟨rfl, rfl⟩ gX7_bestFor_X7_start hvX7_start 0 7 rfl rfl rfl ⟨Nat.le_of_ble_eq_true rfl, Nat.le_of_ble_eq_true rfl⟩ ⟨Nat.zero_le _, Nat.zero_le _⟩ rfl (Nat.le_of_ble_eq_true rfl) rfl (by decide) (fun _ => rfl) dX7_bestFor_2 hR (fun r2 hR => ?_)
  refine z_ic0 hC dX7_bestFor_5 ?_
  refine z_istore_n hC [(3, .int 0), (0, .ref a_t), (1, .ref a_p1), (2, .int l2)] dX7_bestFor_6 rfl (by decide) rfl ?_
  refine z_sub (lv' := [(0, .ref a_t), (1, .ref a_p1), (2, .int l2), (3, .int 0)]) [1, 2, 3, 0] rfl ?_
  exact z_X7_bestFor_7 hC hN (N := N) (a_t := a_t) (a_t_group := a_t_group) (a_t_train := a_t_train) (a_t_course := a_t_course) (a_p1 := a_p1) (a_p1_kind := a_p1_kind) (a_p1_hand := a_p1_hand) (a_p1_leader := a_p1_leader) (a_p1_course := a_p1_course) (p1_players := p1_players) (p1_round := p1_round) (p1_time := p1_time) (p1_kind := p1_kind) (p1_hand := p1_hand) (p1_leader := p1_leader) (l2 := l2) hQ  N a_t_best a_t_better r2.1 r2.2.1 r2.2.2.1 r2.2.2.2 t_better t_course_first t_course_second t_course_thrown 0 hR
set_option maxHeartbeats 4000000 in
set_option maxRecDepth 100000 in
theorem c_X7_bestFor {sK sV : Nat → Nat} {l : Launch} {D : va_G} {cI cB cZ : ClassId} {N : Nat} {a_t : Nat} {a_t_group : Nat} {a_t_train : Nat} {a_t_best : Nat} {a_t_better : Nat} {a_t_course : Nat} {a_p1 : Nat} {a_p1_kind : Nat} {a_p1_hand : Nat} {a_p1_leader : Nat} {a_p1_course : Nat} {t_groups : Int32} {t_group : (Nat → Int32)} {t_train : (Nat → Int32)} {t_best : (Nat → Int32)} {t_better : (Nat → Int32)} {t_course_first : Int32} {t_course_second : Int32} {t_course_thrown : Int32} {p1_players : Int32} {p1_round : Int32} {p1_time : Int32} {p1_kind : (Nat → Int32)} {p1_hand : (Nat → Int32)} {p1_leader : (Nat → Int32)} {l2 : Int32} : ∀ R : Int32 × Int32 × Nat × Nat × (Nat → Int32) × (Nat → Int32) × (Nat → Int32) × (Nat → Int32) × Int32 × Int32 × Int32, o_X7_bestFor N a_t_best a_t_better t_group t_train t_best t_better t_course_first t_course_second t_course_thrown p1_players p1_kind p1_hand p1_leader l2 = some R → ZMi sK sV l yX7_bestFor wsX7_bestFor rmX7_bestFor D (zty cI cB cZ) [.ref a_t, .ref a_p1, .int l2] [(a_t, .inr (7, [.ref a_t_group, .ref a_t_train, .int t_groups, .ref a_t_best, .ref a_t_better, .ref a_t_course])), (a_t_group, .inl (cI, 8, .inl t_group)), (a_t_train, .inl (cI, 8, .inl t_train)), (a_t_best, .inl (cI, 24, .inl t_best)), (a_t_better, .inl (cI, 24, .inl t_better)), (a_t_course, .inr (2, [.int t_course_first, .int t_course_second, .int t_course_thrown])), (a_p1, .inr (3, [.int p1_players, .int p1_round, .int p1_time, .ref a_p1_kind, .ref a_p1_hand, .ref a_p1_leader, .ref a_p1_course])), (a_p1_kind, .inl (cI, 8, .inl p1_kind)), (a_p1_hand, .inl (cI, 8, .inl p1_hand)), (a_p1_leader, .inl (cI, 8, .inl p1_leader))] R.1 [(a_t, .inr (7, [.ref a_t_group, .ref a_t_train, .int R.2.1, .ref R.2.2.1, .ref R.2.2.2.1, .ref a_t_course])), (a_t_group, .inl (cI, 8, .inl R.2.2.2.2.1)), (a_t_train, .inl (cI, 8, .inl R.2.2.2.2.2.1)), (R.2.2.1, .inl (cI, 24, .inl R.2.2.2.2.2.2.1)), (R.2.2.2.1, .inl (cI, 24, .inl R.2.2.2.2.2.2.2.1)), (a_t_course, .inr (2, [.int R.2.2.2.2.2.2.2.2.1, .int R.2.2.2.2.2.2.2.2.2.1, .int R.2.2.2.2.2.2.2.2.2.2])), (a_p1, .inr (3, [.int p1_players, .int p1_round, .int p1_time, .ref a_p1_kind, .ref a_p1_hand, .ref a_p1_leader, .ref a_p1_course])), (a_p1_kind, .inl (cI, 8, .inl p1_kind)), (a_p1_hand, .inl (cI, 8, .inl p1_hand)), (a_p1_leader, .inl (cI, 8, .inl p1_leader))] := by
  intro R hR
  refine zi_of (cc := cX7_bestFor) (maxL := 5) (ret := (some .int)) (by decide) rfl (Nat.le_of_ble_eq_true rfl) (fun E hE1 hE2 hC hN hQ => ?_)
  subst hE1 hE2
  exact z_X7_bestFor_0 hC hN (N := N) (a_t := a_t) (a_t_group := a_t_group) (a_t_train := a_t_train) (a_t_best := a_t_best) (a_t_better := a_t_better) (a_t_course := a_t_course) (a_p1 := a_p1) (a_p1_kind := a_p1_kind) (a_p1_hand := a_p1_hand) (a_p1_leader := a_p1_leader) (a_p1_course := a_p1_course) (t_groups := t_groups) (t_group := t_group) (t_train := t_train) (t_best := t_best) (t_better := t_better) (t_course_first := t_course_first) (t_course_second := t_course_second) (t_course_thrown := t_course_thrown) (p1_players := p1_players) (p1_round := p1_round) (p1_time := p1_time) (p1_kind := p1_kind) (p1_hand := p1_hand) (p1_leader := p1_leader) (l2 := l2) hQ hR

/-! FistTrains$Ways.othersOf -/
abbrev rmX7_othersOf : Room := { frames := 0, cells := 0, slots := 0, locals := 0 }
def o_X7_othersOf (N : Nat) (l0 : Int32) : Option (Int32) :=
  some ((l0 >>> (16 &&& 31)))
set_option maxHeartbeats 4000000 in
set_option maxRecDepth 100000 in
theorem z_X7_othersOf_0 {sK sV : Nat → Nat} {E : ZE} {cI cB cZ : ClassId} (hC : ZC E 1 cX7_othersOf wsX7_othersOf RX7 rmX7_othersOf (some .int) (zty cI cB cZ)) (hN : ZN sK sV (zA E) (zs E)) {N : Nat} {l0 : Int32} {rf : Int32} (hQ : ZQi E (zty cI cB cZ) rf []) (hR : o_X7_othersOf N l0 = some rf) : Z E (0, 0) [(0, .int l0)] 0 [] [] := by
  rw [o_X7_othersOf] at hR
  refine z_iload_n hC dX7_othersOf_0 rfl 0 rfl ?_
  refine z_bipush (v := 16) hC dX7_othersOf_1 (by decide) ?_
  refine z_ishr hC dX7_othersOf_3 ?_
  obtain rfl := Option.some.inj hR
  exact z_iret hC hQ rfl rfl rfl dX7_othersOf_4
set_option maxHeartbeats 4000000 in
set_option maxRecDepth 100000 in
theorem c_X7_othersOf {sK sV : Nat → Nat} {l : Launch} {D : va_G} {cI cB cZ : ClassId} {N : Nat} {l0 : Int32} : ∀ R : Int32, o_X7_othersOf N l0 = some R → ZMi sK sV l yX7_othersOf wsX7_othersOf rmX7_othersOf D (zty cI cB cZ) [.int l0] [] R [] := by
  intro R hR
  refine zi_of (cc := cX7_othersOf) (maxL := 1) (ret := (some .int)) (by decide) rfl (Nat.le_of_ble_eq_true rfl) (fun E hE1 hE2 hC hN hQ => ?_)
  subst hE1 hE2
  exact z_X7_othersOf_0 hC hN (N := N) (l0 := l0) hQ hR

/-! FistTrains$Ways.handIn -/
abbrev rmX7_handIn : Room := { frames := 1, cells := 0, slots := 0, locals := 20 }
def o_X7_handIn (N : Nat) (l0 : Int32) (l1 : Int32) : Option (Int32) :=
  Option.bind (o_X7_shiftOf N l1) (fun r2 =>
  some (((l0 >>> (r2 &&& 31)) &&& 3)))
set_option maxHeartbeats 4000000 in
set_option maxRecDepth 100000 in
theorem z_X7_handIn_0 {sK sV : Nat → Nat} {E : ZE} {cI cB cZ : ClassId} (hC : ZC E 2 cX7_handIn wsX7_handIn RX7 rmX7_handIn (some .int) (zty cI cB cZ)) (hN : ZN sK sV (zA E) (zs E)) {N : Nat} {l0 : Int32} {l1 : Int32} {rf : Int32} (hQ : ZQi E (zty cI cB cZ) rf []) (hR : o_X7_handIn N l0 l1 = some rf) : Z E (0, 0) [(0, .int l0), (1, .int l1)] 0 [] [] := by
  rw [o_X7_handIn] at hR
  refine z_iload_n hC dX7_handIn_0 rfl 0 rfl ?_
  refine z_iload_n hC dX7_handIn_1 rfl 1 rfl ?_
  refine z_callSi_p hC hN [.int l1] [] (c_X7_shiftOf (l := zl E) (D := zD E) (cI := cI) (cB := cB) (cZ := cZ) (N := N) (l0 := l1)) rfl ⟨rfl, rfl⟩ gX7_handIn_X7_shiftOf hsX7_shiftOf ⟨Nat.le_of_ble_eq_true rfl, Nat.le_of_ble_eq_true rfl⟩ ⟨Nat.zero_le _, Nat.zero_le _⟩ rfl (Nat.le_of_ble_eq_true rfl) rfl (by decide) dX7_handIn_2 hR (fun r2 hR => ?_)
  refine z_ishr hC dX7_handIn_5 ?_
  refine z_ic3 hC dX7_handIn_6 ?_
  refine z_iand hC dX7_handIn_7 ?_
  obtain rfl := Option.some.inj hR
  exact z_iret hC hQ rfl rfl rfl dX7_handIn_8
set_option maxHeartbeats 4000000 in
set_option maxRecDepth 100000 in
theorem c_X7_handIn {sK sV : Nat → Nat} {l : Launch} {D : va_G} {cI cB cZ : ClassId} {N : Nat} {l0 : Int32} {l1 : Int32} : ∀ R : Int32, o_X7_handIn N l0 l1 = some R → ZMi sK sV l yX7_handIn wsX7_handIn rmX7_handIn D (zty cI cB cZ) [.int l0, .int l1] [] R [] := by
  intro R hR
  refine zi_of (cc := cX7_handIn) (maxL := 2) (ret := (some .int)) (by decide) rfl (Nat.le_of_ble_eq_true rfl) (fun E hE1 hE2 hC hN hQ => ?_)
  subst hE1 hE2
  exact z_X7_handIn_0 hC hN (N := N) (l0 := l0) (l1 := l1) hQ hR

/-! FistTrains$Rows.present -/
abbrev rmX5_present : Room := { frames := 1, cells := 0, slots := 0, locals := 21 }
def o_X5_present_4 (N : Nat) (t_lane : (Nat → Int32)) : Nat → Int32 → Int32 → Option (Int32)
  | 0 => fun _ _ => none
  | n + 1 => fun l1 l2 => 
    if 8 ≤ l2 then
      some (l1)
    else
      Option.bind (o_X5_isMissing N t_lane l2) (fun r12 =>
      if r12 = 0 then
        o_X5_present_4 N t_lane n (l1 + 1) (l2 + 1)
      else
        o_X5_present_4 N t_lane n l1 (l2 + 1))
def o_X5_present (N : Nat) (t_lane : (Nat → Int32)) : Option (Int32) :=
  o_X5_present_4 N t_lane N 0 0
set_option maxHeartbeats 4000000 in
set_option maxRecDepth 100000 in
theorem z_X5_present_4 {sK sV : Nat → Nat} {E : ZE} {cI cB cZ : ClassId} (hC : ZC E 3 cX5_present wsX5_present RX5 rmX5_present (some .int) (zty cI cB cZ)) (hN : ZN sK sV (zA E) (zs E)) {N : Nat} {a_t : Nat} {a_t_lane : Nat} {a_t_size : Nat} {a_t_items : Nat} {t_lane : (Nat → Int32)} {rf : Int32} (hQ : ZQi E (zty cI cB cZ) rf [(a_t, .inr (5, [.ref a_t_lane, .ref a_t_size, .ref a_t_items])), (a_t_lane, .inl (cI, 8, .inl t_lane))]) : ∀ (n : Nat) (l1 : Int32) (l2 : Int32), o_X5_present_4 N t_lane n l1 l2 = some rf → Z E (0, 0) [(0, .ref a_t), (1, .int l1), (2, .int l2)] 4 [] [(a_t, .inr (5, [.ref a_t_lane, .ref a_t_size, .ref a_t_items])), (a_t_lane, .inl (cI, 8, .inl t_lane))] := by
  intro n
  induction n with
  | zero =>
    intro l1 l2 hR
    cases hR
  | succ n ih =>
    intro l1 l2 hR
    rw [o_X5_present_4] at hR
    refine z_iload_n hC dX5_present_4 rfl 2 rfl ?_
    refine z_bipush (v := 8) hC dX5_present_5 (by decide) ?_
    refine z_icmp_ge hC 27 dX5_present_7 (by decide) hR (fun hR => ?_) (fun hR => ?_)
    · refine z_iload_n hC dX5_present_27 rfl 1 rfl ?_
      obtain rfl := Option.some.inj hR
      exact z_iret hC hQ rfl rfl rfl dX5_present_28
    · refine z_aload_n hC dX5_present_10 rfl 0 rfl ?_
      refine z_iload_n hC dX5_present_11 rfl 2 rfl ?_
      refine z_callVi_p hC hN [.int l2] [0, 1] (c_X5_isMissing (l := zl E) (D := zD E) (cI := cI) (cB := cB) (cZ := cZ) (N := N) (a_t := a_t) (a_t_lane := a_t_lane) (a_t_size := a_t_size) (a_t_items := a_t_items) (l1 := l2) (t_lane := t_lane)) rfl ⟨rfl, rfl⟩ gX5_present_X5_isMissing hvX5_isMissing 0 5 rfl rfl rfl ⟨Nat.le_of_ble_eq_true rfl, Nat.le_of_ble_eq_true rfl⟩ ⟨Nat.zero_le _, Nat.zero_le _⟩ rfl (Nat.le_of_ble_eq_true rfl) rfl (by decide) dX5_present_12 hR (fun r12 hR => ?_)
      refine z_if_ne hC 21 dX5_present_15 (by decide) hR (fun hR => ?_) (fun hR => ?_)
      · refine z_iinc1 hC [(2, .int (l2 + 1)), (0, .ref a_t), (1, .int l1)] dX5_present_21 2 rfl (by decide) rfl ?_
        refine z_goto hC 4 dX5_present_24 (by decide) ?_
        refine z_sub (lv' := [(0, .ref a_t), (1, .int l1), (2, .int (l2 + 1))]) [1, 2, 0] rfl ?_
        exact ih l1 (l2 + 1) hR
      · refine z_iinc1 hC [(1, .int (l1 + 1)), (0, .ref a_t), (2, .int l2)] dX5_present_18 1 rfl (by decide) rfl ?_
        refine z_iinc1 hC [(2, .int (l2 + 1)), (1, .int (l1 + 1)), (0, .ref a_t)] dX5_present_21 2 rfl (by decide) rfl ?_
        refine z_goto hC 4 dX5_present_24 (by decide) ?_
        refine z_sub (lv' := [(0, .ref a_t), (1, .int (l1 + 1)), (2, .int (l2 + 1))]) [2, 1, 0] rfl ?_
        exact ih (l1 + 1) (l2 + 1) hR
set_option maxHeartbeats 4000000 in
set_option maxRecDepth 100000 in
theorem z_X5_present_0 {sK sV : Nat → Nat} {E : ZE} {cI cB cZ : ClassId} (hC : ZC E 3 cX5_present wsX5_present RX5 rmX5_present (some .int) (zty cI cB cZ)) (hN : ZN sK sV (zA E) (zs E)) {N : Nat} {a_t : Nat} {a_t_lane : Nat} {a_t_size : Nat} {a_t_items : Nat} {t_lane : (Nat → Int32)} {rf : Int32} (hQ : ZQi E (zty cI cB cZ) rf [(a_t, .inr (5, [.ref a_t_lane, .ref a_t_size, .ref a_t_items])), (a_t_lane, .inl (cI, 8, .inl t_lane))]) (hR : o_X5_present N t_lane = some rf) : Z E (0, 0) [(0, .ref a_t)] 0 [] [(a_t, .inr (5, [.ref a_t_lane, .ref a_t_size, .ref a_t_items])), (a_t_lane, .inl (cI, 8, .inl t_lane))] := by
  rw [o_X5_present] at hR
  refine z_ic0 hC dX5_present_0 ?_
  refine z_istore_n hC [(1, .int 0), (0, .ref a_t)] dX5_present_1 rfl (by decide) rfl ?_
  refine z_ic0 hC dX5_present_2 ?_
  refine z_istore_n hC [(2, .int 0), (1, .int 0), (0, .ref a_t)] dX5_present_3 rfl (by decide) rfl ?_
  refine z_sub (lv' := [(0, .ref a_t), (1, .int 0), (2, .int 0)]) [2, 1, 0] rfl ?_
  exact z_X5_present_4 hC hN (N := N) (a_t := a_t) (a_t_lane := a_t_lane) (a_t_size := a_t_size) (a_t_items := a_t_items) (t_lane := t_lane) hQ  N 0 0 hR
set_option maxHeartbeats 4000000 in
set_option maxRecDepth 100000 in
theorem c_X5_present {sK sV : Nat → Nat} {l : Launch} {D : va_G} {cI cB cZ : ClassId} {N : Nat} {a_t : Nat} {a_t_lane : Nat} {a_t_size : Nat} {a_t_items : Nat} {t_lane : (Nat → Int32)} : ∀ R : Int32, o_X5_present N t_lane = some R → ZMi sK sV l yX5_present wsX5_present rmX5_present D (zty cI cB cZ) [.ref a_t] [(a_t, .inr (5, [.ref a_t_lane, .ref a_t_size, .ref a_t_items])), (a_t_lane, .inl (cI, 8, .inl t_lane))] R [(a_t, .inr (5, [.ref a_t_lane, .ref a_t_size, .ref a_t_items])), (a_t_lane, .inl (cI, 8, .inl t_lane))] := by
  intro R hR
  refine zi_of (cc := cX5_present) (maxL := 3) (ret := (some .int)) (by decide) rfl (Nat.le_of_ble_eq_true rfl) (fun E hE1 hE2 hC hN hQ => ?_)
  subst hE1 hE2
  exact z_X5_present_0 hC hN (N := N) (a_t := a_t) (a_t_lane := a_t_lane) (a_t_size := a_t_size) (a_t_items := a_t_items) (t_lane := t_lane) hQ hR
