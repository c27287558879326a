/-! FistTrains$Hall.clear -/
abbrev rmX3_clear : Room := { frames := 0, cells := 0, slots := 0, locals := 0 }
set_option maxRecDepth 20000 in
theorem iX3_clear_X3 : ∀ w ∈ wsX30, w ∈ wsX3_clear := by decide +kernel
set_option maxRecDepth 20000 in
theorem mX3_clear_1 : Cond.fieldLink RX3 9 "FistTrains$Hall" "players" "I" ∈ wsX3_clear := List.mem_of_getElem? (i := 1) rfl
set_option maxRecDepth 20000 in
theorem mX3_clear_2 : Cond.fieldLink RX3 15 "FistTrains$Hall" "round" "I" ∈ wsX3_clear := List.mem_of_getElem? (i := 2) rfl
set_option maxRecDepth 20000 in
theorem mX3_clear_3 : Cond.fieldLink RX3 18 "FistTrains$Hall" "time" "I" ∈ wsX3_clear := List.mem_of_getElem? (i := 3) rfl
def o_X3_clear (N : Nat) : Option (Int32 × Int32 × Int32) :=
  some (0, 0, 0)
set_option maxHeartbeats 4000000 in
set_option maxRecDepth 100000 in
theorem z_X3_clear_0 {sK sV : Nat → Nat} {E : ZE} {cI cB cZ : ClassId} (hC : ZC E 1 cX3_clear wsX3_clear RX3 rmX3_clear none (zty cI cB cZ)) (hN : ZN sK sV (zA E) (zs E)) {N : Nat} {a_t : Nat} {a_t_kind : Nat} {a_t_hand : Nat} {a_t_leader : Nat} {a_t_course : Nat} {t_players : Int32} {t_round : Int32} {t_time : Int32} {rf : Int32 × Int32 × Int32} (hQ : ZQv E (zty cI cB cZ) [(a_t, .inr (3, [.int rf.1, .int rf.2.1, .int rf.2.2, .ref a_t_kind, .ref a_t_hand, .ref a_t_leader, .ref a_t_course]))]) (hR : o_X3_clear N = some rf) : Z E (0, 0) [(0, .ref a_t)] 0 [] [(a_t, .inr (3, [.int t_players, .int t_round, .int t_time, .ref a_t_kind, .ref a_t_hand, .ref a_t_leader, .ref a_t_course]))] := by
  rw [o_X3_clear] at hR
  refine z_aload_n hC dX3_clear_0 rfl 0 rfl ?_
  refine z_ic0 hC dX3_clear_1 ?_
  refine z_put hC iX3_clear_X3 tyX3_ok nmX3 rfl 0 0 rfl (by decide) mX3_clear_1 rfl rfl rfl rfl (Nat.le_of_ble_eq_true rfl) dX3_clear_2 ?_
  refine z_aload_n hC dX3_clear_5 rfl 0 rfl ?_
  refine z_ic0 hC dX3_clear_6 ?_
  refine z_put hC iX3_clear_X3 tyX3_ok nmX3 rfl 0 1 rfl (by decide) mX3_clear_2 rfl rfl rfl rfl (Nat.le_of_ble_eq_true rfl) dX3_clear_7 ?_
  refine z_aload_n hC dX3_clear_10 rfl 0 rfl ?_
  refine z_ic0 hC dX3_clear_11 ?_
  refine z_put hC iX3_clear_X3 tyX3_ok nmX3 rfl 0 2 rfl (by decide) mX3_clear_3 rfl rfl rfl rfl (Nat.le_of_ble_eq_true rfl) dX3_clear_12 ?_
  obtain rfl := Option.some.inj hR
  exact z_vret hC hQ rfl dX3_clear_15
set_option maxHeartbeats 4000000 in
set_option maxRecDepth 100000 in
theorem c_X3_clear {sK sV : Nat → Nat} {l : Launch} {D : va_G} {cI cB cZ : ClassId} {N : Nat} {a_t : Nat} {a_t_kind : Nat} {a_t_hand : Nat} {a_t_leader : Nat} {a_t_course : Nat} {t_players : Int32} {t_round : Int32} {t_time : Int32} : ∀ R : Int32 × Int32 × Int32, o_X3_clear N = some R → ZMv sK sV l yX3_clear wsX3_clear rmX3_clear D (zty cI cB cZ) [.ref a_t] [(a_t, .inr (3, [.int t_players, .int t_round, .int t_time, .ref a_t_kind, .ref a_t_hand, .ref a_t_leader, .ref a_t_course]))] [(a_t, .inr (3, [.int R.1, .int R.2.1, .int R.2.2, .ref a_t_kind, .ref a_t_hand, .ref a_t_leader, .ref a_t_course]))] := by
  intro R hR
  refine zv_of (cc := cX3_clear) (maxL := 1) (ret := none) (by decide) rfl (Nat.le_of_ble_eq_true rfl) (fun E hE1 hE2 hC hN hQ => ?_)
  subst hE1 hE2
  exact z_X3_clear_0 hC hN (N := N) (a_t := a_t) (a_t_kind := a_t_kind) (a_t_hand := a_t_hand) (a_t_leader := a_t_leader) (a_t_course := a_t_course) (t_players := t_players) (t_round := t_round) (t_time := t_time) hQ hR

/-! FistTrains$Hall.enter -/
abbrev rmX3_enter : Room := { frames := 0, cells := 0, slots := 0, locals := 0 }
set_option maxRecDepth 20000 in
theorem iX3_enter_X3 : ∀ w ∈ wsX30, w ∈ wsX3_enter := by decide +kernel
set_option maxRecDepth 20000 in
theorem mX3_enter_1 : Cond.fieldLink RX3 9 "FistTrains$Hall" "players" "I" ∈ wsX3_enter := List.mem_of_getElem? (i := 1) rfl
set_option maxRecDepth 20000 in
theorem mX3_enter_2 : Cond.fieldLink RX3 21 "FistTrains$Hall" "kind" "[I" ∈ wsX3_enter := List.mem_of_getElem? (i := 2) rfl
set_option maxRecDepth 20000 in
theorem mX3_enter_3 : Cond.fieldLink RX3 25 "FistTrains$Hall" "hand" "[I" ∈ wsX3_enter := List.mem_of_getElem? (i := 3) rfl
set_option maxRecDepth 20000 in
theorem mX3_enter_4 : Cond.fieldLink RX3 28 "FistTrains$Hall" "leader" "[I" ∈ wsX3_enter := List.mem_of_getElem? (i := 4) rfl
def o_X3_enter (N : Nat) (t_players : Int32) (t_kind : (Nat → Int32)) (t_hand : (Nat → Int32)) (t_leader : (Nat → Int32)) (l1 : Int32) (l2 : Int32) : Option (Int32 × (Nat → Int32) × (Nat → Int32) × (Nat → Int32)) :=
  if 8 ≤ t_players then
    some (t_players, t_kind, t_hand, t_leader)
  else
    ogd (inb t_players 8) (
    ogd (inb t_players 8) (
    ogd (inb t_players 8) (
    some ((t_players + 1), (upd t_kind (Int32.toNatClampNeg t_players) l1), (upd t_hand (Int32.toNatClampNeg t_players) l2), (upd t_leader (Int32.toNatClampNeg t_players) t_players)))))
set_option maxHeartbeats 4000000 in
set_option maxRecDepth 100000 in
theorem z_X3_enter_0 {sK sV : Nat → Nat} {E : ZE} {cI cB cZ : ClassId} (hC : ZC E 3 cX3_enter wsX3_enter RX3 rmX3_enter none (zty cI cB cZ)) (hN : ZN sK sV (zA E) (zs E)) {N : Nat} {a_t : Nat} {a_t_kind : Nat} {a_t_hand : Nat} {a_t_leader : Nat} {a_t_course : Nat} {t_players : Int32} {t_round : Int32} {t_time : Int32} {t_kind : (Nat → Int32)} {t_hand : (Nat → Int32)} {t_leader : (Nat → Int32)} {l1 : Int32} {l2 : Int32} {rf : Int32 × (Nat → Int32) × (Nat → Int32) × (Nat → Int32)} (hQ : ZQv E (zty cI cB cZ) [(a_t, .inr (3, [.int rf.1, .int t_round, .int t_time, .ref a_t_kind, .ref a_t_hand, .ref a_t_leader, .ref a_t_course])), (a_t_kind, .inl (cI, 8, .inl rf.2.1)), (a_t_hand, .inl (cI, 8, .inl rf.2.2.1)), (a_t_leader, .inl (cI, 8, .inl rf.2.2.2))]) (hR : o_X3_enter N t_players t_kind t_hand t_leader l1 l2 = some rf) : Z E (0, 0) [(0, .ref a_t), (1, .int l1), (2, .int l2)] 0 [] [(a_t, .inr (3, [.int t_players, .int t_round, .int t_time, .ref a_t_kind, .ref a_t_hand, .ref a_t_leader, .ref a_t_course])), (a_t_kind, .inl (cI, 8, .inl t_kind)), (a_t_hand, .inl (cI, 8, .inl t_hand)), (a_t_leader, .inl (cI, 8, .inl t_leader))] := by
  rw [o_X3_enter] at hR
  refine z_aload_n hC dX3_enter_0 rfl 0 rfl ?_
  refine z_get hC iX3_enter_X3 rfl 0 0 rfl (by decide) mX3_enter_1 rfl rfl dX3_enter_1 ?_
  refine z_bipush (v := 8) hC dX3_enter_4 (by decide) ?_
  refine z_icmp_ge hC 52 dX3_enter_6 (by decide) hR (fun hR => ?_) (fun hR => ?_)
  · obtain rfl := Option.some.inj hR
    exact z_vret hC hQ rfl dX3_enter_52
  · refine z_aload_n hC dX3_enter_9 rfl 0 rfl ?_
    refine z_get hC iX3_enter_X3 rfl 0 3 rfl (by decide) mX3_enter_2 rfl rfl dX3_enter_10 ?_
    refine z_aload_n hC dX3_enter_13 rfl 0 rfl ?_
    refine z_get hC iX3_enter_X3 rfl 0 0 rfl (by decide) mX3_enter_1 rfl rfl dX3_enter_14 ?_
    refine z_iload_n hC dX3_enter_17 rfl 1 rfl ?_
    refine z_iast hC 1 0 rfl rfl dX3_enter_18 hR (fun hR => ?_)
    refine z_aload_n hC dX3_enter_19 rfl 0 rfl ?_
    refine z_get hC iX3_enter_X3 rfl 0 4 rfl (by decide) mX3_enter_3 rfl rfl dX3_enter_20 ?_
    refine z_aload_n hC dX3_enter_23 rfl 0 rfl ?_
    refine z_get hC iX3_enter_X3 rfl 0 0 rfl (by decide) mX3_enter_1 rfl rfl dX3_enter_24 ?_
    refine z_iload_n hC dX3_enter_27 rfl 2 rfl ?_
    refine z_iast hC 2 0 rfl rfl dX3_enter_28 hR (fun hR => ?_)
    refine z_aload_n hC dX3_enter_29 rfl 0 rfl ?_
    refine z_get hC iX3_enter_X3 rfl 0 5 rfl (by decide) mX3_enter_4 rfl rfl dX3_enter_30 ?_
    refine z_aload_n hC dX3_enter_33 rfl 0 rfl ?_
    refine z_get hC iX3_enter_X3 rfl 0 0 rfl (by decide) mX3_enter_1 rfl rfl dX3_enter_34 ?_
    refine z_aload_n hC dX3_enter_37 rfl 0 rfl ?_
    refine z_get hC iX3_enter_X3 rfl 0 0 rfl (by decide) mX3_enter_1 rfl rfl dX3_enter_38 ?_
    refine z_iast hC 3 0 rfl rfl dX3_enter_41 hR (fun hR => ?_)
    refine z_aload_n hC dX3_enter_42 rfl 0 rfl ?_
    refine z_dup hC dX3_enter_43 rfl ?_
    refine z_get hC iX3_enter_X3 rfl 0 0 rfl (by decide) mX3_enter_1 rfl rfl dX3_enter_44 ?_
    refine z_ic1 hC dX3_enter_47 ?_
    refine z_iadd hC dX3_enter_48 ?_
    refine z_put hC iX3_enter_X3 tyX3_ok nmX3 rfl 0 0 rfl (by decide) mX3_enter_1 rfl rfl rfl rfl (Nat.le_of_ble_eq_true rfl) dX3_enter_49 ?_
    obtain rfl := Option.some.inj hR
    exact z_vret hC hQ rfl dX3_enter_52
set_option maxHeartbeats 4000000 in
set_option maxRecDepth 100000 in
theorem c_X3_enter {sK sV : Nat → Nat} {l : Launch} {D : va_G} {cI cB cZ : ClassId} {N : Nat} {a_t : Nat} {a_t_kind : Nat} {a_t_hand : Nat} {a_t_leader : Nat} {a_t_course : Nat} {t_players : Int32} {t_round : Int32} {t_time : Int32} {t_kind : (Nat → Int32)} {t_hand : (Nat → Int32)} {t_leader : (Nat → Int32)} {l1 : Int32} {l2 : Int32} : ∀ R : Int32 × (Nat → Int32) × (Nat → Int32) × (Nat → Int32), o_X3_enter N t_players t_kind t_hand t_leader l1 l2 = some R → ZMv sK sV l yX3_enter wsX3_enter rmX3_enter D (zty cI cB cZ) [.ref a_t, .int l1, .int l2] [(a_t, .inr (3, [.int t_players, .int t_round, .int t_time, .ref a_t_kind, .ref a_t_hand, .ref a_t_leader, .ref a_t_course])), (a_t_kind, .inl (cI, 8, .inl t_kind)), (a_t_hand, .inl (cI, 8, .inl t_hand)), (a_t_leader, .inl (cI, 8, .inl t_leader))] [(a_t, .inr (3, [.int R.1, .int t_round, .int t_time, .ref a_t_kind, .ref a_t_hand, .ref a_t_leader, .ref a_t_course])), (a_t_kind, .inl (cI, 8, .inl R.2.1)), (a_t_hand, .inl (cI, 8, .inl R.2.2.1)), (a_t_leader, .inl (cI, 8, .inl R.2.2.2))] := by
  intro R hR
  refine zv_of (cc := cX3_enter) (maxL := 3) (ret := none) (by decide) rfl (Nat.le_of_ble_eq_true rfl) (fun E hE1 hE2 hC hN hQ => ?_)
  subst hE1 hE2
  exact z_X3_enter_0 hC hN (N := N) (a_t := a_t) (a_t_kind := a_t_kind) (a_t_hand := a_t_hand) (a_t_leader := a_t_leader) (a_t_course := a_t_course) (t_players := t_players) (t_round := t_round) (t_time := t_time) (t_kind := t_kind) (t_hand := t_hand) (t_leader := t_leader) (l1 := l1) (l2 := l2) hQ hR

/-! FistTrains$Hall.become -/
abbrev rmX3_become : Room := { frames := 0, cells := 0, slots := 0, locals := 0 }
set_option maxRecDepth 20000 in
theorem iX3_become_X3 : ∀ w ∈ wsX30, w ∈ wsX3_become := by decide +kernel
set_option maxRecDepth 20000 in
theorem mX3_become_1 : Cond.fieldLink RX3 9 "FistTrains$Hall" "players" "I" ∈ wsX3_become := List.mem_of_getElem? (i := 1) rfl
set_option maxRecDepth 20000 in
theorem mX3_become_2 : Cond.fieldLink RX3 15 "FistTrains$Hall" "round" "I" ∈ wsX3_become := List.mem_of_getElem? (i := 2) rfl
set_option maxRecDepth 20000 in
theorem mX3_become_3 : Cond.fieldLink RX3 18 "FistTrains$Hall" "time" "I" ∈ wsX3_become := List.mem_of_getElem? (i := 3) rfl
set_option maxRecDepth 20000 in
theorem mX3_become_4 : Cond.fieldLink RX3 21 "FistTrains$Hall" "kind" "[I" ∈ wsX3_become := List.mem_of_getElem? (i := 4) rfl
set_option maxRecDepth 20000 in
theorem mX3_become_5 : Cond.fieldLink RX3 25 "FistTrains$Hall" "hand" "[I" ∈ wsX3_become := List.mem_of_getElem? (i := 5) rfl
set_option maxRecDepth 20000 in
theorem mX3_become_6 : Cond.fieldLink RX3 28 "FistTrains$Hall" "leader" "[I" ∈ wsX3_become := List.mem_of_getElem? (i := 6) rfl
def o_X3_become_26 (N : Nat) (t_players : Int32) (t_round : Int32) (t_time : Int32) (p1_kind : (Nat → Int32)) (p1_hand : (Nat → Int32)) (p1_leader : (Nat → Int32)) : Nat → (Nat → Int32) → (Nat → Int32) → (Nat → Int32) → Int32 → Option (Int32 × Int32 × Int32 × (Nat → Int32) × (Nat → Int32) × (Nat → Int32))
  | 0 => fun _ _ _ _ => none
  | n + 1 => fun t_kind t_hand t_leader l2 => 
    if 8 ≤ l2 then
      some (t_players, t_round, t_time, t_kind, t_hand, t_leader)
    else
      ogd (inb l2 8) (
      ogd (inb l2 8) (
      ogd (inb l2 8) (
      ogd (inb l2 8) (
      ogd (inb l2 8) (
      ogd (inb l2 8) (
      o_X3_become_26 N t_players t_round t_time p1_kind p1_hand p1_leader n (upd t_kind (Int32.toNatClampNeg l2) (p1_kind (Int32.toNatClampNeg l2))) (upd t_hand (Int32.toNatClampNeg l2) (p1_hand (Int32.toNatClampNeg l2))) (upd t_leader (Int32.toNatClampNeg l2) (p1_leader (Int32.toNatClampNeg l2))) (l2 + 1)))))))
def o_X3_become (N : Nat) (t_kind : (Nat → Int32)) (t_hand : (Nat → Int32)) (t_leader : (Nat → Int32)) (p1_players : Int32) (p1_round : Int32) (p1_time : Int32) (p1_kind : (Nat → Int32)) (p1_hand : (Nat → Int32)) (p1_leader : (Nat → Int32)) : Option (Int32 × Int32 × Int32 × (Nat → Int32) × (Nat → Int32) × (Nat → Int32)) :=
  o_X3_become_26 N p1_players p1_round p1_time p1_kind p1_hand p1_leader N t_kind t_hand t_leader 0
set_option maxHeartbeats 4000000 in
set_option maxRecDepth 100000 in
theorem z_X3_become_26 {sK sV : Nat → Nat} {E : ZE} {cI cB cZ : ClassId} (hC : ZC E 3 cX3_become wsX3_become RX3 rmX3_become none (zty cI cB cZ)) (hN : ZN sK sV (zA E) (zs E)) {N : Nat} {a_t : Nat} {a_t_kind : Nat} {a_t_hand : Nat} {a_t_leader : Nat} {a_p1 : Nat} {a_p1_kind : Nat} {a_p1_hand : Nat} {a_p1_leader : Nat} {a_t_course : Nat} {a_p1_course : Nat} {t_players : Int32} {t_round : Int32} {t_time : Int32} {p1_players : Int32} {p1_round : Int32} {p1_time : Int32} {p1_kind : (Nat → Int32)} {p1_hand : (Nat → Int32)} {p1_leader : (Nat → Int32)} {rf : Int32 × Int32 × Int32 × (Nat → Int32) × (Nat → Int32) × (Nat → Int32)} (hQ : ZQv E (zty cI cB cZ) [(a_t, .inr (3, [.int rf.1, .int rf.2.1, .int rf.2.2.1, .ref a_t_kind, .ref a_t_hand, .ref a_t_leader, .ref a_t_course])), (a_t_kind, .inl (cI, 8, .inl rf.2.2.2.1)), (a_t_hand, .inl (cI, 8, .inl rf.2.2.2.2.1)), (a_t_leader, .inl (cI, 8, .inl rf.2.2.2.2.2)), (a_p1, .inr (3, [.int p1_players, .int p1_round, .int p1_time, .ref a_p1_kind, .ref a_p1_hand, .ref a_p1_leader, .ref a_p1_course])), (a_p1_kind, .inl (cI, 8, .inl p1_kind)), (a_p1_hand, .inl (cI, 8, .inl p1_hand)), (a_p1_leader, .inl (cI, 8, .inl p1_leader))]) : ∀ (n : Nat) (t_kind : (Nat → Int32)) (t_hand : (Nat → Int32)) (t_leader : (Nat → Int32)) (l2 : Int32), o_X3_become_26 N t_players t_round t_time p1_kind p1_hand p1_leader n t_kind t_hand t_leader l2 = some rf → Z E (0, 0) [(0, .ref a_t), (1, .ref a_p1), (2, .int l2)] 26 [] [(a_t, .inr (3, [.int t_players, .int t_round, .int t_time, .ref a_t_kind, .ref a_t_hand, .ref a_t_leader, .ref a_t_course])), (a_t_kind, .inl (cI, 8, .inl t_kind)), (a_t_hand, .inl (cI, 8, .inl t_hand)), (a_t_leader, .inl (cI, 8, .inl t_leader)), (a_p1, .inr (3, [.int p1_players, .int p1_round, .int p1_time, .ref a_p1_kind, .ref a_p1_hand, .ref a_p1_leader, .ref a_p1_course])), (a_p1_kind, .inl (cI, 8, .inl p1_kind)), (a_p1_hand, .inl (cI, 8, .inl p1_hand)), (a_p1_leader, .inl (cI, 8, .inl p1_leader))] := by
  intro n
  induction n with
  | zero =>
    intro t_kind t_hand t_leader l2 hR
    cases hR
  | succ n ih =>
    intro t_kind t_hand t_leader l2 hR
    rw [o_X3_become_26] at hR
    refine z_iload_n hC dX3_become_26 rfl 2 rfl ?_
    refine z_bipush (v := 8) hC dX3_become_27 (by decide) ?_
    refine z_icmp_ge hC 74 dX3_become_29 (by decide) hR (fun hR => ?_) (fun hR => ?_)
    · obtain rfl := Option.some.inj hR
      exact z_vret hC hQ rfl dX3_become_74
    · refine z_aload_n hC dX3_become_32 rfl 0 rfl ?_
      refine z_get hC iX3_become_X3 rfl 0 3 rfl (by decide) mX3_become_4 rfl rfl dX3_become_33 ?_
      refine z_iload_n hC dX3_become_36 rfl 2 rfl ?_
      refine z_aload_n hC dX3_become_37 rfl 1 rfl ?_
      refine z_get hC iX3_become_X3 rfl 4 3 rfl (by decide) mX3_become_4 rfl rfl dX3_become_38 ?_
      refine z_iload_n hC dX3_become_41 rfl 2 rfl ?_
      refine z_iald hC 5 0 rfl rfl dX3_become_42 hR (fun hR => ?_)
      refine z_iast hC 1 0 rfl rfl dX3_become_43 hR (fun hR => ?_)
      refine z_aload_n hC dX3_become_44 rfl 0 rfl ?_
      refine z_get hC iX3_become_X3 rfl 0 4 rfl (by decide) mX3_become_5 rfl rfl dX3_become_45 ?_
      refine z_iload_n hC dX3_become_48 rfl 2 rfl ?_
      refine z_aload_n hC dX3_become_49 rfl 1 rfl ?_
      refine z_get hC iX3_become_X3 rfl 4 4 rfl (by decide) mX3_become_5 rfl rfl dX3_become_50 ?_
      refine z_iload_n hC dX3_become_53 rfl 2 rfl ?_
      refine z_iald hC 6 0 rfl rfl dX3_become_54 hR (fun hR => ?_)
      refine z_iast hC 2 0 rfl rfl dX3_become_55 hR (fun hR => ?_)
      refine z_aload_n hC dX3_become_56 rfl 0 rfl ?_
      refine z_get hC iX3_become_X3 rfl 0 5 rfl (by decide) mX3_become_6 rfl rfl dX3_become_57 ?_
      refine z_iload_n hC dX3_become_60 rfl 2 rfl ?_
      refine z_aload_n hC dX3_become_61 rfl 1 rfl ?_
      refine z_get hC iX3_become_X3 rfl 4 5 rfl (by decide) mX3_become_6 rfl rfl dX3_become_62 ?_
      refine z_iload_n hC dX3_become_65 rfl 2 rfl ?_
      refine z_iald hC 7 0 rfl rfl dX3_become_66 hR (fun hR => ?_)
      refine z_iast hC 3 0 rfl rfl dX3_become_67 hR (fun hR => ?_)
      refine z_iinc1 hC [(2, .int (l2 + 1)), (0, .ref a_t), (1, .ref a_p1)] dX3_become_68 2 rfl (by decide) rfl ?_
      refine z_goto hC 26 dX3_become_71 (by decide) ?_
      refine z_sub (lv' := [(0, .ref a_t), (1, .ref a_p1), (2, .int (l2 + 1))]) [1, 2, 0] rfl ?_
      exact ih (upd t_kind (Int32.toNatClampNeg l2) (p1_kind (Int32.toNatClampNeg l2))) (upd t_hand (Int32.toNatClampNeg l2) (p1_hand (Int32.toNatClampNeg l2))) (upd t_leader (Int32.toNatClampNeg l2) (p1_leader (Int32.toNatClampNeg l2))) (l2 + 1) hR
set_option maxHeartbeats 4000000 in
set_option maxRecDepth 100000 in
theorem z_X3_become_0 {sK sV : Nat → Nat} {E : ZE} {cI cB cZ : ClassId} (hC : ZC E 3 cX3_become wsX3_become RX3 rmX3_become none (zty cI cB cZ)) (hN : ZN sK sV (zA E) (zs E)) {N : Nat} {a_t : Nat} {a_t_kind : Nat} {a_t_hand : Nat} {a_t_leader : Nat} {a_p1 : Nat} {a_p1_kind : Nat} {a_p1_hand : Nat} {a_p1_leader : Nat} {a_t_course : Nat} {a_p1_course : Nat} {t_players : Int32} {t_round : Int32} {t_time : Int32} {t_kind : (Nat → Int32)} {t_hand : (Nat → Int32)} {t_leader : (Nat → Int32)} {p1_players : Int32} {p1_round : Int32} {p1_time : Int32} {p1_kind : (Nat → Int32)} {p1_hand : (Nat → Int32)} {p1_leader : (Nat → Int32)} {rf : Int32 × Int32 × Int32 × (Nat → Int32) × (Nat → Int32) × (Nat → Int32)} (hQ : ZQv E (zty cI cB cZ) [(a_t, .inr (3, [.int rf.1, .int rf.2.1, .int rf.2.2.1, .ref a_t_kind, .ref a_t_hand, .ref a_t_leader, .ref a_t_course])), (a_t_kind, .inl (cI, 8, .inl rf.2.2.2.1)), (a_t_hand, .inl (cI, 8, .inl rf.2.2.2.2.1)), (a_t_leader, .inl (cI, 8, .inl rf.2.2.2.2.2)), (a_p1, .inr (3, [.int p1_players, .int p1_round, .int p1_time, .ref a_p1_kind, .ref a_p1_hand, .ref a_p1_leader, .ref a_p1_course])), (a_p1_kind, .inl (cI, 8, .inl p1_kind)), (a_p1_hand, .inl (cI, 8, .inl p1_hand)), (a_p1_leader, .inl (cI, 8, .inl p1_leader))]) (hR : o_X3_become N t_kind t_hand t_leader p1_players p1_round p1_time p1_kind p1_hand p1_leader = some rf) : Z E (0, 0) [(0, .ref a_t), (1, .ref a_p1)] 0 [] [(a_t, .inr (3, [.int t_players, .int t_round, .int t_time, .ref a_t_kind, .ref a_t_hand, .ref a_t_leader, .ref a_t_course])), (a_t_kind, .inl (cI, 8, .inl t_kind)), (a_t_hand, .inl (cI, 8, .inl t_hand)), (a_t_leader, .inl (cI, 8, .inl t_leader)), (a_p1, .inr (3, [.int p1_players, .int p1_round, .int p1_time, .ref a_p1_kind, .ref a_p1_hand, .ref a_p1_leader, .ref a_p1_course])), (a_p1_kind, .inl (cI, 8, .inl p1_kind)), (a_p1_hand, .inl (cI, 8, .inl p1_hand)), (a_p1_leader, .inl (cI, 8, .inl p1_leader))] := by
  rw [o_X3_become] at hR
  refine z_aload_n hC dX3_become_0 rfl 0 rfl ?_
  refine z_aload_n hC dX3_become_1 rfl 1 rfl ?_
  refine z_get hC iX3_become_X3 rfl 4 0 rfl (by decide) mX3_become_1 rfl rfl dX3_become_2 ?_
  refine z_put hC iX3_become_X3 tyX3_ok nmX3 rfl 0 0 rfl (by decide) mX3_become_1 rfl rfl rfl rfl (Nat.le_of_ble_eq_true rfl) dX3_become_5 ?_
  refine z_aload_n hC dX3_become_8 rfl 0 rfl ?_
  refine z_aload_n hC dX3_become_9 rfl 1 rfl ?_
  refine z_get hC iX3_become_X3 rfl 4 1 rfl (by decide) mX3_become_2 rfl rfl dX3_become_10 ?_
  refine z_put hC iX3_become_X3 tyX3_ok nmX3 rfl 0 1 rfl (by decide) mX3_become_2 rfl rfl rfl rfl (Nat.le_of_ble_eq_true rfl) dX3_become_13 ?_
  refine z_aload_n hC dX3_become_16 rfl 0 rfl ?_
  refine z_aload_n hC dX3_become_17 rfl 1 rfl ?_
  refine z_get hC iX3_become_X3 rfl 4 2 rfl (by decide) mX3_become_3 rfl rfl dX3_become_18 ?_
  refine z_put hC iX3_become_X3 tyX3_ok nmX3 rfl 0 2 rfl (by decide) mX3_become_3 rfl rfl rfl rfl (Nat.le_of_ble_eq_true rfl) dX3_become_21 ?_
  refine z_ic0 hC dX3_become_24 ?_
  refine z_istore_n hC [(2, .int 0), (0, .ref a_t), (1, .ref a_p1)] dX3_become_25 rfl (by decide) rfl ?_
  refine z_sub (lv' := [(0, .ref a_t), (1, .ref a_p1), (2, .int 0)]) [1, 2, 0] rfl ?_
  exact z_X3_become_26 hC hN (N := N) (a_t := a_t) (a_t_kind := a_t_kind) (a_t_hand := a_t_hand) (a_t_leader := a_t_leader) (a_p1 := a_p1) (a_p1_kind := a_p1_kind) (a_p1_hand := a_p1_hand) (a_p1_leader := a_p1_leader) (a_t_course := a_t_course) (a_p1_course := a_p1_course) (t_players := p1_players) (t_round := p1_round) (t_time := p1_time) (p1_players := p1_players) (p1_round := p1_round) (p1_time := p1_time) (p1_kind := p1_kind) (p1_hand := p1_hand) (p1_leader := p1_leader) hQ  N t_kind t_hand t_leader 0 hR
set_option maxHeartbeats 4000000 in
set_option maxRecDepth 100000 in
theorem c_X3_become {sK sV : Nat → Nat} {l : Launch} {D : va_G} {cI cB cZ : ClassId} {N : Nat} {a_t : Nat} {a_t_kind : Nat} {a_t_hand : Nat} {a_t_leader : Nat} {a_p1 : Nat} {a_p1_kind : Nat} {a_p1_hand : Nat} {a_p1_leader : Nat} {a_t_course : Nat} {a_p1_course : Nat} {t_players : Int32} {t_round : Int32} {t_time : Int32} {t_kind : (Nat → Int32)} {t_hand : (Nat → Int32)} {t_leader : (Nat → Int32)} {p1_players : Int32} {p1_round : Int32} {p1_time : Int32} {p1_kind : (Nat → Int32)} {p1_hand : (Nat → Int32)} {p1_leader : (Nat → Int32)} : ∀ R : Int32 × Int32 × Int32 × (Nat → Int32) × (Nat → Int32) × (Nat → Int32), o_X3_become N t_kind t_hand t_leader p1_players p1_round p1_time p1_kind p1_hand p1_leader = some R → ZMv sK sV l yX3_become wsX3_become rmX3_become D (zty cI cB cZ) [.ref a_t, .ref a_p1] [(a_t, .inr (3, [.int t_players, .int t_round, .int t_time, .ref a_t_kind, .ref a_t_hand, .ref a_t_leader, .ref a_t_course])), (a_t_kind, .inl (cI, 8, .inl t_kind)), (a_t_hand, .inl (cI, 8, .inl t_hand)), (a_t_leader, .inl (cI, 8, .inl t_leader)), (a_p1, .inr (3, [.int p1_players, .int p1_round, .int p1_time, .ref a_p1_kind, .ref a_p1_hand, .ref a_p1_leader, .ref a_p1_course])), (a_p1_kind, .inl (cI, 8, .inl p1_kind)), (a_p1_hand, .inl (cI, 8, .inl p1_hand)), (a_p1_leader, .inl (cI, 8, .inl p1_leader))] [(a_t, .inr (3, [.int R.1, .int R.2.1, .int R.2.2.1, .ref a_t_kind, .ref a_t_hand, .ref a_t_leader, .ref a_t_course])), (a_t_kind, .inl (cI, 8, .inl R.2.2.2.1)), (a_t_hand, .inl (cI, 8, .inl R.2.2.2.2.1)), (a_t_leader, .inl (cI, 8, .inl R.2.2.2.2.2)), (a_p1, .inr (3, [.int p1_players, .int p1_round, .int p1_time, .ref a_p1_kind, .ref a_p1_hand, .ref a_p1_leader, .ref a_p1_course])), (a_p1_kind, .inl (cI, 8, .inl p1_kind)), (a_p1_hand, .inl (cI, 8, .inl p1_hand)), (a_p1_leader, .inl (cI, 8, .inl p1_leader))] := by
  intro R hR
  refine zv_of (cc := cX3_become) (maxL := 3) (ret := none) (by decide) rfl (Nat.le_of_ble_eq_true rfl) (fun E hE1 hE2 hC hN hQ => ?_)
  subst hE1 hE2
  exact z_X3_become_0 hC hN (N := N) (a_t := a_t) (a_t_kind := a_t_kind) (a_t_hand := a_t_hand) (a_t_leader := a_t_leader) (a_p1 := a_p1) (a_p1_kind := a_p1_kind) (a_p1_hand := a_p1_hand) (a_p1_leader := a_p1_leader) (a_t_course := a_t_course) (a_p1_course := a_p1_course) (t_players := t_players) (t_round := t_round) (t_time := t_time) (t_kind := t_kind) (t_hand := t_hand) (t_leader := t_leader) (p1_players := p1_players) (p1_round := p1_round) (p1_time := p1_time) (p1_kind := p1_kind) (p1_hand := p1_hand) (p1_leader := p1_leader) hQ hR

/-! FistTrains$Acts.forget -/
abbrev rmX0_forget : Room := { frames := 0, cells := 0, slots := 0, locals := 0 }
set_option maxRecDepth 20000 in
theorem iX0_forget_X0 : ∀ w ∈ wsX00, w ∈ wsX0_forget := by decide +kernel
set_option maxRecDepth 20000 in
theorem mX0_forget_1 : Cond.fieldLink RX0 15 "FistTrains$Acts" "kept" "I" ∈ wsX0_forget := List.mem_of_getElem? (i := 1) rfl
def o_X0_forget (N : Nat) : Option (Int32) :=
  some (0)
set_option maxHeartbeats 4000000 in
set_option maxRecDepth 100000 in
theorem z_X0_forget_0 {sK sV : Nat → Nat} {E : ZE} {cI cB cZ : ClassId} (hC : ZC E 1 cX0_forget wsX0_forget RX0 rmX0_forget none (zty cI cB cZ)) (hN : ZN sK sV (zA E) (zs E)) {N : Nat} {a_t : Nat} {a_t_halls : Nat} {t_kept : Int32} {t_next : Int32} {rf : Int32} (hQ : ZQv E (zty cI cB cZ) [(a_t, .inr (0, [.ref a_t_halls, .int rf, .int t_next]))]) (hR : o_X0_forget N = some rf) : Z E (0, 0) [(0, .ref a_t)] 0 [] [(a_t, .inr (0, [.ref a_t_halls, .int t_kept, .int t_next]))] := by
  rw [o_X0_forget] at hR
  refine z_aload_n hC dX0_forget_0 rfl 0 rfl ?_
  refine z_ic0 hC dX0_forget_1 ?_
  refine z_put hC iX0_forget_X0 tyX0_ok nmX0 rfl 0 1 rfl (by decide) mX0_forget_1 rfl rfl rfl rfl (Nat.le_of_ble_eq_true rfl) dX0_forget_2 ?_
  obtain rfl := Option.some.inj hR
  exact z_vret hC hQ rfl dX0_forget_5
set_option maxHeartbeats 4000000 in
set_option maxRecDepth 100000 in
theorem c_X0_forget {sK sV : Nat → Nat} {l : Launch} {D : va_G} {cI cB cZ : ClassId} {N : Nat} {a_t : Nat} {a_t_halls : Nat} {t_kept : Int32} {t_next : Int32} : ∀ R : Int32, o_X0_forget N = some R → ZMv sK sV l yX0_forget wsX0_forget rmX0_forget D (zty cI cB cZ) [.ref a_t] [(a_t, .inr (0, [.ref a_t_halls, .int t_kept, .int t_next]))] [(a_t, .inr (0, [.ref a_t_halls, .int R, .int t_next]))] := by
  intro R hR
  refine zv_of (cc := cX0_forget) (maxL := 1) (ret := none) (by decide) rfl (Nat.le_of_ble_eq_true rfl) (fun E hE1 hE2 hC hN hQ => ?_)
  subst hE1 hE2
  exact z_X0_forget_0 hC hN (N := N) (a_t := a_t) (a_t_halls := a_t_halls) (t_kept := t_kept) (t_next := t_next) hQ hR

/-! FistTrains$Hall.leads -/
abbrev rmX3_leads : Room := { frames := 0, cells := 0, slots := 0, locals := 0 }
set_option maxRecDepth 20000 in
theorem iX3_leads_X3 : ∀ w ∈ wsX30, w ∈ wsX3_leads := by decide +kernel
set_option maxRecDepth 20000 in
theorem mX3_leads_1 : Cond.fieldLink RX3 28 "FistTrains$Hall" "leader" "[I" ∈ wsX3_leads := List.mem_of_getElem? (i := 1) rfl
def o_X3_leads (N : Nat) (t_leader : (Nat → Int32)) (l1 : Int32) : Option (Int32) :=
  ogd (inb l1 8) (
  if (t_leader (Int32.toNatClampNeg l1)) = l1 then
    some (1)
  else
    some (0))
set_option maxHeartbeats 4000000 in
set_option maxRecDepth 100000 in
theorem z_X3_leads_0 {sK sV : Nat → Nat} {E : ZE} {cI cB cZ : ClassId} (hC : ZC E 2 cX3_leads wsX3_leads RX3 rmX3_leads (some .boolean) (zty cI cB cZ)) (hN : ZN sK sV (zA E) (zs E)) {N : Nat} {a_t : Nat} {a_t_leader : Nat} {a_t_kind : Nat} {a_t_hand : Nat} {a_t_course : Nat} {t_players : Int32} {t_round : Int32} {t_time : Int32} {t_leader : (Nat → Int32)} {l1 : Int32} {rf : Int32} (hQ : ZQi E (zty cI cB cZ) rf [(a_t, .inr (3, [.int t_players, .int t_round, .int t_time, .ref a_t_kind, .ref a_t_hand, .ref a_t_leader, .ref a_t_course])), (a_t_leader, .inl (cI, 8, .inl t_leader))]) (hR : o_X3_leads N t_leader l1 = some rf) : Z E (0, 0) [(0, .ref a_t), (1, .int l1)] 0 [] [(a_t, .inr (3, [.int t_players, .int t_round, .int t_time, .ref a_t_kind, .ref a_t_hand, .ref a_t_leader, .ref a_t_course])), (a_t_leader, .inl (cI, 8, .inl t_leader))] := by
  rw [o_X3_leads] at hR
  refine z_aload_n hC dX3_leads_0 rfl 0 rfl ?_
  refine z_get hC iX3_leads_X3 rfl 0 5 rfl (by decide) mX3_leads_1 rfl rfl dX3_leads_1 ?_
  refine z_iload_n hC dX3_leads_4 rfl 1 rfl ?_
  refine z_iald hC 1 0 rfl rfl dX3_leads_5 hR (fun hR => ?_)
  refine z_iload_n hC dX3_leads_6 rfl 1 rfl ?_
  refine z_icmp_ne hC 14 dX3_leads_7 (by decide) hR (fun hR => ?_) (fun hR => ?_)
  · refine z_ic0 hC dX3_leads_14 ?_
    obtain rfl := Option.some.inj hR
    exact z_iret hC hQ rfl rfl rfl dX3_leads_15
  · refine z_ic1 hC dX3_leads_10 ?_
    refine z_goto hC 15 dX3_leads_11 (by decide) ?_
    obtain rfl := Option.some.inj hR
    exact z_iret hC hQ rfl rfl rfl dX3_leads_15
set_option maxHeartbeats 4000000 in
set_option maxRecDepth 100000 in
theorem c_X3_leads {sK sV : Nat → Nat} {l : Launch} {D : va_G} {cI cB cZ : ClassId} {N : Nat} {a_t : Nat} {a_t_leader : Nat} {a_t_kind : Nat} {a_t_hand : Nat} {a_t_course : Nat} {t_players : Int32} {t_round : Int32} {t_time : Int32} {t_leader : (Nat → Int32)} {l1 : Int32} : ∀ R : Int32, o_X3_leads N t_leader l1 = some R → ZMi sK sV l yX3_leads wsX3_leads rmX3_leads D (zty cI cB cZ) [.ref a_t, .int l1] [(a_t, .inr (3, [.int t_players, .int t_round, .int t_time, .ref a_t_kind, .ref a_t_hand, .ref a_t_leader, .ref a_t_course])), (a_t_leader, .inl (cI, 8, .inl t_leader))] R [(a_t, .inr (3, [.int t_players, .int t_round, .int t_time, .ref a_t_kind, .ref a_t_hand, .ref a_t_leader, .ref a_t_course])), (a_t_leader, .inl (cI, 8, .inl t_leader))] := by
  intro R hR
  refine zi_of (cc := cX3_leads) (maxL := 2) (ret := (some .boolean)) (by decide) rfl (Nat.le_of_ble_eq_true rfl) (fun E hE1 hE2 hC hN hQ => ?_)
  subst hE1 hE2
  exact z_X3_leads_0 hC hN (N := N) (a_t := a_t) (a_t_leader := a_t_leader) (a_t_kind := a_t_kind) (a_t_hand := a_t_hand) (a_t_course := a_t_course) (t_players := t_players) (t_round := t_round) (t_time := t_time) (t_leader := t_leader) (l1 := l1) hQ hR

/-! FistTrains$Hall.save -/
abbrev rmX3_save : Room := { frames := 0, cells := 0, slots := 0, locals := 0 }
set_option maxRecDepth 20000 in
theorem iX3_save_X3 : ∀ w ∈ wsX30, w ∈ wsX3_save := by decide +kernel
set_option maxRecDepth 20000 in
theorem mX3_save_1 : Cond.fieldLink RX3 9 "FistTrains$Hall" "players" "I" ∈ wsX3_save := List.mem_of_getElem? (i := 1) rfl
set_option maxRecDepth 20000 in
theorem mX3_save_2 : Cond.fieldLink RX3 15 "FistTrains$Hall" "round" "I" ∈ wsX3_save := List.mem_of_getElem? (i := 2) rfl
set_option maxRecDepth 20000 in
theorem mX3_save_3 : Cond.fieldLink RX3 18 "FistTrains$Hall" "time" "I" ∈ wsX3_save := List.mem_of_getElem? (i := 3) rfl
set_option maxRecDepth 20000 in
theorem mX3_save_4 : Cond.fieldLink RX3 21 "FistTrains$Hall" "kind" "[I" ∈ wsX3_save := List.mem_of_getElem? (i := 4) rfl
set_option maxRecDepth 20000 in
theorem mX3_save_5 : Cond.fieldLink RX3 25 "FistTrains$Hall" "hand" "[I" ∈ wsX3_save := List.mem_of_getElem? (i := 5) rfl
set_option maxRecDepth 20000 in
theorem mX3_save_6 : Cond.fieldLink RX3 28 "FistTrains$Hall" "leader" "[I" ∈ wsX3_save := List.mem_of_getElem? (i := 6) rfl
def o_X3_save_27 (N : Nat) (p1_n : Nat) (t_kind : (Nat → Int32)) (t_hand : (Nat → Int32)) (t_leader : (Nat → Int32)) (l2 : Int32) : Nat → (Nat → Int32) → Int32 → Option ((Nat → Int32))
  | 0 => fun _ _ => none
  | n + 1 => fun p1 l3 => 
    if 8 ≤ l3 then
      some (p1)
    else
      ogd (inb l3 8) (
      ogd (inb ((l2 + 3) + l3) p1_n) (
      ogd (inb l3 8) (
      ogd (inb (((l2 + 3) + 8) + l3) p1_n) (
      ogd (inb l3 8) (
      ogd (inb (((l2 + 3) + 16) + l3) p1_n) (
      o_X3_save_27 N p1_n t_kind t_hand t_leader l2 n (upd (upd (upd p1 (Int32.toNatClampNeg ((l2 + 3) + l3)) (t_kind (Int32.toNatClampNeg l3))) (Int32.toNatClampNeg (((l2 + 3) + 8) + l3)) (t_hand (Int32.toNatClampNeg l3))) (Int32.toNatClampNeg (((l2 + 3) + 16) + l3)) (t_leader (Int32.toNatClampNeg l3))) (l3 + 1)))))))
def o_X3_save (N : Nat) (p1_n : Nat) (t_players : Int32) (t_round : Int32) (t_time : Int32) (t_kind : (Nat → Int32)) (t_hand : (Nat → Int32)) (t_leader : (Nat → Int32)) (p1 : (Nat → Int32)) (l2 : Int32) : Option ((Nat → Int32)) :=
  ogd (inb l2 p1_n) (
  ogd (inb (l2 + 1) p1_n) (
  ogd (inb (l2 + 2) p1_n) (
  o_X3_save_27 N p1_n t_kind t_hand t_leader l2 N (upd (upd (upd p1 (Int32.toNatClampNeg l2) t_players) (Int32.toNatClampNeg (l2 + 1)) t_round) (Int32.toNatClampNeg (l2 + 2)) t_time) 0)))
set_option maxHeartbeats 4000000 in
set_option maxRecDepth 100000 in
theorem z_X3_save_27 {sK sV : Nat → Nat} {E : ZE} {cI cB cZ : ClassId} (hC : ZC E 4 cX3_save wsX3_save RX3 rmX3_save none (zty cI cB cZ)) (hN : ZN sK sV (zA E) (zs E)) {N : Nat} {a_t : Nat} {a_t_kind : Nat} {a_t_hand : Nat} {a_t_leader : Nat} {a_p1 : Nat} {a_t_course : Nat} {p1_n : Nat} {t_players : Int32} {t_round : Int32} {t_time : Int32} {t_kind : (Nat → Int32)} {t_hand : (Nat → Int32)} {t_leader : (Nat → Int32)} {l2 : Int32} {rf : (Nat → Int32)} (hQ : ZQv E (zty cI cB cZ) [(a_t, .inr (3, [.int t_players, .int t_round, .int t_time, .ref a_t_kind, .ref a_t_hand, .ref a_t_leader, .ref a_t_course])), (a_t_kind, .inl (cI, 8, .inl t_kind)), (a_t_hand, .inl (cI, 8, .inl t_hand)), (a_t_leader, .inl (cI, 8, .inl t_leader)), (a_p1, .inl (cI, p1_n, .inl rf))]) : ∀ (n : Nat) (p1 : (Nat → Int32)) (l3 : Int32), o_X3_save_27 N p1_n t_kind t_hand t_leader l2 n p1 l3 = some rf → Z E (0, 0) [(0, .ref a_t), (1, .ref a_p1), (2, .int l2), (3, .int l3)] 27 [] [(a_t, .inr (3, [.int t_players, .int t_round, .int t_time, .ref a_t_kind, .ref a_t_hand, .ref a_t_leader, .ref a_t_course])), (a_t_kind, .inl (cI, 8, .inl t_kind)), (a_t_hand, .inl (cI, 8, .inl t_hand)), (a_t_leader, .inl (cI, 8, .inl t_leader)), (a_p1, .inl (cI, p1_n, .inl p1))] := by
  intro n
  induction n with
  | zero =>
    intro p1 l3 hR
    cases hR
  | succ n ih =>
    intro p1 l3 hR
    rw [o_X3_save_27] at hR
    refine z_iload_n hC dX3_save_27 rfl 3 rfl ?_
    refine z_bipush (v := 8) hC dX3_save_28 (by decide) ?_
    refine z_icmp_ge hC 84 dX3_save_30 (by decide) hR (fun hR => ?_) (fun hR => ?_)
    · obtain rfl := Option.some.inj hR
      exact z_vret hC hQ rfl dX3_save_84
    · refine z_aload_n hC dX3_save_33 rfl 1 rfl ?_
      refine z_iload_n hC dX3_save_34 rfl 2 rfl ?_
      refine z_ic3 hC dX3_save_35 ?_
      refine z_iadd hC dX3_save_36 ?_
      refine z_iload_n hC dX3_save_37 rfl 3 rfl ?_
      refine z_iadd hC dX3_save_38 ?_
      refine z_aload_n hC dX3_save_39 rfl 0 rfl ?_
      refine z_get hC iX3_save_X3 rfl 0 3 rfl (by decide) mX3_save_4 rfl rfl dX3_save_40 ?_
      refine z_iload_n hC dX3_save_43 rfl 3 rfl ?_
      refine z_iald hC 1 0 rfl rfl dX3_save_44 hR (fun hR => ?_)
      refine z_iast hC 4 0 rfl rfl dX3_save_45 hR (fun hR => ?_)
      refine z_aload_n hC dX3_save_46 rfl 1 rfl ?_
      refine z_iload_n hC dX3_save_47 rfl 2 rfl ?_
      refine z_ic3 hC dX3_save_48 ?_
      refine z_iadd hC dX3_save_49 ?_
      refine z_bipush (v := 8) hC dX3_save_50 (by decide) ?_
      refine z_iadd hC dX3_save_52 ?_
      refine z_iload_n hC dX3_save_53 rfl 3 rfl ?_
      refine z_iadd hC dX3_save_54 ?_
      refine z_aload_n hC dX3_save_55 rfl 0 rfl ?_
      refine z_get hC iX3_save_X3 rfl 0 4 rfl (by decide) mX3_save_5 rfl rfl dX3_save_56 ?_
      refine z_iload_n hC dX3_save_59 rfl 3 rfl ?_
      refine z_iald hC 2 0 rfl rfl dX3_save_60 hR (fun hR => ?_)
      refine z_iast hC 4 0 rfl rfl dX3_save_61 hR (fun hR => ?_)
      refine z_aload_n hC dX3_save_62 rfl 1 rfl ?_
      refine z_iload_n hC dX3_save_63 rfl 2 rfl ?_
      refine z_ic3 hC dX3_save_64 ?_
      refine z_iadd hC dX3_save_65 ?_
      refine z_bipush (v := 16) hC dX3_save_66 (by decide) ?_
      refine z_iadd hC dX3_save_68 ?_
      refine z_iload_n hC dX3_save_69 rfl 3 rfl ?_
      refine z_iadd hC dX3_save_70 ?_
      refine z_aload_n hC dX3_save_71 rfl 0 rfl ?_
      refine z_get hC iX3_save_X3 rfl 0 5 rfl (by decide) mX3_save_6 rfl rfl dX3_save_72 ?_
      refine z_iload_n hC dX3_save_75 rfl 3 rfl ?_
      refine z_iald hC 3 0 rfl rfl dX3_save_76 hR (fun hR => ?_)
      refine z_iast hC 4 0 rfl rfl dX3_save_77 hR (fun hR => ?_)
      refine z_iinc1 hC [(3, .int (l3 + 1)), (0, .ref a_t), (1, .ref a_p1), (2, .int l2)] dX3_save_78 3 rfl (by decide) rfl ?_
      refine z_goto hC 27 dX3_save_81 (by decide) ?_
      refine z_sub (lv' := [(0, .ref a_t), (1, .ref a_p1), (2, .int l2), (3, .int (l3 + 1))]) [1, 2, 3, 0] rfl ?_
      exact ih (upd (upd (upd p1 (Int32.toNatClampNeg ((l2 + 3) + l3)) (t_kind (Int32.toNatClampNeg l3))) (Int32.toNatClampNeg (((l2 + 3) + 8) + l3)) (t_hand (Int32.toNatClampNeg l3))) (Int32.toNatClampNeg (((l2 + 3) + 16) + l3)) (t_leader (Int32.toNatClampNeg l3))) (l3 + 1) hR
set_option maxHeartbeats 4000000 in
set_option maxRecDepth 100000 in
theorem z_X3_save_0 {sK sV : Nat → Nat} {E : ZE} {cI cB cZ : ClassId} (hC : ZC E 4 cX3_save wsX3_save RX3 rmX3_save none (zty cI cB cZ)) (hN : ZN sK sV (zA E) (zs E)) {N : Nat} {a_t : Nat} {a_t_kind : Nat} {a_t_hand : Nat} {a_t_leader : Nat} {a_p1 : Nat} {a_t_course : Nat} {p1_n : Nat} {t_players : Int32} {t_round : Int32} {t_time : Int32} {t_kind : (Nat → Int32)} {t_hand : (Nat → Int32)} {t_leader : (Nat → Int32)} {p1 : (Nat → Int32)} {l2 : Int32} {rf : (Nat → Int32)} (hQ : ZQv E (zty cI cB cZ) [(a_t, .inr (3, [.int t_players, .int t_round, .int t_time, .ref a_t_kind, .ref a_t_hand, .ref a_t_leader, .ref a_t_course])), (a_t_kind, .inl (cI, 8, .inl t_kind)), (a_t_hand, .inl (cI, 8, .inl t_hand)), (a_t_leader, .inl (cI, 8, .inl t_leader)), (a_p1, .inl (cI, p1_n, .inl rf))]) (hR : o_X3_save N p1_n t_players t_round t_time t_kind t_hand t_leader p1 l2 = some rf) : Z E (0, 0) [(0, .ref a_t), (1, .ref a_p1), (2, .int l2)] 0 [] [(a_t, .inr (3, [.int t_players, .int t_round, .int t_time, .ref a_t_kind, .ref a_t_hand, .ref a_t_leader, .ref a_t_course])), (a_t_kind, .inl (cI, 8, .inl t_kind)), (a_t_hand, .inl (cI, 8, .inl t_hand)), (a_t_leader, .inl (cI, 8, .inl t_leader)), (a_p1, .inl (cI, p1_n, .inl p1))] := by
  rw [o_X3_save] at hR
  refine z_aload_n hC dX3_save_0 rfl 1 rfl ?_
  refine z_iload_n hC dX3_save_1 rfl 2 rfl ?_
  refine z_aload_n hC dX3_save_2 rfl 0 rfl ?_
  refine z_get hC iX3_save_X3 rfl 0 0 rfl (by decide) mX3_save_1 rfl rfl dX3_save_3 ?_
  refine z_iast hC 4 0 rfl rfl dX3_save_6 hR (fun hR => ?_)
  refine z_aload_n hC dX3_save_7 rfl 1 rfl ?_
  refine z_iload_n hC dX3_save_8 rfl 2 rfl ?_
  refine z_ic1 hC dX3_save_9 ?_
  refine z_iadd hC dX3_save_10 ?_
  refine z_aload_n hC dX3_save_11 rfl 0 rfl ?_
  refine z_get hC iX3_save_X3 rfl 0 1 rfl (by decide) mX3_save_2 rfl rfl dX3_save_12 ?_
  refine z_iast hC 4 0 rfl rfl dX3_save_15 hR (fun hR => ?_)
  refine z_aload_n hC dX3_save_16 rfl 1 rfl ?_
  refine z_iload_n hC dX3_save_17 rfl 2 rfl ?_
  refine z_ic2 hC dX3_save_18 ?_
  refine z_iadd hC dX3_save_19 ?_
  refine z_aload_n hC dX3_save_20 rfl 0 rfl ?_
  refine z_get hC iX3_save_X3 rfl 0 2 rfl (by decide) mX3_save_3 rfl rfl dX3_save_21 ?_
  refine z_iast hC 4 0 rfl rfl dX3_save_24 hR (fun hR => ?_)
  refine z_ic0 hC dX3_save_25 ?_
  refine z_istore_n hC [(3, .int 0), (0, .ref a_t), (1, .ref a_p1), (2, .int l2)] dX3_save_26 rfl (by decide) rfl ?_
  refine z_sub (lv' := [(0, .ref a_t), (1, .ref a_p1), (2, .int l2), (3, .int 0)]) [1, 2, 3, 0] rfl ?_
  exact z_X3_save_27 hC hN (N := N) (a_t := a_t) (a_t_kind := a_t_kind) (a_t_hand := a_t_hand) (a_t_leader := a_t_leader) (a_p1 := a_p1) (a_t_course := a_t_course) (p1_n := p1_n) (t_players := t_players) (t_round := t_round) (t_time := t_time) (t_kind := t_kind) (t_hand := t_hand) (t_leader := t_leader) (l2 := l2) hQ  N (upd (upd (upd p1 (Int32.toNatClampNeg l2) t_players) (Int32.toNatClampNeg (l2 + 1)) t_round) (Int32.toNatClampNeg (l2 + 2)) t_time) 0 hR
set_option maxHeartbeats 4000000 in
set_option maxRecDepth 100000 in
theorem c_X3_save {sK sV : Nat → Nat} {l : Launch} {D : va_G} {cI cB cZ : ClassId} {N : Nat} {a_t : Nat} {a_t_kind : Nat} {a_t_hand : Nat} {a_t_leader : Nat} {a_p1 : Nat} {a_t_course : Nat} {p1_n : Nat} {t_players : Int32} {t_round : Int32} {t_time : Int32} {t_kind : (Nat → Int32)} {t_hand : (Nat → Int32)} {t_leader : (Nat → Int32)} {p1 : (Nat → Int32)} {l2 : Int32} : ∀ R : (Nat → Int32), o_X3_save N p1_n t_players t_round t_time t_kind t_hand t_leader p1 l2 = some R → ZMv sK sV l yX3_save wsX3_save rmX3_save D (zty cI cB cZ) [.ref a_t, .ref a_p1, .int l2] [(a_t, .inr (3, [.int t_players, .int t_round, .int t_time, .ref a_t_kind, .ref a_t_hand, .ref a_t_leader, .ref a_t_course])), (a_t_kind, .inl (cI, 8, .inl t_kind)), (a_t_hand, .inl (cI, 8, .inl t_hand)), (a_t_leader, .inl (cI, 8, .inl t_leader)), (a_p1, .inl (cI, p1_n, .inl p1))] [(a_t, .inr (3, [.int t_players, .int t_round, .int t_time, .ref a_t_kind, .ref a_t_hand, .ref a_t_leader, .ref a_t_course])), (a_t_kind, .inl (cI, 8, .inl t_kind)), (a_t_hand, .inl (cI, 8, .inl t_hand)), (a_t_leader, .inl (cI, 8, .inl t_leader)), (a_p1, .inl (cI, p1_n, .inl R))] := by
  intro R hR
  refine zv_of (cc := cX3_save) (maxL := 4) (ret := none) (by decide) rfl (Nat.le_of_ble_eq_true rfl) (fun E hE1 hE2 hC hN hQ => ?_)
  subst hE1 hE2
  exact z_X3_save_0 hC hN (N := N) (a_t := a_t) (a_t_kind := a_t_kind) (a_t_hand := a_t_hand) (a_t_leader := a_t_leader) (a_p1 := a_p1) (a_t_course := a_t_course) (p1_n := p1_n) (t_players := t_players) (t_round := t_round) (t_time := t_time) (t_kind := t_kind) (t_hand := t_hand) (t_leader := t_leader) (p1 := p1) (l2 := l2) hQ hR

/-! FistTrains$Acts.keep -/
abbrev rmX0_keep : Room := { frames := 1, cells := 0, slots := 0, locals := 23 }
set_option maxRecDepth 20000 in
theorem iX0_keep_X0 : ∀ w ∈ wsX00, w ∈ wsX0_keep := by decide +kernel
set_option maxRecDepth 20000 in
theorem mX0_keep_1 : Cond.fieldLink RX0 11 "FistTrains$Acts" "halls" "[I" ∈ wsX0_keep := List.mem_of_getElem? (i := 1) rfl
set_option maxRecDepth 20000 in
theorem mX0_keep_2 : Cond.fieldLink RX0 19 "FistTrains$Acts" "next" "I" ∈ wsX0_keep := List.mem_of_getElem? (i := 2) rfl
set_option maxRecDepth 20000 in
theorem mX0_keep_3 : Cond.fieldLink RX0 15 "FistTrains$Acts" "kept" "I" ∈ wsX0_keep := List.mem_of_getElem? (i := 3) rfl
set_option maxRecDepth 20000 in
theorem mX0_keep_4 : Cond.methodLink RX0 26 Lib.Math.min.name ∈ wsX0_keep := List.mem_of_getElem? (i := 4) rfl
set_option maxRecDepth 20000 in
theorem mX0_keep_5 : Cond.static Lib.Math.min.name ∈ wsX0_keep := List.mem_of_getElem? (i := 5) rfl
set_option maxRecDepth 20000 in
theorem mX0_keep_6 : Cond.initialized "java/lang/Math" ∈ wsX0_keep := List.mem_of_getElem? (i := 6) rfl
set_option maxRecDepth 20000 in
theorem mX0_keep_7 : Cond.code Lib.Math.min.name Lib.Math.min.code 2 (some .int) ∈ wsX0_keep := List.mem_of_getElem? (i := 7) rfl
def o_X0_keep (N : Nat) (t_kept : Int32) (t_next : Int32) (t_halls : (Nat → Int32)) (p1_players : Int32) (p1_round : Int32) (p1_time : Int32) (p1_kind : (Nat → Int32)) (p1_hand : (Nat → Int32)) (p1_leader : (Nat → Int32)) : Option (Int32 × Int32 × (Nat → Int32)) :=
  Option.bind (o_X3_save N 648 p1_players p1_round p1_time p1_kind p1_hand p1_leader t_halls (t_next * 27)) (fun r12 =>
  some ((if 24 < (t_kept + 1) then 24 else (t_kept + 1)), ((t_next + 1) - (t_next + 1) / 24 * 24), r12))
set_option maxHeartbeats 4000000 in
set_option maxRecDepth 100000 in
theorem z_X0_keep_0 {sK sV : Nat → Nat} {E : ZE} {cI cB cZ : ClassId} (hC : ZC E 2 cX0_keep wsX0_keep RX0 rmX0_keep none (zty cI cB cZ)) (hN : ZN sK sV (zA E) (zs E)) {N : Nat} {a_t : Nat} {a_t_halls : Nat} {a_p1 : Nat} {a_p1_kind : Nat} {a_p1_hand : Nat} {a_p1_leader : Nat} {a_p1_course : Nat} {t_kept : Int32} {t_next : Int32} {t_halls : (Nat → Int32)} {p1_players : Int32} {p1_round : Int32} {p1_time : Int32} {p1_kind : (Nat → Int32)} {p1_hand : (Nat → Int32)} {p1_leader : (Nat → Int32)} {rf : Int32 × Int32 × (Nat → Int32)} (hQ : ZQv E (zty cI cB cZ) [(a_t, .inr (0, [.ref a_t_halls, .int rf.1, .int rf.2.1])), (a_t_halls, .inl (cI, 648, .inl rf.2.2)), (a_p1, .inr (3, [.int p1_players, .int p1_round, .int p1_time, .ref a_p1_kind, .ref a_p1_hand, .ref a_p1_leader, .ref a_p1_course])), (a_p1_kind, .inl (cI, 8, .inl p1_kind)), (a_p1_hand, .inl (cI, 8, .inl p1_hand)), (a_p1_leader, .inl (cI, 8, .inl p1_leader))]) (hR : o_X0_keep N t_kept t_next t_halls p1_players p1_round p1_time p1_kind p1_hand p1_leader = some rf) : Z E (0, 0) [(0, .ref a_t), (1, .ref a_p1)] 0 [] [(a_t, .inr (0, [.ref a_t_halls, .int t_kept, .int t_next])), (a_t_halls, .inl (cI, 648, .inl t_halls)), (a_p1, .inr (3, [.int p1_players, .int p1_round, .int p1_time, .ref a_p1_kind, .ref a_p1_hand, .ref a_p1_leader, .ref a_p1_course])), (a_p1_kind, .inl (cI, 8, .inl p1_kind)), (a_p1_hand, .inl (cI, 8, .inl p1_hand)), (a_p1_leader, .inl (cI, 8, .inl p1_leader))] := by
  rw [o_X0_keep] at hR
  refine z_aload_n hC dX0_keep_0 rfl 1 rfl ?_
  refine z_aload_n hC dX0_keep_1 rfl 0 rfl ?_
  refine z_get hC iX0_keep_X0 rfl 0 0 rfl (by decide) mX0_keep_1 rfl rfl dX0_keep_2 ?_
  refine z_aload_n hC dX0_keep_5 rfl 0 rfl ?_
  refine z_get hC iX0_keep_X0 rfl 0 2 rfl (by decide) mX0_keep_2 rfl rfl dX0_keep_6 ?_
  refine z_bipush (v := 27) hC dX0_keep_9 (by decide) ?_
  refine z_imul hC dX0_keep_11 ?_
  refine z_callVv hC hN [.ref a_t_halls, .int (t_next * 27)] [2, 3, 4, 5, 1] (c_X3_save (l := zl E) (D := zD E) (cI := cI) (cB := cB) (cZ := cZ) (N := N) (a_t := a_p1) (a_t_kind := a_p1_kind) (a_t_hand := a_p1_hand) (a_t_leader := a_p1_leader) (a_t_course := a_p1_course) (a_p1 := a_t_halls) (l2 := (t_next * 27)) (t_players := p1_players) (t_round := p1_round) (t_time := p1_time) (t_kind := p1_kind) (t_hand := p1_hand) (t_leader := p1_leader) (p1 := t_halls) (p1_n := 648)) rfl ⟨rfl, rfl⟩ gX0_keep_X3_save hvX3_save 2 3 rfl rfl rfl ⟨Nat.le_of_ble_eq_true rfl, Nat.le_of_ble_eq_true rfl⟩ ⟨Nat.zero_le _, Nat.zero_le _⟩ rfl (Nat.le_of_ble_eq_true rfl) rfl (by decide) (fun _ => rfl) dX0_keep_12 hR (fun r12 hR => ?_)
  refine z_aload_n hC dX0_keep_15 rfl 0 rfl ?_
  refine z_aload_n hC dX0_keep_16 rfl 0 rfl ?_
  refine z_get hC iX0_keep_X0 rfl 0 2 rfl (by decide) mX0_keep_2 rfl rfl dX0_keep_17 ?_
  refine z_ic1 hC dX0_keep_20 ?_
  refine z_iadd hC dX0_keep_21 ?_
  refine z_bipush (v := 24) hC dX0_keep_22 (by decide) ?_
  refine z_iremK hC dX0_keep_24 (by decide) ?_
  refine z_put hC iX0_keep_X0 tyX0_ok nmX0 rfl 0 2 rfl (by decide) mX0_keep_2 rfl rfl rfl rfl (Nat.le_of_ble_eq_true rfl) dX0_keep_25 ?_
  refine z_aload_n hC dX0_keep_28 rfl 0 rfl ?_
  refine z_aload_n hC dX0_keep_29 rfl 0 rfl ?_
  refine z_get hC iX0_keep_X0 rfl 0 1 rfl (by decide) mX0_keep_3 rfl rfl dX0_keep_30 ?_
  refine z_ic1 hC dX0_keep_33 ?_
  refine z_iadd hC dX0_keep_34 ?_
  refine z_bipush (v := 24) hC dX0_keep_35 (by decide) ?_
  refine z_mmin hC mX0_keep_4 mX0_keep_5 mX0_keep_6 mX0_keep_7 (Nat.le_of_ble_eq_true rfl) (Nat.le_of_ble_eq_true rfl) ⟨Nat.zero_le _, Nat.zero_le _⟩ dX0_keep_37 ?_
  refine z_put hC iX0_keep_X0 tyX0_ok nmX0 rfl 0 1 rfl (by decide) mX0_keep_3 rfl rfl rfl rfl (Nat.le_of_ble_eq_true rfl) dX0_keep_40 ?_
  obtain rfl := Option.some.inj hR
  exact z_vret hC hQ rfl dX0_keep_43
set_option maxHeartbeats 4000000 in
set_option maxRecDepth 100000 in
theorem c_X0_keep {sK sV : Nat → Nat} {l : Launch} {D : va_G} {cI cB cZ : ClassId} {N : Nat} {a_t : Nat} {a_t_halls : Nat} {a_p1 : Nat} {a_p1_kind : Nat} {a_p1_hand : Nat} {a_p1_leader : Nat} {a_p1_course : Nat} {t_kept : Int32} {t_next : Int32} {t_halls : (Nat → Int32)} {p1_players : Int32} {p1_round : Int32} {p1_time : Int32} {p1_kind : (Nat → Int32)} {p1_hand : (Nat → Int32)} {p1_leader : (Nat → Int32)} : ∀ R : Int32 × Int32 × (Nat → Int32), o_X0_keep N t_kept t_next t_halls p1_players p1_round p1_time p1_kind p1_hand p1_leader = some R → ZMv sK sV l yX0_keep wsX0_keep rmX0_keep D (zty cI cB cZ) [.ref a_t, .ref a_p1] [(a_t, .inr (0, [.ref a_t_halls, .int t_kept, .int t_next])), (a_t_halls, .inl (cI, 648, .inl t_halls)), (a_p1, .inr (3, [.int p1_players, .int p1_round, .int p1_time, .ref a_p1_kind, .ref a_p1_hand, .ref a_p1_leader, .ref a_p1_course])), (a_p1_kind, .inl (cI, 8, .inl p1_kind)), (a_p1_hand, .inl (cI, 8, .inl p1_hand)), (a_p1_leader, .inl (cI, 8, .inl p1_leader))] [(a_t, .inr (0, [.ref a_t_halls, .int R.1, .int R.2.1])), (a_t_halls, .inl (cI, 648, .inl R.2.2)), (a_p1, .inr (3, [.int p1_players, .int p1_round, .int p1_time, .ref a_p1_kind, .ref a_p1_hand, .ref a_p1_leader, .ref a_p1_course])), (a_p1_kind, .inl (cI, 8, .inl p1_kind)), (a_p1_hand, .inl (cI, 8, .inl p1_hand)), (a_p1_leader, .inl (cI, 8, .inl p1_leader))] := by
  intro R hR
  refine zv_of (cc := cX0_keep) (maxL := 2) (ret := none) (by decide) rfl (Nat.le_of_ble_eq_true rfl) (fun E hE1 hE2 hC hN hQ => ?_)
  subst hE1 hE2
  exact z_X0_keep_0 hC hN (N := N) (a_t := a_t) (a_t_halls := a_t_halls) (a_p1 := a_p1) (a_p1_kind := a_p1_kind) (a_p1_hand := a_p1_hand) (a_p1_leader := a_p1_leader) (a_p1_course := a_p1_course) (t_kept := t_kept) (t_next := t_next) (t_halls := t_halls) (p1_players := p1_players) (p1_round := p1_round) (p1_time := p1_time) (p1_kind := p1_kind) (p1_hand := p1_hand) (p1_leader := p1_leader) hQ hR

/-! FistTrains.nextOf -/
abbrev rmX8_nextOf : Room := { frames := 0, cells := 0, slots := 0, locals := 0 }
def o_X8_nextOf (N : Nat) (l0 : Int32) : Option (Int32) :=
  if l0 = 2 then
    some (0)
  else
    some ((l0 + 1))
set_option maxHeartbeats 4000000 in
set_option maxRecDepth 100000 in
theorem z_X8_nextOf_0 {sK sV : Nat → Nat} {E : ZE} {cI cB cZ : ClassId} (hC : ZC E 1 cX8_nextOf wsX8_nextOf RX8 rmX8_nextOf (some .int) (zty cI cB cZ)) (hN : ZN sK sV (zA E) (zs E)) {N : Nat} {l0 : Int32} {rf : Int32} (hQ : ZQi E (zty cI cB cZ) rf []) (hR : o_X8_nextOf N l0 = some rf) : Z E (0, 0) [(0, .int l0)] 0 [] [] := by
  rw [o_X8_nextOf] at hR
  refine z_iload_n hC dX8_nextOf_0 rfl 0 rfl ?_
  refine z_ic2 hC dX8_nextOf_1 ?_
  refine z_icmp_ne hC 9 dX8_nextOf_2 (by decide) hR (fun hR => ?_) (fun hR => ?_)
  · refine z_iload_n hC dX8_nextOf_9 rfl 0 rfl ?_
    refine z_ic1 hC dX8_nextOf_10 ?_
    refine z_iadd hC dX8_nextOf_11 ?_
    obtain rfl := Option.some.inj hR
    exact z_iret hC hQ rfl rfl rfl dX8_nextOf_12
  · refine z_ic0 hC dX8_nextOf_5 ?_
    refine z_goto hC 12 dX8_nextOf_6 (by decide) ?_
    obtain rfl := Option.some.inj hR
    exact z_iret hC hQ rfl rfl rfl dX8_nextOf_12
set_option maxHeartbeats 4000000 in
set_option maxRecDepth 100000 in
theorem c_X8_nextOf {sK sV : Nat → Nat} {l : Launch} {D : va_G} {cI cB cZ : ClassId} {N : Nat} {l0 : Int32} : ∀ R : Int32, o_X8_nextOf N l0 = some R → ZMi sK sV l yX8_nextOf wsX8_nextOf rmX8_nextOf D (zty cI cB cZ) [.int l0] [] R [] := by
  intro R hR
  refine zi_of (cc := cX8_nextOf) (maxL := 1) (ret := (some .int)) (by decide) rfl (Nat.le_of_ble_eq_true rfl) (fun E hE1 hE2 hC hN hQ => ?_)
  subst hE1 hE2
  exact z_X8_nextOf_0 hC hN (N := N) (l0 := l0) hQ hR

/-! FistTrains$Course.afterTie -/
abbrev rmX2_afterTie : Room := { frames := 0, cells := 0, slots := 0, locals := 0 }
def o_X2_afterTie (N : Nat) (l0 : Int32) (l1 : Int32) (l2 : Int32) : Option (Int32) :=
  if l0 = 2 then
    some (l1)
  else
    if l0 = 3 then
      if l2 = 2 then
        some (0)
      else
        some (l2)
    else
      some (l2)
set_option maxHeartbeats 4000000 in
set_option maxRecDepth 100000 in
theorem z_X2_afterTie_0 {sK sV : Nat → Nat} {E : ZE} {cI cB cZ : ClassId} (hC : ZC E 3 cX2_afterTie wsX2_afterTie RX2 rmX2_afterTie (some .int) (zty cI cB cZ)) (hN : ZN sK sV (zA E) (zs E)) {N : Nat} {l0 : Int32} {l1 : Int32} {l2 : Int32} {rf : Int32} (hQ : ZQi E (zty cI cB cZ) rf []) (hR : o_X2_afterTie N l0 l1 l2 = some rf) : Z E (0, 0) [(0, .int l0), (1, .int l1), (2, .int l2)] 0 [] [] := by
  rw [o_X2_afterTie] at hR
  refine z_iload_n hC dX2_afterTie_0 rfl 0 rfl ?_
  refine z_ic2 hC dX2_afterTie_1 ?_
  refine z_icmp_ne hC 7 dX2_afterTie_2 (by decide) hR (fun hR => ?_) (fun hR => ?_)
  · refine z_iload_n hC dX2_afterTie_7 rfl 0 rfl ?_
    refine z_ic3 hC dX2_afterTie_8 ?_
    refine z_icmp_ne hC 21 dX2_afterTie_9 (by decide) hR (fun hR => ?_) (fun hR => ?_)
    · refine z_iload_n hC dX2_afterTie_21 rfl 2 rfl ?_
      obtain rfl := Option.some.inj hR
      exact z_iret hC hQ rfl rfl rfl dX2_afterTie_22
    · refine z_iload_n hC dX2_afterTie_12 rfl 2 rfl ?_
      refine z_ic2 hC dX2_afterTie_13 ?_
      refine z_icmp_ne hC 21 dX2_afterTie_14 (by decide) hR (fun hR => ?_) (fun hR => ?_)
      · refine z_iload_n hC dX2_afterTie_21 rfl 2 rfl ?_
        obtain rfl := Option.some.inj hR
        exact z_iret hC hQ rfl rfl rfl dX2_afterTie_22
      · refine z_ic0 hC dX2_afterTie_17 ?_
        refine z_goto hC 22 dX2_afterTie_18 (by decide) ?_
        obtain rfl := Option.some.inj hR
        exact z_iret hC hQ rfl rfl rfl dX2_afterTie_22
  · refine z_iload_n hC dX2_afterTie_5 rfl 1 rfl ?_
    obtain rfl := Option.some.inj hR
    exact z_iret hC hQ rfl rfl rfl dX2_afterTie_6
set_option maxHeartbeats 4000000 in
set_option maxRecDepth 100000 in
theorem c_X2_afterTie {sK sV : Nat → Nat} {l : Launch} {D : va_G} {cI cB cZ : ClassId} {N : Nat} {l0 : Int32} {l1 : Int32} {l2 : Int32} : ∀ R : Int32, o_X2_afterTie N l0 l1 l2 = some R → ZMi sK sV l yX2_afterTie wsX2_afterTie rmX2_afterTie D (zty cI cB cZ) [.int l0, .int l1, .int l2] [] R [] := by
  intro R hR
  refine zi_of (cc := cX2_afterTie) (maxL := 3) (ret := (some .int)) (by decide) rfl (Nat.le_of_ble_eq_true rfl) (fun E hE1 hE2 hC hN hQ => ?_)
  subst hE1 hE2
  exact z_X2_afterTie_0 hC hN (N := N) (l0 := l0) (l1 := l1) (l2 := l2) hQ hR

/-! FistTrains$Course.play -/
abbrev rmX2_play : Room := { frames := 1, cells := 0, slots := 0, locals := 22 }
set_option maxRecDepth 20000 in
theorem mX2_play_5 : Cond.initialized RX8 ∈ wsX2_play := List.mem_of_getElem? (i := 5) rfl
set_option maxRecDepth 20000 in
theorem mX2_play_4 : Cond.static yX8_nextOf ∈ wsX2_play := List.mem_of_getElem? (i := 4) rfl
set_option maxRecDepth 20000 in
theorem iX2_play_X2 : ∀ w ∈ wsX20, w ∈ wsX2_play := by decide +kernel
set_option maxRecDepth 20000 in
theorem mX2_play_1 : Cond.fieldLink RX2 13 "FistTrains$Course" "first" "I" ∈ wsX2_play := List.mem_of_getElem? (i := 1) rfl
set_option maxRecDepth 20000 in
theorem mX2_play_2 : Cond.fieldLink RX2 19 "FistTrains$Course" "second" "I" ∈ wsX2_play := List.mem_of_getElem? (i := 2) rfl
set_option maxRecDepth 20000 in
theorem mX2_play_3 : Cond.fieldLink RX2 22 "FistTrains$Course" "thrown" "I" ∈ wsX2_play := List.mem_of_getElem? (i := 3) rfl
def o_X2_play_41 (N : Nat) (l1 : Int32) (l3 : Int32) : Nat → Int32 → Int32 → Int32 → Option (Int32 × Int32 × Int32)
  | 0 => fun _ _ _ => none
  | n + 1 => fun t_first t_second t_thrown => 
    if t_first = t_second then
      if 9 ≤ t_thrown then
        some (t_first, t_second, t_thrown)
      else
        Option.bind (o_X8_nextOf N t_first) (fun r69 =>
        Option.bind (o_X2_afterTie N l1 t_first r69) (fun r80 =>
        Option.bind (o_X2_afterTie N l3 t_first r69) (fun r92 =>
        o_X2_play_41 N l1 l3 n r80 r92 (t_thrown + 1))))
    else
      some (t_first, t_second, t_thrown)
def o_X2_play_33 (N : Nat) (t_first : Int32) (l1 : Int32) (l3 : Int32) (s1 : Int32) : Option (Int32 × Int32 × Int32) :=
  o_X2_play_41 N l1 l3 N t_first s1 1
def o_X2_play_15 (N : Nat) (l1 : Int32) (l2 : Int32) (l3 : Int32) (l4 : Int32) (s1 : Int32) : Option (Int32 × Int32 × Int32) :=
  if l3 = 5 then
    Option.bind (o_X8_nextOf N l2) (fun r25 =>
    o_X2_play_33 N s1 l1 l3 r25)
  else
    o_X2_play_33 N s1 l1 l3 l4
def o_X2_play (N : Nat) (l1 : Int32) (l2 : Int32) (l3 : Int32) (l4 : Int32) : Option (Int32 × Int32 × Int32) :=
  if l1 = 5 then
    Option.bind (o_X8_nextOf N l4) (fun r8 =>
    o_X2_play_15 N l1 l2 l3 l4 r8)
  else
    o_X2_play_15 N l1 l2 l3 l4 l2
set_option maxHeartbeats 4000000 in
set_option maxRecDepth 100000 in
theorem z_X2_play_41 {sK sV : Nat → Nat} {E : ZE} {cI cB cZ : ClassId} (hC : ZC E 7 cX2_play wsX2_play RX2 rmX2_play none (zty cI cB cZ)) (hN : ZN sK sV (zA E) (zs E)) {N : Nat} {a_t : Nat} {l1 : Int32} {l3 : Int32} {rf : Int32 × Int32 × Int32} (hQ : ZQv E (zty cI cB cZ) [(a_t, .inr (2, [.int rf.1, .int rf.2.1, .int rf.2.2]))]) : ∀ (n : Nat) (t_first : Int32) (t_second : Int32) (t_thrown : Int32), o_X2_play_41 N l1 l3 n t_first t_second t_thrown = some rf → Z E (0, 0) [(0, .ref a_t), (1, .int l1), (3, .int l3)] 41 [] [(a_t, .inr (2, [.int t_first, .int t_second, .int t_thrown]))] := by
  intro n
  induction n with
  | zero =>
    intro t_first t_second t_thrown hR
    cases hR
  | succ n ih =>
    intro t_first t_second t_thrown hR
    rw [o_X2_play_41] at hR
    refine z_aload_n hC dX2_play_41 rfl 0 rfl ?_
    refine z_get hC iX2_play_X2 rfl 0 0 rfl (by decide) mX2_play_1 rfl rfl dX2_play_42 ?_
    refine z_aload_n hC dX2_play_45 rfl 0 rfl ?_
    refine z_get hC iX2_play_X2 rfl 0 1 rfl (by decide) mX2_play_2 rfl rfl dX2_play_46 ?_
    refine z_icmp_ne hC 111 dX2_play_49 (by decide) hR (fun hR => ?_) (fun hR => ?_)
    · obtain rfl := Option.some.inj hR
      exact z_vret hC hQ rfl dX2_play_111
    · refine z_aload_n hC dX2_play_52 rfl 0 rfl ?_
      refine z_get hC iX2_play_X2 rfl 0 2 rfl (by decide) mX2_play_3 rfl rfl dX2_play_53 ?_
      refine z_bipush (v := 9) hC dX2_play_56 (by decide) ?_
      refine z_icmp_ge hC 111 dX2_play_58 (by decide) hR (fun hR => ?_) (fun hR => ?_)
      · obtain rfl := Option.some.inj hR
        exact z_vret hC hQ rfl dX2_play_111
      · refine z_aload_n hC dX2_play_61 rfl 0 rfl ?_
        refine z_get hC iX2_play_X2 rfl 0 0 rfl (by decide) mX2_play_1 rfl rfl dX2_play_62 ?_
        refine z_istore hC [(5, .int t_first), (0, .ref a_t), (1, .int l1), (3, .int l3)] dX2_play_65 (by decide) rfl ?_
        refine z_iload hC dX2_play_67 0 rfl ?_
        refine z_callSNi_p hC hN [.int t_first] [] (c_X8_nextOf (l := zl E) (D := zD E) (cI := cI) (cB := cB) (cZ := cZ) (N := N) (l0 := t_first)) rfl ⟨rfl, rfl⟩ gX2_play_X8_nextOf_n9 (List.mem_of_getElem? (i := 3) rfl) mX2_play_5 mX2_play_4 hsX8_nextOf ⟨Nat.le_of_ble_eq_true rfl, Nat.le_of_ble_eq_true rfl⟩ ⟨Nat.zero_le _, Nat.zero_le _⟩ rfl (Nat.le_of_ble_eq_true rfl) rfl (by decide) dX2_play_69 hR (fun r69 hR => ?_)
        refine z_istore hC [(6, .int r69), (5, .int t_first), (0, .ref a_t), (1, .int l1), (3, .int l3)] dX2_play_72 (by decide) rfl ?_
        refine z_aload_n hC dX2_play_74 rfl 2 rfl ?_
        refine z_iload_n hC dX2_play_75 rfl 3 rfl ?_
        refine z_iload hC dX2_play_76 1 rfl ?_
        refine z_iload hC dX2_play_78 0 rfl ?_
        refine z_callSi_p hC hN [.int l1, .int t_first, .int r69] [] (c_X2_afterTie (l := zl E) (D := zD E) (cI := cI) (cB := cB) (cZ := cZ) (N := N) (l0 := l1) (l1 := t_first) (l2 := r69)) rfl ⟨rfl, rfl⟩ gX2_play_X2_afterTie hsX2_afterTie ⟨Nat.le_of_ble_eq_true rfl, Nat.le_of_ble_eq_true rfl⟩ ⟨Nat.zero_le _, Nat.zero_le _⟩ rfl (Nat.le_of_ble_eq_true rfl) rfl (by decide) dX2_play_80 hR (fun r80 hR => ?_)
        refine z_put hC iX2_play_X2 tyX2_ok nmX2 rfl 0 0 rfl (by decide) mX2_play_1 rfl rfl rfl rfl (Nat.le_of_ble_eq_true rfl) dX2_play_83 ?_
        refine z_aload_n hC dX2_play_86 rfl 2 rfl ?_
        refine z_iload_n hC dX2_play_87 rfl 4 rfl ?_
        refine z_iload hC dX2_play_88 1 rfl ?_
        refine z_iload hC dX2_play_90 0 rfl ?_
        refine z_callSi_p hC hN [.int l3, .int t_first, .int r69] [] (c_X2_afterTie (l := zl E) (D := zD E) (cI := cI) (cB := cB) (cZ := cZ) (N := N) (l0 := l3) (l1 := t_first) (l2 := r69)) rfl ⟨rfl, rfl⟩ gX2_play_X2_afterTie hsX2_afterTie ⟨Nat.le_of_ble_eq_true rfl, Nat.le_of_ble_eq_true rfl⟩ ⟨Nat.zero_le _, Nat.zero_le _⟩ rfl (Nat.le_of_ble_eq_true rfl) rfl (by decide) dX2_play_92 hR (fun r92 hR => ?_)
        refine z_put hC iX2_play_X2 tyX2_ok nmX2 rfl 0 1 rfl (by decide) mX2_play_2 rfl rfl rfl rfl (Nat.le_of_ble_eq_true rfl) dX2_play_95 ?_
        refine z_aload_n hC dX2_play_98 rfl 2 rfl ?_
        refine z_dup hC dX2_play_99 rfl ?_
        refine z_get hC iX2_play_X2 rfl 0 2 rfl (by decide) mX2_play_3 rfl rfl dX2_play_100 ?_
        refine z_ic1 hC dX2_play_103 ?_
        refine z_iadd hC dX2_play_104 ?_
        refine z_put hC iX2_play_X2 tyX2_ok nmX2 rfl 0 2 rfl (by decide) mX2_play_3 rfl rfl rfl rfl (Nat.le_of_ble_eq_true rfl) dX2_play_105 ?_
        refine z_goto hC 41 dX2_play_108 (by decide) ?_
        refine z_sub (lv' := [(0, .ref a_t), (1, .int l1), (3, .int l3)]) [2, 3, 4] rfl ?_
        exact ih r80 r92 (t_thrown + 1) hR
set_option maxHeartbeats 4000000 in
set_option maxRecDepth 100000 in
theorem z_X2_play_33 {sK sV : Nat → Nat} {E : ZE} {cI cB cZ : ClassId} (hC : ZC E 7 cX2_play wsX2_play RX2 rmX2_play none (zty cI cB cZ)) (hN : ZN sK sV (zA E) (zs E)) {N : Nat} {a_t : Nat} {t_first : Int32} {t_second : Int32} {t_thrown : Int32} {l1 : Int32} {l3 : Int32} {s1 : Int32} {rf : Int32 × Int32 × Int32} (hQ : ZQv E (zty cI cB cZ) [(a_t, .inr (2, [.int rf.1, .int rf.2.1, .int rf.2.2]))]) (hR : o_X2_play_33 N t_first l1 l3 s1 = some rf) : Z E (0, 0) [(0, .ref a_t), (1, .int l1), (3, .int l3)] 33 [.int s1, .ref a_t] [(a_t, .inr (2, [.int t_first, .int t_second, .int t_thrown]))] := by
  rw [o_X2_play_33] at hR
  refine z_put hC iX2_play_X2 tyX2_ok nmX2 rfl 0 1 rfl (by decide) mX2_play_2 rfl rfl rfl rfl (Nat.le_of_ble_eq_true rfl) dX2_play_33 ?_
  refine z_aload_n hC dX2_play_36 rfl 0 rfl ?_
  refine z_ic1 hC dX2_play_37 ?_
  refine z_put hC iX2_play_X2 tyX2_ok nmX2 rfl 0 2 rfl (by decide) mX2_play_3 rfl rfl rfl rfl (Nat.le_of_ble_eq_true rfl) dX2_play_38 ?_
  exact z_X2_play_41 hC hN (N := N) (a_t := a_t) (l1 := l1) (l3 := l3) hQ  N t_first s1 1 hR
set_option maxHeartbeats 4000000 in
set_option maxRecDepth 100000 in
theorem z_X2_play_15 {sK sV : Nat → Nat} {E : ZE} {cI cB cZ : ClassId} (hC : ZC E 7 cX2_play wsX2_play RX2 rmX2_play none (zty cI cB cZ)) (hN : ZN sK sV (zA E) (zs E)) {N : Nat} {a_t : Nat} {t_first : Int32} {t_second : Int32} {t_thrown : Int32} {l1 : Int32} {l2 : Int32} {l3 : Int32} {l4 : Int32} {s1 : Int32} {rf : Int32 × Int32 × Int32} (hQ : ZQv E (zty cI cB cZ) [(a_t, .inr (2, [.int rf.1, .int rf.2.1, .int rf.2.2]))]) (hR : o_X2_play_15 N l1 l2 l3 l4 s1 = some rf) : Z E (0, 0) [(0, .ref a_t), (1, .int l1), (2, .int l2), (3, .int l3), (4, .int l4)] 15 [.int s1, .ref a_t] [(a_t, .inr (2, [.int t_first, .int t_second, .int t_thrown]))] := by
  rw [o_X2_play_15] at hR
  refine z_put hC iX2_play_X2 tyX2_ok nmX2 rfl 0 0 rfl (by decide) mX2_play_1 rfl rfl rfl rfl (Nat.le_of_ble_eq_true rfl) dX2_play_15 ?_
  refine z_aload_n hC dX2_play_18 rfl 0 rfl ?_
  refine z_iload_n hC dX2_play_19 rfl 3 rfl ?_
  refine z_ic5 hC dX2_play_20 ?_
  refine z_icmp_ne hC 31 dX2_play_21 (by decide) hR (fun hR => ?_) (fun hR => ?_)
  · refine z_iload hC dX2_play_31 4 rfl ?_
    refine z_sub (lv' := [(0, .ref a_t), (1, .int l1), (3, .int l3)]) [0, 1, 3] rfl ?_
    exact z_X2_play_33 hC hN (N := N) (a_t := a_t) (t_first := s1) (t_second := t_second) (t_thrown := t_thrown) (l1 := l1) (l3 := l3) (s1 := l4) hQ  hR
  · refine z_iload_n hC dX2_play_24 rfl 2 rfl ?_
    refine z_callSNi_p hC hN [.int l2] [] (c_X8_nextOf (l := zl E) (D := zD E) (cI := cI) (cB := cB) (cZ := cZ) (N := N) (l0 := l2)) rfl ⟨rfl, rfl⟩ gX2_play_X8_nextOf_n9 (List.mem_of_getElem? (i := 3) rfl) mX2_play_5 mX2_play_4 hsX8_nextOf ⟨Nat.le_of_ble_eq_true rfl, Nat.le_of_ble_eq_true rfl⟩ ⟨Nat.zero_le _, Nat.zero_le _⟩ rfl (Nat.le_of_ble_eq_true rfl) rfl (by decide) dX2_play_25 hR (fun r25 hR => ?_)
    refine z_goto hC 33 dX2_play_28 (by decide) ?_
    refine z_sub (lv' := [(0, .ref a_t), (1, .int l1), (3, .int l3)]) [0, 1, 3] rfl ?_
    exact z_X2_play_33 hC hN (N := N) (a_t := a_t) (t_first := s1) (t_second := t_second) (t_thrown := t_thrown) (l1 := l1) (l3 := l3) (s1 := r25) hQ  hR
set_option maxHeartbeats 4000000 in
set_option maxRecDepth 100000 in
theorem z_X2_play_0 {sK sV : Nat → Nat} {E : ZE} {cI cB cZ : ClassId} (hC : ZC E 7 cX2_play wsX2_play RX2 rmX2_play none (zty cI cB cZ)) (hN : ZN sK sV (zA E) (zs E)) {N : Nat} {a_t : Nat} {t_first : Int32} {t_second : Int32} {t_thrown : Int32} {l1 : Int32} {l2 : Int32} {l3 : Int32} {l4 : Int32} {rf : Int32 × Int32 × Int32} (hQ : ZQv E (zty cI cB cZ) [(a_t, .inr (2, [.int rf.1, .int rf.2.1, .int rf.2.2]))]) (hR : o_X2_play N l1 l2 l3 l4 = some rf) : Z E (0, 0) [(0, .ref a_t), (1, .int l1), (2, .int l2), (3, .int l3), (4, .int l4)] 0 [] [(a_t, .inr (2, [.int t_first, .int t_second, .int t_thrown]))] := by
  rw [o_X2_play] at hR
  refine z_aload_n hC dX2_play_0 rfl 0 rfl ?_
  refine z_iload_n hC dX2_play_1 rfl 1 rfl ?_
  refine z_ic5 hC dX2_play_2 ?_
  refine z_icmp_ne hC 14 dX2_play_3 (by decide) hR (fun hR => ?_) (fun hR => ?_)
  · refine z_iload_n hC dX2_play_14 rfl 2 rfl ?_
    exact z_X2_play_15 hC hN (N := N) (a_t := a_t) (t_first := t_first) (t_second := t_second) (t_thrown := t_thrown) (l1 := l1) (l2 := l2) (l3 := l3) (l4 := l4) (s1 := l2) hQ  hR
  · refine z_iload hC dX2_play_6 4 rfl ?_
    refine z_callSNi_p hC hN [.int l4] [] (c_X8_nextOf (l := zl E) (D := zD E) (cI := cI) (cB := cB) (cZ := cZ) (N := N) (l0 := l4)) rfl ⟨rfl, rfl⟩ gX2_play_X8_nextOf_n9 (List.mem_of_getElem? (i := 3) rfl) mX2_play_5 mX2_play_4 hsX8_nextOf ⟨Nat.le_of_ble_eq_true rfl, Nat.le_of_ble_eq_true rfl⟩ ⟨Nat.zero_le _, Nat.zero_le _⟩ rfl (Nat.le_of_ble_eq_true rfl) rfl (by decide) dX2_play_8 hR (fun r8 hR => ?_)
    refine z_goto hC 15 dX2_play_11 (by decide) ?_
    exact z_X2_play_15 hC hN (N := N) (a_t := a_t) (t_first := t_first) (t_second := t_second) (t_thrown := t_thrown) (l1 := l1) (l2 := l2) (l3 := l3) (l4 := l4) (s1 := r8) hQ  hR
set_option maxHeartbeats 4000000 in
set_option maxRecDepth 100000 in
theorem c_X2_play {sK sV : Nat → Nat} {l : Launch} {D : va_G} {cI cB cZ : ClassId} {N : Nat} {a_t : Nat} {t_first : Int32} {t_second : Int32} {t_thrown : Int32} {l1 : Int32} {l2 : Int32} {l3 : Int32} {l4 : Int32} : ∀ R : Int32 × Int32 × Int32, o_X2_play N l1 l2 l3 l4 = some R → ZMv sK sV l yX2_play wsX2_play rmX2_play D (zty cI cB cZ) [.ref a_t, .int l1, .int l2, .int l3, .int l4] [(a_t, .inr (2, [.int t_first, .int t_second, .int t_thrown]))] [(a_t, .inr (2, [.int R.1, .int R.2.1, .int R.2.2]))] := by
  intro R hR
  refine zv_of (cc := cX2_play) (maxL := 7) (ret := none) (by decide) rfl (Nat.le_of_ble_eq_true rfl) (fun E hE1 hE2 hC hN hQ => ?_)
  subst hE1 hE2
  exact z_X2_play_0 hC hN (N := N) (a_t := a_t) (t_first := t_first) (t_second := t_second) (t_thrown := t_thrown) (l1 := l1) (l2 := l2) (l3 := l3) (l4 := l4) hQ hR

/-! FistTrains$Course.isTie -/
abbrev rmX2_isTie : Room := { frames := 0, cells := 0, slots := 0, locals := 0 }
set_option maxRecDepth 20000 in
theorem iX2_isTie_X2 : ∀ w ∈ wsX20, w ∈ wsX2_isTie := by decide +kernel
set_option maxRecDepth 20000 in
theorem mX2_isTie_1 : Cond.fieldLink RX2 13 "FistTrains$Course" "first" "I" ∈ wsX2_isTie := List.mem_of_getElem? (i := 1) rfl
set_option maxRecDepth 20000 in
theorem mX2_isTie_2 : Cond.fieldLink RX2 19 "FistTrains$Course" "second" "I" ∈ wsX2_isTie := List.mem_of_getElem? (i := 2) rfl
def o_X2_isTie (N : Nat) (t_first : Int32) (t_second : Int32) : Option (Int32) :=
  if t_first = t_second then
    some (1)
  else
    some (0)
set_option maxHeartbeats 4000000 in
set_option maxRecDepth 100000 in
theorem z_X2_isTie_0 {sK sV : Nat → Nat} {E : ZE} {cI cB cZ : ClassId} (hC : ZC E 1 cX2_isTie wsX2_isTie RX2 rmX2_isTie (some .boolean) (zty cI cB cZ)) (hN : ZN sK sV (zA E) (zs E)) {N : Nat} {a_t : Nat} {t_first : Int32} {t_second : Int32} {t_thrown : Int32} {rf : Int32} (hQ : ZQi E (zty cI cB cZ) rf [(a_t, .inr (2, [.int t_first, .int t_second, .int t_thrown]))]) (hR : o_X2_isTie N t_first t_second = some rf) : Z E (0, 0) [(0, .ref a_t)] 0 [] [(a_t, .inr (2, [.int t_first, .int t_second, .int t_thrown]))] := by
  rw [o_X2_isTie] at hR
  refine z_aload_n hC dX2_isTie_0 rfl 0 rfl ?_
  refine z_get hC iX2_isTie_X2 rfl 0 0 rfl (by decide) mX2_isTie_1 rfl rfl dX2_isTie_1 ?_
  refine z_aload_n hC dX2_isTie_4 rfl 0 rfl ?_
  refine z_get hC iX2_isTie_X2 rfl 0 1 rfl (by decide) mX2_isTie_2 rfl rfl dX2_isTie_5 ?_
  refine z_icmp_ne hC 15 dX2_isTie_8 (by decide) hR (fun hR => ?_) (fun hR => ?_)
  · refine z_ic0 hC dX2_isTie_15 ?_
    obtain rfl := Option.some.inj hR
    exact z_iret hC hQ rfl rfl rfl dX2_isTie_16
  · refine z_ic1 hC dX2_isTie_11 ?_
    refine z_goto hC 16 dX2_isTie_12 (by decide) ?_
    obtain rfl := Option.some.inj hR
    exact z_iret hC hQ rfl rfl rfl dX2_isTie_16
set_option maxHeartbeats 4000000 in
set_option maxRecDepth 100000 in
theorem c_X2_isTie {sK sV : Nat → Nat} {l : Launch} {D : va_G} {cI cB cZ : ClassId} {N : Nat} {a_t : Nat} {t_first : Int32} {t_second : Int32} {t_thrown : Int32} : ∀ R : Int32, o_X2_isTie N t_first t_second = some R → ZMi sK sV l yX2_isTie wsX2_isTie rmX2_isTie D (zty cI cB cZ) [.ref a_t] [(a_t, .inr (2, [.int t_first, .int t_second, .int t_thrown]))] R [(a_t, .inr (2, [.int t_first, .int t_second, .int t_thrown]))] := by
  intro R hR
  refine zi_of (cc := cX2_isTie) (maxL := 1) (ret := (some .boolean)) (by decide) rfl (Nat.le_of_ble_eq_true rfl) (fun E hE1 hE2 hC hN hQ => ?_)
  subst hE1 hE2
  exact z_X2_isTie_0 hC hN (N := N) (a_t := a_t) (t_first := t_first) (t_second := t_second) (t_thrown := t_thrown) hQ hR

/-! FistTrains$Course.firstHasBeaten -/
abbrev rmX2_firstHasBeaten : Room := { frames := 1, cells := 0, slots := 0, locals := 20 }
set_option maxRecDepth 20000 in
theorem iX2_firstHasBeaten_X2 : ∀ w ∈ wsX20, w ∈ wsX2_firstHasBeaten := by decide +kernel
set_option maxRecDepth 20000 in
theorem mX2_firstHasBeaten_1 : Cond.fieldLink RX2 13 "FistTrains$Course" "first" "I" ∈ wsX2_firstHasBeaten := List.mem_of_getElem? (i := 1) rfl
set_option maxRecDepth 20000 in
theorem mX2_firstHasBeaten_2 : Cond.fieldLink RX2 19 "FistTrains$Course" "second" "I" ∈ wsX2_firstHasBeaten := List.mem_of_getElem? (i := 2) rfl
set_option maxRecDepth 20000 in
theorem mX2_firstHasBeaten_4 : Cond.initialized RX8 ∈ wsX2_firstHasBeaten := List.mem_of_getElem? (i := 4) rfl
set_option maxRecDepth 20000 in
theorem mX2_firstHasBeaten_3 : Cond.static yX8_nextOf ∈ wsX2_firstHasBeaten := List.mem_of_getElem? (i := 3) rfl
def o_X2_firstHasBeaten (N : Nat) (t_first : Int32) (t_second : Int32) : Option (Int32) :=
  Option.bind (o_X8_nextOf N t_second) (fun r8 =>
  if t_first = r8 then
    some (1)
  else
    some (0))
set_option maxHeartbeats 4000000 in
set_option maxRecDepth 100000 in
theorem z_X2_firstHasBeaten_0 {sK sV : Nat → Nat} {E : ZE} {cI cB cZ : ClassId} (hC : ZC E 1 cX2_firstHasBeaten wsX2_firstHasBeaten RX2 rmX2_firstHasBeaten (some .boolean) (zty cI cB cZ)) (hN : ZN sK sV (zA E) (zs E)) {N : Nat} {a_t : Nat} {t_first : Int32} {t_second : Int32} {t_thrown : Int32} {rf : Int32} (hQ : ZQi E (zty cI cB cZ) rf [(a_t, .inr (2, [.int t_first, .int t_second, .int t_thrown]))]) (hR : o_X2_firstHasBeaten N t_first t_second = some rf) : Z E (0, 0) [(0, .ref a_t)] 0 [] [(a_t, .inr (2, [.int t_first, .int t_second, .int t_thrown]))] := by
  rw [o_X2_firstHasBeaten] at hR
  refine z_aload_n hC dX2_firstHasBeaten_0 rfl 0 rfl ?_
  refine z_get hC iX2_firstHasBeaten_X2 rfl 0 0 rfl (by decide) mX2_firstHasBeaten_1 rfl rfl dX2_firstHasBeaten_1 ?_
  refine z_aload_n hC dX2_firstHasBeaten_4 rfl 0 rfl ?_
  refine z_get hC iX2_firstHasBeaten_X2 rfl 0 1 rfl (by decide) mX2_firstHasBeaten_2 rfl rfl dX2_firstHasBeaten_5 ?_
  refine z_callSNi_p hC hN [.int t_second] [] (c_X8_nextOf (l := zl E) (D := zD E) (cI := cI) (cB := cB) (cZ := cZ) (N := N) (l0 := t_second)) rfl ⟨rfl, rfl⟩ gX2_firstHasBeaten_X8_nextOf_n9 (List.mem_of_getElem? (i := 3) rfl) mX2_firstHasBeaten_4 mX2_firstHasBeaten_3 hsX8_nextOf ⟨Nat.le_of_ble_eq_true rfl, Nat.le_of_ble_eq_true rfl⟩ ⟨Nat.zero_le _, Nat.zero_le _⟩ rfl (Nat.le_of_ble_eq_true rfl) rfl (by decide) dX2_firstHasBeaten_8 hR (fun r8 hR => ?_)
  refine z_icmp_ne hC 18 dX2_firstHasBeaten_11 (by decide) hR (fun hR => ?_) (fun hR => ?_)
  · refine z_ic0 hC dX2_firstHasBeaten_18 ?_
    obtain rfl := Option.some.inj hR
    exact z_iret hC hQ rfl rfl rfl dX2_firstHasBeaten_19
  · refine z_ic1 hC dX2_firstHasBeaten_14 ?_
    refine z_goto hC 19 dX2_firstHasBeaten_15 (by decide) ?_
    obtain rfl := Option.some.inj hR
    exact z_iret hC hQ rfl rfl rfl dX2_firstHasBeaten_19
set_option maxHeartbeats 4000000 in
set_option maxRecDepth 100000 in
theorem c_X2_firstHasBeaten {sK sV : Nat → Nat} {l : Launch} {D : va_G} {cI cB cZ : ClassId} {N : Nat} {a_t : Nat} {t_first : Int32} {t_second : Int32} {t_thrown : Int32} : ∀ R : Int32, o_X2_firstHasBeaten N t_first t_second = some R → ZMi sK sV l yX2_firstHasBeaten wsX2_firstHasBeaten rmX2_firstHasBeaten D (zty cI cB cZ) [.ref a_t] [(a_t, .inr (2, [.int t_first, .int t_second, .int t_thrown]))] R [(a_t, .inr (2, [.int t_first, .int t_second, .int t_thrown]))] := by
  intro R hR
  refine zi_of (cc := cX2_firstHasBeaten) (maxL := 1) (ret := (some .boolean)) (by decide) rfl (Nat.le_of_ble_eq_true rfl) (fun E hE1 hE2 hC hN hQ => ?_)
  subst hE1 hE2
  exact z_X2_firstHasBeaten_0 hC hN (N := N) (a_t := a_t) (t_first := t_first) (t_second := t_second) (t_thrown := t_thrown) hQ hR

/-! FistTrains$Hall.trainOf -/
abbrev rmX3_trainOf : Room := { frames := 0, cells := 0, slots := 0, locals := 0 }
set_option maxRecDepth 20000 in
theorem iX3_trainOf_X3 : ∀ w ∈ wsX30, w ∈ wsX3_trainOf := by decide +kernel
set_option maxRecDepth 20000 in
theorem mX3_trainOf_1 : Cond.fieldLink RX3 9 "FistTrains$Hall" "players" "I" ∈ wsX3_trainOf := List.mem_of_getElem? (i := 1) rfl
set_option maxRecDepth 20000 in
theorem mX3_trainOf_2 : Cond.fieldLink RX3 28 "FistTrains$Hall" "leader" "[I" ∈ wsX3_trainOf := List.mem_of_getElem? (i := 2) rfl
def o_X3_trainOf_4 (N : Nat) (t_players : Int32) (t_leader : (Nat → Int32)) (l1 : Int32) : Nat → Int32 → Int32 → Option (Int32)
  | 0 => fun _ _ => none
  | n + 1 => fun l2 l3 => 
    if t_players ≤ l3 then
      some (l2)
    else
      ogd (inb l3 8) (
      ogd (inb l1 8) (
      if (t_leader (Int32.toNatClampNeg l3)) = (t_leader (Int32.toNatClampNeg l1)) then
        o_X3_trainOf_4 N t_players t_leader l1 n (l2 + 1) (l3 + 1)
      else
        o_X3_trainOf_4 N t_players t_leader l1 n l2 (l3 + 1)))
def o_X3_trainOf (N : Nat) (t_players : Int32) (t_leader : (Nat → Int32)) (l1 : Int32) : Option (Int32) :=
  o_X3_trainOf_4 N t_players t_leader l1 N 0 0
set_option maxHeartbeats 4000000 in
set_option maxRecDepth 100000 in
theorem z_X3_trainOf_4 {sK sV : Nat → Nat} {E : ZE} {cI cB cZ : ClassId} (hC : ZC E 4 cX3_trainOf wsX3_trainOf RX3 rmX3_trainOf (some .int) (zty cI cB cZ)) (hN : ZN sK sV (zA E) (zs E)) {N : Nat} {a_t : Nat} {a_t_leader : Nat} {a_t_kind : Nat} {a_t_hand : Nat} {a_t_course : Nat} {t_players : Int32} {t_round : Int32} {t_time : Int32} {t_leader : (Nat → Int32)} {l1 : Int32} {rf : Int32} (hQ : ZQi E (zty cI cB cZ) rf [(a_t, .inr (3, [.int t_players, .int t_round, .int t_time, .ref a_t_kind, .ref a_t_hand, .ref a_t_leader, .ref a_t_course])), (a_t_leader, .inl (cI, 8, .inl t_leader))]) : ∀ (n : Nat) (l2 : Int32) (l3 : Int32), o_X3_trainOf_4 N t_players t_leader l1 n l2 l3 = some rf → Z E (0, 0) [(0, .ref a_t), (1, .int l1), (2, .int l2), (3, .int l3)] 4 [] [(a_t, .inr (3, [.int t_players, .int t_round, .int t_time, .ref a_t_kind, .ref a_t_hand, .ref a_t_leader, .ref a_t_course])), (a_t_leader, .inl (cI, 8, .inl t_leader))] := by
  intro n
  induction n with
  | zero =>
    intro l2 l3 hR
    cases hR
  | succ n ih =>
    intro l2 l3 hR
    rw [o_X3_trainOf_4] at hR
    refine z_iload_n hC dX3_trainOf_4 rfl 3 rfl ?_
    refine z_aload_n hC dX3_trainOf_5 rfl 0 rfl ?_
    refine z_get hC iX3_trainOf_X3 rfl 0 0 rfl (by decide) mX3_trainOf_1 rfl rfl dX3_trainOf_6 ?_
    refine z_icmp_ge hC 36 dX3_trainOf_9 (by decide) hR (fun hR => ?_) (fun hR => ?_)
    · refine z_iload_n hC dX3_trainOf_36 rfl 2 rfl ?_
      obtain rfl := Option.some.inj hR
      exact z_iret hC hQ rfl rfl rfl dX3_trainOf_37
    · refine z_aload_n hC dX3_trainOf_12 rfl 0 rfl ?_
      refine z_get hC iX3_trainOf_X3 rfl 0 5 rfl (by decide) mX3_trainOf_2 rfl rfl dX3_trainOf_13 ?_
      refine z_iload_n hC dX3_trainOf_16 rfl 3 rfl ?_
      refine z_iald hC 1 0 rfl rfl dX3_trainOf_17 hR (fun hR => ?_)
      refine z_aload_n hC dX3_trainOf_18 rfl 0 rfl ?_
      refine z_get hC iX3_trainOf_X3 rfl 0 5 rfl (by decide) mX3_trainOf_2 rfl rfl dX3_trainOf_19 ?_
      refine z_iload_n hC dX3_trainOf_22 rfl 1 rfl ?_
      refine z_iald hC 1 0 rfl rfl dX3_trainOf_23 hR (fun hR => ?_)
      refine z_icmp_ne hC 30 dX3_trainOf_24 (by decide) hR (fun hR => ?_) (fun hR => ?_)
      · refine z_iinc1 hC [(3, .int (l3 + 1)), (0, .ref a_t), (1, .int l1), (2, .int l2)] dX3_trainOf_30 3 rfl (by decide) rfl ?_
        refine z_goto hC 4 dX3_trainOf_33 (by decide) ?_
        refine z_sub (lv' := [(0, .ref a_t), (1, .int l1), (2, .int l2), (3, .int (l3 + 1))]) [1, 2, 3, 0] rfl ?_
        exact ih l2 (l3 + 1) hR
      · refine z_iinc1 hC [(2, .int (l2 + 1)), (0, .ref a_t), (1, .int l1), (3, .int l3)] dX3_trainOf_27 2 rfl (by decide) rfl ?_
        refine z_iinc1 hC [(3, .int (l3 + 1)), (2, .int (l2 + 1)), (0, .ref a_t), (1, .int l1)] dX3_trainOf_30 3 rfl (by decide) rfl ?_
        refine z_goto hC 4 dX3_trainOf_33 (by decide) ?_
        refine z_sub (lv' := [(0, .ref a_t), (1, .int l1), (2, .int (l2 + 1)), (3, .int (l3 + 1))]) [2, 3, 1, 0] rfl ?_
        exact ih (l2 + 1) (l3 + 1) hR
set_option maxHeartbeats 4000000 in
set_option maxRecDepth 100000 in
theorem z_X3_trainOf_0 {sK sV : Nat → Nat} {E : ZE} {cI cB cZ : ClassId} (hC : ZC E 4 cX3_trainOf wsX3_trainOf RX3 rmX3_trainOf (some .int) (zty cI cB cZ)) (hN : ZN sK sV (zA E) (zs E)) {N : Nat} {a_t : Nat} {a_t_leader : Nat} {a_t_kind : Nat} {a_t_hand : Nat} {a_t_course : Nat} {t_players : Int32} {t_round : Int32} {t_time : Int32} {t_leader : (Nat → Int32)} {l1 : Int32} {rf : Int32} (hQ : ZQi E (zty cI cB cZ) rf [(a_t, .inr (3, [.int t_players, .int t_round, .int t_time, .ref a_t_kind, .ref a_t_hand, .ref a_t_leader, .ref a_t_course])), (a_t_leader, .inl (cI, 8, .inl t_leader))]) (hR : o_X3_trainOf N t_players t_leader l1 = some rf) : Z E (0, 0) [(0, .ref a_t), (1, .int l1)] 0 [] [(a_t, .inr (3, [.int t_players, .int t_round, .int t_time, .ref a_t_kind, .ref a_t_hand, .ref a_t_leader, .ref a_t_course])), (a_t_leader, .inl (cI, 8, .inl t_leader))] := by
  rw [o_X3_trainOf] at hR
  refine z_ic0 hC dX3_trainOf_0 ?_
  refine z_istore_n hC [(2, .int 0), (0, .ref a_t), (1, .int l1)] dX3_trainOf_1 rfl (by decide) rfl ?_
  refine z_ic0 hC dX3_trainOf_2 ?_
  refine z_istore_n hC [(3, .int 0), (2, .int 0), (0, .ref a_t), (1, .int l1)] dX3_trainOf_3 rfl (by decide) rfl ?_
  refine z_sub (lv' := [(0, .ref a_t), (1, .int l1), (2, .int 0), (3, .int 0)]) [2, 3, 1, 0] rfl ?_
  exact z_X3_trainOf_4 hC hN (N := N) (a_t := a_t) (a_t_leader := a_t_leader) (a_t_kind := a_t_kind) (a_t_hand := a_t_hand) (a_t_course := a_t_course) (t_players := t_players) (t_round := t_round) (t_time := t_time) (t_leader := t_leader) (l1 := l1) hQ  N 0 0 hR
set_option maxHeartbeats 4000000 in
set_option maxRecDepth 100000 in
theorem c_X3_trainOf {sK sV : Nat → Nat} {l : Launch} {D : va_G} {cI cB cZ : ClassId} {N : Nat} {a_t : Nat} {a_t_leader : Nat} {a_t_kind : Nat} {a_t_hand : Nat} {a_t_course : Nat} {t_players : Int32} {t_round : Int32} {t_time : Int32} {t_leader : (Nat → Int32)} {l1 : Int32} : ∀ R : Int32, o_X3_trainOf N t_players t_leader l1 = some R → ZMi sK sV l yX3_trainOf wsX3_trainOf rmX3_trainOf D (zty cI cB cZ) [.ref a_t, .int l1] [(a_t, .inr (3, [.int t_players, .int t_round, .int t_time, .ref a_t_kind, .ref a_t_hand, .ref a_t_leader, .ref a_t_course])), (a_t_leader, .inl (cI, 8, .inl t_leader))] R [(a_t, .inr (3, [.int t_players, .int t_round, .int t_time, .ref a_t_kind, .ref a_t_hand, .ref a_t_leader, .ref a_t_course])), (a_t_leader, .inl (cI, 8, .inl t_leader))] := by
  intro R hR
  refine zi_of (cc := cX3_trainOf) (maxL := 4) (ret := (some .int)) (by decide) rfl (Nat.le_of_ble_eq_true rfl) (fun E hE1 hE2 hC hN hQ => ?_)
  subst hE1 hE2
  exact z_X3_trainOf_0 hC hN (N := N) (a_t := a_t) (a_t_leader := a_t_leader) (a_t_kind := a_t_kind) (a_t_hand := a_t_hand) (a_t_course := a_t_course) (t_players := t_players) (t_round := t_round) (t_time := t_time) (t_leader := t_leader) (l1 := l1) hQ hR

/-! FistTrains$Hall.foretell -/
abbrev rmX3_foretell : Room := { frames := 2, cells := 0, slots := 0, locals := 48 }
set_option maxRecDepth 20000 in
theorem iX3_foretell_X3 : ∀ w ∈ wsX30, w ∈ wsX3_foretell := by decide +kernel
set_option maxRecDepth 20000 in
theorem mX3_foretell_1 : Cond.fieldLink RX3 34 "FistTrains$Hall" "course" "LFistTrains$Course;" ∈ wsX3_foretell := List.mem_of_getElem? (i := 1) rfl
set_option maxRecDepth 20000 in
theorem mX3_foretell_2 : Cond.fieldLink RX3 21 "FistTrains$Hall" "kind" "[I" ∈ wsX3_foretell := List.mem_of_getElem? (i := 2) rfl
set_option maxRecDepth 20000 in
theorem mX3_foretell_3 : Cond.fieldLink RX3 25 "FistTrains$Hall" "hand" "[I" ∈ wsX3_foretell := List.mem_of_getElem? (i := 3) rfl
def o_X3_foretell (N : Nat) (t_players : Int32) (t_kind : (Nat → Int32)) (t_hand : (Nat → Int32)) (t_leader : (Nat → Int32)) (l1 : Int32) (l2 : Int32) : Option (Int32 × Int32 × Int32 × Int32) :=
  ogd (inb l1 8) (
  ogd (inb l1 8) (
  ogd (inb l2 8) (
  ogd (inb l2 8) (
  Option.bind (o_X2_play N (t_kind (Int32.toNatClampNeg l1)) (t_hand (Int32.toNatClampNeg l1)) (t_kind (Int32.toNatClampNeg l2)) (t_hand (Int32.toNatClampNeg l2))) (fun r28 =>
  Option.bind (o_X2_isTie N r28.1 r28.2.1) (fun r35 =>
  if r35 = 0 then
    Option.bind (o_X2_firstHasBeaten N r28.1 r28.2.1) (fun r45 =>
    if r45 = 0 then
      some (l2, r28.1, r28.2.1, r28.2.2)
    else
      some (l1, r28.1, r28.2.1, r28.2.2))
  else
    Option.bind (o_X3_trainOf N t_players t_leader l1) (fun r59 =>
    Option.bind (o_X3_trainOf N t_players t_leader l2) (fun r65 =>
    if r59 = r65 then
      if l2 ≤ l1 then
        some (l2, r28.1, r28.2.1, r28.2.2)
      else
        some (l1, r28.1, r28.2.1, r28.2.2)
    else
      if r59 ≤ r65 then
        some (l2, r28.1, r28.2.1, r28.2.2)
      else
        some (l1, r28.1, r28.2.1, r28.2.2)))))))))
set_option maxHeartbeats 4000000 in
set_option maxRecDepth 100000 in
theorem z_X3_foretell_0 {sK sV : Nat → Nat} {E : ZE} {cI cB cZ : ClassId} (hC : ZC E 5 cX3_foretell wsX3_foretell RX3 rmX3_foretell (some .int) (zty cI cB cZ)) (hN : ZN sK sV (zA E) (zs E)) {N : Nat} {a_t : Nat} {a_t_kind : Nat} {a_t_hand : Nat} {a_t_leader : Nat} {a_t_course : Nat} {t_players : Int32} {t_round : Int32} {t_time : Int32} {t_kind : (Nat → Int32)} {t_hand : (Nat → Int32)} {t_leader : (Nat → Int32)} {t_course_first : Int32} {t_course_second : Int32} {t_course_thrown : Int32} {l1 : Int32} {l2 : Int32} {rf : Int32 × Int32 × Int32 × Int32} (hQ : ZQi E (zty cI cB cZ) rf.1 [(a_t, .inr (3, [.int t_players, .int t_round, .int t_time, .ref a_t_kind, .ref a_t_hand, .ref a_t_leader, .ref a_t_course])), (a_t_kind, .inl (cI, 8, .inl t_kind)), (a_t_hand, .inl (cI, 8, .inl t_hand)), (a_t_leader, .inl (cI, 8, .inl t_leader)), (a_t_course, .inr (2, [.int rf.2.1, .int rf.2.2.1, .int rf.2.2.2]))]) (hR : o_X3_foretell N t_players t_kind t_hand t_leader l1 l2 = some rf) : Z E (0, 0) [(0, .ref a_t), (1, .int l1), (2, .int l2)] 0 [] [(a_t, .inr (3, [.int t_players, .int t_round, .int t_time, .ref a_t_kind, .ref a_t_hand, .ref a_t_leader, .ref a_t_course])), (a_t_kind, .inl (cI, 8, .inl t_kind)), (a_t_hand, .inl (cI, 8, .inl t_hand)), (a_t_leader, .inl (cI, 8, .inl t_leader)), (a_t_course, .inr (2, [.int t_course_first, .int t_course_second, .int t_course_thrown]))] := by
  rw [o_X3_foretell] at hR
  refine z_aload_n hC dX3_foretell_0 rfl 0 rfl ?_
  refine z_get hC iX3_foretell_X3 rfl 0 6 rfl (by decide) mX3_foretell_1 rfl rfl dX3_foretell_1 ?_
  refine z_aload_n hC dX3_foretell_4 rfl 0 rfl ?_
  refine z_get hC iX3_foretell_X3 rfl 0 3 rfl (by decide) mX3_foretell_2 rfl rfl dX3_foretell_5 ?_
  refine z_iload_n hC dX3_foretell_8 rfl 1 rfl ?_
  refine z_iald hC 1 0 rfl rfl dX3_foretell_9 hR (fun hR => ?_)
  refine z_aload_n hC dX3_foretell_10 rfl 0 rfl ?_
  refine z_get hC iX3_foretell_X3 rfl 0 4 rfl (by decide) mX3_foretell_3 rfl rfl dX3_foretell_11 ?_
  refine z_iload_n hC dX3_foretell_14 rfl 1 rfl ?_
  refine z_iald hC 2 0 rfl rfl dX3_foretell_15 hR (fun hR => ?_)
  refine z_aload_n hC dX3_foretell_16 rfl 0 rfl ?_
  refine z_get hC iX3_foretell_X3 rfl 0 3 rfl (by decide) mX3_foretell_2 rfl rfl dX3_foretell_17 ?_
  refine z_iload_n hC dX3_foretell_20 rfl 2 rfl ?_
  refine z_iald hC 1 0 rfl rfl dX3_foretell_21 hR (fun hR => ?_)
  refine z_aload_n hC dX3_foretell_22 rfl 0 rfl ?_
  refine z_get hC iX3_foretell_X3 rfl 0 4 rfl (by decide) mX3_foretell_3 rfl rfl dX3_foretell_23 ?_
  refine z_iload_n hC dX3_foretell_26 rfl 2 rfl ?_
  refine z_iald hC 2 0 rfl rfl dX3_foretell_27 hR (fun hR => ?_)
  refine z_callVv hC hN [.int (t_kind (Int32.toNatClampNeg l1)), .int (t_hand (Int32.toNatClampNeg l1)), .int (t_kind (Int32.toNatClampNeg l2)), .int (t_hand (Int32.toNatClampNeg l2))] [4] (c_X2_play (l := zl E) (D := zD E) (cI := cI) (cB := cB) (cZ := cZ) (N := N) (a_t := a_t_course) (l1 := (t_kind (Int32.toNatClampNeg l1))) (l2 := (t_hand (Int32.toNatClampNeg l1))) (l3 := (t_kind (Int32.toNatClampNeg l2))) (l4 := (t_hand (Int32.toNatClampNeg l2))) (t_first := t_course_first) (t_second := t_course_second) (t_thrown := t_course_thrown)) rfl ⟨rfl, rfl⟩ gX3_foretell_X2_play hvX2_play 4 2 rfl rfl rfl ⟨Nat.le_of_ble_eq_true rfl, Nat.le_of_ble_eq_true rfl⟩ ⟨Nat.zero_le _, Nat.zero_le _⟩ rfl (Nat.le_of_ble_eq_true rfl) rfl (by decide) (fun _ => rfl) dX3_foretell_28 hR (fun r28 hR => ?_)
  refine z_aload_n hC dX3_foretell_31 rfl 0 rfl ?_
  refine z_get hC iX3_foretell_X3 rfl 0 6 rfl (by decide) mX3_foretell_1 rfl rfl dX3_foretell_32 ?_
  refine z_callVi_p hC hN [] [4] (c_X2_isTie (l := zl E) (D := zD E) (cI := cI) (cB := cB) (cZ := cZ) (N := N) (a_t := a_t_course) (t_first := r28.1) (t_second := r28.2.1) (t_thrown := r28.2.2)) rfl ⟨rfl, rfl⟩ gX3_foretell_X2_isTie hvX2_isTie 4 2 rfl rfl rfl ⟨Nat.le_of_ble_eq_true rfl, Nat.le_of_ble_eq_true rfl⟩ ⟨Nat.zero_le _, Nat.zero_le _⟩ rfl (Nat.le_of_ble_eq_true rfl) rfl (by decide) dX3_foretell_35 hR (fun r35 hR => ?_)
  refine z_if_ne hC 57 dX3_foretell_38 (by decide) hR (fun hR => ?_) (fun hR => ?_)
  · refine z_aload_n hC dX3_foretell_57 rfl 0 rfl ?_
    refine z_iload_n hC dX3_foretell_58 rfl 1 rfl ?_
    refine z_callVi_p hC hN [.int l1] [0, 3] (c_X3_trainOf (l := zl E) (D := zD E) (cI := cI) (cB := cB) (cZ := cZ) (N := N) (a_t := a_t) (a_t_kind := a_t_kind) (a_t_hand := a_t_hand) (a_t_leader := a_t_leader) (a_t_course := a_t_course) (l1 := l1) (t_players := t_players) (t_round := t_round) (t_time := t_time) (t_leader := t_leader)) rfl ⟨rfl, rfl⟩ gX3_foretell_X3_trainOf hvX3_trainOf 0 3 rfl rfl rfl ⟨Nat.le_of_ble_eq_true rfl, Nat.le_of_ble_eq_true rfl⟩ ⟨Nat.zero_le _, Nat.zero_le _⟩ rfl (Nat.le_of_ble_eq_true rfl) rfl (by decide) dX3_foretell_59 hR (fun r59 hR => ?_)
    refine z_istore_n hC [(3, .int r59), (0, .ref a_t), (1, .int l1), (2, .int l2)] dX3_foretell_62 rfl (by decide) rfl ?_
    refine z_aload_n hC dX3_foretell_63 rfl 1 rfl ?_
    refine z_iload_n hC dX3_foretell_64 rfl 3 rfl ?_
    refine z_callVi_p hC hN [.int l2] [0, 3] (c_X3_trainOf (l := zl E) (D := zD E) (cI := cI) (cB := cB) (cZ := cZ) (N := N) (a_t := a_t) (a_t_kind := a_t_kind) (a_t_hand := a_t_hand) (a_t_leader := a_t_leader) (a_t_course := a_t_course) (l1 := l2) (t_players := t_players) (t_round := t_round) (t_time := t_time) (t_leader := t_leader)) rfl ⟨rfl, rfl⟩ gX3_foretell_X3_trainOf hvX3_trainOf 0 3 rfl rfl rfl ⟨Nat.le_of_ble_eq_true rfl, Nat.le_of_ble_eq_true rfl⟩ ⟨Nat.zero_le _, Nat.zero_le _⟩ rfl (Nat.le_of_ble_eq_true rfl) rfl (by decide) dX3_foretell_65 hR (fun r65 hR => ?_)
    refine z_istore hC [(4, .int r65), (3, .int r59), (0, .ref a_t), (1, .int l1), (2, .int l2)] dX3_foretell_68 (by decide) rfl ?_
    refine z_iload_n hC dX3_foretell_70 rfl 1 rfl ?_
    refine z_iload hC dX3_foretell_71 0 rfl ?_
    refine z_icmp_ne hC 87 dX3_foretell_73 (by decide) hR (fun hR => ?_) (fun hR => ?_)
    · refine z_iload_n hC dX3_foretell_87 rfl 1 rfl ?_
      refine z_iload hC dX3_foretell_88 0 rfl ?_
      refine z_icmp_le hC 97 dX3_foretell_90 (by decide) hR (fun hR => ?_) (fun hR => ?_)
      · refine z_iload_n hC dX3_foretell_97 rfl 4 rfl ?_
        obtain rfl := Option.some.inj hR
        exact z_iret hC hQ rfl rfl rfl dX3_foretell_98
      · refine z_iload_n hC dX3_foretell_93 rfl 3 rfl ?_
        refine z_goto hC 98 dX3_foretell_94 (by decide) ?_
        obtain rfl := Option.some.inj hR
        exact z_iret hC hQ rfl rfl rfl dX3_foretell_98
    · refine z_iload_n hC dX3_foretell_76 rfl 3 rfl ?_
      refine z_iload_n hC dX3_foretell_77 rfl 4 rfl ?_
      refine z_icmp_ge hC 85 dX3_foretell_78 (by decide) hR (fun hR => ?_) (fun hR => ?_)
      · refine z_iload_n hC dX3_foretell_85 rfl 4 rfl ?_
        obtain rfl := Option.some.inj hR
        exact z_iret hC hQ rfl rfl rfl dX3_foretell_86
      · refine z_iload_n hC dX3_foretell_81 rfl 3 rfl ?_
        refine z_goto hC 86 dX3_foretell_82 (by decide) ?_
        obtain rfl := Option.some.inj hR
        exact z_iret hC hQ rfl rfl rfl dX3_foretell_86
  · refine z_aload_n hC dX3_foretell_41 rfl 0 rfl ?_
    refine z_get hC iX3_foretell_X3 rfl 0 6 rfl (by decide) mX3_foretell_1 rfl rfl dX3_foretell_42 ?_
    refine z_callVi_p hC hN [] [4] (c_X2_firstHasBeaten (l := zl E) (D := zD E) (cI := cI) (cB := cB) (cZ := cZ) (N := N) (a_t := a_t_course) (t_first := r28.1) (t_second := r28.2.1) (t_thrown := r28.2.2)) rfl ⟨rfl, rfl⟩ gX3_foretell_X2_firstHasBeaten hvX2_firstHasBeaten 4 2 rfl rfl rfl ⟨Nat.le_of_ble_eq_true rfl, Nat.le_of_ble_eq_true rfl⟩ ⟨Nat.zero_le _, Nat.zero_le _⟩ rfl (Nat.le_of_ble_eq_true rfl) rfl (by decide) dX3_foretell_45 hR (fun r45 hR => ?_)
    refine z_if_eq hC 55 dX3_foretell_48 (by decide) hR (fun hR => ?_) (fun hR => ?_)
    · refine z_iload_n hC dX3_foretell_55 rfl 2 rfl ?_
      obtain rfl := Option.some.inj hR
      exact z_iret hC hQ rfl rfl rfl dX3_foretell_56
    · refine z_iload_n hC dX3_foretell_51 rfl 1 rfl ?_
      refine z_goto hC 56 dX3_foretell_52 (by decide) ?_
      obtain rfl := Option.some.inj hR
      exact z_iret hC hQ rfl rfl rfl dX3_foretell_56
set_option maxHeartbeats 4000000 in
set_option maxRecDepth 100000 in
theorem c_X3_foretell {sK sV : Nat → Nat} {l : Launch} {D : va_G} {cI cB cZ : ClassId} {N : Nat} {a_t : Nat} {a_t_kind : Nat} {a_t_hand : Nat} {a_t_leader : Nat} {a_t_course : Nat} {t_players : Int32} {t_round : Int32} {t_time : Int32} {t_kind : (Nat → Int32)} {t_hand : (Nat → Int32)} {t_leader : (Nat → Int32)} {t_course_first : Int32} {t_course_second : Int32} {t_course_thrown : Int32} {l1 : Int32} {l2 : Int32} : ∀ R : Int32 × Int32 × Int32 × Int32, o_X3_foretell N t_players t_kind t_hand t_leader l1 l2 = some R → ZMi sK sV l yX3_foretell wsX3_foretell rmX3_foretell D (zty cI cB cZ) [.ref a_t, .int l1, .int l2] [(a_t, .inr (3, [.int t_players, .int t_round, .int t_time, .ref a_t_kind, .ref a_t_hand, .ref a_t_leader, .ref a_t_course])), (a_t_kind, .inl (cI, 8, .inl t_kind)), (a_t_hand, .inl (cI, 8, .inl t_hand)), (a_t_leader, .inl (cI, 8, .inl t_leader)), (a_t_course, .inr (2, [.int t_course_first, .int t_course_second, .int t_course_thrown]))] R.1 [(a_t, .inr (3, [.int t_players, .int t_round, .int t_time, .ref a_t_kind, .ref a_t_hand, .ref a_t_leader, .ref a_t_course])), (a_t_kind, .inl (cI, 8, .inl t_kind)), (a_t_hand, .inl (cI, 8, .inl t_hand)), (a_t_leader, .inl (cI, 8, .inl t_leader)), (a_t_course, .inr (2, [.int R.2.1, .int R.2.2.1, .int R.2.2.2]))] := by
  intro R hR
  refine zi_of (cc := cX3_foretell) (maxL := 5) (ret := (some .int)) (by decide) rfl (Nat.le_of_ble_eq_true rfl) (fun E hE1 hE2 hC hN hQ => ?_)
  subst hE1 hE2
  exact z_X3_foretell_0 hC hN (N := N) (a_t := a_t) (a_t_kind := a_t_kind) (a_t_hand := a_t_hand) (a_t_leader := a_t_leader) (a_t_course := a_t_course) (t_players := t_players) (t_round := t_round) (t_time := t_time) (t_kind := t_kind) (t_hand := t_hand) (t_leader := t_leader) (t_course_first := t_course_first) (t_course_second := t_course_second) (t_course_thrown := t_course_thrown) (l1 := l1) (l2 := l2) hQ hR

/-! FistTrains$Hall.meet -/
abbrev rmX3_meet : Room := { frames := 3, cells := 0, slots := 0, locals := 72 }
set_option maxRecDepth 20000 in
theorem iX3_meet_X3 : ∀ w ∈ wsX30, w ∈ wsX3_meet := by decide +kernel
set_option maxRecDepth 20000 in
theorem mX3_meet_1 : Cond.fieldLink RX3 25 "FistTrains$Hall" "hand" "[I" ∈ wsX3_meet := List.mem_of_getElem? (i := 1) rfl
set_option maxRecDepth 20000 in
theorem mX3_meet_2 : Cond.fieldLink RX3 34 "FistTrains$Hall" "course" "LFistTrains$Course;" ∈ wsX3_meet := List.mem_of_getElem? (i := 2) rfl
set_option maxRecDepth 20000 in
theorem iX3_meet_X2 : ∀ w ∈ wsX20, w ∈ wsX3_meet := by decide +kernel
set_option maxRecDepth 20000 in
theorem mX3_meet_3 : Cond.fieldLink RX3 61 "FistTrains$Course" "first" "I" ∈ wsX3_meet := List.mem_of_getElem? (i := 3) rfl
set_option maxRecDepth 20000 in
theorem mX3_meet_4 : Cond.fieldLink RX3 64 "FistTrains$Course" "second" "I" ∈ wsX3_meet := List.mem_of_getElem? (i := 4) rfl
set_option maxRecDepth 20000 in
theorem mX3_meet_5 : Cond.fieldLink RX3 9 "FistTrains$Hall" "players" "I" ∈ wsX3_meet := List.mem_of_getElem? (i := 5) rfl
set_option maxRecDepth 20000 in
theorem mX3_meet_6 : Cond.fieldLink RX3 28 "FistTrains$Hall" "leader" "[I" ∈ wsX3_meet := List.mem_of_getElem? (i := 6) rfl
def o_X3_meet_48 (N : Nat) (t_players : Int32) (t_hand : (Nat → Int32)) (t_course_first : Int32) (t_course_second : Int32) (t_course_thrown : Int32) (l3 : Int32) (l4 : Int32) : Nat → (Nat → Int32) → Int32 → Option (Int32 × (Nat → Int32) × (Nat → Int32) × Int32 × Int32 × Int32)
  | 0 => fun _ _ => none
  | n + 1 => fun t_leader l5 => 
    if t_players ≤ l5 then
      some (l3, t_hand, t_leader, t_course_first, t_course_second, t_course_thrown)
    else
      ogd (inb l5 8) (
      if (t_leader (Int32.toNatClampNeg l5)) = l4 then
        ogd (inb l5 8) (
        o_X3_meet_48 N t_players t_hand t_course_first t_course_second t_course_thrown l3 l4 n (upd t_leader (Int32.toNatClampNeg l5) l3) (l5 + 1))
      else
        o_X3_meet_48 N t_players t_hand t_course_first t_course_second t_course_thrown l3 l4 n t_leader (l5 + 1))
def o_X3_meet_17 (N : Nat) (t_players : Int32) (t_hand : (Nat → Int32)) (t_leader : (Nat → Int32)) (t_course_first : Int32) (t_course_second : Int32) (t_course_thrown : Int32) (l1 : Int32) (l2 : Int32) (l3 : Int32) (s0 : Int32) : Option (Int32 × (Nat → Int32) × (Nat → Int32) × Int32 × Int32 × Int32) :=
  ogd (inb l1 8) (
  ogd (inb l2 8) (
  o_X3_meet_48 N t_players (upd (upd t_hand (Int32.toNatClampNeg l1) t_course_first) (Int32.toNatClampNeg l2) t_course_second) t_course_first t_course_second t_course_thrown l3 s0 N t_leader 0))
def o_X3_meet (N : Nat) (t_players : Int32) (t_kind : (Nat → Int32)) (t_hand : (Nat → Int32)) (t_leader : (Nat → Int32)) (l1 : Int32) (l2 : Int32) : Option (Int32 × (Nat → Int32) × (Nat → Int32) × Int32 × Int32 × Int32) :=
  Option.bind (o_X3_foretell N t_players t_kind t_hand t_leader l1 l2) (fun r3 =>
  if r3.1 = l1 then
    o_X3_meet_17 N t_players t_hand t_leader r3.2.1 r3.2.2.1 r3.2.2.2 l1 l2 r3.1 l2
  else
    o_X3_meet_17 N t_players t_hand t_leader r3.2.1 r3.2.2.1 r3.2.2.2 l1 l2 r3.1 l1)
set_option maxHeartbeats 4000000 in
set_option maxRecDepth 100000 in
theorem z_X3_meet_48 {sK sV : Nat → Nat} {E : ZE} {cI cB cZ : ClassId} (hC : ZC E 6 cX3_meet wsX3_meet RX3 rmX3_meet (some .int) (zty cI cB cZ)) (hN : ZN sK sV (zA E) (zs E)) {N : Nat} {a_t : Nat} {a_t_kind : Nat} {a_t_hand : Nat} {a_t_leader : Nat} {a_t_course : Nat} {t_players : Int32} {t_round : Int32} {t_time : Int32} {t_kind : (Nat → Int32)} {t_hand : (Nat → Int32)} {t_course_first : Int32} {t_course_second : Int32} {t_course_thrown : Int32} {l3 : Int32} {l4 : Int32} {rf : Int32 × (Nat → Int32) × (Nat → Int32) × Int32 × Int32 × Int32} (hQ : ZQi E (zty cI cB cZ) rf.1 [(a_t, .inr (3, [.int t_players, .int t_round, .int t_time, .ref a_t_kind, .ref a_t_hand, .ref a_t_leader, .ref a_t_course])), (a_t_kind, .inl (cI, 8, .inl t_kind)), (a_t_hand, .inl (cI, 8, .inl rf.2.1)), (a_t_leader, .inl (cI, 8, .inl rf.2.2.1)), (a_t_course, .inr (2, [.int rf.2.2.2.1, .int rf.2.2.2.2.1, .int rf.2.2.2.2.2]))]) : ∀ (n : Nat) (t_leader : (Nat → Int32)) (l5 : Int32), o_X3_meet_48 N t_players t_hand t_course_first t_course_second t_course_thrown l3 l4 n t_leader l5 = some rf → Z E (0, 0) [(0, .ref a_t), (3, .int l3), (4, .int l4), (5, .int l5)] 48 [] [(a_t, .inr (3, [.int t_players, .int t_round, .int t_time, .ref a_t_kind, .ref a_t_hand, .ref a_t_leader, .ref a_t_course])), (a_t_kind, .inl (cI, 8, .inl t_kind)), (a_t_hand, .inl (cI, 8, .inl t_hand)), (a_t_leader, .inl (cI, 8, .inl t_leader)), (a_t_course, .inr (2, [.int t_course_first, .int t_course_second, .int t_course_thrown]))] := by
  intro n
  induction n with
  | zero =>
    intro t_leader l5 hR
    cases hR
  | succ n ih =>
    intro t_leader l5 hR
    rw [o_X3_meet_48] at hR
    refine z_iload hC dX3_meet_48 3 rfl ?_
    refine z_aload_n hC dX3_meet_50 rfl 0 rfl ?_
    refine z_get hC iX3_meet_X3 rfl 0 0 rfl (by decide) mX3_meet_5 rfl rfl dX3_meet_51 ?_
    refine z_icmp_ge hC 83 dX3_meet_54 (by decide) hR (fun hR => ?_) (fun hR => ?_)
    · refine z_iload_n hC dX3_meet_83 rfl 1 rfl ?_
      obtain rfl := Option.some.inj hR
      exact z_iret hC hQ rfl rfl rfl dX3_meet_84
    · refine z_aload_n hC dX3_meet_57 rfl 0 rfl ?_
      refine z_get hC iX3_meet_X3 rfl 0 5 rfl (by decide) mX3_meet_6 rfl rfl dX3_meet_58 ?_
      refine z_iload hC dX3_meet_61 3 rfl ?_
      refine z_iald hC 3 0 rfl rfl dX3_meet_63 hR (fun hR => ?_)
      refine z_iload hC dX3_meet_64 2 rfl ?_
      refine z_icmp_ne hC 77 dX3_meet_66 (by decide) hR (fun hR => ?_) (fun hR => ?_)
      · refine z_iinc1 hC [(5, .int (l5 + 1)), (0, .ref a_t), (3, .int l3), (4, .int l4)] dX3_meet_77 3 rfl (by decide) rfl ?_
        refine z_goto hC 48 dX3_meet_80 (by decide) ?_
        refine z_sub (lv' := [(0, .ref a_t), (3, .int l3), (4, .int l4), (5, .int (l5 + 1))]) [1, 2, 3, 0] rfl ?_
        exact ih t_leader (l5 + 1) hR
      · refine z_aload_n hC dX3_meet_69 rfl 0 rfl ?_
        refine z_get hC iX3_meet_X3 rfl 0 5 rfl (by decide) mX3_meet_6 rfl rfl dX3_meet_70 ?_
        refine z_iload hC dX3_meet_73 3 rfl ?_
        refine z_iload_n hC dX3_meet_75 rfl 1 rfl ?_
        refine z_iast hC 3 0 rfl rfl dX3_meet_76 hR (fun hR => ?_)
        refine z_iinc1 hC [(5, .int (l5 + 1)), (0, .ref a_t), (3, .int l3), (4, .int l4)] dX3_meet_77 3 rfl (by decide) rfl ?_
        refine z_goto hC 48 dX3_meet_80 (by decide) ?_
        refine z_sub (lv' := [(0, .ref a_t), (3, .int l3), (4, .int l4), (5, .int (l5 + 1))]) [1, 2, 3, 0] rfl ?_
        exact ih (upd t_leader (Int32.toNatClampNeg l5) l3) (l5 + 1) hR
set_option maxHeartbeats 4000000 in
set_option maxRecDepth 100000 in
theorem z_X3_meet_17 {sK sV : Nat → Nat} {E : ZE} {cI cB cZ : ClassId} (hC : ZC E 6 cX3_meet wsX3_meet RX3 rmX3_meet (some .int) (zty cI cB cZ)) (hN : ZN sK sV (zA E) (zs E)) {N : Nat} {a_t : Nat} {a_t_kind : Nat} {a_t_hand : Nat} {a_t_leader : Nat} {a_t_course : Nat} {t_players : Int32} {t_round : Int32} {t_time : Int32} {t_kind : (Nat → Int32)} {t_hand : (Nat → Int32)} {t_leader : (Nat → Int32)} {t_course_first : Int32} {t_course_second : Int32} {t_course_thrown : Int32} {l1 : Int32} {l2 : Int32} {l3 : Int32} {s0 : Int32} {rf : Int32 × (Nat → Int32) × (Nat → Int32) × Int32 × Int32 × Int32} (hQ : ZQi E (zty cI cB cZ) rf.1 [(a_t, .inr (3, [.int t_players, .int t_round, .int t_time, .ref a_t_kind, .ref a_t_hand, .ref a_t_leader, .ref a_t_course])), (a_t_kind, .inl (cI, 8, .inl t_kind)), (a_t_hand, .inl (cI, 8, .inl rf.2.1)), (a_t_leader, .inl (cI, 8, .inl rf.2.2.1)), (a_t_course, .inr (2, [.int rf.2.2.2.1, .int rf.2.2.2.2.1, .int rf.2.2.2.2.2]))]) (hR : o_X3_meet_17 N t_players t_hand t_leader t_course_first t_course_second t_course_thrown l1 l2 l3 s0 = some rf) : Z E (0, 0) [(0, .ref a_t), (1, .int l1), (2, .int l2), (3, .int l3)] 17 [.int s0] [(a_t, .inr (3, [.int t_players, .int t_round, .int t_time, .ref a_t_kind, .ref a_t_hand, .ref a_t_leader, .ref a_t_course])), (a_t_kind, .inl (cI, 8, .inl t_kind)), (a_t_hand, .inl (cI, 8, .inl t_hand)), (a_t_leader, .inl (cI, 8, .inl t_leader)), (a_t_course, .inr (2, [.int t_course_first, .int t_course_second, .int t_course_thrown]))] := by
  rw [o_X3_meet_17] at hR
  refine z_istore hC [(4, .int s0), (0, .ref a_t), (1, .int l1), (2, .int l2), (3, .int l3)] dX3_meet_17 (by decide) rfl ?_
  refine z_aload_n hC dX3_meet_19 rfl 1 rfl ?_
  refine z_get hC iX3_meet_X3 rfl 0 4 rfl (by decide) mX3_meet_1 rfl rfl dX3_meet_20 ?_
  refine z_iload_n hC dX3_meet_23 rfl 2 rfl ?_
  refine z_aload_n hC dX3_meet_24 rfl 1 rfl ?_
  refine z_get hC iX3_meet_X3 rfl 0 6 rfl (by decide) mX3_meet_2 rfl rfl dX3_meet_25 ?_
  refine z_get hC iX3_meet_X2 rfl 4 0 rfl (by decide) mX3_meet_3 rfl rfl dX3_meet_28 ?_
  refine z_iast hC 2 0 rfl rfl dX3_meet_31 hR (fun hR => ?_)
  refine z_aload_n hC dX3_meet_32 rfl 1 rfl ?_
  refine z_get hC iX3_meet_X3 rfl 0 4 rfl (by decide) mX3_meet_1 rfl rfl dX3_meet_33 ?_
  refine z_iload_n hC dX3_meet_36 rfl 3 rfl ?_
  refine z_aload_n hC dX3_meet_37 rfl 1 rfl ?_
  refine z_get hC iX3_meet_X3 rfl 0 6 rfl (by decide) mX3_meet_2 rfl rfl dX3_meet_38 ?_
  refine z_get hC iX3_meet_X2 rfl 4 1 rfl (by decide) mX3_meet_4 rfl rfl dX3_meet_41 ?_
  refine z_iast hC 2 0 rfl rfl dX3_meet_44 hR (fun hR => ?_)
  refine z_ic0 hC dX3_meet_45 ?_
  refine z_istore hC [(5, .int 0), (4, .int s0), (0, .ref a_t), (1, .int l1), (2, .int l2), (3, .int l3)] dX3_meet_46 (by decide) rfl ?_
  refine z_sub (lv' := [(0, .ref a_t), (3, .int l3), (4, .int s0), (5, .int 0)]) [2, 5, 1, 0] rfl ?_
  exact z_X3_meet_48 hC hN (N := N) (a_t := a_t) (a_t_kind := a_t_kind) (a_t_hand := a_t_hand) (a_t_leader := a_t_leader) (a_t_course := a_t_course) (t_players := t_players) (t_round := t_round) (t_time := t_time) (t_kind := t_kind) (t_hand := (upd (upd t_hand (Int32.toNatClampNeg l1) t_course_first) (Int32.toNatClampNeg l2) t_course_second)) (t_course_first := t_course_first) (t_course_second := t_course_second) (t_course_thrown := t_course_thrown) (l3 := l3) (l4 := s0) hQ  N t_leader 0 hR
set_option maxHeartbeats 4000000 in
set_option maxRecDepth 100000 in
theorem z_X3_meet_0 {sK sV : Nat → Nat} {E : ZE} {cI cB cZ : ClassId} (hC : ZC E 6 cX3_meet wsX3_meet RX3 rmX3_meet (some .int) (zty cI cB cZ)) (hN : ZN sK sV (zA E) (zs E)) {N : Nat} {a_t : Nat} {a_t_kind : Nat} {a_t_hand : Nat} {a_t_leader : Nat} {a_t_course : Nat} {t_players : Int32} {t_round : Int32} {t_time : Int32} {t_kind : (Nat → Int32)} {t_hand : (Nat → Int32)} {t_leader : (Nat → Int32)} {t_course_first : Int32} {t_course_second : Int32} {t_course_thrown : Int32} {l1 : Int32} {l2 : Int32} {rf : Int32 × (Nat → Int32) × (Nat → Int32) × Int32 × Int32 × Int32} (hQ : ZQi E (zty cI cB cZ) rf.1 [(a_t, .inr (3, [.int t_players, .int t_round, .int t_time, .ref a_t_kind, .ref a_t_hand, .ref a_t_leader, .ref a_t_course])), (a_t_kind, .inl (cI, 8, .inl t_kind)), (a_t_hand, .inl (cI, 8, .inl rf.2.1)), (a_t_leader, .inl (cI, 8, .inl rf.2.2.1)), (a_t_course, .inr (2, [.int rf.2.2.2.1, .int rf.2.2.2.2.1, .int rf.2.2.2.2.2]))]) (hR : o_X3_meet N t_players t_kind t_hand t_leader l1 l2 = some rf) : Z E (0, 0) [(0, .ref a_t), (1, .int l1), (2, .int l2)] 0 [] [(a_t, .inr (3, [.int t_players, .int t_round, .int t_time, .ref a_t_kind, .ref a_t_hand, .ref a_t_leader, .ref a_t_course])), (a_t_kind, .inl (cI, 8, .inl t_kind)), (a_t_hand, .inl (cI, 8, .inl t_hand)), (a_t_leader, .inl (cI, 8, .inl t_leader)), (a_t_course, .inr (2, [.int t_course_first, .int t_course_second, .int t_course_thrown]))] := by
  rw [o_X3_meet] at hR
  refine z_aload_n hC dX3_meet_0 rfl 0 rfl ?_
  refine z_iload_n hC dX3_meet_1 rfl 1 rfl ?_
  refine z_iload_n hC dX3_meet_2 rfl 2 rfl ?_
  refine z_callVi hC hN [.int l1, .int l2] [0, 1, 2, 3, 4] (c_X3_foretell (l := zl E) (D := zD E) (cI := cI) (cB := cB) (cZ := cZ) (N := N) (a_t := a_t) (a_t_kind := a_t_kind) (a_t_hand := a_t_hand) (a_t_leader := a_t_leader) (a_t_course := a_t_course) (l1 := l1) (l2 := l2) (t_players := t_players) (t_round := t_round) (t_time := t_time) (t_kind := t_kind) (t_hand := t_hand) (t_leader := t_leader) (t_course_first := t_course_first) (t_course_second := t_course_second) (t_course_thrown := t_course_thrown)) rfl ⟨rfl, rfl⟩ gX3_meet_X3_foretell hvX3_foretell 0 3 rfl rfl rfl ⟨Nat.le_of_ble_eq_true rfl, Nat.le_of_ble_eq_true rfl⟩ ⟨Nat.zero_le _, Nat.zero_le _⟩ rfl (Nat.le_of_ble_eq_true rfl) rfl (by decide) (fun _ => rfl) dX3_meet_3 hR (fun r3 hR => ?_)
  refine z_istore_n hC [(3, .int r3.1), (0, .ref a_t), (1, .int l1), (2, .int l2)] dX3_meet_6 rfl (by decide) rfl ?_
  refine z_iload_n hC dX3_meet_7 rfl 0 rfl ?_
  refine z_iload_n hC dX3_meet_8 rfl 2 rfl ?_
  refine z_icmp_ne hC 16 dX3_meet_9 (by decide) hR (fun hR => ?_) (fun hR => ?_)
  · refine z_iload_n hC dX3_meet_16 rfl 2 rfl ?_
    refine z_sub (lv' := [(0, .ref a_t), (1, .int l1), (2, .int l2), (3, .int r3.1)]) [1, 2, 3, 0] rfl ?_
    exact z_X3_meet_17 hC hN (N := N) (a_t := a_t) (a_t_kind := a_t_kind) (a_t_hand := a_t_hand) (a_t_leader := a_t_leader) (a_t_course := a_t_course) (t_players := t_players) (t_round := t_round) (t_time := t_time) (t_kind := t_kind) (t_hand := t_hand) (t_leader := t_leader) (t_course_first := r3.2.1) (t_course_second := r3.2.2.1) (t_course_thrown := r3.2.2.2) (l1 := l1) (l2 := l2) (l3 := r3.1) (s0 := l1) hQ  hR
  · refine z_iload_n hC dX3_meet_12 rfl 3 rfl ?_
    refine z_goto hC 17 dX3_meet_13 (by decide) ?_
    refine z_sub (lv' := [(0, .ref a_t), (1, .int l1), (2, .int l2), (3, .int r3.1)]) [1, 2, 3, 0] rfl ?_
    exact z_X3_meet_17 hC hN (N := N) (a_t := a_t) (a_t_kind := a_t_kind) (a_t_hand := a_t_hand) (a_t_leader := a_t_leader) (a_t_course := a_t_course) (t_players := t_players) (t_round := t_round) (t_time := t_time) (t_kind := t_kind) (t_hand := t_hand) (t_leader := t_leader) (t_course_first := r3.2.1) (t_course_second := r3.2.2.1) (t_course_thrown := r3.2.2.2) (l1 := l1) (l2 := l2) (l3 := r3.1) (s0 := l2) hQ  hR
set_option maxHeartbeats 4000000 in
set_option maxRecDepth 100000 in
theorem c_X3_meet {sK sV : Nat → Nat} {l : Launch} {D : va_G} {cI cB cZ : ClassId} {N : Nat} {a_t : Nat} {a_t_kind : Nat} {a_t_hand : Nat} {a_t_leader : Nat} {a_t_course : Nat} {t_players : Int32} {t_round : Int32} {t_time : Int32} {t_kind : (Nat → Int32)} {t_hand : (Nat → Int32)} {t_leader : (Nat → Int32)} {t_course_first : Int32} {t_course_second : Int32} {t_course_thrown : Int32} {l1 : Int32} {l2 : Int32} : ∀ R : Int32 × (Nat → Int32) × (Nat → Int32) × Int32 × Int32 × Int32, o_X3_meet N t_players t_kind t_hand t_leader l1 l2 = some R → ZMi sK sV l yX3_meet wsX3_meet rmX3_meet D (zty cI cB cZ) [.ref a_t, .int l1, .int l2] [(a_t, .inr (3, [.int t_players, .int t_round, .int t_time, .ref a_t_kind, .ref a_t_hand, .ref a_t_leader, .ref a_t_course])), (a_t_kind, .inl (cI, 8, .inl t_kind)), (a_t_hand, .inl (cI, 8, .inl t_hand)), (a_t_leader, .inl (cI, 8, .inl t_leader)), (a_t_course, .inr (2, [.int t_course_first, .int t_course_second, .int t_course_thrown]))] R.1 [(a_t, .inr (3, [.int t_players, .int t_round, .int t_time, .ref a_t_kind, .ref a_t_hand, .ref a_t_leader, .ref a_t_course])), (a_t_kind, .inl (cI, 8, .inl t_kind)), (a_t_hand, .inl (cI, 8, .inl R.2.1)), (a_t_leader, .inl (cI, 8, .inl R.2.2.1)), (a_t_course, .inr (2, [.int R.2.2.2.1, .int R.2.2.2.2.1, .int R.2.2.2.2.2]))] := by
  intro R hR
  refine zi_of (cc := cX3_meet) (maxL := 6) (ret := (some .int)) (by decide) rfl (Nat.le_of_ble_eq_true rfl) (fun E hE1 hE2 hC hN hQ => ?_)
  subst hE1 hE2
  exact z_X3_meet_0 hC hN (N := N) (a_t := a_t) (a_t_kind := a_t_kind) (a_t_hand := a_t_hand) (a_t_leader := a_t_leader) (a_t_course := a_t_course) (t_players := t_players) (t_round := t_round) (t_time := t_time) (t_kind := t_kind) (t_hand := t_hand) (t_leader := t_leader) (t_course_first := t_course_first) (t_course_second := t_course_second) (t_course_thrown := t_course_thrown) (l1 := l1) (l2 := l2) hQ hR

/-! FistTrains$Hall.leaders -/
abbrev rmX3_leaders : Room := { frames := 1, cells := 0, slots := 0, locals := 21 }
set_option maxRecDepth 20000 in
theorem iX3_leaders_X3 : ∀ w ∈ wsX30, w ∈ wsX3_leaders := by decide +kernel
set_option maxRecDepth 20000 in
theorem mX3_leaders_1 : Cond.fieldLink RX3 9 "FistTrains$Hall" "players" "I" ∈ wsX3_leaders := List.mem_of_getElem? (i := 1) rfl
def o_X3_leaders_4 (N : Nat) (t_players : Int32) (t_leader : (Nat → Int32)) : Nat → Int32 → Int32 → Option (Int32)
  | 0 => fun _ _ => none
  | n + 1 => fun l1 l2 => 
    if t_players ≤ l2 then
      some (l1)
    else
      Option.bind (o_X3_leads N t_leader l2) (fun r14 =>
      if r14 = 0 then
        o_X3_leaders_4 N t_players t_leader n l1 (l2 + 1)
      else
        o_X3_leaders_4 N t_players t_leader n (l1 + 1) (l2 + 1))
def o_X3_leaders (N : Nat) (t_players : Int32) (t_leader : (Nat → Int32)) : Option (Int32) :=
  o_X3_leaders_4 N t_players t_leader N 0 0
set_option maxHeartbeats 4000000 in
set_option maxRecDepth 100000 in
theorem z_X3_leaders_4 {sK sV : Nat → Nat} {E : ZE} {cI cB cZ : ClassId} (hC : ZC E 3 cX3_leaders wsX3_leaders RX3 rmX3_leaders (some .int) (zty cI cB cZ)) (hN : ZN sK sV (zA E) (zs E)) {N : Nat} {a_t : Nat} {a_t_leader : Nat} {a_t_kind : Nat} {a_t_hand : Nat} {a_t_course : Nat} {t_players : Int32} {t_round : Int32} {t_time : Int32} {t_leader : (Nat → Int32)} {rf : Int32} (hQ : ZQi E (zty cI cB cZ) rf [(a_t, .inr (3, [.int t_players, .int t_round, .int t_time, .ref a_t_kind, .ref a_t_hand, .ref a_t_leader, .ref a_t_course])), (a_t_leader, .inl (cI, 8, .inl t_leader))]) : ∀ (n : Nat) (l1 : Int32) (l2 : Int32), o_X3_leaders_4 N t_players t_leader n l1 l2 = some rf → Z E (0, 0) [(0, .ref a_t), (1, .int l1), (2, .int l2)] 4 [] [(a_t, .inr (3, [.int t_players, .int t_round, .int t_time, .ref a_t_kind, .ref a_t_hand, .ref a_t_leader, .ref a_t_course])), (a_t_leader, .inl (cI, 8, .inl t_leader))] := by
  intro n
  induction n with
  | zero =>
    intro l1 l2 hR
    cases hR
  | succ n ih =>
    intro l1 l2 hR
    rw [o_X3_leaders_4] at hR
    refine z_iload_n hC dX3_leaders_4 rfl 2 rfl ?_
    refine z_aload_n hC dX3_leaders_5 rfl 0 rfl ?_
    refine z_get hC iX3_leaders_X3 rfl 0 0 rfl (by decide) mX3_leaders_1 rfl rfl dX3_leaders_6 ?_
    refine z_icmp_ge hC 29 dX3_leaders_9 (by decide) hR (fun hR => ?_) (fun hR => ?_)
    · refine z_iload_n hC dX3_leaders_29 rfl 1 rfl ?_
      obtain rfl := Option.some.inj hR
      exact z_iret hC hQ rfl rfl rfl dX3_leaders_30
    · refine z_aload_n hC dX3_leaders_12 rfl 0 rfl ?_
      refine z_iload_n hC dX3_leaders_13 rfl 2 rfl ?_
      refine z_callVi_p hC hN [.int l2] [0, 1] (c_X3_leads (l := zl E) (D := zD E) (cI := cI) (cB := cB) (cZ := cZ) (N := N) (a_t := a_t) (a_t_kind := a_t_kind) (a_t_hand := a_t_hand) (a_t_leader := a_t_leader) (a_t_course := a_t_course) (l1 := l2) (t_players := t_players) (t_round := t_round) (t_time := t_time) (t_leader := t_leader)) rfl ⟨rfl, rfl⟩ gX3_leaders_X3_leads hvX3_leads 0 3 rfl rfl rfl ⟨Nat.le_of_ble_eq_true rfl, Nat.le_of_ble_eq_true rfl⟩ ⟨Nat.zero_le _, Nat.zero_le _⟩ rfl (Nat.le_of_ble_eq_true rfl) rfl (by decide) dX3_leaders_14 hR (fun r14 hR => ?_)
      refine z_if_eq hC 23 dX3_leaders_17 (by decide) hR (fun hR => ?_) (fun hR => ?_)
      · refine z_iinc1 hC [(2, .int (l2 + 1)), (0, .ref a_t), (1, .int l1)] dX3_leaders_23 2 rfl (by decide) rfl ?_
        refine z_goto hC 4 dX3_leaders_26 (by decide) ?_
        refine z_sub (lv' := [(0, .ref a_t), (1, .int l1), (2, .int (l2 + 1))]) [1, 2, 0] rfl ?_
        exact ih l1 (l2 + 1) hR
      · refine z_iinc1 hC [(1, .int (l1 + 1)), (0, .ref a_t), (2, .int l2)] dX3_leaders_20 1 rfl (by decide) rfl ?_
        refine z_iinc1 hC [(2, .int (l2 + 1)), (1, .int (l1 + 1)), (0, .ref a_t)] dX3_leaders_23 2 rfl (by decide) rfl ?_
        refine z_goto hC 4 dX3_leaders_26 (by decide) ?_
        refine z_sub (lv' := [(0, .ref a_t), (1, .int (l1 + 1)), (2, .int (l2 + 1))]) [2, 1, 0] rfl ?_
        exact ih (l1 + 1) (l2 + 1) hR
set_option maxHeartbeats 4000000 in
set_option maxRecDepth 100000 in
theorem z_X3_leaders_0 {sK sV : Nat → Nat} {E : ZE} {cI cB cZ : ClassId} (hC : ZC E 3 cX3_leaders wsX3_leaders RX3 rmX3_leaders (some .int) (zty cI cB cZ)) (hN : ZN sK sV (zA E) (zs E)) {N : Nat} {a_t : Nat} {a_t_leader : Nat} {a_t_kind : Nat} {a_t_hand : Nat} {a_t_course : Nat} {t_players : Int32} {t_round : Int32} {t_time : Int32} {t_leader : (Nat → Int32)} {rf : Int32} (hQ : ZQi E (zty cI cB cZ) rf [(a_t, .inr (3, [.int t_players, .int t_round, .int t_time, .ref a_t_kind, .ref a_t_hand, .ref a_t_leader, .ref a_t_course])), (a_t_leader, .inl (cI, 8, .inl t_leader))]) (hR : o_X3_leaders N t_players t_leader = some rf) : Z E (0, 0) [(0, .ref a_t)] 0 [] [(a_t, .inr (3, [.int t_players, .int t_round, .int t_time, .ref a_t_kind, .ref a_t_hand, .ref a_t_leader, .ref a_t_course])), (a_t_leader, .inl (cI, 8, .inl t_leader))] := by
  rw [o_X3_leaders] at hR
  refine z_ic0 hC dX3_leaders_0 ?_
  refine z_istore_n hC [(1, .int 0), (0, .ref a_t)] dX3_leaders_1 rfl (by decide) rfl ?_
  refine z_ic0 hC dX3_leaders_2 ?_
  refine z_istore_n hC [(2, .int 0), (1, .int 0), (0, .ref a_t)] dX3_leaders_3 rfl (by decide) rfl ?_
  refine z_sub (lv' := [(0, .ref a_t), (1, .int 0), (2, .int 0)]) [2, 1, 0] rfl ?_
  exact z_X3_leaders_4 hC hN (N := N) (a_t := a_t) (a_t_leader := a_t_leader) (a_t_kind := a_t_kind) (a_t_hand := a_t_hand) (a_t_course := a_t_course) (t_players := t_players) (t_round := t_round) (t_time := t_time) (t_leader := t_leader) hQ  N 0 0 hR
set_option maxHeartbeats 4000000 in
set_option maxRecDepth 100000 in
theorem c_X3_leaders {sK sV : Nat → Nat} {l : Launch} {D : va_G} {cI cB cZ : ClassId} {N : Nat} {a_t : Nat} {a_t_leader : Nat} {a_t_kind : Nat} {a_t_hand : Nat} {a_t_course : Nat} {t_players : Int32} {t_round : Int32} {t_time : Int32} {t_leader : (Nat → Int32)} : ∀ R : Int32, o_X3_leaders N t_players t_leader = some R → ZMi sK sV l yX3_leaders wsX3_leaders rmX3_leaders D (zty cI cB cZ) [.ref a_t] [(a_t, .inr (3, [.int t_players, .int t_round, .int t_time, .ref a_t_kind, .ref a_t_hand, .ref a_t_leader, .ref a_t_course])), (a_t_leader, .inl (cI, 8, .inl t_leader))] R [(a_t, .inr (3, [.int t_players, .int t_round, .int t_time, .ref a_t_kind, .ref a_t_hand, .ref a_t_leader, .ref a_t_course])), (a_t_leader, .inl (cI, 8, .inl t_leader))] := by
  intro R hR
  refine zi_of (cc := cX3_leaders) (maxL := 3) (ret := (some .int)) (by decide) rfl (Nat.le_of_ble_eq_true rfl) (fun E hE1 hE2 hC hN hQ => ?_)
  subst hE1 hE2
  exact z_X3_leaders_0 hC hN (N := N) (a_t := a_t) (a_t_leader := a_t_leader) (a_t_kind := a_t_kind) (a_t_hand := a_t_hand) (a_t_course := a_t_course) (t_players := t_players) (t_round := t_round) (t_time := t_time) (t_leader := t_leader) hQ hR

/-! FistTrains$Hall.playRound -/
abbrev rmX3_playRound : Room := { frames := 4, cells := 0, slots := 0, locals := 97 }
set_option maxRecDepth 20000 in
theorem iX3_playRound_X3 : ∀ w ∈ wsX30, w ∈ wsX3_playRound := by decide +kernel
set_option maxRecDepth 20000 in
theorem mX3_playRound_1 : Cond.fieldLink RX3 9 "FistTrains$Hall" "players" "I" ∈ wsX3_playRound := List.mem_of_getElem? (i := 1) rfl
set_option maxRecDepth 20000 in
theorem mX3_playRound_8 : Cond.fieldLink RX3 15 "FistTrains$Hall" "round" "I" ∈ wsX3_playRound := List.mem_of_getElem? (i := 8) rfl
set_option maxRecDepth 20000 in
theorem mX3_playRound_9 : Cond.fieldLink RX3 18 "FistTrains$Hall" "time" "I" ∈ wsX3_playRound := List.mem_of_getElem? (i := 9) rfl
set_option maxRecDepth 20000 in
theorem mX3_playRound_2 : Cond.fieldLink RX3 34 "FistTrains$Hall" "course" "LFistTrains$Course;" ∈ wsX3_playRound := List.mem_of_getElem? (i := 2) rfl
set_option maxRecDepth 20000 in
theorem iX3_playRound_X2 : ∀ w ∈ wsX20, w ∈ wsX3_playRound := by decide +kernel
set_option maxRecDepth 20000 in
theorem mX3_playRound_3 : Cond.fieldLink RX3 70 "FistTrains$Course" "thrown" "I" ∈ wsX3_playRound := List.mem_of_getElem? (i := 3) rfl
set_option maxRecDepth 20000 in
theorem mX3_playRound_4 : Cond.methodLink RX3 73 Lib.Math.max.name ∈ wsX3_playRound := List.mem_of_getElem? (i := 4) rfl
set_option maxRecDepth 20000 in
theorem mX3_playRound_5 : Cond.static Lib.Math.max.name ∈ wsX3_playRound := List.mem_of_getElem? (i := 5) rfl
set_option maxRecDepth 20000 in
theorem mX3_playRound_6 : Cond.initialized "java/lang/Math" ∈ wsX3_playRound := List.mem_of_getElem? (i := 6) rfl
set_option maxRecDepth 20000 in
theorem mX3_playRound_7 : Cond.code Lib.Math.max.name Lib.Math.max.code 2 (some .int) ∈ wsX3_playRound := List.mem_of_getElem? (i := 7) rfl
def o_X3_playRound_31 (N : Nat) (K6 : (Nat → Int32) → (Nat → Int32) → Int32 → Int32 → Int32 → Int32 → Int32 → Int32 → Option (Int32 × Int32 × (Nat → Int32) × (Nat → Int32) × Int32 × Int32 × Int32)) (t_players : Int32) (t_round : Int32) (t_time : Int32) (t_kind : (Nat → Int32)) (t_hand : (Nat → Int32)) (t_leader : (Nat → Int32)) (t_course_first : Int32) (t_course_second : Int32) (t_course_thrown : Int32) (l1 : Int32) (l2 : Int32) (l3 : Int32) : Option (Int32 × Int32 × (Nat → Int32) × (Nat → Int32) × Int32 × Int32 × Int32) :=
  Option.bind (o_X3_leads N t_leader l3) (fun r33 =>
  if r33 = 0 then
    K6 t_hand t_leader t_course_first t_course_second t_course_thrown l1 l2 (l3 + 1)
  else
    Option.bind (o_X3_meet N t_players t_kind t_hand t_leader l1 l3) (fun r42 =>
    K6 r42.2.1 r42.2.2.1 r42.2.2.2.1 r42.2.2.2.2.1 r42.2.2.2.2.2 (-1) (if l2 < r42.2.2.2.2.2 then r42.2.2.2.2.2 else l2) (l3 + 1)))
def o_X3_playRound_6 (N : Nat) (t_players : Int32) (t_round : Int32) (t_time : Int32) (t_kind : (Nat → Int32)) : Nat → (Nat → Int32) → (Nat → Int32) → Int32 → Int32 → Int32 → Int32 → Int32 → Int32 → Option (Int32 × Int32 × (Nat → Int32) × (Nat → Int32) × Int32 × Int32 × Int32)
  | 0 => fun _ _ _ _ _ _ _ _ => none
  | n + 1 => fun t_hand t_leader t_course_first t_course_second t_course_thrown l1 l2 l3 => 
    if t_players ≤ l3 then
      some ((t_round + 1), (t_time + l2), t_hand, t_leader, t_course_first, t_course_second, t_course_thrown)
    else
      Option.bind (o_X3_leads N t_leader l3) (fun r16 =>
      if r16 = 0 then
        o_X3_playRound_31 N (o_X3_playRound_6 N t_players t_round t_time t_kind n) t_players t_round t_time t_kind t_hand t_leader t_course_first t_course_second t_course_thrown l1 l2 l3
      else
        if 0 ≤ l1 then
          o_X3_playRound_31 N (o_X3_playRound_6 N t_players t_round t_time t_kind n) t_players t_round t_time t_kind t_hand t_leader t_course_first t_course_second t_course_thrown l1 l2 l3
        else
          o_X3_playRound_6 N t_players t_round t_time t_kind n t_hand t_leader t_course_first t_course_second t_course_thrown l3 l2 (l3 + 1))
def o_X3_playRound (N : Nat) (t_players : Int32) (t_round : Int32) (t_time : Int32) (t_kind : (Nat → Int32)) (t_hand : (Nat → Int32)) (t_leader : (Nat → Int32)) (t_course_first : Int32) (t_course_second : Int32) (t_course_thrown : Int32) : Option (Int32 × Int32 × (Nat → Int32) × (Nat → Int32) × Int32 × Int32 × Int32) :=
  o_X3_playRound_6 N t_players t_round t_time t_kind N t_hand t_leader t_course_first t_course_second t_course_thrown (-1) 0 0
set_option maxHeartbeats 4000000 in
set_option maxRecDepth 100000 in
theorem z_X3_playRound_31 {sK sV : Nat → Nat} {E : ZE} {cI cB cZ : ClassId} (hC : ZC E 4 cX3_playRound wsX3_playRound RX3 rmX3_playRound none (zty cI cB cZ)) (hN : ZN sK sV (zA E) (zs E)) {N : Nat} {a_t : Nat} {a_t_kind : Nat} {a_t_hand : Nat} {a_t_leader : Nat} {a_t_course : Nat} {t_players : Int32} {t_round : Int32} {t_time : Int32} {t_kind : (Nat → Int32)} {t_hand : (Nat → Int32)} {t_leader : (Nat → Int32)} {t_course_first : Int32} {t_course_second : Int32} {t_course_thrown : Int32} {l1 : Int32} {l2 : Int32} {l3 : Int32} {K6 : (Nat → Int32) → (Nat → Int32) → Int32 → Int32 → Int32 → Int32 → Int32 → Int32 → Option (Int32 × Int32 × (Nat → Int32) × (Nat → Int32) × Int32 × Int32 × Int32)} {rf : Int32 × Int32 × (Nat → Int32) × (Nat → Int32) × Int32 × Int32 × Int32} (hQ : ZQv E (zty cI cB cZ) [(a_t, .inr (3, [.int t_players, .int rf.1, .int rf.2.1, .ref a_t_kind, .ref a_t_hand, .ref a_t_leader, .ref a_t_course])), (a_t_kind, .inl (cI, 8, .inl t_kind)), (a_t_hand, .inl (cI, 8, .inl rf.2.2.1)), (a_t_leader, .inl (cI, 8, .inl rf.2.2.2.1)), (a_t_course, .inr (2, [.int rf.2.2.2.2.1, .int rf.2.2.2.2.2.1, .int rf.2.2.2.2.2.2]))]) (hK6 : ∀ (t_hand : (Nat → Int32)) (t_leader : (Nat → Int32)) (t_course_first : Int32) (t_course_second : Int32) (t_course_thrown : Int32) (l1 : Int32) (l2 : Int32) (l3 : Int32), K6 t_hand t_leader t_course_first t_course_second t_course_thrown l1 l2 l3 = some rf → Z E (0, 0) [(0, .ref a_t), (1, .int l1), (2, .int l2), (3, .int l3)] 6 [] [(a_t, .inr (3, [.int t_players, .int t_round, .int t_time, .ref a_t_kind, .ref a_t_hand, .ref a_t_leader, .ref a_t_course])), (a_t_kind, .inl (cI, 8, .inl t_kind)), (a_t_hand, .inl (cI, 8, .inl t_hand)), (a_t_leader, .inl (cI, 8, .inl t_leader)), (a_t_course, .inr (2, [.int t_course_first, .int t_course_second, .int t_course_thrown]))]) (hR : o_X3_playRound_31 N K6 t_players t_round t_time t_kind t_hand t_leader t_course_first t_course_second t_course_thrown l1 l2 l3 = some rf) : Z E (0, 0) [(0, .ref a_t), (1, .int l1), (2, .int l2), (3, .int l3)] 31 [] [(a_t, .inr (3, [.int t_players, .int t_round, .int t_time, .ref a_t_kind, .ref a_t_hand, .ref a_t_leader, .ref a_t_course])), (a_t_kind, .inl (cI, 8, .inl t_kind)), (a_t_hand, .inl (cI, 8, .inl t_hand)), (a_t_leader, .inl (cI, 8, .inl t_leader)), (a_t_course, .inr (2, [.int t_course_first, .int t_course_second, .int t_course_thrown]))] := by
  rw [o_X3_playRound_31] at hR
  refine z_aload_n hC dX3_playRound_31 rfl 0 rfl ?_
  refine z_iload_n hC dX3_playRound_32 rfl 3 rfl ?_
  refine z_callVi_p hC hN [.int l3] [0, 3] (c_X3_leads (l := zl E) (D := zD E) (cI := cI) (cB := cB) (cZ := cZ) (N := N) (a_t := a_t) (a_t_kind := a_t_kind) (a_t_hand := a_t_hand) (a_t_leader := a_t_leader) (a_t_course := a_t_course) (l1 := l3) (t_players := t_players) (t_round := t_round) (t_time := t_time) (t_leader := t_leader)) rfl ⟨rfl, rfl⟩ gX3_playRound_X3_leads hvX3_leads 0 3 rfl rfl rfl ⟨Nat.le_of_ble_eq_true rfl, Nat.le_of_ble_eq_true rfl⟩ ⟨Nat.zero_le _, Nat.zero_le _⟩ rfl (Nat.le_of_ble_eq_true rfl) rfl (by decide) dX3_playRound_33 hR (fun r33 hR => ?_)
  refine z_if_eq hC 60 dX3_playRound_36 (by decide) hR (fun hR => ?_) (fun hR => ?_)
  · refine z_iinc1 hC [(3, .int (l3 + 1)), (0, .ref a_t), (1, .int l1), (2, .int l2)] dX3_playRound_60 3 rfl (by decide) rfl ?_
    refine z_goto hC 6 dX3_playRound_63 (by decide) ?_
    refine z_sub (lv' := [(0, .ref a_t), (1, .int l1), (2, .int l2), (3, .int (l3 + 1))]) [1, 2, 3, 0] rfl ?_
    exact hK6 t_hand t_leader t_course_first t_course_second t_course_thrown l1 l2 (l3 + 1) hR
  · refine z_aload_n hC dX3_playRound_39 rfl 0 rfl ?_
    refine z_iload_n hC dX3_playRound_40 rfl 1 rfl ?_
    refine z_iload_n hC dX3_playRound_41 rfl 3 rfl ?_
    refine z_callVi hC hN [.int l1, .int l3] [0, 1, 2, 3, 4] (c_X3_meet (l := zl E) (D := zD E) (cI := cI) (cB := cB) (cZ := cZ) (N := N) (a_t := a_t) (a_t_kind := a_t_kind) (a_t_hand := a_t_hand) (a_t_leader := a_t_leader) (a_t_course := a_t_course) (l1 := l1) (l2 := l3) (t_players := t_players) (t_round := t_round) (t_time := t_time) (t_kind := t_kind) (t_hand := t_hand) (t_leader := t_leader) (t_course_first := t_course_first) (t_course_second := t_course_second) (t_course_thrown := t_course_thrown)) rfl ⟨rfl, rfl⟩ gX3_playRound_X3_meet hvX3_meet 0 3 rfl rfl rfl ⟨Nat.le_of_ble_eq_true rfl, Nat.le_of_ble_eq_true rfl⟩ ⟨Nat.zero_le _, Nat.zero_le _⟩ rfl (Nat.le_of_ble_eq_true rfl) rfl (by decide) (fun _ => rfl) dX3_playRound_42 hR (fun r42 hR => ?_)
    refine z_pop hC dX3_playRound_45 rfl ?_
    refine z_iload_n hC dX3_playRound_46 rfl 2 rfl ?_
    refine z_aload_n hC dX3_playRound_47 rfl 0 rfl ?_
    refine z_get hC iX3_playRound_X3 rfl 0 6 rfl (by decide) mX3_playRound_2 rfl rfl dX3_playRound_48 ?_
    refine z_get hC iX3_playRound_X2 rfl 4 2 rfl (by decide) mX3_playRound_3 rfl rfl dX3_playRound_51 ?_
    refine z_mmax hC mX3_playRound_4 mX3_playRound_5 mX3_playRound_6 mX3_playRound_7 (Nat.le_of_ble_eq_true rfl) (Nat.le_of_ble_eq_true rfl) ⟨Nat.zero_le _, Nat.zero_le _⟩ dX3_playRound_54 ?_
    refine z_istore_n hC [(2, .int (if l2 < r42.2.2.2.2.2 then r42.2.2.2.2.2 else l2)), (0, .ref a_t), (1, .int l1), (3, .int l3)] dX3_playRound_57 rfl (by decide) rfl ?_
    refine z_icm1 hC dX3_playRound_58 ?_
    refine z_istore_n hC [(1, .int (-1)), (2, .int (if l2 < r42.2.2.2.2.2 then r42.2.2.2.2.2 else l2)), (0, .ref a_t), (3, .int l3)] dX3_playRound_59 rfl (by decide) rfl ?_
    refine z_iinc1 hC [(3, .int (l3 + 1)), (1, .int (-1)), (2, .int (if l2 < r42.2.2.2.2.2 then r42.2.2.2.2.2 else l2)), (0, .ref a_t)] dX3_playRound_60 3 rfl (by decide) rfl ?_
    refine z_goto hC 6 dX3_playRound_63 (by decide) ?_
    refine z_sub (lv' := [(0, .ref a_t), (1, .int (-1)), (2, .int (if l2 < r42.2.2.2.2.2 then r42.2.2.2.2.2 else l2)), (3, .int (l3 + 1))]) [3, 1, 2, 0] rfl ?_
    exact hK6 r42.2.1 r42.2.2.1 r42.2.2.2.1 r42.2.2.2.2.1 r42.2.2.2.2.2 (-1) (if l2 < r42.2.2.2.2.2 then r42.2.2.2.2.2 else l2) (l3 + 1) hR
set_option maxHeartbeats 4000000 in
set_option maxRecDepth 100000 in
theorem z_X3_playRound_6 {sK sV : Nat → Nat} {E : ZE} {cI cB cZ : ClassId} (hC : ZC E 4 cX3_playRound wsX3_playRound RX3 rmX3_playRound none (zty cI cB cZ)) (hN : ZN sK sV (zA E) (zs E)) {N : Nat} {a_t : Nat} {a_t_kind : Nat} {a_t_hand : Nat} {a_t_leader : Nat} {a_t_course : Nat} {t_players : Int32} {t_round : Int32} {t_time : Int32} {t_kind : (Nat → Int32)} {rf : Int32 × Int32 × (Nat → Int32) × (Nat → Int32) × Int32 × Int32 × Int32} (hQ : ZQv E (zty cI cB cZ) [(a_t, .inr (3, [.int t_players, .int rf.1, .int rf.2.1, .ref a_t_kind, .ref a_t_hand, .ref a_t_leader, .ref a_t_course])), (a_t_kind, .inl (cI, 8, .inl t_kind)), (a_t_hand, .inl (cI, 8, .inl rf.2.2.1)), (a_t_leader, .inl (cI, 8, .inl rf.2.2.2.1)), (a_t_course, .inr (2, [.int rf.2.2.2.2.1, .int rf.2.2.2.2.2.1, .int rf.2.2.2.2.2.2]))]) : ∀ (n : Nat) (t_hand : (Nat → Int32)) (t_leader : (Nat → Int32)) (t_course_first : Int32) (t_course_second : Int32) (t_course_thrown : Int32) (l1 : Int32) (l2 : Int32) (l3 : Int32), o_X3_playRound_6 N t_players t_round t_time t_kind n t_hand t_leader t_course_first t_course_second t_course_thrown l1 l2 l3 = some rf → Z E (0, 0) [(0, .ref a_t), (1, .int l1), (2, .int l2), (3, .int l3)] 6 [] [(a_t, .inr (3, [.int t_players, .int t_round, .int t_time, .ref a_t_kind, .ref a_t_hand, .ref a_t_leader, .ref a_t_course])), (a_t_kind, .inl (cI, 8, .inl t_kind)), (a_t_hand, .inl (cI, 8, .inl t_hand)), (a_t_leader, .inl (cI, 8, .inl t_leader)), (a_t_course, .inr (2, [.int t_course_first, .int t_course_second, .int t_course_thrown]))] := by
  intro n
  induction n with
  | zero =>
    intro t_hand t_leader t_course_first t_course_second t_course_thrown l1 l2 l3 hR
    cases hR
  | succ n ih =>
    intro t_hand t_leader t_course_first t_course_second t_course_thrown l1 l2 l3 hR
    rw [o_X3_playRound_6] at hR
    refine z_iload_n hC dX3_playRound_6 rfl 3 rfl ?_
    refine z_aload_n hC dX3_playRound_7 rfl 0 rfl ?_
    refine z_get hC iX3_playRound_X3 rfl 0 0 rfl (by decide) mX3_playRound_1 rfl rfl dX3_playRound_8 ?_
    refine z_icmp_ge hC 66 dX3_playRound_11 (by decide) hR (fun hR => ?_) (fun hR => ?_)
    · refine z_aload_n hC dX3_playRound_66 rfl 0 rfl ?_
      refine z_dup hC dX3_playRound_67 rfl ?_
      refine z_get hC iX3_playRound_X3 rfl 0 1 rfl (by decide) mX3_playRound_8 rfl rfl dX3_playRound_68 ?_
      refine z_ic1 hC dX3_playRound_71 ?_
      refine z_iadd hC dX3_playRound_72 ?_
      refine z_put hC iX3_playRound_X3 tyX3_ok nmX3 rfl 0 1 rfl (by decide) mX3_playRound_8 rfl rfl rfl rfl (Nat.le_of_ble_eq_true rfl) dX3_playRound_73 ?_
      refine z_aload_n hC dX3_playRound_76 rfl 0 rfl ?_
      refine z_dup hC dX3_playRound_77 rfl ?_
      refine z_get hC iX3_playRound_X3 rfl 0 2 rfl (by decide) mX3_playRound_9 rfl rfl dX3_playRound_78 ?_
      refine z_iload_n hC dX3_playRound_81 rfl 2 rfl ?_
      refine z_iadd hC dX3_playRound_82 ?_
      refine z_put hC iX3_playRound_X3 tyX3_ok nmX3 rfl 0 2 rfl (by decide) mX3_playRound_9 rfl rfl rfl rfl (Nat.le_of_ble_eq_true rfl) dX3_playRound_83 ?_
      obtain rfl := Option.some.inj hR
      exact z_vret hC hQ rfl dX3_playRound_86
    · refine z_aload_n hC dX3_playRound_14 rfl 0 rfl ?_
      refine z_iload_n hC dX3_playRound_15 rfl 3 rfl ?_
      refine z_callVi_p hC hN [.int l3] [0, 3] (c_X3_leads (l := zl E) (D := zD E) (cI := cI) (cB := cB) (cZ := cZ) (N := N) (a_t := a_t) (a_t_kind := a_t_kind) (a_t_hand := a_t_hand) (a_t_leader := a_t_leader) (a_t_course := a_t_course) (l1 := l3) (t_players := t_players) (t_round := t_round) (t_time := t_time) (t_leader := t_leader)) rfl ⟨rfl, rfl⟩ gX3_playRound_X3_leads hvX3_leads 0 3 rfl rfl rfl ⟨Nat.le_of_ble_eq_true rfl, Nat.le_of_ble_eq_true rfl⟩ ⟨Nat.zero_le _, Nat.zero_le _⟩ rfl (Nat.le_of_ble_eq_true rfl) rfl (by decide) dX3_playRound_16 hR (fun r16 hR => ?_)
      refine z_if_eq hC 31 dX3_playRound_19 (by decide) hR (fun hR => ?_) (fun hR => ?_)
      · exact z_X3_playRound_31 hC hN (N := N) (a_t := a_t) (a_t_kind := a_t_kind) (a_t_hand := a_t_hand) (a_t_leader := a_t_leader) (a_t_course := a_t_course) (t_players := t_players) (t_round := t_round) (t_time := t_time) (t_kind := t_kind) (t_hand := t_hand) (t_leader := t_leader) (t_course_first := t_course_first) (t_course_second := t_course_second) (t_course_thrown := t_course_thrown) (l1 := l1) (l2 := l2) (l3 := l3) hQ ih hR
      · refine z_iload_n hC dX3_playRound_22 rfl 1 rfl ?_
        refine z_if_ge hC 31 dX3_playRound_23 (by decide) hR (fun hR => ?_) (fun hR => ?_)
        · exact z_X3_playRound_31 hC hN (N := N) (a_t := a_t) (a_t_kind := a_t_kind) (a_t_hand := a_t_hand) (a_t_leader := a_t_leader) (a_t_course := a_t_course) (t_players := t_players) (t_round := t_round) (t_time := t_time) (t_kind := t_kind) (t_hand := t_hand) (t_leader := t_leader) (t_course_first := t_course_first) (t_course_second := t_course_second) (t_course_thrown := t_course_thrown) (l1 := l1) (l2 := l2) (l3 := l3) hQ ih hR
        · refine z_iload_n hC dX3_playRound_26 rfl 3 rfl ?_
          refine z_istore_n hC [(1, .int l3), (0, .ref a_t), (2, .int l2), (3, .int l3)] dX3_playRound_27 rfl (by decide) rfl ?_
          refine z_goto hC 60 dX3_playRound_28 (by decide) ?_
          refine z_iinc1 hC [(3, .int (l3 + 1)), (1, .int l3), (0, .ref a_t), (2, .int l2)] dX3_playRound_60 3 rfl (by decide) rfl ?_
          refine z_goto hC 6 dX3_playRound_63 (by decide) ?_
          refine z_sub (lv' := [(0, .ref a_t), (1, .int l3), (2, .int l2), (3, .int (l3 + 1))]) [2, 1, 3, 0] rfl ?_
          exact ih t_hand t_leader t_course_first t_course_second t_course_thrown l3 l2 (l3 + 1) hR
set_option maxHeartbeats 4000000 in
set_option maxRecDepth 100000 in
theorem z_X3_playRound_0 {sK sV : Nat → Nat} {E : ZE} {cI cB cZ : ClassId} (hC : ZC E 4 cX3_playRound wsX3_playRound RX3 rmX3_playRound none (zty cI cB cZ)) (hN : ZN sK sV (zA E) (zs E)) {N : Nat} {a_t : Nat} {a_t_kind : Nat} {a_t_hand : Nat} {a_t_leader : Nat} {a_t_course : Nat} {t_players : Int32} {t_round : Int32} {t_time : Int32} {t_kind : (Nat → Int32)} {t_hand : (Nat → Int32)} {t_leader : (Nat → Int32)} {t_course_first : Int32} {t_course_second : Int32} {t_course_thrown : Int32} {rf : Int32 × Int32 × (Nat → Int32) × (Nat → Int32) × Int32 × Int32 × Int32} (hQ : ZQv E (zty cI cB cZ) [(a_t, .inr (3, [.int t_players, .int rf.1, .int rf.2.1, .ref a_t_kind, .ref a_t_hand, .ref a_t_leader, .ref a_t_course])), (a_t_kind, .inl (cI, 8, .inl t_kind)), (a_t_hand, .inl (cI, 8, .inl rf.2.2.1)), (a_t_leader, .inl (cI, 8, .inl rf.2.2.2.1)), (a_t_course, .inr (2, [.int rf.2.2.2.2.1, .int rf.2.2.2.2.2.1, .int rf.2.2.2.2.2.2]))]) (hR : o_X3_playRound N t_players t_round t_time t_kind t_hand t_leader t_course_first t_course_second t_course_thrown = some rf) : Z E (0, 0) [(0, .ref a_t)] 0 [] [(a_t, .inr (3, [.int t_players, .int t_round, .int t_time, .ref a_t_kind, .ref a_t_hand, .ref a_t_leader, .ref a_t_course])), (a_t_kind, .inl (cI, 8, .inl t_kind)), (a_t_hand, .inl (cI, 8, .inl t_hand)), (a_t_leader, .inl (cI, 8, .inl t_leader)), (a_t_course, .inr (2, [.int t_course_first, .int t_course_second, .int t_course_thrown]))] := by
  rw [o_X3_playRound] at hR
  refine z_icm1 hC dX3_playRound_0 ?_
  refine z_istore_n hC [(1, .int (-1)), (0, .ref a_t)] dX3_playRound_1 rfl (by decide) rfl ?_
  refine z_ic0 hC dX3_playRound_2 ?_
  refine z_istore_n hC [(2, .int 0), (1, .int (-1)), (0, .ref a_t)] dX3_playRound_3 rfl (by decide) rfl ?_
  refine z_ic0 hC dX3_playRound_4 ?_
  refine z_istore_n hC [(3, .int 0), (2, .int 0), (1, .int (-1)), (0, .ref a_t)] dX3_playRound_5 rfl (by decide) rfl ?_
  refine z_sub (lv' := [(0, .ref a_t), (1, .int (-1)), (2, .int 0), (3, .int 0)]) [3, 2, 1, 0] rfl ?_
  exact z_X3_playRound_6 hC hN (N := N) (a_t := a_t) (a_t_kind := a_t_kind) (a_t_hand := a_t_hand) (a_t_leader := a_t_leader) (a_t_course := a_t_course) (t_players := t_players) (t_round := t_round) (t_time := t_time) (t_kind := t_kind) hQ  N t_hand t_leader t_course_first t_course_second t_course_thrown (-1) 0 0 hR
set_option maxHeartbeats 4000000 in
set_option maxRecDepth 100000 in
theorem c_X3_playRound {sK sV : Nat → Nat} {l : Launch} {D : va_G} {cI cB cZ : ClassId} {N : Nat} {a_t : Nat} {a_t_kind : Nat} {a_t_hand : Nat} {a_t_leader : Nat} {a_t_course : Nat} {t_players : Int32} {t_round : Int32} {t_time : Int32} {t_kind : (Nat → Int32)} {t_hand : (Nat → Int32)} {t_leader : (Nat → Int32)} {t_course_first : Int32} {t_course_second : Int32} {t_course_thrown : Int32} : ∀ R : Int32 × Int32 × (Nat → Int32) × (Nat → Int32) × Int32 × Int32 × Int32, o_X3_playRound N t_players t_round t_time t_kind t_hand t_leader t_course_first t_course_second t_course_thrown = some R → ZMv sK sV l yX3_playRound wsX3_playRound rmX3_playRound D (zty cI cB cZ) [.ref a_t] [(a_t, .inr (3, [.int t_players, .int t_round, .int t_time, .ref a_t_kind, .ref a_t_hand, .ref a_t_leader, .ref a_t_course])), (a_t_kind, .inl (cI, 8, .inl t_kind)), (a_t_hand, .inl (cI, 8, .inl t_hand)), (a_t_leader, .inl (cI, 8, .inl t_leader)), (a_t_course, .inr (2, [.int t_course_first, .int t_course_second, .int t_course_thrown]))] [(a_t, .inr (3, [.int t_players, .int R.1, .int R.2.1, .ref a_t_kind, .ref a_t_hand, .ref a_t_leader, .ref a_t_course])), (a_t_kind, .inl (cI, 8, .inl t_kind)), (a_t_hand, .inl (cI, 8, .inl R.2.2.1)), (a_t_leader, .inl (cI, 8, .inl R.2.2.2.1)), (a_t_course, .inr (2, [.int R.2.2.2.2.1, .int R.2.2.2.2.2.1, .int R.2.2.2.2.2.2]))] := by
  intro R hR
  refine zv_of (cc := cX3_playRound) (maxL := 4) (ret := none) (by decide) rfl (Nat.le_of_ble_eq_true rfl) (fun E hE1 hE2 hC hN hQ => ?_)
  subst hE1 hE2
  exact z_X3_playRound_0 hC hN (N := N) (a_t := a_t) (a_t_kind := a_t_kind) (a_t_hand := a_t_hand) (a_t_leader := a_t_leader) (a_t_course := a_t_course) (t_players := t_players) (t_round := t_round) (t_time := t_time) (t_kind := t_kind) (t_hand := t_hand) (t_leader := t_leader) (t_course_first := t_course_first) (t_course_second := t_course_second) (t_course_thrown := t_course_thrown) hQ hR

/-! FistTrains$Hall.isMissing -/
abbrev rmX3_isMissing : Room := { frames := 0, cells := 0, slots := 0, locals := 0 }
set_option maxRecDepth 20000 in
theorem iX3_isMissing_X3 : ∀ w ∈ wsX30, w ∈ wsX3_isMissing := by decide +kernel
set_option maxRecDepth 20000 in
theorem mX3_isMissing_1 : Cond.fieldLink RX3 9 "FistTrains$Hall" "players" "I" ∈ wsX3_isMissing := List.mem_of_getElem? (i := 1) rfl
def o_X3_isMissing (N : Nat) (t_players : Int32) : Option (Int32) :=
  if t_players = 0 then
    some (1)
  else
    some (0)
set_option maxHeartbeats 4000000 in
set_option maxRecDepth 100000 in
theorem z_X3_isMissing_0 {sK sV : Nat → Nat} {E : ZE} {cI cB cZ : ClassId} (hC : ZC E 1 cX3_isMissing wsX3_isMissing RX3 rmX3_isMissing (some .boolean) (zty cI cB cZ)) (hN : ZN sK sV (zA E) (zs E)) {N : Nat} {a_t : Nat} {a_t_kind : Nat} {a_t_hand : Nat} {a_t_leader : Nat} {a_t_course : Nat} {t_players : Int32} {t_round : Int32} {t_time : Int32} {rf : Int32} (hQ : ZQi E (zty cI cB cZ) rf [(a_t, .inr (3, [.int t_players, .int t_round, .int t_time, .ref a_t_kind, .ref a_t_hand, .ref a_t_leader, .ref a_t_course]))]) (hR : o_X3_isMissing N t_players = some rf) : Z E (0, 0) [(0, .ref a_t)] 0 [] [(a_t, .inr (3, [.int t_players, .int t_round, .int t_time, .ref a_t_kind, .ref a_t_hand, .ref a_t_leader, .ref a_t_course]))] := by
  rw [o_X3_isMissing] at hR
  refine z_aload_n hC dX3_isMissing_0 rfl 0 rfl ?_
  refine z_get hC iX3_isMissing_X3 rfl 0 0 rfl (by decide) mX3_isMissing_1 rfl rfl dX3_isMissing_1 ?_
  refine z_if_ne hC 11 dX3_isMissing_4 (by decide) hR (fun hR => ?_) (fun hR => ?_)
  · refine z_ic0 hC dX3_isMissing_11 ?_
    obtain rfl := Option.some.inj hR
    exact z_iret hC hQ rfl rfl rfl dX3_isMissing_12
  · refine z_ic1 hC dX3_isMissing_7 ?_
    refine z_goto hC 12 dX3_isMissing_8 (by decide) ?_
    obtain rfl := Option.some.inj hR
    exact z_iret hC hQ rfl rfl rfl dX3_isMissing_12
set_option maxHeartbeats 4000000 in
set_option maxRecDepth 100000 in
theorem c_X3_isMissing {sK sV : Nat → Nat} {l : Launch} {D : va_G} {cI cB cZ : ClassId} {N : Nat} {a_t : Nat} {a_t_kind : Nat} {a_t_hand : Nat} {a_t_leader : Nat} {a_t_course : Nat} {t_players : Int32} {t_round : Int32} {t_time : Int32} : ∀ R : Int32, o_X3_isMissing N t_players = some R → ZMi sK sV l yX3_isMissing wsX3_isMissing rmX3_isMissing D (zty cI cB cZ) [.ref a_t] [(a_t, .inr (3, [.int t_players, .int t_round, .int t_time, .ref a_t_kind, .ref a_t_hand, .ref a_t_leader, .ref a_t_course]))] R [(a_t, .inr (3, [.int t_players, .int t_round, .int t_time, .ref a_t_kind, .ref a_t_hand, .ref a_t_leader, .ref a_t_course]))] := by
  intro R hR
  refine zi_of (cc := cX3_isMissing) (maxL := 1) (ret := (some .boolean)) (by decide) rfl (Nat.le_of_ble_eq_true rfl) (fun E hE1 hE2 hC hN hQ => ?_)
  subst hE1 hE2
  exact z_X3_isMissing_0 hC hN (N := N) (a_t := a_t) (a_t_kind := a_t_kind) (a_t_hand := a_t_hand) (a_t_leader := a_t_leader) (a_t_course := a_t_course) (t_players := t_players) (t_round := t_round) (t_time := t_time) hQ hR

/-! FistTrains$Hall.load -/
abbrev rmX3_load : Room := { frames := 0, cells := 0, slots := 0, locals := 0 }
set_option maxRecDepth 20000 in
theorem iX3_load_X3 : ∀ w ∈ wsX30, w ∈ wsX3_load := by decide +kernel
set_option maxRecDepth 20000 in
theorem mX3_load_1 : Cond.fieldLink RX3 9 "FistTrains$Hall" "players" "I" ∈ wsX3_load := List.mem_of_getElem? (i := 1) rfl
set_option maxRecDepth 20000 in
theorem mX3_load_2 : Cond.fieldLink RX3 15 "FistTrains$Hall" "round" "I" ∈ wsX3_load := List.mem_of_getElem? (i := 2) rfl
set_option maxRecDepth 20000 in
theorem mX3_load_3 : Cond.fieldLink RX3 18 "FistTrains$Hall" "time" "I" ∈ wsX3_load := List.mem_of_getElem? (i := 3) rfl
set_option maxRecDepth 20000 in
theorem mX3_load_4 : Cond.fieldLink RX3 21 "FistTrains$Hall" "kind" "[I" ∈ wsX3_load := List.mem_of_getElem? (i := 4) rfl
set_option maxRecDepth 20000 in
theorem mX3_load_5 : Cond.fieldLink RX3 25 "FistTrains$Hall" "hand" "[I" ∈ wsX3_load := List.mem_of_getElem? (i := 5) rfl
set_option maxRecDepth 20000 in
theorem mX3_load_6 : Cond.fieldLink RX3 28 "FistTrains$Hall" "leader" "[I" ∈ wsX3_load := List.mem_of_getElem? (i := 6) rfl
def o_X3_load_27 (N : Nat) (p1_n : Nat) (t_players : Int32) (t_round : Int32) (t_time : Int32) (p1 : (Nat → Int32)) (l2 : Int32) : Nat → (Nat → Int32) → (Nat → Int32) → (Nat → Int32) → Int32 → Option (Int32 × Int32 × Int32 × (Nat → Int32) × (Nat → Int32) × (Nat → Int32))
  | 0 => fun _ _ _ _ => none
  | n + 1 => fun t_kind t_hand t_leader l3 => 
    if 8 ≤ l3 then
      some (t_players, t_round, t_time, t_kind, t_hand, t_leader)
    else
      ogd (inb ((l2 + 3) + l3) p1_n) (
      ogd (inb l3 8) (
      ogd (inb (((l2 + 3) + 8) + l3) p1_n) (
      ogd (inb l3 8) (
      ogd (inb (((l2 + 3) + 16) + l3) p1_n) (
      ogd (inb l3 8) (
      o_X3_load_27 N p1_n t_players t_round t_time p1 l2 n (upd t_kind (Int32.toNatClampNeg l3) (p1 (Int32.toNatClampNeg ((l2 + 3) + l3)))) (upd t_hand (Int32.toNatClampNeg l3) (p1 (Int32.toNatClampNeg (((l2 + 3) + 8) + l3)))) (upd t_leader (Int32.toNatClampNeg l3) (p1 (Int32.toNatClampNeg (((l2 + 3) + 16) + l3)))) (l3 + 1)))))))
def o_X3_load (N : Nat) (p1_n : Nat) (t_kind : (Nat → Int32)) (t_hand : (Nat → Int32)) (t_leader : (Nat → Int32)) (p1 : (Nat → Int32)) (l2 : Int32) : Option (Int32 × Int32 × Int32 × (Nat → Int32) × (Nat → Int32) × (Nat → Int32)) :=
  ogd (inb l2 p1_n) (
  ogd (inb (l2 + 1) p1_n) (
  ogd (inb (l2 + 2) p1_n) (
  o_X3_load_27 N p1_n (p1 (Int32.toNatClampNeg l2)) (p1 (Int32.toNatClampNeg (l2 + 1))) (p1 (Int32.toNatClampNeg (l2 + 2))) p1 l2 N t_kind t_hand t_leader 0)))
set_option maxHeartbeats 4000000 in
set_option maxRecDepth 100000 in
theorem z_X3_load_27 {sK sV : Nat → Nat} {E : ZE} {cI cB cZ : ClassId} (hC : ZC E 4 cX3_load wsX3_load RX3 rmX3_load none (zty cI cB cZ)) (hN : ZN sK sV (zA E) (zs E)) {N : Nat} {a_t : Nat} {a_t_kind : Nat} {a_t_hand : Nat} {a_t_leader : Nat} {a_p1 : Nat} {a_t_course : Nat} {p1_n : Nat} {t_players : Int32} {t_round : Int32} {t_time : Int32} {p1 : (Nat → Int32)} {l2 : Int32} {rf : Int32 × Int32 × Int32 × (Nat → Int32) × (Nat → Int32) × (Nat → Int32)} (hQ : ZQv E (zty cI cB cZ) [(a_t, .inr (3, [.int rf.1, .int rf.2.1, .int rf.2.2.1, .ref a_t_kind, .ref a_t_hand, .ref a_t_leader, .ref a_t_course])), (a_t_kind, .inl (cI, 8, .inl rf.2.2.2.1)), (a_t_hand, .inl (cI, 8, .inl rf.2.2.2.2.1)), (a_t_leader, .inl (cI, 8, .inl rf.2.2.2.2.2)), (a_p1, .inl (cI, p1_n, .inl p1))]) : ∀ (n : Nat) (t_kind : (Nat → Int32)) (t_hand : (Nat → Int32)) (t_leader : (Nat → Int32)) (l3 : Int32), o_X3_load_27 N p1_n t_players t_round t_time p1 l2 n t_kind t_hand t_leader l3 = some rf → Z E (0, 0) [(0, .ref a_t), (1, .ref a_p1), (2, .int l2), (3, .int l3)] 27 [] [(a_t, .inr (3, [.int t_players, .int t_round, .int t_time, .ref a_t_kind, .ref a_t_hand, .ref a_t_leader, .ref a_t_course])), (a_t_kind, .inl (cI, 8, .inl t_kind)), (a_t_hand, .inl (cI, 8, .inl t_hand)), (a_t_leader, .inl (cI, 8, .inl t_leader)), (a_p1, .inl (cI, p1_n, .inl p1))] := by
  intro n
  induction n with
  | zero =>
    intro t_kind t_hand t_leader l3 hR
    cases hR
  | succ n ih =>
    intro t_kind t_hand t_leader l3 hR
    rw [o_X3_load_27] at hR
    refine z_iload_n hC dX3_load_27 rfl 3 rfl ?_
    refine z_bipush (v := 8) hC dX3_load_28 (by decide) ?_
    refine z_icmp_ge hC 84 dX3_load_30 (by decide) hR (fun hR => ?_) (fun hR => ?_)
    · obtain rfl := Option.some.inj hR
      exact z_vret hC hQ rfl dX3_load_84
    · refine z_aload_n hC dX3_load_33 rfl 0 rfl ?_
      refine z_get hC iX3_load_X3 rfl 0 3 rfl (by decide) mX3_load_4 rfl rfl dX3_load_34 ?_
      refine z_iload_n hC dX3_load_37 rfl 3 rfl ?_
      refine z_aload_n hC dX3_load_38 rfl 1 rfl ?_
      refine z_iload_n hC dX3_load_39 rfl 2 rfl ?_
      refine z_ic3 hC dX3_load_40 ?_
      refine z_iadd hC dX3_load_41 ?_
      refine z_iload_n hC dX3_load_42 rfl 3 rfl ?_
      refine z_iadd hC dX3_load_43 ?_
      refine z_iald hC 4 0 rfl rfl dX3_load_44 hR (fun hR => ?_)
      refine z_iast hC 1 0 rfl rfl dX3_load_45 hR (fun hR => ?_)
      refine z_aload_n hC dX3_load_46 rfl 0 rfl ?_
      refine z_get hC iX3_load_X3 rfl 0 4 rfl (by decide) mX3_load_5 rfl rfl dX3_load_47 ?_
      refine z_iload_n hC dX3_load_50 rfl 3 rfl ?_
      refine z_aload_n hC dX3_load_51 rfl 1 rfl ?_
      refine z_iload_n hC dX3_load_52 rfl 2 rfl ?_
      refine z_ic3 hC dX3_load_53 ?_
      refine z_iadd hC dX3_load_54 ?_
      refine z_bipush (v := 8) hC dX3_load_55 (by decide) ?_
      refine z_iadd hC dX3_load_57 ?_
      refine z_iload_n hC dX3_load_58 rfl 3 rfl ?_
      refine z_iadd hC dX3_load_59 ?_
      refine z_iald hC 4 0 rfl rfl dX3_load_60 hR (fun hR => ?_)
      refine z_iast hC 2 0 rfl rfl dX3_load_61 hR (fun hR => ?_)
      refine z_aload_n hC dX3_load_62 rfl 0 rfl ?_
      refine z_get hC iX3_load_X3 rfl 0 5 rfl (by decide) mX3_load_6 rfl rfl dX3_load_63 ?_
      refine z_iload_n hC dX3_load_66 rfl 3 rfl ?_
      refine z_aload_n hC dX3_load_67 rfl 1 rfl ?_
      refine z_iload_n hC dX3_load_68 rfl 2 rfl ?_
      refine z_ic3 hC dX3_load_69 ?_
      refine z_iadd hC dX3_load_70 ?_
      refine z_bipush (v := 16) hC dX3_load_71 (by decide) ?_
      refine z_iadd hC dX3_load_73 ?_
      refine z_iload_n hC dX3_load_74 rfl 3 rfl ?_
      refine z_iadd hC dX3_load_75 ?_
      refine z_iald hC 4 0 rfl rfl dX3_load_76 hR (fun hR => ?_)
      refine z_iast hC 3 0 rfl rfl dX3_load_77 hR (fun hR => ?_)
      refine z_iinc1 hC [(3, .int (l3 + 1)), (0, .ref a_t), (1, .ref a_p1), (2, .int l2)] dX3_load_78 3 rfl (by decide) rfl ?_
      refine z_goto hC 27 dX3_load_81 (by decide) ?_
      refine z_sub (lv' := [(0, .ref a_t), (1, .ref a_p1), (2, .int l2), (3, .int (l3 + 1))]) [1, 2, 3, 0] rfl ?_
      exact ih (upd t_kind (Int32.toNatClampNeg l3) (p1 (Int32.toNatClampNeg ((l2 + 3) + l3)))) (upd t_hand (Int32.toNatClampNeg l3) (p1 (Int32.toNatClampNeg (((l2 + 3) + 8) + l3)))) (upd t_leader (Int32.toNatClampNeg l3) (p1 (Int32.toNatClampNeg (((l2 + 3) + 16) + l3)))) (l3 + 1) hR
set_option maxHeartbeats 4000000 in
set_option maxRecDepth 100000 in
theorem z_X3_load_0 {sK sV : Nat → Nat} {E : ZE} {cI cB cZ : ClassId} (hC : ZC E 4 cX3_load wsX3_load RX3 rmX3_load none (zty cI cB cZ)) (hN : ZN sK sV (zA E) (zs E)) {N : Nat} {a_t : Nat} {a_t_kind : Nat} {a_t_hand : Nat} {a_t_leader : Nat} {a_p1 : Nat} {a_t_course : Nat} {p1_n : Nat} {t_players : Int32} {t_round : Int32} {t_time : Int32} {t_kind : (Nat → Int32)} {t_hand : (Nat → Int32)} {t_leader : (Nat → Int32)} {p1 : (Nat → Int32)} {l2 : Int32} {rf : Int32 × Int32 × Int32 × (Nat → Int32) × (Nat → Int32) × (Nat → Int32)} (hQ : ZQv E (zty cI cB cZ) [(a_t, .inr (3, [.int rf.1, .int rf.2.1, .int rf.2.2.1, .ref a_t_kind, .ref a_t_hand, .ref a_t_leader, .ref a_t_course])), (a_t_kind, .inl (cI, 8, .inl rf.2.2.2.1)), (a_t_hand, .inl (cI, 8, .inl rf.2.2.2.2.1)), (a_t_leader, .inl (cI, 8, .inl rf.2.2.2.2.2)), (a_p1, .inl (cI, p1_n, .inl p1))]) (hR : o_X3_load N p1_n t_kind t_hand t_leader p1 l2 = some rf) : Z E (0, 0) [(0, .ref a_t), (1, .ref a_p1), (2, .int l2)] 0 [] [(a_t, .inr (3, [.int t_players, .int t_round, .int t_time, .ref a_t_kind, .ref a_t_hand, .ref a_t_leader, .ref a_t_course])), (a_t_kind, .inl (cI, 8, .inl t_kind)), (a_t_hand, .inl (cI, 8, .inl t_hand)), (a_t_leader, .inl (cI, 8, .inl t_leader)), (a_p1, .inl (cI, p1_n, .inl p1))] := by
  rw [o_X3_load] at hR
  refine z_aload_n hC dX3_load_0 rfl 0 rfl ?_
  refine z_aload_n hC dX3_load_1 rfl 1 rfl ?_
  refine z_iload_n hC dX3_load_2 rfl 2 rfl ?_
  refine z_iald hC 4 0 rfl rfl dX3_load_3 hR (fun hR => ?_)
  refine z_put hC iX3_load_X3 tyX3_ok nmX3 rfl 0 0 rfl (by decide) mX3_load_1 rfl rfl rfl rfl (Nat.le_of_ble_eq_true rfl) dX3_load_4 ?_
  refine z_aload_n hC dX3_load_7 rfl 0 rfl ?_
  refine z_aload_n hC dX3_load_8 rfl 1 rfl ?_
  refine z_iload_n hC dX3_load_9 rfl 2 rfl ?_
  refine z_ic1 hC dX3_load_10 ?_
  refine z_iadd hC dX3_load_11 ?_
  refine z_iald hC 4 0 rfl rfl dX3_load_12 hR (fun hR => ?_)
  refine z_put hC iX3_load_X3 tyX3_ok nmX3 rfl 0 1 rfl (by decide) mX3_load_2 rfl rfl rfl rfl (Nat.le_of_ble_eq_true rfl) dX3_load_13 ?_
  refine z_aload_n hC dX3_load_16 rfl 0 rfl ?_
  refine z_aload_n hC dX3_load_17 rfl 1 rfl ?_
  refine z_iload_n hC dX3_load_18 rfl 2 rfl ?_
  refine z_ic2 hC dX3_load_19 ?_
  refine z_iadd hC dX3_load_20 ?_
  refine z_iald hC 4 0 rfl rfl dX3_load_21 hR (fun hR => ?_)
  refine z_put hC iX3_load_X3 tyX3_ok nmX3 rfl 0 2 rfl (by decide) mX3_load_3 rfl rfl rfl rfl (Nat.le_of_ble_eq_true rfl) dX3_load_22 ?_
  refine z_ic0 hC dX3_load_25 ?_
  refine z_istore_n hC [(3, .int 0), (0, .ref a_t), (1, .ref a_p1), (2, .int l2)] dX3_load_26 rfl (by decide) rfl ?_
  refine z_sub (lv' := [(0, .ref a_t), (1, .ref a_p1), (2, .int l2), (3, .int 0)]) [1, 2, 3, 0] rfl ?_
  exact z_X3_load_27 hC hN (N := N) (a_t := a_t) (a_t_kind := a_t_kind) (a_t_hand := a_t_hand) (a_t_leader := a_t_leader) (a_p1 := a_p1) (a_t_course := a_t_course) (p1_n := p1_n) (t_players := (p1 (Int32.toNatClampNeg l2))) (t_round := (p1 (Int32.toNatClampNeg (l2 + 1)))) (t_time := (p1 (Int32.toNatClampNeg (l2 + 2)))) (p1 := p1) (l2 := l2) hQ  N t_kind t_hand t_leader 0 hR
set_option maxHeartbeats 4000000 in
set_option maxRecDepth 100000 in
theorem c_X3_load {sK sV : Nat → Nat} {l : Launch} {D : va_G} {cI cB cZ : ClassId} {N : Nat} {a_t : Nat} {a_t_kind : Nat} {a_t_hand : Nat} {a_t_leader : Nat} {a_p1 : Nat} {a_t_course : Nat} {p1_n : Nat} {t_players : Int32} {t_round : Int32} {t_time : Int32} {t_kind : (Nat → Int32)} {t_hand : (Nat → Int32)} {t_leader : (Nat → Int32)} {p1 : (Nat → Int32)} {l2 : Int32} : ∀ R : Int32 × Int32 × Int32 × (Nat → Int32) × (Nat → Int32) × (Nat → Int32), o_X3_load N p1_n t_kind t_hand t_leader p1 l2 = some R → ZMv sK sV l yX3_load wsX3_load rmX3_load D (zty cI cB cZ) [.ref a_t, .ref a_p1, .int l2] [(a_t, .inr (3, [.int t_players, .int t_round, .int t_time, .ref a_t_kind, .ref a_t_hand, .ref a_t_leader, .ref a_t_course])), (a_t_kind, .inl (cI, 8, .inl t_kind)), (a_t_hand, .inl (cI, 8, .inl t_hand)), (a_t_leader, .inl (cI, 8, .inl t_leader)), (a_p1, .inl (cI, p1_n, .inl p1))] [(a_t, .inr (3, [.int R.1, .int R.2.1, .int R.2.2.1, .ref a_t_kind, .ref a_t_hand, .ref a_t_leader, .ref a_t_course])), (a_t_kind, .inl (cI, 8, .inl R.2.2.2.1)), (a_t_hand, .inl (cI, 8, .inl R.2.2.2.2.1)), (a_t_leader, .inl (cI, 8, .inl R.2.2.2.2.2)), (a_p1, .inl (cI, p1_n, .inl p1))] := by
  intro R hR
  refine zv_of (cc := cX3_load) (maxL := 4) (ret := none) (by decide) rfl (Nat.le_of_ble_eq_true rfl) (fun E hE1 hE2 hC hN hQ => ?_)
  subst hE1 hE2
  exact z_X3_load_0 hC hN (N := N) (a_t := a_t) (a_t_kind := a_t_kind) (a_t_hand := a_t_hand) (a_t_leader := a_t_leader) (a_p1 := a_p1) (a_t_course := a_t_course) (p1_n := p1_n) (t_players := t_players) (t_round := t_round) (t_time := t_time) (t_kind := t_kind) (t_hand := t_hand) (t_leader := t_leader) (p1 := p1) (l2 := l2) hQ hR

/-! FistTrains$Acts.takeBack -/
abbrev rmX0_takeBack : Room := { frames := 1, cells := 0, slots := 0, locals := 23 }
set_option maxRecDepth 20000 in
theorem iX0_takeBack_X0 : ∀ w ∈ wsX00, w ∈ wsX0_takeBack := by decide +kernel
set_option maxRecDepth 20000 in
theorem mX0_takeBack_1 : Cond.fieldLink RX0 19 "FistTrains$Acts" "next" "I" ∈ wsX0_takeBack := List.mem_of_getElem? (i := 1) rfl
set_option maxRecDepth 20000 in
theorem mX0_takeBack_2 : Cond.fieldLink RX0 15 "FistTrains$Acts" "kept" "I" ∈ wsX0_takeBack := List.mem_of_getElem? (i := 2) rfl
set_option maxRecDepth 20000 in
theorem mX0_takeBack_3 : Cond.fieldLink RX0 11 "FistTrains$Acts" "halls" "[I" ∈ wsX0_takeBack := List.mem_of_getElem? (i := 3) rfl
def o_X0_takeBack (N : Nat) (t_kept : Int32) (t_next : Int32) (t_halls : (Nat → Int32)) (p1_kind : (Nat → Int32)) (p1_hand : (Nat → Int32)) (p1_leader : (Nat → Int32)) : Option (Int32 × Int32 × Int32 × Int32 × Int32 × (Nat → Int32) × (Nat → Int32) × (Nat → Int32)) :=
  Option.bind (o_X3_load N 648 p1_kind p1_hand p1_leader t_halls ((((t_next + 24) - 1) - ((t_next + 24) - 1) / 24 * 24) * 27)) (fun r38 =>
  some ((t_kept - 1), (((t_next + 24) - 1) - ((t_next + 24) - 1) / 24 * 24), r38.1, r38.2.1, r38.2.2.1, r38.2.2.2.1, r38.2.2.2.2.1, r38.2.2.2.2.2))
set_option maxHeartbeats 4000000 in
set_option maxRecDepth 100000 in
theorem z_X0_takeBack_0 {sK sV : Nat → Nat} {E : ZE} {cI cB cZ : ClassId} (hC : ZC E 2 cX0_takeBack wsX0_takeBack RX0 rmX0_takeBack none (zty cI cB cZ)) (hN : ZN sK sV (zA E) (zs E)) {N : Nat} {a_t : Nat} {a_t_halls : Nat} {a_p1 : Nat} {a_p1_kind : Nat} {a_p1_hand : Nat} {a_p1_leader : Nat} {a_p1_course : Nat} {t_kept : Int32} {t_next : Int32} {t_halls : (Nat → Int32)} {p1_players : Int32} {p1_round : Int32} {p1_time : Int32} {p1_kind : (Nat → Int32)} {p1_hand : (Nat → Int32)} {p1_leader : (Nat → Int32)} {rf : Int32 × Int32 × Int32 × Int32 × Int32 × (Nat → Int32) × (Nat → Int32) × (Nat → Int32)} (hQ : ZQv E (zty cI cB cZ) [(a_t, .inr (0, [.ref a_t_halls, .int rf.1, .int rf.2.1])), (a_t_halls, .inl (cI, 648, .inl t_halls)), (a_p1, .inr (3, [.int rf.2.2.1, .int rf.2.2.2.1, .int rf.2.2.2.2.1, .ref a_p1_kind, .ref a_p1_hand, .ref a_p1_leader, .ref a_p1_course])), (a_p1_kind, .inl (cI, 8, .inl rf.2.2.2.2.2.1)), (a_p1_hand, .inl (cI, 8, .inl rf.2.2.2.2.2.2.1)), (a_p1_leader, .inl (cI, 8, .inl rf.2.2.2.2.2.2.2))]) (hR : o_X0_takeBack N t_kept t_next t_halls p1_kind p1_hand p1_leader = some rf) : Z E (0, 0) [(0, .ref a_t), (1, .ref a_p1)] 0 [] [(a_t, .inr (0, [.ref a_t_halls, .int t_kept, .int t_next])), (a_t_halls, .inl (cI, 648, .inl t_halls)), (a_p1, .inr (3, [.int p1_players, .int p1_round, .int p1_time, .ref a_p1_kind, .ref a_p1_hand, .ref a_p1_leader, .ref a_p1_course])), (a_p1_kind, .inl (cI, 8, .inl p1_kind)), (a_p1_hand, .inl (cI, 8, .inl p1_hand)), (a_p1_leader, .inl (cI, 8, .inl p1_leader))] := by
  rw [o_X0_takeBack] at hR
  refine z_aload_n hC dX0_takeBack_0 rfl 0 rfl ?_
  refine z_aload_n hC dX0_takeBack_1 rfl 0 rfl ?_
  refine z_get hC iX0_takeBack_X0 rfl 0 2 rfl (by decide) mX0_takeBack_1 rfl rfl dX0_takeBack_2 ?_
  refine z_bipush (v := 24) hC dX0_takeBack_5 (by decide) ?_
  refine z_iadd hC dX0_takeBack_7 ?_
  refine z_ic1 hC dX0_takeBack_8 ?_
  refine z_isub hC dX0_takeBack_9 ?_
  refine z_bipush (v := 24) hC dX0_takeBack_10 (by decide) ?_
  refine z_iremK hC dX0_takeBack_12 (by decide) ?_
  refine z_put hC iX0_takeBack_X0 tyX0_ok nmX0 rfl 0 2 rfl (by decide) mX0_takeBack_1 rfl rfl rfl rfl (Nat.le_of_ble_eq_true rfl) dX0_takeBack_13 ?_
  refine z_aload_n hC dX0_takeBack_16 rfl 0 rfl ?_
  refine z_dup hC dX0_takeBack_17 rfl ?_
  refine z_get hC iX0_takeBack_X0 rfl 0 1 rfl (by decide) mX0_takeBack_2 rfl rfl dX0_takeBack_18 ?_
  refine z_ic1 hC dX0_takeBack_21 ?_
  refine z_isub hC dX0_takeBack_22 ?_
  refine z_put hC iX0_takeBack_X0 tyX0_ok nmX0 rfl 0 1 rfl (by decide) mX0_takeBack_2 rfl rfl rfl rfl (Nat.le_of_ble_eq_true rfl) dX0_takeBack_23 ?_
  refine z_aload_n hC dX0_takeBack_26 rfl 1 rfl ?_
  refine z_aload_n hC dX0_takeBack_27 rfl 0 rfl ?_
  refine z_get hC iX0_takeBack_X0 rfl 0 0 rfl (by decide) mX0_takeBack_3 rfl rfl dX0_takeBack_28 ?_
  refine z_aload_n hC dX0_takeBack_31 rfl 0 rfl ?_
  refine z_get hC iX0_takeBack_X0 rfl 0 2 rfl (by decide) mX0_takeBack_1 rfl rfl dX0_takeBack_32 ?_
  refine z_bipush (v := 27) hC dX0_takeBack_35 (by decide) ?_
  refine z_imul hC dX0_takeBack_37 ?_
  refine z_callVv hC hN [.ref a_t_halls, .int ((((t_next + 24) - 1) - ((t_next + 24) - 1) / 24 * 24) * 27)] [2, 3, 4, 5, 1] (c_X3_load (l := zl E) (D := zD E) (cI := cI) (cB := cB) (cZ := cZ) (N := N) (a_t := a_p1) (a_t_kind := a_p1_kind) (a_t_hand := a_p1_hand) (a_t_leader := a_p1_leader) (a_t_course := a_p1_course) (a_p1 := a_t_halls) (l2 := ((((t_next + 24) - 1) - ((t_next + 24) - 1) / 24 * 24) * 27)) (t_players := p1_players) (t_round := p1_round) (t_time := p1_time) (t_kind := p1_kind) (t_hand := p1_hand) (t_leader := p1_leader) (p1 := t_halls) (p1_n := 648)) rfl ⟨rfl, rfl⟩ gX0_takeBack_X3_load hvX3_load 2 3 rfl rfl rfl ⟨Nat.le_of_ble_eq_true rfl, Nat.le_of_ble_eq_true rfl⟩ ⟨Nat.zero_le _, Nat.zero_le _⟩ rfl (Nat.le_of_ble_eq_true rfl) rfl (by decide) (fun _ => rfl) dX0_takeBack_38 hR (fun r38 hR => ?_)
  obtain rfl := Option.some.inj hR
  exact z_vret hC hQ rfl dX0_takeBack_41
set_option maxHeartbeats 4000000 in
set_option maxRecDepth 100000 in
theorem c_X0_takeBack {sK sV : Nat → Nat} {l : Launch} {D : va_G} {cI cB cZ : ClassId} {N : Nat} {a_t : Nat} {a_t_halls : Nat} {a_p1 : Nat} {a_p1_kind : Nat} {a_p1_hand : Nat} {a_p1_leader : Nat} {a_p1_course : Nat} {t_kept : Int32} {t_next : Int32} {t_halls : (Nat → Int32)} {p1_players : Int32} {p1_round : Int32} {p1_time : Int32} {p1_kind : (Nat → Int32)} {p1_hand : (Nat → Int32)} {p1_leader : (Nat → Int32)} : ∀ R : Int32 × Int32 × Int32 × Int32 × Int32 × (Nat → Int32) × (Nat → Int32) × (Nat → Int32), o_X0_takeBack N t_kept t_next t_halls p1_kind p1_hand p1_leader = some R → ZMv sK sV l yX0_takeBack wsX0_takeBack rmX0_takeBack D (zty cI cB cZ) [.ref a_t, .ref a_p1] [(a_t, .inr (0, [.ref a_t_halls, .int t_kept, .int t_next])), (a_t_halls, .inl (cI, 648, .inl t_halls)), (a_p1, .inr (3, [.int p1_players, .int p1_round, .int p1_time, .ref a_p1_kind, .ref a_p1_hand, .ref a_p1_leader, .ref a_p1_course])), (a_p1_kind, .inl (cI, 8, .inl p1_kind)), (a_p1_hand, .inl (cI, 8, .inl p1_hand)), (a_p1_leader, .inl (cI, 8, .inl p1_leader))] [(a_t, .inr (0, [.ref a_t_halls, .int R.1, .int R.2.1])), (a_t_halls, .inl (cI, 648, .inl t_halls)), (a_p1, .inr (3, [.int R.2.2.1, .int R.2.2.2.1, .int R.2.2.2.2.1, .ref a_p1_kind, .ref a_p1_hand, .ref a_p1_leader, .ref a_p1_course])), (a_p1_kind, .inl (cI, 8, .inl R.2.2.2.2.2.1)), (a_p1_hand, .inl (cI, 8, .inl R.2.2.2.2.2.2.1)), (a_p1_leader, .inl (cI, 8, .inl R.2.2.2.2.2.2.2))] := by
  intro R hR
  refine zv_of (cc := cX0_takeBack) (maxL := 2) (ret := none) (by decide) rfl (Nat.le_of_ble_eq_true rfl) (fun E hE1 hE2 hC hN hQ => ?_)
  subst hE1 hE2
  exact z_X0_takeBack_0 hC hN (N := N) (a_t := a_t) (a_t_halls := a_t_halls) (a_p1 := a_p1) (a_p1_kind := a_p1_kind) (a_p1_hand := a_p1_hand) (a_p1_leader := a_p1_leader) (a_p1_course := a_p1_course) (t_kept := t_kept) (t_next := t_next) (t_halls := t_halls) (p1_players := p1_players) (p1_round := p1_round) (p1_time := p1_time) (p1_kind := p1_kind) (p1_hand := p1_hand) (p1_leader := p1_leader) hQ hR

/-! FistTrains$Hall.playToTheEnd -/
abbrev rmX3_playToTheEnd : Room := { frames := 5, cells := 0, slots := 0, locals := 120 }
def o_X3_playToTheEnd_2 (N : Nat) (t_players : Int32) (t_kind : (Nat → Int32)) : Nat → Int32 → Int32 → (Nat → Int32) → (Nat → Int32) → Int32 → Int32 → Int32 → Int32 → Option (Int32 × Int32 × (Nat → Int32) × (Nat → Int32) × Int32 × Int32 × Int32)
  | 0 => fun _ _ _ _ _ _ _ _ => none
  | n + 1 => fun t_round t_time t_hand t_leader t_course_first t_course_second t_course_thrown l1 => 
    if 8 ≤ l1 then
      some (t_round, t_time, t_hand, t_leader, t_course_first, t_course_second, t_course_thrown)
    else
      Option.bind (o_X3_leaders N t_players t_leader) (fun r9 =>
      if r9 ≤ 1 then
        some (t_round, t_time, t_hand, t_leader, t_course_first, t_course_second, t_course_thrown)
      else
        Option.bind (o_X3_playRound N t_players t_round t_time t_kind t_hand t_leader t_course_first t_course_second t_course_thrown) (fun r17 =>
        o_X3_playToTheEnd_2 N t_players t_kind n r17.1 r17.2.1 r17.2.2.1 r17.2.2.2.1 r17.2.2.2.2.1 r17.2.2.2.2.2.1 r17.2.2.2.2.2.2 (l1 + 1)))
def o_X3_playToTheEnd (N : Nat) (t_players : Int32) (t_round : Int32) (t_time : Int32) (t_kind : (Nat → Int32)) (t_hand : (Nat → Int32)) (t_leader : (Nat → Int32)) (t_course_first : Int32) (t_course_second : Int32) (t_course_thrown : Int32) : Option (Int32 × Int32 × (Nat → Int32) × (Nat → Int32) × Int32 × Int32 × Int32) :=
  o_X3_playToTheEnd_2 N t_players t_kind N t_round t_time t_hand t_leader t_course_first t_course_second t_course_thrown 0
set_option maxHeartbeats 4000000 in
set_option maxRecDepth 100000 in
theorem z_X3_playToTheEnd_2 {sK sV : Nat → Nat} {E : ZE} {cI cB cZ : ClassId} (hC : ZC E 2 cX3_playToTheEnd wsX3_playToTheEnd RX3 rmX3_playToTheEnd none (zty cI cB cZ)) (hN : ZN sK sV (zA E) (zs E)) {N : Nat} {a_t : Nat} {a_t_kind : Nat} {a_t_hand : Nat} {a_t_leader : Nat} {a_t_course : Nat} {t_players : Int32} {t_kind : (Nat → Int32)} {rf : Int32 × Int32 × (Nat → Int32) × (Nat → Int32) × Int32 × Int32 × Int32} (hQ : ZQv E (zty cI cB cZ) [(a_t, .inr (3, [.int t_players, .int rf.1, .int rf.2.1, .ref a_t_kind, .ref a_t_hand, .ref a_t_leader, .ref a_t_course])), (a_t_kind, .inl (cI, 8, .inl t_kind)), (a_t_hand, .inl (cI, 8, .inl rf.2.2.1)), (a_t_leader, .inl (cI, 8, .inl rf.2.2.2.1)), (a_t_course, .inr (2, [.int rf.2.2.2.2.1, .int rf.2.2.2.2.2.1, .int rf.2.2.2.2.2.2]))]) : ∀ (n : Nat) (t_round : Int32) (t_time : Int32) (t_hand : (Nat → Int32)) (t_leader : (Nat → Int32)) (t_course_first : Int32) (t_course_second : Int32) (t_course_thrown : Int32) (l1 : Int32), o_X3_playToTheEnd_2 N t_players t_kind n t_round t_time t_hand t_leader t_course_first t_course_second t_course_thrown l1 = some rf → Z E (0, 0) [(0, .ref a_t), (1, .int l1)] 2 [] [(a_t, .inr (3, [.int t_players, .int t_round, .int t_time, .ref a_t_kind, .ref a_t_hand, .ref a_t_leader, .ref a_t_course])), (a_t_kind, .inl (cI, 8, .inl t_kind)), (a_t_hand, .inl (cI, 8, .inl t_hand)), (a_t_leader, .inl (cI, 8, .inl t_leader)), (a_t_course, .inr (2, [.int t_course_first, .int t_course_second, .int t_course_thrown]))] := by
  intro n
  induction n with
  | zero =>
    intro t_round t_time t_hand t_leader t_course_first t_course_second t_course_thrown l1 hR
    cases hR
  | succ n ih =>
    intro t_round t_time t_hand t_leader t_course_first t_course_second t_course_thrown l1 hR
    rw [o_X3_playToTheEnd_2] at hR
    refine z_iload_n hC dX3_playToTheEnd_2 rfl 1 rfl ?_
    refine z_bipush (v := 8) hC dX3_playToTheEnd_3 (by decide) ?_
    refine z_icmp_ge hC 26 dX3_playToTheEnd_5 (by decide) hR (fun hR => ?_) (fun hR => ?_)
    · obtain rfl := Option.some.inj hR
      exact z_vret hC hQ rfl dX3_playToTheEnd_26
    · refine z_aload_n hC dX3_playToTheEnd_8 rfl 0 rfl ?_
      refine z_callVi_p hC hN [] [0, 3] (c_X3_leaders (l := zl E) (D := zD E) (cI := cI) (cB := cB) (cZ := cZ) (N := N) (a_t := a_t) (a_t_kind := a_t_kind) (a_t_hand := a_t_hand) (a_t_leader := a_t_leader) (a_t_course := a_t_course) (t_players := t_players) (t_round := t_round) (t_time := t_time) (t_leader := t_leader)) rfl ⟨rfl, rfl⟩ gX3_playToTheEnd_X3_leaders hvX3_leaders 0 3 rfl rfl rfl ⟨Nat.le_of_ble_eq_true rfl, Nat.le_of_ble_eq_true rfl⟩ ⟨Nat.zero_le _, Nat.zero_le _⟩ rfl (Nat.le_of_ble_eq_true rfl) rfl (by decide) dX3_playToTheEnd_9 hR (fun r9 hR => ?_)
      refine z_ic1 hC dX3_playToTheEnd_12 ?_
      refine z_icmp_le hC 26 dX3_playToTheEnd_13 (by decide) hR (fun hR => ?_) (fun hR => ?_)
      · obtain rfl := Option.some.inj hR
        exact z_vret hC hQ rfl dX3_playToTheEnd_26
      · refine z_aload_n hC dX3_playToTheEnd_16 rfl 0 rfl ?_
        refine z_callVv hC hN [] [0, 1, 2, 3, 4] (c_X3_playRound (l := zl E) (D := zD E) (cI := cI) (cB := cB) (cZ := cZ) (N := N) (a_t := a_t) (a_t_kind := a_t_kind) (a_t_hand := a_t_hand) (a_t_leader := a_t_leader) (a_t_course := a_t_course) (t_players := t_players) (t_round := t_round) (t_time := t_time) (t_kind := t_kind) (t_hand := t_hand) (t_leader := t_leader) (t_course_first := t_course_first) (t_course_second := t_course_second) (t_course_thrown := t_course_thrown)) rfl ⟨rfl, rfl⟩ gX3_playToTheEnd_X3_playRound hvX3_playRound 0 3 rfl rfl rfl ⟨Nat.le_of_ble_eq_true rfl, Nat.le_of_ble_eq_true rfl⟩ ⟨Nat.zero_le _, Nat.zero_le _⟩ rfl (Nat.le_of_ble_eq_true rfl) rfl (by decide) (fun _ => rfl) dX3_playToTheEnd_17 hR (fun r17 hR => ?_)
        refine z_iinc1 hC [(1, .int (l1 + 1)), (0, .ref a_t)] dX3_playToTheEnd_20 1 rfl (by decide) rfl ?_
        refine z_goto hC 2 dX3_playToTheEnd_23 (by decide) ?_
        refine z_sub (lv' := [(0, .ref a_t), (1, .int (l1 + 1))]) [1, 0] rfl ?_
        exact ih r17.1 r17.2.1 r17.2.2.1 r17.2.2.2.1 r17.2.2.2.2.1 r17.2.2.2.2.2.1 r17.2.2.2.2.2.2 (l1 + 1) hR
set_option maxHeartbeats 4000000 in
set_option maxRecDepth 100000 in
theorem z_X3_playToTheEnd_0 {sK sV : Nat → Nat} {E : ZE} {cI cB cZ : ClassId} (hC : ZC E 2 cX3_playToTheEnd wsX3_playToTheEnd RX3 rmX3_playToTheEnd none (zty cI cB cZ)) (hN : ZN sK sV (zA E) (zs E)) {N : Nat} {a_t : Nat} {a_t_kind : Nat} {a_t_hand : Nat} {a_t_leader : Nat} {a_t_course : Nat} {t_players : Int32} {t_round : Int32} {t_time : Int32} {t_kind : (Nat → Int32)} {t_hand : (Nat → Int32)} {t_leader : (Nat → Int32)} {t_course_first : Int32} {t_course_second : Int32} {t_course_thrown : Int32} {rf : Int32 × Int32 × (Nat → Int32) × (Nat → Int32) × Int32 × Int32 × Int32} (hQ : ZQv E (zty cI cB cZ) [(a_t, .inr (3, [.int t_players, .int rf.1, .int rf.2.1, .ref a_t_kind, .ref a_t_hand, .ref a_t_leader, .ref a_t_course])), (a_t_kind, .inl (cI, 8, .inl t_kind)), (a_t_hand, .inl (cI, 8, .inl rf.2.2.1)), (a_t_leader, .inl (cI, 8, .inl rf.2.2.2.1)), (a_t_course, .inr (2, [.int rf.2.2.2.2.1, .int rf.2.2.2.2.2.1, .int rf.2.2.2.2.2.2]))]) (hR : o_X3_playToTheEnd N t_players t_round t_time t_kind t_hand t_leader t_course_first t_course_second t_course_thrown = some rf) : Z E (0, 0) [(0, .ref a_t)] 0 [] [(a_t, .inr (3, [.int t_players, .int t_round, .int t_time, .ref a_t_kind, .ref a_t_hand, .ref a_t_leader, .ref a_t_course])), (a_t_kind, .inl (cI, 8, .inl t_kind)), (a_t_hand, .inl (cI, 8, .inl t_hand)), (a_t_leader, .inl (cI, 8, .inl t_leader)), (a_t_course, .inr (2, [.int t_course_first, .int t_course_second, .int t_course_thrown]))] := by
  rw [o_X3_playToTheEnd] at hR
  refine z_ic0 hC dX3_playToTheEnd_0 ?_
  refine z_istore_n hC [(1, .int 0), (0, .ref a_t)] dX3_playToTheEnd_1 rfl (by decide) rfl ?_
  refine z_sub (lv' := [(0, .ref a_t), (1, .int 0)]) [1, 0] rfl ?_
  exact z_X3_playToTheEnd_2 hC hN (N := N) (a_t := a_t) (a_t_kind := a_t_kind) (a_t_hand := a_t_hand) (a_t_leader := a_t_leader) (a_t_course := a_t_course) (t_players := t_players) (t_kind := t_kind) hQ  N t_round t_time t_hand t_leader t_course_first t_course_second t_course_thrown 0 hR
set_option maxHeartbeats 4000000 in
set_option maxRecDepth 100000 in
theorem c_X3_playToTheEnd {sK sV : Nat → Nat} {l : Launch} {D : va_G} {cI cB cZ : ClassId} {N : Nat} {a_t : Nat} {a_t_kind : Nat} {a_t_hand : Nat} {a_t_leader : Nat} {a_t_course : Nat} {t_players : Int32} {t_round : Int32} {t_time : Int32} {t_kind : (Nat → Int32)} {t_hand : (Nat → Int32)} {t_leader : (Nat → Int32)} {t_course_first : Int32} {t_course_second : Int32} {t_course_thrown : Int32} : ∀ R : Int32 × Int32 × (Nat → Int32) × (Nat → Int32) × Int32 × Int32 × Int32, o_X3_playToTheEnd N t_players t_round t_time t_kind t_hand t_leader t_course_first t_course_second t_course_thrown = some R → ZMv sK sV l yX3_playToTheEnd wsX3_playToTheEnd rmX3_playToTheEnd D (zty cI cB cZ) [.ref a_t] [(a_t, .inr (3, [.int t_players, .int t_round, .int t_time, .ref a_t_kind, .ref a_t_hand, .ref a_t_leader, .ref a_t_course])), (a_t_kind, .inl (cI, 8, .inl t_kind)), (a_t_hand, .inl (cI, 8, .inl t_hand)), (a_t_leader, .inl (cI, 8, .inl t_leader)), (a_t_course, .inr (2, [.int t_course_first, .int t_course_second, .int t_course_thrown]))] [(a_t, .inr (3, [.int t_players, .int R.1, .int R.2.1, .ref a_t_kind, .ref a_t_hand, .ref a_t_leader, .ref a_t_course])), (a_t_kind, .inl (cI, 8, .inl t_kind)), (a_t_hand, .inl (cI, 8, .inl R.2.2.1)), (a_t_leader, .inl (cI, 8, .inl R.2.2.2.1)), (a_t_course, .inr (2, [.int R.2.2.2.2.1, .int R.2.2.2.2.2.1, .int R.2.2.2.2.2.2]))] := by
  intro R hR
  refine zv_of (cc := cX3_playToTheEnd) (maxL := 2) (ret := none) (by decide) rfl (Nat.le_of_ble_eq_true rfl) (fun E hE1 hE2 hC hN hQ => ?_)
  subst hE1 hE2
  exact z_X3_playToTheEnd_0 hC hN (N := N) (a_t := a_t) (a_t_kind := a_t_kind) (a_t_hand := a_t_hand) (a_t_leader := a_t_leader) (a_t_course := a_t_course) (t_players := t_players) (t_round := t_round) (t_time := t_time) (t_kind := t_kind) (t_hand := t_hand) (t_leader := t_leader) (t_course_first := t_course_first) (t_course_second := t_course_second) (t_course_thrown := t_course_thrown) hQ hR

/-! FistTrains$Hall.longestTrain -/
abbrev rmX3_longestTrain : Room := { frames := 1, cells := 0, slots := 0, locals := 23 }
set_option maxRecDepth 20000 in
theorem iX3_longestTrain_X3 : ∀ w ∈ wsX30, w ∈ wsX3_longestTrain := by decide +kernel
set_option maxRecDepth 20000 in
theorem mX3_longestTrain_1 : Cond.fieldLink RX3 9 "FistTrains$Hall" "players" "I" ∈ wsX3_longestTrain := List.mem_of_getElem? (i := 1) rfl
def o_X3_longestTrain_6 (N : Nat) (t_players : Int32) (t_leader : (Nat → Int32)) : Nat → Int32 → Int32 → Int32 → Option (Int32)
  | 0 => fun _ _ _ => none
  | n + 1 => fun l1 l2 l3 => 
    if t_players ≤ l3 then
      some (l2)
    else
      Option.bind (o_X3_leads N t_leader l3) (fun r16 =>
      if r16 = 0 then
        o_X3_longestTrain_6 N t_players t_leader n l1 l2 (l3 + 1)
      else
        Option.bind (o_X3_trainOf N t_players t_leader l3) (fun r24 =>
        if r24 ≤ l1 then
          o_X3_longestTrain_6 N t_players t_leader n l1 l2 (l3 + 1)
        else
          Option.bind (o_X3_trainOf N t_players t_leader l3) (fun r33 =>
          o_X3_longestTrain_6 N t_players t_leader n r33 l3 (l3 + 1))))
def o_X3_longestTrain (N : Nat) (t_players : Int32) (t_leader : (Nat → Int32)) : Option (Int32) :=
  o_X3_longestTrain_6 N t_players t_leader N 0 0 0
set_option maxHeartbeats 4000000 in
set_option maxRecDepth 100000 in
theorem z_X3_longestTrain_6 {sK sV : Nat → Nat} {E : ZE} {cI cB cZ : ClassId} (hC : ZC E 4 cX3_longestTrain wsX3_longestTrain RX3 rmX3_longestTrain (some .int) (zty cI cB cZ)) (hN : ZN sK sV (zA E) (zs E)) {N : Nat} {a_t : Nat} {a_t_leader : Nat} {a_t_kind : Nat} {a_t_hand : Nat} {a_t_course : Nat} {t_players : Int32} {t_round : Int32} {t_time : Int32} {t_leader : (Nat → Int32)} {rf : Int32} (hQ : ZQi E (zty cI cB cZ) rf [(a_t, .inr (3, [.int t_players, .int t_round, .int t_time, .ref a_t_kind, .ref a_t_hand, .ref a_t_leader, .ref a_t_course])), (a_t_leader, .inl (cI, 8, .inl t_leader))]) : ∀ (n : Nat) (l1 : Int32) (l2 : Int32) (l3 : Int32), o_X3_longestTrain_6 N t_players t_leader n l1 l2 l3 = some rf → Z E (0, 0) [(0, .ref a_t), (1, .int l1), (2, .int l2), (3, .int l3)] 6 [] [(a_t, .inr (3, [.int t_players, .int t_round, .int t_time, .ref a_t_kind, .ref a_t_hand, .ref a_t_leader, .ref a_t_course])), (a_t_leader, .inl (cI, 8, .inl t_leader))] := by
  intro n
  induction n with
  | zero =>
    intro l1 l2 l3 hR
    cases hR
  | succ n ih =>
    intro l1 l2 l3 hR
    rw [o_X3_longestTrain_6] at hR
    refine z_iload_n hC dX3_longestTrain_6 rfl 3 rfl ?_
    refine z_aload_n hC dX3_longestTrain_7 rfl 0 rfl ?_
    refine z_get hC iX3_longestTrain_X3 rfl 0 0 rfl (by decide) mX3_longestTrain_1 rfl rfl dX3_longestTrain_8 ?_
    refine z_icmp_ge hC 45 dX3_longestTrain_11 (by decide) hR (fun hR => ?_) (fun hR => ?_)
    · refine z_iload_n hC dX3_longestTrain_45 rfl 2 rfl ?_
      obtain rfl := Option.some.inj hR
      exact z_iret hC hQ rfl rfl rfl dX3_longestTrain_46
    · refine z_aload_n hC dX3_longestTrain_14 rfl 0 rfl ?_
      refine z_iload_n hC dX3_longestTrain_15 rfl 3 rfl ?_
      refine z_callVi_p hC hN [.int l3] [0, 1] (c_X3_leads (l := zl E) (D := zD E) (cI := cI) (cB := cB) (cZ := cZ) (N := N) (a_t := a_t) (a_t_kind := a_t_kind) (a_t_hand := a_t_hand) (a_t_leader := a_t_leader) (a_t_course := a_t_course) (l1 := l3) (t_players := t_players) (t_round := t_round) (t_time := t_time) (t_leader := t_leader)) rfl ⟨rfl, rfl⟩ gX3_longestTrain_X3_leads hvX3_leads 0 3 rfl rfl rfl ⟨Nat.le_of_ble_eq_true rfl, Nat.le_of_ble_eq_true rfl⟩ ⟨Nat.zero_le _, Nat.zero_le _⟩ rfl (Nat.le_of_ble_eq_true rfl) rfl (by decide) dX3_longestTrain_16 hR (fun r16 hR => ?_)
      refine z_if_eq hC 39 dX3_longestTrain_19 (by decide) hR (fun hR => ?_) (fun hR => ?_)
      · refine z_iinc1 hC [(3, .int (l3 + 1)), (0, .ref a_t), (1, .int l1), (2, .int l2)] dX3_longestTrain_39 3 rfl (by decide) rfl ?_
        refine z_goto hC 6 dX3_longestTrain_42 (by decide) ?_
        refine z_sub (lv' := [(0, .ref a_t), (1, .int l1), (2, .int l2), (3, .int (l3 + 1))]) [1, 2, 3, 0] rfl ?_
        exact ih l1 l2 (l3 + 1) hR
      · refine z_aload_n hC dX3_longestTrain_22 rfl 0 rfl ?_
        refine z_iload_n hC dX3_longestTrain_23 rfl 3 rfl ?_
        refine z_callVi_p hC hN [.int l3] [0, 1] (c_X3_trainOf (l := zl E) (D := zD E) (cI := cI) (cB := cB) (cZ := cZ) (N := N) (a_t := a_t) (a_t_kind := a_t_kind) (a_t_hand := a_t_hand) (a_t_leader := a_t_leader) (a_t_course := a_t_course) (l1 := l3) (t_players := t_players) (t_round := t_round) (t_time := t_time) (t_leader := t_leader)) rfl ⟨rfl, rfl⟩ gX3_longestTrain_X3_trainOf hvX3_trainOf 0 3 rfl rfl rfl ⟨Nat.le_of_ble_eq_true rfl, Nat.le_of_ble_eq_true rfl⟩ ⟨Nat.zero_le _, Nat.zero_le _⟩ rfl (Nat.le_of_ble_eq_true rfl) rfl (by decide) dX3_longestTrain_24 hR (fun r24 hR => ?_)
        refine z_iload_n hC dX3_longestTrain_27 rfl 1 rfl ?_
        refine z_icmp_le hC 39 dX3_longestTrain_28 (by decide) hR (fun hR => ?_) (fun hR => ?_)
        · refine z_iinc1 hC [(3, .int (l3 + 1)), (0, .ref a_t), (1, .int l1), (2, .int l2)] dX3_longestTrain_39 3 rfl (by decide) rfl ?_
          refine z_goto hC 6 dX3_longestTrain_42 (by decide) ?_
          refine z_sub (lv' := [(0, .ref a_t), (1, .int l1), (2, .int l2), (3, .int (l3 + 1))]) [1, 2, 3, 0] rfl ?_
          exact ih l1 l2 (l3 + 1) hR
        · refine z_aload_n hC dX3_longestTrain_31 rfl 0 rfl ?_
          refine z_iload_n hC dX3_longestTrain_32 rfl 3 rfl ?_
          refine z_callVi_p hC hN [.int l3] [0, 1] (c_X3_trainOf (l := zl E) (D := zD E) (cI := cI) (cB := cB) (cZ := cZ) (N := N) (a_t := a_t) (a_t_kind := a_t_kind) (a_t_hand := a_t_hand) (a_t_leader := a_t_leader) (a_t_course := a_t_course) (l1 := l3) (t_players := t_players) (t_round := t_round) (t_time := t_time) (t_leader := t_leader)) rfl ⟨rfl, rfl⟩ gX3_longestTrain_X3_trainOf hvX3_trainOf 0 3 rfl rfl rfl ⟨Nat.le_of_ble_eq_true rfl, Nat.le_of_ble_eq_true rfl⟩ ⟨Nat.zero_le _, Nat.zero_le _⟩ rfl (Nat.le_of_ble_eq_true rfl) rfl (by decide) dX3_longestTrain_33 hR (fun r33 hR => ?_)
          refine z_istore_n hC [(1, .int r33), (0, .ref a_t), (2, .int l2), (3, .int l3)] dX3_longestTrain_36 rfl (by decide) rfl ?_
          refine z_iload_n hC dX3_longestTrain_37 rfl 3 rfl ?_
          refine z_istore_n hC [(2, .int l3), (1, .int r33), (0, .ref a_t), (3, .int l3)] dX3_longestTrain_38 rfl (by decide) rfl ?_
          refine z_iinc1 hC [(3, .int (l3 + 1)), (2, .int l3), (1, .int r33), (0, .ref a_t)] dX3_longestTrain_39 3 rfl (by decide) rfl ?_
          refine z_goto hC 6 dX3_longestTrain_42 (by decide) ?_
          refine z_sub (lv' := [(0, .ref a_t), (1, .int r33), (2, .int l3), (3, .int (l3 + 1))]) [3, 2, 1, 0] rfl ?_
          exact ih r33 l3 (l3 + 1) hR
set_option maxHeartbeats 4000000 in
set_option maxRecDepth 100000 in
theorem z_X3_longestTrain_0 {sK sV : Nat → Nat} {E : ZE} {cI cB cZ : ClassId} (hC : ZC E 4 cX3_longestTrain wsX3_longestTrain RX3 rmX3_longestTrain (some .int) (zty cI cB cZ)) (hN : ZN sK sV (zA E) (zs E)) {N : Nat} {a_t : Nat} {a_t_leader : Nat} {a_t_kind : Nat} {a_t_hand : Nat} {a_t_course : Nat} {t_players : Int32} {t_round : Int32} {t_time : Int32} {t_leader : (Nat → Int32)} {rf : Int32} (hQ : ZQi E (zty cI cB cZ) rf [(a_t, .inr (3, [.int t_players, .int t_round, .int t_time, .ref a_t_kind, .ref a_t_hand, .ref a_t_leader, .ref a_t_course])), (a_t_leader, .inl (cI, 8, .inl t_leader))]) (hR : o_X3_longestTrain N t_players t_leader = some rf) : Z E (0, 0) [(0, .ref a_t)] 0 [] [(a_t, .inr (3, [.int t_players, .int t_round, .int t_time, .ref a_t_kind, .ref a_t_hand, .ref a_t_leader, .ref a_t_course])), (a_t_leader, .inl (cI, 8, .inl t_leader))] := by
  rw [o_X3_longestTrain] at hR
  refine z_ic0 hC dX3_longestTrain_0 ?_
  refine z_istore_n hC [(1, .int 0), (0, .ref a_t)] dX3_longestTrain_1 rfl (by decide) rfl ?_
  refine z_ic0 hC dX3_longestTrain_2 ?_
  refine z_istore_n hC [(2, .int 0), (1, .int 0), (0, .ref a_t)] dX3_longestTrain_3 rfl (by decide) rfl ?_
  refine z_ic0 hC dX3_longestTrain_4 ?_
  refine z_istore_n hC [(3, .int 0), (2, .int 0), (1, .int 0), (0, .ref a_t)] dX3_longestTrain_5 rfl (by decide) rfl ?_
  refine z_sub (lv' := [(0, .ref a_t), (1, .int 0), (2, .int 0), (3, .int 0)]) [3, 2, 1, 0] rfl ?_
  exact z_X3_longestTrain_6 hC hN (N := N) (a_t := a_t) (a_t_leader := a_t_leader) (a_t_kind := a_t_kind) (a_t_hand := a_t_hand) (a_t_course := a_t_course) (t_players := t_players) (t_round := t_round) (t_time := t_time) (t_leader := t_leader) hQ  N 0 0 0 hR
set_option maxHeartbeats 4000000 in
set_option maxRecDepth 100000 in
theorem c_X3_longestTrain {sK sV : Nat → Nat} {l : Launch} {D : va_G} {cI cB cZ : ClassId} {N : Nat} {a_t : Nat} {a_t_leader : Nat} {a_t_kind : Nat} {a_t_hand : Nat} {a_t_course : Nat} {t_players : Int32} {t_round : Int32} {t_time : Int32} {t_leader : (Nat → Int32)} : ∀ R : Int32, o_X3_longestTrain N t_players t_leader = some R → ZMi sK sV l yX3_longestTrain wsX3_longestTrain rmX3_longestTrain D (zty cI cB cZ) [.ref a_t] [(a_t, .inr (3, [.int t_players, .int t_round, .int t_time, .ref a_t_kind, .ref a_t_hand, .ref a_t_leader, .ref a_t_course])), (a_t_leader, .inl (cI, 8, .inl t_leader))] R [(a_t, .inr (3, [.int t_players, .int t_round, .int t_time, .ref a_t_kind, .ref a_t_hand, .ref a_t_leader, .ref a_t_course])), (a_t_leader, .inl (cI, 8, .inl t_leader))] := by
  intro R hR
  refine zi_of (cc := cX3_longestTrain) (maxL := 4) (ret := (some .int)) (by decide) rfl (Nat.le_of_ble_eq_true rfl) (fun E hE1 hE2 hC hN hQ => ?_)
  subst hE1 hE2
  exact z_X3_longestTrain_0 hC hN (N := N) (a_t := a_t) (a_t_leader := a_t_leader) (a_t_kind := a_t_kind) (a_t_hand := a_t_hand) (a_t_course := a_t_course) (t_players := t_players) (t_round := t_round) (t_time := t_time) (t_leader := t_leader) hQ hR

/-! FistTrains$Hall.roundsLed -/
abbrev rmX3_roundsLed : Room := { frames := 5, cells := 0, slots := 0, locals := 120 }
def o_X3_roundsLed_2 (N : Nat) (t_players : Int32) (t_kind : (Nat → Int32)) (l1 : Int32) : Nat → Int32 → Int32 → (Nat → Int32) → (Nat → Int32) → Int32 → Int32 → Int32 → Int32 → Option (Int32 × Int32 × Int32 × (Nat → Int32) × (Nat → Int32) × Int32 × Int32 × Int32)
  | 0 => fun _ _ _ _ _ _ _ _ => none
  | n + 1 => fun t_round t_time t_hand t_leader t_course_first t_course_second t_course_thrown l2 => 
    if 8 ≤ l2 then
      some (8, t_round, t_time, t_hand, t_leader, t_course_first, t_course_second, t_course_thrown)
    else
      Option.bind (o_X3_leaders N t_players t_leader) (fun r9 =>
      if r9 ≤ 1 then
        some (8, t_round, t_time, t_hand, t_leader, t_course_first, t_course_second, t_course_thrown)
      else
        Option.bind (o_X3_playRound N t_players t_round t_time t_kind t_hand t_leader t_course_first t_course_second t_course_thrown) (fun r17 =>
        Option.bind (o_X3_leads N r17.2.2.2.1 l1) (fun r22 =>
        if r22 = 0 then
          some (l2, r17.1, r17.2.1, r17.2.2.1, r17.2.2.2.1, r17.2.2.2.2.1, r17.2.2.2.2.2.1, r17.2.2.2.2.2.2)
        else
          o_X3_roundsLed_2 N t_players t_kind l1 n r17.1 r17.2.1 r17.2.2.1 r17.2.2.2.1 r17.2.2.2.2.1 r17.2.2.2.2.2.1 r17.2.2.2.2.2.2 (l2 + 1))))
def o_X3_roundsLed (N : Nat) (t_players : Int32) (t_round : Int32) (t_time : Int32) (t_kind : (Nat → Int32)) (t_hand : (Nat → Int32)) (t_leader : (Nat → Int32)) (t_course_first : Int32) (t_course_second : Int32) (t_course_thrown : Int32) (l1 : Int32) : Option (Int32 × Int32 × Int32 × (Nat → Int32) × (Nat → Int32) × Int32 × Int32 × Int32) :=
  o_X3_roundsLed_2 N t_players t_kind l1 N t_round t_time t_hand t_leader t_course_first t_course_second t_course_thrown 0
set_option maxHeartbeats 4000000 in
set_option maxRecDepth 100000 in
theorem z_X3_roundsLed_2 {sK sV : Nat → Nat} {E : ZE} {cI cB cZ : ClassId} (hC : ZC E 3 cX3_roundsLed wsX3_roundsLed RX3 rmX3_roundsLed (some .int) (zty cI cB cZ)) (hN : ZN sK sV (zA E) (zs E)) {N : Nat} {a_t : Nat} {a_t_kind : Nat} {a_t_hand : Nat} {a_t_leader : Nat} {a_t_course : Nat} {t_players : Int32} {t_kind : (Nat → Int32)} {l1 : Int32} {rf : Int32 × Int32 × Int32 × (Nat → Int32) × (Nat → Int32) × Int32 × Int32 × Int32} (hQ : ZQi E (zty cI cB cZ) rf.1 [(a_t, .inr (3, [.int t_players, .int rf.2.1, .int rf.2.2.1, .ref a_t_kind, .ref a_t_hand, .ref a_t_leader, .ref a_t_course])), (a_t_kind, .inl (cI, 8, .inl t_kind)), (a_t_hand, .inl (cI, 8, .inl rf.2.2.2.1)), (a_t_leader, .inl (cI, 8, .inl rf.2.2.2.2.1)), (a_t_course, .inr (2, [.int rf.2.2.2.2.2.1, .int rf.2.2.2.2.2.2.1, .int rf.2.2.2.2.2.2.2]))]) : ∀ (n : Nat) (t_round : Int32) (t_time : Int32) (t_hand : (Nat → Int32)) (t_leader : (Nat → Int32)) (t_course_first : Int32) (t_course_second : Int32) (t_course_thrown : Int32) (l2 : Int32), o_X3_roundsLed_2 N t_players t_kind l1 n t_round t_time t_hand t_leader t_course_first t_course_second t_course_thrown l2 = some rf → Z E (0, 0) [(0, .ref a_t), (1, .int l1), (2, .int l2)] 2 [] [(a_t, .inr (3, [.int t_players, .int t_round, .int t_time, .ref a_t_kind, .ref a_t_hand, .ref a_t_leader, .ref a_t_course])), (a_t_kind, .inl (cI, 8, .inl t_kind)), (a_t_hand, .inl (cI, 8, .inl t_hand)), (a_t_leader, .inl (cI, 8, .inl t_leader)), (a_t_course, .inr (2, [.int t_course_first, .int t_course_second, .int t_course_thrown]))] := by
  intro n
  induction n with
  | zero =>
    intro t_round t_time t_hand t_leader t_course_first t_course_second t_course_thrown l2 hR
    cases hR
  | succ n ih =>
    intro t_round t_time t_hand t_leader t_course_first t_course_second t_course_thrown l2 hR
    rw [o_X3_roundsLed_2] at hR
    refine z_iload_n hC dX3_roundsLed_2 rfl 2 rfl ?_
    refine z_bipush (v := 8) hC dX3_roundsLed_3 (by decide) ?_
    refine z_icmp_ge hC 36 dX3_roundsLed_5 (by decide) hR (fun hR => ?_) (fun hR => ?_)
    · refine z_bipush (v := 8) hC dX3_roundsLed_36 (by decide) ?_
      obtain rfl := Option.some.inj hR
      exact z_iret hC hQ rfl rfl rfl dX3_roundsLed_38
    · refine z_aload_n hC dX3_roundsLed_8 rfl 0 rfl ?_
      refine z_callVi_p hC hN [] [0, 3] (c_X3_leaders (l := zl E) (D := zD E) (cI := cI) (cB := cB) (cZ := cZ) (N := N) (a_t := a_t) (a_t_kind := a_t_kind) (a_t_hand := a_t_hand) (a_t_leader := a_t_leader) (a_t_course := a_t_course) (t_players := t_players) (t_round := t_round) (t_time := t_time) (t_leader := t_leader)) rfl ⟨rfl, rfl⟩ gX3_roundsLed_X3_leaders hvX3_leaders 0 3 rfl rfl rfl ⟨Nat.le_of_ble_eq_true rfl, Nat.le_of_ble_eq_true rfl⟩ ⟨Nat.zero_le _, Nat.zero_le _⟩ rfl (Nat.le_of_ble_eq_true rfl) rfl (by decide) dX3_roundsLed_9 hR (fun r9 hR => ?_)
      refine z_ic1 hC dX3_roundsLed_12 ?_
      refine z_icmp_le hC 36 dX3_roundsLed_13 (by decide) hR (fun hR => ?_) (fun hR => ?_)
      · refine z_bipush (v := 8) hC dX3_roundsLed_36 (by decide) ?_
        obtain rfl := Option.some.inj hR
        exact z_iret hC hQ rfl rfl rfl dX3_roundsLed_38
      · refine z_aload_n hC dX3_roundsLed_16 rfl 0 rfl ?_
        refine z_callVv hC hN [] [0, 1, 2, 3, 4] (c_X3_playRound (l := zl E) (D := zD E) (cI := cI) (cB := cB) (cZ := cZ) (N := N) (a_t := a_t) (a_t_kind := a_t_kind) (a_t_hand := a_t_hand) (a_t_leader := a_t_leader) (a_t_course := a_t_course) (t_players := t_players) (t_round := t_round) (t_time := t_time) (t_kind := t_kind) (t_hand := t_hand) (t_leader := t_leader) (t_course_first := t_course_first) (t_course_second := t_course_second) (t_course_thrown := t_course_thrown)) rfl ⟨rfl, rfl⟩ gX3_roundsLed_X3_playRound hvX3_playRound 0 3 rfl rfl rfl ⟨Nat.le_of_ble_eq_true rfl, Nat.le_of_ble_eq_true rfl⟩ ⟨Nat.zero_le _, Nat.zero_le _⟩ rfl (Nat.le_of_ble_eq_true rfl) rfl (by decide) (fun _ => rfl) dX3_roundsLed_17 hR (fun r17 hR => ?_)
        refine z_aload_n hC dX3_roundsLed_20 rfl 0 rfl ?_
        refine z_iload_n hC dX3_roundsLed_21 rfl 1 rfl ?_
        refine z_callVi_p hC hN [.int l1] [0, 3] (c_X3_leads (l := zl E) (D := zD E) (cI := cI) (cB := cB) (cZ := cZ) (N := N) (a_t := a_t) (a_t_kind := a_t_kind) (a_t_hand := a_t_hand) (a_t_leader := a_t_leader) (a_t_course := a_t_course) (l1 := l1) (t_players := t_players) (t_round := r17.1) (t_time := r17.2.1) (t_leader := r17.2.2.2.1)) rfl ⟨rfl, rfl⟩ gX3_roundsLed_X3_leads hvX3_leads 0 3 rfl rfl rfl ⟨Nat.le_of_ble_eq_true rfl, Nat.le_of_ble_eq_true rfl⟩ ⟨Nat.zero_le _, Nat.zero_le _⟩ rfl (Nat.le_of_ble_eq_true rfl) rfl (by decide) dX3_roundsLed_22 hR (fun r22 hR => ?_)
        refine z_if_ne hC 30 dX3_roundsLed_25 (by decide) hR (fun hR => ?_) (fun hR => ?_)
        · refine z_iinc1 hC [(2, .int (l2 + 1)), (0, .ref a_t), (1, .int l1)] dX3_roundsLed_30 2 rfl (by decide) rfl ?_
          refine z_goto hC 2 dX3_roundsLed_33 (by decide) ?_
          refine z_sub (lv' := [(0, .ref a_t), (1, .int l1), (2, .int (l2 + 1))]) [1, 2, 0] rfl ?_
          exact ih r17.1 r17.2.1 r17.2.2.1 r17.2.2.2.1 r17.2.2.2.2.1 r17.2.2.2.2.2.1 r17.2.2.2.2.2.2 (l2 + 1) hR
        · refine z_iload_n hC dX3_roundsLed_28 rfl 2 rfl ?_
          obtain rfl := Option.some.inj hR
          exact z_iret hC hQ rfl rfl rfl dX3_roundsLed_29
set_option maxHeartbeats 4000000 in
set_option maxRecDepth 100000 in
theorem z_X3_roundsLed_0 {sK sV : Nat → Nat} {E : ZE} {cI cB cZ : ClassId} (hC : ZC E 3 cX3_roundsLed wsX3_roundsLed RX3 rmX3_roundsLed (some .int) (zty cI cB cZ)) (hN : ZN sK sV (zA E) (zs E)) {N : Nat} {a_t : Nat} {a_t_kind : Nat} {a_t_hand : Nat} {a_t_leader : Nat} {a_t_course : Nat} {t_players : Int32} {t_round : Int32} {t_time : Int32} {t_kind : (Nat → Int32)} {t_hand : (Nat → Int32)} {t_leader : (Nat → Int32)} {t_course_first : Int32} {t_course_second : Int32} {t_course_thrown : Int32} {l1 : Int32} {rf : Int32 × Int32 × Int32 × (Nat → Int32) × (Nat → Int32) × Int32 × Int32 × Int32} (hQ : ZQi E (zty cI cB cZ) rf.1 [(a_t, .inr (3, [.int t_players, .int rf.2.1, .int rf.2.2.1, .ref a_t_kind, .ref a_t_hand, .ref a_t_leader, .ref a_t_course])), (a_t_kind, .inl (cI, 8, .inl t_kind)), (a_t_hand, .inl (cI, 8, .inl rf.2.2.2.1)), (a_t_leader, .inl (cI, 8, .inl rf.2.2.2.2.1)), (a_t_course, .inr (2, [.int rf.2.2.2.2.2.1, .int rf.2.2.2.2.2.2.1, .int rf.2.2.2.2.2.2.2]))]) (hR : o_X3_roundsLed N t_players t_round t_time t_kind t_hand t_leader t_course_first t_course_second t_course_thrown l1 = some rf) : Z E (0, 0) [(0, .ref a_t), (1, .int l1)] 0 [] [(a_t, .inr (3, [.int t_players, .int t_round, .int t_time, .ref a_t_kind, .ref a_t_hand, .ref a_t_leader, .ref a_t_course])), (a_t_kind, .inl (cI, 8, .inl t_kind)), (a_t_hand, .inl (cI, 8, .inl t_hand)), (a_t_leader, .inl (cI, 8, .inl t_leader)), (a_t_course, .inr (2, [.int t_course_first, .int t_course_second, .int t_course_thrown]))] := by
  rw [o_X3_roundsLed] at hR
  refine z_ic0 hC dX3_roundsLed_0 ?_
  refine z_istore_n hC [(2, .int 0), (0, .ref a_t), (1, .int l1)] dX3_roundsLed_1 rfl (by decide) rfl ?_
  refine z_sub (lv' := [(0, .ref a_t), (1, .int l1), (2, .int 0)]) [1, 2, 0] rfl ?_
  exact z_X3_roundsLed_2 hC hN (N := N) (a_t := a_t) (a_t_kind := a_t_kind) (a_t_hand := a_t_hand) (a_t_leader := a_t_leader) (a_t_course := a_t_course) (t_players := t_players) (t_kind := t_kind) (l1 := l1) hQ  N t_round t_time t_hand t_leader t_course_first t_course_second t_course_thrown 0 hR
set_option maxHeartbeats 4000000 in
set_option maxRecDepth 100000 in
theorem c_X3_roundsLed {sK sV : Nat → Nat} {l : Launch} {D : va_G} {cI cB cZ : ClassId} {N : Nat} {a_t : Nat} {a_t_kind : Nat} {a_t_hand : Nat} {a_t_leader : Nat} {a_t_course : Nat} {t_players : Int32} {t_round : Int32} {t_time : Int32} {t_kind : (Nat → Int32)} {t_hand : (Nat → Int32)} {t_leader : (Nat → Int32)} {t_course_first : Int32} {t_course_second : Int32} {t_course_thrown : Int32} {l1 : Int32} : ∀ R : Int32 × Int32 × Int32 × (Nat → Int32) × (Nat → Int32) × Int32 × Int32 × Int32, o_X3_roundsLed N t_players t_round t_time t_kind t_hand t_leader t_course_first t_course_second t_course_thrown l1 = some R → ZMi sK sV l yX3_roundsLed wsX3_roundsLed rmX3_roundsLed D (zty cI cB cZ) [.ref a_t, .int l1] [(a_t, .inr (3, [.int t_players, .int t_round, .int t_time, .ref a_t_kind, .ref a_t_hand, .ref a_t_leader, .ref a_t_course])), (a_t_kind, .inl (cI, 8, .inl t_kind)), (a_t_hand, .inl (cI, 8, .inl t_hand)), (a_t_leader, .inl (cI, 8, .inl t_leader)), (a_t_course, .inr (2, [.int t_course_first, .int t_course_second, .int t_course_thrown]))] R.1 [(a_t, .inr (3, [.int t_players, .int R.2.1, .int R.2.2.1, .ref a_t_kind, .ref a_t_hand, .ref a_t_leader, .ref a_t_course])), (a_t_kind, .inl (cI, 8, .inl t_kind)), (a_t_hand, .inl (cI, 8, .inl R.2.2.2.1)), (a_t_leader, .inl (cI, 8, .inl R.2.2.2.2.1)), (a_t_course, .inr (2, [.int R.2.2.2.2.2.1, .int R.2.2.2.2.2.2.1, .int R.2.2.2.2.2.2.2]))] := by
  intro R hR
  refine zi_of (cc := cX3_roundsLed) (maxL := 3) (ret := (some .int)) (by decide) rfl (Nat.le_of_ble_eq_true rfl) (fun E hE1 hE2 hC hN hQ => ?_)
  subst hE1 hE2
  exact z_X3_roundsLed_0 hC hN (N := N) (a_t := a_t) (a_t_kind := a_t_kind) (a_t_hand := a_t_hand) (a_t_leader := a_t_leader) (a_t_course := a_t_course) (t_players := t_players) (t_round := t_round) (t_time := t_time) (t_kind := t_kind) (t_hand := t_hand) (t_leader := t_leader) (t_course_first := t_course_first) (t_course_second := t_course_second) (t_course_thrown := t_course_thrown) (l1 := l1) hQ hR

/-! FistTrains.isBoyish -/
abbrev rmX8_isBoyish : Room := { frames := 0, cells := 0, slots := 0, locals := 0 }
def o_X8_isBoyish (N : Nat) (l0 : Int32) : Option (Int32) :=
  if l0 = 1 then
    some (1)
  else
    if l0 = 2 then
      some (1)
    else
      if l0 = 3 then
        some (1)
      else
        some (0)
set_option maxHeartbeats 4000000 in
set_option maxRecDepth 100000 in
theorem z_X8_isBoyish_0 {sK sV : Nat → Nat} {E : ZE} {cI cB cZ : ClassId} (hC : ZC E 1 cX8_isBoyish wsX8_isBoyish RX8 rmX8_isBoyish (some .boolean) (zty cI cB cZ)) (hN : ZN sK sV (zA E) (zs E)) {N : Nat} {l0 : Int32} {rf : Int32} (hQ : ZQi E (zty cI cB cZ) rf []) (hR : o_X8_isBoyish N l0 = some rf) : Z E (0, 0) [(0, .int l0)] 0 [] [] := by
  rw [o_X8_isBoyish] at hR
  refine z_iload_n hC dX8_isBoyish_0 rfl 0 rfl ?_
  refine z_ic1 hC dX8_isBoyish_1 ?_
  refine z_icmp_eq hC 15 dX8_isBoyish_2 (by decide) hR (fun hR => ?_) (fun hR => ?_)
  · refine z_ic1 hC dX8_isBoyish_15 ?_
    refine z_goto hC 20 dX8_isBoyish_16 (by decide) ?_
    obtain rfl := Option.some.inj hR
    exact z_iret hC hQ rfl rfl rfl dX8_isBoyish_20
  · refine z_iload_n hC dX8_isBoyish_5 rfl 0 rfl ?_
    refine z_ic2 hC dX8_isBoyish_6 ?_
    refine z_icmp_eq hC 15 dX8_isBoyish_7 (by decide) hR (fun hR => ?_) (fun hR => ?_)
    · refine z_ic1 hC dX8_isBoyish_15 ?_
      refine z_goto hC 20 dX8_isBoyish_16 (by decide) ?_
      obtain rfl := Option.some.inj hR
      exact z_iret hC hQ rfl rfl rfl dX8_isBoyish_20
    · refine z_iload_n hC dX8_isBoyish_10 rfl 0 rfl ?_
      refine z_ic3 hC dX8_isBoyish_11 ?_
      refine z_icmp_ne hC 19 dX8_isBoyish_12 (by decide) hR (fun hR => ?_) (fun hR => ?_)
      · refine z_ic0 hC dX8_isBoyish_19 ?_
        obtain rfl := Option.some.inj hR
        exact z_iret hC hQ rfl rfl rfl dX8_isBoyish_20
      · refine z_ic1 hC dX8_isBoyish_15 ?_
        refine z_goto hC 20 dX8_isBoyish_16 (by decide) ?_
        obtain rfl := Option.some.inj hR
        exact z_iret hC hQ rfl rfl rfl dX8_isBoyish_20
set_option maxHeartbeats 4000000 in
set_option maxRecDepth 100000 in
theorem c_X8_isBoyish {sK sV : Nat → Nat} {l : Launch} {D : va_G} {cI cB cZ : ClassId} {N : Nat} {l0 : Int32} : ∀ R : Int32, o_X8_isBoyish N l0 = some R → ZMi sK sV l yX8_isBoyish wsX8_isBoyish rmX8_isBoyish D (zty cI cB cZ) [.int l0] [] R [] := by
  intro R hR
  refine zi_of (cc := cX8_isBoyish) (maxL := 1) (ret := (some .boolean)) (by decide) rfl (Nat.le_of_ble_eq_true rfl) (fun E hE1 hE2 hC hN hQ => ?_)
  subst hE1 hE2
  exact z_X8_isBoyish_0 hC hN (N := N) (l0 := l0) hQ hR

/-! FistTrains$Asks.leave -/
abbrev rmX1_leave : Room := { frames := 0, cells := 0, slots := 0, locals := 0 }
set_option maxRecDepth 20000 in
theorem iX1_leave_X1 : ∀ w ∈ wsX10, w ∈ wsX1_leave := by decide +kernel
set_option maxRecDepth 20000 in
theorem mX1_leave_1 : Cond.fieldLink RX1 15 "FistTrains$Asks" "length" "I" ∈ wsX1_leave := List.mem_of_getElem? (i := 1) rfl
set_option maxRecDepth 20000 in
theorem mX1_leave_2 : Cond.fieldLink RX1 11 "FistTrains$Asks" "numbers" "[I" ∈ wsX1_leave := List.mem_of_getElem? (i := 2) rfl
def o_X1_leave (N : Nat) (t_length : Int32) (t_numbers : (Nat → Int32)) (l1 : Int32) : Option (Int32 × (Nat → Int32)) :=
  if 16 ≤ t_length then
    some (t_length, t_numbers)
  else
    ogd (inb t_length 16) (
    some ((t_length + 1), (upd t_numbers (Int32.toNatClampNeg t_length) l1)))
set_option maxHeartbeats 4000000 in
set_option maxRecDepth 100000 in
theorem z_X1_leave_0 {sK sV : Nat → Nat} {E : ZE} {cI cB cZ : ClassId} (hC : ZC E 2 cX1_leave wsX1_leave RX1 rmX1_leave none (zty cI cB cZ)) (hN : ZN sK sV (zA E) (zs E)) {N : Nat} {a_t : Nat} {a_t_numbers : Nat} {t_length : Int32} {t_numbers : (Nat → Int32)} {l1 : Int32} {rf : Int32 × (Nat → Int32)} (hQ : ZQv E (zty cI cB cZ) [(a_t, .inr (1, [.ref a_t_numbers, .int rf.1])), (a_t_numbers, .inl (cI, 16, .inl rf.2))]) (hR : o_X1_leave N t_length t_numbers l1 = some rf) : Z E (0, 0) [(0, .ref a_t), (1, .int l1)] 0 [] [(a_t, .inr (1, [.ref a_t_numbers, .int t_length])), (a_t_numbers, .inl (cI, 16, .inl t_numbers))] := by
  rw [o_X1_leave] at hR
  refine z_aload_n hC dX1_leave_0 rfl 0 rfl ?_
  refine z_get hC iX1_leave_X1 rfl 0 1 rfl (by decide) mX1_leave_1 rfl rfl dX1_leave_1 ?_
  refine z_bipush (v := 16) hC dX1_leave_4 (by decide) ?_
  refine z_icmp_ge hC 29 dX1_leave_6 (by decide) hR (fun hR => ?_) (fun hR => ?_)
  · obtain rfl := Option.some.inj hR
    exact z_vret hC hQ rfl dX1_leave_29
  · refine z_aload_n hC dX1_leave_9 rfl 0 rfl ?_
    refine z_get hC iX1_leave_X1 rfl 0 0 rfl (by decide) mX1_leave_2 rfl rfl dX1_leave_10 ?_
    refine z_aload_n hC dX1_leave_13 rfl 0 rfl ?_
    refine z_get hC iX1_leave_X1 rfl 0 1 rfl (by decide) mX1_leave_1 rfl rfl dX1_leave_14 ?_
    refine z_iload_n hC dX1_leave_17 rfl 1 rfl ?_
    refine z_iast hC 1 0 rfl rfl dX1_leave_18 hR (fun hR => ?_)
    refine z_aload_n hC dX1_leave_19 rfl 0 rfl ?_
    refine z_dup hC dX1_leave_20 rfl ?_
    refine z_get hC iX1_leave_X1 rfl 0 1 rfl (by decide) mX1_leave_1 rfl rfl dX1_leave_21 ?_
    refine z_ic1 hC dX1_leave_24 ?_
    refine z_iadd hC dX1_leave_25 ?_
    refine z_put hC iX1_leave_X1 tyX1_ok nmX1 rfl 0 1 rfl (by decide) mX1_leave_1 rfl rfl rfl rfl (Nat.le_of_ble_eq_true rfl) dX1_leave_26 ?_
    obtain rfl := Option.some.inj hR
    exact z_vret hC hQ rfl dX1_leave_29
set_option maxHeartbeats 4000000 in
set_option maxRecDepth 100000 in
theorem c_X1_leave {sK sV : Nat → Nat} {l : Launch} {D : va_G} {cI cB cZ : ClassId} {N : Nat} {a_t : Nat} {a_t_numbers : Nat} {t_length : Int32} {t_numbers : (Nat → Int32)} {l1 : Int32} : ∀ R : Int32 × (Nat → Int32), o_X1_leave N t_length t_numbers l1 = some R → ZMv sK sV l yX1_leave wsX1_leave rmX1_leave D (zty cI cB cZ) [.ref a_t, .int l1] [(a_t, .inr (1, [.ref a_t_numbers, .int t_length])), (a_t_numbers, .inl (cI, 16, .inl t_numbers))] [(a_t, .inr (1, [.ref a_t_numbers, .int R.1])), (a_t_numbers, .inl (cI, 16, .inl R.2))] := by
  intro R hR
  refine zv_of (cc := cX1_leave) (maxL := 2) (ret := none) (by decide) rfl (Nat.le_of_ble_eq_true rfl) (fun E hE1 hE2 hC hN hQ => ?_)
  subst hE1 hE2
  exact z_X1_leave_0 hC hN (N := N) (a_t := a_t) (a_t_numbers := a_t_numbers) (t_length := t_length) (t_numbers := t_numbers) (l1 := l1) hQ hR

/-! FistTrains$Asks.sizeOfPlayer -/
abbrev rmX1_sizeOfPlayer : Room := { frames := 1, cells := 0, slots := 0, locals := 23 }
def o_X1_sizeOfPlayer (N : Nat) (t_length : Int32) (t_numbers : (Nat → Int32)) (p1_players : Int32) (p1_leader : (Nat → Int32)) (l2 : Int32) : Option (Int32 × Int32 × (Nat → Int32)) :=
  Option.bind (o_X1_leave N t_length t_numbers 10) (fun r3 =>
  Option.bind (o_X3_trainOf N p1_players p1_leader l2) (fun r8 =>
  some (r8, r3.1, r3.2)))
set_option maxHeartbeats 4000000 in
set_option maxRecDepth 100000 in
theorem z_X1_sizeOfPlayer_0 {sK sV : Nat → Nat} {E : ZE} {cI cB cZ : ClassId} (hC : ZC E 3 cX1_sizeOfPlayer wsX1_sizeOfPlayer RX1 rmX1_sizeOfPlayer (some .int) (zty cI cB cZ)) (hN : ZN sK sV (zA E) (zs E)) {N : Nat} {a_t : Nat} {a_t_numbers : Nat} {a_p1 : Nat} {a_p1_leader : Nat} {a_p1_kind : Nat} {a_p1_hand : Nat} {a_p1_course : Nat} {t_length : Int32} {t_numbers : (Nat → Int32)} {p1_players : Int32} {p1_round : Int32} {p1_time : Int32} {p1_leader : (Nat → Int32)} {l2 : Int32} {rf : Int32 × Int32 × (Nat → Int32)} (hQ : ZQi E (zty cI cB cZ) rf.1 [(a_t, .inr (1, [.ref a_t_numbers, .int rf.2.1])), (a_t_numbers, .inl (cI, 16, .inl rf.2.2)), (a_p1, .inr (3, [.int p1_players, .int p1_round, .int p1_time, .ref a_p1_kind, .ref a_p1_hand, .ref a_p1_leader, .ref a_p1_course])), (a_p1_leader, .inl (cI, 8, .inl p1_leader))]) (hR : o_X1_sizeOfPlayer N t_length t_numbers p1_players p1_leader l2 = some rf) : Z E (0, 0) [(0, .ref a_t), (1, .ref a_p1), (2, .int l2)] 0 [] [(a_t, .inr (1, [.ref a_t_numbers, .int t_length])), (a_t_numbers, .inl (cI, 16, .inl t_numbers)), (a_p1, .inr (3, [.int p1_players, .int p1_round, .int p1_time, .ref a_p1_kind, .ref a_p1_hand, .ref a_p1_leader, .ref a_p1_course])), (a_p1_leader, .inl (cI, 8, .inl p1_leader))] := by
  rw [o_X1_sizeOfPlayer] at hR
  refine z_aload_n hC dX1_sizeOfPlayer_0 rfl 0 rfl ?_
  refine z_bipush (v := 10) hC dX1_sizeOfPlayer_1 (by decide) ?_
  refine z_callVv hC hN [.int 10] [0, 1] (c_X1_leave (l := zl E) (D := zD E) (cI := cI) (cB := cB) (cZ := cZ) (N := N) (a_t := a_t) (a_t_numbers := a_t_numbers) (l1 := 10) (t_length := t_length) (t_numbers := t_numbers)) rfl ⟨rfl, rfl⟩ gX1_sizeOfPlayer_X1_leave hvX1_leave 0 1 rfl rfl rfl ⟨Nat.le_of_ble_eq_true rfl, Nat.le_of_ble_eq_true rfl⟩ ⟨Nat.zero_le _, Nat.zero_le _⟩ rfl (Nat.le_of_ble_eq_true rfl) rfl (by decide) (fun _ => rfl) dX1_sizeOfPlayer_3 hR (fun r3 hR => ?_)
  refine z_aload_n hC dX1_sizeOfPlayer_6 rfl 1 rfl ?_
  refine z_iload_n hC dX1_sizeOfPlayer_7 rfl 2 rfl ?_
  refine z_callVi_p hC hN [.int l2] [2, 3] (c_X3_trainOf (l := zl E) (D := zD E) (cI := cI) (cB := cB) (cZ := cZ) (N := N) (a_t := a_p1) (a_t_kind := a_p1_kind) (a_t_hand := a_p1_hand) (a_t_leader := a_p1_leader) (a_t_course := a_p1_course) (l1 := l2) (t_players := p1_players) (t_round := p1_round) (t_time := p1_time) (t_leader := p1_leader)) rfl ⟨rfl, rfl⟩ gX1_sizeOfPlayer_X3_trainOf hvX3_trainOf 2 3 rfl rfl rfl ⟨Nat.le_of_ble_eq_true rfl, Nat.le_of_ble_eq_true rfl⟩ ⟨Nat.zero_le _, Nat.zero_le _⟩ rfl (Nat.le_of_ble_eq_true rfl) rfl (by decide) dX1_sizeOfPlayer_8 hR (fun r8 hR => ?_)
  obtain rfl := Option.some.inj hR
  exact z_iret hC hQ rfl rfl rfl dX1_sizeOfPlayer_11
set_option maxHeartbeats 4000000 in
set_option maxRecDepth 100000 in
theorem c_X1_sizeOfPlayer {sK sV : Nat → Nat} {l : Launch} {D : va_G} {cI cB cZ : ClassId} {N : Nat} {a_t : Nat} {a_t_numbers : Nat} {a_p1 : Nat} {a_p1_leader : Nat} {a_p1_kind : Nat} {a_p1_hand : Nat} {a_p1_course : Nat} {t_length : Int32} {t_numbers : (Nat → Int32)} {p1_players : Int32} {p1_round : Int32} {p1_time : Int32} {p1_leader : (Nat → Int32)} {l2 : Int32} : ∀ R : Int32 × Int32 × (Nat → Int32), o_X1_sizeOfPlayer N t_length t_numbers p1_players p1_leader l2 = some R → ZMi sK sV l yX1_sizeOfPlayer wsX1_sizeOfPlayer rmX1_sizeOfPlayer D (zty cI cB cZ) [.ref a_t, .ref a_p1, .int l2] [(a_t, .inr (1, [.ref a_t_numbers, .int t_length])), (a_t_numbers, .inl (cI, 16, .inl t_numbers)), (a_p1, .inr (3, [.int p1_players, .int p1_round, .int p1_time, .ref a_p1_kind, .ref a_p1_hand, .ref a_p1_leader, .ref a_p1_course])), (a_p1_leader, .inl (cI, 8, .inl p1_leader))] R.1 [(a_t, .inr (1, [.ref a_t_numbers, .int R.2.1])), (a_t_numbers, .inl (cI, 16, .inl R.2.2)), (a_p1, .inr (3, [.int p1_players, .int p1_round, .int p1_time, .ref a_p1_kind, .ref a_p1_hand, .ref a_p1_leader, .ref a_p1_course])), (a_p1_leader, .inl (cI, 8, .inl p1_leader))] := by
  intro R hR
  refine zi_of (cc := cX1_sizeOfPlayer) (maxL := 3) (ret := (some .int)) (by decide) rfl (Nat.le_of_ble_eq_true rfl) (fun E hE1 hE2 hC hN hQ => ?_)
  subst hE1 hE2
  exact z_X1_sizeOfPlayer_0 hC hN (N := N) (a_t := a_t) (a_t_numbers := a_t_numbers) (a_p1 := a_p1) (a_p1_leader := a_p1_leader) (a_p1_kind := a_p1_kind) (a_p1_hand := a_p1_hand) (a_p1_course := a_p1_course) (t_length := t_length) (t_numbers := t_numbers) (p1_players := p1_players) (p1_round := p1_round) (p1_time := p1_time) (p1_leader := p1_leader) (l2 := l2) hQ hR

/-! FistTrains$Asks.markOfPlayer -/
abbrev rmX1_markOfPlayer : Room := { frames := 1, cells := 0, slots := 0, locals := 21 }
def o_X1_markOfPlayer (N : Nat) (t_length : Int32) (t_numbers : (Nat → Int32)) (l1 : Int32) : Option (Int32 × Int32 × (Nat → Int32)) :=
  Option.bind (o_X1_leave N t_length t_numbers 20) (fun r3 =>
  some (l1, r3.1, r3.2))
set_option maxHeartbeats 4000000 in
set_option maxRecDepth 100000 in
theorem z_X1_markOfPlayer_0 {sK sV : Nat → Nat} {E : ZE} {cI cB cZ : ClassId} (hC : ZC E 2 cX1_markOfPlayer wsX1_markOfPlayer RX1 rmX1_markOfPlayer (some .int) (zty cI cB cZ)) (hN : ZN sK sV (zA E) (zs E)) {N : Nat} {a_t : Nat} {a_t_numbers : Nat} {t_length : Int32} {t_numbers : (Nat → Int32)} {l1 : Int32} {rf : Int32 × Int32 × (Nat → Int32)} (hQ : ZQi E (zty cI cB cZ) rf.1 [(a_t, .inr (1, [.ref a_t_numbers, .int rf.2.1])), (a_t_numbers, .inl (cI, 16, .inl rf.2.2))]) (hR : o_X1_markOfPlayer N t_length t_numbers l1 = some rf) : Z E (0, 0) [(0, .ref a_t), (1, .int l1)] 0 [] [(a_t, .inr (1, [.ref a_t_numbers, .int t_length])), (a_t_numbers, .inl (cI, 16, .inl t_numbers))] := by
  rw [o_X1_markOfPlayer] at hR
  refine z_aload_n hC dX1_markOfPlayer_0 rfl 0 rfl ?_
  refine z_bipush (v := 20) hC dX1_markOfPlayer_1 (by decide) ?_
  refine z_callVv hC hN [.int 20] [0, 1] (c_X1_leave (l := zl E) (D := zD E) (cI := cI) (cB := cB) (cZ := cZ) (N := N) (a_t := a_t) (a_t_numbers := a_t_numbers) (l1 := 20) (t_length := t_length) (t_numbers := t_numbers)) rfl ⟨rfl, rfl⟩ gX1_markOfPlayer_X1_leave hvX1_leave 0 1 rfl rfl rfl ⟨Nat.le_of_ble_eq_true rfl, Nat.le_of_ble_eq_true rfl⟩ ⟨Nat.zero_le _, Nat.zero_le _⟩ rfl (Nat.le_of_ble_eq_true rfl) rfl (by decide) (fun _ => rfl) dX1_markOfPlayer_3 hR (fun r3 hR => ?_)
  refine z_iload_n hC dX1_markOfPlayer_6 rfl 1 rfl ?_
  obtain rfl := Option.some.inj hR
  exact z_iret hC hQ rfl rfl rfl dX1_markOfPlayer_7
set_option maxHeartbeats 4000000 in
set_option maxRecDepth 100000 in
theorem c_X1_markOfPlayer {sK sV : Nat → Nat} {l : Launch} {D : va_G} {cI cB cZ : ClassId} {N : Nat} {a_t : Nat} {a_t_numbers : Nat} {t_length : Int32} {t_numbers : (Nat → Int32)} {l1 : Int32} : ∀ R : Int32 × Int32 × (Nat → Int32), o_X1_markOfPlayer N t_length t_numbers l1 = some R → ZMi sK sV l yX1_markOfPlayer wsX1_markOfPlayer rmX1_markOfPlayer D (zty cI cB cZ) [.ref a_t, .int l1] [(a_t, .inr (1, [.ref a_t_numbers, .int t_length])), (a_t_numbers, .inl (cI, 16, .inl t_numbers))] R.1 [(a_t, .inr (1, [.ref a_t_numbers, .int R.2.1])), (a_t_numbers, .inl (cI, 16, .inl R.2.2))] := by
  intro R hR
  refine zi_of (cc := cX1_markOfPlayer) (maxL := 2) (ret := (some .int)) (by decide) rfl (Nat.le_of_ble_eq_true rfl) (fun E hE1 hE2 hC hN hQ => ?_)
  subst hE1 hE2
  exact z_X1_markOfPlayer_0 hC hN (N := N) (a_t := a_t) (a_t_numbers := a_t_numbers) (t_length := t_length) (t_numbers := t_numbers) (l1 := l1) hQ hR

/-! FistTrains$Asks.markOfBoy -/
abbrev rmX1_markOfBoy : Room := { frames := 2, cells := 0, slots := 0, locals := 42 }
set_option maxRecDepth 20000 in
theorem iX1_markOfBoy_X3 : ∀ w ∈ wsX30, w ∈ wsX1_markOfBoy := by decide +kernel
set_option maxRecDepth 20000 in
theorem mX1_markOfBoy_1 : Cond.fieldLink RX1 58 "FistTrains$Hall" "hand" "[I" ∈ wsX1_markOfBoy := List.mem_of_getElem? (i := 1) rfl
def o_X1_markOfBoy (N : Nat) (t_length : Int32) (t_numbers : (Nat → Int32)) (p1_hand : (Nat → Int32)) (l2 : Int32) : Option (Int32 × Int32 × (Nat → Int32)) :=
  Option.bind (o_X1_leave N t_length t_numbers 21) (fun r3 =>
  Option.bind (o_X1_markOfPlayer N r3.1 r3.2 l2) (fun r8 =>
  ogd (inb l2 8) (
  some ((r8.1 + (p1_hand (Int32.toNatClampNeg l2))), r8.2.1, r8.2.2))))
set_option maxHeartbeats 4000000 in
set_option maxRecDepth 100000 in
theorem z_X1_markOfBoy_0 {sK sV : Nat → Nat} {E : ZE} {cI cB cZ : ClassId} (hC : ZC E 3 cX1_markOfBoy wsX1_markOfBoy RX1 rmX1_markOfBoy (some .int) (zty cI cB cZ)) (hN : ZN sK sV (zA E) (zs E)) {N : Nat} {a_t : Nat} {a_t_numbers : Nat} {a_p1 : Nat} {a_p1_hand : Nat} {a_p1_kind : Nat} {a_p1_leader : Nat} {a_p1_course : Nat} {t_length : Int32} {t_numbers : (Nat → Int32)} {p1_players : Int32} {p1_round : Int32} {p1_time : Int32} {p1_hand : (Nat → Int32)} {l2 : Int32} {rf : Int32 × Int32 × (Nat → Int32)} (hQ : ZQi E (zty cI cB cZ) rf.1 [(a_t, .inr (1, [.ref a_t_numbers, .int rf.2.1])), (a_t_numbers, .inl (cI, 16, .inl rf.2.2)), (a_p1, .inr (3, [.int p1_players, .int p1_round, .int p1_time, .ref a_p1_kind, .ref a_p1_hand, .ref a_p1_leader, .ref a_p1_course])), (a_p1_hand, .inl (cI, 8, .inl p1_hand))]) (hR : o_X1_markOfBoy N t_length t_numbers p1_hand l2 = some rf) : Z E (0, 0) [(0, .ref a_t), (1, .ref a_p1), (2, .int l2)] 0 [] [(a_t, .inr (1, [.ref a_t_numbers, .int t_length])), (a_t_numbers, .inl (cI, 16, .inl t_numbers)), (a_p1, .inr (3, [.int p1_players, .int p1_round, .int p1_time, .ref a_p1_kind, .ref a_p1_hand, .ref a_p1_leader, .ref a_p1_course])), (a_p1_hand, .inl (cI, 8, .inl p1_hand))] := by
  rw [o_X1_markOfBoy] at hR
  refine z_aload_n hC dX1_markOfBoy_0 rfl 0 rfl ?_
  refine z_bipush (v := 21) hC dX1_markOfBoy_1 (by decide) ?_
  refine z_callVv hC hN [.int 21] [0, 1] (c_X1_leave (l := zl E) (D := zD E) (cI := cI) (cB := cB) (cZ := cZ) (N := N) (a_t := a_t) (a_t_numbers := a_t_numbers) (l1 := 21) (t_length := t_length) (t_numbers := t_numbers)) rfl ⟨rfl, rfl⟩ gX1_markOfBoy_X1_leave hvX1_leave 0 1 rfl rfl rfl ⟨Nat.le_of_ble_eq_true rfl, Nat.le_of_ble_eq_true rfl⟩ ⟨Nat.zero_le _, Nat.zero_le _⟩ rfl (Nat.le_of_ble_eq_true rfl) rfl (by decide) (fun _ => rfl) dX1_markOfBoy_3 hR (fun r3 hR => ?_)
  refine z_aload_n hC dX1_markOfBoy_6 rfl 0 rfl ?_
  refine z_iload_n hC dX1_markOfBoy_7 rfl 2 rfl ?_
  refine z_callVi hC hN [.int l2] [0, 1] (c_X1_markOfPlayer (l := zl E) (D := zD E) (cI := cI) (cB := cB) (cZ := cZ) (N := N) (a_t := a_t) (a_t_numbers := a_t_numbers) (l1 := l2) (t_length := r3.1) (t_numbers := r3.2)) rfl ⟨rfl, rfl⟩ gX1_markOfBoy_X1_markOfPlayer hvX1_markOfPlayer 0 1 rfl rfl rfl ⟨Nat.le_of_ble_eq_true rfl, Nat.le_of_ble_eq_true rfl⟩ ⟨Nat.zero_le _, Nat.zero_le _⟩ rfl (Nat.le_of_ble_eq_true rfl) rfl (by decide) (fun _ => rfl) dX1_markOfBoy_8 hR (fun r8 hR => ?_)
  refine z_aload_n hC dX1_markOfBoy_11 rfl 1 rfl ?_
  refine z_get hC iX1_markOfBoy_X3 rfl 2 4 rfl (by decide) mX1_markOfBoy_1 rfl rfl dX1_markOfBoy_12 ?_
  refine z_iload_n hC dX1_markOfBoy_15 rfl 2 rfl ?_
  refine z_iald hC 3 0 rfl rfl dX1_markOfBoy_16 hR (fun hR => ?_)
  refine z_iadd hC dX1_markOfBoy_17 ?_
  obtain rfl := Option.some.inj hR
  exact z_iret hC hQ rfl rfl rfl dX1_markOfBoy_18
set_option maxHeartbeats 4000000 in
set_option maxRecDepth 100000 in
theorem c_X1_markOfBoy {sK sV : Nat → Nat} {l : Launch} {D : va_G} {cI cB cZ : ClassId} {N : Nat} {a_t : Nat} {a_t_numbers : Nat} {a_p1 : Nat} {a_p1_hand : Nat} {a_p1_kind : Nat} {a_p1_leader : Nat} {a_p1_course : Nat} {t_length : Int32} {t_numbers : (Nat → Int32)} {p1_players : Int32} {p1_round : Int32} {p1_time : Int32} {p1_hand : (Nat → Int32)} {l2 : Int32} : ∀ R : Int32 × Int32 × (Nat → Int32), o_X1_markOfBoy N t_length t_numbers p1_hand l2 = some R → ZMi sK sV l yX1_markOfBoy wsX1_markOfBoy rmX1_markOfBoy D (zty cI cB cZ) [.ref a_t, .ref a_p1, .int l2] [(a_t, .inr (1, [.ref a_t_numbers, .int t_length])), (a_t_numbers, .inl (cI, 16, .inl t_numbers)), (a_p1, .inr (3, [.int p1_players, .int p1_round, .int p1_time, .ref a_p1_kind, .ref a_p1_hand, .ref a_p1_leader, .ref a_p1_course])), (a_p1_hand, .inl (cI, 8, .inl p1_hand))] R.1 [(a_t, .inr (1, [.ref a_t_numbers, .int R.2.1])), (a_t_numbers, .inl (cI, 16, .inl R.2.2)), (a_p1, .inr (3, [.int p1_players, .int p1_round, .int p1_time, .ref a_p1_kind, .ref a_p1_hand, .ref a_p1_leader, .ref a_p1_course])), (a_p1_hand, .inl (cI, 8, .inl p1_hand))] := by
  intro R hR
  refine zi_of (cc := cX1_markOfBoy) (maxL := 3) (ret := (some .int)) (by decide) rfl (Nat.le_of_ble_eq_true rfl) (fun E hE1 hE2 hC hN hQ => ?_)
  subst hE1 hE2
  exact z_X1_markOfBoy_0 hC hN (N := N) (a_t := a_t) (a_t_numbers := a_t_numbers) (a_p1 := a_p1) (a_p1_hand := a_p1_hand) (a_p1_kind := a_p1_kind) (a_p1_leader := a_p1_leader) (a_p1_course := a_p1_course) (t_length := t_length) (t_numbers := t_numbers) (p1_players := p1_players) (p1_round := p1_round) (p1_time := p1_time) (p1_hand := p1_hand) (l2 := l2) hQ hR

/-! FistTrains$Asks.markOfBoyish -/
abbrev rmX1_markOfBoyish : Room := { frames := 3, cells := 0, slots := 0, locals := 64 }
set_option maxRecDepth 20000 in
theorem iX1_markOfBoyish_X3 : ∀ w ∈ wsX30, w ∈ wsX1_markOfBoyish := by decide +kernel
set_option maxRecDepth 20000 in
theorem mX1_markOfBoyish_1 : Cond.fieldLink RX1 19 "FistTrains$Hall" "kind" "[I" ∈ wsX1_markOfBoyish := List.mem_of_getElem? (i := 1) rfl
def o_X1_markOfBoyish (N : Nat) (t_length : Int32) (t_numbers : (Nat → Int32)) (p1_kind : (Nat → Int32)) (p1_hand : (Nat → Int32)) (l2 : Int32) : Option (Int32 × Int32 × (Nat → Int32)) :=
  ogd (inb l2 8) (
  if (p1_kind (Int32.toNatClampNeg l2)) = 2 then
    Option.bind (o_X1_leave N t_length t_numbers 24) (fun r52 =>
    Option.bind (o_X1_markOfBoy N r52.1 r52.2 p1_hand l2) (fun r59 =>
    some ((2 * r59.1), r59.2.1, r59.2.2)))
  else
    if (p1_kind (Int32.toNatClampNeg l2)) = 3 then
      Option.bind (o_X1_leave N t_length t_numbers 22) (fun r35 =>
      Option.bind (o_X1_markOfBoy N r35.1 r35.2 p1_hand l2) (fun r41 =>
      some ((r41.1 - 1000), r41.2.1, r41.2.2)))
    else
      Option.bind (o_X1_markOfBoy N t_length t_numbers p1_hand l2) (fun r67 =>
      some (r67.1, r67.2.1, r67.2.2)))
set_option maxHeartbeats 4000000 in
set_option maxRecDepth 100000 in
theorem z_X1_markOfBoyish_0 {sK sV : Nat → Nat} {E : ZE} {cI cB cZ : ClassId} (hC : ZC E 3 cX1_markOfBoyish wsX1_markOfBoyish RX1 rmX1_markOfBoyish (some .int) (zty cI cB cZ)) (hN : ZN sK sV (zA E) (zs E)) {N : Nat} {a_t : Nat} {a_t_numbers : Nat} {a_p1 : Nat} {a_p1_kind : Nat} {a_p1_hand : Nat} {a_p1_leader : Nat} {a_p1_course : Nat} {t_length : Int32} {t_numbers : (Nat → Int32)} {p1_players : Int32} {p1_round : Int32} {p1_time : Int32} {p1_kind : (Nat → Int32)} {p1_hand : (Nat → Int32)} {l2 : Int32} {rf : Int32 × Int32 × (Nat → Int32)} (hQ : ZQi E (zty cI cB cZ) rf.1 [(a_t, .inr (1, [.ref a_t_numbers, .int rf.2.1])), (a_t_numbers, .inl (cI, 16, .inl rf.2.2)), (a_p1, .inr (3, [.int p1_players, .int p1_round, .int p1_time, .ref a_p1_kind, .ref a_p1_hand, .ref a_p1_leader, .ref a_p1_course])), (a_p1_kind, .inl (cI, 8, .inl p1_kind)), (a_p1_hand, .inl (cI, 8, .inl p1_hand))]) (hR : o_X1_markOfBoyish N t_length t_numbers p1_kind p1_hand l2 = some rf) : Z E (0, 0) [(0, .ref a_t), (1, .ref a_p1), (2, .int l2)] 0 [] [(a_t, .inr (1, [.ref a_t_numbers, .int t_length])), (a_t_numbers, .inl (cI, 16, .inl t_numbers)), (a_p1, .inr (3, [.int p1_players, .int p1_round, .int p1_time, .ref a_p1_kind, .ref a_p1_hand, .ref a_p1_leader, .ref a_p1_course])), (a_p1_kind, .inl (cI, 8, .inl p1_kind)), (a_p1_hand, .inl (cI, 8, .inl p1_hand))] := by
  rw [o_X1_markOfBoyish] at hR
  refine z_aload_n hC dX1_markOfBoyish_0 rfl 1 rfl ?_
  refine z_get hC iX1_markOfBoyish_X3 rfl 2 3 rfl (by decide) mX1_markOfBoyish_1 rfl rfl dX1_markOfBoyish_1 ?_
  refine z_iload_n hC dX1_markOfBoyish_4 rfl 2 rfl ?_
  refine z_iald hC 3 0 rfl rfl dX1_markOfBoyish_5 hR (fun hR => ?_)
  refine z_by hR (fun c2 hR => ?_) (fun c2 hR => ?_)
  · refine z_lookup (off := 43) hC 49 dX1_markOfBoyish_6 (by decide) (by rw [c2] <;> rfl) (by decide) ?_
    refine z_aload_n hC dX1_markOfBoyish_49 rfl 0 rfl ?_
    refine z_bipush (v := 24) hC dX1_markOfBoyish_50 (by decide) ?_
    refine z_callVv hC hN [.int 24] [0, 1] (c_X1_leave (l := zl E) (D := zD E) (cI := cI) (cB := cB) (cZ := cZ) (N := N) (a_t := a_t) (a_t_numbers := a_t_numbers) (l1 := 24) (t_length := t_length) (t_numbers := t_numbers)) rfl ⟨rfl, rfl⟩ gX1_markOfBoyish_X1_leave hvX1_leave 0 1 rfl rfl rfl ⟨Nat.le_of_ble_eq_true rfl, Nat.le_of_ble_eq_true rfl⟩ ⟨Nat.zero_le _, Nat.zero_le _⟩ rfl (Nat.le_of_ble_eq_true rfl) rfl (by decide) (fun _ => rfl) dX1_markOfBoyish_52 hR (fun r52 hR => ?_)
    refine z_ic2 hC dX1_markOfBoyish_55 ?_
    refine z_aload_n hC dX1_markOfBoyish_56 rfl 0 rfl ?_
    refine z_aload_n hC dX1_markOfBoyish_57 rfl 1 rfl ?_
    refine z_iload_n hC dX1_markOfBoyish_58 rfl 2 rfl ?_
    refine z_callVi hC hN [.ref a_p1, .int l2] [0, 1, 2, 4] (c_X1_markOfBoy (l := zl E) (D := zD E) (cI := cI) (cB := cB) (cZ := cZ) (N := N) (a_t := a_t) (a_t_numbers := a_t_numbers) (a_p1 := a_p1) (a_p1_kind := a_p1_kind) (a_p1_hand := a_p1_hand) (a_p1_leader := a_p1_leader) (a_p1_course := a_p1_course) (l2 := l2) (t_length := r52.1) (t_numbers := r52.2) (p1_players := p1_players) (p1_round := p1_round) (p1_time := p1_time) (p1_hand := p1_hand)) rfl ⟨rfl, rfl⟩ gX1_markOfBoyish_X1_markOfBoy hvX1_markOfBoy 0 1 rfl rfl rfl ⟨Nat.le_of_ble_eq_true rfl, Nat.le_of_ble_eq_true rfl⟩ ⟨Nat.zero_le _, Nat.zero_le _⟩ rfl (Nat.le_of_ble_eq_true rfl) rfl (by decide) (fun _ => rfl) dX1_markOfBoyish_59 hR (fun r59 hR => ?_)
    refine z_imul hC dX1_markOfBoyish_62 ?_
    obtain rfl := Option.some.inj hR
    exact z_iret hC hQ rfl rfl rfl dX1_markOfBoyish_63
  · refine z_by hR (fun c3 hR => ?_) (fun c3 hR => ?_)
    · refine z_lookup (off := 26) hC 32 dX1_markOfBoyish_6 (by decide) (by rw [c3] <;> rfl) (by decide) ?_
      refine z_aload_n hC dX1_markOfBoyish_32 rfl 0 rfl ?_
      refine z_bipush (v := 22) hC dX1_markOfBoyish_33 (by decide) ?_
      refine z_callVv hC hN [.int 22] [0, 1] (c_X1_leave (l := zl E) (D := zD E) (cI := cI) (cB := cB) (cZ := cZ) (N := N) (a_t := a_t) (a_t_numbers := a_t_numbers) (l1 := 22) (t_length := t_length) (t_numbers := t_numbers)) rfl ⟨rfl, rfl⟩ gX1_markOfBoyish_X1_leave hvX1_leave 0 1 rfl rfl rfl ⟨Nat.le_of_ble_eq_true rfl, Nat.le_of_ble_eq_true rfl⟩ ⟨Nat.zero_le _, Nat.zero_le _⟩ rfl (Nat.le_of_ble_eq_true rfl) rfl (by decide) (fun _ => rfl) dX1_markOfBoyish_35 hR (fun r35 hR => ?_)
      refine z_aload_n hC dX1_markOfBoyish_38 rfl 0 rfl ?_
      refine z_aload_n hC dX1_markOfBoyish_39 rfl 1 rfl ?_
      refine z_iload_n hC dX1_markOfBoyish_40 rfl 2 rfl ?_
      refine z_callVi hC hN [.ref a_p1, .int l2] [0, 1, 2, 4] (c_X1_markOfBoy (l := zl E) (D := zD E) (cI := cI) (cB := cB) (cZ := cZ) (N := N) (a_t := a_t) (a_t_numbers := a_t_numbers) (a_p1 := a_p1) (a_p1_kind := a_p1_kind) (a_p1_hand := a_p1_hand) (a_p1_leader := a_p1_leader) (a_p1_course := a_p1_course) (l2 := l2) (t_length := r35.1) (t_numbers := r35.2) (p1_players := p1_players) (p1_round := p1_round) (p1_time := p1_time) (p1_hand := p1_hand)) rfl ⟨rfl, rfl⟩ gX1_markOfBoyish_X1_markOfBoy hvX1_markOfBoy 0 1 rfl rfl rfl ⟨Nat.le_of_ble_eq_true rfl, Nat.le_of_ble_eq_true rfl⟩ ⟨Nat.zero_le _, Nat.zero_le _⟩ rfl (Nat.le_of_ble_eq_true rfl) rfl (by decide) (fun _ => rfl) dX1_markOfBoyish_41 hR (fun r41 hR => ?_)
      refine z_sipush (v := 1000) hC dX1_markOfBoyish_44 (by decide) ?_
      refine z_isub hC dX1_markOfBoyish_47 ?_
      obtain rfl := Option.some.inj hR
      exact z_iret hC hQ rfl rfl rfl dX1_markOfBoyish_48
    · refine z_lookup (off := 58) hC 64 dX1_markOfBoyish_6 (by decide) ((lv_osw c2 rfl).trans ((lv_osw c3 rfl).trans (rfl))) (by decide) ?_
      refine z_aload_n hC dX1_markOfBoyish_64 rfl 0 rfl ?_
      refine z_aload_n hC dX1_markOfBoyish_65 rfl 1 rfl ?_
      refine z_iload_n hC dX1_markOfBoyish_66 rfl 2 rfl ?_
      refine z_callVi hC hN [.ref a_p1, .int l2] [0, 1, 2, 4] (c_X1_markOfBoy (l := zl E) (D := zD E) (cI := cI) (cB := cB) (cZ := cZ) (N := N) (a_t := a_t) (a_t_numbers := a_t_numbers) (a_p1 := a_p1) (a_p1_kind := a_p1_kind) (a_p1_hand := a_p1_hand) (a_p1_leader := a_p1_leader) (a_p1_course := a_p1_course) (l2 := l2) (t_length := t_length) (t_numbers := t_numbers) (p1_players := p1_players) (p1_round := p1_round) (p1_time := p1_time) (p1_hand := p1_hand)) rfl ⟨rfl, rfl⟩ gX1_markOfBoyish_X1_markOfBoy hvX1_markOfBoy 0 1 rfl rfl rfl ⟨Nat.le_of_ble_eq_true rfl, Nat.le_of_ble_eq_true rfl⟩ ⟨Nat.zero_le _, Nat.zero_le _⟩ rfl (Nat.le_of_ble_eq_true rfl) rfl (by decide) (fun _ => rfl) dX1_markOfBoyish_67 hR (fun r67 hR => ?_)
      obtain rfl := Option.some.inj hR
      exact z_iret hC hQ rfl rfl rfl dX1_markOfBoyish_70
set_option maxHeartbeats 4000000 in
set_option maxRecDepth 100000 in
theorem c_X1_markOfBoyish {sK sV : Nat → Nat} {l : Launch} {D : va_G} {cI cB cZ : ClassId} {N : Nat} {a_t : Nat} {a_t_numbers : Nat} {a_p1 : Nat} {a_p1_kind : Nat} {a_p1_hand : Nat} {a_p1_leader : Nat} {a_p1_course : Nat} {t_length : Int32} {t_numbers : (Nat → Int32)} {p1_players : Int32} {p1_round : Int32} {p1_time : Int32} {p1_kind : (Nat → Int32)} {p1_hand : (Nat → Int32)} {l2 : Int32} : ∀ R : Int32 × Int32 × (Nat → Int32), o_X1_markOfBoyish N t_length t_numbers p1_kind p1_hand l2 = some R → ZMi sK sV l yX1_markOfBoyish wsX1_markOfBoyish rmX1_markOfBoyish D (zty cI cB cZ) [.ref a_t, .ref a_p1, .int l2] [(a_t, .inr (1, [.ref a_t_numbers, .int t_length])), (a_t_numbers, .inl (cI, 16, .inl t_numbers)), (a_p1, .inr (3, [.int p1_players, .int p1_round, .int p1_time, .ref a_p1_kind, .ref a_p1_hand, .ref a_p1_leader, .ref a_p1_course])), (a_p1_kind, .inl (cI, 8, .inl p1_kind)), (a_p1_hand, .inl (cI, 8, .inl p1_hand))] R.1 [(a_t, .inr (1, [.ref a_t_numbers, .int R.2.1])), (a_t_numbers, .inl (cI, 16, .inl R.2.2)), (a_p1, .inr (3, [.int p1_players, .int p1_round, .int p1_time, .ref a_p1_kind, .ref a_p1_hand, .ref a_p1_leader, .ref a_p1_course])), (a_p1_kind, .inl (cI, 8, .inl p1_kind)), (a_p1_hand, .inl (cI, 8, .inl p1_hand))] := by
  intro R hR
  refine zi_of (cc := cX1_markOfBoyish) (maxL := 3) (ret := (some .int)) (by decide) rfl (Nat.le_of_ble_eq_true rfl) (fun E hE1 hE2 hC hN hQ => ?_)
  subst hE1 hE2
  exact z_X1_markOfBoyish_0 hC hN (N := N) (a_t := a_t) (a_t_numbers := a_t_numbers) (a_p1 := a_p1) (a_p1_kind := a_p1_kind) (a_p1_hand := a_p1_hand) (a_p1_leader := a_p1_leader) (a_p1_course := a_p1_course) (t_length := t_length) (t_numbers := t_numbers) (p1_players := p1_players) (p1_round := p1_round) (p1_time := p1_time) (p1_kind := p1_kind) (p1_hand := p1_hand) (l2 := l2) hQ hR

/-! FistTrains$Asks.sizeOfBoy -/
abbrev rmX1_sizeOfBoy : Room := { frames := 4, cells := 0, slots := 0, locals := 86 }
def o_X1_sizeOfBoy (N : Nat) (t_length : Int32) (t_numbers : (Nat → Int32)) (p1_players : Int32) (p1_kind : (Nat → Int32)) (p1_hand : (Nat → Int32)) (p1_leader : (Nat → Int32)) (l2 : Int32) : Option (Int32 × Int32 × (Nat → Int32)) :=
  Option.bind (o_X1_leave N t_length t_numbers 11) (fun r3 =>
  Option.bind (o_X1_sizeOfPlayer N r3.1 r3.2 p1_players p1_leader l2) (fun r9 =>
  Option.bind (o_X1_markOfBoyish N r9.2.1 r9.2.2 p1_kind p1_hand l2) (fun r17 =>
  some ((r9.1 + r17.1), r17.2.1, r17.2.2))))
set_option maxHeartbeats 4000000 in
set_option maxRecDepth 100000 in
theorem z_X1_sizeOfBoy_0 {sK sV : Nat → Nat} {E : ZE} {cI cB cZ : ClassId} (hC : ZC E 4 cX1_sizeOfBoy wsX1_sizeOfBoy RX1 rmX1_sizeOfBoy (some .int) (zty cI cB cZ)) (hN : ZN sK sV (zA E) (zs E)) {N : Nat} {a_t : Nat} {a_t_numbers : Nat} {a_p1 : Nat} {a_p1_kind : Nat} {a_p1_hand : Nat} {a_p1_leader : Nat} {a_p1_course : Nat} {t_length : Int32} {t_numbers : (Nat → Int32)} {p1_players : Int32} {p1_round : Int32} {p1_time : Int32} {p1_kind : (Nat → Int32)} {p1_hand : (Nat → Int32)} {p1_leader : (Nat → Int32)} {l2 : Int32} {rf : Int32 × Int32 × (Nat → Int32)} (hQ : ZQi E (zty cI cB cZ) rf.1 [(a_t, .inr (1, [.ref a_t_numbers, .int rf.2.1])), (a_t_numbers, .inl (cI, 16, .inl rf.2.2)), (a_p1, .inr (3, [.int p1_players, .int p1_round, .int p1_time, .ref a_p1_kind, .ref a_p1_hand, .ref a_p1_leader, .ref a_p1_course])), (a_p1_kind, .inl (cI, 8, .inl p1_kind)), (a_p1_hand, .inl (cI, 8, .inl p1_hand)), (a_p1_leader, .inl (cI, 8, .inl p1_leader))]) (hR : o_X1_sizeOfBoy N t_length t_numbers p1_players p1_kind p1_hand p1_leader l2 = some rf) : Z E (0, 0) [(0, .ref a_t), (1, .ref a_p1), (2, .int l2)] 0 [] [(a_t, .inr (1, [.ref a_t_numbers, .int t_length])), (a_t_numbers, .inl (cI, 16, .inl t_numbers)), (a_p1, .inr (3, [.int p1_players, .int p1_round, .int p1_time, .ref a_p1_kind, .ref a_p1_hand, .ref a_p1_leader, .ref a_p1_course])), (a_p1_kind, .inl (cI, 8, .inl p1_kind)), (a_p1_hand, .inl (cI, 8, .inl p1_hand)), (a_p1_leader, .inl (cI, 8, .inl p1_leader))] := by
  rw [o_X1_sizeOfBoy] at hR
  refine z_aload_n hC dX1_sizeOfBoy_0 rfl 0 rfl ?_
  refine z_bipush (v := 11) hC dX1_sizeOfBoy_1 (by decide) ?_
  refine z_callVv hC hN [.int 11] [0, 1] (c_X1_leave (l := zl E) (D := zD E) (cI := cI) (cB := cB) (cZ := cZ) (N := N) (a_t := a_t) (a_t_numbers := a_t_numbers) (l1 := 11) (t_length := t_length) (t_numbers := t_numbers)) rfl ⟨rfl, rfl⟩ gX1_sizeOfBoy_X1_leave hvX1_leave 0 1 rfl rfl rfl ⟨Nat.le_of_ble_eq_true rfl, Nat.le_of_ble_eq_true rfl⟩ ⟨Nat.zero_le _, Nat.zero_le _⟩ rfl (Nat.le_of_ble_eq_true rfl) rfl (by decide) (fun _ => rfl) dX1_sizeOfBoy_3 hR (fun r3 hR => ?_)
  refine z_aload_n hC dX1_sizeOfBoy_6 rfl 0 rfl ?_
  refine z_aload_n hC dX1_sizeOfBoy_7 rfl 1 rfl ?_
  refine z_iload_n hC dX1_sizeOfBoy_8 rfl 2 rfl ?_
  refine z_callVi hC hN [.ref a_p1, .int l2] [0, 1, 2, 5] (c_X1_sizeOfPlayer (l := zl E) (D := zD E) (cI := cI) (cB := cB) (cZ := cZ) (N := N) (a_t := a_t) (a_t_numbers := a_t_numbers) (a_p1 := a_p1) (a_p1_kind := a_p1_kind) (a_p1_hand := a_p1_hand) (a_p1_leader := a_p1_leader) (a_p1_course := a_p1_course) (l2 := l2) (t_length := r3.1) (t_numbers := r3.2) (p1_players := p1_players) (p1_round := p1_round) (p1_time := p1_time) (p1_leader := p1_leader)) rfl ⟨rfl, rfl⟩ gX1_sizeOfBoy_X1_sizeOfPlayer hvX1_sizeOfPlayer 0 1 rfl rfl rfl ⟨Nat.le_of_ble_eq_true rfl, Nat.le_of_ble_eq_true rfl⟩ ⟨Nat.zero_le _, Nat.zero_le _⟩ rfl (Nat.le_of_ble_eq_true rfl) rfl (by decide) (fun _ => rfl) dX1_sizeOfBoy_9 hR (fun r9 hR => ?_)
  refine z_istore_n hC [(3, .int r9.1), (0, .ref a_t), (1, .ref a_p1), (2, .int l2)] dX1_sizeOfBoy_12 rfl (by decide) rfl ?_
  refine z_iload_n hC dX1_sizeOfBoy_13 rfl 0 rfl ?_
  refine z_aload_n hC dX1_sizeOfBoy_14 rfl 1 rfl ?_
  refine z_aload_n hC dX1_sizeOfBoy_15 rfl 2 rfl ?_
  refine z_iload_n hC dX1_sizeOfBoy_16 rfl 3 rfl ?_
  refine z_callVi hC hN [.ref a_p1, .int l2] [0, 1, 2, 3, 4] (c_X1_markOfBoyish (l := zl E) (D := zD E) (cI := cI) (cB := cB) (cZ := cZ) (N := N) (a_t := a_t) (a_t_numbers := a_t_numbers) (a_p1 := a_p1) (a_p1_kind := a_p1_kind) (a_p1_hand := a_p1_hand) (a_p1_leader := a_p1_leader) (a_p1_course := a_p1_course) (l2 := l2) (t_length := r9.2.1) (t_numbers := r9.2.2) (p1_players := p1_players) (p1_round := p1_round) (p1_time := p1_time) (p1_kind := p1_kind) (p1_hand := p1_hand)) rfl ⟨rfl, rfl⟩ gX1_sizeOfBoy_X1_markOfBoyish hvX1_markOfBoyish 0 1 rfl rfl rfl ⟨Nat.le_of_ble_eq_true rfl, Nat.le_of_ble_eq_true rfl⟩ ⟨Nat.zero_le _, Nat.zero_le _⟩ rfl (Nat.le_of_ble_eq_true rfl) rfl (by decide) (fun _ => rfl) dX1_sizeOfBoy_17 hR (fun r17 hR => ?_)
  refine z_iadd hC dX1_sizeOfBoy_20 ?_
  obtain rfl := Option.some.inj hR
  exact z_iret hC hQ rfl rfl rfl dX1_sizeOfBoy_21
set_option maxHeartbeats 4000000 in
set_option maxRecDepth 100000 in
theorem c_X1_sizeOfBoy {sK sV : Nat → Nat} {l : Launch} {D : va_G} {cI cB cZ : ClassId} {N : Nat} {a_t : Nat} {a_t_numbers : Nat} {a_p1 : Nat} {a_p1_kind : Nat} {a_p1_hand : Nat} {a_p1_leader : Nat} {a_p1_course : Nat} {t_length : Int32} {t_numbers : (Nat → Int32)} {p1_players : Int32} {p1_round : Int32} {p1_time : Int32} {p1_kind : (Nat → Int32)} {p1_hand : (Nat → Int32)} {p1_leader : (Nat → Int32)} {l2 : Int32} : ∀ R : Int32 × Int32 × (Nat → Int32), o_X1_sizeOfBoy N t_length t_numbers p1_players p1_kind p1_hand p1_leader l2 = some R → ZMi sK sV l yX1_sizeOfBoy wsX1_sizeOfBoy rmX1_sizeOfBoy D (zty cI cB cZ) [.ref a_t, .ref a_p1, .int l2] [(a_t, .inr (1, [.ref a_t_numbers, .int t_length])), (a_t_numbers, .inl (cI, 16, .inl t_numbers)), (a_p1, .inr (3, [.int p1_players, .int p1_round, .int p1_time, .ref a_p1_kind, .ref a_p1_hand, .ref a_p1_leader, .ref a_p1_course])), (a_p1_kind, .inl (cI, 8, .inl p1_kind)), (a_p1_hand, .inl (cI, 8, .inl p1_hand)), (a_p1_leader, .inl (cI, 8, .inl p1_leader))] R.1 [(a_t, .inr (1, [.ref a_t_numbers, .int R.2.1])), (a_t_numbers, .inl (cI, 16, .inl R.2.2)), (a_p1, .inr (3, [.int p1_players, .int p1_round, .int p1_time, .ref a_p1_kind, .ref a_p1_hand, .ref a_p1_leader, .ref a_p1_course])), (a_p1_kind, .inl (cI, 8, .inl p1_kind)), (a_p1_hand, .inl (cI, 8, .inl p1_hand)), (a_p1_leader, .inl (cI, 8, .inl p1_leader))] := by
  intro R hR
  refine zi_of (cc := cX1_sizeOfBoy) (maxL := 4) (ret := (some .int)) (by decide) rfl (Nat.le_of_ble_eq_true rfl) (fun E hE1 hE2 hC hN hQ => ?_)
  subst hE1 hE2
  exact z_X1_sizeOfBoy_0 hC hN (N := N) (a_t := a_t) (a_t_numbers := a_t_numbers) (a_p1 := a_p1) (a_p1_kind := a_p1_kind) (a_p1_hand := a_p1_hand) (a_p1_leader := a_p1_leader) (a_p1_course := a_p1_course) (t_length := t_length) (t_numbers := t_numbers) (p1_players := p1_players) (p1_round := p1_round) (p1_time := p1_time) (p1_kind := p1_kind) (p1_hand := p1_hand) (p1_leader := p1_leader) (l2 := l2) hQ hR

/-! FistTrains$Asks.sizeOfMirror -/
abbrev rmX1_sizeOfMirror : Room := { frames := 2, cells := 0, slots := 0, locals := 45 }
def o_X1_sizeOfMirror (N : Nat) (t_length : Int32) (t_numbers : (Nat → Int32)) (p1_players : Int32) (p1_leader : (Nat → Int32)) (l2 : Int32) : Option (Int32 × Int32 × (Nat → Int32)) :=
  Option.bind (o_X1_leave N t_length t_numbers 13) (fun r3 =>
  Option.bind (o_X1_sizeOfPlayer N r3.1 r3.2 p1_players p1_leader l2) (fun r9 =>
  some ((r9.1 - 100), r9.2.1, r9.2.2)))
set_option maxHeartbeats 4000000 in
set_option maxRecDepth 100000 in
theorem z_X1_sizeOfMirror_0 {sK sV : Nat → Nat} {E : ZE} {cI cB cZ : ClassId} (hC : ZC E 3 cX1_sizeOfMirror wsX1_sizeOfMirror RX1 rmX1_sizeOfMirror (some .int) (zty cI cB cZ)) (hN : ZN sK sV (zA E) (zs E)) {N : Nat} {a_t : Nat} {a_t_numbers : Nat} {a_p1 : Nat} {a_p1_leader : Nat} {a_p1_kind : Nat} {a_p1_hand : Nat} {a_p1_course : Nat} {t_length : Int32} {t_numbers : (Nat → Int32)} {p1_players : Int32} {p1_round : Int32} {p1_time : Int32} {p1_leader : (Nat → Int32)} {l2 : Int32} {rf : Int32 × Int32 × (Nat → Int32)} (hQ : ZQi E (zty cI cB cZ) rf.1 [(a_t, .inr (1, [.ref a_t_numbers, .int rf.2.1])), (a_t_numbers, .inl (cI, 16, .inl rf.2.2)), (a_p1, .inr (3, [.int p1_players, .int p1_round, .int p1_time, .ref a_p1_kind, .ref a_p1_hand, .ref a_p1_leader, .ref a_p1_course])), (a_p1_leader, .inl (cI, 8, .inl p1_leader))]) (hR : o_X1_sizeOfMirror N t_length t_numbers p1_players p1_leader l2 = some rf) : Z E (0, 0) [(0, .ref a_t), (1, .ref a_p1), (2, .int l2)] 0 [] [(a_t, .inr (1, [.ref a_t_numbers, .int t_length])), (a_t_numbers, .inl (cI, 16, .inl t_numbers)), (a_p1, .inr (3, [.int p1_players, .int p1_round, .int p1_time, .ref a_p1_kind, .ref a_p1_hand, .ref a_p1_leader, .ref a_p1_course])), (a_p1_leader, .inl (cI, 8, .inl p1_leader))] := by
  rw [o_X1_sizeOfMirror] at hR
  refine z_aload_n hC dX1_sizeOfMirror_0 rfl 0 rfl ?_
  refine z_bipush (v := 13) hC dX1_sizeOfMirror_1 (by decide) ?_
  refine z_callVv hC hN [.int 13] [0, 1] (c_X1_leave (l := zl E) (D := zD E) (cI := cI) (cB := cB) (cZ := cZ) (N := N) (a_t := a_t) (a_t_numbers := a_t_numbers) (l1 := 13) (t_length := t_length) (t_numbers := t_numbers)) rfl ⟨rfl, rfl⟩ gX1_sizeOfMirror_X1_leave hvX1_leave 0 1 rfl rfl rfl ⟨Nat.le_of_ble_eq_true rfl, Nat.le_of_ble_eq_true rfl⟩ ⟨Nat.zero_le _, Nat.zero_le _⟩ rfl (Nat.le_of_ble_eq_true rfl) rfl (by decide) (fun _ => rfl) dX1_sizeOfMirror_3 hR (fun r3 hR => ?_)
  refine z_aload_n hC dX1_sizeOfMirror_6 rfl 0 rfl ?_
  refine z_aload_n hC dX1_sizeOfMirror_7 rfl 1 rfl ?_
  refine z_iload_n hC dX1_sizeOfMirror_8 rfl 2 rfl ?_
  refine z_callVi hC hN [.ref a_p1, .int l2] [0, 1, 2, 3] (c_X1_sizeOfPlayer (l := zl E) (D := zD E) (cI := cI) (cB := cB) (cZ := cZ) (N := N) (a_t := a_t) (a_t_numbers := a_t_numbers) (a_p1 := a_p1) (a_p1_kind := a_p1_kind) (a_p1_hand := a_p1_hand) (a_p1_leader := a_p1_leader) (a_p1_course := a_p1_course) (l2 := l2) (t_length := r3.1) (t_numbers := r3.2) (p1_players := p1_players) (p1_round := p1_round) (p1_time := p1_time) (p1_leader := p1_leader)) rfl ⟨rfl, rfl⟩ gX1_sizeOfMirror_X1_sizeOfPlayer hvX1_sizeOfPlayer 0 1 rfl rfl rfl ⟨Nat.le_of_ble_eq_true rfl, Nat.le_of_ble_eq_true rfl⟩ ⟨Nat.zero_le _, Nat.zero_le _⟩ rfl (Nat.le_of_ble_eq_true rfl) rfl (by decide) (fun _ => rfl) dX1_sizeOfMirror_9 hR (fun r9 hR => ?_)
  refine z_bipush (v := 100) hC dX1_sizeOfMirror_12 (by decide) ?_
  refine z_isub hC dX1_sizeOfMirror_14 ?_
  obtain rfl := Option.some.inj hR
  exact z_iret hC hQ rfl rfl rfl dX1_sizeOfMirror_15
set_option maxHeartbeats 4000000 in
set_option maxRecDepth 100000 in
theorem c_X1_sizeOfMirror {sK sV : Nat → Nat} {l : Launch} {D : va_G} {cI cB cZ : ClassId} {N : Nat} {a_t : Nat} {a_t_numbers : Nat} {a_p1 : Nat} {a_p1_leader : Nat} {a_p1_kind : Nat} {a_p1_hand : Nat} {a_p1_course : Nat} {t_length : Int32} {t_numbers : (Nat → Int32)} {p1_players : Int32} {p1_round : Int32} {p1_time : Int32} {p1_leader : (Nat → Int32)} {l2 : Int32} : ∀ R : Int32 × Int32 × (Nat → Int32), o_X1_sizeOfMirror N t_length t_numbers p1_players p1_leader l2 = some R → ZMi sK sV l yX1_sizeOfMirror wsX1_sizeOfMirror rmX1_sizeOfMirror D (zty cI cB cZ) [.ref a_t, .ref a_p1, .int l2] [(a_t, .inr (1, [.ref a_t_numbers, .int t_length])), (a_t_numbers, .inl (cI, 16, .inl t_numbers)), (a_p1, .inr (3, [.int p1_players, .int p1_round, .int p1_time, .ref a_p1_kind, .ref a_p1_hand, .ref a_p1_leader, .ref a_p1_course])), (a_p1_leader, .inl (cI, 8, .inl p1_leader))] R.1 [(a_t, .inr (1, [.ref a_t_numbers, .int R.2.1])), (a_t_numbers, .inl (cI, 16, .inl R.2.2)), (a_p1, .inr (3, [.int p1_players, .int p1_round, .int p1_time, .ref a_p1_kind, .ref a_p1_hand, .ref a_p1_leader, .ref a_p1_course])), (a_p1_leader, .inl (cI, 8, .inl p1_leader))] := by
  intro R hR
  refine zi_of (cc := cX1_sizeOfMirror) (maxL := 3) (ret := (some .int)) (by decide) rfl (Nat.le_of_ble_eq_true rfl) (fun E hE1 hE2 hC hN hQ => ?_)
  subst hE1 hE2
  exact z_X1_sizeOfMirror_0 hC hN (N := N) (a_t := a_t) (a_t_numbers := a_t_numbers) (a_p1 := a_p1) (a_p1_leader := a_p1_leader) (a_p1_kind := a_p1_kind) (a_p1_hand := a_p1_hand) (a_p1_course := a_p1_course) (t_length := t_length) (t_numbers := t_numbers) (p1_players := p1_players) (p1_round := p1_round) (p1_time := p1_time) (p1_leader := p1_leader) (l2 := l2) hQ hR

/-! FistTrains$Asks.sizeOfMirrorOrSpy -/
abbrev rmX1_sizeOfMirrorOrSpy : Room := { frames := 3, cells := 0, slots := 0, locals := 67 }
set_option maxRecDepth 20000 in
theorem iX1_sizeOfMirrorOrSpy_X3 : ∀ w ∈ wsX30, w ∈ wsX1_sizeOfMirrorOrSpy := by decide +kernel
set_option maxRecDepth 20000 in
theorem mX1_sizeOfMirrorOrSpy_1 : Cond.fieldLink RX1 19 "FistTrains$Hall" "kind" "[I" ∈ wsX1_sizeOfMirrorOrSpy := List.mem_of_getElem? (i := 1) rfl
def o_X1_sizeOfMirrorOrSpy (N : Nat) (t_length : Int32) (t_numbers : (Nat → Int32)) (p1_players : Int32) (p1_kind : (Nat → Int32)) (p1_leader : (Nat → Int32)) (l2 : Int32) : Option (Int32 × Int32 × (Nat → Int32)) :=
  ogd (inb l2 8) (
  if (p1_kind (Int32.toNatClampNeg l2)) = 5 then
    Option.bind (o_X1_leave N t_length t_numbers 14) (fun r13 =>
    Option.bind (o_X1_sizeOfMirror N r13.1 r13.2 p1_players p1_leader l2) (fun r20 =>
    some ((2 * r20.1), r20.2.1, r20.2.2)))
  else
    Option.bind (o_X1_sizeOfMirror N t_length t_numbers p1_players p1_leader l2) (fun r28 =>
    some (r28.1, r28.2.1, r28.2.2)))
set_option maxHeartbeats 4000000 in
set_option maxRecDepth 100000 in
theorem z_X1_sizeOfMirrorOrSpy_0 {sK sV : Nat → Nat} {E : ZE} {cI cB cZ : ClassId} (hC : ZC E 3 cX1_sizeOfMirrorOrSpy wsX1_sizeOfMirrorOrSpy RX1 rmX1_sizeOfMirrorOrSpy (some .int) (zty cI cB cZ)) (hN : ZN sK sV (zA E) (zs E)) {N : Nat} {a_t : Nat} {a_t_numbers : Nat} {a_p1 : Nat} {a_p1_kind : Nat} {a_p1_leader : Nat} {a_p1_hand : Nat} {a_p1_course : Nat} {t_length : Int32} {t_numbers : (Nat → Int32)} {p1_players : Int32} {p1_round : Int32} {p1_time : Int32} {p1_kind : (Nat → Int32)} {p1_leader : (Nat → Int32)} {l2 : Int32} {rf : Int32 × Int32 × (Nat → Int32)} (hQ : ZQi E (zty cI cB cZ) rf.1 [(a_t, .inr (1, [.ref a_t_numbers, .int rf.2.1])), (a_t_numbers, .inl (cI, 16, .inl rf.2.2)), (a_p1, .inr (3, [.int p1_players, .int p1_round, .int p1_time, .ref a_p1_kind, .ref a_p1_hand, .ref a_p1_leader, .ref a_p1_course])), (a_p1_kind, .inl (cI, 8, .inl p1_kind)), (a_p1_leader, .inl (cI, 8, .inl p1_leader))]) (hR : o_X1_sizeOfMirrorOrSpy N t_length t_numbers p1_players p1_kind p1_leader l2 = some rf) : Z E (0, 0) [(0, .ref a_t), (1, .ref a_p1), (2, .int l2)] 0 [] [(a_t, .inr (1, [.ref a_t_numbers, .int t_length])), (a_t_numbers, .inl (cI, 16, .inl t_numbers)), (a_p1, .inr (3, [.int p1_players, .int p1_round, .int p1_time, .ref a_p1_kind, .ref a_p1_hand, .ref a_p1_leader, .ref a_p1_course])), (a_p1_kind, .inl (cI, 8, .inl p1_kind)), (a_p1_leader, .inl (cI, 8, .inl p1_leader))] := by
  rw [o_X1_sizeOfMirrorOrSpy] at hR
  refine z_aload_n hC dX1_sizeOfMirrorOrSpy_0 rfl 1 rfl ?_
  refine z_get hC iX1_sizeOfMirrorOrSpy_X3 rfl 2 3 rfl (by decide) mX1_sizeOfMirrorOrSpy_1 rfl rfl dX1_sizeOfMirrorOrSpy_1 ?_
  refine z_iload_n hC dX1_sizeOfMirrorOrSpy_4 rfl 2 rfl ?_
  refine z_iald hC 3 0 rfl rfl dX1_sizeOfMirrorOrSpy_5 hR (fun hR => ?_)
  refine z_ic5 hC dX1_sizeOfMirrorOrSpy_6 ?_
  refine z_icmp_ne hC 25 dX1_sizeOfMirrorOrSpy_7 (by decide) hR (fun hR => ?_) (fun hR => ?_)
  · refine z_aload_n hC dX1_sizeOfMirrorOrSpy_25 rfl 0 rfl ?_
    refine z_aload_n hC dX1_sizeOfMirrorOrSpy_26 rfl 1 rfl ?_
    refine z_iload_n hC dX1_sizeOfMirrorOrSpy_27 rfl 2 rfl ?_
    refine z_callVi hC hN [.ref a_p1, .int l2] [0, 1, 2, 4] (c_X1_sizeOfMirror (l := zl E) (D := zD E) (cI := cI) (cB := cB) (cZ := cZ) (N := N) (a_t := a_t) (a_t_numbers := a_t_numbers) (a_p1 := a_p1) (a_p1_kind := a_p1_kind) (a_p1_hand := a_p1_hand) (a_p1_leader := a_p1_leader) (a_p1_course := a_p1_course) (l2 := l2) (t_length := t_length) (t_numbers := t_numbers) (p1_players := p1_players) (p1_round := p1_round) (p1_time := p1_time) (p1_leader := p1_leader)) rfl ⟨rfl, rfl⟩ gX1_sizeOfMirrorOrSpy_X1_sizeOfMirror hvX1_sizeOfMirror 0 1 rfl rfl rfl ⟨Nat.le_of_ble_eq_true rfl, Nat.le_of_ble_eq_true rfl⟩ ⟨Nat.zero_le _, Nat.zero_le _⟩ rfl (Nat.le_of_ble_eq_true rfl) rfl (by decide) (fun _ => rfl) dX1_sizeOfMirrorOrSpy_28 hR (fun r28 hR => ?_)
    obtain rfl := Option.some.inj hR
    exact z_iret hC hQ rfl rfl rfl dX1_sizeOfMirrorOrSpy_31
  · refine z_aload_n hC dX1_sizeOfMirrorOrSpy_10 rfl 0 rfl ?_
    refine z_bipush (v := 14) hC dX1_sizeOfMirrorOrSpy_11 (by decide) ?_
    refine z_callVv hC hN [.int 14] [0, 1] (c_X1_leave (l := zl E) (D := zD E) (cI := cI) (cB := cB) (cZ := cZ) (N := N) (a_t := a_t) (a_t_numbers := a_t_numbers) (l1 := 14) (t_length := t_length) (t_numbers := t_numbers)) rfl ⟨rfl, rfl⟩ gX1_sizeOfMirrorOrSpy_X1_leave hvX1_leave 0 1 rfl rfl rfl ⟨Nat.le_of_ble_eq_true rfl, Nat.le_of_ble_eq_true rfl⟩ ⟨Nat.zero_le _, Nat.zero_le _⟩ rfl (Nat.le_of_ble_eq_true rfl) rfl (by decide) (fun _ => rfl) dX1_sizeOfMirrorOrSpy_13 hR (fun r13 hR => ?_)
    refine z_ic2 hC dX1_sizeOfMirrorOrSpy_16 ?_
    refine z_aload_n hC dX1_sizeOfMirrorOrSpy_17 rfl 0 rfl ?_
    refine z_aload_n hC dX1_sizeOfMirrorOrSpy_18 rfl 1 rfl ?_
    refine z_iload_n hC dX1_sizeOfMirrorOrSpy_19 rfl 2 rfl ?_
    refine z_callVi hC hN [.ref a_p1, .int l2] [0, 1, 2, 4] (c_X1_sizeOfMirror (l := zl E) (D := zD E) (cI := cI) (cB := cB) (cZ := cZ) (N := N) (a_t := a_t) (a_t_numbers := a_t_numbers) (a_p1 := a_p1) (a_p1_kind := a_p1_kind) (a_p1_hand := a_p1_hand) (a_p1_leader := a_p1_leader) (a_p1_course := a_p1_course) (l2 := l2) (t_length := r13.1) (t_numbers := r13.2) (p1_players := p1_players) (p1_round := p1_round) (p1_time := p1_time) (p1_leader := p1_leader)) rfl ⟨rfl, rfl⟩ gX1_sizeOfMirrorOrSpy_X1_sizeOfMirror hvX1_sizeOfMirror 0 1 rfl rfl rfl ⟨Nat.le_of_ble_eq_true rfl, Nat.le_of_ble_eq_true rfl⟩ ⟨Nat.zero_le _, Nat.zero_le _⟩ rfl (Nat.le_of_ble_eq_true rfl) rfl (by decide) (fun _ => rfl) dX1_sizeOfMirrorOrSpy_20 hR (fun r20 hR => ?_)
    refine z_imul hC dX1_sizeOfMirrorOrSpy_23 ?_
    obtain rfl := Option.some.inj hR
    exact z_iret hC hQ rfl rfl rfl dX1_sizeOfMirrorOrSpy_24
set_option maxHeartbeats 4000000 in
set_option maxRecDepth 100000 in
theorem c_X1_sizeOfMirrorOrSpy {sK sV : Nat → Nat} {l : Launch} {D : va_G} {cI cB cZ : ClassId} {N : Nat} {a_t : Nat} {a_t_numbers : Nat} {a_p1 : Nat} {a_p1_kind : Nat} {a_p1_leader : Nat} {a_p1_hand : Nat} {a_p1_course : Nat} {t_length : Int32} {t_numbers : (Nat → Int32)} {p1_players : Int32} {p1_round : Int32} {p1_time : Int32} {p1_kind : (Nat → Int32)} {p1_leader : (Nat → Int32)} {l2 : Int32} : ∀ R : Int32 × Int32 × (Nat → Int32), o_X1_sizeOfMirrorOrSpy N t_length t_numbers p1_players p1_kind p1_leader l2 = some R → ZMi sK sV l yX1_sizeOfMirrorOrSpy wsX1_sizeOfMirrorOrSpy rmX1_sizeOfMirrorOrSpy D (zty cI cB cZ) [.ref a_t, .ref a_p1, .int l2] [(a_t, .inr (1, [.ref a_t_numbers, .int t_length])), (a_t_numbers, .inl (cI, 16, .inl t_numbers)), (a_p1, .inr (3, [.int p1_players, .int p1_round, .int p1_time, .ref a_p1_kind, .ref a_p1_hand, .ref a_p1_leader, .ref a_p1_course])), (a_p1_kind, .inl (cI, 8, .inl p1_kind)), (a_p1_leader, .inl (cI, 8, .inl p1_leader))] R.1 [(a_t, .inr (1, [.ref a_t_numbers, .int R.2.1])), (a_t_numbers, .inl (cI, 16, .inl R.2.2)), (a_p1, .inr (3, [.int p1_players, .int p1_round, .int p1_time, .ref a_p1_kind, .ref a_p1_hand, .ref a_p1_leader, .ref a_p1_course])), (a_p1_kind, .inl (cI, 8, .inl p1_kind)), (a_p1_leader, .inl (cI, 8, .inl p1_leader))] := by
  intro R hR
  refine zi_of (cc := cX1_sizeOfMirrorOrSpy) (maxL := 3) (ret := (some .int)) (by decide) rfl (Nat.le_of_ble_eq_true rfl) (fun E hE1 hE2 hC hN hQ => ?_)
  subst hE1 hE2
  exact z_X1_sizeOfMirrorOrSpy_0 hC hN (N := N) (a_t := a_t) (a_t_numbers := a_t_numbers) (a_p1 := a_p1) (a_p1_kind := a_p1_kind) (a_p1_leader := a_p1_leader) (a_p1_hand := a_p1_hand) (a_p1_course := a_p1_course) (t_length := t_length) (t_numbers := t_numbers) (p1_players := p1_players) (p1_round := p1_round) (p1_time := p1_time) (p1_kind := p1_kind) (p1_leader := p1_leader) (l2 := l2) hQ hR

/-! FistTrains$Asks.sizeOf -/
abbrev rmX1_sizeOf : Room := { frames := 5, cells := 0, slots := 0, locals := 109 }
set_option maxRecDepth 20000 in
theorem iX1_sizeOf_X3 : ∀ w ∈ wsX30, w ∈ wsX1_sizeOf := by decide +kernel
set_option maxRecDepth 20000 in
theorem mX1_sizeOf_1 : Cond.fieldLink RX1 19 "FistTrains$Hall" "kind" "[I" ∈ wsX1_sizeOf := List.mem_of_getElem? (i := 1) rfl
def o_X1_sizeOf (N : Nat) (t_length : Int32) (t_numbers : (Nat → Int32)) (p1_players : Int32) (p1_kind : (Nat → Int32)) (p1_hand : (Nat → Int32)) (p1_leader : (Nat → Int32)) (l2 : Int32) : Option (Int32 × Int32 × (Nat → Int32)) :=
  ogd (inb l2 8) (
  if (p1_kind (Int32.toNatClampNeg l2)) = 1 then
    Option.bind (o_X1_sizeOfBoy N t_length t_numbers p1_players p1_kind p1_hand p1_leader l2) (fun r49 =>
    some (r49.1, r49.2.1, r49.2.2))
  else
    if (p1_kind (Int32.toNatClampNeg l2)) = 2 then
      Option.bind (o_X1_leave N t_length t_numbers 12) (fun r35 =>
      Option.bind (o_X1_sizeOfBoy N r35.1 r35.2 p1_players p1_kind p1_hand p1_leader l2) (fun r41 =>
      some ((-r41.1), r41.2.1, r41.2.2)))
    else
      if (p1_kind (Int32.toNatClampNeg l2)) = 3 then
        Option.bind (o_X1_sizeOfBoy N t_length t_numbers p1_players p1_kind p1_hand p1_leader l2) (fun r49 =>
        some (r49.1, r49.2.1, r49.2.2))
      else
        Option.bind (o_X1_sizeOfMirrorOrSpy N t_length t_numbers p1_players p1_kind p1_leader l2) (fun r56 =>
        some (r56.1, r56.2.1, r56.2.2)))
set_option maxHeartbeats 4000000 in
set_option maxRecDepth 100000 in
theorem z_X1_sizeOf_0 {sK sV : Nat → Nat} {E : ZE} {cI cB cZ : ClassId} (hC : ZC E 3 cX1_sizeOf wsX1_sizeOf RX1 rmX1_sizeOf (some .int) (zty cI cB cZ)) (hN : ZN sK sV (zA E) (zs E)) {N : Nat} {a_t : Nat} {a_t_numbers : Nat} {a_p1 : Nat} {a_p1_kind : Nat} {a_p1_hand : Nat} {a_p1_leader : Nat} {a_p1_course : Nat} {t_length : Int32} {t_numbers : (Nat → Int32)} {p1_players : Int32} {p1_round : Int32} {p1_time : Int32} {p1_kind : (Nat → Int32)} {p1_hand : (Nat → Int32)} {p1_leader : (Nat → Int32)} {l2 : Int32} {rf : Int32 × Int32 × (Nat → Int32)} (hQ : ZQi E (zty cI cB cZ) rf.1 [(a_t, .inr (1, [.ref a_t_numbers, .int rf.2.1])), (a_t_numbers, .inl (cI, 16, .inl rf.2.2)), (a_p1, .inr (3, [.int p1_players, .int p1_round, .int p1_time, .ref a_p1_kind, .ref a_p1_hand, .ref a_p1_leader, .ref a_p1_course])), (a_p1_kind, .inl (cI, 8, .inl p1_kind)), (a_p1_hand, .inl (cI, 8, .inl p1_hand)), (a_p1_leader, .inl (cI, 8, .inl p1_leader))]) (hR : o_X1_sizeOf N t_length t_numbers p1_players p1_kind p1_hand p1_leader l2 = some rf) : Z E (0, 0) [(0, .ref a_t), (1, .ref a_p1), (2, .int l2)] 0 [] [(a_t, .inr (1, [.ref a_t_numbers, .int t_length])), (a_t_numbers, .inl (cI, 16, .inl t_numbers)), (a_p1, .inr (3, [.int p1_players, .int p1_round, .int p1_time, .ref a_p1_kind, .ref a_p1_hand, .ref a_p1_leader, .ref a_p1_course])), (a_p1_kind, .inl (cI, 8, .inl p1_kind)), (a_p1_hand, .inl (cI, 8, .inl p1_hand)), (a_p1_leader, .inl (cI, 8, .inl p1_leader))] := by
  rw [o_X1_sizeOf] at hR
  refine z_aload_n hC dX1_sizeOf_0 rfl 1 rfl ?_
  refine z_get hC iX1_sizeOf_X3 rfl 2 3 rfl (by decide) mX1_sizeOf_1 rfl rfl dX1_sizeOf_1 ?_
  refine z_iload_n hC dX1_sizeOf_4 rfl 2 rfl ?_
  refine z_iald hC 3 0 rfl rfl dX1_sizeOf_5 hR (fun hR => ?_)
  refine z_by hR (fun c1 hR => ?_) (fun c1 hR => ?_)
  · refine z_tin hC 1 46 c1 dX1_sizeOf_6 (by decide) (by decide) rfl (by decide) ?_
    refine z_aload_n hC dX1_sizeOf_46 rfl 0 rfl ?_
    refine z_aload_n hC dX1_sizeOf_47 rfl 1 rfl ?_
    refine z_iload_n hC dX1_sizeOf_48 rfl 2 rfl ?_
    refine z_callVi hC hN [.ref a_p1, .int l2] [0, 1, 2, 3, 4, 5] (c_X1_sizeOfBoy (l := zl E) (D := zD E) (cI := cI) (cB := cB) (cZ := cZ) (N := N) (a_t := a_t) (a_t_numbers := a_t_numbers) (a_p1 := a_p1) (a_p1_kind := a_p1_kind) (a_p1_hand := a_p1_hand) (a_p1_leader := a_p1_leader) (a_p1_course := a_p1_course) (l2 := l2) (t_length := t_length) (t_numbers := t_numbers) (p1_players := p1_players) (p1_round := p1_round) (p1_time := p1_time) (p1_kind := p1_kind) (p1_hand := p1_hand) (p1_leader := p1_leader)) rfl ⟨rfl, rfl⟩ gX1_sizeOf_X1_sizeOfBoy hvX1_sizeOfBoy 0 1 rfl rfl rfl ⟨Nat.le_of_ble_eq_true rfl, Nat.le_of_ble_eq_true rfl⟩ ⟨Nat.zero_le _, Nat.zero_le _⟩ rfl (Nat.le_of_ble_eq_true rfl) rfl (by decide) (fun _ => rfl) dX1_sizeOf_49 hR (fun r49 hR => ?_)
    obtain rfl := Option.some.inj hR
    exact z_iret hC hQ rfl rfl rfl dX1_sizeOf_52
  · refine z_by hR (fun c2 hR => ?_) (fun c2 hR => ?_)
    · refine z_tin hC 2 32 c2 dX1_sizeOf_6 (by decide) (by decide) rfl (by decide) ?_
      refine z_aload_n hC dX1_sizeOf_32 rfl 0 rfl ?_
      refine z_bipush (v := 12) hC dX1_sizeOf_33 (by decide) ?_
      refine z_callVv hC hN [.int 12] [0, 1] (c_X1_leave (l := zl E) (D := zD E) (cI := cI) (cB := cB) (cZ := cZ) (N := N) (a_t := a_t) (a_t_numbers := a_t_numbers) (l1 := 12) (t_length := t_length) (t_numbers := t_numbers)) rfl ⟨rfl, rfl⟩ gX1_sizeOf_X1_leave hvX1_leave 0 1 rfl rfl rfl ⟨Nat.le_of_ble_eq_true rfl, Nat.le_of_ble_eq_true rfl⟩ ⟨Nat.zero_le _, Nat.zero_le _⟩ rfl (Nat.le_of_ble_eq_true rfl) rfl (by decide) (fun _ => rfl) dX1_sizeOf_35 hR (fun r35 hR => ?_)
      refine z_aload_n hC dX1_sizeOf_38 rfl 0 rfl ?_
      refine z_aload_n hC dX1_sizeOf_39 rfl 1 rfl ?_
      refine z_iload_n hC dX1_sizeOf_40 rfl 2 rfl ?_
      refine z_callVi hC hN [.ref a_p1, .int l2] [0, 1, 2, 3, 4, 5] (c_X1_sizeOfBoy (l := zl E) (D := zD E) (cI := cI) (cB := cB) (cZ := cZ) (N := N) (a_t := a_t) (a_t_numbers := a_t_numbers) (a_p1 := a_p1) (a_p1_kind := a_p1_kind) (a_p1_hand := a_p1_hand) (a_p1_leader := a_p1_leader) (a_p1_course := a_p1_course) (l2 := l2) (t_length := r35.1) (t_numbers := r35.2) (p1_players := p1_players) (p1_round := p1_round) (p1_time := p1_time) (p1_kind := p1_kind) (p1_hand := p1_hand) (p1_leader := p1_leader)) rfl ⟨rfl, rfl⟩ gX1_sizeOf_X1_sizeOfBoy hvX1_sizeOfBoy 0 1 rfl rfl rfl ⟨Nat.le_of_ble_eq_true rfl, Nat.le_of_ble_eq_true rfl⟩ ⟨Nat.zero_le _, Nat.zero_le _⟩ rfl (Nat.le_of_ble_eq_true rfl) rfl (by decide) (fun _ => rfl) dX1_sizeOf_41 hR (fun r41 hR => ?_)
      refine z_ineg hC dX1_sizeOf_44 ?_
      obtain rfl := Option.some.inj hR
      exact z_iret hC hQ rfl rfl rfl dX1_sizeOf_45
    · refine z_by hR (fun c3 hR => ?_) (fun c3 hR => ?_)
      · refine z_tin hC 3 46 c3 dX1_sizeOf_6 (by decide) (by decide) rfl (by decide) ?_
        refine z_aload_n hC dX1_sizeOf_46 rfl 0 rfl ?_
        refine z_aload_n hC dX1_sizeOf_47 rfl 1 rfl ?_
        refine z_iload_n hC dX1_sizeOf_48 rfl 2 rfl ?_
        refine z_callVi hC hN [.ref a_p1, .int l2] [0, 1, 2, 3, 4, 5] (c_X1_sizeOfBoy (l := zl E) (D := zD E) (cI := cI) (cB := cB) (cZ := cZ) (N := N) (a_t := a_t) (a_t_numbers := a_t_numbers) (a_p1 := a_p1) (a_p1_kind := a_p1_kind) (a_p1_hand := a_p1_hand) (a_p1_leader := a_p1_leader) (a_p1_course := a_p1_course) (l2 := l2) (t_length := t_length) (t_numbers := t_numbers) (p1_players := p1_players) (p1_round := p1_round) (p1_time := p1_time) (p1_kind := p1_kind) (p1_hand := p1_hand) (p1_leader := p1_leader)) rfl ⟨rfl, rfl⟩ gX1_sizeOf_X1_sizeOfBoy hvX1_sizeOfBoy 0 1 rfl rfl rfl ⟨Nat.le_of_ble_eq_true rfl, Nat.le_of_ble_eq_true rfl⟩ ⟨Nat.zero_le _, Nat.zero_le _⟩ rfl (Nat.le_of_ble_eq_true rfl) rfl (by decide) (fun _ => rfl) dX1_sizeOf_49 hR (fun r49 hR => ?_)
        obtain rfl := Option.some.inj hR
        exact z_iret hC hQ rfl rfl rfl dX1_sizeOf_52
      · refine z_tout hC 53 dX1_sizeOf_6 (by have h1 := lv_neT c1 (a := 1) rfl; have h2 := lv_neT c2 (a := 2) rfl; have h3 := lv_neT c3 (a := 3) rfl; omega) (by decide) ?_
        refine z_aload_n hC dX1_sizeOf_53 rfl 0 rfl ?_
        refine z_aload_n hC dX1_sizeOf_54 rfl 1 rfl ?_
        refine z_iload_n hC dX1_sizeOf_55 rfl 2 rfl ?_
        refine z_callVi hC hN [.ref a_p1, .int l2] [0, 1, 2, 3, 5] (c_X1_sizeOfMirrorOrSpy (l := zl E) (D := zD E) (cI := cI) (cB := cB) (cZ := cZ) (N := N) (a_t := a_t) (a_t_numbers := a_t_numbers) (a_p1 := a_p1) (a_p1_kind := a_p1_kind) (a_p1_hand := a_p1_hand) (a_p1_leader := a_p1_leader) (a_p1_course := a_p1_course) (l2 := l2) (t_length := t_length) (t_numbers := t_numbers) (p1_players := p1_players) (p1_round := p1_round) (p1_time := p1_time) (p1_kind := p1_kind) (p1_leader := p1_leader)) rfl ⟨rfl, rfl⟩ gX1_sizeOf_X1_sizeOfMirrorOrSpy hvX1_sizeOfMirrorOrSpy 0 1 rfl rfl rfl ⟨Nat.le_of_ble_eq_true rfl, Nat.le_of_ble_eq_true rfl⟩ ⟨Nat.zero_le _, Nat.zero_le _⟩ rfl (Nat.le_of_ble_eq_true rfl) rfl (by decide) (fun _ => rfl) dX1_sizeOf_56 hR (fun r56 hR => ?_)
        obtain rfl := Option.some.inj hR
        exact z_iret hC hQ rfl rfl rfl dX1_sizeOf_59
set_option maxHeartbeats 4000000 in
set_option maxRecDepth 100000 in
theorem c_X1_sizeOf {sK sV : Nat → Nat} {l : Launch} {D : va_G} {cI cB cZ : ClassId} {N : Nat} {a_t : Nat} {a_t_numbers : Nat} {a_p1 : Nat} {a_p1_kind : Nat} {a_p1_hand : Nat} {a_p1_leader : Nat} {a_p1_course : Nat} {t_length : Int32} {t_numbers : (Nat → Int32)} {p1_players : Int32} {p1_round : Int32} {p1_time : Int32} {p1_kind : (Nat → Int32)} {p1_hand : (Nat → Int32)} {p1_leader : (Nat → Int32)} {l2 : Int32} : ∀ R : Int32 × Int32 × (Nat → Int32), o_X1_sizeOf N t_length t_numbers p1_players p1_kind p1_hand p1_leader l2 = some R → ZMi sK sV l yX1_sizeOf wsX1_sizeOf rmX1_sizeOf D (zty cI cB cZ) [.ref a_t, .ref a_p1, .int l2] [(a_t, .inr (1, [.ref a_t_numbers, .int t_length])), (a_t_numbers, .inl (cI, 16, .inl t_numbers)), (a_p1, .inr (3, [.int p1_players, .int p1_round, .int p1_time, .ref a_p1_kind, .ref a_p1_hand, .ref a_p1_leader, .ref a_p1_course])), (a_p1_kind, .inl (cI, 8, .inl p1_kind)), (a_p1_hand, .inl (cI, 8, .inl p1_hand)), (a_p1_leader, .inl (cI, 8, .inl p1_leader))] R.1 [(a_t, .inr (1, [.ref a_t_numbers, .int R.2.1])), (a_t_numbers, .inl (cI, 16, .inl R.2.2)), (a_p1, .inr (3, [.int p1_players, .int p1_round, .int p1_time, .ref a_p1_kind, .ref a_p1_hand, .ref a_p1_leader, .ref a_p1_course])), (a_p1_kind, .inl (cI, 8, .inl p1_kind)), (a_p1_hand, .inl (cI, 8, .inl p1_hand)), (a_p1_leader, .inl (cI, 8, .inl p1_leader))] := by
  intro R hR
  refine zi_of (cc := cX1_sizeOf) (maxL := 3) (ret := (some .int)) (by decide) rfl (Nat.le_of_ble_eq_true rfl) (fun E hE1 hE2 hC hN hQ => ?_)
  subst hE1 hE2
  exact z_X1_sizeOf_0 hC hN (N := N) (a_t := a_t) (a_t_numbers := a_t_numbers) (a_p1 := a_p1) (a_p1_kind := a_p1_kind) (a_p1_hand := a_p1_hand) (a_p1_leader := a_p1_leader) (a_p1_course := a_p1_course) (t_length := t_length) (t_numbers := t_numbers) (p1_players := p1_players) (p1_round := p1_round) (p1_time := p1_time) (p1_kind := p1_kind) (p1_hand := p1_hand) (p1_leader := p1_leader) (l2 := l2) hQ hR

/-! FistTrains$Asks.markOfMirror -/
abbrev rmX1_markOfMirror : Room := { frames := 4, cells := 0, slots := 0, locals := 89 }
def o_X1_markOfMirror (N : Nat) (t_length : Int32) (t_numbers : (Nat → Int32)) (p1_players : Int32) (p1_kind : (Nat → Int32)) (p1_leader : (Nat → Int32)) (l2 : Int32) : Option (Int32 × Int32 × (Nat → Int32)) :=
  Option.bind (o_X1_leave N t_length t_numbers 23) (fun r3 =>
  Option.bind (o_X1_markOfPlayer N r3.1 r3.2 l2) (fun r8 =>
  Option.bind (o_X1_sizeOfMirrorOrSpy N r8.2.1 r8.2.2 p1_players p1_kind p1_leader l2) (fun r16 =>
  some ((r8.1 - r16.1), r16.2.1, r16.2.2))))
set_option maxHeartbeats 4000000 in
set_option maxRecDepth 100000 in
theorem z_X1_markOfMirror_0 {sK sV : Nat → Nat} {E : ZE} {cI cB cZ : ClassId} (hC : ZC E 4 cX1_markOfMirror wsX1_markOfMirror RX1 rmX1_markOfMirror (some .int) (zty cI cB cZ)) (hN : ZN sK sV (zA E) (zs E)) {N : Nat} {a_t : Nat} {a_t_numbers : Nat} {a_p1 : Nat} {a_p1_kind : Nat} {a_p1_leader : Nat} {a_p1_hand : Nat} {a_p1_course : Nat} {t_length : Int32} {t_numbers : (Nat → Int32)} {p1_players : Int32} {p1_round : Int32} {p1_time : Int32} {p1_kind : (Nat → Int32)} {p1_leader : (Nat → Int32)} {l2 : Int32} {rf : Int32 × Int32 × (Nat → Int32)} (hQ : ZQi E (zty cI cB cZ) rf.1 [(a_t, .inr (1, [.ref a_t_numbers, .int rf.2.1])), (a_t_numbers, .inl (cI, 16, .inl rf.2.2)), (a_p1, .inr (3, [.int p1_players, .int p1_round, .int p1_time, .ref a_p1_kind, .ref a_p1_hand, .ref a_p1_leader, .ref a_p1_course])), (a_p1_kind, .inl (cI, 8, .inl p1_kind)), (a_p1_leader, .inl (cI, 8, .inl p1_leader))]) (hR : o_X1_markOfMirror N t_length t_numbers p1_players p1_kind p1_leader l2 = some rf) : Z E (0, 0) [(0, .ref a_t), (1, .ref a_p1), (2, .int l2)] 0 [] [(a_t, .inr (1, [.ref a_t_numbers, .int t_length])), (a_t_numbers, .inl (cI, 16, .inl t_numbers)), (a_p1, .inr (3, [.int p1_players, .int p1_round, .int p1_time, .ref a_p1_kind, .ref a_p1_hand, .ref a_p1_leader, .ref a_p1_course])), (a_p1_kind, .inl (cI, 8, .inl p1_kind)), (a_p1_leader, .inl (cI, 8, .inl p1_leader))] := by
  rw [o_X1_markOfMirror] at hR
  refine z_aload_n hC dX1_markOfMirror_0 rfl 0 rfl ?_
  refine z_bipush (v := 23) hC dX1_markOfMirror_1 (by decide) ?_
  refine z_callVv hC hN [.int 23] [0, 1] (c_X1_leave (l := zl E) (D := zD E) (cI := cI) (cB := cB) (cZ := cZ) (N := N) (a_t := a_t) (a_t_numbers := a_t_numbers) (l1 := 23) (t_length := t_length) (t_numbers := t_numbers)) rfl ⟨rfl, rfl⟩ gX1_markOfMirror_X1_leave hvX1_leave 0 1 rfl rfl rfl ⟨Nat.le_of_ble_eq_true rfl, Nat.le_of_ble_eq_true rfl⟩ ⟨Nat.zero_le _, Nat.zero_le _⟩ rfl (Nat.le_of_ble_eq_true rfl) rfl (by decide) (fun _ => rfl) dX1_markOfMirror_3 hR (fun r3 hR => ?_)
  refine z_aload_n hC dX1_markOfMirror_6 rfl 0 rfl ?_
  refine z_iload_n hC dX1_markOfMirror_7 rfl 2 rfl ?_
  refine z_callVi hC hN [.int l2] [0, 1] (c_X1_markOfPlayer (l := zl E) (D := zD E) (cI := cI) (cB := cB) (cZ := cZ) (N := N) (a_t := a_t) (a_t_numbers := a_t_numbers) (l1 := l2) (t_length := r3.1) (t_numbers := r3.2)) rfl ⟨rfl, rfl⟩ gX1_markOfMirror_X1_markOfPlayer hvX1_markOfPlayer 0 1 rfl rfl rfl ⟨Nat.le_of_ble_eq_true rfl, Nat.le_of_ble_eq_true rfl⟩ ⟨Nat.zero_le _, Nat.zero_le _⟩ rfl (Nat.le_of_ble_eq_true rfl) rfl (by decide) (fun _ => rfl) dX1_markOfMirror_8 hR (fun r8 hR => ?_)
  refine z_istore_n hC [(3, .int r8.1), (0, .ref a_t), (1, .ref a_p1), (2, .int l2)] dX1_markOfMirror_11 rfl (by decide) rfl ?_
  refine z_iload_n hC dX1_markOfMirror_12 rfl 0 rfl ?_
  refine z_aload_n hC dX1_markOfMirror_13 rfl 1 rfl ?_
  refine z_aload_n hC dX1_markOfMirror_14 rfl 2 rfl ?_
  refine z_iload_n hC dX1_markOfMirror_15 rfl 3 rfl ?_
  refine z_callVi hC hN [.ref a_p1, .int l2] [0, 1, 2, 3, 4] (c_X1_sizeOfMirrorOrSpy (l := zl E) (D := zD E) (cI := cI) (cB := cB) (cZ := cZ) (N := N) (a_t := a_t) (a_t_numbers := a_t_numbers) (a_p1 := a_p1) (a_p1_kind := a_p1_kind) (a_p1_hand := a_p1_hand) (a_p1_leader := a_p1_leader) (a_p1_course := a_p1_course) (l2 := l2) (t_length := r8.2.1) (t_numbers := r8.2.2) (p1_players := p1_players) (p1_round := p1_round) (p1_time := p1_time) (p1_kind := p1_kind) (p1_leader := p1_leader)) rfl ⟨rfl, rfl⟩ gX1_markOfMirror_X1_sizeOfMirrorOrSpy hvX1_sizeOfMirrorOrSpy 0 1 rfl rfl rfl ⟨Nat.le_of_ble_eq_true rfl, Nat.le_of_ble_eq_true rfl⟩ ⟨Nat.zero_le _, Nat.zero_le _⟩ rfl (Nat.le_of_ble_eq_true rfl) rfl (by decide) (fun _ => rfl) dX1_markOfMirror_16 hR (fun r16 hR => ?_)
  refine z_isub hC dX1_markOfMirror_19 ?_
  obtain rfl := Option.some.inj hR
  exact z_iret hC hQ rfl rfl rfl dX1_markOfMirror_20
set_option maxHeartbeats 4000000 in
set_option maxRecDepth 100000 in
theorem c_X1_markOfMirror {sK sV : Nat → Nat} {l : Launch} {D : va_G} {cI cB cZ : ClassId} {N : Nat} {a_t : Nat} {a_t_numbers : Nat} {a_p1 : Nat} {a_p1_kind : Nat} {a_p1_leader : Nat} {a_p1_hand : Nat} {a_p1_course : Nat} {t_length : Int32} {t_numbers : (Nat → Int32)} {p1_players : Int32} {p1_round : Int32} {p1_time : Int32} {p1_kind : (Nat → Int32)} {p1_leader : (Nat → Int32)} {l2 : Int32} : ∀ R : Int32 × Int32 × (Nat → Int32), o_X1_markOfMirror N t_length t_numbers p1_players p1_kind p1_leader l2 = some R → ZMi sK sV l yX1_markOfMirror wsX1_markOfMirror rmX1_markOfMirror D (zty cI cB cZ) [.ref a_t, .ref a_p1, .int l2] [(a_t, .inr (1, [.ref a_t_numbers, .int t_length])), (a_t_numbers, .inl (cI, 16, .inl t_numbers)), (a_p1, .inr (3, [.int p1_players, .int p1_round, .int p1_time, .ref a_p1_kind, .ref a_p1_hand, .ref a_p1_leader, .ref a_p1_course])), (a_p1_kind, .inl (cI, 8, .inl p1_kind)), (a_p1_leader, .inl (cI, 8, .inl p1_leader))] R.1 [(a_t, .inr (1, [.ref a_t_numbers, .int R.2.1])), (a_t_numbers, .inl (cI, 16, .inl R.2.2)), (a_p1, .inr (3, [.int p1_players, .int p1_round, .int p1_time, .ref a_p1_kind, .ref a_p1_hand, .ref a_p1_leader, .ref a_p1_course])), (a_p1_kind, .inl (cI, 8, .inl p1_kind)), (a_p1_leader, .inl (cI, 8, .inl p1_leader))] := by
  intro R hR
  refine zi_of (cc := cX1_markOfMirror) (maxL := 4) (ret := (some .int)) (by decide) rfl (Nat.le_of_ble_eq_true rfl) (fun E hE1 hE2 hC hN hQ => ?_)
  subst hE1 hE2
  exact z_X1_markOfMirror_0 hC hN (N := N) (a_t := a_t) (a_t_numbers := a_t_numbers) (a_p1 := a_p1) (a_p1_kind := a_p1_kind) (a_p1_leader := a_p1_leader) (a_p1_hand := a_p1_hand) (a_p1_course := a_p1_course) (t_length := t_length) (t_numbers := t_numbers) (p1_players := p1_players) (p1_round := p1_round) (p1_time := p1_time) (p1_kind := p1_kind) (p1_leader := p1_leader) (l2 := l2) hQ hR

/-! FistTrains$Asks.markOf -/
abbrev rmX1_markOf : Room := { frames := 5, cells := 0, slots := 0, locals := 112 }
set_option maxRecDepth 20000 in
theorem iX1_markOf_X3 : ∀ w ∈ wsX30, w ∈ wsX1_markOf := by decide +kernel
set_option maxRecDepth 20000 in
theorem mX1_markOf_1 : Cond.fieldLink RX1 19 "FistTrains$Hall" "kind" "[I" ∈ wsX1_markOf := List.mem_of_getElem? (i := 1) rfl
set_option maxRecDepth 20000 in
theorem mX1_markOf_3 : Cond.initialized RX8 ∈ wsX1_markOf := List.mem_of_getElem? (i := 3) rfl
set_option maxRecDepth 20000 in
theorem mX1_markOf_2 : Cond.static yX8_isBoyish ∈ wsX1_markOf := List.mem_of_getElem? (i := 2) rfl
def o_X1_markOf (N : Nat) (t_length : Int32) (t_numbers : (Nat → Int32)) (p1_players : Int32) (p1_kind : (Nat → Int32)) (p1_hand : (Nat → Int32)) (p1_leader : (Nat → Int32)) (l2 : Int32) : Option (Int32 × Int32 × (Nat → Int32)) :=
  ogd (inb l2 8) (
  Option.bind (o_X8_isBoyish N (p1_kind (Int32.toNatClampNeg l2))) (fun r6 =>
  if r6 = 0 then
    Option.bind (o_X1_markOfMirror N t_length t_numbers p1_players p1_kind p1_leader l2) (fun r24 =>
    some (r24.1, r24.2.1, r24.2.2))
  else
    Option.bind (o_X1_markOfBoyish N t_length t_numbers p1_kind p1_hand l2) (fun r15 =>
    some (r15.1, r15.2.1, r15.2.2))))
set_option maxHeartbeats 4000000 in
set_option maxRecDepth 100000 in
theorem z_X1_markOf_0 {sK sV : Nat → Nat} {E : ZE} {cI cB cZ : ClassId} (hC : ZC E 3 cX1_markOf wsX1_markOf RX1 rmX1_markOf (some .int) (zty cI cB cZ)) (hN : ZN sK sV (zA E) (zs E)) {N : Nat} {a_t : Nat} {a_t_numbers : Nat} {a_p1 : Nat} {a_p1_kind : Nat} {a_p1_hand : Nat} {a_p1_leader : Nat} {a_p1_course : Nat} {t_length : Int32} {t_numbers : (Nat → Int32)} {p1_players : Int32} {p1_round : Int32} {p1_time : Int32} {p1_kind : (Nat → Int32)} {p1_hand : (Nat → Int32)} {p1_leader : (Nat → Int32)} {l2 : Int32} {rf : Int32 × Int32 × (Nat → Int32)} (hQ : ZQi E (zty cI cB cZ) rf.1 [(a_t, .inr (1, [.ref a_t_numbers, .int rf.2.1])), (a_t_numbers, .inl (cI, 16, .inl rf.2.2)), (a_p1, .inr (3, [.int p1_players, .int p1_round, .int p1_time, .ref a_p1_kind, .ref a_p1_hand, .ref a_p1_leader, .ref a_p1_course])), (a_p1_kind, .inl (cI, 8, .inl p1_kind)), (a_p1_hand, .inl (cI, 8, .inl p1_hand)), (a_p1_leader, .inl (cI, 8, .inl p1_leader))]) (hR : o_X1_markOf N t_length t_numbers p1_players p1_kind p1_hand p1_leader l2 = some rf) : Z E (0, 0) [(0, .ref a_t), (1, .ref a_p1), (2, .int l2)] 0 [] [(a_t, .inr (1, [.ref a_t_numbers, .int t_length])), (a_t_numbers, .inl (cI, 16, .inl t_numbers)), (a_p1, .inr (3, [.int p1_players, .int p1_round, .int p1_time, .ref a_p1_kind, .ref a_p1_hand, .ref a_p1_leader, .ref a_p1_course])), (a_p1_kind, .inl (cI, 8, .inl p1_kind)), (a_p1_hand, .inl (cI, 8, .inl p1_hand)), (a_p1_leader, .inl (cI, 8, .inl p1_leader))] := by
  rw [o_X1_markOf] at hR
  refine z_aload_n hC dX1_markOf_0 rfl 1 rfl ?_
  refine z_get hC iX1_markOf_X3 rfl 2 3 rfl (by decide) mX1_markOf_1 rfl rfl dX1_markOf_1 ?_
  refine z_iload_n hC dX1_markOf_4 rfl 2 rfl ?_
  refine z_iald hC 3 0 rfl rfl dX1_markOf_5 hR (fun hR => ?_)
  refine z_callSNi_p hC hN [.int (p1_kind (Int32.toNatClampNeg l2))] [] (c_X8_isBoyish (l := zl E) (D := zD E) (cI := cI) (cB := cB) (cZ := cZ) (N := N) (l0 := (p1_kind (Int32.toNatClampNeg l2)))) rfl ⟨rfl, rfl⟩ gX1_markOf_X8_isBoyish_n35 (List.mem_of_getElem? (i := 4) rfl) mX1_markOf_3 mX1_markOf_2 hsX8_isBoyish ⟨Nat.le_of_ble_eq_true rfl, Nat.le_of_ble_eq_true rfl⟩ ⟨Nat.zero_le _, Nat.zero_le _⟩ rfl (Nat.le_of_ble_eq_true rfl) rfl (by decide) dX1_markOf_6 hR (fun r6 hR => ?_)
  refine z_if_eq hC 21 dX1_markOf_9 (by decide) hR (fun hR => ?_) (fun hR => ?_)
  · refine z_aload_n hC dX1_markOf_21 rfl 0 rfl ?_
    refine z_aload_n hC dX1_markOf_22 rfl 1 rfl ?_
    refine z_iload_n hC dX1_markOf_23 rfl 2 rfl ?_
    refine z_callVi hC hN [.ref a_p1, .int l2] [0, 1, 2, 3, 5] (c_X1_markOfMirror (l := zl E) (D := zD E) (cI := cI) (cB := cB) (cZ := cZ) (N := N) (a_t := a_t) (a_t_numbers := a_t_numbers) (a_p1 := a_p1) (a_p1_kind := a_p1_kind) (a_p1_hand := a_p1_hand) (a_p1_leader := a_p1_leader) (a_p1_course := a_p1_course) (l2 := l2) (t_length := t_length) (t_numbers := t_numbers) (p1_players := p1_players) (p1_round := p1_round) (p1_time := p1_time) (p1_kind := p1_kind) (p1_leader := p1_leader)) rfl ⟨rfl, rfl⟩ gX1_markOf_X1_markOfMirror hvX1_markOfMirror 0 1 rfl rfl rfl ⟨Nat.le_of_ble_eq_true rfl, Nat.le_of_ble_eq_true rfl⟩ ⟨Nat.zero_le _, Nat.zero_le _⟩ rfl (Nat.le_of_ble_eq_true rfl) rfl (by decide) (fun _ => rfl) dX1_markOf_24 hR (fun r24 hR => ?_)
    obtain rfl := Option.some.inj hR
    exact z_iret hC hQ rfl rfl rfl dX1_markOf_27
  · refine z_aload_n hC dX1_markOf_12 rfl 0 rfl ?_
    refine z_aload_n hC dX1_markOf_13 rfl 1 rfl ?_
    refine z_iload_n hC dX1_markOf_14 rfl 2 rfl ?_
    refine z_callVi hC hN [.ref a_p1, .int l2] [0, 1, 2, 3, 4] (c_X1_markOfBoyish (l := zl E) (D := zD E) (cI := cI) (cB := cB) (cZ := cZ) (N := N) (a_t := a_t) (a_t_numbers := a_t_numbers) (a_p1 := a_p1) (a_p1_kind := a_p1_kind) (a_p1_hand := a_p1_hand) (a_p1_leader := a_p1_leader) (a_p1_course := a_p1_course) (l2 := l2) (t_length := t_length) (t_numbers := t_numbers) (p1_players := p1_players) (p1_round := p1_round) (p1_time := p1_time) (p1_kind := p1_kind) (p1_hand := p1_hand)) rfl ⟨rfl, rfl⟩ gX1_markOf_X1_markOfBoyish hvX1_markOfBoyish 0 1 rfl rfl rfl ⟨Nat.le_of_ble_eq_true rfl, Nat.le_of_ble_eq_true rfl⟩ ⟨Nat.zero_le _, Nat.zero_le _⟩ rfl (Nat.le_of_ble_eq_true rfl) rfl (by decide) (fun _ => rfl) dX1_markOf_15 hR (fun r15 hR => ?_)
    refine z_goto hC 27 dX1_markOf_18 (by decide) ?_
    obtain rfl := Option.some.inj hR
    exact z_iret hC hQ rfl rfl rfl dX1_markOf_27
set_option maxHeartbeats 4000000 in
set_option maxRecDepth 100000 in
theorem c_X1_markOf {sK sV : Nat → Nat} {l : Launch} {D : va_G} {cI cB cZ : ClassId} {N : Nat} {a_t : Nat} {a_t_numbers : Nat} {a_p1 : Nat} {a_p1_kind : Nat} {a_p1_hand : Nat} {a_p1_leader : Nat} {a_p1_course : Nat} {t_length : Int32} {t_numbers : (Nat → Int32)} {p1_players : Int32} {p1_round : Int32} {p1_time : Int32} {p1_kind : (Nat → Int32)} {p1_hand : (Nat → Int32)} {p1_leader : (Nat → Int32)} {l2 : Int32} : ∀ R : Int32 × Int32 × (Nat → Int32), o_X1_markOf N t_length t_numbers p1_players p1_kind p1_hand p1_leader l2 = some R → ZMi sK sV l yX1_markOf wsX1_markOf rmX1_markOf D (zty cI cB cZ) [.ref a_t, .ref a_p1, .int l2] [(a_t, .inr (1, [.ref a_t_numbers, .int t_length])), (a_t_numbers, .inl (cI, 16, .inl t_numbers)), (a_p1, .inr (3, [.int p1_players, .int p1_round, .int p1_time, .ref a_p1_kind, .ref a_p1_hand, .ref a_p1_leader, .ref a_p1_course])), (a_p1_kind, .inl (cI, 8, .inl p1_kind)), (a_p1_hand, .inl (cI, 8, .inl p1_hand)), (a_p1_leader, .inl (cI, 8, .inl p1_leader))] R.1 [(a_t, .inr (1, [.ref a_t_numbers, .int R.2.1])), (a_t_numbers, .inl (cI, 16, .inl R.2.2)), (a_p1, .inr (3, [.int p1_players, .int p1_round, .int p1_time, .ref a_p1_kind, .ref a_p1_hand, .ref a_p1_leader, .ref a_p1_course])), (a_p1_kind, .inl (cI, 8, .inl p1_kind)), (a_p1_hand, .inl (cI, 8, .inl p1_hand)), (a_p1_leader, .inl (cI, 8, .inl p1_leader))] := by
  intro R hR
  refine zi_of (cc := cX1_markOf) (maxL := 3) (ret := (some .int)) (by decide) rfl (Nat.le_of_ble_eq_true rfl) (fun E hE1 hE2 hC hN hQ => ?_)
  subst hE1 hE2
  exact z_X1_markOf_0 hC hN (N := N) (a_t := a_t) (a_t_numbers := a_t_numbers) (a_p1 := a_p1) (a_p1_kind := a_p1_kind) (a_p1_hand := a_p1_hand) (a_p1_leader := a_p1_leader) (a_p1_course := a_p1_course) (t_length := t_length) (t_numbers := t_numbers) (p1_players := p1_players) (p1_round := p1_round) (p1_time := p1_time) (p1_kind := p1_kind) (p1_hand := p1_hand) (p1_leader := p1_leader) (l2 := l2) hQ hR
