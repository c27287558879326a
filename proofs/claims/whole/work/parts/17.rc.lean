theorem hsX2_init : yX2_init.cls ≠ "java/lang/invoke/MethodHandle" ∧ yX2_init.cls ≠ "java/lang/invoke/VarHandle" ∧ (parseMethodDescriptor yX2_init.desc).map (fun d => d.parameters.length) = some 0 := by decide +kernel
theorem hsX5_init : yX5_init.cls ≠ "java/lang/invoke/MethodHandle" ∧ yX5_init.cls ≠ "java/lang/invoke/VarHandle" ∧ (parseMethodDescriptor yX5_init.desc).map (fun d => d.parameters.length) = some 0 := by decide +kernel
theorem hsX6_init : yX6_init.cls ≠ "java/lang/invoke/MethodHandle" ∧ yX6_init.cls ≠ "java/lang/invoke/VarHandle" ∧ (parseMethodDescriptor yX6_init.desc).map (fun d => d.parameters.length) = some 0 := by decide +kernel
theorem hsX4_init : yX4_init.cls ≠ "java/lang/invoke/MethodHandle" ∧ yX4_init.cls ≠ "java/lang/invoke/VarHandle" ∧ (parseMethodDescriptor yX4_init.desc).map (fun d => d.parameters.length) = some 1 := by decide +kernel
theorem hsX3_init : yX3_init.cls ≠ "java/lang/invoke/MethodHandle" ∧ yX3_init.cls ≠ "java/lang/invoke/VarHandle" ∧ (parseMethodDescriptor yX3_init.desc).map (fun d => d.parameters.length) = some 0 := by decide +kernel
theorem hsX0_init : yX0_init.cls ≠ "java/lang/invoke/MethodHandle" ∧ yX0_init.cls ≠ "java/lang/invoke/VarHandle" ∧ (parseMethodDescriptor yX0_init.desc).map (fun d => d.parameters.length) = some 0 := by decide +kernel
theorem hsX7_init : yX7_init.cls ≠ "java/lang/invoke/MethodHandle" ∧ yX7_init.cls ≠ "java/lang/invoke/VarHandle" ∧ (parseMethodDescriptor yX7_init.desc).map (fun d => d.parameters.length) = some 0 := by decide +kernel
theorem hsX1_init : yX1_init.cls ≠ "java/lang/invoke/MethodHandle" ∧ yX1_init.cls ≠ "java/lang/invoke/VarHandle" ∧ (parseMethodDescriptor yX1_init.desc).map (fun d => d.parameters.length) = some 0 := by decide +kernel
/-! FistTrains$Rows.<init> -/
abbrev rmX5_init : Room := { frames := 1, cells := 3, slots := 336, locals := 20 }
set_option maxRecDepth 20000 in
theorem mX5_init_1 : Cond.methodLink RX5 1 objectInit ∈ wsX5_init := List.mem_of_getElem? (i := 1) rfl
set_option maxRecDepth 20000 in
theorem mX5_init_2 : Cond.instanceMethod objectInit ∈ wsX5_init := List.mem_of_getElem? (i := 2) rfl
set_option maxRecDepth 20000 in
theorem mX5_init_3 : Cond.code objectInit ⟨#[0xb1]⟩ 1 none ∈ wsX5_init := List.mem_of_getElem? (i := 3) rfl
set_option maxRecDepth 20000 in
theorem mX5_init_4 : Cond.arrayClass .int ∈ wsX5_init := List.mem_of_getElem? (i := 4) rfl
set_option maxRecDepth 20000 in
theorem mX5_init_5 : Cond.fieldLink RX5 9 "FistTrains$Rows" "lane" "[I" ∈ wsX5_init := List.mem_of_getElem? (i := 5) rfl
set_option maxRecDepth 20000 in
theorem iX5_init_X5 : ∀ w ∈ wsX50, w ∈ wsX5_init := by decide +kernel
set_option maxRecDepth 20000 in
theorem mX5_init_6 : Cond.fieldLink RX5 13 "FistTrains$Rows" "size" "[I" ∈ wsX5_init := List.mem_of_getElem? (i := 6) rfl
set_option maxRecDepth 20000 in
theorem mX5_init_7 : Cond.fieldLink RX5 16 "FistTrains$Rows" "items" "[I" ∈ wsX5_init := List.mem_of_getElem? (i := 7) rfl
set_option maxHeartbeats 4000000 in
set_option maxRecDepth 100000 in
theorem c_X5_init {sK sV : Nat → Nat} {l : Launch} {D : va_G} {cI cB cZ : ClassId} {a_t : Nat} : ZMc sK sV l yX5_init wsX5_init rmX5_init D (zty cI cB cZ) [.ref a_t] [(a_t, .inr (5, [.null, .null, .null]))] 3 336 (fun u => ∃ q7 q15 q24 : Nat, u = [(a_t, .inr (5, [.ref q7, .ref q15, .ref q24])), (q7, .inl (cI, 8, .inl (upd (upd (upd (upd (upd (upd (upd (upd (fun _ => 0) 0 (-1)) 1 (-1)) 2 (-1)) 3 (-1)) 4 (-1)) 5 (-1)) 6 (-1)) 7 (-1)))), (q15, .inl (cI, 8, .inl (fun _ => 0))), (q24, .inl (cI, 320, .inl (fun _ => 0)))]) := by
  refine zc_of (cc := cX5_init) (maxL := 2) (ret := none) (by decide) rfl (Nat.le_of_ble_eq_true rfl) rfl (fun E hE1 hE2 hC hN hin9 hQ => ?_)
  subst hE1 hE2
  refine z_aload_n hC dX5_init_0 rfl 0 rfl ?_
  refine z_oinit hC mX5_init_1 mX5_init_2 mX5_init_3 (Nat.le_of_ble_eq_true rfl) (Nat.le_of_ble_eq_true rfl) dX5_init_1 ?_
  refine z_aload_n hC dX5_init_4 rfl 0 rfl ?_
  refine z_bipush (v := 8) hC dX5_init_5 (by decide) ?_
  refine z_newarr (1, 8) hC .int 8 8 0 rfl mX5_init_4 rfl rfl (fun _ => rfl) (by decide) (by decide) (Nat.le_of_ble_eq_true rfl) rfl ⟨Nat.le_of_ble_eq_true rfl, Nat.le_of_ble_eq_true rfl⟩ dX5_init_7 (fun q7 => ?_)
  refine z_eq [(a_t, .inr (5, [.null, .null, .null])), (q7, .inl (cI, 8, .inl (fun _ => 0)))] rfl ?_
  refine z_putF hC iX5_init_X5 tyX5_ok nmX5 rfl 0 0 rfl (by decide) mX5_init_5 rfl rfl hin9 rfl rfl rfl (Nat.le_of_ble_eq_true rfl) dX5_init_9 ?_
  refine z_eq [(a_t, .inr (5, [.ref q7, .null, .null])), (q7, .inl (cI, 8, .inl (fun _ => 0)))] rfl ?_
  refine z_aload_n hC dX5_init_12 rfl 0 rfl ?_
  refine z_bipush (v := 8) hC dX5_init_13 (by decide) ?_
  refine z_newarr (2, 16) hC .int 8 8 0 rfl mX5_init_4 rfl rfl (fun _ => rfl) (by decide) (by decide) (Nat.le_of_ble_eq_true rfl) rfl ⟨Nat.le_of_ble_eq_true rfl, Nat.le_of_ble_eq_true rfl⟩ dX5_init_15 (fun q15 => ?_)
  refine z_eq [(a_t, .inr (5, [.ref q7, .null, .null])), (q7, .inl (cI, 8, .inl (fun _ => 0))), (q15, .inl (cI, 8, .inl (fun _ => 0)))] rfl ?_
  refine z_putF hC iX5_init_X5 tyX5_ok nmX5 rfl 0 1 rfl (by decide) mX5_init_6 rfl rfl hin9 rfl rfl rfl (Nat.le_of_ble_eq_true rfl) dX5_init_17 ?_
  refine z_eq [(a_t, .inr (5, [.ref q7, .ref q15, .null])), (q7, .inl (cI, 8, .inl (fun _ => 0))), (q15, .inl (cI, 8, .inl (fun _ => 0)))] rfl ?_
  refine z_aload_n hC dX5_init_20 rfl 0 rfl ?_
  refine z_sipush (v := 320) hC dX5_init_21 (by decide) ?_
  refine z_newarr (3, 336) hC .int 320 320 0 rfl mX5_init_4 rfl rfl (fun _ => rfl) (by decide) (by decide) (Nat.le_of_ble_eq_true rfl) rfl ⟨Nat.le_of_ble_eq_true rfl, Nat.le_of_ble_eq_true rfl⟩ dX5_init_24 (fun q24 => ?_)
  refine z_eq [(a_t, .inr (5, [.ref q7, .ref q15, .null])), (q7, .inl (cI, 8, .inl (fun _ => 0))), (q15, .inl (cI, 8, .inl (fun _ => 0))), (q24, .inl (cI, 320, .inl (fun _ => 0)))] rfl ?_
  refine z_putF hC iX5_init_X5 tyX5_ok nmX5 rfl 0 2 rfl (by decide) mX5_init_7 rfl rfl hin9 rfl rfl rfl (Nat.le_of_ble_eq_true rfl) dX5_init_26 ?_
  refine z_eq [(a_t, .inr (5, [.ref q7, .ref q15, .ref q24])), (q7, .inl (cI, 8, .inl (fun _ => 0))), (q15, .inl (cI, 8, .inl (fun _ => 0))), (q24, .inl (cI, 320, .inl (fun _ => 0)))] rfl ?_
  refine z_ic0 hC dX5_init_29 ?_
  refine z_istore_n hC [(1, .int 0), (0, .ref a_t)] dX5_init_30 rfl (by decide) rfl ?_
  refine z_iload_n hC dX5_init_31 rfl 0 rfl ?_
  refine z_bipush (v := 8) hC dX5_init_32 (by decide) ?_
  refine z_icmp_ge (α := Unit) (P1 := none) (P2 := some ()) (rf := ()) hC 50 dX5_init_34 (by decide) (if_neg (by decide)) (fun h => by cases h) (fun _ => ?_)
  refine z_aload_n hC dX5_init_37 rfl 1 rfl ?_
  refine z_get hC iX5_init_X5 rfl 0 0 rfl (by decide) mX5_init_5 rfl rfl dX5_init_38 ?_
  refine z_iload_n hC dX5_init_41 rfl 0 rfl ?_
  refine z_icm1 hC dX5_init_42 ?_
  refine z_iast (α := Unit) (P := some ()) (rf := ()) hC 1 0 rfl rfl dX5_init_43 (ogd_t (by decide)) (fun _ => ?_)
  refine z_eq [(a_t, .inr (5, [.ref q7, .ref q15, .ref q24])), (q7, .inl (cI, 8, .inl (upd (fun _ => 0) 0 (-1)))), (q15, .inl (cI, 8, .inl (fun _ => 0))), (q24, .inl (cI, 320, .inl (fun _ => 0)))] rfl ?_
  refine z_iinc (v := 1) hC [(1, .int 1), (0, .ref a_t)] dX5_init_44 0 rfl (by decide) (by decide) rfl ?_
  refine z_goto hC 31 dX5_init_47 (by decide) ?_
  refine z_iload_n hC dX5_init_31 rfl 0 rfl ?_
  refine z_bipush (v := 8) hC dX5_init_32 (by decide) ?_
  refine z_icmp_ge (α := Unit) (P1 := none) (P2 := some ()) (rf := ()) hC 50 dX5_init_34 (by decide) (if_neg (by decide)) (fun h => by cases h) (fun _ => ?_)
  refine z_aload_n hC dX5_init_37 rfl 1 rfl ?_
  refine z_get hC iX5_init_X5 rfl 0 0 rfl (by decide) mX5_init_5 rfl rfl dX5_init_38 ?_
  refine z_iload_n hC dX5_init_41 rfl 0 rfl ?_
  refine z_icm1 hC dX5_init_42 ?_
  refine z_iast (α := Unit) (P := some ()) (rf := ()) hC 1 0 rfl rfl dX5_init_43 (ogd_t (by decide)) (fun _ => ?_)
  refine z_eq [(a_t, .inr (5, [.ref q7, .ref q15, .ref q24])), (q7, .inl (cI, 8, .inl (upd (upd (fun _ => 0) 0 (-1)) 1 (-1)))), (q15, .inl (cI, 8, .inl (fun _ => 0))), (q24, .inl (cI, 320, .inl (fun _ => 0)))] rfl ?_
  refine z_iinc (v := 2) hC [(1, .int 2), (0, .ref a_t)] dX5_init_44 0 rfl (by decide) (by decide) rfl ?_
  refine z_goto hC 31 dX5_init_47 (by decide) ?_
  refine z_iload_n hC dX5_init_31 rfl 0 rfl ?_
  refine z_bipush (v := 8) hC dX5_init_32 (by decide) ?_
  refine z_icmp_ge (α := Unit) (P1 := none) (P2 := some ()) (rf := ()) hC 50 dX5_init_34 (by decide) (if_neg (by decide)) (fun h => by cases h) (fun _ => ?_)
  refine z_aload_n hC dX5_init_37 rfl 1 rfl ?_
  refine z_get hC iX5_init_X5 rfl 0 0 rfl (by decide) mX5_init_5 rfl rfl dX5_init_38 ?_
  refine z_iload_n hC dX5_init_41 rfl 0 rfl ?_
  refine z_icm1 hC dX5_init_42 ?_
  refine z_iast (α := Unit) (P := some ()) (rf := ()) hC 1 0 rfl rfl dX5_init_43 (ogd_t (by decide)) (fun _ => ?_)
  refine z_eq [(a_t, .inr (5, [.ref q7, .ref q15, .ref q24])), (q7, .inl (cI, 8, .inl (upd (upd (upd (fun _ => 0) 0 (-1)) 1 (-1)) 2 (-1)))), (q15, .inl (cI, 8, .inl (fun _ => 0))), (q24, .inl (cI, 320, .inl (fun _ => 0)))] rfl ?_
  refine z_iinc (v := 3) hC [(1, .int 3), (0, .ref a_t)] dX5_init_44 0 rfl (by decide) (by decide) rfl ?_
  refine z_goto hC 31 dX5_init_47 (by decide) ?_
  refine z_iload_n hC dX5_init_31 rfl 0 rfl ?_
  refine z_bipush (v := 8) hC dX5_init_32 (by decide) ?_
  refine z_icmp_ge (α := Unit) (P1 := none) (P2 := some ()) (rf := ()) hC 50 dX5_init_34 (by decide) (if_neg (by decide)) (fun h => by cases h) (fun _ => ?_)
  refine z_aload_n hC dX5_init_37 rfl 1 rfl ?_
  refine z_get hC iX5_init_X5 rfl 0 0 rfl (by decide) mX5_init_5 rfl rfl dX5_init_38 ?_
  refine z_iload_n hC dX5_init_41 rfl 0 rfl ?_
  refine z_icm1 hC dX5_init_42 ?_
  refine z_iast (α := Unit) (P := some ()) (rf := ()) hC 1 0 rfl rfl dX5_init_43 (ogd_t (by decide)) (fun _ => ?_)
  refine z_eq [(a_t, .inr (5, [.ref q7, .ref q15, .ref q24])), (q7, .inl (cI, 8, .inl (upd (upd (upd (upd (fun _ => 0) 0 (-1)) 1 (-1)) 2 (-1)) 3 (-1)))), (q15, .inl (cI, 8, .inl (fun _ => 0))), (q24, .inl (cI, 320, .inl (fun _ => 0)))] rfl ?_
  refine z_iinc (v := 4) hC [(1, .int 4), (0, .ref a_t)] dX5_init_44 0 rfl (by decide) (by decide) rfl ?_
  refine z_goto hC 31 dX5_init_47 (by decide) ?_
  refine z_iload_n hC dX5_init_31 rfl 0 rfl ?_
  refine z_bipush (v := 8) hC dX5_init_32 (by decide) ?_
  refine z_icmp_ge (α := Unit) (P1 := none) (P2 := some ()) (rf := ()) hC 50 dX5_init_34 (by decide) (if_neg (by decide)) (fun h => by cases h) (fun _ => ?_)
  refine z_aload_n hC dX5_init_37 rfl 1 rfl ?_
  refine z_get hC iX5_init_X5 rfl 0 0 rfl (by decide) mX5_init_5 rfl rfl dX5_init_38 ?_
  refine z_iload_n hC dX5_init_41 rfl 0 rfl ?_
  refine z_icm1 hC dX5_init_42 ?_
  refine z_iast (α := Unit) (P := some ()) (rf := ()) hC 1 0 rfl rfl dX5_init_43 (ogd_t (by decide)) (fun _ => ?_)
  refine z_eq [(a_t, .inr (5, [.ref q7, .ref q15, .ref q24])), (q7, .inl (cI, 8, .inl (upd (upd (upd (upd (upd (fun _ => 0) 0 (-1)) 1 (-1)) 2 (-1)) 3 (-1)) 4 (-1)))), (q15, .inl (cI, 8, .inl (fun _ => 0))), (q24, .inl (cI, 320, .inl (fun _ => 0)))] rfl ?_
  refine z_iinc (v := 5) hC [(1, .int 5), (0, .ref a_t)] dX5_init_44 0 rfl (by decide) (by decide) rfl ?_
  refine z_goto hC 31 dX5_init_47 (by decide) ?_
  refine z_iload_n hC dX5_init_31 rfl 0 rfl ?_
  refine z_bipush (v := 8) hC dX5_init_32 (by decide) ?_
  refine z_icmp_ge (α := Unit) (P1 := none) (P2 := some ()) (rf := ()) hC 50 dX5_init_34 (by decide) (if_neg (by decide)) (fun h => by cases h) (fun _ => ?_)
  refine z_aload_n hC dX5_init_37 rfl 1 rfl ?_
  refine z_get hC iX5_init_X5 rfl 0 0 rfl (by decide) mX5_init_5 rfl rfl dX5_init_38 ?_
  refine z_iload_n hC dX5_init_41 rfl 0 rfl ?_
  refine z_icm1 hC dX5_init_42 ?_
  refine z_iast (α := Unit) (P := some ()) (rf := ()) hC 1 0 rfl rfl dX5_init_43 (ogd_t (by decide)) (fun _ => ?_)
  refine z_eq [(a_t, .inr (5, [.ref q7, .ref q15, .ref q24])), (q7, .inl (cI, 8, .inl (upd (upd (upd (upd (upd (upd (fun _ => 0) 0 (-1)) 1 (-1)) 2 (-1)) 3 (-1)) 4 (-1)) 5 (-1)))), (q15, .inl (cI, 8, .inl (fun _ => 0))), (q24, .inl (cI, 320, .inl (fun _ => 0)))] rfl ?_
  refine z_iinc (v := 6) hC [(1, .int 6), (0, .ref a_t)] dX5_init_44 0 rfl (by decide) (by decide) rfl ?_
  refine z_goto hC 31 dX5_init_47 (by decide) ?_
  refine z_iload_n hC dX5_init_31 rfl 0 rfl ?_
  refine z_bipush (v := 8) hC dX5_init_32 (by decide) ?_
  refine z_icmp_ge (α := Unit) (P1 := none) (P2 := some ()) (rf := ()) hC 50 dX5_init_34 (by decide) (if_neg (by decide)) (fun h => by cases h) (fun _ => ?_)
  refine z_aload_n hC dX5_init_37 rfl 1 rfl ?_
  refine z_get hC iX5_init_X5 rfl 0 0 rfl (by decide) mX5_init_5 rfl rfl dX5_init_38 ?_
  refine z_iload_n hC dX5_init_41 rfl 0 rfl ?_
  refine z_icm1 hC dX5_init_42 ?_
  refine z_iast (α := Unit) (P := some ()) (rf := ()) hC 1 0 rfl rfl dX5_init_43 (ogd_t (by decide)) (fun _ => ?_)
  refine z_eq [(a_t, .inr (5, [.ref q7, .ref q15, .ref q24])), (q7, .inl (cI, 8, .inl (upd (upd (upd (upd (upd (upd (upd (fun _ => 0) 0 (-1)) 1 (-1)) 2 (-1)) 3 (-1)) 4 (-1)) 5 (-1)) 6 (-1)))), (q15, .inl (cI, 8, .inl (fun _ => 0))), (q24, .inl (cI, 320, .inl (fun _ => 0)))] rfl ?_
  refine z_iinc (v := 7) hC [(1, .int 7), (0, .ref a_t)] dX5_init_44 0 rfl (by decide) (by decide) rfl ?_
  refine z_goto hC 31 dX5_init_47 (by decide) ?_
  refine z_iload_n hC dX5_init_31 rfl 0 rfl ?_
  refine z_bipush (v := 8) hC dX5_init_32 (by decide) ?_
  refine z_icmp_ge (α := Unit) (P1 := none) (P2 := some ()) (rf := ()) hC 50 dX5_init_34 (by decide) (if_neg (by decide)) (fun h => by cases h) (fun _ => ?_)
  refine z_aload_n hC dX5_init_37 rfl 1 rfl ?_
  refine z_get hC iX5_init_X5 rfl 0 0 rfl (by decide) mX5_init_5 rfl rfl dX5_init_38 ?_
  refine z_iload_n hC dX5_init_41 rfl 0 rfl ?_
  refine z_icm1 hC dX5_init_42 ?_
  refine z_iast (α := Unit) (P := some ()) (rf := ()) hC 1 0 rfl rfl dX5_init_43 (ogd_t (by decide)) (fun _ => ?_)
  refine z_eq [(a_t, .inr (5, [.ref q7, .ref q15, .ref q24])), (q7, .inl (cI, 8, .inl (upd (upd (upd (upd (upd (upd (upd (upd (fun _ => 0) 0 (-1)) 1 (-1)) 2 (-1)) 3 (-1)) 4 (-1)) 5 (-1)) 6 (-1)) 7 (-1)))), (q15, .inl (cI, 8, .inl (fun _ => 0))), (q24, .inl (cI, 320, .inl (fun _ => 0)))] rfl ?_
  refine z_iinc (v := 8) hC [(1, .int 8), (0, .ref a_t)] dX5_init_44 0 rfl (by decide) (by decide) rfl ?_
  refine z_goto hC 31 dX5_init_47 (by decide) ?_
  refine z_iload_n hC dX5_init_31 rfl 0 rfl ?_
  refine z_bipush (v := 8) hC dX5_init_32 (by decide) ?_
  refine z_icmp_ge (α := Unit) (P1 := some ()) (P2 := none) (rf := ()) hC 50 dX5_init_34 (by decide) (if_pos (by decide)) (fun _ => ?_) (fun h => by cases h)
  exact z_cret hC hQ ⟨q7, q15, q24, rfl⟩ dX5_init_50

/-! FistTrains$Tape.<init> -/
abbrev rmX6_init : Room := { frames := 1, cells := 1, slots := 200, locals := 20 }
set_option maxRecDepth 20000 in
theorem mX6_init_1 : Cond.methodLink RX6 1 objectInit ∈ wsX6_init := List.mem_of_getElem? (i := 1) rfl
set_option maxRecDepth 20000 in
theorem mX6_init_2 : Cond.instanceMethod objectInit ∈ wsX6_init := List.mem_of_getElem? (i := 2) rfl
set_option maxRecDepth 20000 in
theorem mX6_init_3 : Cond.code objectInit ⟨#[0xb1]⟩ 1 none ∈ wsX6_init := List.mem_of_getElem? (i := 3) rfl
set_option maxRecDepth 20000 in
theorem mX6_init_4 : Cond.arrayClass .byte ∈ wsX6_init := List.mem_of_getElem? (i := 4) rfl
set_option maxRecDepth 20000 in
theorem mX6_init_5 : Cond.fieldLink RX6 9 "FistTrains$Tape" "bytes" "[B" ∈ wsX6_init := List.mem_of_getElem? (i := 5) rfl
set_option maxRecDepth 20000 in
theorem iX6_init_X6 : ∀ w ∈ wsX60, w ∈ wsX6_init := by decide +kernel
set_option maxRecDepth 20000 in
theorem mX6_init_6 : Cond.fieldLink RX6 13 "FistTrains$Tape" "length" "I" ∈ wsX6_init := List.mem_of_getElem? (i := 6) rfl
set_option maxHeartbeats 4000000 in
set_option maxRecDepth 100000 in
theorem c_X6_init {sK sV : Nat → Nat} {l : Launch} {D : va_G} {cI cB cZ : ClassId} {a_t : Nat} : ZMc sK sV l yX6_init wsX6_init rmX6_init D (zty cI cB cZ) [.ref a_t] [(a_t, .inr (6, [.null, .int 0]))] 1 200 (fun u => ∃ q8 : Nat, u = [(a_t, .inr (6, [.ref q8, .int 0])), (q8, .inl (cB, 200, .inl (fun _ => 0)))]) := by
  refine zc_of (cc := cX6_init) (maxL := 1) (ret := none) (by decide) rfl (Nat.le_of_ble_eq_true rfl) rfl (fun E hE1 hE2 hC hN hin9 hQ => ?_)
  subst hE1 hE2
  refine z_aload_n hC dX6_init_0 rfl 0 rfl ?_
  refine z_oinit hC mX6_init_1 mX6_init_2 mX6_init_3 (Nat.le_of_ble_eq_true rfl) (Nat.le_of_ble_eq_true rfl) dX6_init_1 ?_
  refine z_aload_n hC dX6_init_4 rfl 0 rfl ?_
  refine z_sipush (v := 200) hC dX6_init_5 (by decide) ?_
  refine z_newarr (1, 200) hC .byte 200 200 1 rfl mX6_init_4 rfl rfl (fun _ => rfl) (by decide) (by decide) (Nat.le_of_ble_eq_true rfl) rfl ⟨Nat.le_of_ble_eq_true rfl, Nat.le_of_ble_eq_true rfl⟩ dX6_init_8 (fun q8 => ?_)
  refine z_eq [(a_t, .inr (6, [.null, .int 0])), (q8, .inl (cB, 200, .inl (fun _ => 0)))] rfl ?_
  refine z_putF hC iX6_init_X6 tyX6_ok nmX6 rfl 0 0 rfl (by decide) mX6_init_5 rfl rfl hin9 rfl rfl rfl (Nat.le_of_ble_eq_true rfl) dX6_init_10 ?_
  refine z_eq [(a_t, .inr (6, [.ref q8, .int 0])), (q8, .inl (cB, 200, .inl (fun _ => 0)))] rfl ?_
  refine z_aload_n hC dX6_init_13 rfl 0 rfl ?_
  refine z_ic0 hC dX6_init_14 ?_
  refine z_put hC iX6_init_X6 tyX6_ok nmX6 rfl 0 1 rfl (by decide) mX6_init_6 rfl rfl rfl rfl (Nat.le_of_ble_eq_true rfl) dX6_init_15 ?_
  refine z_eq [(a_t, .inr (6, [.ref q8, .int 0])), (q8, .inl (cB, 200, .inl (fun _ => 0)))] rfl ?_
  exact z_cret hC hQ ⟨q8, rfl⟩ dX6_init_18

/-! FistTrains$Reader.<init> -/
abbrev rmX4_init : Room := { frames := 1, cells := 0, slots := 0, locals := 20 }
set_option maxRecDepth 20000 in
theorem mX4_init_1 : Cond.methodLink RX4 3 objectInit ∈ wsX4_init := List.mem_of_getElem? (i := 1) rfl
set_option maxRecDepth 20000 in
theorem mX4_init_2 : Cond.instanceMethod objectInit ∈ wsX4_init := List.mem_of_getElem? (i := 2) rfl
set_option maxRecDepth 20000 in
theorem mX4_init_3 : Cond.code objectInit ⟨#[0xb1]⟩ 1 none ∈ wsX4_init := List.mem_of_getElem? (i := 3) rfl
set_option maxRecDepth 20000 in
theorem mX4_init_4 : Cond.fieldLink RX4 9 "FistTrains$Reader" "text" "LFistTrains$Tape;" ∈ wsX4_init := List.mem_of_getElem? (i := 4) rfl
set_option maxRecDepth 20000 in
theorem iX4_init_X4 : ∀ w ∈ wsX40, w ∈ wsX4_init := by decide +kernel
set_option maxRecDepth 20000 in
theorem mX4_init_5 : Cond.fieldLink RX4 15 "FistTrains$Reader" "token" "I" ∈ wsX4_init := List.mem_of_getElem? (i := 5) rfl
set_option maxRecDepth 20000 in
theorem mX4_init_6 : Cond.fieldLink RX4 19 "FistTrains$Reader" "start" "I" ∈ wsX4_init := List.mem_of_getElem? (i := 6) rfl
set_option maxRecDepth 20000 in
theorem mX4_init_7 : Cond.fieldLink RX4 22 "FistTrains$Reader" "past" "I" ∈ wsX4_init := List.mem_of_getElem? (i := 7) rfl
set_option maxRecDepth 20000 in
theorem mX4_init_8 : Cond.fieldLink RX4 25 "FistTrains$Reader" "value" "I" ∈ wsX4_init := List.mem_of_getElem? (i := 8) rfl
set_option maxHeartbeats 4000000 in
set_option maxRecDepth 100000 in
theorem c_X4_init {sK sV : Nat → Nat} {l : Launch} {D : va_G} {cI cB cZ : ClassId} {a_t : Nat} {a_p1 : Nat} : ZMc sK sV l yX4_init wsX4_init rmX4_init D (zty cI cB cZ) [.ref a_t, .ref a_p1] [(a_t, .inr (4, [.null, .int 0, .int 0, .int 0, .int 0]))] 0 0 (fun u => u = [(a_t, .inr (4, [.ref a_p1, .int 0, .int 0, .int 0, .int 0]))]) := by
  refine zc_of (cc := cX4_init) (maxL := 2) (ret := none) (by decide) rfl (Nat.le_of_ble_eq_true rfl) rfl (fun E hE1 hE2 hC hN hin9 hQ => ?_)
  subst hE1 hE2
  refine z_aload_n hC dX4_init_0 rfl 0 rfl ?_
  refine z_oinit hC mX4_init_1 mX4_init_2 mX4_init_3 (Nat.le_of_ble_eq_true rfl) (Nat.le_of_ble_eq_true rfl) dX4_init_1 ?_
  refine z_aload_n hC dX4_init_4 rfl 0 rfl ?_
  refine z_aload_n hC dX4_init_5 rfl 1 rfl ?_
  refine z_putF hC iX4_init_X4 tyX4_ok nmX4 rfl 0 0 rfl (by decide) mX4_init_4 rfl rfl hin9 rfl rfl rfl (Nat.le_of_ble_eq_true rfl) dX4_init_6 ?_
  refine z_eq [(a_t, .inr (4, [.ref a_p1, .int 0, .int 0, .int 0, .int 0]))] rfl ?_
  refine z_aload_n hC dX4_init_9 rfl 0 rfl ?_
  refine z_ic0 hC dX4_init_10 ?_
  refine z_put hC iX4_init_X4 tyX4_ok nmX4 rfl 0 1 rfl (by decide) mX4_init_5 rfl rfl rfl rfl (Nat.le_of_ble_eq_true rfl) dX4_init_11 ?_
  refine z_eq [(a_t, .inr (4, [.ref a_p1, .int 0, .int 0, .int 0, .int 0]))] rfl ?_
  refine z_aload_n hC dX4_init_14 rfl 0 rfl ?_
  refine z_ic0 hC dX4_init_15 ?_
  refine z_put hC iX4_init_X4 tyX4_ok nmX4 rfl 0 2 rfl (by decide) mX4_init_6 rfl rfl rfl rfl (Nat.le_of_ble_eq_true rfl) dX4_init_16 ?_
  refine z_eq [(a_t, .inr (4, [.ref a_p1, .int 0, .int 0, .int 0, .int 0]))] rfl ?_
  refine z_aload_n hC dX4_init_19 rfl 0 rfl ?_
  refine z_ic0 hC dX4_init_20 ?_
  refine z_put hC iX4_init_X4 tyX4_ok nmX4 rfl 0 3 rfl (by decide) mX4_init_7 rfl rfl rfl rfl (Nat.le_of_ble_eq_true rfl) dX4_init_21 ?_
  refine z_eq [(a_t, .inr (4, [.ref a_p1, .int 0, .int 0, .int 0, .int 0]))] rfl ?_
  refine z_aload_n hC dX4_init_24 rfl 0 rfl ?_
  refine z_ic0 hC dX4_init_25 ?_
  refine z_put hC iX4_init_X4 tyX4_ok nmX4 rfl 0 4 rfl (by decide) mX4_init_8 rfl rfl rfl rfl (Nat.le_of_ble_eq_true rfl) dX4_init_26 ?_
  refine z_eq [(a_t, .inr (4, [.ref a_p1, .int 0, .int 0, .int 0, .int 0]))] rfl ?_
  exact z_cret hC hQ rfl dX4_init_29

/-! FistTrains$Course.<init> -/
abbrev rmX2_init : Room := { frames := 1, cells := 0, slots := 0, locals := 20 }
set_option maxRecDepth 20000 in
theorem mX2_init_1 : Cond.methodLink RX2 3 objectInit ∈ wsX2_init := List.mem_of_getElem? (i := 1) rfl
set_option maxRecDepth 20000 in
theorem mX2_init_2 : Cond.instanceMethod objectInit ∈ wsX2_init := List.mem_of_getElem? (i := 2) rfl
set_option maxRecDepth 20000 in
theorem mX2_init_3 : Cond.code objectInit ⟨#[0xb1]⟩ 1 none ∈ wsX2_init := List.mem_of_getElem? (i := 3) rfl
set_option maxHeartbeats 4000000 in
set_option maxRecDepth 100000 in
theorem c_X2_init {sK sV : Nat → Nat} {l : Launch} {D : va_G} {cI cB cZ : ClassId} {a_t : Nat} : ZMc sK sV l yX2_init wsX2_init rmX2_init D (zty cI cB cZ) [.ref a_t] [(a_t, .inr (2, [.int 0, .int 0, .int 0]))] 0 0 (fun u => u = [(a_t, .inr (2, [.int 0, .int 0, .int 0]))]) := by
  refine zc_of (cc := cX2_init) (maxL := 1) (ret := none) (by decide) rfl (Nat.le_of_ble_eq_true rfl) rfl (fun E hE1 hE2 hC hN hin9 hQ => ?_)
  subst hE1 hE2
  refine z_aload_n hC dX2_init_0 rfl 0 rfl ?_
  refine z_oinit hC mX2_init_1 mX2_init_2 mX2_init_3 (Nat.le_of_ble_eq_true rfl) (Nat.le_of_ble_eq_true rfl) dX2_init_1 ?_
  exact z_cret hC hQ rfl dX2_init_4

/-! FistTrains$Hall.<init> -/
abbrev rmX3_init : Room := { frames := 2, cells := 4, slots := 27, locals := 40 }
set_option maxRecDepth 20000 in
theorem mX3_init_1 : Cond.methodLink RX3 3 objectInit ∈ wsX3_init := List.mem_of_getElem? (i := 1) rfl
set_option maxRecDepth 20000 in
theorem mX3_init_2 : Cond.instanceMethod objectInit ∈ wsX3_init := List.mem_of_getElem? (i := 2) rfl
set_option maxRecDepth 20000 in
theorem mX3_init_3 : Cond.code objectInit ⟨#[0xb1]⟩ 1 none ∈ wsX3_init := List.mem_of_getElem? (i := 3) rfl
set_option maxRecDepth 20000 in
theorem mX3_init_4 : Cond.fieldLink RX3 9 "FistTrains$Hall" "players" "I" ∈ wsX3_init := List.mem_of_getElem? (i := 4) rfl
set_option maxRecDepth 20000 in
theorem iX3_init_X3 : ∀ w ∈ wsX30, w ∈ wsX3_init := by decide +kernel
set_option maxRecDepth 20000 in
theorem mX3_init_5 : Cond.fieldLink RX3 15 "FistTrains$Hall" "round" "I" ∈ wsX3_init := List.mem_of_getElem? (i := 5) rfl
set_option maxRecDepth 20000 in
theorem mX3_init_6 : Cond.fieldLink RX3 18 "FistTrains$Hall" "time" "I" ∈ wsX3_init := List.mem_of_getElem? (i := 6) rfl
set_option maxRecDepth 20000 in
theorem mX3_init_7 : Cond.arrayClass .int ∈ wsX3_init := List.mem_of_getElem? (i := 7) rfl
set_option maxRecDepth 20000 in
theorem mX3_init_8 : Cond.fieldLink RX3 21 "FistTrains$Hall" "kind" "[I" ∈ wsX3_init := List.mem_of_getElem? (i := 8) rfl
set_option maxRecDepth 20000 in
theorem mX3_init_9 : Cond.fieldLink RX3 25 "FistTrains$Hall" "hand" "[I" ∈ wsX3_init := List.mem_of_getElem? (i := 9) rfl
set_option maxRecDepth 20000 in
theorem mX3_init_10 : Cond.fieldLink RX3 28 "FistTrains$Hall" "leader" "[I" ∈ wsX3_init := List.mem_of_getElem? (i := 10) rfl
set_option maxRecDepth 20000 in
theorem iX3_init_X2 : ∀ w ∈ wsX20, w ∈ wsX3_init := by decide +kernel
set_option maxRecDepth 20000 in
theorem mX3_init_11 : Cond.classLink RX3 31 RX2 ∈ wsX3_init := List.mem_of_getElem? (i := 11) rfl
set_option maxRecDepth 20000 in
theorem mX3_init_12 : Cond.instantiable RX2 3 ∈ wsX3_init := List.mem_of_getElem? (i := 12) rfl
set_option maxRecDepth 20000 in
theorem mX3_init_13 : Cond.initialized RX2 ∈ wsX3_init := List.mem_of_getElem? (i := 13) rfl
set_option maxRecDepth 20000 in
theorem mX3_init_15 : Cond.instanceMethod yX2_init ∈ wsX3_init := List.mem_of_getElem? (i := 15) rfl
set_option maxRecDepth 20000 in
theorem mX3_init_14 : Cond.fieldLink RX3 34 "FistTrains$Hall" "course" "LFistTrains$Course;" ∈ wsX3_init := List.mem_of_getElem? (i := 14) rfl
set_option maxHeartbeats 4000000 in
set_option maxRecDepth 100000 in
theorem c_X3_init {sK sV : Nat → Nat} {l : Launch} {D : va_G} {cI cB cZ : ClassId} {a_t : Nat} : ZMc sK sV l yX3_init wsX3_init rmX3_init D (zty cI cB cZ) [.ref a_t] [(a_t, .inr (3, [.int 0, .int 0, .int 0, .null, .null, .null, .null]))] 4 27 (fun u => ∃ q22 q30 q38 q44 : Nat, u = [(a_t, .inr (3, [.int 0, .int 0, .int 0, .ref q22, .ref q30, .ref q38, .ref q44])), (q22, .inl (cI, 8, .inl (fun _ => 0))), (q30, .inl (cI, 8, .inl (fun _ => 0))), (q38, .inl (cI, 8, .inl (fun _ => 0))), (q44, .inr (2, [.int 0, .int 0, .int 0]))]) := by
  refine zc_of (cc := cX3_init) (maxL := 1) (ret := none) (by decide) rfl (Nat.le_of_ble_eq_true rfl) rfl (fun E hE1 hE2 hC hN hin9 hQ => ?_)
  subst hE1 hE2
  refine z_aload_n hC dX3_init_0 rfl 0 rfl ?_
  refine z_oinit hC mX3_init_1 mX3_init_2 mX3_init_3 (Nat.le_of_ble_eq_true rfl) (Nat.le_of_ble_eq_true rfl) dX3_init_1 ?_
  refine z_aload_n hC dX3_init_4 rfl 0 rfl ?_
  refine z_ic0 hC dX3_init_5 ?_
  refine z_put hC iX3_init_X3 tyX3_ok nmX3 rfl 0 0 rfl (by decide) mX3_init_4 rfl rfl rfl rfl (Nat.le_of_ble_eq_true rfl) dX3_init_6 ?_
  refine z_eq [(a_t, .inr (3, [.int 0, .int 0, .int 0, .null, .null, .null, .null]))] rfl ?_
  refine z_aload_n hC dX3_init_9 rfl 0 rfl ?_
  refine z_ic0 hC dX3_init_10 ?_
  refine z_put hC iX3_init_X3 tyX3_ok nmX3 rfl 0 1 rfl (by decide) mX3_init_5 rfl rfl rfl rfl (Nat.le_of_ble_eq_true rfl) dX3_init_11 ?_
  refine z_eq [(a_t, .inr (3, [.int 0, .int 0, .int 0, .null, .null, .null, .null]))] rfl ?_
  refine z_aload_n hC dX3_init_14 rfl 0 rfl ?_
  refine z_ic0 hC dX3_init_15 ?_
  refine z_put hC iX3_init_X3 tyX3_ok nmX3 rfl 0 2 rfl (by decide) mX3_init_6 rfl rfl rfl rfl (Nat.le_of_ble_eq_true rfl) dX3_init_16 ?_
  refine z_eq [(a_t, .inr (3, [.int 0, .int 0, .int 0, .null, .null, .null, .null]))] rfl ?_
  refine z_aload_n hC dX3_init_19 rfl 0 rfl ?_
  refine z_bipush (v := 8) hC dX3_init_20 (by decide) ?_
  refine z_newarr (1, 8) hC .int 8 8 0 rfl mX3_init_7 rfl rfl (fun _ => rfl) (by decide) (by decide) (Nat.le_of_ble_eq_true rfl) rfl ⟨Nat.le_of_ble_eq_true rfl, Nat.le_of_ble_eq_true rfl⟩ dX3_init_22 (fun q22 => ?_)
  refine z_eq [(a_t, .inr (3, [.int 0, .int 0, .int 0, .null, .null, .null, .null])), (q22, .inl (cI, 8, .inl (fun _ => 0)))] rfl ?_
  refine z_putF hC iX3_init_X3 tyX3_ok nmX3 rfl 0 3 rfl (by decide) mX3_init_8 rfl rfl hin9 rfl rfl rfl (Nat.le_of_ble_eq_true rfl) dX3_init_24 ?_
  refine z_eq [(a_t, .inr (3, [.int 0, .int 0, .int 0, .ref q22, .null, .null, .null])), (q22, .inl (cI, 8, .inl (fun _ => 0)))] rfl ?_
  refine z_aload_n hC dX3_init_27 rfl 0 rfl ?_
  refine z_bipush (v := 8) hC dX3_init_28 (by decide) ?_
  refine z_newarr (2, 16) hC .int 8 8 0 rfl mX3_init_7 rfl rfl (fun _ => rfl) (by decide) (by decide) (Nat.le_of_ble_eq_true rfl) rfl ⟨Nat.le_of_ble_eq_true rfl, Nat.le_of_ble_eq_true rfl⟩ dX3_init_30 (fun q30 => ?_)
  refine z_eq [(a_t, .inr (3, [.int 0, .int 0, .int 0, .ref q22, .null, .null, .null])), (q22, .inl (cI, 8, .inl (fun _ => 0))), (q30, .inl (cI, 8, .inl (fun _ => 0)))] rfl ?_
  refine z_putF hC iX3_init_X3 tyX3_ok nmX3 rfl 0 4 rfl (by decide) mX3_init_9 rfl rfl hin9 rfl rfl rfl (Nat.le_of_ble_eq_true rfl) dX3_init_32 ?_
  refine z_eq [(a_t, .inr (3, [.int 0, .int 0, .int 0, .ref q22, .ref q30, .null, .null])), (q22, .inl (cI, 8, .inl (fun _ => 0))), (q30, .inl (cI, 8, .inl (fun _ => 0)))] rfl ?_
  refine z_aload_n hC dX3_init_35 rfl 0 rfl ?_
  refine z_bipush (v := 8) hC dX3_init_36 (by decide) ?_
  refine z_newarr (3, 24) hC .int 8 8 0 rfl mX3_init_7 rfl rfl (fun _ => rfl) (by decide) (by decide) (Nat.le_of_ble_eq_true rfl) rfl ⟨Nat.le_of_ble_eq_true rfl, Nat.le_of_ble_eq_true rfl⟩ dX3_init_38 (fun q38 => ?_)
  refine z_eq [(a_t, .inr (3, [.int 0, .int 0, .int 0, .ref q22, .ref q30, .null, .null])), (q22, .inl (cI, 8, .inl (fun _ => 0))), (q30, .inl (cI, 8, .inl (fun _ => 0))), (q38, .inl (cI, 8, .inl (fun _ => 0)))] rfl ?_
  refine z_putF hC iX3_init_X3 tyX3_ok nmX3 rfl 0 5 rfl (by decide) mX3_init_10 rfl rfl hin9 rfl rfl rfl (Nat.le_of_ble_eq_true rfl) dX3_init_40 ?_
  refine z_eq [(a_t, .inr (3, [.int 0, .int 0, .int 0, .ref q22, .ref q30, .ref q38, .null])), (q22, .inl (cI, 8, .inl (fun _ => 0))), (q30, .inl (cI, 8, .inl (fun _ => 0))), (q38, .inl (cI, 8, .inl (fun _ => 0)))] rfl ?_
  refine z_aload_n hC dX3_init_43 rfl 0 rfl ?_
  refine z_new (4, 27) hC iX3_init_X2 tyX2_ok mX3_init_11 mX3_init_12 mX3_init_13 (ci := 2) rfl [.int 0, .int 0, .int 0] (fun j hj => by rcases (show j = 0 ∨ j = 1 ∨ j = 2 by omega) with rfl | rfl | rfl <;> rfl) rfl ⟨Nat.le_of_ble_eq_true rfl, Nat.le_of_ble_eq_true rfl⟩ dX3_init_44 (fun q44 => ?_)
  refine z_eq [(a_t, .inr (3, [.int 0, .int 0, .int 0, .ref q22, .ref q30, .ref q38, .null])), (q22, .inl (cI, 8, .inl (fun _ => 0))), (q30, .inl (cI, 8, .inl (fun _ => 0))), (q38, .inl (cI, 8, .inl (fun _ => 0))), (q44, .inr (2, [.int 0, .int 0, .int 0]))] rfl ?_
  refine z_dup hC dX3_init_47 rfl ?_
  refine z_callIN (4, 27) hC hN [] [4] (c_X2_init (sK := sK) (sV := sV) (l := zl E) (D := zD E) (cI := cI) (cB := cB) (cZ := cZ) (a_t := q44)) rfl ⟨rfl, rfl⟩ gX3_init_X2_init_n33 (List.mem_of_getElem? (i := 0) rfl) mX3_init_13 mX3_init_15 rfl hsX2_init ⟨Nat.le_of_ble_eq_true rfl, Nat.le_of_ble_eq_true rfl⟩ rfl ⟨Nat.le_of_ble_eq_true rfl, Nat.le_of_ble_eq_true rfl⟩ rfl (Nat.le_of_ble_eq_true rfl) rfl (by decide) dX3_init_48 (fun u hu => ?_)
  subst hu
  refine ⟨[(q44, .inr (2, [.int 0, .int 0, .int 0]))], [], rfl, rfl, ?_⟩
  refine z_eq [(a_t, .inr (3, [.int 0, .int 0, .int 0, .ref q22, .ref q30, .ref q38, .null])), (q22, .inl (cI, 8, .inl (fun _ => 0))), (q30, .inl (cI, 8, .inl (fun _ => 0))), (q38, .inl (cI, 8, .inl (fun _ => 0))), (q44, .inr (2, [.int 0, .int 0, .int 0]))] rfl ?_
  refine z_putF hC iX3_init_X3 tyX3_ok nmX3 rfl 0 6 rfl (by decide) mX3_init_14 rfl rfl hin9 rfl rfl rfl (Nat.le_of_ble_eq_true rfl) dX3_init_51 ?_
  refine z_eq [(a_t, .inr (3, [.int 0, .int 0, .int 0, .ref q22, .ref q30, .ref q38, .ref q44])), (q22, .inl (cI, 8, .inl (fun _ => 0))), (q30, .inl (cI, 8, .inl (fun _ => 0))), (q38, .inl (cI, 8, .inl (fun _ => 0))), (q44, .inr (2, [.int 0, .int 0, .int 0]))] rfl ?_
  exact z_cret hC hQ ⟨q22, q30, q38, q44, rfl⟩ dX3_init_54

/-! FistTrains$Acts.<init> -/
abbrev rmX0_init : Room := { frames := 1, cells := 1, slots := 648, locals := 20 }
set_option maxRecDepth 20000 in
theorem mX0_init_1 : Cond.methodLink RX0 1 objectInit ∈ wsX0_init := List.mem_of_getElem? (i := 1) rfl
set_option maxRecDepth 20000 in
theorem mX0_init_2 : Cond.instanceMethod objectInit ∈ wsX0_init := List.mem_of_getElem? (i := 2) rfl
set_option maxRecDepth 20000 in
theorem mX0_init_3 : Cond.code objectInit ⟨#[0xb1]⟩ 1 none ∈ wsX0_init := List.mem_of_getElem? (i := 3) rfl
set_option maxRecDepth 20000 in
theorem mX0_init_4 : Cond.arrayClass .int ∈ wsX0_init := List.mem_of_getElem? (i := 4) rfl
set_option maxRecDepth 20000 in
theorem mX0_init_5 : Cond.fieldLink RX0 11 "FistTrains$Acts" "halls" "[I" ∈ wsX0_init := List.mem_of_getElem? (i := 5) rfl
set_option maxRecDepth 20000 in
theorem iX0_init_X0 : ∀ w ∈ wsX00, w ∈ wsX0_init := by decide +kernel
set_option maxRecDepth 20000 in
theorem mX0_init_6 : Cond.fieldLink RX0 15 "FistTrains$Acts" "kept" "I" ∈ wsX0_init := List.mem_of_getElem? (i := 6) rfl
set_option maxRecDepth 20000 in
theorem mX0_init_7 : Cond.fieldLink RX0 19 "FistTrains$Acts" "next" "I" ∈ wsX0_init := List.mem_of_getElem? (i := 7) rfl
set_option maxHeartbeats 4000000 in
set_option maxRecDepth 100000 in
theorem c_X0_init {sK sV : Nat → Nat} {l : Launch} {D : va_G} {cI cB cZ : ClassId} {a_t : Nat} : ZMc sK sV l yX0_init wsX0_init rmX0_init D (zty cI cB cZ) [.ref a_t] [(a_t, .inr (0, [.null, .int 0, .int 0]))] 1 648 (fun u => ∃ q8 : Nat, u = [(a_t, .inr (0, [.ref q8, .int 0, .int 0])), (q8, .inl (cI, 648, .inl (fun _ => 0)))]) := by
  refine zc_of (cc := cX0_init) (maxL := 1) (ret := none) (by decide) rfl (Nat.le_of_ble_eq_true rfl) rfl (fun E hE1 hE2 hC hN hin9 hQ => ?_)
  subst hE1 hE2
  refine z_aload_n hC dX0_init_0 rfl 0 rfl ?_
  refine z_oinit hC mX0_init_1 mX0_init_2 mX0_init_3 (Nat.le_of_ble_eq_true rfl) (Nat.le_of_ble_eq_true rfl) dX0_init_1 ?_
  refine z_aload_n hC dX0_init_4 rfl 0 rfl ?_
  refine z_sipush (v := 648) hC dX0_init_5 (by decide) ?_
  refine z_newarr (1, 648) hC .int 648 648 0 rfl mX0_init_4 rfl rfl (fun _ => rfl) (by decide) (by decide) (Nat.le_of_ble_eq_true rfl) rfl ⟨Nat.le_of_ble_eq_true rfl, Nat.le_of_ble_eq_true rfl⟩ dX0_init_8 (fun q8 => ?_)
  refine z_eq [(a_t, .inr (0, [.null, .int 0, .int 0])), (q8, .inl (cI, 648, .inl (fun _ => 0)))] rfl ?_
  refine z_putF hC iX0_init_X0 tyX0_ok nmX0 rfl 0 0 rfl (by decide) mX0_init_5 rfl rfl hin9 rfl rfl rfl (Nat.le_of_ble_eq_true rfl) dX0_init_10 ?_
  refine z_eq [(a_t, .inr (0, [.ref q8, .int 0, .int 0])), (q8, .inl (cI, 648, .inl (fun _ => 0)))] rfl ?_
  refine z_aload_n hC dX0_init_13 rfl 0 rfl ?_
  refine z_ic0 hC dX0_init_14 ?_
  refine z_put hC iX0_init_X0 tyX0_ok nmX0 rfl 0 1 rfl (by decide) mX0_init_6 rfl rfl rfl rfl (Nat.le_of_ble_eq_true rfl) dX0_init_15 ?_
  refine z_eq [(a_t, .inr (0, [.ref q8, .int 0, .int 0])), (q8, .inl (cI, 648, .inl (fun _ => 0)))] rfl ?_
  refine z_aload_n hC dX0_init_18 rfl 0 rfl ?_
  refine z_ic0 hC dX0_init_19 ?_
  refine z_put hC iX0_init_X0 tyX0_ok nmX0 rfl 0 2 rfl (by decide) mX0_init_7 rfl rfl rfl rfl (Nat.le_of_ble_eq_true rfl) dX0_init_20 ?_
  refine z_eq [(a_t, .inr (0, [.ref q8, .int 0, .int 0])), (q8, .inl (cI, 648, .inl (fun _ => 0)))] rfl ?_
  exact z_cret hC hQ ⟨q8, rfl⟩ dX0_init_23

/-! FistTrains$Ways.<init> -/
abbrev rmX7_init : Room := { frames := 2, cells := 5, slots := 67, locals := 40 }
set_option maxRecDepth 20000 in
theorem mX7_init_1 : Cond.methodLink RX7 3 objectInit ∈ wsX7_init := List.mem_of_getElem? (i := 1) rfl
set_option maxRecDepth 20000 in
theorem mX7_init_2 : Cond.instanceMethod objectInit ∈ wsX7_init := List.mem_of_getElem? (i := 2) rfl
set_option maxRecDepth 20000 in
theorem mX7_init_3 : Cond.code objectInit ⟨#[0xb1]⟩ 1 none ∈ wsX7_init := List.mem_of_getElem? (i := 3) rfl
set_option maxRecDepth 20000 in
theorem mX7_init_4 : Cond.arrayClass .int ∈ wsX7_init := List.mem_of_getElem? (i := 4) rfl
set_option maxRecDepth 20000 in
theorem mX7_init_5 : Cond.fieldLink RX7 9 "FistTrains$Ways" "group" "[I" ∈ wsX7_init := List.mem_of_getElem? (i := 5) rfl
set_option maxRecDepth 20000 in
theorem iX7_init_X7 : ∀ w ∈ wsX70, w ∈ wsX7_init := by decide +kernel
set_option maxRecDepth 20000 in
theorem mX7_init_6 : Cond.fieldLink RX7 15 "FistTrains$Ways" "train" "[I" ∈ wsX7_init := List.mem_of_getElem? (i := 6) rfl
set_option maxRecDepth 20000 in
theorem mX7_init_7 : Cond.fieldLink RX7 18 "FistTrains$Ways" "groups" "I" ∈ wsX7_init := List.mem_of_getElem? (i := 7) rfl
set_option maxRecDepth 20000 in
theorem mX7_init_8 : Cond.fieldLink RX7 22 "FistTrains$Ways" "best" "[I" ∈ wsX7_init := List.mem_of_getElem? (i := 8) rfl
set_option maxRecDepth 20000 in
theorem mX7_init_9 : Cond.fieldLink RX7 25 "FistTrains$Ways" "better" "[I" ∈ wsX7_init := List.mem_of_getElem? (i := 9) rfl
set_option maxRecDepth 20000 in
theorem iX7_init_X2 : ∀ w ∈ wsX20, w ∈ wsX7_init := by decide +kernel
set_option maxRecDepth 20000 in
theorem mX7_init_10 : Cond.classLink RX7 28 RX2 ∈ wsX7_init := List.mem_of_getElem? (i := 10) rfl
set_option maxRecDepth 20000 in
theorem mX7_init_11 : Cond.instantiable RX2 3 ∈ wsX7_init := List.mem_of_getElem? (i := 11) rfl
set_option maxRecDepth 20000 in
theorem mX7_init_12 : Cond.initialized RX2 ∈ wsX7_init := List.mem_of_getElem? (i := 12) rfl
set_option maxRecDepth 20000 in
theorem mX7_init_14 : Cond.instanceMethod yX2_init ∈ wsX7_init := List.mem_of_getElem? (i := 14) rfl
set_option maxRecDepth 20000 in
theorem mX7_init_13 : Cond.fieldLink RX7 31 "FistTrains$Ways" "course" "LFistTrains$Course;" ∈ wsX7_init := List.mem_of_getElem? (i := 13) rfl
set_option maxHeartbeats 4000000 in
set_option maxRecDepth 100000 in
theorem c_X7_init {sK sV : Nat → Nat} {l : Launch} {D : va_G} {cI cB cZ : ClassId} {a_t : Nat} : ZMc sK sV l yX7_init wsX7_init rmX7_init D (zty cI cB cZ) [.ref a_t] [(a_t, .inr (7, [.null, .null, .int 0, .null, .null, .null]))] 5 67 (fun u => ∃ q7 q15 q28 q36 q42 : Nat, u = [(a_t, .inr (7, [.ref q7, .ref q15, .int 0, .ref q28, .ref q36, .ref q42])), (q7, .inl (cI, 8, .inl (fun _ => 0))), (q15, .inl (cI, 8, .inl (fun _ => 0))), (q28, .inl (cI, 24, .inl (fun _ => 0))), (q36, .inl (cI, 24, .inl (fun _ => 0))), (q42, .inr (2, [.int 0, .int 0, .int 0]))]) := by
  refine zc_of (cc := cX7_init) (maxL := 1) (ret := none) (by decide) rfl (Nat.le_of_ble_eq_true rfl) rfl (fun E hE1 hE2 hC hN hin9 hQ => ?_)
  subst hE1 hE2
  refine z_aload_n hC dX7_init_0 rfl 0 rfl ?_
  refine z_oinit hC mX7_init_1 mX7_init_2 mX7_init_3 (Nat.le_of_ble_eq_true rfl) (Nat.le_of_ble_eq_true rfl) dX7_init_1 ?_
  refine z_aload_n hC dX7_init_4 rfl 0 rfl ?_
  refine z_bipush (v := 8) hC dX7_init_5 (by decide) ?_
  refine z_newarr (1, 8) hC .int 8 8 0 rfl mX7_init_4 rfl rfl (fun _ => rfl) (by decide) (by decide) (Nat.le_of_ble_eq_true rfl) rfl ⟨Nat.le_of_ble_eq_true rfl, Nat.le_of_ble_eq_true rfl⟩ dX7_init_7 (fun q7 => ?_)
  refine z_eq [(a_t, .inr (7, [.null, .null, .int 0, .null, .null, .null])), (q7, .inl (cI, 8, .inl (fun _ => 0)))] rfl ?_
  refine z_putF hC iX7_init_X7 tyX7_ok nmX7 rfl 0 0 rfl (by decide) mX7_init_5 rfl rfl hin9 rfl rfl rfl (Nat.le_of_ble_eq_true rfl) dX7_init_9 ?_
  refine z_eq [(a_t, .inr (7, [.ref q7, .null, .int 0, .null, .null, .null])), (q7, .inl (cI, 8, .inl (fun _ => 0)))] rfl ?_
  refine z_aload_n hC dX7_init_12 rfl 0 rfl ?_
  refine z_bipush (v := 8) hC dX7_init_13 (by decide) ?_
  refine z_newarr (2, 16) hC .int 8 8 0 rfl mX7_init_4 rfl rfl (fun _ => rfl) (by decide) (by decide) (Nat.le_of_ble_eq_true rfl) rfl ⟨Nat.le_of_ble_eq_true rfl, Nat.le_of_ble_eq_true rfl⟩ dX7_init_15 (fun q15 => ?_)
  refine z_eq [(a_t, .inr (7, [.ref q7, .null, .int 0, .null, .null, .null])), (q7, .inl (cI, 8, .inl (fun _ => 0))), (q15, .inl (cI, 8, .inl (fun _ => 0)))] rfl ?_
  refine z_putF hC iX7_init_X7 tyX7_ok nmX7 rfl 0 1 rfl (by decide) mX7_init_6 rfl rfl hin9 rfl rfl rfl (Nat.le_of_ble_eq_true rfl) dX7_init_17 ?_
  refine z_eq [(a_t, .inr (7, [.ref q7, .ref q15, .int 0, .null, .null, .null])), (q7, .inl (cI, 8, .inl (fun _ => 0))), (q15, .inl (cI, 8, .inl (fun _ => 0)))] rfl ?_
  refine z_aload_n hC dX7_init_20 rfl 0 rfl ?_
  refine z_ic0 hC dX7_init_21 ?_
  refine z_put hC iX7_init_X7 tyX7_ok nmX7 rfl 0 2 rfl (by decide) mX7_init_7 rfl rfl rfl rfl (Nat.le_of_ble_eq_true rfl) dX7_init_22 ?_
  refine z_eq [(a_t, .inr (7, [.ref q7, .ref q15, .int 0, .null, .null, .null])), (q7, .inl (cI, 8, .inl (fun _ => 0))), (q15, .inl (cI, 8, .inl (fun _ => 0)))] rfl ?_
  refine z_aload_n hC dX7_init_25 rfl 0 rfl ?_
  refine z_bipush (v := 24) hC dX7_init_26 (by decide) ?_
  refine z_newarr (3, 40) hC .int 24 24 0 rfl mX7_init_4 rfl rfl (fun _ => rfl) (by decide) (by decide) (Nat.le_of_ble_eq_true rfl) rfl ⟨Nat.le_of_ble_eq_true rfl, Nat.le_of_ble_eq_true rfl⟩ dX7_init_28 (fun q28 => ?_)
  refine z_eq [(a_t, .inr (7, [.ref q7, .ref q15, .int 0, .null, .null, .null])), (q7, .inl (cI, 8, .inl (fun _ => 0))), (q15, .inl (cI, 8, .inl (fun _ => 0))), (q28, .inl (cI, 24, .inl (fun _ => 0)))] rfl ?_
  refine z_put hC iX7_init_X7 tyX7_ok nmX7 rfl 0 3 rfl (by decide) mX7_init_8 rfl rfl rfl rfl (Nat.le_of_ble_eq_true rfl) dX7_init_30 ?_
  refine z_eq [(a_t, .inr (7, [.ref q7, .ref q15, .int 0, .ref q28, .null, .null])), (q7, .inl (cI, 8, .inl (fun _ => 0))), (q15, .inl (cI, 8, .inl (fun _ => 0))), (q28, .inl (cI, 24, .inl (fun _ => 0)))] rfl ?_
  refine z_aload_n hC dX7_init_33 rfl 0 rfl ?_
  refine z_bipush (v := 24) hC dX7_init_34 (by decide) ?_
  refine z_newarr (4, 64) hC .int 24 24 0 rfl mX7_init_4 rfl rfl (fun _ => rfl) (by decide) (by decide) (Nat.le_of_ble_eq_true rfl) rfl ⟨Nat.le_of_ble_eq_true rfl, Nat.le_of_ble_eq_true rfl⟩ dX7_init_36 (fun q36 => ?_)
  refine z_eq [(a_t, .inr (7, [.ref q7, .ref q15, .int 0, .ref q28, .null, .null])), (q7, .inl (cI, 8, .inl (fun _ => 0))), (q15, .inl (cI, 8, .inl (fun _ => 0))), (q28, .inl (cI, 24, .inl (fun _ => 0))), (q36, .inl (cI, 24, .inl (fun _ => 0)))] rfl ?_
  refine z_put hC iX7_init_X7 tyX7_ok nmX7 rfl 0 4 rfl (by decide) mX7_init_9 rfl rfl rfl rfl (Nat.le_of_ble_eq_true rfl) dX7_init_38 ?_
  refine z_eq [(a_t, .inr (7, [.ref q7, .ref q15, .int 0, .ref q28, .ref q36, .null])), (q7, .inl (cI, 8, .inl (fun _ => 0))), (q15, .inl (cI, 8, .inl (fun _ => 0))), (q28, .inl (cI, 24, .inl (fun _ => 0))), (q36, .inl (cI, 24, .inl (fun _ => 0)))] rfl ?_
  refine z_aload_n hC dX7_init_41 rfl 0 rfl ?_
  refine z_new (5, 67) hC iX7_init_X2 tyX2_ok mX7_init_10 mX7_init_11 mX7_init_12 (ci := 2) rfl [.int 0, .int 0, .int 0] (fun j hj => by rcases (show j = 0 ∨ j = 1 ∨ j = 2 by omega) with rfl | rfl | rfl <;> rfl) rfl ⟨Nat.le_of_ble_eq_true rfl, Nat.le_of_ble_eq_true rfl⟩ dX7_init_42 (fun q42 => ?_)
  refine z_eq [(a_t, .inr (7, [.ref q7, .ref q15, .int 0, .ref q28, .ref q36, .null])), (q7, .inl (cI, 8, .inl (fun _ => 0))), (q15, .inl (cI, 8, .inl (fun _ => 0))), (q28, .inl (cI, 24, .inl (fun _ => 0))), (q36, .inl (cI, 24, .inl (fun _ => 0))), (q42, .inr (2, [.int 0, .int 0, .int 0]))] rfl ?_
  refine z_dup hC dX7_init_45 rfl ?_
  refine z_callIN (5, 67) hC hN [] [5] (c_X2_init (sK := sK) (sV := sV) (l := zl E) (D := zD E) (cI := cI) (cB := cB) (cZ := cZ) (a_t := q42)) rfl ⟨rfl, rfl⟩ gX7_init_X2_init_n30 (List.mem_of_getElem? (i := 1) rfl) mX7_init_12 mX7_init_14 rfl hsX2_init ⟨Nat.le_of_ble_eq_true rfl, Nat.le_of_ble_eq_true rfl⟩ rfl ⟨Nat.le_of_ble_eq_true rfl, Nat.le_of_ble_eq_true rfl⟩ rfl (Nat.le_of_ble_eq_true rfl) rfl (by decide) dX7_init_46 (fun u hu => ?_)
  subst hu
  refine ⟨[(q42, .inr (2, [.int 0, .int 0, .int 0]))], [], rfl, rfl, ?_⟩
  refine z_eq [(a_t, .inr (7, [.ref q7, .ref q15, .int 0, .ref q28, .ref q36, .null])), (q7, .inl (cI, 8, .inl (fun _ => 0))), (q15, .inl (cI, 8, .inl (fun _ => 0))), (q28, .inl (cI, 24, .inl (fun _ => 0))), (q36, .inl (cI, 24, .inl (fun _ => 0))), (q42, .inr (2, [.int 0, .int 0, .int 0]))] rfl ?_
  refine z_putF hC iX7_init_X7 tyX7_ok nmX7 rfl 0 5 rfl (by decide) mX7_init_13 rfl rfl hin9 rfl rfl rfl (Nat.le_of_ble_eq_true rfl) dX7_init_49 ?_
  refine z_eq [(a_t, .inr (7, [.ref q7, .ref q15, .int 0, .ref q28, .ref q36, .ref q42])), (q7, .inl (cI, 8, .inl (fun _ => 0))), (q15, .inl (cI, 8, .inl (fun _ => 0))), (q28, .inl (cI, 24, .inl (fun _ => 0))), (q36, .inl (cI, 24, .inl (fun _ => 0))), (q42, .inr (2, [.int 0, .int 0, .int 0]))] rfl ?_
  exact z_cret hC hQ ⟨q7, q15, q28, q36, q42, rfl⟩ dX7_init_52

/-! FistTrains$Asks.<init> -/
abbrev rmX1_init : Room := { frames := 1, cells := 1, slots := 16, locals := 20 }
set_option maxRecDepth 20000 in
theorem mX1_init_1 : Cond.methodLink RX1 3 objectInit ∈ wsX1_init := List.mem_of_getElem? (i := 1) rfl
set_option maxRecDepth 20000 in
theorem mX1_init_2 : Cond.instanceMethod objectInit ∈ wsX1_init := List.mem_of_getElem? (i := 2) rfl
set_option maxRecDepth 20000 in
theorem mX1_init_3 : Cond.code objectInit ⟨#[0xb1]⟩ 1 none ∈ wsX1_init := List.mem_of_getElem? (i := 3) rfl
set_option maxRecDepth 20000 in
theorem mX1_init_4 : Cond.arrayClass .int ∈ wsX1_init := List.mem_of_getElem? (i := 4) rfl
set_option maxRecDepth 20000 in
theorem mX1_init_5 : Cond.fieldLink RX1 11 "FistTrains$Asks" "numbers" "[I" ∈ wsX1_init := List.mem_of_getElem? (i := 5) rfl
set_option maxRecDepth 20000 in
theorem iX1_init_X1 : ∀ w ∈ wsX10, w ∈ wsX1_init := by decide +kernel
set_option maxRecDepth 20000 in
theorem mX1_init_6 : Cond.fieldLink RX1 15 "FistTrains$Asks" "length" "I" ∈ wsX1_init := List.mem_of_getElem? (i := 6) rfl
set_option maxHeartbeats 4000000 in
set_option maxRecDepth 100000 in
theorem c_X1_init {sK sV : Nat → Nat} {l : Launch} {D : va_G} {cI cB cZ : ClassId} {a_t : Nat} : ZMc sK sV l yX1_init wsX1_init rmX1_init D (zty cI cB cZ) [.ref a_t] [(a_t, .inr (1, [.null, .int 0]))] 1 16 (fun u => ∃ q7 : Nat, u = [(a_t, .inr (1, [.ref q7, .int 0])), (q7, .inl (cI, 16, .inl (fun _ => 0)))]) := by
  refine zc_of (cc := cX1_init) (maxL := 1) (ret := none) (by decide) rfl (Nat.le_of_ble_eq_true rfl) rfl (fun E hE1 hE2 hC hN hin9 hQ => ?_)
  subst hE1 hE2
  refine z_aload_n hC dX1_init_0 rfl 0 rfl ?_
  refine z_oinit hC mX1_init_1 mX1_init_2 mX1_init_3 (Nat.le_of_ble_eq_true rfl) (Nat.le_of_ble_eq_true rfl) dX1_init_1 ?_
  refine z_aload_n hC dX1_init_4 rfl 0 rfl ?_
  refine z_bipush (v := 16) hC dX1_init_5 (by decide) ?_
  refine z_newarr (1, 16) hC .int 16 16 0 rfl mX1_init_4 rfl rfl (fun _ => rfl) (by decide) (by decide) (Nat.le_of_ble_eq_true rfl) rfl ⟨Nat.le_of_ble_eq_true rfl, Nat.le_of_ble_eq_true rfl⟩ dX1_init_7 (fun q7 => ?_)
  refine z_eq [(a_t, .inr (1, [.null, .int 0])), (q7, .inl (cI, 16, .inl (fun _ => 0)))] rfl ?_
  refine z_putF hC iX1_init_X1 tyX1_ok nmX1 rfl 0 0 rfl (by decide) mX1_init_5 rfl rfl hin9 rfl rfl rfl (Nat.le_of_ble_eq_true rfl) dX1_init_9 ?_
  refine z_eq [(a_t, .inr (1, [.ref q7, .int 0])), (q7, .inl (cI, 16, .inl (fun _ => 0)))] rfl ?_
  refine z_aload_n hC dX1_init_12 rfl 0 rfl ?_
  refine z_ic0 hC dX1_init_13 ?_
  refine z_put hC iX1_init_X1 tyX1_ok nmX1 rfl 0 1 rfl (by decide) mX1_init_6 rfl rfl rfl rfl (Nat.le_of_ble_eq_true rfl) dX1_init_14 ?_
  refine z_eq [(a_t, .inr (1, [.ref q7, .int 0])), (q7, .inl (cI, 16, .inl (fun _ => 0)))] rfl ?_
  exact z_cret hC hQ ⟨q7, rfl⟩ dX1_init_17

/-! FistTrains.<init> -/
abbrev rmX8_init : Room := { frames := 3, cells := 29, slots := 1412, locals := 60 }
set_option maxRecDepth 20000 in
theorem mX8_init_1 : Cond.methodLink RX8 1 objectInit ∈ wsX8_init := List.mem_of_getElem? (i := 1) rfl
set_option maxRecDepth 20000 in
theorem mX8_init_2 : Cond.instanceMethod objectInit ∈ wsX8_init := List.mem_of_getElem? (i := 2) rfl
set_option maxRecDepth 20000 in
theorem mX8_init_3 : Cond.code objectInit ⟨#[0xb1]⟩ 1 none ∈ wsX8_init := List.mem_of_getElem? (i := 3) rfl
set_option maxRecDepth 20000 in
theorem iX8_init_X5 : ∀ w ∈ wsX50, w ∈ wsX8_init := by decide +kernel
set_option maxRecDepth 20000 in
theorem mX8_init_4 : Cond.classLink RX8 7 RX5 ∈ wsX8_init := List.mem_of_getElem? (i := 4) rfl
set_option maxRecDepth 20000 in
theorem mX8_init_5 : Cond.instantiable RX5 3 ∈ wsX8_init := List.mem_of_getElem? (i := 5) rfl
set_option maxRecDepth 20000 in
theorem mX8_init_6 : Cond.initialized RX5 ∈ wsX8_init := List.mem_of_getElem? (i := 6) rfl
set_option maxRecDepth 20000 in
theorem mX8_init_39 : Cond.methodLink RX8 9 yX5_init ∈ wsX8_init := List.mem_of_getElem? (i := 39) rfl
set_option maxRecDepth 20000 in
theorem mX8_init_40 : Cond.instanceMethod yX5_init ∈ wsX8_init := List.mem_of_getElem? (i := 40) rfl
set_option maxRecDepth 20000 in
theorem mX8_init_7 : Cond.fieldLink RX8 10 "FistTrains" "rows" "LFistTrains$Rows;" ∈ wsX8_init := List.mem_of_getElem? (i := 7) rfl
set_option maxRecDepth 20000 in
theorem iX8_init_X8 : ∀ w ∈ wsX80, w ∈ wsX8_init := by decide +kernel
set_option maxRecDepth 20000 in
theorem iX8_init_X6 : ∀ w ∈ wsX60, w ∈ wsX8_init := by decide +kernel
set_option maxRecDepth 20000 in
theorem mX8_init_8 : Cond.classLink RX8 16 RX6 ∈ wsX8_init := List.mem_of_getElem? (i := 8) rfl
set_option maxRecDepth 20000 in
theorem mX8_init_9 : Cond.instantiable RX6 2 ∈ wsX8_init := List.mem_of_getElem? (i := 9) rfl
set_option maxRecDepth 20000 in
theorem mX8_init_10 : Cond.initialized RX6 ∈ wsX8_init := List.mem_of_getElem? (i := 10) rfl
set_option maxRecDepth 20000 in
theorem mX8_init_46 : Cond.methodLink RX8 18 yX6_init ∈ wsX8_init := List.mem_of_getElem? (i := 46) rfl
set_option maxRecDepth 20000 in
theorem mX8_init_47 : Cond.instanceMethod yX6_init ∈ wsX8_init := List.mem_of_getElem? (i := 47) rfl
set_option maxRecDepth 20000 in
theorem mX8_init_11 : Cond.fieldLink RX8 19 "FistTrains" "tape" "LFistTrains$Tape;" ∈ wsX8_init := List.mem_of_getElem? (i := 11) rfl
set_option maxRecDepth 20000 in
theorem iX8_init_X4 : ∀ w ∈ wsX40, w ∈ wsX8_init := by decide +kernel
set_option maxRecDepth 20000 in
theorem mX8_init_12 : Cond.classLink RX8 23 RX4 ∈ wsX8_init := List.mem_of_getElem? (i := 12) rfl
set_option maxRecDepth 20000 in
theorem mX8_init_13 : Cond.instantiable RX4 5 ∈ wsX8_init := List.mem_of_getElem? (i := 13) rfl
set_option maxRecDepth 20000 in
theorem mX8_init_14 : Cond.initialized RX4 ∈ wsX8_init := List.mem_of_getElem? (i := 14) rfl
set_option maxRecDepth 20000 in
theorem mX8_init_53 : Cond.methodLink RX8 25 yX4_init ∈ wsX8_init := List.mem_of_getElem? (i := 53) rfl
set_option maxRecDepth 20000 in
theorem mX8_init_54 : Cond.instanceMethod yX4_init ∈ wsX8_init := List.mem_of_getElem? (i := 54) rfl
set_option maxRecDepth 20000 in
theorem mX8_init_15 : Cond.fieldLink RX8 28 "FistTrains" "reader" "LFistTrains$Reader;" ∈ wsX8_init := List.mem_of_getElem? (i := 15) rfl
set_option maxRecDepth 20000 in
theorem iX8_init_X3 : ∀ w ∈ wsX30, w ∈ wsX8_init := by decide +kernel
set_option maxRecDepth 20000 in
theorem mX8_init_16 : Cond.classLink RX8 32 RX3 ∈ wsX8_init := List.mem_of_getElem? (i := 16) rfl
set_option maxRecDepth 20000 in
theorem mX8_init_17 : Cond.instantiable RX3 7 ∈ wsX8_init := List.mem_of_getElem? (i := 17) rfl
set_option maxRecDepth 20000 in
theorem mX8_init_18 : Cond.initialized RX3 ∈ wsX8_init := List.mem_of_getElem? (i := 18) rfl
set_option maxRecDepth 20000 in
theorem mX8_init_62 : Cond.methodLink RX8 34 yX3_init ∈ wsX8_init := List.mem_of_getElem? (i := 62) rfl
set_option maxRecDepth 20000 in
theorem mX8_init_63 : Cond.instanceMethod yX3_init ∈ wsX8_init := List.mem_of_getElem? (i := 63) rfl
set_option maxRecDepth 20000 in
theorem mX8_init_19 : Cond.fieldLink RX8 35 "FistTrains" "now" "LFistTrains$Hall;" ∈ wsX8_init := List.mem_of_getElem? (i := 19) rfl
set_option maxRecDepth 20000 in
theorem mX8_init_20 : Cond.fieldLink RX8 39 "FistTrains" "trial" "LFistTrains$Hall;" ∈ wsX8_init := List.mem_of_getElem? (i := 20) rfl
set_option maxRecDepth 20000 in
theorem iX8_init_X0 : ∀ w ∈ wsX00, w ∈ wsX8_init := by decide +kernel
set_option maxRecDepth 20000 in
theorem mX8_init_21 : Cond.classLink RX8 42 RX0 ∈ wsX8_init := List.mem_of_getElem? (i := 21) rfl
set_option maxRecDepth 20000 in
theorem mX8_init_22 : Cond.instantiable RX0 3 ∈ wsX8_init := List.mem_of_getElem? (i := 22) rfl
set_option maxRecDepth 20000 in
theorem mX8_init_23 : Cond.initialized RX0 ∈ wsX8_init := List.mem_of_getElem? (i := 23) rfl
set_option maxRecDepth 20000 in
theorem mX8_init_79 : Cond.methodLink RX8 44 yX0_init ∈ wsX8_init := List.mem_of_getElem? (i := 79) rfl
set_option maxRecDepth 20000 in
theorem mX8_init_80 : Cond.instanceMethod yX0_init ∈ wsX8_init := List.mem_of_getElem? (i := 80) rfl
set_option maxRecDepth 20000 in
theorem mX8_init_24 : Cond.fieldLink RX8 45 "FistTrains" "acts" "LFistTrains$Acts;" ∈ wsX8_init := List.mem_of_getElem? (i := 24) rfl
set_option maxRecDepth 20000 in
theorem iX8_init_X7 : ∀ w ∈ wsX70, w ∈ wsX8_init := by decide +kernel
set_option maxRecDepth 20000 in
theorem mX8_init_25 : Cond.classLink RX8 49 RX7 ∈ wsX8_init := List.mem_of_getElem? (i := 25) rfl
set_option maxRecDepth 20000 in
theorem mX8_init_26 : Cond.instantiable RX7 6 ∈ wsX8_init := List.mem_of_getElem? (i := 26) rfl
set_option maxRecDepth 20000 in
theorem mX8_init_27 : Cond.initialized RX7 ∈ wsX8_init := List.mem_of_getElem? (i := 27) rfl
set_option maxRecDepth 20000 in
theorem mX8_init_86 : Cond.methodLink RX8 51 yX7_init ∈ wsX8_init := List.mem_of_getElem? (i := 86) rfl
set_option maxRecDepth 20000 in
theorem mX8_init_87 : Cond.instanceMethod yX7_init ∈ wsX8_init := List.mem_of_getElem? (i := 87) rfl
set_option maxRecDepth 20000 in
theorem mX8_init_28 : Cond.fieldLink RX8 52 "FistTrains" "ways" "LFistTrains$Ways;" ∈ wsX8_init := List.mem_of_getElem? (i := 28) rfl
set_option maxRecDepth 20000 in
theorem iX8_init_X1 : ∀ w ∈ wsX10, w ∈ wsX8_init := by decide +kernel
set_option maxRecDepth 20000 in
theorem mX8_init_29 : Cond.classLink RX8 56 RX1 ∈ wsX8_init := List.mem_of_getElem? (i := 29) rfl
set_option maxRecDepth 20000 in
theorem mX8_init_30 : Cond.instantiable RX1 2 ∈ wsX8_init := List.mem_of_getElem? (i := 30) rfl
set_option maxRecDepth 20000 in
theorem mX8_init_31 : Cond.initialized RX1 ∈ wsX8_init := List.mem_of_getElem? (i := 31) rfl
set_option maxRecDepth 20000 in
theorem mX8_init_97 : Cond.methodLink RX8 58 yX1_init ∈ wsX8_init := List.mem_of_getElem? (i := 97) rfl
set_option maxRecDepth 20000 in
theorem mX8_init_98 : Cond.instanceMethod yX1_init ∈ wsX8_init := List.mem_of_getElem? (i := 98) rfl
set_option maxRecDepth 20000 in
theorem mX8_init_32 : Cond.fieldLink RX8 59 "FistTrains" "asks" "LFistTrains$Asks;" ∈ wsX8_init := List.mem_of_getElem? (i := 32) rfl
set_option maxRecDepth 20000 in
theorem mX8_init_33 : Cond.arrayClass .int ∈ wsX8_init := List.mem_of_getElem? (i := 33) rfl
set_option maxRecDepth 20000 in
theorem mX8_init_34 : Cond.fieldLink RX8 63 "FistTrains" "images" "[I" ∈ wsX8_init := List.mem_of_getElem? (i := 34) rfl
set_option maxRecDepth 20000 in
theorem mX8_init_35 : Cond.arrayClass .boolean ∈ wsX8_init := List.mem_of_getElem? (i := 35) rfl
set_option maxRecDepth 20000 in
theorem mX8_init_36 : Cond.fieldLink RX8 67 "FistTrains" "imageKept" "[Z" ∈ wsX8_init := List.mem_of_getElem? (i := 36) rfl
set_option maxRecDepth 20000 in
theorem mX8_init_37 : Cond.fieldLink RX8 71 "FistTrains" "latestFault" "I" ∈ wsX8_init := List.mem_of_getElem? (i := 37) rfl
set_option maxRecDepth 20000 in
theorem mX8_init_38 : Cond.fieldLink RX8 75 "FistTrains" "latestFinding" "I" ∈ wsX8_init := List.mem_of_getElem? (i := 38) rfl
set_option maxHeartbeats 4000000 in
set_option maxRecDepth 100000 in
theorem c_X8_init {sK sV : Nat → Nat} {l : Launch} {D : va_G} {cI cB cZ : ClassId} {a_t : Nat} : ZMc sK sV l yX8_init wsX8_init rmX8_init D (zty cI cB cZ) [.ref a_t] [(a_t, .inr (8, [.null, .null, .null, .null, .null, .null, .null, .null, .null, .null, .int 0, .int 0]))] 29 1412 (fun u => ∃ q5 q7_9 q15_9 q24_9 q16 q8_20 q27 q42 q22_46 q30_46 q38_46 q44_46 q53 q22_57 q30_57 q38_57 q44_57 q64 q8_68 q75 q7_79 q15_79 q28_79 q36_79 q42_79 q86 q7_90 q99 q106 : Nat, u = [(a_t, .inr (8, [.ref q5, .ref q16, .ref q27, .ref q42, .ref q53, .ref q64, .ref q75, .ref q86, .ref q99, .ref q106, .int 0, .int 0])), (q5, .inr (5, [.ref q7_9, .ref q15_9, .ref q24_9])), (q7_9, .inl (cI, 8, .inl (upd (upd (upd (upd (upd (upd (upd (upd (fun _ => 0) 0 (-1)) 1 (-1)) 2 (-1)) 3 (-1)) 4 (-1)) 5 (-1)) 6 (-1)) 7 (-1)))), (q15_9, .inl (cI, 8, .inl (fun _ => 0))), (q24_9, .inl (cI, 320, .inl (fun _ => 0))), (q16, .inr (6, [.ref q8_20, .int 0])), (q8_20, .inl (cB, 200, .inl (fun _ => 0))), (q27, .inr (4, [.ref q16, .int 0, .int 0, .int 0, .int 0])), (q42, .inr (3, [.int 0, .int 0, .int 0, .ref q22_46, .ref q30_46, .ref q38_46, .ref q44_46])), (q22_46, .inl (cI, 8, .inl (fun _ => 0))), (q30_46, .inl (cI, 8, .inl (fun _ => 0))), (q38_46, .inl (cI, 8, .inl (fun _ => 0))), (q44_46, .inr (2, [.int 0, .int 0, .int 0])), (q53, .inr (3, [.int 0, .int 0, .int 0, .ref q22_57, .ref q30_57, .ref q38_57, .ref q44_57])), (q22_57, .inl (cI, 8, .inl (fun _ => 0))), (q30_57, .inl (cI, 8, .inl (fun _ => 0))), (q38_57, .inl (cI, 8, .inl (fun _ => 0))), (q44_57, .inr (2, [.int 0, .int 0, .int 0])), (q64, .inr (0, [.ref q8_68, .int 0, .int 0])), (q8_68, .inl (cI, 648, .inl (fun _ => 0))), (q75, .inr (7, [.ref q7_79, .ref q15_79, .int 0, .ref q28_79, .ref q36_79, .ref q42_79])), (q7_79, .inl (cI, 8, .inl (fun _ => 0))), (q15_79, .inl (cI, 8, .inl (fun _ => 0))), (q28_79, .inl (cI, 24, .inl (fun _ => 0))), (q36_79, .inl (cI, 24, .inl (fun _ => 0))), (q42_79, .inr (2, [.int 0, .int 0, .int 0])), (q86, .inr (1, [.ref q7_90, .int 0])), (q7_90, .inl (cI, 16, .inl (fun _ => 0))), (q99, .inl (cI, 54, .inl (fun _ => 0))), (q106, .inl (cZ, 2, .inl (fun _ => 0)))]) := by
  refine zc_of (cc := cX8_init) (maxL := 1) (ret := none) (by decide) rfl (Nat.le_of_ble_eq_true rfl) rfl (fun E hE1 hE2 hC hN hin9 hQ => ?_)
  subst hE1 hE2
  refine z_aload_n hC dX8_init_0 rfl 0 rfl ?_
  refine z_oinit hC mX8_init_1 mX8_init_2 mX8_init_3 (Nat.le_of_ble_eq_true rfl) (Nat.le_of_ble_eq_true rfl) dX8_init_1 ?_
  refine z_aload_n hC dX8_init_4 rfl 0 rfl ?_
  refine z_new (1, 3) hC iX8_init_X5 tyX5_ok mX8_init_4 mX8_init_5 mX8_init_6 (ci := 5) rfl [.null, .null, .null] (fun j hj => by rcases (show j = 0 ∨ j = 1 ∨ j = 2 by omega) with rfl | rfl | rfl <;> rfl) rfl ⟨Nat.le_of_ble_eq_true rfl, Nat.le_of_ble_eq_true rfl⟩ dX8_init_5 (fun q5 => ?_)
  refine z_eq [(a_t, .inr (8, [.null, .null, .null, .null, .null, .null, .null, .null, .null, .null, .int 0, .int 0])), (q5, .inr (5, [.null, .null, .null]))] rfl ?_
  refine z_dup hC dX8_init_8 rfl ?_
  refine z_callI (4, 339) hC hN [] [1] (c_X5_init (sK := sK) (sV := sV) (l := zl E) (D := zD E) (cI := cI) (cB := cB) (cZ := cZ) (a_t := q5)) rfl ⟨rfl, rfl⟩ gX8_init_X5_init mX8_init_6 mX8_init_39 mX8_init_40 rfl hsX5_init ⟨Nat.le_of_ble_eq_true rfl, Nat.le_of_ble_eq_true rfl⟩ rfl ⟨Nat.le_of_ble_eq_true rfl, Nat.le_of_ble_eq_true rfl⟩ rfl (Nat.le_of_ble_eq_true rfl) rfl (by decide) dX8_init_9 (fun u hu => ?_)
  obtain ⟨q7_9, q15_9, q24_9, rfl⟩ := hu
  refine ⟨[(q5, .inr (5, [.ref q7_9, .ref q15_9, .ref q24_9]))], [(q7_9, .inl (cI, 8, .inl (upd (upd (upd (upd (upd (upd (upd (upd (fun _ => 0) 0 (-1)) 1 (-1)) 2 (-1)) 3 (-1)) 4 (-1)) 5 (-1)) 6 (-1)) 7 (-1)))), (q15_9, .inl (cI, 8, .inl (fun _ => 0))), (q24_9, .inl (cI, 320, .inl (fun _ => 0)))], rfl, rfl, ?_⟩
  refine z_eq [(a_t, .inr (8, [.null, .null, .null, .null, .null, .null, .null, .null, .null, .null, .int 0, .int 0])), (q5, .inr (5, [.ref q7_9, .ref q15_9, .ref q24_9])), (q7_9, .inl (cI, 8, .inl (upd (upd (upd (upd (upd (upd (upd (upd (fun _ => 0) 0 (-1)) 1 (-1)) 2 (-1)) 3 (-1)) 4 (-1)) 5 (-1)) 6 (-1)) 7 (-1)))), (q15_9, .inl (cI, 8, .inl (fun _ => 0))), (q24_9, .inl (cI, 320, .inl (fun _ => 0)))] rfl ?_
  refine z_putF hC iX8_init_X8 tyX8_ok nmX8 rfl 0 0 rfl (by decide) mX8_init_7 rfl rfl hin9 rfl rfl rfl (Nat.le_of_ble_eq_true rfl) dX8_init_12 ?_
  refine z_eq [(a_t, .inr (8, [.ref q5, .null, .null, .null, .null, .null, .null, .null, .null, .null, .int 0, .int 0])), (q5, .inr (5, [.ref q7_9, .ref q15_9, .ref q24_9])), (q7_9, .inl (cI, 8, .inl (upd (upd (upd (upd (upd (upd (upd (upd (fun _ => 0) 0 (-1)) 1 (-1)) 2 (-1)) 3 (-1)) 4 (-1)) 5 (-1)) 6 (-1)) 7 (-1)))), (q15_9, .inl (cI, 8, .inl (fun _ => 0))), (q24_9, .inl (cI, 320, .inl (fun _ => 0)))] rfl ?_
  refine z_aload_n hC dX8_init_15 rfl 0 rfl ?_
  refine z_new (5, 341) hC iX8_init_X6 tyX6_ok mX8_init_8 mX8_init_9 mX8_init_10 (ci := 6) rfl [.null, .int 0] (fun j hj => by rcases (show j = 0 ∨ j = 1 by omega) with rfl | rfl <;> rfl) rfl ⟨Nat.le_of_ble_eq_true rfl, Nat.le_of_ble_eq_true rfl⟩ dX8_init_16 (fun q16 => ?_)
  refine z_eq [(a_t, .inr (8, [.ref q5, .null, .null, .null, .null, .null, .null, .null, .null, .null, .int 0, .int 0])), (q5, .inr (5, [.ref q7_9, .ref q15_9, .ref q24_9])), (q7_9, .inl (cI, 8, .inl (upd (upd (upd (upd (upd (upd (upd (upd (fun _ => 0) 0 (-1)) 1 (-1)) 2 (-1)) 3 (-1)) 4 (-1)) 5 (-1)) 6 (-1)) 7 (-1)))), (q15_9, .inl (cI, 8, .inl (fun _ => 0))), (q24_9, .inl (cI, 320, .inl (fun _ => 0))), (q16, .inr (6, [.null, .int 0]))] rfl ?_
  refine z_dup hC dX8_init_19 rfl ?_
  refine z_callI (6, 541) hC hN [] [5] (c_X6_init (sK := sK) (sV := sV) (l := zl E) (D := zD E) (cI := cI) (cB := cB) (cZ := cZ) (a_t := q16)) rfl ⟨rfl, rfl⟩ gX8_init_X6_init mX8_init_10 mX8_init_46 mX8_init_47 rfl hsX6_init ⟨Nat.le_of_ble_eq_true rfl, Nat.le_of_ble_eq_true rfl⟩ rfl ⟨Nat.le_of_ble_eq_true rfl, Nat.le_of_ble_eq_true rfl⟩ rfl (Nat.le_of_ble_eq_true rfl) rfl (by decide) dX8_init_20 (fun u hu => ?_)
  obtain ⟨q8_20, rfl⟩ := hu
  refine ⟨[(q16, .inr (6, [.ref q8_20, .int 0]))], [(q8_20, .inl (cB, 200, .inl (fun _ => 0)))], rfl, rfl, ?_⟩
  refine z_eq [(a_t, .inr (8, [.ref q5, .null, .null, .null, .null, .null, .null, .null, .null, .null, .int 0, .int 0])), (q5, .inr (5, [.ref q7_9, .ref q15_9, .ref q24_9])), (q7_9, .inl (cI, 8, .inl (upd (upd (upd (upd (upd (upd (upd (upd (fun _ => 0) 0 (-1)) 1 (-1)) 2 (-1)) 3 (-1)) 4 (-1)) 5 (-1)) 6 (-1)) 7 (-1)))), (q15_9, .inl (cI, 8, .inl (fun _ => 0))), (q24_9, .inl (cI, 320, .inl (fun _ => 0))), (q16, .inr (6, [.ref q8_20, .int 0])), (q8_20, .inl (cB, 200, .inl (fun _ => 0)))] rfl ?_
  refine z_putF hC iX8_init_X8 tyX8_ok nmX8 rfl 0 1 rfl (by decide) mX8_init_11 rfl rfl hin9 rfl rfl rfl (Nat.le_of_ble_eq_true rfl) dX8_init_23 ?_
  refine z_eq [(a_t, .inr (8, [.ref q5, .ref q16, .null, .null, .null, .null, .null, .null, .null, .null, .int 0, .int 0])), (q5, .inr (5, [.ref q7_9, .ref q15_9, .ref q24_9])), (q7_9, .inl (cI, 8, .inl (upd (upd (upd (upd (upd (upd (upd (upd (fun _ => 0) 0 (-1)) 1 (-1)) 2 (-1)) 3 (-1)) 4 (-1)) 5 (-1)) 6 (-1)) 7 (-1)))), (q15_9, .inl (cI, 8, .inl (fun _ => 0))), (q24_9, .inl (cI, 320, .inl (fun _ => 0))), (q16, .inr (6, [.ref q8_20, .int 0])), (q8_20, .inl (cB, 200, .inl (fun _ => 0)))] rfl ?_
  refine z_aload_n hC dX8_init_26 rfl 0 rfl ?_
  refine z_new (7, 546) hC iX8_init_X4 tyX4_ok mX8_init_12 mX8_init_13 mX8_init_14 (ci := 4) rfl [.null, .int 0, .int 0, .int 0, .int 0] (fun j hj => by rcases (show j = 0 ∨ j = 1 ∨ j = 2 ∨ j = 3 ∨ j = 4 by omega) with rfl | rfl | rfl | rfl | rfl <;> rfl) rfl ⟨Nat.le_of_ble_eq_true rfl, Nat.le_of_ble_eq_true rfl⟩ dX8_init_27 (fun q27 => ?_)
  refine z_eq [(a_t, .inr (8, [.ref q5, .ref q16, .null, .null, .null, .null, .null, .null, .null, .null, .int 0, .int 0])), (q5, .inr (5, [.ref q7_9, .ref q15_9, .ref q24_9])), (q7_9, .inl (cI, 8, .inl (upd (upd (upd (upd (upd (upd (upd (upd (fun _ => 0) 0 (-1)) 1 (-1)) 2 (-1)) 3 (-1)) 4 (-1)) 5 (-1)) 6 (-1)) 7 (-1)))), (q15_9, .inl (cI, 8, .inl (fun _ => 0))), (q24_9, .inl (cI, 320, .inl (fun _ => 0))), (q16, .inr (6, [.ref q8_20, .int 0])), (q8_20, .inl (cB, 200, .inl (fun _ => 0))), (q27, .inr (4, [.null, .int 0, .int 0, .int 0, .int 0]))] rfl ?_
  refine z_dup hC dX8_init_30 rfl ?_
  refine z_aload_n hC dX8_init_31 rfl 0 rfl ?_
  refine z_get hC iX8_init_X8 rfl 0 1 rfl (by decide) mX8_init_11 rfl rfl dX8_init_32 ?_
  refine z_callI (7, 546) hC hN [.ref q16] [7] (c_X4_init (sK := sK) (sV := sV) (l := zl E) (D := zD E) (cI := cI) (cB := cB) (cZ := cZ) (a_t := q27) (a_p1 := q16)) rfl ⟨rfl, rfl⟩ gX8_init_X4_init mX8_init_14 mX8_init_53 mX8_init_54 rfl hsX4_init ⟨Nat.le_of_ble_eq_true rfl, Nat.le_of_ble_eq_true rfl⟩ rfl ⟨Nat.le_of_ble_eq_true rfl, Nat.le_of_ble_eq_true rfl⟩ rfl (Nat.le_of_ble_eq_true rfl) rfl (by decide) dX8_init_35 (fun u hu => ?_)
  subst hu
  refine ⟨[(q27, .inr (4, [.ref q16, .int 0, .int 0, .int 0, .int 0]))], [], rfl, rfl, ?_⟩
  refine z_eq [(a_t, .inr (8, [.ref q5, .ref q16, .null, .null, .null, .null, .null, .null, .null, .null, .int 0, .int 0])), (q5, .inr (5, [.ref q7_9, .ref q15_9, .ref q24_9])), (q7_9, .inl (cI, 8, .inl (upd (upd (upd (upd (upd (upd (upd (upd (fun _ => 0) 0 (-1)) 1 (-1)) 2 (-1)) 3 (-1)) 4 (-1)) 5 (-1)) 6 (-1)) 7 (-1)))), (q15_9, .inl (cI, 8, .inl (fun _ => 0))), (q24_9, .inl (cI, 320, .inl (fun _ => 0))), (q16, .inr (6, [.ref q8_20, .int 0])), (q8_20, .inl (cB, 200, .inl (fun _ => 0))), (q27, .inr (4, [.ref q16, .int 0, .int 0, .int 0, .int 0]))] rfl ?_
  refine z_putF hC iX8_init_X8 tyX8_ok nmX8 rfl 0 2 rfl (by decide) mX8_init_15 rfl rfl hin9 rfl rfl rfl (Nat.le_of_ble_eq_true rfl) dX8_init_38 ?_
  refine z_eq [(a_t, .inr (8, [.ref q5, .ref q16, .ref q27, .null, .null, .null, .null, .null, .null, .null, .int 0, .int 0])), (q5, .inr (5, [.ref q7_9, .ref q15_9, .ref q24_9])), (q7_9, .inl (cI, 8, .inl (upd (upd (upd (upd (upd (upd (upd (upd (fun _ => 0) 0 (-1)) 1 (-1)) 2 (-1)) 3 (-1)) 4 (-1)) 5 (-1)) 6 (-1)) 7 (-1)))), (q15_9, .inl (cI, 8, .inl (fun _ => 0))), (q24_9, .inl (cI, 320, .inl (fun _ => 0))), (q16, .inr (6, [.ref q8_20, .int 0])), (q8_20, .inl (cB, 200, .inl (fun _ => 0))), (q27, .inr (4, [.ref q16, .int 0, .int 0, .int 0, .int 0]))] rfl ?_
  refine z_aload_n hC dX8_init_41 rfl 0 rfl ?_
  refine z_new (8, 553) hC iX8_init_X3 tyX3_ok mX8_init_16 mX8_init_17 mX8_init_18 (ci := 3) rfl [.int 0, .int 0, .int 0, .null, .null, .null, .null] (fun j hj => by rcases (show j = 0 ∨ j = 1 ∨ j = 2 ∨ j = 3 ∨ j = 4 ∨ j = 5 ∨ j = 6 by omega) with rfl | rfl | rfl | rfl | rfl | rfl | rfl <;> rfl) rfl ⟨Nat.le_of_ble_eq_true rfl, Nat.le_of_ble_eq_true rfl⟩ dX8_init_42 (fun q42 => ?_)
  refine z_eq [(a_t, .inr (8, [.ref q5, .ref q16, .ref q27, .null, .null, .null, .null, .null, .null, .null, .int 0, .int 0])), (q5, .inr (5, [.ref q7_9, .ref q15_9, .ref q24_9])), (q7_9, .inl (cI, 8, .inl (upd (upd (upd (upd (upd (upd (upd (upd (fun _ => 0) 0 (-1)) 1 (-1)) 2 (-1)) 3 (-1)) 4 (-1)) 5 (-1)) 6 (-1)) 7 (-1)))), (q15_9, .inl (cI, 8, .inl (fun _ => 0))), (q24_9, .inl (cI, 320, .inl (fun _ => 0))), (q16, .inr (6, [.ref q8_20, .int 0])), (q8_20, .inl (cB, 200, .inl (fun _ => 0))), (q27, .inr (4, [.ref q16, .int 0, .int 0, .int 0, .int 0])), (q42, .inr (3, [.int 0, .int 0, .int 0, .null, .null, .null, .null]))] rfl ?_
  refine z_dup hC dX8_init_45 rfl ?_
  refine z_callI (12, 580) hC hN [] [8] (c_X3_init (sK := sK) (sV := sV) (l := zl E) (D := zD E) (cI := cI) (cB := cB) (cZ := cZ) (a_t := q42)) rfl ⟨rfl, rfl⟩ gX8_init_X3_init mX8_init_18 mX8_init_62 mX8_init_63 rfl hsX3_init ⟨Nat.le_of_ble_eq_true rfl, Nat.le_of_ble_eq_true rfl⟩ rfl ⟨Nat.le_of_ble_eq_true rfl, Nat.le_of_ble_eq_true rfl⟩ rfl (Nat.le_of_ble_eq_true rfl) rfl (by decide) dX8_init_46 (fun u hu => ?_)
  obtain ⟨q22_46, q30_46, q38_46, q44_46, rfl⟩ := hu
  refine ⟨[(q42, .inr (3, [.int 0, .int 0, .int 0, .ref q22_46, .ref q30_46, .ref q38_46, .ref q44_46]))], [(q22_46, .inl (cI, 8, .inl (fun _ => 0))), (q30_46, .inl (cI, 8, .inl (fun _ => 0))), (q38_46, .inl (cI, 8, .inl (fun _ => 0))), (q44_46, .inr (2, [.int 0, .int 0, .int 0]))], rfl, rfl, ?_⟩
  refine z_eq [(a_t, .inr (8, [.ref q5, .ref q16, .ref q27, .null, .null, .null, .null, .null, .null, .null, .int 0, .int 0])), (q5, .inr (5, [.ref q7_9, .ref q15_9, .ref q24_9])), (q7_9, .inl (cI, 8, .inl (upd (upd (upd (upd (upd (upd (upd (upd (fun _ => 0) 0 (-1)) 1 (-1)) 2 (-1)) 3 (-1)) 4 (-1)) 5 (-1)) 6 (-1)) 7 (-1)))), (q15_9, .inl (cI, 8, .inl (fun _ => 0))), (q24_9, .inl (cI, 320, .inl (fun _ => 0))), (q16, .inr (6, [.ref q8_20, .int 0])), (q8_20, .inl (cB, 200, .inl (fun _ => 0))), (q27, .inr (4, [.ref q16, .int 0, .int 0, .int 0, .int 0])), (q42, .inr (3, [.int 0, .int 0, .int 0, .ref q22_46, .ref q30_46, .ref q38_46, .ref q44_46])), (q22_46, .inl (cI, 8, .inl (fun _ => 0))), (q30_46, .inl (cI, 8, .inl (fun _ => 0))), (q38_46, .inl (cI, 8, .inl (fun _ => 0))), (q44_46, .inr (2, [.int 0, .int 0, .int 0]))] rfl ?_
  refine z_putF hC iX8_init_X8 tyX8_ok nmX8 rfl 0 3 rfl (by decide) mX8_init_19 rfl rfl hin9 rfl rfl rfl (Nat.le_of_ble_eq_true rfl) dX8_init_49 ?_
  refine z_eq [(a_t, .inr (8, [.ref q5, .ref q16, .ref q27, .ref q42, .null, .null, .null, .null, .null, .null, .int 0, .int 0])), (q5, .inr (5, [.ref q7_9, .ref q15_9, .ref q24_9])), (q7_9, .inl (cI, 8, .inl (upd (upd (upd (upd (upd (upd (upd (upd (fun _ => 0) 0 (-1)) 1 (-1)) 2 (-1)) 3 (-1)) 4 (-1)) 5 (-1)) 6 (-1)) 7 (-1)))), (q15_9, .inl (cI, 8, .inl (fun _ => 0))), (q24_9, .inl (cI, 320, .inl (fun _ => 0))), (q16, .inr (6, [.ref q8_20, .int 0])), (q8_20, .inl (cB, 200, .inl (fun _ => 0))), (q27, .inr (4, [.ref q16, .int 0, .int 0, .int 0, .int 0])), (q42, .inr (3, [.int 0, .int 0, .int 0, .ref q22_46, .ref q30_46, .ref q38_46, .ref q44_46])), (q22_46, .inl (cI, 8, .inl (fun _ => 0))), (q30_46, .inl (cI, 8, .inl (fun _ => 0))), (q38_46, .inl (cI, 8, .inl (fun _ => 0))), (q44_46, .inr (2, [.int 0, .int 0, .int 0]))] rfl ?_
  refine z_aload_n hC dX8_init_52 rfl 0 rfl ?_
  refine z_new (13, 587) hC iX8_init_X3 tyX3_ok mX8_init_16 mX8_init_17 mX8_init_18 (ci := 3) rfl [.int 0, .int 0, .int 0, .null, .null, .null, .null] (fun j hj => by rcases (show j = 0 ∨ j = 1 ∨ j = 2 ∨ j = 3 ∨ j = 4 ∨ j = 5 ∨ j = 6 by omega) with rfl | rfl | rfl | rfl | rfl | rfl | rfl <;> rfl) rfl ⟨Nat.le_of_ble_eq_true rfl, Nat.le_of_ble_eq_true rfl⟩ dX8_init_53 (fun q53 => ?_)
  refine z_eq [(a_t, .inr (8, [.ref q5, .ref q16, .ref q27, .ref q42, .null, .null, .null, .null, .null, .null, .int 0, .int 0])), (q5, .inr (5, [.ref q7_9, .ref q15_9, .ref q24_9])), (q7_9, .inl (cI, 8, .inl (upd (upd (upd (upd (upd (upd (upd (upd (fun _ => 0) 0 (-1)) 1 (-1)) 2 (-1)) 3 (-1)) 4 (-1)) 5 (-1)) 6 (-1)) 7 (-1)))), (q15_9, .inl (cI, 8, .inl (fun _ => 0))), (q24_9, .inl (cI, 320, .inl (fun _ => 0))), (q16, .inr (6, [.ref q8_20, .int 0])), (q8_20, .inl (cB, 200, .inl (fun _ => 0))), (q27, .inr (4, [.ref q16, .int 0, .int 0, .int 0, .int 0])), (q42, .inr (3, [.int 0, .int 0, .int 0, .ref q22_46, .ref q30_46, .ref q38_46, .ref q44_46])), (q22_46, .inl (cI, 8, .inl (fun _ => 0))), (q30_46, .inl (cI, 8, .inl (fun _ => 0))), (q38_46, .inl (cI, 8, .inl (fun _ => 0))), (q44_46, .inr (2, [.int 0, .int 0, .int 0])), (q53, .inr (3, [.int 0, .int 0, .int 0, .null, .null, .null, .null]))] rfl ?_
  refine z_dup hC dX8_init_56 rfl ?_
  refine z_callI (17, 614) hC hN [] [13] (c_X3_init (sK := sK) (sV := sV) (l := zl E) (D := zD E) (cI := cI) (cB := cB) (cZ := cZ) (a_t := q53)) rfl ⟨rfl, rfl⟩ gX8_init_X3_init mX8_init_18 mX8_init_62 mX8_init_63 rfl hsX3_init ⟨Nat.le_of_ble_eq_true rfl, Nat.le_of_ble_eq_true rfl⟩ rfl ⟨Nat.le_of_ble_eq_true rfl, Nat.le_of_ble_eq_true rfl⟩ rfl (Nat.le_of_ble_eq_true rfl) rfl (by decide) dX8_init_57 (fun u hu => ?_)
  obtain ⟨q22_57, q30_57, q38_57, q44_57, rfl⟩ := hu
  refine ⟨[(q53, .inr (3, [.int 0, .int 0, .int 0, .ref q22_57, .ref q30_57, .ref q38_57, .ref q44_57]))], [(q22_57, .inl (cI, 8, .inl (fun _ => 0))), (q30_57, .inl (cI, 8, .inl (fun _ => 0))), (q38_57, .inl (cI, 8, .inl (fun _ => 0))), (q44_57, .inr (2, [.int 0, .int 0, .int 0]))], rfl, rfl, ?_⟩
  refine z_eq [(a_t, .inr (8, [.ref q5, .ref q16, .ref q27, .ref q42, .null, .null, .null, .null, .null, .null, .int 0, .int 0])), (q5, .inr (5, [.ref q7_9, .ref q15_9, .ref q24_9])), (q7_9, .inl (cI, 8, .inl (upd (upd (upd (upd (upd (upd (upd (upd (fun _ => 0) 0 (-1)) 1 (-1)) 2 (-1)) 3 (-1)) 4 (-1)) 5 (-1)) 6 (-1)) 7 (-1)))), (q15_9, .inl (cI, 8, .inl (fun _ => 0))), (q24_9, .inl (cI, 320, .inl (fun _ => 0))), (q16, .inr (6, [.ref q8_20, .int 0])), (q8_20, .inl (cB, 200, .inl (fun _ => 0))), (q27, .inr (4, [.ref q16, .int 0, .int 0, .int 0, .int 0])), (q42, .inr (3, [.int 0, .int 0, .int 0, .ref q22_46, .ref q30_46, .ref q38_46, .ref q44_46])), (q22_46, .inl (cI, 8, .inl (fun _ => 0))), (q30_46, .inl (cI, 8, .inl (fun _ => 0))), (q38_46, .inl (cI, 8, .inl (fun _ => 0))), (q44_46, .inr (2, [.int 0, .int 0, .int 0])), (q53, .inr (3, [.int 0, .int 0, .int 0, .ref q22_57, .ref q30_57, .ref q38_57, .ref q44_57])), (q22_57, .inl (cI, 8, .inl (fun _ => 0))), (q30_57, .inl (cI, 8, .inl (fun _ => 0))), (q38_57, .inl (cI, 8, .inl (fun _ => 0))), (q44_57, .inr (2, [.int 0, .int 0, .int 0]))] rfl ?_
  refine z_putF hC iX8_init_X8 tyX8_ok nmX8 rfl 0 4 rfl (by decide) mX8_init_20 rfl rfl hin9 rfl rfl rfl (Nat.le_of_ble_eq_true rfl) dX8_init_60 ?_
  refine z_eq [(a_t, .inr (8, [.ref q5, .ref q16, .ref q27, .ref q42, .ref q53, .null, .null, .null, .null, .null, .int 0, .int 0])), (q5, .inr (5, [.ref q7_9, .ref q15_9, .ref q24_9])), (q7_9, .inl (cI, 8, .inl (upd (upd (upd (upd (upd (upd (upd (upd (fun _ => 0) 0 (-1)) 1 (-1)) 2 (-1)) 3 (-1)) 4 (-1)) 5 (-1)) 6 (-1)) 7 (-1)))), (q15_9, .inl (cI, 8, .inl (fun _ => 0))), (q24_9, .inl (cI, 320, .inl (fun _ => 0))), (q16, .inr (6, [.ref q8_20, .int 0])), (q8_20, .inl (cB, 200, .inl (fun _ => 0))), (q27, .inr (4, [.ref q16, .int 0, .int 0, .int 0, .int 0])), (q42, .inr (3, [.int 0, .int 0, .int 0, .ref q22_46, .ref q30_46, .ref q38_46, .ref q44_46])), (q22_46, .inl (cI, 8, .inl (fun _ => 0))), (q30_46, .inl (cI, 8, .inl (fun _ => 0))), (q38_46, .inl (cI, 8, .inl (fun _ => 0))), (q44_46, .inr (2, [.int 0, .int 0, .int 0])), (q53, .inr (3, [.int 0, .int 0, .int 0, .ref q22_57, .ref q30_57, .ref q38_57, .ref q44_57])), (q22_57, .inl (cI, 8, .inl (fun _ => 0))), (q30_57, .inl (cI, 8, .inl (fun _ => 0))), (q38_57, .inl (cI, 8, .inl (fun _ => 0))), (q44_57, .inr (2, [.int 0, .int 0, .int 0]))] rfl ?_
  refine z_aload_n hC dX8_init_63 rfl 0 rfl ?_
  refine z_new (18, 617) hC iX8_init_X0 tyX0_ok mX8_init_21 mX8_init_22 mX8_init_23 (ci := 0) rfl [.null, .int 0, .int 0] (fun j hj => by rcases (show j = 0 ∨ j = 1 ∨ j = 2 by omega) with rfl | rfl | rfl <;> rfl) rfl ⟨Nat.le_of_ble_eq_true rfl, Nat.le_of_ble_eq_true rfl⟩ dX8_init_64 (fun q64 => ?_)
  refine z_eq [(a_t, .inr (8, [.ref q5, .ref q16, .ref q27, .ref q42, .ref q53, .null, .null, .null, .null, .null, .int 0, .int 0])), (q5, .inr (5, [.ref q7_9, .ref q15_9, .ref q24_9])), (q7_9, .inl (cI, 8, .inl (upd (upd (upd (upd (upd (upd (upd (upd (fun _ => 0) 0 (-1)) 1 (-1)) 2 (-1)) 3 (-1)) 4 (-1)) 5 (-1)) 6 (-1)) 7 (-1)))), (q15_9, .inl (cI, 8, .inl (fun _ => 0))), (q24_9, .inl (cI, 320, .inl (fun _ => 0))), (q16, .inr (6, [.ref q8_20, .int 0])), (q8_20, .inl (cB, 200, .inl (fun _ => 0))), (q27, .inr (4, [.ref q16, .int 0, .int 0, .int 0, .int 0])), (q42, .inr (3, [.int 0, .int 0, .int 0, .ref q22_46, .ref q30_46, .ref q38_46, .ref q44_46])), (q22_46, .inl (cI, 8, .inl (fun _ => 0))), (q30_46, .inl (cI, 8, .inl (fun _ => 0))), (q38_46, .inl (cI, 8, .inl (fun _ => 0))), (q44_46, .inr (2, [.int 0, .int 0, .int 0])), (q53, .inr (3, [.int 0, .int 0, .int 0, .ref q22_57, .ref q30_57, .ref q38_57, .ref q44_57])), (q22_57, .inl (cI, 8, .inl (fun _ => 0))), (q30_57, .inl (cI, 8, .inl (fun _ => 0))), (q38_57, .inl (cI, 8, .inl (fun _ => 0))), (q44_57, .inr (2, [.int 0, .int 0, .int 0])), (q64, .inr (0, [.null, .int 0, .int 0]))] rfl ?_
  refine z_dup hC dX8_init_67 rfl ?_
  refine z_callI (19, 1265) hC hN [] [18] (c_X0_init (sK := sK) (sV := sV) (l := zl E) (D := zD E) (cI := cI) (cB := cB) (cZ := cZ) (a_t := q64)) rfl ⟨rfl, rfl⟩ gX8_init_X0_init mX8_init_23 mX8_init_79 mX8_init_80 rfl hsX0_init ⟨Nat.le_of_ble_eq_true rfl, Nat.le_of_ble_eq_true rfl⟩ rfl ⟨Nat.le_of_ble_eq_true rfl, Nat.le_of_ble_eq_true rfl⟩ rfl (Nat.le_of_ble_eq_true rfl) rfl (by decide) dX8_init_68 (fun u hu => ?_)
  obtain ⟨q8_68, rfl⟩ := hu
  refine ⟨[(q64, .inr (0, [.ref q8_68, .int 0, .int 0]))], [(q8_68, .inl (cI, 648, .inl (fun _ => 0)))], rfl, rfl, ?_⟩
  refine z_eq [(a_t, .inr (8, [.ref q5, .ref q16, .ref q27, .ref q42, .ref q53, .null, .null, .null, .null, .null, .int 0, .int 0])), (q5, .inr (5, [.ref q7_9, .ref q15_9, .ref q24_9])), (q7_9, .inl (cI, 8, .inl (upd (upd (upd (upd (upd (upd (upd (upd (fun _ => 0) 0 (-1)) 1 (-1)) 2 (-1)) 3 (-1)) 4 (-1)) 5 (-1)) 6 (-1)) 7 (-1)))), (q15_9, .inl (cI, 8, .inl (fun _ => 0))), (q24_9, .inl (cI, 320, .inl (fun _ => 0))), (q16, .inr (6, [.ref q8_20, .int 0])), (q8_20, .inl (cB, 200, .inl (fun _ => 0))), (q27, .inr (4, [.ref q16, .int 0, .int 0, .int 0, .int 0])), (q42, .inr (3, [.int 0, .int 0, .int 0, .ref q22_46, .ref q30_46, .ref q38_46, .ref q44_46])), (q22_46, .inl (cI, 8, .inl (fun _ => 0))), (q30_46, .inl (cI, 8, .inl (fun _ => 0))), (q38_46, .inl (cI, 8, .inl (fun _ => 0))), (q44_46, .inr (2, [.int 0, .int 0, .int 0])), (q53, .inr (3, [.int 0, .int 0, .int 0, .ref q22_57, .ref q30_57, .ref q38_57, .ref q44_57])), (q22_57, .inl (cI, 8, .inl (fun _ => 0))), (q30_57, .inl (cI, 8, .inl (fun _ => 0))), (q38_57, .inl (cI, 8, .inl (fun _ => 0))), (q44_57, .inr (2, [.int 0, .int 0, .int 0])), (q64, .inr (0, [.ref q8_68, .int 0, .int 0])), (q8_68, .inl (cI, 648, .inl (fun _ => 0)))] rfl ?_
  refine z_putF hC iX8_init_X8 tyX8_ok nmX8 rfl 0 5 rfl (by decide) mX8_init_24 rfl rfl hin9 rfl rfl rfl (Nat.le_of_ble_eq_true rfl) dX8_init_71 ?_
  refine z_eq [(a_t, .inr (8, [.ref q5, .ref q16, .ref q27, .ref q42, .ref q53, .ref q64, .null, .null, .null, .null, .int 0, .int 0])), (q5, .inr (5, [.ref q7_9, .ref q15_9, .ref q24_9])), (q7_9, .inl (cI, 8, .inl (upd (upd (upd (upd (upd (upd (upd (upd (fun _ => 0) 0 (-1)) 1 (-1)) 2 (-1)) 3 (-1)) 4 (-1)) 5 (-1)) 6 (-1)) 7 (-1)))), (q15_9, .inl (cI, 8, .inl (fun _ => 0))), (q24_9, .inl (cI, 320, .inl (fun _ => 0))), (q16, .inr (6, [.ref q8_20, .int 0])), (q8_20, .inl (cB, 200, .inl (fun _ => 0))), (q27, .inr (4, [.ref q16, .int 0, .int 0, .int 0, .int 0])), (q42, .inr (3, [.int 0, .int 0, .int 0, .ref q22_46, .ref q30_46, .ref q38_46, .ref q44_46])), (q22_46, .inl (cI, 8, .inl (fun _ => 0))), (q30_46, .inl (cI, 8, .inl (fun _ => 0))), (q38_46, .inl (cI, 8, .inl (fun _ => 0))), (q44_46, .inr (2, [.int 0, .int 0, .int 0])), (q53, .inr (3, [.int 0, .int 0, .int 0, .ref q22_57, .ref q30_57, .ref q38_57, .ref q44_57])), (q22_57, .inl (cI, 8, .inl (fun _ => 0))), (q30_57, .inl (cI, 8, .inl (fun _ => 0))), (q38_57, .inl (cI, 8, .inl (fun _ => 0))), (q44_57, .inr (2, [.int 0, .int 0, .int 0])), (q64, .inr (0, [.ref q8_68, .int 0, .int 0])), (q8_68, .inl (cI, 648, .inl (fun _ => 0)))] rfl ?_
  refine z_aload_n hC dX8_init_74 rfl 0 rfl ?_
  refine z_new (20, 1271) hC iX8_init_X7 tyX7_ok mX8_init_25 mX8_init_26 mX8_init_27 (ci := 7) rfl [.null, .null, .int 0, .null, .null, .null] (fun j hj => by rcases (show j = 0 ∨ j = 1 ∨ j = 2 ∨ j = 3 ∨ j = 4 ∨ j = 5 by omega) with rfl | rfl | rfl | rfl | rfl | rfl <;> rfl) rfl ⟨Nat.le_of_ble_eq_true rfl, Nat.le_of_ble_eq_true rfl⟩ dX8_init_75 (fun q75 => ?_)
  refine z_eq [(a_t, .inr (8, [.ref q5, .ref q16, .ref q27, .ref q42, .ref q53, .ref q64, .null, .null, .null, .null, .int 0, .int 0])), (q5, .inr (5, [.ref q7_9, .ref q15_9, .ref q24_9])), (q7_9, .inl (cI, 8, .inl (upd (upd (upd (upd (upd (upd (upd (upd (fun _ => 0) 0 (-1)) 1 (-1)) 2 (-1)) 3 (-1)) 4 (-1)) 5 (-1)) 6 (-1)) 7 (-1)))), (q15_9, .inl (cI, 8, .inl (fun _ => 0))), (q24_9, .inl (cI, 320, .inl (fun _ => 0))), (q16, .inr (6, [.ref q8_20, .int 0])), (q8_20, .inl (cB, 200, .inl (fun _ => 0))), (q27, .inr (4, [.ref q16, .int 0, .int 0, .int 0, .int 0])), (q42, .inr (3, [.int 0, .int 0, .int 0, .ref q22_46, .ref q30_46, .ref q38_46, .ref q44_46])), (q22_46, .inl (cI, 8, .inl (fun _ => 0))), (q30_46, .inl (cI, 8, .inl (fun _ => 0))), (q38_46, .inl (cI, 8, .inl (fun _ => 0))), (q44_46, .inr (2, [.int 0, .int 0, .int 0])), (q53, .inr (3, [.int 0, .int 0, .int 0, .ref q22_57, .ref q30_57, .ref q38_57, .ref q44_57])), (q22_57, .inl (cI, 8, .inl (fun _ => 0))), (q30_57, .inl (cI, 8, .inl (fun _ => 0))), (q38_57, .inl (cI, 8, .inl (fun _ => 0))), (q44_57, .inr (2, [.int 0, .int 0, .int 0])), (q64, .inr (0, [.ref q8_68, .int 0, .int 0])), (q8_68, .inl (cI, 648, .inl (fun _ => 0))), (q75, .inr (7, [.null, .null, .int 0, .null, .null, .null]))] rfl ?_
  refine z_dup hC dX8_init_78 rfl ?_
  refine z_callI (25, 1338) hC hN [] [20] (c_X7_init (sK := sK) (sV := sV) (l := zl E) (D := zD E) (cI := cI) (cB := cB) (cZ := cZ) (a_t := q75)) rfl ⟨rfl, rfl⟩ gX8_init_X7_init mX8_init_27 mX8_init_86 mX8_init_87 rfl hsX7_init ⟨Nat.le_of_ble_eq_true rfl, Nat.le_of_ble_eq_true rfl⟩ rfl ⟨Nat.le_of_ble_eq_true rfl, Nat.le_of_ble_eq_true rfl⟩ rfl (Nat.le_of_ble_eq_true rfl) rfl (by decide) dX8_init_79 (fun u hu => ?_)
  obtain ⟨q7_79, q15_79, q28_79, q36_79, q42_79, rfl⟩ := hu
  refine ⟨[(q75, .inr (7, [.ref q7_79, .ref q15_79, .int 0, .ref q28_79, .ref q36_79, .ref q42_79]))], [(q7_79, .inl (cI, 8, .inl (fun _ => 0))), (q15_79, .inl (cI, 8, .inl (fun _ => 0))), (q28_79, .inl (cI, 24, .inl (fun _ => 0))), (q36_79, .inl (cI, 24, .inl (fun _ => 0))), (q42_79, .inr (2, [.int 0, .int 0, .int 0]))], rfl, rfl, ?_⟩
  refine z_eq [(a_t, .inr (8, [.ref q5, .ref q16, .ref q27, .ref q42, .ref q53, .ref q64, .null, .null, .null, .null, .int 0, .int 0])), (q5, .inr (5, [.ref q7_9, .ref q15_9, .ref q24_9])), (q7_9, .inl (cI, 8, .inl (upd (upd (upd (upd (upd (upd (upd (upd (fun _ => 0) 0 (-1)) 1 (-1)) 2 (-1)) 3 (-1)) 4 (-1)) 5 (-1)) 6 (-1)) 7 (-1)))), (q15_9, .inl (cI, 8, .inl (fun _ => 0))), (q24_9, .inl (cI, 320, .inl (fun _ => 0))), (q16, .inr (6, [.ref q8_20, .int 0])), (q8_20, .inl (cB, 200, .inl (fun _ => 0))), (q27, .inr (4, [.ref q16, .int 0, .int 0, .int 0, .int 0])), (q42, .inr (3, [.int 0, .int 0, .int 0, .ref q22_46, .ref q30_46, .ref q38_46, .ref q44_46])), (q22_46, .inl (cI, 8, .inl (fun _ => 0))), (q30_46, .inl (cI, 8, .inl (fun _ => 0))), (q38_46, .inl (cI, 8, .inl (fun _ => 0))), (q44_46, .inr (2, [.int 0, .int 0, .int 0])), (q53, .inr (3, [.int 0, .int 0, .int 0, .ref q22_57, .ref q30_57, .ref q38_57, .ref q44_57])), (q22_57, .inl (cI, 8, .inl (fun _ => 0))), (q30_57, .inl (cI, 8, .inl (fun _ => 0))), (q38_57, .inl (cI, 8, .inl (fun _ => 0))), (q44_57, .inr (2, [.int 0, .int 0, .int 0])), (q64, .inr (0, [.ref q8_68, .int 0, .int 0])), (q8_68, .inl (cI, 648, .inl (fun _ => 0))), (q75, .inr (7, [.ref q7_79, .ref q15_79, .int 0, .ref q28_79, .ref q36_79, .ref q42_79])), (q7_79, .inl (cI, 8, .inl (fun _ => 0))), (q15_79, .inl (cI, 8, .inl (fun _ => 0))), (q28_79, .inl (cI, 24, .inl (fun _ => 0))), (q36_79, .inl (cI, 24, .inl (fun _ => 0))), (q42_79, .inr (2, [.int 0, .int 0, .int 0]))] rfl ?_
  refine z_putF hC iX8_init_X8 tyX8_ok nmX8 rfl 0 6 rfl (by decide) mX8_init_28 rfl rfl hin9 rfl rfl rfl (Nat.le_of_ble_eq_true rfl) dX8_init_82 ?_
  refine z_eq [(a_t, .inr (8, [.ref q5, .ref q16, .ref q27, .ref q42, .ref q53, .ref q64, .ref q75, .null, .null, .null, .int 0, .int 0])), (q5, .inr (5, [.ref q7_9, .ref q15_9, .ref q24_9])), (q7_9, .inl (cI, 8, .inl (upd (upd (upd (upd (upd (upd (upd (upd (fun _ => 0) 0 (-1)) 1 (-1)) 2 (-1)) 3 (-1)) 4 (-1)) 5 (-1)) 6 (-1)) 7 (-1)))), (q15_9, .inl (cI, 8, .inl (fun _ => 0))), (q24_9, .inl (cI, 320, .inl (fun _ => 0))), (q16, .inr (6, [.ref q8_20, .int 0])), (q8_20, .inl (cB, 200, .inl (fun _ => 0))), (q27, .inr (4, [.ref q16, .int 0, .int 0, .int 0, .int 0])), (q42, .inr (3, [.int 0, .int 0, .int 0, .ref q22_46, .ref q30_46, .ref q38_46, .ref q44_46])), (q22_46, .inl (cI, 8, .inl (fun _ => 0))), (q30_46, .inl (cI, 8, .inl (fun _ => 0))), (q38_46, .inl (cI, 8, .inl (fun _ => 0))), (q44_46, .inr (2, [.int 0, .int 0, .int 0])), (q53, .inr (3, [.int 0, .int 0, .int 0, .ref q22_57, .ref q30_57, .ref q38_57, .ref q44_57])), (q22_57, .inl (cI, 8, .inl (fun _ => 0))), (q30_57, .inl (cI, 8, .inl (fun _ => 0))), (q38_57, .inl (cI, 8, .inl (fun _ => 0))), (q44_57, .inr (2, [.int 0, .int 0, .int 0])), (q64, .inr (0, [.ref q8_68, .int 0, .int 0])), (q8_68, .inl (cI, 648, .inl (fun _ => 0))), (q75, .inr (7, [.ref q7_79, .ref q15_79, .int 0, .ref q28_79, .ref q36_79, .ref q42_79])), (q7_79, .inl (cI, 8, .inl (fun _ => 0))), (q15_79, .inl (cI, 8, .inl (fun _ => 0))), (q28_79, .inl (cI, 24, .inl (fun _ => 0))), (q36_79, .inl (cI, 24, .inl (fun _ => 0))), (q42_79, .inr (2, [.int 0, .int 0, .int 0]))] rfl ?_
  refine z_aload_n hC dX8_init_85 rfl 0 rfl ?_
  refine z_new (26, 1340) hC iX8_init_X1 tyX1_ok mX8_init_29 mX8_init_30 mX8_init_31 (ci := 1) rfl [.null, .int 0] (fun j hj => by rcases (show j = 0 ∨ j = 1 by omega) with rfl | rfl <;> rfl) rfl ⟨Nat.le_of_ble_eq_true rfl, Nat.le_of_ble_eq_true rfl⟩ dX8_init_86 (fun q86 => ?_)
  refine z_eq [(a_t, .inr (8, [.ref q5, .ref q16, .ref q27, .ref q42, .ref q53, .ref q64, .ref q75, .null, .null, .null, .int 0, .int 0])), (q5, .inr (5, [.ref q7_9, .ref q15_9, .ref q24_9])), (q7_9, .inl (cI, 8, .inl (upd (upd (upd (upd (upd (upd (upd (upd (fun _ => 0) 0 (-1)) 1 (-1)) 2 (-1)) 3 (-1)) 4 (-1)) 5 (-1)) 6 (-1)) 7 (-1)))), (q15_9, .inl (cI, 8, .inl (fun _ => 0))), (q24_9, .inl (cI, 320, .inl (fun _ => 0))), (q16, .inr (6, [.ref q8_20, .int 0])), (q8_20, .inl (cB, 200, .inl (fun _ => 0))), (q27, .inr (4, [.ref q16, .int 0, .int 0, .int 0, .int 0])), (q42, .inr (3, [.int 0, .int 0, .int 0, .ref q22_46, .ref q30_46, .ref q38_46, .ref q44_46])), (q22_46, .inl (cI, 8, .inl (fun _ => 0))), (q30_46, .inl (cI, 8, .inl (fun _ => 0))), (q38_46, .inl (cI, 8, .inl (fun _ => 0))), (q44_46, .inr (2, [.int 0, .int 0, .int 0])), (q53, .inr (3, [.int 0, .int 0, .int 0, .ref q22_57, .ref q30_57, .ref q38_57, .ref q44_57])), (q22_57, .inl (cI, 8, .inl (fun _ => 0))), (q30_57, .inl (cI, 8, .inl (fun _ => 0))), (q38_57, .inl (cI, 8, .inl (fun _ => 0))), (q44_57, .inr (2, [.int 0, .int 0, .int 0])), (q64, .inr (0, [.ref q8_68, .int 0, .int 0])), (q8_68, .inl (cI, 648, .inl (fun _ => 0))), (q75, .inr (7, [.ref q7_79, .ref q15_79, .int 0, .ref q28_79, .ref q36_79, .ref q42_79])), (q7_79, .inl (cI, 8, .inl (fun _ => 0))), (q15_79, .inl (cI, 8, .inl (fun _ => 0))), (q28_79, .inl (cI, 24, .inl (fun _ => 0))), (q36_79, .inl (cI, 24, .inl (fun _ => 0))), (q42_79, .inr (2, [.int 0, .int 0, .int 0])), (q86, .inr (1, [.null, .int 0]))] rfl ?_
  refine z_dup hC dX8_init_89 rfl ?_
  refine z_callI (27, 1356) hC hN [] [26] (c_X1_init (sK := sK) (sV := sV) (l := zl E) (D := zD E) (cI := cI) (cB := cB) (cZ := cZ) (a_t := q86)) rfl ⟨rfl, rfl⟩ gX8_init_X1_init mX8_init_31 mX8_init_97 mX8_init_98 rfl hsX1_init ⟨Nat.le_of_ble_eq_true rfl, Nat.le_of_ble_eq_true rfl⟩ rfl ⟨Nat.le_of_ble_eq_true rfl, Nat.le_of_ble_eq_true rfl⟩ rfl (Nat.le_of_ble_eq_true rfl) rfl (by decide) dX8_init_90 (fun u hu => ?_)
  obtain ⟨q7_90, rfl⟩ := hu
  refine ⟨[(q86, .inr (1, [.ref q7_90, .int 0]))], [(q7_90, .inl (cI, 16, .inl (fun _ => 0)))], rfl, rfl, ?_⟩
  refine z_eq [(a_t, .inr (8, [.ref q5, .ref q16, .ref q27, .ref q42, .ref q53, .ref q64, .ref q75, .null, .null, .null, .int 0, .int 0])), (q5, .inr (5, [.ref q7_9, .ref q15_9, .ref q24_9])), (q7_9, .inl (cI, 8, .inl (upd (upd (upd (upd (upd (upd (upd (upd (fun _ => 0) 0 (-1)) 1 (-1)) 2 (-1)) 3 (-1)) 4 (-1)) 5 (-1)) 6 (-1)) 7 (-1)))), (q15_9, .inl (cI, 8, .inl (fun _ => 0))), (q24_9, .inl (cI, 320, .inl (fun _ => 0))), (q16, .inr (6, [.ref q8_20, .int 0])), (q8_20, .inl (cB, 200, .inl (fun _ => 0))), (q27, .inr (4, [.ref q16, .int 0, .int 0, .int 0, .int 0])), (q42, .inr (3, [.int 0, .int 0, .int 0, .ref q22_46, .ref q30_46, .ref q38_46, .ref q44_46])), (q22_46, .inl (cI, 8, .inl (fun _ => 0))), (q30_46, .inl (cI, 8, .inl (fun _ => 0))), (q38_46, .inl (cI, 8, .inl (fun _ => 0))), (q44_46, .inr (2, [.int 0, .int 0, .int 0])), (q53, .inr (3, [.int 0, .int 0, .int 0, .ref q22_57, .ref q30_57, .ref q38_57, .ref q44_57])), (q22_57, .inl (cI, 8, .inl (fun _ => 0))), (q30_57, .inl (cI, 8, .inl (fun _ => 0))), (q38_57, .inl (cI, 8, .inl (fun _ => 0))), (q44_57, .inr (2, [.int 0, .int 0, .int 0])), (q64, .inr (0, [.ref q8_68, .int 0, .int 0])), (q8_68, .inl (cI, 648, .inl (fun _ => 0))), (q75, .inr (7, [.ref q7_79, .ref q15_79, .int 0, .ref q28_79, .ref q36_79, .ref q42_79])), (q7_79, .inl (cI, 8, .inl (fun _ => 0))), (q15_79, .inl (cI, 8, .inl (fun _ => 0))), (q28_79, .inl (cI, 24, .inl (fun _ => 0))), (q36_79, .inl (cI, 24, .inl (fun _ => 0))), (q42_79, .inr (2, [.int 0, .int 0, .int 0])), (q86, .inr (1, [.ref q7_90, .int 0])), (q7_90, .inl (cI, 16, .inl (fun _ => 0)))] rfl ?_
  refine z_putF hC iX8_init_X8 tyX8_ok nmX8 rfl 0 7 rfl (by decide) mX8_init_32 rfl rfl hin9 rfl rfl rfl (Nat.le_of_ble_eq_true rfl) dX8_init_93 ?_
  refine z_eq [(a_t, .inr (8, [.ref q5, .ref q16, .ref q27, .ref q42, .ref q53, .ref q64, .ref q75, .ref q86, .null, .null, .int 0, .int 0])), (q5, .inr (5, [.ref q7_9, .ref q15_9, .ref q24_9])), (q7_9, .inl (cI, 8, .inl (upd (upd (upd (upd (upd (upd (upd (upd (fun _ => 0) 0 (-1)) 1 (-1)) 2 (-1)) 3 (-1)) 4 (-1)) 5 (-1)) 6 (-1)) 7 (-1)))), (q15_9, .inl (cI, 8, .inl (fun _ => 0))), (q24_9, .inl (cI, 320, .inl (fun _ => 0))), (q16, .inr (6, [.ref q8_20, .int 0])), (q8_20, .inl (cB, 200, .inl (fun _ => 0))), (q27, .inr (4, [.ref q16, .int 0, .int 0, .int 0, .int 0])), (q42, .inr (3, [.int 0, .int 0, .int 0, .ref q22_46, .ref q30_46, .ref q38_46, .ref q44_46])), (q22_46, .inl (cI, 8, .inl (fun _ => 0))), (q30_46, .inl (cI, 8, .inl (fun _ => 0))), (q38_46, .inl (cI, 8, .inl (fun _ => 0))), (q44_46, .inr (2, [.int 0, .int 0, .int 0])), (q53, .inr (3, [.int 0, .int 0, .int 0, .ref q22_57, .ref q30_57, .ref q38_57, .ref q44_57])), (q22_57, .inl (cI, 8, .inl (fun _ => 0))), (q30_57, .inl (cI, 8, .inl (fun _ => 0))), (q38_57, .inl (cI, 8, .inl (fun _ => 0))), (q44_57, .inr (2, [.int 0, .int 0, .int 0])), (q64, .inr (0, [.ref q8_68, .int 0, .int 0])), (q8_68, .inl (cI, 648, .inl (fun _ => 0))), (q75, .inr (7, [.ref q7_79, .ref q15_79, .int 0, .ref q28_79, .ref q36_79, .ref q42_79])), (q7_79, .inl (cI, 8, .inl (fun _ => 0))), (q15_79, .inl (cI, 8, .inl (fun _ => 0))), (q28_79, .inl (cI, 24, .inl (fun _ => 0))), (q36_79, .inl (cI, 24, .inl (fun _ => 0))), (q42_79, .inr (2, [.int 0, .int 0, .int 0])), (q86, .inr (1, [.ref q7_90, .int 0])), (q7_90, .inl (cI, 16, .inl (fun _ => 0)))] rfl ?_
  refine z_aload_n hC dX8_init_96 rfl 0 rfl ?_
  refine z_bipush (v := 54) hC dX8_init_97 (by decide) ?_
  refine z_newarr (28, 1410) hC .int 54 54 0 rfl mX8_init_33 rfl rfl (fun _ => rfl) (by decide) (by decide) (Nat.le_of_ble_eq_true rfl) rfl ⟨Nat.le_of_ble_eq_true rfl, Nat.le_of_ble_eq_true rfl⟩ dX8_init_99 (fun q99 => ?_)
  refine z_eq [(a_t, .inr (8, [.ref q5, .ref q16, .ref q27, .ref q42, .ref q53, .ref q64, .ref q75, .ref q86, .null, .null, .int 0, .int 0])), (q5, .inr (5, [.ref q7_9, .ref q15_9, .ref q24_9])), (q7_9, .inl (cI, 8, .inl (upd (upd (upd (upd (upd (upd (upd (upd (fun _ => 0) 0 (-1)) 1 (-1)) 2 (-1)) 3 (-1)) 4 (-1)) 5 (-1)) 6 (-1)) 7 (-1)))), (q15_9, .inl (cI, 8, .inl (fun _ => 0))), (q24_9, .inl (cI, 320, .inl (fun _ => 0))), (q16, .inr (6, [.ref q8_20, .int 0])), (q8_20, .inl (cB, 200, .inl (fun _ => 0))), (q27, .inr (4, [.ref q16, .int 0, .int 0, .int 0, .int 0])), (q42, .inr (3, [.int 0, .int 0, .int 0, .ref q22_46, .ref q30_46, .ref q38_46, .ref q44_46])), (q22_46, .inl (cI, 8, .inl (fun _ => 0))), (q30_46, .inl (cI, 8, .inl (fun _ => 0))), (q38_46, .inl (cI, 8, .inl (fun _ => 0))), (q44_46, .inr (2, [.int 0, .int 0, .int 0])), (q53, .inr (3, [.int 0, .int 0, .int 0, .ref q22_57, .ref q30_57, .ref q38_57, .ref q44_57])), (q22_57, .inl (cI, 8, .inl (fun _ => 0))), (q30_57, .inl (cI, 8, .inl (fun _ => 0))), (q38_57, .inl (cI, 8, .inl (fun _ => 0))), (q44_57, .inr (2, [.int 0, .int 0, .int 0])), (q64, .inr (0, [.ref q8_68, .int 0, .int 0])), (q8_68, .inl (cI, 648, .inl (fun _ => 0))), (q75, .inr (7, [.ref q7_79, .ref q15_79, .int 0, .ref q28_79, .ref q36_79, .ref q42_79])), (q7_79, .inl (cI, 8, .inl (fun _ => 0))), (q15_79, .inl (cI, 8, .inl (fun _ => 0))), (q28_79, .inl (cI, 24, .inl (fun _ => 0))), (q36_79, .inl (cI, 24, .inl (fun _ => 0))), (q42_79, .inr (2, [.int 0, .int 0, .int 0])), (q86, .inr (1, [.ref q7_90, .int 0])), (q7_90, .inl (cI, 16, .inl (fun _ => 0))), (q99, .inl (cI, 54, .inl (fun _ => 0)))] rfl ?_
  refine z_putF hC iX8_init_X8 tyX8_ok nmX8 rfl 0 8 rfl (by decide) mX8_init_34 rfl rfl hin9 rfl rfl rfl (Nat.le_of_ble_eq_true rfl) dX8_init_101 ?_
  refine z_eq [(a_t, .inr (8, [.ref q5, .ref q16, .ref q27, .ref q42, .ref q53, .ref q64, .ref q75, .ref q86, .ref q99, .null, .int 0, .int 0])), (q5, .inr (5, [.ref q7_9, .ref q15_9, .ref q24_9])), (q7_9, .inl (cI, 8, .inl (upd (upd (upd (upd (upd (upd (upd (upd (fun _ => 0) 0 (-1)) 1 (-1)) 2 (-1)) 3 (-1)) 4 (-1)) 5 (-1)) 6 (-1)) 7 (-1)))), (q15_9, .inl (cI, 8, .inl (fun _ => 0))), (q24_9, .inl (cI, 320, .inl (fun _ => 0))), (q16, .inr (6, [.ref q8_20, .int 0])), (q8_20, .inl (cB, 200, .inl (fun _ => 0))), (q27, .inr (4, [.ref q16, .int 0, .int 0, .int 0, .int 0])), (q42, .inr (3, [.int 0, .int 0, .int 0, .ref q22_46, .ref q30_46, .ref q38_46, .ref q44_46])), (q22_46, .inl (cI, 8, .inl (fun _ => 0))), (q30_46, .inl (cI, 8, .inl (fun _ => 0))), (q38_46, .inl (cI, 8, .inl (fun _ => 0))), (q44_46, .inr (2, [.int 0, .int 0, .int 0])), (q53, .inr (3, [.int 0, .int 0, .int 0, .ref q22_57, .ref q30_57, .ref q38_57, .ref q44_57])), (q22_57, .inl (cI, 8, .inl (fun _ => 0))), (q30_57, .inl (cI, 8, .inl (fun _ => 0))), (q38_57, .inl (cI, 8, .inl (fun _ => 0))), (q44_57, .inr (2, [.int 0, .int 0, .int 0])), (q64, .inr (0, [.ref q8_68, .int 0, .int 0])), (q8_68, .inl (cI, 648, .inl (fun _ => 0))), (q75, .inr (7, [.ref q7_79, .ref q15_79, .int 0, .ref q28_79, .ref q36_79, .ref q42_79])), (q7_79, .inl (cI, 8, .inl (fun _ => 0))), (q15_79, .inl (cI, 8, .inl (fun _ => 0))), (q28_79, .inl (cI, 24, .inl (fun _ => 0))), (q36_79, .inl (cI, 24, .inl (fun _ => 0))), (q42_79, .inr (2, [.int 0, .int 0, .int 0])), (q86, .inr (1, [.ref q7_90, .int 0])), (q7_90, .inl (cI, 16, .inl (fun _ => 0))), (q99, .inl (cI, 54, .inl (fun _ => 0)))] rfl ?_
  refine z_aload_n hC dX8_init_104 rfl 0 rfl ?_
  refine z_ic2 hC dX8_init_105 ?_
  refine z_newarr (29, 1412) hC .boolean 2 2 2 rfl mX8_init_35 rfl rfl (fun _ => rfl) (by decide) (by decide) (Nat.le_of_ble_eq_true rfl) rfl ⟨Nat.le_of_ble_eq_true rfl, Nat.le_of_ble_eq_true rfl⟩ dX8_init_106 (fun q106 => ?_)
  refine z_eq [(a_t, .inr (8, [.ref q5, .ref q16, .ref q27, .ref q42, .ref q53, .ref q64, .ref q75, .ref q86, .ref q99, .null, .int 0, .int 0])), (q5, .inr (5, [.ref q7_9, .ref q15_9, .ref q24_9])), (q7_9, .inl (cI, 8, .inl (upd (upd (upd (upd (upd (upd (upd (upd (fun _ => 0) 0 (-1)) 1 (-1)) 2 (-1)) 3 (-1)) 4 (-1)) 5 (-1)) 6 (-1)) 7 (-1)))), (q15_9, .inl (cI, 8, .inl (fun _ => 0))), (q24_9, .inl (cI, 320, .inl (fun _ => 0))), (q16, .inr (6, [.ref q8_20, .int 0])), (q8_20, .inl (cB, 200, .inl (fun _ => 0))), (q27, .inr (4, [.ref q16, .int 0, .int 0, .int 0, .int 0])), (q42, .inr (3, [.int 0, .int 0, .int 0, .ref q22_46, .ref q30_46, .ref q38_46, .ref q44_46])), (q22_46, .inl (cI, 8, .inl (fun _ => 0))), (q30_46, .inl (cI, 8, .inl (fun _ => 0))), (q38_46, .inl (cI, 8, .inl (fun _ => 0))), (q44_46, .inr (2, [.int 0, .int 0, .int 0])), (q53, .inr (3, [.int 0, .int 0, .int 0, .ref q22_57, .ref q30_57, .ref q38_57, .ref q44_57])), (q22_57, .inl (cI, 8, .inl (fun _ => 0))), (q30_57, .inl (cI, 8, .inl (fun _ => 0))), (q38_57, .inl (cI, 8, .inl (fun _ => 0))), (q44_57, .inr (2, [.int 0, .int 0, .int 0])), (q64, .inr (0, [.ref q8_68, .int 0, .int 0])), (q8_68, .inl (cI, 648, .inl (fun _ => 0))), (q75, .inr (7, [.ref q7_79, .ref q15_79, .int 0, .ref q28_79, .ref q36_79, .ref q42_79])), (q7_79, .inl (cI, 8, .inl (fun _ => 0))), (q15_79, .inl (cI, 8, .inl (fun _ => 0))), (q28_79, .inl (cI, 24, .inl (fun _ => 0))), (q36_79, .inl (cI, 24, .inl (fun _ => 0))), (q42_79, .inr (2, [.int 0, .int 0, .int 0])), (q86, .inr (1, [.ref q7_90, .int 0])), (q7_90, .inl (cI, 16, .inl (fun _ => 0))), (q99, .inl (cI, 54, .inl (fun _ => 0))), (q106, .inl (cZ, 2, .inl (fun _ => 0)))] rfl ?_
  refine z_putF hC iX8_init_X8 tyX8_ok nmX8 rfl 0 9 rfl (by decide) mX8_init_36 rfl rfl hin9 rfl rfl rfl (Nat.le_of_ble_eq_true rfl) dX8_init_108 ?_
  refine z_eq [(a_t, .inr (8, [.ref q5, .ref q16, .ref q27, .ref q42, .ref q53, .ref q64, .ref q75, .ref q86, .ref q99, .ref q106, .int 0, .int 0])), (q5, .inr (5, [.ref q7_9, .ref q15_9, .ref q24_9])), (q7_9, .inl (cI, 8, .inl (upd (upd (upd (upd (upd (upd (upd (upd (fun _ => 0) 0 (-1)) 1 (-1)) 2 (-1)) 3 (-1)) 4 (-1)) 5 (-1)) 6 (-1)) 7 (-1)))), (q15_9, .inl (cI, 8, .inl (fun _ => 0))), (q24_9, .inl (cI, 320, .inl (fun _ => 0))), (q16, .inr (6, [.ref q8_20, .int 0])), (q8_20, .inl (cB, 200, .inl (fun _ => 0))), (q27, .inr (4, [.ref q16, .int 0, .int 0, .int 0, .int 0])), (q42, .inr (3, [.int 0, .int 0, .int 0, .ref q22_46, .ref q30_46, .ref q38_46, .ref q44_46])), (q22_46, .inl (cI, 8, .inl (fun _ => 0))), (q30_46, .inl (cI, 8, .inl (fun _ => 0))), (q38_46, .inl (cI, 8, .inl (fun _ => 0))), (q44_46, .inr (2, [.int 0, .int 0, .int 0])), (q53, .inr (3, [.int 0, .int 0, .int 0, .ref q22_57, .ref q30_57, .ref q38_57, .ref q44_57])), (q22_57, .inl (cI, 8, .inl (fun _ => 0))), (q30_57, .inl (cI, 8, .inl (fun _ => 0))), (q38_57, .inl (cI, 8, .inl (fun _ => 0))), (q44_57, .inr (2, [.int 0, .int 0, .int 0])), (q64, .inr (0, [.ref q8_68, .int 0, .int 0])), (q8_68, .inl (cI, 648, .inl (fun _ => 0))), (q75, .inr (7, [.ref q7_79, .ref q15_79, .int 0, .ref q28_79, .ref q36_79, .ref q42_79])), (q7_79, .inl (cI, 8, .inl (fun _ => 0))), (q15_79, .inl (cI, 8, .inl (fun _ => 0))), (q28_79, .inl (cI, 24, .inl (fun _ => 0))), (q36_79, .inl (cI, 24, .inl (fun _ => 0))), (q42_79, .inr (2, [.int 0, .int 0, .int 0])), (q86, .inr (1, [.ref q7_90, .int 0])), (q7_90, .inl (cI, 16, .inl (fun _ => 0))), (q99, .inl (cI, 54, .inl (fun _ => 0))), (q106, .inl (cZ, 2, .inl (fun _ => 0)))] rfl ?_
  refine z_aload_n hC dX8_init_111 rfl 0 rfl ?_
  refine z_ic0 hC dX8_init_112 ?_
  refine z_put hC iX8_init_X8 tyX8_ok nmX8 rfl 0 10 rfl (by decide) mX8_init_37 rfl rfl rfl rfl (Nat.le_of_ble_eq_true rfl) dX8_init_113 ?_
  refine z_eq [(a_t, .inr (8, [.ref q5, .ref q16, .ref q27, .ref q42, .ref q53, .ref q64, .ref q75, .ref q86, .ref q99, .ref q106, .int 0, .int 0])), (q5, .inr (5, [.ref q7_9, .ref q15_9, .ref q24_9])), (q7_9, .inl (cI, 8, .inl (upd (upd (upd (upd (upd (upd (upd (upd (fun _ => 0) 0 (-1)) 1 (-1)) 2 (-1)) 3 (-1)) 4 (-1)) 5 (-1)) 6 (-1)) 7 (-1)))), (q15_9, .inl (cI, 8, .inl (fun _ => 0))), (q24_9, .inl (cI, 320, .inl (fun _ => 0))), (q16, .inr (6, [.ref q8_20, .int 0])), (q8_20, .inl (cB, 200, .inl (fun _ => 0))), (q27, .inr (4, [.ref q16, .int 0, .int 0, .int 0, .int 0])), (q42, .inr (3, [.int 0, .int 0, .int 0, .ref q22_46, .ref q30_46, .ref q38_46, .ref q44_46])), (q22_46, .inl (cI, 8, .inl (fun _ => 0))), (q30_46, .inl (cI, 8, .inl (fun _ => 0))), (q38_46, .inl (cI, 8, .inl (fun _ => 0))), (q44_46, .inr (2, [.int 0, .int 0, .int 0])), (q53, .inr (3, [.int 0, .int 0, .int 0, .ref q22_57, .ref q30_57, .ref q38_57, .ref q44_57])), (q22_57, .inl (cI, 8, .inl (fun _ => 0))), (q30_57, .inl (cI, 8, .inl (fun _ => 0))), (q38_57, .inl (cI, 8, .inl (fun _ => 0))), (q44_57, .inr (2, [.int 0, .int 0, .int 0])), (q64, .inr (0, [.ref q8_68, .int 0, .int 0])), (q8_68, .inl (cI, 648, .inl (fun _ => 0))), (q75, .inr (7, [.ref q7_79, .ref q15_79, .int 0, .ref q28_79, .ref q36_79, .ref q42_79])), (q7_79, .inl (cI, 8, .inl (fun _ => 0))), (q15_79, .inl (cI, 8, .inl (fun _ => 0))), (q28_79, .inl (cI, 24, .inl (fun _ => 0))), (q36_79, .inl (cI, 24, .inl (fun _ => 0))), (q42_79, .inr (2, [.int 0, .int 0, .int 0])), (q86, .inr (1, [.ref q7_90, .int 0])), (q7_90, .inl (cI, 16, .inl (fun _ => 0))), (q99, .inl (cI, 54, .inl (fun _ => 0))), (q106, .inl (cZ, 2, .inl (fun _ => 0)))] rfl ?_
  refine z_aload_n hC dX8_init_116 rfl 0 rfl ?_
  refine z_ic0 hC dX8_init_117 ?_
  refine z_put hC iX8_init_X8 tyX8_ok nmX8 rfl 0 11 rfl (by decide) mX8_init_38 rfl rfl rfl rfl (Nat.le_of_ble_eq_true rfl) dX8_init_118 ?_
  refine z_eq [(a_t, .inr (8, [.ref q5, .ref q16, .ref q27, .ref q42, .ref q53, .ref q64, .ref q75, .ref q86, .ref q99, .ref q106, .int 0, .int 0])), (q5, .inr (5, [.ref q7_9, .ref q15_9, .ref q24_9])), (q7_9, .inl (cI, 8, .inl (upd (upd (upd (upd (upd (upd (upd (upd (fun _ => 0) 0 (-1)) 1 (-1)) 2 (-1)) 3 (-1)) 4 (-1)) 5 (-1)) 6 (-1)) 7 (-1)))), (q15_9, .inl (cI, 8, .inl (fun _ => 0))), (q24_9, .inl (cI, 320, .inl (fun _ => 0))), (q16, .inr (6, [.ref q8_20, .int 0])), (q8_20, .inl (cB, 200, .inl (fun _ => 0))), (q27, .inr (4, [.ref q16, .int 0, .int 0, .int 0, .int 0])), (q42, .inr (3, [.int 0, .int 0, .int 0, .ref q22_46, .ref q30_46, .ref q38_46, .ref q44_46])), (q22_46, .inl (cI, 8, .inl (fun _ => 0))), (q30_46, .inl (cI, 8, .inl (fun _ => 0))), (q38_46, .inl (cI, 8, .inl (fun _ => 0))), (q44_46, .inr (2, [.int 0, .int 0, .int 0])), (q53, .inr (3, [.int 0, .int 0, .int 0, .ref q22_57, .ref q30_57, .ref q38_57, .ref q44_57])), (q22_57, .inl (cI, 8, .inl (fun _ => 0))), (q30_57, .inl (cI, 8, .inl (fun _ => 0))), (q38_57, .inl (cI, 8, .inl (fun _ => 0))), (q44_57, .inr (2, [.int 0, .int 0, .int 0])), (q64, .inr (0, [.ref q8_68, .int 0, .int 0])), (q8_68, .inl (cI, 648, .inl (fun _ => 0))), (q75, .inr (7, [.ref q7_79, .ref q15_79, .int 0, .ref q28_79, .ref q36_79, .ref q42_79])), (q7_79, .inl (cI, 8, .inl (fun _ => 0))), (q15_79, .inl (cI, 8, .inl (fun _ => 0))), (q28_79, .inl (cI, 24, .inl (fun _ => 0))), (q36_79, .inl (cI, 24, .inl (fun _ => 0))), (q42_79, .inr (2, [.int 0, .int 0, .int 0])), (q86, .inr (1, [.ref q7_90, .int 0])), (q7_90, .inl (cI, 16, .inl (fun _ => 0))), (q99, .inl (cI, 54, .inl (fun _ => 0))), (q106, .inl (cZ, 2, .inl (fun _ => 0)))] rfl ?_
  exact z_cret hC hQ ⟨q5, q7_9, q15_9, q24_9, q16, q8_20, q27, q42, q22_46, q30_46, q38_46, q44_46, q53, q22_57, q30_57, q38_57, q44_57, q64, q8_68, q75, q7_79, q15_79, q28_79, q36_79, q42_79, q86, q7_90, q99, q106, rfl⟩ dX8_init_121

/-! FistTrainsModel.<init> -/
abbrev rmX9_init : Room := { frames := 1, cells := 17, slots := 1402, locals := 20 }
set_option maxRecDepth 20000 in
theorem mX9_init_1 : Cond.methodLink RX9 1 objectInit ∈ wsX9_init := List.mem_of_getElem? (i := 1) rfl
set_option maxRecDepth 20000 in
theorem mX9_init_2 : Cond.instanceMethod objectInit ∈ wsX9_init := List.mem_of_getElem? (i := 2) rfl
set_option maxRecDepth 20000 in
theorem mX9_init_3 : Cond.code objectInit ⟨#[0xb1]⟩ 1 none ∈ wsX9_init := List.mem_of_getElem? (i := 3) rfl
set_option maxRecDepth 20000 in
theorem mX9_init_4 : Cond.arrayClass .int ∈ wsX9_init := List.mem_of_getElem? (i := 4) rfl
set_option maxRecDepth 20000 in
theorem mX9_init_5 : Cond.fieldLink RX9 7 "FistTrainsModel" "now" "[I" ∈ wsX9_init := List.mem_of_getElem? (i := 5) rfl
set_option maxRecDepth 20000 in
theorem iX9_init_X9 : ∀ w ∈ wsX90, w ∈ wsX9_init := by decide +kernel
set_option maxRecDepth 20000 in
theorem mX9_init_6 : Cond.fieldLink RX9 13 "FistTrainsModel" "kept" "[I" ∈ wsX9_init := List.mem_of_getElem? (i := 6) rfl
set_option maxRecDepth 20000 in
theorem mX9_init_7 : Cond.arrayClass .boolean ∈ wsX9_init := List.mem_of_getElem? (i := 7) rfl
set_option maxRecDepth 20000 in
theorem mX9_init_8 : Cond.fieldLink RX9 16 "FistTrainsModel" "isKept" "[Z" ∈ wsX9_init := List.mem_of_getElem? (i := 8) rfl
set_option maxRecDepth 20000 in
theorem mX9_init_9 : Cond.fieldLink RX9 20 "FistTrainsModel" "acts" "[I" ∈ wsX9_init := List.mem_of_getElem? (i := 9) rfl
set_option maxRecDepth 20000 in
theorem mX9_init_10 : Cond.fieldLink RX9 23 "FistTrainsModel" "was" "[I" ∈ wsX9_init := List.mem_of_getElem? (i := 10) rfl
set_option maxRecDepth 20000 in
theorem mX9_init_11 : Cond.fieldLink RX9 26 "FistTrainsModel" "lanes" "[I" ∈ wsX9_init := List.mem_of_getElem? (i := 11) rfl
set_option maxRecDepth 20000 in
theorem mX9_init_12 : Cond.fieldLink RX9 29 "FistTrainsModel" "longs" "[I" ∈ wsX9_init := List.mem_of_getElem? (i := 12) rfl
set_option maxRecDepth 20000 in
theorem mX9_init_13 : Cond.fieldLink RX9 32 "FistTrainsModel" "isThere" "[Z" ∈ wsX9_init := List.mem_of_getElem? (i := 13) rfl
set_option maxRecDepth 20000 in
theorem mX9_init_14 : Cond.fieldLink RX9 35 "FistTrainsModel" "items" "[I" ∈ wsX9_init := List.mem_of_getElem? (i := 14) rfl
set_option maxRecDepth 20000 in
theorem mX9_init_15 : Cond.fieldLink RX9 38 "FistTrainsModel" "copied" "[I" ∈ wsX9_init := List.mem_of_getElem? (i := 15) rfl
set_option maxRecDepth 20000 in
theorem mX9_init_16 : Cond.fieldLink RX9 41 "FistTrainsModel" "tape" "[I" ∈ wsX9_init := List.mem_of_getElem? (i := 16) rfl
set_option maxRecDepth 20000 in
theorem mX9_init_17 : Cond.fieldLink RX9 44 "FistTrainsModel" "readSorts" "[I" ∈ wsX9_init := List.mem_of_getElem? (i := 17) rfl
set_option maxRecDepth 20000 in
theorem mX9_init_18 : Cond.fieldLink RX9 47 "FistTrainsModel" "readHands" "[I" ∈ wsX9_init := List.mem_of_getElem? (i := 18) rfl
set_option maxRecDepth 20000 in
theorem mX9_init_19 : Cond.fieldLink RX9 50 "FistTrainsModel" "inTurn" "[I" ∈ wsX9_init := List.mem_of_getElem? (i := 19) rfl
set_option maxRecDepth 20000 in
theorem mX9_init_20 : Cond.fieldLink RX9 53 "FistTrainsModel" "ends" "[I" ∈ wsX9_init := List.mem_of_getElem? (i := 20) rfl
set_option maxRecDepth 20000 in
theorem mX9_init_21 : Cond.fieldLink RX9 56 "FistTrainsModel" "bestHands" "[I" ∈ wsX9_init := List.mem_of_getElem? (i := 21) rfl
set_option maxRecDepth 20000 in
theorem mX9_init_22 : Cond.fieldLink RX9 59 "FistTrainsModel" "traces" "[I" ∈ wsX9_init := List.mem_of_getElem? (i := 22) rfl
set_option maxHeartbeats 4000000 in
set_option maxRecDepth 100000 in
theorem c_X9_init {sK sV : Nat → Nat} {l : Launch} {D : va_G} {cI cB cZ : ClassId} {a_t : Nat} : ZMc sK sV l yX9_init wsX9_init rmX9_init D (zty cI cB cZ) [.ref a_t] [(a_t, .inr (9, [.null, .null, .null, .null, .int 0, .null, .int 0, .null, .null, .null, .null, .null, .null, .int 0, .int 0, .int 0, .int 0, .int 0, .int 0, .null, .null, .int 0, .int 0, .int 0, .int 0, .null, .null, .null, .int 0, .null, .int 0]))] 17 1402 (fun u => ∃ q7 q15 q22 q31 q39 q47 q55 q63 q72 q80 q89 q97 q105 q113 q121 q129 q137 : Nat, u = [(a_t, .inr (9, [.ref q7, .ref q15, .ref q22, .ref q31, .int 0, .ref q39, .int 0, .ref q47, .ref q55, .ref q63, .ref q72, .ref q80, .ref q89, .int 0, .int 0, .int 0, .int 0, .int 0, .int 0, .ref q97, .ref q105, .int 0, .int 0, .int 0, .int 0, .ref q113, .ref q121, .ref q129, .int 0, .ref q137, .int 0])), (q7, .inl (cI, 27, .inl (fun _ => 0))), (q15, .inl (cI, 54, .inl (fun _ => 0))), (q22, .inl (cZ, 2, .inl (fun _ => 0))), (q31, .inl (cI, 648, .inl (fun _ => 0))), (q39, .inl (cI, 27, .inl (fun _ => 0))), (q47, .inl (cI, 8, .inl (fun _ => 0))), (q55, .inl (cI, 8, .inl (fun _ => 0))), (q63, .inl (cZ, 8, .inl (fun _ => 0))), (q72, .inl (cI, 320, .inl (fun _ => 0))), (q80, .inl (cI, 40, .inl (fun _ => 0))), (q89, .inl (cI, 200, .inl (fun _ => 0))), (q97, .inl (cI, 8, .inl (fun _ => 0))), (q105, .inl (cI, 8, .inl (fun _ => 0))), (q113, .inl (cI, 8, .inl (fun _ => 0))), (q121, .inl (cI, 12, .inl (fun _ => 0))), (q129, .inl (cI, 8, .inl (fun _ => 0))), (q137, .inl (cI, 16, .inl (fun _ => 0)))]) := by
  refine zc_of (cc := cX9_init) (maxL := 1) (ret := none) (by decide) rfl (Nat.le_of_ble_eq_true rfl) rfl (fun E hE1 hE2 hC hN hin9 hQ => ?_)
  subst hE1 hE2
  refine z_aload_n hC dX9_init_0 rfl 0 rfl ?_
  refine z_oinit hC mX9_init_1 mX9_init_2 mX9_init_3 (Nat.le_of_ble_eq_true rfl) (Nat.le_of_ble_eq_true rfl) dX9_init_1 ?_
  refine z_aload_n hC dX9_init_4 rfl 0 rfl ?_
  refine z_bipush (v := 27) hC dX9_init_5 (by decide) ?_
  refine z_newarr (1, 27) hC .int 27 27 0 rfl mX9_init_4 rfl rfl (fun _ => rfl) (by decide) (by decide) (Nat.le_of_ble_eq_true rfl) rfl ⟨Nat.le_of_ble_eq_true rfl, Nat.le_of_ble_eq_true rfl⟩ dX9_init_7 (fun q7 => ?_)
  refine z_eq [(a_t, .inr (9, [.null, .null, .null, .null, .int 0, .null, .int 0, .null, .null, .null, .null, .null, .null, .int 0, .int 0, .int 0, .int 0, .int 0, .int 0, .null, .null, .int 0, .int 0, .int 0, .int 0, .null, .null, .null, .int 0, .null, .int 0])), (q7, .inl (cI, 27, .inl (fun _ => 0)))] rfl ?_
  refine z_putF hC iX9_init_X9 tyX9_ok nmX9 rfl 0 0 rfl (by decide) mX9_init_5 rfl rfl hin9 rfl rfl rfl (Nat.le_of_ble_eq_true rfl) dX9_init_9 ?_
  refine z_eq [(a_t, .inr (9, [.ref q7, .null, .null, .null, .int 0, .null, .int 0, .null, .null, .null, .null, .null, .null, .int 0, .int 0, .int 0, .int 0, .int 0, .int 0, .null, .null, .int 0, .int 0, .int 0, .int 0, .null, .null, .null, .int 0, .null, .int 0])), (q7, .inl (cI, 27, .inl (fun _ => 0)))] rfl ?_
  refine z_aload_n hC dX9_init_12 rfl 0 rfl ?_
  refine z_bipush (v := 54) hC dX9_init_13 (by decide) ?_
  refine z_newarr (2, 81) hC .int 54 54 0 rfl mX9_init_4 rfl rfl (fun _ => rfl) (by decide) (by decide) (Nat.le_of_ble_eq_true rfl) rfl ⟨Nat.le_of_ble_eq_true rfl, Nat.le_of_ble_eq_true rfl⟩ dX9_init_15 (fun q15 => ?_)
  refine z_eq [(a_t, .inr (9, [.ref q7, .null, .null, .null, .int 0, .null, .int 0, .null, .null, .null, .null, .null, .null, .int 0, .int 0, .int 0, .int 0, .int 0, .int 0, .null, .null, .int 0, .int 0, .int 0, .int 0, .null, .null, .null, .int 0, .null, .int 0])), (q7, .inl (cI, 27, .inl (fun _ => 0))), (q15, .inl (cI, 54, .inl (fun _ => 0)))] rfl ?_
  refine z_putF hC iX9_init_X9 tyX9_ok nmX9 rfl 0 1 rfl (by decide) mX9_init_6 rfl rfl hin9 rfl rfl rfl (Nat.le_of_ble_eq_true rfl) dX9_init_17 ?_
  refine z_eq [(a_t, .inr (9, [.ref q7, .ref q15, .null, .null, .int 0, .null, .int 0, .null, .null, .null, .null, .null, .null, .int 0, .int 0, .int 0, .int 0, .int 0, .int 0, .null, .null, .int 0, .int 0, .int 0, .int 0, .null, .null, .null, .int 0, .null, .int 0])), (q7, .inl (cI, 27, .inl (fun _ => 0))), (q15, .inl (cI, 54, .inl (fun _ => 0)))] rfl ?_
  refine z_aload_n hC dX9_init_20 rfl 0 rfl ?_
  refine z_ic2 hC dX9_init_21 ?_
  refine z_newarr (3, 83) hC .boolean 2 2 2 rfl mX9_init_7 rfl rfl (fun _ => rfl) (by decide) (by decide) (Nat.le_of_ble_eq_true rfl) rfl ⟨Nat.le_of_ble_eq_true rfl, Nat.le_of_ble_eq_true rfl⟩ dX9_init_22 (fun q22 => ?_)
  refine z_eq [(a_t, .inr (9, [.ref q7, .ref q15, .null, .null, .int 0, .null, .int 0, .null, .null, .null, .null, .null, .null, .int 0, .int 0, .int 0, .int 0, .int 0, .int 0, .null, .null, .int 0, .int 0, .int 0, .int 0, .null, .null, .null, .int 0, .null, .int 0])), (q7, .inl (cI, 27, .inl (fun _ => 0))), (q15, .inl (cI, 54, .inl (fun _ => 0))), (q22, .inl (cZ, 2, .inl (fun _ => 0)))] rfl ?_
  refine z_putF hC iX9_init_X9 tyX9_ok nmX9 rfl 0 2 rfl (by decide) mX9_init_8 rfl rfl hin9 rfl rfl rfl (Nat.le_of_ble_eq_true rfl) dX9_init_24 ?_
  refine z_eq [(a_t, .inr (9, [.ref q7, .ref q15, .ref q22, .null, .int 0, .null, .int 0, .null, .null, .null, .null, .null, .null, .int 0, .int 0, .int 0, .int 0, .int 0, .int 0, .null, .null, .int 0, .int 0, .int 0, .int 0, .null, .null, .null, .int 0, .null, .int 0])), (q7, .inl (cI, 27, .inl (fun _ => 0))), (q15, .inl (cI, 54, .inl (fun _ => 0))), (q22, .inl (cZ, 2, .inl (fun _ => 0)))] rfl ?_
  refine z_aload_n hC dX9_init_27 rfl 0 rfl ?_
  refine z_sipush (v := 648) hC dX9_init_28 (by decide) ?_
  refine z_newarr (4, 731) hC .int 648 648 0 rfl mX9_init_4 rfl rfl (fun _ => rfl) (by decide) (by decide) (Nat.le_of_ble_eq_true rfl) rfl ⟨Nat.le_of_ble_eq_true rfl, Nat.le_of_ble_eq_true rfl⟩ dX9_init_31 (fun q31 => ?_)
  refine z_eq [(a_t, .inr (9, [.ref q7, .ref q15, .ref q22, .null, .int 0, .null, .int 0, .null, .null, .null, .null, .null, .null, .int 0, .int 0, .int 0, .int 0, .int 0, .int 0, .null, .null, .int 0, .int 0, .int 0, .int 0, .null, .null, .null, .int 0, .null, .int 0])), (q7, .inl (cI, 27, .inl (fun _ => 0))), (q15, .inl (cI, 54, .inl (fun _ => 0))), (q22, .inl (cZ, 2, .inl (fun _ => 0))), (q31, .inl (cI, 648, .inl (fun _ => 0)))] rfl ?_
  refine z_putF hC iX9_init_X9 tyX9_ok nmX9 rfl 0 3 rfl (by decide) mX9_init_9 rfl rfl hin9 rfl rfl rfl (Nat.le_of_ble_eq_true rfl) dX9_init_33 ?_
  refine z_eq [(a_t, .inr (9, [.ref q7, .ref q15, .ref q22, .ref q31, .int 0, .null, .int 0, .null, .null, .null, .null, .null, .null, .int 0, .int 0, .int 0, .int 0, .int 0, .int 0, .null, .null, .int 0, .int 0, .int 0, .int 0, .null, .null, .null, .int 0, .null, .int 0])), (q7, .inl (cI, 27, .inl (fun _ => 0))), (q15, .inl (cI, 54, .inl (fun _ => 0))), (q22, .inl (cZ, 2, .inl (fun _ => 0))), (q31, .inl (cI, 648, .inl (fun _ => 0)))] rfl ?_
  refine z_aload_n hC dX9_init_36 rfl 0 rfl ?_
  refine z_bipush (v := 27) hC dX9_init_37 (by decide) ?_
  refine z_newarr (5, 758) hC .int 27 27 0 rfl mX9_init_4 rfl rfl (fun _ => rfl) (by decide) (by decide) (Nat.le_of_ble_eq_true rfl) rfl ⟨Nat.le_of_ble_eq_true rfl, Nat.le_of_ble_eq_true rfl⟩ dX9_init_39 (fun q39 => ?_)
  refine z_eq [(a_t, .inr (9, [.ref q7, .ref q15, .ref q22, .ref q31, .int 0, .null, .int 0, .null, .null, .null, .null, .null, .null, .int 0, .int 0, .int 0, .int 0, .int 0, .int 0, .null, .null, .int 0, .int 0, .int 0, .int 0, .null, .null, .null, .int 0, .null, .int 0])), (q7, .inl (cI, 27, .inl (fun _ => 0))), (q15, .inl (cI, 54, .inl (fun _ => 0))), (q22, .inl (cZ, 2, .inl (fun _ => 0))), (q31, .inl (cI, 648, .inl (fun _ => 0))), (q39, .inl (cI, 27, .inl (fun _ => 0)))] rfl ?_
  refine z_putF hC iX9_init_X9 tyX9_ok nmX9 rfl 0 5 rfl (by decide) mX9_init_10 rfl rfl hin9 rfl rfl rfl (Nat.le_of_ble_eq_true rfl) dX9_init_41 ?_
  refine z_eq [(a_t, .inr (9, [.ref q7, .ref q15, .ref q22, .ref q31, .int 0, .ref q39, .int 0, .null, .null, .null, .null, .null, .null, .int 0, .int 0, .int 0, .int 0, .int 0, .int 0, .null, .null, .int 0, .int 0, .int 0, .int 0, .null, .null, .null, .int 0, .null, .int 0])), (q7, .inl (cI, 27, .inl (fun _ => 0))), (q15, .inl (cI, 54, .inl (fun _ => 0))), (q22, .inl (cZ, 2, .inl (fun _ => 0))), (q31, .inl (cI, 648, .inl (fun _ => 0))), (q39, .inl (cI, 27, .inl (fun _ => 0)))] rfl ?_
  refine z_aload_n hC dX9_init_44 rfl 0 rfl ?_
  refine z_bipush (v := 8) hC dX9_init_45 (by decide) ?_
  refine z_newarr (6, 766) hC .int 8 8 0 rfl mX9_init_4 rfl rfl (fun _ => rfl) (by decide) (by decide) (Nat.le_of_ble_eq_true rfl) rfl ⟨Nat.le_of_ble_eq_true rfl, Nat.le_of_ble_eq_true rfl⟩ dX9_init_47 (fun q47 => ?_)
  refine z_eq [(a_t, .inr (9, [.ref q7, .ref q15, .ref q22, .ref q31, .int 0, .ref q39, .int 0, .null, .null, .null, .null, .null, .null, .int 0, .int 0, .int 0, .int 0, .int 0, .int 0, .null, .null, .int 0, .int 0, .int 0, .int 0, .null, .null, .null, .int 0, .null, .int 0])), (q7, .inl (cI, 27, .inl (fun _ => 0))), (q15, .inl (cI, 54, .inl (fun _ => 0))), (q22, .inl (cZ, 2, .inl (fun _ => 0))), (q31, .inl (cI, 648, .inl (fun _ => 0))), (q39, .inl (cI, 27, .inl (fun _ => 0))), (q47, .inl (cI, 8, .inl (fun _ => 0)))] rfl ?_
  refine z_putF hC iX9_init_X9 tyX9_ok nmX9 rfl 0 7 rfl (by decide) mX9_init_11 rfl rfl hin9 rfl rfl rfl (Nat.le_of_ble_eq_true rfl) dX9_init_49 ?_
  refine z_eq [(a_t, .inr (9, [.ref q7, .ref q15, .ref q22, .ref q31, .int 0, .ref q39, .int 0, .ref q47, .null, .null, .null, .null, .null, .int 0, .int 0, .int 0, .int 0, .int 0, .int 0, .null, .null, .int 0, .int 0, .int 0, .int 0, .null, .null, .null, .int 0, .null, .int 0])), (q7, .inl (cI, 27, .inl (fun _ => 0))), (q15, .inl (cI, 54, .inl (fun _ => 0))), (q22, .inl (cZ, 2, .inl (fun _ => 0))), (q31, .inl (cI, 648, .inl (fun _ => 0))), (q39, .inl (cI, 27, .inl (fun _ => 0))), (q47, .inl (cI, 8, .inl (fun _ => 0)))] rfl ?_
  refine z_aload_n hC dX9_init_52 rfl 0 rfl ?_
  refine z_bipush (v := 8) hC dX9_init_53 (by decide) ?_
  refine z_newarr (7, 774) hC .int 8 8 0 rfl mX9_init_4 rfl rfl (fun _ => rfl) (by decide) (by decide) (Nat.le_of_ble_eq_true rfl) rfl ⟨Nat.le_of_ble_eq_true rfl, Nat.le_of_ble_eq_true rfl⟩ dX9_init_55 (fun q55 => ?_)
  refine z_eq [(a_t, .inr (9, [.ref q7, .ref q15, .ref q22, .ref q31, .int 0, .ref q39, .int 0, .ref q47, .null, .null, .null, .null, .null, .int 0, .int 0, .int 0, .int 0, .int 0, .int 0, .null, .null, .int 0, .int 0, .int 0, .int 0, .null, .null, .null, .int 0, .null, .int 0])), (q7, .inl (cI, 27, .inl (fun _ => 0))), (q15, .inl (cI, 54, .inl (fun _ => 0))), (q22, .inl (cZ, 2, .inl (fun _ => 0))), (q31, .inl (cI, 648, .inl (fun _ => 0))), (q39, .inl (cI, 27, .inl (fun _ => 0))), (q47, .inl (cI, 8, .inl (fun _ => 0))), (q55, .inl (cI, 8, .inl (fun _ => 0)))] rfl ?_
  refine z_putF hC iX9_init_X9 tyX9_ok nmX9 rfl 0 8 rfl (by decide) mX9_init_12 rfl rfl hin9 rfl rfl rfl (Nat.le_of_ble_eq_true rfl) dX9_init_57 ?_
  refine z_eq [(a_t, .inr (9, [.ref q7, .ref q15, .ref q22, .ref q31, .int 0, .ref q39, .int 0, .ref q47, .ref q55, .null, .null, .null, .null, .int 0, .int 0, .int 0, .int 0, .int 0, .int 0, .null, .null, .int 0, .int 0, .int 0, .int 0, .null, .null, .null, .int 0, .null, .int 0])), (q7, .inl (cI, 27, .inl (fun _ => 0))), (q15, .inl (cI, 54, .inl (fun _ => 0))), (q22, .inl (cZ, 2, .inl (fun _ => 0))), (q31, .inl (cI, 648, .inl (fun _ => 0))), (q39, .inl (cI, 27, .inl (fun _ => 0))), (q47, .inl (cI, 8, .inl (fun _ => 0))), (q55, .inl (cI, 8, .inl (fun _ => 0)))] rfl ?_
  refine z_aload_n hC dX9_init_60 rfl 0 rfl ?_
  refine z_bipush (v := 8) hC dX9_init_61 (by decide) ?_
  refine z_newarr (8, 782) hC .boolean 8 8 2 rfl mX9_init_7 rfl rfl (fun _ => rfl) (by decide) (by decide) (Nat.le_of_ble_eq_true rfl) rfl ⟨Nat.le_of_ble_eq_true rfl, Nat.le_of_ble_eq_true rfl⟩ dX9_init_63 (fun q63 => ?_)
  refine z_eq [(a_t, .inr (9, [.ref q7, .ref q15, .ref q22, .ref q31, .int 0, .ref q39, .int 0, .ref q47, .ref q55, .null, .null, .null, .null, .int 0, .int 0, .int 0, .int 0, .int 0, .int 0, .null, .null, .int 0, .int 0, .int 0, .int 0, .null, .null, .null, .int 0, .null, .int 0])), (q7, .inl (cI, 27, .inl (fun _ => 0))), (q15, .inl (cI, 54, .inl (fun _ => 0))), (q22, .inl (cZ, 2, .inl (fun _ => 0))), (q31, .inl (cI, 648, .inl (fun _ => 0))), (q39, .inl (cI, 27, .inl (fun _ => 0))), (q47, .inl (cI, 8, .inl (fun _ => 0))), (q55, .inl (cI, 8, .inl (fun _ => 0))), (q63, .inl (cZ, 8, .inl (fun _ => 0)))] rfl ?_
  refine z_putF hC iX9_init_X9 tyX9_ok nmX9 rfl 0 9 rfl (by decide) mX9_init_13 rfl rfl hin9 rfl rfl rfl (Nat.le_of_ble_eq_true rfl) dX9_init_65 ?_
  refine z_eq [(a_t, .inr (9, [.ref q7, .ref q15, .ref q22, .ref q31, .int 0, .ref q39, .int 0, .ref q47, .ref q55, .ref q63, .null, .null, .null, .int 0, .int 0, .int 0, .int 0, .int 0, .int 0, .null, .null, .int 0, .int 0, .int 0, .int 0, .null, .null, .null, .int 0, .null, .int 0])), (q7, .inl (cI, 27, .inl (fun _ => 0))), (q15, .inl (cI, 54, .inl (fun _ => 0))), (q22, .inl (cZ, 2, .inl (fun _ => 0))), (q31, .inl (cI, 648, .inl (fun _ => 0))), (q39, .inl (cI, 27, .inl (fun _ => 0))), (q47, .inl (cI, 8, .inl (fun _ => 0))), (q55, .inl (cI, 8, .inl (fun _ => 0))), (q63, .inl (cZ, 8, .inl (fun _ => 0)))] rfl ?_
  refine z_aload_n hC dX9_init_68 rfl 0 rfl ?_
  refine z_sipush (v := 320) hC dX9_init_69 (by decide) ?_
  refine z_newarr (9, 1102) hC .int 320 320 0 rfl mX9_init_4 rfl rfl (fun _ => rfl) (by decide) (by decide) (Nat.le_of_ble_eq_true rfl) rfl ⟨Nat.le_of_ble_eq_true rfl, Nat.le_of_ble_eq_true rfl⟩ dX9_init_72 (fun q72 => ?_)
  refine z_eq [(a_t, .inr (9, [.ref q7, .ref q15, .ref q22, .ref q31, .int 0, .ref q39, .int 0, .ref q47, .ref q55, .ref q63, .null, .null, .null, .int 0, .int 0, .int 0, .int 0, .int 0, .int 0, .null, .null, .int 0, .int 0, .int 0, .int 0, .null, .null, .null, .int 0, .null, .int 0])), (q7, .inl (cI, 27, .inl (fun _ => 0))), (q15, .inl (cI, 54, .inl (fun _ => 0))), (q22, .inl (cZ, 2, .inl (fun _ => 0))), (q31, .inl (cI, 648, .inl (fun _ => 0))), (q39, .inl (cI, 27, .inl (fun _ => 0))), (q47, .inl (cI, 8, .inl (fun _ => 0))), (q55, .inl (cI, 8, .inl (fun _ => 0))), (q63, .inl (cZ, 8, .inl (fun _ => 0))), (q72, .inl (cI, 320, .inl (fun _ => 0)))] rfl ?_
  refine z_putF hC iX9_init_X9 tyX9_ok nmX9 rfl 0 10 rfl (by decide) mX9_init_14 rfl rfl hin9 rfl rfl rfl (Nat.le_of_ble_eq_true rfl) dX9_init_74 ?_
  refine z_eq [(a_t, .inr (9, [.ref q7, .ref q15, .ref q22, .ref q31, .int 0, .ref q39, .int 0, .ref q47, .ref q55, .ref q63, .ref q72, .null, .null, .int 0, .int 0, .int 0, .int 0, .int 0, .int 0, .null, .null, .int 0, .int 0, .int 0, .int 0, .null, .null, .null, .int 0, .null, .int 0])), (q7, .inl (cI, 27, .inl (fun _ => 0))), (q15, .inl (cI, 54, .inl (fun _ => 0))), (q22, .inl (cZ, 2, .inl (fun _ => 0))), (q31, .inl (cI, 648, .inl (fun _ => 0))), (q39, .inl (cI, 27, .inl (fun _ => 0))), (q47, .inl (cI, 8, .inl (fun _ => 0))), (q55, .inl (cI, 8, .inl (fun _ => 0))), (q63, .inl (cZ, 8, .inl (fun _ => 0))), (q72, .inl (cI, 320, .inl (fun _ => 0)))] rfl ?_
  refine z_aload_n hC dX9_init_77 rfl 0 rfl ?_
  refine z_bipush (v := 40) hC dX9_init_78 (by decide) ?_
  refine z_newarr (10, 1142) hC .int 40 40 0 rfl mX9_init_4 rfl rfl (fun _ => rfl) (by decide) (by decide) (Nat.le_of_ble_eq_true rfl) rfl ⟨Nat.le_of_ble_eq_true rfl, Nat.le_of_ble_eq_true rfl⟩ dX9_init_80 (fun q80 => ?_)
  refine z_eq [(a_t, .inr (9, [.ref q7, .ref q15, .ref q22, .ref q31, .int 0, .ref q39, .int 0, .ref q47, .ref q55, .ref q63, .ref q72, .null, .null, .int 0, .int 0, .int 0, .int 0, .int 0, .int 0, .null, .null, .int 0, .int 0, .int 0, .int 0, .null, .null, .null, .int 0, .null, .int 0])), (q7, .inl (cI, 27, .inl (fun _ => 0))), (q15, .inl (cI, 54, .inl (fun _ => 0))), (q22, .inl (cZ, 2, .inl (fun _ => 0))), (q31, .inl (cI, 648, .inl (fun _ => 0))), (q39, .inl (cI, 27, .inl (fun _ => 0))), (q47, .inl (cI, 8, .inl (fun _ => 0))), (q55, .inl (cI, 8, .inl (fun _ => 0))), (q63, .inl (cZ, 8, .inl (fun _ => 0))), (q72, .inl (cI, 320, .inl (fun _ => 0))), (q80, .inl (cI, 40, .inl (fun _ => 0)))] rfl ?_
  refine z_putF hC iX9_init_X9 tyX9_ok nmX9 rfl 0 11 rfl (by decide) mX9_init_15 rfl rfl hin9 rfl rfl rfl (Nat.le_of_ble_eq_true rfl) dX9_init_82 ?_
  refine z_eq [(a_t, .inr (9, [.ref q7, .ref q15, .ref q22, .ref q31, .int 0, .ref q39, .int 0, .ref q47, .ref q55, .ref q63, .ref q72, .ref q80, .null, .int 0, .int 0, .int 0, .int 0, .int 0, .int 0, .null, .null, .int 0, .int 0, .int 0, .int 0, .null, .null, .null, .int 0, .null, .int 0])), (q7, .inl (cI, 27, .inl (fun _ => 0))), (q15, .inl (cI, 54, .inl (fun _ => 0))), (q22, .inl (cZ, 2, .inl (fun _ => 0))), (q31, .inl (cI, 648, .inl (fun _ => 0))), (q39, .inl (cI, 27, .inl (fun _ => 0))), (q47, .inl (cI, 8, .inl (fun _ => 0))), (q55, .inl (cI, 8, .inl (fun _ => 0))), (q63, .inl (cZ, 8, .inl (fun _ => 0))), (q72, .inl (cI, 320, .inl (fun _ => 0))), (q80, .inl (cI, 40, .inl (fun _ => 0)))] rfl ?_
  refine z_aload_n hC dX9_init_85 rfl 0 rfl ?_
  refine z_sipush (v := 200) hC dX9_init_86 (by decide) ?_
  refine z_newarr (11, 1342) hC .int 200 200 0 rfl mX9_init_4 rfl rfl (fun _ => rfl) (by decide) (by decide) (Nat.le_of_ble_eq_true rfl) rfl ⟨Nat.le_of_ble_eq_true rfl, Nat.le_of_ble_eq_true rfl⟩ dX9_init_89 (fun q89 => ?_)
  refine z_eq [(a_t, .inr (9, [.ref q7, .ref q15, .ref q22, .ref q31, .int 0, .ref q39, .int 0, .ref q47, .ref q55, .ref q63, .ref q72, .ref q80, .null, .int 0, .int 0, .int 0, .int 0, .int 0, .int 0, .null, .null, .int 0, .int 0, .int 0, .int 0, .null, .null, .null, .int 0, .null, .int 0])), (q7, .inl (cI, 27, .inl (fun _ => 0))), (q15, .inl (cI, 54, .inl (fun _ => 0))), (q22, .inl (cZ, 2, .inl (fun _ => 0))), (q31, .inl (cI, 648, .inl (fun _ => 0))), (q39, .inl (cI, 27, .inl (fun _ => 0))), (q47, .inl (cI, 8, .inl (fun _ => 0))), (q55, .inl (cI, 8, .inl (fun _ => 0))), (q63, .inl (cZ, 8, .inl (fun _ => 0))), (q72, .inl (cI, 320, .inl (fun _ => 0))), (q80, .inl (cI, 40, .inl (fun _ => 0))), (q89, .inl (cI, 200, .inl (fun _ => 0)))] rfl ?_
  refine z_putF hC iX9_init_X9 tyX9_ok nmX9 rfl 0 12 rfl (by decide) mX9_init_16 rfl rfl hin9 rfl rfl rfl (Nat.le_of_ble_eq_true rfl) dX9_init_91 ?_
  refine z_eq [(a_t, .inr (9, [.ref q7, .ref q15, .ref q22, .ref q31, .int 0, .ref q39, .int 0, .ref q47, .ref q55, .ref q63, .ref q72, .ref q80, .ref q89, .int 0, .int 0, .int 0, .int 0, .int 0, .int 0, .null, .null, .int 0, .int 0, .int 0, .int 0, .null, .null, .null, .int 0, .null, .int 0])), (q7, .inl (cI, 27, .inl (fun _ => 0))), (q15, .inl (cI, 54, .inl (fun _ => 0))), (q22, .inl (cZ, 2, .inl (fun _ => 0))), (q31, .inl (cI, 648, .inl (fun _ => 0))), (q39, .inl (cI, 27, .inl (fun _ => 0))), (q47, .inl (cI, 8, .inl (fun _ => 0))), (q55, .inl (cI, 8, .inl (fun _ => 0))), (q63, .inl (cZ, 8, .inl (fun _ => 0))), (q72, .inl (cI, 320, .inl (fun _ => 0))), (q80, .inl (cI, 40, .inl (fun _ => 0))), (q89, .inl (cI, 200, .inl (fun _ => 0)))] rfl ?_
  refine z_aload_n hC dX9_init_94 rfl 0 rfl ?_
  refine z_bipush (v := 8) hC dX9_init_95 (by decide) ?_
  refine z_newarr (12, 1350) hC .int 8 8 0 rfl mX9_init_4 rfl rfl (fun _ => rfl) (by decide) (by decide) (Nat.le_of_ble_eq_true rfl) rfl ⟨Nat.le_of_ble_eq_true rfl, Nat.le_of_ble_eq_true rfl⟩ dX9_init_97 (fun q97 => ?_)
  refine z_eq [(a_t, .inr (9, [.ref q7, .ref q15, .ref q22, .ref q31, .int 0, .ref q39, .int 0, .ref q47, .ref q55, .ref q63, .ref q72, .ref q80, .ref q89, .int 0, .int 0, .int 0, .int 0, .int 0, .int 0, .null, .null, .int 0, .int 0, .int 0, .int 0, .null, .null, .null, .int 0, .null, .int 0])), (q7, .inl (cI, 27, .inl (fun _ => 0))), (q15, .inl (cI, 54, .inl (fun _ => 0))), (q22, .inl (cZ, 2, .inl (fun _ => 0))), (q31, .inl (cI, 648, .inl (fun _ => 0))), (q39, .inl (cI, 27, .inl (fun _ => 0))), (q47, .inl (cI, 8, .inl (fun _ => 0))), (q55, .inl (cI, 8, .inl (fun _ => 0))), (q63, .inl (cZ, 8, .inl (fun _ => 0))), (q72, .inl (cI, 320, .inl (fun _ => 0))), (q80, .inl (cI, 40, .inl (fun _ => 0))), (q89, .inl (cI, 200, .inl (fun _ => 0))), (q97, .inl (cI, 8, .inl (fun _ => 0)))] rfl ?_
  refine z_putF hC iX9_init_X9 tyX9_ok nmX9 rfl 0 19 rfl (by decide) mX9_init_17 rfl rfl hin9 rfl rfl rfl (Nat.le_of_ble_eq_true rfl) dX9_init_99 ?_
  refine z_eq [(a_t, .inr (9, [.ref q7, .ref q15, .ref q22, .ref q31, .int 0, .ref q39, .int 0, .ref q47, .ref q55, .ref q63, .ref q72, .ref q80, .ref q89, .int 0, .int 0, .int 0, .int 0, .int 0, .int 0, .ref q97, .null, .int 0, .int 0, .int 0, .int 0, .null, .null, .null, .int 0, .null, .int 0])), (q7, .inl (cI, 27, .inl (fun _ => 0))), (q15, .inl (cI, 54, .inl (fun _ => 0))), (q22, .inl (cZ, 2, .inl (fun _ => 0))), (q31, .inl (cI, 648, .inl (fun _ => 0))), (q39, .inl (cI, 27, .inl (fun _ => 0))), (q47, .inl (cI, 8, .inl (fun _ => 0))), (q55, .inl (cI, 8, .inl (fun _ => 0))), (q63, .inl (cZ, 8, .inl (fun _ => 0))), (q72, .inl (cI, 320, .inl (fun _ => 0))), (q80, .inl (cI, 40, .inl (fun _ => 0))), (q89, .inl (cI, 200, .inl (fun _ => 0))), (q97, .inl (cI, 8, .inl (fun _ => 0)))] rfl ?_
  refine z_aload_n hC dX9_init_102 rfl 0 rfl ?_
  refine z_bipush (v := 8) hC dX9_init_103 (by decide) ?_
  refine z_newarr (13, 1358) hC .int 8 8 0 rfl mX9_init_4 rfl rfl (fun _ => rfl) (by decide) (by decide) (Nat.le_of_ble_eq_true rfl) rfl ⟨Nat.le_of_ble_eq_true rfl, Nat.le_of_ble_eq_true rfl⟩ dX9_init_105 (fun q105 => ?_)
  refine z_eq [(a_t, .inr (9, [.ref q7, .ref q15, .ref q22, .ref q31, .int 0, .ref q39, .int 0, .ref q47, .ref q55, .ref q63, .ref q72, .ref q80, .ref q89, .int 0, .int 0, .int 0, .int 0, .int 0, .int 0, .ref q97, .null, .int 0, .int 0, .int 0, .int 0, .null, .null, .null, .int 0, .null, .int 0])), (q7, .inl (cI, 27, .inl (fun _ => 0))), (q15, .inl (cI, 54, .inl (fun _ => 0))), (q22, .inl (cZ, 2, .inl (fun _ => 0))), (q31, .inl (cI, 648, .inl (fun _ => 0))), (q39, .inl (cI, 27, .inl (fun _ => 0))), (q47, .inl (cI, 8, .inl (fun _ => 0))), (q55, .inl (cI, 8, .inl (fun _ => 0))), (q63, .inl (cZ, 8, .inl (fun _ => 0))), (q72, .inl (cI, 320, .inl (fun _ => 0))), (q80, .inl (cI, 40, .inl (fun _ => 0))), (q89, .inl (cI, 200, .inl (fun _ => 0))), (q97, .inl (cI, 8, .inl (fun _ => 0))), (q105, .inl (cI, 8, .inl (fun _ => 0)))] rfl ?_
  refine z_putF hC iX9_init_X9 tyX9_ok nmX9 rfl 0 20 rfl (by decide) mX9_init_18 rfl rfl hin9 rfl rfl rfl (Nat.le_of_ble_eq_true rfl) dX9_init_107 ?_
  refine z_eq [(a_t, .inr (9, [.ref q7, .ref q15, .ref q22, .ref q31, .int 0, .ref q39, .int 0, .ref q47, .ref q55, .ref q63, .ref q72, .ref q80, .ref q89, .int 0, .int 0, .int 0, .int 0, .int 0, .int 0, .ref q97, .ref q105, .int 0, .int 0, .int 0, .int 0, .null, .null, .null, .int 0, .null, .int 0])), (q7, .inl (cI, 27, .inl (fun _ => 0))), (q15, .inl (cI, 54, .inl (fun _ => 0))), (q22, .inl (cZ, 2, .inl (fun _ => 0))), (q31, .inl (cI, 648, .inl (fun _ => 0))), (q39, .inl (cI, 27, .inl (fun _ => 0))), (q47, .inl (cI, 8, .inl (fun _ => 0))), (q55, .inl (cI, 8, .inl (fun _ => 0))), (q63, .inl (cZ, 8, .inl (fun _ => 0))), (q72, .inl (cI, 320, .inl (fun _ => 0))), (q80, .inl (cI, 40, .inl (fun _ => 0))), (q89, .inl (cI, 200, .inl (fun _ => 0))), (q97, .inl (cI, 8, .inl (fun _ => 0))), (q105, .inl (cI, 8, .inl (fun _ => 0)))] rfl ?_
  refine z_aload_n hC dX9_init_110 rfl 0 rfl ?_
  refine z_bipush (v := 8) hC dX9_init_111 (by decide) ?_
  refine z_newarr (14, 1366) hC .int 8 8 0 rfl mX9_init_4 rfl rfl (fun _ => rfl) (by decide) (by decide) (Nat.le_of_ble_eq_true rfl) rfl ⟨Nat.le_of_ble_eq_true rfl, Nat.le_of_ble_eq_true rfl⟩ dX9_init_113 (fun q113 => ?_)
  refine z_eq [(a_t, .inr (9, [.ref q7, .ref q15, .ref q22, .ref q31, .int 0, .ref q39, .int 0, .ref q47, .ref q55, .ref q63, .ref q72, .ref q80, .ref q89, .int 0, .int 0, .int 0, .int 0, .int 0, .int 0, .ref q97, .ref q105, .int 0, .int 0, .int 0, .int 0, .null, .null, .null, .int 0, .null, .int 0])), (q7, .inl (cI, 27, .inl (fun _ => 0))), (q15, .inl (cI, 54, .inl (fun _ => 0))), (q22, .inl (cZ, 2, .inl (fun _ => 0))), (q31, .inl (cI, 648, .inl (fun _ => 0))), (q39, .inl (cI, 27, .inl (fun _ => 0))), (q47, .inl (cI, 8, .inl (fun _ => 0))), (q55, .inl (cI, 8, .inl (fun _ => 0))), (q63, .inl (cZ, 8, .inl (fun _ => 0))), (q72, .inl (cI, 320, .inl (fun _ => 0))), (q80, .inl (cI, 40, .inl (fun _ => 0))), (q89, .inl (cI, 200, .inl (fun _ => 0))), (q97, .inl (cI, 8, .inl (fun _ => 0))), (q105, .inl (cI, 8, .inl (fun _ => 0))), (q113, .inl (cI, 8, .inl (fun _ => 0)))] rfl ?_
  refine z_putF hC iX9_init_X9 tyX9_ok nmX9 rfl 0 25 rfl (by decide) mX9_init_19 rfl rfl hin9 rfl rfl rfl (Nat.le_of_ble_eq_true rfl) dX9_init_115 ?_
  refine z_eq [(a_t, .inr (9, [.ref q7, .ref q15, .ref q22, .ref q31, .int 0, .ref q39, .int 0, .ref q47, .ref q55, .ref q63, .ref q72, .ref q80, .ref q89, .int 0, .int 0, .int 0, .int 0, .int 0, .int 0, .ref q97, .ref q105, .int 0, .int 0, .int 0, .int 0, .ref q113, .null, .null, .int 0, .null, .int 0])), (q7, .inl (cI, 27, .inl (fun _ => 0))), (q15, .inl (cI, 54, .inl (fun _ => 0))), (q22, .inl (cZ, 2, .inl (fun _ => 0))), (q31, .inl (cI, 648, .inl (fun _ => 0))), (q39, .inl (cI, 27, .inl (fun _ => 0))), (q47, .inl (cI, 8, .inl (fun _ => 0))), (q55, .inl (cI, 8, .inl (fun _ => 0))), (q63, .inl (cZ, 8, .inl (fun _ => 0))), (q72, .inl (cI, 320, .inl (fun _ => 0))), (q80, .inl (cI, 40, .inl (fun _ => 0))), (q89, .inl (cI, 200, .inl (fun _ => 0))), (q97, .inl (cI, 8, .inl (fun _ => 0))), (q105, .inl (cI, 8, .inl (fun _ => 0))), (q113, .inl (cI, 8, .inl (fun _ => 0)))] rfl ?_
  refine z_aload_n hC dX9_init_118 rfl 0 rfl ?_
  refine z_bipush (v := 12) hC dX9_init_119 (by decide) ?_
  refine z_newarr (15, 1378) hC .int 12 12 0 rfl mX9_init_4 rfl rfl (fun _ => rfl) (by decide) (by decide) (Nat.le_of_ble_eq_true rfl) rfl ⟨Nat.le_of_ble_eq_true rfl, Nat.le_of_ble_eq_true rfl⟩ dX9_init_121 (fun q121 => ?_)
  refine z_eq [(a_t, .inr (9, [.ref q7, .ref q15, .ref q22, .ref q31, .int 0, .ref q39, .int 0, .ref q47, .ref q55, .ref q63, .ref q72, .ref q80, .ref q89, .int 0, .int 0, .int 0, .int 0, .int 0, .int 0, .ref q97, .ref q105, .int 0, .int 0, .int 0, .int 0, .ref q113, .null, .null, .int 0, .null, .int 0])), (q7, .inl (cI, 27, .inl (fun _ => 0))), (q15, .inl (cI, 54, .inl (fun _ => 0))), (q22, .inl (cZ, 2, .inl (fun _ => 0))), (q31, .inl (cI, 648, .inl (fun _ => 0))), (q39, .inl (cI, 27, .inl (fun _ => 0))), (q47, .inl (cI, 8, .inl (fun _ => 0))), (q55, .inl (cI, 8, .inl (fun _ => 0))), (q63, .inl (cZ, 8, .inl (fun _ => 0))), (q72, .inl (cI, 320, .inl (fun _ => 0))), (q80, .inl (cI, 40, .inl (fun _ => 0))), (q89, .inl (cI, 200, .inl (fun _ => 0))), (q97, .inl (cI, 8, .inl (fun _ => 0))), (q105, .inl (cI, 8, .inl (fun _ => 0))), (q113, .inl (cI, 8, .inl (fun _ => 0))), (q121, .inl (cI, 12, .inl (fun _ => 0)))] rfl ?_
  refine z_putF hC iX9_init_X9 tyX9_ok nmX9 rfl 0 26 rfl (by decide) mX9_init_20 rfl rfl hin9 rfl rfl rfl (Nat.le_of_ble_eq_true rfl) dX9_init_123 ?_
  refine z_eq [(a_t, .inr (9, [.ref q7, .ref q15, .ref q22, .ref q31, .int 0, .ref q39, .int 0, .ref q47, .ref q55, .ref q63, .ref q72, .ref q80, .ref q89, .int 0, .int 0, .int 0, .int 0, .int 0, .int 0, .ref q97, .ref q105, .int 0, .int 0, .int 0, .int 0, .ref q113, .ref q121, .null, .int 0, .null, .int 0])), (q7, .inl (cI, 27, .inl (fun _ => 0))), (q15, .inl (cI, 54, .inl (fun _ => 0))), (q22, .inl (cZ, 2, .inl (fun _ => 0))), (q31, .inl (cI, 648, .inl (fun _ => 0))), (q39, .inl (cI, 27, .inl (fun _ => 0))), (q47, .inl (cI, 8, .inl (fun _ => 0))), (q55, .inl (cI, 8, .inl (fun _ => 0))), (q63, .inl (cZ, 8, .inl (fun _ => 0))), (q72, .inl (cI, 320, .inl (fun _ => 0))), (q80, .inl (cI, 40, .inl (fun _ => 0))), (q89, .inl (cI, 200, .inl (fun _ => 0))), (q97, .inl (cI, 8, .inl (fun _ => 0))), (q105, .inl (cI, 8, .inl (fun _ => 0))), (q113, .inl (cI, 8, .inl (fun _ => 0))), (q121, .inl (cI, 12, .inl (fun _ => 0)))] rfl ?_
  refine z_aload_n hC dX9_init_126 rfl 0 rfl ?_
  refine z_bipush (v := 8) hC dX9_init_127 (by decide) ?_
  refine z_newarr (16, 1386) hC .int 8 8 0 rfl mX9_init_4 rfl rfl (fun _ => rfl) (by decide) (by decide) (Nat.le_of_ble_eq_true rfl) rfl ⟨Nat.le_of_ble_eq_true rfl, Nat.le_of_ble_eq_true rfl⟩ dX9_init_129 (fun q129 => ?_)
  refine z_eq [(a_t, .inr (9, [.ref q7, .ref q15, .ref q22, .ref q31, .int 0, .ref q39, .int 0, .ref q47, .ref q55, .ref q63, .ref q72, .ref q80, .ref q89, .int 0, .int 0, .int 0, .int 0, .int 0, .int 0, .ref q97, .ref q105, .int 0, .int 0, .int 0, .int 0, .ref q113, .ref q121, .null, .int 0, .null, .int 0])), (q7, .inl (cI, 27, .inl (fun _ => 0))), (q15, .inl (cI, 54, .inl (fun _ => 0))), (q22, .inl (cZ, 2, .inl (fun _ => 0))), (q31, .inl (cI, 648, .inl (fun _ => 0))), (q39, .inl (cI, 27, .inl (fun _ => 0))), (q47, .inl (cI, 8, .inl (fun _ => 0))), (q55, .inl (cI, 8, .inl (fun _ => 0))), (q63, .inl (cZ, 8, .inl (fun _ => 0))), (q72, .inl (cI, 320, .inl (fun _ => 0))), (q80, .inl (cI, 40, .inl (fun _ => 0))), (q89, .inl (cI, 200, .inl (fun _ => 0))), (q97, .inl (cI, 8, .inl (fun _ => 0))), (q105, .inl (cI, 8, .inl (fun _ => 0))), (q113, .inl (cI, 8, .inl (fun _ => 0))), (q121, .inl (cI, 12, .inl (fun _ => 0))), (q129, .inl (cI, 8, .inl (fun _ => 0)))] rfl ?_
  refine z_putF hC iX9_init_X9 tyX9_ok nmX9 rfl 0 27 rfl (by decide) mX9_init_21 rfl rfl hin9 rfl rfl rfl (Nat.le_of_ble_eq_true rfl) dX9_init_131 ?_
  refine z_eq [(a_t, .inr (9, [.ref q7, .ref q15, .ref q22, .ref q31, .int 0, .ref q39, .int 0, .ref q47, .ref q55, .ref q63, .ref q72, .ref q80, .ref q89, .int 0, .int 0, .int 0, .int 0, .int 0, .int 0, .ref q97, .ref q105, .int 0, .int 0, .int 0, .int 0, .ref q113, .ref q121, .ref q129, .int 0, .null, .int 0])), (q7, .inl (cI, 27, .inl (fun _ => 0))), (q15, .inl (cI, 54, .inl (fun _ => 0))), (q22, .inl (cZ, 2, .inl (fun _ => 0))), (q31, .inl (cI, 648, .inl (fun _ => 0))), (q39, .inl (cI, 27, .inl (fun _ => 0))), (q47, .inl (cI, 8, .inl (fun _ => 0))), (q55, .inl (cI, 8, .inl (fun _ => 0))), (q63, .inl (cZ, 8, .inl (fun _ => 0))), (q72, .inl (cI, 320, .inl (fun _ => 0))), (q80, .inl (cI, 40, .inl (fun _ => 0))), (q89, .inl (cI, 200, .inl (fun _ => 0))), (q97, .inl (cI, 8, .inl (fun _ => 0))), (q105, .inl (cI, 8, .inl (fun _ => 0))), (q113, .inl (cI, 8, .inl (fun _ => 0))), (q121, .inl (cI, 12, .inl (fun _ => 0))), (q129, .inl (cI, 8, .inl (fun _ => 0)))] rfl ?_
  refine z_aload_n hC dX9_init_134 rfl 0 rfl ?_
  refine z_bipush (v := 16) hC dX9_init_135 (by decide) ?_
  refine z_newarr (17, 1402) hC .int 16 16 0 rfl mX9_init_4 rfl rfl (fun _ => rfl) (by decide) (by decide) (Nat.le_of_ble_eq_true rfl) rfl ⟨Nat.le_of_ble_eq_true rfl, Nat.le_of_ble_eq_true rfl⟩ dX9_init_137 (fun q137 => ?_)
  refine z_eq [(a_t, .inr (9, [.ref q7, .ref q15, .ref q22, .ref q31, .int 0, .ref q39, .int 0, .ref q47, .ref q55, .ref q63, .ref q72, .ref q80, .ref q89, .int 0, .int 0, .int 0, .int 0, .int 0, .int 0, .ref q97, .ref q105, .int 0, .int 0, .int 0, .int 0, .ref q113, .ref q121, .ref q129, .int 0, .null, .int 0])), (q7, .inl (cI, 27, .inl (fun _ => 0))), (q15, .inl (cI, 54, .inl (fun _ => 0))), (q22, .inl (cZ, 2, .inl (fun _ => 0))), (q31, .inl (cI, 648, .inl (fun _ => 0))), (q39, .inl (cI, 27, .inl (fun _ => 0))), (q47, .inl (cI, 8, .inl (fun _ => 0))), (q55, .inl (cI, 8, .inl (fun _ => 0))), (q63, .inl (cZ, 8, .inl (fun _ => 0))), (q72, .inl (cI, 320, .inl (fun _ => 0))), (q80, .inl (cI, 40, .inl (fun _ => 0))), (q89, .inl (cI, 200, .inl (fun _ => 0))), (q97, .inl (cI, 8, .inl (fun _ => 0))), (q105, .inl (cI, 8, .inl (fun _ => 0))), (q113, .inl (cI, 8, .inl (fun _ => 0))), (q121, .inl (cI, 12, .inl (fun _ => 0))), (q129, .inl (cI, 8, .inl (fun _ => 0))), (q137, .inl (cI, 16, .inl (fun _ => 0)))] rfl ?_
  refine z_putF hC iX9_init_X9 tyX9_ok nmX9 rfl 0 29 rfl (by decide) mX9_init_22 rfl rfl hin9 rfl rfl rfl (Nat.le_of_ble_eq_true rfl) dX9_init_139 ?_
  refine z_eq [(a_t, .inr (9, [.ref q7, .ref q15, .ref q22, .ref q31, .int 0, .ref q39, .int 0, .ref q47, .ref q55, .ref q63, .ref q72, .ref q80, .ref q89, .int 0, .int 0, .int 0, .int 0, .int 0, .int 0, .ref q97, .ref q105, .int 0, .int 0, .int 0, .int 0, .ref q113, .ref q121, .ref q129, .int 0, .ref q137, .int 0])), (q7, .inl (cI, 27, .inl (fun _ => 0))), (q15, .inl (cI, 54, .inl (fun _ => 0))), (q22, .inl (cZ, 2, .inl (fun _ => 0))), (q31, .inl (cI, 648, .inl (fun _ => 0))), (q39, .inl (cI, 27, .inl (fun _ => 0))), (q47, .inl (cI, 8, .inl (fun _ => 0))), (q55, .inl (cI, 8, .inl (fun _ => 0))), (q63, .inl (cZ, 8, .inl (fun _ => 0))), (q72, .inl (cI, 320, .inl (fun _ => 0))), (q80, .inl (cI, 40, .inl (fun _ => 0))), (q89, .inl (cI, 200, .inl (fun _ => 0))), (q97, .inl (cI, 8, .inl (fun _ => 0))), (q105, .inl (cI, 8, .inl (fun _ => 0))), (q113, .inl (cI, 8, .inl (fun _ => 0))), (q121, .inl (cI, 12, .inl (fun _ => 0))), (q129, .inl (cI, 8, .inl (fun _ => 0))), (q137, .inl (cI, 16, .inl (fun _ => 0)))] rfl ?_
  exact z_cret hC hQ ⟨q7, q15, q22, q31, q39, q47, q55, q63, q72, q80, q89, q97, q105, q113, q121, q129, q137, rfl⟩ dX9_init_142
