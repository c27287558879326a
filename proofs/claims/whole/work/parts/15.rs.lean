/-! String constants: rows, and the JDK's own methods over them -/
section ZSTR
variable {sK sV : Nat → Nat} {E : ZE} {kn : Nat × Nat} {lv : zLv} {pc : Nat} {st st0 : List Value} {ws : va_W} {nL : Nat} {cc : ByteArray} {Ts : List Cond} {own : String} {rm : Room} {ret : Option FieldType} {tys : zTy}
theorem z_ldcs (hC : ZC E nL cc Ts own rm ret tys) (hN : ZN sK sV (zA E) (zs E)) {index i : Nat} (tx : String) (hq : (own, index, tx, i) ∈ zStr) (hd : decode cc pc = .ok (.ldc index, 2)) (k : Z E kn lv (pc + 2) (.ref (sK i) :: st) ws) : Z E kn lv pc st ws := fun ls H locs hl hP hD hS => va_ldcS hC.x hC.b hC.o (hN.2.2.2.2 _ hq) hd (k ls H locs hl hP hD hS)
theorem z_kval (hC : ZC E nL cc Ts own rm ret tys) (hN : ZN sK sV (zA E) (zs E)) {index i : Nat} (hi : i < 6) (hw : Cond.fieldLink own index "java/lang/String" "value" "[B" ∈ Ts) (hd : decode cc pc = .ok (.getfield index, 3)) (k : Z E kn lv (pc + 3) (.ref (sV i) :: st) ws) : Z E kn lv pc (.ref (sK i) :: st) ws := fun ls H locs hl hP hD hS => vk_getf hC.x hC.b (hN.2.2.2.1.1 i hi).2.2.1 hS hC.o (hC.t _ hw) (fun _ h => h) hd (k ls H locs hl hP hD hS)
theorem z_kcod (hC : ZC E nL cc Ts own rm ret tys) (hN : ZN sK sV (zA E) (zs E)) {index i : Nat} (hi : i < 6) (hw : Cond.fieldLink own index "java/lang/String" "coder" "B" ∈ Ts) (hd : decode cc pc = .ok (.getfield index, 3)) (k : Z E kn lv (pc + 3) (.int 0 :: st) ws) : Z E kn lv pc (.ref (sK i) :: st) ws := fun ls H locs hl hP hD hS => vk_getf hC.x hC.b (hN.2.2.2.1.1 i hi).2.1 hS hC.o (hC.t _ hw) (fun _ h => h) hd (k ls H locs hl hP hD hS)
theorem z_klen (hC : ZC E nL cc Ts own rm ret tys) (hN : ZN sK sV (zA E) (zs E)) {i : Nat} (hi : i < 6) (hd : decode cc pc = .ok (.arraylength, 1)) (k : Z E kn lv (pc + 1) (.int (nI (zlen.getD i 0)) :: st) ws) : Z E kn lv pc (.ref (sV i) :: st) ws := fun ls H locs hl hP hD hS => va_tlen hC.x hC.b (hN.2.2.2.1.1 i hi).2.2.2 hS rfl hd (k ls H locs hl hP hD hS)
theorem z_kbyt (hC : ZC E nL cc Ts own rm ret tys) (hN : ZN sK sV (zA E) (zs E)) {i : Nat} (hi : i < 6) {j : Int32} (hj : vp_in j (zlen.getD i 0)) (hd : decode cc pc = .ok (.baload, 1)) (k : Z E kn lv (pc + 1) (.int ((zbyt.getD i []).getD j.toNatClampNeg 0) :: st) ws) : Z E kn lv pc (.int j :: .ref (sV i) :: st) ws := fun ls H locs hl hP hD hS => va_tb hC.x hC.b (hN.2.2.2.1.1 i hi).2.2.2 hS hj rfl hd (k ls H locs hl hP hD hS)
theorem z_gcs (hC : ZC E nL cc Ts own rm ret tys) (hN : ZN sK sV (zA E) (zs E)) {index : Nat} (hw : Cond.fieldLink own index "java/lang/String" "COMPACT_STRINGS" "Z" ∈ Ts) (hd : decode cc pc = .ok (.getstatic index, 3)) (k : Z E kn lv (pc + 3) (.int 1 :: st) ws) : Z E kn lv pc st ws := fun ls H locs hl hP hD hS => va_gets hC.x hC.b hN.2.1 hS hC.o (hC.t _ hw) (fun _ h => h) hd (k ls H locs hl hP hD hS)
theorem z_gfm (hC : ZC E nL cc Ts own rm ret tys) (hN : ZN sK sV (zA E) (zs E)) {index : Nat} (hw : Cond.fieldLink own index "jdk/internal/util/Preconditions" "SIOOBE_FORMATTER" "Ljava/util/function/BiFunction;" ∈ Ts) (hd : decode cc pc = .ok (.getstatic index, 3)) (k : ∀ v : Value, (v = .null ∨ ∃ t : Nat, v = .ref t) → Z E kn lv (pc + 3) (v :: st) ws) : Z E kn lv pc st ws := fun ls H locs hl hP hD hS => by
  rcases hN.2.2.1 with h | ⟨t, h⟩
  · exact va_gets hC.x hC.b h hS hC.o (hC.t _ hw) (fun _ h => h) hd (k .null (Or.inl rfl) ls H locs hl hP hD hS)
  · exact va_gets hC.x hC.b h hS hC.o (hC.t _ hw) (fun _ h => h) hd (k (.ref t) (Or.inr ⟨t, rfl⟩) ls H locs hl hP hD hS)
/-- a call of a String constant's method -/
theorem z_callKi (hC : ZC E nL cc Ts own rm ret tys) (hN : ZN sK sV (zA E) (zs E)) {y : MethodName} {wsy ws' : List Cond} {rmy : Room} {bytes : ByteArray} {maxL index i : Nat} {rety : Option FieldType} {r1 : Int32} (As : List Value) (hi : i < 6)
    (hM : ZMi sK sV (zl E) y wsy rmy (zD E) tys (.ref (sK i) :: As) [] r1 []) (hw : wsy = Cond.code y bytes maxL rety :: ws') (hrc : rmy.cells = 0 ∧ rmy.slots = 0) (hG : GoodIn Ts (wsV own index "java/lang/String" y wsy)) (hd : y.cls = "java/lang/String" ∧ y.cls ≠ "java/lang/invoke/MethodHandle" ∧ y.cls ≠ "java/lang/invoke/VarHandle" ∧ (parseMethodDescriptor y.desc).map (fun d => d.parameters.length) = some As.length)
    (hroom : rmy.frames + 1 ≤ rm.frames ∧ 8 + (maxL + 11) + rmy.locals ≤ rm.locals) (hkn : kn.1 ≤ rm.cells ∧ kn.2 ≤ rm.slots) (hst : st0 = As.reverse ++ .ref (sK i) :: st) (hcat : (st.map fun v => v.category).sum ≤ 8) (hdg : decode cc pc = .ok (.invokevirtual index, 3))
    (kk : Z E kn lv (pc + 3) (.int r1 :: st) ws) : Z E kn lv pc st0 ws := by
  intro ls H locs hl hP hD hS
  have hm : ([] : List Nat).map (fun i => ws[i]?) = ([] : va_W).map some := rfl
  exact zcore_i hC hl hP hD hS [] hm rfl (va_runV (As := As) (rest := st) ⟨hC.x, hC.b, hC.ml, hC.o, hC.t⟩ (hM H.size) (cwV As.length hC.t hG hw hrc.1 hrc.2 hd (by rw [hC.r]; exact hroom)) ⟨z_blind, vk_recv hN.2.2.2.1 hi hS, z_preB hC hN hm rfl hP hD hS⟩ rfl rfl (by rw [← hC.n]; exact hl.1) hst (lv_room hcat) hdg (by rw [hC.r]; exact hkn)) (by rw [zput]; exact kk)
end ZSTR
theorem hsJ3 : yJ3_checkIndex_8e157.cls ≠ "java/lang/invoke/MethodHandle" ∧ yJ3_checkIndex_8e157.cls ≠ "java/lang/invoke/VarHandle" ∧ (parseMethodDescriptor yJ3_checkIndex_8e157.desc).map (fun d => d.parameters.length) = some 3 := by decide +kernel
theorem hsJ0 : yJ0_checkIndex_df160.cls ≠ "java/lang/invoke/MethodHandle" ∧ yJ0_checkIndex_df160.cls ≠ "java/lang/invoke/VarHandle" ∧ (parseMethodDescriptor yJ0_checkIndex_df160.desc).map (fun d => d.parameters.length) = some 2 := by decide +kernel
theorem hsJ1 : yJ1_charAt_3b067.cls ≠ "java/lang/invoke/MethodHandle" ∧ yJ1_charAt_3b067.cls ≠ "java/lang/invoke/VarHandle" ∧ (parseMethodDescriptor yJ1_charAt_3b067.desc).map (fun d => d.parameters.length) = some 2 := by decide +kernel
abbrev rmJ_0 : Room := { frames := 0, cells := 0, slots := 0, locals := 0 }
abbrev rmJ_1 : Room := { frames := 1, cells := 0, slots := 0, locals := 22 }
abbrev rmJ_2 : Room := { frames := 2, cells := 0, slots := 0, locals := 43 }
abbrev rmJ_3 : Room := { frames := 3, cells := 0, slots := 0, locals := 64 }
section ZJDK
variable {sK sV : Nat → Nat} {l : Launch} {D : va_G} {tys : zTy}
theorem cJ_coder {i : Nat} (hi : i < 6) : ZMi sK sV l yJ0_coder_7d493 wsJ0_coder_7d493 rmJ_0 D tys [.ref (sK i)] [] 0 [] := by
  refine zi_of (cc := cJ0_coder_7d493) (maxL := 1) (ret := some .byte) (by decide) rfl (Nat.le_of_ble_eq_true rfl) (fun E hE1 hE2 hC hN hQ => ?_)
  subst hE1 hE2
  refine z_gcs hC hN (List.mem_of_getElem? (i := 1) rfl) dJ0_coder_7d493_0 ?_
  refine z_if_eq (α := Unit) (P1 := none) (P2 := some ()) (rf := ()) hC 13 dJ0_coder_7d493_3 (by decide) rfl (fun h => by cases h) (fun _ => ?_)
  refine z_aload_n hC dJ0_coder_7d493_6 rfl 0 rfl ?_
  refine z_kcod hC hN hi (List.mem_of_getElem? (i := 2) rfl) dJ0_coder_7d493_7 ?_
  refine z_goto hC 14 dJ0_coder_7d493_10 (by decide) ?_
  exact z_iret hC hQ rfl rfl rfl dJ0_coder_7d493_14
theorem cJ_latin {i : Nat} (hi : i < 6) : ZMi sK sV l yJ0_isLatin1_aae02 wsJ0_isLatin1_aae02 rmJ_0 D tys [.ref (sK i)] [] 1 [] := by
  refine zi_of (cc := cJ0_isLatin1_aae02) (maxL := 1) (ret := some .boolean) (by decide) rfl (Nat.le_of_ble_eq_true rfl) (fun E hE1 hE2 hC hN hQ => ?_)
  subst hE1 hE2
  refine z_gcs hC hN (List.mem_of_getElem? (i := 1) rfl) dJ0_isLatin1_aae02_0 ?_
  refine z_if_eq (α := Unit) (P1 := none) (P2 := some ()) (rf := ()) hC 17 dJ0_isLatin1_aae02_3 (by decide) rfl (fun h => by cases h) (fun _ => ?_)
  refine z_aload_n hC dJ0_isLatin1_aae02_6 rfl 0 rfl ?_
  refine z_kcod hC hN hi (List.mem_of_getElem? (i := 2) rfl) dJ0_isLatin1_aae02_7 ?_
  refine z_if_ne (α := Unit) (P1 := some ()) (P2 := none) (rf := ()) hC 17 dJ0_isLatin1_aae02_10 (by decide) rfl (fun h => by cases h) (fun _ => ?_)
  refine z_ic1 hC dJ0_isLatin1_aae02_13 ?_
  refine z_goto hC 18 dJ0_isLatin1_aae02_14 (by decide) ?_
  exact z_iret hC hQ rfl rfl rfl dJ0_isLatin1_aae02_18
theorem zk_shr0 : ∀ i, i < 6 → nI (zlen.getD i 0) >>> ((0 : Int32) &&& 31) = nI (zlen.getD i 0) := by decide
theorem cJ_length {i : Nat} (hi : i < 6) : ZMi sK sV l yJ0_length_8abf5 wsJ0_length_8abf5 rmJ_1 D tys [.ref (sK i)] [] (nI (zlen.getD i 0)) [] := by
  refine zi_of (cc := cJ0_length_8abf5) (maxL := 1) (ret := some .int) (by decide) rfl (Nat.le_of_ble_eq_true rfl) (fun E hE1 hE2 hC hN hQ => ?_)
  subst hE1 hE2
  refine z_aload_n hC dJ0_length_8abf5_0 rfl 0 rfl ?_
  refine z_kval hC hN hi (List.mem_of_getElem? (i := 1) rfl) dJ0_length_8abf5_1 ?_
  refine z_klen hC hN hi dJ0_length_8abf5_4 ?_
  refine z_aload_n hC dJ0_length_8abf5_5 rfl 0 rfl ?_
  refine z_callKi hC hN [] hi (cJ_coder hi) rfl ⟨rfl, rfl⟩ gJ0_length_8abf5_J0_coder_7d493 ⟨rfl, by decide +kernel, by decide +kernel, by decide +kernel⟩ ⟨Nat.le_of_ble_eq_true rfl, Nat.le_of_ble_eq_true rfl⟩ ⟨Nat.zero_le _, Nat.zero_le _⟩ rfl (Nat.le_of_ble_eq_true rfl) dJ0_length_8abf5_6 ?_
  refine z_ishr hC dJ0_length_8abf5_9 ?_
  exact z_iret hC hQ rfl (zk_shr0 i hi) rfl dJ0_length_8abf5_10
theorem cJ_pcheck {x n : Int32} {v : Value} (hv : v = .null ∨ ∃ t : Nat, v = .ref t) (h0 : ¬ x < 0) (h1 : x < n) : ZMi sK sV l yJ3_checkIndex_8e157 wsJ3_checkIndex_8e157 rmJ_0 D tys [.int x, .int n, v] [] x [] := by
  refine zi_of (cc := cJ3_checkIndex_8e157) (maxL := 3) (ret := some .int) (by decide) rfl (by rcases hv with rfl | ⟨t, rfl⟩ <;> exact Nat.le_of_ble_eq_true rfl) (fun E hE1 hE2 hC hN hQ => ?_)
  subst hE1 hE2
  refine z_sub (lv' := [(0, .int x), (1, .int n)]) [0, 1] rfl ?_
  refine z_iload_n hC dJ3_checkIndex_8e157_0 rfl 0 rfl ?_
  refine z_if_lt (α := Unit) (P1 := none) (P2 := some ()) (rf := ()) hC 9 dJ3_checkIndex_8e157_1 (by decide) (if_neg h0) (fun h => by cases h) (fun _ => ?_)
  refine z_iload_n hC dJ3_checkIndex_8e157_4 rfl 0 rfl ?_
  refine z_iload_n hC dJ3_checkIndex_8e157_5 rfl 1 rfl ?_
  refine z_icmp_lt (α := Unit) (P1 := some ()) (P2 := none) (rf := ()) hC 16 dJ3_checkIndex_8e157_6 (by decide) (if_pos h1) (fun _ => ?_) (fun h => by cases h)
  refine z_iload_n hC dJ3_checkIndex_8e157_16 rfl 0 rfl ?_
  exact z_iret hC hQ rfl rfl rfl dJ3_checkIndex_8e157_17
theorem cJ_check {x n : Int32} (h0 : ¬ x < 0) (h1 : x < n) : ZMv sK sV l yJ0_checkIndex_df160 wsJ0_checkIndex_df160 rmJ_1 D tys [.int x, .int n] [] [] := by
  refine zv_of (cc := cJ0_checkIndex_df160) (maxL := 2) (ret := none) (by decide) rfl (Nat.le_of_ble_eq_true rfl) (fun E hE1 hE2 hC hN hQ => ?_)
  subst hE1 hE2
  refine z_iload_n hC dJ0_checkIndex_df160_0 rfl 0 rfl ?_
  refine z_iload_n hC dJ0_checkIndex_df160_1 rfl 1 rfl ?_
  refine z_gfm hC hN (List.mem_of_getElem? (i := 1) rfl) dJ0_checkIndex_df160_2 (fun v hv => ?_)
  refine z_callSi_p (f := some ()) (K := fun _ => some ()) (rf := ()) (r1 := fun _ => x) hC hN [.int x, .int n, v] [] (fun _ _ => cJ_pcheck hv h0 h1) rfl ⟨rfl, rfl⟩ gJ0_checkIndex_df160_J3_checkIndex_8e157 hsJ3 ⟨Nat.le_of_ble_eq_true rfl, Nat.le_of_ble_eq_true rfl⟩ ⟨Nat.zero_le _, Nat.zero_le _⟩ rfl (Nat.le_of_ble_eq_true rfl) rfl (by decide) dJ0_checkIndex_df160_5 rfl (fun _ _ => ?_)
  refine z_pop hC dJ0_checkIndex_df160_8 rfl ?_
  exact z_vret hC hQ rfl dJ0_checkIndex_df160_9
theorem z_i2c {E : ZE} {kn : Nat × Nat} {lv : zLv} {pc : Nat} {st : List Value} {ws : va_W} {nL : Nat} {cc : ByteArray} {Ts : List Cond} {own : String} {rm : Room} {ret : Option FieldType} {tys : zTy} (hC : ZC E nL cc Ts own rm ret tys) {x : Int32} (hd : decode cc pc = .ok (.i2c, 1)) (k : Z E kn lv (pc + 1) (.int ((x.toUInt32 % 65536).toInt32) :: st) ws) : Z E kn lv pc (.int x :: st) ws := fun ls H locs hl hP hD hS => lv_i2c hC.x hC.b hd rfl (k ls H locs hl hP hD hS)
theorem zk_ch : ∀ i, i < 6 → ∀ k, k < zlen.getD i 0 → (((zbyt.getD i []).getD k 0 &&& 255).toUInt32 % 65536).toInt32 = (zbyt.getD i []).getD k 0 := by decide
theorem zk_len : ∀ i, i < 6 → zlen.getD i 0 < 100 := by decide
theorem vp_in_lt {j : Int32} {n : Nat} (hn : n < 100) (h : vp_in j n) : ¬ j < 0 ∧ j < nI n ∧ j.toNatClampNeg < n := by
  obtain ⟨k, hk, rfl⟩ := vp_in_of h (by omega)
  exact ⟨nI_pos (by omega), nI_lt hk (by omega), by rw [nI_clamp (by omega)]; exact hk⟩
theorem cJ_l1 {i : Nat} (hi : i < 6) {j : Int32} (hj : vp_in j (zlen.getD i 0)) : ZMi sK sV l yJ1_charAt_3b067 wsJ1_charAt_3b067 rmJ_2 D tys [.ref (sV i), .int j] [] ((zbyt.getD i []).getD j.toNatClampNeg 0) [] := by
  refine zi_of (cc := cJ1_charAt_3b067) (maxL := 2) (ret := some .char) (by decide) rfl (Nat.le_of_ble_eq_true rfl) (fun E hE1 hE2 hC hN hQ => ?_)
  subst hE1 hE2
  obtain ⟨h0, h1, h2⟩ := vp_in_lt (zk_len i hi) hj
  refine z_iload_n hC dJ1_charAt_3b067_0 rfl 1 rfl ?_
  refine z_aload_n hC dJ1_charAt_3b067_1 rfl 0 rfl ?_
  refine z_klen hC hN hi dJ1_charAt_3b067_2 ?_
  refine z_callSv_p (f := some ()) (K := fun _ => some ()) (rf := ()) hC hN [.int j, .int (nI (zlen.getD i 0))] [] (fun _ _ => cJ_check h0 h1) rfl ⟨rfl, rfl⟩ gJ1_charAt_3b067_J0_checkIndex_df160 hsJ0 ⟨Nat.le_of_ble_eq_true rfl, Nat.le_of_ble_eq_true rfl⟩ ⟨Nat.zero_le _, Nat.zero_le _⟩ rfl (Nat.le_of_ble_eq_true rfl) rfl (by decide) dJ1_charAt_3b067_3 rfl (fun _ _ => ?_)
  refine z_aload_n hC dJ1_charAt_3b067_6 rfl 0 rfl ?_
  refine z_iload_n hC dJ1_charAt_3b067_7 rfl 1 rfl ?_
  refine z_kbyt hC hN hi hj dJ1_charAt_3b067_8 ?_
  refine z_sipush (v := 255) hC dJ1_charAt_3b067_9 (by decide) ?_
  refine z_iand hC dJ1_charAt_3b067_12 ?_
  refine z_i2c hC dJ1_charAt_3b067_13 ?_
  exact z_iret hC hQ (pk_nc _) (zk_ch i hi _ h2) rfl dJ1_charAt_3b067_14
theorem cJ_charAt {i : Nat} (hi : i < 6) {j : Int32} (hj : vp_in j (zlen.getD i 0)) : ZMi sK sV l yJ0_charAt_5068e wsJ0_charAt_5068e rmJ_3 D tys [.ref (sK i), .int j] [] ((zbyt.getD i []).getD j.toNatClampNeg 0) [] := by
  refine zi_of (cc := cJ0_charAt_5068e) (maxL := 2) (ret := some .char) (by decide) rfl (Nat.le_of_ble_eq_true rfl) (fun E hE1 hE2 hC hN hQ => ?_)
  subst hE1 hE2
  obtain ⟨h0, h1, h2⟩ := vp_in_lt (zk_len i hi) hj
  refine z_aload_n hC dJ0_charAt_5068e_0 rfl 0 rfl ?_
  refine z_callKi hC hN [] hi (cJ_latin hi) rfl ⟨rfl, rfl⟩ gJ0_charAt_5068e_J0_isLatin1_aae02 ⟨rfl, by decide +kernel, by decide +kernel, by decide +kernel⟩ ⟨Nat.le_of_ble_eq_true rfl, Nat.le_of_ble_eq_true rfl⟩ ⟨Nat.zero_le _, Nat.zero_le _⟩ rfl (Nat.le_of_ble_eq_true rfl) dJ0_charAt_5068e_1 ?_
  refine z_if_eq (α := Unit) (P1 := none) (P2 := some ()) (rf := ()) hC 16 dJ0_charAt_5068e_4 (by decide) rfl (fun h => by cases h) (fun _ => ?_)
  refine z_aload_n hC dJ0_charAt_5068e_7 rfl 0 rfl ?_
  refine z_kval hC hN hi (List.mem_of_getElem? (i := 1) rfl) dJ0_charAt_5068e_8 ?_
  refine z_iload_n hC dJ0_charAt_5068e_11 rfl 1 rfl ?_
  refine z_callSi_p (f := some ()) (K := fun _ => some ()) (rf := ()) (r1 := fun _ => (zbyt.getD i []).getD j.toNatClampNeg 0) hC hN [.ref (sV i), .int j] [] (fun _ _ => cJ_l1 hi hj) rfl ⟨rfl, rfl⟩ gJ0_charAt_5068e_J1_charAt_3b067 hsJ1 ⟨Nat.le_of_ble_eq_true rfl, Nat.le_of_ble_eq_true rfl⟩ ⟨Nat.zero_le _, Nat.zero_le _⟩ rfl (Nat.le_of_ble_eq_true rfl) rfl (by decide) dJ0_charAt_5068e_12 rfl (fun _ _ => ?_)
  exact z_iret hC hQ (by rw [← zk_ch i hi _ h2]; exact pk_nc _) rfl rfl dJ0_charAt_5068e_15
def o_slen (i : Nat) : Option Int32 := if i < 6 then some (nI (zlen.getD i 0)) else none
def o_schr (i : Nat) (k : Int32) : Option Int32 := if i < 6 ∧ inb k (zlen.getD i 0) = true then some ((zbyt.getD i []).getD k.toNatClampNeg 0) else none
theorem c_slen {i : Nat} : ∀ R, o_slen i = some R → i < 6 ∧ ZMi sK sV l yJ0_length_8abf5 wsJ0_length_8abf5 rmJ_1 D tys [.ref (sK i)] [] R [] := by
  intro R h
  unfold o_slen at h
  split at h
  · cases h; exact ⟨by assumption, cJ_length (by assumption)⟩
  · cases h
theorem c_schr {i : Nat} {k : Int32} : ∀ R, o_schr i k = some R → i < 6 ∧ ZMi sK sV l yJ0_charAt_5068e wsJ0_charAt_5068e rmJ_3 D tys [.ref (sK i), .int k] [] R [] := by
  intro R h
  unfold o_schr at h
  split at h
  · rename_i hh
    cases h; exact ⟨hh.1, cJ_charAt hh.1 (inb_s hh.2)⟩
  · cases h
end ZJDK
theorem z_callK {sK sV : Nat → Nat} {E : ZE} {kn : Nat × Nat} {lv : zLv} {pc : Nat} {st st0 : List Value} {ws : va_W} {nL : Nat} {cc : ByteArray} {Ts : List Cond} {own : String} {rm : Room} {ret : Option FieldType} {tys : zTy} (hC : ZC E nL cc Ts own rm ret tys) (hN : ZN sK sV (zA E) (zs E)) {y : MethodName} {wsy ws' : List Cond} {rmy : Room} {bytes : ByteArray} {maxL index i : Nat} {rety : Option FieldType} {β : Type} {f : Option Int32} {K : Int32 → Option β} {rf : β} (As : List Value)
    (hM : ∀ R, f = some R → i < 6 ∧ ZMi sK sV (zl E) y wsy rmy (zD E) tys (.ref (sK i) :: As) [] R []) (hw : wsy = Cond.code y bytes maxL rety :: ws') (hrc : rmy.cells = 0 ∧ rmy.slots = 0) (hG : GoodIn Ts (wsV own index "java/lang/String" y wsy)) (hd : y.cls = "java/lang/String" ∧ y.cls ≠ "java/lang/invoke/MethodHandle" ∧ y.cls ≠ "java/lang/invoke/VarHandle" ∧ (parseMethodDescriptor y.desc).map (fun d => d.parameters.length) = some As.length)
    (hroom : rmy.frames + 1 ≤ rm.frames ∧ 8 + (maxL + 11) + rmy.locals ≤ rm.locals) (hkn : kn.1 ≤ rm.cells ∧ kn.2 ≤ rm.slots) (hst : st0 = As.reverse ++ .ref (sK i) :: st) (hcat : (st.map fun v => v.category).sum ≤ 8) (hdg : decode cc pc = .ok (.invokevirtual index, 3)) (hR : f.bind K = some rf)
    (kk : ∀ R, K R = some rf → Z E kn lv (pc + 3) (.int R :: st) ws) : Z E kn lv pc st0 ws := by
  obtain ⟨R, hf, hR⟩ := Option.bind_eq_some_iff.mp hR
  obtain ⟨hi, hM⟩ := hM R hf
  exact z_callKi hC hN As hi hM hw hrc hG hd hroom hkn hst hcat hdg (kk R hR)
theorem hvJ_len : yJ0_length_8abf5.cls = "java/lang/String" ∧ yJ0_length_8abf5.cls ≠ "java/lang/invoke/MethodHandle" ∧ yJ0_length_8abf5.cls ≠ "java/lang/invoke/VarHandle" ∧ (parseMethodDescriptor yJ0_length_8abf5.desc).map (fun d => d.parameters.length) = some 0 := by decide +kernel
theorem hvJ_chr : yJ0_charAt_5068e.cls = "java/lang/String" ∧ yJ0_charAt_5068e.cls ≠ "java/lang/invoke/MethodHandle" ∧ yJ0_charAt_5068e.cls ≠ "java/lang/invoke/VarHandle" ∧ (parseMethodDescriptor yJ0_charAt_5068e.desc).map (fun d => d.parameters.length) = some 1 := by decide +kernel
theorem hvX4_isWord : yX4_isWord.cls = RX4 ∧ yX4_isWord.cls ≠ "java/lang/invoke/MethodHandle" ∧ yX4_isWord.cls ≠ "java/lang/invoke/VarHandle" ∧ (parseMethodDescriptor yX4_isWord.desc).map (fun d => d.parameters.length) = some 1 := by decide +kernel
theorem hvX4_step : yX4_step.cls = RX4 ∧ yX4_step.cls ≠ "java/lang/invoke/MethodHandle" ∧ yX4_step.cls ≠ "java/lang/invoke/VarHandle" ∧ (parseMethodDescriptor yX4_step.desc).map (fun d => d.parameters.length) = some 0 := by decide +kernel
theorem hvX4_sortRead : yX4_sortRead.cls = RX4 ∧ yX4_sortRead.cls ≠ "java/lang/invoke/MethodHandle" ∧ yX4_sortRead.cls ≠ "java/lang/invoke/VarHandle" ∧ (parseMethodDescriptor yX4_sortRead.desc).map (fun d => d.parameters.length) = some 0 := by decide +kernel
theorem hvX3_enter : yX3_enter.cls = RX3 ∧ yX3_enter.cls ≠ "java/lang/invoke/MethodHandle" ∧ yX3_enter.cls ≠ "java/lang/invoke/VarHandle" ∧ (parseMethodDescriptor yX3_enter.desc).map (fun d => d.parameters.length) = some 2 := by decide +kernel
theorem hvX3_clear : yX3_clear.cls = RX3 ∧ yX3_clear.cls ≠ "java/lang/invoke/MethodHandle" ∧ yX3_clear.cls ≠ "java/lang/invoke/VarHandle" ∧ (parseMethodDescriptor yX3_clear.desc).map (fun d => d.parameters.length) = some 0 := by decide +kernel
theorem hvX4_readPlayer : yX4_readPlayer.cls = RX4 ∧ yX4_readPlayer.cls ≠ "java/lang/invoke/MethodHandle" ∧ yX4_readPlayer.cls ≠ "java/lang/invoke/VarHandle" ∧ (parseMethodDescriptor yX4_readPlayer.desc).map (fun d => d.parameters.length) = some 1 := by decide +kernel
theorem hvX4_read : yX4_read.cls = RX4 ∧ yX4_read.cls ≠ "java/lang/invoke/MethodHandle" ∧ yX4_read.cls ≠ "java/lang/invoke/VarHandle" ∧ (parseMethodDescriptor yX4_read.desc).map (fun d => d.parameters.length) = some 1 := by decide +kernel
/-! FistTrains$Reader.isWord -/
abbrev rmX4_isWord : Room := { frames := 4, cells := 0, slots := 0, locals := 85 }
set_option maxRecDepth 20000 in
theorem iX4_isWord_X4 : ∀ w ∈ wsX40, w ∈ wsX4_isWord := by decide +kernel
set_option maxRecDepth 20000 in
theorem mX4_isWord_1 : Cond.fieldLink RX4 15 "FistTrains$Reader" "token" "I" ∈ wsX4_isWord := List.mem_of_getElem? (i := 1) rfl
set_option maxRecDepth 20000 in
theorem mX4_isWord_2 : Cond.fieldLink RX4 22 "FistTrains$Reader" "past" "I" ∈ wsX4_isWord := List.mem_of_getElem? (i := 2) rfl
set_option maxRecDepth 20000 in
theorem mX4_isWord_3 : Cond.fieldLink RX4 19 "FistTrains$Reader" "start" "I" ∈ wsX4_isWord := List.mem_of_getElem? (i := 3) rfl
set_option maxRecDepth 20000 in
theorem mX4_isWord_4 : Cond.fieldLink RX4 9 "FistTrains$Reader" "text" "LFistTrains$Tape;" ∈ wsX4_isWord := List.mem_of_getElem? (i := 4) rfl
def o_X4_isWord_28 (N : Nat) (t_start : Int32) (t_text_length : Int32) (t_text_bytes : (Nat → Int32)) (si1 : Nat) : Nat → Int32 → Option (Int32)
  | 0 => fun _ => none
  | n + 1 => fun l2 => 
    Option.bind (o_slen si1) (fun r30 =>
    if r30 ≤ l2 then
      some (1)
    else
      Option.bind (o_X6_at N t_text_length t_text_bytes (t_start + l2)) (fun r46 =>
      Option.bind (o_schr si1 l2) (fun r51 =>
      if r46 = r51 then
        o_X4_isWord_28 N t_start t_text_length t_text_bytes si1 n (l2 + 1)
      else
        some (0))))
def o_X4_isWord (N : Nat) (t_token : Int32) (t_start : Int32) (t_past : Int32) (t_text_length : Int32) (t_text_bytes : (Nat → Int32)) (si1 : Nat) : Option (Int32) :=
  if t_token = 1 then
    Option.bind (o_slen si1) (fun r18 =>
    if (t_past - t_start) = r18 then
      o_X4_isWord_28 N t_start t_text_length t_text_bytes si1 N 0
    else
      some (0))
  else
    some (0)
set_option maxHeartbeats 4000000 in
set_option maxRecDepth 100000 in
theorem z_X4_isWord_28 {sK sV : Nat → Nat} {E : ZE} {cI cB cZ : ClassId} (hC : ZC E 3 cX4_isWord wsX4_isWord RX4 rmX4_isWord (some .boolean) (zty cI cB cZ)) (hN : ZN sK sV (zA E) (zs E)) {N : Nat} {a_t : Nat} {a_t_text : Nat} {a_t_text_bytes : Nat} {t_token : Int32} {t_start : Int32} {t_past : Int32} {t_value : Int32} {t_text_length : Int32} {t_text_bytes : (Nat → Int32)} {si1 : Nat} {rf : Int32} (hQ : ZQi E (zty cI cB cZ) rf [(a_t, .inr (4, [.ref a_t_text, .int t_token, .int t_start, .int t_past, .int t_value])), (a_t_text, .inr (6, [.ref a_t_text_bytes, .int t_text_length])), (a_t_text_bytes, .inl (cB, 200, .inl t_text_bytes))]) : ∀ (n : Nat) (l2 : Int32), o_X4_isWord_28 N t_start t_text_length t_text_bytes si1 n l2 = some rf → Z E (0, 0) [(0, .ref a_t), (1, .ref (sK si1)), (2, .int l2)] 28 [] [(a_t, .inr (4, [.ref a_t_text, .int t_token, .int t_start, .int t_past, .int t_value])), (a_t_text, .inr (6, [.ref a_t_text_bytes, .int t_text_length])), (a_t_text_bytes, .inl (cB, 200, .inl t_text_bytes))] := by
  intro n
  induction n with
  | zero =>
    intro l2 hR
    cases hR
  | succ n ih =>
    intro l2 hR
    rw [o_X4_isWord_28] at hR
    refine z_iload_n hC dX4_isWord_28 rfl 2 rfl ?_
    refine z_aload_n hC dX4_isWord_29 rfl 1 rfl ?_
    refine z_callK hC hN [] c_slen rfl ⟨rfl, rfl⟩ gX4_isWord_J0_length_8abf5 hvJ_len ⟨Nat.le_of_ble_eq_true rfl, Nat.le_of_ble_eq_true rfl⟩ ⟨Nat.zero_le _, Nat.zero_le _⟩ rfl (Nat.le_of_ble_eq_true rfl) dX4_isWord_30 hR (fun r30 hR => ?_)
    refine z_icmp_ge hC 65 dX4_isWord_33 (by decide) hR (fun hR => ?_) (fun hR => ?_)
    · refine z_ic1 hC dX4_isWord_65 ?_
      obtain rfl := Option.some.inj hR
      exact z_iret hC hQ rfl rfl rfl dX4_isWord_66
    · refine z_aload_n hC dX4_isWord_36 rfl 0 rfl ?_
      refine z_get hC iX4_isWord_X4 rfl 0 0 rfl (by decide) mX4_isWord_4 rfl rfl dX4_isWord_37 ?_
      refine z_aload_n hC dX4_isWord_40 rfl 0 rfl ?_
      refine z_get hC iX4_isWord_X4 rfl 0 2 rfl (by decide) mX4_isWord_3 rfl rfl dX4_isWord_41 ?_
      refine z_iload_n hC dX4_isWord_44 rfl 2 rfl ?_
      refine z_iadd hC dX4_isWord_45 ?_
      refine z_callVi_p hC hN [.int (t_start + l2)] [1, 2] (c_X6_at (l := zl E) (D := zD E) (cI := cI) (cB := cB) (cZ := cZ) (N := N) (a_t := a_t_text) (a_t_bytes := a_t_text_bytes) (l1 := (t_start + l2)) (t_length := t_text_length) (t_bytes := t_text_bytes)) rfl ⟨rfl, rfl⟩ gX4_isWord_X6_at hvX6_at 1 6 rfl rfl rfl ⟨Nat.le_of_ble_eq_true rfl, Nat.le_of_ble_eq_true rfl⟩ ⟨Nat.zero_le _, Nat.zero_le _⟩ rfl (Nat.le_of_ble_eq_true rfl) rfl (by decide) dX4_isWord_46 hR (fun r46 hR => ?_)
      refine z_aload_n hC dX4_isWord_49 rfl 1 rfl ?_
      refine z_iload_n hC dX4_isWord_50 rfl 2 rfl ?_
      refine z_callK hC hN [.int l2] c_schr rfl ⟨rfl, rfl⟩ gX4_isWord_J0_charAt_5068e hvJ_chr ⟨Nat.le_of_ble_eq_true rfl, Nat.le_of_ble_eq_true rfl⟩ ⟨Nat.zero_le _, Nat.zero_le _⟩ rfl (Nat.le_of_ble_eq_true rfl) dX4_isWord_51 hR (fun r51 hR => ?_)
      refine z_icmp_eq hC 59 dX4_isWord_54 (by decide) hR (fun hR => ?_) (fun hR => ?_)
      · refine z_iinc1 hC [(2, .int (l2 + 1)), (0, .ref a_t), (1, .ref (sK si1))] dX4_isWord_59 2 rfl (by decide) rfl ?_
        refine z_goto hC 28 dX4_isWord_62 (by decide) ?_
        refine z_sub (lv' := [(0, .ref a_t), (1, .ref (sK si1)), (2, .int (l2 + 1))]) [1, 2, 0] rfl ?_
        exact ih (l2 + 1) hR
      · refine z_ic0 hC dX4_isWord_57 ?_
        obtain rfl := Option.some.inj hR
        exact z_iret hC hQ rfl rfl rfl dX4_isWord_58
set_option maxHeartbeats 4000000 in
set_option maxRecDepth 100000 in
theorem z_X4_isWord_0 {sK sV : Nat → Nat} {E : ZE} {cI cB cZ : ClassId} (hC : ZC E 3 cX4_isWord wsX4_isWord RX4 rmX4_isWord (some .boolean) (zty cI cB cZ)) (hN : ZN sK sV (zA E) (zs E)) {N : Nat} {a_t : Nat} {a_t_text : Nat} {a_t_text_bytes : Nat} {t_token : Int32} {t_start : Int32} {t_past : Int32} {t_value : Int32} {t_text_length : Int32} {t_text_bytes : (Nat → Int32)} {si1 : Nat} {rf : Int32} (hQ : ZQi E (zty cI cB cZ) rf [(a_t, .inr (4, [.ref a_t_text, .int t_token, .int t_start, .int t_past, .int t_value])), (a_t_text, .inr (6, [.ref a_t_text_bytes, .int t_text_length])), (a_t_text_bytes, .inl (cB, 200, .inl t_text_bytes))]) (hR : o_X4_isWord N t_token t_start t_past t_text_length t_text_bytes si1 = some rf) : Z E (0, 0) [(0, .ref a_t), (1, .ref (sK si1))] 0 [] [(a_t, .inr (4, [.ref a_t_text, .int t_token, .int t_start, .int t_past, .int t_value])), (a_t_text, .inr (6, [.ref a_t_text_bytes, .int t_text_length])), (a_t_text_bytes, .inl (cB, 200, .inl t_text_bytes))] := by
  rw [o_X4_isWord] at hR
  refine z_aload_n hC dX4_isWord_0 rfl 0 rfl ?_
  refine z_get hC iX4_isWord_X4 rfl 0 1 rfl (by decide) mX4_isWord_1 rfl rfl dX4_isWord_1 ?_
  refine z_ic1 hC dX4_isWord_4 ?_
  refine z_icmp_ne hC 24 dX4_isWord_5 (by decide) hR (fun hR => ?_) (fun hR => ?_)
  · refine z_ic0 hC dX4_isWord_24 ?_
    obtain rfl := Option.some.inj hR
    exact z_iret hC hQ rfl rfl rfl dX4_isWord_25
  · refine z_aload_n hC dX4_isWord_8 rfl 0 rfl ?_
    refine z_get hC iX4_isWord_X4 rfl 0 3 rfl (by decide) mX4_isWord_2 rfl rfl dX4_isWord_9 ?_
    refine z_aload_n hC dX4_isWord_12 rfl 0 rfl ?_
    refine z_get hC iX4_isWord_X4 rfl 0 2 rfl (by decide) mX4_isWord_3 rfl rfl dX4_isWord_13 ?_
    refine z_isub hC dX4_isWord_16 ?_
    refine z_aload_n hC dX4_isWord_17 rfl 1 rfl ?_
    refine z_callK hC hN [] c_slen rfl ⟨rfl, rfl⟩ gX4_isWord_J0_length_8abf5 hvJ_len ⟨Nat.le_of_ble_eq_true rfl, Nat.le_of_ble_eq_true rfl⟩ ⟨Nat.zero_le _, Nat.zero_le _⟩ rfl (Nat.le_of_ble_eq_true rfl) dX4_isWord_18 hR (fun r18 hR => ?_)
    refine z_icmp_eq hC 26 dX4_isWord_21 (by decide) hR (fun hR => ?_) (fun hR => ?_)
    · refine z_ic0 hC dX4_isWord_26 ?_
      refine z_istore_n hC [(2, .int 0), (0, .ref a_t), (1, .ref (sK si1))] dX4_isWord_27 rfl (by decide) rfl ?_
      refine z_sub (lv' := [(0, .ref a_t), (1, .ref (sK si1)), (2, .int 0)]) [1, 2, 0] rfl ?_
      exact z_X4_isWord_28 hC hN (N := N) (a_t := a_t) (a_t_text := a_t_text) (a_t_text_bytes := a_t_text_bytes) (t_token := t_token) (t_start := t_start) (t_past := t_past) (t_value := t_value) (t_text_length := t_text_length) (t_text_bytes := t_text_bytes) (si1 := si1) hQ  N 0 hR
    · refine z_ic0 hC dX4_isWord_24 ?_
      obtain rfl := Option.some.inj hR
      exact z_iret hC hQ rfl rfl rfl dX4_isWord_25
set_option maxHeartbeats 4000000 in
set_option maxRecDepth 100000 in
theorem c_X4_isWord {sK sV : Nat → Nat} {l : Launch} {D : va_G} {cI cB cZ : ClassId} {N : Nat} {a_t : Nat} {a_t_text : Nat} {a_t_text_bytes : Nat} {t_token : Int32} {t_start : Int32} {t_past : Int32} {t_value : Int32} {t_text_length : Int32} {t_text_bytes : (Nat → Int32)} {si1 : Nat} : ∀ R : Int32, o_X4_isWord N t_token t_start t_past t_text_length t_text_bytes si1 = some R → ZMi sK sV l yX4_isWord wsX4_isWord rmX4_isWord D (zty cI cB cZ) [.ref a_t, .ref (sK si1)] [(a_t, .inr (4, [.ref a_t_text, .int t_token, .int t_start, .int t_past, .int t_value])), (a_t_text, .inr (6, [.ref a_t_text_bytes, .int t_text_length])), (a_t_text_bytes, .inl (cB, 200, .inl t_text_bytes))] R [(a_t, .inr (4, [.ref a_t_text, .int t_token, .int t_start, .int t_past, .int t_value])), (a_t_text, .inr (6, [.ref a_t_text_bytes, .int t_text_length])), (a_t_text_bytes, .inl (cB, 200, .inl t_text_bytes))] := by
  intro R hR
  refine zi_of (cc := cX4_isWord) (maxL := 3) (ret := (some .boolean)) (by decide) rfl (Nat.le_of_ble_eq_true rfl) (fun E hE1 hE2 hC hN hQ => ?_)
  subst hE1 hE2
  exact z_X4_isWord_0 hC hN (N := N) (a_t := a_t) (a_t_text := a_t_text) (a_t_text_bytes := a_t_text_bytes) (t_token := t_token) (t_start := t_start) (t_past := t_past) (t_value := t_value) (t_text_length := t_text_length) (t_text_bytes := t_text_bytes) (si1 := si1) hQ hR

/-! FistTrains$Reader.sortRead -/
abbrev rmX4_sortRead : Room := { frames := 5, cells := 0, slots := 0, locals := 107 }
def o_X4_sortRead (N : Nat) (t_token : Int32) (t_start : Int32) (t_past : Int32) (t_text_length : Int32) (t_text_bytes : (Nat → Int32)) : Option (Int32) :=
  Option.bind (o_X4_isWord N t_token t_start t_past t_text_length t_text_bytes 1) (fun r3 =>
  if r3 = 0 then
    Option.bind (o_X4_isWord N t_token t_start t_past t_text_length t_text_bytes 2) (fun r14 =>
    if r14 = 0 then
      Option.bind (o_X4_isWord N t_token t_start t_past t_text_length t_text_bytes 3) (fun r25 =>
      if r25 = 0 then
        Option.bind (o_X4_isWord N t_token t_start t_past t_text_length t_text_bytes 4) (fun r36 =>
        if r36 = 0 then
          Option.bind (o_X4_isWord N t_token t_start t_past t_text_length t_text_bytes 5) (fun r47 =>
          if r47 = 0 then
            some (0)
          else
            some (5))
        else
          some (4))
      else
        some (3))
    else
      some (2))
  else
    some (1))
set_option maxHeartbeats 4000000 in
set_option maxRecDepth 100000 in
theorem z_X4_sortRead_0 {sK sV : Nat → Nat} {E : ZE} {cI cB cZ : ClassId} (hC : ZC E 1 cX4_sortRead wsX4_sortRead RX4 rmX4_sortRead (some .int) (zty cI cB cZ)) (hN : ZN sK sV (zA E) (zs E)) {N : Nat} {a_t : Nat} {a_t_text : Nat} {a_t_text_bytes : Nat} {t_token : Int32} {t_start : Int32} {t_past : Int32} {t_value : Int32} {t_text_length : Int32} {t_text_bytes : (Nat → Int32)} {rf : Int32} (hQ : ZQi E (zty cI cB cZ) rf [(a_t, .inr (4, [.ref a_t_text, .int t_token, .int t_start, .int t_past, .int t_value])), (a_t_text, .inr (6, [.ref a_t_text_bytes, .int t_text_length])), (a_t_text_bytes, .inl (cB, 200, .inl t_text_bytes))]) (hR : o_X4_sortRead N t_token t_start t_past t_text_length t_text_bytes = some rf) : Z E (0, 0) [(0, .ref a_t)] 0 [] [(a_t, .inr (4, [.ref a_t_text, .int t_token, .int t_start, .int t_past, .int t_value])), (a_t_text, .inr (6, [.ref a_t_text_bytes, .int t_text_length])), (a_t_text_bytes, .inl (cB, 200, .inl t_text_bytes))] := by
  rw [o_X4_sortRead] at hR
  refine z_aload_n hC dX4_sortRead_0 rfl 0 rfl ?_
  refine z_ldcs hC hN "boy" (List.mem_of_getElem? (i := 1) rfl) dX4_sortRead_1 ?_
  refine z_callVi_p hC hN [.ref (sK 1)] [0, 1, 2] (c_X4_isWord (l := zl E) (D := zD E) (cI := cI) (cB := cB) (cZ := cZ) (N := N) (a_t := a_t) (a_t_text := a_t_text) (a_t_text_bytes := a_t_text_bytes) (si1 := 1) (t_token := t_token) (t_start := t_start) (t_past := t_past) (t_value := t_value) (t_text_length := t_text_length) (t_text_bytes := t_text_bytes)) rfl ⟨rfl, rfl⟩ gX4_sortRead_X4_isWord hvX4_isWord 0 4 rfl rfl rfl ⟨Nat.le_of_ble_eq_true rfl, Nat.le_of_ble_eq_true rfl⟩ ⟨Nat.zero_le _, Nat.zero_le _⟩ rfl (Nat.le_of_ble_eq_true rfl) rfl (by decide) dX4_sortRead_3 hR (fun r3 hR => ?_)
  refine z_if_eq hC 11 dX4_sortRead_6 (by decide) hR (fun hR => ?_) (fun hR => ?_)
  · refine z_aload_n hC dX4_sortRead_11 rfl 0 rfl ?_
    refine z_ldcs hC hN "steady" (List.mem_of_getElem? (i := 2) rfl) dX4_sortRead_12 ?_
    refine z_callVi_p hC hN [.ref (sK 2)] [0, 1, 2] (c_X4_isWord (l := zl E) (D := zD E) (cI := cI) (cB := cB) (cZ := cZ) (N := N) (a_t := a_t) (a_t_text := a_t_text) (a_t_text_bytes := a_t_text_bytes) (si1 := 2) (t_token := t_token) (t_start := t_start) (t_past := t_past) (t_value := t_value) (t_text_length := t_text_length) (t_text_bytes := t_text_bytes)) rfl ⟨rfl, rfl⟩ gX4_sortRead_X4_isWord hvX4_isWord 0 4 rfl rfl rfl ⟨Nat.le_of_ble_eq_true rfl, Nat.le_of_ble_eq_true rfl⟩ ⟨Nat.zero_le _, Nat.zero_le _⟩ rfl (Nat.le_of_ble_eq_true rfl) rfl (by decide) dX4_sortRead_14 hR (fun r14 hR => ?_)
    refine z_if_eq hC 22 dX4_sortRead_17 (by decide) hR (fun hR => ?_) (fun hR => ?_)
    · refine z_aload_n hC dX4_sortRead_22 rfl 0 rfl ?_
      refine z_ldcs hC hN "teacher" (List.mem_of_getElem? (i := 3) rfl) dX4_sortRead_23 ?_
      refine z_callVi_p hC hN [.ref (sK 3)] [0, 1, 2] (c_X4_isWord (l := zl E) (D := zD E) (cI := cI) (cB := cB) (cZ := cZ) (N := N) (a_t := a_t) (a_t_text := a_t_text) (a_t_text_bytes := a_t_text_bytes) (si1 := 3) (t_token := t_token) (t_start := t_start) (t_past := t_past) (t_value := t_value) (t_text_length := t_text_length) (t_text_bytes := t_text_bytes)) rfl ⟨rfl, rfl⟩ gX4_sortRead_X4_isWord hvX4_isWord 0 4 rfl rfl rfl ⟨Nat.le_of_ble_eq_true rfl, Nat.le_of_ble_eq_true rfl⟩ ⟨Nat.zero_le _, Nat.zero_le _⟩ rfl (Nat.le_of_ble_eq_true rfl) rfl (by decide) dX4_sortRead_25 hR (fun r25 hR => ?_)
      refine z_if_eq hC 33 dX4_sortRead_28 (by decide) hR (fun hR => ?_) (fun hR => ?_)
      · refine z_aload_n hC dX4_sortRead_33 rfl 0 rfl ?_
        refine z_ldcs hC hN "mirror" (List.mem_of_getElem? (i := 4) rfl) dX4_sortRead_34 ?_
        refine z_callVi_p hC hN [.ref (sK 4)] [0, 1, 2] (c_X4_isWord (l := zl E) (D := zD E) (cI := cI) (cB := cB) (cZ := cZ) (N := N) (a_t := a_t) (a_t_text := a_t_text) (a_t_text_bytes := a_t_text_bytes) (si1 := 4) (t_token := t_token) (t_start := t_start) (t_past := t_past) (t_value := t_value) (t_text_length := t_text_length) (t_text_bytes := t_text_bytes)) rfl ⟨rfl, rfl⟩ gX4_sortRead_X4_isWord hvX4_isWord 0 4 rfl rfl rfl ⟨Nat.le_of_ble_eq_true rfl, Nat.le_of_ble_eq_true rfl⟩ ⟨Nat.zero_le _, Nat.zero_le _⟩ rfl (Nat.le_of_ble_eq_true rfl) rfl (by decide) dX4_sortRead_36 hR (fun r36 hR => ?_)
        refine z_if_eq hC 44 dX4_sortRead_39 (by decide) hR (fun hR => ?_) (fun hR => ?_)
        · refine z_aload_n hC dX4_sortRead_44 rfl 0 rfl ?_
          refine z_ldcs hC hN "spy" (List.mem_of_getElem? (i := 5) rfl) dX4_sortRead_45 ?_
          refine z_callVi_p hC hN [.ref (sK 5)] [0, 1, 2] (c_X4_isWord (l := zl E) (D := zD E) (cI := cI) (cB := cB) (cZ := cZ) (N := N) (a_t := a_t) (a_t_text := a_t_text) (a_t_text_bytes := a_t_text_bytes) (si1 := 5) (t_token := t_token) (t_start := t_start) (t_past := t_past) (t_value := t_value) (t_text_length := t_text_length) (t_text_bytes := t_text_bytes)) rfl ⟨rfl, rfl⟩ gX4_sortRead_X4_isWord hvX4_isWord 0 4 rfl rfl rfl ⟨Nat.le_of_ble_eq_true rfl, Nat.le_of_ble_eq_true rfl⟩ ⟨Nat.zero_le _, Nat.zero_le _⟩ rfl (Nat.le_of_ble_eq_true rfl) rfl (by decide) dX4_sortRead_47 hR (fun r47 hR => ?_)
          refine z_if_eq hC 57 dX4_sortRead_50 (by decide) hR (fun hR => ?_) (fun hR => ?_)
          · refine z_ic0 hC dX4_sortRead_57 ?_
            obtain rfl := Option.some.inj hR
            exact z_iret hC hQ rfl rfl rfl dX4_sortRead_58
          · refine z_ic5 hC dX4_sortRead_53 ?_
            refine z_goto hC 58 dX4_sortRead_54 (by decide) ?_
            obtain rfl := Option.some.inj hR
            exact z_iret hC hQ rfl rfl rfl dX4_sortRead_58
        · refine z_ic4 hC dX4_sortRead_42 ?_
          obtain rfl := Option.some.inj hR
          exact z_iret hC hQ rfl rfl rfl dX4_sortRead_43
      · refine z_ic3 hC dX4_sortRead_31 ?_
        obtain rfl := Option.some.inj hR
        exact z_iret hC hQ rfl rfl rfl dX4_sortRead_32
    · refine z_ic2 hC dX4_sortRead_20 ?_
      obtain rfl := Option.some.inj hR
      exact z_iret hC hQ rfl rfl rfl dX4_sortRead_21
  · refine z_ic1 hC dX4_sortRead_9 ?_
    obtain rfl := Option.some.inj hR
    exact z_iret hC hQ rfl rfl rfl dX4_sortRead_10
set_option maxHeartbeats 4000000 in
set_option maxRecDepth 100000 in
theorem c_X4_sortRead {sK sV : Nat → Nat} {l : Launch} {D : va_G} {cI cB cZ : ClassId} {N : Nat} {a_t : Nat} {a_t_text : Nat} {a_t_text_bytes : Nat} {t_token : Int32} {t_start : Int32} {t_past : Int32} {t_value : Int32} {t_text_length : Int32} {t_text_bytes : (Nat → Int32)} : ∀ R : Int32, o_X4_sortRead N t_token t_start t_past t_text_length t_text_bytes = some R → ZMi sK sV l yX4_sortRead wsX4_sortRead rmX4_sortRead D (zty cI cB cZ) [.ref a_t] [(a_t, .inr (4, [.ref a_t_text, .int t_token, .int t_start, .int t_past, .int t_value])), (a_t_text, .inr (6, [.ref a_t_text_bytes, .int t_text_length])), (a_t_text_bytes, .inl (cB, 200, .inl t_text_bytes))] R [(a_t, .inr (4, [.ref a_t_text, .int t_token, .int t_start, .int t_past, .int t_value])), (a_t_text, .inr (6, [.ref a_t_text_bytes, .int t_text_length])), (a_t_text_bytes, .inl (cB, 200, .inl t_text_bytes))] := by
  intro R hR
  refine zi_of (cc := cX4_sortRead) (maxL := 1) (ret := (some .int)) (by decide) rfl (Nat.le_of_ble_eq_true rfl) (fun E hE1 hE2 hC hN hQ => ?_)
  subst hE1 hE2
  exact z_X4_sortRead_0 hC hN (N := N) (a_t := a_t) (a_t_text := a_t_text) (a_t_text_bytes := a_t_text_bytes) (t_token := t_token) (t_start := t_start) (t_past := t_past) (t_value := t_value) (t_text_length := t_text_length) (t_text_bytes := t_text_bytes) hQ hR

/-! FistTrains$Reader.readPlayer -/
abbrev rmX4_readPlayer : Room := { frames := 6, cells := 0, slots := 0, locals := 127 }
set_option maxRecDepth 20000 in
theorem iX4_readPlayer_X3 : ∀ w ∈ wsX30, w ∈ wsX4_readPlayer := by decide +kernel
set_option maxRecDepth 20000 in
theorem mX4_readPlayer_1 : Cond.fieldLink RX4 46 "FistTrains$Hall" "players" "I" ∈ wsX4_readPlayer := List.mem_of_getElem? (i := 1) rfl
set_option maxRecDepth 20000 in
theorem iX4_readPlayer_X4 : ∀ w ∈ wsX40, w ∈ wsX4_readPlayer := by decide +kernel
set_option maxRecDepth 20000 in
theorem mX4_readPlayer_2 : Cond.fieldLink RX4 15 "FistTrains$Reader" "token" "I" ∈ wsX4_readPlayer := List.mem_of_getElem? (i := 2) rfl
set_option maxRecDepth 20000 in
theorem mX4_readPlayer_3 : Cond.fieldLink RX4 25 "FistTrains$Reader" "value" "I" ∈ wsX4_readPlayer := List.mem_of_getElem? (i := 3) rfl
set_option maxRecDepth 20000 in
theorem mX4_readPlayer_95 : Cond.initialized RX8 ∈ wsX4_readPlayer := List.mem_of_getElem? (i := 95) rfl
set_option maxRecDepth 20000 in
theorem mX4_readPlayer_94 : Cond.static yX8_isHand ∈ wsX4_readPlayer := List.mem_of_getElem? (i := 94) rfl
def o_X4_readPlayer (N : Nat) (t_token : Int32) (t_start : Int32) (t_past : Int32) (t_value : Int32) (t_text_length : Int32) (t_text_bytes : (Nat → Int32)) (p1_players : Int32) (p1_kind : (Nat → Int32)) (p1_hand : (Nat → Int32)) (p1_leader : (Nat → Int32)) : Option (Int32 × Int32 × Int32 × Int32 × Int32 × Int32 × (Nat → Int32) × (Nat → Int32) × (Nat → Int32)) :=
  Option.bind (o_X4_isWord N t_token t_start t_past t_text_length t_text_bytes 0) (fun r3 =>
  if r3 = 0 then
    some (1, t_token, t_start, t_past, t_value, p1_players, p1_kind, p1_hand, p1_leader)
  else
    if p1_players = 8 then
      some (3, t_token, t_start, t_past, t_value, p1_players, p1_kind, p1_hand, p1_leader)
    else
      Option.bind (o_X4_step N t_past t_value t_text_length t_text_bytes) (fun r23 =>
      Option.bind (o_X4_sortRead N r23.1 r23.2.1 r23.2.2.1 t_text_length t_text_bytes) (fun r27 =>
      if r27 = 0 then
        some (1, r23.1, r23.2.1, r23.2.2.1, r23.2.2.2, p1_players, p1_kind, p1_hand, p1_leader)
      else
        Option.bind (o_X4_step N r23.2.2.1 r23.2.2.2 t_text_length t_text_bytes) (fun r38 =>
        if r38.1 = 2 then
          Option.bind (o_X8_isHand N r38.2.2.2) (fun r55 =>
          if r55 = 0 then
            some (2, r38.1, r38.2.1, r38.2.2.1, r38.2.2.2, p1_players, p1_kind, p1_hand, p1_leader)
          else
            Option.bind (o_X4_step N r38.2.2.1 r38.2.2.2 t_text_length t_text_bytes) (fun r69 =>
            if r69.1 = 3 then
              Option.bind (o_X3_enter N p1_players p1_kind p1_hand p1_leader r27 r38.2.2.2) (fun r85 =>
              Option.bind (o_X4_step N r69.2.2.1 r69.2.2.2 t_text_length t_text_bytes) (fun r89 =>
              some (0, r89.1, r89.2.1, r89.2.2.1, r89.2.2.2, r85.1, r85.2.1, r85.2.2.1, r85.2.2.2)))
            else
              some (1, r69.1, r69.2.1, r69.2.2.1, r69.2.2.2, p1_players, p1_kind, p1_hand, p1_leader)))
        else
          some (1, r38.1, r38.2.1, r38.2.2.1, r38.2.2.2, p1_players, p1_kind, p1_hand, p1_leader)))))
set_option maxHeartbeats 4000000 in
set_option maxRecDepth 100000 in
theorem z_X4_readPlayer_0 {sK sV : Nat → Nat} {E : ZE} {cI cB cZ : ClassId} (hC : ZC E 4 cX4_readPlayer wsX4_readPlayer RX4 rmX4_readPlayer (some .int) (zty cI cB cZ)) (hN : ZN sK sV (zA E) (zs E)) {N : Nat} {a_t : Nat} {a_t_text : Nat} {a_t_text_bytes : Nat} {a_p1 : Nat} {a_p1_kind : Nat} {a_p1_hand : Nat} {a_p1_leader : Nat} {a_p1_course : Nat} {t_token : Int32} {t_start : Int32} {t_past : Int32} {t_value : Int32} {t_text_length : Int32} {t_text_bytes : (Nat → Int32)} {p1_players : Int32} {p1_round : Int32} {p1_time : Int32} {p1_kind : (Nat → Int32)} {p1_hand : (Nat → Int32)} {p1_leader : (Nat → Int32)} {rf : Int32 × Int32 × Int32 × Int32 × Int32 × Int32 × (Nat → Int32) × (Nat → Int32) × (Nat → Int32)} (hQ : ZQi E (zty cI cB cZ) rf.1 [(a_t, .inr (4, [.ref a_t_text, .int rf.2.1, .int rf.2.2.1, .int rf.2.2.2.1, .int rf.2.2.2.2.1])), (a_t_text, .inr (6, [.ref a_t_text_bytes, .int t_text_length])), (a_t_text_bytes, .inl (cB, 200, .inl t_text_bytes)), (a_p1, .inr (3, [.int rf.2.2.2.2.2.1, .int p1_round, .int p1_time, .ref a_p1_kind, .ref a_p1_hand, .ref a_p1_leader, .ref a_p1_course])), (a_p1_kind, .inl (cI, 8, .inl rf.2.2.2.2.2.2.1)), (a_p1_hand, .inl (cI, 8, .inl rf.2.2.2.2.2.2.2.1)), (a_p1_leader, .inl (cI, 8, .inl rf.2.2.2.2.2.2.2.2))]) (hR : o_X4_readPlayer N t_token t_start t_past t_value t_text_length t_text_bytes p1_players p1_kind p1_hand p1_leader = some rf) : Z E (0, 0) [(0, .ref a_t), (1, .ref a_p1)] 0 [] [(a_t, .inr (4, [.ref a_t_text, .int t_token, .int t_start, .int t_past, .int t_value])), (a_t_text, .inr (6, [.ref a_t_text_bytes, .int t_text_length])), (a_t_text_bytes, .inl (cB, 200, .inl t_text_bytes)), (a_p1, .inr (3, [.int p1_players, .int p1_round, .int p1_time, .ref a_p1_kind, .ref a_p1_hand, .ref a_p1_leader, .ref a_p1_course])), (a_p1_kind, .inl (cI, 8, .inl p1_kind)), (a_p1_hand, .inl (cI, 8, .inl p1_hand)), (a_p1_leader, .inl (cI, 8, .inl p1_leader))] := by
  rw [o_X4_readPlayer] at hR
  refine z_aload_n hC dX4_readPlayer_0 rfl 0 rfl ?_
  refine z_ldcs hC hN "player" (List.mem_of_getElem? (i := 0) rfl) dX4_readPlayer_1 ?_
  refine z_callVi_p hC hN [.ref (sK 0)] [0, 1, 2] (c_X4_isWord (l := zl E) (D := zD E) (cI := cI) (cB := cB) (cZ := cZ) (N := N) (a_t := a_t) (a_t_text := a_t_text) (a_t_text_bytes := a_t_text_bytes) (si1 := 0) (t_token := t_token) (t_start := t_start) (t_past := t_past) (t_value := t_value) (t_text_length := t_text_length) (t_text_bytes := t_text_bytes)) rfl ⟨rfl, rfl⟩ gX4_readPlayer_X4_isWord hvX4_isWord 0 4 rfl rfl rfl ⟨Nat.le_of_ble_eq_true rfl, Nat.le_of_ble_eq_true rfl⟩ ⟨Nat.zero_le _, Nat.zero_le _⟩ rfl (Nat.le_of_ble_eq_true rfl) rfl (by decide) dX4_readPlayer_3 hR (fun r3 hR => ?_)
  refine z_if_ne hC 11 dX4_readPlayer_6 (by decide) hR (fun hR => ?_) (fun hR => ?_)
  · refine z_aload_n hC dX4_readPlayer_11 rfl 1 rfl ?_
    refine z_get hC iX4_readPlayer_X3 rfl 3 0 rfl (by decide) mX4_readPlayer_1 rfl rfl dX4_readPlayer_12 ?_
    refine z_bipush (v := 8) hC dX4_readPlayer_15 (by decide) ?_
    refine z_icmp_ne hC 22 dX4_readPlayer_17 (by decide) hR (fun hR => ?_) (fun hR => ?_)
    · refine z_aload_n hC dX4_readPlayer_22 rfl 0 rfl ?_
      refine z_callVv hC hN [] [0, 1, 2] (c_X4_step (l := zl E) (D := zD E) (cI := cI) (cB := cB) (cZ := cZ) (N := N) (a_t := a_t) (a_t_text := a_t_text) (a_t_text_bytes := a_t_text_bytes) (t_token := t_token) (t_start := t_start) (t_past := t_past) (t_value := t_value) (t_text_length := t_text_length) (t_text_bytes := t_text_bytes)) rfl ⟨rfl, rfl⟩ gX4_readPlayer_X4_step hvX4_step 0 4 rfl rfl rfl ⟨Nat.le_of_ble_eq_true rfl, Nat.le_of_ble_eq_true rfl⟩ ⟨Nat.zero_le _, Nat.zero_le _⟩ rfl (Nat.le_of_ble_eq_true rfl) rfl (by decide) (fun _ => rfl) dX4_readPlayer_23 hR (fun r23 hR => ?_)
      refine z_aload_n hC dX4_readPlayer_26 rfl 0 rfl ?_
      refine z_callVi_p hC hN [] [0, 1, 2] (c_X4_sortRead (l := zl E) (D := zD E) (cI := cI) (cB := cB) (cZ := cZ) (N := N) (a_t := a_t) (a_t_text := a_t_text) (a_t_text_bytes := a_t_text_bytes) (t_token := r23.1) (t_start := r23.2.1) (t_past := r23.2.2.1) (t_value := r23.2.2.2) (t_text_length := t_text_length) (t_text_bytes := t_text_bytes)) rfl ⟨rfl, rfl⟩ gX4_readPlayer_X4_sortRead hvX4_sortRead 0 4 rfl rfl rfl ⟨Nat.le_of_ble_eq_true rfl, Nat.le_of_ble_eq_true rfl⟩ ⟨Nat.zero_le _, Nat.zero_le _⟩ rfl (Nat.le_of_ble_eq_true rfl) rfl (by decide) dX4_readPlayer_27 hR (fun r27 hR => ?_)
      refine z_istore_n hC [(2, .int r27), (0, .ref a_t), (1, .ref a_p1)] dX4_readPlayer_30 rfl (by decide) rfl ?_
      refine z_iload_n hC dX4_readPlayer_31 rfl 0 rfl ?_
      refine z_if_ne hC 37 dX4_readPlayer_32 (by decide) hR (fun hR => ?_) (fun hR => ?_)
      · refine z_aload_n hC dX4_readPlayer_37 rfl 1 rfl ?_
        refine z_callVv hC hN [] [0, 1, 2] (c_X4_step (l := zl E) (D := zD E) (cI := cI) (cB := cB) (cZ := cZ) (N := N) (a_t := a_t) (a_t_text := a_t_text) (a_t_text_bytes := a_t_text_bytes) (t_token := r23.1) (t_start := r23.2.1) (t_past := r23.2.2.1) (t_value := r23.2.2.2) (t_text_length := t_text_length) (t_text_bytes := t_text_bytes)) rfl ⟨rfl, rfl⟩ gX4_readPlayer_X4_step hvX4_step 0 4 rfl rfl rfl ⟨Nat.le_of_ble_eq_true rfl, Nat.le_of_ble_eq_true rfl⟩ ⟨Nat.zero_le _, Nat.zero_le _⟩ rfl (Nat.le_of_ble_eq_true rfl) rfl (by decide) (fun _ => rfl) dX4_readPlayer_38 hR (fun r38 hR => ?_)
        refine z_aload_n hC dX4_readPlayer_41 rfl 1 rfl ?_
        refine z_get hC iX4_readPlayer_X4 rfl 0 1 rfl (by decide) mX4_readPlayer_2 rfl rfl dX4_readPlayer_42 ?_
        refine z_ic2 hC dX4_readPlayer_45 ?_
        refine z_icmp_eq hC 51 dX4_readPlayer_46 (by decide) hR (fun hR => ?_) (fun hR => ?_)
        · refine z_aload_n hC dX4_readPlayer_51 rfl 1 rfl ?_
          refine z_get hC iX4_readPlayer_X4 rfl 0 4 rfl (by decide) mX4_readPlayer_3 rfl rfl dX4_readPlayer_52 ?_
          refine z_callSNi_p hC hN [.int r38.2.2.2] [] (c_X8_isHand (l := zl E) (D := zD E) (cI := cI) (cB := cB) (cZ := cZ) (N := N) (l0 := r38.2.2.2)) rfl ⟨rfl, rfl⟩ gX4_readPlayer_X8_isHand_n53 (List.mem_of_getElem? (i := 2) rfl) mX4_readPlayer_95 mX4_readPlayer_94 hsX8_isHand ⟨Nat.le_of_ble_eq_true rfl, Nat.le_of_ble_eq_true rfl⟩ ⟨Nat.zero_le _, Nat.zero_le _⟩ rfl (Nat.le_of_ble_eq_true rfl) rfl (by decide) dX4_readPlayer_55 hR (fun r55 hR => ?_)
          refine z_if_ne hC 63 dX4_readPlayer_58 (by decide) hR (fun hR => ?_) (fun hR => ?_)
          · refine z_aload_n hC dX4_readPlayer_63 rfl 1 rfl ?_
            refine z_get hC iX4_readPlayer_X4 rfl 0 4 rfl (by decide) mX4_readPlayer_3 rfl rfl dX4_readPlayer_64 ?_
            refine z_istore_n hC [(3, .int r38.2.2.2), (2, .int r27), (0, .ref a_t), (1, .ref a_p1)] dX4_readPlayer_67 rfl (by decide) rfl ?_
            refine z_aload_n hC dX4_readPlayer_68 rfl 2 rfl ?_
            refine z_callVv hC hN [] [0, 1, 2] (c_X4_step (l := zl E) (D := zD E) (cI := cI) (cB := cB) (cZ := cZ) (N := N) (a_t := a_t) (a_t_text := a_t_text) (a_t_text_bytes := a_t_text_bytes) (t_token := r38.1) (t_start := r38.2.1) (t_past := r38.2.2.1) (t_value := r38.2.2.2) (t_text_length := t_text_length) (t_text_bytes := t_text_bytes)) rfl ⟨rfl, rfl⟩ gX4_readPlayer_X4_step hvX4_step 0 4 rfl rfl rfl ⟨Nat.le_of_ble_eq_true rfl, Nat.le_of_ble_eq_true rfl⟩ ⟨Nat.zero_le _, Nat.zero_le _⟩ rfl (Nat.le_of_ble_eq_true rfl) rfl (by decide) (fun _ => rfl) dX4_readPlayer_69 hR (fun r69 hR => ?_)
            refine z_aload_n hC dX4_readPlayer_72 rfl 2 rfl ?_
            refine z_get hC iX4_readPlayer_X4 rfl 0 1 rfl (by decide) mX4_readPlayer_2 rfl rfl dX4_readPlayer_73 ?_
            refine z_ic3 hC dX4_readPlayer_76 ?_
            refine z_icmp_eq hC 82 dX4_readPlayer_77 (by decide) hR (fun hR => ?_) (fun hR => ?_)
            · refine z_aload_n hC dX4_readPlayer_82 rfl 3 rfl ?_
              refine z_iload_n hC dX4_readPlayer_83 rfl 1 rfl ?_
              refine z_iload_n hC dX4_readPlayer_84 rfl 0 rfl ?_
              refine z_callVv hC hN [.int r27, .int r38.2.2.2] [3, 4, 5, 6] (c_X3_enter (l := zl E) (D := zD E) (cI := cI) (cB := cB) (cZ := cZ) (N := N) (a_t := a_p1) (a_t_kind := a_p1_kind) (a_t_hand := a_p1_hand) (a_t_leader := a_p1_leader) (a_t_course := a_p1_course) (l1 := r27) (l2 := r38.2.2.2) (t_players := p1_players) (t_round := p1_round) (t_time := p1_time) (t_kind := p1_kind) (t_hand := p1_hand) (t_leader := p1_leader)) rfl ⟨rfl, rfl⟩ gX4_readPlayer_X3_enter hvX3_enter 3 3 rfl rfl rfl ⟨Nat.le_of_ble_eq_true rfl, Nat.le_of_ble_eq_true rfl⟩ ⟨Nat.zero_le _, Nat.zero_le _⟩ rfl (Nat.le_of_ble_eq_true rfl) rfl (by decide) (fun _ => rfl) dX4_readPlayer_85 hR (fun r85 hR => ?_)
              refine z_aload_n hC dX4_readPlayer_88 rfl 2 rfl ?_
              refine z_callVv hC hN [] [0, 1, 2] (c_X4_step (l := zl E) (D := zD E) (cI := cI) (cB := cB) (cZ := cZ) (N := N) (a_t := a_t) (a_t_text := a_t_text) (a_t_text_bytes := a_t_text_bytes) (t_token := r69.1) (t_start := r69.2.1) (t_past := r69.2.2.1) (t_value := r69.2.2.2) (t_text_length := t_text_length) (t_text_bytes := t_text_bytes)) rfl ⟨rfl, rfl⟩ gX4_readPlayer_X4_step hvX4_step 0 4 rfl rfl rfl ⟨Nat.le_of_ble_eq_true rfl, Nat.le_of_ble_eq_true rfl⟩ ⟨Nat.zero_le _, Nat.zero_le _⟩ rfl (Nat.le_of_ble_eq_true rfl) rfl (by decide) (fun _ => rfl) dX4_readPlayer_89 hR (fun r89 hR => ?_)
              refine z_ic0 hC dX4_readPlayer_92 ?_
              obtain rfl := Option.some.inj hR
              exact z_iret hC hQ rfl rfl rfl dX4_readPlayer_93
            · refine z_ic1 hC dX4_readPlayer_80 ?_
              obtain rfl := Option.some.inj hR
              exact z_iret hC hQ rfl rfl rfl dX4_readPlayer_81
          · refine z_ic2 hC dX4_readPlayer_61 ?_
            obtain rfl := Option.some.inj hR
            exact z_iret hC hQ rfl rfl rfl dX4_readPlayer_62
        · refine z_ic1 hC dX4_readPlayer_49 ?_
          obtain rfl := Option.some.inj hR
          exact z_iret hC hQ rfl rfl rfl dX4_readPlayer_50
      · refine z_ic1 hC dX4_readPlayer_35 ?_
        obtain rfl := Option.some.inj hR
        exact z_iret hC hQ rfl rfl rfl dX4_readPlayer_36
    · refine z_ic3 hC dX4_readPlayer_20 ?_
      obtain rfl := Option.some.inj hR
      exact z_iret hC hQ rfl rfl rfl dX4_readPlayer_21
  · refine z_ic1 hC dX4_readPlayer_9 ?_
    obtain rfl := Option.some.inj hR
    exact z_iret hC hQ rfl rfl rfl dX4_readPlayer_10
set_option maxHeartbeats 4000000 in
set_option maxRecDepth 100000 in
theorem c_X4_readPlayer {sK sV : Nat → Nat} {l : Launch} {D : va_G} {cI cB cZ : ClassId} {N : Nat} {a_t : Nat} {a_t_text : Nat} {a_t_text_bytes : Nat} {a_p1 : Nat} {a_p1_kind : Nat} {a_p1_hand : Nat} {a_p1_leader : Nat} {a_p1_course : Nat} {t_token : Int32} {t_start : Int32} {t_past : Int32} {t_value : Int32} {t_text_length : Int32} {t_text_bytes : (Nat → Int32)} {p1_players : Int32} {p1_round : Int32} {p1_time : Int32} {p1_kind : (Nat → Int32)} {p1_hand : (Nat → Int32)} {p1_leader : (Nat → Int32)} : ∀ R : Int32 × Int32 × Int32 × Int32 × Int32 × Int32 × (Nat → Int32) × (Nat → Int32) × (Nat → Int32), o_X4_readPlayer N t_token t_start t_past t_value t_text_length t_text_bytes p1_players p1_kind p1_hand p1_leader = some R → ZMi sK sV l yX4_readPlayer wsX4_readPlayer rmX4_readPlayer D (zty cI cB cZ) [.ref a_t, .ref a_p1] [(a_t, .inr (4, [.ref a_t_text, .int t_token, .int t_start, .int t_past, .int t_value])), (a_t_text, .inr (6, [.ref a_t_text_bytes, .int t_text_length])), (a_t_text_bytes, .inl (cB, 200, .inl t_text_bytes)), (a_p1, .inr (3, [.int p1_players, .int p1_round, .int p1_time, .ref a_p1_kind, .ref a_p1_hand, .ref a_p1_leader, .ref a_p1_course])), (a_p1_kind, .inl (cI, 8, .inl p1_kind)), (a_p1_hand, .inl (cI, 8, .inl p1_hand)), (a_p1_leader, .inl (cI, 8, .inl p1_leader))] R.1 [(a_t, .inr (4, [.ref a_t_text, .int R.2.1, .int R.2.2.1, .int R.2.2.2.1, .int R.2.2.2.2.1])), (a_t_text, .inr (6, [.ref a_t_text_bytes, .int t_text_length])), (a_t_text_bytes, .inl (cB, 200, .inl t_text_bytes)), (a_p1, .inr (3, [.int R.2.2.2.2.2.1, .int p1_round, .int p1_time, .ref a_p1_kind, .ref a_p1_hand, .ref a_p1_leader, .ref a_p1_course])), (a_p1_kind, .inl (cI, 8, .inl R.2.2.2.2.2.2.1)), (a_p1_hand, .inl (cI, 8, .inl R.2.2.2.2.2.2.2.1)), (a_p1_leader, .inl (cI, 8, .inl R.2.2.2.2.2.2.2.2))] := by
  intro R hR
  refine zi_of (cc := cX4_readPlayer) (maxL := 4) (ret := (some .int)) (by decide) rfl (Nat.le_of_ble_eq_true rfl) (fun E hE1 hE2 hC hN hQ => ?_)
  subst hE1 hE2
  exact z_X4_readPlayer_0 hC hN (N := N) (a_t := a_t) (a_t_text := a_t_text) (a_t_text_bytes := a_t_text_bytes) (a_p1 := a_p1) (a_p1_kind := a_p1_kind) (a_p1_hand := a_p1_hand) (a_p1_leader := a_p1_leader) (a_p1_course := a_p1_course) (t_token := t_token) (t_start := t_start) (t_past := t_past) (t_value := t_value) (t_text_length := t_text_length) (t_text_bytes := t_text_bytes) (p1_players := p1_players) (p1_round := p1_round) (p1_time := p1_time) (p1_kind := p1_kind) (p1_hand := p1_hand) (p1_leader := p1_leader) hQ hR

/-! FistTrains$Reader.read -/
abbrev rmX4_read : Room := { frames := 7, cells := 0, slots := 0, locals := 150 }
set_option maxRecDepth 20000 in
theorem iX4_read_X4 : ∀ w ∈ wsX40, w ∈ wsX4_read := by decide +kernel
set_option maxRecDepth 20000 in
theorem mX4_read_1 : Cond.fieldLink RX4 22 "FistTrains$Reader" "past" "I" ∈ wsX4_read := List.mem_of_getElem? (i := 1) rfl
set_option maxRecDepth 20000 in
theorem mX4_read_2 : Cond.fieldLink RX4 15 "FistTrains$Reader" "token" "I" ∈ wsX4_read := List.mem_of_getElem? (i := 2) rfl
def o_X4_read_21 (N : Nat) (t_text_length : Int32) (t_text_bytes : (Nat → Int32)) (p1_round : Int32) (p1_time : Int32) : Nat → Int32 → Int32 → Int32 → Int32 → Int32 → (Nat → Int32) → (Nat → Int32) → (Nat → Int32) → Int32 → Int32 → Option (Int32 × Int32 × Int32 × Int32 × Int32 × Int32 × Int32 × Int32 × (Nat → Int32) × (Nat → Int32) × (Nat → Int32))
  | 0 => fun _ _ _ _ _ _ _ _ _ _ => none
  | n + 1 => fun t_token t_start t_past t_value p1_players p1_kind p1_hand p1_leader l2 l3 => 
    if 8 ≤ l3 then
      some (l2, t_token, t_start, t_past, t_value, p1_players, p1_round, p1_time, p1_kind, p1_hand, p1_leader)
    else
      if l2 = 0 then
        if t_token = 0 then
          some (l2, t_token, t_start, t_past, t_value, p1_players, p1_round, p1_time, p1_kind, p1_hand, p1_leader)
        else
          Option.bind (o_X4_readPlayer N t_token t_start t_past t_value t_text_length t_text_bytes p1_players p1_kind p1_hand p1_leader) (fun r40 =>
          o_X4_read_21 N t_text_length t_text_bytes p1_round p1_time n r40.2.1 r40.2.2.1 r40.2.2.2.1 r40.2.2.2.2.1 r40.2.2.2.2.2.1 r40.2.2.2.2.2.2.1 r40.2.2.2.2.2.2.2.1 r40.2.2.2.2.2.2.2.2 r40.1 (l3 + 1))
      else
        some (l2, t_token, t_start, t_past, t_value, p1_players, p1_round, p1_time, p1_kind, p1_hand, p1_leader)
def o_X4_read (N : Nat) (t_value : Int32) (t_text_length : Int32) (t_text_bytes : (Nat → Int32)) (p1_kind : (Nat → Int32)) (p1_hand : (Nat → Int32)) (p1_leader : (Nat → Int32)) : Option (Int32 × Int32 × Int32 × Int32 × Int32 × Int32 × Int32 × Int32 × (Nat → Int32) × (Nat → Int32) × (Nat → Int32)) :=
  Option.bind (o_X3_clear N) (fun r6 =>
  Option.bind (o_X4_step N 0 t_value t_text_length t_text_bytes) (fun r10 =>
  Option.bind (o_X4_readPlayer N r10.1 r10.2.1 r10.2.2.1 r10.2.2.2 t_text_length t_text_bytes r6.1 p1_kind p1_hand p1_leader) (fun r15 =>
  o_X4_read_21 N t_text_length t_text_bytes r6.2.1 r6.2.2 N r15.2.1 r15.2.2.1 r15.2.2.2.1 r15.2.2.2.2.1 r15.2.2.2.2.2.1 r15.2.2.2.2.2.2.1 r15.2.2.2.2.2.2.2.1 r15.2.2.2.2.2.2.2.2 r15.1 0)))
set_option maxHeartbeats 4000000 in
set_option maxRecDepth 100000 in
theorem z_X4_read_21 {sK sV : Nat → Nat} {E : ZE} {cI cB cZ : ClassId} (hC : ZC E 4 cX4_read wsX4_read RX4 rmX4_read (some .int) (zty cI cB cZ)) (hN : ZN sK sV (zA E) (zs E)) {N : Nat} {a_t : Nat} {a_t_text : Nat} {a_t_text_bytes : Nat} {a_p1 : Nat} {a_p1_kind : Nat} {a_p1_hand : Nat} {a_p1_leader : Nat} {a_p1_course : Nat} {t_text_length : Int32} {t_text_bytes : (Nat → Int32)} {p1_round : Int32} {p1_time : Int32} {rf : Int32 × Int32 × Int32 × Int32 × Int32 × Int32 × Int32 × Int32 × (Nat → Int32) × (Nat → Int32) × (Nat → Int32)} (hQ : ZQi E (zty cI cB cZ) rf.1 [(a_t, .inr (4, [.ref a_t_text, .int rf.2.1, .int rf.2.2.1, .int rf.2.2.2.1, .int rf.2.2.2.2.1])), (a_t_text, .inr (6, [.ref a_t_text_bytes, .int t_text_length])), (a_t_text_bytes, .inl (cB, 200, .inl t_text_bytes)), (a_p1, .inr (3, [.int rf.2.2.2.2.2.1, .int rf.2.2.2.2.2.2.1, .int rf.2.2.2.2.2.2.2.1, .ref a_p1_kind, .ref a_p1_hand, .ref a_p1_leader, .ref a_p1_course])), (a_p1_kind, .inl (cI, 8, .inl rf.2.2.2.2.2.2.2.2.1)), (a_p1_hand, .inl (cI, 8, .inl rf.2.2.2.2.2.2.2.2.2.1)), (a_p1_leader, .inl (cI, 8, .inl rf.2.2.2.2.2.2.2.2.2.2))]) : ∀ (n : Nat) (t_token : Int32) (t_start : Int32) (t_past : Int32) (t_value : Int32) (p1_players : Int32) (p1_kind : (Nat → Int32)) (p1_hand : (Nat → Int32)) (p1_leader : (Nat → Int32)) (l2 : Int32) (l3 : Int32), o_X4_read_21 N t_text_length t_text_bytes p1_round p1_time n t_token t_start t_past t_value p1_players p1_kind p1_hand p1_leader l2 l3 = some rf → Z E (0, 0) [(0, .ref a_t), (1, .ref a_p1), (2, .int l2), (3, .int l3)] 21 [] [(a_t, .inr (4, [.ref a_t_text, .int t_token, .int t_start, .int t_past, .int t_value])), (a_t_text, .inr (6, [.ref a_t_text_bytes, .int t_text_length])), (a_t_text_bytes, .inl (cB, 200, .inl t_text_bytes)), (a_p1, .inr (3, [.int p1_players, .int p1_round, .int p1_time, .ref a_p1_kind, .ref a_p1_hand, .ref a_p1_leader, .ref a_p1_course])), (a_p1_kind, .inl (cI, 8, .inl p1_kind)), (a_p1_hand, .inl (cI, 8, .inl p1_hand)), (a_p1_leader, .inl (cI, 8, .inl p1_leader))] := by
  intro n
  induction n with
  | zero =>
    intro t_token t_start t_past t_value p1_players p1_kind p1_hand p1_leader l2 l3 hR
    cases hR
  | succ n ih =>
    intro t_token t_start t_past t_value p1_players p1_kind p1_hand p1_leader l2 l3 hR
    rw [o_X4_read_21] at hR
    refine z_iload_n hC dX4_read_21 rfl 3 rfl ?_
    refine z_bipush (v := 8) hC dX4_read_22 (by decide) ?_
    refine z_icmp_ge hC 50 dX4_read_24 (by decide) hR (fun hR => ?_) (fun hR => ?_)
    · refine z_iload_n hC dX4_read_50 rfl 2 rfl ?_
      obtain rfl := Option.some.inj hR
      exact z_iret hC hQ rfl rfl rfl dX4_read_51
    · refine z_iload_n hC dX4_read_27 rfl 2 rfl ?_
      refine z_if_ne hC 50 dX4_read_28 (by decide) hR (fun hR => ?_) (fun hR => ?_)
      · refine z_iload_n hC dX4_read_50 rfl 2 rfl ?_
        obtain rfl := Option.some.inj hR
        exact z_iret hC hQ rfl rfl rfl dX4_read_51
      · refine z_aload_n hC dX4_read_31 rfl 0 rfl ?_
        refine z_get hC iX4_read_X4 rfl 0 1 rfl (by decide) mX4_read_2 rfl rfl dX4_read_32 ?_
        refine z_if_eq hC 50 dX4_read_35 (by decide) hR (fun hR => ?_) (fun hR => ?_)
        · refine z_iload_n hC dX4_read_50 rfl 2 rfl ?_
          obtain rfl := Option.some.inj hR
          exact z_iret hC hQ rfl rfl rfl dX4_read_51
        · refine z_aload_n hC dX4_read_38 rfl 0 rfl ?_
          refine z_aload_n hC dX4_read_39 rfl 1 rfl ?_
          refine z_callVi hC hN [.ref a_p1] [0, 1, 2, 3, 4, 5, 6] (c_X4_readPlayer (l := zl E) (D := zD E) (cI := cI) (cB := cB) (cZ := cZ) (N := N) (a_t := a_t) (a_t_text := a_t_text) (a_t_text_bytes := a_t_text_bytes) (a_p1 := a_p1) (a_p1_kind := a_p1_kind) (a_p1_hand := a_p1_hand) (a_p1_leader := a_p1_leader) (a_p1_course := a_p1_course) (t_token := t_token) (t_start := t_start) (t_past := t_past) (t_value := t_value) (t_text_length := t_text_length) (t_text_bytes := t_text_bytes) (p1_players := p1_players) (p1_round := p1_round) (p1_time := p1_time) (p1_kind := p1_kind) (p1_hand := p1_hand) (p1_leader := p1_leader)) rfl ⟨rfl, rfl⟩ gX4_read_X4_readPlayer hvX4_readPlayer 0 4 rfl rfl rfl ⟨Nat.le_of_ble_eq_true rfl, Nat.le_of_ble_eq_true rfl⟩ ⟨Nat.zero_le _, Nat.zero_le _⟩ rfl (Nat.le_of_ble_eq_true rfl) rfl (by decide) (fun _ => rfl) dX4_read_40 hR (fun r40 hR => ?_)
          refine z_istore_n hC [(2, .int r40.1), (0, .ref a_t), (1, .ref a_p1), (3, .int l3)] dX4_read_43 rfl (by decide) rfl ?_
          refine z_iinc1 hC [(3, .int (l3 + 1)), (2, .int r40.1), (0, .ref a_t), (1, .ref a_p1)] dX4_read_44 3 rfl (by decide) rfl ?_
          refine z_goto hC 21 dX4_read_47 (by decide) ?_
          refine z_sub (lv' := [(0, .ref a_t), (1, .ref a_p1), (2, .int r40.1), (3, .int (l3 + 1))]) [2, 3, 1, 0] rfl ?_
          exact ih r40.2.1 r40.2.2.1 r40.2.2.2.1 r40.2.2.2.2.1 r40.2.2.2.2.2.1 r40.2.2.2.2.2.2.1 r40.2.2.2.2.2.2.2.1 r40.2.2.2.2.2.2.2.2 r40.1 (l3 + 1) hR
set_option maxHeartbeats 4000000 in
set_option maxRecDepth 100000 in
theorem z_X4_read_0 {sK sV : Nat → Nat} {E : ZE} {cI cB cZ : ClassId} (hC : ZC E 4 cX4_read wsX4_read RX4 rmX4_read (some .int) (zty cI cB cZ)) (hN : ZN sK sV (zA E) (zs E)) {N : Nat} {a_t : Nat} {a_t_text : Nat} {a_t_text_bytes : Nat} {a_p1 : Nat} {a_p1_kind : Nat} {a_p1_hand : Nat} {a_p1_leader : Nat} {a_p1_course : Nat} {t_token : Int32} {t_start : Int32} {t_past : Int32} {t_value : Int32} {t_text_length : Int32} {t_text_bytes : (Nat → Int32)} {p1_players : Int32} {p1_round : Int32} {p1_time : Int32} {p1_kind : (Nat → Int32)} {p1_hand : (Nat → Int32)} {p1_leader : (Nat → Int32)} {rf : Int32 × Int32 × Int32 × Int32 × Int32 × Int32 × Int32 × Int32 × (Nat → Int32) × (Nat → Int32) × (Nat → Int32)} (hQ : ZQi E (zty cI cB cZ) rf.1 [(a_t, .inr (4, [.ref a_t_text, .int rf.2.1, .int rf.2.2.1, .int rf.2.2.2.1, .int rf.2.2.2.2.1])), (a_t_text, .inr (6, [.ref a_t_text_bytes, .int t_text_length])), (a_t_text_bytes, .inl (cB, 200, .inl t_text_bytes)), (a_p1, .inr (3, [.int rf.2.2.2.2.2.1, .int rf.2.2.2.2.2.2.1, .int rf.2.2.2.2.2.2.2.1, .ref a_p1_kind, .ref a_p1_hand, .ref a_p1_leader, .ref a_p1_course])), (a_p1_kind, .inl (cI, 8, .inl rf.2.2.2.2.2.2.2.2.1)), (a_p1_hand, .inl (cI, 8, .inl rf.2.2.2.2.2.2.2.2.2.1)), (a_p1_leader, .inl (cI, 8, .inl rf.2.2.2.2.2.2.2.2.2.2))]) (hR : o_X4_read N t_value t_text_length t_text_bytes p1_kind p1_hand p1_leader = some rf) : Z E (0, 0) [(0, .ref a_t), (1, .ref a_p1)] 0 [] [(a_t, .inr (4, [.ref a_t_text, .int t_token, .int t_start, .int t_past, .int t_value])), (a_t_text, .inr (6, [.ref a_t_text_bytes, .int t_text_length])), (a_t_text_bytes, .inl (cB, 200, .inl t_text_bytes)), (a_p1, .inr (3, [.int p1_players, .int p1_round, .int p1_time, .ref a_p1_kind, .ref a_p1_hand, .ref a_p1_leader, .ref a_p1_course])), (a_p1_kind, .inl (cI, 8, .inl p1_kind)), (a_p1_hand, .inl (cI, 8, .inl p1_hand)), (a_p1_leader, .inl (cI, 8, .inl p1_leader))] := by
  rw [o_X4_read] at hR
  refine z_aload_n hC dX4_read_0 rfl 0 rfl ?_
  refine z_ic0 hC dX4_read_1 ?_
  refine z_put hC iX4_read_X4 tyX4_ok nmX4 rfl 0 3 rfl (by decide) mX4_read_1 rfl rfl rfl rfl (Nat.le_of_ble_eq_true rfl) dX4_read_2 ?_
  refine z_aload_n hC dX4_read_5 rfl 1 rfl ?_
  refine z_callVv hC hN [] [3] (c_X3_clear (l := zl E) (D := zD E) (cI := cI) (cB := cB) (cZ := cZ) (N := N) (a_t := a_p1) (a_t_kind := a_p1_kind) (a_t_hand := a_p1_hand) (a_t_leader := a_p1_leader) (a_t_course := a_p1_course) (t_players := p1_players) (t_round := p1_round) (t_time := p1_time)) rfl ⟨rfl, rfl⟩ gX4_read_X3_clear hvX3_clear 3 3 rfl rfl rfl ⟨Nat.le_of_ble_eq_true rfl, Nat.le_of_ble_eq_true rfl⟩ ⟨Nat.zero_le _, Nat.zero_le _⟩ rfl (Nat.le_of_ble_eq_true rfl) rfl (by decide) (fun _ => rfl) dX4_read_6 hR (fun r6 hR => ?_)
  refine z_aload_n hC dX4_read_9 rfl 0 rfl ?_
  refine z_callVv hC hN [] [0, 1, 2] (c_X4_step (l := zl E) (D := zD E) (cI := cI) (cB := cB) (cZ := cZ) (N := N) (a_t := a_t) (a_t_text := a_t_text) (a_t_text_bytes := a_t_text_bytes) (t_token := t_token) (t_start := t_start) (t_past := 0) (t_value := t_value) (t_text_length := t_text_length) (t_text_bytes := t_text_bytes)) rfl ⟨rfl, rfl⟩ gX4_read_X4_step hvX4_step 0 4 rfl rfl rfl ⟨Nat.le_of_ble_eq_true rfl, Nat.le_of_ble_eq_true rfl⟩ ⟨Nat.zero_le _, Nat.zero_le _⟩ rfl (Nat.le_of_ble_eq_true rfl) rfl (by decide) (fun _ => rfl) dX4_read_10 hR (fun r10 hR => ?_)
  refine z_aload_n hC dX4_read_13 rfl 0 rfl ?_
  refine z_aload_n hC dX4_read_14 rfl 1 rfl ?_
  refine z_callVi hC hN [.ref a_p1] [0, 1, 2, 3, 4, 5, 6] (c_X4_readPlayer (l := zl E) (D := zD E) (cI := cI) (cB := cB) (cZ := cZ) (N := N) (a_t := a_t) (a_t_text := a_t_text) (a_t_text_bytes := a_t_text_bytes) (a_p1 := a_p1) (a_p1_kind := a_p1_kind) (a_p1_hand := a_p1_hand) (a_p1_leader := a_p1_leader) (a_p1_course := a_p1_course) (t_token := r10.1) (t_start := r10.2.1) (t_past := r10.2.2.1) (t_value := r10.2.2.2) (t_text_length := t_text_length) (t_text_bytes := t_text_bytes) (p1_players := r6.1) (p1_round := r6.2.1) (p1_time := r6.2.2) (p1_kind := p1_kind) (p1_hand := p1_hand) (p1_leader := p1_leader)) rfl ⟨rfl, rfl⟩ gX4_read_X4_readPlayer hvX4_readPlayer 0 4 rfl rfl rfl ⟨Nat.le_of_ble_eq_true rfl, Nat.le_of_ble_eq_true rfl⟩ ⟨Nat.zero_le _, Nat.zero_le _⟩ rfl (Nat.le_of_ble_eq_true rfl) rfl (by decide) (fun _ => rfl) dX4_read_15 hR (fun r15 hR => ?_)
  refine z_istore_n hC [(2, .int r15.1), (0, .ref a_t), (1, .ref a_p1)] dX4_read_18 rfl (by decide) rfl ?_
  refine z_ic0 hC dX4_read_19 ?_
  refine z_istore_n hC [(3, .int 0), (2, .int r15.1), (0, .ref a_t), (1, .ref a_p1)] dX4_read_20 rfl (by decide) rfl ?_
  refine z_sub (lv' := [(0, .ref a_t), (1, .ref a_p1), (2, .int r15.1), (3, .int 0)]) [2, 3, 1, 0] rfl ?_
  exact z_X4_read_21 hC hN (N := N) (a_t := a_t) (a_t_text := a_t_text) (a_t_text_bytes := a_t_text_bytes) (a_p1 := a_p1) (a_p1_kind := a_p1_kind) (a_p1_hand := a_p1_hand) (a_p1_leader := a_p1_leader) (a_p1_course := a_p1_course) (t_text_length := t_text_length) (t_text_bytes := t_text_bytes) (p1_round := r6.2.1) (p1_time := r6.2.2) hQ  N r15.2.1 r15.2.2.1 r15.2.2.2.1 r15.2.2.2.2.1 r15.2.2.2.2.2.1 r15.2.2.2.2.2.2.1 r15.2.2.2.2.2.2.2.1 r15.2.2.2.2.2.2.2.2 r15.1 0 hR
set_option maxHeartbeats 4000000 in
set_option maxRecDepth 100000 in
theorem c_X4_read {sK sV : Nat → Nat} {l : Launch} {D : va_G} {cI cB cZ : ClassId} {N : Nat} {a_t : Nat} {a_t_text : Nat} {a_t_text_bytes : Nat} {a_p1 : Nat} {a_p1_kind : Nat} {a_p1_hand : Nat} {a_p1_leader : Nat} {a_p1_course : Nat} {t_token : Int32} {t_start : Int32} {t_past : Int32} {t_value : Int32} {t_text_length : Int32} {t_text_bytes : (Nat → Int32)} {p1_players : Int32} {p1_round : Int32} {p1_time : Int32} {p1_kind : (Nat → Int32)} {p1_hand : (Nat → Int32)} {p1_leader : (Nat → Int32)} : ∀ R : Int32 × Int32 × Int32 × Int32 × Int32 × Int32 × Int32 × Int32 × (Nat → Int32) × (Nat → Int32) × (Nat → Int32), o_X4_read N t_value t_text_length t_text_bytes p1_kind p1_hand p1_leader = some R → ZMi sK sV l yX4_read wsX4_read rmX4_read D (zty cI cB cZ) [.ref a_t, .ref a_p1] [(a_t, .inr (4, [.ref a_t_text, .int t_token, .int t_start, .int t_past, .int t_value])), (a_t_text, .inr (6, [.ref a_t_text_bytes, .int t_text_length])), (a_t_text_bytes, .inl (cB, 200, .inl t_text_bytes)), (a_p1, .inr (3, [.int p1_players, .int p1_round, .int p1_time, .ref a_p1_kind, .ref a_p1_hand, .ref a_p1_leader, .ref a_p1_course])), (a_p1_kind, .inl (cI, 8, .inl p1_kind)), (a_p1_hand, .inl (cI, 8, .inl p1_hand)), (a_p1_leader, .inl (cI, 8, .inl p1_leader))] R.1 [(a_t, .inr (4, [.ref a_t_text, .int R.2.1, .int R.2.2.1, .int R.2.2.2.1, .int R.2.2.2.2.1])), (a_t_text, .inr (6, [.ref a_t_text_bytes, .int t_text_length])), (a_t_text_bytes, .inl (cB, 200, .inl t_text_bytes)), (a_p1, .inr (3, [.int R.2.2.2.2.2.1, .int R.2.2.2.2.2.2.1, .int R.2.2.2.2.2.2.2.1, .ref a_p1_kind, .ref a_p1_hand, .ref a_p1_leader, .ref a_p1_course])), (a_p1_kind, .inl (cI, 8, .inl R.2.2.2.2.2.2.2.2.1)), (a_p1_hand, .inl (cI, 8, .inl R.2.2.2.2.2.2.2.2.2.1)), (a_p1_leader, .inl (cI, 8, .inl R.2.2.2.2.2.2.2.2.2.2))] := by
  intro R hR
  refine zi_of (cc := cX4_read) (maxL := 4) (ret := (some .int)) (by decide) rfl (Nat.le_of_ble_eq_true rfl) (fun E hE1 hE2 hC hN hQ => ?_)
  subst hE1 hE2
  exact z_X4_read_0 hC hN (N := N) (a_t := a_t) (a_t_text := a_t_text) (a_t_text_bytes := a_t_text_bytes) (a_p1 := a_p1) (a_p1_kind := a_p1_kind) (a_p1_hand := a_p1_hand) (a_p1_leader := a_p1_leader) (a_p1_course := a_p1_course) (t_token := t_token) (t_start := t_start) (t_past := t_past) (t_value := t_value) (t_text_length := t_text_length) (t_text_bytes := t_text_bytes) (p1_players := p1_players) (p1_round := p1_round) (p1_time := p1_time) (p1_kind := p1_kind) (p1_hand := p1_hand) (p1_leader := p1_leader) hQ hR

/-! FistTrains.hall -/
abbrev rmX8_hall : Room := { frames := 8, cells := 0, slots := 0, locals := 173 }
set_option maxRecDepth 20000 in
theorem iX8_hall_X8 : ∀ w ∈ wsX80, w ∈ wsX8_hall := by decide +kernel
set_option maxRecDepth 20000 in
theorem mX8_hall_1 : Cond.fieldLink RX8 28 "FistTrains" "reader" "LFistTrains$Reader;" ∈ wsX8_hall := List.mem_of_getElem? (i := 1) rfl
set_option maxRecDepth 20000 in
theorem mX8_hall_2 : Cond.fieldLink RX8 39 "FistTrains" "trial" "LFistTrains$Hall;" ∈ wsX8_hall := List.mem_of_getElem? (i := 2) rfl
set_option maxRecDepth 20000 in
theorem mX8_hall_3 : Cond.fieldLink RX8 19 "FistTrains" "tape" "LFistTrains$Tape;" ∈ wsX8_hall := List.mem_of_getElem? (i := 3) rfl
set_option maxRecDepth 20000 in
theorem iX8_hall_X6 : ∀ w ∈ wsX60, w ∈ wsX8_hall := by decide +kernel
set_option maxRecDepth 20000 in
theorem mX8_hall_4 : Cond.fieldLink RX8 136 "FistTrains$Tape" "length" "I" ∈ wsX8_hall := List.mem_of_getElem? (i := 4) rfl
set_option maxRecDepth 20000 in
theorem mX8_hall_8 : Cond.fieldLink RX8 35 "FistTrains" "now" "LFistTrains$Hall;" ∈ wsX8_hall := List.mem_of_getElem? (i := 8) rfl
set_option maxRecDepth 20000 in
theorem mX8_hall_9 : Cond.fieldLink RX8 45 "FistTrains" "acts" "LFistTrains$Acts;" ∈ wsX8_hall := List.mem_of_getElem? (i := 9) rfl
set_option maxRecDepth 20000 in
theorem iX8_hall_X3 : ∀ w ∈ wsX30, w ∈ wsX8_hall := by decide +kernel
set_option maxRecDepth 20000 in
theorem mX8_hall_10 : Cond.fieldLink RX8 154 "FistTrains$Hall" "players" "I" ∈ wsX8_hall := List.mem_of_getElem? (i := 10) rfl
set_option maxRecDepth 20000 in
theorem mX8_hall_5 : Cond.fieldLink RX8 71 "FistTrains" "latestFault" "I" ∈ wsX8_hall := List.mem_of_getElem? (i := 5) rfl
set_option maxRecDepth 20000 in
theorem mX8_hall_6 : Cond.constant RX8 143 (-1000100) ∈ wsX8_hall := List.mem_of_getElem? (i := 6) rfl
set_option maxRecDepth 20000 in
theorem iX8_hall_X4 : ∀ w ∈ wsX40, w ∈ wsX8_hall := by decide +kernel
set_option maxRecDepth 20000 in
theorem mX8_hall_7 : Cond.fieldLink RX8 144 "FistTrains$Reader" "start" "I" ∈ wsX8_hall := List.mem_of_getElem? (i := 7) rfl
def o_X8_hall (N : Nat) (t_latestFault : Int32) (t_tape_length : Int32) (t_tape_bytes : (Nat → Int32)) (t_reader_value : Int32) (t_now_players : Int32) (t_now_round : Int32) (t_now_time : Int32) (t_now_kind : (Nat → Int32)) (t_now_hand : (Nat → Int32)) (t_now_leader : (Nat → Int32)) (t_trial_kind : (Nat → Int32)) (t_trial_hand : (Nat → Int32)) (t_trial_leader : (Nat → Int32)) (t_acts_kept : Int32) : Option (Int32 × Int32 × Int32 × Int32 × Int32 × Int32 × Int32 × Int32 × Int32 × Int32 × (Nat → Int32) × (Nat → Int32) × (Nat → Int32) × Int32 × Int32 × Int32 × (Nat → Int32) × (Nat → Int32) × (Nat → Int32) × Int32) :=
  Option.bind (o_X4_read N t_reader_value t_tape_length t_tape_bytes t_trial_kind t_trial_hand t_trial_leader) (fun r8 =>
  if r8.1 = 0 then
    Option.bind (o_X3_become N t_now_kind t_now_hand t_now_leader r8.2.2.2.2.2.1 r8.2.2.2.2.2.2.1 r8.2.2.2.2.2.2.2.1 r8.2.2.2.2.2.2.2.2.1 r8.2.2.2.2.2.2.2.2.2.1 r8.2.2.2.2.2.2.2.2.2.2) (fun r48 =>
    Option.bind (o_X0_forget N) (fun r55 =>
    some (r48.1, t_latestFault, 0, r8.2.1, r8.2.2.1, r8.2.2.2.1, r8.2.2.2.2.1, r48.1, r48.2.1, r48.2.2.1, r48.2.2.2.1, r48.2.2.2.2.1, r48.2.2.2.2.2, r8.2.2.2.2.2.1, r8.2.2.2.2.2.2.1, r8.2.2.2.2.2.2.2.1, r8.2.2.2.2.2.2.2.2.1, r8.2.2.2.2.2.2.2.2.2.1, r8.2.2.2.2.2.2.2.2.2.2, r55)))
  else
    some (((-1000100) - r8.2.2.1), r8.1, 0, r8.2.1, r8.2.2.1, r8.2.2.2.1, r8.2.2.2.2.1, t_now_players, t_now_round, t_now_time, t_now_kind, t_now_hand, t_now_leader, r8.2.2.2.2.2.1, r8.2.2.2.2.2.2.1, r8.2.2.2.2.2.2.2.1, r8.2.2.2.2.2.2.2.2.1, r8.2.2.2.2.2.2.2.2.2.1, r8.2.2.2.2.2.2.2.2.2.2, t_acts_kept))
set_option maxHeartbeats 4000000 in
set_option maxRecDepth 100000 in
theorem z_X8_hall_0 {sK sV : Nat → Nat} {E : ZE} {cI cB cZ : ClassId} (hC : ZC E 2 cX8_hall wsX8_hall RX8 rmX8_hall (some .int) (zty cI cB cZ)) (hN : ZN sK sV (zA E) (zs E)) {N : Nat} {a_t : Nat} {a_t_tape : Nat} {a_t_tape_bytes : Nat} {a_t_reader : Nat} {a_t_now : Nat} {a_t_now_kind : Nat} {a_t_now_hand : Nat} {a_t_now_leader : Nat} {a_t_trial : Nat} {a_t_trial_kind : Nat} {a_t_trial_hand : Nat} {a_t_trial_leader : Nat} {a_t_acts : Nat} {a_t_rows : Nat} {a_t_ways : Nat} {a_t_asks : Nat} {a_t_images : Nat} {a_t_imageKept : Nat} {a_t_now_course : Nat} {a_t_trial_course : Nat} {a_t_acts_halls : Nat} {t_latestFault : Int32} {t_latestFinding : Int32} {t_tape_length : Int32} {t_tape_bytes : (Nat → Int32)} {t_reader_token : Int32} {t_reader_start : Int32} {t_reader_past : Int32} {t_reader_value : Int32} {t_now_players : Int32} {t_now_round : Int32} {t_now_time : Int32} {t_now_kind : (Nat → Int32)} {t_now_hand : (Nat → Int32)} {t_now_leader : (Nat → Int32)} {t_trial_players : Int32} {t_trial_round : Int32} {t_trial_time : Int32} {t_trial_kind : (Nat → Int32)} {t_trial_hand : (Nat → Int32)} {t_trial_leader : (Nat → Int32)} {t_acts_kept : Int32} {t_acts_next : Int32} {rf : Int32 × Int32 × Int32 × Int32 × Int32 × Int32 × Int32 × Int32 × Int32 × Int32 × (Nat → Int32) × (Nat → Int32) × (Nat → Int32) × Int32 × Int32 × Int32 × (Nat → Int32) × (Nat → Int32) × (Nat → Int32) × Int32} (hQ : ZQi E (zty cI cB cZ) rf.1 [(a_t, .inr (8, [.ref a_t_rows, .ref a_t_tape, .ref a_t_reader, .ref a_t_now, .ref a_t_trial, .ref a_t_acts, .ref a_t_ways, .ref a_t_asks, .ref a_t_images, .ref a_t_imageKept, .int rf.2.1, .int t_latestFinding])), (a_t_tape, .inr (6, [.ref a_t_tape_bytes, .int rf.2.2.1])), (a_t_tape_bytes, .inl (cB, 200, .inl t_tape_bytes)), (a_t_reader, .inr (4, [.ref a_t_tape, .int rf.2.2.2.1, .int rf.2.2.2.2.1, .int rf.2.2.2.2.2.1, .int rf.2.2.2.2.2.2.1])), (a_t_now, .inr (3, [.int rf.2.2.2.2.2.2.2.1, .int rf.2.2.2.2.2.2.2.2.1, .int rf.2.2.2.2.2.2.2.2.2.1, .ref a_t_now_kind, .ref a_t_now_hand, .ref a_t_now_leader, .ref a_t_now_course])), (a_t_now_kind, .inl (cI, 8, .inl rf.2.2.2.2.2.2.2.2.2.2.1)), (a_t_now_hand, .inl (cI, 8, .inl rf.2.2.2.2.2.2.2.2.2.2.2.1)), (a_t_now_leader, .inl (cI, 8, .inl rf.2.2.2.2.2.2.2.2.2.2.2.2.1)), (a_t_trial, .inr (3, [.int rf.2.2.2.2.2.2.2.2.2.2.2.2.2.1, .int rf.2.2.2.2.2.2.2.2.2.2.2.2.2.2.1, .int rf.2.2.2.2.2.2.2.2.2.2.2.2.2.2.2.1, .ref a_t_trial_kind, .ref a_t_trial_hand, .ref a_t_trial_leader, .ref a_t_trial_course])), (a_t_trial_kind, .inl (cI, 8, .inl rf.2.2.2.2.2.2.2.2.2.2.2.2.2.2.2.2.1)), (a_t_trial_hand, .inl (cI, 8, .inl rf.2.2.2.2.2.2.2.2.2.2.2.2.2.2.2.2.2.1)), (a_t_trial_leader, .inl (cI, 8, .inl rf.2.2.2.2.2.2.2.2.2.2.2.2.2.2.2.2.2.2.1)), (a_t_acts, .inr (0, [.ref a_t_acts_halls, .int rf.2.2.2.2.2.2.2.2.2.2.2.2.2.2.2.2.2.2.2, .int t_acts_next]))]) (hR : o_X8_hall N t_latestFault t_tape_length t_tape_bytes t_reader_value t_now_players t_now_round t_now_time t_now_kind t_now_hand t_now_leader t_trial_kind t_trial_hand t_trial_leader t_acts_kept = some rf) : Z E (0, 0) [(0, .ref a_t)] 0 [] [(a_t, .inr (8, [.ref a_t_rows, .ref a_t_tape, .ref a_t_reader, .ref a_t_now, .ref a_t_trial, .ref a_t_acts, .ref a_t_ways, .ref a_t_asks, .ref a_t_images, .ref a_t_imageKept, .int t_latestFault, .int t_latestFinding])), (a_t_tape, .inr (6, [.ref a_t_tape_bytes, .int t_tape_length])), (a_t_tape_bytes, .inl (cB, 200, .inl t_tape_bytes)), (a_t_reader, .inr (4, [.ref a_t_tape, .int t_reader_token, .int t_reader_start, .int t_reader_past, .int t_reader_value])), (a_t_now, .inr (3, [.int t_now_players, .int t_now_round, .int t_now_time, .ref a_t_now_kind, .ref a_t_now_hand, .ref a_t_now_leader, .ref a_t_now_course])), (a_t_now_kind, .inl (cI, 8, .inl t_now_kind)), (a_t_now_hand, .inl (cI, 8, .inl t_now_hand)), (a_t_now_leader, .inl (cI, 8, .inl t_now_leader)), (a_t_trial, .inr (3, [.int t_trial_players, .int t_trial_round, .int t_trial_time, .ref a_t_trial_kind, .ref a_t_trial_hand, .ref a_t_trial_leader, .ref a_t_trial_course])), (a_t_trial_kind, .inl (cI, 8, .inl t_trial_kind)), (a_t_trial_hand, .inl (cI, 8, .inl t_trial_hand)), (a_t_trial_leader, .inl (cI, 8, .inl t_trial_leader)), (a_t_acts, .inr (0, [.ref a_t_acts_halls, .int t_acts_kept, .int t_acts_next]))] := by
  rw [o_X8_hall] at hR
  refine z_aload_n hC dX8_hall_0 rfl 0 rfl ?_
  refine z_get hC iX8_hall_X8 rfl 0 2 rfl (by decide) mX8_hall_1 rfl rfl dX8_hall_1 ?_
  refine z_aload_n hC dX8_hall_4 rfl 0 rfl ?_
  refine z_get hC iX8_hall_X8 rfl 0 4 rfl (by decide) mX8_hall_2 rfl rfl dX8_hall_5 ?_
  refine z_callVi hC hN [.ref a_t_trial] [3, 1, 2, 8, 9, 10, 11] (c_X4_read (l := zl E) (D := zD E) (cI := cI) (cB := cB) (cZ := cZ) (N := N) (a_t := a_t_reader) (a_t_text := a_t_tape) (a_t_text_bytes := a_t_tape_bytes) (a_p1 := a_t_trial) (a_p1_kind := a_t_trial_kind) (a_p1_hand := a_t_trial_hand) (a_p1_leader := a_t_trial_leader) (a_p1_course := a_t_trial_course) (t_token := t_reader_token) (t_start := t_reader_start) (t_past := t_reader_past) (t_value := t_reader_value) (t_text_length := t_tape_length) (t_text_bytes := t_tape_bytes) (p1_players := t_trial_players) (p1_round := t_trial_round) (p1_time := t_trial_time) (p1_kind := t_trial_kind) (p1_hand := t_trial_hand) (p1_leader := t_trial_leader)) rfl ⟨rfl, rfl⟩ gX8_hall_X4_read hvX4_read 3 4 rfl rfl rfl ⟨Nat.le_of_ble_eq_true rfl, Nat.le_of_ble_eq_true rfl⟩ ⟨Nat.zero_le _, Nat.zero_le _⟩ rfl (Nat.le_of_ble_eq_true rfl) rfl (by decide) (fun _ => rfl) dX8_hall_8 hR (fun r8 hR => ?_)
  refine z_eq [(a_t, .inr (8, [.ref a_t_rows, .ref a_t_tape, .ref a_t_reader, .ref a_t_now, .ref a_t_trial, .ref a_t_acts, .ref a_t_ways, .ref a_t_asks, .ref a_t_images, .ref a_t_imageKept, .int t_latestFault, .int t_latestFinding])), (a_t_tape, .inr (6, [.ref a_t_tape_bytes, .int t_tape_length])), (a_t_tape_bytes, .inl (cB, 200, .inl t_tape_bytes)), (a_t_reader, .inr (4, [.ref a_t_tape, .int r8.2.1, .int r8.2.2.1, .int r8.2.2.2.1, .int r8.2.2.2.2.1])), (a_t_now, .inr (3, [.int t_now_players, .int t_now_round, .int t_now_time, .ref a_t_now_kind, .ref a_t_now_hand, .ref a_t_now_leader, .ref a_t_now_course])), (a_t_now_kind, .inl (cI, 8, .inl t_now_kind)), (a_t_now_hand, .inl (cI, 8, .inl t_now_hand)), (a_t_now_leader, .inl (cI, 8, .inl t_now_leader)), (a_t_trial, .inr (3, [.int r8.2.2.2.2.2.1, .int r8.2.2.2.2.2.2.1, .int r8.2.2.2.2.2.2.2.1, .ref a_t_trial_kind, .ref a_t_trial_hand, .ref a_t_trial_leader, .ref a_t_trial_course])), (a_t_trial_kind, .inl (cI, 8, .inl r8.2.2.2.2.2.2.2.2.1)), (a_t_trial_hand, .inl (cI, 8, .inl r8.2.2.2.2.2.2.2.2.2.1)), (a_t_trial_leader, .inl (cI, 8, .inl r8.2.2.2.2.2.2.2.2.2.2)), (a_t_acts, .inr (0, [.ref a_t_acts_halls, .int t_acts_kept, .int t_acts_next]))] rfl ?_
  refine z_istore_n hC [(1, .int r8.1), (0, .ref a_t)] dX8_hall_11 rfl (by decide) rfl ?_
  refine z_aload_n hC dX8_hall_12 rfl 1 rfl ?_
  refine z_get hC iX8_hall_X8 rfl 0 1 rfl (by decide) mX8_hall_3 rfl rfl dX8_hall_13 ?_
  refine z_ic0 hC dX8_hall_16 ?_
  refine z_put hC iX8_hall_X6 tyX6_ok nmX6 rfl 1 1 rfl (by decide) mX8_hall_4 rfl rfl rfl rfl (Nat.le_of_ble_eq_true rfl) dX8_hall_17 ?_
  refine z_iload_n hC dX8_hall_20 rfl 0 rfl ?_
  refine z_if_eq hC 40 dX8_hall_21 (by decide) hR (fun hR => ?_) (fun hR => ?_)
  · refine z_aload_n hC dX8_hall_40 rfl 1 rfl ?_
    refine z_get hC iX8_hall_X8 rfl 0 3 rfl (by decide) mX8_hall_8 rfl rfl dX8_hall_41 ?_
    refine z_aload_n hC dX8_hall_44 rfl 1 rfl ?_
    refine z_get hC iX8_hall_X8 rfl 0 4 rfl (by decide) mX8_hall_2 rfl rfl dX8_hall_45 ?_
    refine z_callVv hC hN [.ref a_t_trial] [4, 5, 6, 7, 8, 9, 10, 11] (c_X3_become (l := zl E) (D := zD E) (cI := cI) (cB := cB) (cZ := cZ) (N := N) (a_t := a_t_now) (a_t_kind := a_t_now_kind) (a_t_hand := a_t_now_hand) (a_t_leader := a_t_now_leader) (a_t_course := a_t_now_course) (a_p1 := a_t_trial) (a_p1_kind := a_t_trial_kind) (a_p1_hand := a_t_trial_hand) (a_p1_leader := a_t_trial_leader) (a_p1_course := a_t_trial_course) (t_players := t_now_players) (t_round := t_now_round) (t_time := t_now_time) (t_kind := t_now_kind) (t_hand := t_now_hand) (t_leader := t_now_leader) (p1_players := r8.2.2.2.2.2.1) (p1_round := r8.2.2.2.2.2.2.1) (p1_time := r8.2.2.2.2.2.2.2.1) (p1_kind := r8.2.2.2.2.2.2.2.2.1) (p1_hand := r8.2.2.2.2.2.2.2.2.2.1) (p1_leader := r8.2.2.2.2.2.2.2.2.2.2)) rfl ⟨rfl, rfl⟩ gX8_hall_X3_become hvX3_become 4 3 rfl rfl rfl ⟨Nat.le_of_ble_eq_true rfl, Nat.le_of_ble_eq_true rfl⟩ ⟨Nat.zero_le _, Nat.zero_le _⟩ rfl (Nat.le_of_ble_eq_true rfl) rfl (by decide) (fun _ => rfl) dX8_hall_48 hR (fun r48 hR => ?_)
    refine z_eq [(a_t, .inr (8, [.ref a_t_rows, .ref a_t_tape, .ref a_t_reader, .ref a_t_now, .ref a_t_trial, .ref a_t_acts, .ref a_t_ways, .ref a_t_asks, .ref a_t_images, .ref a_t_imageKept, .int t_latestFault, .int t_latestFinding])), (a_t_tape, .inr (6, [.ref a_t_tape_bytes, .int 0])), (a_t_tape_bytes, .inl (cB, 200, .inl t_tape_bytes)), (a_t_reader, .inr (4, [.ref a_t_tape, .int r8.2.1, .int r8.2.2.1, .int r8.2.2.2.1, .int r8.2.2.2.2.1])), (a_t_now, .inr (3, [.int r48.1, .int r48.2.1, .int r48.2.2.1, .ref a_t_now_kind, .ref a_t_now_hand, .ref a_t_now_leader, .ref a_t_now_course])), (a_t_now_kind, .inl (cI, 8, .inl r48.2.2.2.1)), (a_t_now_hand, .inl (cI, 8, .inl r48.2.2.2.2.1)), (a_t_now_leader, .inl (cI, 8, .inl r48.2.2.2.2.2)), (a_t_trial, .inr (3, [.int r8.2.2.2.2.2.1, .int r8.2.2.2.2.2.2.1, .int r8.2.2.2.2.2.2.2.1, .ref a_t_trial_kind, .ref a_t_trial_hand, .ref a_t_trial_leader, .ref a_t_trial_course])), (a_t_trial_kind, .inl (cI, 8, .inl r8.2.2.2.2.2.2.2.2.1)), (a_t_trial_hand, .inl (cI, 8, .inl r8.2.2.2.2.2.2.2.2.2.1)), (a_t_trial_leader, .inl (cI, 8, .inl r8.2.2.2.2.2.2.2.2.2.2)), (a_t_acts, .inr (0, [.ref a_t_acts_halls, .int t_acts_kept, .int t_acts_next]))] rfl ?_
    refine z_aload_n hC dX8_hall_51 rfl 1 rfl ?_
    refine z_get hC iX8_hall_X8 rfl 0 5 rfl (by decide) mX8_hall_9 rfl rfl dX8_hall_52 ?_
    refine z_callVv hC hN [] [12] (c_X0_forget (l := zl E) (D := zD E) (cI := cI) (cB := cB) (cZ := cZ) (N := N) (a_t := a_t_acts) (a_t_halls := a_t_acts_halls) (t_kept := t_acts_kept) (t_next := t_acts_next)) rfl ⟨rfl, rfl⟩ gX8_hall_X0_forget hvX0_forget 12 0 rfl rfl rfl ⟨Nat.le_of_ble_eq_true rfl, Nat.le_of_ble_eq_true rfl⟩ ⟨Nat.zero_le _, Nat.zero_le _⟩ rfl (Nat.le_of_ble_eq_true rfl) rfl (by decide) (fun _ => rfl) dX8_hall_55 hR (fun r55 hR => ?_)
    refine z_eq [(a_t, .inr (8, [.ref a_t_rows, .ref a_t_tape, .ref a_t_reader, .ref a_t_now, .ref a_t_trial, .ref a_t_acts, .ref a_t_ways, .ref a_t_asks, .ref a_t_images, .ref a_t_imageKept, .int t_latestFault, .int t_latestFinding])), (a_t_tape, .inr (6, [.ref a_t_tape_bytes, .int 0])), (a_t_tape_bytes, .inl (cB, 200, .inl t_tape_bytes)), (a_t_reader, .inr (4, [.ref a_t_tape, .int r8.2.1, .int r8.2.2.1, .int r8.2.2.2.1, .int r8.2.2.2.2.1])), (a_t_now, .inr (3, [.int r48.1, .int r48.2.1, .int r48.2.2.1, .ref a_t_now_kind, .ref a_t_now_hand, .ref a_t_now_leader, .ref a_t_now_course])), (a_t_now_kind, .inl (cI, 8, .inl r48.2.2.2.1)), (a_t_now_hand, .inl (cI, 8, .inl r48.2.2.2.2.1)), (a_t_now_leader, .inl (cI, 8, .inl r48.2.2.2.2.2)), (a_t_trial, .inr (3, [.int r8.2.2.2.2.2.1, .int r8.2.2.2.2.2.2.1, .int r8.2.2.2.2.2.2.2.1, .ref a_t_trial_kind, .ref a_t_trial_hand, .ref a_t_trial_leader, .ref a_t_trial_course])), (a_t_trial_kind, .inl (cI, 8, .inl r8.2.2.2.2.2.2.2.2.1)), (a_t_trial_hand, .inl (cI, 8, .inl r8.2.2.2.2.2.2.2.2.2.1)), (a_t_trial_leader, .inl (cI, 8, .inl r8.2.2.2.2.2.2.2.2.2.2)), (a_t_acts, .inr (0, [.ref a_t_acts_halls, .int r55, .int t_acts_next]))] rfl ?_
    refine z_aload_n hC dX8_hall_58 rfl 1 rfl ?_
    refine z_get hC iX8_hall_X8 rfl 0 3 rfl (by decide) mX8_hall_8 rfl rfl dX8_hall_59 ?_
    refine z_get hC iX8_hall_X3 rfl 4 0 rfl (by decide) mX8_hall_10 rfl rfl dX8_hall_62 ?_
    obtain rfl := Option.some.inj hR
    exact z_iret hC hQ rfl rfl rfl dX8_hall_65
  · refine z_aload_n hC dX8_hall_24 rfl 1 rfl ?_
    refine z_iload_n hC dX8_hall_25 rfl 0 rfl ?_
    refine z_put hC iX8_hall_X8 tyX8_ok nmX8 rfl 0 10 rfl (by decide) mX8_hall_5 rfl rfl rfl rfl (Nat.le_of_ble_eq_true rfl) dX8_hall_26 ?_
    refine z_ldc hC (-1000100) mX8_hall_6 dX8_hall_29 ?_
    refine z_aload_n hC dX8_hall_31 rfl 1 rfl ?_
    refine z_get hC iX8_hall_X8 rfl 0 2 rfl (by decide) mX8_hall_1 rfl rfl dX8_hall_32 ?_
    refine z_get hC iX8_hall_X4 rfl 3 2 rfl (by decide) mX8_hall_7 rfl rfl dX8_hall_35 ?_
    refine z_isub hC dX8_hall_38 ?_
    obtain rfl := Option.some.inj hR
    exact z_iret hC hQ rfl rfl rfl dX8_hall_39
set_option maxHeartbeats 4000000 in
set_option maxRecDepth 100000 in
theorem c_X8_hall {sK sV : Nat → Nat} {l : Launch} {D : va_G} {cI cB cZ : ClassId} {N : Nat} {a_t : Nat} {a_t_tape : Nat} {a_t_tape_bytes : Nat} {a_t_reader : Nat} {a_t_now : Nat} {a_t_now_kind : Nat} {a_t_now_hand : Nat} {a_t_now_leader : Nat} {a_t_trial : Nat} {a_t_trial_kind : Nat} {a_t_trial_hand : Nat} {a_t_trial_leader : Nat} {a_t_acts : Nat} {a_t_rows : Nat} {a_t_ways : Nat} {a_t_asks : Nat} {a_t_images : Nat} {a_t_imageKept : Nat} {a_t_now_course : Nat} {a_t_trial_course : Nat} {a_t_acts_halls : Nat} {t_latestFault : Int32} {t_latestFinding : Int32} {t_tape_length : Int32} {t_tape_bytes : (Nat → Int32)} {t_reader_token : Int32} {t_reader_start : Int32} {t_reader_past : Int32} {t_reader_value : Int32} {t_now_players : Int32} {t_now_round : Int32} {t_now_time : Int32} {t_now_kind : (Nat → Int32)} {t_now_hand : (Nat → Int32)} {t_now_leader : (Nat → Int32)} {t_trial_players : Int32} {t_trial_round : Int32} {t_trial_time : Int32} {t_trial_kind : (Nat → Int32)} {t_trial_hand : (Nat → Int32)} {t_trial_leader : (Nat → Int32)} {t_acts_kept : Int32} {t_acts_next : Int32} : ∀ R : Int32 × Int32 × Int32 × Int32 × Int32 × Int32 × Int32 × Int32 × Int32 × Int32 × (Nat → Int32) × (Nat → Int32) × (Nat → Int32) × Int32 × Int32 × Int32 × (Nat → Int32) × (Nat → Int32) × (Nat → Int32) × Int32, o_X8_hall N t_latestFault t_tape_length t_tape_bytes t_reader_value t_now_players t_now_round t_now_time t_now_kind t_now_hand t_now_leader t_trial_kind t_trial_hand t_trial_leader t_acts_kept = some R → ZMi sK sV l yX8_hall wsX8_hall rmX8_hall D (zty cI cB cZ) [.ref a_t] [(a_t, .inr (8, [.ref a_t_rows, .ref a_t_tape, .ref a_t_reader, .ref a_t_now, .ref a_t_trial, .ref a_t_acts, .ref a_t_ways, .ref a_t_asks, .ref a_t_images, .ref a_t_imageKept, .int t_latestFault, .int t_latestFinding])), (a_t_tape, .inr (6, [.ref a_t_tape_bytes, .int t_tape_length])), (a_t_tape_bytes, .inl (cB, 200, .inl t_tape_bytes)), (a_t_reader, .inr (4, [.ref a_t_tape, .int t_reader_token, .int t_reader_start, .int t_reader_past, .int t_reader_value])), (a_t_now, .inr (3, [.int t_now_players, .int t_now_round, .int t_now_time, .ref a_t_now_kind, .ref a_t_now_hand, .ref a_t_now_leader, .ref a_t_now_course])), (a_t_now_kind, .inl (cI, 8, .inl t_now_kind)), (a_t_now_hand, .inl (cI, 8, .inl t_now_hand)), (a_t_now_leader, .inl (cI, 8, .inl t_now_leader)), (a_t_trial, .inr (3, [.int t_trial_players, .int t_trial_round, .int t_trial_time, .ref a_t_trial_kind, .ref a_t_trial_hand, .ref a_t_trial_leader, .ref a_t_trial_course])), (a_t_trial_kind, .inl (cI, 8, .inl t_trial_kind)), (a_t_trial_hand, .inl (cI, 8, .inl t_trial_hand)), (a_t_trial_leader, .inl (cI, 8, .inl t_trial_leader)), (a_t_acts, .inr (0, [.ref a_t_acts_halls, .int t_acts_kept, .int t_acts_next]))] R.1 [(a_t, .inr (8, [.ref a_t_rows, .ref a_t_tape, .ref a_t_reader, .ref a_t_now, .ref a_t_trial, .ref a_t_acts, .ref a_t_ways, .ref a_t_asks, .ref a_t_images, .ref a_t_imageKept, .int R.2.1, .int t_latestFinding])), (a_t_tape, .inr (6, [.ref a_t_tape_bytes, .int R.2.2.1])), (a_t_tape_bytes, .inl (cB, 200, .inl t_tape_bytes)), (a_t_reader, .inr (4, [.ref a_t_tape, .int R.2.2.2.1, .int R.2.2.2.2.1, .int R.2.2.2.2.2.1, .int R.2.2.2.2.2.2.1])), (a_t_now, .inr (3, [.int R.2.2.2.2.2.2.2.1, .int R.2.2.2.2.2.2.2.2.1, .int R.2.2.2.2.2.2.2.2.2.1, .ref a_t_now_kind, .ref a_t_now_hand, .ref a_t_now_leader, .ref a_t_now_course])), (a_t_now_kind, .inl (cI, 8, .inl R.2.2.2.2.2.2.2.2.2.2.1)), (a_t_now_hand, .inl (cI, 8, .inl R.2.2.2.2.2.2.2.2.2.2.2.1)), (a_t_now_leader, .inl (cI, 8, .inl R.2.2.2.2.2.2.2.2.2.2.2.2.1)), (a_t_trial, .inr (3, [.int R.2.2.2.2.2.2.2.2.2.2.2.2.2.1, .int R.2.2.2.2.2.2.2.2.2.2.2.2.2.2.1, .int R.2.2.2.2.2.2.2.2.2.2.2.2.2.2.2.1, .ref a_t_trial_kind, .ref a_t_trial_hand, .ref a_t_trial_leader, .ref a_t_trial_course])), (a_t_trial_kind, .inl (cI, 8, .inl R.2.2.2.2.2.2.2.2.2.2.2.2.2.2.2.2.1)), (a_t_trial_hand, .inl (cI, 8, .inl R.2.2.2.2.2.2.2.2.2.2.2.2.2.2.2.2.2.1)), (a_t_trial_leader, .inl (cI, 8, .inl R.2.2.2.2.2.2.2.2.2.2.2.2.2.2.2.2.2.2.1)), (a_t_acts, .inr (0, [.ref a_t_acts_halls, .int R.2.2.2.2.2.2.2.2.2.2.2.2.2.2.2.2.2.2.2, .int t_acts_next]))] := by
  intro R hR
  refine zi_of (cc := cX8_hall) (maxL := 2) (ret := (some .int)) (by decide) rfl (Nat.le_of_ble_eq_true rfl) (fun E hE1 hE2 hC hN hQ => ?_)
  subst hE1 hE2
  exact z_X8_hall_0 hC hN (N := N) (a_t := a_t) (a_t_tape := a_t_tape) (a_t_tape_bytes := a_t_tape_bytes) (a_t_reader := a_t_reader) (a_t_now := a_t_now) (a_t_now_kind := a_t_now_kind) (a_t_now_hand := a_t_now_hand) (a_t_now_leader := a_t_now_leader) (a_t_trial := a_t_trial) (a_t_trial_kind := a_t_trial_kind) (a_t_trial_hand := a_t_trial_hand) (a_t_trial_leader := a_t_trial_leader) (a_t_acts := a_t_acts) (a_t_rows := a_t_rows) (a_t_ways := a_t_ways) (a_t_asks := a_t_asks) (a_t_images := a_t_images) (a_t_imageKept := a_t_imageKept) (a_t_now_course := a_t_now_course) (a_t_trial_course := a_t_trial_course) (a_t_acts_halls := a_t_acts_halls) (t_latestFault := t_latestFault) (t_latestFinding := t_latestFinding) (t_tape_length := t_tape_length) (t_tape_bytes := t_tape_bytes) (t_reader_token := t_reader_token) (t_reader_start := t_reader_start) (t_reader_past := t_reader_past) (t_reader_value := t_reader_value) (t_now_players := t_now_players) (t_now_round := t_now_round) (t_now_time := t_now_time) (t_now_kind := t_now_kind) (t_now_hand := t_now_hand) (t_now_leader := t_now_leader) (t_trial_players := t_trial_players) (t_trial_round := t_trial_round) (t_trial_time := t_trial_time) (t_trial_kind := t_trial_kind) (t_trial_hand := t_trial_hand) (t_trial_leader := t_trial_leader) (t_acts_kept := t_acts_kept) (t_acts_next := t_acts_next) hQ hR
