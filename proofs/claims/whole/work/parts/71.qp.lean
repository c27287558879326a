/-! PART QP: what stands at the law's entry -/
section ENTRY
variable {p : Program} {s : State} {m : MethodId} {meth : Method} {c : Code} {b L : Nat} {xs : Nat → Int32}
theorem st_cls (hts : ∀ w ∈ lw_tbl, w.before #[Value.ref b] s = true) : ∀ q ∈ vwCl, ∃ (cC : ClassId) (iS : Nat → Nat), u_Kn s q.1 q.2.1 q.2.2 cC iS := by
  refine List.forall_mem_cons.mpr ⟨u_known hts inX0 (hts (Cond.instantiable RX0 3) (by decide +kernel)), List.forall_mem_cons.mpr ⟨u_known hts inX1 (hts (Cond.instantiable RX1 2) (by decide +kernel)), List.forall_mem_cons.mpr ⟨u_known hts inX2 (hts (Cond.instantiable RX2 3) (by decide +kernel)), List.forall_mem_cons.mpr ⟨u_known hts inX3 (hts (Cond.instantiable RX3 7) (by decide +kernel)), List.forall_mem_cons.mpr ⟨u_known hts inX4 (hts (Cond.instantiable RX4 5) (by decide +kernel)), List.forall_mem_cons.mpr ⟨u_known hts inX5 (hts (Cond.instantiable RX5 3) (by decide +kernel)), List.forall_mem_cons.mpr ⟨u_known hts inX6 (hts (Cond.instantiable RX6 2) (by decide +kernel)), List.forall_mem_cons.mpr ⟨u_known hts inX7 (hts (Cond.instantiable RX7 6) (by decide +kernel)), List.forall_mem_cons.mpr ⟨u_known hts inX8 (hts (Cond.instantiable RX8 12) (by decide +kernel)), List.forall_mem_cons.mpr ⟨u_known hts inX9 (hts (Cond.instantiable RX9 31) (by decide +kernel)), fun _ h => absurd h List.not_mem_nil⟩⟩⟩⟩⟩⟩⟩⟩⟩⟩
theorem st_arr {ty : FieldType} (hp : ty = .int ∨ ty = .byte ∨ ty = .boolean) (h : (Cond.arrayClass ty).before #[Value.ref b] s = true) : ∃ cA : ClassId, ArrOfT s cA ty ∧ va_RA s cA ty := by
  obtain ⟨cA, kA, comp, h1, h2, h3⟩ := Cond.arrayClass_spec h
  refine ⟨cA, fun N z => ?_, ?_⟩
  · rcases hp with rfl | rfl | rfl
    · exact ⟨(fun k h => by cases h), kA, h2, comp, h3⟩
    · exact ⟨(fun k h => by cases h), kA, h2, comp, h3⟩
    · exact ⟨(fun k h => by cases h), kA, h2, comp, h3⟩
  · rcases hp with rfl | rfl | rfl <;> exact h1
theorem st_K (hts : ∀ w ∈ lw_tbl, w.before #[Value.ref b] s = true) : ∃ (D : va_G) (cI cB cZ : ClassId), va_K D vwCl (zty cI cB cZ) s := by
  have H := st_cls hts
  have H2 : ∀ c : Nat, ∃ q : ClassId × (Nat → Nat), ∀ x : vw_C, vwCl[c]? = some x → u_Kn s x.1 x.2.1 x.2.2 q.1 q.2 := by
    intro c
    cases e : vwCl[c]? with
    | none => exact ⟨(0, fun _ => 0), fun x hx => by cases hx⟩
    | some x =>
      obtain ⟨cC, iS, h⟩ := H x (List.mem_of_getElem? e)
      exact ⟨(cC, iS), fun y hy => by cases hy; exact h⟩
  obtain ⟨D, hD⟩ := Classical.axiomOfChoice H2
  obtain ⟨cI, i1, i2⟩ := st_arr (Or.inl rfl) (hts (Cond.arrayClass .int) (by decide +kernel))
  obtain ⟨cB, b1, b2⟩ := st_arr (Or.inr (Or.inl rfl)) (hts (Cond.arrayClass .byte) (by decide +kernel))
  obtain ⟨cZ, z1, z2⟩ := st_arr (Or.inr (Or.inr rfl)) (hts (Cond.arrayClass .boolean) (by decide +kernel))
  refine ⟨(fun c => (D c).1, fun c => (D c).2), cI, cB, cZ, fun c q hq => hD c q hq, fun k q hq => ?_⟩
  match k, hq with
  | 0, hq => cases hq; exact ⟨i1, i2⟩
  | 1, hq => cases hq; exact ⟨b1, b2⟩
  | 2, hq => cases hq; exact ⟨z1, z2⟩
  | k + 3, hq => cases hq
def stT (i : Nat) : Term := Term.string RX4 ([40, 61, 63, 65, 67, 69].getD i 0)
theorem st_f1 : ∀ i, i < 6 → Cond.exactly (stT i) "java/lang/String" ∈ flatC (Jvm.Cond.and given_1 narrow_1) := by decide +kernel
theorem st_f2 : ∀ i, i < 6 → Cond.eq (.field (stT i) "java/lang/String" "coder" "B") (.int 0) ∈ flatC (Jvm.Cond.and given_1 narrow_1) := by decide +kernel
theorem st_f3 : ∀ i, i < 6 → Cond.arrayOf (.field (stT i) "java/lang/String" "value" "[B") .byte ∈ flatC (Jvm.Cond.and given_1 narrow_1) := by decide +kernel
theorem st_f4 : ∀ i, i < 6 → Cond.eq (.length (.field (stT i) "java/lang/String" "value" "[B")) (.int (Int32.ofNat (zlen.getD i 0))) ∈ flatC (Jvm.Cond.and given_1 narrow_1) := by decide +kernel
theorem st_f5 : ∀ i, i < 6 → ∀ j, j < zlen.getD i 0 → Cond.eq (.elem (.field (stT i) "java/lang/String" "value" "[B") (.int (Int32.ofNat j))) (.int ((zbyt.getD i []).getD j 0)) ∈ flatC (Jvm.Cond.and given_1 narrow_1) := by decide +kernel
theorem st_f6 : ∀ i, i < 6 → ∀ j, j < 6 → i = j ∨ Cond.not (Cond.eq (stT i) (stT j)) ∈ flatC (Jvm.Cond.and given_1 narrow_1) ∨ Cond.not (Cond.eq (stT j) (stT i)) ∈ flatC (Jvm.Cond.and given_1 narrow_1) := by decide +kernel
theorem st_f7 : ∀ i, i < 6 → zlen.getD i 0 < 2 ^ 31 := by decide +kernel
theorem st_N (hts : ∀ w ∈ lw_tbl, w.before #[Value.ref b] s = true) (hgv : (Jvm.Cond.and given_1 narrow_1).before #[Value.ref b] s = true) : ∃ sK sV : Nat → Nat, ZN sK sV (fun q => s.heap.size ≤ q) s := by
  have hs := flat_of_before _ hgv
  have hA : ∀ a : Nat, a < s.heap.size → ¬ (fun q : Nat => s.heap.size ≤ q) a := fun a h => Nat.not_le.mpr h
  obtain ⟨sK, sV, v1, v2⟩ := vk_Sof (args := #[Value.ref b]) (s := s) (N := 6) (tm := stT) (len := zlen) (byt := zbyt) (A := fun q => s.heap.size ≤ q) st_f7 (fun i hi => hs _ (st_f1 i hi)) (fun i hi => hs _ (st_f2 i hi)) (fun i hi => hs _ (st_f3 i hi)) (fun i hi => hs _ (st_f4 i hi)) (fun i hi j hj => hs _ (st_f5 i hi j hj)) (fun i j hi hj hne => by
    rcases st_f6 i hi j hj with h | h | h
    · exact absurd h hne
    · exact Or.inl (hs _ h)
    · exact Or.inr (hs _ h)) hA
  refine ⟨sK, sV, ?_, ?_, ?_, v1, ?_⟩
  · have nn : ∀ q ∈ zNs, Cond.methodLinkNest q.1 q.2.1 q.2.2 "FistTrains" ∈ lw_tbl := by decide +kernel
    exact fun q hq => va_Nw.of rfl (hts _ (nn q hq))
  · exact va_Zof (hts (Cond.laysStatic "java/lang/String" "COMPACT_STRINGS" "Z") (by decide +kernel)) (hts (Cond.initialized "java/lang/String") (by decide +kernel)) (va_eqt (hs (Cond.eq (.static "java/lang/String" "COMPACT_STRINGS" "Z") (.int 1)) (by decide +kernel))) hA
  · exact va_Zqof (hts (Cond.laysStatic "jdk/internal/util/Preconditions" "SIOOBE_FORMATTER" "Ljava/util/function/BiFunction;") (by decide +kernel)) (hts (Cond.initialized "jdk/internal/util/Preconditions") (by decide +kernel)) (hs (Cond.isRef (.static "jdk/internal/util/Preconditions" "SIOOBE_FORMATTER" "Ljava/util/function/BiFunction;")) (by decide +kernel)) hA
  · have w : ∀ q ∈ zStr, Cond.stringRef q.1 q.2.1 q.2.2.1 ∈ lw_tbl ∧ q.2.2.2 < 6 ∧ stT q.2.2.2 = Term.string q.1 q.2.1 := by decide +kernel
    intro q hq
    obtain ⟨w1, w2, w3⟩ := w q hq
    have e := v2 q.2.2.2 w2
    rw [w3] at e
    exact vk_R.of (hts _ w1) e
end ENTRY
