def R_law : String := "FistTrainsLaw"
def lw_P (b : Addr) (xs : List Int32) (args : Array Value) (s : State) : Prop := args = #[.ref b] ∧ s.IntsAt b xs ∧ xs.length ≤ 384 ∧ (Jvm.Cond.and given_1 narrow_1).before args s = true
def lw_Q (_ : Array Value) (s : State) (o : Outcome) (t : State) : Prop := o = .returned (some (.int 1)) ∧ Framed s o t [] 48 2857
def lw_Z (below : List Frame) (a : Array Value) (s : State) : State → Prop := fun t => ∃ o, t.status = .running ∧ Ended t below o ∧ lw_Q a s o t
/-- the law's own end, with 1 on the stack, nothing written that was there before, its room as the claim has it -/
theorem lw_ret {p : Program} {l : Launch} {e : Env} {s : State} {m : MethodId} {below : List Frame} {meth : Method} {c : Code} {b : Nat} (hx : p.tables.exec = Jvm.exec) (hb : c.code = code) (hr : meth.sig.returnType = ret) (hlocks : meth.locks = false) {pc : Nat} {H : Heap} {ls : Array Slot} (hdg : decode code pc = .ok (.ireturn, 1)) : W p l e room_1 s m #[Value.ref b] below meth c H [] 48 2857 (lw_Z below #[Value.ref b] s) (F0 m pc ls [.int 1]) := by
  intro T hT X
  obtain ⟨fs, hret, hrun, hended, hW, hframe⟩ := X.leave (v := some (.int 1)) (hlocks := hlocks) (fun h => by rw [hr] at h; cases h)
  have hmeth' : T.vm.method? m = some meth := X.method'
  refine ⟨T.setFrames fs, ?_, .returned (some (.int 1)), hrun, hended, rfl, ⟨_, rfl⟩, hW, hframe⟩
  jvm_step X.here [X.here.top, hx, hb, hdg, hmeth', hr, ret, narrow_b1]
  (try refine ⟨rfl, ?_⟩); (try refine ⟨rfl, ?_⟩)
  first | (intro acts; rw [hret _ acts rfl rfl rfl]) | rw [hret _ _ rfl rfl rfl]
  exact Steps.refl _
/-- what holds at the law's entry: the machine, the code, the tables' words (any of lw_tbl by 'hts w (by decide +kernel)'), the script of L ints xs at the cell b, what the Statement gives of the start (any of its parts by flat_of_before) -/
def lw_At (p : Program) (s : State) (m : MethodId) (meth : Method) (c : Code) (b L : Nat) (xs : Nat → Int32) : Prop :=
  p.tables.exec = Jvm.exec ∧ c.code = code ∧ meth.sig.returnType = ret ∧ c.maxLocals = 4 ∧ s.vm.findClass R_law = some m.cls ∧ (∀ w ∈ lw_tbl, w.before #[Value.ref b] s = true) ∧ va_X b L xs s s.heap ∧ b < s.heap.size ∧ meth.locks = false ∧ (Jvm.Cond.and given_1 narrow_1).before #[Value.ref b] s = true
def ZLaw (E : ZE) (b L : Nat) (xs : Nat → Int32) : Prop := za E = #[Value.ref b] ∧ zQ E = lw_Z (zb E) #[Value.ref b] (zs E) ∧ zA E = (fun q => (zs E).heap.size ≤ q) ∧ va_X b L xs (zs E) (zs E).heap ∧ b < (zs E).heap.size
section ZLAW
variable {E : ZE} {kn : Nat × Nat} {lv : zLv} {pc : Nat} {st : List Value} {ws : va_W} {nL : Nat} {cc : ByteArray} {Ts : List Cond} {own : String} {rm : Room} {ret9 : Option FieldType} {tys : zTy} {b L : Nat} {xs : Nat → Int32}
theorem z_sld (hC : ZC E nL cc Ts own rm ret9 tys) (hL : ZLaw E b L xs) {i : Int32} {α : Type} {P : Option α} {rf : α} (hd : decode cc pc = .ok (.iaload, 1)) (hR : ogd (inb i L) P = some rf) (k : P = some rf → Z E kn lv (pc + 1) (.int (xs i.toNatClampNeg) :: st) ws) : Z E kn lv pc (.int i :: .ref b :: st) ws := fun ls H locs hl hP hD hS => by
  obtain ⟨-, -, hA, hX, hb⟩ := hL
  exact va_sld hC.x hC.b hX hb (by rw [hA]; exact Nat.not_le.mpr hb) hS (inb_s (ogd_s hR).1) hd (k (ogd_s hR).2 ls H locs hl hP hD hS)
theorem z_slen (hC : ZC E nL cc Ts own rm ret9 tys) (hL : ZLaw E b L xs) (hd : decode cc pc = .ok (.arraylength, 1)) (k : Z E kn lv (pc + 1) (.int (Int32.ofNat L) :: st) ws) : Z E kn lv pc (.ref b :: st) ws := fun ls H locs hl hP hD hS => by
  obtain ⟨-, -, hA, hX, hb⟩ := hL
  exact va_slen hC.x hC.b hX hb (by rw [hA]; exact Nat.not_le.mpr hb) hS hd (k ls H locs hl hP hD hS)
theorem z_lawret (hC : ZC E 4 code Ts own room_1 ret tys) (hL : ZLaw E b L xs) (hd : decode code pc = .ok (.ireturn, 1)) : Z E (48, 2857) lv pc [.int 1] ws := fun ls H locs hl hP hD hS => by
  obtain ⟨h1, h2, hA, -, -⟩ := hL
  refine va_forget (fun q hq => by have := hS.2.2 q hq; rw [hA] at this; exact this) ?_
  rw [h2, h1, hC.r]
  exact lw_ret hC.x hC.b hC.rt hC.lk hd
end ZLAW
theorem hvX8_row : yX8_row.cls = RX8 ∧ yX8_row.cls ≠ "java/lang/invoke/MethodHandle" ∧ yX8_row.cls ≠ "java/lang/invoke/VarHandle" ∧ (parseMethodDescriptor yX8_row.desc).map (fun d => d.parameters.length) = some 3 := by decide +kernel
theorem hvX9_row : yX9_row.cls = RX9 ∧ yX9_row.cls ≠ "java/lang/invoke/MethodHandle" ∧ yX9_row.cls ≠ "java/lang/invoke/VarHandle" ∧ (parseMethodDescriptor yX9_row.desc).map (fun d => d.parameters.length) = some 3 := by decide +kernel
theorem hvX8_set : yX8_set.cls = RX8 ∧ yX8_set.cls ≠ "java/lang/invoke/MethodHandle" ∧ yX8_set.cls ≠ "java/lang/invoke/VarHandle" ∧ (parseMethodDescriptor yX8_set.desc).map (fun d => d.parameters.length) = some 3 := by decide +kernel
theorem hvX9_set : yX9_set.cls = RX9 ∧ yX9_set.cls ≠ "java/lang/invoke/MethodHandle" ∧ yX9_set.cls ≠ "java/lang/invoke/VarHandle" ∧ (parseMethodDescriptor yX9_set.desc).map (fun d => d.parameters.length) = some 3 := by decide +kernel
theorem hvX8_copy : yX8_copy.cls = RX8 ∧ yX8_copy.cls ≠ "java/lang/invoke/MethodHandle" ∧ yX8_copy.cls ≠ "java/lang/invoke/VarHandle" ∧ (parseMethodDescriptor yX8_copy.desc).map (fun d => d.parameters.length) = some 5 := by decide +kernel
theorem hvX9_copy : yX9_copy.cls = RX9 ∧ yX9_copy.cls ≠ "java/lang/invoke/MethodHandle" ∧ yX9_copy.cls ≠ "java/lang/invoke/VarHandle" ∧ (parseMethodDescriptor yX9_copy.desc).map (fun d => d.parameters.length) = some 5 := by decide +kernel
theorem hvX8_drop : yX8_drop.cls = RX8 ∧ yX8_drop.cls ≠ "java/lang/invoke/MethodHandle" ∧ yX8_drop.cls ≠ "java/lang/invoke/VarHandle" ∧ (parseMethodDescriptor yX8_drop.desc).map (fun d => d.parameters.length) = some 1 := by decide +kernel
theorem hvX9_drop : yX9_drop.cls = RX9 ∧ yX9_drop.cls ≠ "java/lang/invoke/MethodHandle" ∧ yX9_drop.cls ≠ "java/lang/invoke/VarHandle" ∧ (parseMethodDescriptor yX9_drop.desc).map (fun d => d.parameters.length) = some 1 := by decide +kernel
theorem hvX8_feed : yX8_feed.cls = RX8 ∧ yX8_feed.cls ≠ "java/lang/invoke/MethodHandle" ∧ yX8_feed.cls ≠ "java/lang/invoke/VarHandle" ∧ (parseMethodDescriptor yX8_feed.desc).map (fun d => d.parameters.length) = some 2 := by decide +kernel
theorem hvX9_feed : yX9_feed.cls = RX9 ∧ yX9_feed.cls ≠ "java/lang/invoke/MethodHandle" ∧ yX9_feed.cls ≠ "java/lang/invoke/VarHandle" ∧ (parseMethodDescriptor yX9_feed.desc).map (fun d => d.parameters.length) = some 2 := by decide +kernel
theorem hvX8_hall : yX8_hall.cls = RX8 ∧ yX8_hall.cls ≠ "java/lang/invoke/MethodHandle" ∧ yX8_hall.cls ≠ "java/lang/invoke/VarHandle" ∧ (parseMethodDescriptor yX8_hall.desc).map (fun d => d.parameters.length) = some 0 := by decide +kernel
theorem hvX9_hall : yX9_hall.cls = RX9 ∧ yX9_hall.cls ≠ "java/lang/invoke/MethodHandle" ∧ yX9_hall.cls ≠ "java/lang/invoke/VarHandle" ∧ (parseMethodDescriptor yX9_hall.desc).map (fun d => d.parameters.length) = some 0 := by decide +kernel
theorem hvX8_fault : yX8_fault.cls = RX8 ∧ yX8_fault.cls ≠ "java/lang/invoke/MethodHandle" ∧ yX8_fault.cls ≠ "java/lang/invoke/VarHandle" ∧ (parseMethodDescriptor yX8_fault.desc).map (fun d => d.parameters.length) = some 0 := by decide +kernel
theorem hvX9_fault : yX9_fault.cls = RX9 ∧ yX9_fault.cls ≠ "java/lang/invoke/MethodHandle" ∧ yX9_fault.cls ≠ "java/lang/invoke/VarHandle" ∧ (parseMethodDescriptor yX9_fault.desc).map (fun d => d.parameters.length) = some 0 := by decide +kernel
theorem hvX8_bout : yX8_bout.cls = RX8 ∧ yX8_bout.cls ≠ "java/lang/invoke/MethodHandle" ∧ yX8_bout.cls ≠ "java/lang/invoke/VarHandle" ∧ (parseMethodDescriptor yX8_bout.desc).map (fun d => d.parameters.length) = some 2 := by decide +kernel
theorem hvX9_bout : yX9_bout.cls = RX9 ∧ yX9_bout.cls ≠ "java/lang/invoke/MethodHandle" ∧ yX9_bout.cls ≠ "java/lang/invoke/VarHandle" ∧ (parseMethodDescriptor yX9_bout.desc).map (fun d => d.parameters.length) = some 2 := by decide +kernel
theorem hvX8_round : yX8_round.cls = RX8 ∧ yX8_round.cls ≠ "java/lang/invoke/MethodHandle" ∧ yX8_round.cls ≠ "java/lang/invoke/VarHandle" ∧ (parseMethodDescriptor yX8_round.desc).map (fun d => d.parameters.length) = some 0 := by decide +kernel
theorem hvX9_round : yX9_round.cls = RX9 ∧ yX9_round.cls ≠ "java/lang/invoke/MethodHandle" ∧ yX9_round.cls ≠ "java/lang/invoke/VarHandle" ∧ (parseMethodDescriptor yX9_round.desc).map (fun d => d.parameters.length) = some 0 := by decide +kernel
theorem hvX8_hand : yX8_hand.cls = RX8 ∧ yX8_hand.cls ≠ "java/lang/invoke/MethodHandle" ∧ yX8_hand.cls ≠ "java/lang/invoke/VarHandle" ∧ (parseMethodDescriptor yX8_hand.desc).map (fun d => d.parameters.length) = some 2 := by decide +kernel
theorem hvX9_hand : yX9_hand.cls = RX9 ∧ yX9_hand.cls ≠ "java/lang/invoke/MethodHandle" ∧ yX9_hand.cls ≠ "java/lang/invoke/VarHandle" ∧ (parseMethodDescriptor yX9_hand.desc).map (fun d => d.parameters.length) = some 2 := by decide +kernel
theorem hvX8_hands : yX8_hands.cls = RX8 ∧ yX8_hands.cls ≠ "java/lang/invoke/MethodHandle" ∧ yX8_hands.cls ≠ "java/lang/invoke/VarHandle" ∧ (parseMethodDescriptor yX8_hands.desc).map (fun d => d.parameters.length) = some 1 := by decide +kernel
theorem hvX9_hands : yX9_hands.cls = RX9 ∧ yX9_hands.cls ≠ "java/lang/invoke/MethodHandle" ∧ yX9_hands.cls ≠ "java/lang/invoke/VarHandle" ∧ (parseMethodDescriptor yX9_hands.desc).map (fun d => d.parameters.length) = some 1 := by decide +kernel
theorem hvX8_undo : yX8_undo.cls = RX8 ∧ yX8_undo.cls ≠ "java/lang/invoke/MethodHandle" ∧ yX8_undo.cls ≠ "java/lang/invoke/VarHandle" ∧ (parseMethodDescriptor yX8_undo.desc).map (fun d => d.parameters.length) = some 0 := by decide +kernel
theorem hvX9_undo : yX9_undo.cls = RX9 ∧ yX9_undo.cls ≠ "java/lang/invoke/MethodHandle" ∧ yX9_undo.cls ≠ "java/lang/invoke/VarHandle" ∧ (parseMethodDescriptor yX9_undo.desc).map (fun d => d.parameters.length) = some 0 := by decide +kernel
theorem hvX8_player : yX8_player.cls = RX8 ∧ yX8_player.cls ≠ "java/lang/invoke/MethodHandle" ∧ yX8_player.cls ≠ "java/lang/invoke/VarHandle" ∧ (parseMethodDescriptor yX8_player.desc).map (fun d => d.parameters.length) = some 2 := by decide +kernel
theorem hvX9_player : yX9_player.cls = RX9 ∧ yX9_player.cls ≠ "java/lang/invoke/MethodHandle" ∧ yX9_player.cls ≠ "java/lang/invoke/VarHandle" ∧ (parseMethodDescriptor yX9_player.desc).map (fun d => d.parameters.length) = some 2 := by decide +kernel
theorem hvX8_beats : yX8_beats.cls = RX8 ∧ yX8_beats.cls ≠ "java/lang/invoke/MethodHandle" ∧ yX8_beats.cls ≠ "java/lang/invoke/VarHandle" ∧ (parseMethodDescriptor yX8_beats.desc).map (fun d => d.parameters.length) = some 3 := by decide +kernel
theorem hvX9_beats : yX9_beats.cls = RX9 ∧ yX9_beats.cls ≠ "java/lang/invoke/MethodHandle" ∧ yX9_beats.cls ≠ "java/lang/invoke/VarHandle" ∧ (parseMethodDescriptor yX9_beats.desc).map (fun d => d.parameters.length) = some 3 := by decide +kernel
theorem hvX8_left : yX8_left.cls = RX8 ∧ yX8_left.cls ≠ "java/lang/invoke/MethodHandle" ∧ yX8_left.cls ≠ "java/lang/invoke/VarHandle" ∧ (parseMethodDescriptor yX8_left.desc).map (fun d => d.parameters.length) = some 1 := by decide +kernel
theorem hvX9_left : yX9_left.cls = RX9 ∧ yX9_left.cls ≠ "java/lang/invoke/MethodHandle" ∧ yX9_left.cls ≠ "java/lang/invoke/VarHandle" ∧ (parseMethodDescriptor yX9_left.desc).map (fun d => d.parameters.length) = some 1 := by decide +kernel
theorem hvX8_longest : yX8_longest.cls = RX8 ∧ yX8_longest.cls ≠ "java/lang/invoke/MethodHandle" ∧ yX8_longest.cls ≠ "java/lang/invoke/VarHandle" ∧ (parseMethodDescriptor yX8_longest.desc).map (fun d => d.parameters.length) = some 2 := by decide +kernel
theorem hvX9_longest : yX9_longest.cls = RX9 ∧ yX9_longest.cls ≠ "java/lang/invoke/MethodHandle" ∧ yX9_longest.cls ≠ "java/lang/invoke/VarHandle" ∧ (parseMethodDescriptor yX9_longest.desc).map (fun d => d.parameters.length) = some 2 := by decide +kernel
theorem hvX8_begin : yX8_begin.cls = RX8 ∧ yX8_begin.cls ≠ "java/lang/invoke/MethodHandle" ∧ yX8_begin.cls ≠ "java/lang/invoke/VarHandle" ∧ (parseMethodDescriptor yX8_begin.desc).map (fun d => d.parameters.length) = some 1 := by decide +kernel
theorem hvX9_begin : yX9_begin.cls = RX9 ∧ yX9_begin.cls ≠ "java/lang/invoke/MethodHandle" ∧ yX9_begin.cls ≠ "java/lang/invoke/VarHandle" ∧ (parseMethodDescriptor yX9_begin.desc).map (fun d => d.parameters.length) = some 1 := by decide +kernel
theorem hvX8_seek : yX8_seek.cls = RX8 ∧ yX8_seek.cls ≠ "java/lang/invoke/MethodHandle" ∧ yX8_seek.cls ≠ "java/lang/invoke/VarHandle" ∧ (parseMethodDescriptor yX8_seek.desc).map (fun d => d.parameters.length) = some 1 := by decide +kernel
theorem hvX9_seek : yX9_seek.cls = RX9 ∧ yX9_seek.cls ≠ "java/lang/invoke/MethodHandle" ∧ yX9_seek.cls ≠ "java/lang/invoke/VarHandle" ∧ (parseMethodDescriptor yX9_seek.desc).map (fun d => d.parameters.length) = some 1 := by decide +kernel
theorem hvX8_fewest : yX8_fewest.cls = RX8 ∧ yX8_fewest.cls ≠ "java/lang/invoke/MethodHandle" ∧ yX8_fewest.cls ≠ "java/lang/invoke/VarHandle" ∧ (parseMethodDescriptor yX8_fewest.desc).map (fun d => d.parameters.length) = some 2 := by decide +kernel
theorem hvX9_fewest : yX9_fewest.cls = RX9 ∧ yX9_fewest.cls ≠ "java/lang/invoke/MethodHandle" ∧ yX9_fewest.cls ≠ "java/lang/invoke/VarHandle" ∧ (parseMethodDescriptor yX9_fewest.desc).map (fun d => d.parameters.length) = some 2 := by decide +kernel
theorem hvX8_begun : yX8_begun.cls = RX8 ∧ yX8_begun.cls ≠ "java/lang/invoke/MethodHandle" ∧ yX8_begun.cls ≠ "java/lang/invoke/VarHandle" ∧ (parseMethodDescriptor yX8_begun.desc).map (fun d => d.parameters.length) = some 2 := by decide +kernel
theorem hvX9_begun : yX9_begun.cls = RX9 ∧ yX9_begun.cls ≠ "java/lang/invoke/MethodHandle" ∧ yX9_begun.cls ≠ "java/lang/invoke/VarHandle" ∧ (parseMethodDescriptor yX9_begun.desc).map (fun d => d.parameters.length) = some 2 := by decide +kernel
theorem hvX8_odds : yX8_odds.cls = RX8 ∧ yX8_odds.cls ≠ "java/lang/invoke/MethodHandle" ∧ yX8_odds.cls ≠ "java/lang/invoke/VarHandle" ∧ (parseMethodDescriptor yX8_odds.desc).map (fun d => d.parameters.length) = some 5 := by decide +kernel
theorem hvX9_odds : yX9_odds.cls = RX9 ∧ yX9_odds.cls ≠ "java/lang/invoke/MethodHandle" ∧ yX9_odds.cls ≠ "java/lang/invoke/VarHandle" ∧ (parseMethodDescriptor yX9_odds.desc).map (fun d => d.parameters.length) = some 5 := by decide +kernel
theorem hvX8_gain : yX8_gain.cls = RX8 ∧ yX8_gain.cls ≠ "java/lang/invoke/MethodHandle" ∧ yX8_gain.cls ≠ "java/lang/invoke/VarHandle" ∧ (parseMethodDescriptor yX8_gain.desc).map (fun d => d.parameters.length) = some 3 := by decide +kernel
theorem hvX9_gain : yX9_gain.cls = RX9 ∧ yX9_gain.cls ≠ "java/lang/invoke/MethodHandle" ∧ yX9_gain.cls ≠ "java/lang/invoke/VarHandle" ∧ (parseMethodDescriptor yX9_gain.desc).map (fun d => d.parameters.length) = some 3 := by decide +kernel
theorem hvX8_image : yX8_image.cls = RX8 ∧ yX8_image.cls ≠ "java/lang/invoke/MethodHandle" ∧ yX8_image.cls ≠ "java/lang/invoke/VarHandle" ∧ (parseMethodDescriptor yX8_image.desc).map (fun d => d.parameters.length) = some 1 := by decide +kernel
theorem hvX9_image : yX9_image.cls = RX9 ∧ yX9_image.cls ≠ "java/lang/invoke/MethodHandle" ∧ yX9_image.cls ≠ "java/lang/invoke/VarHandle" ∧ (parseMethodDescriptor yX9_image.desc).map (fun d => d.parameters.length) = some 1 := by decide +kernel
theorem hvX8_restore : yX8_restore.cls = RX8 ∧ yX8_restore.cls ≠ "java/lang/invoke/MethodHandle" ∧ yX8_restore.cls ≠ "java/lang/invoke/VarHandle" ∧ (parseMethodDescriptor yX8_restore.desc).map (fun d => d.parameters.length) = some 1 := by decide +kernel
theorem hvX9_restore : yX9_restore.cls = RX9 ∧ yX9_restore.cls ≠ "java/lang/invoke/MethodHandle" ∧ yX9_restore.cls ≠ "java/lang/invoke/VarHandle" ∧ (parseMethodDescriptor yX9_restore.desc).map (fun d => d.parameters.length) = some 1 := by decide +kernel
theorem hvX8_kind : yX8_kind.cls = RX8 ∧ yX8_kind.cls ≠ "java/lang/invoke/MethodHandle" ∧ yX8_kind.cls ≠ "java/lang/invoke/VarHandle" ∧ (parseMethodDescriptor yX8_kind.desc).map (fun d => d.parameters.length) = some 1 := by decide +kernel
theorem hvX9_kind : yX9_kind.cls = RX9 ∧ yX9_kind.cls ≠ "java/lang/invoke/MethodHandle" ∧ yX9_kind.cls ≠ "java/lang/invoke/VarHandle" ∧ (parseMethodDescriptor yX9_kind.desc).map (fun d => d.parameters.length) = some 1 := by decide +kernel
theorem hvX8_as : yX8_as.cls = RX8 ∧ yX8_as.cls ≠ "java/lang/invoke/MethodHandle" ∧ yX8_as.cls ≠ "java/lang/invoke/VarHandle" ∧ (parseMethodDescriptor yX8_as.desc).map (fun d => d.parameters.length) = some 2 := by decide +kernel
theorem hvX9_as : yX9_as.cls = RX9 ∧ yX9_as.cls ≠ "java/lang/invoke/MethodHandle" ∧ yX9_as.cls ≠ "java/lang/invoke/VarHandle" ∧ (parseMethodDescriptor yX9_as.desc).map (fun d => d.parameters.length) = some 2 := by decide +kernel
theorem hvX8_ask : yX8_ask.cls = RX8 ∧ yX8_ask.cls ≠ "java/lang/invoke/MethodHandle" ∧ yX8_ask.cls ≠ "java/lang/invoke/VarHandle" ∧ (parseMethodDescriptor yX8_ask.desc).map (fun d => d.parameters.length) = some 2 := by decide +kernel
theorem hvX9_ask : yX9_ask.cls = RX9 ∧ yX9_ask.cls ≠ "java/lang/invoke/MethodHandle" ∧ yX9_ask.cls ≠ "java/lang/invoke/VarHandle" ∧ (parseMethodDescriptor yX9_ask.desc).map (fun d => d.parameters.length) = some 2 := by decide +kernel
theorem hvX8_trace : yX8_trace.cls = RX8 ∧ yX8_trace.cls ≠ "java/lang/invoke/MethodHandle" ∧ yX8_trace.cls ≠ "java/lang/invoke/VarHandle" ∧ (parseMethodDescriptor yX8_trace.desc).map (fun d => d.parameters.length) = some 1 := by decide +kernel
theorem hvX9_trace : yX9_trace.cls = RX9 ∧ yX9_trace.cls ≠ "java/lang/invoke/MethodHandle" ∧ yX9_trace.cls ≠ "java/lang/invoke/VarHandle" ∧ (parseMethodDescriptor yX9_trace.desc).map (fun d => d.parameters.length) = some 1 := by decide +kernel
theorem hvX8_count : yX8_count.cls = RX8 ∧ yX8_count.cls ≠ "java/lang/invoke/MethodHandle" ∧ yX8_count.cls ≠ "java/lang/invoke/VarHandle" ∧ (parseMethodDescriptor yX8_count.desc).map (fun d => d.parameters.length) = some 1 := by decide +kernel
theorem hvX9_count : yX9_count.cls = RX9 ∧ yX9_count.cls ≠ "java/lang/invoke/MethodHandle" ∧ yX9_count.cls ≠ "java/lang/invoke/VarHandle" ∧ (parseMethodDescriptor yX9_count.desc).map (fun d => d.parameters.length) = some 1 := by decide +kernel
theorem hvX8_status : yX8_status.cls = RX8 ∧ yX8_status.cls ≠ "java/lang/invoke/MethodHandle" ∧ yX8_status.cls ≠ "java/lang/invoke/VarHandle" ∧ (parseMethodDescriptor yX8_status.desc).map (fun d => d.parameters.length) = some 0 := by decide +kernel
theorem hvX9_status : yX9_status.cls = RX9 ∧ yX9_status.cls ≠ "java/lang/invoke/MethodHandle" ∧ yX9_status.cls ≠ "java/lang/invoke/VarHandle" ∧ (parseMethodDescriptor yX9_status.desc).map (fun d => d.parameters.length) = some 0 := by decide +kernel
set_option maxRecDepth 20000 in
theorem mL_law_6 : Cond.constantLong RL 32 (4294967295) ∈ wsL_law := List.mem_of_getElem? (i := 6) rfl
