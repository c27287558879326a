/-! The layer Z: W at every heap, locals and log that hold the listed picture. A goal is then lists alone. -/
abbrev ZX : Type := Program × Launch × Env × Room × State × MethodId × Array Value × List Frame × Method × Code
abbrev ZE : Type := ZX × Nat × va_G × (Nat → Prop) × (State → Prop)
abbrev zp (E : ZE) : Program := E.1.1
abbrev zl (E : ZE) : Launch := E.1.2.1
abbrev ze (E : ZE) : Env := E.1.2.2.1
abbrev zR (E : ZE) : Room := E.1.2.2.2.1
abbrev zs (E : ZE) : State := E.1.2.2.2.2.1
abbrev zm (E : ZE) : MethodId := E.1.2.2.2.2.2.1
abbrev za (E : ZE) : Array Value := E.1.2.2.2.2.2.2.1
abbrev zb (E : ZE) : List Frame := E.1.2.2.2.2.2.2.2.1
abbrev zme (E : ZE) : Method := E.1.2.2.2.2.2.2.2.2.1
abbrev zc (E : ZE) : Code := E.1.2.2.2.2.2.2.2.2.2
abbrev zn (E : ZE) : Nat := E.2.1
abbrev zD (E : ZE) : va_G := E.2.2.1
abbrev zA (E : ZE) : Nat → Prop := E.2.2.2.1
abbrev zQ (E : ZE) : State → Prop := E.2.2.2.2
abbrev zLv : Type := List (Nat × Value)
abbrev zTy : Type := List (ClassId × FieldType)
def Z (E : ZE) (kn : Nat × Nat) (lv : zLv) (pc : Nat) (st : List Value) (ws : va_W) : Prop :=
  ∀ (ls : Array Slot) (H : Heap) (locs : List Loc), lv_has ls (zn E) lv → va_P (zD E) vwCl ws H → va_D (zA E) ws → va_S (zA E) (zs E).heap H locs →
    W (zp E) (zl E) (ze E) (zR E) (zs E) (zm E) (za E) (zb E) (zme E) (zc E) H locs kn.1 kn.2 (zQ E) (F0 (zm E) pc ls st)
/-- what is fixed in one run of a method -/
def ZC (E : ZE) (nL : Nat) (cc : ByteArray) (Ts : List Cond) (own : String) (rm : Room) (ret : Option FieldType) (tys : zTy) : Prop :=
  (zp E).tables.exec = Jvm.exec ∧ (zc E).code = cc ∧ (zc E).maxLocals = nL ∧ zn E = nL ∧ (zs E).vm.findClass own = some (zm E).cls ∧ (∀ w ∈ Ts, w.before (za E) (zs E) = true) ∧ va_K (zD E) vwCl tys (zs E) ∧ (∀ q, (zs E).heap.size ≤ q → zA E q) ∧ zR E = rm ∧ (zme E).sig.returnType = ret ∧ (zme E).locks = false
section ZC
variable {E : ZE} {nL : Nat} {cc : ByteArray} {Ts : List Cond} {own : String} {rm : Room} {ret : Option FieldType} {tys : zTy}
theorem ZC.x (h : ZC E nL cc Ts own rm ret tys) : (zp E).tables.exec = Jvm.exec := h.1
theorem ZC.b (h : ZC E nL cc Ts own rm ret tys) : (zc E).code = cc := h.2.1
theorem ZC.ml (h : ZC E nL cc Ts own rm ret tys) : (zc E).maxLocals = nL := h.2.2.1
theorem ZC.n (h : ZC E nL cc Ts own rm ret tys) : zn E = nL := h.2.2.2.1
theorem ZC.o (h : ZC E nL cc Ts own rm ret tys) : (zs E).vm.findClass own = some (zm E).cls := h.2.2.2.2.1
theorem ZC.t (h : ZC E nL cc Ts own rm ret tys) : ∀ w ∈ Ts, w.before (za E) (zs E) = true := h.2.2.2.2.2.1
theorem ZC.k (h : ZC E nL cc Ts own rm ret tys) : va_K (zD E) vwCl tys (zs E) := h.2.2.2.2.2.2.1
theorem ZC.a (h : ZC E nL cc Ts own rm ret tys) : ∀ q, (zs E).heap.size ≤ q → zA E q := h.2.2.2.2.2.2.2.1
theorem ZC.r (h : ZC E nL cc Ts own rm ret tys) : zR E = rm := h.2.2.2.2.2.2.2.2.1
theorem ZC.rt (h : ZC E nL cc Ts own rm ret tys) : (zme E).sig.returnType = ret := h.2.2.2.2.2.2.2.2.2.1
theorem ZC.lk (h : ZC E nL cc Ts own rm ret tys) : (zme E).locks = false := h.2.2.2.2.2.2.2.2.2.2
end ZC
/-- a guard: what the machine asks before an access -/
def ogd {α : Type} (b : Bool) (x : Option α) : Option α := if b = true then x else none
theorem ogd_s {α : Type} {b : Bool} {x : Option α} {r : α} (h : ogd b x = some r) : b = true ∧ x = some r := by
  unfold ogd at h
  split at h
  · exact ⟨by assumption, h⟩
  · cases h
theorem ogd_t {α : Type} {b : Bool} {x : Option α} (h : b = true) : ogd b x = x := by unfold ogd; rw [if_pos h]
def inb (i : Int32) (n : Nat) : Bool := decide (¬ (i < 0 ∨ n ≤ i.toNatClampNeg))
theorem inb_s {i : Int32} {n : Nat} (h : inb i n = true) : vp_in i n := by
  unfold inb at h
  show ¬ (i < 0 ∨ n ≤ i.toNatClampNeg)
  exact of_decide_eq_true h
def nz32 (y : Int32) : Bool := decide (¬ y = 0)
theorem nz32_s {y : Int32} (h : nz32 y = true) : ¬ y = 0 := of_decide_eq_true h
/-- the world with some cells put anew -/
def zput (ws : va_W) : List Nat → va_W → va_W
  | [], _ => ws
  | _ :: _, [] => ws
  | i :: is, q :: qs => zput (ws.set i q) is qs
section ZR
variable {E : ZE} {kn : Nat × Nat} {lv : zLv} {pc : Nat} {st : List Value} {ws : va_W} {nL : Nat} {cc : ByteArray} {Ts : List Cond} {own : String} {rm : Room} {ret : Option FieldType} {tys : zTy}
theorem z_sub {lv' : zLv} (ks : List Nat) (hl : lv_pick lv ks = lv') (k : Z E kn lv' pc st ws) : Z E kn lv pc st ws := fun ls H locs h hP hD hS => k ls H locs (lv_sub h ks hl) hP hD hS

theorem z_iconst (hC : ZC E nL cc Ts own rm ret tys) {n : Int} {v : Int32} (hd : decode cc pc = .ok (.iconst n, 1)) (hv : Int32.ofInt n = v) (k : Z E kn lv (pc + 1) (.int v :: st) ws) : Z E kn lv pc st ws := fun ls H locs hl hP hD hS => lv_iconst hC.x hC.b hd hv (k ls H locs hl hP hD hS)
theorem z_bipush (hC : ZC E nL cc Ts own rm ret tys) {n : Int} {v : Int32} (hd : decode cc pc = .ok (.bipush n, 2)) (hv : (Int8.ofInt n).toInt32 = v) (k : Z E kn lv (pc + 2) (.int v :: st) ws) : Z E kn lv pc st ws := fun ls H locs hl hP hD hS => lv_bipush hC.x hC.b hd hv (k ls H locs hl hP hD hS)
theorem z_sipush (hC : ZC E nL cc Ts own rm ret tys) {n : Int} {v : Int32} (hd : decode cc pc = .ok (.sipush n, 3)) (hv : (Int16.ofInt n).toInt32 = v) (k : Z E kn lv (pc + 3) (.int v :: st) ws) : Z E kn lv pc st ws := fun ls H locs hl hP hD hS => lv_sipush hC.x hC.b hd hv (k ls H locs hl hP hD hS)
theorem z_lconst (hC : ZC E nL cc Ts own rm ret tys) {n : Fin 2} {v : Int64} (hd : decode cc pc = .ok (.lconst n, 1)) (hv : Int64.ofNat (n : Nat) = v) (k : Z E kn lv (pc + 1) (.long v :: st) ws) : Z E kn lv pc st ws := fun ls H locs hl hP hD hS => lv_lconst hC.x hC.b hd hv (k ls H locs hl hP hD hS)
theorem z_iload_n (hC : ZC E nL cc Ts own rm ret tys) {i : Fin 4} {j : Nat} {x : Int32} (hd : decode cc pc = .ok (.iload_n i, 1)) (hi : (i : Nat) = j) (q : Nat) (hq : lv[q]? = some (j, .int x)) (k : Z E kn lv (pc + 1) (.int x :: st) ws) : Z E kn lv pc st ws := fun ls H locs hl hP hD hS => lv_iload_n hC.x hC.b hd hi (lv_at hl q hq) (k ls H locs hl hP hD hS)
theorem z_iload (hC : ZC E nL cc Ts own rm ret tys) {j : Nat} {x : Int32} (hd : decode cc pc = .ok (.iload j, 2)) (q : Nat) (hq : lv[q]? = some (j, .int x)) (k : Z E kn lv (pc + 2) (.int x :: st) ws) : Z E kn lv pc st ws := fun ls H locs hl hP hD hS => lv_iload hC.x hC.b hd (lv_at hl q hq) (k ls H locs hl hP hD hS)
theorem z_istore_n (hC : ZC E nL cc Ts own rm ret tys) {i : Fin 4} {j : Nat} {x : Int32} (lv' : zLv) (hd : decode cc pc = .ok (.istore_n i, 1)) (hi : (i : Nat) = j) (hn : j < nL) (hl : (j, Value.int x) :: lv.filter (fun q => !(q.1 == j) && !(q.1 + 1 == j && q.2.category == 2)) = lv') (k : Z E kn lv' (pc + 1) st ws) : Z E kn lv pc (.int x :: st) ws := fun ls H locs h hP hD hS => lv_istore_n hC.x hC.b hd hi h (by rw [hC.n]; exact hn) hl (fun ls' h' => k ls' H locs h' hP hD hS)
theorem z_istore (hC : ZC E nL cc Ts own rm ret tys) {j : Nat} {x : Int32} (lv' : zLv) (hd : decode cc pc = .ok (.istore j, 2)) (hn : j < nL) (hl : (j, Value.int x) :: lv.filter (fun q => !(q.1 == j) && !(q.1 + 1 == j && q.2.category == 2)) = lv') (k : Z E kn lv' (pc + 2) st ws) : Z E kn lv pc (.int x :: st) ws := fun ls H locs h hP hD hS => lv_istore hC.x hC.b hd h (by rw [hC.n]; exact hn) hl (fun ls' h' => k ls' H locs h' hP hD hS)
theorem z_lload_n (hC : ZC E nL cc Ts own rm ret tys) {i : Fin 4} {j : Nat} {x : Int64} (hd : decode cc pc = .ok (.lload_n i, 1)) (hi : (i : Nat) = j) (q : Nat) (hq : lv[q]? = some (j, .long x)) (k : Z E kn lv (pc + 1) (.long x :: st) ws) : Z E kn lv pc st ws := fun ls H locs hl hP hD hS => lv_lload_n hC.x hC.b hd hi (lv_at hl q hq) (k ls H locs hl hP hD hS)
theorem z_lload (hC : ZC E nL cc Ts own rm ret tys) {j : Nat} {x : Int64} (hd : decode cc pc = .ok (.lload j, 2)) (q : Nat) (hq : lv[q]? = some (j, .long x)) (k : Z E kn lv (pc + 2) (.long x :: st) ws) : Z E kn lv pc st ws := fun ls H locs hl hP hD hS => lv_lload hC.x hC.b hd (lv_at hl q hq) (k ls H locs hl hP hD hS)
theorem z_lstore_n (hC : ZC E nL cc Ts own rm ret tys) {i : Fin 4} {j : Nat} {x : Int64} (lv' : zLv) (hd : decode cc pc = .ok (.lstore_n i, 1)) (hi : (i : Nat) = j) (hn : j + 1 < nL) (hl : (j, Value.long x) :: lv.filter (fun q => !(q.1 == j) && (!(q.1 == j + 1) && !(q.1 + 1 == j && q.2.category == 2))) = lv') (k : Z E kn lv' (pc + 1) st ws) : Z E kn lv pc (.long x :: st) ws := fun ls H locs h hP hD hS => lv_lstore_n hC.x hC.b hd hi h (by rw [hC.n]; exact hn) hl (fun ls' h' => k ls' H locs h' hP hD hS)
theorem z_lstore (hC : ZC E nL cc Ts own rm ret tys) {j : Nat} {x : Int64} (lv' : zLv) (hd : decode cc pc = .ok (.lstore j, 2)) (hn : j + 1 < nL) (hl : (j, Value.long x) :: lv.filter (fun q => !(q.1 == j) && (!(q.1 == j + 1) && !(q.1 + 1 == j && q.2.category == 2))) = lv') (k : Z E kn lv' (pc + 2) st ws) : Z E kn lv pc (.long x :: st) ws := fun ls H locs h hP hD hS => lv_lstore hC.x hC.b hd h (by rw [hC.n]; exact hn) hl (fun ls' h' => k ls' H locs h' hP hD hS)
theorem z_aload_n (hC : ZC E nL cc Ts own rm ret tys) {i : Fin 4} {j : Nat} {x : Nat} (hd : decode cc pc = .ok (.aload_n i, 1)) (hi : (i : Nat) = j) (q : Nat) (hq : lv[q]? = some (j, .ref x)) (k : Z E kn lv (pc + 1) (.ref x :: st) ws) : Z E kn lv pc st ws := fun ls H locs hl hP hD hS => lv_aload_n hC.x hC.b hd hi (lv_at hl q hq) (k ls H locs hl hP hD hS)
theorem z_aload (hC : ZC E nL cc Ts own rm ret tys) {j : Nat} {x : Nat} (hd : decode cc pc = .ok (.aload j, 2)) (q : Nat) (hq : lv[q]? = some (j, .ref x)) (k : Z E kn lv (pc + 2) (.ref x :: st) ws) : Z E kn lv pc st ws := fun ls H locs hl hP hD hS => lv_aload hC.x hC.b hd (lv_at hl q hq) (k ls H locs hl hP hD hS)
theorem z_astore_n (hC : ZC E nL cc Ts own rm ret tys) {i : Fin 4} {j : Nat} {x : Nat} (lv' : zLv) (hd : decode cc pc = .ok (.astore_n i, 1)) (hi : (i : Nat) = j) (hn : j < nL) (hl : (j, Value.ref x) :: lv.filter (fun q => !(q.1 == j) && !(q.1 + 1 == j && q.2.category == 2)) = lv') (k : Z E kn lv' (pc + 1) st ws) : Z E kn lv pc (.ref x :: st) ws := fun ls H locs h hP hD hS => lv_astore_n hC.x hC.b hd hi h (by rw [hC.n]; exact hn) hl (fun ls' h' => k ls' H locs h' hP hD hS)
theorem z_astore (hC : ZC E nL cc Ts own rm ret tys) {j : Nat} {x : Nat} (lv' : zLv) (hd : decode cc pc = .ok (.astore j, 2)) (hn : j < nL) (hl : (j, Value.ref x) :: lv.filter (fun q => !(q.1 == j) && !(q.1 + 1 == j && q.2.category == 2)) = lv') (k : Z E kn lv' (pc + 2) st ws) : Z E kn lv pc (.ref x :: st) ws := fun ls H locs h hP hD hS => lv_astore hC.x hC.b hd h (by rw [hC.n]; exact hn) hl (fun ls' h' => k ls' H locs h' hP hD hS)
theorem z_iinc (hC : ZC E nL cc Ts own rm ret tys) {j : Nat} {n : Int} {x v : Int32} (lv' : zLv) (hd : decode cc pc = .ok (.iinc j n, 3)) (q : Nat) (hq : lv[q]? = some (j, .int x)) (hv : x + Int32.ofInt n = v) (hn : j < nL) (hl : (j, Value.int v) :: lv.filter (fun q => !(q.1 == j) && !(q.1 + 1 == j && q.2.category == 2)) = lv') (k : Z E kn lv' (pc + 3) st ws) : Z E kn lv pc st ws := fun ls H locs h hP hD hS => lv_iinc hC.x hC.b hd h hq hv (by rw [hC.n]; exact hn) hl (fun ls' h' => k ls' H locs h' hP hD hS)
theorem z_iadd (hC : ZC E nL cc Ts own rm ret tys) {x y : Int32} (hd : decode cc pc = .ok (.iadd, 1)) (k : Z E kn lv (pc + 1) (.int (x + y) :: st) ws) : Z E kn lv pc (.int y :: .int x :: st) ws := fun ls H locs hl hP hD hS => lv_iadd hC.x hC.b hd (k ls H locs hl hP hD hS)
theorem z_isub (hC : ZC E nL cc Ts own rm ret tys) {x y : Int32} (hd : decode cc pc = .ok (.isub, 1)) (k : Z E kn lv (pc + 1) (.int (x - y) :: st) ws) : Z E kn lv pc (.int y :: .int x :: st) ws := fun ls H locs hl hP hD hS => lv_isub hC.x hC.b hd (k ls H locs hl hP hD hS)
theorem z_imul (hC : ZC E nL cc Ts own rm ret tys) {x y : Int32} (hd : decode cc pc = .ok (.imul, 1)) (k : Z E kn lv (pc + 1) (.int (x * y) :: st) ws) : Z E kn lv pc (.int y :: .int x :: st) ws := fun ls H locs hl hP hD hS => lv_imul hC.x hC.b hd (k ls H locs hl hP hD hS)
theorem z_iand (hC : ZC E nL cc Ts own rm ret tys) {x y : Int32} (hd : decode cc pc = .ok (.iand, 1)) (k : Z E kn lv (pc + 1) (.int (x &&& y) :: st) ws) : Z E kn lv pc (.int y :: .int x :: st) ws := fun ls H locs hl hP hD hS => lv_iand hC.x hC.b hd (k ls H locs hl hP hD hS)
theorem z_ior (hC : ZC E nL cc Ts own rm ret tys) {x y : Int32} (hd : decode cc pc = .ok (.ior, 1)) (k : Z E kn lv (pc + 1) (.int (x ||| y) :: st) ws) : Z E kn lv pc (.int y :: .int x :: st) ws := fun ls H locs hl hP hD hS => lv_ior hC.x hC.b hd (k ls H locs hl hP hD hS)
theorem z_ixor (hC : ZC E nL cc Ts own rm ret tys) {x y : Int32} (hd : decode cc pc = .ok (.ixor, 1)) (k : Z E kn lv (pc + 1) (.int (x ^^^ y) :: st) ws) : Z E kn lv pc (.int y :: .int x :: st) ws := fun ls H locs hl hP hD hS => lv_ixor hC.x hC.b hd (k ls H locs hl hP hD hS)
theorem z_ishl (hC : ZC E nL cc Ts own rm ret tys) {x y : Int32} (hd : decode cc pc = .ok (.ishl, 1)) (k : Z E kn lv (pc + 1) (.int (x <<< (y &&& 31)) :: st) ws) : Z E kn lv pc (.int y :: .int x :: st) ws := fun ls H locs hl hP hD hS => lv_ishl hC.x hC.b hd (k ls H locs hl hP hD hS)
theorem z_ishr (hC : ZC E nL cc Ts own rm ret tys) {x y : Int32} (hd : decode cc pc = .ok (.ishr, 1)) (k : Z E kn lv (pc + 1) (.int (x >>> (y &&& 31)) :: st) ws) : Z E kn lv pc (.int y :: .int x :: st) ws := fun ls H locs hl hP hD hS => lv_ishr hC.x hC.b hd (k ls H locs hl hP hD hS)
theorem z_ineg (hC : ZC E nL cc Ts own rm ret tys) {x : Int32} (hd : decode cc pc = .ok (.ineg, 1)) (k : Z E kn lv (pc + 1) (.int (-x) :: st) ws) : Z E kn lv pc (.int x :: st) ws := fun ls H locs hl hP hD hS => lv_ineg hC.x hC.b hd (k ls H locs hl hP hD hS)
theorem z_ladd (hC : ZC E nL cc Ts own rm ret tys) {x y : Int64} (hd : decode cc pc = .ok (.ladd, 1)) (k : Z E kn lv (pc + 1) (.long (x + y) :: st) ws) : Z E kn lv pc (.long y :: .long x :: st) ws := fun ls H locs hl hP hD hS => lv_ladd hC.x hC.b hd (k ls H locs hl hP hD hS)
theorem z_lsub (hC : ZC E nL cc Ts own rm ret tys) {x y : Int64} (hd : decode cc pc = .ok (.lsub, 1)) (k : Z E kn lv (pc + 1) (.long (x - y) :: st) ws) : Z E kn lv pc (.long y :: .long x :: st) ws := fun ls H locs hl hP hD hS => lv_lsub hC.x hC.b hd (k ls H locs hl hP hD hS)
theorem z_land (hC : ZC E nL cc Ts own rm ret tys) {x y : Int64} (hd : decode cc pc = .ok (.land, 1)) (k : Z E kn lv (pc + 1) (.long (x &&& y) :: st) ws) : Z E kn lv pc (.long y :: .long x :: st) ws := fun ls H locs hl hP hD hS => lv_land hC.x hC.b hd (k ls H locs hl hP hD hS)
theorem z_lor (hC : ZC E nL cc Ts own rm ret tys) {x y : Int64} (hd : decode cc pc = .ok (.lor, 1)) (k : Z E kn lv (pc + 1) (.long (x ||| y) :: st) ws) : Z E kn lv pc (.long y :: .long x :: st) ws := fun ls H locs hl hP hD hS => lv_lor hC.x hC.b hd (k ls H locs hl hP hD hS)
theorem z_lshl (hC : ZC E nL cc Ts own rm ret tys) {x : Int64} {y : Int32} (hd : decode cc pc = .ok (.lshl, 1)) (k : Z E kn lv (pc + 1) (.long (x <<< (y.toInt64 &&& 63)) :: st) ws) : Z E kn lv pc (.int y :: .long x :: st) ws := fun ls H locs hl hP hD hS => lv_lshl hC.x hC.b hd rfl (k ls H locs hl hP hD hS)
theorem z_lshr (hC : ZC E nL cc Ts own rm ret tys) {x : Int64} {y : Int32} (hd : decode cc pc = .ok (.lshr, 1)) (k : Z E kn lv (pc + 1) (.long (x >>> (y.toInt64 &&& 63)) :: st) ws) : Z E kn lv pc (.int y :: .long x :: st) ws := fun ls H locs hl hP hD hS => lv_lshr hC.x hC.b hd rfl (k ls H locs hl hP hD hS)
theorem z_lushr (hC : ZC E nL cc Ts own rm ret tys) {x : Int64} {y : Int32} (hd : decode cc pc = .ok (.lushr, 1)) (k : Z E kn lv (pc + 1) (.long ((x.toUInt64 >>> (y.toInt64.toUInt64 &&& Int64.toUInt64 63)).toInt64) :: st) ws) : Z E kn lv pc (.int y :: .long x :: st) ws := fun ls H locs hl hP hD hS => lv_lushr hC.x hC.b hd rfl (k ls H locs hl hP hD hS)
theorem z_i2l (hC : ZC E nL cc Ts own rm ret tys) {x : Int32} (hd : decode cc pc = .ok (.i2l, 1)) (k : Z E kn lv (pc + 1) (.long (x.toInt64) :: st) ws) : Z E kn lv pc (.int x :: st) ws := fun ls H locs hl hP hD hS => lv_i2l hC.x hC.b hd rfl (k ls H locs hl hP hD hS)
theorem z_l2i (hC : ZC E nL cc Ts own rm ret tys) {x : Int64} (hd : decode cc pc = .ok (.l2i, 1)) (k : Z E kn lv (pc + 1) (.int (x.toInt32) :: st) ws) : Z E kn lv pc (.long x :: st) ws := fun ls H locs hl hP hD hS => lv_l2i hC.x hC.b hd rfl (k ls H locs hl hP hD hS)
theorem z_i2b (hC : ZC E nL cc Ts own rm ret tys) {x : Int32} (hd : decode cc pc = .ok (.i2b, 1)) (k : Z E kn lv (pc + 1) (.int (x.toInt8.toInt32) :: st) ws) : Z E kn lv pc (.int x :: st) ws := fun ls H locs hl hP hD hS => lv_i2b hC.x hC.b hd rfl (k ls H locs hl hP hD hS)
theorem z_i2s (hC : ZC E nL cc Ts own rm ret tys) {x : Int32} (hd : decode cc pc = .ok (.i2s, 1)) (k : Z E kn lv (pc + 1) (.int (x.toInt16.toInt32) :: st) ws) : Z E kn lv pc (.int x :: st) ws := fun ls H locs hl hP hD hS => lv_i2s hC.x hC.b hd rfl (k ls H locs hl hP hD hS)
theorem z_lcmp (hC : ZC E nL cc Ts own rm ret tys) {x y : Int64} (hd : decode cc pc = .ok (.lcmp, 1)) (k : Z E kn lv (pc + 1) (.int (lg_cmp x y) :: st) ws) : Z E kn lv pc (.long y :: .long x :: st) ws := fun ls H locs hl hP hD hS => W.lcmp hC.x hC.b hd (k ls H locs hl hP hD hS)
theorem z_idiv (hC : ZC E nL cc Ts own rm ret tys) {x y : Int32} {α : Type} {P : Option α} {rf : α} (hd : decode cc pc = .ok (.idiv, 1)) (hR : ogd (nz32 y) P = some rf) (k : P = some rf → Z E kn lv (pc + 1) (.int (x / y) :: st) ws) : Z E kn lv pc (.int y :: .int x :: st) ws := fun ls H locs hl hP hD hS => lv_idiv hC.x hC.b hd (nz32_s (ogd_s hR).1) (k (ogd_s hR).2 ls H locs hl hP hD hS)
theorem z_idivK (hC : ZC E nL cc Ts own rm ret tys) {x y : Int32} (hd : decode cc pc = .ok (.idiv, 1)) (hy : ¬ y = 0) (k : Z E kn lv (pc + 1) (.int (x / y) :: st) ws) : Z E kn lv pc (.int y :: .int x :: st) ws := fun ls H locs hl hP hD hS => lv_idiv hC.x hC.b hd hy (k ls H locs hl hP hD hS)
theorem z_irem (hC : ZC E nL cc Ts own rm ret tys) {x y : Int32} {α : Type} {P : Option α} {rf : α} (hd : decode cc pc = .ok (.irem, 1)) (hR : ogd (nz32 y) P = some rf) (k : P = some rf → Z E kn lv (pc + 1) (.int (x - x / y * y) :: st) ws) : Z E kn lv pc (.int y :: .int x :: st) ws := fun ls H locs hl hP hD hS => lv_irem hC.x hC.b hd (nz32_s (ogd_s hR).1) (k (ogd_s hR).2 ls H locs hl hP hD hS)
theorem z_iremK (hC : ZC E nL cc Ts own rm ret tys) {x y : Int32} (hd : decode cc pc = .ok (.irem, 1)) (hy : ¬ y = 0) (k : Z E kn lv (pc + 1) (.int (x - x / y * y) :: st) ws) : Z E kn lv pc (.int y :: .int x :: st) ws := fun ls H locs hl hP hD hS => lv_irem hC.x hC.b hd hy (k ls H locs hl hP hD hS)
theorem z_dup (hC : ZC E nL cc Ts own rm ret tys) {v : Value} (hd : decode cc pc = .ok (.dup, 1)) (hv : v.category = 1) (k : Z E kn lv (pc + 1) (v :: v :: st) ws) : Z E kn lv pc (v :: st) ws := fun ls H locs hl hP hD hS => lv_dup hC.x hC.b hd hv (k ls H locs hl hP hD hS)
theorem z_dup2 (hC : ZC E nL cc Ts own rm ret tys) {v u : Value} (hd : decode cc pc = .ok (.dup2, 1)) (hv : v.category = 1) (hu : u.category = 1) (k : Z E kn lv (pc + 1) (v :: u :: v :: u :: st) ws) : Z E kn lv pc (v :: u :: st) ws := fun ls H locs hl hP hD hS => lv_dup2_11 hC.x hC.b hd hv hu (k ls H locs hl hP hD hS)
theorem z_pop (hC : ZC E nL cc Ts own rm ret tys) {v : Value} (hd : decode cc pc = .ok (.pop, 1)) (hv : v.category = 1) (k : Z E kn lv (pc + 1) st ws) : Z E kn lv pc (v :: st) ws := fun ls H locs hl hP hD hS => lv_pop hC.x hC.b hd hv (k ls H locs hl hP hD hS)
theorem z_goto (hC : ZC E nL cc Ts own rm ret tys) {off : Int} (tgt : Nat) (hd : decode cc pc = .ok (.goto off, 3)) (ht : (pc : Int) + off = (tgt : Int)) (k : Z E kn lv tgt st ws) : Z E kn lv pc st ws := fun ls H locs hl hP hD hS => lv_goto hC.x hC.b hd ht (k ls H locs hl hP hD hS)
theorem z_ldc (hC : ZC E nL cc Ts own rm ret tys) {index : Nat} (v : Int32) (hw : Cond.constant own index v ∈ Ts) (hd : decode cc pc = .ok (.ldc index, 2)) (k : Z E kn lv (pc + 2) (.int v :: st) ws) : Z E kn lv pc st ws := fun ls H locs hl hP hD hS => lv_ldc hC.x hC.b hC.o (hC.t _ hw) hd (k ls H locs hl hP hD hS)
theorem z_ldc2 (hC : ZC E nL cc Ts own rm ret tys) {index : Nat} (v : Int64) (hw : Cond.constantLong own index v ∈ Ts) (hd : decode cc pc = .ok (.ldc2_w index, 3)) (k : Z E kn lv (pc + 3) (.long v :: st) ws) : Z E kn lv pc st ws := fun ls H locs hl hP hD hS => lv_ldc2 hC.x hC.b hC.o (hC.t _ hw) hd (k ls H locs hl hP hD hS)
theorem z_if_eq (hC : ZC E nL cc Ts own rm ret tys) {x : Int32} {off : Int} (tgt : Nat) {α : Type} {P1 P2 : Option α} {rf : α} (hd : decode cc pc = .ok (.ifCond .eq off, 3)) (ht : (pc : Int) + off = (tgt : Int)) (hR : (if x = 0 then P1 else P2) = some rf) (kt : P1 = some rf → Z E kn lv tgt st ws) (kf : P2 = some rf → Z E kn lv (pc + 3) st ws) : Z E kn lv pc (.int x :: st) ws := fun ls H locs hl hP hD hS => lv_if_eq hC.x hC.b hd ht (fun c => kt (by rw [if_pos c] at hR; exact hR) ls H locs hl hP hD hS) (fun c => kf (by rw [if_neg c] at hR; exact hR) ls H locs hl hP hD hS)
theorem z_icmp_eq (hC : ZC E nL cc Ts own rm ret tys) {x y : Int32} {off : Int} (tgt : Nat) {α : Type} {P1 P2 : Option α} {rf : α} (hd : decode cc pc = .ok (.if_icmp .eq off, 3)) (ht : (pc : Int) + off = (tgt : Int)) (hR : (if x = y then P1 else P2) = some rf) (kt : P1 = some rf → Z E kn lv tgt st ws) (kf : P2 = some rf → Z E kn lv (pc + 3) st ws) : Z E kn lv pc (.int y :: .int x :: st) ws := fun ls H locs hl hP hD hS => lv_icmp_eq hC.x hC.b hd ht (fun c => kt (by rw [if_pos c] at hR; exact hR) ls H locs hl hP hD hS) (fun c => kf (by rw [if_neg c] at hR; exact hR) ls H locs hl hP hD hS)
theorem z_if_ne (hC : ZC E nL cc Ts own rm ret tys) {x : Int32} {off : Int} (tgt : Nat) {α : Type} {P1 P2 : Option α} {rf : α} (hd : decode cc pc = .ok (.ifCond .ne off, 3)) (ht : (pc : Int) + off = (tgt : Int)) (hR : (if x = 0 then P1 else P2) = some rf) (kt : P2 = some rf → Z E kn lv tgt st ws) (kf : P1 = some rf → Z E kn lv (pc + 3) st ws) : Z E kn lv pc (.int x :: st) ws := fun ls H locs hl hP hD hS => lv_if_ne hC.x hC.b hd ht (fun c => kt (by rw [if_neg c] at hR; exact hR) ls H locs hl hP hD hS) (fun c => kf (by rw [if_pos c] at hR; exact hR) ls H locs hl hP hD hS)
theorem z_icmp_ne (hC : ZC E nL cc Ts own rm ret tys) {x y : Int32} {off : Int} (tgt : Nat) {α : Type} {P1 P2 : Option α} {rf : α} (hd : decode cc pc = .ok (.if_icmp .ne off, 3)) (ht : (pc : Int) + off = (tgt : Int)) (hR : (if x = y then P1 else P2) = some rf) (kt : P2 = some rf → Z E kn lv tgt st ws) (kf : P1 = some rf → Z E kn lv (pc + 3) st ws) : Z E kn lv pc (.int y :: .int x :: st) ws := fun ls H locs hl hP hD hS => lv_icmp_ne hC.x hC.b hd ht (fun c => kt (by rw [if_neg c] at hR; exact hR) ls H locs hl hP hD hS) (fun c => kf (by rw [if_pos c] at hR; exact hR) ls H locs hl hP hD hS)
theorem z_if_lt (hC : ZC E nL cc Ts own rm ret tys) {x : Int32} {off : Int} (tgt : Nat) {α : Type} {P1 P2 : Option α} {rf : α} (hd : decode cc pc = .ok (.ifCond .lt off, 3)) (ht : (pc : Int) + off = (tgt : Int)) (hR : (if x < 0 then P1 else P2) = some rf) (kt : P1 = some rf → Z E kn lv tgt st ws) (kf : P2 = some rf → Z E kn lv (pc + 3) st ws) : Z E kn lv pc (.int x :: st) ws := fun ls H locs hl hP hD hS => lv_if_lt hC.x hC.b hd ht (fun c => kt (by rw [if_pos c] at hR; exact hR) ls H locs hl hP hD hS) (fun c => kf (by rw [if_neg c] at hR; exact hR) ls H locs hl hP hD hS)
theorem z_icmp_lt (hC : ZC E nL cc Ts own rm ret tys) {x y : Int32} {off : Int} (tgt : Nat) {α : Type} {P1 P2 : Option α} {rf : α} (hd : decode cc pc = .ok (.if_icmp .lt off, 3)) (ht : (pc : Int) + off = (tgt : Int)) (hR : (if x < y then P1 else P2) = some rf) (kt : P1 = some rf → Z E kn lv tgt st ws) (kf : P2 = some rf → Z E kn lv (pc + 3) st ws) : Z E kn lv pc (.int y :: .int x :: st) ws := fun ls H locs hl hP hD hS => lv_icmp_lt hC.x hC.b hd ht (fun c => kt (by rw [if_pos c] at hR; exact hR) ls H locs hl hP hD hS) (fun c => kf (by rw [if_neg c] at hR; exact hR) ls H locs hl hP hD hS)
theorem z_if_ge (hC : ZC E nL cc Ts own rm ret tys) {x : Int32} {off : Int} (tgt : Nat) {α : Type} {P1 P2 : Option α} {rf : α} (hd : decode cc pc = .ok (.ifCond .ge off, 3)) (ht : (pc : Int) + off = (tgt : Int)) (hR : (if 0 ≤ x then P1 else P2) = some rf) (kt : P1 = some rf → Z E kn lv tgt st ws) (kf : P2 = some rf → Z E kn lv (pc + 3) st ws) : Z E kn lv pc (.int x :: st) ws := fun ls H locs hl hP hD hS => lv_if_ge hC.x hC.b hd ht (fun c => kt (by rw [if_pos c] at hR; exact hR) ls H locs hl hP hD hS) (fun c => kf (by rw [if_neg c] at hR; exact hR) ls H locs hl hP hD hS)
theorem z_icmp_ge (hC : ZC E nL cc Ts own rm ret tys) {x y : Int32} {off : Int} (tgt : Nat) {α : Type} {P1 P2 : Option α} {rf : α} (hd : decode cc pc = .ok (.if_icmp .ge off, 3)) (ht : (pc : Int) + off = (tgt : Int)) (hR : (if y ≤ x then P1 else P2) = some rf) (kt : P1 = some rf → Z E kn lv tgt st ws) (kf : P2 = some rf → Z E kn lv (pc + 3) st ws) : Z E kn lv pc (.int y :: .int x :: st) ws := fun ls H locs hl hP hD hS => lv_icmp_ge hC.x hC.b hd ht (fun c => kt (by rw [if_pos c] at hR; exact hR) ls H locs hl hP hD hS) (fun c => kf (by rw [if_neg c] at hR; exact hR) ls H locs hl hP hD hS)
theorem z_if_gt (hC : ZC E nL cc Ts own rm ret tys) {x : Int32} {off : Int} (tgt : Nat) {α : Type} {P1 P2 : Option α} {rf : α} (hd : decode cc pc = .ok (.ifCond .gt off, 3)) (ht : (pc : Int) + off = (tgt : Int)) (hR : (if 0 < x then P1 else P2) = some rf) (kt : P1 = some rf → Z E kn lv tgt st ws) (kf : P2 = some rf → Z E kn lv (pc + 3) st ws) : Z E kn lv pc (.int x :: st) ws := fun ls H locs hl hP hD hS => lv_if_gt hC.x hC.b hd ht (fun c => kt (by rw [if_pos c] at hR; exact hR) ls H locs hl hP hD hS) (fun c => kf (by rw [if_neg c] at hR; exact hR) ls H locs hl hP hD hS)
theorem z_icmp_gt (hC : ZC E nL cc Ts own rm ret tys) {x y : Int32} {off : Int} (tgt : Nat) {α : Type} {P1 P2 : Option α} {rf : α} (hd : decode cc pc = .ok (.if_icmp .gt off, 3)) (ht : (pc : Int) + off = (tgt : Int)) (hR : (if y < x then P1 else P2) = some rf) (kt : P1 = some rf → Z E kn lv tgt st ws) (kf : P2 = some rf → Z E kn lv (pc + 3) st ws) : Z E kn lv pc (.int y :: .int x :: st) ws := fun ls H locs hl hP hD hS => lv_icmp_gt hC.x hC.b hd ht (fun c => kt (by rw [if_pos c] at hR; exact hR) ls H locs hl hP hD hS) (fun c => kf (by rw [if_neg c] at hR; exact hR) ls H locs hl hP hD hS)
theorem z_if_le (hC : ZC E nL cc Ts own rm ret tys) {x : Int32} {off : Int} (tgt : Nat) {α : Type} {P1 P2 : Option α} {rf : α} (hd : decode cc pc = .ok (.ifCond .le off, 3)) (ht : (pc : Int) + off = (tgt : Int)) (hR : (if x ≤ 0 then P1 else P2) = some rf) (kt : P1 = some rf → Z E kn lv tgt st ws) (kf : P2 = some rf → Z E kn lv (pc + 3) st ws) : Z E kn lv pc (.int x :: st) ws := fun ls H locs hl hP hD hS => lv_if_le hC.x hC.b hd ht (fun c => kt (by rw [if_pos c] at hR; exact hR) ls H locs hl hP hD hS) (fun c => kf (by rw [if_neg c] at hR; exact hR) ls H locs hl hP hD hS)
theorem z_icmp_le (hC : ZC E nL cc Ts own rm ret tys) {x y : Int32} {off : Int} (tgt : Nat) {α : Type} {P1 P2 : Option α} {rf : α} (hd : decode cc pc = .ok (.if_icmp .le off, 3)) (ht : (pc : Int) + off = (tgt : Int)) (hR : (if x ≤ y then P1 else P2) = some rf) (kt : P1 = some rf → Z E kn lv tgt st ws) (kf : P2 = some rf → Z E kn lv (pc + 3) st ws) : Z E kn lv pc (.int y :: .int x :: st) ws := fun ls H locs hl hP hD hS => lv_icmp_le hC.x hC.b hd ht (fun c => kt (by rw [if_pos c] at hR; exact hR) ls H locs hl hP hD hS) (fun c => kf (by rw [if_neg c] at hR; exact hR) ls H locs hl hP hD hS)
theorem z_get (hC : ZC E nL cc Ts own rm ret tys) {C ref : String} {T : u_T} {N ci index a : Nat} (hin : ∀ w ∈ u_ws C T N, w ∈ Ts) (hc : vwCl[ci]? = some (C, T, N)) (q0 k : Nat) {fs : List Value} {v : Value} (he : ws[q0]? = some (a, .inr (ci, fs))) (hk : k < N) (hw : Cond.fieldLink own index ref (T k).2.1 (T k).2.2.1 ∈ Ts) (hr : (T k).1 = ref) (hv : fs[k]? = some v) (hd : decode cc pc = .ok (.getfield index, 3)) (kk : Z E kn lv (pc + 3) (v :: st) ws) : Z E kn lv pc (.ref a :: st) ws := fun ls H locs hl hP hD hS => va_get hC.x hC.b hC.t hin hC.o hC.k hP q0 he hc k hk (hC.t _ hw) (fun x h => by rw [hr] at h; exact h) hv hd (kk ls H locs hl hP hD hS)
theorem z_put (hC : ZC E nL cc Ts own rm ret tys) {C ref : String} {T : u_T} {N ci index a : Nat} {ty0 : Nat → FieldType} (hin : ∀ w ∈ u_ws C T N, w ∈ Ts) (hty : ∀ k, k < N → parseFieldDescriptor (T k).2.2.1 = some (ty0 k)) (hnm : ∀ a, a < N → ∀ b, b < N → a ≠ b → (T a).2.1 ≠ (T b).2.1) (hc : vwCl[ci]? = some (C, T, N)) (q0 k : Nat) {fs : List Value} {v : Value} (he : ws[q0]? = some (a, .inr (ci, fs))) (hk : k < N) (hw : Cond.fieldLink own index ref (T k).2.1 (T k).2.2.1 ∈ Ts) (hr : (T k).1 = ref) (hfin : (T k).2.2.2 = false) (hn : narrow (ty0 k) v = v) (hfit : fits (ty0 k) v = true) (hl2 : k < fs.length) (hd : decode cc pc = .ok (.putfield index, 3)) (kk : Z E kn lv (pc + 3) st (ws.set q0 (a, .inr (ci, fs.set k v)))) : Z E kn lv pc (v :: .ref a :: st) ws := fun ls H locs hl hP hD hS => va_put hC.x hC.b hC.t hin ty0 hty hnm hC.o hC.k hP hD hS q0 he hc k hk (hC.t _ hw) (fun x h => by rw [hr] at h; exact h) hfin (hty k hk) hn hfit hl2 hd (fun H1 locs1 hP1 hD1 hS1 => kk ls H1 locs1 hl hP1 hD1 hS1)
theorem z_putF (hC : ZC E nL cc Ts own rm ret tys) {C ref : String} {T : u_T} {N ci index a : Nat} {ty0 : Nat → FieldType} (hin : ∀ w ∈ u_ws C T N, w ∈ Ts) (hty : ∀ k, k < N → parseFieldDescriptor (T k).2.2.1 = some (ty0 k)) (hnm : ∀ a, a < N → ∀ b, b < N → a ≠ b → (T a).2.1 ≠ (T b).2.1) (hc : vwCl[ci]? = some (C, T, N)) (q0 k : Nat) {fs : List Value} {v : Value} (he : ws[q0]? = some (a, .inr (ci, fs))) (hk : k < N) (hw : Cond.fieldLink own index ref (T k).2.1 (T k).2.2.1 ∈ Ts) (hr : (T k).1 = ref) (hfin : (T k).2.2.2 = true) (hin2 : (zme E).name = "<init>") (hdecl : (T k).1 = own) (hn : narrow (ty0 k) v = v) (hfit : fits (ty0 k) v = true) (hl2 : k < fs.length) (hd : decode cc pc = .ok (.putfield index, 3)) (kk : Z E kn lv (pc + 3) st (ws.set q0 (a, .inr (ci, fs.set k v)))) : Z E kn lv pc (v :: .ref a :: st) ws := fun ls H locs hl hP hD hS => va_putF hC.x hC.b hC.t hin ty0 hty hnm hC.o hC.k hP hD hS q0 he hc k hk (hC.t _ hw) (fun x h => by rw [hr] at h; exact h) hfin hin2 hdecl (hty k hk) hn hfit hl2 hd (fun H1 locs1 hP1 hD1 hS1 => kk ls H1 locs1 hl hP1 hD1 hS1)
theorem z_iald (hC : ZC E nL cc Ts own rm ret tys) {a n : Nat} {cA : ClassId} {f : Nat → Int32} {i : Int32} (q0 t0 : Nat) {α : Type} {P : Option α} {rf : α} (ha : ws[q0]? = some (a, .inl (cA, n, .inl f))) (ht : tys[t0]? = some (cA, .int)) (hd : decode cc pc = .ok (.iaload, 1)) (hR : ogd (inb i n) P = some rf) (k : P = some rf → Z E kn lv (pc + 1) (.int (f i.toNatClampNeg) :: st) ws) : Z E kn lv pc (.int i :: .ref a :: st) ws := fun ls H locs hl hP hD hS => va_iald hC.x hC.b hC.k hP q0 t0 ha ht (inb_s (ogd_s hR).1) hd (k (ogd_s hR).2 ls H locs hl hP hD hS)
theorem z_bald (hC : ZC E nL cc Ts own rm ret tys) {a n : Nat} {cA : ClassId} {f : Nat → Int32} {i : Int32} (q0 t0 : Nat) {α : Type} {P : Option α} {rf : α} (ha : ws[q0]? = some (a, .inl (cA, n, .inl f))) (ht : tys[t0]? = some (cA, .byte)) (hd : decode cc pc = .ok (.baload, 1)) (hR : ogd (inb i n) P = some rf) (k : P = some rf → Z E kn lv (pc + 1) (.int (f i.toNatClampNeg) :: st) ws) : Z E kn lv pc (.int i :: .ref a :: st) ws := fun ls H locs hl hP hD hS => va_bald hC.x hC.b hC.k hP q0 t0 ha ht (inb_s (ogd_s hR).1) hd (k (ogd_s hR).2 ls H locs hl hP hD hS)
theorem z_zald (hC : ZC E nL cc Ts own rm ret tys) {a n : Nat} {cA : ClassId} {f : Nat → Int32} {i : Int32} (q0 t0 : Nat) {α : Type} {P : Option α} {rf : α} (ha : ws[q0]? = some (a, .inl (cA, n, .inl f))) (ht : tys[t0]? = some (cA, .boolean)) (hd : decode cc pc = .ok (.baload, 1)) (hR : ogd (inb i n) P = some rf) (k : P = some rf → Z E kn lv (pc + 1) (.int (f i.toNatClampNeg) :: st) ws) : Z E kn lv pc (.int i :: .ref a :: st) ws := fun ls H locs hl hP hD hS => va_zald hC.x hC.b hC.k hP q0 t0 ha ht (inb_s (ogd_s hR).1) hd (k (ogd_s hR).2 ls H locs hl hP hD hS)
theorem z_iast (hC : ZC E nL cc Ts own rm ret tys) {a n : Nat} {cA : ClassId} {f : Nat → Int32} {i x : Int32} (q0 t0 : Nat) {α : Type} {P : Option α} {rf : α} (ha : ws[q0]? = some (a, .inl (cA, n, .inl f))) (ht : tys[t0]? = some (cA, .int)) (hd : decode cc pc = .ok (.iastore, 1)) (hR : ogd (inb i n) P = some rf) (k : P = some rf → Z E kn lv (pc + 1) st (ws.set q0 (a, .inl (cA, n, .inl (upd f i.toNatClampNeg x))))) : Z E kn lv pc (.int x :: .int i :: .ref a :: st) ws := fun ls H locs hl hP hD hS => va_iast hC.x hC.b hC.k hP hD hS q0 t0 ha ht (inb_s (ogd_s hR).1) hd (fun H1 locs1 hP1 hD1 hS1 => k (ogd_s hR).2 ls H1 locs1 hl hP1 hD1 hS1)
theorem z_bast (hC : ZC E nL cc Ts own rm ret tys) {a n : Nat} {cA : ClassId} {f : Nat → Int32} {i x : Int32} (q0 t0 : Nat) {α : Type} {P : Option α} {rf : α} (ha : ws[q0]? = some (a, .inl (cA, n, .inl f))) (ht : tys[t0]? = some (cA, .byte)) (hd : decode cc pc = .ok (.bastore, 1)) (hR : ogd (inb i n) P = some rf) (k : P = some rf → Z E kn lv (pc + 1) st (ws.set q0 (a, .inl (cA, n, .inl (upd f i.toNatClampNeg (vp_nar .byte x)))))) : Z E kn lv pc (.int x :: .int i :: .ref a :: st) ws := fun ls H locs hl hP hD hS => va_bast hC.x hC.b hC.k hP hD hS q0 t0 ha ht (inb_s (ogd_s hR).1) hd (fun H1 locs1 hP1 hD1 hS1 => k (ogd_s hR).2 ls H1 locs1 hl hP1 hD1 hS1)
theorem z_zast (hC : ZC E nL cc Ts own rm ret tys) {a n : Nat} {cA : ClassId} {f : Nat → Int32} {i x : Int32} (q0 t0 : Nat) {α : Type} {P : Option α} {rf : α} (ha : ws[q0]? = some (a, .inl (cA, n, .inl f))) (ht : tys[t0]? = some (cA, .boolean)) (hd : decode cc pc = .ok (.bastore, 1)) (hR : ogd (inb i n) P = some rf) (k : P = some rf → Z E kn lv (pc + 1) st (ws.set q0 (a, .inl (cA, n, .inl (upd f i.toNatClampNeg (vp_nar .boolean x)))))) : Z E kn lv pc (.int x :: .int i :: .ref a :: st) ws := fun ls H locs hl hP hD hS => va_zast hC.x hC.b hC.k hP hD hS q0 t0 ha ht (inb_s (ogd_s hR).1) hd (fun H1 locs1 hP1 hD1 hS1 => k (ogd_s hR).2 ls H1 locs1 hl hP1 hD1 hS1)
end ZR
theorem z_icm1 {E : ZE} {kn : Nat × Nat} {lv : zLv} {pc : Nat} {st : List Value} {ws : va_W} {nL : Nat} {cc : ByteArray} {Ts : List Cond} {own : String} {rm : Room} {ret : Option FieldType} {tys : zTy} (hC : ZC E nL cc Ts own rm ret tys) (hd : decode cc pc = .ok (.iconst (-1), 1)) (k : Z E kn lv (pc + 1) (.int (-1) :: st) ws) : Z E kn lv pc st ws := z_iconst (v := (-1)) hC hd (by decide) k
theorem z_ic0 {E : ZE} {kn : Nat × Nat} {lv : zLv} {pc : Nat} {st : List Value} {ws : va_W} {nL : Nat} {cc : ByteArray} {Ts : List Cond} {own : String} {rm : Room} {ret : Option FieldType} {tys : zTy} (hC : ZC E nL cc Ts own rm ret tys) (hd : decode cc pc = .ok (.iconst 0, 1)) (k : Z E kn lv (pc + 1) (.int 0 :: st) ws) : Z E kn lv pc st ws := z_iconst (v := 0) hC hd (by decide) k
theorem z_ic1 {E : ZE} {kn : Nat × Nat} {lv : zLv} {pc : Nat} {st : List Value} {ws : va_W} {nL : Nat} {cc : ByteArray} {Ts : List Cond} {own : String} {rm : Room} {ret : Option FieldType} {tys : zTy} (hC : ZC E nL cc Ts own rm ret tys) (hd : decode cc pc = .ok (.iconst 1, 1)) (k : Z E kn lv (pc + 1) (.int 1 :: st) ws) : Z E kn lv pc st ws := z_iconst (v := 1) hC hd (by decide) k
theorem z_ic2 {E : ZE} {kn : Nat × Nat} {lv : zLv} {pc : Nat} {st : List Value} {ws : va_W} {nL : Nat} {cc : ByteArray} {Ts : List Cond} {own : String} {rm : Room} {ret : Option FieldType} {tys : zTy} (hC : ZC E nL cc Ts own rm ret tys) (hd : decode cc pc = .ok (.iconst 2, 1)) (k : Z E kn lv (pc + 1) (.int 2 :: st) ws) : Z E kn lv pc st ws := z_iconst (v := 2) hC hd (by decide) k
theorem z_ic3 {E : ZE} {kn : Nat × Nat} {lv : zLv} {pc : Nat} {st : List Value} {ws : va_W} {nL : Nat} {cc : ByteArray} {Ts : List Cond} {own : String} {rm : Room} {ret : Option FieldType} {tys : zTy} (hC : ZC E nL cc Ts own rm ret tys) (hd : decode cc pc = .ok (.iconst 3, 1)) (k : Z E kn lv (pc + 1) (.int 3 :: st) ws) : Z E kn lv pc st ws := z_iconst (v := 3) hC hd (by decide) k
theorem z_ic4 {E : ZE} {kn : Nat × Nat} {lv : zLv} {pc : Nat} {st : List Value} {ws : va_W} {nL : Nat} {cc : ByteArray} {Ts : List Cond} {own : String} {rm : Room} {ret : Option FieldType} {tys : zTy} (hC : ZC E nL cc Ts own rm ret tys) (hd : decode cc pc = .ok (.iconst 4, 1)) (k : Z E kn lv (pc + 1) (.int 4 :: st) ws) : Z E kn lv pc st ws := z_iconst (v := 4) hC hd (by decide) k
theorem z_ic5 {E : ZE} {kn : Nat × Nat} {lv : zLv} {pc : Nat} {st : List Value} {ws : va_W} {nL : Nat} {cc : ByteArray} {Ts : List Cond} {own : String} {rm : Room} {ret : Option FieldType} {tys : zTy} (hC : ZC E nL cc Ts own rm ret tys) (hd : decode cc pc = .ok (.iconst 5, 1)) (k : Z E kn lv (pc + 1) (.int 5 :: st) ws) : Z E kn lv pc st ws := z_iconst (v := 5) hC hd (by decide) k
theorem zz_ofInt_1 : Int32.ofInt 1 = 1 := by decide
theorem z_iinc1 {E : ZE} {kn : Nat × Nat} {lv : zLv} {pc : Nat} {st : List Value} {ws : va_W} {nL : Nat} {cc : ByteArray} {Ts : List Cond} {own : String} {rm : Room} {ret : Option FieldType} {tys : zTy} (hC : ZC E nL cc Ts own rm ret tys) {j : Nat} {x : Int32} (lv' : zLv) (hd : decode cc pc = .ok (.iinc j 1, 3)) (q : Nat) (hq : lv[q]? = some (j, .int x)) (hn : j < nL) (hl : (j, Value.int (x + 1)) :: lv.filter (fun q => !(q.1 == j) && !(q.1 + 1 == j && q.2.category == 2)) = lv') (k : Z E kn lv' (pc + 3) st ws) : Z E kn lv pc st ws := z_iinc hC lv' hd q hq (by rw [zz_ofInt_1]) hn hl k
theorem zz_ofInt_m1 : Int32.ofInt (-1) = (-1) := by decide
theorem z_iincm1 {E : ZE} {kn : Nat × Nat} {lv : zLv} {pc : Nat} {st : List Value} {ws : va_W} {nL : Nat} {cc : ByteArray} {Ts : List Cond} {own : String} {rm : Room} {ret : Option FieldType} {tys : zTy} (hC : ZC E nL cc Ts own rm ret tys) {j : Nat} {x : Int32} (lv' : zLv) (hd : decode cc pc = .ok (.iinc j (-1), 3)) (q : Nat) (hq : lv[q]? = some (j, .int x)) (hn : j < nL) (hl : (j, Value.int (x + (-1))) :: lv.filter (fun q => !(q.1 == j) && !(q.1 + 1 == j && q.2.category == 2)) = lv') (k : Z E kn lv' (pc + 3) st ws) : Z E kn lv pc st ws := z_iinc hC lv' hd q hq (by rw [zz_ofInt_m1]) hn hl k
theorem zz_ofInt_2 : Int32.ofInt 2 = 2 := by decide
theorem z_iinc2 {E : ZE} {kn : Nat × Nat} {lv : zLv} {pc : Nat} {st : List Value} {ws : va_W} {nL : Nat} {cc : ByteArray} {Ts : List Cond} {own : String} {rm : Room} {ret : Option FieldType} {tys : zTy} (hC : ZC E nL cc Ts own rm ret tys) {j : Nat} {x : Int32} (lv' : zLv) (hd : decode cc pc = .ok (.iinc j 2, 3)) (q : Nat) (hq : lv[q]? = some (j, .int x)) (hn : j < nL) (hl : (j, Value.int (x + 2)) :: lv.filter (fun q => !(q.1 == j) && !(q.1 + 1 == j && q.2.category == 2)) = lv') (k : Z E kn lv' (pc + 3) st ws) : Z E kn lv pc st ws := z_iinc hC lv' hd q hq (by rw [zz_ofInt_2]) hn hl k
theorem zz_ofInt_6 : Int32.ofInt 6 = 6 := by decide
theorem z_iinc6 {E : ZE} {kn : Nat × Nat} {lv : zLv} {pc : Nat} {st : List Value} {ws : va_W} {nL : Nat} {cc : ByteArray} {Ts : List Cond} {own : String} {rm : Room} {ret : Option FieldType} {tys : zTy} (hC : ZC E nL cc Ts own rm ret tys) {j : Nat} {x : Int32} (lv' : zLv) (hd : decode cc pc = .ok (.iinc j 6, 3)) (q : Nat) (hq : lv[q]? = some (j, .int x)) (hn : j < nL) (hl : (j, Value.int (x + 6)) :: lv.filter (fun q => !(q.1 == j) && !(q.1 + 1 == j && q.2.category == 2)) = lv') (k : Z E kn lv' (pc + 3) st ws) : Z E kn lv pc st ws := z_iinc hC lv' hd q hq (by rw [zz_ofInt_6]) hn hl k
/-! contracts over listed worlds, entry, calls, ends -/
def zN1 : Cond := .methodLinkNest "FistTrains$Hall" 33 yX2_init "FistTrains"
def zNs : List (String × Nat × MethodName) := [(RX3, 33, yX2_init), (RX7, 30, yX2_init), (RX4, 53, yX8_isHand), (RX2, 9, yX8_nextOf), (RX1, 35, yX8_isBoyish)]
def zStr : List (String × Nat × String × Nat) := [(RX4, 40, "player", 0), (RX4, 61, "boy", 1), (RX4, 63, "steady", 2), (RX4, 65, "teacher", 3), (RX4, 67, "mirror", 4), (RX4, 69, "spy", 5)]
def zlen : List Nat := [6, 3, 6, 7, 6, 3]
def zbyt : List (List Int32) := [[112, 108, 97, 121, 101, 114], [98, 111, 121], [115, 116, 101, 97, 100, 121], [116, 101, 97, 99, 104, 101, 114], [109, 105, 114, 114, 111, 114], [115, 112, 121]]
/-- what every method finds that no method writes: links to nest mates, statics of the JDK, the String constants at sK (their bytes at sV) -/
def ZN (sK sV : Nat → Nat) (A : Nat → Prop) (U : State) : Prop :=
  (∀ q ∈ zNs, va_Nw (.methodLinkNest q.1 q.2.1 q.2.2 "FistTrains") U) ∧ va_Z "java/lang/String" "COMPACT_STRINGS" "Z" (.int 1) A U U.heap ∧ va_Zq "jdk/internal/util/Preconditions" "SIOOBE_FORMATTER" "Ljava/util/function/BiFunction;" A U U.heap ∧ vk_S 6 zlen zbyt sK sV A U U.heap ∧ ∀ q ∈ zStr, vk_R q.1 q.2.1 q.2.2.1 (sK q.2.2.2) U
theorem ZN.warm {sK sV : Nat → Nat} {A A' : Nat → Prop} {s U : State} {H : Heap} {locs : List Loc} (hW : s.WarmedH U.vm) (hU : U.heap = H) (hS : va_S A s.heap H locs) (hF : ∀ q, A' q → A q) (h : ZN sK sV A s) : ZN sK sV A' U := by
  obtain ⟨h1, h2, h3, h4, h5⟩ := h
  subst hU
  exact ⟨fun q hq => va_Nw.warmM hW (h1 q hq), va_Z.moved hW.alike ((h2.kept hS.2.1).narrow hF), va_Zq.moved hW.alike ((h3.kept hS.2.1).narrow hF), vk_S.moved hW.alike ((h4.kept hS.2.1).narrow hF), fun q hq => (h5 q hq).warm hW⟩
theorem ZN.same {sK sV : Nat → Nat} {A : Nat → Prop} {U : State} {g : JFrame} {mk : MethodId} {a : Array Value} (h : ZN sK sV A U) : ZN sK sV A (U.calling g mk a) := by
  obtain ⟨h1, h2, h3, h4, h5⟩ := h
  exact ⟨fun q hq => va_Nw.same rfl (u := U) (U := U.calling g mk a) rfl (h1 q hq), va_Z.moved (u := U) (U := U.calling g mk a) (Vm.Alike.refl U.vm) h2, va_Zq.moved (u := U) (U := U.calling g mk a) (Vm.Alike.refl U.vm) h3, vk_S.moved (u := U) (U := U.calling g mk a) (Vm.Alike.refl U.vm) h4, fun q hq => vk_R.same (u := U) (U := U.calling g mk a) rfl (h5 q hq)⟩
/-- what a contract asks of the start -/
def zB (sK sV : Nat → Nat) (D : va_G) (tys : zTy) (wc : va_W) (sz : Nat) : State → Prop := fun U => U.heap.size = sz ∧ va_P D vwCl wc U.heap ∧ va_K D vwCl tys U ∧ va_D (fun _ => True) wc ∧ ZN sK sV (va_A wc sz) U
/-- what it says of the end -/
def zU (D : va_G) (tys : zTy) (wc : va_W) (sz : Nat) : va_W → State → Prop := fun u t => va_P D vwCl u t.heap ∧ va_K D vwCl tys t ∧ va_D (va_A wc sz) u
def ZMi (sK sV : Nat → Nat) (l : Launch) (y : MethodName) (wsy : List Cond) (rm : Room) (D : va_G) (tys : zTy) (As : List Value) (wc : va_W) (r0 : Int32) (w0 : va_W) : Prop :=
  ∀ sz : Nat, Met l y wsy rm (va_Pc As (zB sK sV D tys wc sz)) (va_Qi (fun (r : Int32) (u : va_W) => r = r0 ∧ u = w0) (zU D tys wc sz) (va_A wc sz)) 0 0 (va_A wc sz)
def ZMl (sK sV : Nat → Nat) (l : Launch) (y : MethodName) (wsy : List Cond) (rm : Room) (D : va_G) (tys : zTy) (As : List Value) (wc : va_W) (r0 : Int64) (w0 : va_W) : Prop :=
  ∀ sz : Nat, Met l y wsy rm (va_Pc As (zB sK sV D tys wc sz)) (va_Ql (fun (r : Int64) (u : va_W) => r = r0 ∧ u = w0) (zU D tys wc sz) (va_A wc sz)) 0 0 (va_A wc sz)
def ZMv (sK sV : Nat → Nat) (l : Launch) (y : MethodName) (wsy : List Cond) (rm : Room) (D : va_G) (tys : zTy) (As : List Value) (wc : va_W) (w0 : va_W) : Prop :=
  ∀ sz : Nat, Met l y wsy rm (va_Pc As (zB sK sV D tys wc sz)) (va_Qv (fun (u : va_W) => u = w0) (zU D tys wc sz) (va_A wc sz)) 0 0 (va_A wc sz)
/-- the end that a run of a method must come to, its own world being wc -/
def ZQi (E : ZE) (tys : zTy) (r0 : Int32) (w0 : va_W) : Prop := ∃ wc sz, zA E = va_A wc sz ∧ zQ E = MQ (zb E) (va_Qi (fun (r : Int32) (u : va_W) => r = r0 ∧ u = w0) (zU (zD E) tys wc sz) (va_A wc sz)) (za E) (zs E) 0 0 (va_A wc sz)
def ZQl (E : ZE) (tys : zTy) (r0 : Int64) (w0 : va_W) : Prop := ∃ wc sz, zA E = va_A wc sz ∧ zQ E = MQ (zb E) (va_Ql (fun (r : Int64) (u : va_W) => r = r0 ∧ u = w0) (zU (zD E) tys wc sz) (va_A wc sz)) (za E) (zs E) 0 0 (va_A wc sz)
def ZQv (E : ZE) (tys : zTy) (w0 : va_W) : Prop := ∃ wc sz, zA E = va_A wc sz ∧ zQ E = MQ (zb E) (va_Qv (fun (u : va_W) => u = w0) (zU (zD E) tys wc sz) (va_A wc sz)) (za E) (zs E) 0 0 (va_A wc sz)
section ZENT
variable {sK sV : Nat → Nat} {l : Launch} {y : MethodName} {wsy ws' : List Cond} {rm : Room} {D : va_G} {tys : zTy} {As : List Value} {wc : va_W} {cc : ByteArray} {maxL : Nat} {ret : Option FieldType}
theorem zi_of {r0 : Int32} {w0 : va_W} (hy : plainName y.cls = true) (hw : wsy = Cond.code y cc maxL ret :: ws') (hn : (lg_sl As).length ≤ maxL)
    (body : ∀ E : ZE, zl E = l → zD E = D → ZC E maxL cc wsy y.cls rm ret tys → ZN sK sV (zA E) (zs E) → ZQi E tys r0 w0 → Z E (0, 0) (lv_args 0 As) 0 [] wc) : ZMi sK sV l y wsy rm D tys As wc r0 w0 := by
  intro sz
  refine Met.ofW (cc := cc) (maxL := maxL) (ret := ret) hy hw ?_
  intro p e s m args below meth c s₁ B hml hv
  obtain ⟨rfl, hsz, hP, hK, hD0, hN⟩ := hv
  subst hsz
  have hD := hD0.self (sz := s.heap.size)
  rw [lg_entry_eq]
  exact body ((p, l, e, (headSpec wsy rm).room, s, m, As.toArray, below, meth, c), maxL, D, va_A wc s.heap.size, MQ below (va_Qi (fun (r : Int32) (u : va_W) => r = r0 ∧ u = w0) (zU D tys wc s.heap.size) (va_A wc s.heap.size)) As.toArray s 0 0 (va_A wc s.heap.size)) rfl rfl
    ⟨B.exec, B.bytes, hml, rfl, findClass_of_methodNamed B.named, atoms_spec (ws := wsy) B.pre, hK, fun q h => Or.inr h, rfl, B.returns, B.notSynchronized⟩ hN ⟨wc, s.heap.size, rfl, rfl⟩ _ _ _ (lv_entry As hn) hP hD va_S.rf
theorem zl_of {r0 : Int64} {w0 : va_W} (hy : plainName y.cls = true) (hw : wsy = Cond.code y cc maxL ret :: ws') (hn : (lg_sl As).length ≤ maxL)
    (body : ∀ E : ZE, zl E = l → zD E = D → ZC E maxL cc wsy y.cls rm ret tys → ZN sK sV (zA E) (zs E) → ZQl E tys r0 w0 → Z E (0, 0) (lv_args 0 As) 0 [] wc) : ZMl sK sV l y wsy rm D tys As wc r0 w0 := by
  intro sz
  refine Met.ofW (cc := cc) (maxL := maxL) (ret := ret) hy hw ?_
  intro p e s m args below meth c s₁ B hml hv
  obtain ⟨rfl, hsz, hP, hK, hD0, hN⟩ := hv
  subst hsz
  have hD := hD0.self (sz := s.heap.size)
  rw [lg_entry_eq]
  exact body ((p, l, e, (headSpec wsy rm).room, s, m, As.toArray, below, meth, c), maxL, D, va_A wc s.heap.size, MQ below (va_Ql (fun (r : Int64) (u : va_W) => r = r0 ∧ u = w0) (zU D tys wc s.heap.size) (va_A wc s.heap.size)) As.toArray s 0 0 (va_A wc s.heap.size)) rfl rfl
    ⟨B.exec, B.bytes, hml, rfl, findClass_of_methodNamed B.named, atoms_spec (ws := wsy) B.pre, hK, fun q h => Or.inr h, rfl, B.returns, B.notSynchronized⟩ hN ⟨wc, s.heap.size, rfl, rfl⟩ _ _ _ (lv_entry As hn) hP hD va_S.rf
theorem zv_of {w0 : va_W} (hy : plainName y.cls = true) (hw : wsy = Cond.code y cc maxL ret :: ws') (hn : (lg_sl As).length ≤ maxL)
    (body : ∀ E : ZE, zl E = l → zD E = D → ZC E maxL cc wsy y.cls rm ret tys → ZN sK sV (zA E) (zs E) → ZQv E tys w0 → Z E (0, 0) (lv_args 0 As) 0 [] wc) : ZMv sK sV l y wsy rm D tys As wc w0 := by
  intro sz
  refine Met.ofW (cc := cc) (maxL := maxL) (ret := ret) hy hw ?_
  intro p e s m args below meth c s₁ B hml hv
  obtain ⟨rfl, hsz, hP, hK, hD0, hN⟩ := hv
  subst hsz
  have hD := hD0.self (sz := s.heap.size)
  rw [lg_entry_eq]
  exact body ((p, l, e, (headSpec wsy rm).room, s, m, As.toArray, below, meth, c), maxL, D, va_A wc s.heap.size, MQ below (va_Qv (fun (u : va_W) => u = w0) (zU D tys wc s.heap.size) (va_A wc s.heap.size)) As.toArray s 0 0 (va_A wc s.heap.size)) rfl rfl
    ⟨B.exec, B.bytes, hml, rfl, findClass_of_methodNamed B.named, atoms_spec (ws := wsy) B.pre, hK, fun q h => Or.inr h, rfl, B.returns, B.notSynchronized⟩ hN ⟨wc, s.heap.size, rfl, rfl⟩ _ _ _ (lv_entry As hn) hP hD va_S.rf
end ZENT
section ZEND
variable {E : ZE} {lv : zLv} {pc : Nat} {ws : va_W} {nL : Nat} {cc : ByteArray} {Ts : List Cond} {own : String} {rm : Room} {tys : zTy}
theorem z_iret {v : Int32} {ty : FieldType} {r0 : Int32} {w0 : va_W} (hC : ZC E nL cc Ts own rm (some ty) tys) (hQ : ZQi E tys r0 w0) (hn : narrow ty (.int v) = .int v) (hr : v = r0) (hw : ws = w0) (hd : decode cc pc = .ok (.ireturn, 1)) : Z E (0, 0) lv pc [.int v] ws := by
  intro ls H locs hl hP hD hS
  obtain ⟨wc, sz, hA, hQe⟩ := hQ
  rw [hQe]
  rw [hA] at hD hS
  exact W.zret hC.x hC.b hC.rt hn (fun t ht hW => ⟨⟨v, ws, rfl, ⟨hr, hw⟩, by rw [ht]; exact hP, va_K.moved hW.alike hC.k, hD⟩, hS.F ht⟩) hS.2.2 hd hC.lk
theorem z_lret {v : Int64} {r0 : Int64} {w0 : va_W} (hC : ZC E nL cc Ts own rm (some .long) tys) (hQ : ZQl E tys r0 w0) (hr : v = r0) (hw : ws = w0) (hd : decode cc pc = .ok (.lreturn, 1)) : Z E (0, 0) lv pc [.long v] ws := by
  intro ls H locs hl hP hD hS
  obtain ⟨wc, sz, hA, hQe⟩ := hQ
  rw [hQe]
  rw [hA] at hD hS
  exact W.lret hC.x hC.b hC.rt (fun t ht hW => ⟨⟨v, ws, rfl, ⟨hr, hw⟩, by rw [ht]; exact hP, va_K.moved hW.alike hC.k, hD⟩, hS.F ht⟩) hS.2.2 hd hC.lk
theorem z_vret {w0 : va_W} (hC : ZC E nL cc Ts own rm none tys) (hQ : ZQv E tys w0) (hw : ws = w0) (hd : decode cc pc = .ok (.return_, 1)) : Z E (0, 0) lv pc [] ws := by
  intro ls H locs hl hP hD hS
  obtain ⟨wc, sz, hA, hQe⟩ := hQ
  rw [hQe]
  rw [hA] at hD hS
  exact W.vret hC.x hC.b hC.rt (fun t ht hW => ⟨⟨ws, rfl, hw, by rw [ht]; exact hP, va_K.moved hW.alike hC.k, hD⟩, hS.F ht⟩) hS.2.2 hd hC.lk
end ZEND
/-! a callee's cells put back into the caller's list at their places -/
theorem zput_at (is : List Nat) (qs : va_W) : ∀ (ws : va_W) (k : Nat) (q : Nat × va_E), (zput ws is qs)[k]? = some q → (∃ j : Nat, is[j]? = some k ∧ qs[j]? = some q) ∨ ((k ∉ is ∨ ∃ j : Nat, is[j]? = some k ∧ qs.length ≤ j) ∧ ws[k]? = some q) := by
  induction is generalizing qs with
  | nil => intro ws k q h; rw [zput] at h; exact Or.inr ⟨Or.inl List.not_mem_nil, h⟩
  | cons i is ih =>
    intro ws k q h
    cases qs with
    | nil =>
      refine Or.inr ⟨?_, h⟩
      by_cases hk : k ∈ i :: is
      · obtain ⟨j, hj⟩ := List.getElem?_of_mem hk
        exact Or.inr ⟨j, hj, Nat.zero_le _⟩
      · exact Or.inl hk
    | cons z zs =>
      rcases ih zs (ws.set i z) k q h with ⟨j, h1, h2⟩ | ⟨h1, h2⟩
      · exact Or.inl ⟨j + 1, h1, h2⟩
      · by_cases hik : i = k
        · subst hik
          have hl : i < ws.length := by
            have := (List.getElem?_eq_some_iff.mp h2).1
            simpa using this
          rw [List.getElem?_set_self hl] at h2
          exact Or.inl ⟨0, rfl, h2⟩
        · rw [List.getElem?_set_ne hik] at h2
          refine Or.inr ⟨?_, h2⟩
          rcases h1 with h1 | ⟨j, h3, h4⟩
          · exact Or.inl (fun hm => by rcases List.mem_cons.mp hm with e | e; exact hik e.symm; exact h1 e)
          · exact Or.inr ⟨j + 1, h3, by simpa using h4⟩
theorem zput_P {D : va_G} {cl : List vw_C} {A0 : Nat → Prop} {ws wc w1 : va_W} {H H1 : Heap} (hP : va_P D cl ws H) (hD : va_D A0 ws) (is : List Nat) (hC : is.map (fun i => ws[i]?) = wc.map some) (hlen : is.length ≤ w1.length) (hk : ∀ q : Nat, q < H.size → ¬ va_A wc H.size q → H1[q]? = H[q]?) (hP1 : va_P D cl w1 H1) : va_P D cl (zput ws is w1) H1 := by
  intro k q hq
  rcases zput_at is w1 ws k q hq with ⟨j, h1, h2⟩ | ⟨h1, h2⟩
  · exact hP1 j q h2
  · have hnot : k ∉ is := by
      rcases h1 with h1 | ⟨j, h3, h4⟩
      · exact h1
      · have := (List.getElem?_eq_some_iff.mp h3).1
        omega
    refine (hP k q h2).kept (hk q.1 (hP k q h2).lt ?_)
    rintro (⟨k2, e, h⟩ | h)
    · have h5 : (is.map (fun i => ws[i]?))[k2]? = some (some (q.1, e)) := by rw [hC, List.getElem?_map, h]; rfl
      rw [List.getElem?_map] at h5
      cases hi : is[k2]? with
      | none => rw [hi] at h5; cases h5
      | some i =>
        rw [hi] at h5
        have h6 : ws[i]? = some (q.1, e) := Option.some.inj h5
        have := hD.1 k i q (q.1, e) h2 h6 rfl
        subst this
        exact hnot (List.mem_of_getElem? hi)
    · have := (hP k q h2).lt
      omega
theorem zput_D {D : va_G} {cl : List vw_C} {A0 : Nat → Prop} {ws wc w1 : va_W} {H : Heap} (hP : va_P D cl ws H) (hD : va_D A0 ws) (is : List Nat) (hC : is.map (fun i => ws[i]?) = wc.map some) (hlen : is.length = w1.length) (hF : ∀ q, va_A wc H.size q → A0 q) (hD1 : va_D (va_A wc H.size) w1) : va_D A0 (zput ws is w1) := by
  have old : ∀ (k : Nat) (q : Nat × va_E), (k ∉ is ∨ ∃ j : Nat, is[j]? = some k ∧ w1.length ≤ j) → ws[k]? = some q → ¬ va_A wc H.size q.1 := by
    intro k q h1 h2
    have hnot : k ∉ is := by
      rcases h1 with h1 | ⟨j, h3, h4⟩
      · exact h1
      · have := (List.getElem?_eq_some_iff.mp h3).1
        omega
    rintro (⟨k2, e, h⟩ | h)
    · have h5 : (is.map (fun i => ws[i]?))[k2]? = some (some (q.1, e)) := by rw [hC, List.getElem?_map, h]; rfl
      rw [List.getElem?_map] at h5
      cases hi : is[k2]? with
      | none => rw [hi] at h5; cases h5
      | some i =>
        rw [hi] at h5
        have h6 : ws[i]? = some (q.1, e) := Option.some.inj h5
        have := hD.1 k i q (q.1, e) h2 h6 rfl
        subst this
        exact hnot (List.mem_of_getElem? hi)
    · have := (hP k q h2).lt
      omega
  refine ⟨fun i j p q hp hq hpq => ?_, fun k q hq => ?_⟩
  · rcases zput_at is w1 ws i p hp with ⟨i1, a1, a2⟩ | ⟨a1, a2⟩ <;> rcases zput_at is w1 ws j q hq with ⟨j1, b1, b2⟩ | ⟨b1, b2⟩
    · have := hD1.1 i1 j1 p q a2 b2 hpq
      subst this
      exact Option.some.inj (a1.symm.trans b1)
    · exact absurd (by rw [← hpq]; exact hD1.2 i1 p a2) (old j q b1 b2)
    · exact absurd (by rw [hpq]; exact hD1.2 j1 q b2) (old i p a1 a2)
    · exact hD.1 i j p q a2 b2 hpq
  · rcases zput_at is w1 ws k q hq with ⟨j, h1, h2⟩ | ⟨h1, h2⟩
    · exact hF _ (hD1.2 j q h2)
    · exact hD.2 k q h2
/-! calls -/
theorem zsub_P {D : va_G} {cl : List vw_C} {ws wc : va_W} {H : Heap} (hP : va_P D cl ws H) {is : List Nat} (hC : is.map (fun i => ws[i]?) = wc.map some) : va_P D cl wc H := by
  intro k q hq
  have h1 : (is.map (fun i => ws[i]?))[k]? = some (some q) := by rw [hC, List.getElem?_map, hq]; rfl
  rw [List.getElem?_map] at h1
  cases hi : is[k]? with
  | none => rw [hi] at h1; cases h1
  | some i => rw [hi] at h1; exact hP i q (Option.some.inj h1)
theorem zput_self (is : List Nat) : ∀ (wc ws : va_W), is.map (fun i => ws[i]?) = wc.map some → zput ws is wc = ws := by
  induction is with
  | nil => intro wc ws _; rw [zput]
  | cons i is ih =>
    intro wc ws h
    cases wc with
    | nil => rfl
    | cons q qs =>
      have h0 : ws[i]? = some q := (List.cons.inj h).1
      have h1 : is.map (fun i => ws[i]?) = qs.map some := (List.cons.inj h).2
      have e : ws.set i q = ws := by
        apply List.ext_getElem?
        intro n
        by_cases hn : i = n
        · subst hn
          have hl := (List.getElem?_eq_some_iff.mp h0).1
          rw [List.getElem?_set_self hl, h0]
        · rw [List.getElem?_set_ne hn]
      show zput (ws.set i q) is qs = ws
      rw [e]
      exact ih qs ws h1
section ZCALL
variable {sK sV : Nat → Nat} {E : ZE} {kn : Nat × Nat} {lv : zLv} {pc : Nat} {st st0 : List Value} {ws wc : va_W} {nL : Nat} {cc : ByteArray} {Ts : List Cond} {own : String} {rm : Room} {ret : Option FieldType} {tys : zTy} {H : Heap} {locs : List Loc} {ls : Array Slot} {a : Array Value}
theorem z_blind {As : List Value} {D : va_G} {sz : Nat} : FrameBlind (va_Pc As (zB sK sV D tys wc sz)) := fun a U g mk q => ⟨q.1, q.2.1, q.2.2.1, va_K.moved (u := U) (U := U.calling g mk a) (Vm.Alike.refl U.vm) q.2.2.2.1, q.2.2.2.2.1, ZN.same q.2.2.2.2.2⟩
theorem z_preB (hC : ZC E nL cc Ts own rm ret tys) (hN : ZN sK sV (zA E) (zs E)) {ws : va_W} {is : List Nat} (hm : is.map (fun i => ws[i]?) = wc.map some) (hnd : va_nd is = true) (hP : va_P (zD E) vwCl ws H) (hD : va_D (zA E) ws) (hS : va_S (zA E) (zs E).heap H locs) {As : List Value} : ∀ U : State, U.heap = H → (zs E).WarmedH U.vm → va_Pc As (zB sK sV (zD E) tys wc H.size) As.toArray U := fun U hU hW =>
  ⟨rfl, by rw [hU], by rw [hU]; exact zsub_P hP hm, va_K.moved hW.alike hC.k, (hD.sub is hnd hm).weaken (fun _ _ _ _ => trivial), hN.warm hW hU hS (va_free hD hS hC.a is hm)⟩

theorem zcore_i {r0 : Int32} {w0 : va_W} (hC : ZC E nL cc Ts own rm ret tys) (hl : lv_has ls (zn E) lv) (hP : va_P (zD E) vwCl ws H) (hD : va_D (zA E) ws) (hS : va_S (zA E) (zs E).heap H locs) (is : List Nat) (hm : is.map (fun i => ws[i]?) = wc.map some) (hs : is.length = w0.length)
    (hrun : va_Run (zp E) (zl E) (ze E) (zR E) (zs E) (zm E) (za E) (zb E) (zme E) (zc E) H locs kn.1 kn.2 0 0 (F0 (zm E) pc ls st0) st (va_Qi (fun (r : Int32) (u : va_W) => r = r0 ∧ u = w0) (zU (zD E) tys wc H.size) (va_A wc H.size) a) (va_A wc H.size))
    (kk : Z E kn lv (pc + 3) (.int r0 :: st) (zput ws is w0)) : W (zp E) (zl E) (ze E) (zR E) (zs E) (zm E) (za E) (zb E) (zme E) (zc E) H locs kn.1 kn.2 (zQ E) (F0 (zm E) pc ls st0) := by
  have hF := va_free hD hS hC.a is hm
  refine va_calli hrun hS (fun q _ h => hF q h) hF (fun r u t H1 locs1 ht hvm hw hB hz hk hS1 => ?_)
  obtain ⟨rfl, rfl⟩ := hw
  obtain ⟨hP1, hK1, hD1⟩ := hB
  rw [ht] at hP1
  exact kk ls H1 locs1 hl (zput_P hP hD is hm (Nat.le_of_eq hs) hk hP1) (zput_D hP hD is hm hs hF hD1) hS1

theorem zcore_l {r0 : Int64} {w0 : va_W} (hC : ZC E nL cc Ts own rm ret tys) (hl : lv_has ls (zn E) lv) (hP : va_P (zD E) vwCl ws H) (hD : va_D (zA E) ws) (hS : va_S (zA E) (zs E).heap H locs) (is : List Nat) (hm : is.map (fun i => ws[i]?) = wc.map some) (hs : is.length = w0.length)
    (hrun : va_Run (zp E) (zl E) (ze E) (zR E) (zs E) (zm E) (za E) (zb E) (zme E) (zc E) H locs kn.1 kn.2 0 0 (F0 (zm E) pc ls st0) st (va_Ql (fun (r : Int64) (u : va_W) => r = r0 ∧ u = w0) (zU (zD E) tys wc H.size) (va_A wc H.size) a) (va_A wc H.size))
    (kk : Z E kn lv (pc + 3) (.long r0 :: st) (zput ws is w0)) : W (zp E) (zl E) (ze E) (zR E) (zs E) (zm E) (za E) (zb E) (zme E) (zc E) H locs kn.1 kn.2 (zQ E) (F0 (zm E) pc ls st0) := by
  have hF := va_free hD hS hC.a is hm
  refine va_calll hrun hS (fun q _ h => hF q h) hF (fun r u t H1 locs1 ht hvm hw hB hz hk hS1 => ?_)
  obtain ⟨rfl, rfl⟩ := hw
  obtain ⟨hP1, hK1, hD1⟩ := hB
  rw [ht] at hP1
  exact kk ls H1 locs1 hl (zput_P hP hD is hm (Nat.le_of_eq hs) hk hP1) (zput_D hP hD is hm hs hF hD1) hS1

theorem zcore_v {w0 : va_W} (hC : ZC E nL cc Ts own rm ret tys) (hl : lv_has ls (zn E) lv) (hP : va_P (zD E) vwCl ws H) (hD : va_D (zA E) ws) (hS : va_S (zA E) (zs E).heap H locs) (is : List Nat) (hm : is.map (fun i => ws[i]?) = wc.map some) (hs : is.length = w0.length)
    (hrun : va_Run (zp E) (zl E) (ze E) (zR E) (zs E) (zm E) (za E) (zb E) (zme E) (zc E) H locs kn.1 kn.2 0 0 (F0 (zm E) pc ls st0) st (va_Qv (fun (u : va_W) => u = w0) (zU (zD E) tys wc H.size) (va_A wc H.size) a) (va_A wc H.size))
    (kk : Z E kn lv (pc + 3) (st) (zput ws is w0)) : W (zp E) (zl E) (ze E) (zR E) (zs E) (zm E) (za E) (zb E) (zme E) (zc E) H locs kn.1 kn.2 (zQ E) (F0 (zm E) pc ls st0) := by
  have hF := va_free hD hS hC.a is hm
  refine va_callv hrun hS (fun q _ h => hF q h) hF (fun u t H1 locs1 ht hvm hw hB hz hk hS1 => ?_)
  subst hw
  obtain ⟨hP1, hK1, hD1⟩ := hB
  rw [ht] at hP1
  exact kk ls H1 locs1 hl (zput_P hP hD is hm (Nat.le_of_eq hs) hk hP1) (zput_D hP hD is hm hs hF hD1) hS1

theorem z_callVi (hC : ZC E nL cc Ts own rm ret tys) (hN : ZN sK sV (zA E) (zs E)) {C : String} {b : Nat} {y : MethodName} {wsy ws' : List Cond} {rmy : Room} {bytes : ByteArray} {maxL index : Nat} {rety : Option FieldType} {α β : Type} {f : Option α} {K : α → Option β} {rf : β} {r1 : α → Int32} {w1 : α → va_W} (As : List Value) (is : List Nat)
    (hM : ∀ R, f = some R → ZMi sK sV (zl E) y wsy rmy (zD E) tys (.ref b :: As) wc (r1 R) (w1 R)) (hw : wsy = Cond.code y bytes maxL rety :: ws') (hrc : rmy.cells = 0 ∧ rmy.slots = 0) (hG : GoodIn Ts (wsV own index C y wsy)) (hd : y.cls = C ∧ y.cls ≠ "java/lang/invoke/MethodHandle" ∧ y.cls ≠ "java/lang/invoke/VarHandle" ∧ (parseMethodDescriptor y.desc).map (fun d => d.parameters.length) = some As.length) (q0 ci : Nat) {vc : vw_C} {fs : List Value} (hc : vwCl[ci]? = some vc) (hvc : vc.1 = C) (he : ws[q0]? = some (b, .inr (ci, fs)))
    (hroom : rmy.frames + 1 ≤ rm.frames ∧ 8 + (maxL + 11) + rmy.locals ≤ rm.locals) (hkn : kn.1 ≤ rm.cells ∧ kn.2 ≤ rm.slots) (hst : st0 = As.reverse ++ .ref b :: st) (hcat : (st.map fun v => v.category).sum ≤ 8) (hm : is.map (fun i => ws[i]?) = wc.map some) (hnd : va_nd is = true) (hs : ∀ R, is.length = (w1 R).length) (hdg : decode cc pc = .ok (.invokevirtual index, 3))
    (hR : f.bind K = some rf) (kk : ∀ R, K R = some rf → Z E kn lv (pc + 3) (.int (r1 R) :: st) (zput ws is (w1 R))) : Z E kn lv pc st0 ws := by
  obtain ⟨R, hf, hR⟩ := Option.bind_eq_some_iff.mp hR
  intro ls H locs hl hP hD hS
  exact zcore_i hC hl hP hD hS is hm (hs R) (va_runV (As := As) (rest := st) ⟨hC.x, hC.b, hC.ml, hC.o, hC.t⟩ (hM R hf H.size) (cwV As.length hC.t hG hw hrc.1 hrc.2 hd (by rw [hC.r]; exact hroom)) ⟨z_blind, by rw [← hvc]; exact va_recv hC.k hP hc he, z_preB hC hN hm hnd hP hD hS⟩ rfl rfl (by rw [← hC.n]; exact hl.1) hst (lv_room hcat) hdg (by rw [hC.r]; exact hkn)) (kk R hR)
theorem z_callVi_p (hC : ZC E nL cc Ts own rm ret tys) (hN : ZN sK sV (zA E) (zs E)) {C : String} {b : Nat} {y : MethodName} {wsy ws' : List Cond} {rmy : Room} {bytes : ByteArray} {maxL index : Nat} {rety : Option FieldType} {α β : Type} {f : Option α} {K : α → Option β} {rf : β} {r1 : α → Int32} (As : List Value) (is : List Nat)
    (hM : ∀ R, f = some R → ZMi sK sV (zl E) y wsy rmy (zD E) tys (.ref b :: As) wc (r1 R) wc) (hw : wsy = Cond.code y bytes maxL rety :: ws') (hrc : rmy.cells = 0 ∧ rmy.slots = 0) (hG : GoodIn Ts (wsV own index C y wsy)) (hd : y.cls = C ∧ y.cls ≠ "java/lang/invoke/MethodHandle" ∧ y.cls ≠ "java/lang/invoke/VarHandle" ∧ (parseMethodDescriptor y.desc).map (fun d => d.parameters.length) = some As.length) (q0 ci : Nat) {vc : vw_C} {fs : List Value} (hc : vwCl[ci]? = some vc) (hvc : vc.1 = C) (he : ws[q0]? = some (b, .inr (ci, fs)))
    (hroom : rmy.frames + 1 ≤ rm.frames ∧ 8 + (maxL + 11) + rmy.locals ≤ rm.locals) (hkn : kn.1 ≤ rm.cells ∧ kn.2 ≤ rm.slots) (hst : st0 = As.reverse ++ .ref b :: st) (hcat : (st.map fun v => v.category).sum ≤ 8) (hm : is.map (fun i => ws[i]?) = wc.map some) (hnd : va_nd is = true) (hdg : decode cc pc = .ok (.invokevirtual index, 3))
    (hR : f.bind K = some rf) (kk : ∀ R, K R = some rf → Z E kn lv (pc + 3) (.int (r1 R) :: st) ws) : Z E kn lv pc st0 ws := by
  obtain ⟨R, hf, hR⟩ := Option.bind_eq_some_iff.mp hR
  intro ls H locs hl hP hD hS
  have hs : is.length = wc.length := by have := congrArg List.length hm; simpa using this
  exact zcore_i hC hl hP hD hS is hm hs (va_runV (As := As) (rest := st) ⟨hC.x, hC.b, hC.ml, hC.o, hC.t⟩ (hM R hf H.size) (cwV As.length hC.t hG hw hrc.1 hrc.2 hd (by rw [hC.r]; exact hroom)) ⟨z_blind, by rw [← hvc]; exact va_recv hC.k hP hc he, z_preB hC hN hm hnd hP hD hS⟩ rfl rfl (by rw [← hC.n]; exact hl.1) hst (lv_room hcat) hdg (by rw [hC.r]; exact hkn)) (by rw [zput_self is wc ws hm]; exact kk R hR)

theorem z_callVv (hC : ZC E nL cc Ts own rm ret tys) (hN : ZN sK sV (zA E) (zs E)) {C : String} {b : Nat} {y : MethodName} {wsy ws' : List Cond} {rmy : Room} {bytes : ByteArray} {maxL index : Nat} {rety : Option FieldType} {α β : Type} {f : Option α} {K : α → Option β} {rf : β} {w1 : α → va_W} (As : List Value) (is : List Nat)
    (hM : ∀ R, f = some R → ZMv sK sV (zl E) y wsy rmy (zD E) tys (.ref b :: As) wc (w1 R)) (hw : wsy = Cond.code y bytes maxL rety :: ws') (hrc : rmy.cells = 0 ∧ rmy.slots = 0) (hG : GoodIn Ts (wsV own index C y wsy)) (hd : y.cls = C ∧ y.cls ≠ "java/lang/invoke/MethodHandle" ∧ y.cls ≠ "java/lang/invoke/VarHandle" ∧ (parseMethodDescriptor y.desc).map (fun d => d.parameters.length) = some As.length) (q0 ci : Nat) {vc : vw_C} {fs : List Value} (hc : vwCl[ci]? = some vc) (hvc : vc.1 = C) (he : ws[q0]? = some (b, .inr (ci, fs)))
    (hroom : rmy.frames + 1 ≤ rm.frames ∧ 8 + (maxL + 11) + rmy.locals ≤ rm.locals) (hkn : kn.1 ≤ rm.cells ∧ kn.2 ≤ rm.slots) (hst : st0 = As.reverse ++ .ref b :: st) (hcat : (st.map fun v => v.category).sum ≤ 8) (hm : is.map (fun i => ws[i]?) = wc.map some) (hnd : va_nd is = true) (hs : ∀ R, is.length = (w1 R).length) (hdg : decode cc pc = .ok (.invokevirtual index, 3))
    (hR : f.bind K = some rf) (kk : ∀ R, K R = some rf → Z E kn lv (pc + 3) (st) (zput ws is (w1 R))) : Z E kn lv pc st0 ws := by
  obtain ⟨R, hf, hR⟩ := Option.bind_eq_some_iff.mp hR
  intro ls H locs hl hP hD hS
  exact zcore_v hC hl hP hD hS is hm (hs R) (va_runV (As := As) (rest := st) ⟨hC.x, hC.b, hC.ml, hC.o, hC.t⟩ (hM R hf H.size) (cwV As.length hC.t hG hw hrc.1 hrc.2 hd (by rw [hC.r]; exact hroom)) ⟨z_blind, by rw [← hvc]; exact va_recv hC.k hP hc he, z_preB hC hN hm hnd hP hD hS⟩ rfl rfl (by rw [← hC.n]; exact hl.1) hst (lv_room hcat) hdg (by rw [hC.r]; exact hkn)) (kk R hR)
theorem z_callVv_p (hC : ZC E nL cc Ts own rm ret tys) (hN : ZN sK sV (zA E) (zs E)) {C : String} {b : Nat} {y : MethodName} {wsy ws' : List Cond} {rmy : Room} {bytes : ByteArray} {maxL index : Nat} {rety : Option FieldType} {α β : Type} {f : Option α} {K : α → Option β} {rf : β} (As : List Value) (is : List Nat)
    (hM : ∀ R, f = some R → ZMv sK sV (zl E) y wsy rmy (zD E) tys (.ref b :: As) wc wc) (hw : wsy = Cond.code y bytes maxL rety :: ws') (hrc : rmy.cells = 0 ∧ rmy.slots = 0) (hG : GoodIn Ts (wsV own index C y wsy)) (hd : y.cls = C ∧ y.cls ≠ "java/lang/invoke/MethodHandle" ∧ y.cls ≠ "java/lang/invoke/VarHandle" ∧ (parseMethodDescriptor y.desc).map (fun d => d.parameters.length) = some As.length) (q0 ci : Nat) {vc : vw_C} {fs : List Value} (hc : vwCl[ci]? = some vc) (hvc : vc.1 = C) (he : ws[q0]? = some (b, .inr (ci, fs)))
    (hroom : rmy.frames + 1 ≤ rm.frames ∧ 8 + (maxL + 11) + rmy.locals ≤ rm.locals) (hkn : kn.1 ≤ rm.cells ∧ kn.2 ≤ rm.slots) (hst : st0 = As.reverse ++ .ref b :: st) (hcat : (st.map fun v => v.category).sum ≤ 8) (hm : is.map (fun i => ws[i]?) = wc.map some) (hnd : va_nd is = true) (hdg : decode cc pc = .ok (.invokevirtual index, 3))
    (hR : f.bind K = some rf) (kk : ∀ R, K R = some rf → Z E kn lv (pc + 3) (st) ws) : Z E kn lv pc st0 ws := by
  obtain ⟨R, hf, hR⟩ := Option.bind_eq_some_iff.mp hR
  intro ls H locs hl hP hD hS
  have hs : is.length = wc.length := by have := congrArg List.length hm; simpa using this
  exact zcore_v hC hl hP hD hS is hm hs (va_runV (As := As) (rest := st) ⟨hC.x, hC.b, hC.ml, hC.o, hC.t⟩ (hM R hf H.size) (cwV As.length hC.t hG hw hrc.1 hrc.2 hd (by rw [hC.r]; exact hroom)) ⟨z_blind, by rw [← hvc]; exact va_recv hC.k hP hc he, z_preB hC hN hm hnd hP hD hS⟩ rfl rfl (by rw [← hC.n]; exact hl.1) hst (lv_room hcat) hdg (by rw [hC.r]; exact hkn)) (by rw [zput_self is wc ws hm]; exact kk R hR)

theorem z_callSi (hC : ZC E nL cc Ts own rm ret tys) (hN : ZN sK sV (zA E) (zs E))  {y : MethodName} {wsy ws' : List Cond} {rmy : Room} {bytes : ByteArray} {maxL index : Nat} {rety : Option FieldType} {α β : Type} {f : Option α} {K : α → Option β} {rf : β} {r1 : α → Int32} {w1 : α → va_W} (As : List Value) (is : List Nat)
    (hM : ∀ R, f = some R → ZMi sK sV (zl E) y wsy rmy (zD E) tys (As) wc (r1 R) (w1 R)) (hw : wsy = Cond.code y bytes maxL rety :: ws') (hrc : rmy.cells = 0 ∧ rmy.slots = 0) (hG : GoodIn Ts (va_wsS own index y wsy)) (hd : y.cls ≠ "java/lang/invoke/MethodHandle" ∧ y.cls ≠ "java/lang/invoke/VarHandle" ∧ (parseMethodDescriptor y.desc).map (fun d => d.parameters.length) = some As.length)
    (hroom : rmy.frames + 1 ≤ rm.frames ∧ 8 + (maxL + 11) + rmy.locals ≤ rm.locals) (hkn : kn.1 ≤ rm.cells ∧ kn.2 ≤ rm.slots) (hst : st0 = As.reverse ++ st) (hcat : (st.map fun v => v.category).sum ≤ 8) (hm : is.map (fun i => ws[i]?) = wc.map some) (hnd : va_nd is = true) (hs : ∀ R, is.length = (w1 R).length) (hdg : decode cc pc = .ok (.invokestatic index, 3))
    (hR : f.bind K = some rf) (kk : ∀ R, K R = some rf → Z E kn lv (pc + 3) (.int (r1 R) :: st) (zput ws is (w1 R))) : Z E kn lv pc st0 ws := by
  obtain ⟨R, hf, hR⟩ := Option.bind_eq_some_iff.mp hR
  intro ls H locs hl hP hD hS
  exact zcore_i hC hl hP hD hS is hm (hs R) (va_runS (As := As) (rest := st) ⟨hC.x, hC.b, hC.ml, hC.o, hC.t⟩ (hM R hf H.size) (va_cwS As.length hC.t hG hw hrc.1 hrc.2 hd (by rw [hC.r]; exact hroom)) ⟨z_blind, z_preB hC hN hm hnd hP hD hS⟩ rfl rfl (by rw [← hC.n]; exact hl.1) hst (lv_room hcat) hdg (by rw [hC.r]; exact hkn)) (kk R hR)
theorem z_callSi_p (hC : ZC E nL cc Ts own rm ret tys) (hN : ZN sK sV (zA E) (zs E))  {y : MethodName} {wsy ws' : List Cond} {rmy : Room} {bytes : ByteArray} {maxL index : Nat} {rety : Option FieldType} {α β : Type} {f : Option α} {K : α → Option β} {rf : β} {r1 : α → Int32} (As : List Value) (is : List Nat)
    (hM : ∀ R, f = some R → ZMi sK sV (zl E) y wsy rmy (zD E) tys (As) wc (r1 R) wc) (hw : wsy = Cond.code y bytes maxL rety :: ws') (hrc : rmy.cells = 0 ∧ rmy.slots = 0) (hG : GoodIn Ts (va_wsS own index y wsy)) (hd : y.cls ≠ "java/lang/invoke/MethodHandle" ∧ y.cls ≠ "java/lang/invoke/VarHandle" ∧ (parseMethodDescriptor y.desc).map (fun d => d.parameters.length) = some As.length)
    (hroom : rmy.frames + 1 ≤ rm.frames ∧ 8 + (maxL + 11) + rmy.locals ≤ rm.locals) (hkn : kn.1 ≤ rm.cells ∧ kn.2 ≤ rm.slots) (hst : st0 = As.reverse ++ st) (hcat : (st.map fun v => v.category).sum ≤ 8) (hm : is.map (fun i => ws[i]?) = wc.map some) (hnd : va_nd is = true) (hdg : decode cc pc = .ok (.invokestatic index, 3))
    (hR : f.bind K = some rf) (kk : ∀ R, K R = some rf → Z E kn lv (pc + 3) (.int (r1 R) :: st) ws) : Z E kn lv pc st0 ws := by
  obtain ⟨R, hf, hR⟩ := Option.bind_eq_some_iff.mp hR
  intro ls H locs hl hP hD hS
  have hs : is.length = wc.length := by have := congrArg List.length hm; simpa using this
  exact zcore_i hC hl hP hD hS is hm hs (va_runS (As := As) (rest := st) ⟨hC.x, hC.b, hC.ml, hC.o, hC.t⟩ (hM R hf H.size) (va_cwS As.length hC.t hG hw hrc.1 hrc.2 hd (by rw [hC.r]; exact hroom)) ⟨z_blind, z_preB hC hN hm hnd hP hD hS⟩ rfl rfl (by rw [← hC.n]; exact hl.1) hst (lv_room hcat) hdg (by rw [hC.r]; exact hkn)) (by rw [zput_self is wc ws hm]; exact kk R hR)

theorem z_callSl (hC : ZC E nL cc Ts own rm ret tys) (hN : ZN sK sV (zA E) (zs E))  {y : MethodName} {wsy ws' : List Cond} {rmy : Room} {bytes : ByteArray} {maxL index : Nat} {rety : Option FieldType} {α β : Type} {f : Option α} {K : α → Option β} {rf : β} {r1 : α → Int64} {w1 : α → va_W} (As : List Value) (is : List Nat)
    (hM : ∀ R, f = some R → ZMl sK sV (zl E) y wsy rmy (zD E) tys (As) wc (r1 R) (w1 R)) (hw : wsy = Cond.code y bytes maxL rety :: ws') (hrc : rmy.cells = 0 ∧ rmy.slots = 0) (hG : GoodIn Ts (va_wsS own index y wsy)) (hd : y.cls ≠ "java/lang/invoke/MethodHandle" ∧ y.cls ≠ "java/lang/invoke/VarHandle" ∧ (parseMethodDescriptor y.desc).map (fun d => d.parameters.length) = some As.length)
    (hroom : rmy.frames + 1 ≤ rm.frames ∧ 8 + (maxL + 11) + rmy.locals ≤ rm.locals) (hkn : kn.1 ≤ rm.cells ∧ kn.2 ≤ rm.slots) (hst : st0 = As.reverse ++ st) (hcat : (st.map fun v => v.category).sum ≤ 8) (hm : is.map (fun i => ws[i]?) = wc.map some) (hnd : va_nd is = true) (hs : ∀ R, is.length = (w1 R).length) (hdg : decode cc pc = .ok (.invokestatic index, 3))
    (hR : f.bind K = some rf) (kk : ∀ R, K R = some rf → Z E kn lv (pc + 3) (.long (r1 R) :: st) (zput ws is (w1 R))) : Z E kn lv pc st0 ws := by
  obtain ⟨R, hf, hR⟩ := Option.bind_eq_some_iff.mp hR
  intro ls H locs hl hP hD hS
  exact zcore_l hC hl hP hD hS is hm (hs R) (va_runS (As := As) (rest := st) ⟨hC.x, hC.b, hC.ml, hC.o, hC.t⟩ (hM R hf H.size) (va_cwS As.length hC.t hG hw hrc.1 hrc.2 hd (by rw [hC.r]; exact hroom)) ⟨z_blind, z_preB hC hN hm hnd hP hD hS⟩ rfl rfl (by rw [← hC.n]; exact hl.1) hst (lv_room hcat) hdg (by rw [hC.r]; exact hkn)) (kk R hR)
theorem z_callSl_p (hC : ZC E nL cc Ts own rm ret tys) (hN : ZN sK sV (zA E) (zs E))  {y : MethodName} {wsy ws' : List Cond} {rmy : Room} {bytes : ByteArray} {maxL index : Nat} {rety : Option FieldType} {α β : Type} {f : Option α} {K : α → Option β} {rf : β} {r1 : α → Int64} (As : List Value) (is : List Nat)
    (hM : ∀ R, f = some R → ZMl sK sV (zl E) y wsy rmy (zD E) tys (As) wc (r1 R) wc) (hw : wsy = Cond.code y bytes maxL rety :: ws') (hrc : rmy.cells = 0 ∧ rmy.slots = 0) (hG : GoodIn Ts (va_wsS own index y wsy)) (hd : y.cls ≠ "java/lang/invoke/MethodHandle" ∧ y.cls ≠ "java/lang/invoke/VarHandle" ∧ (parseMethodDescriptor y.desc).map (fun d => d.parameters.length) = some As.length)
    (hroom : rmy.frames + 1 ≤ rm.frames ∧ 8 + (maxL + 11) + rmy.locals ≤ rm.locals) (hkn : kn.1 ≤ rm.cells ∧ kn.2 ≤ rm.slots) (hst : st0 = As.reverse ++ st) (hcat : (st.map fun v => v.category).sum ≤ 8) (hm : is.map (fun i => ws[i]?) = wc.map some) (hnd : va_nd is = true) (hdg : decode cc pc = .ok (.invokestatic index, 3))
    (hR : f.bind K = some rf) (kk : ∀ R, K R = some rf → Z E kn lv (pc + 3) (.long (r1 R) :: st) ws) : Z E kn lv pc st0 ws := by
  obtain ⟨R, hf, hR⟩ := Option.bind_eq_some_iff.mp hR
  intro ls H locs hl hP hD hS
  have hs : is.length = wc.length := by have := congrArg List.length hm; simpa using this
  exact zcore_l hC hl hP hD hS is hm hs (va_runS (As := As) (rest := st) ⟨hC.x, hC.b, hC.ml, hC.o, hC.t⟩ (hM R hf H.size) (va_cwS As.length hC.t hG hw hrc.1 hrc.2 hd (by rw [hC.r]; exact hroom)) ⟨z_blind, z_preB hC hN hm hnd hP hD hS⟩ rfl rfl (by rw [← hC.n]; exact hl.1) hst (lv_room hcat) hdg (by rw [hC.r]; exact hkn)) (by rw [zput_self is wc ws hm]; exact kk R hR)

theorem z_callSv (hC : ZC E nL cc Ts own rm ret tys) (hN : ZN sK sV (zA E) (zs E))  {y : MethodName} {wsy ws' : List Cond} {rmy : Room} {bytes : ByteArray} {maxL index : Nat} {rety : Option FieldType} {α β : Type} {f : Option α} {K : α → Option β} {rf : β} {w1 : α → va_W} (As : List Value) (is : List Nat)
    (hM : ∀ R, f = some R → ZMv sK sV (zl E) y wsy rmy (zD E) tys (As) wc (w1 R)) (hw : wsy = Cond.code y bytes maxL rety :: ws') (hrc : rmy.cells = 0 ∧ rmy.slots = 0) (hG : GoodIn Ts (va_wsS own index y wsy)) (hd : y.cls ≠ "java/lang/invoke/MethodHandle" ∧ y.cls ≠ "java/lang/invoke/VarHandle" ∧ (parseMethodDescriptor y.desc).map (fun d => d.parameters.length) = some As.length)
    (hroom : rmy.frames + 1 ≤ rm.frames ∧ 8 + (maxL + 11) + rmy.locals ≤ rm.locals) (hkn : kn.1 ≤ rm.cells ∧ kn.2 ≤ rm.slots) (hst : st0 = As.reverse ++ st) (hcat : (st.map fun v => v.category).sum ≤ 8) (hm : is.map (fun i => ws[i]?) = wc.map some) (hnd : va_nd is = true) (hs : ∀ R, is.length = (w1 R).length) (hdg : decode cc pc = .ok (.invokestatic index, 3))
    (hR : f.bind K = some rf) (kk : ∀ R, K R = some rf → Z E kn lv (pc + 3) (st) (zput ws is (w1 R))) : Z E kn lv pc st0 ws := by
  obtain ⟨R, hf, hR⟩ := Option.bind_eq_some_iff.mp hR
  intro ls H locs hl hP hD hS
  exact zcore_v hC hl hP hD hS is hm (hs R) (va_runS (As := As) (rest := st) ⟨hC.x, hC.b, hC.ml, hC.o, hC.t⟩ (hM R hf H.size) (va_cwS As.length hC.t hG hw hrc.1 hrc.2 hd (by rw [hC.r]; exact hroom)) ⟨z_blind, z_preB hC hN hm hnd hP hD hS⟩ rfl rfl (by rw [← hC.n]; exact hl.1) hst (lv_room hcat) hdg (by rw [hC.r]; exact hkn)) (kk R hR)
theorem z_callSv_p (hC : ZC E nL cc Ts own rm ret tys) (hN : ZN sK sV (zA E) (zs E))  {y : MethodName} {wsy ws' : List Cond} {rmy : Room} {bytes : ByteArray} {maxL index : Nat} {rety : Option FieldType} {α β : Type} {f : Option α} {K : α → Option β} {rf : β} (As : List Value) (is : List Nat)
    (hM : ∀ R, f = some R → ZMv sK sV (zl E) y wsy rmy (zD E) tys (As) wc wc) (hw : wsy = Cond.code y bytes maxL rety :: ws') (hrc : rmy.cells = 0 ∧ rmy.slots = 0) (hG : GoodIn Ts (va_wsS own index y wsy)) (hd : y.cls ≠ "java/lang/invoke/MethodHandle" ∧ y.cls ≠ "java/lang/invoke/VarHandle" ∧ (parseMethodDescriptor y.desc).map (fun d => d.parameters.length) = some As.length)
    (hroom : rmy.frames + 1 ≤ rm.frames ∧ 8 + (maxL + 11) + rmy.locals ≤ rm.locals) (hkn : kn.1 ≤ rm.cells ∧ kn.2 ≤ rm.slots) (hst : st0 = As.reverse ++ st) (hcat : (st.map fun v => v.category).sum ≤ 8) (hm : is.map (fun i => ws[i]?) = wc.map some) (hnd : va_nd is = true) (hdg : decode cc pc = .ok (.invokestatic index, 3))
    (hR : f.bind K = some rf) (kk : ∀ R, K R = some rf → Z E kn lv (pc + 3) (st) ws) : Z E kn lv pc st0 ws := by
  obtain ⟨R, hf, hR⟩ := Option.bind_eq_some_iff.mp hR
  intro ls H locs hl hP hD hS
  have hs : is.length = wc.length := by have := congrArg List.length hm; simpa using this
  exact zcore_v hC hl hP hD hS is hm hs (va_runS (As := As) (rest := st) ⟨hC.x, hC.b, hC.ml, hC.o, hC.t⟩ (hM R hf H.size) (va_cwS As.length hC.t hG hw hrc.1 hrc.2 hd (by rw [hC.r]; exact hroom)) ⟨z_blind, z_preB hC hN hm hnd hP hD hS⟩ rfl rfl (by rw [← hC.n]; exact hl.1) hst (lv_room hcat) hdg (by rw [hC.r]; exact hkn)) (by rw [zput_self is wc ws hm]; exact kk R hR)

theorem z_callSNi (hC : ZC E nL cc Ts own rm ret tys) (hN : ZN sK sV (zA E) (zs E))  {y : MethodName} {wsy ws' : List Cond} {rmy : Room} {bytes : ByteArray} {maxL index : Nat} {rety : Option FieldType} {α β : Type} {f : Option α} {K : α → Option β} {rf : β} {r1 : α → Int32} {w1 : α → va_W} (As : List Value) (is : List Nat)
    (hM : ∀ R, f = some R → ZMi sK sV (zl E) y wsy rmy (zD E) tys (As) wc (r1 R) (w1 R)) (hw : wsy = Cond.code y bytes maxL rety :: ws') (hrc : rmy.cells = 0 ∧ rmy.slots = 0) (hG : GoodIn Ts wsy) (hnw : (own, index, y) ∈ zNs) (hini : Cond.initialized y.cls ∈ Ts) (hstat : Cond.static y ∈ Ts) (hd : y.cls ≠ "java/lang/invoke/MethodHandle" ∧ y.cls ≠ "java/lang/invoke/VarHandle" ∧ (parseMethodDescriptor y.desc).map (fun d => d.parameters.length) = some As.length)
    (hroom : rmy.frames + 1 ≤ rm.frames ∧ 8 + (maxL + 11) + rmy.locals ≤ rm.locals) (hkn : kn.1 ≤ rm.cells ∧ kn.2 ≤ rm.slots) (hst : st0 = As.reverse ++ st) (hcat : (st.map fun v => v.category).sum ≤ 8) (hm : is.map (fun i => ws[i]?) = wc.map some) (hnd : va_nd is = true) (hs : ∀ R, is.length = (w1 R).length) (hdg : decode cc pc = .ok (.invokestatic index, 3))
    (hR : f.bind K = some rf) (kk : ∀ R, K R = some rf → Z E kn lv (pc + 3) (.int (r1 R) :: st) (zput ws is (w1 R))) : Z E kn lv pc st0 ws := by
  obtain ⟨R, hf, hR⟩ := Option.bind_eq_some_iff.mp hR
  intro ls H locs hl hP hD hS
  exact zcore_i hC hl hP hD hS is hm (hs R) (va_runSN (As := As) (rest := st) ⟨hC.x, hC.b, hC.ml, hC.o, hC.t⟩ (hM R hf H.size) ⟨va_cnB As.length hC.t hG hw hrc.1 hrc.2 (hN.1 _ hnw) (hC.t _ hini) hd (by rw [hC.r]; exact hroom), hC.t _ hstat, trivial⟩ ⟨z_blind, z_preB hC hN hm hnd hP hD hS⟩ rfl rfl (by rw [← hC.n]; exact hl.1) hst (lv_room hcat) hdg (by rw [hC.r]; exact hkn)) (kk R hR)
theorem z_callSNi_p (hC : ZC E nL cc Ts own rm ret tys) (hN : ZN sK sV (zA E) (zs E))  {y : MethodName} {wsy ws' : List Cond} {rmy : Room} {bytes : ByteArray} {maxL index : Nat} {rety : Option FieldType} {α β : Type} {f : Option α} {K : α → Option β} {rf : β} {r1 : α → Int32} (As : List Value) (is : List Nat)
    (hM : ∀ R, f = some R → ZMi sK sV (zl E) y wsy rmy (zD E) tys (As) wc (r1 R) wc) (hw : wsy = Cond.code y bytes maxL rety :: ws') (hrc : rmy.cells = 0 ∧ rmy.slots = 0) (hG : GoodIn Ts wsy) (hnw : (own, index, y) ∈ zNs) (hini : Cond.initialized y.cls ∈ Ts) (hstat : Cond.static y ∈ Ts) (hd : y.cls ≠ "java/lang/invoke/MethodHandle" ∧ y.cls ≠ "java/lang/invoke/VarHandle" ∧ (parseMethodDescriptor y.desc).map (fun d => d.parameters.length) = some As.length)
    (hroom : rmy.frames + 1 ≤ rm.frames ∧ 8 + (maxL + 11) + rmy.locals ≤ rm.locals) (hkn : kn.1 ≤ rm.cells ∧ kn.2 ≤ rm.slots) (hst : st0 = As.reverse ++ st) (hcat : (st.map fun v => v.category).sum ≤ 8) (hm : is.map (fun i => ws[i]?) = wc.map some) (hnd : va_nd is = true) (hdg : decode cc pc = .ok (.invokestatic index, 3))
    (hR : f.bind K = some rf) (kk : ∀ R, K R = some rf → Z E kn lv (pc + 3) (.int (r1 R) :: st) ws) : Z E kn lv pc st0 ws := by
  obtain ⟨R, hf, hR⟩ := Option.bind_eq_some_iff.mp hR
  intro ls H locs hl hP hD hS
  have hs : is.length = wc.length := by have := congrArg List.length hm; simpa using this
  exact zcore_i hC hl hP hD hS is hm hs (va_runSN (As := As) (rest := st) ⟨hC.x, hC.b, hC.ml, hC.o, hC.t⟩ (hM R hf H.size) ⟨va_cnB As.length hC.t hG hw hrc.1 hrc.2 (hN.1 _ hnw) (hC.t _ hini) hd (by rw [hC.r]; exact hroom), hC.t _ hstat, trivial⟩ ⟨z_blind, z_preB hC hN hm hnd hP hD hS⟩ rfl rfl (by rw [← hC.n]; exact hl.1) hst (lv_room hcat) hdg (by rw [hC.r]; exact hkn)) (by rw [zput_self is wc ws hm]; exact kk R hR)

theorem z_callSNv (hC : ZC E nL cc Ts own rm ret tys) (hN : ZN sK sV (zA E) (zs E))  {y : MethodName} {wsy ws' : List Cond} {rmy : Room} {bytes : ByteArray} {maxL index : Nat} {rety : Option FieldType} {α β : Type} {f : Option α} {K : α → Option β} {rf : β} {w1 : α → va_W} (As : List Value) (is : List Nat)
    (hM : ∀ R, f = some R → ZMv sK sV (zl E) y wsy rmy (zD E) tys (As) wc (w1 R)) (hw : wsy = Cond.code y bytes maxL rety :: ws') (hrc : rmy.cells = 0 ∧ rmy.slots = 0) (hG : GoodIn Ts wsy) (hnw : (own, index, y) ∈ zNs) (hini : Cond.initialized y.cls ∈ Ts) (hstat : Cond.static y ∈ Ts) (hd : y.cls ≠ "java/lang/invoke/MethodHandle" ∧ y.cls ≠ "java/lang/invoke/VarHandle" ∧ (parseMethodDescriptor y.desc).map (fun d => d.parameters.length) = some As.length)
    (hroom : rmy.frames + 1 ≤ rm.frames ∧ 8 + (maxL + 11) + rmy.locals ≤ rm.locals) (hkn : kn.1 ≤ rm.cells ∧ kn.2 ≤ rm.slots) (hst : st0 = As.reverse ++ st) (hcat : (st.map fun v => v.category).sum ≤ 8) (hm : is.map (fun i => ws[i]?) = wc.map some) (hnd : va_nd is = true) (hs : ∀ R, is.length = (w1 R).length) (hdg : decode cc pc = .ok (.invokestatic index, 3))
    (hR : f.bind K = some rf) (kk : ∀ R, K R = some rf → Z E kn lv (pc + 3) (st) (zput ws is (w1 R))) : Z E kn lv pc st0 ws := by
  obtain ⟨R, hf, hR⟩ := Option.bind_eq_some_iff.mp hR
  intro ls H locs hl hP hD hS
  exact zcore_v hC hl hP hD hS is hm (hs R) (va_runSN (As := As) (rest := st) ⟨hC.x, hC.b, hC.ml, hC.o, hC.t⟩ (hM R hf H.size) ⟨va_cnB As.length hC.t hG hw hrc.1 hrc.2 (hN.1 _ hnw) (hC.t _ hini) hd (by rw [hC.r]; exact hroom), hC.t _ hstat, trivial⟩ ⟨z_blind, z_preB hC hN hm hnd hP hD hS⟩ rfl rfl (by rw [← hC.n]; exact hl.1) hst (lv_room hcat) hdg (by rw [hC.r]; exact hkn)) (kk R hR)
theorem z_callSNv_p (hC : ZC E nL cc Ts own rm ret tys) (hN : ZN sK sV (zA E) (zs E))  {y : MethodName} {wsy ws' : List Cond} {rmy : Room} {bytes : ByteArray} {maxL index : Nat} {rety : Option FieldType} {α β : Type} {f : Option α} {K : α → Option β} {rf : β} (As : List Value) (is : List Nat)
    (hM : ∀ R, f = some R → ZMv sK sV (zl E) y wsy rmy (zD E) tys (As) wc wc) (hw : wsy = Cond.code y bytes maxL rety :: ws') (hrc : rmy.cells = 0 ∧ rmy.slots = 0) (hG : GoodIn Ts wsy) (hnw : (own, index, y) ∈ zNs) (hini : Cond.initialized y.cls ∈ Ts) (hstat : Cond.static y ∈ Ts) (hd : y.cls ≠ "java/lang/invoke/MethodHandle" ∧ y.cls ≠ "java/lang/invoke/VarHandle" ∧ (parseMethodDescriptor y.desc).map (fun d => d.parameters.length) = some As.length)
    (hroom : rmy.frames + 1 ≤ rm.frames ∧ 8 + (maxL + 11) + rmy.locals ≤ rm.locals) (hkn : kn.1 ≤ rm.cells ∧ kn.2 ≤ rm.slots) (hst : st0 = As.reverse ++ st) (hcat : (st.map fun v => v.category).sum ≤ 8) (hm : is.map (fun i => ws[i]?) = wc.map some) (hnd : va_nd is = true) (hdg : decode cc pc = .ok (.invokestatic index, 3))
    (hR : f.bind K = some rf) (kk : ∀ R, K R = some rf → Z E kn lv (pc + 3) (st) ws) : Z E kn lv pc st0 ws := by
  obtain ⟨R, hf, hR⟩ := Option.bind_eq_some_iff.mp hR
  intro ls H locs hl hP hD hS
  have hs : is.length = wc.length := by have := congrArg List.length hm; simpa using this
  exact zcore_v hC hl hP hD hS is hm hs (va_runSN (As := As) (rest := st) ⟨hC.x, hC.b, hC.ml, hC.o, hC.t⟩ (hM R hf H.size) ⟨va_cnB As.length hC.t hG hw hrc.1 hrc.2 (hN.1 _ hnw) (hC.t _ hini) hd (by rw [hC.r]; exact hroom), hC.t _ hstat, trivial⟩ ⟨z_blind, z_preB hC hN hm hnd hP hD hS⟩ rfl rfl (by rw [← hC.n]; exact hl.1) hst (lv_room hcat) hdg (by rw [hC.r]; exact hkn)) (by rw [zput_self is wc ws hm]; exact kk R hR)

end ZCALL
/-! more rows: a world in another order, switches, library functions -/
section ZMORE
variable {E : ZE} {kn : Nat × Nat} {lv : zLv} {pc : Nat} {st : List Value} {ws : va_W} {nL : Nat} {cc : ByteArray} {Ts : List Cond} {own : String} {rm : Room} {ret : Option FieldType} {tys : zTy}
theorem z_perm (ws' : va_W) (is : List Nat) (hm : is.map (fun i => ws[i]?) = ws'.map some) (hnd : va_nd is = true) (k : Z E kn lv pc st ws') : Z E kn lv pc st ws := fun ls H locs hl hP hD hS => k ls H locs hl (zsub_P hP hm) (hD.sub is hnd hm) hS
theorem z_by {G : Prop} {c : Prop} [Decidable c] {α : Type} {P1 P2 : Option α} {rf : α} (hR : (if c then P1 else P2) = some rf) (kt : c → P1 = some rf → G) (kf : ¬ c → P2 = some rf → G) : G := by
  by_cases h : c
  · rw [if_pos h] at hR; exact kt h hR
  · rw [if_neg h] at hR; exact kf h hR
theorem z_tin (hC : ZC E nL cc Ts own rm ret tys) {dflt lo hi : Int} {offs : Array Int} {len : Nat} {x : Int32} {off : Int} (v : Int32) (tgt : Nat) (hx : x = v) (hd : decode cc pc = .ok (.tableswitch dflt lo hi offs, len)) (h1 : ¬ v.toInt < lo) (h2 : ¬ hi < v.toInt) (ho : offs[(v.toInt - lo).toNat]? = some off) (ht : (pc : Int) + off = (tgt : Int)) (k : Z E kn lv tgt st ws) : Z E kn lv pc (.int x :: st) ws := fun ls H locs hl hP hD hS => by
  subst hx
  exact lv_tableIn hC.x hC.b hd h1 h2 ho ht (k ls H locs hl hP hD hS)
theorem z_tout (hC : ZC E nL cc Ts own rm ret tys) {dflt lo hi : Int} {offs : Array Int} {len : Nat} {x : Int32} (tgt : Nat) (hd : decode cc pc = .ok (.tableswitch dflt lo hi offs, len)) (h : x.toInt < lo ∨ hi < x.toInt) (ht : (pc : Int) + dflt = (tgt : Int)) (k : Z E kn lv tgt st ws) : Z E kn lv pc (.int x :: st) ws := fun ls H locs hl hP hD hS => lv_tableOut hC.x hC.b hd h ht (k ls H locs hl hP hD hS)
theorem z_lookup (hC : ZC E nL cc Ts own rm ret tys) {dflt : Int} {ps : Array (Int × Int)} {len : Nat} {x : Int32} {off : Int} (tgt : Nat) (hd : decode cc pc = .ok (.lookupswitch dflt ps, len)) (hp : (ps.toList.zip (ps.toList.drop 1)).all (fun (a, next) => a.1 < next.1) = true) (ho : Op.lookupswitch.offset ps.toList dflt x.toInt = off) (ht : (pc : Int) + off = (tgt : Int)) (k : Z E kn lv tgt st ws) : Z E kn lv pc (.int x :: st) ws := fun ls H locs hl hP hD hS => lv_lookup hC.x hC.b hd hp ho ht (k ls H locs hl hP hD hS)
theorem z_mmax (hC : ZC E nL cc Ts own rm ret tys) {index : Nat} {x y : Int32} (w1 : Cond.methodLink own index Lib.Math.max.name ∈ Ts) (w2 : Cond.static Lib.Math.max.name ∈ Ts) (w3 : Cond.initialized "java/lang/Math" ∈ Ts) (w4 : Cond.code Lib.Math.max.name Lib.Math.max.code 2 (some .int) ∈ Ts) (hf : 1 ≤ rm.frames) (hlo : (st.map fun v => v.category).sum + 13 ≤ rm.locals) (hkn : kn.1 ≤ rm.cells ∧ kn.2 ≤ rm.slots) (hd : decode cc pc = .ok (.invokestatic index, 3)) (k : Z E kn lv (pc + 3) (.int (if x < y then y else x) :: st) ws) : Z E kn lv pc (.int y :: .int x :: st) ws := fun ls H locs hl hP hD hS =>
  va_mmax hC.x hC.b (by rw [hC.ml, ← hC.n]; exact hl.1.symm) hC.o (hC.t _ w1) (hC.t _ w2) (hC.t _ w3) (hC.t _ w4) (by rw [hC.r]; exact hf) (by rw [hC.r]; exact hlo) (by rw [hC.r]; exact hkn.1) (by rw [hC.r]; exact hkn.2) hd (k ls H locs hl hP hD hS)
theorem z_mmin (hC : ZC E nL cc Ts own rm ret tys) {index : Nat} {x y : Int32} (w1 : Cond.methodLink own index Lib.Math.min.name ∈ Ts) (w2 : Cond.static Lib.Math.min.name ∈ Ts) (w3 : Cond.initialized "java/lang/Math" ∈ Ts) (w4 : Cond.code Lib.Math.min.name Lib.Math.min.code 2 (some .int) ∈ Ts) (hf : 1 ≤ rm.frames) (hlo : (st.map fun v => v.category).sum + 13 ≤ rm.locals) (hkn : kn.1 ≤ rm.cells ∧ kn.2 ≤ rm.slots) (hd : decode cc pc = .ok (.invokestatic index, 3)) (k : Z E kn lv (pc + 3) (.int (if y < x then y else x) :: st) ws) : Z E kn lv pc (.int y :: .int x :: st) ws := fun ls H locs hl hP hD hS =>
  va_mmin hC.x hC.b (by rw [hC.ml, ← hC.n]; exact hl.1.symm) hC.o (hC.t _ w1) (hC.t _ w2) (hC.t _ w3) (hC.t _ w4) (by rw [hC.r]; exact hf) (by rw [hC.r]; exact hlo) (by rw [hC.r]; exact hkn.1) (by rw [hC.r]; exact hkn.2) hd (k ls H locs hl hP hD hS)
def acp (sp dp n : Int32) (n0 n1 : Nat) : Bool := decide ((¬ sp < 0 ∧ ¬ dp < 0 ∧ ¬ n < 0) ∧ sp.toNatClampNeg + n.toNatClampNeg ≤ n0 ∧ dp.toNatClampNeg + n.toNatClampNeg ≤ n1)
theorem z_acopy (hC : ZC E nL cc Ts own rm ret tys) {index a a0 n0 n1 : Nat} {c0 c1 : ClassId} {f g : Nat → Int32} {sp dp n : Int32} (q0 q1 t0 : Nat) {α : Type} {P : Option α} {rf : α} (w1 : Cond.methodLink own index arraycopyName ∈ Ts) (w2 : Cond.native arraycopyName ∈ Ts) (w3 : Cond.static arraycopyName ∈ Ts) (w4 : Cond.initialized "java/lang/System" ∈ Ts) (ha0 : ws[q0]? = some (a0, .inl (c0, n0, .inl f))) (ha1 : ws[q1]? = some (a, .inl (c1, n1, .inl g))) (ht0 : tys[t0]? = some (c0, .int)) (ht1 : tys[t0]? = some (c1, .int)) (hf : 1 ≤ rm.frames) (hlo : (st.map fun v => v.category).sum + (nativeFrameWords "java/lang/System" "arraycopy" 5 + 11) ≤ rm.locals) (hd : decode cc pc = .ok (.invokestatic index, 3)) (hR : ogd (acp sp dp n n0 n1) P = some rf) (k : P = some rf → Z E kn lv (pc + 3) st (ws.set q1 (a, .inl (c1, n1, .inl (va_cpy f g sp.toNatClampNeg dp.toNatClampNeg n.toNatClampNeg))))) : Z E kn lv pc (.int n :: .int dp :: .ref a :: .int sp :: .ref a0 :: st) ws := fun ls H locs hl hP hD hS => by
  obtain ⟨h, hR⟩ := ogd_s hR
  obtain ⟨⟨h1, h2, h3⟩, h4, h5⟩ := of_decide_eq_true h
  exact va_copyi hC.x hC.b (by rw [hC.ml, ← hC.n]; exact hl.1.symm) hC.o (hC.t _ w1) (hC.t _ w2) (hC.t _ w3) (hC.t _ w4) hC.k hP hD hS q0 q1 t0 t0 ha0 ha1 ht0 ht1 rfl h1 h2 h3 h4 h5 (fun i _ => rfl) (by rw [hC.r]; exact hf) (by rw [hC.r]; exact hlo) hd (fun H1 locs1 hP1 hD1 hS1 => k hR ls H1 locs1 hl hP1 hD1 hS1)
end ZMORE
def isb (v : Int32) : Bool := decide (v = 0 ∨ v = 1)
theorem isb_s {v : Int32} (h : isb v = true) : narrow .boolean (.int v) = .int v := by
  rcases of_decide_eq_true h with rfl | rfl <;> rfl
/-- the array classes that the worlds hold: of ints, bytes, booleans -/
abbrev zty (cI cB cZ : ClassId) : zTy := [(cI, .int), (cB, .byte), (cZ, .boolean)]
