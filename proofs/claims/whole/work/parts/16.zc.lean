/-! constructors: new cells stand behind the old ones -/
def ZMc (sK sV : Nat → Nat) (l : Launch) (y : MethodName) (wsy : List Cond) (rm : Room) (D : va_G) (tys : zTy) (As : List Value) (wc : va_W) (mc ms : Nat) (post : va_W → Prop) : Prop :=
  ∀ sz : Nat, Met l y wsy rm (va_Pc As (zB sK sV D tys wc sz)) (va_Qv post (zU D tys wc sz) (va_A wc sz)) mc ms (va_A wc sz)
def ZQc (E : ZE) (tys : zTy) (mc ms : Nat) (post : va_W → Prop) : Prop := ∃ wc sz, zA E = va_A wc sz ∧ zQ E = MQ (zb E) (va_Qv post (zU (zD E) tys wc sz) (va_A wc sz)) (za E) (zs E) mc ms (va_A wc sz)
theorem zc_of {sK sV : Nat → Nat} {l : Launch} {y : MethodName} {wsy ws' : List Cond} {rm : Room} {D : va_G} {tys : zTy} {As : List Value} {wc : va_W} {cc : ByteArray} {maxL : Nat} {ret : Option FieldType} {mc ms : Nat} {post : va_W → Prop} (hy : plainName y.cls = true) (hw : wsy = Cond.code y cc maxL ret :: ws') (hn : (lg_sl As).length ≤ maxL) (hini : y.name = "<init>")
    (body : ∀ E : ZE, zl E = l → zD E = D → ZC E maxL cc wsy y.cls rm ret tys → ZN sK sV (zA E) (zs E) → (zme E).name = "<init>" → ZQc E tys mc ms post → Z E (0, 0) (lv_args 0 As) 0 [] wc) : ZMc sK sV l y wsy rm D tys As wc mc ms post := by
  intro sz
  refine Met.ofW (cc := cc) (maxL := maxL) (ret := ret) hy hw ?_
  intro p e s m args below meth c s₁ B hml hv
  obtain ⟨rfl, hsz, hP, hK, hD0, hN⟩ := hv
  subst hsz
  have hD := hD0.self (sz := s.heap.size)
  rw [lg_entry_eq]
  exact body ((p, l, e, (headSpec wsy rm).room, s, m, As.toArray, below, meth, c), maxL, D, va_A wc s.heap.size, MQ below (va_Qv post (zU D tys wc s.heap.size) (va_A wc s.heap.size)) As.toArray s mc ms (va_A wc s.heap.size)) rfl rfl
    ⟨B.exec, B.bytes, hml, rfl, findClass_of_methodNamed B.named, atoms_spec (ws := wsy) B.pre, hK, fun q h => Or.inr h, rfl, B.returns, B.notSynchronized⟩ hN (by rw [← hini]; exact (name_of_methodNamed B.named B.method).1) ⟨wc, s.heap.size, rfl, rfl⟩ _ _ _ (lv_entry As hn) hP hD va_S.rf
theorem zput_app {D : va_G} {cl : List vw_C} {A0 : Nat → Prop} {ws wc uA uB : va_W} {H H1 : Heap} (hP : va_P D cl ws H) (hD : va_D A0 ws) (is : List Nat) (hC : is.map (fun i => ws[i]?) = wc.map some) (hlen : is.length = uA.length) (hF : ∀ q, va_A wc H.size q → A0 q) (hk : ∀ q : Nat, q < H.size → ¬ va_A wc H.size q → H1[q]? = H[q]?) (hP1 : va_P D cl (uA ++ uB) H1) (hD1 : va_D (va_A wc H.size) (uA ++ uB)) : va_P D cl (zput ws is uA ++ uB) H1 ∧ va_D A0 (zput ws is uA ++ uB) := by
  have hA : va_P D cl uA H1 := fun k q hq => hP1 k q (by rw [List.getElem?_append_left (List.getElem?_eq_some_iff.mp hq).1]; exact hq)
  have hB : va_P D cl uB H1 := fun k q hq => hP1 (uA.length + k) q (by rw [List.getElem?_append_right (Nat.le_add_right _ _), Nat.add_sub_cancel_left]; exact hq)
  have dA : va_D (va_A wc H.size) uA := ⟨fun i j p q hp hq h => hD1.1 i j p q (by rw [List.getElem?_append_left (List.getElem?_eq_some_iff.mp hp).1]; exact hp) (by rw [List.getElem?_append_left (List.getElem?_eq_some_iff.mp hq).1]; exact hq) h, fun k q hq => hD1.2 k q (by rw [List.getElem?_append_left (List.getElem?_eq_some_iff.mp hq).1]; exact hq)⟩
  have dB : va_D (va_A wc H.size) uB := ⟨fun i j p q hp hq h => by
    have := hD1.1 (uA.length + i) (uA.length + j) p q (by rw [List.getElem?_append_right (Nat.le_add_right _ _), Nat.add_sub_cancel_left]; exact hp) (by rw [List.getElem?_append_right (Nat.le_add_right _ _), Nat.add_sub_cancel_left]; exact hq) h
    omega, fun k q hq => hD1.2 (uA.length + k) q (by rw [List.getElem?_append_right (Nat.le_add_right _ _), Nat.add_sub_cancel_left]; exact hq)⟩
  refine ⟨va_P.app (zput_P hP hD is hC (Nat.le_of_eq hlen) hk hA) hB, va_D.app (zput_D hP hD is hC hlen hF dA) (dB.weaken (fun _ q _ h => hF q.1 h)) (fun i j p q hp hq hpq => ?_)⟩
  rcases zput_at is uA ws i p hp with ⟨i1, a1, a2⟩ | ⟨a1, a2⟩
  · have l1 := (List.getElem?_eq_some_iff.mp a2).1
    have := hD1.1 i1 (uA.length + j) p q (by rw [List.getElem?_append_left l1]; exact a2) (by rw [List.getElem?_append_right (Nat.le_add_right _ _), Nat.add_sub_cancel_left]; exact hq) hpq
    omega
  · have hn : ¬ va_A wc H.size p.1 := by
      have hnot : i ∉ is := by
        rcases a1 with h1 | ⟨j, h3, h4⟩
        · exact h1
        · have := (List.getElem?_eq_some_iff.mp h3).1
          omega
      rintro (⟨k2, e, h⟩ | h)
      · have h5 : (is.map (fun i => ws[i]?))[k2]? = some (some (p.1, e)) := by rw [hC, List.getElem?_map, h]; rfl
        rw [List.getElem?_map] at h5
        cases hi : is[k2]? with
        | none => rw [hi] at h5; cases h5
        | some i' =>
          rw [hi] at h5
          have h6 : ws[i']? = some (p.1, e) := Option.some.inj h5
          have := hD.1 i i' p (p.1, e) a2 h6 rfl
          subst this
          exact hnot (List.mem_of_getElem? hi)
      · have := (hP i p a2).lt
        omega
    exact hn (by rw [hpq]; exact dB.2 j q hq)
section ZCT
variable {sK sV : Nat → Nat} {E : ZE} {kn : Nat × Nat} {lv : zLv} {pc : Nat} {st st0 : List Value} {ws wc : va_W} {nL : Nat} {cc : ByteArray} {Ts : List Cond} {own : String} {rm : Room} {ret : Option FieldType} {tys : zTy}
theorem z_cret {mc ms : Nat} {post : va_W → Prop} (hC : ZC E nL cc Ts own rm none tys) (hQ : ZQc E tys mc ms post) (hw : post ws) (hd : decode cc pc = .ok (.return_, 1)) : Z E (mc, ms) lv pc [] ws := by
  intro ls H locs hl hP hD hS
  obtain ⟨wc, sz, hA, hQe⟩ := hQ
  rw [hQe]
  rw [hA] at hD hS
  exact W.vret hC.x hC.b hC.rt (fun t ht hW => ⟨⟨ws, rfl, hw, by rw [ht]; exact hP, va_K.moved hW.alike hC.k, hD⟩, hS.F ht⟩) hS.2.2 hd hC.lk
theorem z_oinit {a index : Nat} (hC : ZC E nL cc Ts own rm ret tys) (w1 : Cond.methodLink own index objectInit ∈ Ts) (w2 : Cond.instanceMethod objectInit ∈ Ts) (w3 : Cond.code objectInit ⟨#[0xb1]⟩ 1 none ∈ Ts) (hf : 1 ≤ rm.frames) (hlo : (st.map fun v => v.category).sum + 12 ≤ rm.locals) (hd : decode cc pc = .ok (.invokespecial index, 3)) (k : Z E kn lv (pc + 3) st ws) : Z E kn lv pc (.ref a :: st) ws := fun ls H locs hl hP hD hS =>
  W.objInit hC.x hC.b hC.o (hC.t _ w1) (hC.t _ w2) (hC.t _ w3) rfl (by rw [hC.ml, ← hC.n]; exact hl.1) rfl hd (by rw [hC.r]; exact hf) (by rw [hC.r]; show 2 * 0 + _ + 12 ≤ _; omega) (W.eq (g2 := F0 (zm E) (pc + 3) ls st) rfl (k ls H locs hl hP hD hS))
theorem z_new (kn' : Nat × Nat) {C : String} {T : u_T} {N ci index : Nat} {ty : Nat → FieldType} (hC : ZC E nL cc Ts own rm ret tys) (hin : ∀ w ∈ u_ws C T N, w ∈ Ts) (hty : ∀ k, k < N → parseFieldDescriptor (T k).2.2.1 = some (ty k)) (w1 : Cond.classLink own index C ∈ Ts) (w2 : Cond.instantiable C N ∈ Ts) (w3 : Cond.initialized C ∈ Ts) (hc : vwCl[ci]? = some (C, T, N)) (fs : List Value) (hfs : ∀ j, j < N → defaultValue (ty j) = vp_V fs j) (hk1 : kn' = (kn.1 + 1, kn.2 + N)) (hk2 : kn'.1 ≤ rm.cells ∧ kn'.2 ≤ rm.slots) (hd : decode cc pc = .ok (.new index, 3)) (k : ∀ q : Nat, Z E kn' lv (pc + 3) (.ref q :: st) (ws ++ [(q, .inr (ci, fs))])) : Z E kn lv pc st ws := fun ls H locs hl hP hD hS => by
  subst hk1
  exact va_new hC.x hC.b hC.t hin ty hty hC.o (hC.t _ w1) (hC.t _ w2) (hC.t _ w3) hC.k hP hD hS hC.a hc hfs (by rw [hC.r]; exact hk2.1) (by rw [hC.r]; exact hk2.2) hd (fun q H1 hP1 hD1 hS1 => k q ls H1 locs hl hP1 hD1 hS1)
theorem zRA_eq {U : State} {c1 c2 : ClassId} {ty : FieldType} (hp : refKind ty = false) (h1 : va_RA U c1 ty) (h2 : va_RA U c2 ty) : c1 = c2 := by
  cases ty <;> first | exact Option.some.inj (h1.symm.trans h2) | cases hp
theorem z_newarr (kn' : Nat × Nat) (hC : ZC E nL cc Ts own rm ret tys) {atype : ArrayType} (ty : FieldType) (n : Int32) (N' t0 : Nat) {cA : ClassId} (hty : newarray.typeOf atype = ty) (harr : Cond.arrayClass ty ∈ Ts) (hp : refKind ty = false) (ht : tys[t0]? = some (cA, ty)) (ha : ∀ c : ClassId, vp_cell c (N', .inl (fun _ => 0)) = arrV c N' (fun _ => defaultValue ty)) (hn : ¬ n < 0) (hN : n.toNatClampNeg = N') (hby : N' * componentBytes ty ≤ 536870912) (hk1 : kn' = (kn.1 + 1, kn.2 + N')) (hk2 : kn'.1 ≤ rm.cells ∧ kn'.2 ≤ rm.slots) (hd : decode cc pc = .ok (.newarray atype, 2))
    (k : ∀ q : Nat, Z E kn' lv (pc + 2) (.ref q :: st) (ws ++ [(q, .inl (cA, N', .inl (fun _ => 0)))])) : Z E kn lv pc (.int n :: st) ws := fun ls H locs hl hP hD hS => by
  subst hk1
  refine va_newa (a0 := (N', .inl (fun _ => 0))) hC.x hC.b (by rw [hty]; exact hC.t _ harr) hty hC.k hP hD hS hC.a ha hn hN hby (by rw [hC.r]; exact hk2.1) (by rw [hC.r]; exact hk2.2) hd (fun q c1 H1 hK1 hP1 hD1 hS1 => ?_)
  have e1 := (hK1.2 tys.length (c1, ty) (by simp)).2
  have e2 := (hC.k.2 t0 _ ht).2
  have e : c1 = cA := zRA_eq hp e1 e2
  subst e
  exact k q ls H1 locs hl hP1 hD1 hS1
theorem zcore_c {mc ms : Nat} {post : va_W → Prop} {H : Heap} {locs : List Loc} {ls : Array Slot} {a : Array Value} (kn' : Nat × Nat) (hk1 : kn' = (kn.1 + mc, kn.2 + ms)) (hC : ZC E nL cc Ts own rm ret tys) (hl : lv_has ls (zn E) lv) (hP : va_P (zD E) vwCl ws H) (hD : va_D (zA E) ws) (hS : va_S (zA E) (zs E).heap H locs) (is : List Nat) (hm : is.map (fun i => ws[i]?) = wc.map some)
    (hrun : va_Run (zp E) (zl E) (ze E) (zR E) (zs E) (zm E) (za E) (zb E) (zme E) (zc E) H locs kn.1 kn.2 mc ms (F0 (zm E) pc ls st0) st (va_Qv post (zU (zD E) tys wc H.size) (va_A wc H.size) a) (va_A wc H.size))
    (kk : ∀ u, post u → ∃ uA uB, u = uA ++ uB ∧ is.length = uA.length ∧ Z E kn' lv (pc + 3) st (zput ws is uA ++ uB)) : W (zp E) (zl E) (ze E) (zR E) (zs E) (zm E) (za E) (zb E) (zme E) (zc E) H locs kn.1 kn.2 (zQ E) (F0 (zm E) pc ls st0) := by
  subst hk1
  have hF := va_free hD hS hC.a is hm
  refine va_callv hrun hS (fun q _ h => hF q h) hF (fun u t H1 locs1 ht hvm hw hB hz hk hS1 => ?_)
  obtain ⟨uA, uB, rfl, hlen, kz⟩ := kk u hw
  obtain ⟨hP1, hK1, hD1⟩ := hB
  rw [ht] at hP1
  obtain ⟨hP2, hD2⟩ := zput_app hP hD is hm hlen hF hk hP1 hD1
  exact kz ls H1 locs1 hl hP2 hD2 hS1
theorem z_callI (kn' : Nat × Nat) (hC : ZC E nL cc Ts own rm ret tys) (hN : ZN sK sV (zA E) (zs E)) {y : MethodName} {wsy ws' : List Cond} {rmy : Room} {bytes : ByteArray} {maxL index b mc ms : Nat} {post : va_W → Prop} (As : List Value) (is : List Nat)
    (hM : ZMc sK sV (zl E) y wsy rmy (zD E) tys (.ref b :: As) wc mc ms post) (hw : wsy = Cond.code y bytes maxL none :: ws') (hrc : rmy.cells = mc ∧ rmy.slots = ms) (hG : GoodIn Ts wsy) (w1 : Cond.initialized y.cls ∈ Ts) (w2 : Cond.methodLink own index y ∈ Ts) (w3 : Cond.instanceMethod y ∈ Ts) (hy : y.name = "<init>")
    (hd : y.cls ≠ "java/lang/invoke/MethodHandle" ∧ y.cls ≠ "java/lang/invoke/VarHandle" ∧ (parseMethodDescriptor y.desc).map (fun d => d.parameters.length) = some As.length) (hroom : rmy.frames + 1 ≤ rm.frames ∧ 8 + (maxL + 11) + rmy.locals ≤ rm.locals) (hk1 : kn' = (kn.1 + mc, kn.2 + ms)) (hk2 : kn'.1 ≤ rm.cells ∧ kn'.2 ≤ rm.slots) (hst : st0 = As.reverse ++ .ref b :: st) (hcat : (st.map fun v => v.category).sum ≤ 8) (hm : is.map (fun i => ws[i]?) = wc.map some) (hnd : va_nd is = true) (hdg : decode cc pc = .ok (.invokespecial index, 3))
    (kk : ∀ u, post u → ∃ uA uB, u = uA ++ uB ∧ is.length = uA.length ∧ Z E kn' lv (pc + 3) st (zput ws is uA ++ uB)) : Z E kn lv pc st0 ws := by
  intro ls H locs hl hP hD hS
  have hk3 : kn.1 + mc ≤ (zR E).cells ∧ kn.2 + ms ≤ (zR E).slots := by rw [hC.r]; subst hk1; exact hk2
  exact zcore_c kn' hk1 hC hl hP hD hS is hm (va_runI (As := As) (rest := st) ⟨hC.x, hC.b, hC.ml, hC.o, hC.t⟩ (hM H.size) (cwI As.length hC.t hG hw hrc.1 hrc.2 (hC.t _ w1) (hC.t _ w2) (hC.t _ w3) hy hd (by rw [hC.r]; exact hroom)) ⟨z_blind, z_preB hC hN hm hnd hP hD hS⟩ rfl rfl (by rw [← hC.n]; exact hl.1) hst (lv_room hcat) hdg hk3) kk
theorem z_callIN (kn' : Nat × Nat) (hC : ZC E nL cc Ts own rm ret tys) (hN : ZN sK sV (zA E) (zs E)) {y : MethodName} {wsy ws' : List Cond} {rmy : Room} {bytes : ByteArray} {maxL index b mc ms : Nat} {post : va_W → Prop} (As : List Value) (is : List Nat)
    (hM : ZMc sK sV (zl E) y wsy rmy (zD E) tys (.ref b :: As) wc mc ms post) (hw : wsy = Cond.code y bytes maxL none :: ws') (hrc : rmy.cells = mc ∧ rmy.slots = ms) (hG : GoodIn Ts wsy) (hnw : (own, index, y) ∈ zNs) (w1 : Cond.initialized y.cls ∈ Ts) (w3 : Cond.instanceMethod y ∈ Ts) (hy : y.name = "<init>")
    (hd : y.cls ≠ "java/lang/invoke/MethodHandle" ∧ y.cls ≠ "java/lang/invoke/VarHandle" ∧ (parseMethodDescriptor y.desc).map (fun d => d.parameters.length) = some As.length) (hroom : rmy.frames + 1 ≤ rm.frames ∧ 8 + (maxL + 11) + rmy.locals ≤ rm.locals) (hk1 : kn' = (kn.1 + mc, kn.2 + ms)) (hk2 : kn'.1 ≤ rm.cells ∧ kn'.2 ≤ rm.slots) (hst : st0 = As.reverse ++ .ref b :: st) (hcat : (st.map fun v => v.category).sum ≤ 8) (hm : is.map (fun i => ws[i]?) = wc.map some) (hnd : va_nd is = true) (hdg : decode cc pc = .ok (.invokespecial index, 3))
    (kk : ∀ u, post u → ∃ uA uB, u = uA ++ uB ∧ is.length = uA.length ∧ Z E kn' lv (pc + 3) st (zput ws is uA ++ uB)) : Z E kn lv pc st0 ws := by
  intro ls H locs hl hP hD hS
  have hk3 : kn.1 + mc ≤ (zR E).cells ∧ kn.2 + ms ≤ (zR E).slots := by rw [hC.r]; subst hk1; exact hk2
  exact zcore_c kn' hk1 hC hl hP hD hS is hm (va_runIN (As := As) (rest := st) ⟨hC.x, hC.b, hC.ml, hC.o, hC.t⟩ (hM H.size) ⟨va_cnB As.length hC.t hG hw hrc.1 hrc.2 (hN.1 _ hnw) (hC.t _ w1) hd (by rw [hC.r]; exact hroom), hy, hC.t _ w3⟩ ⟨z_blind, z_preB hC hN hm hnd hP hD hS⟩ rfl rfl (by rw [← hC.n]; exact hl.1) hst (lv_room hcat) hdg hk3) kk
end ZCT
