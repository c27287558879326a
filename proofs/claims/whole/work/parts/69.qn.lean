/-! PURE PART QN: fewest -/
theorem co_ag {n : Nat} {f f' d0 d0' d : Nat → Nat} (hf : AG n f f') (hd : AG n d0 d0') : ∀ j, j ≤ n → co f' d0' d j = co f d0 d j
  | 0, _ => rfl
  | j + 1, h => by rw [co, co, co_ag hf hd j (by omega), hf j (by omega), hd j (by omega)]
theorem WIN_EE {n p : Nat} {k k' : Nat → Nat} {s s' : RS} (hb : RB n k s) (hk : AG n k k') (hs : SG n s s') (n0 : 0 < n) {d : Nat → Nat} (hd : ∀ q, d q < 3) : WIN n k' s'.1 s'.2 p d ↔ (EE n k s.2.1 8 d 0).1 = p := by
  have hn := hb.1.1
  have S1 : SG n (ly d s.1 n, s.2) (ly d s'.1 n, s'.2) := by
    refine ⟨fun q hq => ?_, hs.2⟩
    show (if q < n then d q else s.1 q) = if q < n then d q else s'.1 q
    rw [if_pos hq, if_pos hq]
  have rb : RB n k (ly d s.1 n, s.2) := by
    refine ⟨⟨hn, fun q hq => ⟨(hb.1.2 q hq).1, ?_, (hb.1.2 q hq).2.2⟩⟩, hb.2⟩
    show (if q < n then d q else s.1 q) < 3
    split
    · exact hd q
    · exact (hb.1.2 q hq).2.1
  have e0 := (sg_toE hk 8 _ _ S1).2.1 0 n0
  obtain ⟨T1, T2, T3⟩ := TSt_toE (k := k) 8 (TSt_ini n (ly d s.1 n, s.2))
  obtain ⟨R1, R2⟩ := toE_ok (n := n) (k := k) 8 _ rb
  have t := lds_le n s.2.1
  have l1 := R2 (by show lds n s.2.1 ≤ 8 + 1; omega)
  have len := itr_len (n := n) (k := k) (f := s.2.1) (ly d s.1 n) 8
  have m1 := (MM_le (m := lds n s.2.1) 8).2 (lds_pos hb.2 n0)
  have loc := (EE_loc (n := n) (k := k) (f := s.2.1) (wt := fun _ _ => 0) (d := ly d s.1 n) (d' := d) 8 0 (by omega) (fun q hq _ _ => by show (if q < n then d q else s.1 q) = d q; rw [if_pos hq])).1
  have mem : EE n k s.2.1 8 (ly d s.1 n) 0 ∈ itr k 8 (ini n (ly d s.1 n) s.2.1) := by
    unfold EE
    rw [List.getD_eq_getElem?_getD, List.getElem?_eq_getElem (show 0 < (itr k 8 (ini n (ly d s.1 n) s.2.1)).length by omega)]
    exact List.getElem_mem _
  obtain ⟨x1, x2, -⟩ := T1 _ mem
  have le := (lead_iff R1.2 l1 x1).mp x2
  unfold WIN
  rw [← e0, le, loc]
theorem s_fewest {N : Nat} {u v : Nat} {xp R T gs c1 c2 c3 t1 t2 t3 t4 fs x y : Int32} {K D L w was cp I E bh G Tr B V : Nat → Int32} (hN : 6999 < N) (hh : HREL xp R T K D L w) :
    ∃ r X t1' t2' t3' t4' F w' Y, o_X8_fewest N u v xp K D L gs G Tr B V c1 c2 c3 x y = some (r, X) ∧ o_X9_fewest N t1 t2 t3 t4 fs w was cp I E bh x y = some (r, t1', t2', t3', t4', F, w', Y) ∧ HREL xp R T K D L w' := by
  have h0 := hh
  obtain ⟨n, k, k', s, s', ⟨rfl, rfl, rfl, hK, hD, hL⟩, hM, hb, hb', hk, hs, h1⟩ := hh
  have hn := hb.1.1
  obtain ⟨nl1, nl2⟩ := m_notL (N := N) (x := x) hM.1 hb'.1
  have no : ∀ r : Int32, o_X8_fewest N u v (nI n) K D L gs G Tr B V c1 c2 c3 x y = some (r, gs, u, v, G, Tr, B, V, c1, c2, c3) → o_X9_fewest N t1 t2 t3 t4 fs w was cp I E bh x y = some (r, t1, t2, t3, t4, fs, w, was, cp, I, E, bh) →
      ∃ r X t1' t2' t3' t4' F w' Y, o_X8_fewest N u v (nI n) K D L gs G Tr B V c1 c2 c3 x y = some (r, X) ∧ o_X9_fewest N t1 t2 t3 t4 fs w was cp I E bh x y = some (r, t1', t2', t3', t4', F, w', Y) ∧ HREL (nI n) s.2.2.1 s.2.2.2 K D L w' :=
    fun r g1 g2 => ⟨r, _, t1, t2, t3, t4, fs, w, _, g1, g2, h0⟩
  by_cases cx : ∃ r, r < n ∧ x = nI r
  · have xpl : o_X8_isPlayer N (nI n) x = some 1 := by rw [x_isPl hn, if_pos cx]
    by_cases cy : y = -1 ∨ ∃ r, r < n ∧ y = nI r
    · -- the arguments are such as it asks for
      have b8 : o_X8_fewest N u v (nI n) K D L gs G Tr B V c1 c2 c3 x y = o_X8_fewest_24 N u v (nI n) K D L gs G Tr B V c1 c2 c3 x y := by
        rw [o_X8_fewest, xpl, Option.bind_some, if_neg (by decide)]
        by_cases z : y = -1
        · rw [if_pos z]
        · have cy' : ∃ r, r < n ∧ y = nI r := cy.elim (fun q => absurd q z) id
          rw [if_neg z, x_isPl hn, if_pos cy', Option.bind_some, if_neg (by decide)]
      have b9 : o_X9_fewest N t1 t2 t3 t4 fs w was cp I E bh x y = o_X9_fewest_18 N t1 t2 t3 t4 fs w was cp I E bh x y := by
        rw [o_X9_fewest]
        by_cases z : y = -1
        · rw [if_pos z]
        · have cy' : ∃ r, r < n ∧ y = nI r := cy.elim (fun q => absurd q z) id
          rw [if_neg z, m_isPl hM.1 hn, if_pos cy', Option.bind_some, if_neg (by decide)]
      obtain ⟨p, hp, rfl⟩ := cx
      have ml := nl2 p hp rfl
      by_cases e : s.2.1 p = p
      · have e' : s'.2.1 p = p := by rw [← hs.2.1 p hp]; exact e
        rw [if_pos e'] at ml
        have ld1 := lds_pos hb.2 (show 0 < n by omega)
        obtain ⟨way, X, w1, w2⟩ := x_bestFor (N := N) (u := u) (v := v) (p := p) (c1 := c1) (c2 := c2) (c3 := c3) (G := G) (T := Tr) (B := B) (V := V) (by omega) hn (show p < 8 by omega) hK hD hL ld1
        obtain ⟨a1, a2, a3, a4, F', w', u', cp', I', E', bh', f1, f2, f3, f4⟩ := m_find (N := N) (n := n) (p := p) (k := k') (d0 := s'.1) (fo := s'.2) (t1 := t1) (t2 := t2) (t3 := t3) (t4 := t4) (u := was) (cp := cp) (I := I) (E := E) (bh := bh) hN (by omega) hM hb'
        have hr : HREL (nI n) s.2.2.1 s.2.2.2 K D L w' := HREL_congr h0 (fun j hj => ⟨rfl, rfl, rfl⟩) f3
        rw [b8, b9]
        have r8 : ∀ {z}, (if way = 1073741824 then some (-1000000, X) else if y = -1 then Option.bind (o_X7_othersOf N way) (fun r66 => some (r66, X)) else Option.bind (o_X3_leads N L y) (fun r75 => if r75 = 0 then ogd (inb y 8) (some (D y.toNatClampNeg, X)) else Option.bind (o_X7_handIn N way y) (fun r83 => some (r83, X)))) = z → o_X8_fewest_24 N u v (nI n) K D L gs G Tr B V c1 c2 c3 (nI p) y = z := by
          intro z hz
          rw [o_X8_fewest_24, p_X3_leads_if hL (by omega) _ (fun r => rfl), if_pos e, w1, Option.bind_some]
          exact hz
        have r9 : ∀ {z}, (if nI F' = 100 then some (-1000000, a1, a2, a3, a4, nI F', w', u', cp', I', E', bh') else if y = -1 then some (nI F', a1, a2, a3, a4, nI F', w', u', cp', I', E', bh') else ogd (inb y 8) (some (bh' y.toNatClampNeg, a1, a2, a3, a4, nI F', w', u', cp', I', E', bh'))) = z → o_X9_fewest_18 N t1 t2 t3 t4 fs w was cp I E bh (nI p) y = z := by
          intro z hz
          rw [o_X9_fewest_18, ml, Option.bind_some, o_X9_fewest_23, if_pos rfl, f1, Option.bind_some]
          exact hz
        have wayOf : ∀ b, (∀ q, b q < 3) → GOOD n k' s'.1 s'.2 p b → WAY n k s.2.1 (wt s.1) p (wn s.2.1 s.1 b n) := by
          intro b hb3 hg
          exact ⟨b, hb3, (WIN_EE hb hk hs (by omega) hb3).mp hg.2, CC_wn (k := k) hn ld1⟩
        rcases w2 with ⟨q1, q2⟩ | ⟨c, q1, q2, ⟨d1, d2, d3, d4⟩, q4⟩
        · have F1 : F' = 100 := by
            rcases f4 with ⟨z, -⟩ | ⟨b, z1, z2, -⟩
            · exact z
            · exact absurd (wayOf b z1 z2) (q2 _)
          refine ⟨-1000000, X, a1, a2, a3, a4, nI F', w', (u', cp', I', E', bh'), r8 (by rw [if_pos q1]), r9 (by rw [if_pos (by rw [F1]; rfl)]), hr⟩
        · -- the class's way as hands of all
          have dd : ∀ q, (fun q => if q < n then (if s.2.1 q = q then d1 q else s.1 q) else 0) q < 3 := by
            intro q
            dsimp only
            split
            · split
              · exact d2 q
              · exact (hb.1.2 q (by omega)).2.1
            · omega
          have loc := EE_loc (n := n) (k := k) (f := s.2.1) (wt := wt s.1) (d := fun q => if q < n then (if s.2.1 q = q then d1 q else s.1 q) else 0) (d' := d1) 8 0 ((MM_le (m := lds n s.2.1) 8).2 ld1) (fun q a b _ => by show (if q < n then (if s.2.1 q = q then d1 q else s.1 q) else 0) = d1 q; rw [if_pos a, if_pos b])
          generalize hdt : (fun q => if q < n then (if s.2.1 q = q then d1 q else s.1 q) else 0) = dt at *
          have nonl : ∀ q, q < n → ¬ s.2.1 q = q → dt q = s.1 q := by
            intro q a b
            rw [← hdt]
            dsimp only
            rw [if_pos a, if_neg b]
          have cdt : wn s.2.1 s.1 dt n = c := by rw [← CC_wn (k := k) hn ld1, loc.2, d4]
          have codt := co_oth (f := s.2.1) (d0 := s.1) (d := dt) n nonl
          have odt := oth_le (f := s.2.1) (d0 := s.1) (d := dt) n
          have gdt : GOOD n k' s'.1 s'.2 p dt := by
            refine ⟨?_, (WIN_EE hb hk hs (by omega) dd).mpr (by rw [loc.1]; exact d3)⟩
            rw [co_ag hs.2.1 hs.1 n (Nat.le_refl n), codt]; omega
          rcases f4 with ⟨-, z⟩ | ⟨b, z1, z2, z3, z4, z5, z6⟩
          · exact absurd gdt (z dt dd (cd_lt dd n))
          · have cob : co s'.2.1 s'.1 b n = co s.2.1 s.1 b n := co_ag hs.2.1 hs.1 n (Nat.le_refl n)
            have nonb : ∀ q, q < n → ¬ s.2.1 q = q → b q = s.1 q := co_non n (by rw [← cob]; exact z2.1)
            have cb := co_oth (f := s.2.1) (d0 := s.1) (d := b) n nonb
            have ob := oth_le (f := s.2.1) (d0 := s.1) (d := b) n
            have opt := z6 dt dd (cd_lt dd n) gdt
            rw [co_ag hs.2.1 hs.1 n (Nat.le_refl n), codt, z3, cob, cb] at opt
            have le1 : wn s.2.1 s.1 b n ≤ c := by
              rw [← cdt]
              exact wn_le hn z1 dd (fun q a g => by rw [nonb q a g, nonl q a g]) opt
            have le2 := q4 _ (wayOf b z1 z2)
            have ce : c = wn s.2.1 s.1 b n := by omega
            have F8 : F' = oth s.2.1 s.1 b n := by rw [z3, cob, cb]
            have nF : ¬ nI F' = 100 := fun q => by
              have := (nI_eq (a := F') (b := 100) (by omega) (by omega)).mp q
              omega
            have nW : ¬ way = 1073741824 := by rw [q1]; exact nw_ne (by omega)
            by_cases yz : y = -1
            · refine ⟨nI F', X, a1, a2, a3, a4, nI F', w', (u', cp', I', E', bh'), r8 ?_, r9 ?_, hr⟩
              · rw [if_neg nW, if_pos yz, q1, x_others (by omega), Option.bind_some, ce, wn_oth z1 hn, F8]
              · rw [if_neg nF, if_pos yz]
            · obtain ⟨q, hq, rfl⟩ : ∃ r, r < n ∧ y = nI r := cy.elim (fun q => absurd q yz) id
              refine ⟨nI (b q), X, a1, a2, a3, a4, nI F', w', (u', cp', I', E', bh'), r8 ?_, r9 ?_, hr⟩
              · rw [if_neg nW, if_neg yz, p_X3_leads_if hL (by omega) _ (fun r => rfl)]
                by_cases g : s.2.1 q = q
                · rw [if_pos g, q1, x_handIn (by omega) (by omega), Option.bind_some, ce, wn_hand z1 hn hq g]
                · rw [if_neg g, ogd_t (inb_ok (by omega) (by omega)), cl_nI (by omega), (hD q (by omega)).1, nonb q hq g]
              · rw [if_neg nF, if_neg yz, ogd_t (inb_ok (by omega) (by omega)), cl_nI (by omega), z4 q hq]
      · have e' : ¬ s'.2.1 p = p := by rw [← hs.2.1 p hp]; exact e
        rw [if_neg e'] at ml
        refine no (-1000002) ?_ ?_
        · rw [b8, o_X8_fewest_24, p_X3_leads_if hL (by omega) _ (fun r => rfl), if_neg e]
        · rw [b9, o_X9_fewest_18, ml, Option.bind_some, o_X9_fewest_23, if_neg (by decide)]
    · have z : ¬ y = -1 := fun q => cy (Or.inl q)
      have z2 : ¬ ∃ r, r < n ∧ y = nI r := fun q => cy (Or.inr q)
      refine no (-1000001) ?_ ?_
      · rw [o_X8_fewest, xpl, Option.bind_some, if_neg (by decide), if_neg z, x_isPl hn, if_neg z2, Option.bind_some, if_pos rfl]
      · rw [o_X9_fewest, if_neg z, m_isPl hM.1 hn, if_neg z2, Option.bind_some, if_pos rfl, o_X9_fewest_23, if_neg (by decide)]
  · have ml := nl1 cx
    refine no (-1000001) ?_ ?_
    · rw [o_X8_fewest, x_isPl hn, if_neg cx, Option.bind_some, if_pos rfl]
    · have k18 : o_X9_fewest_18 N t1 t2 t3 t4 fs w was cp I E bh x y = some (-1000001, t1, t2, t3, t4, fs, w, was, cp, I, E, bh) := by
        rw [o_X9_fewest_18, ml, Option.bind_some, o_X9_fewest_23, if_neg (by decide)]
      rw [o_X9_fewest]
      by_cases z : y = -1
      · rw [if_pos z, k18]
      · rw [if_neg z, m_isPl hM.1 hn, k18]
        by_cases z2 : ∃ r, r < n ∧ y = nI r
        · rw [if_pos z2, Option.bind_some, if_neg (by decide)]
        · rw [if_neg z2, Option.bind_some, if_pos rfl, o_X9_fewest_23, if_neg (by decide)]
