/-! PURE PART QA: ask -/
def EL (a b : Option (Int32 × (Nat → Int32))) : Prop := ∃ xl xb ml mb, a = some (xl, xb) ∧ b = some (ml, mb) ∧ TC xl xb ml mb
def EQ (a b : Option (Int32 × Int32 × (Nat → Int32))) : Prop := ∃ r xl xb ml mb, a = some (r, xl, xb) ∧ b = some (r, ml, mb) ∧ TC xl xb ml mb
theorem EL_b {a b : Option (Int32 × (Nat → Int32))} {f g : Int32 × (Nat → Int32) → Option (Int32 × Int32 × (Nat → Int32))} (h : EL a b) (k : ∀ xl xb ml mb, TC xl xb ml mb → EQ (f (xl, xb)) (g (ml, mb))) : EQ (a.bind f) (b.bind g) := by
  obtain ⟨xl, xb, ml, mb, rfl, rfl, h⟩ := h
  exact k xl xb ml mb h
theorem EQ_b {a b : Option (Int32 × Int32 × (Nat → Int32))} {f g : Int32 × Int32 × (Nat → Int32) → Option (Int32 × Int32 × (Nat → Int32))} (h : EQ a b) (k : ∀ r xl xb ml mb, TC xl xb ml mb → EQ (f (r, xl, xb)) (g (r, ml, mb))) : EQ (a.bind f) (b.bind g) := by
  obtain ⟨r, xl, xb, ml, mb, rfl, rfl, h⟩ := h
  exact k r xl xb ml mb h
theorem EQ_s {r xl ml : Int32} {xb mb : Nat → Int32} (h : TC xl xb ml mb) : EQ (some (r, xl, xb)) (some (r, ml, mb)) := ⟨r, xl, xb, ml, mb, rfl, rfl, h⟩
theorem EQ_i {p q : Prop} [Decidable p] [Decidable q] {a b c d : Option (Int32 × Int32 × (Nat → Int32))} (e : p ↔ q) (h1 : p → EQ a c) (h2 : ¬ p → EQ b d) : EQ (if p then a else b) (if q then c else d) := by
  by_cases x : p
  · rw [if_pos x, if_pos (e.mp x)]; exact h1 x
  · rw [if_neg x, if_neg (fun y => x (e.mpr y))]; exact h2 x
theorem a_note {N : Nat} {xl ml c : Int32} {xb mb : Nat → Int32} (h : TC xl xb ml mb) : EL (o_X1_leave N xl xb c) (o_X9_note N ml mb c) := by
  obtain ⟨n, hn, rfl, rfl, hb⟩ := h
  have e16 : (16 : Int32) = nI 16 := rfl
  by_cases e : 16 ≤ n
  · refine ⟨nI n, xb, nI n, mb, ?_, ?_, n, hn, rfl, rfl, hb⟩
    · rw [o_X1_leave, e16, ifle (by omega) (by omega), if_pos e]
    · rw [o_X9_note, e16, ifle (by omega) (by omega), if_pos e]
  · refine ⟨nI (n + 1), upd xb n c, nI (n + 1), upd mb n c, ?_, ?_, n + 1, by omega, rfl, rfl, fun i hi => ?_⟩
    · rw [o_X1_leave, e16, ifle (by omega) (by omega), if_neg e, ogd_t (inb_ok (by omega) (by omega)), cl_nI (by omega), nI_1]
    · rw [o_X9_note, e16, ifle (by omega) (by omega), if_neg e, ogd_t (inb_ok (by omega) (by omega)), cl_nI (by omega), nI_1]
    · by_cases q : i = n
      · subst q; rw [upd_eq, upd_eq]
      · rw [upd_ne q, upd_ne q]; exact hb i (by omega)
section ASK
variable {N n p a d t : Nat} {q xl ml : Int32} {K D L w xb mb : Nat → Int32}
theorem a_plainMark (h : TC xl xb ml mb) : EQ (o_X1_markOfPlayer N xl xb (nI p)) (o_X9_plainMark N ml mb (nI p)) := by
  rw [o_X1_markOfPlayer, o_X9_plainMark]
  exact EL_b (a_note h) fun _ _ _ _ h => EQ_s h
theorem a_plainSize (hp : p < 8) (hx : o_X3_trainOf N (nI n) L (nI p) = some (nI t)) (mL : w (17 + p) = q) (ms : o_X9_sizeOf N w q = some (nI t)) (h : TC xl xb ml mb) : EQ (o_X1_sizeOfPlayer N xl xb (nI n) L (nI p)) (o_X9_plainSize N ml w mb (nI p)) := by
  have g : inb (nI (17 + p)) 27 = true := inb_ok (by omega) (by omega)
  rw [o_X1_sizeOfPlayer, o_X9_plainSize, hx, l17_, nI_add]
  simp only [ogd_t g]
  rw [cl_nI (by omega), mL, ms]
  exact EL_b (a_note h) fun _ _ _ _ h => EQ_s h
theorem a_boyMark (hp : p < 8) (hD : D p = nI d) (mD : w (9 + p) = nI d) (h : TC xl xb ml mb) : EQ (o_X1_markOfBoy N xl xb D (nI p)) (o_X9_boyMark N ml w mb (nI p)) := by
  have g : inb (nI (9 + p)) 27 = true := inb_ok (by omega) (by omega)
  have g' : inb (nI p) 8 = true := inb_ok (by omega) (by omega)
  rw [o_X1_markOfBoy, o_X9_boyMark, l9_, nI_add]
  simp only [ogd_t g, ogd_t g']
  rw [cl_nI (by omega), cl_nI (by omega), hD, mD]
  exact EL_b (a_note h) fun _ _ _ _ h => EQ_b (a_plainMark h) fun _ _ _ _ _ h => EQ_s h
theorem a_mirrorSize (hp : p < 8) (hx : o_X3_trainOf N (nI n) L (nI p) = some (nI t)) (mL : w (17 + p) = q) (ms : o_X9_sizeOf N w q = some (nI t)) (h : TC xl xb ml mb) : EQ (o_X1_sizeOfMirror N xl xb (nI n) L (nI p)) (o_X9_mirrorSize N ml w mb (nI p)) := by
  rw [o_X1_sizeOfMirror, o_X9_mirrorSize]
  exact EL_b (a_note h) fun _ _ _ _ h => EQ_b (a_plainSize hp hx mL ms h) fun _ _ _ _ _ h => EQ_s h
theorem a_own (hp : p < 8) (hK : K p = nI a) (mK : w (1 + p) = nI a) (hx : o_X3_trainOf N (nI n) L (nI p) = some (nI t)) (mL : w (17 + p) = q) (ms : o_X9_sizeOf N w q = some (nI t)) (h : TC xl xb ml mb) : EQ (o_X1_sizeOfMirrorOrSpy N xl xb (nI n) K L (nI p)) (o_X9_mirrorOwnSize N ml w mb (nI p)) := by
  rw [o_X1_sizeOfMirrorOrSpy, o_X9_mirrorOwnSize, l1_, nI_add, ogd_t (inb_ok (by omega) (by omega)), ogd_t (inb_ok (by omega) (by omega)), cl_nI (by omega), cl_nI (by omega), hK, mK]
  refine EQ_i Iff.rfl (fun _ => ?_) (fun _ => ?_)
  · exact EL_b (a_note h) fun _ _ _ _ h => EQ_b (a_mirrorSize hp hx mL ms h) fun _ _ _ _ _ h => EQ_s h
  · exact EQ_b (a_mirrorSize hp hx mL ms h) fun _ _ _ _ _ h => EQ_s h
theorem a_mirrorMark (hp : p < 8) (hK : K p = nI a) (mK : w (1 + p) = nI a) (hx : o_X3_trainOf N (nI n) L (nI p) = some (nI t)) (mL : w (17 + p) = q) (ms : o_X9_sizeOf N w q = some (nI t)) (h : TC xl xb ml mb) : EQ (o_X1_markOfMirror N xl xb (nI n) K L (nI p)) (o_X9_mirrorMark N ml w mb (nI p)) := by
  rw [o_X1_markOfMirror, o_X9_mirrorMark]
  exact EL_b (a_note h) fun _ _ _ _ h => EQ_b (a_plainMark h) fun _ _ _ _ _ h => EQ_b (a_own hp hK mK hx mL ms h) fun _ _ _ _ _ h => EQ_s h
theorem a_boyish (hp : p < 8) (a1 : 1 ≤ a) (a3 : a ≤ 3) (hK : K p = nI a) (mK : w (1 + p) = nI a) (hD : D p = nI d) (mD : w (9 + p) = nI d) (h : TC xl xb ml mb) : EQ (o_X1_markOfBoyish N xl xb K D (nI p)) (o_X9_mark N ml w mb (nI p)) := by
  rw [o_X1_markOfBoyish, o_X9_mark]
  rw [show (1 : Int32) + nI p = nI (1 + p) from nI_add 1 p, ogd_t (inb_ok (by omega) (by omega)), ogd_t (inb_ok (by omega) (by omega)), cl_nI (by omega), cl_nI (by omega), hK, mK]
  have B {xl ml : Int32} {xb mb : Nat → Int32} (h : TC xl xb ml mb) := a_boyMark (N := N) hp hD mD h
  rcases (show a = 1 ∨ a = 2 ∨ a = 3 by omega) with e | e | e
  · subst e
    rw [if_neg (by decide), if_neg (by decide), if_pos (show nI 1 = 1 from rfl)]
    exact EQ_b (B h) fun _ _ _ _ _ h => EQ_s h
  · subst e
    rw [if_pos (show nI 2 = 2 from rfl), if_neg (by decide), if_pos (show nI 2 = 2 from rfl)]
    exact EL_b (a_note h) fun _ _ _ _ h => EQ_b (B h) fun _ _ _ _ _ h => EQ_s h
  · subst e
    rw [if_neg (by decide), if_pos (show nI 3 = 3 from rfl), if_neg (by decide), if_neg (by decide), if_pos (show nI 3 = 3 from rfl)]
    exact EL_b (a_note h) fun _ _ _ _ h => EQ_b (B h) fun _ _ _ _ _ h => EQ_s h
theorem x_boyish {N a : Nat} (a1 : 1 ≤ a) (a5 : a ≤ 5) : o_X8_isBoyish N (nI a) = some (if a ≤ 3 then 1 else 0) := by
  rw [o_X8_isBoyish]
  rcases (show a = 1 ∨ a = 2 ∨ a = 3 ∨ a = 4 ∨ a = 5 by omega) with e | e | e | e | e <;> subst e <;> decide
theorem a_mark (hp : p < 8) (a1 : 1 ≤ a) (a5 : a ≤ 5) (hK : K p = nI a) (mK : w (1 + p) = nI a) (hD : D p = nI d) (mD : w (9 + p) = nI d) (hx : o_X3_trainOf N (nI n) L (nI p) = some (nI t)) (mL : w (17 + p) = q) (ms : o_X9_sizeOf N w q = some (nI t)) (h : TC xl xb ml mb) : EQ (o_X1_markOf N xl xb (nI n) K D L (nI p)) (o_X9_mark N ml w mb (nI p)) := by
  rw [o_X1_markOf, ogd_t (inb_ok (by omega) (by omega)), cl_nI (by omega), hK, x_boyish a1 a5, Option.bind_some]
  by_cases e : a ≤ 3
  · rw [if_pos e, if_neg (by decide)]
    have := a_boyish (N := N) hp a1 e hK mK hD mD h
    obtain ⟨r, xl', xb', ml', mb', g1, g2, g3⟩ := this
    rw [g1, g2]
    exact EQ_s g3
  · rw [if_neg e, if_pos rfl, o_X9_mark, show (1 : Int32) + nI p = nI (1 + p) from nI_add 1 p, ogd_t (inb_ok (by omega) (by omega)), cl_nI (by omega), mK]
    rw [if_neg (show ¬ nI a = 1 from fun g => by have := (nI_eq (a := a) (b := 1) (by omega) (by omega)).mp g; omega), if_neg (show ¬ nI a = 2 from fun g => by have := (nI_eq (a := a) (b := 2) (by omega) (by omega)).mp g; omega), if_neg (show ¬ nI a = 3 from fun g => by have := (nI_eq (a := a) (b := 3) (by omega) (by omega)).mp g; omega)]
    exact EQ_b (a_mirrorMark hp hK mK hx mL ms h) fun _ _ _ _ _ h => EQ_s h
theorem a_boySize (hp : p < 8) (a1 : 1 ≤ a) (a3 : a ≤ 3) (hK : K p = nI a) (mK : w (1 + p) = nI a) (hD : D p = nI d) (mD : w (9 + p) = nI d) (hx : o_X3_trainOf N (nI n) L (nI p) = some (nI t)) (mL : w (17 + p) = q) (ms : o_X9_sizeOf N w q = some (nI t)) (h : TC xl xb ml mb) : EQ (o_X1_sizeOfBoy N xl xb (nI n) K D L (nI p)) (o_X9_boySize N ml w mb (nI p)) := by
  rw [o_X1_sizeOfBoy, o_X9_boySize]
  exact EL_b (a_note h) fun _ _ _ _ h => EQ_b (a_plainSize hp hx mL ms h) fun _ _ _ _ _ h => EQ_b (a_boyish hp a1 a3 hK mK hD mD h) fun _ _ _ _ _ h => EQ_s h
theorem a_size (hp : p < 8) (a1 : 1 ≤ a) (a5 : a ≤ 5) (hK : K p = nI a) (mK : w (1 + p) = nI a) (hD : D p = nI d) (mD : w (9 + p) = nI d) (hx : o_X3_trainOf N (nI n) L (nI p) = some (nI t)) (mL : w (17 + p) = q) (ms : o_X9_sizeOf N w q = some (nI t)) (h : TC xl xb ml mb) : EQ (o_X1_sizeOf N xl xb (nI n) K D L (nI p)) (o_X9_size N ml w mb (nI p)) := by
  rw [o_X1_sizeOf, o_X9_size]
  rw [show (1 : Int32) + nI p = nI (1 + p) from nI_add 1 p, ogd_t (inb_ok (by omega) (by omega)), ogd_t (inb_ok (by omega) (by omega)), cl_nI (by omega), cl_nI (by omega), hK, mK]
  have B (a3 : a ≤ 3) {xl ml : Int32} {xb mb : Nat → Int32} (h : TC xl xb ml mb) := a_boySize (N := N) hp a1 a3 hK mK hD mD hx mL ms h
  rcases (show a = 1 ∨ a = 2 ∨ a = 3 ∨ a = 4 ∨ a = 5 by omega) with e | e | e | e | e
  · subst e
    rw [if_pos (show nI 1 = 1 from rfl), if_neg (show ¬ nI 1 = 2 by decide), if_neg (show ¬ nI 1 = 3 by decide), if_neg (show ¬ nI 1 = 4 by decide), if_neg (show ¬ nI 1 = 5 by decide)]
    exact EQ_b (B (by omega) h) fun _ _ _ _ _ h => EQ_s h
  · subst e
    rw [if_neg (show ¬ nI 2 = 1 by decide), if_pos (show nI 2 = 2 from rfl), if_pos (show nI 2 = 2 from rfl)]
    exact EL_b (a_note h) fun _ _ _ _ h => EQ_b (B (by omega) h) fun _ _ _ _ _ h => EQ_s h
  · subst e
    rw [if_neg (show ¬ nI 3 = 1 by decide), if_neg (show ¬ nI 3 = 2 by decide), if_pos (show nI 3 = 3 from rfl), if_neg (show ¬ nI 3 = 2 by decide), if_pos (show nI 3 = 3 from rfl)]
    exact EQ_b (B (by omega) h) fun _ _ _ _ _ h => EQ_s h
  · subst e
    rw [if_neg (show ¬ nI 4 = 1 by decide), if_neg (show ¬ nI 4 = 2 by decide), if_neg (show ¬ nI 4 = 3 by decide), if_neg (show ¬ nI 4 = 2 by decide), if_neg (show ¬ nI 4 = 3 by decide), if_pos (show nI 4 = 4 from rfl)]
    have := a_mirrorSize (N := N) hp hx mL ms h
    obtain ⟨r, xl', xb', ml', mb', g1, g2, g3⟩ := this
    rw [o_X1_sizeOfMirrorOrSpy, ogd_t (inb_ok (by omega) (by omega)), cl_nI (by omega), hK, if_neg (show ¬ nI 4 = 5 by decide), g1, g2]
    exact EQ_s g3
  · subst e
    rw [if_neg (show ¬ nI 5 = 1 by decide), if_neg (show ¬ nI 5 = 2 by decide), if_neg (show ¬ nI 5 = 3 by decide), if_neg (show ¬ nI 5 = 2 by decide), if_neg (show ¬ nI 5 = 3 by decide), if_neg (show ¬ nI 5 = 4 by decide), if_pos (show nI 5 = 5 from rfl)]
    rw [o_X1_sizeOfMirrorOrSpy, ogd_t (inb_ok (by omega) (by omega)), cl_nI (by omega), hK, if_pos (show nI 5 = 5 from rfl), Option.bind_assoc]
    exact EL_b (a_note h) fun _ _ _ _ h => by
      rw [Option.bind_assoc]
      exact EQ_b (a_mirrorSize hp hx mL ms h) fun _ _ _ _ _ h => EQ_s h
end ASK
theorem TC_0 {xl ml : Int32} {xb mb : Nat → Int32} (h : TC xl xb ml mb) : TC 0 xb 0 mb := ⟨0, by omega, rfl, rfl, fun i hi => by omega⟩
theorem s_ask {N : Nat} {xp R T x y xl ml : Int32} {K D L w xb mb : Nat → Int32} (hN : 9 < N) (h : TC xl xb ml mb) (hh : HREL xp R T K D L w) :
    ∃ r xl' xb' ml' mb', o_X8_ask N xp K D L xl xb x y = some (r, xl', xb') ∧ o_X9_ask N ml w mb x y = some (r, ml', mb') ∧ TC xl' xb' ml' mb' := by
  obtain ⟨n, k, k', s, s', ⟨rfl, rfl, rfl, hK, hD, hL⟩, hM, hb, hb', hk, hs, h1⟩ := hh
  have hn := hb.1.1
  by_cases c : ∃ r, r < n ∧ x = nI r
  · have xpl : o_X8_isPlayer N (nI n) x = some 1 := by rw [x_isPl hn, if_pos c]
    have mpl : o_X9_isPlayer N w x = some 1 := by rw [m_isPl hM.1 hn, if_pos c]
    obtain ⟨p, hp, rfl⟩ := c
    have mk := hM.1.2 p (by omega)
    have a5 := (hb.1.2 p (by omega)).1
    have hx := p_X3_trainOf (N := N) (by omega) hn (show p < 8 by omega) hL
    have ms : o_X9_sizeOf N w (nI (s.2.1 p)) = some (nI (trn n s.2.1 (s.2.1 p))) := by rw [p_X9_sizeOf (by omega) hM.1 hb'.1 (by have := (hb.1.2 p (by omega)).2.2; omega), ag_trn hs.2.1]
    have mK : w (1 + p) = nI (k p) := by rw [mk.1, hk p hp]
    have mD : w (9 + p) = nI (s.1 p) := by rw [mk.2.1, hs.1 p hp]
    have mL : w (17 + p) = nI (s.2.1 p) := by rw [mk.2.2, hs.2.1 p hp]
    have A := a_size (N := N) (n := n) (show p < 8 by omega) (h1 p hp) a5 (hK p (by omega)).1 mK (hD p (by omega)).1 mD hx mL ms (TC_0 h)
    have B := a_mark (N := N) (n := n) (show p < 8 by omega) (h1 p hp) a5 (hK p (by omega)).1 mK (hD p (by omega)).1 mD hx mL ms (TC_0 h)
    by_cases e : ∃ r, r < 1 + 1 ∧ y = nI r
    · have mi : o_X9_in N y.toInt64 0 1 = some 1 := by rw [p_in0 (h := 1) (hi := 1) (by omega) rfl, if_pos e]
      obtain ⟨r, hr, rfl⟩ := e
      show EQ _ _
      rw [o_X8_ask, xpl, Option.bind_some, if_neg (by decide), if_neg (nlt0 (by omega)), if_pos (show nI r ≤ 1 from nI_le (a := r) (b := 1) (by omega) (by omega)), o_X9_ask, mpl, Option.bind_some, if_neg (show ¬ (1 : Int32) = 0 by decide), mi, Option.bind_some, if_neg (show ¬ (1 : Int32) = 0 by decide)]
      refine EQ_i Iff.rfl (fun _ => ?_) (fun _ => ?_)
      · exact EQ_b A fun _ _ _ _ _ h => EQ_s h
      · exact EQ_b B fun _ _ _ _ _ h => EQ_s h
    · refine ⟨-1000001, xl, xb, ml, mb, ?_, ?_, h⟩
      · rw [o_X8_ask, xpl, Option.bind_some, if_neg (by decide)]
        rcases icase y 2 (by omega) with q | q | q
        · exact absurd q e
        · rw [if_pos q]
        · rw [if_neg q.2, if_neg (show ¬ y ≤ 1 from nle_s (a := 1) (by omega) q.1)]
      · rw [o_X9_ask, mpl, Option.bind_some, if_neg (by decide), p_in0 (h := 1) (hi := 1) (by omega) rfl, if_neg e, Option.bind_some, if_pos rfl]
  · refine ⟨-1000001, xl, xb, ml, mb, ?_, ?_, h⟩
    · rw [o_X8_ask, x_isPl hn, if_neg c, Option.bind_some, if_pos rfl]
    · rw [o_X9_ask, m_isPl hM.1 hn, if_neg c, Option.bind_some, if_pos rfl]
