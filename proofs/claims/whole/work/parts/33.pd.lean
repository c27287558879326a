/-! PURE PART D: the model's round is the class's -/
def pmx (k d : Nat → Nat) : List Nat → Nat → Nat
  | a :: b :: r, mx => pmx k d r (max mx (bc k d a b).2.2)
  | [_], mx => mx
  | [], mx => mx
def rndM (n : Nat) (k d0 f0 : Nat → Nat) : List Nat → (Nat → Nat) → (Nat → Nat) → (Nat → Nat) × (Nat → Nat)
  | a :: b :: r, d, f => rndM n k d0 f0 r (up2 (up2 d a (bc k d0 a b).1) b (bc k d0 a b).2.1) (jn n f (lsr n k d0 f0 a b) (win n k d0 f0 a b))
  | [_], d, f => (d, f)
  | [], d, f => (d, f)
theorem mF_trn {n : Nat} {k d f : Nat → Nat} {a b c : Nat} (ha : c ≠ a) (hb : c ≠ b) : trn n (mF n k d f a b) c = trn n f c := by
  refine cn_congr n 0 (fun p _ _ => ?_)
  have : mF n k d f a b p = c ↔ f p = c := by
    unfold mF jn
    rcases lsr_or n k d f a b with ⟨h1, h2⟩ | ⟨h1, h2⟩
    · rw [h1, h2]
      split
      · rename_i h; exact ⟨fun e => absurd e.symm hb, fun e => absurd (e.symm.trans h.2) ha⟩
      · exact Iff.rfl
    · rw [h1, h2]
      split
      · rename_i h; exact ⟨fun e => absurd e.symm ha, fun e => absurd (e.symm.trans h.2) hb⟩
      · exact Iff.rfl
  rw [Bool.eq_iff_iff, beq_iff_eq, beq_iff_eq]
  exact this
theorem bc_congr {k d e : Nat → Nat} {a b : Nat} (h1 : d a = e a) (h2 : d b = e b) : bc k d a b = bc k e a b := by unfold bc; rw [h1, h2]
theorem win_congr {n : Nat} {k d e f g : Nat → Nat} {a b : Nat} (h1 : d a = e a) (h2 : d b = e b) (h3 : trn n f a = trn n g a) (h4 : trn n f b = trn n g b) : win n k d f a b = win n k e g a b := by
  unfold win
  rw [bc_congr h1 h2, h3, h4]
theorem rnd_M (n : Nat) (k d0 f0 : Nat → Nat) : ∀ (m : Nat) (ls : List Nat) (d f : Nat → Nat) (mx : Nat), ls.length ≤ m → ls.Nodup → (∀ a, a ∈ ls → d a = d0 a ∧ trn n f a = trn n f0 a) → rnd n k ls d f mx = ((rndM n k d0 f0 ls d f).1, (rndM n k d0 f0 ls d f).2, pmx k d0 ls mx) := by
  intro m
  induction m with
  | zero =>
    intro ls d f mx h _ _
    have : ls = [] := List.length_eq_zero_iff.mp (by omega)
    subst this; rfl
  | succ m ih =>
    intro ls d f mx hl hn h
    match ls, hl, hn, h with
    | [], _, _, _ => rfl
    | [_], _, _, _ => rfl
    | a :: b :: r, hl, hn, h =>
      obtain ⟨a1, a2⟩ := h a List.mem_cons_self
      obtain ⟨b1, b2⟩ := h b (List.mem_cons_of_mem _ List.mem_cons_self)
      have n1 := (List.nodup_cons.mp hn).1
      have n2 := (List.nodup_cons.mp (List.nodup_cons.mp hn).2).1
      have n3 := (List.nodup_cons.mp (List.nodup_cons.mp hn).2).2
      have e1 := bc_congr (k := k) a1 b1
      have e2 := win_congr (k := k) a1 b1 a2 b2
      have e3 : lsr n k d f a b = lsr n k d0 f0 a b := by unfold lsr; rw [e2]
      rw [rnd, rndM, pmx, ← e1, ← e2, ← e3]
      refine ih r (mD k d a b) (mF n k d f a b) _ (by simp only [List.length_cons] at hl; omega) n3 (fun c hc => ?_)
      have ca : c ≠ a := fun e => n1 (by subst e; exact List.mem_cons_of_mem _ hc)
      have cb : c ≠ b := fun e => n2 (by subst e; exact hc)
      obtain ⟨c1, c2⟩ := h c (List.mem_cons_of_mem _ (List.mem_cons_of_mem _ hc))
      refine ⟨?_, ?_⟩
      · show up2 (up2 d a _) b _ c = d0 c
        unfold up2
        rw [if_neg cb, if_neg ca]; exact c1
      · rw [mF_trn ca cb]; exact c2
/-- the ends of the first Q bouts of a list, as the model holds them -/
def EH (n : Nat) (k d f : Nat → Nat) (E : Nat → Int32) (ls : List Nat) (Q : Nat) : Prop := ∀ q a b, q < Q → ls[2 * q]? = some a → ls[2 * q + 1]? = some b → E (3 * q) = nI (bc k d a b).1 ∧ E (3 * q + 1) = nI (bc k d a b).2.1 ∧ E (3 * q + 2) = nI (win n k d f a b)
theorem i3 (q : Nat) (h : q < 1000) : (3 : Int32) * (nI (2 * q) / 2) = nI (3 * q) := by
  rw [l2_, pk_div (by omega) (by omega) (by omega), l3_, pk_mul]
  congr 2
  omega
theorem drop2 {α : Type} {l : List α} {q : Nat} (h : 2 * q + 1 < l.length) : ∃ a b, l[2 * q]? = some a ∧ l[2 * q + 1]? = some b ∧ l.drop (2 * q) = a :: b :: l.drop (2 * (q + 1)) := by
  have h0 : 2 * q < l.length := by omega
  refine ⟨l[2 * q], l[2 * q + 1], List.getElem?_eq_getElem h0, List.getElem?_eq_getElem h, ?_⟩
  rw [List.drop_eq_getElem_cons h0, List.drop_eq_getElem_cons h, show 2 * (q + 1) = 2 * q + 1 + 1 by omega]
theorem drop1 {α : Type} {l : List α} {q : Nat} (h : ¬ 2 * q + 1 < l.length) : l.drop (2 * q) = [] ∨ ∃ a, l.drop (2 * q) = [a] := by
  by_cases h0 : 2 * q < l.length
  · refine Or.inr ⟨l[2 * q], ?_⟩
    rw [List.drop_eq_getElem_cons h0, List.drop_eq_nil_of_le (by omega)]
  · exact Or.inl (List.drop_eq_nil_of_le (by omega))
theorem p_X9_goRound_40 {N n : Nat} {w A : Nat → Int32} {k d f : Nat → Nat} {ls : List Nat} (hN : 9 < N) (h : MA w n k d f) (hb : HB n k d f) (hA : HL A ls) (hl : ls.length ≤ 8) (h8 : ∀ a, a ∈ ls → a < 8) : ∀ j q m (E : Nat → Int32) (mx : Nat) (t1 t2 t3 t4 : Int32), ls.length ≤ 2 * q + j → 2 * q ≤ ls.length + 1 → j < m → mx ≤ 9 → EH n k d f E ls q →
    ∃ E' t1' t2' t3' t4', o_X9_goRound_40 N w A (nI ls.length) m t1 t2 t3 t4 E (nI mx) (nI (2 * q)) = o_X9_goRound_136 N t1' t2' t3' t4' A E' (nI ls.length) (nI (pmx k d (ls.drop (2 * q)) mx)) N w 0 ∧ EH n k d f E' ls 4 := by
  intro j
  induction j with
  | zero =>
    intro q m E mx t1 t2 t3 t4 h1 h1b h2 h3 hE
    obtain ⟨m, rfl⟩ := mem_succ h2
    refine ⟨E, t1, t2, t3, t4, ?_, ?_⟩
    · rw [o_X9_goRound_40]
      dsimp only
      rw [nI_1, ifle (by omega) (by omega), if_pos (by omega), List.drop_eq_nil_of_le (by omega)]
      rfl
    · intro q' a b _ ha hb'
      have := (List.getElem?_eq_some_iff.mp hb').1
      exact hE q' a b (by omega) ha hb'
  | succ j ih =>
    intro q m E mx t1 t2 t3 t4 h1 h1b h2 h3 hE
    obtain ⟨m, rfl⟩ := mem_succ h2
    rw [o_X9_goRound_40]
    dsimp only
    rw [nI_1, ifle (by omega) (by omega)]
    by_cases hq : 2 * q + 1 < ls.length
    · obtain ⟨a, b, ea, eb, ed⟩ := drop2 hq
      have a8 := h8 a (List.mem_of_getElem? ea)
      have b8 := h8 b (List.mem_of_getElem? eb)
      have t9 := bc_lt (k := k) (hb.2 a a8).2.1 (hb.2 b b8).2.1
      rw [if_neg (by omega), ogd_t (inb_ok (by omega) (by omega)), ogd_t (inb_ok (by omega) (by omega)), cl_nI (by omega), cl_nI (by omega), hA _ _ ea, hA _ _ eb, p_X9_play hN h hb a8 b8, Option.bind_some]
      dsimp only
      rw [ifle (by omega) (by omega), ed, pmx]
      have key : ∀ s : Nat, s = max mx (bc k d a b).2.2 → ∃ E' t1' t2' t3' t4', o_X9_goRound_81 N (o_X9_goRound_40 N w A (nI ls.length) m) (nI (win n k d f a b)) (nI (bc k d a b).2.2) (nI (bc k d a b).1) (nI (bc k d a b).2.1) w A E (nI ls.length) (nI (2 * q)) (nI s) = o_X9_goRound_136 N t1' t2' t3' t4' A E' (nI ls.length) (nI (pmx k d (ls.drop (2 * (q + 1))) (max mx (bc k d a b).2.2))) N w 0 ∧ EH n k d f E' ls 4 := by
        intro s hs
        subst hs
        rw [o_X9_goRound_81, i3 q (by omega), l1_, l2_, nI_add, nI_add, nI_add, ogd_t (inb_ok (by omega) (by omega)), ogd_t (inb_ok (by omega) (by omega)), ogd_t (inb_ok (by omega) (by omega)), cl_nI (by omega), cl_nI (by omega), cl_nI (by omega)]
        refine ih (q + 1) m _ (max mx (bc k d a b).2.2) _ _ _ _ (by omega) (by omega) (by omega) (by omega) (fun q' a' b' hq' ha' hb' => ?_)
        by_cases e : q' = q
        · subst e
          cases ha'.symm.trans ea
          cases hb'.symm.trans eb
          refine ⟨?_, ?_, ?_⟩
          · rw [upd_ne (by omega), upd_ne (by omega)]; unfold upd; rw [if_pos rfl]
          · rw [upd_ne (by omega)]; unfold upd; rw [if_pos rfl]
          · unfold upd; rw [if_pos rfl]
        · obtain ⟨g1, g2, g3⟩ := hE q' a' b' (by omega) ha' hb'
          refine ⟨?_, ?_, ?_⟩
          · rw [upd_ne (by omega), upd_ne (by omega), upd_ne (by omega)]; exact g1
          · rw [upd_ne (by omega), upd_ne (by omega), upd_ne (by omega)]; exact g2
          · rw [upd_ne (by omega), upd_ne (by omega), upd_ne (by omega)]; exact g3
      by_cases e : (bc k d a b).2.2 ≤ mx
      · rw [if_pos e]; exact key mx (Nat.max_eq_left e).symm
      · rw [if_neg e]; exact key (bc k d a b).2.2 (Nat.max_eq_right (by omega)).symm
    · refine ⟨E, t1, t2, t3, t4, ?_, ?_⟩
      · rw [if_pos (by omega)]
        rcases drop1 hq with e | ⟨a, e⟩ <;> rw [e] <;> rfl
      · intro q' a b _ ha hb'
        have := (List.getElem?_eq_some_iff.mp hb').1
        exact hE q' a b (by omega) ha hb'
theorem p_X9_goRound_136 {N n : Nat} {A E : Nat → Int32} {k d0 f0 : Nat → Nat} {ls : List Nat} {mx : Int32} {t1 t2 t3 t4 : Int32} (hN : 9 < N) (hb0 : HB n k d0 f0) (hA : HL A ls) (hl : ls.length ≤ 8) (h8 : ∀ a, a ∈ ls → a < 8) (hE : EH n k d0 f0 E ls 4) : ∀ j q m (w : Nat → Int32) (d f : Nat → Nat), ls.length ≤ 2 * q + j → 2 * q ≤ ls.length + 1 → j < m → MA w n k d f → HB n k d f →
    ∃ w', o_X9_goRound_136 N t1 t2 t3 t4 A E (nI ls.length) mx m w (nI (2 * q)) = some (t1, t2, t3, t4, w', A, E) ∧ MA w' n k (rndM n k d0 f0 (ls.drop (2 * q)) d f).1 (rndM n k d0 f0 (ls.drop (2 * q)) d f).2 ∧ HB n k (rndM n k d0 f0 (ls.drop (2 * q)) d f).1 (rndM n k d0 f0 (ls.drop (2 * q)) d f).2 ∧ w' 25 = w 25 + 1 ∧ w' 26 = w 26 + mx := by
  have fin : ∀ q m (w : Nat → Int32) (d f : Nat → Nat), ¬ 2 * q + 1 < ls.length → 2 * q ≤ ls.length + 1 → 0 < m → MA w n k d f → HB n k d f → ∃ w', o_X9_goRound_136 N t1 t2 t3 t4 A E (nI ls.length) mx m w (nI (2 * q)) = some (t1, t2, t3, t4, w', A, E) ∧ MA w' n k (rndM n k d0 f0 (ls.drop (2 * q)) d f).1 (rndM n k d0 f0 (ls.drop (2 * q)) d f).2 ∧ HB n k (rndM n k d0 f0 (ls.drop (2 * q)) d f).1 (rndM n k d0 f0 (ls.drop (2 * q)) d f).2 ∧ w' 25 = w 25 + 1 ∧ w' 26 = w 26 + mx := by
    intro q m w d f hq h1b hm h hb
    obtain ⟨m, rfl⟩ := mem_succ hm
    refine ⟨upd (upd w 26 (w 26 + mx)) 25 (w 25 + 1), ?_, ?_, ?_, ?_, ?_⟩
    · rw [o_X9_goRound_136]
      dsimp only
      rw [nI_1, ifle (by omega) (by omega), if_pos (by omega), ogd_t (by decide), ogd_t (by decide), ogd_t (by decide), ogd_t (by decide), show Int32.toNatClampNeg 26 = 26 from rfl, show Int32.toNatClampNeg 25 = 25 from rfl, upd_ne (by omega : 25 ≠ 26)]
    · have e : rndM n k d0 f0 (ls.drop (2 * q)) d f = (d, f) := by rcases drop1 hq with e | ⟨a, e⟩ <;> rw [e] <;> rfl
      rw [e]
      refine ⟨by rw [upd_ne (by omega), upd_ne (by omega)]; exact h.1, fun p hp => ?_⟩
      rw [upd_ne (by omega), upd_ne (by omega), upd_ne (by omega), upd_ne (by omega), upd_ne (by omega), upd_ne (by omega)]
      exact h.2 p hp
    · have e : rndM n k d0 f0 (ls.drop (2 * q)) d f = (d, f) := by rcases drop1 hq with e | ⟨a, e⟩ <;> rw [e] <;> rfl
      rw [e]; exact hb
    · unfold upd; rw [if_pos rfl]
    · rw [upd_ne (by omega)]; unfold upd; rw [if_pos rfl]
  intro j
  induction j with
  | zero =>
    intro q m w d f h1 h1b h2 h hb
    exact fin q m w d f (by omega) h1b (by omega) h hb
  | succ j ih =>
    intro q m w d f h1 h1b h2 h hb
    by_cases hq : 2 * q + 1 < ls.length
    · obtain ⟨m, rfl⟩ := mem_succ h2
      obtain ⟨a, b, ea, eb, ed⟩ := drop2 hq
      have a8 := h8 a (List.mem_of_getElem? ea)
      have b8 := h8 b (List.mem_of_getElem? eb)
      have t9 := bc_lt (k := k) (hb0.2 a a8).2.1 (hb0.2 b b8).2.1
      have w8 : win n k d0 f0 a b < 8 := by rcases win_or n k d0 f0 a b with e | e <;> rw [e] <;> assumption
      obtain ⟨e1, e2, e3⟩ := hE q a b (by omega) ea eb
      obtain ⟨w1, g1, g2, g3, g4⟩ := p_X9_join (N := N) (a := a) (b := b) (x := (bc k d0 a b).1) (y := (bc k d0 a b).2.1) (wi := win n k d0 f0 a b) hN h hb a8 b8 w8 t9.1 t9.2.1
      have el : (if win n k d0 f0 a b = a then b else a) = lsr n k d0 f0 a b := rfl
      rw [el] at g2
      have hb1 : HB n k (up2 (up2 d a (bc k d0 a b).1) b (bc k d0 a b).2.1) (jn n f (lsr n k d0 f0 a b) (win n k d0 f0 a b)) := by
        refine ⟨hb.1, fun p hp => ⟨(hb.2 p hp).1, ?_, ?_⟩⟩
        · unfold up2; split; exact t9.2.1; split; exact t9.1; exact (hb.2 p hp).2.1
        · unfold jn; split; exact w8; exact (hb.2 p hp).2.2
      obtain ⟨w', k1, k2, k3, k4, k5⟩ := ih (q + 1) m w1 _ _ (by omega) (by omega) (by omega) g2 hb1
      refine ⟨w', ?_, by rw [ed, rndM]; exact k2, by rw [ed, rndM]; exact k3, by rw [k4, g3], by rw [k5, g4]⟩
      rw [o_X9_goRound_136]
      dsimp only
      rw [nI_1, ifle (by omega) (by omega), if_neg (by omega), i3 q (by omega), l1_, l2_, nI_add, nI_add, nI_add, ogd_t (inb_ok (by omega) (by omega)), ogd_t (inb_ok (by omega) (by omega)), ogd_t (inb_ok (by omega) (by omega)), ogd_t (inb_ok (by omega) (by omega)), ogd_t (inb_ok (by omega) (by omega)), cl_nI (by omega), cl_nI (by omega), cl_nI (by omega), cl_nI (by omega), cl_nI (by omega), hA _ _ ea, hA _ _ eb, e1, e2, e3, g1, Option.bind_some]
      exact k1
    · exact fin q m w d f hq h1b (by omega) h hb
theorem ldl_bound {f : Nat → Nat} {n : Nat} (hn : n ≤ 8) : (ldl f 0 n).length ≤ 8 ∧ ∀ a, a ∈ ldl f 0 n → a < 8 := by
  refine ⟨by rw [ldl_len]; have := cn_le (fun p => f p == p) n 0; omega, fun a ha => ?_⟩
  have := ldl_mem n 0 a ha
  omega
theorem p_X9_goRound {N n : Nat} {w A E : Nat → Int32} {k d f : Nat → Nat} {t1 t2 t3 t4 : Int32} (hN : 9 < N) (h : MA w n k d f) (hb : HB n k d f) :
    ∃ t1' t2' t3' t4' w' A' E', o_X9_goRound N t1 t2 t3 t4 w A E = some (t1', t2', t3', t4', w', A', E') ∧ MA w' n k (rndA n k d f).1 (rndA n k d f).2.1 ∧ HB n k (rndA n k d f).1 (rndA n k d f).2.1 ∧ w' 25 = w 25 + 1 ∧ w' 26 = w 26 + nI (rndA n k d f).2.2 := by
  have hn := hb.1
  obtain ⟨hl, h8⟩ := ldl_bound (f := f) hn
  obtain ⟨A', g1, g2⟩ := p_X9_goRound_4 (N := N) (E := E) (t1 := t1) (t2 := t2) (t3 := t3) (t4 := t4) h hb n 0 N [] A (by omega) (by omega) (Nat.le_refl 0) (fun i x hx => by simp at hx)
  rw [List.nil_append] at g1 g2
  obtain ⟨E', t1', t2', t3', t4', g3, g4⟩ := p_X9_goRound_40 (N := N) hN h hb g2 hl h8 8 0 N E 0 t1 t2 t3 t4 (by omega) (by omega) (by omega) (by omega) (fun q a b hq => absurd hq (Nat.not_lt_zero q))
  obtain ⟨w', k1, k2, k3, k4, k5⟩ := p_X9_goRound_136 (N := N) (mx := nI (pmx k d (ldl f 0 n) 0)) (t1 := t1') (t2 := t2') (t3 := t3') (t4 := t4') hN hb g2 hl h8 g4 8 0 N w d f (by omega) (by omega) (by omega) h hb
  have e := rnd_M n k d f 8 (ldl f 0 n) d f 0 hl (ldl_nd n 0) (fun a _ => ⟨rfl, rfl⟩)
  refine ⟨t1', t2', t3', t4', w', A', E', ?_, ?_, ?_, k4, ?_⟩
  · have e0 : o_X9_goRound N t1 t2 t3 t4 w A E = o_X9_goRound_4 N t1 t2 t3 t4 w E N A (nI 0) (nI 0) := rfl
    rw [e0]
    exact (g1.trans g3).trans k1
  · rw [rndA, e]; exact k2
  · rw [rndA, e]; exact k3
  · rw [rndA, e]; exact k5
