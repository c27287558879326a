/-! PURE PART C: a round, of both sides -/
def ldl (f : Nat → Nat) : Nat → Nat → List Nat
  | _, 0 => []
  | i, j + 1 => if f i = i then i :: ldl f (i + 1) j else ldl f (i + 1) j
theorem ldl_congr {f g : Nat → Nat} : ∀ j i, (∀ q, i ≤ q → q < i + j → (f q = q ↔ g q = q)) → ldl f i j = ldl g i j
  | 0, _, _ => rfl
  | j + 1, i, h => by
    rw [ldl, ldl, ldl_congr j (i + 1) (fun q a b => h q (by omega) (by omega))]
    have := h i (Nat.le_refl i) (by omega)
    by_cases e : f i = i
    · rw [if_pos e, if_pos (this.mp e)]
    · rw [if_neg e, if_neg (fun x => e (this.mpr x))]
theorem ldl_mem {f : Nat → Nat} : ∀ j i a, a ∈ ldl f i j → i ≤ a ∧ a < i + j ∧ f a = a
  | 0, _, _, h => by cases h
  | j + 1, i, a, h => by
    rw [ldl] at h
    split at h
    · rcases List.mem_cons.mp h with e | e
      · subst e; exact ⟨Nat.le_refl _, by omega, by assumption⟩
      · have := ldl_mem j (i + 1) a e; exact ⟨by omega, by omega, this.2.2⟩
    · have := ldl_mem j (i + 1) a h; exact ⟨by omega, by omega, this.2.2⟩
theorem ldl_len {f : Nat → Nat} : ∀ j i, (ldl f i j).length = cn (fun p => f p == p) i j
  | 0, _ => rfl
  | j + 1, i => by
    rw [ldl, cn]
    by_cases e : f i = i
    · rw [if_pos e, if_pos (beq_iff_eq.mpr e), List.length_cons, ldl_len j (i + 1), Nat.add_comm]
    · rw [if_neg e, if_neg (fun x => e (beq_iff_eq.mp x)), ldl_len j (i + 1), Nat.zero_add]
theorem ldl_nd {f : Nat → Nat} : ∀ j i, (ldl f i j).Nodup
  | 0, _ => List.nodup_nil
  | j + 1, i => by
    rw [ldl]
    split
    · exact List.nodup_cons.mpr ⟨fun h => by have := ldl_mem j (i + 1) i h; omega, ldl_nd j (i + 1)⟩
    · exact ldl_nd j (i + 1)
/-- bouts of the first with the second, the third with the fourth .., one behind the other -/
def rnd (n : Nat) (k : Nat → Nat) : List Nat → (Nat → Nat) → (Nat → Nat) → Nat → (Nat → Nat) × (Nat → Nat) × Nat
  | a :: b :: r, d, f, mx => rnd n k r (mD k d a b) (mF n k d f a b) (max mx (bc k d a b).2.2)
  | [_], d, f, mx => (d, f, mx)
  | [], d, f, mx => (d, f, mx)
theorem lsr_or (n : Nat) (k d f : Nat → Nat) (a b : Nat) : (lsr n k d f a b = a ∧ win n k d f a b = b) ∨ (lsr n k d f a b = b ∧ win n k d f a b = a) := by
  unfold lsr
  rcases win_or n k d f a b with h | h
  · rw [if_pos h]; exact Or.inr ⟨rfl, h⟩
  · by_cases e : win n k d f a b = a
    · rw [if_pos e]; exact Or.inr ⟨rfl, e⟩
    · rw [if_neg e]; exact Or.inl ⟨rfl, h⟩
/-- who isn't in the bout, leads behind it just if ahead of it -/
theorem mF_lead {n : Nat} {k d f : Nat → Nat} {a b q : Nat} (ha : q ≠ a) (hb : q ≠ b) : mF n k d f a b q = q ↔ f q = q := by
  unfold mF jn
  rcases lsr_or n k d f a b with ⟨h1, h2⟩ | ⟨h1, h2⟩
  · rw [h1, h2]
    split
    · rename_i h; exact ⟨fun e => absurd e.symm hb, fun e => absurd (e.symm.trans h.2) ha⟩
    · exact Iff.rfl
  · rw [h1, h2]
    split
    · rename_i h; exact ⟨fun e => absurd e.symm ha, fun e => absurd (e.symm.trans h.2) hb⟩
    · exact Iff.rfl
theorem imax {a b : Nat} (ha : a < 100) (hb : b < 100) : (if nI a < nI b then nI b else nI a) = nI (max a b) := by
  rw [iflt (by omega) (by omega)]
  split
  · rw [Nat.max_eq_right (by omega)]
  · rw [Nat.max_eq_left (by omega)]
/-- who waits, as the class holds it -/
def WT (l : Int32) (i : Nat) (f : Nat → Nat) (w : List Nat) : Prop := (w = [] ∧ l = -1) ∨ ∃ a, w = [a] ∧ l = nI a ∧ a < i ∧ f a = a
theorem p_X3_playRound_6 {N n : Nat} {K : Nat → Int32} {k : Nat → Nat} {R T : Int32} (hN : 9 < N) (hn : n ≤ 8) (hK : IA K k 8 6) : ∀ j i m (w : List Nat) (d f : Nat → Nat) (mx : Nat) (D L : Nat → Int32) (c1 c2 c3 l : Int32), i + j = n → j < m → IA D d 8 3 → IA L f 8 8 → WT l i f w → mx ≤ 9 →
    ∃ D' L' c1' c2' c3', o_X3_playRound_6 N (nI n) R T K m D L c1 c2 c3 l (nI mx) (nI i) = some (R + 1, T + nI (rnd n k (w ++ ldl f i j) d f mx).2.2, D', L', c1', c2', c3') ∧ IA D' (rnd n k (w ++ ldl f i j) d f mx).1 8 3 ∧ IA L' (rnd n k (w ++ ldl f i j) d f mx).2.1 8 8 := by
  intro j
  induction j with
  | zero =>
    intro i m w d f mx D L c1 c2 c3 l h1 h2 hD hL hw hm
    obtain ⟨m, rfl⟩ := mem_succ h2
    have e : rnd n k (w ++ ldl f i 0) d f mx = (d, f, mx) := by
      rcases hw with ⟨rfl, -⟩ | ⟨a, rfl, -⟩ <;> rfl
    rw [e]
    refine ⟨D, L, c1, c2, c3, ?_, hD, hL⟩
    rw [o_X3_playRound_6]
    dsimp only
    rw [ifle (by omega) (by omega), if_pos (by omega)]
  | succ j ih =>
    intro i m w d f mx D L c1 c2 c3 l h1 h2 hD hL hw hm
    obtain ⟨m, rfl⟩ := mem_succ h2
    have hi : i < 8 := by omega
    rw [ldl, o_X3_playRound_6]
    dsimp only
    rw [ifle (by omega) (by omega), if_neg (by omega), p_X3_leads_if hL hi _ (fun r => rfl), o_X3_playRound_31, p_X3_leads_if hL hi _ (fun r => rfl)]
    by_cases hf : f i = i
    · rw [if_pos hf, if_pos hf, if_pos hf]
      rcases hw with ⟨rfl, rfl⟩ | ⟨a, rfl, rfl, ha, fa⟩
      · rw [if_neg (by decide), nI_1]
        exact ih (i + 1) m [i] d f mx D L c1 c2 c3 (nI i) (by omega) (by omega) hD hL (Or.inr ⟨i, rfl, rfl, by omega, hf⟩) hm
      · obtain ⟨D', L', g1, g2, g3⟩ := p_X3_meet (N := N) hN hn hK hD hL (by omega : a < 8) hi fa hf
        have t9 := (bc_lt (k := k) (hD a (by omega)).2 (hD i hi).2).2.2
        rw [if_pos (nI_pos' (by omega)), g1, Option.bind_some]
        show ∃ D'' L'' c1' c2' c3', o_X3_playRound_6 N (nI n) R T K m D' L' (nI (bc k d a i).1) (nI (bc k d a i).2.1) (nI (bc k d a i).2.2) (-1) (if nI mx < nI (bc k d a i).2.2 then nI (bc k d a i).2.2 else nI mx) (nI i + 1) = _ ∧ _
        rw [imax (by omega) (by omega), nI_1]
        have e : ldl f (i + 1) j = ldl (mF n k d f a i) (i + 1) j := ldl_congr j (i + 1) (fun q q1 _ => (mF_lead (by omega) (by omega)).symm)
        show ∃ D'' L'' c1' c2' c3', _ = some (R + 1, T + nI (rnd n k (ldl f (i + 1) j) (mD k d a i) (mF n k d f a i) (max mx (bc k d a i).2.2)).2.2, D'', L'', c1', c2', c3') ∧ IA D'' (rnd n k (ldl f (i + 1) j) (mD k d a i) (mF n k d f a i) (max mx (bc k d a i).2.2)).1 8 3 ∧ IA L'' (rnd n k (ldl f (i + 1) j) (mD k d a i) (mF n k d f a i) (max mx (bc k d a i).2.2)).2.1 8 8
        rw [e]
        exact ih (i + 1) m [] (mD k d a i) (mF n k d f a i) _ D' L' _ _ _ (-1) (by omega) (by omega) g2 g3 (Or.inl ⟨rfl, rfl⟩) (by omega)
    · rw [if_neg hf, if_neg hf, if_neg hf, nI_1]
      exact ih (i + 1) m w d f mx D L c1 c2 c3 l (by omega) (by omega) hD hL (by
        rcases hw with h | ⟨a, h3, h4, h5, h6⟩
        · exact Or.inl h
        · exact Or.inr ⟨a, h3, h4, by omega, h6⟩) hm
/-- a round of the whole hall -/
abbrev rndA (n : Nat) (k d f : Nat → Nat) : (Nat → Nat) × (Nat → Nat) × Nat := rnd n k (ldl f 0 n) d f 0
theorem p_X3_playRound {N n : Nat} {K D L : Nat → Int32} {k d f : Nat → Nat} {R T c1 c2 c3 : Int32} (hN : 9 < N) (hn : n ≤ 8) (hK : IA K k 8 6) (hD : IA D d 8 3) (hL : IA L f 8 8) :
    ∃ D' L' c1' c2' c3', o_X3_playRound N (nI n) R T K D L c1 c2 c3 = some (R + 1, T + nI (rndA n k d f).2.2, D', L', c1', c2', c3') ∧ IA D' (rndA n k d f).1 8 3 ∧ IA L' (rndA n k d f).2.1 8 8 := by
  rw [o_X3_playRound, l0]
  exact p_X3_playRound_6 hN hn hK n 0 N [] d f 0 D L c1 c2 c3 (-1) (by omega) (by omega) hD hL (Or.inl ⟨rfl, rfl⟩) (by omega)
/-! the model's round: who leads is gathered, all is played, then joined -/
def HL (A : Nat → Int32) (l : List Nat) : Prop := ∀ i x, l[i]? = some x → A i = nI x
theorem HL_push {A : Nat → Int32} {l : List Nat} {x : Nat} (h : HL A l) : HL (upd A l.length (nI x)) (l ++ [x]) := by
  intro i y hy
  unfold upd
  by_cases e : i = l.length
  · subst e
    rw [if_pos rfl]
    rw [List.getElem?_append_right (Nat.le_refl _), Nat.sub_self] at hy
    cases hy; rfl
  · rw [if_neg e]
    have hl : i < (l ++ [x]).length := (List.getElem?_eq_some_iff.mp hy).1
    rw [List.length_append, List.length_singleton] at hl
    rw [List.getElem?_append_left (by omega)] at hy
    exact h i y hy
theorem p_X9_goRound_4 {N n : Nat} {w E : Nat → Int32} {k d f : Nat → Nat} {t1 t2 t3 t4 : Int32} (h : MA w n k d f) (hb : HB n k d f) : ∀ j i m (acc : List Nat) (A : Nat → Int32), i + j = n → j < m → acc.length ≤ i → HL A acc →
    ∃ A', o_X9_goRound_4 N t1 t2 t3 t4 w E m A (nI acc.length) (nI i) = o_X9_goRound_40 N w A' (nI (acc ++ ldl f i j).length) N t1 t2 t3 t4 E 0 0 ∧ HL A' (acc ++ ldl f i j) := by
  intro j
  have hn := hb.1
  induction j with
  | zero =>
    intro i m acc A h1 h2 h3 hA
    obtain ⟨m, rfl⟩ := mem_succ h2
    rw [ldl, List.append_nil]
    refine ⟨A, ?_, hA⟩
    rw [o_X9_goRound_4]
    dsimp only
    rw [p_X9_players h, Option.bind_some, ifle (by omega) (by omega), if_pos (by omega)]
  | succ j ih =>
    intro i m acc A h1 h2 h3 hA
    obtain ⟨m, rfl⟩ := mem_succ h2
    rw [o_X9_goRound_4]
    dsimp only
    rw [p_X9_players h, Option.bind_some, ifle (by omega) (by omega), if_neg (by omega), p_X9_leads_if h hb (by omega) _ (fun r => rfl), ldl]
    by_cases hf : f i = i
    · rw [if_pos hf, if_pos hf, ogd_t (inb_ok (by omega) (by omega)), cl_nI (by omega), nI_1, nI_1]
      have := ih (i + 1) m (acc ++ [i]) (upd A acc.length (nI i)) (by omega) (by omega) (by rw [List.length_append, List.length_singleton]; omega) (HL_push hA)
      rw [List.length_append, List.length_singleton, List.append_assoc] at this
      exact this
    · rw [if_neg hf, if_neg hf, nI_1]
      exact ih (i + 1) m acc A (by omega) (by omega) (by omega) hA
theorem MA_d {w : Nat → Int32} {n : Nat} {k d f : Nat → Nat} {a x : Nat} (h : MA w n k d f) (ha : a < 8) : MA (upd w (9 + a) (nI x)) n k (up2 d a x) f := by
  refine ⟨by unfold upd; rw [if_neg (by omega)]; exact h.1, fun p hp => ?_⟩
  obtain ⟨h1, h2, h3⟩ := h.2 p hp
  unfold upd up2
  refine ⟨by rw [if_neg (by omega)]; exact h1, ?_, by rw [if_neg (by omega)]; exact h3⟩
  by_cases e : p = a
  · subst e; rw [if_pos rfl, if_pos rfl]
  · rw [if_neg (by omega), if_neg e]; exact h2
theorem MA_f {w : Nat → Int32} {n : Nat} {k d f : Nat → Nat} {a x : Nat} (h : MA w n k d f) (ha : a < 8) : MA (upd w (17 + a) (nI x)) n k d (up2 f a x) := by
  refine ⟨by unfold upd; rw [if_neg (by omega)]; exact h.1, fun p hp => ?_⟩
  obtain ⟨h1, h2, h3⟩ := h.2 p hp
  unfold upd up2
  refine ⟨by rw [if_neg (by omega)]; exact h1, by rw [if_neg (by omega)]; exact h2, ?_⟩
  by_cases e : p = a
  · subst e; rw [if_pos rfl, if_pos rfl]
  · rw [if_neg (by omega), if_neg e]; exact h3
theorem upd_id (w : Nat → Int32) (i : Nat) : upd w i (w i) = w := by
  funext j
  unfold upd
  split
  · subst_vars; rfl
  · rfl
theorem upd_ne {w : Nat → Int32} {i j : Nat} {x : Int32} (h : j ≠ i) : upd w i x j = w j := by unfold upd; rw [if_neg h]
theorem p_X9_join_37 {N n lo wi : Nat} {k d f : Nat → Nat} (hb : HB n k d f) (hw : wi < 8) (hlo : lo < 8) : ∀ j i m (w : Nat → Int32), i + j = n → j < m → MA w n k d (jnI n f lo wi i) →
    ∃ w', o_X9_join_37 N (nI wi) (nI lo) m w (nI i) = some w' ∧ MA w' n k d (jn n f lo wi) ∧ w' 25 = w 25 ∧ w' 26 = w 26 := by
  intro j
  have hn := hb.1
  induction j with
  | zero =>
    intro i m w h1 h2 h
    obtain ⟨m, rfl⟩ := mem_succ h2
    refine ⟨w, ?_, ?_, rfl, rfl⟩
    · rw [o_X9_join_37]
      dsimp only
      rw [p_X9_players h, Option.bind_some, ifle (by omega) (by omega), if_pos (by omega)]
    · rw [← jnI_n]
      have : i = n := by omega
      rw [← this] at h ⊢
      rw [this] at h ⊢
      exact h
  | succ j ih =>
    intro i m w h1 h2 h
    obtain ⟨m, rfl⟩ := mem_succ h2
    have hi : i < 8 := by omega
    have e1 := (h.2 i hi).2.2
    rw [jnI_at] at e1
    have e2 := (hb.2 i hi).2.2
    rw [o_X9_join_37]
    dsimp only
    rw [p_X9_players h, Option.bind_some, ifle (by omega) (by omega), if_neg (by omega), l17_, nI_add, ogd_t (inb_ok (by omega) (by omega)), cl_nI (by omega), e1, ifeq (by omega) (by omega), ogd_t (inb_ok (by omega) (by omega)), ogd_t (inb_ok (by omega) (by omega)), nI_1]
    by_cases hf : f i = lo
    · rw [if_pos hf]
      obtain ⟨w', g1, g2, g3, g4⟩ := ih (i + 1) m (upd w (17 + i) (nI wi)) (by omega) (by omega) (by rw [jnI_s, if_pos hf]; exact MA_f h hi)
      exact ⟨w', g1, g2, by rw [g3, upd_ne (by omega)], by rw [g4, upd_ne (by omega)]⟩
    · rw [if_neg hf, ogd_t (inb_ok (by omega) (by omega)), ← e1, upd_id]
      exact ih (i + 1) m w (by omega) (by omega) (by rw [jnI_s, if_neg hf]; exact h)
theorem p_X9_join {N n a b x y wi : Nat} {w : Nat → Int32} {k d f : Nat → Nat} (hN : 9 < N) (h : MA w n k d f) (hb : HB n k d f) (ha : a < 8) (hb8 : b < 8) (hw : wi < 8) (hx : x < 3) (hy : y < 3) :
    ∃ w', o_X9_join N w (nI a) (nI b) (nI x) (nI y) (nI wi) = some w' ∧ MA w' n k (up2 (up2 d a x) b y) (jn n f (if wi = a then b else a) wi) ∧ w' 25 = w 25 ∧ w' 26 = w 26 := by
  have h2 : MA (upd (upd w (9 + a) (nI x)) (9 + b) (nI y)) n k (up2 (up2 d a x) b y) f := MA_d (MA_d h ha) hb8
  have hb2 : HB n k (up2 (up2 d a x) b y) f := ⟨hb.1, fun p hp => ⟨(hb.2 p hp).1, by unfold up2; split; exact hy; split; exact hx; exact (hb.2 p hp).2.1, (hb.2 p hp).2.2⟩⟩
  have hn := hb.1
  have q1 : ∀ z, (z = 25 ∨ z = 26) → upd (upd w (9 + a) (nI x)) (9 + b) (nI y) z = w z := by
    intro z hz
    rw [upd_ne (by omega), upd_ne (by omega)]
  rw [o_X9_join, l9_, nI_add, nI_add, ogd_t (inb_ok (by omega) (by omega)), ogd_t (inb_ok (by omega) (by omega)), cl_nI (by omega), cl_nI (by omega), ifeq (by omega) (by omega), l0]
  by_cases e : wi = a
  · rw [if_pos e, if_pos e]
    obtain ⟨w', g1, g2, g3, g4⟩ := p_X9_join_37 (N := N) (lo := b) (wi := wi) hb2 hw hb8 n 0 N _ (by omega) (by omega) (by rw [jnI_0]; exact h2)
    exact ⟨w', g1, g2, by rw [g3, q1 _ (Or.inl rfl)], by rw [g4, q1 _ (Or.inr rfl)]⟩
  · rw [if_neg e, if_neg e]
    obtain ⟨w', g1, g2, g3, g4⟩ := p_X9_join_37 (N := N) (lo := a) (wi := wi) hb2 hw ha n 0 N _ (by omega) (by omega) (by rw [jnI_0]; exact h2)
    exact ⟨w', g1, g2, by rw [g3, q1 _ (Or.inl rfl)], by rw [g4, q1 _ (Or.inr rfl)]⟩
