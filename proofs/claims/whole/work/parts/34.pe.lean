/-! PURE PART E: rounds till one leads alone, of both sides -/
def HI (n : Nat) (f : Nat → Nat) : Prop := ∀ p, p < n → f p < n ∧ f (f p) = f p
theorem cn_mono {P Q : Nat → Bool} : ∀ k i, (∀ j, i ≤ j → j < i + k → P j = true → Q j = true) → cn P i k ≤ cn Q i k
  | 0, _, _ => Nat.le_refl 0
  | k + 1, i, h => by
    have h1 := cn_mono k (i + 1) (fun j a b => h j (by omega) (by omega))
    have h2 := h i (Nat.le_refl i) (by omega)
    show (if P i = true then 1 else 0) + cn P (i + 1) k ≤ (if Q i = true then 1 else 0) + cn Q (i + 1) k
    by_cases e : P i = true
    · rw [if_pos e, if_pos (h2 e)]; omega
    · rw [if_neg e]; split <;> omega
theorem cn_strict {P Q : Nat → Bool} {q : Nat} : ∀ k i, (∀ j, i ≤ j → j < i + k → P j = true → Q j = true) → i ≤ q → q < i + k → Q q = true → ¬ P q = true → cn P i k < cn Q i k
  | 0, _, _, h1, h2, _, _ => by omega
  | k + 1, i, h, h1, h2, h3, h4 => by
    have e2 := h i (Nat.le_refl i) (by omega)
    show (if P i = true then 1 else 0) + cn P (i + 1) k < (if Q i = true then 1 else 0) + cn Q (i + 1) k
    by_cases e : i = q
    · subst e
      have := cn_mono k (i + 1) (fun j a b => h j (by omega) (by omega))
      rw [if_neg h4, if_pos h3]; omega
    · have := cn_strict k (i + 1) (fun j a b => h j (by omega) (by omega)) (by omega) (by omega) h3 h4
      by_cases e : P i = true
      · rw [if_pos e, if_pos (e2 e)]; omega
      · rw [if_neg e]; split <;> omega
theorem lds_le (n : Nat) (f : Nat → Nat) : lds n f ≤ n := cn_le _ n 0
theorem lds_pos {n : Nat} {f : Nat → Nat} (h : HI n f) (hn : 0 < n) : 1 ≤ lds n f := by
  obtain ⟨h1, h2⟩ := h 0 hn
  have : cn (fun _ => false) 0 n < lds n f := cn_strict (q := f 0) n 0 (fun j _ _ e => by cases e) (by omega) (by omega) (beq_iff_eq.mpr h2) (by decide)
  omega
section MF
variable {n : Nat} {k d f : Nat → Nat} {a b : Nat}
/-- who leads behind a bout of two who lead, led ahead of it; the loser doesn't -/
theorem mF_sub (fa : f a = a) (fb : f b = b) (hab : a ≠ b) {q : Nat} (hq : q < n) (h : mF n k d f a b q = q) : f q = q ∧ q ≠ lsr n k d f a b := by
  unfold mF jn at h
  rcases lsr_or n k d f a b with ⟨h1, h2⟩ | ⟨h1, h2⟩
  · rw [h1, h2] at h; rw [h1]
    by_cases e : q < n ∧ f q = a
    · rw [if_pos e] at h
      subst h
      exact absurd (e.2.symm.trans fb) hab
    · rw [if_neg e] at h
      exact ⟨h, fun e2 => e ⟨hq, by rw [e2]; exact fa⟩⟩
  · rw [h1, h2] at h; rw [h1]
    by_cases e : q < n ∧ f q = b
    · rw [if_pos e] at h
      subst h
      exact absurd (e.2.symm.trans fa).symm hab
    · rw [if_neg e] at h
      exact ⟨h, fun e2 => e ⟨hq, by rw [e2]; exact fb⟩⟩
theorem mF_HI (h : HI n f) (ha : a < n) (hb : b < n) (fa : f a = a) (fb : f b = b) (hab : a ≠ b) : HI n (mF n k d f a b) := by
  intro p hp
  obtain ⟨h1, h2⟩ := h p hp
  unfold mF jn
  rcases lsr_or n k d f a b with ⟨e1, e2⟩ | ⟨e1, e2⟩
  · rw [e1, e2]
    by_cases e : p < n ∧ f p = a
    · rw [if_pos e, if_neg (fun x => hab ((x.2.symm.trans fb)))]
      exact ⟨hb, fb⟩
    · have e3 : f p ≠ a := fun x => e ⟨hp, x⟩
      rw [if_neg e, if_neg (fun x => e3 (h2.symm.trans x.2))]
      exact ⟨h1, h2⟩
  · rw [e1, e2]
    by_cases e : p < n ∧ f p = b
    · rw [if_pos e, if_neg (fun x => hab ((x.2.symm.trans fa).symm))]
      exact ⟨ha, fa⟩
    · have e3 : f p ≠ b := fun x => e ⟨hp, x⟩
      rw [if_neg e, if_neg (fun x => e3 (h2.symm.trans x.2))]
      exact ⟨h1, h2⟩
theorem mF_lds (ha : a < n) (hb : b < n) (fa : f a = a) (fb : f b = b) (hab : a ≠ b) : lds n (mF n k d f a b) < lds n f := by
  have hl : lsr n k d f a b < n ∧ f (lsr n k d f a b) = lsr n k d f a b := by
    rcases lsr_or n k d f a b with ⟨e1, -⟩ | ⟨e1, -⟩ <;> rw [e1]
    · exact ⟨ha, fa⟩
    · exact ⟨hb, fb⟩
  refine cn_strict (q := lsr n k d f a b) n 0 (fun j _ hj e => ?_) (by omega) (by omega) (beq_iff_eq.mpr hl.2) (fun e => ?_)
  · exact beq_iff_eq.mpr (mF_sub fa fb hab (by omega) (beq_iff_eq.mp e)).1
  · exact (mF_sub fa fb hab hl.1 (beq_iff_eq.mp e)).2 rfl
end MF
theorem rnd_HI (n : Nat) (k : Nat → Nat) : ∀ (m : Nat) (ls : List Nat) (d f : Nat → Nat) (mx : Nat), ls.length ≤ m → ls.Nodup → (∀ a, a ∈ ls → a < n ∧ f a = a) → HI n f → (∀ p, p < 8 → d p < 3 ∧ f p < 8) → n ≤ 8 →
    HI n (rnd n k ls d f mx).2.1 ∧ lds n (rnd n k ls d f mx).2.1 ≤ lds n f ∧ (2 ≤ ls.length → lds n (rnd n k ls d f mx).2.1 < lds n f) ∧ (∀ p, p < 8 → (rnd n k ls d f mx).1 p < 3 ∧ (rnd n k ls d f mx).2.1 p < 8) := by
  intro m
  induction m with
  | zero =>
    intro ls d f mx h _ _ hI hB _
    have : ls = [] := List.length_eq_zero_iff.mp (by omega)
    subst this
    exact ⟨hI, Nat.le_refl _, fun x => absurd x (by decide), hB⟩
  | succ m ih =>
    intro ls d f mx hl hn h hI hB h8
    match ls, hl, hn, h with
    | [], _, _, _ => exact ⟨hI, Nat.le_refl _, fun x => absurd x (by decide), hB⟩
    | [_], _, _, _ => exact ⟨hI, Nat.le_refl _, fun x => absurd x (by simp), hB⟩
    | a :: b :: r, hl, hn, h =>
      obtain ⟨a1, a2⟩ := h a List.mem_cons_self
      obtain ⟨b1, b2⟩ := h b (List.mem_cons_of_mem _ List.mem_cons_self)
      have n1 := (List.nodup_cons.mp hn).1
      have n2 := (List.nodup_cons.mp (List.nodup_cons.mp hn).2).1
      have n3 := (List.nodup_cons.mp (List.nodup_cons.mp hn).2).2
      have hab : a ≠ b := fun e => n1 (by subst e; exact List.mem_cons_self)
      have t9 := bc_lt (k := k) (hB a (by omega)).1 (hB b (by omega)).1
      have w8 : win n k d f a b < 8 := by rcases win_or n k d f a b with e | e <;> rw [e] <;> omega
      have hlt := mF_lds (k := k) (d := d) a1 b1 a2 b2 hab
      have := ih r (mD k d a b) (mF n k d f a b) (max mx (bc k d a b).2.2) (by simp only [List.length_cons] at hl; omega) n3 (fun c hc => by
        obtain ⟨c1, c2⟩ := h c (List.mem_cons_of_mem _ (List.mem_cons_of_mem _ hc))
        refine ⟨c1, (mF_lead (fun e => n1 (by subst e; exact List.mem_cons_of_mem _ hc)) (fun e => n2 (by subst e; exact hc))).mpr c2⟩) (mF_HI hI a1 b1 a2 b2 hab) (fun p hp => by
        refine ⟨?_, ?_⟩
        · unfold mD up2; split; exact t9.2.1; split; exact t9.1; exact (hB p hp).1
        · unfold mF jn; split; exact w8; exact (hB p hp).2) h8
      rw [rnd]
      exact ⟨this.1, by omega, fun _ => by omega, this.2.2.2⟩
/-- hands, who leads, round, time -/
abbrev RS : Type := (Nat → Nat) × (Nat → Nat) × Int32 × Int32
def rstep (n : Nat) (k : Nat → Nat) (s : RS) : RS := ((rndA n k s.1 s.2.1).1, (rndA n k s.1 s.2.1).2.1, s.2.2.1 + 1, s.2.2.2 + nI (rndA n k s.1 s.2.1).2.2)
/-- at most j rounds, while more than one leads -/
def toE (n : Nat) (k : Nat → Nat) : Nat → RS → RS
  | 0, s => s
  | j + 1, s => if lds n s.2.1 ≤ 1 then s else toE n k j (rstep n k s)
def RB (n : Nat) (k : Nat → Nat) (s : RS) : Prop := HB n k s.1 s.2.1 ∧ HI n s.2.1
theorem rstep_ok {n : Nat} {k : Nat → Nat} {s : RS} (h : RB n k s) : RB n k (rstep n k s) ∧ lds n (rstep n k s).2.1 ≤ lds n s.2.1 ∧ (2 ≤ lds n s.2.1 → lds n (rstep n k s).2.1 < lds n s.2.1) := by
  obtain ⟨hb, hi⟩ := h
  have hn := hb.1
  obtain ⟨h1, h2, h3, h4⟩ := rnd_HI n k 8 (ldl s.2.1 0 n) s.1 s.2.1 0 (ldl_bound hn).1 (ldl_nd n 0) (fun a ha => by have := ldl_mem n 0 a ha; exact ⟨by omega, this.2.2⟩) hi (fun p hp => (hb.2 p hp).2) hn
  rw [ldl_len] at h3
  exact ⟨⟨⟨hn, fun p hp => ⟨(hb.2 p hp).1, h4 p hp⟩⟩, h1⟩, h2, h3⟩
theorem toE_ok {n : Nat} {k : Nat → Nat} : ∀ j (s : RS), RB n k s → RB n k (toE n k j s) ∧ (lds n s.2.1 ≤ j + 1 → lds n (toE n k j s).2.1 ≤ 1)
  | 0, s, h => ⟨h, fun x => x⟩
  | j + 1, s, h => by
    rw [toE]
    split
    · exact ⟨h, fun _ => by assumption⟩
    · obtain ⟨h1, -, h2⟩ := rstep_ok h
      obtain ⟨h3, h4⟩ := toE_ok j _ h1
      exact ⟨h3, fun x => h4 (by have := h2 (by omega); omega)⟩
theorem p_toEnd_2 {N n : Nat} {K : Nat → Int32} {k : Nat → Nat} (hN : 9 < N) (hn : n ≤ 8) (hK : IA K k 8 6) : ∀ j i m (s : RS) (D L : Nat → Int32) (c1 c2 c3 : Int32), i + j = 8 → j < m → IA D s.1 8 3 → IA L s.2.1 8 8 →
    ∃ D' L' c1' c2' c3', o_X3_playToTheEnd_2 N (nI n) K m s.2.2.1 s.2.2.2 D L c1 c2 c3 (nI i) = some ((toE n k j s).2.2.1, (toE n k j s).2.2.2, D', L', c1', c2', c3') ∧ IA D' (toE n k j s).1 8 3 ∧ IA L' (toE n k j s).2.1 8 8 := by
  intro j
  induction j with
  | zero =>
    intro i m s D L c1 c2 c3 h1 h2 hD hL
    obtain ⟨m, rfl⟩ := mem_succ h2
    refine ⟨D, L, c1, c2, c3, ?_, hD, hL⟩
    rw [o_X3_playToTheEnd_2]
    dsimp only
    rw [l8_, ifle (by omega) (by omega), if_pos (by omega)]
    rfl
  | succ j ih =>
    intro i m s D L c1 c2 c3 h1 h2 hD hL
    obtain ⟨m, rfl⟩ := mem_succ h2
    have t := lds_le n s.2.1
    rw [o_X3_playToTheEnd_2]
    dsimp only
    rw [l8_, ifle (by omega) (by omega), if_neg (by omega), p_X3_leaders (by omega) hn hL, Option.bind_some, l1_, ifle (by omega) (by omega), toE]
    by_cases e : lds n s.2.1 ≤ 1
    · rw [if_pos e, if_pos e]
      exact ⟨D, L, c1, c2, c3, rfl, hD, hL⟩
    · rw [if_neg e, if_neg e]
      obtain ⟨D1, L1, e1, e2, e3, g1, g2, g3⟩ := p_X3_playRound (N := N) (R := s.2.2.1) (T := s.2.2.2) (c1 := c1) (c2 := c2) (c3 := c3) hN hn hK hD hL
      rw [g1, Option.bind_some, nI_add]
      exact ih (i + 1) m (rstep n k s) D1 L1 e1 e2 e3 (by omega) (by omega) g2 g3
theorem p_X3_playToTheEnd {N n : Nat} {K D L : Nat → Int32} {k : Nat → Nat} {c1 c2 c3 : Int32} (s : RS) (hN : 9 < N) (hn : n ≤ 8) (hK : IA K k 8 6) (hD : IA D s.1 8 3) (hL : IA L s.2.1 8 8) :
    ∃ D' L' c1' c2' c3', o_X3_playToTheEnd N (nI n) s.2.2.1 s.2.2.2 K D L c1 c2 c3 = some ((toE n k 8 s).2.2.1, (toE n k 8 s).2.2.2, D', L', c1', c2', c3') ∧ IA D' (toE n k 8 s).1 8 3 ∧ IA L' (toE n k 8 s).2.1 8 8 := by
  rw [o_X3_playToTheEnd, l0]
  exact p_toEnd_2 hN hn hK 8 0 N s D L c1 c2 c3 (by omega) (by omega) hD hL
/-- the model's row holds a whole state -/
def MR (w : Nat → Int32) (n : Nat) (k : Nat → Nat) (s : RS) : Prop := MA w n k s.1 s.2.1 ∧ w 25 = s.2.2.1 ∧ w 26 = s.2.2.2
theorem p_round {N n : Nat} {w A E : Nat → Int32} {k : Nat → Nat} {s : RS} {t1 t2 t3 t4 : Int32} (hN : 9 < N) (h : MR w n k s) (hb : RB n k s) :
    ∃ t1' t2' t3' t4' w' A' E', o_X9_goRound N t1 t2 t3 t4 w A E = some (t1', t2', t3', t4', w', A', E') ∧ MR w' n k (rstep n k s) := by
  obtain ⟨t1', t2', t3', t4', w', A', E', g1, g2, g3, g4, g5⟩ := p_X9_goRound (N := N) (A := A) (E := E) (t1 := t1) (t2 := t2) (t3 := t3) (t4 := t4) hN h.1 hb.1
  exact ⟨t1', t2', t3', t4', w', A', E', g1, g2, by rw [g4, h.2.1]; rfl, by rw [g5, h.2.2]; rfl⟩
theorem p_goLeft_0 {N n : Nat} {k : Nat → Nat} (hN : 9 < N) : ∀ j m (s : RS) (w A E : Nat → Int32) (t1 t2 t3 t4 : Int32), lds n s.2.1 ≤ j + 1 → j < m → MR w n k s → RB n k s →
    ∃ t1' t2' t3' t4' w' A' E', o_X9_goLeft_0 N m t1 t2 t3 t4 w A E = some (nI ((toE n k j s).2.1 0), t1', t2', t3', t4', w', A', E') ∧ MR w' n k (toE n k j s) := by
  intro j
  have fin : ∀ m (s : RS) (w A E : Nat → Int32) (t1 t2 t3 t4 : Int32), lds n s.2.1 ≤ 1 → 0 < m → MR w n k s → RB n k s → ∃ t1' t2' t3' t4' w' A' E', o_X9_goLeft_0 N m t1 t2 t3 t4 w A E = some (nI (s.2.1 0), t1', t2', t3', t4', w', A', E') ∧ MR w' n k s := by
    intro m s w A E t1 t2 t3 t4 h1 h2 h hb
    obtain ⟨m, rfl⟩ := mem_succ h2
    have t := lds_le n s.2.1
    have hn := hb.1.1
    refine ⟨t1, t2, t3, t4, w, A, E, ?_, h⟩
    rw [o_X9_goLeft_0]
    dsimp only
    rw [p_X9_leaders (by omega) h.1 hb.1, Option.bind_some, l1_, ifle (by omega) (by omega), if_pos h1, ogd_t (by decide), show Int32.toNatClampNeg 17 = 17 + 0 from rfl, (h.1.2 0 (by omega)).2.2]
  induction j with
  | zero =>
    intro m s w A E t1 t2 t3 t4 h1 h2 h hb
    exact fin m s w A E t1 t2 t3 t4 (by omega) h2 h hb
  | succ j ih =>
    intro m s w A E t1 t2 t3 t4 h1 h2 h hb
    rw [toE]
    by_cases e : lds n s.2.1 ≤ 1
    · rw [if_pos e]
      exact fin m s w A E t1 t2 t3 t4 e (by omega) h hb
    · rw [if_neg e]
      obtain ⟨m, rfl⟩ := mem_succ h2
      have t := lds_le n s.2.1
      have hn := hb.1.1
      obtain ⟨r1, -, r2⟩ := rstep_ok hb
      obtain ⟨a1, a2, a3, a4, w1, A1, E1, g1, g2⟩ := p_round (N := N) (A := A) (E := E) (t1 := t1) (t2 := t2) (t3 := t3) (t4 := t4) hN h hb
      have := ih m (rstep n k s) w1 A1 E1 a1 a2 a3 a4 (by have := r2 (by omega); omega) (by omega) g2 r1
      rw [o_X9_goLeft_0]
      dsimp only
      rw [p_X9_leaders (by omega) h.1 hb.1, Option.bind_some, l1_, ifle (by omega) (by omega), if_neg e, g1, Option.bind_some]
      exact this
theorem p_goLeft {N n : Nat} {k : Nat → Nat} {s : RS} {w A E : Nat → Int32} {t1 t2 t3 t4 : Int32} (hN : 9 < N) (h : MR w n k s) (hb : RB n k s) :
    ∃ t1' t2' t3' t4' w' A' E', o_X9_goLeft N t1 t2 t3 t4 w A E = some (nI ((toE n k 8 s).2.1 0), t1', t2', t3', t4', w', A', E') ∧ MR w' n k (toE n k 8 s) := by
  have t := lds_le n s.2.1
  have hn := hb.1.1
  exact p_goLeft_0 hN 8 N s w A E t1 t2 t3 t4 (by omega) (by omega) h hb
