/-! PURE PART QC: the tokens, of the model -/
section TOKENM
variable {N n : Nat} {x mt : Nat → Int32} {B : Nat → Nat}
theorem m_look_5 (h : BY n x mt B) : ∀ j i m, i + j = n → j < m → o_X9_look_5 N (nI n) mt m (nI i) = o_X9_look_57 N (nI n) (nI (run (bl B) j i)) mt := by
  have h200 := h.1
  intro j
  induction j with
  | zero =>
    intro i m h1 h2
    obtain ⟨m, rfl⟩ := mem_succ h2
    rw [o_X9_look_5]
    dsimp only
    rw [ifle (by omega) (by omega), if_pos (by omega)]
    rfl
  | succ j ih =>
    intro i m h1 h2
    obtain ⟨m, rfl⟩ := mem_succ h2
    have c := h.2 i (by omega)
    have g : inb (nI i) 200 = true := inb_ok (by omega) (by omega)
    rw [o_X9_look_5]
    dsimp only
    rw [ifle (by omega) (by omega), if_neg (by omega), ogd_t g, ogd_t g, cl_nI (by omega), c.2.1, show (32 : Int32) = nI 32 from rfl, show (10 : Int32) = nI 10 from rfl, ifeq (by omega) (by omega), ifeq (by omega) (by omega), o_X9_look_44, nI_1, run]
    by_cases e : B i = 32 ∨ B i = 10
    · rw [if_pos (show bl B i = true from decide_eq_true e)]
      rcases e with e | e
      · rw [if_pos e]; exact ih (i + 1) m (by omega) (by omega)
      · rw [if_neg (by omega), if_pos e]; exact ih (i + 1) m (by omega) (by omega)
    · rw [if_neg (fun q => e (Or.inl q)), if_neg (fun q => e (Or.inr q)), if_neg (show ¬ bl B i = true from fun q => e (of_decide_eq_true q))]
/-- letters or figures -/
def tP (B : Nat → Nat) (t : Nat) : Nat → Bool := if t = 1 then lt B else fg B
theorem m_look_150 (h : BY n x mt B) {st t : Nat} {v : Int32} (ht : t = 1 ∨ t = 2) : ∀ j i m, i + j = n → j + 1 < m → st ≤ i → o_X9_look_150 N (nI n) (nI st) (nI t) v mt m (nI (i - st)) 1 = o_X9_look_232 N (nI st) (nI (run (tP B t) j i - st)) (nI t) mt N v 0 := by
  have h200 := h.1
  intro j
  induction j with
  | zero =>
    intro i m h1 h2 h3
    obtain ⟨m, rfl⟩ := mem_succ h2
    rw [o_X9_look_150]
    dsimp only
    rw [if_neg (by decide), nI_add, ifle (by omega) (by omega), if_pos (by omega)]
    rfl
  | succ j ih =>
    intro i m h1 h2 h3
    obtain ⟨m, rfl⟩ := mem_succ h2
    have c := h.2 i (by omega)
    have g : inb (nI i) 200 = true := inb_ok (by omega) (by omega)
    have fin : ∀ r : Int32, (r = 0 ∨ r = 1) → (r = 1 ↔ tP B t i = true) → o_X9_look_207 N (o_X9_look_150 N (nI n) (nI st) (nI t) v mt m) (nI n) (nI st) (nI (i - st)) (nI t) v mt r = o_X9_look_232 N (nI st) (nI (run (tP B t) (j + 1) i - st)) (nI t) mt N v 0 := by
      intro r hr hp
      rw [o_X9_look_207, run]
      rcases hr with rfl | rfl
      · rw [if_pos rfl, if_neg (show ¬ tP B t i = true from fun q => absurd (hp.mpr q) (by decide)), l0, nI_add, Nat.add_zero]
        obtain ⟨m, rfl⟩ := mem_succ (show 0 < m by omega)
        rw [o_X9_look_150]
        dsimp only
        rw [if_pos (show nI 0 = 0 from rfl)]
        rfl
      · rw [if_neg (by decide), if_pos (hp.mp rfl), nI_1, show i - st + 1 = i + 1 - st by omega]
        exact ih (i + 1) m (by omega) (by omega) (by omega)
    rw [o_X9_look_150]
    dsimp only
    rw [if_neg (by decide), nI_add, show st + (i - st) = i by omega, ifle (by omega) (by omega), if_neg (by omega), ogd_t g, cl_nI (by omega), c.2.1, m_small c.1, m_fig c.1, Option.bind_some, Option.bind_some]
    rcases ht with e | e
    · subst e
      rw [if_pos (show nI 1 = 1 from rfl)]
      refine fin _ (by split <;> simp) ?_
      show _ ↔ lt B i = true
      unfold lt
      by_cases z : 97 ≤ B i ∧ B i ≤ 122
      · rw [if_pos z, decide_eq_true z]; exact ⟨fun _ => rfl, fun _ => rfl⟩
      · rw [if_neg z, decide_eq_false z]; exact ⟨fun q => absurd q (by decide), fun q => by cases q⟩
    · subst e
      rw [if_neg (show ¬ nI 2 = 1 by decide)]
      refine fin _ (by split <;> simp) ?_
      show _ ↔ fg B i = true
      unfold fg
      by_cases z : 48 ≤ B i ∧ B i ≤ 57
      · rw [if_pos z, decide_eq_true z]; exact ⟨fun _ => rfl, fun _ => rfl⟩
      · rw [if_neg z, decide_eq_false z]; exact ⟨fun q => absurd q (by decide), fun q => by cases q⟩
theorem m_look_232 (h : BY n x mt B) {st len : Nat} (hl : st + len ≤ n) (hf : ∀ q, q < len → 48 ≤ B (st + q) ∧ B (st + q) ≤ 57) : ∀ j l m v, l + j = min 3 len → j < m → v < 1000 → (l ≤ 2 → v < 100) → (l ≤ 1 → v < 10) → (l ≤ 0 → v < 1) → o_X9_look_232 N (nI st) (nI len) 2 mt m (nI v) (nI l) = o_X9_look_288 N (nI st) (nI len) 2 (nI (vl B j (st + l) v)) := by
  have h200 := h.1
  intro j
  induction j with
  | zero =>
    intro l m v h1 h2 h5 h6 h7 h8
    obtain ⟨m, rfl⟩ := mem_succ h2
    rw [o_X9_look_232]
    dsimp only
    rw [ifle (by omega) (by omega), l3_, ifle (by omega) (by omega)]
    by_cases e : len ≤ l
    · rw [if_pos e]; rfl
    · rw [if_neg e, if_pos (by omega)]; rfl
  | succ j ih =>
    intro l m v h1 h2 h5 h6 h7 h8
    obtain ⟨m, rfl⟩ := mem_succ h2
    have c := h.2 (st + l) (by omega)
    have f := hf l (by omega)
    have b1 := h6 (by omega)
    rw [o_X9_look_232]
    dsimp only
    rw [ifle (by omega) (by omega), if_neg (by omega), l3_, ifle (by omega) (by omega), if_neg (by omega), if_pos rfl, nI_add, ogd_t (inb_ok (by omega) (by omega)), cl_nI (by omega), c.2.1, show (10 : Int32) = nI 10 from rfl, show (48 : Int32) = nI 48 from rfl, pk_mul, nI_add, pk_sub (by omega), nI_1, vl, show 10 * v + B (st + l) - 48 = v * 10 + (B (st + l) - 48) by omega]
    have := ih (l + 1) m (v * 10 + (B (st + l) - 48)) (by omega) (by omega) (by omega) (fun q => by have := h7 (by omega); omega) (fun q => by have := h8 (by omega); omega) (by omega)
    rw [show st + (l + 1) = st + l + 1 by omega] at this
    exact this
theorem run_P {P : Nat → Bool} : ∀ j i q, i ≤ q → q < run P j i → P q = true
  | 0, i, q, h1, h2 => by rw [run] at h2; omega
  | j + 1, i, q, h1, h2 => by
    rw [run] at h2
    split at h2
    · by_cases e : q = i
      · subst e; assumption
      · exact run_P j (i + 1) q (by omega) h2
    · omega
theorem run_s {P : Nat → Bool} {j i : Nat} (hj : 0 < j) (h : P i = true) : run P j i = run P (j - 1) (i + 1) := by
  obtain ⟨j, rfl⟩ := mem_succ hj
  rw [run, if_pos h]; rfl
theorem m_232_n {N st t ln m : Nat} {mt : Nat → Int32} {v : Int32} (ht : t < 100) (h2 : t ≠ 2) (h1 : 1 ≤ ln) (hl : ln < 1000) (hm : 0 < m) : o_X9_look_232 N (nI st) (nI ln) (nI t) mt m v 0 = some (nI st, nI ln, nI t, v) := by
  obtain ⟨m, rfl⟩ := mem_succ hm
  have e2 : ¬ nI t = 2 := fun q => h2 ((nI_eq (a := t) (b := 2) (by omega) (by omega)).mp q)
  rw [o_X9_look_232]
  dsimp only
  rw [l0, ifle (by omega) (by omega), if_neg (by omega), l3_, ifle (by omega) (by omega), if_neg (by omega), if_neg e2, o_X9_look_288, if_neg e2]
theorem m_128 {N n st s : Nat} {mt : Nat → Int32} {v : Int32} (hs : s < 100) : o_X9_look_128 N (nI n) (nI st) v mt (nI s) = if 3 ≤ s then o_X9_look_150 N (nI n) (nI st) (nI s) v mt N 1 0 else o_X9_look_150 N (nI n) (nI st) (nI s) v mt N 1 1 := by
  rw [o_X9_look_128, l3_, ifle (by omega) (by omega)]
theorem m_one {N n st s : Nat} {mt : Nat → Int32} {v : Int32} (hN : 0 < N) (hs : s < 100) (h3 : 3 ≤ s) : o_X9_look_128 N (nI n) (nI st) v mt (nI s) = some (nI st, 1, nI s, v) := by
  rw [m_128 hs, if_pos h3]
  obtain ⟨m, e⟩ := mem_succ hN
  have : ∀ M, 0 < M → o_X9_look_150 N (nI n) (nI st) (nI s) v mt M 1 0 = some (nI st, 1, nI s, v) := by
    intro M hM
    obtain ⟨m, rfl⟩ := mem_succ hM
    rw [o_X9_look_150]
    dsimp only
    rw [if_pos rfl]
    exact m_232_n (ln := 1) hs (by omega) (by omega) (by omega) hN
  exact this N hN
theorem m_look (h : BY n x mt B) {i : Nat} (hN : 201 < N) (hi : i ≤ n) : ∃ V, o_X9_look N (nI n) mt (nI i) = some (nI (TOK n B i).2.1, nI ((TOK n B i).2.2.1 - (TOK n B i).2.1), nI (TOK n B i).1, V) ∧ ((TOK n B i).1 = 2 → V = nI (TOK n B i).2.2.2) := by
  have h200 := h.1
  have a := run_le (bl B) (n - i) i
  rw [o_X9_look, m_look_5 h (n - i) i N (by omega) (by omega)]
  unfold TOK
  dsimp only
  generalize run (bl B) (n - i) i = st at a
  rw [o_X9_look_57, ifeq (by omega) (by omega)]
  by_cases e : st < n
  · have c := h.2 st e
    have g : inb (nI st) 200 = true := inb_ok (by omega) (by omega)
    have L := fun t (ht : t = 1 ∨ t = 2) => m_look_150 (N := N) (v := 0) h (st := st) (t := t) ht (n - (st + 1)) (st + 1) N (by omega) (by omega) (by omega)
    rw [show st + 1 - st = 1 by omega] at L
    rw [if_neg (by omega), if_pos e, ogd_t g, cl_nI (by omega), c.2.1, m_small c.1, Option.bind_some, m_fig c.1, Option.bind_some, show (59 : Int32) = nI 59 from rfl, ifeq (by omega) (by omega)]
    by_cases f : lt B st = true
    · have f' : 97 ≤ B st ∧ B st ≤ 122 := of_decide_eq_true f
      have r1 := run_1 (P := lt B) (j := n - st) (by omega) f
      have r2 := run_le (lt B) (n - st) st
      have r3 := run_s (P := lt B) (j := n - st) (i := st) (by omega) f
      have q := L 1 (Or.inl rfl)
      rw [show tP B 1 = lt B from rfl, show n - (st + 1) = n - st - 1 by omega, ← r3, m_232_n (by omega) (by omega) (by omega) (by omega) (by omega)] at q
      rw [if_pos f, if_pos f', if_neg (by decide), show (1 : Int32) = nI 1 from rfl, m_128 (by omega), if_neg (by omega)]
      exact ⟨0, q, fun q => by cases q⟩
    · have f' : ¬ (97 ≤ B st ∧ B st ≤ 122) := fun q => f (decide_eq_true q)
      rw [if_neg f, if_neg f', if_pos rfl]
      by_cases k : fg B st = true
      · have k' : 48 ≤ B st ∧ B st ≤ 57 := of_decide_eq_true k
        have r1 := run_1 (P := fg B) (j := n - st) (by omega) k
        have r2 := run_le (fg B) (n - st) st
        have r3 := run_s (P := fg B) (j := n - st) (i := st) (by omega) k
        have q := L 2 (Or.inr rfl)
        rw [show tP B 2 = fg B from rfl, show n - (st + 1) = n - st - 1 by omega, ← r3] at q
        have w := m_look_232 (N := N) h (st := st) (len := run (fg B) (n - st) st - st) (by omega) (fun q hq => of_decide_eq_true (run_P (P := fg B) (n - st) st (st + q) (by omega) (by omega))) (min 3 (run (fg B) (n - st) st - st)) 0 N 0 (by omega) (by omega) (by omega) (by omega) (by omega) (by omega)
        have v := vs_vl B (n - st) st 3 0
        rw [show (nI 0 : Int32) = 0 from rfl, Nat.add_zero, ← v] at w
        rw [show nI 2 = 2 from rfl, w] at q
        rw [if_pos k, if_pos k', if_neg (by decide), show (2 : Int32) = nI 2 from rfl, m_128 (by omega), if_neg (by omega)]
        refine ⟨nI (vs B (n - st) st 3 0), ?_, fun _ => rfl⟩
        refine Eq.trans q ?_
        rw [o_X9_look_288, if_pos rfl, l3_, ifle (by omega) (by omega)]
        by_cases z : run (fg B) (n - st) st - st ≤ 3
        · rw [if_pos z, if_pos z]; rfl
        · rw [if_neg z, if_neg z]; rfl
      · have k' : ¬ (48 ≤ B st ∧ B st ≤ 57) := fun q => k (decide_eq_true q)
        rw [if_neg k, if_neg k', if_pos rfl]
        by_cases z : B st = 59
        · rw [if_pos z, if_pos z, show (3 : Int32) = nI 3 from rfl, m_one (by omega) (by omega) (by omega), show st + 1 - st = 1 by omega]
          exact ⟨0, rfl, fun q => by cases q⟩
        · rw [if_neg z, if_neg z, show (4 : Int32) = nI 4 from rfl, m_one (by omega) (by omega) (by omega), show st + 1 - st = 1 by omega]
          exact ⟨0, rfl, fun q => by cases q⟩
  · rw [if_neg e, if_pos (by omega), Nat.sub_self]
    exact ⟨0, rfl, fun q => by cases q⟩
end TOKENM
