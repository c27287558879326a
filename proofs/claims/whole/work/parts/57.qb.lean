/-! PURE PART QB: the tokens of a text -/
abbrev sb (c : Nat) : Int32 := (nI c).toInt8.toInt32
theorem fin_letter : ∀ c, c < 256 → (if sb c < 97 then some (0 : Int32) else if 122 < sb c then some 0 else some 1) = some (if 97 ≤ c ∧ c ≤ 122 then 1 else 0) := by decide +kernel
theorem fin_fig : ∀ c, c < 256 → (if sb c < 48 then some (0 : Int32) else if 57 < sb c then some 0 else some 1) = some (if 48 ≤ c ∧ c ≤ 57 then 1 else 0) := by decide +kernel
theorem fin_blank : ∀ c, c < 256 → (if sb c = 32 then some (1 : Int32) else if sb c = 10 then some 1 else some 0) = some (if c = 32 ∨ c = 10 then 1 else 0) := by decide +kernel
theorem fin_semi : ∀ c, c < 256 → decide (sb c = 59) = decide (c = 59) := by decide +kernel
theorem fin_low : ∀ c, c < 128 → sb c = nI c := by decide +kernel
theorem x_letter {N c : Nat} (h : c < 256) : o_X4_isLetter N (sb c) = some (if 97 ≤ c ∧ c ≤ 122 then 1 else 0) := by rw [o_X4_isLetter]; exact fin_letter c h
theorem x_fig {N c : Nat} (h : c < 256) : o_X4_isFigure N (sb c) = some (if 48 ≤ c ∧ c ≤ 57 then 1 else 0) := by rw [o_X4_isFigure]; exact fin_fig c h
theorem x_blank {N c : Nat} (h : c < 256) : o_X4_isBlank N (sb c) = some (if c = 32 ∨ c = 10 then 1 else 0) := by rw [o_X4_isBlank]; exact fin_blank c h
theorem isb_ite (p : Prop) [Decidable p] : isb (if p then 1 else 0) = true := by split <;> decide
theorem m_small {N c : Nat} (h : c < 256) : o_X9_isSmall N (nI c) = some (if 97 ≤ c ∧ c ≤ 122 then 1 else 0) := by
  rw [o_X9_isSmall, show (97 : Int64) = (nI 97).toInt64 from rfl, show (122 : Int64) = (nI 122).toInt64 from rfl, p_in32, Option.bind_some, ogd_t (isb_ite _)]
  have e : (nI 97 ≤ nI c ∧ nI c ≤ nI 122) ↔ (97 ≤ c ∧ c ≤ 122) := by rw [nIle (by omega) (by omega), nIle (by omega) (by omega)]
  by_cases g : 97 ≤ c ∧ c ≤ 122
  · rw [if_pos g, if_pos (e.mpr g)]
  · rw [if_neg g, if_neg (fun q => g (e.mp q))]
theorem m_fig {N c : Nat} (h : c < 256) : o_X9_isFigure N (nI c) = some (if 48 ≤ c ∧ c ≤ 57 then 1 else 0) := by
  rw [o_X9_isFigure, show (48 : Int64) = (nI 48).toInt64 from rfl, show (57 : Int64) = (nI 57).toInt64 from rfl, p_in32, Option.bind_some, ogd_t (isb_ite _)]
  have e : (nI 48 ≤ nI c ∧ nI c ≤ nI 57) ↔ (48 ≤ c ∧ c ≤ 57) := by rw [nIle (by omega) (by omega), nIle (by omega) (by omega)]
  by_cases g : 48 ≤ c ∧ c ≤ 57
  · rw [if_pos g, if_pos (e.mpr g)]
  · rw [if_neg g, if_neg (fun q => g (e.mp q))]
/-- where a run of such bytes ends -/
def run (P : Nat → Bool) : Nat → Nat → Nat
  | 0, i => i
  | j + 1, i => if P i = true then run P j (i + 1) else i
theorem run_le (P : Nat → Bool) : ∀ j i, i ≤ run P j i ∧ run P j i ≤ i + j
  | 0, i => ⟨Nat.le_refl i, Nat.le_refl i⟩
  | j + 1, i => by
    rw [run]
    split
    · have := run_le P j (i + 1); omega
    · omega
def bl (B : Nat → Nat) (i : Nat) : Bool := decide (B i = 32 ∨ B i = 10)
def lt (B : Nat → Nat) (i : Nat) : Bool := decide (97 ≤ B i ∧ B i ≤ 122)
def fg (B : Nat → Nat) (i : Nat) : Bool := decide (48 ≤ B i ∧ B i ≤ 57)
/-- the number's value: of its first k figures -/
def vs (B : Nat → Nat) : Nat → Nat → Nat → Nat → Nat
  | 0, _, _, v => v
  | j + 1, i, k, v => if fg B i = true then vs B j (i + 1) (k - 1) (if k = 0 then v else v * 10 + (B i - 48)) else v
def vl (B : Nat → Nat) : Nat → Nat → Nat → Nat
  | 0, _, v => v
  | k + 1, i, v => vl B k (i + 1) (v * 10 + (B i - 48))
theorem vs_0 (B : Nat → Nat) : ∀ j i v, vs B j i 0 v = v
  | 0, _, _ => rfl
  | j + 1, i, v => by
    rw [vs]
    split
    · exact vs_0 B j (i + 1) v
    · rfl
theorem vs_vl (B : Nat → Nat) : ∀ j i k v, vs B j i k v = vl B (min k (run (fg B) j i - i)) i v
  | 0, i, k, v => by rw [vs, run, Nat.sub_self, Nat.min_zero, vl]
  | j + 1, i, k, v => by
    rw [vs, run]
    by_cases h : fg B i = true
    · rw [if_pos h, if_pos h]
      have r := run_le (fg B) j (i + 1)
      cases k with
      | zero => rw [Nat.zero_min, vl]; exact vs_0 B j (i + 1) v
      | succ k =>
        show vs B j (i + 1) k (v * 10 + (B i - 48)) = _
        rw [vs_vl B j (i + 1) k, show min (k + 1) (run (fg B) j (i + 1) - i) = min k (run (fg B) j (i + 1) - (i + 1)) + 1 by omega, vl]
    · rw [if_neg h, if_neg h, Nat.sub_self, Nat.min_zero, vl]
/-- the tapes of both sides as bytes -/
def BY (n : Nat) (x mt : Nat → Int32) (B : Nat → Nat) : Prop := n ≤ 200 ∧ ∀ i, i < n → B i < 256 ∧ mt i = nI (B i) ∧ x i = sb (B i)
theorem BY_of {xl ml : Int32} {x mt : Nat → Int32} (h : TR xl x ml mt) : ∃ n B, xl = nI n ∧ ml = nI n ∧ BY n x mt B := by
  obtain ⟨n, hn, e1, e2, hb⟩ := h
  refine ⟨n, fun i => (mt i).toNatClampNeg, e1, e2, hn, fun i hi => ?_⟩
  obtain ⟨c, h1, h2, h3⟩ := hb i hi
  show (mt i).toNatClampNeg < 256 ∧ mt i = nI (mt i).toNatClampNeg ∧ x i = sb (mt i).toNatClampNeg
  rw [h2, cl_nI (by omega)]
  exact ⟨h1, rfl, h3⟩
section TOKENS
variable {N n : Nat} {x mt : Nat → Int32} {B : Nat → Nat}
theorem x_at (h : BY n x mt B) {i : Nat} (hi : i < n) : o_X6_at N (nI n) x (nI i) = some (sb (B i)) := by
  have := h.1
  rw [o_X6_at, ifle (by omega) (by omega), if_neg (by omega), ogd_t (inb_ok (by omega) (by omega)), cl_nI (by omega), (h.2 i hi).2.2]
theorem x_step_8 (h : BY n x mt B) {v : Int32} : ∀ j i m, i + j = n → j < m → o_X4_step_8 N v (nI n) x m (nI i) = o_X4_step_52 N (nI (run (bl B) j i)) v (nI n) x := by
  have h200 := h.1
  intro j
  induction j with
  | zero =>
    intro i m h1 h2
    obtain ⟨m, rfl⟩ := mem_succ h2
    rw [o_X4_step_8]
    dsimp only
    rw [ifle (by omega) (by omega), if_pos (by omega)]
    rfl
  | succ j ih =>
    intro i m h1 h2
    obtain ⟨m, rfl⟩ := mem_succ h2
    have c := (h.2 i (by omega)).1
    rw [o_X4_step_8]
    dsimp only
    rw [ifle (by omega) (by omega), if_neg (by omega), x_at h (by omega), Option.bind_some, x_blank c, Option.bind_some, run]
    by_cases e : B i = 32 ∨ B i = 10
    · rw [if_pos e, if_neg (by decide), if_pos (show bl B i = true from decide_eq_true e), nI_1]
      exact ih (i + 1) m (by omega) (by omega)
    · rw [if_neg e, if_pos rfl, if_neg (show ¬ bl B i = true from fun q => e (of_decide_eq_true q))]
theorem x_name (h : BY n x mt B) {t : Int32} : ∀ j i m, i + j = n → j < m → o_X4_stepName_5 N t (nI n) x m (nI i) = some (t, nI (run (lt B) j i)) := by
  have h200 := h.1
  intro j
  induction j with
  | zero =>
    intro i m h1 h2
    obtain ⟨m, rfl⟩ := mem_succ h2
    rw [o_X4_stepName_5]
    dsimp only
    rw [ifle (by omega) (by omega), if_pos (by omega)]
    rfl
  | succ j ih =>
    intro i m h1 h2
    obtain ⟨m, rfl⟩ := mem_succ h2
    have c := (h.2 i (by omega)).1
    rw [o_X4_stepName_5]
    dsimp only
    rw [ifle (by omega) (by omega), if_neg (by omega), x_at h (by omega), Option.bind_some, x_letter c, Option.bind_some, run]
    by_cases e : 97 ≤ B i ∧ B i ≤ 122
    · rw [if_pos e, if_neg (by decide), if_pos (show lt B i = true from decide_eq_true e), nI_1]
      exact ih (i + 1) m (by omega) (by omega)
    · rw [if_neg e, if_pos rfl, if_neg (show ¬ lt B i = true from fun q => e (of_decide_eq_true q))]
theorem x_number (h : BY n x mt B) {st : Nat} : ∀ j i m k v, i + j = n → j < m → st ≤ i → k = 3 - (i - st) → v < 1000 → (1 ≤ k → v < 100) → (2 ≤ k → v < 10) → (3 ≤ k → v < 1) → o_X4_stepNumber_5 N (nI st) (nI n) x m (nI i) (nI v) = o_X4_stepNumber_95 N (nI st) (nI (run (fg B) j i)) (nI (vs B j i k v)) := by
  have h200 := h.1
  intro j
  induction j with
  | zero =>
    intro i m k v h1 h2 h3 h4 h5 h6 h7 h8
    obtain ⟨m, rfl⟩ := mem_succ h2
    rw [o_X4_stepNumber_5]
    dsimp only
    rw [ifle (by omega) (by omega), if_pos (by omega)]
    rfl
  | succ j ih =>
    intro i m k v h1 h2 h3 h4 h5 h6 h7 h8
    obtain ⟨m, rfl⟩ := mem_succ h2
    have c := (h.2 i (by omega)).1
    rw [o_X4_stepNumber_5]
    dsimp only
    rw [ifle (by omega) (by omega), if_neg (by omega), x_at h (by omega), Option.bind_some, x_fig c, Option.bind_some, run, vs]
    by_cases e : 48 ≤ B i ∧ B i ≤ 57
    · have ef : fg B i = true := decide_eq_true e
      rw [if_pos e, if_neg (by decide), if_pos ef, if_pos ef, l3_, pk_sub h3, ifle (by omega) (by omega), o_X4_stepNumber_79, nI_1]
      cases k with
      | zero =>
        rw [if_pos (by omega)]
        exact ih (i + 1) m 0 v (by omega) (by omega) (by omega) (by omega) (by omega) (by omega) (by omega) (by omega)
      | succ k =>
        have b1 := h6 (by omega)
        rw [if_neg (by omega), Option.bind_some, o_X4_stepNumber_79, nI_1, fin_low _ (by omega), show (10 : Int32) = nI 10 from rfl, show (48 : Int32) = nI 48 from rfl, pk_mul, nI_add, pk_sub (by omega), show v * 10 + B i - 48 = v * 10 + (B i - 48) by omega]
        exact ih (i + 1) m k _ (by omega) (by omega) (by omega) (by omega) (by omega) (fun q => by have := h7 (by omega); omega) (fun q => by have := h8 (by omega); omega) (fun q => by omega)
    · have ef : ¬ fg B i = true := fun q => e (of_decide_eq_true q)
      rw [if_neg e, if_pos rfl, if_neg ef, if_neg ef]
/-- the token at i or behind its blanks: kind, start, end, value -/
def TOK (n : Nat) (B : Nat → Nat) (i : Nat) : Nat × Nat × Nat × Nat :=
  let st := run (bl B) (n - i) i
  if st < n then
    (if lt B st = true then (1, st, run (lt B) (n - st) st, 0)
     else if fg B st = true then (if run (fg B) (n - st) st - st ≤ 3 then 2 else 4, st, run (fg B) (n - st) st, vs B (n - st) st 3 0)
     else if B st = 59 then (3, st, st + 1, 0) else (4, st, st + 1, 0))
  else (0, st, st, 0)
theorem run_1 {P : Nat → Bool} {j i : Nat} (hj : 0 < j) (h : P i = true) : i + 1 ≤ run P j i := by
  obtain ⟨j, rfl⟩ := mem_succ hj
  rw [run, if_pos h]
  exact (run_le P j (i + 1)).1
theorem TOK_b {i : Nat} (hi : i ≤ n) : i ≤ (TOK n B i).2.1 ∧ (TOK n B i).2.1 ≤ (TOK n B i).2.2.1 ∧ (TOK n B i).2.2.1 ≤ n ∧ (TOK n B i).1 ≤ 4 ∧ ((TOK n B i).1 ≠ 0 → (TOK n B i).2.1 < (TOK n B i).2.2.1) := by
  have a := run_le (bl B) (n - i) i
  unfold TOK
  dsimp only
  generalize run (bl B) (n - i) i = st at a
  have b := run_le (lt B) (n - st) st
  have c := run_le (fg B) (n - st) st
  by_cases e : st < n
  · rw [if_pos e]
    by_cases g : lt B st = true
    · have := run_1 (P := lt B) (j := n - st) (by omega) g
      rw [if_pos g]; dsimp only; omega
    · rw [if_neg g]
      by_cases f : fg B st = true
      · have := run_1 (P := fg B) (j := n - st) (by omega) f
        rw [if_pos f]; dsimp only
        refine ⟨by omega, by omega, by omega, ?_, fun _ => by omega⟩
        split <;> omega
      · rw [if_neg f]
        split
        · dsimp only; omega
        · dsimp only; omega
  · rw [if_neg e]; dsimp only; omega
theorem vs_lt (h : BY n x mt B) : ∀ j i k v, i + j = n → k ≤ 3 → v < 1000 → (1 ≤ k → v < 100) → (2 ≤ k → v < 10) → (3 ≤ k → v < 1) → vs B j i k v < 1000 := by
  intro j
  induction j with
  | zero => intro i k v _ _ h5 _ _ _; exact h5
  | succ j ih =>
    intro i k v h1 h2 h5 h6 h7 h8
    rw [vs]
    by_cases f : fg B i = true
    · have f' : 48 ≤ B i ∧ B i ≤ 57 := of_decide_eq_true f
      rw [if_pos f]
      cases k with
      | zero => exact ih (i + 1) 0 v (by omega) (by omega) h5 (by omega) (by omega) (by omega)
      | succ k =>
        have b1 := h6 (by omega)
        rw [if_neg (show ¬ k + 1 = 0 by omega), Nat.add_sub_cancel]
        exact ih (i + 1) k _ (by omega) (by omega) (by omega) (fun q => by have := h7 (by omega); omega) (fun q => by have := h8 (by omega); omega) (fun q => by omega)
    · rw [if_neg f]; exact h5
theorem TOK_v (h : BY n x mt B) {i : Nat} (hi : i ≤ n) : (TOK n B i).2.2.2 < 1000 := by
  have a := run_le (bl B) (n - i) i
  unfold TOK
  dsimp only
  generalize run (bl B) (n - i) i = st at a
  split
  · split
    · dsimp only; omega
    · split
      · dsimp only
        exact vs_lt h (n - st) st 3 0 (by omega) (by omega) (by omega) (by omega) (by omega) (by omega)
      · split
        · dsimp only; omega
        · dsimp only; omega
  · dsimp only; omega
theorem x_step (h : BY n x mt B) {i : Nat} {v : Int32} (hN : 201 < N) (hi : i ≤ n) : ∃ V, o_X4_step N (nI i) v (nI n) x = some (nI (TOK n B i).1, nI (TOK n B i).2.1, nI (TOK n B i).2.2.1, V) ∧ ((TOK n B i).1 = 2 → V = nI (TOK n B i).2.2.2) := by
  have h200 := h.1
  have a := run_le (bl B) (n - i) i
  rw [o_X4_step, x_step_8 h (n - i) i N (by omega) (by omega)]
  unfold TOK
  dsimp only
  generalize run (bl B) (n - i) i = st at a
  have b := run_le (lt B) (n - st) st
  have c := run_le (fg B) (n - st) st
  rw [o_X4_step_52, iflt (by omega) (by omega)]
  by_cases e : st < n
  · have cc := (h.2 st e).1
    rw [if_pos e, if_pos e, x_at h e, Option.bind_some, x_letter cc, Option.bind_some]
    by_cases g : lt B st = true
    · have g' : 97 ≤ B st ∧ B st ≤ 122 := of_decide_eq_true g
      rw [if_pos g, if_pos g', if_neg (by decide), o_X4_stepName, x_name h (n - st) st N (by omega) (by omega), Option.bind_some]
      exact ⟨v, rfl, fun q => by cases q⟩
    · have g' : ¬ (97 ≤ B st ∧ B st ≤ 122) := fun q => g (decide_eq_true q)
      rw [if_neg g, if_neg g', if_pos rfl, Option.bind_some, x_fig cc, Option.bind_some]
      by_cases f : fg B st = true
      · have f' : 48 ≤ B st ∧ B st ≤ 57 := of_decide_eq_true f
        rw [if_pos f, if_pos f', if_neg (by decide), o_X4_stepNumber, l0, x_number h (n - st) st N 3 0 (by omega) (by omega) (by omega) (by omega) (by omega) (by omega) (by omega) (by omega), o_X4_stepNumber_95, pk_sub c.1, l3_, ifle (by omega) (by omega)]
        refine ⟨nI (vs B (n - st) st 3 0), ?_, fun _ => rfl⟩
        by_cases z : run (fg B) (n - st) st - st ≤ 3
        · rw [if_pos z, if_pos z]; rfl
        · rw [if_neg z, if_neg z]; rfl
      · have f' : ¬ (48 ≤ B st ∧ B st ≤ 57) := fun q => f (decide_eq_true q)
        rw [if_neg f, if_neg f', if_pos rfl, Option.bind_some, o_X4_step_152, o_X4_step_152, nI_1]
        have s := fin_semi (B st) cc
        by_cases z : B st = 59
        · rw [if_pos z, if_pos (of_decide_eq_true (by rw [s]; exact decide_eq_true z))]
          exact ⟨v, rfl, fun q => by cases q⟩
        · rw [if_neg z, if_neg (fun q => z (of_decide_eq_true (by rw [← s]; exact decide_eq_true q)))]
          exact ⟨v, rfl, fun q => by cases q⟩
  · rw [if_neg e, if_neg e]
    exact ⟨v, rfl, fun q => by cases q⟩
end TOKENS
