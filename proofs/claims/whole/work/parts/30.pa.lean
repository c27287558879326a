/-! PURE PART A: numbers; counting; the course of a bout; leaders and trains, of both sides -/
theorem cl_nI {k : Nat} (h : k < 100000) : (nI k).toNatClampNeg = k := nI_clamp (by omega)
theorem inb_ok {k n : Nat} (h : k < n) (hn : n < 100000) : inb (nI k) n = true := by
  unfold inb
  exact decide_eq_true (nI_in h (by omega))
theorem ifeq {α : Type} {a b : Nat} (ha : a < 100000) (hb : b < 100000) (x y : α) : (if nI a = nI b then x else y) = if a = b then x else y := by
  by_cases h : a = b
  · subst h; simp
  · rw [if_neg h, if_neg]; intro q; exact h ((nI_eq (by omega) (by omega)).mp q)
theorem ifle {α : Type} {a b : Nat} (ha : a < 100000) (hb : b < 100000) (x y : α) : (if nI a ≤ nI b then x else y) = if a ≤ b then x else y := by
  by_cases h : a ≤ b
  · rw [if_pos h, if_pos (nI_le h (by omega))]
  · rw [if_neg h, if_neg (nI_ge (by omega) (by omega))]
theorem iflt {α : Type} {a b : Nat} (ha : a < 100000) (hb : b < 100000) (x y : α) : (if nI a < nI b then x else y) = if a < b then x else y := by
  by_cases h : a < b
  · rw [if_pos h, if_pos (nI_lt h (by omega))]
  · rw [if_neg h, if_neg (nI_nlt (by omega) (by omega))]
/-- the literals as nI -/
theorem l0 : (0 : Int32) = nI 0 := rfl
theorem l1_ : (1 : Int32) = nI 1 := rfl
theorem l2_ : (2 : Int32) = nI 2 := rfl
theorem l3_ : (3 : Int32) = nI 3 := rfl
theorem l4_ : (4 : Int32) = nI 4 := rfl
theorem l5_ : (5 : Int32) = nI 5 := rfl
theorem l7_ : (7 : Int32) = nI 7 := rfl
theorem l8_ : (8 : Int32) = nI 8 := rfl
theorem l9_ : (9 : Int32) = nI 9 := rfl
theorem l17_ : (17 : Int32) = nI 17 := rfl
theorem l25_ : (25 : Int32) = nI 25 := rfl
theorem l26_ : (26 : Int32) = nI 26 := rfl
theorem l27_ : (27 : Int32) = nI 27 := rfl
theorem l100_ : (100 : Int32) = nI 100 := rfl
theorem mem_succ {m k : Nat} (h : k < m) : ∃ m', m = m' + 1 := ⟨m - 1, by omega⟩
/-- how many of i .. i+k-1 have P -/
def cn (P : Nat → Bool) : Nat → Nat → Nat
  | _, 0 => 0
  | i, k + 1 => (if P i = true then 1 else 0) + cn P (i + 1) k
theorem cn_le (P : Nat → Bool) : ∀ k i, cn P i k ≤ k
  | 0, _ => Nat.le_refl 0
  | k + 1, i => by
    have h := cn_le P k (i + 1)
    show (if P i = true then 1 else 0) + cn P (i + 1) k ≤ k + 1
    split <;> omega
theorem cn_congr {P Q : Nat → Bool} : ∀ k i, (∀ j, i ≤ j → j < i + k → P j = Q j) → cn P i k = cn Q i k
  | 0, _, _ => rfl
  | k + 1, i, h => by
    have h1 := cn_congr k (i + 1) (fun j a b => h j (by omega) (by omega))
    show (if P i = true then 1 else 0) + cn P (i + 1) k = (if Q i = true then 1 else 0) + cn Q (i + 1) k
    rw [h i (Nat.le_refl i) (by omega), h1]
/-- how many are in the train that a leads; how many lead -/
abbrev trn (n : Nat) (f : Nat → Nat) (a : Nat) : Nat := cn (fun p => f p == a) 0 n
abbrev lds (n : Nat) (f : Nat → Nat) : Nat := cn (fun p => f p == p) 0 n
def IA (L : Nat → Int32) (g : Nat → Nat) (m b : Nat) : Prop := ∀ j, j < m → L j = nI (g j) ∧ g j < b
theorem p_X3_leads {N p : Nat} {L : Nat → Int32} {f : Nat → Nat} (hL : IA L f 8 8) (hp : p < 8) : o_X3_leads N L (nI p) = some (if f p = p then 1 else 0) := by
  rw [o_X3_leads, ogd_t (inb_ok hp (by omega)), cl_nI (by omega), (hL p hp).1, ifeq (by have := (hL p hp).2; omega) (by omega)]
  split <;> rfl
theorem p_X3_leads_if {N p : Nat} {L : Nat → Int32} {f : Nat → Nat} (hL : IA L f 8 8) (hp : p < 8) {α : Type} (K : Int32 → Option α) {x y : Option α} (hx : ∀ r, K r = if r = 0 then x else y) : (o_X3_leads N L (nI p)).bind K = if f p = p then y else x := by
  rw [p_X3_leads hL hp, Option.bind_some, hx]
  by_cases h : f p = p
  · rw [if_pos h, if_pos h, if_neg (by decide)]
  · rw [if_neg h, if_neg h, if_pos rfl]
theorem p_X3_leaders_4 {N n : Nat} {L : Nat → Int32} {f : Nat → Nat} (hn : n ≤ 8) (hL : IA L f 8 8) : ∀ k i a m, i + k = n → k < m → a ≤ i → o_X3_leaders_4 N (nI n) L m (nI a) (nI i) = some (nI (a + cn (fun p => f p == p) i k)) := by
  intro k
  induction k with
  | zero =>
    intro i a m h1 h2 h3
    obtain ⟨m, rfl⟩ := mem_succ h2
    rw [o_X3_leaders_4]
    dsimp only
    rw [ifle (by omega) (by omega), if_pos (by omega)]
    rfl
  | succ k ih =>
    intro i a m h1 h2 h3
    obtain ⟨m, rfl⟩ := mem_succ h2
    rw [o_X3_leaders_4]
    dsimp only
    rw [ifle (by omega) (by omega), if_neg (by omega), p_X3_leads_if hL (by omega) _ (fun r => rfl)]
    show _ = some (nI (a + ((if (f i == i) = true then 1 else 0) + cn _ (i + 1) k)))
    by_cases h : f i = i
    · rw [if_pos h, nI_1, nI_1, ih (i + 1) (a + 1) m (by omega) (by omega) (by omega), if_pos (beq_iff_eq.mpr h), Nat.add_assoc]
    · rw [if_neg h, nI_1, ih (i + 1) a m (by omega) (by omega) (by omega), if_neg (fun q => h (beq_iff_eq.mp q)), Nat.zero_add]
theorem p_X3_leaders {N n : Nat} {L : Nat → Int32} {f : Nat → Nat} (hN : 8 < N) (hn : n ≤ 8) (hL : IA L f 8 8) : o_X3_leaders N (nI n) L = some (nI (lds n f)) := by
  rw [o_X3_leaders, l0, p_X3_leaders_4 hn hL n 0 0 N (by omega) (by omega) (by omega), Nat.zero_add]
theorem p_X3_trainOf_4 {N n q : Nat} {L : Nat → Int32} {f : Nat → Nat} (hn : n ≤ 8) (hq : q < 8) (hL : IA L f 8 8) : ∀ k i a m, i + k = n → k < m → a ≤ i → o_X3_trainOf_4 N (nI n) L (nI q) m (nI a) (nI i) = some (nI (a + cn (fun p => f p == f q) i k)) := by
  intro k
  induction k with
  | zero =>
    intro i a m h1 h2 h3
    obtain ⟨m, rfl⟩ := mem_succ h2
    rw [o_X3_trainOf_4]
    dsimp only
    rw [ifle (by omega) (by omega), if_pos (by omega)]
    rfl
  | succ k ih =>
    intro i a m h1 h2 h3
    obtain ⟨m, rfl⟩ := mem_succ h2
    rw [o_X3_trainOf_4]
    dsimp only
    rw [ifle (by omega) (by omega), if_neg (by omega), ogd_t (inb_ok (by omega) (by omega)), ogd_t (inb_ok (by omega) (by omega)), cl_nI (by omega), cl_nI (by omega), (hL i (by omega)).1, (hL q hq).1, ifeq (by have := (hL i (by omega)).2; omega) (by have := (hL q hq).2; omega)]
    show _ = some (nI (a + ((if (f i == f q) = true then 1 else 0) + cn _ (i + 1) k)))
    by_cases h : f i = f q
    · rw [if_pos h, nI_1, nI_1, ih (i + 1) (a + 1) m (by omega) (by omega) (by omega), if_pos (beq_iff_eq.mpr h), Nat.add_assoc]
    · rw [if_neg h, nI_1, ih (i + 1) a m (by omega) (by omega) (by omega), if_neg (fun q => h (beq_iff_eq.mp q)), Nat.zero_add]
theorem p_X3_trainOf {N n q : Nat} {L : Nat → Int32} {f : Nat → Nat} (hN : 8 < N) (hn : n ≤ 8) (hq : q < 8) (hL : IA L f 8 8) : o_X3_trainOf N (nI n) L (nI q) = some (nI (trn n f (f q))) := by
  rw [o_X3_trainOf, l0, p_X3_trainOf_4 hn hq hL n 0 0 N (by omega) (by omega) (by omega), Nat.zero_add]
/-- the model's hall in its one row -/
def MA (w : Nat → Int32) (n : Nat) (k d f : Nat → Nat) : Prop := w 0 = nI n ∧ ∀ p, p < 8 → w (1 + p) = nI (k p) ∧ w (9 + p) = nI (d p) ∧ w (17 + p) = nI (f p)
/-- the bounds of a hall -/
def HB (n : Nat) (k d f : Nat → Nat) : Prop := n ≤ 8 ∧ ∀ p, p < 8 → k p ≤ 5 ∧ d p < 3 ∧ f p < 8
theorem p_X9_players {N n : Nat} {w : Nat → Int32} {k d f : Nat → Nat} (h : MA w n k d f) : o_X9_players N w = some (nI n) := by
  rw [o_X9_players, ogd_t (by decide), show Int32.toNatClampNeg 0 = 0 from rfl, h.1]
theorem p_X9_leads {N n p : Nat} {w : Nat → Int32} {k d f : Nat → Nat} (h : MA w n k d f) (hb : HB n k d f) (hp : p < 8) : o_X9_leads N w (nI p) = some (if f p = p then 1 else 0) := by
  rw [o_X9_leads, l17_, nI_add, ogd_t (inb_ok (by omega) (by omega)), cl_nI (by omega), (h.2 p hp).2.2, ifeq (by have := (hb.2 p hp).2.2; omega) (by omega)]
  split <;> rfl
theorem p_X9_leads_if {N n p : Nat} {w : Nat → Int32} {k d f : Nat → Nat} (h : MA w n k d f) (hb : HB n k d f) (hp : p < 8) {α : Type} (K : Int32 → Option α) {x y : Option α} (hx : ∀ r, K r = if r = 0 then x else y) : (o_X9_leads N w (nI p)).bind K = if f p = p then y else x := by
  rw [p_X9_leads h hb hp, Option.bind_some, hx]
  by_cases h : f p = p
  · rw [if_pos h, if_pos h, if_neg (by decide)]
  · rw [if_neg h, if_neg h, if_pos rfl]
theorem p_X9_sizeOf_4 {N n q : Nat} {w : Nat → Int32} {k d f : Nat → Nat} (h : MA w n k d f) (hb : HB n k d f) (hq : q < 100000) : ∀ k i a m, i + k = n → k < m → a ≤ i → o_X9_sizeOf_4 N w (nI q) m (nI a) (nI i) = some (nI (a + cn (fun p => f p == q) i k)) := by
  intro k
  have hn := hb.1
  induction k with
  | zero =>
    intro i a m h1 h2 h3
    obtain ⟨m, rfl⟩ := mem_succ h2
    rw [o_X9_sizeOf_4]
    dsimp only
    rw [p_X9_players h, Option.bind_some, ifle (by omega) (by omega), if_pos (by omega)]
    rfl
  | succ k ih =>
    intro i a m h1 h2 h3
    obtain ⟨m, rfl⟩ := mem_succ h2
    rw [o_X9_sizeOf_4]
    dsimp only
    rw [p_X9_players h, Option.bind_some, ifle (by omega) (by omega), if_neg (by omega), l17_, nI_add, ogd_t (inb_ok (by omega) (by omega)), cl_nI (by omega), (h.2 i (by omega)).2.2, ifeq (by have := (hb.2 i (by omega)).2.2; omega) (by omega)]
    show _ = some (nI (a + ((if (f i == q) = true then 1 else 0) + cn _ (i + 1) k)))
    by_cases hh : f i = q
    · rw [if_pos hh, o_X9_sizeOf_31, nI_1, nI_1, ih (i + 1) (a + 1) m (by omega) (by omega) (by omega), if_pos (beq_iff_eq.mpr hh), Nat.add_assoc]
    · rw [if_neg hh, o_X9_sizeOf_31, l0, nI_add, nI_1, ih (i + 1) (a + 0) m (by omega) (by omega) (by omega), if_neg (fun q => hh (beq_iff_eq.mp q)), Nat.zero_add]
      rfl
theorem p_X9_sizeOf {N n q : Nat} {w : Nat → Int32} {k d f : Nat → Nat} (hN : 8 < N) (h : MA w n k d f) (hb : HB n k d f) (hq : q < 100000) : o_X9_sizeOf N w (nI q) = some (nI (trn n f q)) := by
  have hn := hb.1
  rw [o_X9_sizeOf, l0, p_X9_sizeOf_4 h hb hq n 0 0 N (by omega) (by omega) (by omega), Nat.zero_add]
theorem p_X9_leaders_4 {N n : Nat} {w : Nat → Int32} {k d f : Nat → Nat} (h : MA w n k d f) (hb : HB n k d f) : ∀ k i a m, i + k = n → k < m → a ≤ i → o_X9_leaders_4 N w m (nI a) (nI i) = some (nI (a + cn (fun p => f p == p) i k)) := by
  intro k
  have hn := hb.1
  induction k with
  | zero =>
    intro i a m h1 h2 h3
    obtain ⟨m, rfl⟩ := mem_succ h2
    rw [o_X9_leaders_4]
    dsimp only
    rw [p_X9_players h, Option.bind_some, ifle (by omega) (by omega), if_pos (by omega)]
    rfl
  | succ k ih =>
    intro i a m h1 h2 h3
    obtain ⟨m, rfl⟩ := mem_succ h2
    rw [o_X9_leaders_4]
    dsimp only
    rw [p_X9_players h, Option.bind_some, ifle (by omega) (by omega), if_neg (by omega), p_X9_leads_if h hb (by omega) _ (fun r => rfl)]
    show _ = some (nI (a + ((if (f i == i) = true then 1 else 0) + cn _ (i + 1) k)))
    by_cases hh : f i = i
    · rw [if_pos hh, o_X9_leaders_26, nI_1, nI_1, ih (i + 1) (a + 1) m (by omega) (by omega) (by omega), if_pos (beq_iff_eq.mpr hh), Nat.add_assoc]
    · rw [if_neg hh, o_X9_leaders_26, l0, nI_add, nI_1, ih (i + 1) (a + 0) m (by omega) (by omega) (by omega), if_neg (fun q => hh (beq_iff_eq.mp q)), Nat.zero_add]
      rfl
theorem p_X9_leaders {N n : Nat} {w : Nat → Int32} {k d f : Nat → Nat} (hN : 8 < N) (h : MA w n k d f) (hb : HB n k d f) : o_X9_leaders N w = some (nI (lds n f)) := by
  have hn := hb.1
  rw [o_X9_leaders, l0, p_X9_leaders_4 h hb n 0 0 N (by omega) (by omega) (by omega), Nat.zero_add]
/-! the course of a bout -/
def nx (h : Nat) : Nat := if h = 2 then 0 else h + 1
def aft (k b : Nat) : Nat := if k = 2 then b else if k = 3 then (if nx b = 2 then 0 else nx b) else nx b
def crsL (ka kb : Nat) : Nat → Nat → Nat → Nat → Nat × Nat × Nat
  | 0, x, y, t => (x, y, t)
  | j + 1, x, y, t => if x = y then crsL ka kb j (aft ka x) (aft kb x) (t + 1) else (x, y, t)
/-- what both play at last, and how many throws it takes -/
def crs (ka ha kb hb : Nat) : Nat × Nat × Nat := crsL ka kb 8 (if ka = 5 then nx hb else ha) (if kb = 5 then nx ha else hb) 1
theorem nx_lt : ∀ h, h < 3 → nx h < 3 := by decide
theorem aft_lt (k : Nat) {b : Nat} (h : b < 3) : aft k b < 3 := by
  have h1 := nx_lt b h
  unfold aft
  repeat' split
  all_goals omega
theorem crsL_lt (ka kb : Nat) : ∀ j x y t, x < 3 → y < 3 → (crsL ka kb j x y t).1 < 3 ∧ (crsL ka kb j x y t).2.1 < 3 ∧ (crsL ka kb j x y t).2.2 ≤ t + j := by
  intro j
  induction j with
  | zero => intro x y t hx hy; exact ⟨hx, hy, Nat.le_refl _⟩
  | succ j ih =>
    intro x y t hx hy
    rw [crsL]
    split
    · have := ih (aft ka x) (aft kb x) (t + 1) (aft_lt ka hx) (aft_lt kb hx)
      exact ⟨this.1, this.2.1, by omega⟩
    · exact ⟨hx, hy, by show t ≤ _; omega⟩
theorem crs_lt {ka ha kb hb : Nat} (h1 : ha < 3) (h2 : hb < 3) : (crs ka ha kb hb).1 < 3 ∧ (crs ka ha kb hb).2.1 < 3 ∧ (crs ka ha kb hb).2.2 ≤ 9 := by
  have a := nx_lt ha h1
  have b := nx_lt hb h2
  exact crsL_lt ka kb 8 _ _ 1 (by split <;> omega) (by split <;> omega)
theorem p_nextOf {N h : Nat} (hh : h < 3) : o_X8_nextOf N (nI h) = some (nI (nx h)) := by
  rw [o_X8_nextOf, l2_, ifeq (by omega) (by omega), nx]
  split
  · rfl
  · rw [nI_1]
theorem p_afterTie {N k b : Nat} (hk : k < 100) (hb : b < 3) : o_X2_afterTie N (nI k) (nI b) (nI (nx b)) = some (nI (aft k b)) := by
  have := nx_lt b hb
  rw [o_X2_afterTie, l2_, l3_, ifeq (by omega) (by omega), ifeq (by omega) (by omega), ifeq (by omega) (by omega), aft]
  repeat' split
  all_goals rfl
theorem p_next : ∀ h, h < 3 → (nI h + 1) - (nI h + 1) / 3 * 3 = nI (nx h) := by decide
theorem p_X9_next {N h : Nat} (hh : h < 3) : o_X9_next N (nI h) = some (nI (nx h)) := by rw [o_X9_next, p_next h hh]
theorem p_behindTie {N n p b : Nat} {w : Nat → Int32} {k d f : Nat → Nat} (h : MA w n k d f) (hb : HB n k d f) (hp : p < 8) (h3 : b < 3) : o_X9_behindTie N w (nI p) (nI b) = some (nI (aft (k p) b)) := by
  have h1 := nx_lt b h3
  have h2 := (hb.2 p hp).1
  rw [o_X9_behindTie, l1_, nI_add, ogd_t (inb_ok (by omega) (by omega)), p_X9_next h3, Option.bind_some, cl_nI (by omega), (h.2 p hp).1, l2_, l3_, ifeq (by omega) (by omega), ifeq (by omega) (by omega), ifeq (by omega) (by omega), aft]
  repeat' split
  all_goals rfl
theorem p_X2_play_41 {N ka kb : Nat} (h1 : ka < 100) (h2 : kb < 100) : ∀ j x y t m, t + j = 9 → j < m → x < 3 → y < 3 → o_X2_play_41 N (nI ka) (nI kb) m (nI x) (nI y) (nI t) = some (nI (crsL ka kb j x y t).1, nI (crsL ka kb j x y t).2.1, nI (crsL ka kb j x y t).2.2) := by
  intro j
  induction j with
  | zero =>
    intro x y t m ht hm hx hy
    obtain ⟨m, rfl⟩ := mem_succ hm
    rw [o_X2_play_41]
    dsimp only
    rw [l9_, ifeq (by omega) (by omega), ifle (by omega) (by omega)]
    split
    · rw [if_pos (by omega)]; rfl
    · rfl
  | succ j ih =>
    intro x y t m ht hm hx hy
    obtain ⟨m, rfl⟩ := mem_succ hm
    rw [o_X2_play_41]
    dsimp only
    rw [l9_, ifeq (by omega) (by omega), ifle (by omega) (by omega), crsL]
    by_cases he : x = y
    · rw [if_pos he, if_neg (by omega), p_nextOf hx, Option.bind_some, p_afterTie h1 hx, Option.bind_some, p_afterTie h2 hx, Option.bind_some, nI_1, ih _ _ _ m (by omega) (by omega) (aft_lt ka hx) (aft_lt kb hx), if_pos he]
    · rw [if_neg he, if_neg he]
theorem p_X2_play {N ka ha kb hb : Nat} (hN : 9 < N) (h1 : ka < 100) (h2 : kb < 100) (h3 : ha < 3) (h4 : hb < 3) : o_X2_play N (nI ka) (nI ha) (nI kb) (nI hb) = some (nI (crs ka ha kb hb).1, nI (crs ka ha kb hb).2.1, nI (crs ka ha kb hb).2.2) := by
  have a := nx_lt ha h3
  have b := nx_lt hb h4
  have key : ∀ x, x < 3 → o_X2_play_15 N (nI ka) (nI ha) (nI kb) (nI hb) (nI x) = some (nI (crsL ka kb 8 x (if kb = 5 then nx ha else hb) 1).1, nI (crsL ka kb 8 x (if kb = 5 then nx ha else hb) 1).2.1, nI (crsL ka kb 8 x (if kb = 5 then nx ha else hb) 1).2.2) := by
    intro x hx
    rw [o_X2_play_15, l5_, ifeq (by omega) (by omega), p_nextOf h3, Option.bind_some]
    split
    · rw [o_X2_play_33, l1_, p_X2_play_41 h1 h2 8 x _ 1 N (by omega) (by omega) hx a]
    · rw [o_X2_play_33, l1_, p_X2_play_41 h1 h2 8 x _ 1 N (by omega) (by omega) hx h4]
  rw [o_X2_play, l5_, ifeq (by omega) (by omega), p_nextOf h4, Option.bind_some, crs]
  split
  · exact key _ b
  · exact key _ h3
