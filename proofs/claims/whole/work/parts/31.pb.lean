/-! PURE PART B: a bout, of both sides -/
/-- the course of the bout of a and b -/
def bc (k d : Nat → Nat) (a b : Nat) : Nat × Nat × Nat := crs (k a) (d a) (k b) (d b)
theorem bc_lt {k d : Nat → Nat} {a b : Nat} (h1 : d a < 3) (h2 : d b < 3) : (bc k d a b).1 < 3 ∧ (bc k d a b).2.1 < 3 ∧ (bc k d a b).2.2 ≤ 9 := crs_lt h1 h2
theorem trn_le (n : Nat) (f : Nat → Nat) (a : Nat) : trn n f a ≤ n := cn_le _ n 0
/-- who wins: by hands, else by trains, else by numbers -/
def win (n : Nat) (k d f : Nat → Nat) (a b : Nat) : Nat :=
  if (bc k d a b).1 = nx (bc k d a b).2.1 then a
  else if (bc k d a b).1 = (bc k d a b).2.1 then
    (if trn n f a = trn n f b then (if a < b then a else b) else if trn n f b < trn n f a then a else b)
  else b
theorem win_or (n : Nat) (k d f : Nat → Nat) (a b : Nat) : win n k d f a b = a ∨ win n k d f a b = b := by
  unfold win
  repeat' split
  all_goals first | exact Or.inl rfl | exact Or.inr rfl
theorem nx_ne : ∀ h, h < 3 → nx h ≠ h := by decide
theorem nx3 : ∀ x, x < 3 → ∀ y, y < 3 → x ≠ nx y → x ≠ y → y = nx x := by decide
theorem nx3' : ∀ x, x < 3 → ∀ y, y < 3 → x = y → y ≠ nx x := by decide
theorem p_isTie {N x y : Nat} (hx : x < 3) (hy : y < 3) : o_X2_isTie N (nI x) (nI y) = some (if x = y then 1 else 0) := by
  rw [o_X2_isTie, ifeq (by omega) (by omega)]
  split <;> rfl
theorem p_fhb {N x y : Nat} (hx : x < 3) (hy : y < 3) : o_X2_firstHasBeaten N (nI x) (nI y) = some (if x = nx y then 1 else 0) := by
  have := nx_lt y hy
  rw [o_X2_firstHasBeaten, p_nextOf hy, Option.bind_some, ifeq (by omega) (by omega)]
  split <;> rfl
theorem p_X3_foretell {N n a b : Nat} {K D L : Nat → Int32} {k d f : Nat → Nat} (hN : 9 < N) (hn : n ≤ 8) (hK : IA K k 8 6) (hD : IA D d 8 3) (hL : IA L f 8 8) (ha : a < 8) (hb : b < 8) (fa : f a = a) (fb : f b = b) : o_X3_foretell N (nI n) K D L (nI a) (nI b) = some (nI (win n k d f a b), nI (bc k d a b).1, nI (bc k d a b).2.1, nI (bc k d a b).2.2) := by
  have ka := (hK a ha).2
  have kb := (hK b hb).2
  have da := (hD a ha).2
  have db := (hD b hb).2
  obtain ⟨c1, c2, c3⟩ := bc_lt (k := k) da db
  have t1 := trn_le n f a
  have t2 := trn_le n f b
  have hc : o_X2_play N (nI (k a)) (nI (d a)) (nI (k b)) (nI (d b)) = some (nI (bc k d a b).1, nI (bc k d a b).2.1, nI (bc k d a b).2.2) := p_X2_play hN (by omega) (by omega) da db
  rw [o_X3_foretell, ogd_t (inb_ok ha (by omega)), ogd_t (inb_ok ha (by omega)), ogd_t (inb_ok hb (by omega)), ogd_t (inb_ok hb (by omega)), cl_nI (by omega), cl_nI (by omega), (hK a ha).1, (hK b hb).1, (hD a ha).1, (hD b hb).1, hc, Option.bind_some, p_isTie c1 c2, Option.bind_some]
  unfold win
  dsimp only
  by_cases e1 : (bc k d a b).1 = (bc k d a b).2.1
  · have e2 : ¬ (bc k d a b).1 = nx (bc k d a b).2.1 := by rw [e1]; exact fun q => nx_ne _ c2 q.symm
    rw [if_pos e1, if_neg (by decide), p_X3_trainOf (by omega) hn ha hL, Option.bind_some, p_X3_trainOf (by omega) hn hb hL, Option.bind_some, fa, fb, ifeq (by omega) (by omega), ifle (by omega) (by omega), ifle (by omega) (by omega), if_neg e2, if_pos e1]
    by_cases e3 : trn n f a = trn n f b
    · rw [if_pos e3, if_pos e3]
      by_cases e4 : a < b
      · rw [if_neg (by omega), if_pos e4]
      · rw [if_pos (by omega), if_neg e4]
    · rw [if_neg e3, if_neg e3]
      by_cases e4 : trn n f b < trn n f a
      · rw [if_neg (by omega), if_pos e4]
      · rw [if_pos (by omega), if_neg e4]
  · rw [if_neg e1, if_pos rfl, p_fhb c1 c2, Option.bind_some]
    by_cases e2 : (bc k d a b).1 = nx (bc k d a b).2.1
    · rw [if_pos e2, if_neg (by decide), if_pos e2]
    · rw [if_neg e2, if_pos rfl, if_neg e2, if_neg e1]
/-- behind a bout: hands, who leads -/
def up2 (g : Nat → Nat) (a x : Nat) : Nat → Nat := fun p => if p = a then x else g p
def jn (n : Nat) (f : Nat → Nat) (lo wi : Nat) : Nat → Nat := fun p => if p < n ∧ f p = lo then wi else f p
def lsr (n : Nat) (k d f : Nat → Nat) (a b : Nat) : Nat := if win n k d f a b = a then b else a
abbrev mD (k d : Nat → Nat) (a b : Nat) : Nat → Nat := up2 (up2 d a (bc k d a b).1) b (bc k d a b).2.1
abbrev mF (n : Nat) (k d f : Nat → Nat) (a b : Nat) : Nat → Nat := jn n f (lsr n k d f a b) (win n k d f a b)
theorem IA_upd {L : Nat → Int32} {g : Nat → Nat} {m b i v : Nat} (h : IA L g m b) (hv : v < b) : IA (upd L i (nI v)) (up2 g i v) m b := by
  intro j hj
  unfold upd up2
  split
  · exact ⟨rfl, hv⟩
  · exact h j hj
/-- joined so far: those below i -/
def jnI (n : Nat) (f : Nat → Nat) (lo wi i : Nat) : Nat → Nat := fun p => if p < i ∧ f p = lo then wi else f p
theorem jnI_n (n : Nat) (f : Nat → Nat) (lo wi : Nat) : jnI n f lo wi n = jn n f lo wi := rfl
theorem jnI_0 (n : Nat) (f : Nat → Nat) (lo wi : Nat) : jnI n f lo wi 0 = f := by
  funext p
  unfold jnI
  rw [if_neg (by omega)]
theorem jnI_s {n : Nat} {f : Nat → Nat} {lo wi i : Nat} : jnI n f lo wi (i + 1) = if f i = lo then up2 (jnI n f lo wi i) i wi else jnI n f lo wi i := by
  funext p
  by_cases h : f i = lo
  · rw [if_pos h]
    unfold jnI up2
    by_cases hp : p = i
    · subst hp
      rw [if_pos ⟨by omega, h⟩, if_pos rfl]
    · rw [if_neg hp]
      dsimp only
      by_cases h2 : p < i ∧ f p = lo
      · rw [if_pos h2, if_pos ⟨by omega, h2.2⟩]
      · rw [if_neg h2, if_neg (fun q => h2 ⟨by omega, q.2⟩)]
  · rw [if_neg h]
    unfold jnI
    by_cases h2 : p < i ∧ f p = lo
    · rw [if_pos h2, if_pos ⟨by omega, h2.2⟩]
    · rw [if_neg h2, if_neg]
      intro q
      by_cases hp : p = i
      · subst hp; exact h q.2
      · exact h2 ⟨by omega, q.2⟩
theorem jnI_at (n : Nat) (f : Nat → Nat) (lo wi i : Nat) : jnI n f lo wi i i = f i := by
  unfold jnI
  rw [if_neg (by omega)]
theorem p_X3_meet_48 {N n lo wi : Nat} {f : Nat → Nat} {D : Nat → Int32} {c1 c2 c3 : Int32} (hn : n ≤ 8) (hw : wi < 8) (hlo : lo < 8) : ∀ j i m (L : Nat → Int32), i + j = n → j < m → IA L (jnI n f lo wi i) 8 8 →
    ∃ L', o_X3_meet_48 N (nI n) D c1 c2 c3 (nI wi) (nI lo) m L (nI i) = some (nI wi, D, L', c1, c2, c3) ∧ IA L' (jn n f lo wi) 8 8 := by
  intro j
  induction j with
  | zero =>
    intro i m L h1 h2 hL
    obtain ⟨m, rfl⟩ := mem_succ h2
    refine ⟨L, ?_, ?_⟩
    · rw [o_X3_meet_48]
      dsimp only
      rw [ifle (by omega) (by omega), if_pos (by omega)]
    · rw [← jnI_n]
      have : i = n := by omega
      rw [← this] at hL ⊢
      exact hL
  | succ j ih =>
    intro i m L h1 h2 hL
    obtain ⟨m, rfl⟩ := mem_succ h2
    have hi : i < 8 := by omega
    obtain ⟨e1, e2⟩ := hL i hi
    rw [jnI_at] at e1 e2
    by_cases hf : f i = lo
    · obtain ⟨L', g1, g2⟩ := ih (i + 1) m (upd L i (nI wi)) (by omega) (by omega) (by rw [jnI_s, if_pos hf]; exact IA_upd hL hw)
      refine ⟨L', ?_, g2⟩
      rw [o_X3_meet_48]
      dsimp only
      rw [ifle (by omega) (by omega), if_neg (by omega), ogd_t (inb_ok hi (by omega)), cl_nI (by omega), e1, ifeq (by omega) (by omega), if_pos hf, ogd_t (inb_ok hi (by omega)), nI_1, g1]
    · obtain ⟨L', g1, g2⟩ := ih (i + 1) m L (by omega) (by omega) (by rw [jnI_s, if_neg hf]; exact hL)
      refine ⟨L', ?_, g2⟩
      rw [o_X3_meet_48]
      dsimp only
      rw [ifle (by omega) (by omega), if_neg (by omega), ogd_t (inb_ok hi (by omega)), cl_nI (by omega), e1, ifeq (by omega) (by omega), if_neg hf, nI_1, g1]
theorem p_X3_meet {N n a b : Nat} {K D L : Nat → Int32} {k d f : Nat → Nat} (hN : 9 < N) (hn : n ≤ 8) (hK : IA K k 8 6) (hD : IA D d 8 3) (hL : IA L f 8 8) (ha : a < 8) (hb : b < 8) (fa : f a = a) (fb : f b = b) :
    ∃ D' L', o_X3_meet N (nI n) K D L (nI a) (nI b) = some (nI (win n k d f a b), D', L', nI (bc k d a b).1, nI (bc k d a b).2.1, nI (bc k d a b).2.2) ∧ IA D' (mD k d a b) 8 3 ∧ IA L' (mF n k d f a b) 8 8 := by
  obtain ⟨c1, c2, c3⟩ := bc_lt (k := k) (hD a ha).2 (hD b hb).2
  have hw : win n k d f a b < 8 := by rcases win_or n k d f a b with h | h <;> rw [h] <;> assumption
  have hD' : IA (upd (upd D a (nI (bc k d a b).1)) b (nI (bc k d a b).2.1)) (mD k d a b) 8 3 := IA_upd (IA_upd hD c1) c2
  have hlo : lsr n k d f a b < 8 := by unfold lsr; split <;> assumption
  obtain ⟨L', g1, g2⟩ := p_X3_meet_48 (N := N) (n := n) (lo := lsr n k d f a b) (wi := win n k d f a b) (f := f) (D := upd (upd D a (nI (bc k d a b).1)) b (nI (bc k d a b).2.1)) (c1 := nI (bc k d a b).1) (c2 := nI (bc k d a b).2.1) (c3 := nI (bc k d a b).2.2) hn hw hlo n 0 N L (by omega) (by omega) (by rw [jnI_0]; exact hL)
  refine ⟨_, L', ?_, hD', g2⟩
  rw [o_X3_meet, p_X3_foretell hN hn hK hD hL ha hb fa fb, Option.bind_some, ifeq (by omega) (by omega), ← g1]
  unfold lsr
  dsimp only
  split
  · rw [o_X3_meet_17, ogd_t (inb_ok ha (by omega)), ogd_t (inb_ok hb (by omega)), cl_nI (by omega), cl_nI (by omega), l0]
  · rw [o_X3_meet_17, ogd_t (inb_ok ha (by omega)), ogd_t (inb_ok hb (by omega)), cl_nI (by omega), cl_nI (by omega), l0]
/-! the model's -/
theorem MA_b {w : Nat → Int32} {n : Nat} {k d f : Nat → Nat} (h : MA w n k d f) {p : Nat} (hp : p < 8) : w (1 + p) = nI (k p) ∧ w (9 + p) = nI (d p) ∧ w (17 + p) = nI (f p) := h.2 p hp
theorem p_X9_play_185 {N a b x y s : Nat} {T : Int32} (hx : x < 3) (hy : y < 3) : o_X9_play_185 N T (nI x) (nI y) (nI a) (nI b) (nI s) = some (nI (if x = nx y then a else if x = y then s else b), T, nI x, nI y) := by
  have := nx_lt x hx
  have := nx_lt y hy
  rw [o_X9_play_185, p_X9_next hy, Option.bind_some, p_X9_next hx, Option.bind_some, ifeq (by omega) (by omega), ifeq (by omega) (by omega)]
  by_cases h1 : x = nx y
  · rw [if_pos h1, if_pos h1]
  · rw [if_neg h1, if_neg h1]
    by_cases h2 : x = y
    · rw [if_pos h2, if_neg (nx3' x hx y hy h2)]
    · rw [if_neg h2, if_pos (nx3 x hx y hy h1 h2)]
theorem p_X9_play_137 {N n a b x y : Nat} {T : Int32} {w : Nat → Int32} {k d f : Nat → Nat} (hN : 9 < N) (h : MA w n k d f) (hb : HB n k d f) (ha : a < 8) (hb8 : b < 8) (hx : x < 3) (hy : y < 3) : o_X9_play_137 N T (nI x) (nI y) w (nI a) (nI b) = some (nI (if x = nx y then a else if x = y then (if trn n f a = trn n f b then (if a < b then a else b) else if trn n f b < trn n f a then a else b) else b), T, nI x, nI y) := by
  have t1 := trn_le n f a
  have t2 := trn_le n f b
  have hn := hb.1
  have key : ∀ s, s < 8 → o_X9_play_147 N T (nI x) (nI y) w (nI a) (nI b) (nI s) = some (nI (if x = nx y then a else if x = y then (if trn n f a = trn n f b then s else if trn n f b < trn n f a then a else b) else b), T, nI x, nI y) := by
    intro s hs
    rw [o_X9_play_147, p_X9_sizeOf (by omega) h hb (by omega), Option.bind_some, p_X9_sizeOf (by omega) h hb (by omega), Option.bind_some, ifle (by omega) (by omega)]
    rw [Option.bind_some, Option.bind_some, ifle (by omega) (by omega), p_X9_play_185 hx hy, p_X9_play_185 hx hy, p_X9_play_185 hx hy]
    by_cases e1 : trn n f a ≤ trn n f b
    · rw [if_pos e1]
      by_cases e2 : trn n f b ≤ trn n f a
      · have e3 : trn n f a = trn n f b := by omega
        rw [if_pos e2, if_pos e3]
      · have e3 : ¬ trn n f a = trn n f b := by omega
        have e4 : ¬ trn n f b < trn n f a := by omega
        rw [if_neg e2, if_neg e3, if_neg e4]
    · have e3 : ¬ trn n f a = trn n f b := by omega
      have e4 : trn n f b < trn n f a := by omega
      rw [if_neg e1, if_neg e3, if_pos e4]
  rw [o_X9_play_137, ifle (by omega) (by omega), key b hb8, key a ha]
  by_cases e : a < b
  · rw [if_neg (by omega), if_pos e]
  · rw [if_pos (by omega), if_neg e]
theorem p_X9_play_76 {N n a b : Nat} {w : Nat → Int32} {k d f : Nat → Nat} (h : MA w n k d f) (hb : HB n k d f) (ha : a < 8) (hb8 : b < 8) : ∀ j x y t m, t + j = 9 → j < m → x < 3 → y < 3 → o_X9_play_76 N w (nI a) (nI b) m (nI t) (nI x) (nI y) = o_X9_play_137 N (nI (crsL (k a) (k b) j x y t).2.2) (nI (crsL (k a) (k b) j x y t).1) (nI (crsL (k a) (k b) j x y t).2.1) w (nI a) (nI b) := by
  intro j
  induction j with
  | zero =>
    intro x y t m ht hm hx hy
    obtain ⟨m, rfl⟩ := mem_succ hm
    rw [o_X9_play_76]
    dsimp only
    rw [l9_, ifeq (by omega) (by omega), ifle (by omega) (by omega)]
    split
    · rw [if_pos (by omega)]; rfl
    · rfl
  | succ j ih =>
    intro x y t m ht hm hx hy
    obtain ⟨m, rfl⟩ := mem_succ hm
    rw [o_X9_play_76]
    dsimp only
    rw [l9_, ifeq (by omega) (by omega), ifle (by omega) (by omega), crsL]
    by_cases he : x = y
    · rw [if_pos he, if_neg (by omega), p_behindTie h hb ha hx, Option.bind_some, p_behindTie h hb hb8 hx, Option.bind_some, nI_1, ih _ _ _ m (by omega) (by omega) (aft_lt _ hx) (aft_lt _ hx), if_pos he]
    · rw [if_neg he, if_neg he]
theorem p_X9_play {N n a b : Nat} {w : Nat → Int32} {k d f : Nat → Nat} (hN : 9 < N) (h : MA w n k d f) (hb : HB n k d f) (ha : a < 8) (hb8 : b < 8) : o_X9_play N w (nI a) (nI b) = some (nI (win n k d f a b), nI (bc k d a b).2.2, nI (bc k d a b).1, nI (bc k d a b).2.1) := by
  have da := (hb.2 a ha).2.1
  have db := (hb.2 b hb8).2.1
  have ka := (hb.2 a ha).1
  have kb := (hb.2 b hb8).1
  have xa := nx_lt _ da
  have xb := nx_lt _ db
  obtain ⟨a1, a2, a3⟩ := h.2 a ha
  obtain ⟨b1, b2, b3⟩ := h.2 b hb8
  have e2 : ∀ x, x < 3 → ∀ y, y < 3 → o_X9_play_68 N (nI x) w (nI a) (nI b) (nI y) = some (nI (if (crsL (k a) (k b) 8 x y 1).1 = nx (crsL (k a) (k b) 8 x y 1).2.1 then a else if (crsL (k a) (k b) 8 x y 1).1 = (crsL (k a) (k b) 8 x y 1).2.1 then (if trn n f a = trn n f b then (if a < b then a else b) else if trn n f b < trn n f a then a else b) else b), nI (crsL (k a) (k b) 8 x y 1).2.2, nI (crsL (k a) (k b) 8 x y 1).1, nI (crsL (k a) (k b) 8 x y 1).2.1) := by
    intro x hx y hy
    obtain ⟨c1, c2, c3⟩ := crsL_lt (k a) (k b) 8 x y 1 hx hy
    rw [o_X9_play_68, l1_, p_X9_play_76 h hb ha hb8 8 x y 1 N (by omega) (by omega) hx hy, p_X9_play_137 hN h hb ha hb8 c1 c2]
  have e1 : ∀ x, x < 3 → o_X9_play_43 N w (nI a) (nI b) (nI (d a)) (nI (d b)) (nI x) = o_X9_play_68 N (nI x) w (nI a) (nI b) (nI (if k b = 5 then nx (d a) else d b)) := by
    intro x hx
    rw [o_X9_play_43, l1_, nI_add, ogd_t (inb_ok (by omega) (by omega)), cl_nI (by omega), b1, l5_, ifeq (by omega) (by omega), p_X9_next da, Option.bind_some]
    split <;> rfl
  have hx : (if k a = 5 then nx (d b) else d a) < 3 := by split <;> assumption
  have hy : (if k b = 5 then nx (d a) else d b) < 3 := by split <;> assumption
  have e0 : o_X9_play N w (nI a) (nI b) = o_X9_play_43 N w (nI a) (nI b) (nI (d a)) (nI (d b)) (nI (if k a = 5 then nx (d b) else d a)) := by
    rw [o_X9_play, l9_, l1_, nI_add, nI_add, nI_add, ogd_t (inb_ok (by omega) (by omega)), ogd_t (inb_ok (by omega) (by omega)), ogd_t (inb_ok (by omega) (by omega)), cl_nI (by omega), cl_nI (by omega), cl_nI (by omega), a1, a2, b2, l5_, ifeq (by omega) (by omega), p_X9_next db, Option.bind_some]
    split <;> rfl
  rw [e0, e1 _ hx, e2 _ hx _ hy]
  rfl
