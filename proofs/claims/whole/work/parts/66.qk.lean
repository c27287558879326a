/-! PURE PART QK: the best way -/
theorem MN_min {v w : Int32} {S S' : Nat → Prop} {bd : Nat} (hb : bd ≤ 1000000000) (h : MN v S bd) (g : MN w S' bd) : MN (if v < w then v else w) (fun c => S' c ∨ S c) bd := by
  rcases h with ⟨a, b⟩ | ⟨c, h1, h2, h3, h4⟩
  · subst a
    have e : ¬ (1073741824 : Int32) < w := by
      rcases g with ⟨rfl, -⟩ | ⟨c, rfl, c2, -⟩
      · rw [nw_e]; exact nI_nlt (Nat.le_refl _) (by omega)
      · rw [nw_e]; exact nI_nlt (by omega) (by omega)
    rw [if_neg e]
    exact MN_congr g (fun c => ⟨Or.inl, fun q => q.elim id (fun z => absurd z (b c))⟩)
  · subst h1
    refine MN_sub (MN_add g hb h2) ?_ ?_
    · rintro c' (q | rfl)
      · exact Or.inl q
      · exact Or.inr h3
    · rintro c' (q | q)
      · exact ⟨c', Or.inl q, Nat.le_refl _⟩
      · exact ⟨c, Or.inr rfl, h4 c' q⟩
def dbl (b : Nat) : Nat → Nat
  | 0 => b
  | i + 1 => 2 * dbl b i
theorem dbl_b : ∀ i, i < 9 → dbl 131072 i ≤ 33554432 ∧ dbl 8 i ≤ 2048 := by decide
section BEST
variable {N n : Nat} {k f : Nat → Nat} {Kd D L : Nat → Int32} {d0 : Nat → Nat}
theorem TT_b (hn : n ≤ 8) : ∀ r g, TT n f r g ≤ dbl 8 r
  | 0, g => by have := trn_le n f (la n f g); rw [TT, dbl]; omega
  | r + 1, g => by
    have a := TT_b hn r (2 * g)
    have b := TT_b hn r (2 * g + 1)
    rw [TT, dbl]; split <;> omega
theorem MM_le {m : Nat} : ∀ r, MM m r ≤ m ∧ (1 ≤ m → 1 ≤ MM m r)
  | 0 => ⟨Nat.le_refl m, fun h => h⟩
  | r + 1 => by have := MM_le (m := m) r; rw [MM]; omega
theorem MM_8 {m : Nat} (h : m ≤ 8) : MM m 8 ≤ 1 := by simp only [MM]; omega
theorem EE_stop {d : Nat → Nat} {w : Nat → Nat → Nat} {r : Nat} (h : MM (lds n f) r ≤ 1) : ∀ j, MM (lds n f) (r + j) ≤ 1 ∧ EE n k f (r + j) d 0 = EE n k f r d 0 ∧ CC n f w (r + j) d 0 = CC n f w r d 0
  | 0 => ⟨h, rfl, rfl⟩
  | j + 1 => by
    obtain ⟨a, b, c⟩ := EE_stop (d := d) (w := w) h j
    rw [← Nat.add_assoc, MM, EE_s, CC, if_neg (by omega), if_neg (by omega), Nat.mul_zero]
    exact ⟨by omega, b, c⟩
/-- the costs with which p is ahead of all -/
def WAY (n : Nat) (k f : Nat → Nat) (w : Nat → Nat → Nat) (p c : Nat) : Prop := ∃ d, (∀ q, d q < 3) ∧ (EE n k f 8 d 0).1 = p ∧ CC n f w 8 d 0 = c
theorem SS_WAY {w : Nat → Nat → Nat} {r p c : Nat} (hr : r ≤ 8) (h : MM (lds n f) r ≤ 1) (h1 : 1 ≤ lds n f) : (∃ q, q < 3 ∧ SS n k f w r p q c) ↔ WAY n k f w p c := by
  obtain ⟨j, hj⟩ : ∃ j, 8 = r + j := ⟨8 - r, by omega⟩
  have m1 := (MM_le (m := lds n f) r).2 h1
  constructor
  · rintro ⟨q, hq, d, a1, a2, a3, a4, a5, a6⟩
    have b0 : blk f r p = 0 := by have := blk_lt a2 a3 r; omega
    obtain ⟨_, e1, e2⟩ := EE_stop (k := k) (d := d) (w := w) h j
    rw [← hj] at e1 e2
    rw [b0] at a4 a6
    exact ⟨d, a1, by rw [e1]; exact a4, by rw [e2]; exact a6⟩
  · rintro ⟨d, a1, a4, a6⟩
    obtain ⟨_, e1, e2⟩ := EE_stop (k := k) (d := d) (w := w) h j
    rw [← hj] at e1 e2
    rw [e1] at a4
    rw [e2] at a6
    obtain ⟨p1, p2, p3⟩ := EE_p (n := n) (f := f) (k := k) (d := d) r 0 (by omega)
    have hh := EE_h (k := k) (f := f) (n := n) a1 r 0 (by omega)
    rw [a4] at p1 p2 p3
    exact ⟨_, hh, d, a1, p1, p2, by rw [p3]; exact a4, by rw [p3], by rw [p3]; exact a6⟩
theorem x_best_38 {u v p : Nat} {gs c1 c2 c3 : Int32} {G T B V : Nat → Int32} {S : Nat → Nat → Prop} {bd : Nat} (hb : bd ≤ 1000000000) (hp : p < 8) (hB : ∀ h, h < 3 → MN (B (3 * p + h)) (S h) bd) : ∀ j l m (w : Int32), l + j = 3 → j < m → MN w (fun c => ∃ h, h < l ∧ S h c) bd →
    ∃ w', o_X7_bestFor_38 N u v gs G T B V c1 c2 c3 (nI p) m w (nI l) = some (w', gs, u, v, G, T, B, V, c1, c2, c3) ∧ MN w' (fun c => ∃ h, h < 3 ∧ S h c) bd := by
  intro j
  induction j with
  | zero =>
    intro l m w h1 h2 h3
    obtain ⟨m, rfl⟩ := mem_succ h2
    have : l = 3 := by omega
    subst this
    refine ⟨w, ?_, h3⟩
    rw [o_X7_bestFor_38]
    dsimp only
    rw [l3_, ifle (by omega) (by omega), if_pos (by omega)]
  | succ j ih =>
    intro l m w h1 h2 h3
    obtain ⟨m, rfl⟩ := mem_succ h2
    obtain ⟨w', g1, g2⟩ := ih (l + 1) m (if B (3 * p + l) < w then B (3 * p + l) else w) (by omega) (by omega) (MN_congr (MN_min hb (hB l (by omega)) h3) (fun c => ⟨fun q => q.elim (fun ⟨h, a, b⟩ => ⟨h, by omega, b⟩) (fun z => ⟨l, by omega, z⟩), fun ⟨h, a, b⟩ => by
      by_cases e : h = l
      · subst e; exact Or.inr b
      · exact Or.inl ⟨h, by omega, b⟩⟩))
    refine ⟨w', ?_, g2⟩
    have e : nI p * nI 3 + nI l = nI (3 * p + l) := by rw [pk_mul, nI_add, Nat.mul_comm]
    rw [o_X7_bestFor_38]
    dsimp only
    rw [l3_, ifle (by omega) (by omega), if_neg (by omega), e, ogd_t (inb_ok (by omega) (by omega)), cl_nI (by omega), nI_1]
    exact g1
theorem x_best_7 {p : Nat} {w : Nat → Nat → Nat} (hN : 28 < N) (hn : n ≤ 8) (hp : p < 8) (hK : IA Kd k 8 6) (h1 : 1 ≤ lds n f) : ∀ j i m (u v : Nat) (gs c1 c2 c3 : Int32) (G T B V : Nat → Int32), i + j = 8 → j < m → GST n f i gs G T → AM B (SS n k f w i) (dbl 131072 i) →
    ∃ way X, o_X7_bestFor_7 N (nI n) Kd (nI p) m u v gs G T B V c1 c2 c3 (nI i) = some (way, X) ∧ MN way (WAY n k f w p) 33554432 := by
  have l8 := lds_le n f
  intro j
  have fin : ∀ i m (u v : Nat) (gs c1 c2 c3 : Int32) (G T B V : Nat → Int32), i ≤ 8 → 0 < m → MM (lds n f) i ≤ 1 → GST n f i gs G T → AM B (SS n k f w i) (dbl 131072 i) → ∃ way X, o_X7_bestFor_7 N (nI n) Kd (nI p) m u v gs G T B V c1 c2 c3 (nI i) = some (way, X) ∧ MN way (WAY n k f w p) 33554432 := by
    intro i m u v gs c1 c2 c3 G T B V h2 h3 h4 hG hA
    obtain ⟨m, rfl⟩ := mem_succ h3
    have db := dbl_b i (by omega)
    obtain ⟨way, g1, g2⟩ := x_best_38 (N := N) (u := u) (v := v) (gs := gs) (c1 := c1) (c2 := c2) (c3 := c3) (G := G) (T := T) (V := V) (by omega) hp (hA p hp) 3 0 N 1073741824 (by omega) (by omega) (Or.inl ⟨rfl, fun c ⟨h, a, _⟩ => by omega⟩)
    refine ⟨way, (gs, u, v, G, T, B, V, c1, c2, c3), ?_, MN_bd (MN_congr g2 (fun c => SS_WAY h2 h4 h1)) db.1⟩
    rw [o_X7_bestFor_7]
    dsimp only
    obtain ⟨rfl, -, -⟩ := hG
    rw [l8_, ifle (by omega) (by omega), l1_, ifle (by omega) (by omega), if_pos h4, ite_self, o_X7_bestFor_32]
    exact g1
  induction j with
  | zero =>
    intro i m u v gs c1 c2 c3 G T B V h2 h3 hG hA
    refine fin i m u v gs c1 c2 c3 G T B V (by omega) h3 ?_ hG hA
    rw [show i = 8 by omega]; exact MM_8 (by omega)
  | succ j ih =>
    intro i m u v gs c1 c2 c3 G T B V h2 h3 hG hA
    by_cases e : MM (lds n f) i ≤ 1
    · exact fin i m u v gs c1 c2 c3 G T B V (by omega) (by omega) e hG hA
    · obtain ⟨m, rfl⟩ := mem_succ h3
      have db := dbl_b i (by omega)
      have ml := MM_le (m := lds n f) i
      obtain ⟨gs', G', T', V', d1, d2, d3, g1, g2, g3⟩ := x_stage (N := N) (u := u) (v := v) (c1 := c1) (c2 := c2) (c3 := c3) (V := V) hN hn (by omega) hK hG (by omega) (by omega) (fun g => by have := TT_b (f := f) hn i g; omega) hA
      obtain ⟨way, X, f1, f2⟩ := ih (i + 1) m v u gs' d1 d2 d3 G' T' V' B (by omega) (by omega) g2 g3
      refine ⟨way, X, ?_, f2⟩
      have hg := hG.1
      rw [o_X7_bestFor_7]
      dsimp only
      rw [l8_, ifle (by omega) (by omega), if_neg (by omega), hg, l1_, ifle (by omega) (by omega), if_neg e, ← hg, g1, Option.bind_some, nI_add]
      exact f1
theorem x_bestFor {u v p : Nat} {c1 c2 c3 : Int32} {G T B V : Nat → Int32} (hN : 28 < N) (hn : n ≤ 8) (hp : p < 8) (hK : IA Kd k 8 6) (hD : IA D d0 8 3) (hL : IA L f 8 8) (h1 : 1 ≤ lds n f) : ∃ way X, o_X7_bestFor N u v G T B V c1 c2 c3 (nI n) Kd D L (nI p) = some (way, X) ∧ MN way (WAY n k f (wt d0) p) 33554432 := by
  obtain ⟨G', T', B', g1, g2, g3⟩ := x_start (N := N) (n := n) (by omega) hn hD hL 8 0 N G T B (by omega) (by omega) (fun p hp => by omega) (fun g hg => by rw [cn] at hg; omega) (fun p hp => by omega)
  obtain ⟨way, X, f1, f2⟩ := x_best_7 (N := N) (p := p) (w := wt d0) hN hn hp hK h1 8 0 N u v (nI (lds n f)) c1 c2 c3 G' T' B' V (by omega) (by omega) g2 (fun q hq h hh => by
    rw [g3 q hq h hh]
    by_cases e : q < n ∧ f q = q
    · rw [if_pos e]
      refine Or.inr ⟨wt d0 q h, rfl, ?_, SS_0.mpr ⟨e.1, e.2, hh, rfl⟩, fun c' z => ?_⟩
      · unfold wt; exact wt_bd q hq h hh _ (by split <;> omega)
      · rw [(SS_0.mp z).2.2.2]
        exact Nat.le_refl _
    · rw [if_neg e]
      exact Or.inl ⟨rfl, fun c z => e ⟨(SS_0.mp z).1, (SS_0.mp z).2.1⟩⟩)
  refine ⟨way, X, ?_, f2⟩
  rw [o_X7_bestFor, o_X7_start, l0]
  rw [show cn (lp n f) 0 0 = 0 from rfl] at g1
  rw [g1, Option.bind_some]
  exact f1
/-! sums -/
def sm (F : Nat → Nat) : Nat → Nat
  | 0 => 0
  | j + 1 => sm F j + F j
def sl (f G : Nat → Nat) : Nat → Nat
  | 0 => 0
  | j + 1 => sl f G j + (if f j = j then G j else 0)
theorem CC_half {w : Nat → Nat → Nat} {d : Nat → Nat} {r : Nat} : ∀ j, 2 * j ≤ MM (lds n f) r → sm (CC n f w (r + 1) d) j = sm (CC n f w r d) (2 * j)
  | 0, _ => rfl
  | j + 1, h => by
    rw [sm, CC_half j (by omega), CC, if_pos (by omega), show 2 * (j + 1) = 2 * j + 1 + 1 by omega, sm, sm]; omega
theorem CC_sum {w : Nat → Nat → Nat} {d : Nat → Nat} : ∀ r, sm (CC n f w r d) (MM (lds n f) r) = sm (CC n f w 0 d) (lds n f)
  | 0 => rfl
  | r + 1 => by
    rw [← CC_sum r, MM]
    rcases Nat.mod_two_eq_zero_or_one (MM (lds n f) r) with e | e
    · obtain ⟨j, hj⟩ : ∃ j, MM (lds n f) r = 2 * j := ⟨MM (lds n f) r / 2, by omega⟩
      rw [show (MM (lds n f) r + 1) / 2 = j by omega, CC_half j (by omega), hj]
    · obtain ⟨j, hj⟩ : ∃ j, MM (lds n f) r = 2 * j + 1 := ⟨MM (lds n f) r / 2, by omega⟩
      rw [show (MM (lds n f) r + 1) / 2 = j + 1 by omega, sm, CC_half j (by omega), CC, if_neg (by omega), hj, sm]
theorem sm_sl {G : Nat → Nat} : ∀ j, j ≤ n → sm (fun g => G (la n f g)) (rk f j) = sl f G j
  | 0, _ => rfl
  | j + 1, h => by
    have e : rk f (j + 1) = rk f j + (if ld f j = true then 1 else 0) := by
      unfold rk; rw [cn_add, Nat.zero_add]; rfl
    rw [e, sl]
    by_cases z : f j = j
    · rw [if_pos (beq_iff_eq.mpr z), if_pos z, sm, sm_sl j (by omega), (rk_ok (n := n) (by omega) z).2]
    · rw [if_neg (fun q => z (beq_iff_eq.mp q)), if_neg z, Nat.add_zero, sm_sl j (by omega), Nat.add_zero]
theorem CC_all {w : Nat → Nat → Nat} {d : Nat → Nat} (hn : n ≤ 8) (h1 : 1 ≤ lds n f) : CC n f w 8 d 0 = sl f (fun p => w p (d p)) n := by
  have a := CC_sum (n := n) (f := f) (w := w) (d := d) 8
  have l8 := lds_le n f
  have b := MM_8 (m := lds n f) (by omega)
  have c := (MM_le (m := lds n f) 8).2 h1
  rw [show MM (lds n f) 8 = 1 by omega, sm, sm, Nat.zero_add] at a
  rw [a, ← sm_sl n (Nat.le_refl n)]
  rfl
end BEST
