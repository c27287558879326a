/-! PURE PART QH: ways: least costs in cells; the start -/
theorem nWle {a b : Nat} (ha : a < 2000000000) (hb : b < 2000000000) : nI a ≤ nI b ↔ a ≤ b := by
  refine ⟨fun h => ?_, fun h => nI_le h (by omega)⟩
  rcases Nat.lt_or_ge b a with g | g
  · exact absurd h (nI_ge g (by omega))
  · exact g
theorem nWlt {a b : Nat} (ha : a < 2000000000) (hb : b < 2000000000) : nI a < nI b ↔ a < b := by
  refine ⟨fun h => ?_, fun h => nI_lt h (by omega)⟩
  rcases Nat.lt_or_ge a b with g | g
  · exact g
  · exact absurd h (nI_nlt g (by omega))
theorem nw_e : (1073741824 : Int32) = nI 1073741824 := rfl
theorem nw_ne {c : Nat} (h : c < 1000000000) : ¬ nI c = 1073741824 := by
  rw [nw_e]
  intro q
  have := (nI_eq (a := c) (b := 1073741824) (by omega) (by omega)).mp q
  omega
/-- a cell: no way, or the least cost -/
def MN (v : Int32) (S : Nat → Prop) (bd : Nat) : Prop := (v = 1073741824 ∧ ∀ c, ¬ S c) ∨ ∃ c, v = nI c ∧ c < bd ∧ S c ∧ ∀ c', S c' → c ≤ c'
theorem MN_congr {v : Int32} {S S' : Nat → Prop} {bd : Nat} (h : MN v S bd) (e : ∀ c, S c ↔ S' c) : MN v S' bd := by
  rcases h with ⟨a, b⟩ | ⟨c, h1, h2, h3, h4⟩
  · exact Or.inl ⟨a, fun c q => b c ((e c).mpr q)⟩
  · exact Or.inr ⟨c, h1, h2, (e c).mp h3, fun c' q => h4 c' ((e c').mpr q)⟩
theorem MN_sub {v : Int32} {S S' : Nat → Prop} {bd : Nat} (h : MN v S bd) (e : ∀ c, S c → S' c) (f : ∀ c, S' c → ∃ c', S c' ∧ c' ≤ c) : MN v S' bd := by
  rcases h with ⟨a, b⟩ | ⟨c, h1, h2, h3, h4⟩
  · exact Or.inl ⟨a, fun c q => by obtain ⟨c', z, _⟩ := f c q; exact b c' z⟩
  · exact Or.inr ⟨c, h1, h2, e c h3, fun c' q => by obtain ⟨c2, z, y⟩ := f c' q; have := h4 c2 z; omega⟩
theorem MN_bd {v : Int32} {S : Nat → Prop} {bd bd' : Nat} (h : MN v S bd) (e : bd ≤ bd') : MN v S bd' := by
  rcases h with h | ⟨c, h1, h2, h3, h4⟩
  · exact Or.inl h
  · exact Or.inr ⟨c, h1, by omega, h3, h4⟩
theorem MN_add {v : Int32} {S : Nat → Prop} {bd c0 : Nat} (h : MN v S bd) (hb : bd ≤ 1000000000) (hc : c0 < bd) : MN (if nI c0 < v then nI c0 else v) (fun c => S c ∨ c = c0) bd := by
  rcases h with ⟨a, b⟩ | ⟨c, h1, h2, h3, h4⟩
  · subst a
    rw [nw_e, if_pos ((nWlt (by omega) (by omega)).mpr (by omega))]
    exact Or.inr ⟨c0, rfl, hc, Or.inr rfl, fun c' q => q.elim (fun z => absurd z (b c')) (fun z => by omega)⟩
  · subst h1
    by_cases e : c0 < c
    · rw [if_pos ((nWlt (by omega) (by omega)).mpr e)]
      exact Or.inr ⟨c0, rfl, hc, Or.inr rfl, fun c' q => q.elim (fun z => by have := h4 c' z; omega) (fun z => by omega)⟩
    · rw [if_neg (fun q => e ((nWlt (by omega) (by omega)).mp q))]
      exact Or.inr ⟨c, rfl, h2, Or.inl h3, fun c' q => q.elim (fun z => h4 c' z) (fun z => by omega)⟩
/-- a hand's cost for one who leads -/
def wt (d0 : Nat → Nat) (p h : Nat) : Nat := (if h = d0 p then 0 else 1) * 65536 + h * 4 ^ (7 - p)
theorem wt_fin : ∀ p, p < 8 → ∀ h, h < 3 → ∀ s, s < 2 → (nI s <<< ((16 : Int32) &&& 31)) + (nI h <<< ((2 * (7 - nI p)) &&& 31)) = nI (s * 65536 + h * 4 ^ (7 - p)) := by decide +kernel
theorem wt_bd : ∀ p, p < 8 → ∀ h, h < 3 → ∀ s, s < 2 → s * 65536 + h * 4 ^ (7 - p) < 131072 := by decide +kernel
section START
variable {N n : Nat} {D L : Nat → Int32} {d f : Nat → Nat}
theorem x_start_38 {K7 : Int32 → (Nat → Int32) → (Nat → Int32) → (Nat → Int32) → Int32 → Option (Int32 × (Nat → Int32) × (Nat → Int32) × (Nat → Int32))} {gs : Int32} {gr tr : Nat → Int32} {p b : Nat} {vb : Nat → Int32} (hp : p < 8) (hb : b < 2) (hD : IA D d 8 3) (hv : ∀ h, h < 3 → vb h = if b = 0 then 1073741824 else nI (wt d p h)) :
    ∀ j i m (B : Nat → Int32), i + j = 3 → j < m → ∃ B', o_X7_start_38 N K7 gs gr tr (nI n) D L (nI p) (nI b) m B (nI i) = (if b = 0 then K7 gs (upd gr p (-1)) tr B' (nI (p + 1)) else Option.bind (o_X3_trainOf N (nI n) L (nI p)) (fun r132 => ogd (inb gs 8) (K7 (gs + 1) (upd (upd gr p (-1)) p gs) (upd tr (Int32.toNatClampNeg gs) r132) B' (nI (p + 1))))) ∧ (∀ h, i ≤ h → h < 3 → B' (3 * p + h) = vb h) ∧ ∀ q, (q < 3 * p + i ∨ 3 * p + 3 ≤ q) → B' q = B q := by
  have gp : inb (nI p) 8 = true := inb_ok hp (by omega)
  intro j
  induction j with
  | zero =>
    intro i m B h1 h2
    obtain ⟨m, rfl⟩ := mem_succ h2
    refine ⟨B, ?_, fun h a c => by omega, fun q _ => rfl⟩
    rw [o_X7_start_38]
    dsimp only
    rw [l3_, ifle (by omega) (by omega), if_pos (by omega), ogd_t gp, ogd_t gp, cl_nI (by omega), l0, ifeq (by omega) (by omega), nI_1]
  | succ j ih =>
    intro i m B h1 h2
    obtain ⟨m, rfl⟩ := mem_succ h2
    obtain ⟨B', g1, g2, g3⟩ := ih (i + 1) m (upd B (3 * p + i) (vb i)) (by omega) (by omega)
    refine ⟨B', ?_, fun h a c => ?_, fun q hq => by rw [g3 q (by omega), upd_ne (by omega)]⟩
    · have hd := (hD p hp)
      have at' : nI p * nI 3 + nI i = nI (3 * p + i) := by rw [pk_mul, nI_add, Nat.mul_comm]
      have gi : inb (nI (3 * p + i)) 24 = true := inb_ok (by omega) (by omega)
      have key : ∀ s, s < 2 → s = (if i = d p then 0 else 1) → o_X7_start_60 N (o_X7_start_38 N K7 gs gr tr (nI n) D L (nI p) (nI b) m) gs gr tr B (nI n) D L (nI p) (nI b) (nI i) (nI s) = o_X7_start_38 N K7 gs gr tr (nI n) D L (nI p) (nI b) m (upd B (3 * p + i) (vb i)) (nI (i + 1)) := by
        intro s hs e
        have vi := hv i (by omega)
        rw [o_X7_start_60, l0, ifeq (by omega) (by omega), o_X7_shiftOf, Option.bind_some, l3_, at', ogd_t gi, ogd_t gi, cl_nI (by omega), nI_1, vi]
        by_cases z : b = 0
        · rw [if_pos z, if_pos z]
        · rw [if_neg z, if_neg z, wt_fin p hp i (by omega) s hs]
          unfold wt
          rw [e]
      rw [o_X7_start_38]
      dsimp only
      rw [l3_, ifle (by omega) (by omega), if_neg (by omega), ogd_t gp, cl_nI (by omega), hd.1, ifeq (by omega) (by omega)]
      rw [← g1]
      by_cases e : i = d p
      · rw [if_pos e]; exact key 0 (by omega) (by rw [if_pos e])
      · rw [if_neg e]; exact key 1 (by omega) (by rw [if_neg e])
    · by_cases e : h = i
      · subst e; rw [g3 _ (by omega), upd_eq]
      · exact g2 h (by omega) c
/-- who leads, of those who play -/
def lp (n : Nat) (f : Nat → Nat) (q : Nat) : Bool := decide (q < n) && (f q == q)
theorem lp_iff {q : Nat} : lp n f q = true ↔ q < n ∧ f q = q := by
  unfold lp; rw [Bool.and_eq_true, decide_eq_true_iff, beq_iff_eq]
theorem lp_rk {p : Nat} (hp : p ≤ n) : cn (lp n f) 0 p = rk f p := by
  refine cn_congr p 0 (fun j _ hj => ?_)
  unfold lp ld; rw [decide_eq_true (by omega), Bool.true_and]
theorem lp_all (hn : n ≤ 8) : cn (lp n f) 0 8 = lds n f := by
  obtain ⟨j, hj⟩ : ∃ j, 8 = n + j := ⟨8 - n, by omega⟩
  rw [hj, cn_add, lp_rk (Nat.le_refl n), show cn (lp n f) (0 + n) j = 0 from ?_, Nat.add_zero]
  · rfl
  · have : cn (lp n f) (0 + n) j = cn (fun _ => false) (0 + n) j := cn_congr j _ (fun q a b => by unfold lp; rw [decide_eq_false (by omega), Bool.false_and])
    rw [this]
    have z : ∀ j i, cn (fun _ => false) i j = 0 := by
      intro j
      induction j with
      | zero => intro i; rfl
      | succ j ih => intro i; rw [cn, ih]; rfl
    exact z j _
/-- groups, trains and costs at stage r -/
def GST (n : Nat) (f : Nat → Nat) (r : Nat) (gs : Int32) (gr tr : Nat → Int32) : Prop := gs = nI (MM (lds n f) r) ∧ (∀ p, p < n → gr p = if f p = p then nI (blk f r p) else -1) ∧ ∀ g, g < MM (lds n f) r → tr g = nI (TT n f r g)
theorem x_start (hN : 9 < N) (hn : n ≤ 8) (hD : IA D d 8 3) (hL : IA L f 8 8) : ∀ j i m (gr tr B : Nat → Int32), i + j = 8 → j < m → (∀ p, p < i → p < n → gr p = if f p = p then nI (rk f p) else -1) → (∀ g, g < cn (lp n f) 0 i → tr g = nI (trn n f (la n f g))) → (∀ p, p < i → ∀ h, h < 3 → B (3 * p + h) = if p < n ∧ f p = p then nI (wt d p h) else 1073741824) →
    ∃ gr' tr' B', o_X7_start_7 N (nI n) D L m (nI (cn (lp n f) 0 i)) gr tr B (nI i) = some (nI (lds n f), gr', tr', B') ∧ GST n f 0 (nI (lds n f)) gr' tr' ∧ ∀ p, p < 8 → ∀ h, h < 3 → B' (3 * p + h) = if p < n ∧ f p = p then nI (wt d p h) else 1073741824 := by
  intro j
  induction j with
  | zero =>
    intro i m gr tr B h1 h2 h3 h4 h5
    obtain ⟨m, rfl⟩ := mem_succ h2
    have e8 : i = 8 := by omega
    subst e8
    rw [lp_all hn] at h4
    refine ⟨gr, tr, B, ?_, ⟨rfl, fun p hp => h3 p (by omega) hp, fun g hg => h4 g hg⟩, fun p hp => h5 p hp⟩
    rw [o_X7_start_7, lp_all hn]
    dsimp only
    rw [l8_, if_pos (show nI 8 ≤ nI 8 from nI_le (Nat.le_refl _) (by omega))]
  | succ j ih =>
    intro i m gr tr B h1 h2 h3 h4 h5
    obtain ⟨m, rfl⟩ := mem_succ h2
    have cs : cn (lp n f) 0 (i + 1) = cn (lp n f) 0 i + (if lp n f i = true then 1 else 0) := by
      rw [cn_add, Nat.zero_add]; rfl
    have c8 : cn (lp n f) 0 i ≤ i := cn_le _ i 0
    by_cases e : i < n ∧ f i = i
    · obtain ⟨B', g1, g2, g3⟩ := x_start_38 (N := N) (n := n) (L := L) (K7 := o_X7_start_7 N (nI n) D L m) (gs := nI (cn (lp n f) 0 i)) (gr := gr) (tr := tr) (p := i) (b := 1) (vb := fun h => nI (wt d i h)) (by omega) (by omega) hD (fun h _ => rfl) 3 0 N B (by omega) (by omega)
      rw [if_pos (lp_iff.mpr e)] at cs
      have rr : cn (lp n f) 0 i = rk f i := lp_rk (by omega)
      obtain ⟨k1, k2⟩ := rk_ok (n := n) e.1 e.2
      obtain ⟨gr', tr', B2, f1, f2, f3⟩ := ih (i + 1) m (upd (upd gr i (-1)) i (nI (cn (lp n f) 0 i))) (upd tr (cn (lp n f) 0 i) (nI (trn n f (f i)))) B' (by omega) (by omega) (fun p hp hpn => by
        by_cases z : p = i
        · subst z; rw [upd_eq, if_pos e.2, rr]
        · rw [upd_ne z, upd_ne z]; exact h3 p (by omega) hpn) (fun g hg => by
        by_cases z : g = cn (lp n f) 0 i
        · subst z; rw [upd_eq, rr, k2, e.2]
        · rw [upd_ne z]; exact h4 g (by omega)) (fun p hp h hh => by
        by_cases z : p = i
        · subst z; rw [if_pos e]; exact g2 h (by omega) hh
        · rw [g3 _ (by omega)]; exact h5 p (by omega) h hh)
      refine ⟨gr', tr', B2, ?_, f2, f3⟩
      rw [o_X7_start_7]
      dsimp only
      rw [l8_, ifle (by omega) (by omega), if_neg (by omega), ifle (by omega) (by omega), if_neg (by omega), p_X3_leads_if hL (by omega) _ (fun r => rfl), if_pos e.2, l0, l1_, g1, if_neg (by omega), p_X3_trainOf (by omega) hn (by omega) hL, Option.bind_some, ogd_t (inb_ok (by omega) (by omega)), nI_1, cl_nI (by omega), ← cs]
      exact f1
    · obtain ⟨B', g1, g2, g3⟩ := x_start_38 (N := N) (n := n) (L := L) (K7 := o_X7_start_7 N (nI n) D L m) (gs := nI (cn (lp n f) 0 i)) (gr := gr) (tr := tr) (p := i) (b := 0) (vb := fun h => 1073741824) (by omega) (by omega) hD (fun h _ => rfl) 3 0 N B (by omega) (by omega)
      rw [if_neg (fun z => e (lp_iff.mp z)), Nat.add_zero] at cs
      obtain ⟨gr', tr', B2, f1, f2, f3⟩ := ih (i + 1) m (upd gr i (-1)) tr B' (by omega) (by omega) (fun p hp hpn => by
        by_cases z : p = i
        · subst z; rw [upd_eq, if_neg (fun y => e ⟨hpn, y⟩)]
        · rw [upd_ne z]; exact h3 p (by omega) hpn) (fun g hg => h4 g (by omega)) (fun p hp h hh => by
        by_cases z : p = i
        · subst z; rw [if_neg e]; exact g2 h (by omega) hh
        · rw [g3 _ (by omega)]; exact h5 p (by omega) h hh)
      refine ⟨gr', tr', B2, ?_, f2, f3⟩
      rw [cs] at f1
      rw [o_X7_start_7]
      dsimp only
      rw [l8_, ifle (by omega) (by omega), if_neg (by omega), ifle (by omega) (by omega), p_X3_leads_if hL (by omega) _ (fun r => rfl), o_X7_start_33, l0, g1, if_pos rfl]
      by_cases z : n ≤ i
      · rw [if_pos z]; exact f1
      · rw [if_neg z, if_neg (fun y => e ⟨by omega, y⟩)]; exact f1
end START
