/-! PURE PART QG: groups of who leads, by numbers -/
theorem rl_len {k : Nat → Nat} : ∀ (m : Nat) (L : List ent), L.length ≤ m → (rl k L).length = (L.length + 1) / 2
  | _, [], _ => rfl
  | _, [x], _ => by rw [rl]; simp
  | 0, _ :: _ :: _, h => by simp at h
  | m + 1, x :: y :: r, h => by
    have := rl_len (k := k) m r (by simp at h; omega)
    rw [rl, List.length_cons, this, List.length_cons, List.length_cons]; omega
theorem rl_at {k : Nat → Nat} {z : ent} : ∀ (m : Nat) (L : List ent) (g : Nat), L.length ≤ m → (rl k L).getD g z = if 2 * g + 1 < L.length then out k (L.getD (2 * g) z) (L.getD (2 * g + 1) z) else L.getD (2 * g) z
  | _, [], g, _ => by rw [rl, if_neg (by simp)]; rfl
  | _, [x], g, _ => by
    rw [rl, if_neg (by simp)]
    cases g with
    | zero => rfl
    | succ g => rfl
  | 0, _ :: _ :: _, _, h => by simp at h
  | m + 1, x :: y :: r, g, h => by
    cases g with
    | zero => rw [if_pos (by simp)]; rfl
    | succ g =>
      have := rl_at (k := k) (z := z) m r g (by simp at h; omega)
      rw [rl, show 2 * (g + 1) + 1 = 2 * g + 1 + 1 + 1 by omega, show 2 * (g + 1) = 2 * g + 1 + 1 by omega, List.length_cons, List.length_cons]
      show (rl k r).getD g z = if 2 * g + 1 + 1 + 1 < r.length + 1 + 1 then out k (r.getD (2 * g) z) (r.getD (2 * g + 1) z) else r.getD (2 * g) z
      rw [this]
      by_cases e : 2 * g + 1 < r.length
      · rw [if_pos e, if_pos (by omega)]
      · rw [if_neg e, if_neg (by omega)]
def MM (m : Nat) : Nat → Nat
  | 0 => m
  | r + 1 => (MM m r + 1) / 2
abbrev ld (f : Nat → Nat) (q : Nat) : Bool := f q == q
/-- which of those who lead this one is -/
def rk (f : Nat → Nat) (p : Nat) : Nat := cn (ld f) 0 p
def la (n : Nat) (f : Nat → Nat) (g : Nat) : Nat := (ldl f 0 n).getD g 0
theorem ldl_at {f : Nat → Nat} : ∀ j i g, g < (ldl f i j).length → i ≤ (ldl f i j).getD g 0 ∧ (ldl f i j).getD g 0 < i + j ∧ f ((ldl f i j).getD g 0) = (ldl f i j).getD g 0 ∧ cn (ld f) i ((ldl f i j).getD g 0 - i) = g
  | 0, _, _, h => by simp [ldl] at h
  | j + 1, i, g, h => by
    rw [ldl] at h ⊢
    by_cases e : f i = i
    · rw [if_pos e] at h ⊢
      cases g with
      | zero => exact ⟨Nat.le_refl _, by show i < i + (j + 1); omega, e, by show cn (ld f) i (i - i) = 0; rw [Nat.sub_self]; rfl⟩
      | succ g =>
        have := ldl_at (f := f) j (i + 1) g (by simp at h; omega)
        show i ≤ (ldl f (i + 1) j).getD g 0 ∧ (ldl f (i + 1) j).getD g 0 < i + (j + 1) ∧ f ((ldl f (i + 1) j).getD g 0) = (ldl f (i + 1) j).getD g 0 ∧ cn (ld f) i ((ldl f (i + 1) j).getD g 0 - i) = g + 1
        obtain ⟨a, b, c, d⟩ := this
        refine ⟨by omega, by omega, c, ?_⟩
        rw [show (ldl f (i + 1) j).getD g 0 - i = ((ldl f (i + 1) j).getD g 0 - (i + 1)) + 1 by omega, cn, d, if_pos (beq_iff_eq.mpr e)]; omega
    · rw [if_neg e] at h ⊢
      obtain ⟨a, b, c, d⟩ := ldl_at (f := f) j (i + 1) g h
      refine ⟨by omega, by omega, c, ?_⟩
      rw [show (ldl f (i + 1) j).getD g 0 - i = ((ldl f (i + 1) j).getD g 0 - (i + 1)) + 1 by omega, cn, d, if_neg (fun q => e (beq_iff_eq.mp q))]; omega
theorem ldl_rk {f : Nat → Nat} : ∀ j i p, i ≤ p → p < i + j → f p = p → cn (ld f) i (p - i) < (ldl f i j).length ∧ (ldl f i j).getD (cn (ld f) i (p - i)) 0 = p
  | 0, i, p, h1, h2, _ => by omega
  | j + 1, i, p, h1, h2, h3 => by
    rw [ldl]
    by_cases q : p = i
    · subst q
      rw [if_pos h3, Nat.sub_self]
      exact ⟨by show 0 < _; simp, rfl⟩
    · obtain ⟨a, b⟩ := ldl_rk (f := f) j (i + 1) p (by omega) (by omega) h3
      rw [show p - i = (p - (i + 1)) + 1 by omega, cn]
      by_cases e : f i = i
      · rw [if_pos e, if_pos (beq_iff_eq.mpr e), Nat.add_comm 1]
        exact ⟨by simp; omega, b⟩
      · rw [if_neg e, if_neg (fun z => e (beq_iff_eq.mp z)), Nat.zero_add]
        exact ⟨a, b⟩
section GROUPS
variable {n : Nat} {k f : Nat → Nat} {wt : Nat → Nat → Nat}
theorem la_ok {g : Nat} (h : g < lds n f) : la n f g < n ∧ f (la n f g) = la n f g ∧ rk f (la n f g) = g := by
  have := ldl_at (f := f) n 0 g (by rw [ldl_len]; exact h)
  obtain ⟨a, b, c, d⟩ := this
  exact ⟨by unfold la; omega, c, d⟩
theorem rk_ok {p : Nat} (hp : p < n) (h : f p = p) : rk f p < lds n f ∧ la n f (rk f p) = p := by
  have := ldl_rk (f := f) n 0 p (by omega) (by omega) h
  rw [ldl_len] at this
  exact this
theorem cn_add (P : Nat → Bool) : ∀ a i b, cn P i (a + b) = cn P i a + cn P (i + a) b
  | 0, i, b => by rw [Nat.zero_add, cn, Nat.zero_add, Nat.add_zero]
  | a + 1, i, b => by rw [show a + 1 + b = (a + b) + 1 by omega, cn, cn, cn_add P a (i + 1) b, show i + 1 + a = i + (a + 1) by omega]; omega
theorem rk_mono {p q : Nat} (h : p ≤ q) : rk f p ≤ rk f q := by
  unfold rk
  obtain ⟨j, rfl⟩ : ∃ j, q = p + j := ⟨q - p, by omega⟩
  rw [cn_add]; omega
def EE (n : Nat) (k f : Nat → Nat) (r : Nat) (d : Nat → Nat) (g : Nat) : ent := (itr k r (ini n d f)).getD g (0, 0, 0)
theorem itr_len (d : Nat → Nat) : ∀ r, (itr k r (ini n d f)).length = MM (lds n f) r
  | 0 => by rw [itr, ini, List.length_map, ldl_len]; rfl
  | r + 1 => by rw [itr, rl_len _ _ (Nat.le_refl _), itr_len d r]; rfl
theorem EE_s (r : Nat) (d : Nat → Nat) (g : Nat) : EE n k f (r + 1) d g = if 2 * g + 1 < MM (lds n f) r then out k (EE n k f r d (2 * g)) (EE n k f r d (2 * g + 1)) else EE n k f r d (2 * g) := by
  unfold EE
  rw [itr, rl_at _ _ _ (Nat.le_refl _), itr_len]
theorem EE_0 {d : Nat → Nat} {g : Nat} (h : g < lds n f) : EE n k f 0 d g = (la n f g, d (la n f g), trn n f (la n f g)) := by
  have h' : g < (ldl f 0 n).length := by rw [ldl_len]; exact h
  unfold EE la
  rw [itr, ini, List.getD_eq_getElem?_getD, List.getElem?_map, List.getElem?_eq_getElem h', List.getD_eq_getElem?_getD, List.getElem?_eq_getElem h']
  rfl
def CC (n : Nat) (f : Nat → Nat) (wt : Nat → Nat → Nat) : Nat → (Nat → Nat) → Nat → Nat
  | 0, d, g => wt (la n f g) (d (la n f g))
  | r + 1, d, g => if 2 * g + 1 < MM (lds n f) r then CC n f wt r d (2 * g) + CC n f wt r d (2 * g + 1) else CC n f wt r d (2 * g)
def TT (n : Nat) (f : Nat → Nat) : Nat → Nat → Nat
  | 0, g => trn n f (la n f g)
  | r + 1, g => if 2 * g + 1 < MM (lds n f) r then TT n f r (2 * g) + TT n f r (2 * g + 1) else TT n f r (2 * g)
def blk (f : Nat → Nat) : Nat → Nat → Nat
  | 0, p => rk f p
  | r + 1, p => blk f r p / 2
theorem blk_mono {p q : Nat} (h : p ≤ q) : ∀ r, blk f r p ≤ blk f r q
  | 0 => rk_mono h
  | r + 1 => Nat.div_le_div_right (blk_mono h r)
theorem blk_lt {p : Nat} (hp : p < n) (h : f p = p) : ∀ r, blk f r p < MM (lds n f) r
  | 0 => (rk_ok hp h).1
  | r + 1 => by have := blk_lt hp h r; rw [blk, MM]; omega
theorem EE_p {d : Nat → Nat} : ∀ r g, g < MM (lds n f) r → (EE n k f r d g).1 < n ∧ f (EE n k f r d g).1 = (EE n k f r d g).1 ∧ blk f r (EE n k f r d g).1 = g
  | 0, g, h => by
    rw [EE_0 h]
    exact la_ok h
  | r + 1, g, h => by
    rw [MM] at h
    rw [EE_s, blk]
    by_cases e : 2 * g + 1 < MM (lds n f) r
    · rw [if_pos e]
      obtain ⟨a1, a2, a3⟩ := EE_p (d := d) r (2 * g) (by omega)
      obtain ⟨b1, b2, b3⟩ := EE_p (d := d) r (2 * g + 1) (by omega)
      rcases out_p k (EE n k f r d (2 * g)) (EE n k f r d (2 * g + 1)) with q | q
      · rw [q, a3]; exact ⟨a1, a2, by omega⟩
      · rw [q, b3]; exact ⟨b1, b2, by omega⟩
    · rw [if_neg e]
      obtain ⟨a1, a2, a3⟩ := EE_p (d := d) r (2 * g) (by omega)
      rw [a3]; exact ⟨a1, a2, by omega⟩
theorem EE_t {d : Nat → Nat} : ∀ r g, g < MM (lds n f) r → (EE n k f r d g).2.2 = TT n f r g
  | 0, g, h => by rw [EE_0 h]; rfl
  | r + 1, g, h => by
    rw [MM] at h
    rw [EE_s, TT]
    by_cases e : 2 * g + 1 < MM (lds n f) r
    · rw [if_pos e, if_pos e, out_t, EE_t r _ (by omega), EE_t r _ (by omega)]
    · rw [if_neg e, if_neg e, EE_t r _ (by omega)]
theorem out_h {x y : ent} (hx : x.2.1 < 3) (hy : y.2.1 < 3) : (out k x y).2.1 < 3 := by
  obtain ⟨a, b, -⟩ := crs_lt (ka := k x.1) (kb := k y.1) hx hy
  unfold out
  repeat' split
  all_goals assumption
theorem EE_h {d : Nat → Nat} (hd : ∀ q, d q < 3) : ∀ r g, g < MM (lds n f) r → (EE n k f r d g).2.1 < 3
  | 0, g, h => by rw [EE_0 h]; exact hd _
  | r + 1, g, h => by
    rw [MM] at h
    rw [EE_s]
    by_cases e : 2 * g + 1 < MM (lds n f) r
    · rw [if_pos e]; exact out_h (EE_h hd r _ (by omega)) (EE_h hd r _ (by omega))
    · rw [if_neg e]; exact EE_h hd r _ (by omega)
theorem EE_loc {d d' : Nat → Nat} : ∀ r g, g < MM (lds n f) r → (∀ q, q < n → f q = q → blk f r q = g → d q = d' q) → EE n k f r d g = EE n k f r d' g ∧ CC n f wt r d g = CC n f wt r d' g
  | 0, g, h, e => by
    obtain ⟨a, b, c⟩ := la_ok (n := n) (f := f) h
    rw [EE_0 h, EE_0 h, CC, CC, e _ a b c]
    exact ⟨rfl, rfl⟩
  | r + 1, g, h, e => by
    rw [MM] at h
    have A := EE_loc (d := d) (d' := d') r (2 * g) (by omega) (fun q a b c => e q a b (by rw [blk, c]; omega))
    rw [EE_s, EE_s, CC, CC]
    by_cases z : 2 * g + 1 < MM (lds n f) r
    · have B := EE_loc (d := d) (d' := d') r (2 * g + 1) (by omega) (fun q a b c => e q a b (by rw [blk, c]; omega))
      rw [if_pos z, if_pos z, if_pos z, if_pos z, A.1, A.2, B.1, B.2]
      exact ⟨rfl, rfl⟩
    · rw [if_neg z, if_neg z, if_neg z, if_neg z]; exact A
/-- p can be ahead of its group with hand h, at cost c -/
def SS (n : Nat) (k f : Nat → Nat) (wt : Nat → Nat → Nat) (r p h c : Nat) : Prop := ∃ d, (∀ q, d q < 3) ∧ p < n ∧ f p = p ∧ (EE n k f r d (blk f r p)).1 = p ∧ (EE n k f r d (blk f r p)).2.1 = h ∧ CC n f wt r d (blk f r p) = c
theorem SS_0 {p h c : Nat} : SS n k f wt 0 p h c ↔ p < n ∧ f p = p ∧ h < 3 ∧ c = wt p h := by
  constructor
  · rintro ⟨d, h1, h2, h3, h4, h5, h6⟩
    obtain ⟨a, b⟩ := rk_ok h2 h3
    rw [blk] at h5 h6
    rw [EE_0 a, b] at h5
    rw [CC, b] at h6
    dsimp only at h5
    subst h5 h6
    exact ⟨h2, h3, h1 p, rfl⟩
  · rintro ⟨h2, h3, h4, rfl⟩
    obtain ⟨a, b⟩ := rk_ok h2 h3
    refine ⟨fun _ => h, fun _ => h4, h2, h3, ?_, ?_, ?_⟩
    · rw [blk, EE_0 a, b]
    · rw [blk, EE_0 a]
    · rw [blk, CC, b]
theorem SS_s {r p h c : Nat} : SS n k f wt (r + 1) p h c ↔ (∃ a b ha hb ca cb, SS n k f wt r a ha ca ∧ SS n k f wt r b hb cb ∧ blk f r a % 2 = 0 ∧ blk f r b = blk f r a + 1 ∧ (out k (a, ha, TT n f r (blk f r a)) (b, hb, TT n f r (blk f r b))).1 = p ∧ (out k (a, ha, TT n f r (blk f r a)) (b, hb, TT n f r (blk f r b))).2.1 = h ∧ c = ca + cb) ∨ (SS n k f wt r p h c ∧ blk f r p % 2 = 0 ∧ blk f r p + 1 = MM (lds n f) r) := by
  constructor
  · rintro ⟨d, h1, h2, h3, h4, h5, h6⟩
    have hg := blk_lt h2 h3 (r + 1)
    generalize hb : blk f (r + 1) p = g at *
    rw [EE_s] at h4 h5
    rw [CC] at h6
    rw [MM] at hg
    by_cases z : 2 * g + 1 < MM (lds n f) r
    · rw [if_pos z] at h4 h5 h6
      obtain ⟨a1, a2, a3⟩ := EE_p (k := k) (d := d) r (2 * g) (show 2 * g < MM (lds n f) r by omega)
      obtain ⟨b1, b2, b3⟩ := EE_p (k := k) (d := d) r (2 * g + 1) z
      have ta := EE_t (k := k) (d := d) r (2 * g) (show 2 * g < MM (lds n f) r by omega)
      have tb := EE_t (k := k) (d := d) r (2 * g + 1) z
      refine Or.inl ⟨_, _, (EE n k f r d (2 * g)).2.1, (EE n k f r d (2 * g + 1)).2.1, _, _, ⟨d, h1, a1, a2, by rw [a3], by rw [a3], rfl⟩, ⟨d, h1, b1, b2, by rw [b3], by rw [b3], rfl⟩, by rw [a3]; omega, by rw [a3, b3], ?_, ?_, ?_⟩
      · rw [a3, b3, ← ta, ← tb]; exact h4
      · rw [a3, b3, ← ta, ← tb]; exact h5
      · rw [a3, b3]; exact h6.symm
    · rw [if_neg z] at h4 h5 h6
      obtain ⟨a1, a2, a3⟩ := EE_p (k := k) (d := d) r (2 * g) (show 2 * g < MM (lds n f) r by omega)
      rw [h4] at a3
      refine Or.inr ⟨⟨d, h1, h2, h3, by rw [a3]; exact h4, by rw [a3]; exact h5, by rw [a3]; exact h6⟩, by omega, by omega⟩
  · rintro (⟨a, b, ha, hb, ca, cb, ⟨dA, A1, A2, A3, A4, A5, A6⟩, ⟨dB, B1, B2, B3, B4, B5, B6⟩, e1, e2, h4, h5, rfl⟩ | ⟨⟨d, h1, h2, h3, h4, h5, h6⟩, e1, e2⟩)
    · have la := blk_lt A2 A3 r
      have lb := blk_lt B2 B3 r
      obtain ⟨g, hg⟩ : ∃ g, blk f r a = 2 * g := ⟨blk f r a / 2, by omega⟩
      have eA := EE_loc (k := k) (wt := wt) (d := fun q => if blk f r q = blk f r a then dA q else dB q) (d' := dA) r (blk f r a) la (fun q _ _ x => if_pos x)
      have eB := EE_loc (k := k) (wt := wt) (d := fun q => if blk f r q = blk f r a then dA q else dB q) (d' := dB) r (blk f r b) lb (fun q _ _ x => if_neg (by omega))
      rw [e2, hg] at eB
      rw [hg] at eA
      rw [hg] at A4 A5 A6
      rw [e2, hg] at B4 B5 B6
      have ta := EE_t (k := k) (d := dA) r (2 * g) (show 2 * g < MM (lds n f) r by omega)
      have tb := EE_t (k := k) (d := dB) r (2 * g + 1) (show 2 * g + 1 < MM (lds n f) r by omega)
      rw [e2, hg, ← ta, ← tb] at h4 h5
      have xA : (a, ha, (EE n k f r dA (2 * g)).2.2) = EE n k f r dA (2 * g) := by rw [← A4, ← A5]
      have xB : (b, hb, (EE n k f r dB (2 * g + 1)).2.2) = EE n k f r dB (2 * g + 1) := by rw [← B4, ← B5]
      rw [xA, xB] at h4 h5
      have hp : p < n ∧ f p = p ∧ blk f r p / 2 = g := by
        rcases out_p k (EE n k f r dA (2 * g)) (EE n k f r dB (2 * g + 1)) with q | q
        · rw [q, A4] at h4; rw [← h4, hg]; exact ⟨A2, A3, by omega⟩
        · rw [q, B4] at h4; rw [← h4, e2, hg]; exact ⟨B2, B3, by omega⟩
      refine ⟨fun q => if blk f r q = 2 * g then dA q else dB q, fun q => by dsimp only; split; exact A1 q; exact B1 q, hp.1, hp.2.1, ?_, ?_, ?_⟩
      · rw [blk, hp.2.2, EE_s, if_pos (by omega), eA.1, eB.1]; exact h4
      · rw [blk, hp.2.2, EE_s, if_pos (by omega), eA.1, eB.1]; exact h5
      · rw [blk, hp.2.2, CC, if_pos (by omega), eA.2, eB.2, A6, B6]
    · obtain ⟨g, hg⟩ : ∃ g, blk f r p = 2 * g := ⟨blk f r p / 2, by omega⟩
      rw [hg] at h4 h5 h6
      refine ⟨d, h1, h2, h3, ?_, ?_, ?_⟩
      · rw [blk, hg, show 2 * g / 2 = g by omega, EE_s, if_neg (by omega)]; exact h4
      · rw [blk, hg, show 2 * g / 2 = g by omega, EE_s, if_neg (by omega)]; exact h5
      · rw [blk, hg, show 2 * g / 2 = g by omega, CC, if_neg (by omega)]; exact h6
end GROUPS
