/-! PURE PART QL: ways and codes as numbers -/
def wh (f d : Nat → Nat) : Nat → Nat
  | 0 => 0
  | j + 1 => 4 * wh f d j + (if f j = j then d j else 0)
def cd (d : Nat → Nat) : Nat → Nat
  | 0 => 0
  | j + 1 => 3 * cd d j + d j
def oth (f d0 d : Nat → Nat) (j : Nat) : Nat := sl f (fun p => if d p = d0 p then 0 else 1) j
theorem p4 {j : Nat} (h : j < 8) : 4 ^ (8 - j) = 4 * 4 ^ (7 - j) := by
  rw [show 8 - j = (7 - j) + 1 by omega, Nat.pow_succ, Nat.mul_comm]
section NUMS
variable {f d d0 : Nat → Nat}
theorem wy_wh : ∀ j, j ≤ 8 → sl f (fun p => d p * 4 ^ (7 - p)) j = wh f d j * 4 ^ (8 - j)
  | 0, _ => by rw [sl, wh, Nat.zero_mul]
  | j + 1, h => by
    rw [sl, wh, wy_wh j (by omega), p4 (show j < 8 by omega), show 8 - (j + 1) = 7 - j by omega, Nat.add_mul]
    have e : wh f d j * (4 * 4 ^ (7 - j)) = 4 * wh f d j * 4 ^ (7 - j) := by rw [← Nat.mul_assoc, Nat.mul_comm (wh f d j) 4]
    rw [e]
    split
    · rfl
    · rw [Nat.zero_mul]
theorem wt_sum : ∀ j, sl f (fun p => wt d0 p (d p)) j = oth f d0 d j * 65536 + sl f (fun p => d p * 4 ^ (7 - p)) j
  | 0 => by unfold oth; rw [sl, sl, sl, Nat.zero_mul]
  | j + 1 => by
    have := wt_sum j
    unfold oth at this ⊢
    rw [sl, sl, sl, this]
    by_cases e : f j = j
    · rw [if_pos e, if_pos e, if_pos e]
      show _ + ((if d j = d0 j then 0 else 1) * 65536 + d j * 4 ^ (7 - j)) = _
      rw [Nat.add_mul]; omega
    · rw [if_neg e, if_neg e, if_neg e]; omega
theorem wh_pre (hd : ∀ p, d p < 3) {q : Nat} : ∀ j, q + 1 + j ≤ 8 → ∃ rest, wh f d (q + 1 + j) * 4 ^ (8 - (q + 1 + j)) = wh f d (q + 1) * 4 ^ (7 - q) + rest ∧ rest + 4 ^ (8 - (q + 1 + j)) ≤ 4 ^ (7 - q)
  | 0, h => ⟨0, by rw [show 8 - (q + 1 + 0) = 7 - q by omega]; rfl, by rw [show 8 - (q + 1 + 0) = 7 - q by omega]; omega⟩
  | j + 1, h => by
    obtain ⟨rest, h1, h2⟩ := wh_pre hd (q := q) j (by omega)
    rw [p4 (show q + 1 + j < 8 by omega)] at h1 h2
    have x2 : (if f (q + 1 + j) = q + 1 + j then d (q + 1 + j) else 0) ≤ 2 := by
      have := hd (q + 1 + j)
      split <;> omega
    refine ⟨rest + (if f (q + 1 + j) = q + 1 + j then d (q + 1 + j) else 0) * 4 ^ (7 - (q + 1 + j)), ?_, ?_⟩
    · rw [show q + 1 + (j + 1) = (q + 1 + j) + 1 by omega, wh, show 8 - (q + 1 + j + 1) = 7 - (q + 1 + j) by omega, Nat.add_mul, Nat.mul_comm 4, Nat.mul_assoc, h1, Nat.add_assoc]
    · rw [show q + 1 + (j + 1) = (q + 1 + j) + 1 by omega, show 8 - (q + 1 + j + 1) = 7 - (q + 1 + j) by omega]
      generalize 4 ^ (7 - (q + 1 + j)) = P at *
      generalize (if f (q + 1 + j) = q + 1 + j then d (q + 1 + j) else 0) = x at *
      have : x * P ≤ 2 * P := Nat.mul_le_mul_right P x2
      omega
theorem wh_lt (hd : ∀ p, d p < 3) : ∀ j, wh f d j < 4 ^ j
  | 0 => by rw [wh]; exact Nat.one_pos
  | j + 1 => by
    have a := wh_lt hd j
    have b := hd j
    rw [wh, Nat.pow_succ]
    split <;> omega
theorem wy_lt (hd : ∀ p, d p < 3) {n : Nat} (hn : n ≤ 8) : wh f d n * 4 ^ (8 - n) < 65536 := by
  have a := wh_lt (f := f) hd n
  have b : wh f d n * 4 ^ (8 - n) < 4 ^ n * 4 ^ (8 - n) := Nat.mul_lt_mul_of_pos_right a (Nat.pow_pos (by omega))
  rw [← Nat.pow_add, show n + (8 - n) = 8 by omega] at b
  omega
/-- a way's number -/
def wn (f d0 d : Nat → Nat) (n : Nat) : Nat := oth f d0 d n * 65536 + wh f d n * 4 ^ (8 - n)
theorem CC_wn {n : Nat} {k : Nat → Nat} (hn : n ≤ 8) (h1 : 1 ≤ lds n f) : CC n f (wt d0) 8 d 0 = wn f d0 d n := by
  rw [CC_all hn h1, wt_sum, wy_wh n hn]; rfl
theorem wn_oth (hd : ∀ p, d p < 3) {n : Nat} (hn : n ≤ 8) : wn f d0 d n / 65536 = oth f d0 d n := by
  have := wy_lt (f := f) hd hn
  unfold wn
  generalize wh f d n * 4 ^ (8 - n) = P at *
  omega
theorem wn_hand (hd : ∀ p, d p < 3) {n q : Nat} (hn : n ≤ 8) (hq : q < n) (hf : f q = q) : wn f d0 d n / 4 ^ (7 - q) % 4 = d q := by
  obtain ⟨rest, h1, h2⟩ := wh_pre (f := f) hd (q := q) (n - (q + 1)) (by omega)
  rw [show q + 1 + (n - (q + 1)) = n by omega] at h1 h2
  have p0 : 0 < 4 ^ (8 - n) := Nat.pow_pos (by omega)
  have e : 65536 = 4 ^ (q + 1) * 4 ^ (7 - q) := by rw [← Nat.pow_add, show q + 1 + (7 - q) = 8 by omega]
  unfold wn
  rw [h1, show oth f d0 d n * 65536 = oth f d0 d n * (4 ^ (q + 1) * 4 ^ (7 - q)) by rw [← e], ← Nat.mul_assoc, ← Nat.add_assoc, ← Nat.add_mul]
  generalize 4 ^ (7 - q) = P at *
  have e2 : ((oth f d0 d n * 4 ^ (q + 1) + wh f d (q + 1)) * P + rest) / P = oth f d0 d n * 4 ^ (q + 1) + wh f d (q + 1) := by
    rw [Nat.add_comm, Nat.add_mul_div_right _ _ (by omega), Nat.div_eq_of_lt (by omega), Nat.zero_add]
  rw [e2, Nat.pow_succ, ← Nat.mul_assoc, wh, if_pos hf]
  have := hd q
  omega
theorem cd_lt (hd : ∀ p, d p < 3) : ∀ j, cd d j < 3 ^ j
  | 0 => by rw [cd]; exact Nat.one_pos
  | j + 1 => by
    have a := cd_lt hd j
    have b := hd j
    rw [cd, Nat.pow_succ]; omega
theorem cd_congr {d d' : Nat → Nat} : ∀ j, (∀ p, p < j → d p = d' p) → cd d j = cd d' j
  | 0, _ => rfl
  | j + 1, h => by rw [cd, cd, cd_congr j (fun p hp => h p (by omega)), h j (by omega)]
theorem cd_sur : ∀ n c, c < 3 ^ n → ∃ d, (∀ q, d q < 3) ∧ cd d n = c
  | 0, c, h => ⟨fun _ => 0, fun _ => by show 0 < 3; omega, by rw [cd]; simp at h; exact h.symm⟩
  | n + 1, c, h => by
    rw [Nat.pow_succ] at h
    obtain ⟨d, h1, h2⟩ := cd_sur n (c / 3) (by omega)
    refine ⟨fun q => if q = n then c % 3 else d q, fun q => by dsimp only; split; omega; exact h1 q, ?_⟩
    rw [cd, cd_congr (d' := d) n (fun p hp => by rw [if_neg (by omega)]), h2, if_pos rfl]
    omega
theorem cd_inj {d d' : Nat → Nat} (hd : ∀ p, d p < 3) (hd' : ∀ p, d' p < 3) : ∀ n, cd d n = cd d' n → ∀ p, p < n → d p = d' p
  | 0, _, p, hp => by omega
  | n + 1, h, p, hp => by
    rw [cd, cd] at h
    have a := hd n
    have b := hd' n
    by_cases e : p = n
    · subst e; omega
    · exact cd_inj hd hd' n (by omega) p (by omega)
theorem cd_wh {d d' : Nat → Nat} (hd : ∀ p, d p < 3) (hd' : ∀ p, d' p < 3) : ∀ j, (∀ p, p < j → ¬ f p = p → d p = d' p) → (cd d j < cd d' j ↔ wh f d j < wh f d' j) ∧ (cd d j = cd d' j ↔ wh f d j = wh f d' j)
  | 0, _ => ⟨⟨fun h => by rw [cd, cd] at h; omega, fun h => by rw [wh, wh] at h; omega⟩, ⟨fun _ => rfl, fun _ => rfl⟩⟩
  | j + 1, h => by
    obtain ⟨a, b⟩ := cd_wh hd hd' j (fun p hp => h p (by omega))
    have x := hd j
    have y := hd' j
    rw [cd, cd, wh, wh]
    by_cases e : f j = j
    · rw [if_pos e, if_pos e]
      rcases Nat.lt_trichotomy (cd d j) (cd d' j) with g | g | g
      · have := a.mp g; omega
      · have := b.mp g; omega
      · have : ¬ wh f d j < wh f d' j := fun q => by have := a.mpr q; omega
        have : ¬ wh f d j = wh f d' j := fun q => by have := b.mpr q; omega
        omega
    · have z := h j (by omega) e
      rw [if_neg e, if_neg e, z]
      rcases Nat.lt_trichotomy (cd d j) (cd d' j) with g | g | g
      · have := a.mp g; omega
      · have := b.mp g; omega
      · have : ¬ wh f d j < wh f d' j := fun q => by have := a.mpr q; omega
        have : ¬ wh f d j = wh f d' j := fun q => by have := b.mpr q; omega
        omega
theorem wn_le {d d' : Nat → Nat} {n : Nat} (hn : n ≤ 8) (hd : ∀ p, d p < 3) (hd' : ∀ p, d' p < 3) (h : ∀ p, p < n → ¬ f p = p → d p = d' p) (g : oth f d0 d n < oth f d0 d' n ∨ (oth f d0 d n = oth f d0 d' n ∧ cd d n ≤ cd d' n)) : wn f d0 d n ≤ wn f d0 d' n := by
  have a := wy_lt (f := f) hd hn
  unfold wn
  rcases g with g | ⟨g1, g2⟩
  · generalize wh f d n * 4 ^ (8 - n) = P at *
    generalize wh f d' n * 4 ^ (8 - n) = Q at *
    omega
  · obtain ⟨b, c⟩ := cd_wh (f := f) hd hd' n h
    have : wh f d n ≤ wh f d' n := by
      rcases Nat.lt_or_ge (cd d n) (cd d' n) with z | z
      · have := b.mp z; omega
      · have := c.mp (by omega); omega
    have := Nat.mul_le_mul_right (4 ^ (8 - n)) this
    rw [g1]
    generalize wh f d n * 4 ^ (8 - n) = P at *
    generalize wh f d' n * 4 ^ (8 - n) = Q at *
    omega
/-- the model's cost: another hand of one who doesn't lead is out of reach -/
def co (f d0 d : Nat → Nat) : Nat → Nat
  | 0 => 0
  | j + 1 => co f d0 d j + (if d j = d0 j then 0 else if f j = j then 1 else 100)
theorem co_oth : ∀ j, (∀ p, p < j → ¬ f p = p → d p = d0 p) → co f d0 d j = oth f d0 d j
  | 0, _ => rfl
  | j + 1, h => by
    have := co_oth j (fun p hp => h p (by omega))
    unfold oth at this ⊢
    rw [co, sl, this]
    by_cases e : f j = j
    · rw [if_pos e, if_pos e]
    · rw [if_pos (h j (by omega) e), if_neg e]
theorem co_non : ∀ j, co f d0 d j < 100 → ∀ p, p < j → ¬ f p = p → d p = d0 p
  | 0, _, p, hp, _ => by omega
  | j + 1, h, p, hp, hf => by
    rw [co] at h
    by_cases e : p = j
    · subst e
      refine Classical.byContradiction fun z => ?_
      rw [if_neg z, if_neg hf] at h
      omega
    · exact co_non j (by omega) p (by omega) hf
theorem oth_le : ∀ j, oth f d0 d j ≤ j
  | 0 => Nat.le_refl 0
  | j + 1 => by
    have := oth_le j
    unfold oth at this ⊢
    rw [sl]
    split
    · show _ + (if d j = d0 j then 0 else 1) ≤ _
      split <;> omega
    · omega
theorem co_le : ∀ j, co f d0 d j ≤ 100 * j
  | 0 => Nat.le_refl 0
  | j + 1 => by have := co_le j; rw [co]; split; omega; split <;> omega
end NUMS
theorem x_others {N c : Nat} (h : c < 2000000000) : o_X7_othersOf N (nI c) = some (nI (c / 65536)) := by
  rw [o_X7_othersOf, pk_shrN (by omega) _ 16 (by decide)]
theorem sh_fin : ∀ q, q < 8 → (((2 * (7 - nI q)) &&& (31 : Int32)).toBitVec.smod 32).toNat = 14 - 2 * q := by decide +kernel
theorem sh_pow : ∀ q, q < 8 → 2 ^ (14 - 2 * q) = 4 ^ (7 - q) := by decide +kernel
theorem x_handIn {N c q : Nat} (h : c < 2000000000) (hq : q < 8) : o_X7_handIn N (nI c) (nI q) = some (nI (c / 4 ^ (7 - q) % 4)) := by
  have e : c / 4 ^ (7 - q) ≤ c := Nat.div_le_self _ _
  rw [o_X7_handIn, o_X7_shiftOf, Option.bind_some, pk_shrN (by omega) _ (14 - 2 * q) (sh_fin q hq), sh_pow q hq, pk_andN (by omega) 2 (by decide)]
