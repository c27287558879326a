/-! PURE PART K: only those who play count -/
def AG (n : Nat) (g h : Nat → Nat) : Prop := ∀ p, p < n → g p = h p
section AGS
variable {n : Nat} {k d f k' d' f' : Nat → Nat}
theorem ag_trn (hf : AG n f f') (a : Nat) : trn n f a = trn n f' a := cn_congr n 0 (fun j _ h => by rw [hf j (by omega)])
theorem ag_lds (hf : AG n f f') : lds n f = lds n f' := cn_congr n 0 (fun j _ h => by rw [hf j (by omega)])
theorem ag_ldl (hf : AG n f f') : ldl f 0 n = ldl f' 0 n := ldl_congr n 0 (fun q _ h => by rw [hf q (by omega)])
theorem ag_bc (hk : AG n k k') (hd : AG n d d') {a b : Nat} (ha : a < n) (hb : b < n) : bc k d a b = bc k' d' a b := by
  unfold bc
  rw [hk a ha, hk b hb, hd a ha, hd b hb]
theorem ag_win (hk : AG n k k') (hd : AG n d d') (hf : AG n f f') {a b : Nat} (ha : a < n) (hb : b < n) : win n k d f a b = win n k' d' f' a b := by
  unfold win
  rw [ag_bc hk hd ha hb, ag_trn hf, ag_trn hf]
theorem ag_up2 {g h : Nat → Nat} (hg : AG n g h) (a x : Nat) : AG n (up2 g a x) (up2 h a x) := by
  intro p hp
  unfold up2
  rw [hg p hp]
theorem ag_mD (hk : AG n k k') (hd : AG n d d') {a b : Nat} (ha : a < n) (hb : b < n) : AG n (mD k d a b) (mD k' d' a b) := by
  unfold mD
  rw [ag_bc hk hd ha hb]
  exact ag_up2 (ag_up2 hd _ _) _ _
theorem ag_mF (hk : AG n k k') (hd : AG n d d') (hf : AG n f f') {a b : Nat} (ha : a < n) (hb : b < n) : AG n (mF n k d f a b) (mF n k' d' f' a b) := by
  unfold mF lsr
  rw [ag_win hk hd hf ha hb]
  intro p hp
  unfold jn
  rw [hf p hp]
end AGS
theorem ag_rnd {n : Nat} {k k' : Nat → Nat} (hk : AG n k k') : ∀ (m : Nat) (ls : List Nat) (d f d' f' : Nat → Nat) (mx : Nat), ls.length ≤ m → (∀ a, a ∈ ls → a < n) → AG n d d' → AG n f f' →
    AG n (rnd n k ls d f mx).1 (rnd n k' ls d' f' mx).1 ∧ AG n (rnd n k ls d f mx).2.1 (rnd n k' ls d' f' mx).2.1 ∧ (rnd n k ls d f mx).2.2 = (rnd n k' ls d' f' mx).2.2 := by
  intro m
  induction m with
  | zero =>
    intro ls d f d' f' mx h _ hd hf
    have : ls = [] := List.length_eq_zero_iff.mp (by omega)
    subst this
    exact ⟨hd, hf, rfl⟩
  | succ m ih =>
    intro ls d f d' f' mx hl h hd hf
    match ls, hl, h with
    | [], _, _ => exact ⟨hd, hf, rfl⟩
    | [_], _, _ => exact ⟨hd, hf, rfl⟩
    | a :: b :: r, hl, h =>
      have a1 := h a List.mem_cons_self
      have b1 := h b (List.mem_cons_of_mem _ List.mem_cons_self)
      rw [rnd, rnd, ag_bc hk hd a1 b1]
      exact ih r _ _ _ _ _ (by simp only [List.length_cons] at hl; omega) (fun c hc => h c (List.mem_cons_of_mem _ (List.mem_cons_of_mem _ hc))) (ag_mD hk hd a1 b1) (ag_mF hk hd hf a1 b1)
/-- states alike for those who play -/
def SG (n : Nat) (s t : RS) : Prop := AG n s.1 t.1 ∧ AG n s.2.1 t.2.1 ∧ s.2.2 = t.2.2
theorem sg_rstep {n : Nat} {k k' : Nat → Nat} {s t : RS} (hk : AG n k k') (h : SG n s t) : SG n (rstep n k s) (rstep n k' t) := by
  obtain ⟨h1, h2, h3⟩ := h
  have := ag_rnd hk n (ldl s.2.1 0 n) s.1 s.2.1 t.1 t.2.1 0 (by rw [ldl_len]; exact cn_le _ n 0) (fun a ha => by have := ldl_mem n 0 a ha; omega) h1 h2
  rw [ag_ldl h2] at this
  unfold rstep rndA
  rw [ag_ldl h2]
  refine ⟨this.1, this.2.1, ?_⟩
  rw [this.2.2, h3]
theorem sg_toE {n : Nat} {k k' : Nat → Nat} (hk : AG n k k') : ∀ j (s t : RS), SG n s t → SG n (toE n k j s) (toE n k' j t)
  | 0, _, _, h => h
  | j + 1, s, t, h => by
    rw [toE, toE, ag_lds h.2.1]
    split
    · exact h
    · exact sg_toE hk j _ _ (sg_rstep hk h)
/-- what the class holds of a hall -/
def XR (xp R T : Int32) (K D L : Nat → Int32) (n : Nat) (k : Nat → Nat) (s : RS) : Prop := xp = nI n ∧ R = s.2.2.1 ∧ T = s.2.2.2 ∧ IA K k 8 6 ∧ IA D s.1 8 3 ∧ IA L s.2.1 8 8
/-- the halls of both sides, alike for those who play -/
def HREL (xp R T : Int32) (K D L w : Nat → Int32) : Prop := ∃ n k k' s s', XR xp R T K D L n k s ∧ MR w n k' s' ∧ RB n k s ∧ RB n k' s' ∧ AG n k k' ∧ SG n s s' ∧ ∀ p, p < n → 1 ≤ k p
