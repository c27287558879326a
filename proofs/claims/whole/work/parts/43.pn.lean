/-! PURE PART N: halls laid away and taken back -/
theorem HREL_congr {xp R T : Int32} {K D L w K' D' L' w' : Nat → Int32} (h : HREL xp R T K D L w) (h1 : ∀ j, j < 8 → K' j = K j ∧ D' j = D j ∧ L' j = L j) (h2 : ∀ j, j < 27 → w' j = w j) : HREL xp R T K' D' L' w' := by
  obtain ⟨n, k, k', s, s', ⟨e1, e2, e3, hK, hD, hL⟩, ⟨⟨m0, m1⟩, m2, m3⟩, rest⟩ := h
  refine ⟨n, k, k', s, s', ⟨e1, e2, e3, fun j hj => ?_, fun j hj => ?_, fun j hj => ?_⟩, ⟨⟨?_, fun p hp => ?_⟩, ?_, ?_⟩, rest⟩
  · rw [(h1 j hj).1]; exact hK j hj
  · rw [(h1 j hj).2.1]; exact hD j hj
  · rw [(h1 j hj).2.2]; exact hL j hj
  · rw [h2 0 (by omega)]; exact m0
  · rw [h2 _ (by omega), h2 _ (by omega), h2 _ (by omega)]; exact m1 p hp
  · rw [h2 _ (by omega)]; exact m2
  · rw [h2 _ (by omega)]; exact m3
theorem p_save_27 {N M b : Nat} {K D L : Nat → Int32} (hM : M ≤ 648) (hb : b + 27 ≤ M) : ∀ j i m (A : Nat → Int32), i + j = 8 → j < m → (∀ q, q < i → A (b + 3 + q) = K q ∧ A (b + 11 + q) = D q ∧ A (b + 19 + q) = L q) →
    ∃ A', o_X3_save_27 N M K D L (nI b) m A (nI i) = some A' ∧ (∀ q, q < 8 → A' (b + 3 + q) = K q ∧ A' (b + 11 + q) = D q ∧ A' (b + 19 + q) = L q) ∧ ∀ q, (q < b + 3 ∨ b + 27 ≤ q) → A' q = A q := by
  intro j
  induction j with
  | zero =>
    intro i m A h1 h2 h3
    obtain ⟨m, rfl⟩ := mem_succ h2
    refine ⟨A, ?_, fun q hq => h3 q (by omega), fun _ _ => rfl⟩
    rw [o_X3_save_27]
    dsimp only
    rw [l8_, ifle (by omega) (by omega), if_pos (by omega)]
  | succ j ih =>
    intro i m A h1 h2 h3
    obtain ⟨m, rfl⟩ := mem_succ h2
    obtain ⟨A', g1, g2, g3⟩ := ih (i + 1) m (upd (upd (upd A (b + 3 + i) (K i)) (b + 3 + 8 + i) (D i)) (b + 3 + 16 + i) (L i)) (by omega) (by omega) (fun q hq => by
      by_cases c : q = i
      · subst c
        refine ⟨?_, ?_, ?_⟩
        · rw [upd_ne (by omega), upd_ne (by omega), upd_eq]
        · rw [upd_ne (by omega), show b + 11 + q = b + 3 + 8 + q by omega, upd_eq]
        · rw [show b + 19 + q = b + 3 + 16 + q by omega, upd_eq]
      · have := h3 q (by omega)
        refine ⟨?_, ?_, ?_⟩
        · rw [upd_ne (by omega), upd_ne (by omega), upd_ne (by omega)]; exact this.1
        · rw [upd_ne (by omega), upd_ne (by omega), upd_ne (by omega)]; exact this.2.1
        · rw [upd_ne (by omega), upd_ne (by omega), upd_ne (by omega)]; exact this.2.2)
    refine ⟨A', ?_, g2, fun q hq => ?_⟩
    · rw [o_X3_save_27]
      dsimp only
      rw [show (16 : Int32) = nI 16 from rfl, l3_, l8_, ifle (by omega) (by omega), if_neg (by omega), nI_add, nI_add, nI_add, nI_add, nI_add, nI_add, ogd_t (inb_ok (by omega) (by omega)), ogd_t (inb_ok (by omega) (by omega)), ogd_t (inb_ok (by omega) (by omega)), ogd_t (inb_ok (by omega) (by omega)), ogd_t (inb_ok (by omega) (by omega)), ogd_t (inb_ok (by omega) (by omega)), cl_nI (by omega), cl_nI (by omega), cl_nI (by omega), cl_nI (by omega), nI_1]
      exact g1
    · rw [g3 q hq, upd_ne (by omega), upd_ne (by omega), upd_ne (by omega)]
theorem p_save {N M b : Nat} {xp R T : Int32} {K D L A : Nat → Int32} (hN : 9 < N) (hM : M ≤ 648) (hb : b + 27 ≤ M) :
    ∃ A', o_X3_save N M xp R T K D L A (nI b) = some A' ∧ A' b = xp ∧ A' (b + 1) = R ∧ A' (b + 2) = T ∧ (∀ q, q < 8 → A' (b + 3 + q) = K q ∧ A' (b + 11 + q) = D q ∧ A' (b + 19 + q) = L q) ∧ ∀ q, (q < b ∨ b + 27 ≤ q) → A' q = A q := by
  obtain ⟨A', g1, g2, g3⟩ := p_save_27 (N := N) (K := K) (D := D) (L := L) hM hb 8 0 N (upd (upd (upd A b xp) (b + 1) R) (b + 2) T) (by omega) (by omega) (fun q hq => by omega)
  refine ⟨A', ?_, ?_, ?_, ?_, g2, fun q hq => ?_⟩
  · rw [o_X3_save, l1_, l2_, nI_add, nI_add, ogd_t (inb_ok (by omega) (by omega)), ogd_t (inb_ok (by omega) (by omega)), ogd_t (inb_ok (by omega) (by omega)), cl_nI (by omega), cl_nI (by omega), cl_nI (by omega)]
    exact g1
  · rw [g3 _ (by omega), upd_ne (by omega), upd_ne (by omega), upd_eq]
  · rw [g3 _ (by omega), upd_ne (by omega), upd_eq]
  · rw [g3 _ (by omega), upd_eq]
  · rw [g3 q (by omega), upd_ne (by omega), upd_ne (by omega), upd_ne (by omega)]
theorem p_load_27 {N M b : Nat} {x y z : Int32} {A : Nat → Int32} (hM : M ≤ 648) (hb : b + 27 ≤ M) : ∀ j i m (K D L : Nat → Int32), i + j = 8 → j < m → (∀ q, q < i → K q = A (b + 3 + q) ∧ D q = A (b + 11 + q) ∧ L q = A (b + 19 + q)) →
    ∃ K' D' L', o_X3_load_27 N M x y z A (nI b) m K D L (nI i) = some (x, y, z, K', D', L') ∧ ∀ q, q < 8 → K' q = A (b + 3 + q) ∧ D' q = A (b + 11 + q) ∧ L' q = A (b + 19 + q) := by
  intro j
  induction j with
  | zero =>
    intro i m K D L h1 h2 h3
    obtain ⟨m, rfl⟩ := mem_succ h2
    refine ⟨K, D, L, ?_, fun q hq => h3 q (by omega)⟩
    rw [o_X3_load_27]
    dsimp only
    rw [l8_, ifle (by omega) (by omega), if_pos (by omega)]
  | succ j ih =>
    intro i m K D L h1 h2 h3
    obtain ⟨m, rfl⟩ := mem_succ h2
    obtain ⟨K', D', L', g1, g2⟩ := ih (i + 1) m (upd K i (A (b + 3 + i))) (upd D i (A (b + 3 + 8 + i))) (upd L i (A (b + 3 + 16 + i))) (by omega) (by omega) (fun q hq => by
      by_cases c : q = i
      · subst c
        rw [upd_eq, upd_eq, upd_eq]
        exact ⟨rfl, by rw [show b + 3 + 8 + q = b + 11 + q by omega], by rw [show b + 3 + 16 + q = b + 19 + q by omega]⟩
      · rw [upd_ne c, upd_ne c, upd_ne c]
        exact h3 q (by omega))
    refine ⟨K', D', L', ?_, g2⟩
    rw [o_X3_load_27]
    dsimp only
    rw [show (16 : Int32) = nI 16 from rfl, l3_, l8_, ifle (by omega) (by omega), if_neg (by omega), nI_add, nI_add, nI_add, nI_add, nI_add, nI_add, ogd_t (inb_ok (by omega) (by omega)), ogd_t (inb_ok (by omega) (by omega)), ogd_t (inb_ok (by omega) (by omega)), ogd_t (inb_ok (by omega) (by omega)), ogd_t (inb_ok (by omega) (by omega)), ogd_t (inb_ok (by omega) (by omega)), cl_nI (by omega), cl_nI (by omega), cl_nI (by omega), cl_nI (by omega), nI_1]
    exact g1
theorem p_load {N M b : Nat} {K D L A : Nat → Int32} (hN : 9 < N) (hM : M ≤ 648) (hb : b + 27 ≤ M) :
    ∃ K' D' L', o_X3_load N M K D L A (nI b) = some (A b, A (b + 1), A (b + 2), K', D', L') ∧ ∀ q, q < 8 → K' q = A (b + 3 + q) ∧ D' q = A (b + 11 + q) ∧ L' q = A (b + 19 + q) := by
  obtain ⟨K', D', L', g1, g2⟩ := p_load_27 (N := N) (x := A b) (y := A (b + 1)) (z := A (b + 2)) (A := A) hM hb 8 0 N K D L (by omega) (by omega) (fun q hq => by omega)
  refine ⟨K', D', L', ?_, g2⟩
  rw [o_X3_load, l1_, l2_, nI_add, nI_add, ogd_t (inb_ok (by omega) (by omega)), ogd_t (inb_ok (by omega) (by omega)), ogd_t (inb_ok (by omega) (by omega)), cl_nI (by omega), cl_nI (by omega), cl_nI (by omega)]
  exact g1
/-- a hall that both sides laid away -/
def SV (A : Nat → Int32) (b : Nat) (B : Nat → Int32) (c : Nat) : Prop := HREL (A b) (A (b + 1)) (A (b + 2)) (fun j => A (b + 3 + j)) (fun j => A (b + 11 + j)) (fun j => A (b + 19 + j)) (fun j => B (c + j))
theorem SV_congr {A B A' B' : Nat → Int32} {b c b' c' : Nat} (h : SV A b B c) (h1 : ∀ j, j < 27 → A' (b' + j) = A (b + j)) (h2 : ∀ j, j < 27 → B' (c' + j) = B (c + j)) : SV A' b' B' c' := by
  unfold SV at h ⊢
  have e0 := h1 0 (by omega)
  rw [Nat.add_zero, Nat.add_zero] at e0
  rw [e0, h1 1 (by omega), h1 2 (by omega)]
  refine HREL_congr h (fun j hj => ⟨?_, ?_, ?_⟩) (fun j hj => h2 j hj)
  · have := h1 (3 + j) (by omega)
    rw [← Nat.add_assoc, ← Nat.add_assoc] at this
    exact this
  · have := h1 (11 + j) (by omega)
    rw [← Nat.add_assoc, ← Nat.add_assoc] at this
    exact this
  · have := h1 (19 + j) (by omega)
    rw [← Nat.add_assoc, ← Nat.add_assoc] at this
    exact this
