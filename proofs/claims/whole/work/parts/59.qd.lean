/-! PURE PART QD: the words of a text -/
def wd : List (List Nat) := [[112, 108, 97, 121, 101, 114], [98, 111, 121], [115, 116, 101, 97, 100, 121], [116, 101, 97, 99, 104, 101, 114], [109, 105, 114, 114, 111, 114], [115, 112, 121]]
def wv (si q : Nat) : Nat := (wd.getD si []).getD q 0
def wl (si : Nat) : Nat := zlen.getD si 0
theorem wd_x : ∀ si, si < 6 → ∀ q, q < 7 → (zbyt.getD si []).getD q 0 = nI (wv si q) := by decide +kernel
theorem wd_b : ∀ si, si < 6 → ∀ q, q < 7 → wv si q < 128 := by decide +kernel
theorem wl_b : ∀ si, si < 6 → wl si ≤ 7 := by decide +kernel
theorem fin_hi : ∀ c, c < 256 → (decide (c < 128) || decide (sb c < 0)) = true := by decide +kernel
theorem sb_eq {c v : Nat} (hc : c < 256) (hv : v < 128) : sb c = nI v ↔ c = v := by
  have h := fin_hi c hc
  by_cases e : c < 128
  · rw [fin_low c e]; exact nI_eq (by omega) (by omega)
  · rw [decide_eq_false e, Bool.false_or] at h
    have h' := of_decide_eq_true h
    refine ⟨fun q => ?_, fun q => by omega⟩
    rw [q] at h'
    exact absurd h' (nlt0 (by omega))
/-- the token is the word si -/
def WD (B : Nat → Nat) (t st en si : Nat) : Prop := t = 1 ∧ en - st = wl si ∧ ∀ q, q < wl si → B (st + q) = wv si q
def wch : Int64 → Nat → Int32
  | L, 0 => 96 + (L &&& 31).toInt32
  | L, k + 1 => wch (L >>> (Int32.toInt64 5 &&& 63)) k
section WORDS
variable {N n : Nat} {x mt : Nat → Int32} {B : Nat → Nat} {t st en si : Nat}
theorem x_word_28 (h : BY n x mt B) (hs : si < 6) (he : st + wl si ≤ n) : ∀ j l m, l + j = wl si → j < m →
    ((∀ q, l ≤ q → q < wl si → B (st + q) = wv si q) → o_X4_isWord_28 N (nI st) (nI n) x si m (nI l) = some 1) ∧ ((∃ q, l ≤ q ∧ q < wl si ∧ ¬ B (st + q) = wv si q) → o_X4_isWord_28 N (nI st) (nI n) x si m (nI l) = some 0) := by
  have h200 := h.1
  have b7 := wl_b si hs
  have sl : o_slen si = some (nI (wl si)) := by unfold o_slen; rw [if_pos hs]; rfl
  intro j
  induction j with
  | zero =>
    intro l m h1 h2
    obtain ⟨m, rfl⟩ := mem_succ h2
    refine ⟨fun _ => ?_, fun ⟨q, a, b, _⟩ => by omega⟩
    rw [o_X4_isWord_28]
    dsimp only
    rw [sl, Option.bind_some, ifle (by omega) (by omega), if_pos (by omega)]
  | succ j ih =>
    intro l m h1 h2
    obtain ⟨m, rfl⟩ := mem_succ h2
    obtain ⟨g1, g2⟩ := ih (l + 1) m (by omega) (by omega)
    have c := (h.2 (st + l) (by omega)).1
    have ch : o_schr si (nI l) = some (nI (wv si l)) := by
      unfold o_schr
      rw [if_pos ⟨hs, inb_ok (show l < zlen.getD si 0 from by show l < wl si; omega) (by show wl si < 100000; omega)⟩, cl_nI (by omega), wd_x si hs l (by omega)]
    have v := wd_b si hs l (by omega)
    have st' : o_X4_isWord_28 N (nI st) (nI n) x si (m + 1) (nI l) = if B (st + l) = wv si l then o_X4_isWord_28 N (nI st) (nI n) x si m (nI (l + 1)) else some 0 := by
      rw [o_X4_isWord_28]
      dsimp only
      rw [sl, Option.bind_some, ifle (by omega) (by omega), if_neg (by omega), nI_add, x_at h (by omega), Option.bind_some, ch, Option.bind_some, nI_1]
      by_cases e : B (st + l) = wv si l
      · rw [if_pos e, if_pos ((sb_eq c v).mpr e)]
      · rw [if_neg e, if_neg (fun q => e ((sb_eq c v).mp q))]
    rw [st']
    by_cases e : B (st + l) = wv si l
    · rw [if_pos e]
      refine ⟨fun a => g1 (fun q b1 b2 => a q (by omega) b2), fun ⟨q, b1, b2, b3⟩ => g2 ⟨q, ?_, b2, b3⟩⟩
      rcases Nat.lt_or_ge l q with z | z
      · exact z
      · have : q = l := by omega
        subst this
        exact absurd e b3
    · rw [if_neg e]
      exact ⟨fun a => absurd (a l (Nat.le_refl l) (by omega)) e, fun _ => rfl⟩
theorem nWD (h1 : t = 1) (h2 : en - st = wl si) (h : ¬ WD B t st en si) : ∃ q, 0 ≤ q ∧ q < wl si ∧ ¬ B (st + q) = wv si q :=
  Classical.byContradiction fun g => h ⟨h1, h2, fun q hq => Classical.byContradiction fun z => g ⟨q, by omega, hq, z⟩⟩
theorem x_isWord (h : BY n x mt B) (hN : 201 < N) (hs : si < 6) (ht : t ≤ 4) (h1 : st ≤ en) (h2 : en ≤ n) : (WD B t st en si → o_X4_isWord N (nI t) (nI st) (nI en) (nI n) x si = some 1) ∧ (¬ WD B t st en si → o_X4_isWord N (nI t) (nI st) (nI en) (nI n) x si = some 0) := by
  have h200 := h.1
  have b7 := wl_b si hs
  have sl : o_slen si = some (nI (wl si)) := by unfold o_slen; rw [if_pos hs]; rfl
  have s0 : o_X4_isWord N (nI t) (nI st) (nI en) (nI n) x si = if t = 1 then (if en - st = wl si then o_X4_isWord_28 N (nI st) (nI n) x si N 0 else some 0) else some 0 := by
    rw [o_X4_isWord, l1_, ifeq (by omega) (by omega), sl, Option.bind_some, pk_sub h1, ifeq (by omega) (by omega)]
  rw [s0]
  by_cases e : t = 1
  · rw [if_pos e]
    by_cases f : en - st = wl si
    · rw [if_pos f]
      obtain ⟨g1, g2⟩ := x_word_28 (N := N) h hs (show st + wl si ≤ n by omega) (wl si) 0 N (by omega) (by omega)
      exact ⟨fun w => g1 (fun q _ hq => w.2.2 q hq), fun w => g2 (nWD e f w)⟩
    · rw [if_neg f]
      exact ⟨fun w => absurd w.2.1 f, fun _ => rfl⟩
  · rw [if_neg e]
    exact ⟨fun w => absurd w.1 e, fun _ => rfl⟩
theorem nI_m1 (j : Nat) : nI j + -1 = nI j - 1 := (Int32.sub_eq_add_neg _ _).symm
theorem m_name_0 {L : Int64} {y : Int32} {m : Nat} (hm : 0 < m) : o_X9_isName_31 N (nI st) mt m 0 L y = some 0 := by
  obtain ⟨m, rfl⟩ := mem_succ hm
  rw [o_X9_isName_31]
  dsimp only
  rw [ogd_t (show isb 0 = true by decide), if_pos rfl, ite_self]
theorem m_name_31 (h : BY n x mt B) {w : Nat → Nat} (hw : ∀ q, q < 7 → w q < 128) : ∀ j m L, j ≤ 7 → st + j ≤ n → j + 1 < m → (∀ k, k < j → wch L k = nI (w (j - 1 - k))) →
    ((∀ q, q < j → B (st + q) = w q) → o_X9_isName_31 N (nI st) mt m 1 L (nI j - 1) = some 1) ∧ ((∃ q, q < j ∧ ¬ B (st + q) = w q) → o_X9_isName_31 N (nI st) mt m 1 L (nI j - 1) = some 0) := by
  have h200 := h.1
  intro j
  induction j with
  | zero =>
    intro m L h1 h2 h3 h4
    obtain ⟨m, rfl⟩ := mem_succ (show 0 < m by omega)
    refine ⟨fun _ => ?_, fun ⟨q, a, _⟩ => by omega⟩
    rw [o_X9_isName_31]
    dsimp only
    rw [if_pos (show nI 0 - 1 < 0 by decide), ogd_t (show isb 1 = true by decide)]
  | succ j ih =>
    intro m L h1 h2 h3 h4
    obtain ⟨m, rfl⟩ := mem_succ (show 0 < m by omega)
    obtain ⟨g1, g2⟩ := ih m (L >>> (Int32.toInt64 5 &&& 63)) (by omega) (by omega) (by omega) (fun k hk => by
      have := h4 (k + 1) (by omega)
      rw [wch] at this
      rw [this, show j + 1 - 1 - (k + 1) = j - 1 - k by omega])
    have c := h.2 (st + j) (by omega)
    have v := hw j (by omega)
    have w0 := h4 0 (by omega)
    rw [wch, show j + 1 - 1 - 0 = j by omega] at w0
    have st' : o_X9_isName_31 N (nI st) mt (m + 1) 1 L (nI (j + 1) - 1) = if B (st + j) = w j then o_X9_isName_31 N (nI st) mt m 1 (L >>> (Int32.toInt64 5 &&& 63)) (nI j - 1) else some 0 := by
      rw [o_X9_isName_31]
      dsimp only
      rw [show nI (j + 1) - 1 = nI j from nI_pred j, if_neg (nlt0 (by omega)), if_neg (by decide), nI_add, ogd_t (inb_ok (by omega) (by omega)), cl_nI (by omega), c.2.1, w0, ifeq (by omega) (by omega), o_X9_isName_71, o_X9_isName_71, nI_m1, m_name_0 (by omega)]
    rw [st']
    by_cases e : B (st + j) = w j
    · rw [if_pos e]
      refine ⟨fun a => g1 (fun q b => a q (by omega)), fun ⟨q, b1, b3⟩ => g2 ⟨q, ?_, b3⟩⟩
      rcases Nat.lt_or_ge q j with z | z
      · exact z
      · have : q = j := by omega
        subst this
        exact absurd e b3
    · rw [if_neg e]
      exact ⟨fun a => absurd (a j (by omega)) e, fun _ => rfl⟩
theorem m_isName (h : BY n x mt B) (hN : 201 < N) (hs : si < 6) (ht : t ≤ 4) (h1 : st ≤ en) (h2 : en ≤ n) {L : Int64} {len : Int32} (hl : len = nI (wl si)) (hc : ∀ k, k < wl si → wch L k = nI (wv si (wl si - 1 - k))) : (WD B t st en si → o_X9_isName N (nI st) (nI (en - st)) (nI t) mt L len = some 1) ∧ (¬ WD B t st en si → o_X9_isName N (nI st) (nI (en - st)) (nI t) mt L len = some 0) := by
  have h200 := h.1
  have b7 := wl_b si hs
  subst hl
  have s0 : o_X9_isName N (nI st) (nI (en - st)) (nI t) mt L (nI (wl si)) = if t = 1 then (if en - st = wl si then o_X9_isName_31 N (nI st) mt N 1 L (nI (wl si) - 1) else some 0) else some 0 := by
    rw [o_X9_isName, l1_, ifeq (by omega) (by omega), ifeq (by omega) (by omega), o_X9_isName_20, o_X9_isName_21, o_X9_isName_21, m_name_0 (by omega)]
    rfl
  rw [s0]
  by_cases e : t = 1
  · rw [if_pos e]
    by_cases f : en - st = wl si
    · rw [if_pos f]
      obtain ⟨g1, g2⟩ := m_name_31 (N := N) (st := st) h (w := wv si) (fun q hq => wd_b si hs q hq) (wl si) N L b7 (by omega) (by omega) hc
      refine ⟨fun w => g1 (fun q hq => w.2.2 q hq), fun w => g2 ?_⟩
      obtain ⟨q, _, a, b⟩ := nWD e f w
      exact ⟨q, a, b⟩
    · rw [if_neg f]
      exact ⟨fun w => absurd w.2.1 f, fun _ => rfl⟩
  · rw [if_neg e]
    exact ⟨fun w => absurd w.1 e, fun _ => rfl⟩
end WORDS
abbrev lt4 (a b c d : Int32) : Int64 := ((((((((Int32.toInt64 a) - 96) <<< (Int32.toInt64 5 &&& 63)) ||| ((Int32.toInt64 b) - 96)) <<< (Int32.toInt64 5 &&& 63)) ||| ((Int32.toInt64 c) - 96)) <<< (Int32.toInt64 5 &&& 63)) ||| ((Int32.toInt64 d) - 96))
theorem code0 : ∀ k, k < wl 0 → wch (((lt4 112 108 97 121 <<< (Int32.toInt64 10 &&& 63)) ||| 160) ||| 18) k = nI (wv 0 (wl 0 - 1 - k)) := by decide +kernel
theorem code1 : ∀ k, k < wl 1 → wch 2553 k = nI (wv 1 (wl 1 - 1 - k)) := by decide +kernel
theorem code2 : ∀ k, k < wl 2 → wch (((lt4 115 116 101 97 <<< (Int32.toInt64 10 &&& 63)) ||| 128) ||| 25) k = nI (wv 2 (wl 2 - 1 - k)) := by decide +kernel
theorem code3 : ∀ k, k < wl 3 → wch ((((lt4 116 101 97 99 <<< (Int32.toInt64 15 &&& 63)) ||| 8192) ||| 160) ||| 18) k = nI (wv 3 (wl 3 - 1 - k)) := by decide +kernel
theorem code4 : ∀ k, k < wl 4 → wch (((lt4 109 105 114 114 <<< (Int32.toInt64 10 &&& 63)) ||| 480) ||| 18) k = nI (wv 4 (wl 4 - 1 - k)) := by decide +kernel
theorem code5 : ∀ k, k < wl 5 → wch 19993 k = nI (wv 5 (wl 5 - 1 - k)) := by decide +kernel
section WORDS2
variable {N n : Nat} {x mt : Nat → Int32} {B : Nat → Nat} {t st en : Nat}
theorem m_letters {a b c d : Int32} : o_X9_letters N a b c d = some (lt4 a b c d) := by rw [o_X9_letters]
theorem m_player (h : BY n x mt B) (hN : 201 < N) (ht : t ≤ 4) (h1 : st ≤ en) (h2 : en ≤ n) : (WD B t st en 0 → o_X9_isPlayerWord N (nI st) (nI (en - st)) (nI t) mt = some 1) ∧ (¬ WD B t st en 0 → o_X9_isPlayerWord N (nI st) (nI (en - st)) (nI t) mt = some 0) := by
  obtain ⟨g1, g2⟩ := m_isName h hN (si := 0) (by omega) ht h1 h2 (len := 6) rfl code0
  refine ⟨fun w => ?_, fun w => ?_⟩
  · rw [o_X9_isPlayerWord, m_letters, Option.bind_some, g1 w, Option.bind_some, ogd_t (by decide)]
  · rw [o_X9_isPlayerWord, m_letters, Option.bind_some, g2 w, Option.bind_some, ogd_t (by decide)]
theorem s_sort (h : BY n x mt B) (hN : 201 < N) (ht : t ≤ 4) (h1 : st ≤ en) (h2 : en ≤ n) : ∃ r, r ≤ 5 ∧ o_X4_sortRead N (nI t) (nI st) (nI en) (nI n) x = some (nI r) ∧ o_X9_sortOf N (nI st) (nI (en - st)) (nI t) mt = some (nI r) := by
  have X := fun si (hs : si < 6) => x_isWord h hN hs ht h1 h2
  have M1 := m_isName h hN (si := 1) (by omega) ht h1 h2 (len := 3) rfl code1
  have M2 := m_isName h hN (si := 2) (by omega) ht h1 h2 (len := 6) rfl code2
  have M3 := m_isName h hN (si := 3) (by omega) ht h1 h2 (len := 7) rfl code3
  have M4 := m_isName h hN (si := 4) (by omega) ht h1 h2 (len := 6) rfl code4
  have M5 := m_isName h hN (si := 5) (by omega) ht h1 h2 (len := 3) rfl code5
  have no : ∀ a b, ¬ wl a = wl b → WD B t st en a → ¬ WD B t st en b := fun a b q w z => q (by rw [← w.2.1, z.2.1])
  rw [o_X4_sortRead, o_X9_sortOf, m_letters, m_letters, m_letters, Option.bind_some, Option.bind_some, Option.bind_some]
  by_cases w1 : WD B t st en 1
  · exact ⟨1, by omega, by rw [(X 1 (by omega)).1 w1, Option.bind_some, if_neg (by decide)]; rfl, by rw [M1.1 w1, Option.bind_some, if_neg (by decide)]; rfl⟩
  · rw [(X 1 (by omega)).2 w1, M1.2 w1, Option.bind_some, if_pos rfl, Option.bind_some, if_pos rfl]
    by_cases w5 : WD B t st en 5
    · rw [(X 2 (by omega)).2 (no 5 2 (by decide) w5), (X 3 (by omega)).2 (no 5 3 (by decide) w5), (X 4 (by omega)).2 (no 5 4 (by decide) w5), (X 5 (by omega)).1 w5, M5.1 w5]
      exact ⟨5, by omega, rfl, rfl⟩
    · rw [(X 5 (by omega)).2 w5, M5.2 w5]
      by_cases w2 : WD B t st en 2
      · rw [(X 2 (by omega)).1 w2, M2.1 w2]
        exact ⟨2, by omega, rfl, rfl⟩
      · rw [(X 2 (by omega)).2 w2, M2.2 w2]
        by_cases w4 : WD B t st en 4
        · rw [(X 3 (by omega)).2 (no 4 3 (by decide) w4), (X 4 (by omega)).1 w4, M4.1 w4]
          exact ⟨4, by omega, rfl, rfl⟩
        · rw [(X 4 (by omega)).2 w4, M4.2 w4]
          by_cases w3 : WD B t st en 3
          · rw [(X 3 (by omega)).1 w3, M3.1 w3]
            exact ⟨3, by omega, rfl, rfl⟩
          · rw [(X 3 (by omega)).2 w3, M3.2 w3]
            exact ⟨0, by omega, rfl, rfl⟩
end WORDS2
