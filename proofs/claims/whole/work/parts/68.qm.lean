/-! PURE PART QM: the model's search; fewest -/
theorem p3 : ∀ j, j < 9 → 3 ^ j ≤ 6561 := by decide +kernel
theorem rem3 {x : Nat} (h : x < 100000) : nI x - nI x / 3 * 3 = nI (x % 3) := pk_rem (a := x) (d := 3) (by omega) (by omega) (by omega)
theorem div3 {x : Nat} (h : x < 100000) : nI x / 3 = nI (x / 3) := pk_div (a := x) (d := 3) (by omega) (by omega) (by omega)
/-- hands laid on those below j -/
abbrev ly (d e : Nat → Nat) (j : Nat) : Nat → Nat := fun q => if q < j then d q else e q
theorem ly_s (d e : Nat → Nat) (j : Nat) : ly d (up2 e j (d j)) j = ly d e (j + 1) := by
  funext q
  unfold ly up2
  by_cases a : q < j
  · rw [if_pos a, if_pos (by omega)]
  · rw [if_neg a]
    by_cases b : q = j
    · subst b; rw [if_pos rfl, if_pos (by omega)]
    · rw [if_neg b, if_neg (by omega)]
section SEARCH
variable {N n p : Nat} {k d0 : Nat → Nat} {fo : (Nat → Nat) × Int32 × Int32} {v w0 : Nat → Int32}
theorem m_lay_12 {d : Nat → Nat} (hn : n ≤ 8) (hd : ∀ q, d q < 3) (hk : ∀ q, q < 8 → k q ≤ 5 ∧ fo.1 q < 8) (hv : ∀ q, q < 8 → v (9 + q) = nI (d0 q) ∧ d0 q < 3) : ∀ j m (w : Nat → Int32) (e : Nat → Nat) (acc : Nat), j < m → j ≤ n → (∀ q, q < 8 → e q < 3) → MR w n k (e, fo) →
    ∃ w', o_X9_layHands_12 N v m w (nI (cd d j)) (nI acc) (nI j - 1) = some (nI (acc + co fo.1 d0 d j), w') ∧ MR w' n k (ly d e j, fo) := by
  intro j
  induction j with
  | zero =>
    intro m w e acc h1 h2 h4 h5
    obtain ⟨m, rfl⟩ := mem_succ h1
    refine ⟨w, ?_, ?_⟩
    · rw [o_X9_layHands_12]
      dsimp only
      rw [if_pos (show nI 0 - 1 < 0 by decide)]
      rfl
    · have : ly d e 0 = e := by funext q; unfold ly; rw [if_neg (by omega)]
      rw [this]; exact h5
  | succ j ih =>
    intro m w e acc h1 h2 h4 h5
    obtain ⟨m, rfl⟩ := mem_succ h1
    have cl := cd_lt hd (j + 1)
    have c3 := p3 (j + 1) (by omega)
    have dj := hd j
    obtain ⟨v1, v2⟩ := hv j (by omega)
    have hb : HB n k e fo.1 := ⟨hn, fun q hq => ⟨(hk q hq).1, h4 q hq, (hk q hq).2⟩⟩
    have h5' : MR (upd w (9 + j) (nI (d j))) n k (up2 e j (d j), fo) := ⟨MA_d h5.1 (by omega), by rw [upd_ne (by omega)]; exact h5.2.1, by rw [upd_ne (by omega)]; exact h5.2.2⟩
    have gi : inb (nI (9 + j)) 27 = true := inb_ok (by omega) (by omega)
    have cost : ∀ x, x = (if d j = d0 j then 0 else if fo.1 j = j then 1 else 100) → ∃ w', o_X9_layHands_61 N (o_X9_layHands_12 N v m) w v (nI (cd d j)) (nI j) (nI (d j)) (nI acc) (nI x) = some (nI (acc + co fo.1 d0 d (j + 1)), w') ∧ MR w' n k (ly d e (j + 1), fo) := by
      intro x e1
      obtain ⟨w', g1, g2⟩ := ih m (upd w (9 + j) (nI (d j))) (up2 e j (d j)) (acc + x) (by omega) (by omega) (fun q hq => by unfold up2; split; exact dj; exact h4 q hq) h5'
      rw [ly_s] at g2
      refine ⟨w', ?_, g2⟩
      rw [o_X9_layHands_61, l9_, nI_add, ogd_t gi, cl_nI (by omega), nI_add, nI_m1, g1, co, ← e1, Nat.add_assoc, Nat.add_comm x]
    have st : o_X9_layHands_12 N v (m + 1) w (nI (cd d (j + 1))) (nI acc) (nI (j + 1) - 1) = if d j = d0 j then o_X9_layHands_61 N (o_X9_layHands_12 N v m) w v (nI (cd d j)) (nI j) (nI (d j)) (nI acc) (nI 0) else if fo.1 j = j then o_X9_layHands_61 N (o_X9_layHands_12 N v m) w v (nI (cd d j)) (nI j) (nI (d j)) (nI acc) (nI 1) else o_X9_layHands_61 N (o_X9_layHands_12 N v m) w v (nI (cd d j)) (nI j) (nI (d j)) (nI acc) (nI 100) := by
      have lead := p_X9_leads_if (N := N) (p := j) h5.1 hb (by omega) (α := Int32 × (Nat → Int32)) (fun r49 => if r49 = 0 then o_X9_layHands_61 N (o_X9_layHands_12 N v m) w v (nI (cd d j)) (nI j) (nI (d j)) (nI acc) 100 else o_X9_layHands_61 N (o_X9_layHands_12 N v m) w v (nI (cd d j)) (nI j) (nI (d j)) (nI acc) 1) (fun r => rfl)
      rw [o_X9_layHands_12]
      dsimp only
      rw [show nI (j + 1) - 1 = nI j from nI_pred j, if_neg (nlt0 (by omega)), l9_, nI_add, ogd_t gi, rem3 (by omega), div3 (by omega), cl_nI (by omega), v1, cd, show (3 * cd d j + d j) % 3 = d j by omega, show (3 * cd d j + d j) / 3 = cd d j by omega, ifeq (by omega) (by omega), lead]
      rfl
    rw [st]
    by_cases a : d j = d0 j
    · rw [if_pos a]; exact cost 0 (by rw [if_pos a])
    · rw [if_neg a]
      by_cases b : fo.1 j = j
      · rw [if_pos b]; exact cost 1 (by rw [if_neg a, if_pos b])
      · rw [if_neg b]; exact cost 100 (by rw [if_neg a, if_neg b])
theorem m_copy_58 {K34 : Int32 → Int32 → Int32 → Int32 → Int32 → (Nat → Int32) → (Nat → Int32) → (Nat → Int32) → (Nat → Int32) → (Nat → Int32) → Int32 → Option (Int32 × Int32 × Int32 × Int32 × Int32 × (Nat → Int32) × (Nat → Int32) × (Nat → Int32) × (Nat → Int32) × (Nat → Int32) × (Nat → Int32))} {t1 t2 t3 t4 fs l1 l2 l3 l4 : Int32} {w I E bh : Nat → Int32} {k' d f : Nat → Nat} (hn : n ≤ 8) (hM : MA w n k' d f) : ∀ j i m (cp : Nat → Int32), i + j = n → j < m → (∀ q, q < i → cp q = w (9 + q)) →
    ∃ cp', o_X9_findFewest_58 N K34 t1 t2 t3 t4 fs w v I E bh l1 l2 l3 l4 m cp (nI i) = Option.bind (o_X9_goLeft N t1 t2 t3 t4 w I E) (fun r91 => o_X9_findFewest_99 N K34 r91.2.1 r91.2.2.1 r91.2.2.2.1 r91.2.2.2.2.1 fs r91.2.2.2.2.2.1 v cp' r91.2.2.2.2.2.2.1 r91.2.2.2.2.2.2.2 l1 l2 l3 l4 r91.1 N bh 0) ∧ ∀ q, q < n → cp' q = w (9 + q) := by
  intro j
  induction j with
  | zero =>
    intro i m cp h1 h2 h3
    obtain ⟨m, rfl⟩ := mem_succ h2
    refine ⟨cp, ?_, fun q hq => h3 q (by omega)⟩
    rw [o_X9_findFewest_58]
    dsimp only
    rw [p_X9_players hM, Option.bind_some, ifle (by omega) (by omega), if_pos (by omega)]
  | succ j ih =>
    intro i m cp h1 h2 h3
    obtain ⟨m, rfl⟩ := mem_succ h2
    obtain ⟨cp', g1, g2⟩ := ih (i + 1) m (upd cp i (w (9 + i))) (by omega) (by omega) (fun q hq => by
      by_cases e : q = i
      · subst e; exact upd_eq _ _ _
      · rw [upd_ne e]; exact h3 q (by omega))
    refine ⟨cp', ?_, g2⟩
    rw [o_X9_findFewest_58]
    dsimp only
    rw [p_X9_players hM, Option.bind_some, ifle (by omega) (by omega), if_neg (by omega), l9_, nI_add, ogd_t (inb_ok (by omega) (by omega)), ogd_t (inb_ok (by omega) (by omega)), cl_nI (by omega), cl_nI (by omega), nI_1]
    exact g1
theorem m_copy_99 {K34 : Int32 → Int32 → Int32 → Int32 → Int32 → (Nat → Int32) → (Nat → Int32) → (Nat → Int32) → (Nat → Int32) → (Nat → Int32) → Int32 → Option (Int32 × Int32 × Int32 × Int32 × Int32 × (Nat → Int32) × (Nat → Int32) × (Nat → Int32) × (Nat → Int32) × (Nat → Int32) × (Nat → Int32))} {t1 t2 t3 t4 fs l1 l2 l3 l4 : Int32} {w I E cp : Nat → Int32} {k' d f : Nat → Nat} (hn : n ≤ 8) (hM : MA w n k' d f) : ∀ j i m (bh : Nat → Int32), i + j = n → j < m → (∀ q, q < i → bh q = cp q) →
    ∃ bh', o_X9_findFewest_99 N K34 t1 t2 t3 t4 fs w v cp I E l1 l2 l3 l4 l1 m bh (nI i) = o_X9_findFewest_134 N K34 t1 t2 t3 t4 fs w v cp I E bh' l1 l2 l3 l4 l1 ∧ ∀ q, q < n → bh' q = cp q := by
  intro j
  induction j with
  | zero =>
    intro i m bh h1 h2 h3
    obtain ⟨m, rfl⟩ := mem_succ h2
    refine ⟨bh, ?_, fun q hq => h3 q (by omega)⟩
    rw [o_X9_findFewest_99]
    dsimp only
    rw [p_X9_players hM, Option.bind_some, ifle (by omega) (by omega), if_pos (by omega)]
  | succ j ih =>
    intro i m bh h1 h2 h3
    obtain ⟨m, rfl⟩ := mem_succ h2
    obtain ⟨bh', g1, g2⟩ := ih (i + 1) m (upd bh i (cp i)) (by omega) (by omega) (fun q hq => by
      by_cases e : q = i
      · subst e; exact upd_eq _ _ _
      · rw [upd_ne e]; exact h3 q (by omega))
    refine ⟨bh', ?_, g2⟩
    rw [o_X9_findFewest_99]
    dsimp only
    rw [p_X9_players hM, Option.bind_some, ifle (by omega) (by omega), if_neg (by omega), if_pos rfl, ogd_t (inb_ok (by omega) (by omega)), ogd_t (inb_ok (by omega) (by omega)), cl_nI (by omega), nI_1]
    exact g1
theorem m_copy_99n {K34 : Int32 → Int32 → Int32 → Int32 → Int32 → (Nat → Int32) → (Nat → Int32) → (Nat → Int32) → (Nat → Int32) → (Nat → Int32) → Int32 → Option (Int32 × Int32 × Int32 × Int32 × Int32 × (Nat → Int32) × (Nat → Int32) × (Nat → Int32) × (Nat → Int32) × (Nat → Int32) × (Nat → Int32))} {t1 t2 t3 t4 fs l1 l2 l3 l4 l5 : Int32} {w I E cp bh : Nat → Int32} {k' d f : Nat → Nat} (hn : n ≤ 8) (hM : MA w n k' d f) (h : ¬ l5 = l1) {m : Nat} (hm : 0 < m) :
    o_X9_findFewest_99 N K34 t1 t2 t3 t4 fs w v cp I E l1 l2 l3 l4 l5 m bh 0 = o_X9_findFewest_134 N K34 t1 t2 t3 t4 fs w v cp I E bh l1 l2 l3 l4 l5 := by
  obtain ⟨m, rfl⟩ := mem_succ hm
  rw [o_X9_findFewest_99]
  dsimp only
  rw [p_X9_players hM, Option.bind_some, if_neg h, ite_self]
/-- with these hands p is left -/
def WIN (n : Nat) (k d0 : Nat → Nat) (fo : (Nat → Nat) × Int32 × Int32) (p : Nat) (d : Nat → Nat) : Prop := (toE n k 8 (ly d d0 n, fo)).2.1 0 = p
def GOOD (n : Nat) (k d0 : Nat → Nat) (fo : (Nat → Nat) × Int32 × Int32) (p : Nat) (d : Nat → Nat) : Prop := co fo.1 d0 d n < 100 ∧ WIN n k d0 fo p d
theorem co_congr {f d d' : Nat → Nat} : ∀ j, (∀ q, q < j → d q = d' q) → co f d0 d j = co f d0 d' j
  | 0, _ => rfl
  | j + 1, h => by rw [co, co, co_congr j (fun q hq => h q (by omega)), h j (by omega)]
theorem WIN_congr {d d' : Nat → Nat} (h : ∀ q, q < n → d q = d' q) : WIN n k d0 fo p d ↔ WIN n k d0 fo p d' := by
  have : ly d d0 n = ly d' d0 n := by
    funext q
    unfold ly
    split
    · exact h q (by assumption)
    · rfl
  unfold WIN
  rw [this]
theorem m_code {d : Nat → Nat} {F : Nat} (hN : 6999 < N) (hp : p < 8) (hd : ∀ q, d q < 3) (hM : MR w0 n k (d0, fo)) (hb : RB n k (d0, fo)) (hv : ∀ q, q < 27 → v q = w0 q) (hF : F ≤ 100) {L2 : Nat} (hL : cd d n < L2) (hL2 : L2 ≤ 6561) {m : Nat} {t1 t2 t3 t4 : Int32} {w cp I E bh : Nat → Int32} (hw : ∀ q, q < 27 → w q = w0 q) :
    ∃ t1' t2' t3' t4' F' w' cp' I' E' bh', o_X9_findFewest_34 N v (nI p) (nI L2) (m + 1) t1 t2 t3 t4 (nI F) w cp I E bh (nI (cd d n)) = o_X9_findFewest_34 N v (nI p) (nI L2) m t1' t2' t3' t4' (nI F') w' cp' I' E' bh' (nI (cd d n + 1)) ∧ (∀ q, q < 27 → w' q = w0 q) ∧
      ((F ≤ co fo.1 d0 d n ∨ ¬ WIN n k d0 fo p d) → F' = F ∧ bh' = bh) ∧ ((¬ F ≤ co fo.1 d0 d n ∧ WIN n k d0 fo p d) → F' = co fo.1 d0 d n ∧ ∀ q, q < n → bh' q = nI (d q)) := by
  have hn := hb.1.1
  have cc := co_le (f := fo.1) (d0 := d0) (d := d) n
  have hMw : MR w n k (d0, fo) := MR_eq hM hw
  have hk : ∀ q, q < 8 → k q ≤ 5 ∧ fo.1 q < 8 := fun q hq => ⟨(hb.1.2 q hq).1, (hb.1.2 q hq).2.2⟩
  obtain ⟨w1, y1, y2⟩ := m_lay_12 (N := N) (d0 := d0) (v := v) (d := d) hn hd hk (fun q hq => ⟨by rw [hv _ (by omega)]; exact (hM.1.2 q hq).2.1, (hb.1.2 q hq).2.1⟩) n N w d0 0 (by omega) (Nat.le_refl n) (fun q hq => (hb.1.2 q hq).2.1) hMw
  rw [Nat.zero_add] at y1
  have lay : o_X9_layHands N w v (nI (cd d n)) = some (nI (co fo.1 d0 d n), w1) := by
    rw [o_X9_layHands, p_X9_players hMw.1, Option.bind_some, l0]; exact y1
  have b34 : o_X9_findFewest_34 N v (nI p) (nI L2) (m + 1) t1 t2 t3 t4 (nI F) w cp I E bh (nI (cd d n)) = if F ≤ co fo.1 d0 d n then o_X9_findFewest_153 N (o_X9_findFewest_34 N v (nI p) (nI L2) m) t1 t2 t3 t4 (nI F) w1 v cp I E bh (nI p) (nI L2) (nI (cd d n)) else o_X9_findFewest_58 N (o_X9_findFewest_34 N v (nI p) (nI L2) m) t1 t2 t3 t4 (nI F) w1 v I E bh (nI p) (nI L2) (nI (cd d n)) (nI (co fo.1 d0 d n)) N cp 0 := by
    rw [o_X9_findFewest_34]
    dsimp only
    rw [ifle (by omega) (by omega), if_neg (by omega), lay, Option.bind_some, ifle (by omega) (by omega)]
  rw [b34]
  by_cases e1 : F ≤ co fo.1 d0 d n
  · obtain ⟨w2, u1, u2⟩ := p_back (N := N) (w := v) (A := w1) (by omega)
    rw [if_pos e1, o_X9_findFewest_153, u1, Option.bind_some, nI_1]
    exact ⟨t1, t2, t3, t4, F, w2, cp, I, E, bh, rfl, fun q hq => by rw [u2 q hq, hv q hq], fun _ => ⟨rfl, rfl⟩, fun q => absurd e1 q.1⟩
  · have rb : RB n k (ly d d0 n, fo) := ⟨⟨hn, fun q hq => ⟨(hk q hq).1, by show (if q < n then d q else d0 q) < 3; split; exact hd q; exact (hb.1.2 q hq).2.1, (hk q hq).2⟩⟩, hb.2⟩
    obtain ⟨cp', z1, z2⟩ := m_copy_58 (N := N) (v := v) (K34 := o_X9_findFewest_34 N v (nI p) (nI L2) m) (t1 := t1) (t2 := t2) (t3 := t3) (t4 := t4) (fs := nI F) (l1 := nI p) (l2 := nI L2) (l3 := nI (cd d n)) (l4 := nI (co fo.1 d0 d n)) (I := I) (E := E) (bh := bh) hn y2.1 n 0 N cp (by omega) (by omega) (fun q hq => by omega)
    obtain ⟨a1, a2, a3, a4, w3, I1, E1, g1, g2⟩ := p_goLeft (N := N) (A := I) (E := E) (t1 := t1) (t2 := t2) (t3 := t3) (t4 := t4) (by omega) y2 rb
    have l8 := ((toE_ok (n := n) (k := k) 8 _ rb).1.1.2 0 (by omega)).2.2
    obtain ⟨w2, u1, u2⟩ := p_back (N := N) (w := v) (A := w3) (by omega)
    have hw2 : ∀ q, q < 27 → w2 q = w0 q := fun q hq => by rw [u2 q hq, hv q hq]
    have cpd : ∀ q, q < n → cp' q = nI (d q) := fun q hq => by
      rw [z2 q hq, (y2.1.2 q (by omega)).2.1]
      show nI (if q < n then d q else d0 q) = nI (d q)
      rw [if_pos hq]
    rw [if_neg e1, l0, z1, g1, Option.bind_some]
    dsimp only
    by_cases e2 : WIN n k d0 fo p d
    · have e2' : (toE n k 8 (ly d d0 n, fo)).2.1 0 = p := e2
      obtain ⟨bh', f1, f2⟩ := m_copy_99 (N := N) (v := v) (K34 := o_X9_findFewest_34 N v (nI p) (nI L2) m) (t1 := a1) (t2 := a2) (t3 := a3) (t4 := a4) (fs := nI F) (l1 := nI p) (l2 := nI L2) (l3 := nI (cd d n)) (l4 := nI (co fo.1 d0 d n)) (I := I1) (E := E1) (cp := cp') hn g2.1 n 0 N bh (by omega) (by omega) (fun q hq => by omega)
      rw [e2', l0, f1, o_X9_findFewest_134, if_pos rfl, o_X9_findFewest_150, o_X9_findFewest_153, u1, Option.bind_some, nI_1]
      exact ⟨a1, a2, a3, a4, _, w2, cp', I1, E1, bh', rfl, hw2, fun q => q.elim (fun z => absurd z e1) (fun z => absurd e2 z), fun _ => ⟨rfl, fun q hq => by rw [f2 q hq, cpd q hq]⟩⟩
    · have e2' : ¬ nI ((toE n k 8 (ly d d0 n, fo)).2.1 0) = nI p := fun q => e2 ((nI_eq (by omega) (by omega)).mp q)
      rw [m_copy_99n hn g2.1 e2' (by omega), o_X9_findFewest_134, if_neg e2', o_X9_findFewest_150, o_X9_findFewest_153, u1, Option.bind_some, nI_1]
      exact ⟨a1, a2, a3, a4, F, w2, cp', I1, E1, bh, rfl, hw2, fun _ => ⟨rfl, rfl⟩, fun q => absurd q.2 e2⟩
/-- the best so far -/
def BST (n : Nat) (k d0 : Nat → Nat) (fo : (Nat → Nat) × Int32 × Int32) (p c F : Nat) (bh : Nat → Int32) : Prop :=
  (F = 100 ∧ ∀ d, (∀ q, d q < 3) → cd d n < c → ¬ GOOD n k d0 fo p d) ∨ ∃ b, (∀ q, b q < 3) ∧ GOOD n k d0 fo p b ∧ F = co fo.1 d0 b n ∧ (∀ q, q < n → bh q = nI (b q)) ∧ cd b n < c ∧ ∀ d, (∀ q, d q < 3) → cd d n < c → GOOD n k d0 fo p d → F < co fo.1 d0 d n ∨ (F = co fo.1 d0 d n ∧ cd b n ≤ cd d n)
theorem m_search (hN : 6999 < N) (hp : p < 8) (hM : MR w0 n k (d0, fo)) (hb : RB n k (d0, fo)) (hv : ∀ q, q < 27 → v q = w0 q) : ∀ j c m (t1 t2 t3 t4 : Int32) (F : Nat) (w cp I E bh : Nat → Int32), c + j = 3 ^ n → j < m → F ≤ 100 → (∀ q, q < 27 → w q = w0 q) → BST n k d0 fo p c F bh →
    ∃ t1' t2' t3' t4' F' w' cp' I' E' bh', o_X9_findFewest_34 N v (nI p) (nI (3 ^ n)) m t1 t2 t3 t4 (nI F) w cp I E bh (nI c) = some (t1', t2', t3', t4', nI F', w', v, cp', I', E', bh') ∧ F' ≤ 100 ∧ (∀ q, q < 27 → w' q = w0 q) ∧ BST n k d0 fo p (3 ^ n) F' bh' := by
  have hn := hb.1.1
  have c3 := p3 n (by omega)
  intro j
  induction j with
  | zero =>
    intro c m t1 t2 t3 t4 F w cp I E bh h1 h2 h3 h4 h5
    obtain ⟨m, rfl⟩ := mem_succ h2
    refine ⟨t1, t2, t3, t4, F, w, cp, I, E, bh, ?_, h3, h4, by rw [show 3 ^ n = c by omega]; exact h5⟩
    rw [o_X9_findFewest_34]
    dsimp only
    rw [ifle (by omega) (by omega), if_pos (by omega)]
  | succ j ih =>
    intro c m t1 t2 t3 t4 F w cp I E bh h1 h2 h3 h4 h5
    obtain ⟨m, rfl⟩ := mem_succ h2
    obtain ⟨d, hd, rfl⟩ := cd_sur n c (by omega)
    obtain ⟨a1, a2, a3, a4, F', w', cp', I', E', bh', g1, g2, g3, g4⟩ := m_code (N := N) (m := m) (t1 := t1) (t2 := t2) (t3 := t3) (t4 := t4) (cp := cp) (I := I) (E := E) (bh := bh) (F := F) hN hp hd hM hb hv h3 (show cd d n < 3 ^ n by omega) c3 h4
    rw [g1]
    have eqd : ∀ d', (∀ q, d' q < 3) → cd d' n = cd d n → (co fo.1 d0 d' n = co fo.1 d0 d n) ∧ (GOOD n k d0 fo p d' ↔ GOOD n k d0 fo p d) := by
      intro d' hd' e
      have q := cd_inj hd' hd n e
      have a := co_congr (f := fo.1) (d0 := d0) n q
      refine ⟨a, ?_⟩
      unfold GOOD
      rw [a, WIN_congr q]
    by_cases upg : ¬ F ≤ co fo.1 d0 d n ∧ WIN n k d0 fo p d
    · obtain ⟨e1, e2⟩ := g4 upg
      refine ih (cd d n + 1) m a1 a2 a3 a4 F' w' cp' I' E' bh' (by omega) (by omega) (by omega) g2 (Or.inr ⟨d, hd, ⟨by omega, upg.2⟩, e1, e2, by omega, fun d' hd' hc hg => ?_⟩)
      by_cases z : cd d' n = cd d n
      · exact Or.inr ⟨by rw [e1, (eqd d' hd' z).1], by omega⟩
      · have hc' : cd d' n < cd d n := by omega
        rcases h5 with ⟨q1, q2⟩ | ⟨b, q1, q2, q3, q4, q5, q6⟩
        · exact absurd hg (q2 d' hd' hc')
        · have := q6 d' hd' hc' hg
          left; omega
    · have upg' : F ≤ co fo.1 d0 d n ∨ ¬ WIN n k d0 fo p d := by
        by_cases z : F ≤ co fo.1 d0 d n
        · exact Or.inl z
        · exact Or.inr (fun y => upg ⟨z, y⟩)
      obtain ⟨e1, e2⟩ := g3 upg'
      subst e1 e2
      refine ih (cd d n + 1) m a1 a2 a3 a4 F' w' cp' I' E' bh' (by omega) (by omega) h3 g2 ?_
      rcases h5 with ⟨q1, q2⟩ | ⟨b, q1, q2, q3, q4, q5, q6⟩
      · refine Or.inl ⟨q1, fun d' hd' hc hg => ?_⟩
        by_cases z : cd d' n = cd d n
        · have gd := (eqd d' hd' z).2.mp hg
          exact upg ⟨by have := gd.1; omega, gd.2⟩
        · exact q2 d' hd' (by omega) hg
      · refine Or.inr ⟨b, q1, q2, q3, q4, by omega, fun d' hd' hc hg => ?_⟩
        by_cases z : cd d' n = cd d n
        · have gd := (eqd d' hd' z).2.mp hg
          have ge : F' ≤ co fo.1 d0 d n := upg'.elim id (fun y => absurd gd.2 y)
          rw [(eqd d' hd' z).1]
          omega
        · exact q6 d' hd' (by omega) hg
theorem m_find_4 {t1 t2 t3 t4 : Int32} {w u cp I E bh : Nat → Int32} {x : Int32} {d f : Nat → Nat} (hn : n ≤ 8) (hM : MA w n k d f) : ∀ j i m, i + j = n → j < m → o_X9_findFewest_4 N t1 t2 t3 t4 w u cp I E bh x m (nI (3 ^ i)) (nI i) = Option.bind (o_X9_start N w u) (fun r29 => o_X9_findFewest_34 N r29 x (nI (3 ^ n)) N t1 t2 t3 t4 100 w cp I E bh 0) := by
  intro j
  induction j with
  | zero =>
    intro i m h1 h2
    obtain ⟨m, rfl⟩ := mem_succ h2
    rw [o_X9_findFewest_4]
    dsimp only
    rw [p_X9_players hM, Option.bind_some, ifle (by omega) (by omega), if_pos (by omega), show i = n by omega]
  | succ j ih =>
    intro i m h1 h2
    obtain ⟨m, rfl⟩ := mem_succ h2
    rw [o_X9_findFewest_4]
    dsimp only
    rw [p_X9_players hM, Option.bind_some, ifle (by omega) (by omega), if_neg (by omega), nI_1, l3_, pk_mul, ← Nat.pow_succ]
    exact ih (i + 1) m (by omega) (by omega)
theorem m_find {t1 t2 t3 t4 : Int32} {w u cp I E bh : Nat → Int32} (hN : 6999 < N) (hp : p < 8) (hM : MR w n k (d0, fo)) (hb : RB n k (d0, fo)) :
    ∃ t1' t2' t3' t4' F' w' u' cp' I' E' bh', o_X9_findFewest N t1 t2 t3 t4 w u cp I E bh (nI p) = some (t1', t2', t3', t4', nI F', w', u', cp', I', E', bh') ∧ F' ≤ 100 ∧ (∀ q, q < 27 → w' q = w q) ∧ BST n k d0 fo p (3 ^ n) F' bh' := by
  have hn := hb.1.1
  have c3 := p3 n (by omega)
  obtain ⟨v', v1, v2⟩ := p_start (N := N) (w := w) (A := u) (by omega)
  obtain ⟨a1, a2, a3, a4, F', w', cp', I', E', bh', g1, g2, g3, g4⟩ := m_search (N := N) (p := p) hN hp hM hb v2 (3 ^ n) 0 N t1 t2 t3 t4 100 w cp I E bh (by omega) (by omega) (by omega) (fun q _ => rfl) (Or.inl ⟨rfl, fun d _ h => by omega⟩)
  refine ⟨a1, a2, a3, a4, F', w', v', cp', I', E', bh', ?_, g2, g3, g4⟩
  have e := m_find_4 (N := N) (t1 := t1) (t2 := t2) (t3 := t3) (t4 := t4) (u := u) (cp := cp) (I := I) (E := E) (bh := bh) (x := nI p) hn hM.1 n 0 N (by omega) (by omega)
  rw [Nat.pow_zero] at e
  rw [o_X9_findFewest, l1_, l0, e, v1, Option.bind_some]
  exact g1
end SEARCH
