/-! PURE PART QF: rounds as lists of who leads, with hand and train -/
abbrev ent : Type := Nat × Nat × Nat
def out (k : Nat → Nat) (x y : ent) : ent :=
  if (crs (k x.1) x.2.1 (k y.1) y.2.1).1 = nx (crs (k x.1) x.2.1 (k y.1) y.2.1).2.1 then (x.1, (crs (k x.1) x.2.1 (k y.1) y.2.1).1, x.2.2 + y.2.2)
  else if (crs (k x.1) x.2.1 (k y.1) y.2.1).1 = (crs (k x.1) x.2.1 (k y.1) y.2.1).2.1 then
    (if x.2.2 < y.2.2 then (y.1, (crs (k x.1) x.2.1 (k y.1) y.2.1).2.1, x.2.2 + y.2.2) else (x.1, (crs (k x.1) x.2.1 (k y.1) y.2.1).1, x.2.2 + y.2.2))
  else (y.1, (crs (k x.1) x.2.1 (k y.1) y.2.1).2.1, x.2.2 + y.2.2)
def rl (k : Nat → Nat) : List ent → List ent
  | x :: y :: r => out k x y :: rl k r
  | [x] => [x]
  | [] => []
theorem out_t (k : Nat → Nat) (x y : ent) : (out k x y).2.2 = x.2.2 + y.2.2 := by
  unfold out; repeat' split
  all_goals rfl
theorem out_p (k : Nat → Nat) (x y : ent) : (out k x y).1 = x.1 ∨ (out k x y).1 = y.1 := by
  unfold out; repeat' split
  all_goals first | exact Or.inl rfl | exact Or.inr rfl
/-- the bout of the two, in a hall -/
theorem out_win {n a b : Nat} {k d f : Nat → Nat} (hab : a < b) : out k (a, d a, trn n f a) (b, d b, trn n f b) = (win n k d f a b, mD k d a b (win n k d f a b), trn n f a + trn n f b) := by
  unfold out win mD bc up2
  dsimp only
  generalize crs (k a) (d a) (k b) (d b) = c
  by_cases e1 : c.1 = nx c.2.1
  · rw [if_pos e1, if_pos e1, if_neg (by omega), if_pos rfl]
  · rw [if_neg e1, if_neg e1]
    by_cases e2 : c.1 = c.2.1
    · rw [if_pos e2, if_pos e2, if_pos hab]
      by_cases e3 : trn n f a < trn n f b
      · rw [if_pos e3, if_neg (by omega), if_neg (by omega), if_pos rfl]
      · rw [if_neg e3]
        by_cases e4 : trn n f a = trn n f b
        · rw [if_pos e4, if_neg (by omega), if_pos rfl]
        · rw [if_neg e4, if_pos (by omega), if_neg (by omega), if_pos rfl]
    · rw [if_neg e2, if_neg e2, if_pos rfl]
theorem cn_or {P Q R : Nat → Bool} : ∀ k i, (∀ j, i ≤ j → j < i + k → (R j = true ↔ P j = true ∨ Q j = true) ∧ ¬ (P j = true ∧ Q j = true)) → cn R i k = cn P i k + cn Q i k
  | 0, _, _ => rfl
  | k + 1, i, h => by
    rw [cn, cn, cn, cn_or k (i + 1) (fun j a b => h j (by omega) (by omega))]
    obtain ⟨h1, h2⟩ := h i (Nat.le_refl i) (by omega)
    by_cases p : P i = true
    · have q : ¬ Q i = true := fun q => h2 ⟨p, q⟩
      rw [if_pos p, if_neg q, if_pos (h1.mpr (Or.inl p))]; omega
    · by_cases q : Q i = true
      · rw [if_neg p, if_pos q, if_pos (h1.mpr (Or.inr q))]; omega
      · rw [if_neg p, if_neg q, if_neg (fun r => (h1.mp r).elim p q)]; omega
theorem jn_trn {n lo wi : Nat} {f : Nat → Nat} (h : lo ≠ wi) : trn n (jn n f lo wi) wi = trn n f wi + trn n f lo := by
  refine cn_or n 0 (fun j _ hj => ⟨?_, ?_⟩)
  · have hj' : j < n := by omega
    unfold jn
    by_cases e : f j = lo
    · rw [if_pos ⟨hj', e⟩]
      exact ⟨fun _ => Or.inr (beq_iff_eq.mpr e), fun _ => beq_iff_eq.mpr rfl⟩
    · rw [if_neg (fun q => e q.2)]
      exact ⟨fun q => Or.inl q, fun q => q.elim id (fun q => absurd (beq_iff_eq.mp q) e)⟩
  · rintro ⟨a, b⟩
    exact h ((beq_iff_eq.mp b).symm.trans (beq_iff_eq.mp a))
theorem bout_trn {n a b : Nat} {k d f : Nat → Nat} (hab : a ≠ b) : trn n (mF n k d f a b) (win n k d f a b) = trn n f a + trn n f b := by
  rcases lsr_or n k d f a b with ⟨h1, h2⟩ | ⟨h1, h2⟩
  · unfold mF; rw [h1, h2, jn_trn hab]; omega
  · unfold mF; rw [h1, h2, jn_trn hab.symm]
theorem bout_lead {n a b : Nat} {k d f : Nat → Nat} (hab : a ≠ b) (ha : a < n) (hb : b < n) (fa : f a = a) (fb : f b = b) : mF n k d f a b (win n k d f a b) = win n k d f a b ∧ ¬ mF n k d f a b (lsr n k d f a b) = lsr n k d f a b := by
  unfold mF jn
  rcases lsr_or n k d f a b with ⟨h1, h2⟩ | ⟨h1, h2⟩
  · rw [h1, h2]
    refine ⟨by rw [if_neg (fun q => by rw [fb] at q; exact hab q.2.symm)]; exact fb, ?_⟩
    rw [if_pos ⟨ha, fa⟩]; exact fun q => hab q.symm
  · rw [h1, h2]
    refine ⟨by rw [if_neg (fun q => by rw [fa] at q; exact hab q.2)]; exact fa, ?_⟩
    rw [if_pos ⟨hb, fb⟩]; exact hab
def Rep (n : Nat) (d f : Nat → Nat) (L : List ent) : Prop := ∀ x, x ∈ L → x.1 < n ∧ f x.1 = x.1 ∧ x.2.1 = d x.1 ∧ x.2.2 = trn n f x.1
def asc : List ent → Prop
  | [] => True
  | x :: r => (∀ y, y ∈ r → x.1 < y.1) ∧ asc r
theorem rl_mem {k : Nat → Nat} : ∀ (m : Nat) (L : List ent), L.length ≤ m → ∀ x, x ∈ rl k L → ∃ y, y ∈ L ∧ x.1 = y.1
  | _, [], _, x, h => by cases h
  | _, [y], _, x, h => ⟨x, h, rfl⟩
  | 0, _ :: _ :: _, hm, _, _ => by simp at hm
  | m + 1, a :: b :: r, hm, x, h => by
    rcases List.mem_cons.mp h with e | e
    · subst e
      rcases out_p k a b with q | q
      · exact ⟨a, List.mem_cons_self .., q⟩
      · exact ⟨b, List.mem_cons_of_mem _ (List.mem_cons_self ..), q⟩
    · obtain ⟨y, h1, h2⟩ := rl_mem m r (by simp at hm; omega) x e
      exact ⟨y, List.mem_cons_of_mem _ (List.mem_cons_of_mem _ h1), h2⟩
theorem rl_asc {k : Nat → Nat} : ∀ (m : Nat) (L : List ent), L.length ≤ m → asc L → asc (rl k L)
  | _, [], _, _ => trivial
  | _, [y], _, h => h
  | 0, _ :: _ :: _, hm, _ => by simp at hm
  | m + 1, a :: b :: r, hm, h => by
    obtain ⟨h1, h2, h3⟩ := h
    refine ⟨fun y hy => ?_, rl_asc m r (by simp at hm; omega) h3⟩
    obtain ⟨z, z1, z2⟩ := rl_mem m r (by simp at hm; omega) y hy
    rw [z2]
    rcases out_p k a b with q | q
    · rw [q]; exact h1 z (List.mem_cons_of_mem _ z1)
    · rw [q]; exact h2 z z1
theorem rnd_rl {n : Nat} {k : Nat → Nat} : ∀ (m : Nat) (L : List ent) (d f : Nat → Nat) (mx : Nat), L.length ≤ m → asc L → Rep n d f L →
    Rep n (rnd n k (L.map (·.1)) d f mx).1 (rnd n k (L.map (·.1)) d f mx).2.1 (rl k L) ∧
    (∀ q, (∀ x, x ∈ L → q ≠ x.1) → (rnd n k (L.map (·.1)) d f mx).1 q = d q ∧ ((rnd n k (L.map (·.1)) d f mx).2.1 q = q ↔ f q = q) ∧ trn n (rnd n k (L.map (·.1)) d f mx).2.1 q = trn n f q) ∧
    ∀ x, x ∈ L → (rnd n k (L.map (·.1)) d f mx).2.1 x.1 = x.1 → ∃ y, y ∈ rl k L ∧ y.1 = x.1
  | _, [], d, f, mx, _, _, h => ⟨h, fun q _ => ⟨rfl, Iff.rfl, rfl⟩, fun x hx => by cases hx⟩
  | _, [y], d, f, mx, _, _, h => ⟨h, fun q _ => ⟨rfl, Iff.rfl, rfl⟩, fun x hx _ => ⟨x, hx, rfl⟩⟩
  | 0, _ :: _ :: _, _, _, _, hm, _, _ => by simp at hm
  | m + 1, (a, da, ta) :: (b, db, tb) :: r, d, f, mx, hm, ha, h => by
    obtain ⟨h1, h2, h3⟩ := ha
    obtain ⟨a1, a2, a3, a4⟩ := h (a, da, ta) (List.mem_cons_self ..)
    obtain ⟨b1, b2, b3, b4⟩ := h (b, db, tb) (List.mem_cons_of_mem _ (List.mem_cons_self ..))
    dsimp only at a1 a2 a3 a4 b1 b2 b3 b4
    subst a3 a4 b3 b4
    have hab : a < b := h1 (b, d b, trn n f b) (List.mem_cons_self ..)
    have na : ∀ x, x ∈ r → a ≠ x.1 := fun x hx => by have := h1 x (List.mem_cons_of_mem _ hx); dsimp only at this; omega
    have nb : ∀ x, x ∈ r → b ≠ x.1 := fun x hx => by have := h2 x hx; dsimp only at this; omega
    have hr : Rep n (mD k d a b) (mF n k d f a b) r := by
      intro x hx
      obtain ⟨x1, x2, x3, x4⟩ := h x (List.mem_cons_of_mem _ (List.mem_cons_of_mem _ hx))
      have n1 := (na x hx).symm
      have n2 := (nb x hx).symm
      refine ⟨x1, (mF_lead n1 n2).mpr x2, ?_, by rw [mF_trn n1 n2]; exact x4⟩
      rw [x3]; unfold mD up2; rw [if_neg n2, if_neg n1]
    obtain ⟨g1, g2, g3⟩ := rnd_rl m r (mD k d a b) (mF n k d f a b) (max mx (bc k d a b).2.2) (by simp at hm; omega) h3 hr
    have ww := win_or n k d f a b
    have nw : ∀ x, x ∈ r → win n k d f a b ≠ x.1 := fun x hx => by
      rcases ww with e | e
      · rw [e]; exact na x hx
      · rw [e]; exact nb x hx
    obtain ⟨w1, w2, w3⟩ := g2 (win n k d f a b) nw
    obtain ⟨l1, l2⟩ := bout_lead (k := k) (d := d) (show a ≠ b by omega) a1 b1 a2 b2
    have wn : win n k d f a b < n := by rcases ww with e | e <;> rw [e] <;> assumption
    show Rep n (rnd n k (r.map (·.1)) (mD k d a b) (mF n k d f a b) (max mx (bc k d a b).2.2)).1 (rnd n k (r.map (·.1)) (mD k d a b) (mF n k d f a b) (max mx (bc k d a b).2.2)).2.1 (out k (a, d a, trn n f a) (b, d b, trn n f b) :: rl k r) ∧ _
    rw [out_win hab]
    refine ⟨fun x hx => ?_, fun q hq => ?_, fun x hx hf => ?_⟩
    · rcases List.mem_cons.mp hx with e | e
      · subst e
        exact ⟨wn, w2.mpr l1, w1.symm, by rw [w3, bout_trn (by omega)]⟩
      · exact g1 x e
    · have q1 : q ≠ a := hq (a, d a, trn n f a) (List.mem_cons_self ..)
      have q2 : q ≠ b := hq (b, d b, trn n f b) (List.mem_cons_of_mem _ (List.mem_cons_self ..))
      obtain ⟨y1, y2, y3⟩ := g2 q (fun x hx => hq x (List.mem_cons_of_mem _ (List.mem_cons_of_mem _ hx)))
      refine ⟨?_, y2.trans (mF_lead q1 q2), Eq.trans y3 (mF_trn q1 q2)⟩
      show (rnd n k (r.map (·.1)) (mD k d a b) (mF n k d f a b) (max mx (bc k d a b).2.2)).1 q = d q
      rw [y1]; unfold mD up2; rw [if_neg q2, if_neg q1]
    · rw [show rl k ((a, d a, trn n f a) :: (b, d b, trn n f b) :: r) = (win n k d f a b, mD k d a b (win n k d f a b), trn n f a + trn n f b) :: rl k r from by rw [← out_win hab]; rfl]
      have hf' : (rnd n k (r.map (·.1)) (mD k d a b) (mF n k d f a b) (max mx (bc k d a b).2.2)).2.1 x.1 = x.1 := hf
      have two : (x.1 = a ∨ x.1 = b) → ∃ y, y ∈ (win n k d f a b, mD k d a b (win n k d f a b), trn n f a + trn n f b) :: rl k r ∧ y.1 = x.1 := by
        intro hx'
        by_cases e : x.1 = win n k d f a b
        · exact ⟨_, List.mem_cons_self .., e.symm⟩
        · exfalso
          have xl : x.1 = lsr n k d f a b := by
            rcases lsr_or n k d f a b with ⟨z1, z2⟩ | ⟨z1, z2⟩
            · rw [z1]; rw [z2] at e; rcases hx' with q | q
              · exact q
              · exact absurd q e
            · rw [z1]; rw [z2] at e; rcases hx' with q | q
              · exact absurd q e
              · exact q
          have := (g2 x.1 (fun y hy => by rcases hx' with q | q <;> rw [q]; exact na y hy; exact nb y hy)).2.1.mp hf'
          rw [xl] at this
          exact l2 this
      rcases List.mem_cons.mp hx with e | e
      · exact two (Or.inl (by rw [e]))
      · rcases List.mem_cons.mp e with e | e
        · exact two (Or.inr (by rw [e]))
        · obtain ⟨y, y1, y2⟩ := g3 x e hf'
          exact ⟨y, List.mem_cons_of_mem _ y1, y2⟩
/-- the list of who leads is fixed by who leads -/
theorem ldl_uniq {f : Nat → Nat} : ∀ j i (L : List ent), asc L → (∀ x, x ∈ L → i ≤ x.1 ∧ x.1 < i + j ∧ f x.1 = x.1) → (∀ q, i ≤ q → q < i + j → f q = q → ∃ x, x ∈ L ∧ x.1 = q) → ldl f i j = L.map (·.1)
  | 0, i, L, _, h, _ => by
    cases L with
    | nil => rfl
    | cons x r => have := h x (List.mem_cons_self ..); omega
  | j + 1, i, L, ha, h1, h2 => by
    rw [ldl]
    by_cases e : f i = i
    · rw [if_pos e]
      obtain ⟨x, hx, hxi⟩ := h2 i (Nat.le_refl i) (by omega) e
      cases L with
      | nil => cases hx
      | cons y r =>
        have hy : y.1 = i := by
          rcases List.mem_cons.mp hx with q | q
          · rw [← q]; exact hxi
          · have a := ha.1 x q
            have b := (h1 y (List.mem_cons_self ..)).1
            omega
        rw [List.map_cons, hy, ldl_uniq j (i + 1) r ha.2 (fun z hz => by
          have a := ha.1 z hz
          have b := h1 z (List.mem_cons_of_mem _ hz)
          exact ⟨by omega, by omega, b.2.2⟩) (fun q a b c => by
          obtain ⟨z, z1, z2⟩ := h2 q (by omega) (by omega) c
          rcases List.mem_cons.mp z1 with g | g
          · rw [g] at z2; omega
          · exact ⟨z, g, z2⟩)]
    · rw [if_neg e]
      exact ldl_uniq j (i + 1) L ha (fun z hz => by
        obtain ⟨a, b, c⟩ := h1 z hz
        refine ⟨?_, by omega, c⟩
        rcases Nat.lt_or_ge i z.1 with g | g
        · exact g
        · have : z.1 = i := by omega
          rw [this] at c; exact absurd c e) (fun q a b c => h2 q (by omega) (by omega) c)
/-- the list that a hall shows -/
def TSt (n : Nat) (s : RS) (L : List ent) : Prop := Rep n s.1 s.2.1 L ∧ asc L ∧ ldl s.2.1 0 n = L.map (·.1)
theorem TSt_rstep {n : Nat} {k : Nat → Nat} {s : RS} {L : List ent} (h : TSt n s L) : TSt n (rstep n k s) (rl k L) := by
  obtain ⟨h1, h2, h3⟩ := h
  obtain ⟨g1, g2, g3⟩ := rnd_rl (n := n) (k := k) L.length L s.1 s.2.1 0 (Nat.le_refl _) h2 h1
  rw [← h3] at g1 g2 g3
  refine ⟨g1, rl_asc L.length L (Nat.le_refl _) h2, ldl_uniq n 0 _ (rl_asc L.length L (Nat.le_refl _) h2) (fun x hx => ?_) (fun q a b c => ?_)⟩
  · have := g1 x hx
    exact ⟨by omega, by omega, this.2.1⟩
  · by_cases e : ∃ x, x ∈ L ∧ x.1 = q
    · obtain ⟨x, x1, x2⟩ := e
      obtain ⟨y, y1, y2⟩ := g3 x x1 (by rw [x2]; exact c)
      exact ⟨y, y1, by rw [y2, x2]⟩
    · exfalso
      have c' := (g2 q (fun x hx z => e ⟨x, hx, z.symm⟩)).2.1.mp c
      have : q ∈ ldl s.2.1 0 n := by
        have mem : ∀ j i, i ≤ q → q < i + j → s.2.1 q = q → q ∈ ldl s.2.1 i j := by
          intro j
          induction j with
          | zero => intro i a b; omega
          | succ j ih =>
            intro i a b c
            rw [ldl]
            by_cases z : i = q
            · subst z; rw [if_pos c]; exact List.mem_cons_self ..
            · split
              · exact List.mem_cons_of_mem _ (ih (i + 1) (by omega) (by omega) c)
              · exact ih (i + 1) (by omega) (by omega) c
        exact mem n 0 (by omega) (by omega) c'
      rw [h3] at this
      obtain ⟨x, x1, x2⟩ := List.mem_map.mp this
      exact e ⟨x, x1, x2⟩
def itr (k : Nat → Nat) : Nat → List ent → List ent
  | 0, L => L
  | r + 1, L => rl k (itr k r L)
theorem itr_c {k : Nat → Nat} : ∀ r L, itr k r (rl k L) = rl k (itr k r L)
  | 0, _ => rfl
  | r + 1, L => by rw [itr, itr_c r L, itr]
theorem rl_1 {k : Nat → Nat} {L : List ent} (h : L.length ≤ 1) : rl k L = L := by
  match L, h with
  | [], _ => rfl
  | [x], _ => rfl
theorem itr_1 {k : Nat → Nat} {L : List ent} (h : L.length ≤ 1) : ∀ r, itr k r L = L
  | 0 => rfl
  | r + 1 => by rw [itr, itr_1 h r, rl_1 h]
theorem TSt_toE {n : Nat} {k : Nat → Nat} : ∀ j {s : RS} {L : List ent}, TSt n s L → TSt n (toE n k j s) (itr k j L)
  | 0, _, _, h => h
  | j + 1, s, L, h => by
    have e : lds n s.2.1 = L.length := by
      have := ldl_len (f := s.2.1) n 0
      rw [h.2.2, List.length_map] at this
      exact this.symm
    rw [toE]
    by_cases c : lds n s.2.1 ≤ 1
    · rw [if_pos c, itr_1 (by omega)]; exact h
    · rw [if_neg c, itr, ← itr_c]
      exact TSt_toE j (TSt_rstep h)
/-- the first list -/
def ini (n : Nat) (d f : Nat → Nat) : List ent := (ldl f 0 n).map (fun a => (a, d a, trn n f a))
theorem ini_map (n : Nat) (d f : Nat → Nat) : (ini n d f).map (·.1) = ldl f 0 n := by
  unfold ini; rw [List.map_map]; exact List.map_id _
theorem ldl_asc {f d t : Nat → Nat} : ∀ j i, asc ((ldl f i j).map (fun a => (a, d a, t a)))
  | 0, _ => trivial
  | j + 1, i => by
    rw [ldl]
    split
    · refine ⟨fun y hy => ?_, ldl_asc j (i + 1)⟩
      obtain ⟨a, a1, a2⟩ := List.mem_map.mp hy
      have := ldl_mem j (i + 1) a a1
      rw [← a2]; dsimp only; omega
    · exact ldl_asc j (i + 1)
theorem TSt_ini (n : Nat) (s : RS) : TSt n s (ini n s.1 s.2.1) := by
  refine ⟨fun x hx => ?_, ldl_asc n 0, (ini_map n s.1 s.2.1).symm⟩
  obtain ⟨a, a1, a2⟩ := List.mem_map.mp hx
  have := ldl_mem n 0 a a1
  subst a2
  exact ⟨by omega, this.2.2, rfl, rfl⟩
