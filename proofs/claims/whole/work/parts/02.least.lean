/-- a value of a tuple -/
def pq_sml (x : Int32) : Prop := -50 ≤ x ∧ x ≤ 50
theorem pq_sml_i {x : Int32} (h : pq_sml x) : -50 ≤ x.toInt ∧ x.toInt ≤ 50 := by
  have h1 := Int32.le_iff_toInt_le.mp h.1
  have h2 := Int32.le_iff_toInt_le.mp h.2
  rw [show (-50 : Int32).toInt = -50 by decide] at h1
  rw [show (50 : Int32).toInt = 50 by decide] at h2
  exact ⟨h1, h2⟩
theorem pq_mulb {A B : Int} (a1 : -50 ≤ A) (a2 : A ≤ 50) (b1 : -50 ≤ B) (b2 : B ≤ 50) : -2500 ≤ A * B ∧ A * B ≤ 2500 := by
  have h1 : 0 ≤ (50 - A) * (50 + B) := Int.mul_nonneg (by omega) (by omega)
  have h2 : 0 ≤ (50 + A) * (50 - B) := Int.mul_nonneg (by omega) (by omega)
  have h3 : 0 ≤ (50 - A) * (50 - B) := Int.mul_nonneg (by omega) (by omega)
  have h4 : 0 ≤ (50 + A) * (50 + B) := Int.mul_nonneg (by omega) (by omega)
  have e1 : (50 - A) * (50 + B) = 2500 + 50 * B - 50 * A - A * B := by grind
  have e2 : (50 + A) * (50 - B) = 2500 - 50 * B + 50 * A - A * B := by grind
  have e3 : (50 - A) * (50 - B) = 2500 - 50 * B - 50 * A + A * B := by grind
  have e4 : (50 + A) * (50 + B) = 2500 + 50 * B + 50 * A + A * B := by grind
  rw [e1] at h1
  rw [e2] at h2
  rw [e3] at h3
  rw [e4] at h4
  generalize A * B = C at h1 h2 h3 h4
  omega
theorem pq_sml_mul {x y : Int32} (h : pq_sml x) (h' : pq_sml y) : -2500 ≤ (x * y).toInt ∧ (x * y).toInt ≤ 2500 := by
  have a := pq_sml_i h
  have b := pq_sml_i h'
  have c := pq_mulb a.1 a.2 b.1 b.2
  rw [Int32.toInt_mul]
  generalize x.toInt * y.toInt = C at c
  rw [Int.bmod_eq_of_le (by omega) (by omega)]
  exact c
theorem pq_sml_hi {x y : Int32} (h : pq_sml x) (h' : pq_sml y) : x * y < 10000 := by
  rw [Int32.lt_iff_toInt_lt, show (10000 : Int32).toInt = 10000 by decide]
  have := pq_sml_mul h h'
  omega
theorem pq_sml_lo {x y : Int32} (h : pq_sml x) (h' : pq_sml y) : -10000 < x * y := by
  rw [Int32.lt_iff_toInt_lt, show (-10000 : Int32).toInt = -10000 by decide]
  have := pq_sml_mul h h'
  omega
/-- the least scan over the second stream's tuples, for a tuple a of the first -/
def pq_MIi (k : Int32) (a : Int32 × Int32) : Int32 → List (Int32 × Int32) → Int32
  | x, [] => x
  | x, b :: l => pq_MIi k a (if a.1 = k ∧ b.1 = k ∧ a.2 * b.2 < x then a.2 * b.2 else x) l
def pq_MIo (k : Int32) (l1 : List (Int32 × Int32)) : Int32 → List (Int32 × Int32) → Int32
  | x, [] => x
  | x, a :: l => pq_MIo k l1 (pq_MIi k a x l1) l
theorem pq_MIi_n (k : Int32) (a : Int32 × Int32) (x : Int32) : pq_MIi k a x [] = x := by rw [pq_MIi]
theorem pq_MIi_c (k : Int32) (a b : Int32 × Int32) (x : Int32) (l : List (Int32 × Int32)) : pq_MIi k a x (b :: l) = pq_MIi k a (if a.1 = k ∧ b.1 = k ∧ a.2 * b.2 < x then a.2 * b.2 else x) l := by rw [pq_MIi]
theorem pq_MIo_n (k : Int32) (l1 : List (Int32 × Int32)) (x : Int32) : pq_MIo k l1 x [] = x := by rw [pq_MIo]
theorem pq_MIo_c (k : Int32) (l1 : List (Int32 × Int32)) (a : Int32 × Int32) (x : Int32) (l : List (Int32 × Int32)) : pq_MIo k l1 x (a :: l) = pq_MIo k l1 (pq_MIi k a x l1) l := by rw [pq_MIo]
theorem pq_MIi_p (k : Int32) (a : Int32 × Int32) : ∀ (l : List (Int32 × Int32)) (x : Int32), pq_MIi k a x l ≤ x ∧ (pq_MIi k a x l = x ∨ ∃ b, b ∈ l ∧ a.1 = k ∧ b.1 = k ∧ pq_MIi k a x l = a.2 * b.2) ∧ (∀ b, b ∈ l → a.1 = k → b.1 = k → pq_MIi k a x l ≤ a.2 * b.2) := by
  intro l
  induction l with
  | nil =>
    intro x
    rw [pq_MIi_n]
    exact ⟨Int32.le_refl x, Or.inl rfl, fun b hb => absurd hb (by simp)⟩
  | cons b l ih =>
    intro x
    rw [pq_MIi_c]
    by_cases c : a.1 = k ∧ b.1 = k ∧ a.2 * b.2 < x
    · rw [if_pos c]
      obtain ⟨h1, h2, h3⟩ := ih (a.2 * b.2)
      refine ⟨Int32.le_trans (h1) (Int32.le_of_lt c.2.2), ?_, ?_⟩
      · cases h2 with
        | inl e => exact Or.inr ⟨b, List.mem_cons_self, c.1, c.2.1, e⟩
        | inr e =>
          obtain ⟨b', m, e1, e2, e3⟩ := e
          exact Or.inr ⟨b', List.mem_cons_of_mem _ m, e1, e2, e3⟩
      · intro b' m e1 e2
        cases List.mem_cons.mp m with
        | inl e => subst e; exact h1
        | inr m => exact h3 b' m e1 e2
    · rw [if_neg c]
      obtain ⟨h1, h2, h3⟩ := ih x
      refine ⟨h1, ?_, ?_⟩
      · cases h2 with
        | inl e => exact Or.inl e
        | inr e =>
          obtain ⟨b', m, e1, e2, e3⟩ := e
          exact Or.inr ⟨b', List.mem_cons_of_mem _ m, e1, e2, e3⟩
      · intro b' m e1 e2
        cases List.mem_cons.mp m with
        | inl e =>
          subst e
          have hx : x ≤ a.2 * b'.2 := Int32.not_lt.mp (fun z => c ⟨e1, e2, z⟩)
          exact Int32.le_trans (h1) (hx)
        | inr m => exact h3 b' m e1 e2
theorem pq_MIo_p (k : Int32) (l1 : List (Int32 × Int32)) : ∀ (l : List (Int32 × Int32)) (x : Int32), pq_MIo k l1 x l ≤ x ∧ (pq_MIo k l1 x l = x ∨ ∃ a, a ∈ l ∧ ∃ b, b ∈ l1 ∧ a.1 = k ∧ b.1 = k ∧ pq_MIo k l1 x l = a.2 * b.2) ∧ (∀ a, a ∈ l → ∀ b, b ∈ l1 → a.1 = k → b.1 = k → pq_MIo k l1 x l ≤ a.2 * b.2) := by
  intro l
  induction l with
  | nil =>
    intro x
    rw [pq_MIo_n]
    exact ⟨Int32.le_refl x, Or.inl rfl, fun a ha => absurd ha (by simp)⟩
  | cons a l ih =>
    intro x
    rw [pq_MIo_c]
    obtain ⟨g1, g2, g3⟩ := pq_MIi_p k a l1 x
    obtain ⟨h1, h2, h3⟩ := ih (pq_MIi k a x l1)
    refine ⟨Int32.le_trans (h1) (g1), ?_, ?_⟩
    · cases h2 with
      | inl e =>
        cases g2 with
        | inl e' => exact Or.inl (e.trans e')
        | inr e' =>
          obtain ⟨b, m, e1, e2, e3⟩ := e'
          exact Or.inr ⟨a, List.mem_cons_self, b, m, e1, e2, e.trans e3⟩
      | inr e =>
        obtain ⟨a', m', b, m, e1, e2, e3⟩ := e
        exact Or.inr ⟨a', List.mem_cons_of_mem _ m', b, m, e1, e2, e3⟩
    · intro a' m' b m e1 e2
      cases List.mem_cons.mp m' with
      | inl e => subst e; exact Int32.le_trans (h1) (g3 b m e1 e2)
      | inr m' => exact h3 a' m' b m e1 e2
/-- what the least product of a key's pairs is -/
def pq_MI (k : Int32) (l0 l1 : List (Int32 × Int32)) (r : Int32) : Prop :=
  (r = 10000 ∧ ∀ a, a ∈ l0 → ∀ b, b ∈ l1 → a.1 = k → b.1 = k → False) ∨
  ((∃ a, a ∈ l0 ∧ ∃ b, b ∈ l1 ∧ a.1 = k ∧ b.1 = k ∧ r = a.2 * b.2) ∧ ∀ a, a ∈ l0 → ∀ b, b ∈ l1 → a.1 = k → b.1 = k → r ≤ a.2 * b.2)
theorem pq_MI_u {k : Int32} {l0 l1 m0 m1 : List (Int32 × Int32)} {r r' : Int32} (p0 : List.Perm l0 m0) (p1 : List.Perm l1 m1) (h : pq_MI k l0 l1 r) (h' : pq_MI k m0 m1 r') : r = r' := by
  rcases h with ⟨e, n⟩ | ⟨⟨a, ha, b, hb, e1, e2, e⟩, q⟩
  · rcases h' with ⟨e', n'⟩ | ⟨⟨a, ha, b, hb, e1, e2, e'⟩, q'⟩
    · exact e.trans e'.symm
    · exact (n a (p0.mem_iff.mpr ha) b (p1.mem_iff.mpr hb) e1 e2).elim
  · rcases h' with ⟨e', n'⟩ | ⟨⟨a', ha', b', hb', e1', e2', e'⟩, q'⟩
    · exact (n' a (p0.mem_iff.mp ha) b (p1.mem_iff.mp hb) e1 e2).elim
    · have u1 : r ≤ r' := by rw [e']; exact q a' (p0.mem_iff.mpr ha') b' (p1.mem_iff.mpr hb') e1' e2'
      have u2 : r' ≤ r := by rw [e]; exact q' a (p0.mem_iff.mp ha) b (p1.mem_iff.mp hb) e1 e2
      exact Int32.le_antisymm u1 u2
/-- the scan finds it, where all values are small -/
theorem pq_MIo_MI {k : Int32} {l0 l1 : List (Int32 × Int32)} (s0 : ∀ a, a ∈ l0 → pq_sml a.2) (s1 : ∀ b, b ∈ l1 → pq_sml b.2) : pq_MI k l0 l1 (pq_MIo k l1 10000 l0) := by
  obtain ⟨h1, h2, h3⟩ := pq_MIo_p k l1 l0 10000
  rcases h2 with e | h2
  · refine Or.inl ⟨e, fun a ha b hb e1 e2 => ?_⟩
    have h := h3 a ha b hb e1 e2
    rw [e] at h
    exact absurd h (Int32.not_le.mpr (pq_sml_hi (s0 a ha) (s1 b hb)))
  · exact Or.inr ⟨h2, h3⟩
/-- the greatest scan over the second stream's tuples, for a tuple a of the first -/
def pq_MAi (k : Int32) (a : Int32 × Int32) : Int32 → List (Int32 × Int32) → Int32
  | x, [] => x
  | x, b :: l => pq_MAi k a (if a.1 = k ∧ b.1 = k ∧ x < a.2 * b.2 then a.2 * b.2 else x) l
def pq_MAo (k : Int32) (l1 : List (Int32 × Int32)) : Int32 → List (Int32 × Int32) → Int32
  | x, [] => x
  | x, a :: l => pq_MAo k l1 (pq_MAi k a x l1) l
theorem pq_MAi_n (k : Int32) (a : Int32 × Int32) (x : Int32) : pq_MAi k a x [] = x := by rw [pq_MAi]
theorem pq_MAi_c (k : Int32) (a b : Int32 × Int32) (x : Int32) (l : List (Int32 × Int32)) : pq_MAi k a x (b :: l) = pq_MAi k a (if a.1 = k ∧ b.1 = k ∧ x < a.2 * b.2 then a.2 * b.2 else x) l := by rw [pq_MAi]
theorem pq_MAo_n (k : Int32) (l1 : List (Int32 × Int32)) (x : Int32) : pq_MAo k l1 x [] = x := by rw [pq_MAo]
theorem pq_MAo_c (k : Int32) (l1 : List (Int32 × Int32)) (a : Int32 × Int32) (x : Int32) (l : List (Int32 × Int32)) : pq_MAo k l1 x (a :: l) = pq_MAo k l1 (pq_MAi k a x l1) l := by rw [pq_MAo]
theorem pq_MAi_p (k : Int32) (a : Int32 × Int32) : ∀ (l : List (Int32 × Int32)) (x : Int32), x ≤ pq_MAi k a x l ∧ (pq_MAi k a x l = x ∨ ∃ b, b ∈ l ∧ a.1 = k ∧ b.1 = k ∧ pq_MAi k a x l = a.2 * b.2) ∧ (∀ b, b ∈ l → a.1 = k → b.1 = k → a.2 * b.2 ≤ pq_MAi k a x l) := by
  intro l
  induction l with
  | nil =>
    intro x
    rw [pq_MAi_n]
    exact ⟨Int32.le_refl x, Or.inl rfl, fun b hb => absurd hb (by simp)⟩
  | cons b l ih =>
    intro x
    rw [pq_MAi_c]
    by_cases c : a.1 = k ∧ b.1 = k ∧ x < a.2 * b.2
    · rw [if_pos c]
      obtain ⟨h1, h2, h3⟩ := ih (a.2 * b.2)
      refine ⟨Int32.le_trans (Int32.le_of_lt c.2.2) (h1), ?_, ?_⟩
      · cases h2 with
        | inl e => exact Or.inr ⟨b, List.mem_cons_self, c.1, c.2.1, e⟩
        | inr e =>
          obtain ⟨b', m, e1, e2, e3⟩ := e
          exact Or.inr ⟨b', List.mem_cons_of_mem _ m, e1, e2, e3⟩
      · intro b' m e1 e2
        cases List.mem_cons.mp m with
        | inl e => subst e; exact h1
        | inr m => exact h3 b' m e1 e2
    · rw [if_neg c]
      obtain ⟨h1, h2, h3⟩ := ih x
      refine ⟨h1, ?_, ?_⟩
      · cases h2 with
        | inl e => exact Or.inl e
        | inr e =>
          obtain ⟨b', m, e1, e2, e3⟩ := e
          exact Or.inr ⟨b', List.mem_cons_of_mem _ m, e1, e2, e3⟩
      · intro b' m e1 e2
        cases List.mem_cons.mp m with
        | inl e =>
          subst e
          have hx : a.2 * b'.2 ≤ x := Int32.not_lt.mp (fun z => c ⟨e1, e2, z⟩)
          exact Int32.le_trans (hx) (h1)
        | inr m => exact h3 b' m e1 e2
theorem pq_MAo_p (k : Int32) (l1 : List (Int32 × Int32)) : ∀ (l : List (Int32 × Int32)) (x : Int32), x ≤ pq_MAo k l1 x l ∧ (pq_MAo k l1 x l = x ∨ ∃ a, a ∈ l ∧ ∃ b, b ∈ l1 ∧ a.1 = k ∧ b.1 = k ∧ pq_MAo k l1 x l = a.2 * b.2) ∧ (∀ a, a ∈ l → ∀ b, b ∈ l1 → a.1 = k → b.1 = k → a.2 * b.2 ≤ pq_MAo k l1 x l) := by
  intro l
  induction l with
  | nil =>
    intro x
    rw [pq_MAo_n]
    exact ⟨Int32.le_refl x, Or.inl rfl, fun a ha => absurd ha (by simp)⟩
  | cons a l ih =>
    intro x
    rw [pq_MAo_c]
    obtain ⟨g1, g2, g3⟩ := pq_MAi_p k a l1 x
    obtain ⟨h1, h2, h3⟩ := ih (pq_MAi k a x l1)
    refine ⟨Int32.le_trans (g1) (h1), ?_, ?_⟩
    · cases h2 with
      | inl e =>
        cases g2 with
        | inl e' => exact Or.inl (e.trans e')
        | inr e' =>
          obtain ⟨b, m, e1, e2, e3⟩ := e'
          exact Or.inr ⟨a, List.mem_cons_self, b, m, e1, e2, e.trans e3⟩
      | inr e =>
        obtain ⟨a', m', b, m, e1, e2, e3⟩ := e
        exact Or.inr ⟨a', List.mem_cons_of_mem _ m', b, m, e1, e2, e3⟩
    · intro a' m' b m e1 e2
      cases List.mem_cons.mp m' with
      | inl e => subst e; exact Int32.le_trans (g3 b m e1 e2) (h1)
      | inr m' => exact h3 a' m' b m e1 e2
/-- what the greatest product of a key's pairs is -/
def pq_MA (k : Int32) (l0 l1 : List (Int32 × Int32)) (r : Int32) : Prop :=
  (r = (-10000) ∧ ∀ a, a ∈ l0 → ∀ b, b ∈ l1 → a.1 = k → b.1 = k → False) ∨
  ((∃ a, a ∈ l0 ∧ ∃ b, b ∈ l1 ∧ a.1 = k ∧ b.1 = k ∧ r = a.2 * b.2) ∧ ∀ a, a ∈ l0 → ∀ b, b ∈ l1 → a.1 = k → b.1 = k → a.2 * b.2 ≤ r)
theorem pq_MA_u {k : Int32} {l0 l1 m0 m1 : List (Int32 × Int32)} {r r' : Int32} (p0 : List.Perm l0 m0) (p1 : List.Perm l1 m1) (h : pq_MA k l0 l1 r) (h' : pq_MA k m0 m1 r') : r = r' := by
  rcases h with ⟨e, n⟩ | ⟨⟨a, ha, b, hb, e1, e2, e⟩, q⟩
  · rcases h' with ⟨e', n'⟩ | ⟨⟨a, ha, b, hb, e1, e2, e'⟩, q'⟩
    · exact e.trans e'.symm
    · exact (n a (p0.mem_iff.mpr ha) b (p1.mem_iff.mpr hb) e1 e2).elim
  · rcases h' with ⟨e', n'⟩ | ⟨⟨a', ha', b', hb', e1', e2', e'⟩, q'⟩
    · exact (n' a (p0.mem_iff.mp ha) b (p1.mem_iff.mp hb) e1 e2).elim
    · have u1 : r' ≤ r := by rw [e']; exact q a' (p0.mem_iff.mpr ha') b' (p1.mem_iff.mpr hb') e1' e2'
      have u2 : r ≤ r' := by rw [e]; exact q' a (p0.mem_iff.mp ha) b (p1.mem_iff.mp hb) e1 e2
      exact Int32.le_antisymm u2 u1
/-- the scan finds it, where all values are small -/
theorem pq_MAo_MI {k : Int32} {l0 l1 : List (Int32 × Int32)} (s0 : ∀ a, a ∈ l0 → pq_sml a.2) (s1 : ∀ b, b ∈ l1 → pq_sml b.2) : pq_MA k l0 l1 (pq_MAo k l1 (-10000) l0) := by
  obtain ⟨h1, h2, h3⟩ := pq_MAo_p k l1 l0 (-10000)
  rcases h2 with e | h2
  · refine Or.inl ⟨e, fun a ha b hb e1 e2 => ?_⟩
    have h := h3 a ha b hb e1 e2
    rw [e] at h
    exact absurd h (Int32.not_le.mpr (pq_sml_lo (s0 a ha) (s1 b hb)))
  · exact Or.inr ⟨h2, h3⟩
