/-- 1 where key n is finished, by the marks c: key n of stream 0 in cell n, of stream 1 in cell 16 + n -/
def pq_g (c : Nat → Int32) (n : Nat) : Nat := if c n = 0 then 0 else if c (16 + n) = 0 then 0 else 1
/-- how many keys below n are finished -/
def pq_fc (c : Nat → Int32) : Nat → Nat
  | 0 => 0
  | n + 1 => pq_fc c n + pq_g c n
theorem pq_fc_0 (c : Nat → Int32) : pq_fc c 0 = 0 := by rw [pq_fc]
theorem pq_fc_s (c : Nat → Int32) (n : Nat) : pq_fc c (n + 1) = pq_fc c n + pq_g c n := by rw [pq_fc]
theorem pq_g_le (c : Nat → Int32) (n : Nat) : pq_g c n ≤ 1 := by
  unfold pq_g
  split
  · omega
  · split <;> omega
theorem pq_g_1 {c : Nat → Int32} {n : Nat} (h : ¬ c n = 0) (h' : ¬ c (16 + n) = 0) : pq_g c n = 1 := by
  unfold pq_g
  rw [if_neg h, if_neg h']
theorem pq_g_0 {c : Nat → Int32} {n : Nat} (h : c n = 0 ∨ c (16 + n) = 0) : pq_g c n = 0 := by
  unfold pq_g
  by_cases e : c n = 0
  · rw [if_pos e]
  · rw [if_neg e]
    cases h with
    | inl h => exact absurd h e
    | inr h => rw [if_pos h]
theorem pq_g_mono {c c' : Nat → Int32} (h : ∀ j, ¬ c j = 0 → ¬ c' j = 0) (n : Nat) : pq_g c n ≤ pq_g c' n := by
  by_cases e : c n = 0
  · rw [pq_g_0 (Or.inl e)]; omega
  · by_cases e' : c (16 + n) = 0
    · rw [pq_g_0 (Or.inr e')]; omega
    · rw [pq_g_1 e e', pq_g_1 (h _ e) (h _ e')]; omega
theorem pq_fc_le (c : Nat → Int32) : ∀ n, pq_fc c n ≤ n := by
  intro n
  induction n with
  | zero => rw [pq_fc_0]; omega
  | succ n ih => rw [pq_fc_s]; have := pq_g_le c n; omega
theorem pq_fc_mono {c c' : Nat → Int32} (h : ∀ j, ¬ c j = 0 → ¬ c' j = 0) : ∀ n, pq_fc c n ≤ pq_fc c' n := by
  intro n
  induction n with
  | zero => rw [pq_fc_0, pq_fc_0]; omega
  | succ n ih => rw [pq_fc_s, pq_fc_s]; have := pq_g_mono h n; omega
theorem pq_fc_new {c c' : Nat → Int32} (h : ∀ j, ¬ c j = 0 → ¬ c' j = 0) {k : Nat} (h0 : c k = 0 ∨ c (16 + k) = 0) (h1 : ¬ c' k = 0) (h2 : ¬ c' (16 + k) = 0) : ∀ n, k < n → pq_fc c n + 1 ≤ pq_fc c' n := by
  intro n
  induction n with
  | zero => intro hk; omega
  | succ n ih =>
    intro hk
    rw [pq_fc_s, pq_fc_s]
    by_cases e : k = n
    · subst e
      rw [pq_g_0 h0, pq_g_1 h1 h2]
      have := pq_fc_mono h k
      omega
    · have := ih (by omega)
      have := pq_g_mono h n
      omega
theorem pq_upd_mono {c : Nat → Int32} {k : Nat} {x : Int32} (hx : ¬ x = 0) : ∀ j, ¬ c j = 0 → ¬ upd c k x j = 0 := by
  intro j hj
  by_cases e : j = k
  · rw [e, pk_us]; exact hx
  · rw [pk_un e]; exact hj
