section
theorem pk_us {f : Nat → Int32} {k : Nat} {x : Int32} : upd f k x k = x := if_pos rfl
theorem pk_un {f : Nat → Int32} {k j : Nat} {x : Int32} (h : j ≠ k) : upd f k x j = f j := if_neg h
theorem pk_sub {a b : Nat} (h : b ≤ a) : nI a - nI b = nI (a - b) := by
  obtain ⟨c, rfl⟩ : ∃ c, a = c + b := ⟨a - b, by omega⟩
  rw [← nI_add, Int32.add_sub_cancel, Nat.add_sub_cancel]
theorem pk_m1 (n : Nat) : nI (n + 1) + (-1) = nI n := by
  rw [← nI_1, Int32.add_assoc, show (1 : Int32) + (-1) = 0 from rfl, Int32.add_zero]
theorem pk_mul (a b : Nat) : nI a * nI b = nI (a * b) := (Int32.ofNat_mul a b).symm
theorem pk_div {a d : Nat} (ha : a < 2 ^ 31) (h0 : 0 < d) (hd : d < 2 ^ 31) : nI a / nI d = nI (a / d) := by
  apply Int32.toInt_inj.mp
  rw [lg_idiv_nonneg (by rw [nI_toInt ha]; omega) (by rw [nI_toInt hd]; omega), nI_toInt ha, nI_toInt hd, nI_toInt (Nat.lt_of_le_of_lt (Nat.div_le_self a d) ha)]
  first | rfl | exact (Int.natCast_ediv _ _).symm
theorem pk_ix (x : Int32) {n : Nat} (hn : n < 2 ^ 31) : x < 0 ∨ nI n ≤ x ∨ ∃ j : Nat, j < n ∧ x = nI j := by
  by_cases h : x < 0
  · exact Or.inl h
  · obtain ⟨j, hj, rfl⟩ := nI_of h
    by_cases h2 : j < n
    · exact Or.inr (Or.inr ⟨j, h2, rfl⟩)
    · exact Or.inr (Or.inl (nI_le (by omega) hj))
theorem pk_le {x y : Int32} {A B : Prop} (a b : Nat) (f : a ≤ b → A) (g : b < a → B) (hx : x = nI a := by rfl) (hy : y = nI b := by rfl) (ha : a < 2 ^ 31 := by omega) (hb : b < 2 ^ 31 := by omega) : (x ≤ y → A) ∧ (¬ x ≤ y → B) := by
  subst hx hy
  rw [nI_leI ha hb]
  exact ⟨f, fun z => g (by omega)⟩
theorem pk_lt {x y : Int32} {A B : Prop} (a b : Nat) (f : a < b → A) (g : b ≤ a → B) (hx : x = nI a := by rfl) (hy : y = nI b := by rfl) (ha : a < 2 ^ 31 := by omega) (hb : b < 2 ^ 31 := by omega) : (x < y → A) ∧ (¬ x < y → B) := by
  subst hx hy
  rw [nI_ltI ha hb]
  exact ⟨f, fun z => g (by omega)⟩
theorem pk_eq {x y : Int32} {A B : Prop} (a b : Nat) (f : a = b → A) (g : a ≠ b → B) (hx : x = nI a := by rfl) (hy : y = nI b := by rfl) (ha : a < 2 ^ 31 := by omega) (hb : b < 2 ^ 31 := by omega) : (x = y → A) ∧ (¬ x = y → B) := by
  subst hx hy
  rw [nI_eq ha hb]
  exact ⟨f, g⟩
theorem pk_in {x : Int32} (n N : Nat) (h : n < N) (hx : x = nI n := by rfl) (hN : N < 2 ^ 31 := by omega) : vp_in x N := by
  subst hx
  exact vp_in_nI h hN
theorem pk_cl {x : Int32} (n : Nat) (hx : x = nI n := by rfl) (h : n < 2 ^ 31 := by omega) : x.toNatClampNeg = n := by
  subst hx
  exact nI_clamp h
/-- the tuples that stand from cell b on, n of them -/
def pq_L (tk tv : Nat → Int32) : Nat → Nat → List (Int32 × Int32)
  | _, 0 => []
  | b, n + 1 => (tk b, tv b) :: pq_L tk tv (b + 1) n
theorem pq_L_0 (tk tv : Nat → Int32) (b : Nat) : pq_L tk tv b 0 = [] := by rw [pq_L]
theorem pq_L_s (tk tv : Nat → Int32) (b n : Nat) : pq_L tk tv b (n + 1) = (tk b, tv b) :: pq_L tk tv (b + 1) n := by rw [pq_L]
theorem pq_L_len (tk tv : Nat → Int32) : ∀ (n b : Nat), (pq_L tk tv b n).length = n := by
  intro n
  induction n with
  | zero => intro b; rw [pq_L_0]; rfl
  | succ n ih => intro b; rw [pq_L_s, List.length_cons, ih]
theorem pq_L_congr {tk tv tk' tv' : Nat → Int32} : ∀ (n b : Nat), (∀ j, b ≤ j → j < b + n → tk j = tk' j ∧ tv j = tv' j) → pq_L tk tv b n = pq_L tk' tv' b n := by
  intro n
  induction n with
  | zero => intro b _; rw [pq_L_0, pq_L_0]
  | succ n ih =>
    intro b h
    have h0 := h b (Nat.le_refl b) (by omega)
    rw [pq_L_s, pq_L_s, h0.1, h0.2, ih (b + 1) (fun j h1 h2 => h j (by omega) (by omega))]
theorem pq_L_split (tk tv : Nat → Int32) (m : Nat) : ∀ (n b : Nat), pq_L tk tv b (n + m) = pq_L tk tv b n ++ pq_L tk tv (b + n) m := by
  intro n
  induction n with
  | zero => intro b; rw [Nat.zero_add, Nat.add_zero, pq_L_0, List.nil_append]
  | succ n ih =>
    intro b
    rw [show n + 1 + m = (n + m) + 1 by omega, pq_L_s, pq_L_s, ih (b + 1), List.cons_append, show b + 1 + n = b + (n + 1) by omega]
theorem pq_L_snoc (tk tv : Nat → Int32) (n b : Nat) : pq_L tk tv b (n + 1) = pq_L tk tv b n ++ [(tk (b + n), tv (b + n))] := by
  rw [pq_L_split, pq_L_s, pq_L_0]
theorem pq_L_mem {tk tv : Nat → Int32} {p : Int32 × Int32} : ∀ (n b : Nat), p ∈ pq_L tk tv b n → ∃ j, b ≤ j ∧ j < b + n ∧ p = (tk j, tv j) := by
  intro n
  induction n with
  | zero => intro b h; rw [pq_L_0] at h; simp at h
  | succ n ih =>
    intro b h
    rw [pq_L_s] at h
    cases List.mem_cons.mp h with
    | inl e => exact ⟨b, Nat.le_refl b, by omega, e⟩
    | inr h =>
      obtain ⟨j, h1, h2, e⟩ := ih (b + 1) h
      exact ⟨j, by omega, by omega, e⟩
theorem pq_perm1 {α : Type} (x z : α) (A B : List α) : List.Perm (x :: (A ++ z :: B)) ((A ++ x :: B) ++ [z]) := by
  have h1 : List.Perm (x :: (A ++ z :: B)) (x :: z :: (A ++ B)) := List.Perm.cons x List.perm_middle
  have h2 : List.Perm ((A ++ x :: B) ++ [z]) (z :: (A ++ x :: B)) := List.perm_append_comm
  have h3 : List.Perm (z :: (A ++ x :: B)) (z :: x :: (A ++ B)) := List.Perm.cons z List.perm_middle
  exact h1.trans ((List.Perm.swap z x _).trans (h3.symm.trans h2.symm))
/-- a tuple is taken back: the last one fills its cell -/
theorem pq_L_swap {tk tv : Nat → Int32} {b m i : Nat} (hi : i < m + 1) : List.Perm ((tk (b + i), tv (b + i)) :: pq_L (upd tk (b + i) (tk (b + m))) (upd tv (b + i) (tv (b + m))) b m) (pq_L tk tv b (m + 1)) := by
  rw [pq_L_snoc tk tv m b]
  by_cases h : i = m
  · subst h
    rw [pq_L_congr (tk' := tk) (tv' := tv) i b (fun j h1 h2 => ⟨pk_un (by omega), pk_un (by omega)⟩)]
    exact List.perm_append_comm (l₁ := [(tk (b + i), tv (b + i))])
  · obtain ⟨d, e⟩ : ∃ d, m = i + (d + 1) := ⟨m - i - 1, by omega⟩
    have e1 : pq_L tk tv b m = pq_L tk tv b i ++ (tk (b + i), tv (b + i)) :: pq_L tk tv (b + i + 1) d := by
      rw [e, pq_L_split, pq_L_s]
    have e2 : pq_L (upd tk (b + i) (tk (b + m))) (upd tv (b + i) (tv (b + m))) b m = pq_L tk tv b i ++ (tk (b + m), tv (b + m)) :: pq_L tk tv (b + i + 1) d := by
      generalize tk (b + m) = x
      generalize tv (b + m) = y
      rw [e, pq_L_split, pq_L_s, pk_us, pk_us, pq_L_congr (tk' := tk) (tv' := tv) i b (fun j h1 h2 => ⟨pk_un (by omega), pk_un (by omega)⟩), pq_L_congr (tk' := tk) (tv' := tv) d (b + i + 1) (fun j h1 h2 => ⟨pk_un (by omega), pk_un (by omega)⟩)]
    rw [e1, e2]
    exact pq_perm1 _ _ _ _
/-- a scan that drops the tuples of a key, at cell b + i with q tuples kept -/
def pq_Dr (tk tv : Nat → Int32) (b i q : Nat) (key : Int32) (tk' tv' : Nat → Int32) : Prop :=
  q ≤ i ∧ pq_L tk' tv' b q = (pq_L tk tv b i).filter (fun p => decide (¬ p.1 = key)) ∧ ∀ j, (j < b ∨ b + i ≤ j) → tk' j = tk j ∧ tv' j = tv j
theorem pq_Dr_0 (tk tv : Nat → Int32) (b : Nat) (key : Int32) : pq_Dr tk tv b 0 0 key tk tv := by
  refine ⟨Nat.le_refl 0, ?_, fun j _ => ⟨rfl, rfl⟩⟩
  rw [pq_L_0]; rfl
theorem pq_Dr_d {tk tv : Nat → Int32} {b i q : Nat} {key : Int32} {tk' tv' : Nat → Int32} (h : pq_Dr tk tv b i q key tk' tv') (hk : tk' (b + i) = key) : pq_Dr tk tv b (i + 1) q key tk' tv' := by
  obtain ⟨h1, h2, h3⟩ := h
  have hc := h3 (b + i) (Or.inr (Nat.le_refl _))
  refine ⟨by omega, ?_, fun j hj => h3 j (by omega)⟩
  rw [h2, pq_L_snoc, List.filter_append, ← hc.1, hk]
  simp
theorem pq_Dr_k {tk tv : Nat → Int32} {b i q : Nat} {key : Int32} {tk' tv' : Nat → Int32} (h : pq_Dr tk tv b i q key tk' tv') (hk : ¬ tk' (b + i) = key) : pq_Dr tk tv b (i + 1) (q + 1) key (upd tk' (b + q) (tk' (b + i))) (upd tv' (b + q) (tv' (b + i))) := by
  obtain ⟨h1, h2, h3⟩ := h
  have hc := h3 (b + i) (Or.inr (Nat.le_refl _))
  refine ⟨by omega, ?_, fun j hj => ?_⟩
  · have hk' : ¬ tk (b + i) = key := by rw [← hc.1]; exact hk
    rw [pq_L_snoc, pk_us, pk_us, pq_L_congr (tk' := tk') (tv' := tv') q b (fun j _ h2 => ⟨pk_un (by omega), pk_un (by omega)⟩), h2, pq_L_snoc, List.filter_append, hc.1, hc.2]
    simp [hk']
  · rw [pk_un (by omega), pk_un (by omega)]
    exact h3 j (by omega)
/-- a sum over tuples -/
def pq_sm (f : Int32 × Int32 → Int32) : List (Int32 × Int32) → Int32
  | [] => 0
  | p :: l => f p + pq_sm f l
theorem pq_sm_n (f : Int32 × Int32 → Int32) : pq_sm f [] = 0 := by rw [pq_sm]
theorem pq_sm_c (f : Int32 × Int32 → Int32) (p : Int32 × Int32) (l : List (Int32 × Int32)) : pq_sm f (p :: l) = f p + pq_sm f l := by rw [pq_sm]
theorem pq_sm_perm (f : Int32 × Int32 → Int32) {l l' : List (Int32 × Int32)} (h : List.Perm l l') : pq_sm f l = pq_sm f l' := by
  induction h with
  | nil => rfl
  | cons x _ ih => rw [pq_sm_c, pq_sm_c, ih]
  | swap x y l => rw [pq_sm_c, pq_sm_c, pq_sm_c, pq_sm_c, ← Int32.add_assoc, ← Int32.add_assoc, Int32.add_comm (f x)]
  | trans _ _ ih1 ih2 => exact ih1.trans ih2
theorem pq_sm_app (f : Int32 × Int32 → Int32) (l' : List (Int32 × Int32)) : ∀ l, pq_sm f (l ++ l') = pq_sm f l + pq_sm f l' := by
  intro l
  induction l with
  | nil => rw [pq_sm_n, List.nil_append, Int32.zero_add]
  | cons p l ih => rw [List.cons_append, pq_sm_c, pq_sm_c, ih, Int32.add_assoc]
theorem pq_sm_congr {f g : Int32 × Int32 → Int32} : ∀ {l : List (Int32 × Int32)}, (∀ p, p ∈ l → f p = g p) → pq_sm f l = pq_sm g l := by
  intro l
  induction l with
  | nil => intro _; rw [pq_sm_n, pq_sm_n]
  | cons p l ih => intro h; rw [pq_sm_c, pq_sm_c, h p List.mem_cons_self, ih (fun q hq => h q (List.mem_cons_of_mem _ hq))]
theorem pq_sm_mul (c : Int32) (f : Int32 × Int32 → Int32) : ∀ l, pq_sm (fun p => c * f p) l = c * pq_sm f l := by
  intro l
  induction l with
  | nil => rw [pq_sm_n, pq_sm_n, Int32.mul_zero]
  | cons p l ih => rw [pq_sm_c, pq_sm_c, ih, Int32.mul_add]
theorem pq_sm_mulr (c : Int32) (f : Int32 × Int32 → Int32) : ∀ l, pq_sm (fun p => f p * c) l = pq_sm f l * c := by
  intro l
  induction l with
  | nil => rw [pq_sm_n, pq_sm_n, Int32.zero_mul]
  | cons p l ih => rw [pq_sm_c, pq_sm_c, ih, Int32.add_mul]
/-- the sum of products is the product of sums -/
theorem pq_sm_pair (f g : Int32 × Int32 → Int32) (l0 l1 : List (Int32 × Int32)) : pq_sm (fun a => pq_sm (fun b => f a * g b) l1) l0 = pq_sm f l0 * pq_sm g l1 := by
  rw [← pq_sm_mulr]
  exact pq_sm_congr (fun a _ => pq_sm_mul (f a) g l1)
def pq_v (k : Int32) (p : Int32 × Int32) : Int32 := if p.1 = k then p.2 else 0
def pq_c (k : Int32) (p : Int32 × Int32) : Int32 := if p.1 = k then 1 else 0
/-- how many tuples of a key -/
def pq_n (k : Int32) (l : List (Int32 × Int32)) : Nat := l.countP (fun p => decide (p.1 = k))
theorem pq_n_nil (k : Int32) : pq_n k [] = 0 := rfl
theorem pq_n_c (k : Int32) (p : Int32 × Int32) (l : List (Int32 × Int32)) : pq_n k (p :: l) = pq_n k l + (if p.1 = k then 1 else 0) := by
  unfold pq_n
  rw [List.countP_cons]
  by_cases h : p.1 = k <;> simp [h]
theorem pq_n_le (k : Int32) (l : List (Int32 × Int32)) : pq_n k l ≤ l.length := List.countP_le_length
theorem pq_n_perm (k : Int32) {l l' : List (Int32 × Int32)} (h : List.Perm l l') : pq_n k l = pq_n k l' := h.countP_eq _
theorem pq_n_sm (k : Int32) : ∀ l, pq_sm (pq_c k) l = nI (pq_n k l) := by
  intro l
  induction l with
  | nil => rw [pq_sm_n, pq_n_nil]; rfl
  | cons p l ih =>
    rw [pq_sm_c, pq_n_c, ih, pq_c]
    by_cases h : p.1 = k
    · rw [if_pos h, if_pos h, ← nI_1, Int32.add_comm]
    · rw [if_neg h, if_neg h, Nat.add_zero, Int32.zero_add]
theorem pq_n_pos {k : Int32} {l : List (Int32 × Int32)} : 0 < pq_n k l ↔ ∃ p, p ∈ l ∧ p.1 = k := by
  unfold pq_n
  rw [List.countP_pos_iff]
  constructor
  · rintro ⟨p, hp, e⟩; exact ⟨p, hp, of_decide_eq_true e⟩
  · rintro ⟨p, hp, e⟩; exact ⟨p, hp, decide_eq_true e⟩
theorem pq_cc1 (k : Int32) (a b : Int32 × Int32) (h : a.1 = k) (h' : b.1 = k) : pq_c k a * pq_c k b = 1 := by
  unfold pq_c
  rw [if_pos h, if_pos h']; rfl
theorem pq_cc0 (k : Int32) (a b : Int32 × Int32) (h : ¬ a.1 = k ∨ ¬ b.1 = k) : pq_c k a * pq_c k b = 0 := by
  unfold pq_c
  cases h with
  | inl h => rw [if_neg h, Int32.zero_mul]
  | inr h => rw [if_neg h, Int32.mul_zero]
theorem pq_vv1 (k : Int32) (a b : Int32 × Int32) (h : a.1 = k) (h' : b.1 = k) : pq_v k a * pq_v k b = a.2 * b.2 := by
  unfold pq_v
  rw [if_pos h, if_pos h']
theorem pq_vv0 (k : Int32) (a b : Int32 × Int32) (h : ¬ a.1 = k ∨ ¬ b.1 = k) : pq_v k a * pq_v k b = 0 := by
  unfold pq_v
  cases h with
  | inl h => rw [if_neg h, Int32.zero_mul]
  | inr h => rw [if_neg h, Int32.mul_zero]
/-- cells lo to hi taken from the right neighbour -/
def pq_sh (f : Nat → Int32) (lo hi : Nat) : Nat → Int32 := fun q => if lo ≤ q ∧ q < hi then f (q + 1) else f q
theorem pq_sh_in {f : Nat → Int32} {lo hi q : Nat} (h : lo ≤ q ∧ q < hi) : pq_sh f lo hi q = f (q + 1) := if_pos h
theorem pq_sh_out {f : Nat → Int32} {lo hi q : Nat} (h : ¬ (lo ≤ q ∧ q < hi)) : pq_sh f lo hi q = f q := if_neg h
theorem pq_sh_0 (f : Nat → Int32) (lo : Nat) : pq_sh f lo lo = f := by
  funext q
  exact pq_sh_out (by omega)
theorem pq_sh_s (f : Nat → Int32) {lo hi : Nat} (h : lo ≤ hi) : upd (pq_sh f lo hi) hi (pq_sh f lo hi (hi + 1)) = pq_sh f lo (hi + 1) := by
  funext q
  by_cases e : q = hi
  · subst e
    rw [pk_us, pq_sh_out (by omega), pq_sh_in (by omega)]
  · rw [pk_un e]
    by_cases c : lo ≤ q ∧ q < hi
    · rw [pq_sh_in c, pq_sh_in (by omega)]
    · rw [pq_sh_out c, pq_sh_out (by omega)]
theorem pq_L_shift (f g : Nat → Int32) : ∀ (d lo : Nat) (F G : Nat → Int32), (∀ q, lo ≤ q → q < lo + d → F q = f (q + 1) ∧ G q = g (q + 1)) → pq_L F G lo d = pq_L f g (lo + 1) d := by
  intro d
  induction d with
  | zero => intro lo F G _; rw [pq_L_0, pq_L_0]
  | succ d ih =>
    intro lo F G h
    have h0 := h lo (Nat.le_refl lo) (by omega)
    rw [pq_L_s, pq_L_s, h0.1, h0.2, ih (lo + 1) F G (fun q h1 h2 => h q (by omega) (by omega))]
/-- the list without its tuple i -/
theorem pq_L_sh (f g : Nat → Int32) (b i d : Nat) : pq_L (pq_sh f (b + i) (b + (i + d))) (pq_sh g (b + i) (b + (i + d))) b (i + d) = pq_L f g b i ++ pq_L f g (b + i + 1) d := by
  rw [pq_L_split]
  rw [pq_L_congr (tk' := f) (tv' := g) i b (fun j h1 h2 => ⟨pq_sh_out (by omega), pq_sh_out (by omega)⟩)]
  rw [pq_L_shift f g d (b + i) _ _ (fun q h1 h2 => ⟨pq_sh_in (by omega), pq_sh_in (by omega)⟩)]
theorem pq_L_at (f g : Nat → Int32) (b i d : Nat) : pq_L f g b (i + d + 1) = pq_L f g b i ++ (f (b + i), g (b + i)) :: pq_L f g (b + i + 1) d := by
  rw [show i + d + 1 = i + (d + 1) by omega, pq_L_split, pq_L_s]
end
section
/-- a value of a tuple -/
def pq_sml (x : Int32) : Prop := -50 ≤ x ∧ x ≤ 50
theorem pq_sml_i {x : Int32} (h : pq_sml x) : -50 ≤ x.toInt ∧ x.toInt ≤ 50 := by
  have h1 := Int32.le_iff_toInt_le.mp h.1
  have h2 := Int32.le_iff_toInt_le.mp h.2
  rw [show (-50 : Int32).toInt = -50 by decide] at h1
  rw [show (50 : Int32).toInt = 50 by decide] at h2
  exact ⟨h1, h2⟩
theorem pq_mulb {A B : Int} (a1 : -50 ≤ A) (a2 : A ≤ 50) (b1 : -50 ≤ B) (b2 : B ≤ 50) : -2500 ≤ A * B ∧ A * B ≤ 2500 := by
  have h1 : 0 ≤ (50 - A) * (50 + B) := Int.mul_nonneg (by omega) (by omega)
  have h2 : 0 ≤ (50 + A) * (50 - B) := Int.mul_nonneg (by omega) (by omega)
  have h3 : 0 ≤ (50 - A) * (50 - B) := Int.mul_nonneg (by omega) (by omega)
  have h4 : 0 ≤ (50 + A) * (50 + B) := Int.mul_nonneg (by omega) (by omega)
  have e1 : (50 - A) * (50 + B) = 2500 + 50 * B - 50 * A - A * B := by grind
  have e2 : (50 + A) * (50 - B) = 2500 - 50 * B + 50 * A - A * B := by grind
  have e3 : (50 - A) * (50 - B) = 2500 - 50 * B - 50 * A + A * B := by grind
  have e4 : (50 + A) * (50 + B) = 2500 + 50 * B + 50 * A + A * B := by grind
  rw [e1] at h1
  rw [e2] at h2
  rw [e3] at h3
  rw [e4] at h4
  generalize A * B = C at h1 h2 h3 h4
  omega
theorem pq_sml_mul {x y : Int32} (h : pq_sml x) (h' : pq_sml y) : -2500 ≤ (x * y).toInt ∧ (x * y).toInt ≤ 2500 := by
  have a := pq_sml_i h
  have b := pq_sml_i h'
  have c := pq_mulb a.1 a.2 b.1 b.2
  rw [Int32.toInt_mul]
  generalize x.toInt * y.toInt = C at c
  rw [Int.bmod_eq_of_le (by omega) (by omega)]
  exact c
theorem pq_sml_hi {x y : Int32} (h : pq_sml x) (h' : pq_sml y) : x * y < 10000 := by
  rw [Int32.lt_iff_toInt_lt, show (10000 : Int32).toInt = 10000 by decide]
  have := pq_sml_mul h h'
  omega
theorem pq_sml_lo {x y : Int32} (h : pq_sml x) (h' : pq_sml y) : -10000 < x * y := by
  rw [Int32.lt_iff_toInt_lt, show (-10000 : Int32).toInt = -10000 by decide]
  have := pq_sml_mul h h'
  omega
/-- the least scan over the second stream's tuples, for a tuple a of the first -/
def pq_MIi (k : Int32) (a : Int32 × Int32) : Int32 → List (Int32 × Int32) → Int32
  | x, [] => x
  | x, b :: l => pq_MIi k a (if a.1 = k ∧ b.1 = k ∧ a.2 * b.2 < x then a.2 * b.2 else x) l
def pq_MIo (k : Int32) (l1 : List (Int32 × Int32)) : Int32 → List (Int32 × Int32) → Int32
  | x, [] => x
  | x, a :: l => pq_MIo k l1 (pq_MIi k a x l1) l
theorem pq_MIi_n (k : Int32) (a : Int32 × Int32) (x : Int32) : pq_MIi k a x [] = x := by rw [pq_MIi]
theorem pq_MIi_c (k : Int32) (a b : Int32 × Int32) (x : Int32) (l : List (Int32 × Int32)) : pq_MIi k a x (b :: l) = pq_MIi k a (if a.1 = k ∧ b.1 = k ∧ a.2 * b.2 < x then a.2 * b.2 else x) l := by rw [pq_MIi]
theorem pq_MIo_n (k : Int32) (l1 : List (Int32 × Int32)) (x : Int32) : pq_MIo k l1 x [] = x := by rw [pq_MIo]
theorem pq_MIo_c (k : Int32) (l1 : List (Int32 × Int32)) (a : Int32 × Int32) (x : Int32) (l : List (Int32 × Int32)) : pq_MIo k l1 x (a :: l) = pq_MIo k l1 (pq_MIi k a x l1) l := by rw [pq_MIo]
theorem pq_MIi_p (k : Int32) (a : Int32 × Int32) : ∀ (l : List (Int32 × Int32)) (x : Int32), pq_MIi k a x l ≤ x ∧ (pq_MIi k a x l = x ∨ ∃ b, b ∈ l ∧ a.1 = k ∧ b.1 = k ∧ pq_MIi k a x l = a.2 * b.2) ∧ (∀ b, b ∈ l → a.1 = k → b.1 = k → pq_MIi k a x l ≤ a.2 * b.2) := by
  intro l
  induction l with
  | nil =>
    intro x
    rw [pq_MIi_n]
    exact ⟨Int32.le_refl x, Or.inl rfl, fun b hb => absurd hb (by simp)⟩
  | cons b l ih =>
    intro x
    rw [pq_MIi_c]
    by_cases c : a.1 = k ∧ b.1 = k ∧ a.2 * b.2 < x
    · rw [if_pos c]
      obtain ⟨h1, h2, h3⟩ := ih (a.2 * b.2)
      refine ⟨Int32.le_trans (h1) (Int32.le_of_lt c.2.2), ?_, ?_⟩
      · cases h2 with
        | inl e => exact Or.inr ⟨b, List.mem_cons_self, c.1, c.2.1, e⟩
        | inr e =>
          obtain ⟨b', m, e1, e2, e3⟩ := e
          exact Or.inr ⟨b', List.mem_cons_of_mem _ m, e1, e2, e3⟩
      · intro b' m e1 e2
        cases List.mem_cons.mp m with
        | inl e => subst e; exact h1
        | inr m => exact h3 b' m e1 e2
    · rw [if_neg c]
      obtain ⟨h1, h2, h3⟩ := ih x
      refine ⟨h1, ?_, ?_⟩
      · cases h2 with
        | inl e => exact Or.inl e
        | inr e =>
          obtain ⟨b', m, e1, e2, e3⟩ := e
          exact Or.inr ⟨b', List.mem_cons_of_mem _ m, e1, e2, e3⟩
      · intro b' m e1 e2
        cases List.mem_cons.mp m with
        | inl e =>
          subst e
          have hx : x ≤ a.2 * b'.2 := Int32.not_lt.mp (fun z => c ⟨e1, e2, z⟩)
          exact Int32.le_trans (h1) (hx)
        | inr m => exact h3 b' m e1 e2
theorem pq_MIo_p (k : Int32) (l1 : List (Int32 × Int32)) : ∀ (l : List (Int32 × Int32)) (x : Int32), pq_MIo k l1 x l ≤ x ∧ (pq_MIo k l1 x l = x ∨ ∃ a, a ∈ l ∧ ∃ b, b ∈ l1 ∧ a.1 = k ∧ b.1 = k ∧ pq_MIo k l1 x l = a.2 * b.2) ∧ (∀ a, a ∈ l → ∀ b, b ∈ l1 → a.1 = k → b.1 = k → pq_MIo k l1 x l ≤ a.2 * b.2) := by
  intro l
  induction l with
  | nil =>
    intro x
    rw [pq_MIo_n]
    exact ⟨Int32.le_refl x, Or.inl rfl, fun a ha => absurd ha (by simp)⟩
  | cons a l ih =>
    intro x
    rw [pq_MIo_c]
    obtain ⟨g1, g2, g3⟩ := pq_MIi_p k a l1 x
    obtain ⟨h1, h2, h3⟩ := ih (pq_MIi k a x l1)
    refine ⟨Int32.le_trans (h1) (g1), ?_, ?_⟩
    · cases h2 with
      | inl e =>
        cases g2 with
        | inl e' => exact Or.inl (e.trans e')
        | inr e' =>
          obtain ⟨b, m, e1, e2, e3⟩ := e'
          exact Or.inr ⟨a, List.mem_cons_self, b, m, e1, e2, e.trans e3⟩
      | inr e =>
        obtain ⟨a', m', b, m, e1, e2, e3⟩ := e
        exact Or.inr ⟨a', List.mem_cons_of_mem _ m', b, m, e1, e2, e3⟩
    · intro a' m' b m e1 e2
      cases List.mem_cons.mp m' with
      | inl e => subst e; exact Int32.le_trans (h1) (g3 b m e1 e2)
      | inr m' => exact h3 a' m' b m e1 e2
/-- what the least product of a key's pairs is -/
def pq_MI (k : Int32) (l0 l1 : List (Int32 × Int32)) (r : Int32) : Prop :=
  (r = 10000 ∧ ∀ a, a ∈ l0 → ∀ b, b ∈ l1 → a.1 = k → b.1 = k → False) ∨
  ((∃ a, a ∈ l0 ∧ ∃ b, b ∈ l1 ∧ a.1 = k ∧ b.1 = k ∧ r = a.2 * b.2) ∧ ∀ a, a ∈ l0 → ∀ b, b ∈ l1 → a.1 = k → b.1 = k → r ≤ a.2 * b.2)
theorem pq_MI_u {k : Int32} {l0 l1 m0 m1 : List (Int32 × Int32)} {r r' : Int32} (p0 : List.Perm l0 m0) (p1 : List.Perm l1 m1) (h : pq_MI k l0 l1 r) (h' : pq_MI k m0 m1 r') : r = r' := by
  rcases h with ⟨e, n⟩ | ⟨⟨a, ha, b, hb, e1, e2, e⟩, q⟩
  · rcases h' with ⟨e', n'⟩ | ⟨⟨a, ha, b, hb, e1, e2, e'⟩, q'⟩
    · exact e.trans e'.symm
    · exact (n a (p0.mem_iff.mpr ha) b (p1.mem_iff.mpr hb) e1 e2).elim
  · rcases h' with ⟨e', n'⟩ | ⟨⟨a', ha', b', hb', e1', e2', e'⟩, q'⟩
    · exact (n' a (p0.mem_iff.mp ha) b (p1.mem_iff.mp hb) e1 e2).elim
    · have u1 : r ≤ r' := by rw [e']; exact q a' (p0.mem_iff.mpr ha') b' (p1.mem_iff.mpr hb') e1' e2'
      have u2 : r' ≤ r := by rw [e]; exact q' a (p0.mem_iff.mp ha) b (p1.mem_iff.mp hb) e1 e2
      exact Int32.le_antisymm u1 u2
/-- the scan finds it, where all values are small -/
theorem pq_MIo_MI {k : Int32} {l0 l1 : List (Int32 × Int32)} (s0 : ∀ a, a ∈ l0 → pq_sml a.2) (s1 : ∀ b, b ∈ l1 → pq_sml b.2) : pq_MI k l0 l1 (pq_MIo k l1 10000 l0) := by
  obtain ⟨h1, h2, h3⟩ := pq_MIo_p k l1 l0 10000
  rcases h2 with e | h2
  · refine Or.inl ⟨e, fun a ha b hb e1 e2 => ?_⟩
    have h := h3 a ha b hb e1 e2
    rw [e] at h
    exact absurd h (Int32.not_le.mpr (pq_sml_hi (s0 a ha) (s1 b hb)))
  · exact Or.inr ⟨h2, h3⟩
/-- the greatest scan over the second stream's tuples, for a tuple a of the first -/
def pq_MAi (k : Int32) (a : Int32 × Int32) : Int32 → List (Int32 × Int32) → Int32
  | x, [] => x
  | x, b :: l => pq_MAi k a (if a.1 = k ∧ b.1 = k ∧ x < a.2 * b.2 then a.2 * b.2 else x) l
def pq_MAo (k : Int32) (l1 : List (Int32 × Int32)) : Int32 → List (Int32 × Int32) → Int32
  | x, [] => x
  | x, a :: l => pq_MAo k l1 (pq_MAi k a x l1) l
theorem pq_MAi_n (k : Int32) (a : Int32 × Int32) (x : Int32) : pq_MAi k a x [] = x := by rw [pq_MAi]
theorem pq_MAi_c (k : Int32) (a b : Int32 × Int32) (x : Int32) (l : List (Int32 × Int32)) : pq_MAi k a x (b :: l) = pq_MAi k a (if a.1 = k ∧ b.1 = k ∧ x < a.2 * b.2 then a.2 * b.2 else x) l := by rw [pq_MAi]
theorem pq_MAo_n (k : Int32) (l1 : List (Int32 × Int32)) (x : Int32) : pq_MAo k l1 x [] = x := by rw [pq_MAo]
theorem pq_MAo_c (k : Int32) (l1 : List (Int32 × Int32)) (a : Int32 × Int32) (x : Int32) (l : List (Int32 × Int32)) : pq_MAo k l1 x (a :: l) = pq_MAo k l1 (pq_MAi k a x l1) l := by rw [pq_MAo]
theorem pq_MAi_p (k : Int32) (a : Int32 × Int32) : ∀ (l : List (Int32 × Int32)) (x : Int32), x ≤ pq_MAi k a x l ∧ (pq_MAi k a x l = x ∨ ∃ b, b ∈ l ∧ a.1 = k ∧ b.1 = k ∧ pq_MAi k a x l = a.2 * b.2) ∧ (∀ b, b ∈ l → a.1 = k → b.1 = k → a.2 * b.2 ≤ pq_MAi k a x l) := by
  intro l
  induction l with
  | nil =>
    intro x
    rw [pq_MAi_n]
    exact ⟨Int32.le_refl x, Or.inl rfl, fun b hb => absurd hb (by simp)⟩
  | cons b l ih =>
    intro x
    rw [pq_MAi_c]
    by_cases c : a.1 = k ∧ b.1 = k ∧ x < a.2 * b.2
    · rw [if_pos c]
      obtain ⟨h1, h2, h3⟩ := ih (a.2 * b.2)
      refine ⟨Int32.le_trans (Int32.le_of_lt c.2.2) (h1), ?_, ?_⟩
      · cases h2 with
        | inl e => exact Or.inr ⟨b, List.mem_cons_self, c.1, c.2.1, e⟩
        | inr e =>
          obtain ⟨b', m, e1, e2, e3⟩ := e
          exact Or.inr ⟨b', List.mem_cons_of_mem _ m, e1, e2, e3⟩
      · intro b' m e1 e2
        cases List.mem_cons.mp m with
        | inl e => subst e; exact h1
        | inr m => exact h3 b' m e1 e2
    · rw [if_neg c]
      obtain ⟨h1, h2, h3⟩ := ih x
      refine ⟨h1, ?_, ?_⟩
      · cases h2 with
        | inl e => exact Or.inl e
        | inr e =>
          obtain ⟨b', m, e1, e2, e3⟩ := e
          exact Or.inr ⟨b', List.mem_cons_of_mem _ m, e1, e2, e3⟩
      · intro b' m e1 e2
        cases List.mem_cons.mp m with
        | inl e =>
          subst e
          have hx : a.2 * b'.2 ≤ x := Int32.not_lt.mp (fun z => c ⟨e1, e2, z⟩)
          exact Int32.le_trans (hx) (h1)
        | inr m => exact h3 b' m e1 e2
theorem pq_MAo_p (k : Int32) (l1 : List (Int32 × Int32)) : ∀ (l : List (Int32 × Int32)) (x : Int32), x ≤ pq_MAo k l1 x l ∧ (pq_MAo k l1 x l = x ∨ ∃ a, a ∈ l ∧ ∃ b, b ∈ l1 ∧ a.1 = k ∧ b.1 = k ∧ pq_MAo k l1 x l = a.2 * b.2) ∧ (∀ a, a ∈ l → ∀ b, b ∈ l1 → a.1 = k → b.1 = k → a.2 * b.2 ≤ pq_MAo k l1 x l) := by
  intro l
  induction l with
  | nil =>
    intro x
    rw [pq_MAo_n]
    exact ⟨Int32.le_refl x, Or.inl rfl, fun a ha => absurd ha (by simp)⟩
  | cons a l ih =>
    intro x
    rw [pq_MAo_c]
    obtain ⟨g1, g2, g3⟩ := pq_MAi_p k a l1 x
    obtain ⟨h1, h2, h3⟩ := ih (pq_MAi k a x l1)
    refine ⟨Int32.le_trans (g1) (h1), ?_, ?_⟩
    · cases h2 with
      | inl e =>
        cases g2 with
        | inl e' => exact Or.inl (e.trans e')
        | inr e' =>
          obtain ⟨b, m, e1, e2, e3⟩ := e'
          exact Or.inr ⟨a, List.mem_cons_self, b, m, e1, e2, e.trans e3⟩
      | inr e =>
        obtain ⟨a', m', b, m, e1, e2, e3⟩ := e
        exact Or.inr ⟨a', List.mem_cons_of_mem _ m', b, m, e1, e2, e3⟩
    · intro a' m' b m e1 e2
      cases List.mem_cons.mp m' with
      | inl e => subst e; exact Int32.le_trans (g3 b m e1 e2) (h1)
      | inr m' => exact h3 a' m' b m e1 e2
/-- what the greatest product of a key's pairs is -/
def pq_MA (k : Int32) (l0 l1 : List (Int32 × Int32)) (r : Int32) : Prop :=
  (r = (-10000) ∧ ∀ a, a ∈ l0 → ∀ b, b ∈ l1 → a.1 = k → b.1 = k → False) ∨
  ((∃ a, a ∈ l0 ∧ ∃ b, b ∈ l1 ∧ a.1 = k ∧ b.1 = k ∧ r = a.2 * b.2) ∧ ∀ a, a ∈ l0 → ∀ b, b ∈ l1 → a.1 = k → b.1 = k → a.2 * b.2 ≤ r)
theorem pq_MA_u {k : Int32} {l0 l1 m0 m1 : List (Int32 × Int32)} {r r' : Int32} (p0 : List.Perm l0 m0) (p1 : List.Perm l1 m1) (h : pq_MA k l0 l1 r) (h' : pq_MA k m0 m1 r') : r = r' := by
  rcases h with ⟨e, n⟩ | ⟨⟨a, ha, b, hb, e1, e2, e⟩, q⟩
  · rcases h' with ⟨e', n'⟩ | ⟨⟨a, ha, b, hb, e1, e2, e'⟩, q'⟩
    · exact e.trans e'.symm
    · exact (n a (p0.mem_iff.mpr ha) b (p1.mem_iff.mpr hb) e1 e2).elim
  · rcases h' with ⟨e', n'⟩ | ⟨⟨a', ha', b', hb', e1', e2', e'⟩, q'⟩
    · exact (n' a (p0.mem_iff.mp ha) b (p1.mem_iff.mp hb) e1 e2).elim
    · have u1 : r' ≤ r := by rw [e']; exact q a' (p0.mem_iff.mpr ha') b' (p1.mem_iff.mpr hb') e1' e2'
      have u2 : r ≤ r' := by rw [e]; exact q' a (p0.mem_iff.mp ha) b (p1.mem_iff.mp hb) e1 e2
      exact Int32.le_antisymm u2 u1
/-- the scan finds it, where all values are small -/
theorem pq_MAo_MI {k : Int32} {l0 l1 : List (Int32 × Int32)} (s0 : ∀ a, a ∈ l0 → pq_sml a.2) (s1 : ∀ b, b ∈ l1 → pq_sml b.2) : pq_MA k l0 l1 (pq_MAo k l1 (-10000) l0) := by
  obtain ⟨h1, h2, h3⟩ := pq_MAo_p k l1 l0 (-10000)
  rcases h2 with e | h2
  · refine Or.inl ⟨e, fun a ha b hb e1 e2 => ?_⟩
    have h := h3 a ha b hb e1 e2
    rw [e] at h
    exact absurd h (Int32.not_le.mpr (pq_sml_lo (s0 a ha) (s1 b hb)))
  · exact Or.inr ⟨h2, h3⟩
end
section
/-- 1 where key n is finished, by the marks c: key n of stream 0 in cell n, of stream 1 in cell 16 + n -/
def pq_g (c : Nat → Int32) (n : Nat) : Nat := if c n = 0 then 0 else if c (16 + n) = 0 then 0 else 1
/-- how many keys below n are finished -/
def pq_fc (c : Nat → Int32) : Nat → Nat
  | 0 => 0
  | n + 1 => pq_fc c n + pq_g c n
theorem pq_fc_0 (c : Nat → Int32) : pq_fc c 0 = 0 := by rw [pq_fc]
theorem pq_fc_s (c : Nat → Int32) (n : Nat) : pq_fc c (n + 1) = pq_fc c n + pq_g c n := by rw [pq_fc]
theorem pq_g_le (c : Nat → Int32) (n : Nat) : pq_g c n ≤ 1 := by
  unfold pq_g
  split
  · omega
  · split <;> omega
theorem pq_g_1 {c : Nat → Int32} {n : Nat} (h : ¬ c n = 0) (h' : ¬ c (16 + n) = 0) : pq_g c n = 1 := by
  unfold pq_g
  rw [if_neg h, if_neg h']
theorem pq_g_0 {c : Nat → Int32} {n : Nat} (h : c n = 0 ∨ c (16 + n) = 0) : pq_g c n = 0 := by
  unfold pq_g
  by_cases e : c n = 0
  · rw [if_pos e]
  · rw [if_neg e]
    cases h with
    | inl h => exact absurd h e
    | inr h => rw [if_pos h]
theorem pq_g_mono {c c' : Nat → Int32} (h : ∀ j, ¬ c j = 0 → ¬ c' j = 0) (n : Nat) : pq_g c n ≤ pq_g c' n := by
  by_cases e : c n = 0
  · rw [pq_g_0 (Or.inl e)]; omega
  · by_cases e' : c (16 + n) = 0
    · rw [pq_g_0 (Or.inr e')]; omega
    · rw [pq_g_1 e e', pq_g_1 (h _ e) (h _ e')]; omega
theorem pq_fc_le (c : Nat → Int32) : ∀ n, pq_fc c n ≤ n := by
  intro n
  induction n with
  | zero => rw [pq_fc_0]; omega
  | succ n ih => rw [pq_fc_s]; have := pq_g_le c n; omega
theorem pq_fc_mono {c c' : Nat → Int32} (h : ∀ j, ¬ c j = 0 → ¬ c' j = 0) : ∀ n, pq_fc c n ≤ pq_fc c' n := by
  intro n
  induction n with
  | zero => rw [pq_fc_0, pq_fc_0]; omega
  | succ n ih => rw [pq_fc_s, pq_fc_s]; have := pq_g_mono h n; omega
theorem pq_fc_new {c c' : Nat → Int32} (h : ∀ j, ¬ c j = 0 → ¬ c' j = 0) {k : Nat} (h0 : c k = 0 ∨ c (16 + k) = 0) (h1 : ¬ c' k = 0) (h2 : ¬ c' (16 + k) = 0) : ∀ n, k < n → pq_fc c n + 1 ≤ pq_fc c' n := by
  intro n
  induction n with
  | zero => intro hk; omega
  | succ n ih =>
    intro hk
    rw [pq_fc_s, pq_fc_s]
    by_cases e : k = n
    · subst e
      rw [pq_g_0 h0, pq_g_1 h1 h2]
      have := pq_fc_mono h k
      omega
    · have := ih (by omega)
      have := pq_g_mono h n
      omega
theorem pq_upd_mono {c : Nat → Int32} {k : Nat} {x : Int32} (hx : ¬ x = 0) : ∀ j, ¬ c j = 0 → ¬ upd c k x j = 0 := by
  intro j hj
  by_cases e : j = k
  · rw [e, pk_us]; exact hx
  · rw [pk_un e]; exact hj
end
section
theorem xq_40 (s : Nat) : nI s * 40 = nI (40 * s) := by
  rw [show (40 : Int32) = nI 40 from rfl, pk_mul, Nat.mul_comm]
theorem xq_m1 (m : Nat) : (40 : Int32) + nI m = nI (40 + m) := nI_add 40 m
section
variable {rc : Int32} {tk tv hc cm rk rp rs rl rg : Nat → Int32}
theorem xq_ct_l {post : Int32 → Prop} {s m : Nat} {x2 : Int32} (hs : s < 2) (hh : hc s = nI m) (hm : m ≤ 40) : ∀ (d i : Nat) (c : Int32), i + d = m → post (c + pq_sm (pq_c x2) (pq_L tk tv (40 * s + i) d)) → wX_countTuples_11 post (nI s) x2 (nI (40 * s)) rc tk tv hc cm rk rp rs rl rg (d + 1) c (nI (40 * s + i)) := by
  intro d
  induction d with
  | zero =>
    intro i c hi hp
    refine ⟨vp_in_nI hs (by decide), br_t ?_ ?_⟩
    · rw [nI_clamp (by omega), hh, nI_add]; exact nI_le (by omega) (by omega)
    · rw [pq_L_0, pq_sm_n, Int32.add_zero] at hp; exact hp
  | succ d ih =>
    intro i c hi hp
    have hb : vp_in (nI (40 * s + i)) 80 := vp_in_nI (by omega) (by decide)
    have hn : ¬ (nI (40 * s) + hc (nI s).toNatClampNeg ≤ nI (40 * s + i)) := by
      rw [nI_clamp (by omega), hh, nI_add]; exact nI_ge (by omega) (by omega)
    have ec : (nI (40 * s + i)).toNatClampNeg = 40 * s + i := nI_clamp (by omega)
    rw [pq_L_s, pq_sm_c, pq_c] at hp
    dsimp only at hp
    refine ⟨vp_in_nI hs (by decide), br_f hn ⟨hb, ?_⟩⟩
    rw [ec]
    by_cases h : tk (40 * s + i) = x2
    · rw [if_pos h, ← Int32.add_assoc] at hp
      exact br_t h (nm_e (nm_r (nI_1 _) (ih (i + 1) (c + 1) (by omega) hp)))
    · rw [if_neg h, Int32.zero_add] at hp
      exact br_f h (nm_r (nI_1 _) (ih (i + 1) c (by omega) hp))
theorem xq_ct {post : Int32 → Prop} {s m : Nat} {x2 : Int32} (hs : s < 2) (hh : hc s = nI m) (hm : m ≤ 40) (hp : post (nI (pq_n x2 (pq_L tk tv (40 * s) m)))) : wpX_countTuples post (rc, tk, tv, hc, cm, rk, rp, rs, rl, rg) (nI s) x2 := by
  refine nm_r (xq_40 s) ⟨m + 1, xq_ct_l hs hh hm m 0 0 (by omega) ?_⟩
  rw [Int32.zero_add, pq_n_sm]; exact hp
theorem xq_cp {post : Int32 → Prop} {m0 m1 : Nat} {x2 : Int32} (h0 : hc 0 = nI m0) (b0 : m0 ≤ 40) (h1 : hc 1 = nI m1) (b1 : m1 ≤ 40) (hp : post (nI (pq_n x2 (pq_L tk tv 0 m0)) * nI (pq_n x2 (pq_L tk tv 40 m1)))) : wpX_countPairs post (rc, tk, tv, hc, cm, rk, rp, rs, rl, rg) x2 := by
  unfold wpX_countPairs
  dsimp only
  refine xq_ct (s := 0) (by decide) h0 b0 ?_
  refine xq_ct (s := 1) (by decide) h1 b1 ?_
  exact hp
theorem xq_sv_l {post : Int32 → Prop} {s m : Nat} {x2 : Int32} (hs : s < 2) (hh : hc s = nI m) (hm : m ≤ 40) : ∀ (d i : Nat) (c : Int32), i + d = m → post (c + pq_sm (pq_v x2) (pq_L tk tv (40 * s + i) d)) → wX_sumOfValues_11 post (nI s) x2 (nI (40 * s)) rc tk tv hc cm rk rp rs rl rg (d + 1) c (nI (40 * s + i)) := by
  intro d
  induction d with
  | zero =>
    intro i c hi hp
    refine ⟨vp_in_nI hs (by decide), br_t ?_ ?_⟩
    · rw [nI_clamp (by omega), hh, nI_add]; exact nI_le (by omega) (by omega)
    · rw [pq_L_0, pq_sm_n, Int32.add_zero] at hp; exact hp
  | succ d ih =>
    intro i c hi hp
    have hb : vp_in (nI (40 * s + i)) 80 := vp_in_nI (by omega) (by decide)
    have hn : ¬ (nI (40 * s) + hc (nI s).toNatClampNeg ≤ nI (40 * s + i)) := by
      rw [nI_clamp (by omega), hh, nI_add]; exact nI_ge (by omega) (by omega)
    have ec : (nI (40 * s + i)).toNatClampNeg = 40 * s + i := nI_clamp (by omega)
    rw [pq_L_s, pq_sm_c, pq_v] at hp
    dsimp only at hp
    refine ⟨vp_in_nI hs (by decide), br_f hn ⟨hb, ?_⟩⟩
    rw [ec]
    by_cases h : tk (40 * s + i) = x2
    · rw [if_pos h, ← Int32.add_assoc] at hp
      exact br_t h ⟨hb, nm_e (nm_r (nI_1 _) (ih (i + 1) (c + tv (40 * s + i)) (by omega) hp))⟩
    · rw [if_neg h, Int32.zero_add] at hp
      exact br_f h (nm_r (nI_1 _) (ih (i + 1) c (by omega) hp))
theorem xq_sv {post : Int32 → Prop} {s m : Nat} {x2 : Int32} (hs : s < 2) (hh : hc s = nI m) (hm : m ≤ 40) (hp : post (pq_sm (pq_v x2) (pq_L tk tv (40 * s) m))) : wpX_sumOfValues post (rc, tk, tv, hc, cm, rk, rp, rs, rl, rg) (nI s) x2 := by
  refine nm_r (xq_40 s) ⟨m + 1, xq_sv_l hs hh hm m 0 0 (by omega) ?_⟩
  rw [Int32.zero_add]; exact hp
theorem xq_sp {post : Int32 → Prop} {m0 m1 : Nat} {x2 : Int32} (h0 : hc 0 = nI m0) (b0 : m0 ≤ 40) (h1 : hc 1 = nI m1) (b1 : m1 ≤ 40) (hp : post (pq_sm (pq_v x2) (pq_L tk tv 0 m0) * pq_sm (pq_v x2) (pq_L tk tv 40 m1))) : wpX_sumOfProducts post (rc, tk, tv, hc, cm, rk, rp, rs, rl, rg) x2 := by
  unfold wpX_sumOfProducts
  dsimp only
  refine xq_sv (s := 0) (by decide) h0 b0 ?_
  refine xq_sv (s := 1) (by decide) h1 b1 ?_
  exact hp
theorem xq_MI_l {post : Int32 → Prop} {J6 : Int32 → Int32 → Prop} {a m1 : Nat} {x1 : Int32} (ha : a < 80) (h1 : hc 1 = nI m1) (b1 : m1 ≤ 40) : ∀ (d j : Nat) (x : Int32), j + d = m1 → J6 (pq_MIi x1 (tk a, tv a) x (pq_L tk tv (40 + j) d)) (nI (a + 1)) → wX_leastProduct_20 post J6 x1 (nI a) rc tk tv hc cm rk rp rs rl rg (d + 1) x (nI (40 + j)) := by
  intro d
  induction d with
  | zero =>
    intro j x hj hp
    refine br_t ?_ (nm_r (nI_1 a) ?_)
    · rw [h1, xq_m1]; exact nI_le (by omega) (by omega)
    · rw [pq_L_0, pq_MIi_n] at hp; exact hp
  | succ d ih =>
    intro j x hj hp
    have hA : vp_in (nI a) 80 := vp_in_nI ha (by decide)
    have hb : vp_in (nI (40 + j)) 80 := vp_in_nI (by omega) (by decide)
    have hn : ¬ ((40 : Int32) + hc 1 ≤ nI (40 + j)) := by
      rw [h1, xq_m1]; exact nI_ge (by omega) (by omega)
    have ea : (nI a).toNatClampNeg = a := nI_clamp (by omega)
    have eb : (nI (40 + j)).toNatClampNeg = 40 + j := nI_clamp (by omega)
    rw [pq_L_s, pq_MIi_c] at hp
    dsimp only at hp
    refine br_f hn ⟨hA, hb, nm_e ⟨hA, ?_⟩⟩
    rw [ea, eb]
    by_cases e1 : tk a = x1
    · refine br_t e1 ⟨hb, ?_⟩
      by_cases e2 : tk (40 + j) = x1
      · refine br_t e2 ?_
        by_cases e3 : x ≤ tv a * tv (40 + j)
        · refine br_t e3 (nm_r (nI_1 _) (ih (j + 1) x (by omega) ?_))
          rw [if_neg (show ¬ (tk a = x1 ∧ tk (40 + j) = x1 ∧ tv a * tv (40 + j) < x) from fun z => absurd z.2.2 (Int32.not_lt.mpr e3))] at hp
          exact hp
        · refine br_f e3 (nm_r (nI_1 _) (ih (j + 1) _ (by omega) ?_))
          rw [if_pos (show tk a = x1 ∧ tk (40 + j) = x1 ∧ tv a * tv (40 + j) < x from ⟨e1, e2, Int32.not_le.mp e3⟩)] at hp
          exact hp
      · refine br_f e2 (nm_r (nI_1 _) (ih (j + 1) x (by omega) ?_))
        rw [if_neg (show ¬ (tk a = x1 ∧ tk (40 + j) = x1 ∧ tv a * tv (40 + j) < x) from fun z => e2 z.2.1)] at hp
        exact hp
    · refine br_f e1 (nm_r (nI_1 _) (ih (j + 1) x (by omega) ?_))
      rw [if_neg (show ¬ (tk a = x1 ∧ tk (40 + j) = x1 ∧ tv a * tv (40 + j) < x) from fun z => e1 z.1)] at hp
      exact hp
theorem xq_MI_o {post : Int32 → Prop} {m0 m1 : Nat} {x1 : Int32} (h0 : hc 0 = nI m0) (b0 : m0 ≤ 40) (h1 : hc 1 = nI m1) (b1 : m1 ≤ 40) : ∀ (d i : Nat) (x : Int32), i + d = m0 → post (pq_MIo x1 (pq_L tk tv 40 m1) x (pq_L tk tv i d)) → wX_leastProduct_6 post x1 rc tk tv hc cm rk rp rs rl rg (d + 1) x (nI i) := by
  intro d
  induction d with
  | zero =>
    intro i x hi hp
    refine br_t ?_ ?_
    · rw [h0]; exact nI_le (by omega) (by omega)
    · rw [pq_L_0, pq_MIo_n] at hp; exact hp
  | succ d ih =>
    intro i x hi hp
    rw [pq_L_s, pq_MIo_c] at hp
    refine br_f ?_ ⟨m1 + 1, xq_MI_l (a := i) (by omega) h1 b1 m1 0 x (by omega) (ih (i + 1) _ (by omega) hp)⟩
    rw [h0]; exact nI_ge (by omega) (by omega)
theorem xq_MI {post : Int32 → Prop} {m0 m1 : Nat} {x1 : Int32} (h0 : hc 0 = nI m0) (b0 : m0 ≤ 40) (h1 : hc 1 = nI m1) (b1 : m1 ≤ 40) (hp : post (pq_MIo x1 (pq_L tk tv 40 m1) 10000 (pq_L tk tv 0 m0))) : wpX_leastProduct post (rc, tk, tv, hc, cm, rk, rp, rs, rl, rg) x1 :=
  ⟨m0 + 1, xq_MI_o h0 b0 h1 b1 m0 0 10000 (by omega) hp⟩
theorem xq_MA_l {post : Int32 → Prop} {J6 : Int32 → Int32 → Prop} {a m1 : Nat} {x1 : Int32} (ha : a < 80) (h1 : hc 1 = nI m1) (b1 : m1 ≤ 40) : ∀ (d j : Nat) (x : Int32), j + d = m1 → J6 (pq_MAi x1 (tk a, tv a) x (pq_L tk tv (40 + j) d)) (nI (a + 1)) → wX_greatestProduct_20 post J6 x1 (nI a) rc tk tv hc cm rk rp rs rl rg (d + 1) x (nI (40 + j)) := by
  intro d
  induction d with
  | zero =>
    intro j x hj hp
    refine br_t ?_ (nm_r (nI_1 a) ?_)
    · rw [h1, xq_m1]; exact nI_le (by omega) (by omega)
    · rw [pq_L_0, pq_MAi_n] at hp; exact hp
  | succ d ih =>
    intro j x hj hp
    have hA : vp_in (nI a) 80 := vp_in_nI ha (by decide)
    have hb : vp_in (nI (40 + j)) 80 := vp_in_nI (by omega) (by decide)
    have hn : ¬ ((40 : Int32) + hc 1 ≤ nI (40 + j)) := by
      rw [h1, xq_m1]; exact nI_ge (by omega) (by omega)
    have ea : (nI a).toNatClampNeg = a := nI_clamp (by omega)
    have eb : (nI (40 + j)).toNatClampNeg = 40 + j := nI_clamp (by omega)
    rw [pq_L_s, pq_MAi_c] at hp
    dsimp only at hp
    refine br_f hn ⟨hA, hb, nm_e ⟨hA, ?_⟩⟩
    rw [ea, eb]
    by_cases e1 : tk a = x1
    · refine br_t e1 ⟨hb, ?_⟩
      by_cases e2 : tk (40 + j) = x1
      · refine br_t e2 ?_
        by_cases e3 : tv a * tv (40 + j) ≤ x
        · refine br_t e3 (nm_r (nI_1 _) (ih (j + 1) x (by omega) ?_))
          rw [if_neg (show ¬ (tk a = x1 ∧ tk (40 + j) = x1 ∧ x < tv a * tv (40 + j)) from fun z => absurd z.2.2 (Int32.not_lt.mpr e3))] at hp
          exact hp
        · refine br_f e3 (nm_r (nI_1 _) (ih (j + 1) _ (by omega) ?_))
          rw [if_pos (show tk a = x1 ∧ tk (40 + j) = x1 ∧ x < tv a * tv (40 + j) from ⟨e1, e2, Int32.not_le.mp e3⟩)] at hp
          exact hp
      · refine br_f e2 (nm_r (nI_1 _) (ih (j + 1) x (by omega) ?_))
        rw [if_neg (show ¬ (tk a = x1 ∧ tk (40 + j) = x1 ∧ x < tv a * tv (40 + j)) from fun z => e2 z.2.1)] at hp
        exact hp
    · refine br_f e1 (nm_r (nI_1 _) (ih (j + 1) x (by omega) ?_))
      rw [if_neg (show ¬ (tk a = x1 ∧ tk (40 + j) = x1 ∧ x < tv a * tv (40 + j)) from fun z => e1 z.1)] at hp
      exact hp
theorem xq_MA_o {post : Int32 → Prop} {m0 m1 : Nat} {x1 : Int32} (h0 : hc 0 = nI m0) (b0 : m0 ≤ 40) (h1 : hc 1 = nI m1) (b1 : m1 ≤ 40) : ∀ (d i : Nat) (x : Int32), i + d = m0 → post (pq_MAo x1 (pq_L tk tv 40 m1) x (pq_L tk tv i d)) → wX_greatestProduct_6 post x1 rc tk tv hc cm rk rp rs rl rg (d + 1) x (nI i) := by
  intro d
  induction d with
  | zero =>
    intro i x hi hp
    refine br_t ?_ ?_
    · rw [h0]; exact nI_le (by omega) (by omega)
    · rw [pq_L_0, pq_MAo_n] at hp; exact hp
  | succ d ih =>
    intro i x hi hp
    rw [pq_L_s, pq_MAo_c] at hp
    refine br_f ?_ ⟨m1 + 1, xq_MA_l (a := i) (by omega) h1 b1 m1 0 x (by omega) (ih (i + 1) _ (by omega) hp)⟩
    rw [h0]; exact nI_ge (by omega) (by omega)
theorem xq_MA {post : Int32 → Prop} {m0 m1 : Nat} {x1 : Int32} (h0 : hc 0 = nI m0) (b0 : m0 ≤ 40) (h1 : hc 1 = nI m1) (b1 : m1 ≤ 40) (hp : post (pq_MAo x1 (pq_L tk tv 40 m1) (-10000) (pq_L tk tv 0 m0))) : wpX_greatestProduct post (rc, tk, tv, hc, cm, rk, rp, rs, rl, rg) x1 :=
  ⟨m0 + 1, xq_MA_o h0 b0 h1 b1 m0 0 (-10000) (by omega) hp⟩
/-- 1 where a pair counts for pairsFrom -/
def pq_pf (bd : Int32) (a b : Int32 × Int32) : Int32 := if a.1 = b.1 ∧ ¬ a.2 * b.2 < bd then 1 else 0
theorem xq_pf_l {post : Int32 → Prop} {J4 : Int32 → Int32 → Prop} {a m1 : Nat} {x1 : Int32} (ha : a < 80) (h1 : hc 1 = nI m1) (b1 : m1 ≤ 40) : ∀ (d j : Nat) (x : Int32), j + d = m1 → J4 (x + pq_sm (pq_pf x1 (tk a, tv a)) (pq_L tk tv (40 + j) d)) (nI (a + 1)) → wX_pairsFrom_18 post J4 x1 (nI a) rc tk tv hc cm rk rp rs rl rg (d + 1) x (nI (40 + j)) := by
  intro d
  induction d with
  | zero =>
    intro j x hj hp
    refine br_t ?_ (nm_r (nI_1 a) ?_)
    · rw [h1, xq_m1]; exact nI_le (by omega) (by omega)
    · rw [pq_L_0, pq_sm_n, Int32.add_zero] at hp; exact hp
  | succ d ih =>
    intro j x hj hp
    have hA : vp_in (nI a) 80 := vp_in_nI ha (by decide)
    have hb : vp_in (nI (40 + j)) 80 := vp_in_nI (by omega) (by decide)
    have hn : ¬ ((40 : Int32) + hc 1 ≤ nI (40 + j)) := by
      rw [h1, xq_m1]; exact nI_ge (by omega) (by omega)
    have ea : (nI a).toNatClampNeg = a := nI_clamp (by omega)
    have eb : (nI (40 + j)).toNatClampNeg = 40 + j := nI_clamp (by omega)
    rw [pq_L_s, pq_sm_c, pq_pf] at hp
    dsimp only at hp
    refine br_f hn ⟨hA, hb, ?_⟩
    rw [ea, eb]
    by_cases e1 : tk a = tk (40 + j)
    · refine br_t e1 ⟨hA, hb, ?_⟩
      by_cases e2 : tv a * tv (40 + j) < x1
      · refine br_t e2 (nm_r (nI_1 _) (ih (j + 1) x (by omega) ?_))
        rw [if_neg (show ¬ (tk a = tk (40 + j) ∧ ¬ tv a * tv (40 + j) < x1) from fun z => z.2 e2), Int32.zero_add] at hp
        exact hp
      · refine br_f e2 (nm_e (nm_r (nI_1 _) (ih (j + 1) (x + 1) (by omega) ?_)))
        rw [if_pos (show tk a = tk (40 + j) ∧ ¬ tv a * tv (40 + j) < x1 from ⟨e1, e2⟩), ← Int32.add_assoc] at hp
        exact hp
    · refine br_f e1 (nm_r (nI_1 _) (ih (j + 1) x (by omega) ?_))
      rw [if_neg (show ¬ (tk a = tk (40 + j) ∧ ¬ tv a * tv (40 + j) < x1) from fun z => e1 z.1), Int32.zero_add] at hp
      exact hp
theorem xq_pf_o {post : Int32 → Prop} {m0 m1 : Nat} {x1 : Int32} (h0 : hc 0 = nI m0) (b0 : m0 ≤ 40) (h1 : hc 1 = nI m1) (b1 : m1 ≤ 40) : ∀ (d i : Nat) (x : Int32), i + d = m0 → post (x + pq_sm (fun a => pq_sm (pq_pf x1 a) (pq_L tk tv 40 m1)) (pq_L tk tv i d)) → wX_pairsFrom_4 post x1 rc tk tv hc cm rk rp rs rl rg (d + 1) x (nI i) := by
  intro d
  induction d with
  | zero =>
    intro i x hi hp
    refine br_t ?_ ?_
    · rw [h0]; exact nI_le (by omega) (by omega)
    · rw [pq_L_0, pq_sm_n, Int32.add_zero] at hp; exact hp
  | succ d ih =>
    intro i x hi hp
    rw [pq_L_s, pq_sm_c, ← Int32.add_assoc] at hp
    refine br_f ?_ ⟨m1 + 1, xq_pf_l (a := i) (by omega) h1 b1 m1 0 x (by omega) (ih (i + 1) _ (by omega) hp)⟩
    rw [h0]; exact nI_ge (by omega) (by omega)
theorem xq_pf {post : Int32 → Prop} {m0 m1 : Nat} {x1 : Int32} (h0 : hc 0 = nI m0) (b0 : m0 ≤ 40) (h1 : hc 1 = nI m1) (b1 : m1 ≤ 40) (hp : post (pq_sm (fun a => pq_sm (pq_pf x1 a) (pq_L tk tv 40 m1)) (pq_L tk tv 0 m0))) : wpX_pairsFrom post (rc, tk, tv, hc, cm, rk, rp, rs, rl, rg) x1 := by
  refine ⟨m0 + 1, xq_pf_o h0 b0 h1 b1 m0 0 0 (by omega) ?_⟩
  rw [Int32.zero_add]; exact hp
end
end
section
theorem yq_40i (s i : Nat) : (40 : Int32) * nI s + nI i = nI (40 * s + i) := by
  rw [show (40 : Int32) = nI 40 from rfl, pk_mul, nI_add]
section
variable {yr yp ys yl yg : Int32} {yc yk yv cm qk qp qs ql qg : Nat → Int32}
theorem yq_ct_l {post : Int32 → Prop} {s m : Nat} {x2 : Int32} (hs : s < 2) (hh : yc s = nI m) (hm : m ≤ 40) : ∀ (d i : Nat) (c : Int32), i + d = m → post (c + pq_sm (pq_c x2) (pq_L yk yv (40 * s + i) d)) → wY_heldWith_26 post (nI s) x2 yr yp ys yl yg yc yk yv cm qk qp qs ql qg (d + 1) c (nI i) := by
  intro d
  induction d with
  | zero =>
    intro i c hi hp
    refine ⟨vp_in_nI hs (by decide), br_t ?_ ?_⟩
    · rw [nI_clamp (by omega), hh]; exact nI_le (by omega) (by omega)
    · rw [pq_L_0, pq_sm_n, Int32.add_zero] at hp; exact hp
  | succ d ih =>
    intro i c hi hp
    have hb : vp_in (nI (40 * s + i)) 80 := vp_in_nI (by omega) (by decide)
    have hn : ¬ (yc (nI s).toNatClampNeg ≤ nI i) := by
      rw [nI_clamp (by omega), hh]; exact nI_ge (by omega) (by omega)
    have h40 : ¬ ((40 : Int32) ≤ nI i) := nI_ge (b := 40) (by omega) (by decide)
    have ec : (nI (40 * s + i)).toNatClampNeg = 40 * s + i := nI_clamp (by omega)
    rw [pq_L_s, pq_sm_c, pq_c] at hp
    dsimp only at hp
    refine ⟨vp_in_nI hs (by decide), br_f hn (br_f h40 ?_)⟩
    rw [yq_40i, ec]
    refine ⟨hb, ?_⟩
    by_cases h : yk (40 * s + i) = x2
    · rw [if_pos h, ← Int32.add_assoc] at hp
      exact br_t h (nm_e (nm_r (nI_1 _) (ih (i + 1) (c + 1) (by omega) hp)))
    · rw [if_neg h, Int32.zero_add] at hp
      exact br_f h (nm_r (nI_1 _) (ih (i + 1) c (by omega) hp))
theorem yq_ct {post : Int32 → Prop} {s m : Nat} {x2 : Int32} (hs : s < 2) (hh : yc s = nI m) (hm : m ≤ 40) (hp : post (nI (pq_n x2 (pq_L yk yv (40 * s) m)))) : ∃ n26 : Nat, wY_heldWith_26 post (nI s) x2 yr yp ys yl yg yc yk yv cm qk qp qs ql qg n26 0 0 := by
  refine ⟨m + 1, yq_ct_l hs hh hm m 0 0 (by omega) ?_⟩
  rw [Int32.zero_add, pq_n_sm]; exact hp
theorem yq_lk_l {post : SY → Prop} {J26 : Int32 → Int32 → Int32 → Int32 → Int32 → Prop} {a m1 : Nat} {x1 : Int32} (ha : a < 80) (h1 : yc 1 = nI m1) (b1 : m1 ≤ 40) : ∀ (d j : Nat) (p s l g : Int32), j + d = m1 → J26 (nI (a + 1)) (p + pq_sm (fun b => pq_c x1 (yk a, yv a) * pq_c x1 b) (pq_L yk yv (40 + j) d)) (s + pq_sm (fun b => pq_v x1 (yk a, yv a) * pq_v x1 b) (pq_L yk yv (40 + j) d)) (pq_MIi x1 (yk a, yv a) l (pq_L yk yv (40 + j) d)) (pq_MAi x1 (yk a, yv a) g (pq_L yk yv (40 + j) d)) → wY_look_44 post J26 x1 (nI a) yr yc yk yv cm qk qp qs ql qg (d + 1) (nI j) p s l g := by
  intro d
  induction d with
  | zero =>
    intro j p s l g hj hp
    refine br_t ?_ (nm_r (nI_1 a) ?_)
    · rw [h1]; exact nI_le (by omega) (by omega)
    · rw [pq_L_0, pq_sm_n, pq_sm_n, Int32.add_zero, Int32.add_zero, pq_MIi_n, pq_MAi_n] at hp; exact hp
  | succ d ih =>
    intro j p s l g hj hp
    have hA : vp_in (nI a) 80 := vp_in_nI ha (by decide)
    have hb : vp_in (nI (40 + j)) 80 := vp_in_nI (by omega) (by decide)
    have hn : ¬ (yc 1 ≤ nI j) := by
      rw [h1]; exact nI_ge (by omega) (by omega)
    have h40 : ¬ ((40 : Int32) ≤ nI j) := nI_ge (b := 40) (by omega) (by decide)
    have ea : (nI a).toNatClampNeg = a := nI_clamp (by omega)
    have eb : (nI (40 + j)).toNatClampNeg = 40 + j := nI_clamp (by omega)
    rw [pq_L_s, pq_sm_c, pq_sm_c, pq_MIi_c, pq_MAi_c] at hp
    dsimp only at hp
    refine br_f hn (br_f h40 ?_)
    rw [ea, xq_m1, eb]
    refine ⟨hA, ?_⟩
    by_cases e1 : yk a = x1
    · refine br_t e1 ⟨hb, ?_⟩
      by_cases e2 : yk (40 + j) = x1
      · refine br_t e2 ⟨hA, hb, nm_e (nm_e (nm_e ?_))⟩
        rw [pq_cc1 x1 (yk a, yv a) (yk (40 + j), yv (40 + j)) e1 e2, pq_vv1 x1 (yk a, yv a) (yk (40 + j), yv (40 + j)) e1 e2, ← Int32.add_assoc, ← Int32.add_assoc] at hp
        by_cases e3 : l ≤ yv a * yv (40 + j)
        · refine br_t e3 ?_
          rw [if_neg (show ¬ (yk a = x1 ∧ yk (40 + j) = x1 ∧ yv a * yv (40 + j) < l) from fun z => absurd z.2.2 (Int32.not_lt.mpr e3))] at hp
          by_cases e4 : yv a * yv (40 + j) ≤ g
          · rw [if_neg (show ¬ (yk a = x1 ∧ yk (40 + j) = x1 ∧ g < yv a * yv (40 + j)) from fun z => absurd z.2.2 (Int32.not_lt.mpr e4))] at hp
            exact br_t e4 (nm_r (nI_1 _) (ih (j + 1) _ _ _ _ (by omega) hp))
          · rw [if_pos (show yk a = x1 ∧ yk (40 + j) = x1 ∧ g < yv a * yv (40 + j) from ⟨e1, e2, Int32.not_le.mp e4⟩)] at hp
            exact br_f e4 (nm_r (nI_1 _) (ih (j + 1) _ _ _ _ (by omega) hp))
        · refine br_f e3 ?_
          rw [if_pos (show yk a = x1 ∧ yk (40 + j) = x1 ∧ yv a * yv (40 + j) < l from ⟨e1, e2, Int32.not_le.mp e3⟩)] at hp
          by_cases e4 : yv a * yv (40 + j) ≤ g
          · rw [if_neg (show ¬ (yk a = x1 ∧ yk (40 + j) = x1 ∧ g < yv a * yv (40 + j)) from fun z => absurd z.2.2 (Int32.not_lt.mpr e4))] at hp
            exact br_t e4 (nm_r (nI_1 _) (ih (j + 1) _ _ _ _ (by omega) hp))
          · rw [if_pos (show yk a = x1 ∧ yk (40 + j) = x1 ∧ g < yv a * yv (40 + j) from ⟨e1, e2, Int32.not_le.mp e4⟩)] at hp
            exact br_f e4 (nm_r (nI_1 _) (ih (j + 1) _ _ _ _ (by omega) hp))
      · rw [pq_cc0 x1 (yk a, yv a) (yk (40 + j), yv (40 + j)) (Or.inr e2), pq_vv0 x1 (yk a, yv a) (yk (40 + j), yv (40 + j)) (Or.inr e2), Int32.zero_add, Int32.zero_add, if_neg (show ¬ (yk a = x1 ∧ yk (40 + j) = x1 ∧ yv a * yv (40 + j) < l) from fun z => e2 z.2.1), if_neg (show ¬ (yk a = x1 ∧ yk (40 + j) = x1 ∧ g < yv a * yv (40 + j)) from fun z => e2 z.2.1)] at hp
        exact br_f e2 (nm_r (nI_1 _) (ih (j + 1) _ _ _ _ (by omega) hp))
    · rw [pq_cc0 x1 (yk a, yv a) (yk (40 + j), yv (40 + j)) (Or.inl e1), pq_vv0 x1 (yk a, yv a) (yk (40 + j), yv (40 + j)) (Or.inl e1), Int32.zero_add, Int32.zero_add, if_neg (show ¬ (yk a = x1 ∧ yk (40 + j) = x1 ∧ yv a * yv (40 + j) < l) from fun z => e1 z.1), if_neg (show ¬ (yk a = x1 ∧ yk (40 + j) = x1 ∧ g < yv a * yv (40 + j)) from fun z => e1 z.1)] at hp
      exact br_f e1 (nm_r (nI_1 _) (ih (j + 1) _ _ _ _ (by omega) hp))
theorem yq_lk_o {post : SY → Prop} {m0 m1 : Nat} {x1 : Int32} (h0 : yc 0 = nI m0) (b0 : m0 ≤ 40) (h1 : yc 1 = nI m1) (b1 : m1 ≤ 40) : ∀ (d i : Nat) (p s l g : Int32), i + d = m0 → post (yr, p + pq_sm (fun a => pq_sm (fun b => pq_c x1 a * pq_c x1 b) (pq_L yk yv 40 m1)) (pq_L yk yv i d), s + pq_sm (fun a => pq_sm (fun b => pq_v x1 a * pq_v x1 b) (pq_L yk yv 40 m1)) (pq_L yk yv i d), pq_MIo x1 (pq_L yk yv 40 m1) l (pq_L yk yv i d), pq_MAo x1 (pq_L yk yv 40 m1) g (pq_L yk yv i d), yc, yk, yv, cm, qk, qp, qs, ql, qg) → wY_look_26 post x1 yr yc yk yv cm qk qp qs ql qg (d + 1) (nI i) p s l g := by
  intro d
  induction d with
  | zero =>
    intro i p s l g hi hp
    refine br_t ?_ ?_
    · rw [h0]; exact nI_le (by omega) (by omega)
    · rw [pq_L_0, pq_sm_n, pq_sm_n, Int32.add_zero, Int32.add_zero, pq_MIo_n, pq_MAo_n] at hp; exact hp
  | succ d ih =>
    intro i p s l g hi hp
    rw [pq_L_s, pq_sm_c, pq_sm_c, pq_MIo_c, pq_MAo_c, ← Int32.add_assoc, ← Int32.add_assoc] at hp
    have h40 : ¬ ((40 : Int32) ≤ nI i) := nI_ge (b := 40) (by omega) (by decide)
    refine br_f ?_ (br_f h40 ⟨m1 + 1, yq_lk_l (a := i) (by omega) h1 b1 m1 0 p s l g (by omega) (ih (i + 1) _ _ _ _ (by omega) hp)⟩)
    rw [h0]; exact nI_ge (by omega) (by omega)
theorem yq_lk {post : SY → Prop} {m0 m1 : Nat} {x1 : Int32} (h0 : yc 0 = nI m0) (b0 : m0 ≤ 40) (h1 : yc 1 = nI m1) (b1 : m1 ≤ 40) (hp : post (yr, nI (pq_n x1 (pq_L yk yv 0 m0)) * nI (pq_n x1 (pq_L yk yv 40 m1)), pq_sm (pq_v x1) (pq_L yk yv 0 m0) * pq_sm (pq_v x1) (pq_L yk yv 40 m1), pq_MIo x1 (pq_L yk yv 40 m1) 10000 (pq_L yk yv 0 m0), pq_MAo x1 (pq_L yk yv 40 m1) (-10000) (pq_L yk yv 0 m0), yc, yk, yv, cm, qk, qp, qs, ql, qg)) : wpY_look post (yr, yp, ys, yl, yg, yc, yk, yv, cm, qk, qp, qs, ql, qg) x1 := by
  refine ⟨m0 + 1, yq_lk_o h0 b0 h1 b1 m0 0 0 0 10000 (-10000) (by omega) ?_⟩
  rw [Int32.zero_add, Int32.zero_add, pq_sm_pair, pq_sm_pair, pq_n_sm, pq_n_sm]
  exact hp
theorem yq_pf_l {post : Int32 → Prop} {J4 : Int32 → Int32 → Prop} {a m1 : Nat} {x1 : Int32} (ha : a < 80) (h1 : yc 1 = nI m1) (b1 : m1 ≤ 40) : ∀ (d j : Nat) (x : Int32), j + d = m1 → J4 (x + pq_sm (pq_pf x1 (yk a, yv a)) (pq_L yk yv (40 + j) d)) (nI (a + 1)) → wY_pairsFrom_23 post J4 x1 (nI a) yr yp ys yl yg yc yk yv cm qk qp qs ql qg (d + 1) x (nI j) := by
  intro d
  induction d with
  | zero =>
    intro j x hj hp
    refine br_t ?_ (nm_r (nI_1 a) ?_)
    · rw [h1]; exact nI_le (by omega) (by omega)
    · rw [pq_L_0, pq_sm_n, Int32.add_zero] at hp; exact hp
  | succ d ih =>
    intro j x hj hp
    have hA : vp_in (nI a) 80 := vp_in_nI ha (by decide)
    have hb : vp_in (nI (40 + j)) 80 := vp_in_nI (by omega) (by decide)
    have hn : ¬ (yc 1 ≤ nI j) := by
      rw [h1]; exact nI_ge (by omega) (by omega)
    have h40 : ¬ ((40 : Int32) ≤ nI j) := nI_ge (b := 40) (by omega) (by decide)
    have ea : (nI a).toNatClampNeg = a := nI_clamp (by omega)
    have eb : (nI (40 + j)).toNatClampNeg = 40 + j := nI_clamp (by omega)
    rw [pq_L_s, pq_sm_c, pq_pf] at hp
    dsimp only at hp
    refine br_f hn (br_f h40 ?_)
    rw [ea, xq_m1, eb]
    refine ⟨hA, hb, ?_⟩
    by_cases e1 : yk a = yk (40 + j)
    · refine br_t e1 ⟨hA, hb, ?_⟩
      by_cases e2 : yv a * yv (40 + j) < x1
      · refine br_t e2 (nm_r (nI_1 _) (ih (j + 1) x (by omega) ?_))
        rw [if_neg (show ¬ (yk a = yk (40 + j) ∧ ¬ yv a * yv (40 + j) < x1) from fun z => z.2 e2), Int32.zero_add] at hp
        exact hp
      · refine br_f e2 (nm_e (nm_r (nI_1 _) (ih (j + 1) (x + 1) (by omega) ?_)))
        rw [if_pos (show yk a = yk (40 + j) ∧ ¬ yv a * yv (40 + j) < x1 from ⟨e1, e2⟩), ← Int32.add_assoc] at hp
        exact hp
    · refine br_f e1 (nm_r (nI_1 _) (ih (j + 1) x (by omega) ?_))
      rw [if_neg (show ¬ (yk a = yk (40 + j) ∧ ¬ yv a * yv (40 + j) < x1) from fun z => e1 z.1), Int32.zero_add] at hp
      exact hp
theorem yq_pf_o {post : Int32 → Prop} {m0 m1 : Nat} {x1 : Int32} (h0 : yc 0 = nI m0) (b0 : m0 ≤ 40) (h1 : yc 1 = nI m1) (b1 : m1 ≤ 40) : ∀ (d i : Nat) (x : Int32), i + d = m0 → post (x + pq_sm (fun a => pq_sm (pq_pf x1 a) (pq_L yk yv 40 m1)) (pq_L yk yv i d)) → wY_pairsFrom_4 post x1 yr yp ys yl yg yc yk yv cm qk qp qs ql qg (d + 1) x (nI i) := by
  intro d
  induction d with
  | zero =>
    intro i x hi hp
    refine br_t ?_ ?_
    · rw [h0]; exact nI_le (by omega) (by omega)
    · rw [pq_L_0, pq_sm_n, Int32.add_zero] at hp; exact hp
  | succ d ih =>
    intro i x hi hp
    rw [pq_L_s, pq_sm_c, ← Int32.add_assoc] at hp
    have h40 : ¬ ((40 : Int32) ≤ nI i) := nI_ge (b := 40) (by omega) (by decide)
    refine br_f ?_ (br_f h40 ⟨m1 + 1, yq_pf_l (a := i) (by omega) h1 b1 m1 0 x (by omega) (ih (i + 1) _ (by omega) hp)⟩)
    rw [h0]; exact nI_ge (by omega) (by omega)
theorem yq_pf {post : Int32 → Prop} {m0 m1 : Nat} {x1 : Int32} (h0 : yc 0 = nI m0) (b0 : m0 ≤ 40) (h1 : yc 1 = nI m1) (b1 : m1 ≤ 40) (hp : post (pq_sm (fun a => pq_sm (pq_pf x1 a) (pq_L yk yv 40 m1)) (pq_L yk yv 0 m0))) : wpY_pairsFrom post (yr, yp, ys, yl, yg, yc, yk, yv, cm, qk, qp, qs, ql, qg) x1 := by
  refine ⟨m0 + 1, yq_pf_o h0 b0 h1 b1 m0 0 0 (by omega) ?_⟩
  rw [Int32.zero_add]; exact hp
theorem yq_to_l {post : SY → Prop} {s i m : Nat} (hs : s < 2) (hh : yc s = nI (m + 1)) (hm : m + 1 ≤ 40) (hp : post (yr, yp, ys, yl, yg, upd yc s (nI m), pq_sh yk (40 * s + i) (40 * s + m), pq_sh yv (40 * s + i) (40 * s + m), cm, qk, qp, qs, ql, qg)) : ∀ (d j : Nat), j + d = m → i ≤ j → wY_takeOut_2 post (nI s) yr yp ys yl yg (d + 1) (nI j) yc (pq_sh yk (40 * s + i) (40 * s + j)) (pq_sh yv (40 * s + i) (40 * s + j)) cm qk qp qs ql qg := by
  intro d
  have hS : vp_in (nI s) 2 := vp_in_nI hs (by decide)
  have eS : (nI s).toNatClampNeg = s := nI_clamp (by omega)
  have eC : yc (nI s).toNatClampNeg - 1 = nI m := by rw [eS, hh, nI_pred]
  induction d with
  | zero =>
    intro j hj hi
    have e : j = m := by omega
    subst e
    refine ⟨hS, br_t ?_ ⟨hS, hS, nm_r (e' := upd yc s (nI j)) (by rw [eC, eS]) hp⟩⟩
    rw [eC]; exact nI_le (Nat.le_refl _) (by omega)
  | succ d ih =>
    intro j hj hi
    have hn : ¬ (yc (nI s).toNatClampNeg - 1 ≤ nI j) := by rw [eC]; exact nI_ge (by omega) (by omega)
    have h39 : ¬ ((39 : Int32) ≤ nI j) := nI_ge (b := 39) (by omega) (by decide)
    have hb : vp_in (nI (40 * s + j)) 80 := vp_in_nI (by omega) (by decide)
    have hb' : vp_in (nI (40 * s + j + 1)) 80 := vp_in_nI (by omega) (by decide)
    refine ⟨hS, br_f hn (br_f h39 ?_)⟩
    rw [yq_40i, nI_1 (40 * s + j), nI_clamp (n := 40 * s + j) (by omega), nI_clamp (n := 40 * s + j + 1) (by omega)]
    exact ⟨hb', hb, nm_r (pq_sh_s yk (by omega)) ⟨hb', hb, nm_r (pq_sh_s yv (by omega)) (nm_r (nI_1 j) (ih (j + 1) (by omega) (by omega)))⟩⟩
theorem yq_to {post : SY → Prop} {s i m : Nat} (hs : s < 2) (hh : yc s = nI (m + 1)) (hm : m + 1 ≤ 40) (hi : i ≤ m) (hp : post (yr, yp, ys, yl, yg, upd yc s (nI m), pq_sh yk (40 * s + i) (40 * s + m), pq_sh yv (40 * s + i) (40 * s + m), cm, qk, qp, qs, ql, qg)) : wpY_takeOut post (yr, yp, ys, yl, yg, yc, yk, yv, cm, qk, qp, qs, ql, qg) (nI s) (nI i) := by
  have h := yq_to_l (i := i) hs hh hm hp (m - i) i (by omega) (Nat.le_refl i)
  rw [pq_sh_0, pq_sh_0] at h
  exact ⟨_, h⟩
end
end
section
/-- the tuples of other keys -/
def pq_fl (key : Int32) (l : List (Int32 × Int32)) : List (Int32 × Int32) := l.filter (fun p => decide (¬ p.1 = key))
theorem pq_fl_perm (key : Int32) {l l' : List (Int32 × Int32)} (h : List.Perm l l') : List.Perm (pq_fl key l) (pq_fl key l') := h.filter _
theorem pq_fl_mem {key : Int32} {l : List (Int32 × Int32)} {p : Int32 × Int32} (h : p ∈ pq_fl key l) : p ∈ l := (List.mem_filter.mp h).1
theorem pq_fl_id {key : Int32} {l : List (Int32 × Int32)} (h : ∀ p, p ∈ l → ¬ p.1 = key) : pq_fl key l = l :=
  List.filter_eq_self.mpr (fun p hp => decide_eq_true (h p hp))
theorem pq_fl_out {key : Int32} (A B : List (Int32 × Int32)) {x : Int32 × Int32} (h : x.1 = key) : pq_fl key (A ++ x :: B) = pq_fl key (A ++ B) := by
  unfold pq_fl
  rw [List.filter_append, List.filter_append, List.filter_cons_of_neg]
  simp [h]
theorem xq_dr_l {s m : Nat} {key : Int32} {tk tv : Nat → Int32} (hs : s < 2) (hm : m ≤ 40) : ∀ (d i q : Nat) (tk' tv' : Nat → Int32), i + d = m → pq_Dr tk tv (40 * s) i q key tk' tv' → ∃ (q2 : Nat) (tk2 tv2 : Nat → Int32), pq_Dr tk tv (40 * s) m q2 key tk2 tv2 ∧ ∀ (post : SX → Prop) (rc : Int32) (hc cm rk rp rs rl rg : Nat → Int32), post (rc, tk2, tv2, upd hc s (nI q2), cm, rk, rp, rs, rl, rg) → wX_dropTuples_21 post (nI s) key (nI (40 * s)) (nI (40 * s + m)) rc (d + 1) (nI (40 * s + q)) (nI (40 * s + i)) tk' tv' hc cm rk rp rs rl rg := by
  intro d
  have hS : vp_in (nI s) 2 := vp_in_nI hs (by decide)
  have eS : (nI s).toNatClampNeg = s := nI_clamp (by omega)
  induction d with
  | zero =>
    intro i q tk' tv' hi h
    have e : i = m := by omega
    subst e
    refine ⟨q, tk', tv', h, fun post rc hc cm rk rp rs rl rg hp => br_t (nI_le (Nat.le_refl _) (by omega)) ⟨hS, nm_r (e' := upd hc s (nI q)) ?_ hp⟩⟩
    rw [eS, pk_sub (by omega), Nat.add_sub_cancel_left]
  | succ d ih =>
    intro i q tk' tv' hi h
    have hq := h.1
    have hb : vp_in (nI (40 * s + i)) 80 := vp_in_nI (by omega) (by decide)
    have hq' : vp_in (nI (40 * s + q)) 80 := vp_in_nI (by omega) (by decide)
    have hn : ¬ (nI (40 * s + m) ≤ nI (40 * s + i)) := nI_ge (by omega) (by omega)
    have ec : (nI (40 * s + i)).toNatClampNeg = 40 * s + i := nI_clamp (by omega)
    have eq : (nI (40 * s + q)).toNatClampNeg = 40 * s + q := nI_clamp (by omega)
    by_cases e : tk' (40 * s + i) = key
    · obtain ⟨q2, tk2, tv2, hD, hW⟩ := ih (i + 1) q tk' tv' (by omega) (pq_Dr_d h e)
      refine ⟨q2, tk2, tv2, hD, fun post rc hc cm rk rp rs rl rg hp => br_f hn ⟨hb, ?_⟩⟩
      rw [ec]
      exact br_t e (nm_r (nI_1 _) (hW post rc hc cm rk rp rs rl rg hp))
    · obtain ⟨q2, tk2, tv2, hD, hW⟩ := ih (i + 1) (q + 1) _ _ (by omega) (pq_Dr_k h e)
      refine ⟨q2, tk2, tv2, hD, fun post rc hc cm rk rp rs rl rg hp => br_f hn ⟨hb, ?_⟩⟩
      rw [ec, eq]
      exact br_f e ⟨hb, hq', nm_e ⟨hb, hq', nm_e (nm_r (nI_1 _) (nm_r (nI_1 _) (hW post rc hc cm rk rp rs rl rg hp)))⟩⟩
theorem xq_dr {s m : Nat} (key : Int32) (tk tv : Nat → Int32) (hs : s < 2) (hm : m ≤ 40) : ∃ (q2 : Nat) (tk2 tv2 : Nat → Int32), pq_Dr tk tv (40 * s) m q2 key tk2 tv2 ∧ ∀ (post : SX → Prop) (rc : Int32) (hc cm rk rp rs rl rg : Nat → Int32), hc s = nI m → post (rc, tk2, tv2, upd hc s (nI q2), cm, rk, rp, rs, rl, rg) → wpX_dropTuples post (rc, tk, tv, hc, cm, rk, rp, rs, rl, rg) (nI s) key := by
  have hS : vp_in (nI s) 2 := vp_in_nI hs (by decide)
  have eS : (nI s).toNatClampNeg = s := nI_clamp (by omega)
  obtain ⟨q2, tk2, tv2, hD, hW⟩ := xq_dr_l (key := key) (tk := tk) (tv := tv) hs hm m 0 0 tk tv (by omega) (pq_Dr_0 tk tv (40 * s) key)
  refine ⟨q2, tk2, tv2, hD, fun post rc hc cm rk rp rs rl rg hh hp => nm_r (xq_40 s) ⟨hS, nm_r (e' := nI (40 * s + m)) ?_ ⟨m + 1, hW post rc hc cm rk rp rs rl rg hp⟩⟩⟩
  rw [eS, hh, nI_add]
theorem xq_d2 {m0 m1 : Nat} (key : Int32) (tk tv hc : Nat → Int32) (h0 : hc 0 = nI m0) (b0 : m0 ≤ 40) (h1 : hc 1 = nI m1) (b1 : m1 ≤ 40) : ∃ (q0 q1 : Nat) (tk' tv' : Nat → Int32), q0 ≤ 40 ∧ q1 ≤ 40 ∧ pq_L tk' tv' 0 q0 = pq_fl key (pq_L tk tv 0 m0) ∧ pq_L tk' tv' 40 q1 = pq_fl key (pq_L tk tv 40 m1) ∧ ∀ (post : SX → Prop) (rc : Int32) (cm rk rp rs rl rg : Nat → Int32), post (rc, tk', tv', upd (upd hc 0 (nI q0)) 1 (nI q1), cm, rk, rp, rs, rl, rg) → wX_finishKey_13 post key rc tk tv hc cm rk rp rs rl rg := by
  obtain ⟨q0, tk1, tv1, ⟨d1, d2, d3⟩, hW1⟩ := xq_dr (s := 0) key tk tv (by decide) b0
  obtain ⟨q1, tk2, tv2, ⟨g1, g2, g3⟩, hW2⟩ := xq_dr (s := 1) key tk1 tv1 (by decide) b1
  rw [show 40 * 0 = 0 from rfl] at d2 d3
  rw [show 40 * 1 = 40 from rfl] at g2 g3
  refine ⟨q0, q1, tk2, tv2, by omega, by omega, ?_, ?_, ?_⟩
  · rw [pq_L_congr (tk' := tk1) (tv' := tv1) q0 0 (fun j _ h2 => g3 j (Or.inl (by omega)))]
    exact d2
  · rw [g2, pq_L_congr (tk' := tk) (tv' := tv) m1 40 (fun j h1 _ => d3 j (Or.inr (by omega)))]
    rfl
  · intro post rc cm rk rp rs rl rg hp
    unfold wX_finishKey_13
    refine hW1 _ rc hc cm rk rp rs rl rg h0 ?_
    refine hW2 _ rc _ cm rk rp rs rl rg ?_ ?_
    · rw [pk_un (by decide)]; exact h1
    · exact hp
theorem yq_da_l {s : Nat} {key : Int32} (hs : s < 2) : ∀ (r c : Nat) (yc yk yv : Nat → Int32), yc s = nI c → c ≤ 40 → r ≤ 40 → (∀ q, r ≤ q → q < c → ¬ yk (40 * s + q) = key) → ∃ (c2 : Nat) (yc2 yk2 yv2 : Nat → Int32), c2 ≤ c ∧ yc2 s = nI c2 ∧ (∀ q, q ≠ s → yc2 q = yc q) ∧ pq_L yk2 yv2 (40 * s) c2 = pq_fl key (pq_L yk yv (40 * s) c) ∧ (∀ q, (q < 40 * s ∨ 40 * s + 40 ≤ q) → yk2 q = yk q ∧ yv2 q = yv q) ∧ ∀ (post : SY → Prop) (yr yp ys yl yg : Int32) (cm qk qp qs ql qg : Nat → Int32), post (yr, yp, ys, yl, yg, yc2, yk2, yv2, cm, qk, qp, qs, ql, qg) → wY_dropAll_3 post (nI s) key (r + 1) (nI r + (-1)) yr yp ys yl yg yc yk yv cm qk qp qs ql qg := by
  intro r
  have hS : vp_in (nI s) 2 := vp_in_nI hs (by decide)
  have eS : (nI s).toNatClampNeg = s := nI_clamp (by omega)
  induction r with
  | zero =>
    intro c yc yk yv hh hc hr hk
    refine ⟨c, yc, yk, yv, Nat.le_refl c, hh, fun q _ => rfl, ?_, fun q _ => ⟨rfl, rfl⟩, fun post yr yp ys yl yg cm qk qp qs ql qg hp => br_t (by decide) hp⟩
    refine (pq_fl_id (fun p hp => ?_)).symm
    obtain ⟨j, j1, j2, e⟩ := pq_L_mem _ _ hp
    rw [e]
    have h := hk (j - 40 * s) (by omega) (by omega)
    rw [show 40 * s + (j - 40 * s) = j by omega] at h
    exact h
  | succ r ih =>
    intro c yc yk yv hh hc hr hk
    have hp0 : ¬ (nI r < 0) := nI_pos (by omega)
    by_cases hcr : c ≤ r
    · obtain ⟨c2, yc2, yk2, yv2, k1, k2, k3, k4, k5, hW⟩ := ih c yc yk yv hh hc (by omega) (fun q h1 h2 => absurd h2 (by omega))
      refine ⟨c2, yc2, yk2, yv2, k1, k2, k3, k4, k5, fun post yr yp ys yl yg cm qk qp qs ql qg hp => ?_⟩
      rw [pk_m1]
      refine br_f hp0 ⟨hS, br_t ?_ (nm_e (hW post yr yp ys yl yg cm qk qp qs ql qg hp))⟩
      rw [eS, hh]; exact nI_le hcr (by omega)
    · have hb : vp_in (nI (40 * s + r)) 80 := vp_in_nI (by omega) (by decide)
      have ec : (nI (40 * s + r)).toNatClampNeg = 40 * s + r := nI_clamp (by omega)
      have hn : ¬ (yc (nI s).toNatClampNeg ≤ nI r) := by rw [eS, hh]; exact nI_ge (by omega) (by omega)
      by_cases e : yk (40 * s + r) = key
      · obtain ⟨d, rfl⟩ : ∃ d, c = r + d + 1 := ⟨c - r - 1, by omega⟩
        obtain ⟨c2, yc2, yk2, yv2, k1, k2, k3, k4, k5, hW⟩ := ih (r + d) (upd yc s (nI (r + d))) (pq_sh yk (40 * s + r) (40 * s + (r + d))) (pq_sh yv (40 * s + r) (40 * s + (r + d))) pk_us (by omega) (by omega) (fun q h1 h2 => by
          rw [pq_sh_in (by omega)]
          exact hk (q + 1) (by omega) (by omega))
        refine ⟨c2, yc2, yk2, yv2, by omega, k2, fun q hq => by rw [k3 q hq, pk_un hq], ?_, fun q hq => ?_, fun post yr yp ys yl yg cm qk qp qs ql qg hp => ?_⟩
        · rw [k4, pq_L_sh, pq_L_at, pq_fl_out]
          exact e
        · have h := k5 q hq
          rw [pq_sh_out (by omega), pq_sh_out (by omega)] at h
          exact h
        · rw [pk_m1]
          refine br_f hp0 ⟨hS, br_f hn ?_⟩
          rw [yq_40i, ec]
          refine ⟨hb, br_t e ?_⟩
          refine yq_to hs hh hc (by omega) ?_
          exact nm_e (hW post yr yp ys yl yg cm qk qp qs ql qg hp)
      · obtain ⟨c2, yc2, yk2, yv2, k1, k2, k3, k4, k5, hW⟩ := ih c yc yk yv hh hc (by omega) (fun q h1 h2 => by
          by_cases hq : q = r
          · rw [hq]; exact e
          · exact hk q (by omega) h2)
        refine ⟨c2, yc2, yk2, yv2, k1, k2, k3, k4, k5, fun post yr yp ys yl yg cm qk qp qs ql qg hp => ?_⟩
        rw [pk_m1]
        refine br_f hp0 ⟨hS, br_f hn ?_⟩
        rw [yq_40i, ec]
        exact ⟨hb, br_f e (nm_e (hW post yr yp ys yl yg cm qk qp qs ql qg hp))⟩
theorem yq_da {s c : Nat} (key : Int32) (yc yk yv : Nat → Int32) (hs : s < 2) (hh : yc s = nI c) (hc : c ≤ 40) : ∃ (c2 : Nat) (yc2 yk2 yv2 : Nat → Int32), c2 ≤ c ∧ yc2 s = nI c2 ∧ (∀ q, q ≠ s → yc2 q = yc q) ∧ pq_L yk2 yv2 (40 * s) c2 = pq_fl key (pq_L yk yv (40 * s) c) ∧ (∀ q, (q < 40 * s ∨ 40 * s + 40 ≤ q) → yk2 q = yk q ∧ yv2 q = yv q) ∧ ∀ (post : SY → Prop) (yr yp ys yl yg : Int32) (cm qk qp qs ql qg : Nat → Int32), post (yr, yp, ys, yl, yg, yc2, yk2, yv2, cm, qk, qp, qs, ql, qg) → wpY_dropAll post (yr, yp, ys, yl, yg, yc, yk, yv, cm, qk, qp, qs, ql, qg) (nI s) key := by
  obtain ⟨c2, yc2, yk2, yv2, k1, k2, k3, k4, k5, hW⟩ := yq_da_l (key := key) hs 40 c yc yk yv hh hc (Nat.le_refl 40) (fun q h1 h2 => absurd h2 (by omega))
  refine ⟨c2, yc2, yk2, yv2, k1, k2, k3, k4, k5, fun post yr yp ys yl yg cm qk qp qs ql qg hp => ⟨41, ?_⟩⟩
  have h := hW post yr yp ys yl yg cm qk qp qs ql qg hp
  rw [show nI 40 + (-1) = (39 : Int32) by decide] at h
  exact h
theorem yq_d2 {m0 m1 : Nat} (key : Int32) (yc yk yv : Nat → Int32) (h0 : yc 0 = nI m0) (b0 : m0 ≤ 40) (h1 : yc 1 = nI m1) (b1 : m1 ≤ 40) : ∃ (c0 c1 : Nat) (yc2 yk2 yv2 : Nat → Int32), yc2 0 = nI c0 ∧ yc2 1 = nI c1 ∧ pq_L yk2 yv2 0 c0 = pq_fl key (pq_L yk yv 0 m0) ∧ pq_L yk2 yv2 40 c1 = pq_fl key (pq_L yk yv 40 m1) ∧ ∀ (post : SY → Prop) (yr yp ys yl yg : Int32) (cm qk qp qs ql qg : Nat → Int32), post (yr, yp, ys, yl, yg, yc2, yk2, yv2, cm, qk, qp, qs, ql, qg) → wY_finish_93 post key yr yp ys yl yg yc yk yv cm qk qp qs ql qg := by
  obtain ⟨c0, ya, yka, yva, k1, k2, k3, k4, k5, hW1⟩ := yq_da (s := 0) key yc yk yv (by decide) h0 b0
  obtain ⟨c1, yb, ykb, yvb, g1, g2, g3, g4, g5, hW2⟩ := yq_da (s := 1) key ya yka yva (by decide) ((k3 1 (by decide)).trans h1) b1
  rw [show 40 * 0 = 0 from rfl] at k4 k5
  rw [show 40 * 1 = 40 from rfl] at g4 g5
  refine ⟨c0, c1, yb, ykb, yvb, (g3 0 (by decide)).trans k2, g2, ?_, ?_, ?_⟩
  · rw [pq_L_congr (tk' := yka) (tv' := yva) c0 0 (fun j _ h2 => g5 j (Or.inl (by omega)))]
    exact k4
  · rw [g4, pq_L_congr (tk' := yk) (tv' := yv) m1 40 (fun j h1 _ => k5 j (Or.inr (by omega)))]
  · intro post yr yp ys yl yg cm qk qp qs ql qg hp
    unfold wY_finish_93
    refine hW1 _ yr yp ys yl yg cm qk qp qs ql qg ?_
    exact hW2 _ yr yp ys yl yg cm qk qp qs ql qg hp
section
variable {rc : Int32} {tk tv hc cm rk rp rs rl rg : Nat → Int32} {yr yp ys yl yg : Int32} {yc yk yv qk qp qs ql qg : Nat → Int32}
theorem xq_rt_l {s m : Nat} {k v : Int32} (hs : s < 2) (hh : hc s = nI m) (hm : m ≤ 40) : ∀ (d i : Nat), i + d = m → ((∀ q, i ≤ q → q < m → ¬ (tk (40 * s + q) = k ∧ tv (40 * s + q) = v)) ∧ ∀ post : Int32 → SX → Prop, post (-3) (rc, tk, tv, hc, cm, rk, rp, rs, rl, rg) → wX_retract_40 post (nI s) k v (nI (40 * s + m)) rc tk tv hc cm rk rp rs rl rg (d + 1) (nI (40 * s + i))) ∨ (∃ q, i ≤ q ∧ q < m ∧ tk (40 * s + q) = k ∧ tv (40 * s + q) = v ∧ ∀ post : Int32 → SX → Prop, post (nI (m - 1)) (rc, upd tk (40 * s + q) (tk (40 * s + (m - 1))), upd tv (40 * s + q) (tv (40 * s + (m - 1))), upd hc s (nI (m - 1)), cm, rk, rp, rs, rl, rg) → wX_retract_40 post (nI s) k v (nI (40 * s + m)) rc tk tv hc cm rk rp rs rl rg (d + 1) (nI (40 * s + i))) := by
  intro d
  have hS : vp_in (nI s) 2 := vp_in_nI hs (by decide)
  have eS : (nI s).toNatClampNeg = s := nI_clamp (by omega)
  induction d with
  | zero =>
    intro i hi
    exact Or.inl ⟨fun q h1 h2 => absurd h2 (by omega), fun post hp => br_t (nI_le (by omega) (by omega)) hp⟩
  | succ d ih =>
    intro i hi
    have hb : vp_in (nI (40 * s + i)) 80 := vp_in_nI (by omega) (by decide)
    have hl : vp_in (nI (40 * s + (m - 1))) 80 := vp_in_nI (by omega) (by decide)
    have hn : ¬ (nI (40 * s + m) ≤ nI (40 * s + i)) := nI_ge (by omega) (by omega)
    have ec : (nI (40 * s + i)).toNatClampNeg = 40 * s + i := nI_clamp (by omega)
    have el : (nI (40 * s + (m - 1))).toNatClampNeg = 40 * s + (m - 1) := nI_clamp (by omega)
    have e5 : nI (40 * s + m) - 1 = nI (40 * s + (m - 1)) := by
      rw [show 40 * s + m = (40 * s + (m - 1)) + 1 by omega, nI_pred]
    have eH : upd hc (nI s).toNatClampNeg (hc (nI s).toNatClampNeg - 1) = upd hc s (nI (m - 1)) := by
      rw [eS, hh, show m = (m - 1) + 1 by omega, nI_pred]; rfl
    by_cases e1 : tk (40 * s + i) = k
    · by_cases e2 : tv (40 * s + i) = v
      · refine Or.inr ⟨i, Nat.le_refl i, by omega, e1, e2, fun post hp => br_f hn ?_⟩
        rw [e5, ec, el]
        exact ⟨hb, br_t e1 ⟨hb, br_t e2 ⟨hl, hb, nm_e ⟨hl, hb, nm_e ⟨hS, hS, nm_r eH ⟨hS, by rw [eS, pk_us]; exact hp⟩⟩⟩⟩⟩⟩
      · rcases ih (i + 1) (by omega) with ⟨hN, hW⟩ | ⟨q, q1, q2, q3, q4, hW⟩
        · refine Or.inl ⟨fun q h1 h2 => ?_, fun post hp => br_f hn ?_⟩
          · by_cases hq : q = i
            · rw [hq]; exact fun z => e2 z.2
            · exact hN q (by omega) h2
          · rw [ec]
            exact ⟨hb, br_t e1 ⟨hb, br_f e2 (nm_r (nI_1 _) (hW post hp))⟩⟩
        · refine Or.inr ⟨q, by omega, q2, q3, q4, fun post hp => br_f hn ?_⟩
          rw [ec]
          exact ⟨hb, br_t e1 ⟨hb, br_f e2 (nm_r (nI_1 _) (hW post hp))⟩⟩
    · rcases ih (i + 1) (by omega) with ⟨hN, hW⟩ | ⟨q, q1, q2, q3, q4, hW⟩
      · refine Or.inl ⟨fun q h1 h2 => ?_, fun post hp => br_f hn ?_⟩
        · by_cases hq : q = i
          · rw [hq]; exact fun z => e1 z.1
          · exact hN q (by omega) h2
        · rw [ec]
          exact ⟨hb, br_f e1 (nm_r (nI_1 _) (hW post hp))⟩
      · refine Or.inr ⟨q, by omega, q2, q3, q4, fun post hp => br_f hn ?_⟩
        rw [ec]
        exact ⟨hb, br_f e1 (nm_r (nI_1 _) (hW post hp))⟩
theorem yq_rt_l {s m : Nat} {k v : Int32} (hs : s < 2) (hh : yc s = nI m) (hm : m ≤ 40) : ∀ (d i : Nat), i + d = m → ((∀ q, i ≤ q → q < m → ¬ (yk (40 * s + q) = k ∧ yv (40 * s + q) = v)) ∧ ∀ post : Int32 → SY → Prop, post (-3) (yr, yp, ys, yl, yg, yc, yk, yv, cm, qk, qp, qs, ql, qg) → wY_retract_24 post (nI s) k v yr yp ys yl yg yc yk yv cm qk qp qs ql qg (d + 1) (nI i)) ∨ (∃ q, i ≤ q ∧ q < m ∧ yk (40 * s + q) = k ∧ yv (40 * s + q) = v ∧ ∀ post : Int32 → SY → Prop, post (nI (m - 1)) (yr, yp, ys, yl, yg, upd yc s (nI (m - 1)), pq_sh yk (40 * s + q) (40 * s + (m - 1)), pq_sh yv (40 * s + q) (40 * s + (m - 1)), cm, qk, qp, qs, ql, qg) → wY_retract_24 post (nI s) k v yr yp ys yl yg yc yk yv cm qk qp qs ql qg (d + 1) (nI i)) := by
  intro d
  have hS : vp_in (nI s) 2 := vp_in_nI hs (by decide)
  have eS : (nI s).toNatClampNeg = s := nI_clamp (by omega)
  induction d with
  | zero =>
    intro i hi
    refine Or.inl ⟨fun q h1 h2 => absurd h2 (by omega), fun post hp => ⟨hS, br_t ?_ hp⟩⟩
    rw [eS, hh]; exact nI_le (by omega) (by omega)
  | succ d ih =>
    intro i hi
    have hb : vp_in (nI (40 * s + i)) 80 := vp_in_nI (by omega) (by decide)
    have hn : ¬ (yc (nI s).toNatClampNeg ≤ nI i) := by rw [eS, hh]; exact nI_ge (by omega) (by omega)
    have h40 : ¬ ((40 : Int32) ≤ nI i) := nI_ge (b := 40) (by omega) (by decide)
    have ec : (nI (40 * s + i)).toNatClampNeg = 40 * s + i := nI_clamp (by omega)
    have hh' : yc s = nI ((m - 1) + 1) := by rw [hh, show (m - 1) + 1 = m by omega]
    by_cases e1 : yk (40 * s + i) = k
    · by_cases e2 : yv (40 * s + i) = v
      · refine Or.inr ⟨i, Nat.le_refl i, by omega, e1, e2, fun post hp => ⟨hS, br_f hn (br_f h40 ?_)⟩⟩
        rw [yq_40i, ec]
        refine ⟨hb, br_t e1 ⟨hb, br_t e2 ?_⟩⟩
        refine yq_to hs hh' (by omega) (by omega) ?_
        refine ⟨hS, ?_⟩
        rw [eS, pk_us]
        exact hp
      · rcases ih (i + 1) (by omega) with ⟨hN, hW⟩ | ⟨q, q1, q2, q3, q4, hW⟩
        · refine Or.inl ⟨fun q h1 h2 => ?_, fun post hp => ⟨hS, br_f hn (br_f h40 ?_)⟩⟩
          · by_cases hq : q = i
            · rw [hq]; exact fun z => e2 z.2
            · exact hN q (by omega) h2
          · rw [yq_40i, ec]
            exact ⟨hb, br_t e1 ⟨hb, br_f e2 (nm_r (nI_1 _) (hW post hp))⟩⟩
        · refine Or.inr ⟨q, by omega, q2, q3, q4, fun post hp => ⟨hS, br_f hn (br_f h40 ?_)⟩⟩
          rw [yq_40i, ec]
          exact ⟨hb, br_t e1 ⟨hb, br_f e2 (nm_r (nI_1 _) (hW post hp))⟩⟩
    · rcases ih (i + 1) (by omega) with ⟨hN, hW⟩ | ⟨q, q1, q2, q3, q4, hW⟩
      · refine Or.inl ⟨fun q h1 h2 => ?_, fun post hp => ⟨hS, br_f hn (br_f h40 ?_)⟩⟩
        · by_cases hq : q = i
          · rw [hq]; exact fun z => e1 z.1
          · exact hN q (by omega) h2
        · rw [yq_40i, ec]
          exact ⟨hb, br_f e1 (nm_r (nI_1 _) (hW post hp))⟩
      · refine Or.inr ⟨q, by omega, q2, q3, q4, fun post hp => ⟨hS, br_f hn (br_f h40 ?_)⟩⟩
        rw [yq_40i, ec]
        exact ⟨hb, br_f e1 (nm_r (nI_1 _) (hW post hp))⟩
end
end
section
/-- stream s on both sides: the same tuples in some order, small values -/
def pq_St (tk tv hc yk yv yc : Nat → Int32) (s : Nat) : Prop :=
  ∃ n : Nat, n ≤ 40 ∧ hc s = nI n ∧ yc s = nI n ∧ List.Perm (pq_L tk tv (40 * s) n) (pq_L yk yv (40 * s) n) ∧ ∀ p, p ∈ pq_L tk tv (40 * s) n → pq_sml p.2
def pq_K (rc : Int32) (tk tv hc cm yc yk yv : Nat → Int32) : Prop :=
  (∃ m : Nat, rc = nI m ∧ m ≤ pq_fc cm 16) ∧ (∀ s, s < 2 → pq_St tk tv hc yk yv yc s) ∧ ∀ j, cm j = 0 ∨ cm j = 1
def pq_RR (u : SX) (v : SY) : Prop :=
  ∃ (rc : Int32) (tk tv hc cm rk rp rs rl rg : Nat → Int32) (yp ys yl yg : Int32) (yc yk yv : Nat → Int32), u = (rc, tk, tv, hc, cm, rk, rp, rs, rl, rg) ∧ v = (rc, yp, ys, yl, yg, yc, yk, yv, cm, rk, rp, rs, rl, rg) ∧ pq_K rc tk tv hc cm yc yk yv
def i_Rel (_ : Nat) (u : SX) (v : SY) : Prop := pq_RR u v
theorem i_up {k : Nat} {u : SX} {v : SY} (h : i_Rel k u v) : i_Rel (k + 4) u v := h
theorem i_vc0 : wpX_init (fun u => wpY_init (fun v => i_Rel 0 u v)) := by
  refine ⟨0, _, _, _, _, _, _, _, _, _, 0, 0, 0, 0, _, _, _, rfl, rfl, ⟨0, rfl, by omega⟩, fun s hs => ?_, fun j => Or.inl rfl⟩
  refine ⟨0, by omega, rfl, rfl, ?_, fun p hp => ?_⟩
  · exact List.Perm.refl _
  · rw [pq_L_0] at hp; simp at hp
theorem pq_St_fr {tk tv hc yk yv yc tk' tv' hc' yk' yv' yc' : Nat → Int32} {s : Nat} (h : pq_St tk tv hc yk yv yc s) (h1 : ∀ q, 40 * s ≤ q → q < 40 * s + 40 → tk' q = tk q ∧ tv' q = tv q) (h2 : ∀ q, 40 * s ≤ q → q < 40 * s + 40 → yk' q = yk q ∧ yv' q = yv q) (h3 : hc' s = hc s) (h4 : yc' s = yc s) : pq_St tk' tv' hc' yk' yv' yc' s := by
  obtain ⟨n, b, g1, g2, g3, g4⟩ := h
  have e1 : pq_L tk' tv' (40 * s) n = pq_L tk tv (40 * s) n := pq_L_congr n _ (fun j a1 a2 => h1 j a1 (by omega))
  have e2 : pq_L yk' yv' (40 * s) n = pq_L yk yv (40 * s) n := pq_L_congr n _ (fun j a1 a2 => h2 j a1 (by omega))
  refine ⟨n, b, h3.trans g1, h4.trans g2, ?_, ?_⟩
  · rw [e1, e2]; exact g3
  · rw [e1]; exact g4
theorem pq_str (x : Int32) : (∃ s, s < 2 ∧ x = nI s ∧ (∀ post : Int32 → Prop, post 1 → wpX_isStream post x) ∧ (∀ (post : Int32 → Prop) (v : SY), post 0 → wpY_badStream post v x)) ∨ ((∀ post : Int32 → Prop, post 0 → wpX_isStream post x) ∧ (∀ (post : Int32 → Prop) (v : SY), post 1 → wpY_badStream post v x)) := by
  rcases pk_ix x (n := 2) (by decide) with h | h | ⟨j, hj, rfl⟩
  · exact Or.inr ⟨fun post hp => br_t h hp, fun post v hp => by
      obtain ⟨a1, a2, a3, a4, a5, a6, a7, a8, a9, a10, a11, a12, a13, a14⟩ := v
      exact br_t h hp⟩
  · have h0 : ¬ x < 0 := fun z => absurd (Int32.lt_of_le_of_lt h z) (by decide)
    have h1 : ¬ x ≤ 1 := fun z => absurd (Int32.le_trans h z) (by decide)
    exact Or.inr ⟨fun post hp => br_f h0 (br_t h hp), fun post v hp => by
      obtain ⟨a1, a2, a3, a4, a5, a6, a7, a8, a9, a10, a11, a12, a13, a14⟩ := v
      exact br_f h0 (br_f h1 hp)⟩
  · have h0 : ¬ nI j < 0 := nI_pos (by omega)
    have h2 : ¬ (2 : Int32) ≤ nI j := nI_ge (b := 2) hj (by decide)
    have h1 : nI j ≤ 1 := nI_le (b := 1) (by omega) (by decide)
    exact Or.inl ⟨j, hj, rfl, fun post hp => br_f h0 (br_f h2 hp), fun post v hp => by
      obtain ⟨a1, a2, a3, a4, a5, a6, a7, a8, a9, a10, a11, a12, a13, a14⟩ := v
      exact br_f h0 (br_t h1 hp)⟩
theorem pq_key (x : Int32) : (∃ s, s < 16 ∧ x = nI s ∧ (∀ post : Int32 → Prop, post 1 → wpX_isKey post x) ∧ (∀ (post : Int32 → Prop) (v : SY), post 0 → wpY_badKey post v x)) ∨ ((∀ post : Int32 → Prop, post 0 → wpX_isKey post x) ∧ (∀ (post : Int32 → Prop) (v : SY), post 1 → wpY_badKey post v x)) := by
  rcases pk_ix x (n := 16) (by decide) with h | h | ⟨j, hj, rfl⟩
  · exact Or.inr ⟨fun post hp => br_t h hp, fun post v hp => by
      obtain ⟨a1, a2, a3, a4, a5, a6, a7, a8, a9, a10, a11, a12, a13, a14⟩ := v
      exact br_t h hp⟩
  · have h0 : ¬ x < 0 := fun z => absurd (Int32.lt_of_le_of_lt h z) (by decide)
    have h1 : ¬ x ≤ 15 := fun z => absurd (Int32.le_trans h z) (by decide)
    exact Or.inr ⟨fun post hp => br_f h0 (br_t h hp), fun post v hp => by
      obtain ⟨a1, a2, a3, a4, a5, a6, a7, a8, a9, a10, a11, a12, a13, a14⟩ := v
      exact br_f h0 (br_f h1 hp)⟩
  · have h0 : ¬ nI j < 0 := nI_pos (by omega)
    have h2 : ¬ (16 : Int32) ≤ nI j := nI_ge (b := 16) hj (by decide)
    have h1 : nI j ≤ 15 := nI_le (b := 15) (by omega) (by decide)
    exact Or.inl ⟨j, hj, rfl, fun post hp => br_f h0 (br_f h2 hp), fun post v hp => by
      obtain ⟨a1, a2, a3, a4, a5, a6, a7, a8, a9, a10, a11, a12, a13, a14⟩ := v
      exact br_f h0 (br_t h1 hp)⟩
theorem xq_16 (s k : Nat) : nI s * 16 + nI k = nI (16 * s + k) := by
  rw [show (16 : Int32) = nI 16 from rfl, pk_mul, nI_add, Nat.mul_comm]
theorem yq_16 (s k : Nat) : (16 : Int32) * nI s + nI k = nI (16 * s + k) := by
  rw [show (16 : Int32) = nI 16 from rfl, pk_mul, nI_add]
theorem yq_a16 (k : Nat) : (16 : Int32) + nI k = nI (16 + k) := nI_add 16 k
def pq_fi (cm : Nat → Int32) (k : Nat) : Int32 := if cm k = 0 then 0 else if cm (16 + k) = 0 then 0 else 1
section
variable {rc : Int32} {tk tv hc cm rk rp rs rl rg : Nat → Int32} {yr yp ys yl yg : Int32} {yc yk yv qk qp qs ql qg : Nat → Int32}
theorem xq_cl {post : Int32 → Prop} {s k : Nat} (hs : s < 2) (hk : k < 16) (hb : ∀ j, cm j = 0 ∨ cm j = 1) (hp : post (cm (16 * s + k))) : wpX_isClosed post (rc, tk, tv, hc, cm, rk, rp, rs, rl, rg) (nI s) (nI k) := by
  unfold wpX_isClosed
  dsimp only
  rw [xq_16, nI_clamp (by omega)]
  refine ⟨vp_in_nI (by omega) (by decide), ?_, hp⟩
  rcases hb (16 * s + k) with h | h <;> rw [h] <;> rfl
theorem xq_fi {post : Int32 → Prop} {k : Nat} (hk : k < 16) (hb : ∀ j, cm j = 0 ∨ cm j = 1) (hp : post (pq_fi cm k)) : wpX_isFinished post (rc, tk, tv, hc, cm, rk, rp, rs, rl, rg) (nI k) := by
  unfold wpX_isFinished
  dsimp only
  unfold pq_fi at hp
  refine xq_cl (s := 0) (by decide) hk hb ?_
  rw [show 16 * 0 + k = k by omega]
  by_cases e : cm k = 0
  · rw [if_pos e] at hp
    exact br_t e hp
  · rw [if_neg e] at hp
    refine br_f e ?_
    refine xq_cl (s := 1) (by decide) hk hb ?_
    rw [show 16 * 1 + k = 16 + k by omega]
    by_cases e' : cm (16 + k) = 0
    · rw [if_pos e'] at hp
      exact br_t e' hp
    · rw [if_neg e'] at hp
      exact br_f e' hp
theorem yq_fi {post : Int32 → Prop} {k : Nat} (hk : k < 16) (hp : post (pq_fi cm k)) : wpY_finished post (yr, yp, ys, yl, yg, yc, yk, yv, cm, qk, qp, qs, ql, qg) (nI k) := by
  unfold wpY_finished
  dsimp only
  unfold pq_fi at hp
  rw [nI_clamp (n := k) (by omega), yq_a16, nI_clamp (by omega)]
  refine ⟨vp_in_nI (by omega) (by decide), ?_⟩
  by_cases e : cm k = 0
  · rw [if_pos e] at hp
    exact br_t e hp
  · rw [if_neg e] at hp
    refine br_f e ⟨vp_in_nI (by omega) (by decide), ?_⟩
    by_cases e' : cm (16 + k) = 0
    · rw [if_pos e'] at hp
      exact br_t e' hp
    · rw [if_neg e'] at hp
      exact br_f e' hp
theorem pq_bd_l {g : Nat} (hg : g < 4) (hb : ∀ j, cm j = 0 ∨ cm j = 1) : ∀ (d k : Nat), k + d = 4 * g + 4 → ∃ r : Int32, (∀ post : Int32 → Prop, post r → wX_isBandFinished_6 post (nI (4 * g)) rc tk tv hc cm rk rp rs rl rg (d + 1) (nI k)) ∧ (∀ post : Int32 → Prop, post r → wY_bandDone_4 post (nI g) yr yp ys yl yg yc yk yv cm qk qp qs ql qg (d + 1) (nI k)) := by
  intro d
  have eX : nI (4 * g) + 4 = nI (4 * g + 4) := nI_add (4 * g) 4
  have eY : (4 : Int32) * nI g + 4 = nI (4 * g + 4) := by
    rw [show (4 : Int32) = nI 4 from rfl, pk_mul, nI_add]
  induction d with
  | zero =>
    intro k hk
    refine ⟨1, fun post hp => br_t ?_ hp, fun post hp => br_t ?_ hp⟩
    · rw [eX]; exact nI_le (by omega) (by omega)
    · rw [eY]; exact nI_le (by omega) (by omega)
  | succ d ih =>
    intro k hk
    have nX : ¬ (nI (4 * g) + 4 ≤ nI k) := by rw [eX]; exact nI_ge (by omega) (by omega)
    have nY : ¬ ((4 : Int32) * nI g + 4 ≤ nI k) := by rw [eY]; exact nI_ge (by omega) (by omega)
    by_cases e : pq_fi cm k = 0
    · exact ⟨0, fun post hp => br_f nX (xq_fi (by omega) hb (br_t e hp)), fun post hp => br_f nY (yq_fi (by omega) (br_t e hp))⟩
    · obtain ⟨r, hX, hY⟩ := ih (k + 1) (by omega)
      exact ⟨r, fun post hp => br_f nX (xq_fi (by omega) hb (br_f e (nm_r (nI_1 k) (hX post hp)))), fun post hp => br_f nY (yq_fi (by omega) (br_f e (nm_r (nI_1 k) (hY post hp))))⟩
theorem pq_bd {g : Nat} (hg : g < 4) (hb : ∀ j, cm j = 0 ∨ cm j = 1) : ∃ r : Int32, (∀ post : Int32 → Prop, post r → wpX_isBandFinished post (rc, tk, tv, hc, cm, rk, rp, rs, rl, rg) (nI g)) ∧ (∀ post : Int32 → Prop, post r → wpY_bandDone post (yr, yp, ys, yl, yg, yc, yk, yv, cm, qk, qp, qs, ql, qg) (nI g)) := by
  obtain ⟨r, hX, hY⟩ := pq_bd_l (rc := rc) (tk := tk) (tv := tv) (hc := hc) (cm := cm) (rk := rk) (rp := rp) (rs := rs) (rl := rl) (rg := rg) (yr := yr) (yp := yp) (ys := ys) (yl := yl) (yg := yg) (yc := yc) (yk := yk) (yv := yv) (qk := qk) (qp := qp) (qs := qs) (ql := ql) (qg := qg) hg hb 4 (4 * g) rfl
  refine ⟨r, fun post hp => nm_r (e' := nI (4 * g)) ?_ ⟨5, hX post hp⟩, fun post hp => nm_r (e' := nI (4 * g)) ?_ ⟨5, hY post hp⟩⟩
  · rw [show (4 : Int32) = nI 4 from rfl, pk_mul, Nat.mul_comm]
  · rw [show (4 : Int32) = nI 4 from rfl, pk_mul]
theorem pq_bf_l (hb : ∀ j, cm j = 0 ∨ cm j = 1) : ∀ (d g : Nat) (x : Int32), g + d = 4 → ∃ r : Int32, (∀ post : Int32 → Prop, post r → wX_bandsFinished_4 post rc tk tv hc cm rk rp rs rl rg (d + 1) x (nI g)) ∧ (∀ post : Int32 → Prop, post r → wY_bandsFinished_4 post yr yp ys yl yg yc yk yv cm qk qp qs ql qg (d + 1) x (nI g)) := by
  intro d
  induction d with
  | zero =>
    intro g x hg
    have h4 : (4 : Int32) ≤ nI g := nI_le (a := 4) (by omega) (by omega)
    exact ⟨x, fun post hp => br_t h4 hp, fun post hp => br_t h4 hp⟩
  | succ d ih =>
    intro g x hg
    have h4 : ¬ ((4 : Int32) ≤ nI g) := nI_ge (b := 4) (by omega) (by decide)
    obtain ⟨r, hX, hY⟩ := pq_bd (rc := rc) (tk := tk) (tv := tv) (hc := hc) (cm := cm) (rk := rk) (rp := rp) (rs := rs) (rl := rl) (rg := rg) (yr := yr) (yp := yp) (ys := ys) (yl := yl) (yg := yg) (yc := yc) (yk := yk) (yv := yv) (qk := qk) (qp := qp) (qs := qs) (ql := ql) (qg := qg) (g := g) (by omega) hb
    by_cases e : r = 0
    · obtain ⟨r', hX', hY'⟩ := ih (g + 1) x (by omega)
      exact ⟨r', fun post hp => br_f h4 (hX _ (br_t e (nm_r (nI_1 g) (hX' post hp)))), fun post hp => br_f h4 (hY _ (br_t e (nm_r (nI_1 g) (hY' post hp))))⟩
    · obtain ⟨r', hX', hY'⟩ := ih (g + 1) (x + 1) (by omega)
      exact ⟨r', fun post hp => br_f h4 (hX _ (br_f e (nm_e (nm_r (nI_1 g) (hX' post hp))))), fun post hp => br_f h4 (hY _ (br_f e (nm_e (nm_r (nI_1 g) (hY' post hp)))))⟩
theorem pq_bs_l {m : Nat} {b : Int32} (hm : m ≤ 16) : ∀ (d i : Nat) (x : Int32), i + d = m → ∃ r : Int32, (∀ post : Int32 → Prop, post r → wX_bandSum_27 post b (nI m) tk tv hc cm rk rp rs rl rg (d + 1) x (nI i)) ∧ (∀ post : Int32 → Prop, post r → wY_bandSum_27 post b (nI m) yp ys yl yg yc yk yv cm rk rp rs rl rg (d + 1) x (nI i)) := by
  intro d
  induction d with
  | zero =>
    intro i x hi
    have h : nI m ≤ nI i := nI_le (by omega) (by omega)
    exact ⟨x, fun post hp => br_t h hp, fun post hp => br_t h hp⟩
  | succ d ih =>
    intro i x hi
    have h : ¬ nI m ≤ nI i := nI_ge (by omega) (by omega)
    have h16 : ¬ ((16 : Int32) ≤ nI i) := nI_ge (b := 16) (by omega) (by decide)
    have hI : vp_in (nI i) 16 := vp_in_nI (by omega) (by decide)
    have h4 : ¬ (4 : Int32) = 0 := by decide
    by_cases e : rk (nI i).toNatClampNeg / 4 = b
    · obtain ⟨r, hX, hY⟩ := ih (i + 1) (x + rs (nI i).toNatClampNeg) (by omega)
      exact ⟨r, fun post hp => br_f h ⟨hI, h4, br_t e ⟨hI, nm_e (nm_r (nI_1 i) (hX post hp))⟩⟩, fun post hp => br_f h (br_f h16 ⟨hI, h4, br_t e ⟨hI, nm_e (nm_r (nI_1 i) (hY post hp))⟩⟩)⟩
    · obtain ⟨r, hX, hY⟩ := ih (i + 1) x (by omega)
      exact ⟨r, fun post hp => br_f h ⟨hI, h4, br_f e (nm_r (nI_1 i) (hX post hp))⟩, fun post hp => br_f h (br_f h16 ⟨hI, h4, br_f e (nm_r (nI_1 i) (hY post hp))⟩)⟩
theorem pq_res {m : Nat} (hm : m ≤ 16) (x : Int32) : (∃ j, j < m ∧ x = nI j ∧ (∀ post : Int32 → Prop, post 1 → wpX_isResult post (nI m, tk, tv, hc, cm, rk, rp, rs, rl, rg) x) ∧ (∀ post : Int32 → Prop, post 0 → wpY_noResult post (nI m, yp, ys, yl, yg, yc, yk, yv, cm, qk, qp, qs, ql, qg) x)) ∨ ((∀ post : Int32 → Prop, post 0 → wpX_isResult post (nI m, tk, tv, hc, cm, rk, rp, rs, rl, rg) x) ∧ (∀ post : Int32 → Prop, post 1 → wpY_noResult post (nI m, yp, ys, yl, yg, yc, yk, yv, cm, qk, qp, qs, ql, qg) x)) := by
  rcases pk_ix x (n := m) (by omega) with h | h | ⟨j, hj, rfl⟩
  · exact Or.inr ⟨fun post hp => br_t h hp, fun post hp => br_t h hp⟩
  · have h0 : ¬ x < 0 := fun z => absurd (Int32.lt_of_le_of_lt h z) (nI_pos (by omega))
    exact Or.inr ⟨fun post hp => br_f h0 (br_t h hp), fun post hp => br_f h0 (br_t h hp)⟩
  · have h0 : ¬ nI j < 0 := nI_pos (by omega)
    have h1 : ¬ nI m ≤ nI j := nI_ge hj (by omega)
    have h2 : nI j < 16 := nI_lt (b := 16) (by omega) (by decide)
    exact Or.inl ⟨j, hj, rfl, fun post hp => br_f h0 (br_f h1 hp), fun post hp => br_f h0 (br_f h1 (br_t h2 hp))⟩
end
end
section
theorem pq_L_in {tk tv : Nat → Int32} {b n i : Nat} (h : i < n) : (tk (b + i), tv (b + i)) ∈ pq_L tk tv b n := by
  obtain ⟨d, rfl⟩ : ∃ d, n = i + d + 1 := ⟨n - i - 1, by omega⟩
  rw [pq_L_at]
  exact List.mem_append.mpr (Or.inr List.mem_cons_self)
theorem i_vc_held {k : Nat} {u : SX} {v : SY} (I : i_Rel k u v) (hk : k + 4 ≤ 2048) (v1 : Int32) : wpX_held (fun r => wpY_held (fun r' => r' = r ∧ i_Rel (k + 4) u v) v v1) u v1 := by
  obtain ⟨rc, tk, tv, hc, cm, rk, rp, rs, rl, rg, yp, ys, yl, yg, yc, yk, yv, rfl, rfl, K⟩ := I
  rcases pq_str v1 with ⟨s, hs, rfl, hX, hY⟩ | ⟨hX, hY⟩
  · obtain ⟨n, b, g1, g2, g3, g4⟩ := K.2.1 s hs
    have hS : vp_in (nI s) 2 := vp_in_nI hs (by decide)
    have eS : (nI s).toNatClampNeg = s := nI_clamp (by omega)
    unfold wpX_held
    dsimp only
    refine hX _ (br_f (by decide) ⟨hS, ?_⟩)
    unfold wpY_held
    dsimp only
    refine hY _ _ (br_t rfl ⟨hS, ?_, ⟨rc, tk, tv, hc, cm, rk, rp, rs, rl, rg, yp, ys, yl, yg, yc, yk, yv, rfl, rfl, K⟩⟩)
    rw [eS, g1, g2]
  · unfold wpX_held
    dsimp only
    refine hX _ (br_t rfl ?_)
    unfold wpY_held
    dsimp only
    exact hY _ _ (br_f (by decide) ⟨rfl, ⟨rc, tk, tv, hc, cm, rk, rp, rs, rl, rg, yp, ys, yl, yg, yc, yk, yv, rfl, rfl, K⟩⟩)
theorem i_vc_heldWith {k : Nat} {u : SX} {v : SY} (I : i_Rel k u v) (hk : k + 4 ≤ 2048) (v1 : Int32) (v2 : Int32) : wpX_heldWith (fun r => wpY_heldWith (fun r' => r' = r ∧ i_Rel (k + 4) u v) v v1 v2) u v1 v2 := by
  obtain ⟨rc, tk, tv, hc, cm, rk, rp, rs, rl, rg, yp, ys, yl, yg, yc, yk, yv, rfl, rfl, K⟩ := I
  rcases pq_str v1 with ⟨s, hs, rfl, hX, hY⟩ | ⟨hX, hY⟩
  · obtain ⟨n, b, g1, g2, g3, g4⟩ := K.2.1 s hs
    unfold wpX_heldWith
    dsimp only
    refine hX _ (br_f (by decide) ?_)
    rcases pq_key v2 with ⟨q, hq, rfl, hX', hY'⟩ | ⟨hX', hY'⟩
    · refine hX' _ (br_f (by decide) ?_)
      refine xq_ct hs g1 b ?_
      unfold wpY_heldWith
      dsimp only
      refine hY _ _ (br_t rfl ?_)
      refine hY' _ _ (br_t rfl ?_)
      refine yq_ct hs g2 b ⟨?_, ⟨rc, tk, tv, hc, cm, rk, rp, rs, rl, rg, yp, ys, yl, yg, yc, yk, yv, rfl, rfl, K⟩⟩
      rw [pq_n_perm _ g3]
    · refine hX' _ (br_t rfl ?_)
      unfold wpY_heldWith
      dsimp only
      refine hY _ _ (br_t rfl ?_)
      exact hY' _ _ (br_f (by decide) ⟨rfl, ⟨rc, tk, tv, hc, cm, rk, rp, rs, rl, rg, yp, ys, yl, yg, yc, yk, yv, rfl, rfl, K⟩⟩)
  · unfold wpX_heldWith
    dsimp only
    refine hX _ (br_t rfl ?_)
    unfold wpY_heldWith
    dsimp only
    exact hY _ _ (br_f (by decide) ⟨rfl, ⟨rc, tk, tv, hc, cm, rk, rp, rs, rl, rg, yp, ys, yl, yg, yc, yk, yv, rfl, rfl, K⟩⟩)
theorem i_vc_closed {k : Nat} {u : SX} {v : SY} (I : i_Rel k u v) (hk : k + 4 ≤ 2048) (v1 : Int32) (v2 : Int32) : wpX_closed (fun r => wpY_closed (fun r' => r' = r ∧ i_Rel (k + 4) u v) v v1 v2) u v1 v2 := by
  obtain ⟨rc, tk, tv, hc, cm, rk, rp, rs, rl, rg, yp, ys, yl, yg, yc, yk, yv, rfl, rfl, K⟩ := I
  rcases pq_str v1 with ⟨s, hs, rfl, hX, hY⟩ | ⟨hX, hY⟩
  · unfold wpX_closed
    dsimp only
    refine hX _ (br_f (by decide) ?_)
    rcases pq_key v2 with ⟨q, hq, rfl, hX', hY'⟩ | ⟨hX', hY'⟩
    · refine hX' _ (br_f (by decide) ?_)
      refine xq_cl hs hq K.2.2 ?_
      have hI : vp_in (nI (16 * s + q)) 32 := vp_in_nI (by omega) (by decide)
      by_cases e : cm (16 * s + q) = 0
      · refine br_t e ?_
        unfold wpY_closed
        dsimp only
        rw [yq_16, nI_clamp (n := 16 * s + q) (by omega)]
        exact hY _ _ (br_t rfl (hY' _ _ (br_t rfl ⟨hI, br_t e ⟨rfl, ⟨rc, tk, tv, hc, cm, rk, rp, rs, rl, rg, yp, ys, yl, yg, yc, yk, yv, rfl, rfl, K⟩⟩⟩)))
      · refine br_f e ?_
        unfold wpY_closed
        dsimp only
        rw [yq_16, nI_clamp (n := 16 * s + q) (by omega)]
        exact hY _ _ (br_t rfl (hY' _ _ (br_t rfl ⟨hI, br_f e ⟨rfl, ⟨rc, tk, tv, hc, cm, rk, rp, rs, rl, rg, yp, ys, yl, yg, yc, yk, yv, rfl, rfl, K⟩⟩⟩)))
    · refine hX' _ (br_t rfl ?_)
      unfold wpY_closed
      dsimp only
      refine hY _ _ (br_t rfl ?_)
      exact hY' _ _ (br_f (by decide) ⟨rfl, ⟨rc, tk, tv, hc, cm, rk, rp, rs, rl, rg, yp, ys, yl, yg, yc, yk, yv, rfl, rfl, K⟩⟩)
  · unfold wpX_closed
    dsimp only
    refine hX _ (br_t rfl ?_)
    unfold wpY_closed
    dsimp only
    exact hY _ _ (br_f (by decide) ⟨rfl, ⟨rc, tk, tv, hc, cm, rk, rp, rs, rl, rg, yp, ys, yl, yg, yc, yk, yv, rfl, rfl, K⟩⟩)
theorem i_vc_results {k : Nat} {u : SX} {v : SY} (I : i_Rel k u v) (hk : k + 4 ≤ 2048) : wpX_results (fun r => wpY_results (fun r' => r' = r ∧ i_Rel (k + 4) u v) v) u := by
  obtain ⟨rc, tk, tv, hc, cm, rk, rp, rs, rl, rg, yp, ys, yl, yg, yc, yk, yv, rfl, rfl, K⟩ := I
  exact ⟨rfl, ⟨rc, tk, tv, hc, cm, rk, rp, rs, rl, rg, yp, ys, yl, yg, yc, yk, yv, rfl, rfl, K⟩⟩
theorem i_vc_resultKey {k : Nat} {u : SX} {v : SY} (I : i_Rel k u v) (hk : k + 4 ≤ 2048) (v1 : Int32) : wpX_resultKey (fun r => wpY_resultKey (fun r' => r' = r ∧ i_Rel (k + 4) u v) v v1) u v1 := by
  obtain ⟨rc, tk, tv, hc, cm, rk, rp, rs, rl, rg, yp, ys, yl, yg, yc, yk, yv, rfl, rfl, K⟩ := I
  obtain ⟨m, rfl, hm⟩ := K.1
  have hm16 : m ≤ 16 := Nat.le_trans hm (pq_fc_le cm 16)
  rcases pq_res (tk := tk) (tv := tv) (hc := hc) (cm := cm) (rk := rk) (rp := rp) (rs := rs) (rl := rl) (rg := rg) (yp := yp) (ys := ys) (yl := yl) (yg := yg) (yc := yc) (yk := yk) (yv := yv) (qk := rk) (qp := rp) (qs := rs) (ql := rl) (qg := rg) hm16 v1 with ⟨j, hj, rfl, hX, hY⟩ | ⟨hX, hY⟩
  · have hI : vp_in (nI j) 16 := vp_in_nI (by omega) (by decide)
    unfold wpX_resultKey
    dsimp only
    refine hX _ (br_f (by decide) ⟨hI, ?_⟩)
    unfold wpY_resultKey
    dsimp only
    exact hY _ (br_t rfl ⟨hI, rfl, ⟨_, tk, tv, hc, cm, rk, rp, rs, rl, rg, yp, ys, yl, yg, yc, yk, yv, rfl, rfl, K⟩⟩)
  · unfold wpX_resultKey
    dsimp only
    refine hX _ (br_t rfl ?_)
    unfold wpY_resultKey
    dsimp only
    exact hY _ (br_f (by decide) ⟨rfl, ⟨_, tk, tv, hc, cm, rk, rp, rs, rl, rg, yp, ys, yl, yg, yc, yk, yv, rfl, rfl, K⟩⟩)
theorem i_vc_resultPairs {k : Nat} {u : SX} {v : SY} (I : i_Rel k u v) (hk : k + 4 ≤ 2048) (v1 : Int32) : wpX_resultPairs (fun r => wpY_resultPairs (fun r' => r' = r ∧ i_Rel (k + 4) u v) v v1) u v1 := by
  obtain ⟨rc, tk, tv, hc, cm, rk, rp, rs, rl, rg, yp, ys, yl, yg, yc, yk, yv, rfl, rfl, K⟩ := I
  obtain ⟨m, rfl, hm⟩ := K.1
  have hm16 : m ≤ 16 := Nat.le_trans hm (pq_fc_le cm 16)
  rcases pq_res (tk := tk) (tv := tv) (hc := hc) (cm := cm) (rk := rk) (rp := rp) (rs := rs) (rl := rl) (rg := rg) (yp := yp) (ys := ys) (yl := yl) (yg := yg) (yc := yc) (yk := yk) (yv := yv) (qk := rk) (qp := rp) (qs := rs) (ql := rl) (qg := rg) hm16 v1 with ⟨j, hj, rfl, hX, hY⟩ | ⟨hX, hY⟩
  · have hI : vp_in (nI j) 16 := vp_in_nI (by omega) (by decide)
    unfold wpX_resultPairs
    dsimp only
    refine hX _ (br_f (by decide) ⟨hI, ?_⟩)
    unfold wpY_resultPairs
    dsimp only
    exact hY _ (br_t rfl ⟨hI, rfl, ⟨_, tk, tv, hc, cm, rk, rp, rs, rl, rg, yp, ys, yl, yg, yc, yk, yv, rfl, rfl, K⟩⟩)
  · unfold wpX_resultPairs
    dsimp only
    refine hX _ (br_t rfl ?_)
    unfold wpY_resultPairs
    dsimp only
    exact hY _ (br_f (by decide) ⟨rfl, ⟨_, tk, tv, hc, cm, rk, rp, rs, rl, rg, yp, ys, yl, yg, yc, yk, yv, rfl, rfl, K⟩⟩)
theorem i_vc_resultSum {k : Nat} {u : SX} {v : SY} (I : i_Rel k u v) (hk : k + 4 ≤ 2048) (v1 : Int32) : wpX_resultSum (fun r => wpY_resultSum (fun r' => r' = r ∧ i_Rel (k + 4) u v) v v1) u v1 := by
  obtain ⟨rc, tk, tv, hc, cm, rk, rp, rs, rl, rg, yp, ys, yl, yg, yc, yk, yv, rfl, rfl, K⟩ := I
  obtain ⟨m, rfl, hm⟩ := K.1
  have hm16 : m ≤ 16 := Nat.le_trans hm (pq_fc_le cm 16)
  rcases pq_res (tk := tk) (tv := tv) (hc := hc) (cm := cm) (rk := rk) (rp := rp) (rs := rs) (rl := rl) (rg := rg) (yp := yp) (ys := ys) (yl := yl) (yg := yg) (yc := yc) (yk := yk) (yv := yv) (qk := rk) (qp := rp) (qs := rs) (ql := rl) (qg := rg) hm16 v1 with ⟨j, hj, rfl, hX, hY⟩ | ⟨hX, hY⟩
  · have hI : vp_in (nI j) 16 := vp_in_nI (by omega) (by decide)
    unfold wpX_resultSum
    dsimp only
    refine hX _ (br_f (by decide) ⟨hI, ?_⟩)
    unfold wpY_resultSum
    dsimp only
    exact hY _ (br_t rfl ⟨hI, rfl, ⟨_, tk, tv, hc, cm, rk, rp, rs, rl, rg, yp, ys, yl, yg, yc, yk, yv, rfl, rfl, K⟩⟩)
  · unfold wpX_resultSum
    dsimp only
    refine hX _ (br_t rfl ?_)
    unfold wpY_resultSum
    dsimp only
    exact hY _ (br_f (by decide) ⟨rfl, ⟨_, tk, tv, hc, cm, rk, rp, rs, rl, rg, yp, ys, yl, yg, yc, yk, yv, rfl, rfl, K⟩⟩)
theorem i_vc_resultLeast {k : Nat} {u : SX} {v : SY} (I : i_Rel k u v) (hk : k + 4 ≤ 2048) (v1 : Int32) : wpX_resultLeast (fun r => wpY_resultLeast (fun r' => r' = r ∧ i_Rel (k + 4) u v) v v1) u v1 := by
  obtain ⟨rc, tk, tv, hc, cm, rk, rp, rs, rl, rg, yp, ys, yl, yg, yc, yk, yv, rfl, rfl, K⟩ := I
  obtain ⟨m, rfl, hm⟩ := K.1
  have hm16 : m ≤ 16 := Nat.le_trans hm (pq_fc_le cm 16)
  rcases pq_res (tk := tk) (tv := tv) (hc := hc) (cm := cm) (rk := rk) (rp := rp) (rs := rs) (rl := rl) (rg := rg) (yp := yp) (ys := ys) (yl := yl) (yg := yg) (yc := yc) (yk := yk) (yv := yv) (qk := rk) (qp := rp) (qs := rs) (ql := rl) (qg := rg) hm16 v1 with ⟨j, hj, rfl, hX, hY⟩ | ⟨hX, hY⟩
  · have hI : vp_in (nI j) 16 := vp_in_nI (by omega) (by decide)
    unfold wpX_resultLeast
    dsimp only
    refine hX _ (br_f (by decide) ⟨hI, ?_⟩)
    unfold wpY_resultLeast
    dsimp only
    exact hY _ (br_t rfl ⟨hI, rfl, ⟨_, tk, tv, hc, cm, rk, rp, rs, rl, rg, yp, ys, yl, yg, yc, yk, yv, rfl, rfl, K⟩⟩)
  · unfold wpX_resultLeast
    dsimp only
    refine hX _ (br_t rfl ?_)
    unfold wpY_resultLeast
    dsimp only
    exact hY _ (br_f (by decide) ⟨rfl, ⟨_, tk, tv, hc, cm, rk, rp, rs, rl, rg, yp, ys, yl, yg, yc, yk, yv, rfl, rfl, K⟩⟩)
theorem i_vc_resultGreatest {k : Nat} {u : SX} {v : SY} (I : i_Rel k u v) (hk : k + 4 ≤ 2048) (v1 : Int32) : wpX_resultGreatest (fun r => wpY_resultGreatest (fun r' => r' = r ∧ i_Rel (k + 4) u v) v v1) u v1 := by
  obtain ⟨rc, tk, tv, hc, cm, rk, rp, rs, rl, rg, yp, ys, yl, yg, yc, yk, yv, rfl, rfl, K⟩ := I
  obtain ⟨m, rfl, hm⟩ := K.1
  have hm16 : m ≤ 16 := Nat.le_trans hm (pq_fc_le cm 16)
  rcases pq_res (tk := tk) (tv := tv) (hc := hc) (cm := cm) (rk := rk) (rp := rp) (rs := rs) (rl := rl) (rg := rg) (yp := yp) (ys := ys) (yl := yl) (yg := yg) (yc := yc) (yk := yk) (yv := yv) (qk := rk) (qp := rp) (qs := rs) (ql := rl) (qg := rg) hm16 v1 with ⟨j, hj, rfl, hX, hY⟩ | ⟨hX, hY⟩
  · have hI : vp_in (nI j) 16 := vp_in_nI (by omega) (by decide)
    unfold wpX_resultGreatest
    dsimp only
    refine hX _ (br_f (by decide) ⟨hI, ?_⟩)
    unfold wpY_resultGreatest
    dsimp only
    exact hY _ (br_t rfl ⟨hI, rfl, ⟨_, tk, tv, hc, cm, rk, rp, rs, rl, rg, yp, ys, yl, yg, yc, yk, yv, rfl, rfl, K⟩⟩)
  · unfold wpX_resultGreatest
    dsimp only
    refine hX _ (br_t rfl ?_)
    unfold wpY_resultGreatest
    dsimp only
    exact hY _ (br_f (by decide) ⟨rfl, ⟨_, tk, tv, hc, cm, rk, rp, rs, rl, rg, yp, ys, yl, yg, yc, yk, yv, rfl, rfl, K⟩⟩)
theorem i_vc_pairs {k : Nat} {u : SX} {v : SY} (I : i_Rel k u v) (hk : k + 4 ≤ 2048) (v1 : Int32) : wpX_pairs (fun r => wpY_pairs (fun r' v' => r' = r ∧ i_Rel (k + 4) u v') v v1) u v1 := by
  obtain ⟨rc, tk, tv, hc, cm, rk, rp, rs, rl, rg, yp, ys, yl, yg, yc, yk, yv, rfl, rfl, K⟩ := I
  obtain ⟨n, b, g1, g2, g3, g4⟩ := K.2.1 0 (by decide)
  obtain ⟨n', b', f1, f2, f3, f4⟩ := K.2.1 1 (by decide)
  rw [show 40 * 0 = 0 from rfl] at g3 g4
  rw [show 40 * 1 = 40 from rfl] at f3 f4
  rcases pq_key v1 with ⟨q, hq, rfl, hX, hY⟩ | ⟨hX, hY⟩
  · unfold wpX_pairs
    dsimp only
    refine hX _ (br_f (by decide) ?_)
    refine xq_cp g1 b f1 b' ?_
    unfold wpY_pairs
    dsimp only
    refine hY _ _ (br_t rfl ?_)
    refine yq_lk g2 b f2 b' ⟨?_, ⟨rc, tk, tv, hc, cm, rk, rp, rs, rl, rg, _, _, _, _, yc, yk, yv, rfl, rfl, K⟩⟩
    rw [pq_n_perm _ g3, pq_n_perm _ f3]
  · unfold wpX_pairs
    dsimp only
    refine hX _ (br_t rfl ?_)
    unfold wpY_pairs
    dsimp only
    exact hY _ _ (br_f (by decide) ⟨rfl, ⟨rc, tk, tv, hc, cm, rk, rp, rs, rl, rg, yp, ys, yl, yg, yc, yk, yv, rfl, rfl, K⟩⟩)
theorem i_vc_sum {k : Nat} {u : SX} {v : SY} (I : i_Rel k u v) (hk : k + 4 ≤ 2048) (v1 : Int32) : wpX_sum (fun r => wpY_sum (fun r' v' => r' = r ∧ i_Rel (k + 4) u v') v v1) u v1 := by
  obtain ⟨rc, tk, tv, hc, cm, rk, rp, rs, rl, rg, yp, ys, yl, yg, yc, yk, yv, rfl, rfl, K⟩ := I
  obtain ⟨n, b, g1, g2, g3, g4⟩ := K.2.1 0 (by decide)
  obtain ⟨n', b', f1, f2, f3, f4⟩ := K.2.1 1 (by decide)
  rw [show 40 * 0 = 0 from rfl] at g3 g4
  rw [show 40 * 1 = 40 from rfl] at f3 f4
  rcases pq_key v1 with ⟨q, hq, rfl, hX, hY⟩ | ⟨hX, hY⟩
  · unfold wpX_sum
    dsimp only
    refine hX _ (br_f (by decide) ?_)
    refine xq_sp g1 b f1 b' ?_
    unfold wpY_sum
    dsimp only
    refine hY _ _ (br_t rfl ?_)
    refine yq_lk g2 b f2 b' ⟨?_, ⟨rc, tk, tv, hc, cm, rk, rp, rs, rl, rg, _, _, _, _, yc, yk, yv, rfl, rfl, K⟩⟩
    rw [pq_sm_perm _ g3, pq_sm_perm _ f3]
  · unfold wpX_sum
    dsimp only
    refine hX _ (br_t rfl ?_)
    unfold wpY_sum
    dsimp only
    exact hY _ _ (br_f (by decide) ⟨rfl, ⟨rc, tk, tv, hc, cm, rk, rp, rs, rl, rg, yp, ys, yl, yg, yc, yk, yv, rfl, rfl, K⟩⟩)
theorem i_vc_least {k : Nat} {u : SX} {v : SY} (I : i_Rel k u v) (hk : k + 4 ≤ 2048) (v1 : Int32) : wpX_least (fun r => wpY_least (fun r' v' => r' = r ∧ i_Rel (k + 4) u v') v v1) u v1 := by
  obtain ⟨rc, tk, tv, hc, cm, rk, rp, rs, rl, rg, yp, ys, yl, yg, yc, yk, yv, rfl, rfl, K⟩ := I
  obtain ⟨n, b, g1, g2, g3, g4⟩ := K.2.1 0 (by decide)
  obtain ⟨n', b', f1, f2, f3, f4⟩ := K.2.1 1 (by decide)
  rw [show 40 * 0 = 0 from rfl] at g3 g4
  rw [show 40 * 1 = 40 from rfl] at f3 f4
  rcases pq_key v1 with ⟨q, hq, rfl, hX, hY⟩ | ⟨hX, hY⟩
  · unfold wpX_least
    dsimp only
    refine hX _ (br_f (by decide) ?_)
    refine xq_MI g1 b f1 b' ?_
    unfold wpY_least
    dsimp only
    refine hY _ _ (br_t rfl ?_)
    refine yq_lk g2 b f2 b' ⟨?_, ⟨rc, tk, tv, hc, cm, rk, rp, rs, rl, rg, _, _, _, _, yc, yk, yv, rfl, rfl, K⟩⟩
    exact (pq_MI_u g3 f3 (pq_MIo_MI g4 f4) (pq_MIo_MI (fun a ha => g4 a (g3.mem_iff.mpr ha)) (fun a ha => f4 a (f3.mem_iff.mpr ha)))).symm
  · unfold wpX_least
    dsimp only
    refine hX _ (br_t rfl ?_)
    unfold wpY_least
    dsimp only
    exact hY _ _ (br_f (by decide) ⟨rfl, ⟨rc, tk, tv, hc, cm, rk, rp, rs, rl, rg, yp, ys, yl, yg, yc, yk, yv, rfl, rfl, K⟩⟩)
theorem i_vc_greatest {k : Nat} {u : SX} {v : SY} (I : i_Rel k u v) (hk : k + 4 ≤ 2048) (v1 : Int32) : wpX_greatest (fun r => wpY_greatest (fun r' v' => r' = r ∧ i_Rel (k + 4) u v') v v1) u v1 := by
  obtain ⟨rc, tk, tv, hc, cm, rk, rp, rs, rl, rg, yp, ys, yl, yg, yc, yk, yv, rfl, rfl, K⟩ := I
  obtain ⟨n, b, g1, g2, g3, g4⟩ := K.2.1 0 (by decide)
  obtain ⟨n', b', f1, f2, f3, f4⟩ := K.2.1 1 (by decide)
  rw [show 40 * 0 = 0 from rfl] at g3 g4
  rw [show 40 * 1 = 40 from rfl] at f3 f4
  rcases pq_key v1 with ⟨q, hq, rfl, hX, hY⟩ | ⟨hX, hY⟩
  · unfold wpX_greatest
    dsimp only
    refine hX _ (br_f (by decide) ?_)
    refine xq_MA g1 b f1 b' ?_
    unfold wpY_greatest
    dsimp only
    refine hY _ _ (br_t rfl ?_)
    refine yq_lk g2 b f2 b' ⟨?_, ⟨rc, tk, tv, hc, cm, rk, rp, rs, rl, rg, _, _, _, _, yc, yk, yv, rfl, rfl, K⟩⟩
    exact (pq_MA_u g3 f3 (pq_MAo_MI g4 f4) (pq_MAo_MI (fun a ha => g4 a (g3.mem_iff.mpr ha)) (fun a ha => f4 a (f3.mem_iff.mpr ha)))).symm
  · unfold wpX_greatest
    dsimp only
    refine hX _ (br_t rfl ?_)
    unfold wpY_greatest
    dsimp only
    exact hY _ _ (br_f (by decide) ⟨rfl, ⟨rc, tk, tv, hc, cm, rk, rp, rs, rl, rg, yp, ys, yl, yg, yc, yk, yv, rfl, rfl, K⟩⟩)
theorem i_vc_pairsFrom {k : Nat} {u : SX} {v : SY} (I : i_Rel k u v) (hk : k + 4 ≤ 2048) (v1 : Int32) : wpX_pairsFrom (fun r => wpY_pairsFrom (fun r' => r' = r ∧ i_Rel (k + 4) u v) v v1) u v1 := by
  obtain ⟨rc, tk, tv, hc, cm, rk, rp, rs, rl, rg, yp, ys, yl, yg, yc, yk, yv, rfl, rfl, K⟩ := I
  obtain ⟨n, b, g1, g2, g3, g4⟩ := K.2.1 0 (by decide)
  obtain ⟨n', b', f1, f2, f3, f4⟩ := K.2.1 1 (by decide)
  rw [show 40 * 0 = 0 from rfl] at g3 g4
  rw [show 40 * 1 = 40 from rfl] at f3 f4
  refine xq_pf g1 b f1 b' ?_
  refine yq_pf g2 b f2 b' ⟨?_, ⟨rc, tk, tv, hc, cm, rk, rp, rs, rl, rg, yp, ys, yl, yg, yc, yk, yv, rfl, rfl, K⟩⟩
  rw [pq_sm_perm _ g3]
  exact pq_sm_congr (fun a _ => (pq_sm_perm _ f3).symm)
theorem i_vc_bandsFinished {k : Nat} {u : SX} {v : SY} (I : i_Rel k u v) (hk : k + 4 ≤ 2048) : wpX_bandsFinished (fun r => wpY_bandsFinished (fun r' => r' = r ∧ i_Rel (k + 4) u v) v) u := by
  obtain ⟨rc, tk, tv, hc, cm, rk, rp, rs, rl, rg, yp, ys, yl, yg, yc, yk, yv, rfl, rfl, K⟩ := I
  obtain ⟨r, hX, hY⟩ := pq_bf_l (rc := rc) (tk := tk) (tv := tv) (hc := hc) (cm := cm) (rk := rk) (rp := rp) (rs := rs) (rl := rl) (rg := rg) (yp := yp) (ys := ys) (yl := yl) (yg := yg) (yc := yc) (yk := yk) (yv := yv) (yr := rc) (qk := rk) (qp := rp) (qs := rs) (ql := rl) (qg := rg) K.2.2 4 0 0 rfl
  exact ⟨5, hX _ ⟨5, hY _ ⟨rfl, ⟨rc, tk, tv, hc, cm, rk, rp, rs, rl, rg, yp, ys, yl, yg, yc, yk, yv, rfl, rfl, K⟩⟩⟩⟩
theorem i_vc_bandSum {k : Nat} {u : SX} {v : SY} (I : i_Rel k u v) (hk : k + 4 ≤ 2048) (v1 : Int32) : wpX_bandSum (fun r => wpY_bandSum (fun r' => r' = r ∧ i_Rel (k + 4) u v) v v1) u v1 := by
  obtain ⟨rc, tk, tv, hc, cm, rk, rp, rs, rl, rg, yp, ys, yl, yg, yc, yk, yv, rfl, rfl, K⟩ := I
  rcases pk_ix v1 (n := 4) (by decide) with h | h | ⟨g, hg, rfl⟩
  · exact br_t h (br_t h ⟨rfl, ⟨rc, tk, tv, hc, cm, rk, rp, rs, rl, rg, yp, ys, yl, yg, yc, yk, yv, rfl, rfl, K⟩⟩)
  · have h0 : ¬ v1 < 0 := fun z => absurd (Int32.lt_of_le_of_lt h z) (by decide)
    have h1 : ¬ v1 < 4 := Int32.not_lt.mpr h
    have h2 : ¬ v1 ≤ 3 := fun z => absurd (Int32.le_trans h z) (by decide)
    exact br_f h0 (br_f h1 (br_f h0 (br_f h2 ⟨rfl, ⟨rc, tk, tv, hc, cm, rk, rp, rs, rl, rg, yp, ys, yl, yg, yc, yk, yv, rfl, rfl, K⟩⟩)))
  · have h0 : ¬ nI g < 0 := nI_pos (by omega)
    have h1 : nI g < 4 := nI_lt (b := 4) hg (by decide)
    have h2 : nI g ≤ 3 := nI_le (b := 3) (by omega) (by decide)
    obtain ⟨r, hX, hY⟩ := pq_bd (rc := rc) (tk := tk) (tv := tv) (hc := hc) (cm := cm) (rk := rk) (rp := rp) (rs := rs) (rl := rl) (rg := rg) (yp := yp) (ys := ys) (yl := yl) (yg := yg) (yc := yc) (yk := yk) (yv := yv) (yr := rc) (qk := rk) (qp := rp) (qs := rs) (ql := rl) (qg := rg) hg K.2.2
    by_cases e : r = 0
    · refine br_f h0 (br_t h1 (hX _ (br_t e ?_)))
      exact br_f h0 (br_t h2 (hY _ (br_t e ⟨rfl, ⟨rc, tk, tv, hc, cm, rk, rp, rs, rl, rg, yp, ys, yl, yg, yc, yk, yv, rfl, rfl, K⟩⟩)))
    · refine br_f h0 (br_t h1 (hX _ (br_f e ?_)))
      obtain ⟨m, hrc, hm⟩ := K.1
      have hm16 : m ≤ 16 := Nat.le_trans hm (pq_fc_le cm 16)
      subst hrc
      obtain ⟨r', hX', hY'⟩ := pq_bs_l (tk := tk) (tv := tv) (hc := hc) (cm := cm) (rk := rk) (rp := rp) (rs := rs) (rl := rl) (rg := rg) (yp := yp) (ys := ys) (yl := yl) (yg := yg) (yc := yc) (yk := yk) (yv := yv) (b := nI g) hm16 m 0 0 (by omega)
      refine ⟨m + 1, hX' _ ?_⟩
      refine br_f h0 (br_t h2 (hY _ (br_f e ?_)))
      exact ⟨m + 1, hY' _ ⟨rfl, ⟨_, tk, tv, hc, cm, rk, rp, rs, rl, rg, yp, ys, yl, yg, yc, yk, yv, rfl, rfl, K⟩⟩⟩
theorem pq_feed {tk tv hc yk yv yc : Nat → Int32} {s n : Nat} {k v : Int32} (hs : s < 2) (hn : n < 40) (g1 : hc s = nI n) (g2 : yc s = nI n) (g3 : List.Perm (pq_L tk tv (40 * s) n) (pq_L yk yv (40 * s) n)) (g4 : ∀ p, p ∈ pq_L tk tv (40 * s) n → pq_sml p.2) (hv : pq_sml v) (hK : ∀ s', s' < 2 → pq_St tk tv hc yk yv yc s') : ∀ s', s' < 2 → pq_St (upd tk (40 * s + n) k) (upd tv (40 * s + n) v) (upd hc s (nI (n + 1))) (upd yk (40 * s + n) k) (upd yv (40 * s + n) v) (upd yc s (nI (n + 1))) s' := by
  intro s' hs'
  by_cases e : s' = s
  · subst e
    have e1 : pq_L (upd tk (40 * s' + n) k) (upd tv (40 * s' + n) v) (40 * s') (n + 1) = pq_L tk tv (40 * s') n ++ [(k, v)] := by
      rw [pq_L_snoc, pk_us, pk_us, pq_L_congr (tk' := tk) (tv' := tv) n (40 * s') (fun j h1 h2 => ⟨pk_un (by omega), pk_un (by omega)⟩)]
    have e2 : pq_L (upd yk (40 * s' + n) k) (upd yv (40 * s' + n) v) (40 * s') (n + 1) = pq_L yk yv (40 * s') n ++ [(k, v)] := by
      rw [pq_L_snoc, pk_us, pk_us, pq_L_congr (tk' := yk) (tv' := yv) n (40 * s') (fun j h1 h2 => ⟨pk_un (by omega), pk_un (by omega)⟩)]
    refine ⟨n + 1, by omega, pk_us, pk_us, ?_, ?_⟩
    · rw [e1, e2]
      exact g3.append_right _
    · rw [e1]
      intro p hp
      rcases List.mem_append.mp hp with h | h
      · exact g4 p h
      · rw [List.mem_singleton.mp h]; exact hv
  · exact pq_St_fr (hK s' hs') (fun q h1 h2 => ⟨pk_un (by omega), pk_un (by omega)⟩) (fun q h1 h2 => ⟨pk_un (by omega), pk_un (by omega)⟩) (pk_un e) (pk_un e)
theorem pq_retr {tk tv hc yk yv yc : Nat → Int32} {s n i j : Nat} {k v : Int32} (hs : s < 2) (hn : n ≤ 40) (hi : i < n) (hj : j < n) (g1 : hc s = nI n) (g2 : yc s = nI n) (g3 : List.Perm (pq_L tk tv (40 * s) n) (pq_L yk yv (40 * s) n)) (g4 : ∀ p, p ∈ pq_L tk tv (40 * s) n → pq_sml p.2) (i1 : tk (40 * s + i) = k) (i2 : tv (40 * s + i) = v) (j1 : yk (40 * s + j) = k) (j2 : yv (40 * s + j) = v) (hK : ∀ s', s' < 2 → pq_St tk tv hc yk yv yc s') : ∀ s', s' < 2 → pq_St (upd tk (40 * s + i) (tk (40 * s + (n - 1)))) (upd tv (40 * s + i) (tv (40 * s + (n - 1)))) (upd hc s (nI (n - 1))) (pq_sh yk (40 * s + j) (40 * s + (n - 1))) (pq_sh yv (40 * s + j) (40 * s + (n - 1))) (upd yc s (nI (n - 1))) s' := by
  intro s' hs'
  by_cases e : s' = s
  · subst e
    obtain ⟨m, rfl⟩ : ∃ m, n = m + 1 := ⟨n - 1, by omega⟩
    rw [Nat.add_sub_cancel]
    have p1 := pq_L_swap (tk := tk) (tv := tv) (b := 40 * s') hi
    rw [i1, i2] at p1
    have p2 : List.Perm ((k, v) :: pq_L (pq_sh yk (40 * s' + j) (40 * s' + m)) (pq_sh yv (40 * s' + j) (40 * s' + m)) (40 * s') m) (pq_L yk yv (40 * s') (m + 1)) := by
      obtain ⟨d, rfl⟩ : ∃ d, m = j + d := ⟨m - j, by omega⟩
      rw [pq_L_sh, pq_L_at, j1, j2]
      exact List.perm_middle.symm
    have p3 := (p1.trans g3).trans p2.symm
    refine ⟨m, by omega, pk_us, pk_us, p3.cons_inv, fun p hp => ?_⟩
    exact g4 p (p1.mem_iff.mp (List.mem_cons_of_mem _ hp))
  · refine pq_St_fr (hK s' hs') (fun q h1 h2 => ⟨pk_un (by omega), pk_un (by omega)⟩) (fun q h1 h2 => ⟨pq_sh_out (by omega), pq_sh_out (by omega)⟩) (pk_un e) (pk_un e)
theorem i_vc_feed {k : Nat} {u : SX} {v : SY} (I : i_Rel k u v) (hk : k + 4 ≤ 2048) (v1 : Int32) (v2 : Int32) (v3 : Int32) : wpX_feed (fun r u' => wpY_feed (fun r' v' => r' = r ∧ i_Rel (k + 4) u' v') v v1 v2 v3) u v1 v2 v3 := by
  obtain ⟨rc, tk, tv, hc, cm, rk, rp, rs, rl, rg, yp, ys, yl, yg, yc, yk, yv, rfl, rfl, K⟩ := I
  rcases pq_str v1 with ⟨s, hs, rfl, hX, hY⟩ | ⟨hX, hY⟩
  · obtain ⟨n, b, g1, g2, g3, g4⟩ := K.2.1 s hs
    have hS : vp_in (nI s) 2 := vp_in_nI hs (by decide)
    have eS : (nI s).toNatClampNeg = s := nI_clamp (by omega)
    unfold wpX_feed
    dsimp only
    refine hX _ (br_f (by decide) ?_)
    rcases pq_key v2 with ⟨q, hq, rfl, hX', hY'⟩ | ⟨hX', hY'⟩
    · refine hX' _ (br_f (by decide) ?_)
      by_cases c1 : v3 < -50
      · refine br_t c1 ?_
        unfold wpY_feed
        dsimp only
        exact hY _ _ (br_t rfl (hY' _ _ (br_t rfl (br_t c1 ⟨rfl, ⟨rc, tk, tv, hc, cm, rk, rp, rs, rl, rg, yp, ys, yl, yg, yc, yk, yv, rfl, rfl, K⟩⟩))))
      · refine br_f c1 ?_
        by_cases c2 : v3 ≤ 50
        · refine br_t c2 ?_
          refine xq_cl hs hq K.2.2 ?_
          have hI : vp_in (nI (16 * s + q)) 32 := vp_in_nI (by omega) (by decide)
          by_cases e : cm (16 * s + q) = 0
          · refine br_t e ⟨hS, ?_⟩
            rw [eS, g1]
            by_cases c3 : n < 40
            · have hI' : vp_in (nI (40 * s + n)) 80 := vp_in_nI (by omega) (by decide)
              have e4 : (nI (40 * s + n)).toNatClampNeg = 40 * s + n := nI_clamp (by omega)
              refine br_t (nI_lt (b := 40) c3 (by decide)) ⟨hS, nm_r (e' := nI (40 * s + n)) (by rw [xq_40, nI_add]) ?_⟩
              rw [e4, nI_1]
              refine ⟨hI', nm_e ⟨hI', nm_e ⟨hS, hS, nm_e ⟨hS, ?_⟩⟩⟩⟩
              rw [pk_us]
              unfold wpY_feed
              dsimp only
              refine hY _ _ (br_t rfl (hY' _ _ (br_t rfl (br_f c1 (br_t c2 ?_)))))
              rw [yq_16, nI_clamp (n := 16 * s + q) (by omega), eS, g2]
              refine ⟨hI, br_t e ⟨hS, nm_e (br_t (nI_lt (b := 40) c3 (by decide)) ?_)⟩⟩
              rw [yq_40i, e4, nI_1]
              refine ⟨hI', nm_e ⟨hI', nm_e ⟨hS, nm_e ⟨rfl, ?_⟩⟩⟩⟩
              exact ⟨rc, _, _, _, cm, rk, rp, rs, rl, rg, yp, ys, yl, yg, _, _, _, rfl, rfl, K.1, pq_feed hs c3 g1 g2 g3 g4 ⟨Int32.not_lt.mp c1, c2⟩ K.2.1, K.2.2⟩
            · have c3' : ¬ nI n < 40 := nI_nlt (b := 40) (by omega) (by omega)
              refine br_f c3' ?_
              unfold wpY_feed
              dsimp only
              refine hY _ _ (br_t rfl (hY' _ _ (br_t rfl (br_f c1 (br_t c2 ?_)))))
              rw [yq_16, nI_clamp (n := 16 * s + q) (by omega), eS, g2]
              exact ⟨hI, br_t e ⟨hS, nm_e (br_f c3' ⟨rfl, ⟨rc, tk, tv, hc, cm, rk, rp, rs, rl, rg, yp, ys, yl, yg, yc, yk, yv, rfl, rfl, K⟩⟩)⟩⟩
          · refine br_f e ?_
            unfold wpY_feed
            dsimp only
            refine hY _ _ (br_t rfl (hY' _ _ (br_t rfl (br_f c1 (br_t c2 ?_)))))
            rw [yq_16, nI_clamp (n := 16 * s + q) (by omega)]
            exact ⟨hI, br_f e ⟨rfl, ⟨rc, tk, tv, hc, cm, rk, rp, rs, rl, rg, yp, ys, yl, yg, yc, yk, yv, rfl, rfl, K⟩⟩⟩
        · refine br_f c2 ?_
          unfold wpY_feed
          dsimp only
          exact hY _ _ (br_t rfl (hY' _ _ (br_t rfl (br_f c1 (br_f c2 ⟨rfl, ⟨rc, tk, tv, hc, cm, rk, rp, rs, rl, rg, yp, ys, yl, yg, yc, yk, yv, rfl, rfl, K⟩⟩)))))
    · refine hX' _ (br_t rfl ?_)
      unfold wpY_feed
      dsimp only
      refine hY _ _ (br_t rfl ?_)
      exact hY' _ _ (br_f (by decide) ⟨rfl, ⟨rc, tk, tv, hc, cm, rk, rp, rs, rl, rg, yp, ys, yl, yg, yc, yk, yv, rfl, rfl, K⟩⟩)
  · unfold wpX_feed
    dsimp only
    refine hX _ (br_t rfl ?_)
    unfold wpY_feed
    dsimp only
    exact hY _ _ (br_f (by decide) ⟨rfl, ⟨rc, tk, tv, hc, cm, rk, rp, rs, rl, rg, yp, ys, yl, yg, yc, yk, yv, rfl, rfl, K⟩⟩)
theorem i_vc_retract {k : Nat} {u : SX} {v : SY} (I : i_Rel k u v) (hk : k + 4 ≤ 2048) (v1 : Int32) (v2 : Int32) (v3 : Int32) : wpX_retract (fun r u' => wpY_retract (fun r' v' => r' = r ∧ i_Rel (k + 4) u' v') v v1 v2 v3) u v1 v2 v3 := by
  obtain ⟨rc, tk, tv, hc, cm, rk, rp, rs, rl, rg, yp, ys, yl, yg, yc, yk, yv, rfl, rfl, K⟩ := I
  rcases pq_str v1 with ⟨s, hs, rfl, hX, hY⟩ | ⟨hX, hY⟩
  · obtain ⟨n, b, g1, g2, g3, g4⟩ := K.2.1 s hs
    have hS : vp_in (nI s) 2 := vp_in_nI hs (by decide)
    have eS : (nI s).toNatClampNeg = s := nI_clamp (by omega)
    unfold wpX_retract
    dsimp only
    refine hX _ (br_f (by decide) ?_)
    rcases pq_key v2 with ⟨q, hq, rfl, hX', hY'⟩ | ⟨hX', hY'⟩
    · refine hX' _ (br_f (by decide) (nm_r (xq_40 s) ⟨hS, nm_r (e' := nI (40 * s + n)) (by rw [eS, g1, nI_add]) ?_⟩))
      have HX := xq_rt_l (rc := rc) (tk := tk) (tv := tv) (cm := cm) (rk := rk) (rp := rp) (rs := rs) (rl := rl) (rg := rg) (k := nI q) (v := v3) hs g1 b n 0 (by omega)
      have HY := yq_rt_l (yr := rc) (yp := yp) (ys := ys) (yl := yl) (yg := yg) (yk := yk) (yv := yv) (cm := cm) (qk := rk) (qp := rp) (qs := rs) (ql := rl) (qg := rg) (k := nI q) (v := v3) hs g2 b n 0 (by omega)
      rcases HX with ⟨nX, wX⟩ | ⟨i, i0, i1, i2, i3, wX⟩
      · rcases HY with ⟨nY, wY⟩ | ⟨j, j0, j1, j2, j3, wY⟩
        · refine ⟨n + 1, wX _ ?_⟩
          unfold wpY_retract
          dsimp only
          exact hY _ _ (br_t rfl (hY' _ _ (br_t rfl ⟨n + 1, wY _ ⟨rfl, ⟨rc, tk, tv, hc, cm, rk, rp, rs, rl, rg, yp, ys, yl, yg, yc, yk, yv, rfl, rfl, K⟩⟩⟩)))
        · exfalso
          have hm := g3.mem_iff.mpr (pq_L_in (tk := yk) (tv := yv) (b := 40 * s) j1)
          rw [j2, j3] at hm
          obtain ⟨i, a1, a2, a3⟩ := pq_L_mem _ _ hm
          refine nX (i - 40 * s) (by omega) (by omega) ?_
          rw [show 40 * s + (i - 40 * s) = i by omega]
          exact ⟨(congrArg Prod.fst a3).symm, (congrArg Prod.snd a3).symm⟩
      · rcases HY with ⟨nY, wY⟩ | ⟨j, j0, j1, j2, j3, wY⟩
        · exfalso
          have hm := g3.mem_iff.mp (pq_L_in (tk := tk) (tv := tv) (b := 40 * s) i1)
          rw [i2, i3] at hm
          obtain ⟨j, a1, a2, a3⟩ := pq_L_mem _ _ hm
          refine nY (j - 40 * s) (by omega) (by omega) ?_
          rw [show 40 * s + (j - 40 * s) = j by omega]
          exact ⟨(congrArg Prod.fst a3).symm, (congrArg Prod.snd a3).symm⟩
        · refine ⟨n + 1, wX _ ?_⟩
          unfold wpY_retract
          dsimp only
          refine hY _ _ (br_t rfl (hY' _ _ (br_t rfl ⟨n + 1, wY _ ⟨rfl, ?_⟩⟩)))
          exact ⟨rc, _, _, _, cm, rk, rp, rs, rl, rg, yp, ys, yl, yg, _, _, _, rfl, rfl, K.1, pq_retr hs b i1 j1 g1 g2 g3 g4 i2 i3 j2 j3 K.2.1, K.2.2⟩
    · refine hX' _ (br_t rfl ?_)
      unfold wpY_retract
      dsimp only
      refine hY _ _ (br_t rfl ?_)
      exact hY' _ _ (br_f (by decide) ⟨rfl, ⟨rc, tk, tv, hc, cm, rk, rp, rs, rl, rg, yp, ys, yl, yg, yc, yk, yv, rfl, rfl, K⟩⟩)
  · unfold wpX_retract
    dsimp only
    refine hX _ (br_t rfl ?_)
    unfold wpY_retract
    dsimp only
    exact hY _ _ (br_f (by decide) ⟨rfl, ⟨rc, tk, tv, hc, cm, rk, rp, rs, rl, rg, yp, ys, yl, yg, yc, yk, yv, rfl, rfl, K⟩⟩)
end
section
theorem xq_pr {post : SX → Prop} {tk tv hc cm rk rp rs rl rg : Nat → Int32} {m m0 m1 : Nat} {key : Int32} (hm : m < 16) (h0 : hc 0 = nI m0) (b0 : m0 ≤ 40) (h1 : hc 1 = nI m1) (b1 : m1 ≤ 40) (hp : post (nI (m + 1), tk, tv, hc, cm, upd rk m key, upd rp m (nI (pq_n key (pq_L tk tv 0 m0)) * nI (pq_n key (pq_L tk tv 40 m1))), upd rs m (pq_sm (pq_v key) (pq_L tk tv 0 m0) * pq_sm (pq_v key) (pq_L tk tv 40 m1)), upd rl m (pq_MIo key (pq_L tk tv 40 m1) 10000 (pq_L tk tv 0 m0)), upd rg m (pq_MAo key (pq_L tk tv 40 m1) (-10000) (pq_L tk tv 0 m0)))) : wpX_putResult post (nI m, tk, tv, hc, cm, rk, rp, rs, rl, rg) key := by
  have hI : vp_in (nI m) 16 := vp_in_nI hm (by decide)
  unfold wpX_putResult
  dsimp only
  rw [nI_clamp (n := m) (by omega)]
  refine br_t (nI_lt (b := 16) hm (by decide)) ⟨hI, nm_e ?_⟩
  refine xq_cp h0 b0 h1 b1 ⟨hI, nm_e ?_⟩
  refine xq_sp h0 b0 h1 b1 ⟨hI, nm_e ?_⟩
  refine xq_MI h0 b0 h1 b1 ⟨hI, nm_e ?_⟩
  refine xq_MA h0 b0 h1 b1 ⟨hI, nm_e (nm_r (nI_1 m) ?_)⟩
  exact hp
/-- a key is finished on both sides -/
theorem pq_fin {tk tv hc cm rk rp rs rl rg yc yk yv : Nat → Int32} {yp ys yl yg : Int32} {m : Nat} {key : Int32} (hm : m < 16) (hf : m + 1 ≤ pq_fc cm 16) (hS : ∀ s, s < 2 → pq_St tk tv hc yk yv yc s) (hb : ∀ j, cm j = 0 ∨ cm j = 1) : ∃ (u : SX) (v : SY), pq_RR u v ∧ (∀ post : SX → Prop, post u → wpX_finishKey post (nI m, tk, tv, hc, cm, rk, rp, rs, rl, rg) key) ∧ (∀ post : SY → Prop, post v → wpY_finish post (nI m, yp, ys, yl, yg, yc, yk, yv, cm, rk, rp, rs, rl, rg) key) := by
  obtain ⟨n, b, g1, g2, g3, g4⟩ := hS 0 (by decide)
  obtain ⟨n', b', f1, f2, f3, f4⟩ := hS 1 (by decide)
  rw [show 40 * 0 = 0 from rfl] at g3 g4
  rw [show 40 * 1 = 40 from rfl] at f3 f4
  obtain ⟨q0, q1, tk', tv', a1, a2, a3, a4, wX⟩ := xq_d2 key tk tv hc g1 b f1 b'
  obtain ⟨c0, c1, yc2, yk2, yv2, d1, d2, d3, d4, wY⟩ := yq_d2 key yc yk yv g2 b f2 b'
  have E1 : nI (pq_n key (pq_L yk yv 0 n)) * nI (pq_n key (pq_L yk yv 40 n')) = nI (pq_n key (pq_L tk tv 0 n)) * nI (pq_n key (pq_L tk tv 40 n')) := by
    rw [pq_n_perm _ g3, pq_n_perm _ f3]
  have E2 : pq_sm (pq_v key) (pq_L yk yv 0 n) * pq_sm (pq_v key) (pq_L yk yv 40 n') = pq_sm (pq_v key) (pq_L tk tv 0 n) * pq_sm (pq_v key) (pq_L tk tv 40 n') := by
    rw [pq_sm_perm _ g3, pq_sm_perm _ f3]
  have E3 : pq_MIo key (pq_L yk yv 40 n') 10000 (pq_L yk yv 0 n) = pq_MIo key (pq_L tk tv 40 n') 10000 (pq_L tk tv 0 n) :=
    (pq_MI_u g3 f3 (pq_MIo_MI g4 f4) (pq_MIo_MI (fun a ha => g4 a (g3.mem_iff.mpr ha)) (fun a ha => f4 a (f3.mem_iff.mpr ha)))).symm
  have E4 : pq_MAo key (pq_L yk yv 40 n') (-10000) (pq_L yk yv 0 n) = pq_MAo key (pq_L tk tv 40 n') (-10000) (pq_L tk tv 0 n) :=
    (pq_MA_u g3 f3 (pq_MAo_MI g4 f4) (pq_MAo_MI (fun a ha => g4 a (g3.mem_iff.mpr ha)) (fun a ha => f4 a (f3.mem_iff.mpr ha)))).symm
  have P0 : List.Perm (pq_L tk' tv' 0 q0) (pq_L yk2 yv2 0 c0) := by
    rw [a3, d3]; exact pq_fl_perm key g3
  have P1 : List.Perm (pq_L tk' tv' 40 q1) (pq_L yk2 yv2 40 c1) := by
    rw [a4, d4]; exact pq_fl_perm key f3
  have l0 : q0 = c0 := by
    have h := P0.length_eq
    rw [pq_L_len, pq_L_len] at h
    exact h
  have l1 : q1 = c1 := by
    have h := P1.length_eq
    rw [pq_L_len, pq_L_len] at h
    exact h
  subst l0
  subst l1
  have hS' : ∀ s, s < 2 → pq_St tk' tv' (upd (upd hc 0 (nI q0)) 1 (nI q1)) yk2 yv2 yc2 s := by
    intro s hs
    obtain rfl | rfl : s = 0 ∨ s = 1 := by omega
    · refine ⟨q0, a1, ?_, d1, P0, fun p hp => g4 p (pq_fl_mem (a3 ▸ hp))⟩
      rw [pk_un (by decide), pk_us]
    · exact ⟨q1, a2, pk_us, d2, P1, fun p hp => f4 p (pq_fl_mem (a4 ▸ hp))⟩
  by_cases e : nI (pq_n key (pq_L tk tv 0 n)) * nI (pq_n key (pq_L tk tv 40 n')) ≤ 0
  · refine ⟨(nI m, tk', tv', upd (upd hc 0 (nI q0)) 1 (nI q1), cm, rk, rp, rs, rl, rg), (nI m, nI (pq_n key (pq_L tk tv 0 n)) * nI (pq_n key (pq_L tk tv 40 n')), pq_sm (pq_v key) (pq_L tk tv 0 n) * pq_sm (pq_v key) (pq_L tk tv 40 n'), pq_MIo key (pq_L tk tv 40 n') 10000 (pq_L tk tv 0 n), pq_MAo key (pq_L tk tv 40 n') (-10000) (pq_L tk tv 0 n), yc2, yk2, yv2, cm, rk, rp, rs, rl, rg), ?_, fun post hp => ?_, fun post hp => ?_⟩
    · exact ⟨_, _, _, _, _, _, _, _, _, _, _, _, _, _, _, _, _, rfl, rfl, ⟨m, rfl, by omega⟩, hS', hb⟩
    · unfold wpX_finishKey
      dsimp only
      refine xq_cp g1 b f1 b' (br_t e ?_)
      exact wX post _ cm rk rp rs rl rg hp
    · unfold wpY_finish
      dsimp only
      refine yq_lk g2 b f2 b' ?_
      rw [E1, E2, E3, E4]
      refine br_t e ?_
      exact wY post _ _ _ _ _ cm rk rp rs rl rg hp
  · refine ⟨(nI (m + 1), tk', tv', upd (upd hc 0 (nI q0)) 1 (nI q1), cm, upd rk m key, upd rp m (nI (pq_n key (pq_L tk tv 0 n)) * nI (pq_n key (pq_L tk tv 40 n'))), upd rs m (pq_sm (pq_v key) (pq_L tk tv 0 n) * pq_sm (pq_v key) (pq_L tk tv 40 n')), upd rl m (pq_MIo key (pq_L tk tv 40 n') 10000 (pq_L tk tv 0 n)), upd rg m (pq_MAo key (pq_L tk tv 40 n') (-10000) (pq_L tk tv 0 n))), (nI (m + 1), nI (pq_n key (pq_L tk tv 0 n)) * nI (pq_n key (pq_L tk tv 40 n')), pq_sm (pq_v key) (pq_L tk tv 0 n) * pq_sm (pq_v key) (pq_L tk tv 40 n'), pq_MIo key (pq_L tk tv 40 n') 10000 (pq_L tk tv 0 n), pq_MAo key (pq_L tk tv 40 n') (-10000) (pq_L tk tv 0 n), yc2, yk2, yv2, cm, upd rk m key, upd rp m (nI (pq_n key (pq_L tk tv 0 n)) * nI (pq_n key (pq_L tk tv 40 n'))), upd rs m (pq_sm (pq_v key) (pq_L tk tv 0 n) * pq_sm (pq_v key) (pq_L tk tv 40 n')), upd rl m (pq_MIo key (pq_L tk tv 40 n') 10000 (pq_L tk tv 0 n)), upd rg m (pq_MAo key (pq_L tk tv 40 n') (-10000) (pq_L tk tv 0 n))), ?_, fun post hp => ?_, fun post hp => ?_⟩
    · exact ⟨_, _, _, _, _, _, _, _, _, _, _, _, _, _, _, _, _, rfl, rfl, ⟨m + 1, rfl, hf⟩, hS', hb⟩
    · unfold wpX_finishKey
      dsimp only
      refine xq_cp g1 b f1 b' (br_f e ?_)
      refine xq_pr hm g1 b f1 b' ?_
      exact wX post _ cm _ _ _ _ _ hp
    · have hI : vp_in (nI m) 16 := vp_in_nI hm (by decide)
      unfold wpY_finish
      dsimp only
      refine yq_lk g2 b f2 b' ?_
      rw [E1, E2, E3, E4]
      refine br_f e (br_f (nI_ge (b := 16) hm (by decide)) ?_)
      rw [nI_clamp (n := m) (by omega)]
      refine ⟨hI, nm_e ⟨hI, nm_e ⟨hI, nm_e ⟨hI, nm_e ⟨hI, nm_e (nm_r (nI_1 m) ?_)⟩⟩⟩⟩⟩
      exact wY post _ _ _ _ _ cm _ _ _ _ _ hp
end
section
/-- the loop of close, its state as one tuple -/
def xq_C (post : Int32 → SX → Prop) (s l : Int32) (n : Nat) (x k : Int32) (u : SX) : Prop := match u with
  | (rc, tk, tv, hc, cm, rk, rp, rs, rl, rg) => wX_close_33 post s l n x k rc tk tv hc cm rk rp rs rl rg
def yq_C (post : Int32 → SY → Prop) (s l : Int32) (n : Nat) (x k : Int32) (v : SY) : Prop := match v with
  | (rc, yp, ys, yl, yg, yc, yk, yv, cm, rk, rp, rs, rl, rg) => wY_close_34 post s l n x k rc yp ys yl yg yc yk yv cm rk rp rs rl rg
theorem pq_upd_id {f : Nat → Int32} {k : Nat} {x : Int32} (h : f k = x) : upd f k x = f := by
  funext j
  by_cases e : j = k
  · rw [e, pk_us, h]
  · rw [pk_un e]
theorem pq_nar1 : vp_nar .boolean 1 = 1 := rfl
theorem pq_fi_0 {cm : Nat → Int32} {s k : Nat} (hs : s < 2) (h : cm (16 * s + k) = 0) : pq_fi cm k = 0 ∧ (cm k = 0 ∨ cm (16 + k) = 0) := by
  unfold pq_fi
  obtain rfl | rfl : s = 0 ∨ s = 1 := by omega
  · rw [show 16 * 0 + k = k by omega] at h
    rw [if_pos h]
    exact ⟨rfl, Or.inl h⟩
  · rw [show 16 * 1 + k = 16 + k by omega] at h
    refine ⟨?_, Or.inr h⟩
    rw [if_pos h]
    by_cases e : cm k = 0
    · rw [if_pos e]
    · rw [if_neg e]
theorem pq_fi_1 {cm : Nat → Int32} {k : Nat} (h : ¬ pq_fi cm k = 0) : ¬ cm k = 0 ∧ ¬ cm (16 + k) = 0 := by
  unfold pq_fi at h
  by_cases e : cm k = 0
  · rw [if_pos e] at h; exact absurd rfl h
  · rw [if_neg e] at h
    by_cases e' : cm (16 + k) = 0
    · rw [if_pos e'] at h; exact absurd rfl h
    · exact ⟨e, e'⟩
theorem pq_step {s k l : Nat} (hs : s < 2) (hl : k ≤ l) (h16 : l < 16) {u : SX} {v : SY} (R : pq_RR u v) (x : Int32) : ∃ (x' : Int32) (u' : SX) (v' : SY), pq_RR u' v' ∧ (∀ (post : Int32 → SX → Prop) (n : Nat), xq_C post (nI s) (nI l) n x' (nI (k + 1)) u' → xq_C post (nI s) (nI l) (n + 1) x (nI k) u) ∧ (∀ (post : Int32 → SY → Prop) (n : Nat), yq_C post (nI s) (nI l) n x' (nI (k + 1)) v' → yq_C post (nI s) (nI l) (n + 1) x (nI k) v) := by
  obtain ⟨rc, tk, tv, hc, cm, rk, rp, rs, rl, rg, yp, ys, yl, yg, yc, yk, yv, rfl, rfl, K⟩ := R
  have hn : ¬ (nI l < nI k) := nI_nlt hl (by omega)
  have hI : vp_in (nI (16 * s + k)) 32 := vp_in_nI (by omega) (by decide)
  have eI : (nI (16 * s + k)).toNatClampNeg = 16 * s + k := nI_clamp (by omega)
  by_cases e : cm (16 * s + k) = 0
  · have hb' : ∀ j, upd cm (16 * s + k) 1 j = 0 ∨ upd cm (16 * s + k) 1 j = 1 := by
      intro j
      by_cases ej : j = 16 * s + k
      · rw [ej, pk_us]; exact Or.inr rfl
      · rw [pk_un ej]; exact K.2.2 j
    have f0 := pq_fi_0 hs e
    have mono := pq_upd_mono (c := cm) (k := 16 * s + k) (x := 1) (by decide)
    obtain ⟨m, hrc, hm⟩ := K.1
    subst hrc
    by_cases f : pq_fi (upd cm (16 * s + k) 1) k = 0
    · refine ⟨x, (nI m, tk, tv, hc, upd cm (16 * s + k) 1, rk, rp, rs, rl, rg), (nI m, yp, ys, yl, yg, yc, yk, yv, upd cm (16 * s + k) 1, rk, rp, rs, rl, rg), ?_, fun post n hp => ?_, fun post n hp => ?_⟩
      · exact ⟨_, _, _, _, _, _, _, _, _, _, _, _, _, _, _, _, _, rfl, rfl, ⟨m, rfl, Nat.le_trans hm (pq_fc_mono mono 16)⟩, K.2.1, hb'⟩
      · refine br_f hn ?_
        refine xq_cl hs (by omega) K.2.2 ?_
        refine br_t e ?_
        rw [xq_16, eI, pq_nar1]
        refine ⟨hI, nm_e ?_⟩
        refine xq_fi (by omega) hb' ?_
        exact br_t f (nm_r (nI_1 k) hp)
      · refine br_f hn ?_
        refine yq_fi (by omega) ?_
        rw [yq_16, eI, pq_nar1]
        refine ⟨hI, nm_e ?_⟩
        refine br_t f0.1 ?_
        refine yq_fi (by omega) ?_
        exact br_t f (nm_r (nI_1 k) hp)
    · have f1 := pq_fi_1 f
      have hf : m + 1 ≤ pq_fc (upd cm (16 * s + k) 1) 16 :=
        Nat.le_trans (Nat.add_le_add_right hm 1) (pq_fc_new mono f0.2 f1.1 f1.2 16 (by omega))
      have hm16 : m < 16 := Nat.lt_of_lt_of_le (Nat.lt_of_succ_le hf) (pq_fc_le _ 16)
      obtain ⟨u', v', R', wX, wY⟩ := pq_fin (rk := rk) (rp := rp) (rs := rs) (rl := rl) (rg := rg) (yp := yp) (ys := ys) (yl := yl) (yg := yg) (key := nI k) hm16 hf K.2.1 hb'
      refine ⟨x + 1, u', v', R', fun post n hp => ?_, fun post n hp => ?_⟩
      · refine br_f hn ?_
        refine xq_cl hs (by omega) K.2.2 ?_
        refine br_t e ?_
        rw [xq_16, eI, pq_nar1]
        refine ⟨hI, nm_e ?_⟩
        refine xq_fi (by omega) hb' ?_
        refine br_f f (wX _ ?_)
        obtain ⟨a1, a2, a3, a4, a5, a6, a7, a8, a9, a10⟩ := u'
        exact nm_e (nm_r (nI_1 k) hp)
      · refine br_f hn ?_
        refine yq_fi (by omega) ?_
        rw [yq_16, eI, pq_nar1]
        refine ⟨hI, nm_e ?_⟩
        refine br_t f0.1 ?_
        refine yq_fi (by omega) ?_
        refine br_f f (wY _ ?_)
        obtain ⟨a1, a2, a3, a4, a5, a6, a7, a8, a9, a10, a11, a12, a13, a14⟩ := v'
        exact nm_e (nm_r (nI_1 k) hp)
  · have e1 : upd cm (16 * s + k) 1 = cm := by
      refine pq_upd_id ?_
      rcases K.2.2 (16 * s + k) with h | h
      · exact absurd h e
      · exact h
    refine ⟨x, (rc, tk, tv, hc, cm, rk, rp, rs, rl, rg), (rc, yp, ys, yl, yg, yc, yk, yv, cm, rk, rp, rs, rl, rg), ?_, fun post n hp => ?_, fun post n hp => ?_⟩
    · exact ⟨rc, tk, tv, hc, cm, rk, rp, rs, rl, rg, yp, ys, yl, yg, yc, yk, yv, rfl, rfl, K⟩
    · refine br_f hn ?_
      refine xq_cl hs (by omega) K.2.2 ?_
      exact br_f e (nm_r (nI_1 k) hp)
    · refine br_f hn ?_
      refine yq_fi (by omega) ?_
      rw [yq_16, eI, pq_nar1]
      refine ⟨hI, nm_r e1 ?_⟩
      by_cases f : pq_fi cm k = 0
      · refine br_t f ?_
        refine yq_fi (by omega) ?_
        exact br_t f (nm_r (nI_1 k) hp)
      · exact br_f f (nm_r (nI_1 k) hp)
theorem pq_loop {s l : Nat} (hs : s < 2) (h16 : l < 16) : ∀ (d k : Nat) (x : Int32) (u : SX) (v : SY), k + d = l + 1 → pq_RR u v → ∃ (r : Int32) (u' : SX) (v' : SY), pq_RR u' v' ∧ (∀ post : Int32 → SX → Prop, post r u' → xq_C post (nI s) (nI l) (d + 1) x (nI k) u) ∧ (∀ post : Int32 → SY → Prop, post r v' → yq_C post (nI s) (nI l) (d + 1) x (nI k) v) := by
  intro d
  induction d with
  | zero =>
    intro k x u v hk R
    have h : nI l < nI k := nI_lt (by omega) (by omega)
    refine ⟨x, u, v, R, fun post hp => ?_, fun post hp => ?_⟩
    · obtain ⟨a1, a2, a3, a4, a5, a6, a7, a8, a9, a10⟩ := u
      exact br_t h hp
    · obtain ⟨a1, a2, a3, a4, a5, a6, a7, a8, a9, a10, a11, a12, a13, a14⟩ := v
      exact br_t h hp
  | succ d ih =>
    intro k x u v hk R
    obtain ⟨x', u', v', R', wX, wY⟩ := pq_step (k := k) (l := l) hs (by omega) h16 R x
    obtain ⟨r, u2, v2, R2, hX, hY⟩ := ih (k + 1) x' u' v' (by omega) R'
    exact ⟨r, u2, v2, R2, fun post hp => wX post _ (hX post hp), fun post hp => wY post _ (hY post hp)⟩
end
section
theorem i_vc_close {k : Nat} {u : SX} {v : SY} (I : i_Rel k u v) (hk : k + 4 ≤ 2048) (v1 : Int32) (v2 : Int32) (v3 : Int32) : wpX_close (fun r u' => wpY_close (fun r' v' => r' = r ∧ i_Rel (k + 4) u' v') v v1 v2 v3) u v1 v2 v3 := by
  obtain ⟨rc, tk, tv, hc, cm, rk, rp, rs, rl, rg, yp, ys, yl, yg, yc, yk, yv, rfl, rfl, K⟩ := I
  rcases pq_str v1 with ⟨s, hs, rfl, hX, hY⟩ | ⟨hX, hY⟩
  · unfold wpX_close
    dsimp only
    refine hX _ (br_f (by decide) ?_)
    by_cases c1 : v2 < 0
    · refine br_t c1 ?_
      unfold wpY_close
      dsimp only
      exact hY _ _ (br_t rfl (br_t c1 ⟨rfl, ⟨rc, tk, tv, hc, cm, rk, rp, rs, rl, rg, yp, ys, yl, yg, yc, yk, yv, rfl, rfl, K⟩⟩))
    · refine br_f c1 ?_
      by_cases c2 : v3 < v2
      · refine br_t c2 ?_
        unfold wpY_close
        dsimp only
        exact hY _ _ (br_t rfl (br_f c1 (br_t c2 ⟨rfl, ⟨rc, tk, tv, hc, cm, rk, rp, rs, rl, rg, yp, ys, yl, yg, yc, yk, yv, rfl, rfl, K⟩⟩)))
      · refine br_f c2 ?_
        obtain ⟨f, hf, rfl⟩ := nI_of c1
        have c0 : ¬ v3 < 0 := fun z => absurd (Int32.lt_of_le_of_lt (Int32.not_lt.mp c2) z) c1
        obtain ⟨l, hl, rfl⟩ := nI_of c0
        have hfl : f ≤ l := by
          have h := Int32.not_lt.mp c2
          rw [nI_leI hf hl] at h
          exact h
        by_cases c3 : l < 16
        · refine br_t (nI_lt (b := 16) c3 (by decide)) ?_
          obtain ⟨r, u', v', R', wX, wY⟩ := pq_loop hs c3 (l + 1 - f) f 0 _ _ (by omega) (show pq_RR (rc, tk, tv, hc, cm, rk, rp, rs, rl, rg) (rc, yp, ys, yl, yg, yc, yk, yv, cm, rk, rp, rs, rl, rg) from ⟨rc, tk, tv, hc, cm, rk, rp, rs, rl, rg, yp, ys, yl, yg, yc, yk, yv, rfl, rfl, K⟩)
          refine ⟨_, wX _ ?_⟩
          unfold wpY_close
          dsimp only
          refine hY _ _ (br_t rfl (br_f c1 (br_f c2 (br_t (nI_le (b := 15) (by omega) (by decide)) ⟨_, wY _ ?_⟩))))
          exact ⟨rfl, R'⟩
        · refine br_f (nI_nlt (b := 16) (by omega) hl) ?_
          unfold wpY_close
          dsimp only
          exact hY _ _ (br_t rfl (br_f c1 (br_f c2 (br_f (nI_ge (a := 15) (by omega) hl) ⟨rfl, ⟨rc, tk, tv, hc, cm, rk, rp, rs, rl, rg, yp, ys, yl, yg, yc, yk, yv, rfl, rfl, K⟩⟩))))
  · unfold wpX_close
    dsimp only
    refine hX _ (br_t rfl ?_)
    unfold wpY_close
    dsimp only
    exact hY _ _ (br_f (by decide) ⟨rfl, ⟨rc, tk, tv, hc, cm, rk, rp, rs, rl, rg, yp, ys, yl, yg, yc, yk, yv, rfl, rfl, K⟩⟩)
end
