theorem pk_us {f : Nat → Int32} {k : Nat} {x : Int32} : upd f k x k = x := if_pos rfl
theorem pk_un {f : Nat → Int32} {k j : Nat} {x : Int32} (h : j ≠ k) : upd f k x j = f j := if_neg h
theorem pk_sub {a b : Nat} (h : b ≤ a) : nI a - nI b = nI (a - b) := by
  obtain ⟨c, rfl⟩ : ∃ c, a = c + b := ⟨a - b, by omega⟩
  rw [← nI_add, Int32.add_sub_cancel, Nat.add_sub_cancel]
theorem pk_m1 (n : Nat) : nI (n + 1) + (-1) = nI n := by
  rw [← nI_1, Int32.add_assoc, show (1 : Int32) + (-1) = 0 from rfl, Int32.add_zero]
theorem pk_mul (a b : Nat) : nI a * nI b = nI (a * b) := (Int32.ofNat_mul a b).symm
theorem pk_div {a d : Nat} (ha : a < 2 ^ 31) (h0 : 0 < d) (hd : d < 2 ^ 31) : nI a / nI d = nI (a / d) := by
  apply Int32.toInt_inj.mp
  rw [lg_idiv_nonneg (by rw [nI_toInt ha]; omega) (by rw [nI_toInt hd]; omega), nI_toInt ha, nI_toInt hd, nI_toInt (Nat.lt_of_le_of_lt (Nat.div_le_self a d) ha)]
  first | rfl | exact (Int.natCast_ediv _ _).symm
theorem pk_ix (x : Int32) {n : Nat} (hn : n < 2 ^ 31) : x < 0 ∨ nI n ≤ x ∨ ∃ j : Nat, j < n ∧ x = nI j := by
  by_cases h : x < 0
  · exact Or.inl h
  · obtain ⟨j, hj, rfl⟩ := nI_of h
    by_cases h2 : j < n
    · exact Or.inr (Or.inr ⟨j, h2, rfl⟩)
    · exact Or.inr (Or.inl (nI_le (by omega) hj))
theorem pk_le {x y : Int32} {A B : Prop} (a b : Nat) (f : a ≤ b → A) (g : b < a → B) (hx : x = nI a := by rfl) (hy : y = nI b := by rfl) (ha : a < 2 ^ 31 := by omega) (hb : b < 2 ^ 31 := by omega) : (x ≤ y → A) ∧ (¬ x ≤ y → B) := by
  subst hx hy
  rw [nI_leI ha hb]
  exact ⟨f, fun z => g (by omega)⟩
theorem pk_lt {x y : Int32} {A B : Prop} (a b : Nat) (f : a < b → A) (g : b ≤ a → B) (hx : x = nI a := by rfl) (hy : y = nI b := by rfl) (ha : a < 2 ^ 31 := by omega) (hb : b < 2 ^ 31 := by omega) : (x < y → A) ∧ (¬ x < y → B) := by
  subst hx hy
  rw [nI_ltI ha hb]
  exact ⟨f, fun z => g (by omega)⟩
theorem pk_eq {x y : Int32} {A B : Prop} (a b : Nat) (f : a = b → A) (g : a ≠ b → B) (hx : x = nI a := by rfl) (hy : y = nI b := by rfl) (ha : a < 2 ^ 31 := by omega) (hb : b < 2 ^ 31 := by omega) : (x = y → A) ∧ (¬ x = y → B) := by
  subst hx hy
  rw [nI_eq ha hb]
  exact ⟨f, g⟩
theorem pk_in {x : Int32} (n N : Nat) (h : n < N) (hx : x = nI n := by rfl) (hN : N < 2 ^ 31 := by omega) : vp_in x N := by
  subst hx
  exact vp_in_nI h hN
theorem pk_cl {x : Int32} (n : Nat) (hx : x = nI n := by rfl) (h : n < 2 ^ 31 := by omega) : x.toNatClampNeg = n := by
  subst hx
  exact nI_clamp h
/-- the tuples that stand from cell b on, n of them -/
def pq_L (tk tv : Nat → Int32) : Nat → Nat → List (Int32 × Int32)
  | _, 0 => []
  | b, n + 1 => (tk b, tv b) :: pq_L tk tv (b + 1) n
theorem pq_L_0 (tk tv : Nat → Int32) (b : Nat) : pq_L tk tv b 0 = [] := by rw [pq_L]
theorem pq_L_s (tk tv : Nat → Int32) (b n : Nat) : pq_L tk tv b (n + 1) = (tk b, tv b) :: pq_L tk tv (b + 1) n := by rw [pq_L]
theorem pq_L_len (tk tv : Nat → Int32) : ∀ (n b : Nat), (pq_L tk tv b n).length = n := by
  intro n
  induction n with
  | zero => intro b; rw [pq_L_0]; rfl
  | succ n ih => intro b; rw [pq_L_s, List.length_cons, ih]
theorem pq_L_congr {tk tv tk' tv' : Nat → Int32} : ∀ (n b : Nat), (∀ j, b ≤ j → j < b + n → tk j = tk' j ∧ tv j = tv' j) → pq_L tk tv b n = pq_L tk' tv' b n := by
  intro n
  induction n with
  | zero => intro b _; rw [pq_L_0, pq_L_0]
  | succ n ih =>
    intro b h
    have h0 := h b (Nat.le_refl b) (by omega)
    rw [pq_L_s, pq_L_s, h0.1, h0.2, ih (b + 1) (fun j h1 h2 => h j (by omega) (by omega))]
theorem pq_L_split (tk tv : Nat → Int32) (m : Nat) : ∀ (n b : Nat), pq_L tk tv b (n + m) = pq_L tk tv b n ++ pq_L tk tv (b + n) m := by
  intro n
  induction n with
  | zero => intro b; rw [Nat.zero_add, Nat.add_zero, pq_L_0, List.nil_append]
  | succ n ih =>
    intro b
    rw [show n + 1 + m = (n + m) + 1 by omega, pq_L_s, pq_L_s, ih (b + 1), List.cons_append, show b + 1 + n = b + (n + 1) by omega]
theorem pq_L_snoc (tk tv : Nat → Int32) (n b : Nat) : pq_L tk tv b (n + 1) = pq_L tk tv b n ++ [(tk (b + n), tv (b + n))] := by
  rw [pq_L_split, pq_L_s, pq_L_0]
theorem pq_L_mem {tk tv : Nat → Int32} {p : Int32 × Int32} : ∀ (n b : Nat), p ∈ pq_L tk tv b n → ∃ j, b ≤ j ∧ j < b + n ∧ p = (tk j, tv j) := by
  intro n
  induction n with
  | zero => intro b h; rw [pq_L_0] at h; simp at h
  | succ n ih =>
    intro b h
    rw [pq_L_s] at h
    cases List.mem_cons.mp h with
    | inl e => exact ⟨b, Nat.le_refl b, by omega, e⟩
    | inr h =>
      obtain ⟨j, h1, h2, e⟩ := ih (b + 1) h
      exact ⟨j, by omega, by omega, e⟩
theorem pq_perm1 {α : Type} (x z : α) (A B : List α) : List.Perm (x :: (A ++ z :: B)) ((A ++ x :: B) ++ [z]) := by
  have h1 : List.Perm (x :: (A ++ z :: B)) (x :: z :: (A ++ B)) := List.Perm.cons x List.perm_middle
  have h2 : List.Perm ((A ++ x :: B) ++ [z]) (z :: (A ++ x :: B)) := List.perm_append_comm
  have h3 : List.Perm (z :: (A ++ x :: B)) (z :: x :: (A ++ B)) := List.Perm.cons z List.perm_middle
  exact h1.trans ((List.Perm.swap z x _).trans (h3.symm.trans h2.symm))
/-- a tuple is taken back: the last one fills its cell -/
theorem pq_L_swap {tk tv : Nat → Int32} {b m i : Nat} (hi : i < m + 1) : List.Perm ((tk (b + i), tv (b + i)) :: pq_L (upd tk (b + i) (tk (b + m))) (upd tv (b + i) (tv (b + m))) b m) (pq_L tk tv b (m + 1)) := by
  rw [pq_L_snoc tk tv m b]
  by_cases h : i = m
  · subst h
    rw [pq_L_congr (tk' := tk) (tv' := tv) i b (fun j h1 h2 => ⟨pk_un (by omega), pk_un (by omega)⟩)]
    exact List.perm_append_comm (l₁ := [(tk (b + i), tv (b + i))])
  · obtain ⟨d, e⟩ : ∃ d, m = i + (d + 1) := ⟨m - i - 1, by omega⟩
    have e1 : pq_L tk tv b m = pq_L tk tv b i ++ (tk (b + i), tv (b + i)) :: pq_L tk tv (b + i + 1) d := by
      rw [e, pq_L_split, pq_L_s]
    have e2 : pq_L (upd tk (b + i) (tk (b + m))) (upd tv (b + i) (tv (b + m))) b m = pq_L tk tv b i ++ (tk (b + m), tv (b + m)) :: pq_L tk tv (b + i + 1) d := by
      generalize tk (b + m) = x
      generalize tv (b + m) = y
      rw [e, pq_L_split, pq_L_s, pk_us, pk_us, pq_L_congr (tk' := tk) (tv' := tv) i b (fun j h1 h2 => ⟨pk_un (by omega), pk_un (by omega)⟩), pq_L_congr (tk' := tk) (tv' := tv) d (b + i + 1) (fun j h1 h2 => ⟨pk_un (by omega), pk_un (by omega)⟩)]
    rw [e1, e2]
    exact pq_perm1 _ _ _ _
/-- a scan that drops the tuples of a key, at cell b + i with q tuples kept -/
def pq_Dr (tk tv : Nat → Int32) (b i q : Nat) (key : Int32) (tk' tv' : Nat → Int32) : Prop :=
  q ≤ i ∧ pq_L tk' tv' b q = (pq_L tk tv b i).filter (fun p => decide (¬ p.1 = key)) ∧ ∀ j, (j < b ∨ b + i ≤ j) → tk' j = tk j ∧ tv' j = tv j
theorem pq_Dr_0 (tk tv : Nat → Int32) (b : Nat) (key : Int32) : pq_Dr tk tv b 0 0 key tk tv := by
  refine ⟨Nat.le_refl 0, ?_, fun j _ => ⟨rfl, rfl⟩⟩
  rw [pq_L_0]; rfl
theorem pq_Dr_d {tk tv : Nat → Int32} {b i q : Nat} {key : Int32} {tk' tv' : Nat → Int32} (h : pq_Dr tk tv b i q key tk' tv') (hk : tk' (b + i) = key) : pq_Dr tk tv b (i + 1) q key tk' tv' := by
  obtain ⟨h1, h2, h3⟩ := h
  have hc := h3 (b + i) (Or.inr (Nat.le_refl _))
  refine ⟨by omega, ?_, fun j hj => h3 j (by omega)⟩
  rw [h2, pq_L_snoc, List.filter_append, ← hc.1, hk]
  simp
theorem pq_Dr_k {tk tv : Nat → Int32} {b i q : Nat} {key : Int32} {tk' tv' : Nat → Int32} (h : pq_Dr tk tv b i q key tk' tv') (hk : ¬ tk' (b + i) = key) : pq_Dr tk tv b (i + 1) (q + 1) key (upd tk' (b + q) (tk' (b + i))) (upd tv' (b + q) (tv' (b + i))) := by
  obtain ⟨h1, h2, h3⟩ := h
  have hc := h3 (b + i) (Or.inr (Nat.le_refl _))
  refine ⟨by omega, ?_, fun j hj => ?_⟩
  · have hk' : ¬ tk (b + i) = key := by rw [← hc.1]; exact hk
    rw [pq_L_snoc, pk_us, pk_us, pq_L_congr (tk' := tk') (tv' := tv') q b (fun j _ h2 => ⟨pk_un (by omega), pk_un (by omega)⟩), h2, pq_L_snoc, List.filter_append, hc.1, hc.2]
    simp [hk']
  · rw [pk_un (by omega), pk_un (by omega)]
    exact h3 j (by omega)
/-- a sum over tuples -/
def pq_sm (f : Int32 × Int32 → Int32) : List (Int32 × Int32) → Int32
  | [] => 0
  | p :: l => f p + pq_sm f l
theorem pq_sm_n (f : Int32 × Int32 → Int32) : pq_sm f [] = 0 := by rw [pq_sm]
theorem pq_sm_c (f : Int32 × Int32 → Int32) (p : Int32 × Int32) (l : List (Int32 × Int32)) : pq_sm f (p :: l) = f p + pq_sm f l := by rw [pq_sm]
theorem pq_sm_perm (f : Int32 × Int32 → Int32) {l l' : List (Int32 × Int32)} (h : List.Perm l l') : pq_sm f l = pq_sm f l' := by
  induction h with
  | nil => rfl
  | cons x _ ih => rw [pq_sm_c, pq_sm_c, ih]
  | swap x y l => rw [pq_sm_c, pq_sm_c, pq_sm_c, pq_sm_c, ← Int32.add_assoc, ← Int32.add_assoc, Int32.add_comm (f x)]
  | trans _ _ ih1 ih2 => exact ih1.trans ih2
theorem pq_sm_app (f : Int32 × Int32 → Int32) (l' : List (Int32 × Int32)) : ∀ l, pq_sm f (l ++ l') = pq_sm f l + pq_sm f l' := by
  intro l
  induction l with
  | nil => rw [pq_sm_n, List.nil_append, Int32.zero_add]
  | cons p l ih => rw [List.cons_append, pq_sm_c, pq_sm_c, ih, Int32.add_assoc]
theorem pq_sm_congr {f g : Int32 × Int32 → Int32} : ∀ {l : List (Int32 × Int32)}, (∀ p, p ∈ l → f p = g p) → pq_sm f l = pq_sm g l := by
  intro l
  induction l with
  | nil => intro _; rw [pq_sm_n, pq_sm_n]
  | cons p l ih => intro h; rw [pq_sm_c, pq_sm_c, h p List.mem_cons_self, ih (fun q hq => h q (List.mem_cons_of_mem _ hq))]
theorem pq_sm_mul (c : Int32) (f : Int32 × Int32 → Int32) : ∀ l, pq_sm (fun p => c * f p) l = c * pq_sm f l := by
  intro l
  induction l with
  | nil => rw [pq_sm_n, pq_sm_n, Int32.mul_zero]
  | cons p l ih => rw [pq_sm_c, pq_sm_c, ih, Int32.mul_add]
theorem pq_sm_mulr (c : Int32) (f : Int32 × Int32 → Int32) : ∀ l, pq_sm (fun p => f p * c) l = pq_sm f l * c := by
  intro l
  induction l with
  | nil => rw [pq_sm_n, pq_sm_n, Int32.zero_mul]
  | cons p l ih => rw [pq_sm_c, pq_sm_c, ih, Int32.add_mul]
/-- the sum of products is the product of sums -/
theorem pq_sm_pair (f g : Int32 × Int32 → Int32) (l0 l1 : List (Int32 × Int32)) : pq_sm (fun a => pq_sm (fun b => f a * g b) l1) l0 = pq_sm f l0 * pq_sm g l1 := by
  rw [← pq_sm_mulr]
  exact pq_sm_congr (fun a _ => pq_sm_mul (f a) g l1)
def pq_v (k : Int32) (p : Int32 × Int32) : Int32 := if p.1 = k then p.2 else 0
def pq_c (k : Int32) (p : Int32 × Int32) : Int32 := if p.1 = k then 1 else 0
/-- how many tuples of a key -/
def pq_n (k : Int32) (l : List (Int32 × Int32)) : Nat := l.countP (fun p => decide (p.1 = k))
theorem pq_n_nil (k : Int32) : pq_n k [] = 0 := rfl
theorem pq_n_c (k : Int32) (p : Int32 × Int32) (l : List (Int32 × Int32)) : pq_n k (p :: l) = pq_n k l + (if p.1 = k then 1 else 0) := by
  unfold pq_n
  rw [List.countP_cons]
  by_cases h : p.1 = k <;> simp [h]
theorem pq_n_le (k : Int32) (l : List (Int32 × Int32)) : pq_n k l ≤ l.length := List.countP_le_length
theorem pq_n_perm (k : Int32) {l l' : List (Int32 × Int32)} (h : List.Perm l l') : pq_n k l = pq_n k l' := h.countP_eq _
theorem pq_n_sm (k : Int32) : ∀ l, pq_sm (pq_c k) l = nI (pq_n k l) := by
  intro l
  induction l with
  | nil => rw [pq_sm_n, pq_n_nil]; rfl
  | cons p l ih =>
    rw [pq_sm_c, pq_n_c, ih, pq_c]
    by_cases h : p.1 = k
    · rw [if_pos h, if_pos h, ← nI_1, Int32.add_comm]
    · rw [if_neg h, if_neg h, Nat.add_zero, Int32.zero_add]
theorem pq_n_pos {k : Int32} {l : List (Int32 × Int32)} : 0 < pq_n k l ↔ ∃ p, p ∈ l ∧ p.1 = k := by
  unfold pq_n
  rw [List.countP_pos_iff]
  constructor
  · rintro ⟨p, hp, e⟩; exact ⟨p, hp, of_decide_eq_true e⟩
  · rintro ⟨p, hp, e⟩; exact ⟨p, hp, decide_eq_true e⟩
theorem pq_cc1 (k : Int32) (a b : Int32 × Int32) (h : a.1 = k) (h' : b.1 = k) : pq_c k a * pq_c k b = 1 := by
  unfold pq_c
  rw [if_pos h, if_pos h']; rfl
theorem pq_cc0 (k : Int32) (a b : Int32 × Int32) (h : ¬ a.1 = k ∨ ¬ b.1 = k) : pq_c k a * pq_c k b = 0 := by
  unfold pq_c
  cases h with
  | inl h => rw [if_neg h, Int32.zero_mul]
  | inr h => rw [if_neg h, Int32.mul_zero]
theorem pq_vv1 (k : Int32) (a b : Int32 × Int32) (h : a.1 = k) (h' : b.1 = k) : pq_v k a * pq_v k b = a.2 * b.2 := by
  unfold pq_v
  rw [if_pos h, if_pos h']
theorem pq_vv0 (k : Int32) (a b : Int32 × Int32) (h : ¬ a.1 = k ∨ ¬ b.1 = k) : pq_v k a * pq_v k b = 0 := by
  unfold pq_v
  cases h with
  | inl h => rw [if_neg h, Int32.zero_mul]
  | inr h => rw [if_neg h, Int32.mul_zero]
/-- cells lo to hi taken from the right neighbour -/
def pq_sh (f : Nat → Int32) (lo hi : Nat) : Nat → Int32 := fun q => if lo ≤ q ∧ q < hi then f (q + 1) else f q
theorem pq_sh_in {f : Nat → Int32} {lo hi q : Nat} (h : lo ≤ q ∧ q < hi) : pq_sh f lo hi q = f (q + 1) := if_pos h
theorem pq_sh_out {f : Nat → Int32} {lo hi q : Nat} (h : ¬ (lo ≤ q ∧ q < hi)) : pq_sh f lo hi q = f q := if_neg h
theorem pq_sh_0 (f : Nat → Int32) (lo : Nat) : pq_sh f lo lo = f := by
  funext q
  exact pq_sh_out (by omega)
theorem pq_sh_s (f : Nat → Int32) {lo hi : Nat} (h : lo ≤ hi) : upd (pq_sh f lo hi) hi (pq_sh f lo hi (hi + 1)) = pq_sh f lo (hi + 1) := by
  funext q
  by_cases e : q = hi
  · subst e
    rw [pk_us, pq_sh_out (by omega), pq_sh_in (by omega)]
  · rw [pk_un e]
    by_cases c : lo ≤ q ∧ q < hi
    · rw [pq_sh_in c, pq_sh_in (by omega)]
    · rw [pq_sh_out c, pq_sh_out (by omega)]
theorem pq_L_shift (f g : Nat → Int32) : ∀ (d lo : Nat) (F G : Nat → Int32), (∀ q, lo ≤ q → q < lo + d → F q = f (q + 1) ∧ G q = g (q + 1)) → pq_L F G lo d = pq_L f g (lo + 1) d := by
  intro d
  induction d with
  | zero => intro lo F G _; rw [pq_L_0, pq_L_0]
  | succ d ih =>
    intro lo F G h
    have h0 := h lo (Nat.le_refl lo) (by omega)
    rw [pq_L_s, pq_L_s, h0.1, h0.2, ih (lo + 1) F G (fun q h1 h2 => h q (by omega) (by omega))]
/-- the list without its tuple i -/
theorem pq_L_sh (f g : Nat → Int32) (b i d : Nat) : pq_L (pq_sh f (b + i) (b + (i + d))) (pq_sh g (b + i) (b + (i + d))) b (i + d) = pq_L f g b i ++ pq_L f g (b + i + 1) d := by
  rw [pq_L_split]
  rw [pq_L_congr (tk' := f) (tv' := g) i b (fun j h1 h2 => ⟨pq_sh_out (by omega), pq_sh_out (by omega)⟩)]
  rw [pq_L_shift f g d (b + i) _ _ (fun q h1 h2 => ⟨pq_sh_in (by omega), pq_sh_in (by omega)⟩)]
theorem pq_L_at (f g : Nat → Int32) (b i d : Nat) : pq_L f g b (i + d + 1) = pq_L f g b i ++ (f (b + i), g (b + i)) :: pq_L f g (b + i + 1) d := by
  rw [show i + d + 1 = i + (d + 1) by omega, pq_L_split, pq_L_s]
