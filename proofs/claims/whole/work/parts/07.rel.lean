/-- stream s on both sides: the same tuples in some order, small values -/
def pq_St (tk tv hc yk yv yc : Nat → Int32) (s : Nat) : Prop :=
  ∃ n : Nat, n ≤ 40 ∧ hc s = nI n ∧ yc s = nI n ∧ List.Perm (pq_L tk tv (40 * s) n) (pq_L yk yv (40 * s) n) ∧ ∀ p, p ∈ pq_L tk tv (40 * s) n → pq_sml p.2
def pq_K (rc : Int32) (tk tv hc cm yc yk yv : Nat → Int32) : Prop :=
  (∃ m : Nat, rc = nI m ∧ m ≤ pq_fc cm 16) ∧ (∀ s, s < 2 → pq_St tk tv hc yk yv yc s) ∧ ∀ j, cm j = 0 ∨ cm j = 1
def pq_RR (u : SX) (v : SY) : Prop :=
  ∃ (rc : Int32) (tk tv hc cm rk rp rs rl rg : Nat → Int32) (yp ys yl yg : Int32) (yc yk yv : Nat → Int32), u = (rc, tk, tv, hc, cm, rk, rp, rs, rl, rg) ∧ v = (rc, yp, ys, yl, yg, yc, yk, yv, cm, rk, rp, rs, rl, rg) ∧ pq_K rc tk tv hc cm yc yk yv
def i_Rel (_ : Nat) (u : SX) (v : SY) : Prop := pq_RR u v
theorem i_up {k : Nat} {u : SX} {v : SY} (h : i_Rel k u v) : i_Rel (k + 4) u v := h
theorem i_vc0 : wpX_init (fun u => wpY_init (fun v => i_Rel 0 u v)) := by
  refine ⟨0, _, _, _, _, _, _, _, _, _, 0, 0, 0, 0, _, _, _, rfl, rfl, ⟨0, rfl, by omega⟩, fun s hs => ?_, fun j => Or.inl rfl⟩
  refine ⟨0, by omega, rfl, rfl, ?_, fun p hp => ?_⟩
  · exact List.Perm.refl _
  · rw [pq_L_0] at hp; simp at hp
theorem pq_St_fr {tk tv hc yk yv yc tk' tv' hc' yk' yv' yc' : Nat → Int32} {s : Nat} (h : pq_St tk tv hc yk yv yc s) (h1 : ∀ q, 40 * s ≤ q → q < 40 * s + 40 → tk' q = tk q ∧ tv' q = tv q) (h2 : ∀ q, 40 * s ≤ q → q < 40 * s + 40 → yk' q = yk q ∧ yv' q = yv q) (h3 : hc' s = hc s) (h4 : yc' s = yc s) : pq_St tk' tv' hc' yk' yv' yc' s := by
  obtain ⟨n, b, g1, g2, g3, g4⟩ := h
  have e1 : pq_L tk' tv' (40 * s) n = pq_L tk tv (40 * s) n := pq_L_congr n _ (fun j a1 a2 => h1 j a1 (by omega))
  have e2 : pq_L yk' yv' (40 * s) n = pq_L yk yv (40 * s) n := pq_L_congr n _ (fun j a1 a2 => h2 j a1 (by omega))
  refine ⟨n, b, h3.trans g1, h4.trans g2, ?_, ?_⟩
  · rw [e1, e2]; exact g3
  · rw [e1]; exact g4
theorem pq_str (x : Int32) : (∃ s, s < 2 ∧ x = nI s ∧ (∀ post : Int32 → Prop, post 1 → wpX_isStream post x) ∧ (∀ (post : Int32 → Prop) (v : SY), post 0 → wpY_badStream post v x)) ∨ ((∀ post : Int32 → Prop, post 0 → wpX_isStream post x) ∧ (∀ (post : Int32 → Prop) (v : SY), post 1 → wpY_badStream post v x)) := by
  rcases pk_ix x (n := 2) (by decide) with h | h | ⟨j, hj, rfl⟩
  · exact Or.inr ⟨fun post hp => br_t h hp, fun post v hp => by
      obtain ⟨a1, a2, a3, a4, a5, a6, a7, a8, a9, a10, a11, a12, a13, a14⟩ := v
      exact br_t h hp⟩
  · have h0 : ¬ x < 0 := fun z => absurd (Int32.lt_of_le_of_lt h z) (by decide)
    have h1 : ¬ x ≤ 1 := fun z => absurd (Int32.le_trans h z) (by decide)
    exact Or.inr ⟨fun post hp => br_f h0 (br_t h hp), fun post v hp => by
      obtain ⟨a1, a2, a3, a4, a5, a6, a7, a8, a9, a10, a11, a12, a13, a14⟩ := v
      exact br_f h0 (br_f h1 hp)⟩
  · have h0 : ¬ nI j < 0 := nI_pos (by omega)
    have h2 : ¬ (2 : Int32) ≤ nI j := nI_ge (b := 2) hj (by decide)
    have h1 : nI j ≤ 1 := nI_le (b := 1) (by omega) (by decide)
    exact Or.inl ⟨j, hj, rfl, fun post hp => br_f h0 (br_f h2 hp), fun post v hp => by
      obtain ⟨a1, a2, a3, a4, a5, a6, a7, a8, a9, a10, a11, a12, a13, a14⟩ := v
      exact br_f h0 (br_t h1 hp)⟩
theorem pq_key (x : Int32) : (∃ s, s < 16 ∧ x = nI s ∧ (∀ post : Int32 → Prop, post 1 → wpX_isKey post x) ∧ (∀ (post : Int32 → Prop) (v : SY), post 0 → wpY_badKey post v x)) ∨ ((∀ post : Int32 → Prop, post 0 → wpX_isKey post x) ∧ (∀ (post : Int32 → Prop) (v : SY), post 1 → wpY_badKey post v x)) := by
  rcases pk_ix x (n := 16) (by decide) with h | h | ⟨j, hj, rfl⟩
  · exact Or.inr ⟨fun post hp => br_t h hp, fun post v hp => by
      obtain ⟨a1, a2, a3, a4, a5, a6, a7, a8, a9, a10, a11, a12, a13, a14⟩ := v
      exact br_t h hp⟩
  · have h0 : ¬ x < 0 := fun z => absurd (Int32.lt_of_le_of_lt h z) (by decide)
    have h1 : ¬ x ≤ 15 := fun z => absurd (Int32.le_trans h z) (by decide)
    exact Or.inr ⟨fun post hp => br_f h0 (br_t h hp), fun post v hp => by
      obtain ⟨a1, a2, a3, a4, a5, a6, a7, a8, a9, a10, a11, a12, a13, a14⟩ := v
      exact br_f h0 (br_f h1 hp)⟩
  · have h0 : ¬ nI j < 0 := nI_pos (by omega)
    have h2 : ¬ (16 : Int32) ≤ nI j := nI_ge (b := 16) hj (by decide)
    have h1 : nI j ≤ 15 := nI_le (b := 15) (by omega) (by decide)
    exact Or.inl ⟨j, hj, rfl, fun post hp => br_f h0 (br_f h2 hp), fun post v hp => by
      obtain ⟨a1, a2, a3, a4, a5, a6, a7, a8, a9, a10, a11, a12, a13, a14⟩ := v
      exact br_f h0 (br_t h1 hp)⟩
theorem xq_16 (s k : Nat) : nI s * 16 + nI k = nI (16 * s + k) := by
  rw [show (16 : Int32) = nI 16 from rfl, pk_mul, nI_add, Nat.mul_comm]
theorem yq_16 (s k : Nat) : (16 : Int32) * nI s + nI k = nI (16 * s + k) := by
  rw [show (16 : Int32) = nI 16 from rfl, pk_mul, nI_add]
theorem yq_a16 (k : Nat) : (16 : Int32) + nI k = nI (16 + k) := nI_add 16 k
def pq_fi (cm : Nat → Int32) (k : Nat) : Int32 := if cm k = 0 then 0 else if cm (16 + k) = 0 then 0 else 1
section
variable {rc : Int32} {tk tv hc cm rk rp rs rl rg : Nat → Int32} {yr yp ys yl yg : Int32} {yc yk yv qk qp qs ql qg : Nat → Int32}
theorem xq_cl {post : Int32 → Prop} {s k : Nat} (hs : s < 2) (hk : k < 16) (hb : ∀ j, cm j = 0 ∨ cm j = 1) (hp : post (cm (16 * s + k))) : wpX_isClosed post (rc, tk, tv, hc, cm, rk, rp, rs, rl, rg) (nI s) (nI k) := by
  unfold wpX_isClosed
  dsimp only
  rw [xq_16, nI_clamp (by omega)]
  refine ⟨vp_in_nI (by omega) (by decide), ?_, hp⟩
  rcases hb (16 * s + k) with h | h <;> rw [h] <;> rfl
theorem xq_fi {post : Int32 → Prop} {k : Nat} (hk : k < 16) (hb : ∀ j, cm j = 0 ∨ cm j = 1) (hp : post (pq_fi cm k)) : wpX_isFinished post (rc, tk, tv, hc, cm, rk, rp, rs, rl, rg) (nI k) := by
  unfold wpX_isFinished
  dsimp only
  unfold pq_fi at hp
  refine xq_cl (s := 0) (by decide) hk hb ?_
  rw [show 16 * 0 + k = k by omega]
  by_cases e : cm k = 0
  · rw [if_pos e] at hp
    exact br_t e hp
  · rw [if_neg e] at hp
    refine br_f e ?_
    refine xq_cl (s := 1) (by decide) hk hb ?_
    rw [show 16 * 1 + k = 16 + k by omega]
    by_cases e' : cm (16 + k) = 0
    · rw [if_pos e'] at hp
      exact br_t e' hp
    · rw [if_neg e'] at hp
      exact br_f e' hp
theorem yq_fi {post : Int32 → Prop} {k : Nat} (hk : k < 16) (hp : post (pq_fi cm k)) : wpY_finished post (yr, yp, ys, yl, yg, yc, yk, yv, cm, qk, qp, qs, ql, qg) (nI k) := by
  unfold wpY_finished
  dsimp only
  unfold pq_fi at hp
  rw [nI_clamp (n := k) (by omega), yq_a16, nI_clamp (by omega)]
  refine ⟨vp_in_nI (by omega) (by decide), ?_⟩
  by_cases e : cm k = 0
  · rw [if_pos e] at hp
    exact br_t e hp
  · rw [if_neg e] at hp
    refine br_f e ⟨vp_in_nI (by omega) (by decide), ?_⟩
    by_cases e' : cm (16 + k) = 0
    · rw [if_pos e'] at hp
      exact br_t e' hp
    · rw [if_neg e'] at hp
      exact br_f e' hp
theorem pq_bd_l {g : Nat} (hg : g < 4) (hb : ∀ j, cm j = 0 ∨ cm j = 1) : ∀ (d k : Nat), k + d = 4 * g + 4 → ∃ r : Int32, (∀ post : Int32 → Prop, post r → wX_isBandFinished_6 post (nI (4 * g)) rc tk tv hc cm rk rp rs rl rg (d + 1) (nI k)) ∧ (∀ post : Int32 → Prop, post r → wY_bandDone_4 post (nI g) yr yp ys yl yg yc yk yv cm qk qp qs ql qg (d + 1) (nI k)) := by
  intro d
  have eX : nI (4 * g) + 4 = nI (4 * g + 4) := nI_add (4 * g) 4
  have eY : (4 : Int32) * nI g + 4 = nI (4 * g + 4) := by
    rw [show (4 : Int32) = nI 4 from rfl, pk_mul, nI_add]
  induction d with
  | zero =>
    intro k hk
    refine ⟨1, fun post hp => br_t ?_ hp, fun post hp => br_t ?_ hp⟩
    · rw [eX]; exact nI_le (by omega) (by omega)
    · rw [eY]; exact nI_le (by omega) (by omega)
  | succ d ih =>
    intro k hk
    have nX : ¬ (nI (4 * g) + 4 ≤ nI k) := by rw [eX]; exact nI_ge (by omega) (by omega)
    have nY : ¬ ((4 : Int32) * nI g + 4 ≤ nI k) := by rw [eY]; exact nI_ge (by omega) (by omega)
    by_cases e : pq_fi cm k = 0
    · exact ⟨0, fun post hp => br_f nX (xq_fi (by omega) hb (br_t e hp)), fun post hp => br_f nY (yq_fi (by omega) (br_t e hp))⟩
    · obtain ⟨r, hX, hY⟩ := ih (k + 1) (by omega)
      exact ⟨r, fun post hp => br_f nX (xq_fi (by omega) hb (br_f e (nm_r (nI_1 k) (hX post hp)))), fun post hp => br_f nY (yq_fi (by omega) (br_f e (nm_r (nI_1 k) (hY post hp))))⟩
theorem pq_bd {g : Nat} (hg : g < 4) (hb : ∀ j, cm j = 0 ∨ cm j = 1) : ∃ r : Int32, (∀ post : Int32 → Prop, post r → wpX_isBandFinished post (rc, tk, tv, hc, cm, rk, rp, rs, rl, rg) (nI g)) ∧ (∀ post : Int32 → Prop, post r → wpY_bandDone post (yr, yp, ys, yl, yg, yc, yk, yv, cm, qk, qp, qs, ql, qg) (nI g)) := by
  obtain ⟨r, hX, hY⟩ := pq_bd_l (rc := rc) (tk := tk) (tv := tv) (hc := hc) (cm := cm) (rk := rk) (rp := rp) (rs := rs) (rl := rl) (rg := rg) (yr := yr) (yp := yp) (ys := ys) (yl := yl) (yg := yg) (yc := yc) (yk := yk) (yv := yv) (qk := qk) (qp := qp) (qs := qs) (ql := ql) (qg := qg) hg hb 4 (4 * g) rfl
  refine ⟨r, fun post hp => nm_r (e' := nI (4 * g)) ?_ ⟨5, hX post hp⟩, fun post hp => nm_r (e' := nI (4 * g)) ?_ ⟨5, hY post hp⟩⟩
  · rw [show (4 : Int32) = nI 4 from rfl, pk_mul, Nat.mul_comm]
  · rw [show (4 : Int32) = nI 4 from rfl, pk_mul]
theorem pq_bf_l (hb : ∀ j, cm j = 0 ∨ cm j = 1) : ∀ (d g : Nat) (x : Int32), g + d = 4 → ∃ r : Int32, (∀ post : Int32 → Prop, post r → wX_bandsFinished_4 post rc tk tv hc cm rk rp rs rl rg (d + 1) x (nI g)) ∧ (∀ post : Int32 → Prop, post r → wY_bandsFinished_4 post yr yp ys yl yg yc yk yv cm qk qp qs ql qg (d + 1) x (nI g)) := by
  intro d
  induction d with
  | zero =>
    intro g x hg
    have h4 : (4 : Int32) ≤ nI g := nI_le (a := 4) (by omega) (by omega)
    exact ⟨x, fun post hp => br_t h4 hp, fun post hp => br_t h4 hp⟩
  | succ d ih =>
    intro g x hg
    have h4 : ¬ ((4 : Int32) ≤ nI g) := nI_ge (b := 4) (by omega) (by decide)
    obtain ⟨r, hX, hY⟩ := pq_bd (rc := rc) (tk := tk) (tv := tv) (hc := hc) (cm := cm) (rk := rk) (rp := rp) (rs := rs) (rl := rl) (rg := rg) (yr := yr) (yp := yp) (ys := ys) (yl := yl) (yg := yg) (yc := yc) (yk := yk) (yv := yv) (qk := qk) (qp := qp) (qs := qs) (ql := ql) (qg := qg) (g := g) (by omega) hb
    by_cases e : r = 0
    · obtain ⟨r', hX', hY'⟩ := ih (g + 1) x (by omega)
      exact ⟨r', fun post hp => br_f h4 (hX _ (br_t e (nm_r (nI_1 g) (hX' post hp)))), fun post hp => br_f h4 (hY _ (br_t e (nm_r (nI_1 g) (hY' post hp))))⟩
    · obtain ⟨r', hX', hY'⟩ := ih (g + 1) (x + 1) (by omega)
      exact ⟨r', fun post hp => br_f h4 (hX _ (br_f e (nm_e (nm_r (nI_1 g) (hX' post hp))))), fun post hp => br_f h4 (hY _ (br_f e (nm_e (nm_r (nI_1 g) (hY' post hp)))))⟩
theorem pq_bs_l {m : Nat} {b : Int32} (hm : m ≤ 16) : ∀ (d i : Nat) (x : Int32), i + d = m → ∃ r : Int32, (∀ post : Int32 → Prop, post r → wX_bandSum_27 post b (nI m) tk tv hc cm rk rp rs rl rg (d + 1) x (nI i)) ∧ (∀ post : Int32 → Prop, post r → wY_bandSum_27 post b (nI m) yp ys yl yg yc yk yv cm rk rp rs rl rg (d + 1) x (nI i)) := by
  intro d
  induction d with
  | zero =>
    intro i x hi
    have h : nI m ≤ nI i := nI_le (by omega) (by omega)
    exact ⟨x, fun post hp => br_t h hp, fun post hp => br_t h hp⟩
  | succ d ih =>
    intro i x hi
    have h : ¬ nI m ≤ nI i := nI_ge (by omega) (by omega)
    have h16 : ¬ ((16 : Int32) ≤ nI i) := nI_ge (b := 16) (by omega) (by decide)
    have hI : vp_in (nI i) 16 := vp_in_nI (by omega) (by decide)
    have h4 : ¬ (4 : Int32) = 0 := by decide
    by_cases e : rk (nI i).toNatClampNeg / 4 = b
    · obtain ⟨r, hX, hY⟩ := ih (i + 1) (x + rs (nI i).toNatClampNeg) (by omega)
      exact ⟨r, fun post hp => br_f h ⟨hI, h4, br_t e ⟨hI, nm_e (nm_r (nI_1 i) (hX post hp))⟩⟩, fun post hp => br_f h (br_f h16 ⟨hI, h4, br_t e ⟨hI, nm_e (nm_r (nI_1 i) (hY post hp))⟩⟩)⟩
    · obtain ⟨r, hX, hY⟩ := ih (i + 1) x (by omega)
      exact ⟨r, fun post hp => br_f h ⟨hI, h4, br_f e (nm_r (nI_1 i) (hX post hp))⟩, fun post hp => br_f h (br_f h16 ⟨hI, h4, br_f e (nm_r (nI_1 i) (hY post hp))⟩)⟩
theorem pq_res {m : Nat} (hm : m ≤ 16) (x : Int32) : (∃ j, j < m ∧ x = nI j ∧ (∀ post : Int32 → Prop, post 1 → wpX_isResult post (nI m, tk, tv, hc, cm, rk, rp, rs, rl, rg) x) ∧ (∀ post : Int32 → Prop, post 0 → wpY_noResult post (nI m, yp, ys, yl, yg, yc, yk, yv, cm, qk, qp, qs, ql, qg) x)) ∨ ((∀ post : Int32 → Prop, post 0 → wpX_isResult post (nI m, tk, tv, hc, cm, rk, rp, rs, rl, rg) x) ∧ (∀ post : Int32 → Prop, post 1 → wpY_noResult post (nI m, yp, ys, yl, yg, yc, yk, yv, cm, qk, qp, qs, ql, qg) x)) := by
  rcases pk_ix x (n := m) (by omega) with h | h | ⟨j, hj, rfl⟩
  · exact Or.inr ⟨fun post hp => br_t h hp, fun post hp => br_t h hp⟩
  · have h0 : ¬ x < 0 := fun z => absurd (Int32.lt_of_le_of_lt h z) (nI_pos (by omega))
    exact Or.inr ⟨fun post hp => br_f h0 (br_t h hp), fun post hp => br_f h0 (br_t h hp)⟩
  · have h0 : ¬ nI j < 0 := nI_pos (by omega)
    have h1 : ¬ nI m ≤ nI j := nI_ge hj (by omega)
    have h2 : nI j < 16 := nI_lt (b := 16) (by omega) (by decide)
    exact Or.inl ⟨j, hj, rfl, fun post hp => br_f h0 (br_f h1 hp), fun post hp => br_f h0 (br_f h1 (br_t h2 hp))⟩
end
