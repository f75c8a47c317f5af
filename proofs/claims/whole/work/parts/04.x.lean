theorem xq_40 (s : Nat) : nI s * 40 = nI (40 * s) := by
  rw [show (40 : Int32) = nI 40 from rfl, pk_mul, Nat.mul_comm]
theorem xq_m1 (m : Nat) : (40 : Int32) + nI m = nI (40 + m) := nI_add 40 m
section
variable {rc : Int32} {tk tv hc cm rk rp rs rl rg : Nat → Int32}
theorem xq_ct_l {post : Int32 → Prop} {s m : Nat} {x2 : Int32} (hs : s < 2) (hh : hc s = nI m) (hm : m ≤ 40) : ∀ (d i : Nat) (c : Int32), i + d = m → post (c + pq_sm (pq_c x2) (pq_L tk tv (40 * s + i) d)) → wX_countTuples_11 post (nI s) x2 (nI (40 * s)) rc tk tv hc cm rk rp rs rl rg (d + 1) c (nI (40 * s + i)) := by
  intro d
  induction d with
  | zero =>
    intro i c hi hp
    refine ⟨vp_in_nI hs (by decide), br_t ?_ ?_⟩
    · rw [nI_clamp (by omega), hh, nI_add]; exact nI_le (by omega) (by omega)
    · rw [pq_L_0, pq_sm_n, Int32.add_zero] at hp; exact hp
  | succ d ih =>
    intro i c hi hp
    have hb : vp_in (nI (40 * s + i)) 80 := vp_in_nI (by omega) (by decide)
    have hn : ¬ (nI (40 * s) + hc (nI s).toNatClampNeg ≤ nI (40 * s + i)) := by
      rw [nI_clamp (by omega), hh, nI_add]; exact nI_ge (by omega) (by omega)
    have ec : (nI (40 * s + i)).toNatClampNeg = 40 * s + i := nI_clamp (by omega)
    rw [pq_L_s, pq_sm_c, pq_c] at hp
    dsimp only at hp
    refine ⟨vp_in_nI hs (by decide), br_f hn ⟨hb, ?_⟩⟩
    rw [ec]
    by_cases h : tk (40 * s + i) = x2
    · rw [if_pos h, ← Int32.add_assoc] at hp
      exact br_t h (nm_e (nm_r (nI_1 _) (ih (i + 1) (c + 1) (by omega) hp)))
    · rw [if_neg h, Int32.zero_add] at hp
      exact br_f h (nm_r (nI_1 _) (ih (i + 1) c (by omega) hp))
theorem xq_ct {post : Int32 → Prop} {s m : Nat} {x2 : Int32} (hs : s < 2) (hh : hc s = nI m) (hm : m ≤ 40) (hp : post (nI (pq_n x2 (pq_L tk tv (40 * s) m)))) : wpX_countTuples post (rc, tk, tv, hc, cm, rk, rp, rs, rl, rg) (nI s) x2 := by
  refine nm_r (xq_40 s) ⟨m + 1, xq_ct_l hs hh hm m 0 0 (by omega) ?_⟩
  rw [Int32.zero_add, pq_n_sm]; exact hp
theorem xq_cp {post : Int32 → Prop} {m0 m1 : Nat} {x2 : Int32} (h0 : hc 0 = nI m0) (b0 : m0 ≤ 40) (h1 : hc 1 = nI m1) (b1 : m1 ≤ 40) (hp : post (nI (pq_n x2 (pq_L tk tv 0 m0)) * nI (pq_n x2 (pq_L tk tv 40 m1)))) : wpX_countPairs post (rc, tk, tv, hc, cm, rk, rp, rs, rl, rg) x2 := by
  unfold wpX_countPairs
  dsimp only
  refine xq_ct (s := 0) (by decide) h0 b0 ?_
  refine xq_ct (s := 1) (by decide) h1 b1 ?_
  exact hp
theorem xq_sv_l {post : Int32 → Prop} {s m : Nat} {x2 : Int32} (hs : s < 2) (hh : hc s = nI m) (hm : m ≤ 40) : ∀ (d i : Nat) (c : Int32), i + d = m → post (c + pq_sm (pq_v x2) (pq_L tk tv (40 * s + i) d)) → wX_sumOfValues_11 post (nI s) x2 (nI (40 * s)) rc tk tv hc cm rk rp rs rl rg (d + 1) c (nI (40 * s + i)) := by
  intro d
  induction d with
  | zero =>
    intro i c hi hp
    refine ⟨vp_in_nI hs (by decide), br_t ?_ ?_⟩
    · rw [nI_clamp (by omega), hh, nI_add]; exact nI_le (by omega) (by omega)
    · rw [pq_L_0, pq_sm_n, Int32.add_zero] at hp; exact hp
  | succ d ih =>
    intro i c hi hp
    have hb : vp_in (nI (40 * s + i)) 80 := vp_in_nI (by omega) (by decide)
    have hn : ¬ (nI (40 * s) + hc (nI s).toNatClampNeg ≤ nI (40 * s + i)) := by
      rw [nI_clamp (by omega), hh, nI_add]; exact nI_ge (by omega) (by omega)
    have ec : (nI (40 * s + i)).toNatClampNeg = 40 * s + i := nI_clamp (by omega)
    rw [pq_L_s, pq_sm_c, pq_v] at hp
    dsimp only at hp
    refine ⟨vp_in_nI hs (by decide), br_f hn ⟨hb, ?_⟩⟩
    rw [ec]
    by_cases h : tk (40 * s + i) = x2
    · rw [if_pos h, ← Int32.add_assoc] at hp
      exact br_t h ⟨hb, nm_e (nm_r (nI_1 _) (ih (i + 1) (c + tv (40 * s + i)) (by omega) hp))⟩
    · rw [if_neg h, Int32.zero_add] at hp
      exact br_f h (nm_r (nI_1 _) (ih (i + 1) c (by omega) hp))
theorem xq_sv {post : Int32 → Prop} {s m : Nat} {x2 : Int32} (hs : s < 2) (hh : hc s = nI m) (hm : m ≤ 40) (hp : post (pq_sm (pq_v x2) (pq_L tk tv (40 * s) m))) : wpX_sumOfValues post (rc, tk, tv, hc, cm, rk, rp, rs, rl, rg) (nI s) x2 := by
  refine nm_r (xq_40 s) ⟨m + 1, xq_sv_l hs hh hm m 0 0 (by omega) ?_⟩
  rw [Int32.zero_add]; exact hp
theorem xq_sp {post : Int32 → Prop} {m0 m1 : Nat} {x2 : Int32} (h0 : hc 0 = nI m0) (b0 : m0 ≤ 40) (h1 : hc 1 = nI m1) (b1 : m1 ≤ 40) (hp : post (pq_sm (pq_v x2) (pq_L tk tv 0 m0) * pq_sm (pq_v x2) (pq_L tk tv 40 m1))) : wpX_sumOfProducts post (rc, tk, tv, hc, cm, rk, rp, rs, rl, rg) x2 := by
  unfold wpX_sumOfProducts
  dsimp only
  refine xq_sv (s := 0) (by decide) h0 b0 ?_
  refine xq_sv (s := 1) (by decide) h1 b1 ?_
  exact hp
theorem xq_MI_l {post : Int32 → Prop} {J6 : Int32 → Int32 → Prop} {a m1 : Nat} {x1 : Int32} (ha : a < 80) (h1 : hc 1 = nI m1) (b1 : m1 ≤ 40) : ∀ (d j : Nat) (x : Int32), j + d = m1 → J6 (pq_MIi x1 (tk a, tv a) x (pq_L tk tv (40 + j) d)) (nI (a + 1)) → wX_leastProduct_20 post J6 x1 (nI a) rc tk tv hc cm rk rp rs rl rg (d + 1) x (nI (40 + j)) := by
  intro d
  induction d with
  | zero =>
    intro j x hj hp
    refine br_t ?_ (nm_r (nI_1 a) ?_)
    · rw [h1, xq_m1]; exact nI_le (by omega) (by omega)
    · rw [pq_L_0, pq_MIi_n] at hp; exact hp
  | succ d ih =>
    intro j x hj hp
    have hA : vp_in (nI a) 80 := vp_in_nI ha (by decide)
    have hb : vp_in (nI (40 + j)) 80 := vp_in_nI (by omega) (by decide)
    have hn : ¬ ((40 : Int32) + hc 1 ≤ nI (40 + j)) := by
      rw [h1, xq_m1]; exact nI_ge (by omega) (by omega)
    have ea : (nI a).toNatClampNeg = a := nI_clamp (by omega)
    have eb : (nI (40 + j)).toNatClampNeg = 40 + j := nI_clamp (by omega)
    rw [pq_L_s, pq_MIi_c] at hp
    dsimp only at hp
    refine br_f hn ⟨hA, hb, nm_e ⟨hA, ?_⟩⟩
    rw [ea, eb]
    by_cases e1 : tk a = x1
    · refine br_t e1 ⟨hb, ?_⟩
      by_cases e2 : tk (40 + j) = x1
      · refine br_t e2 ?_
        by_cases e3 : x ≤ tv a * tv (40 + j)
        · refine br_t e3 (nm_r (nI_1 _) (ih (j + 1) x (by omega) ?_))
          rw [if_neg (show ¬ (tk a = x1 ∧ tk (40 + j) = x1 ∧ tv a * tv (40 + j) < x) from fun z => absurd z.2.2 (Int32.not_lt.mpr e3))] at hp
          exact hp
        · refine br_f e3 (nm_r (nI_1 _) (ih (j + 1) _ (by omega) ?_))
          rw [if_pos (show tk a = x1 ∧ tk (40 + j) = x1 ∧ tv a * tv (40 + j) < x from ⟨e1, e2, Int32.not_le.mp e3⟩)] at hp
          exact hp
      · refine br_f e2 (nm_r (nI_1 _) (ih (j + 1) x (by omega) ?_))
        rw [if_neg (show ¬ (tk a = x1 ∧ tk (40 + j) = x1 ∧ tv a * tv (40 + j) < x) from fun z => e2 z.2.1)] at hp
        exact hp
    · refine br_f e1 (nm_r (nI_1 _) (ih (j + 1) x (by omega) ?_))
      rw [if_neg (show ¬ (tk a = x1 ∧ tk (40 + j) = x1 ∧ tv a * tv (40 + j) < x) from fun z => e1 z.1)] at hp
      exact hp
theorem xq_MI_o {post : Int32 → Prop} {m0 m1 : Nat} {x1 : Int32} (h0 : hc 0 = nI m0) (b0 : m0 ≤ 40) (h1 : hc 1 = nI m1) (b1 : m1 ≤ 40) : ∀ (d i : Nat) (x : Int32), i + d = m0 → post (pq_MIo x1 (pq_L tk tv 40 m1) x (pq_L tk tv i d)) → wX_leastProduct_6 post x1 rc tk tv hc cm rk rp rs rl rg (d + 1) x (nI i) := by
  intro d
  induction d with
  | zero =>
    intro i x hi hp
    refine br_t ?_ ?_
    · rw [h0]; exact nI_le (by omega) (by omega)
    · rw [pq_L_0, pq_MIo_n] at hp; exact hp
  | succ d ih =>
    intro i x hi hp
    rw [pq_L_s, pq_MIo_c] at hp
    refine br_f ?_ ⟨m1 + 1, xq_MI_l (a := i) (by omega) h1 b1 m1 0 x (by omega) (ih (i + 1) _ (by omega) hp)⟩
    rw [h0]; exact nI_ge (by omega) (by omega)
theorem xq_MI {post : Int32 → Prop} {m0 m1 : Nat} {x1 : Int32} (h0 : hc 0 = nI m0) (b0 : m0 ≤ 40) (h1 : hc 1 = nI m1) (b1 : m1 ≤ 40) (hp : post (pq_MIo x1 (pq_L tk tv 40 m1) 10000 (pq_L tk tv 0 m0))) : wpX_leastProduct post (rc, tk, tv, hc, cm, rk, rp, rs, rl, rg) x1 :=
  ⟨m0 + 1, xq_MI_o h0 b0 h1 b1 m0 0 10000 (by omega) hp⟩
theorem xq_MA_l {post : Int32 → Prop} {J6 : Int32 → Int32 → Prop} {a m1 : Nat} {x1 : Int32} (ha : a < 80) (h1 : hc 1 = nI m1) (b1 : m1 ≤ 40) : ∀ (d j : Nat) (x : Int32), j + d = m1 → J6 (pq_MAi x1 (tk a, tv a) x (pq_L tk tv (40 + j) d)) (nI (a + 1)) → wX_greatestProduct_20 post J6 x1 (nI a) rc tk tv hc cm rk rp rs rl rg (d + 1) x (nI (40 + j)) := by
  intro d
  induction d with
  | zero =>
    intro j x hj hp
    refine br_t ?_ (nm_r (nI_1 a) ?_)
    · rw [h1, xq_m1]; exact nI_le (by omega) (by omega)
    · rw [pq_L_0, pq_MAi_n] at hp; exact hp
  | succ d ih =>
    intro j x hj hp
    have hA : vp_in (nI a) 80 := vp_in_nI ha (by decide)
    have hb : vp_in (nI (40 + j)) 80 := vp_in_nI (by omega) (by decide)
    have hn : ¬ ((40 : Int32) + hc 1 ≤ nI (40 + j)) := by
      rw [h1, xq_m1]; exact nI_ge (by omega) (by omega)
    have ea : (nI a).toNatClampNeg = a := nI_clamp (by omega)
    have eb : (nI (40 + j)).toNatClampNeg = 40 + j := nI_clamp (by omega)
    rw [pq_L_s, pq_MAi_c] at hp
    dsimp only at hp
    refine br_f hn ⟨hA, hb, nm_e ⟨hA, ?_⟩⟩
    rw [ea, eb]
    by_cases e1 : tk a = x1
    · refine br_t e1 ⟨hb, ?_⟩
      by_cases e2 : tk (40 + j) = x1
      · refine br_t e2 ?_
        by_cases e3 : tv a * tv (40 + j) ≤ x
        · refine br_t e3 (nm_r (nI_1 _) (ih (j + 1) x (by omega) ?_))
          rw [if_neg (show ¬ (tk a = x1 ∧ tk (40 + j) = x1 ∧ x < tv a * tv (40 + j)) from fun z => absurd z.2.2 (Int32.not_lt.mpr e3))] at hp
          exact hp
        · refine br_f e3 (nm_r (nI_1 _) (ih (j + 1) _ (by omega) ?_))
          rw [if_pos (show tk a = x1 ∧ tk (40 + j) = x1 ∧ x < tv a * tv (40 + j) from ⟨e1, e2, Int32.not_le.mp e3⟩)] at hp
          exact hp
      · refine br_f e2 (nm_r (nI_1 _) (ih (j + 1) x (by omega) ?_))
        rw [if_neg (show ¬ (tk a = x1 ∧ tk (40 + j) = x1 ∧ x < tv a * tv (40 + j)) from fun z => e2 z.2.1)] at hp
        exact hp
    · refine br_f e1 (nm_r (nI_1 _) (ih (j + 1) x (by omega) ?_))
      rw [if_neg (show ¬ (tk a = x1 ∧ tk (40 + j) = x1 ∧ x < tv a * tv (40 + j)) from fun z => e1 z.1)] at hp
      exact hp
theorem xq_MA_o {post : Int32 → Prop} {m0 m1 : Nat} {x1 : Int32} (h0 : hc 0 = nI m0) (b0 : m0 ≤ 40) (h1 : hc 1 = nI m1) (b1 : m1 ≤ 40) : ∀ (d i : Nat) (x : Int32), i + d = m0 → post (pq_MAo x1 (pq_L tk tv 40 m1) x (pq_L tk tv i d)) → wX_greatestProduct_6 post x1 rc tk tv hc cm rk rp rs rl rg (d + 1) x (nI i) := by
  intro d
  induction d with
  | zero =>
    intro i x hi hp
    refine br_t ?_ ?_
    · rw [h0]; exact nI_le (by omega) (by omega)
    · rw [pq_L_0, pq_MAo_n] at hp; exact hp
  | succ d ih =>
    intro i x hi hp
    rw [pq_L_s, pq_MAo_c] at hp
    refine br_f ?_ ⟨m1 + 1, xq_MA_l (a := i) (by omega) h1 b1 m1 0 x (by omega) (ih (i + 1) _ (by omega) hp)⟩
    rw [h0]; exact nI_ge (by omega) (by omega)
theorem xq_MA {post : Int32 → Prop} {m0 m1 : Nat} {x1 : Int32} (h0 : hc 0 = nI m0) (b0 : m0 ≤ 40) (h1 : hc 1 = nI m1) (b1 : m1 ≤ 40) (hp : post (pq_MAo x1 (pq_L tk tv 40 m1) (-10000) (pq_L tk tv 0 m0))) : wpX_greatestProduct post (rc, tk, tv, hc, cm, rk, rp, rs, rl, rg) x1 :=
  ⟨m0 + 1, xq_MA_o h0 b0 h1 b1 m0 0 (-10000) (by omega) hp⟩
/-- 1 where a pair counts for pairsFrom -/
def pq_pf (bd : Int32) (a b : Int32 × Int32) : Int32 := if a.1 = b.1 ∧ ¬ a.2 * b.2 < bd then 1 else 0
theorem xq_pf_l {post : Int32 → Prop} {J4 : Int32 → Int32 → Prop} {a m1 : Nat} {x1 : Int32} (ha : a < 80) (h1 : hc 1 = nI m1) (b1 : m1 ≤ 40) : ∀ (d j : Nat) (x : Int32), j + d = m1 → J4 (x + pq_sm (pq_pf x1 (tk a, tv a)) (pq_L tk tv (40 + j) d)) (nI (a + 1)) → wX_pairsFrom_18 post J4 x1 (nI a) rc tk tv hc cm rk rp rs rl rg (d + 1) x (nI (40 + j)) := by
  intro d
  induction d with
  | zero =>
    intro j x hj hp
    refine br_t ?_ (nm_r (nI_1 a) ?_)
    · rw [h1, xq_m1]; exact nI_le (by omega) (by omega)
    · rw [pq_L_0, pq_sm_n, Int32.add_zero] at hp; exact hp
  | succ d ih =>
    intro j x hj hp
    have hA : vp_in (nI a) 80 := vp_in_nI ha (by decide)
    have hb : vp_in (nI (40 + j)) 80 := vp_in_nI (by omega) (by decide)
    have hn : ¬ ((40 : Int32) + hc 1 ≤ nI (40 + j)) := by
      rw [h1, xq_m1]; exact nI_ge (by omega) (by omega)
    have ea : (nI a).toNatClampNeg = a := nI_clamp (by omega)
    have eb : (nI (40 + j)).toNatClampNeg = 40 + j := nI_clamp (by omega)
    rw [pq_L_s, pq_sm_c, pq_pf] at hp
    dsimp only at hp
    refine br_f hn ⟨hA, hb, ?_⟩
    rw [ea, eb]
    by_cases e1 : tk a = tk (40 + j)
    · refine br_t e1 ⟨hA, hb, ?_⟩
      by_cases e2 : tv a * tv (40 + j) < x1
      · refine br_t e2 (nm_r (nI_1 _) (ih (j + 1) x (by omega) ?_))
        rw [if_neg (show ¬ (tk a = tk (40 + j) ∧ ¬ tv a * tv (40 + j) < x1) from fun z => z.2 e2), Int32.zero_add] at hp
        exact hp
      · refine br_f e2 (nm_e (nm_r (nI_1 _) (ih (j + 1) (x + 1) (by omega) ?_)))
        rw [if_pos (show tk a = tk (40 + j) ∧ ¬ tv a * tv (40 + j) < x1 from ⟨e1, e2⟩), ← Int32.add_assoc] at hp
        exact hp
    · refine br_f e1 (nm_r (nI_1 _) (ih (j + 1) x (by omega) ?_))
      rw [if_neg (show ¬ (tk a = tk (40 + j) ∧ ¬ tv a * tv (40 + j) < x1) from fun z => e1 z.1), Int32.zero_add] at hp
      exact hp
theorem xq_pf_o {post : Int32 → Prop} {m0 m1 : Nat} {x1 : Int32} (h0 : hc 0 = nI m0) (b0 : m0 ≤ 40) (h1 : hc 1 = nI m1) (b1 : m1 ≤ 40) : ∀ (d i : Nat) (x : Int32), i + d = m0 → post (x + pq_sm (fun a => pq_sm (pq_pf x1 a) (pq_L tk tv 40 m1)) (pq_L tk tv i d)) → wX_pairsFrom_4 post x1 rc tk tv hc cm rk rp rs rl rg (d + 1) x (nI i) := by
  intro d
  induction d with
  | zero =>
    intro i x hi hp
    refine br_t ?_ ?_
    · rw [h0]; exact nI_le (by omega) (by omega)
    · rw [pq_L_0, pq_sm_n, Int32.add_zero] at hp; exact hp
  | succ d ih =>
    intro i x hi hp
    rw [pq_L_s, pq_sm_c, ← Int32.add_assoc] at hp
    refine br_f ?_ ⟨m1 + 1, xq_pf_l (a := i) (by omega) h1 b1 m1 0 x (by omega) (ih (i + 1) _ (by omega) hp)⟩
    rw [h0]; exact nI_ge (by omega) (by omega)
theorem xq_pf {post : Int32 → Prop} {m0 m1 : Nat} {x1 : Int32} (h0 : hc 0 = nI m0) (b0 : m0 ≤ 40) (h1 : hc 1 = nI m1) (b1 : m1 ≤ 40) (hp : post (pq_sm (fun a => pq_sm (pq_pf x1 a) (pq_L tk tv 40 m1)) (pq_L tk tv 0 m0))) : wpX_pairsFrom post (rc, tk, tv, hc, cm, rk, rp, rs, rl, rg) x1 := by
  refine ⟨m0 + 1, xq_pf_o h0 b0 h1 b1 m0 0 0 (by omega) ?_⟩
  rw [Int32.zero_add]; exact hp
end
