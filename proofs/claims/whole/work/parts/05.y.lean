theorem yq_40i (s i : Nat) : (40 : Int32) * nI s + nI i = nI (40 * s + i) := by
  rw [show (40 : Int32) = nI 40 from rfl, pk_mul, nI_add]
section
variable {yr yp ys yl yg : Int32} {yc yk yv cm qk qp qs ql qg : Nat → Int32}
theorem yq_ct_l {post : Int32 → Prop} {s m : Nat} {x2 : Int32} (hs : s < 2) (hh : yc s = nI m) (hm : m ≤ 40) : ∀ (d i : Nat) (c : Int32), i + d = m → post (c + pq_sm (pq_c x2) (pq_L yk yv (40 * s + i) d)) → wY_heldWith_26 post (nI s) x2 yr yp ys yl yg yc yk yv cm qk qp qs ql qg (d + 1) c (nI i) := by
  intro d
  induction d with
  | zero =>
    intro i c hi hp
    refine ⟨vp_in_nI hs (by decide), br_t ?_ ?_⟩
    · rw [nI_clamp (by omega), hh]; exact nI_le (by omega) (by omega)
    · rw [pq_L_0, pq_sm_n, Int32.add_zero] at hp; exact hp
  | succ d ih =>
    intro i c hi hp
    have hb : vp_in (nI (40 * s + i)) 80 := vp_in_nI (by omega) (by decide)
    have hn : ¬ (yc (nI s).toNatClampNeg ≤ nI i) := by
      rw [nI_clamp (by omega), hh]; exact nI_ge (by omega) (by omega)
    have h40 : ¬ ((40 : Int32) ≤ nI i) := nI_ge (b := 40) (by omega) (by decide)
    have ec : (nI (40 * s + i)).toNatClampNeg = 40 * s + i := nI_clamp (by omega)
    rw [pq_L_s, pq_sm_c, pq_c] at hp
    dsimp only at hp
    refine ⟨vp_in_nI hs (by decide), br_f hn (br_f h40 ?_)⟩
    rw [yq_40i, ec]
    refine ⟨hb, ?_⟩
    by_cases h : yk (40 * s + i) = x2
    · rw [if_pos h, ← Int32.add_assoc] at hp
      exact br_t h (nm_e (nm_r (nI_1 _) (ih (i + 1) (c + 1) (by omega) hp)))
    · rw [if_neg h, Int32.zero_add] at hp
      exact br_f h (nm_r (nI_1 _) (ih (i + 1) c (by omega) hp))
theorem yq_ct {post : Int32 → Prop} {s m : Nat} {x2 : Int32} (hs : s < 2) (hh : yc s = nI m) (hm : m ≤ 40) (hp : post (nI (pq_n x2 (pq_L yk yv (40 * s) m)))) : ∃ n26 : Nat, wY_heldWith_26 post (nI s) x2 yr yp ys yl yg yc yk yv cm qk qp qs ql qg n26 0 0 := by
  refine ⟨m + 1, yq_ct_l hs hh hm m 0 0 (by omega) ?_⟩
  rw [Int32.zero_add, pq_n_sm]; exact hp
theorem yq_lk_l {post : SY → Prop} {J26 : Int32 → Int32 → Int32 → Int32 → Int32 → Prop} {a m1 : Nat} {x1 : Int32} (ha : a < 80) (h1 : yc 1 = nI m1) (b1 : m1 ≤ 40) : ∀ (d j : Nat) (p s l g : Int32), j + d = m1 → J26 (nI (a + 1)) (p + pq_sm (fun b => pq_c x1 (yk a, yv a) * pq_c x1 b) (pq_L yk yv (40 + j) d)) (s + pq_sm (fun b => pq_v x1 (yk a, yv a) * pq_v x1 b) (pq_L yk yv (40 + j) d)) (pq_MIi x1 (yk a, yv a) l (pq_L yk yv (40 + j) d)) (pq_MAi x1 (yk a, yv a) g (pq_L yk yv (40 + j) d)) → wY_look_44 post J26 x1 (nI a) yr yc yk yv cm qk qp qs ql qg (d + 1) (nI j) p s l g := by
  intro d
  induction d with
  | zero =>
    intro j p s l g hj hp
    refine br_t ?_ (nm_r (nI_1 a) ?_)
    · rw [h1]; exact nI_le (by omega) (by omega)
    · rw [pq_L_0, pq_sm_n, pq_sm_n, Int32.add_zero, Int32.add_zero, pq_MIi_n, pq_MAi_n] at hp; exact hp
  | succ d ih =>
    intro j p s l g hj hp
    have hA : vp_in (nI a) 80 := vp_in_nI ha (by decide)
    have hb : vp_in (nI (40 + j)) 80 := vp_in_nI (by omega) (by decide)
    have hn : ¬ (yc 1 ≤ nI j) := by
      rw [h1]; exact nI_ge (by omega) (by omega)
    have h40 : ¬ ((40 : Int32) ≤ nI j) := nI_ge (b := 40) (by omega) (by decide)
    have ea : (nI a).toNatClampNeg = a := nI_clamp (by omega)
    have eb : (nI (40 + j)).toNatClampNeg = 40 + j := nI_clamp (by omega)
    rw [pq_L_s, pq_sm_c, pq_sm_c, pq_MIi_c, pq_MAi_c] at hp
    dsimp only at hp
    refine br_f hn (br_f h40 ?_)
    rw [ea, xq_m1, eb]
    refine ⟨hA, ?_⟩
    by_cases e1 : yk a = x1
    · refine br_t e1 ⟨hb, ?_⟩
      by_cases e2 : yk (40 + j) = x1
      · refine br_t e2 ⟨hA, hb, nm_e (nm_e (nm_e ?_))⟩
        rw [pq_cc1 x1 (yk a, yv a) (yk (40 + j), yv (40 + j)) e1 e2, pq_vv1 x1 (yk a, yv a) (yk (40 + j), yv (40 + j)) e1 e2, ← Int32.add_assoc, ← Int32.add_assoc] at hp
        by_cases e3 : l ≤ yv a * yv (40 + j)
        · refine br_t e3 ?_
          rw [if_neg (show ¬ (yk a = x1 ∧ yk (40 + j) = x1 ∧ yv a * yv (40 + j) < l) from fun z => absurd z.2.2 (Int32.not_lt.mpr e3))] at hp
          by_cases e4 : yv a * yv (40 + j) ≤ g
          · rw [if_neg (show ¬ (yk a = x1 ∧ yk (40 + j) = x1 ∧ g < yv a * yv (40 + j)) from fun z => absurd z.2.2 (Int32.not_lt.mpr e4))] at hp
            exact br_t e4 (nm_r (nI_1 _) (ih (j + 1) _ _ _ _ (by omega) hp))
          · rw [if_pos (show yk a = x1 ∧ yk (40 + j) = x1 ∧ g < yv a * yv (40 + j) from ⟨e1, e2, Int32.not_le.mp e4⟩)] at hp
            exact br_f e4 (nm_r (nI_1 _) (ih (j + 1) _ _ _ _ (by omega) hp))
        · refine br_f e3 ?_
          rw [if_pos (show yk a = x1 ∧ yk (40 + j) = x1 ∧ yv a * yv (40 + j) < l from ⟨e1, e2, Int32.not_le.mp e3⟩)] at hp
          by_cases e4 : yv a * yv (40 + j) ≤ g
          · rw [if_neg (show ¬ (yk a = x1 ∧ yk (40 + j) = x1 ∧ g < yv a * yv (40 + j)) from fun z => absurd z.2.2 (Int32.not_lt.mpr e4))] at hp
            exact br_t e4 (nm_r (nI_1 _) (ih (j + 1) _ _ _ _ (by omega) hp))
          · rw [if_pos (show yk a = x1 ∧ yk (40 + j) = x1 ∧ g < yv a * yv (40 + j) from ⟨e1, e2, Int32.not_le.mp e4⟩)] at hp
            exact br_f e4 (nm_r (nI_1 _) (ih (j + 1) _ _ _ _ (by omega) hp))
      · rw [pq_cc0 x1 (yk a, yv a) (yk (40 + j), yv (40 + j)) (Or.inr e2), pq_vv0 x1 (yk a, yv a) (yk (40 + j), yv (40 + j)) (Or.inr e2), Int32.zero_add, Int32.zero_add, if_neg (show ¬ (yk a = x1 ∧ yk (40 + j) = x1 ∧ yv a * yv (40 + j) < l) from fun z => e2 z.2.1), if_neg (show ¬ (yk a = x1 ∧ yk (40 + j) = x1 ∧ g < yv a * yv (40 + j)) from fun z => e2 z.2.1)] at hp
        exact br_f e2 (nm_r (nI_1 _) (ih (j + 1) _ _ _ _ (by omega) hp))
    · rw [pq_cc0 x1 (yk a, yv a) (yk (40 + j), yv (40 + j)) (Or.inl e1), pq_vv0 x1 (yk a, yv a) (yk (40 + j), yv (40 + j)) (Or.inl e1), Int32.zero_add, Int32.zero_add, if_neg (show ¬ (yk a = x1 ∧ yk (40 + j) = x1 ∧ yv a * yv (40 + j) < l) from fun z => e1 z.1), if_neg (show ¬ (yk a = x1 ∧ yk (40 + j) = x1 ∧ g < yv a * yv (40 + j)) from fun z => e1 z.1)] at hp
      exact br_f e1 (nm_r (nI_1 _) (ih (j + 1) _ _ _ _ (by omega) hp))
theorem yq_lk_o {post : SY → Prop} {m0 m1 : Nat} {x1 : Int32} (h0 : yc 0 = nI m0) (b0 : m0 ≤ 40) (h1 : yc 1 = nI m1) (b1 : m1 ≤ 40) : ∀ (d i : Nat) (p s l g : Int32), i + d = m0 → post (yr, p + pq_sm (fun a => pq_sm (fun b => pq_c x1 a * pq_c x1 b) (pq_L yk yv 40 m1)) (pq_L yk yv i d), s + pq_sm (fun a => pq_sm (fun b => pq_v x1 a * pq_v x1 b) (pq_L yk yv 40 m1)) (pq_L yk yv i d), pq_MIo x1 (pq_L yk yv 40 m1) l (pq_L yk yv i d), pq_MAo x1 (pq_L yk yv 40 m1) g (pq_L yk yv i d), yc, yk, yv, cm, qk, qp, qs, ql, qg) → wY_look_26 post x1 yr yc yk yv cm qk qp qs ql qg (d + 1) (nI i) p s l g := by
  intro d
  induction d with
  | zero =>
    intro i p s l g hi hp
    refine br_t ?_ ?_
    · rw [h0]; exact nI_le (by omega) (by omega)
    · rw [pq_L_0, pq_sm_n, pq_sm_n, Int32.add_zero, Int32.add_zero, pq_MIo_n, pq_MAo_n] at hp; exact hp
  | succ d ih =>
    intro i p s l g hi hp
    rw [pq_L_s, pq_sm_c, pq_sm_c, pq_MIo_c, pq_MAo_c, ← Int32.add_assoc, ← Int32.add_assoc] at hp
    have h40 : ¬ ((40 : Int32) ≤ nI i) := nI_ge (b := 40) (by omega) (by decide)
    refine br_f ?_ (br_f h40 ⟨m1 + 1, yq_lk_l (a := i) (by omega) h1 b1 m1 0 p s l g (by omega) (ih (i + 1) _ _ _ _ (by omega) hp)⟩)
    rw [h0]; exact nI_ge (by omega) (by omega)
theorem yq_lk {post : SY → Prop} {m0 m1 : Nat} {x1 : Int32} (h0 : yc 0 = nI m0) (b0 : m0 ≤ 40) (h1 : yc 1 = nI m1) (b1 : m1 ≤ 40) (hp : post (yr, nI (pq_n x1 (pq_L yk yv 0 m0)) * nI (pq_n x1 (pq_L yk yv 40 m1)), pq_sm (pq_v x1) (pq_L yk yv 0 m0) * pq_sm (pq_v x1) (pq_L yk yv 40 m1), pq_MIo x1 (pq_L yk yv 40 m1) 10000 (pq_L yk yv 0 m0), pq_MAo x1 (pq_L yk yv 40 m1) (-10000) (pq_L yk yv 0 m0), yc, yk, yv, cm, qk, qp, qs, ql, qg)) : wpY_look post (yr, yp, ys, yl, yg, yc, yk, yv, cm, qk, qp, qs, ql, qg) x1 := by
  refine ⟨m0 + 1, yq_lk_o h0 b0 h1 b1 m0 0 0 0 10000 (-10000) (by omega) ?_⟩
  rw [Int32.zero_add, Int32.zero_add, pq_sm_pair, pq_sm_pair, pq_n_sm, pq_n_sm]
  exact hp
theorem yq_pf_l {post : Int32 → Prop} {J4 : Int32 → Int32 → Prop} {a m1 : Nat} {x1 : Int32} (ha : a < 80) (h1 : yc 1 = nI m1) (b1 : m1 ≤ 40) : ∀ (d j : Nat) (x : Int32), j + d = m1 → J4 (x + pq_sm (pq_pf x1 (yk a, yv a)) (pq_L yk yv (40 + j) d)) (nI (a + 1)) → wY_pairsFrom_23 post J4 x1 (nI a) yr yp ys yl yg yc yk yv cm qk qp qs ql qg (d + 1) x (nI j) := by
  intro d
  induction d with
  | zero =>
    intro j x hj hp
    refine br_t ?_ (nm_r (nI_1 a) ?_)
    · rw [h1]; exact nI_le (by omega) (by omega)
    · rw [pq_L_0, pq_sm_n, Int32.add_zero] at hp; exact hp
  | succ d ih =>
    intro j x hj hp
    have hA : vp_in (nI a) 80 := vp_in_nI ha (by decide)
    have hb : vp_in (nI (40 + j)) 80 := vp_in_nI (by omega) (by decide)
    have hn : ¬ (yc 1 ≤ nI j) := by
      rw [h1]; exact nI_ge (by omega) (by omega)
    have h40 : ¬ ((40 : Int32) ≤ nI j) := nI_ge (b := 40) (by omega) (by decide)
    have ea : (nI a).toNatClampNeg = a := nI_clamp (by omega)
    have eb : (nI (40 + j)).toNatClampNeg = 40 + j := nI_clamp (by omega)
    rw [pq_L_s, pq_sm_c, pq_pf] at hp
    dsimp only at hp
    refine br_f hn (br_f h40 ?_)
    rw [ea, xq_m1, eb]
    refine ⟨hA, hb, ?_⟩
    by_cases e1 : yk a = yk (40 + j)
    · refine br_t e1 ⟨hA, hb, ?_⟩
      by_cases e2 : yv a * yv (40 + j) < x1
      · refine br_t e2 (nm_r (nI_1 _) (ih (j + 1) x (by omega) ?_))
        rw [if_neg (show ¬ (yk a = yk (40 + j) ∧ ¬ yv a * yv (40 + j) < x1) from fun z => z.2 e2), Int32.zero_add] at hp
        exact hp
      · refine br_f e2 (nm_e (nm_r (nI_1 _) (ih (j + 1) (x + 1) (by omega) ?_)))
        rw [if_pos (show yk a = yk (40 + j) ∧ ¬ yv a * yv (40 + j) < x1 from ⟨e1, e2⟩), ← Int32.add_assoc] at hp
        exact hp
    · refine br_f e1 (nm_r (nI_1 _) (ih (j + 1) x (by omega) ?_))
      rw [if_neg (show ¬ (yk a = yk (40 + j) ∧ ¬ yv a * yv (40 + j) < x1) from fun z => e1 z.1), Int32.zero_add] at hp
      exact hp
theorem yq_pf_o {post : Int32 → Prop} {m0 m1 : Nat} {x1 : Int32} (h0 : yc 0 = nI m0) (b0 : m0 ≤ 40) (h1 : yc 1 = nI m1) (b1 : m1 ≤ 40) : ∀ (d i : Nat) (x : Int32), i + d = m0 → post (x + pq_sm (fun a => pq_sm (pq_pf x1 a) (pq_L yk yv 40 m1)) (pq_L yk yv i d)) → wY_pairsFrom_4 post x1 yr yp ys yl yg yc yk yv cm qk qp qs ql qg (d + 1) x (nI i) := by
  intro d
  induction d with
  | zero =>
    intro i x hi hp
    refine br_t ?_ ?_
    · rw [h0]; exact nI_le (by omega) (by omega)
    · rw [pq_L_0, pq_sm_n, Int32.add_zero] at hp; exact hp
  | succ d ih =>
    intro i x hi hp
    rw [pq_L_s, pq_sm_c, ← Int32.add_assoc] at hp
    have h40 : ¬ ((40 : Int32) ≤ nI i) := nI_ge (b := 40) (by omega) (by decide)
    refine br_f ?_ (br_f h40 ⟨m1 + 1, yq_pf_l (a := i) (by omega) h1 b1 m1 0 x (by omega) (ih (i + 1) _ (by omega) hp)⟩)
    rw [h0]; exact nI_ge (by omega) (by omega)
theorem yq_pf {post : Int32 → Prop} {m0 m1 : Nat} {x1 : Int32} (h0 : yc 0 = nI m0) (b0 : m0 ≤ 40) (h1 : yc 1 = nI m1) (b1 : m1 ≤ 40) (hp : post (pq_sm (fun a => pq_sm (pq_pf x1 a) (pq_L yk yv 40 m1)) (pq_L yk yv 0 m0))) : wpY_pairsFrom post (yr, yp, ys, yl, yg, yc, yk, yv, cm, qk, qp, qs, ql, qg) x1 := by
  refine ⟨m0 + 1, yq_pf_o h0 b0 h1 b1 m0 0 0 (by omega) ?_⟩
  rw [Int32.zero_add]; exact hp
theorem yq_to_l {post : SY → Prop} {s i m : Nat} (hs : s < 2) (hh : yc s = nI (m + 1)) (hm : m + 1 ≤ 40) (hp : post (yr, yp, ys, yl, yg, upd yc s (nI m), pq_sh yk (40 * s + i) (40 * s + m), pq_sh yv (40 * s + i) (40 * s + m), cm, qk, qp, qs, ql, qg)) : ∀ (d j : Nat), j + d = m → i ≤ j → wY_takeOut_2 post (nI s) yr yp ys yl yg (d + 1) (nI j) yc (pq_sh yk (40 * s + i) (40 * s + j)) (pq_sh yv (40 * s + i) (40 * s + j)) cm qk qp qs ql qg := by
  intro d
  have hS : vp_in (nI s) 2 := vp_in_nI hs (by decide)
  have eS : (nI s).toNatClampNeg = s := nI_clamp (by omega)
  have eC : yc (nI s).toNatClampNeg - 1 = nI m := by rw [eS, hh, nI_pred]
  induction d with
  | zero =>
    intro j hj hi
    have e : j = m := by omega
    subst e
    refine ⟨hS, br_t ?_ ⟨hS, hS, nm_r (e' := upd yc s (nI j)) (by rw [eC, eS]) hp⟩⟩
    rw [eC]; exact nI_le (Nat.le_refl _) (by omega)
  | succ d ih =>
    intro j hj hi
    have hn : ¬ (yc (nI s).toNatClampNeg - 1 ≤ nI j) := by rw [eC]; exact nI_ge (by omega) (by omega)
    have h39 : ¬ ((39 : Int32) ≤ nI j) := nI_ge (b := 39) (by omega) (by decide)
    have hb : vp_in (nI (40 * s + j)) 80 := vp_in_nI (by omega) (by decide)
    have hb' : vp_in (nI (40 * s + j + 1)) 80 := vp_in_nI (by omega) (by decide)
    refine ⟨hS, br_f hn (br_f h39 ?_)⟩
    rw [yq_40i, nI_1 (40 * s + j), nI_clamp (n := 40 * s + j) (by omega), nI_clamp (n := 40 * s + j + 1) (by omega)]
    exact ⟨hb', hb, nm_r (pq_sh_s yk (by omega)) ⟨hb', hb, nm_r (pq_sh_s yv (by omega)) (nm_r (nI_1 j) (ih (j + 1) (by omega) (by omega)))⟩⟩
theorem yq_to {post : SY → Prop} {s i m : Nat} (hs : s < 2) (hh : yc s = nI (m + 1)) (hm : m + 1 ≤ 40) (hi : i ≤ m) (hp : post (yr, yp, ys, yl, yg, upd yc s (nI m), pq_sh yk (40 * s + i) (40 * s + m), pq_sh yv (40 * s + i) (40 * s + m), cm, qk, qp, qs, ql, qg)) : wpY_takeOut post (yr, yp, ys, yl, yg, yc, yk, yv, cm, qk, qp, qs, ql, qg) (nI s) (nI i) := by
  have h := yq_to_l (i := i) hs hh hm hp (m - i) i (by omega) (Nat.le_refl i)
  rw [pq_sh_0, pq_sh_0] at h
  exact ⟨_, h⟩
end
