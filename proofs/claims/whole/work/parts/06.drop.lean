/-- the tuples of other keys -/
def pq_fl (key : Int32) (l : List (Int32 × Int32)) : List (Int32 × Int32) := l.filter (fun p => decide (¬ p.1 = key))
theorem pq_fl_perm (key : Int32) {l l' : List (Int32 × Int32)} (h : List.Perm l l') : List.Perm (pq_fl key l) (pq_fl key l') := h.filter _
theorem pq_fl_mem {key : Int32} {l : List (Int32 × Int32)} {p : Int32 × Int32} (h : p ∈ pq_fl key l) : p ∈ l := (List.mem_filter.mp h).1
theorem pq_fl_id {key : Int32} {l : List (Int32 × Int32)} (h : ∀ p, p ∈ l → ¬ p.1 = key) : pq_fl key l = l :=
  List.filter_eq_self.mpr (fun p hp => decide_eq_true (h p hp))
theorem pq_fl_out {key : Int32} (A B : List (Int32 × Int32)) {x : Int32 × Int32} (h : x.1 = key) : pq_fl key (A ++ x :: B) = pq_fl key (A ++ B) := by
  unfold pq_fl
  rw [List.filter_append, List.filter_append, List.filter_cons_of_neg]
  simp [h]
theorem xq_dr_l {s m : Nat} {key : Int32} {tk tv : Nat → Int32} (hs : s < 2) (hm : m ≤ 40) : ∀ (d i q : Nat) (tk' tv' : Nat → Int32), i + d = m → pq_Dr tk tv (40 * s) i q key tk' tv' → ∃ (q2 : Nat) (tk2 tv2 : Nat → Int32), pq_Dr tk tv (40 * s) m q2 key tk2 tv2 ∧ ∀ (post : SX → Prop) (rc : Int32) (hc cm rk rp rs rl rg : Nat → Int32), post (rc, tk2, tv2, upd hc s (nI q2), cm, rk, rp, rs, rl, rg) → wX_dropTuples_21 post (nI s) key (nI (40 * s)) (nI (40 * s + m)) rc (d + 1) (nI (40 * s + q)) (nI (40 * s + i)) tk' tv' hc cm rk rp rs rl rg := by
  intro d
  have hS : vp_in (nI s) 2 := vp_in_nI hs (by decide)
  have eS : (nI s).toNatClampNeg = s := nI_clamp (by omega)
  induction d with
  | zero =>
    intro i q tk' tv' hi h
    have e : i = m := by omega
    subst e
    refine ⟨q, tk', tv', h, fun post rc hc cm rk rp rs rl rg hp => br_t (nI_le (Nat.le_refl _) (by omega)) ⟨hS, nm_r (e' := upd hc s (nI q)) ?_ hp⟩⟩
    rw [eS, pk_sub (by omega), Nat.add_sub_cancel_left]
  | succ d ih =>
    intro i q tk' tv' hi h
    have hq := h.1
    have hb : vp_in (nI (40 * s + i)) 80 := vp_in_nI (by omega) (by decide)
    have hq' : vp_in (nI (40 * s + q)) 80 := vp_in_nI (by omega) (by decide)
    have hn : ¬ (nI (40 * s + m) ≤ nI (40 * s + i)) := nI_ge (by omega) (by omega)
    have ec : (nI (40 * s + i)).toNatClampNeg = 40 * s + i := nI_clamp (by omega)
    have eq : (nI (40 * s + q)).toNatClampNeg = 40 * s + q := nI_clamp (by omega)
    by_cases e : tk' (40 * s + i) = key
    · obtain ⟨q2, tk2, tv2, hD, hW⟩ := ih (i + 1) q tk' tv' (by omega) (pq_Dr_d h e)
      refine ⟨q2, tk2, tv2, hD, fun post rc hc cm rk rp rs rl rg hp => br_f hn ⟨hb, ?_⟩⟩
      rw [ec]
      exact br_t e (nm_r (nI_1 _) (hW post rc hc cm rk rp rs rl rg hp))
    · obtain ⟨q2, tk2, tv2, hD, hW⟩ := ih (i + 1) (q + 1) _ _ (by omega) (pq_Dr_k h e)
      refine ⟨q2, tk2, tv2, hD, fun post rc hc cm rk rp rs rl rg hp => br_f hn ⟨hb, ?_⟩⟩
      rw [ec, eq]
      exact br_f e ⟨hb, hq', nm_e ⟨hb, hq', nm_e (nm_r (nI_1 _) (nm_r (nI_1 _) (hW post rc hc cm rk rp rs rl rg hp)))⟩⟩
theorem xq_dr {s m : Nat} (key : Int32) (tk tv : Nat → Int32) (hs : s < 2) (hm : m ≤ 40) : ∃ (q2 : Nat) (tk2 tv2 : Nat → Int32), pq_Dr tk tv (40 * s) m q2 key tk2 tv2 ∧ ∀ (post : SX → Prop) (rc : Int32) (hc cm rk rp rs rl rg : Nat → Int32), hc s = nI m → post (rc, tk2, tv2, upd hc s (nI q2), cm, rk, rp, rs, rl, rg) → wpX_dropTuples post (rc, tk, tv, hc, cm, rk, rp, rs, rl, rg) (nI s) key := by
  have hS : vp_in (nI s) 2 := vp_in_nI hs (by decide)
  have eS : (nI s).toNatClampNeg = s := nI_clamp (by omega)
  obtain ⟨q2, tk2, tv2, hD, hW⟩ := xq_dr_l (key := key) (tk := tk) (tv := tv) hs hm m 0 0 tk tv (by omega) (pq_Dr_0 tk tv (40 * s) key)
  refine ⟨q2, tk2, tv2, hD, fun post rc hc cm rk rp rs rl rg hh hp => nm_r (xq_40 s) ⟨hS, nm_r (e' := nI (40 * s + m)) ?_ ⟨m + 1, hW post rc hc cm rk rp rs rl rg hp⟩⟩⟩
  rw [eS, hh, nI_add]
theorem xq_d2 {m0 m1 : Nat} (key : Int32) (tk tv hc : Nat → Int32) (h0 : hc 0 = nI m0) (b0 : m0 ≤ 40) (h1 : hc 1 = nI m1) (b1 : m1 ≤ 40) : ∃ (q0 q1 : Nat) (tk' tv' : Nat → Int32), q0 ≤ 40 ∧ q1 ≤ 40 ∧ pq_L tk' tv' 0 q0 = pq_fl key (pq_L tk tv 0 m0) ∧ pq_L tk' tv' 40 q1 = pq_fl key (pq_L tk tv 40 m1) ∧ ∀ (post : SX → Prop) (rc : Int32) (cm rk rp rs rl rg : Nat → Int32), post (rc, tk', tv', upd (upd hc 0 (nI q0)) 1 (nI q1), cm, rk, rp, rs, rl, rg) → wX_finishKey_13 post key rc tk tv hc cm rk rp rs rl rg := by
  obtain ⟨q0, tk1, tv1, ⟨d1, d2, d3⟩, hW1⟩ := xq_dr (s := 0) key tk tv (by decide) b0
  obtain ⟨q1, tk2, tv2, ⟨g1, g2, g3⟩, hW2⟩ := xq_dr (s := 1) key tk1 tv1 (by decide) b1
  rw [show 40 * 0 = 0 from rfl] at d2 d3
  rw [show 40 * 1 = 40 from rfl] at g2 g3
  refine ⟨q0, q1, tk2, tv2, by omega, by omega, ?_, ?_, ?_⟩
  · rw [pq_L_congr (tk' := tk1) (tv' := tv1) q0 0 (fun j _ h2 => g3 j (Or.inl (by omega)))]
    exact d2
  · rw [g2, pq_L_congr (tk' := tk) (tv' := tv) m1 40 (fun j h1 _ => d3 j (Or.inr (by omega)))]
    rfl
  · intro post rc cm rk rp rs rl rg hp
    unfold wX_finishKey_13
    refine hW1 _ rc hc cm rk rp rs rl rg h0 ?_
    refine hW2 _ rc _ cm rk rp rs rl rg ?_ ?_
    · rw [pk_un (by decide)]; exact h1
    · exact hp
theorem yq_da_l {s : Nat} {key : Int32} (hs : s < 2) : ∀ (r c : Nat) (yc yk yv : Nat → Int32), yc s = nI c → c ≤ 40 → r ≤ 40 → (∀ q, r ≤ q → q < c → ¬ yk (40 * s + q) = key) → ∃ (c2 : Nat) (yc2 yk2 yv2 : Nat → Int32), c2 ≤ c ∧ yc2 s = nI c2 ∧ (∀ q, q ≠ s → yc2 q = yc q) ∧ pq_L yk2 yv2 (40 * s) c2 = pq_fl key (pq_L yk yv (40 * s) c) ∧ (∀ q, (q < 40 * s ∨ 40 * s + 40 ≤ q) → yk2 q = yk q ∧ yv2 q = yv q) ∧ ∀ (post : SY → Prop) (yr yp ys yl yg : Int32) (cm qk qp qs ql qg : Nat → Int32), post (yr, yp, ys, yl, yg, yc2, yk2, yv2, cm, qk, qp, qs, ql, qg) → wY_dropAll_3 post (nI s) key (r + 1) (nI r + (-1)) yr yp ys yl yg yc yk yv cm qk qp qs ql qg := by
  intro r
  have hS : vp_in (nI s) 2 := vp_in_nI hs (by decide)
  have eS : (nI s).toNatClampNeg = s := nI_clamp (by omega)
  induction r with
  | zero =>
    intro c yc yk yv hh hc hr hk
    refine ⟨c, yc, yk, yv, Nat.le_refl c, hh, fun q _ => rfl, ?_, fun q _ => ⟨rfl, rfl⟩, fun post yr yp ys yl yg cm qk qp qs ql qg hp => br_t (by decide) hp⟩
    refine (pq_fl_id (fun p hp => ?_)).symm
    obtain ⟨j, j1, j2, e⟩ := pq_L_mem _ _ hp
    rw [e]
    have h := hk (j - 40 * s) (by omega) (by omega)
    rw [show 40 * s + (j - 40 * s) = j by omega] at h
    exact h
  | succ r ih =>
    intro c yc yk yv hh hc hr hk
    have hp0 : ¬ (nI r < 0) := nI_pos (by omega)
    by_cases hcr : c ≤ r
    · obtain ⟨c2, yc2, yk2, yv2, k1, k2, k3, k4, k5, hW⟩ := ih c yc yk yv hh hc (by omega) (fun q h1 h2 => absurd h2 (by omega))
      refine ⟨c2, yc2, yk2, yv2, k1, k2, k3, k4, k5, fun post yr yp ys yl yg cm qk qp qs ql qg hp => ?_⟩
      rw [pk_m1]
      refine br_f hp0 ⟨hS, br_t ?_ (nm_e (hW post yr yp ys yl yg cm qk qp qs ql qg hp))⟩
      rw [eS, hh]; exact nI_le hcr (by omega)
    · have hb : vp_in (nI (40 * s + r)) 80 := vp_in_nI (by omega) (by decide)
      have ec : (nI (40 * s + r)).toNatClampNeg = 40 * s + r := nI_clamp (by omega)
      have hn : ¬ (yc (nI s).toNatClampNeg ≤ nI r) := by rw [eS, hh]; exact nI_ge (by omega) (by omega)
      by_cases e : yk (40 * s + r) = key
      · obtain ⟨d, rfl⟩ : ∃ d, c = r + d + 1 := ⟨c - r - 1, by omega⟩
        obtain ⟨c2, yc2, yk2, yv2, k1, k2, k3, k4, k5, hW⟩ := ih (r + d) (upd yc s (nI (r + d))) (pq_sh yk (40 * s + r) (40 * s + (r + d))) (pq_sh yv (40 * s + r) (40 * s + (r + d))) pk_us (by omega) (by omega) (fun q h1 h2 => by
          rw [pq_sh_in (by omega)]
          exact hk (q + 1) (by omega) (by omega))
        refine ⟨c2, yc2, yk2, yv2, by omega, k2, fun q hq => by rw [k3 q hq, pk_un hq], ?_, fun q hq => ?_, fun post yr yp ys yl yg cm qk qp qs ql qg hp => ?_⟩
        · rw [k4, pq_L_sh, pq_L_at, pq_fl_out]
          exact e
        · have h := k5 q hq
          rw [pq_sh_out (by omega), pq_sh_out (by omega)] at h
          exact h
        · rw [pk_m1]
          refine br_f hp0 ⟨hS, br_f hn ?_⟩
          rw [yq_40i, ec]
          refine ⟨hb, br_t e ?_⟩
          refine yq_to hs hh hc (by omega) ?_
          exact nm_e (hW post yr yp ys yl yg cm qk qp qs ql qg hp)
      · obtain ⟨c2, yc2, yk2, yv2, k1, k2, k3, k4, k5, hW⟩ := ih c yc yk yv hh hc (by omega) (fun q h1 h2 => by
          by_cases hq : q = r
          · rw [hq]; exact e
          · exact hk q (by omega) h2)
        refine ⟨c2, yc2, yk2, yv2, k1, k2, k3, k4, k5, fun post yr yp ys yl yg cm qk qp qs ql qg hp => ?_⟩
        rw [pk_m1]
        refine br_f hp0 ⟨hS, br_f hn ?_⟩
        rw [yq_40i, ec]
        exact ⟨hb, br_f e (nm_e (hW post yr yp ys yl yg cm qk qp qs ql qg hp))⟩
theorem yq_da {s c : Nat} (key : Int32) (yc yk yv : Nat → Int32) (hs : s < 2) (hh : yc s = nI c) (hc : c ≤ 40) : ∃ (c2 : Nat) (yc2 yk2 yv2 : Nat → Int32), c2 ≤ c ∧ yc2 s = nI c2 ∧ (∀ q, q ≠ s → yc2 q = yc q) ∧ pq_L yk2 yv2 (40 * s) c2 = pq_fl key (pq_L yk yv (40 * s) c) ∧ (∀ q, (q < 40 * s ∨ 40 * s + 40 ≤ q) → yk2 q = yk q ∧ yv2 q = yv q) ∧ ∀ (post : SY → Prop) (yr yp ys yl yg : Int32) (cm qk qp qs ql qg : Nat → Int32), post (yr, yp, ys, yl, yg, yc2, yk2, yv2, cm, qk, qp, qs, ql, qg) → wpY_dropAll post (yr, yp, ys, yl, yg, yc, yk, yv, cm, qk, qp, qs, ql, qg) (nI s) key := by
  obtain ⟨c2, yc2, yk2, yv2, k1, k2, k3, k4, k5, hW⟩ := yq_da_l (key := key) hs 40 c yc yk yv hh hc (Nat.le_refl 40) (fun q h1 h2 => absurd h2 (by omega))
  refine ⟨c2, yc2, yk2, yv2, k1, k2, k3, k4, k5, fun post yr yp ys yl yg cm qk qp qs ql qg hp => ⟨41, ?_⟩⟩
  have h := hW post yr yp ys yl yg cm qk qp qs ql qg hp
  rw [show nI 40 + (-1) = (39 : Int32) by decide] at h
  exact h
theorem yq_d2 {m0 m1 : Nat} (key : Int32) (yc yk yv : Nat → Int32) (h0 : yc 0 = nI m0) (b0 : m0 ≤ 40) (h1 : yc 1 = nI m1) (b1 : m1 ≤ 40) : ∃ (c0 c1 : Nat) (yc2 yk2 yv2 : Nat → Int32), yc2 0 = nI c0 ∧ yc2 1 = nI c1 ∧ pq_L yk2 yv2 0 c0 = pq_fl key (pq_L yk yv 0 m0) ∧ pq_L yk2 yv2 40 c1 = pq_fl key (pq_L yk yv 40 m1) ∧ ∀ (post : SY → Prop) (yr yp ys yl yg : Int32) (cm qk qp qs ql qg : Nat → Int32), post (yr, yp, ys, yl, yg, yc2, yk2, yv2, cm, qk, qp, qs, ql, qg) → wY_finish_93 post key yr yp ys yl yg yc yk yv cm qk qp qs ql qg := by
  obtain ⟨c0, ya, yka, yva, k1, k2, k3, k4, k5, hW1⟩ := yq_da (s := 0) key yc yk yv (by decide) h0 b0
  obtain ⟨c1, yb, ykb, yvb, g1, g2, g3, g4, g5, hW2⟩ := yq_da (s := 1) key ya yka yva (by decide) ((k3 1 (by decide)).trans h1) b1
  rw [show 40 * 0 = 0 from rfl] at k4 k5
  rw [show 40 * 1 = 40 from rfl] at g4 g5
  refine ⟨c0, c1, yb, ykb, yvb, (g3 0 (by decide)).trans k2, g2, ?_, ?_, ?_⟩
  · rw [pq_L_congr (tk' := yka) (tv' := yva) c0 0 (fun j _ h2 => g5 j (Or.inl (by omega)))]
    exact k4
  · rw [g4, pq_L_congr (tk' := yk) (tv' := yv) m1 40 (fun j h1 _ => k5 j (Or.inr (by omega)))]
  · intro post yr yp ys yl yg cm qk qp qs ql qg hp
    unfold wY_finish_93
    refine hW1 _ yr yp ys yl yg cm qk qp qs ql qg ?_
    exact hW2 _ yr yp ys yl yg cm qk qp qs ql qg hp
section
variable {rc : Int32} {tk tv hc cm rk rp rs rl rg : Nat → Int32} {yr yp ys yl yg : Int32} {yc yk yv qk qp qs ql qg : Nat → Int32}
theorem xq_rt_l {s m : Nat} {k v : Int32} (hs : s < 2) (hh : hc s = nI m) (hm : m ≤ 40) : ∀ (d i : Nat), i + d = m → ((∀ q, i ≤ q → q < m → ¬ (tk (40 * s + q) = k ∧ tv (40 * s + q) = v)) ∧ ∀ post : Int32 → SX → Prop, post (-3) (rc, tk, tv, hc, cm, rk, rp, rs, rl, rg) → wX_retract_40 post (nI s) k v (nI (40 * s + m)) rc tk tv hc cm rk rp rs rl rg (d + 1) (nI (40 * s + i))) ∨ (∃ q, i ≤ q ∧ q < m ∧ tk (40 * s + q) = k ∧ tv (40 * s + q) = v ∧ ∀ post : Int32 → SX → Prop, post (nI (m - 1)) (rc, upd tk (40 * s + q) (tk (40 * s + (m - 1))), upd tv (40 * s + q) (tv (40 * s + (m - 1))), upd hc s (nI (m - 1)), cm, rk, rp, rs, rl, rg) → wX_retract_40 post (nI s) k v (nI (40 * s + m)) rc tk tv hc cm rk rp rs rl rg (d + 1) (nI (40 * s + i))) := by
  intro d
  have hS : vp_in (nI s) 2 := vp_in_nI hs (by decide)
  have eS : (nI s).toNatClampNeg = s := nI_clamp (by omega)
  induction d with
  | zero =>
    intro i hi
    exact Or.inl ⟨fun q h1 h2 => absurd h2 (by omega), fun post hp => br_t (nI_le (by omega) (by omega)) hp⟩
  | succ d ih =>
    intro i hi
    have hb : vp_in (nI (40 * s + i)) 80 := vp_in_nI (by omega) (by decide)
    have hl : vp_in (nI (40 * s + (m - 1))) 80 := vp_in_nI (by omega) (by decide)
    have hn : ¬ (nI (40 * s + m) ≤ nI (40 * s + i)) := nI_ge (by omega) (by omega)
    have ec : (nI (40 * s + i)).toNatClampNeg = 40 * s + i := nI_clamp (by omega)
    have el : (nI (40 * s + (m - 1))).toNatClampNeg = 40 * s + (m - 1) := nI_clamp (by omega)
    have e5 : nI (40 * s + m) - 1 = nI (40 * s + (m - 1)) := by
      rw [show 40 * s + m = (40 * s + (m - 1)) + 1 by omega, nI_pred]
    have eH : upd hc (nI s).toNatClampNeg (hc (nI s).toNatClampNeg - 1) = upd hc s (nI (m - 1)) := by
      rw [eS, hh, show m = (m - 1) + 1 by omega, nI_pred]; rfl
    by_cases e1 : tk (40 * s + i) = k
    · by_cases e2 : tv (40 * s + i) = v
      · refine Or.inr ⟨i, Nat.le_refl i, by omega, e1, e2, fun post hp => br_f hn ?_⟩
        rw [e5, ec, el]
        exact ⟨hb, br_t e1 ⟨hb, br_t e2 ⟨hl, hb, nm_e ⟨hl, hb, nm_e ⟨hS, hS, nm_r eH ⟨hS, by rw [eS, pk_us]; exact hp⟩⟩⟩⟩⟩⟩
      · rcases ih (i + 1) (by omega) with ⟨hN, hW⟩ | ⟨q, q1, q2, q3, q4, hW⟩
        · refine Or.inl ⟨fun q h1 h2 => ?_, fun post hp => br_f hn ?_⟩
          · by_cases hq : q = i
            · rw [hq]; exact fun z => e2 z.2
            · exact hN q (by omega) h2
          · rw [ec]
            exact ⟨hb, br_t e1 ⟨hb, br_f e2 (nm_r (nI_1 _) (hW post hp))⟩⟩
        · refine Or.inr ⟨q, by omega, q2, q3, q4, fun post hp => br_f hn ?_⟩
          rw [ec]
          exact ⟨hb, br_t e1 ⟨hb, br_f e2 (nm_r (nI_1 _) (hW post hp))⟩⟩
    · rcases ih (i + 1) (by omega) with ⟨hN, hW⟩ | ⟨q, q1, q2, q3, q4, hW⟩
      · refine Or.inl ⟨fun q h1 h2 => ?_, fun post hp => br_f hn ?_⟩
        · by_cases hq : q = i
          · rw [hq]; exact fun z => e1 z.1
          · exact hN q (by omega) h2
        · rw [ec]
          exact ⟨hb, br_f e1 (nm_r (nI_1 _) (hW post hp))⟩
      · refine Or.inr ⟨q, by omega, q2, q3, q4, fun post hp => br_f hn ?_⟩
        rw [ec]
        exact ⟨hb, br_f e1 (nm_r (nI_1 _) (hW post hp))⟩
theorem yq_rt_l {s m : Nat} {k v : Int32} (hs : s < 2) (hh : yc s = nI m) (hm : m ≤ 40) : ∀ (d i : Nat), i + d = m → ((∀ q, i ≤ q → q < m → ¬ (yk (40 * s + q) = k ∧ yv (40 * s + q) = v)) ∧ ∀ post : Int32 → SY → Prop, post (-3) (yr, yp, ys, yl, yg, yc, yk, yv, cm, qk, qp, qs, ql, qg) → wY_retract_24 post (nI s) k v yr yp ys yl yg yc yk yv cm qk qp qs ql qg (d + 1) (nI i)) ∨ (∃ q, i ≤ q ∧ q < m ∧ yk (40 * s + q) = k ∧ yv (40 * s + q) = v ∧ ∀ post : Int32 → SY → Prop, post (nI (m - 1)) (yr, yp, ys, yl, yg, upd yc s (nI (m - 1)), pq_sh yk (40 * s + q) (40 * s + (m - 1)), pq_sh yv (40 * s + q) (40 * s + (m - 1)), cm, qk, qp, qs, ql, qg) → wY_retract_24 post (nI s) k v yr yp ys yl yg yc yk yv cm qk qp qs ql qg (d + 1) (nI i)) := by
  intro d
  have hS : vp_in (nI s) 2 := vp_in_nI hs (by decide)
  have eS : (nI s).toNatClampNeg = s := nI_clamp (by omega)
  induction d with
  | zero =>
    intro i hi
    refine Or.inl ⟨fun q h1 h2 => absurd h2 (by omega), fun post hp => ⟨hS, br_t ?_ hp⟩⟩
    rw [eS, hh]; exact nI_le (by omega) (by omega)
  | succ d ih =>
    intro i hi
    have hb : vp_in (nI (40 * s + i)) 80 := vp_in_nI (by omega) (by decide)
    have hn : ¬ (yc (nI s).toNatClampNeg ≤ nI i) := by rw [eS, hh]; exact nI_ge (by omega) (by omega)
    have h40 : ¬ ((40 : Int32) ≤ nI i) := nI_ge (b := 40) (by omega) (by decide)
    have ec : (nI (40 * s + i)).toNatClampNeg = 40 * s + i := nI_clamp (by omega)
    have hh' : yc s = nI ((m - 1) + 1) := by rw [hh, show (m - 1) + 1 = m by omega]
    by_cases e1 : yk (40 * s + i) = k
    · by_cases e2 : yv (40 * s + i) = v
      · refine Or.inr ⟨i, Nat.le_refl i, by omega, e1, e2, fun post hp => ⟨hS, br_f hn (br_f h40 ?_)⟩⟩
        rw [yq_40i, ec]
        refine ⟨hb, br_t e1 ⟨hb, br_t e2 ?_⟩⟩
        refine yq_to hs hh' (by omega) (by omega) ?_
        refine ⟨hS, ?_⟩
        rw [eS, pk_us]
        exact hp
      · rcases ih (i + 1) (by omega) with ⟨hN, hW⟩ | ⟨q, q1, q2, q3, q4, hW⟩
        · refine Or.inl ⟨fun q h1 h2 => ?_, fun post hp => ⟨hS, br_f hn (br_f h40 ?_)⟩⟩
          · by_cases hq : q = i
            · rw [hq]; exact fun z => e2 z.2
            · exact hN q (by omega) h2
          · rw [yq_40i, ec]
            exact ⟨hb, br_t e1 ⟨hb, br_f e2 (nm_r (nI_1 _) (hW post hp))⟩⟩
        · refine Or.inr ⟨q, by omega, q2, q3, q4, fun post hp => ⟨hS, br_f hn (br_f h40 ?_)⟩⟩
          rw [yq_40i, ec]
          exact ⟨hb, br_t e1 ⟨hb, br_f e2 (nm_r (nI_1 _) (hW post hp))⟩⟩
    · rcases ih (i + 1) (by omega) with ⟨hN, hW⟩ | ⟨q, q1, q2, q3, q4, hW⟩
      · refine Or.inl ⟨fun q h1 h2 => ?_, fun post hp => ⟨hS, br_f hn (br_f h40 ?_)⟩⟩
        · by_cases hq : q = i
          · rw [hq]; exact fun z => e1 z.1
          · exact hN q (by omega) h2
        · rw [yq_40i, ec]
          exact ⟨hb, br_f e1 (nm_r (nI_1 _) (hW post hp))⟩
      · refine Or.inr ⟨q, by omega, q2, q3, q4, fun post hp => ⟨hS, br_f hn (br_f h40 ?_)⟩⟩
        rw [yq_40i, ec]
        exact ⟨hb, br_f e1 (nm_r (nI_1 _) (hW post hp))⟩
end
