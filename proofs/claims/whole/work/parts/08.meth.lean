theorem pq_L_in {tk tv : Nat → Int32} {b n i : Nat} (h : i < n) : (tk (b + i), tv (b + i)) ∈ pq_L tk tv b n := by
  obtain ⟨d, rfl⟩ : ∃ d, n = i + d + 1 := ⟨n - i - 1, by omega⟩
  rw [pq_L_at]
  exact List.mem_append.mpr (Or.inr List.mem_cons_self)
theorem i_vc_held {k : Nat} {u : SX} {v : SY} (I : i_Rel k u v) (hk : k + 4 ≤ 2048) (v1 : Int32) : wpX_held (fun r => wpY_held (fun r' => r' = r ∧ i_Rel (k + 4) u v) v v1) u v1 := by
  obtain ⟨rc, tk, tv, hc, cm, rk, rp, rs, rl, rg, yp, ys, yl, yg, yc, yk, yv, rfl, rfl, K⟩ := I
  rcases pq_str v1 with ⟨s, hs, rfl, hX, hY⟩ | ⟨hX, hY⟩
  · obtain ⟨n, b, g1, g2, g3, g4⟩ := K.2.1 s hs
    have hS : vp_in (nI s) 2 := vp_in_nI hs (by decide)
    have eS : (nI s).toNatClampNeg = s := nI_clamp (by omega)
    unfold wpX_held
    dsimp only
    refine hX _ (br_f (by decide) ⟨hS, ?_⟩)
    unfold wpY_held
    dsimp only
    refine hY _ _ (br_t rfl ⟨hS, ?_, ⟨rc, tk, tv, hc, cm, rk, rp, rs, rl, rg, yp, ys, yl, yg, yc, yk, yv, rfl, rfl, K⟩⟩)
    rw [eS, g1, g2]
  · unfold wpX_held
    dsimp only
    refine hX _ (br_t rfl ?_)
    unfold wpY_held
    dsimp only
    exact hY _ _ (br_f (by decide) ⟨rfl, ⟨rc, tk, tv, hc, cm, rk, rp, rs, rl, rg, yp, ys, yl, yg, yc, yk, yv, rfl, rfl, K⟩⟩)
theorem i_vc_heldWith {k : Nat} {u : SX} {v : SY} (I : i_Rel k u v) (hk : k + 4 ≤ 2048) (v1 : Int32) (v2 : Int32) : wpX_heldWith (fun r => wpY_heldWith (fun r' => r' = r ∧ i_Rel (k + 4) u v) v v1 v2) u v1 v2 := by
  obtain ⟨rc, tk, tv, hc, cm, rk, rp, rs, rl, rg, yp, ys, yl, yg, yc, yk, yv, rfl, rfl, K⟩ := I
  rcases pq_str v1 with ⟨s, hs, rfl, hX, hY⟩ | ⟨hX, hY⟩
  · obtain ⟨n, b, g1, g2, g3, g4⟩ := K.2.1 s hs
    unfold wpX_heldWith
    dsimp only
    refine hX _ (br_f (by decide) ?_)
    rcases pq_key v2 with ⟨q, hq, rfl, hX', hY'⟩ | ⟨hX', hY'⟩
    · refine hX' _ (br_f (by decide) ?_)
      refine xq_ct hs g1 b ?_
      unfold wpY_heldWith
      dsimp only
      refine hY _ _ (br_t rfl ?_)
      refine hY' _ _ (br_t rfl ?_)
      refine yq_ct hs g2 b ⟨?_, ⟨rc, tk, tv, hc, cm, rk, rp, rs, rl, rg, yp, ys, yl, yg, yc, yk, yv, rfl, rfl, K⟩⟩
      rw [pq_n_perm _ g3]
    · refine hX' _ (br_t rfl ?_)
      unfold wpY_heldWith
      dsimp only
      refine hY _ _ (br_t rfl ?_)
      exact hY' _ _ (br_f (by decide) ⟨rfl, ⟨rc, tk, tv, hc, cm, rk, rp, rs, rl, rg, yp, ys, yl, yg, yc, yk, yv, rfl, rfl, K⟩⟩)
  · unfold wpX_heldWith
    dsimp only
    refine hX _ (br_t rfl ?_)
    unfold wpY_heldWith
    dsimp only
    exact hY _ _ (br_f (by decide) ⟨rfl, ⟨rc, tk, tv, hc, cm, rk, rp, rs, rl, rg, yp, ys, yl, yg, yc, yk, yv, rfl, rfl, K⟩⟩)
theorem i_vc_closed {k : Nat} {u : SX} {v : SY} (I : i_Rel k u v) (hk : k + 4 ≤ 2048) (v1 : Int32) (v2 : Int32) : wpX_closed (fun r => wpY_closed (fun r' => r' = r ∧ i_Rel (k + 4) u v) v v1 v2) u v1 v2 := by
  obtain ⟨rc, tk, tv, hc, cm, rk, rp, rs, rl, rg, yp, ys, yl, yg, yc, yk, yv, rfl, rfl, K⟩ := I
  rcases pq_str v1 with ⟨s, hs, rfl, hX, hY⟩ | ⟨hX, hY⟩
  · unfold wpX_closed
    dsimp only
    refine hX _ (br_f (by decide) ?_)
    rcases pq_key v2 with ⟨q, hq, rfl, hX', hY'⟩ | ⟨hX', hY'⟩
    · refine hX' _ (br_f (by decide) ?_)
      refine xq_cl hs hq K.2.2 ?_
      have hI : vp_in (nI (16 * s + q)) 32 := vp_in_nI (by omega) (by decide)
      by_cases e : cm (16 * s + q) = 0
      · refine br_t e ?_
        unfold wpY_closed
        dsimp only
        rw [yq_16, nI_clamp (n := 16 * s + q) (by omega)]
        exact hY _ _ (br_t rfl (hY' _ _ (br_t rfl ⟨hI, br_t e ⟨rfl, ⟨rc, tk, tv, hc, cm, rk, rp, rs, rl, rg, yp, ys, yl, yg, yc, yk, yv, rfl, rfl, K⟩⟩⟩)))
      · refine br_f e ?_
        unfold wpY_closed
        dsimp only
        rw [yq_16, nI_clamp (n := 16 * s + q) (by omega)]
        exact hY _ _ (br_t rfl (hY' _ _ (br_t rfl ⟨hI, br_f e ⟨rfl, ⟨rc, tk, tv, hc, cm, rk, rp, rs, rl, rg, yp, ys, yl, yg, yc, yk, yv, rfl, rfl, K⟩⟩⟩)))
    · refine hX' _ (br_t rfl ?_)
      unfold wpY_closed
      dsimp only
      refine hY _ _ (br_t rfl ?_)
      exact hY' _ _ (br_f (by decide) ⟨rfl, ⟨rc, tk, tv, hc, cm, rk, rp, rs, rl, rg, yp, ys, yl, yg, yc, yk, yv, rfl, rfl, K⟩⟩)
  · unfold wpX_closed
    dsimp only
    refine hX _ (br_t rfl ?_)
    unfold wpY_closed
    dsimp only
    exact hY _ _ (br_f (by decide) ⟨rfl, ⟨rc, tk, tv, hc, cm, rk, rp, rs, rl, rg, yp, ys, yl, yg, yc, yk, yv, rfl, rfl, K⟩⟩)
theorem i_vc_results {k : Nat} {u : SX} {v : SY} (I : i_Rel k u v) (hk : k + 4 ≤ 2048) : wpX_results (fun r => wpY_results (fun r' => r' = r ∧ i_Rel (k + 4) u v) v) u := by
  obtain ⟨rc, tk, tv, hc, cm, rk, rp, rs, rl, rg, yp, ys, yl, yg, yc, yk, yv, rfl, rfl, K⟩ := I
  exact ⟨rfl, ⟨rc, tk, tv, hc, cm, rk, rp, rs, rl, rg, yp, ys, yl, yg, yc, yk, yv, rfl, rfl, K⟩⟩
theorem i_vc_resultKey {k : Nat} {u : SX} {v : SY} (I : i_Rel k u v) (hk : k + 4 ≤ 2048) (v1 : Int32) : wpX_resultKey (fun r => wpY_resultKey (fun r' => r' = r ∧ i_Rel (k + 4) u v) v v1) u v1 := by
  obtain ⟨rc, tk, tv, hc, cm, rk, rp, rs, rl, rg, yp, ys, yl, yg, yc, yk, yv, rfl, rfl, K⟩ := I
  obtain ⟨m, rfl, hm⟩ := K.1
  have hm16 : m ≤ 16 := Nat.le_trans hm (pq_fc_le cm 16)
  rcases pq_res (tk := tk) (tv := tv) (hc := hc) (cm := cm) (rk := rk) (rp := rp) (rs := rs) (rl := rl) (rg := rg) (yp := yp) (ys := ys) (yl := yl) (yg := yg) (yc := yc) (yk := yk) (yv := yv) (qk := rk) (qp := rp) (qs := rs) (ql := rl) (qg := rg) hm16 v1 with ⟨j, hj, rfl, hX, hY⟩ | ⟨hX, hY⟩
  · have hI : vp_in (nI j) 16 := vp_in_nI (by omega) (by decide)
    unfold wpX_resultKey
    dsimp only
    refine hX _ (br_f (by decide) ⟨hI, ?_⟩)
    unfold wpY_resultKey
    dsimp only
    exact hY _ (br_t rfl ⟨hI, rfl, ⟨_, tk, tv, hc, cm, rk, rp, rs, rl, rg, yp, ys, yl, yg, yc, yk, yv, rfl, rfl, K⟩⟩)
  · unfold wpX_resultKey
    dsimp only
    refine hX _ (br_t rfl ?_)
    unfold wpY_resultKey
    dsimp only
    exact hY _ (br_f (by decide) ⟨rfl, ⟨_, tk, tv, hc, cm, rk, rp, rs, rl, rg, yp, ys, yl, yg, yc, yk, yv, rfl, rfl, K⟩⟩)
theorem i_vc_resultPairs {k : Nat} {u : SX} {v : SY} (I : i_Rel k u v) (hk : k + 4 ≤ 2048) (v1 : Int32) : wpX_resultPairs (fun r => wpY_resultPairs (fun r' => r' = r ∧ i_Rel (k + 4) u v) v v1) u v1 := by
  obtain ⟨rc, tk, tv, hc, cm, rk, rp, rs, rl, rg, yp, ys, yl, yg, yc, yk, yv, rfl, rfl, K⟩ := I
  obtain ⟨m, rfl, hm⟩ := K.1
  have hm16 : m ≤ 16 := Nat.le_trans hm (pq_fc_le cm 16)
  rcases pq_res (tk := tk) (tv := tv) (hc := hc) (cm := cm) (rk := rk) (rp := rp) (rs := rs) (rl := rl) (rg := rg) (yp := yp) (ys := ys) (yl := yl) (yg := yg) (yc := yc) (yk := yk) (yv := yv) (qk := rk) (qp := rp) (qs := rs) (ql := rl) (qg := rg) hm16 v1 with ⟨j, hj, rfl, hX, hY⟩ | ⟨hX, hY⟩
  · have hI : vp_in (nI j) 16 := vp_in_nI (by omega) (by decide)
    unfold wpX_resultPairs
    dsimp only
    refine hX _ (br_f (by decide) ⟨hI, ?_⟩)
    unfold wpY_resultPairs
    dsimp only
    exact hY _ (br_t rfl ⟨hI, rfl, ⟨_, tk, tv, hc, cm, rk, rp, rs, rl, rg, yp, ys, yl, yg, yc, yk, yv, rfl, rfl, K⟩⟩)
  · unfold wpX_resultPairs
    dsimp only
    refine hX _ (br_t rfl ?_)
    unfold wpY_resultPairs
    dsimp only
    exact hY _ (br_f (by decide) ⟨rfl, ⟨_, tk, tv, hc, cm, rk, rp, rs, rl, rg, yp, ys, yl, yg, yc, yk, yv, rfl, rfl, K⟩⟩)
theorem i_vc_resultSum {k : Nat} {u : SX} {v : SY} (I : i_Rel k u v) (hk : k + 4 ≤ 2048) (v1 : Int32) : wpX_resultSum (fun r => wpY_resultSum (fun r' => r' = r ∧ i_Rel (k + 4) u v) v v1) u v1 := by
  obtain ⟨rc, tk, tv, hc, cm, rk, rp, rs, rl, rg, yp, ys, yl, yg, yc, yk, yv, rfl, rfl, K⟩ := I
  obtain ⟨m, rfl, hm⟩ := K.1
  have hm16 : m ≤ 16 := Nat.le_trans hm (pq_fc_le cm 16)
  rcases pq_res (tk := tk) (tv := tv) (hc := hc) (cm := cm) (rk := rk) (rp := rp) (rs := rs) (rl := rl) (rg := rg) (yp := yp) (ys := ys) (yl := yl) (yg := yg) (yc := yc) (yk := yk) (yv := yv) (qk := rk) (qp := rp) (qs := rs) (ql := rl) (qg := rg) hm16 v1 with ⟨j, hj, rfl, hX, hY⟩ | ⟨hX, hY⟩
  · have hI : vp_in (nI j) 16 := vp_in_nI (by omega) (by decide)
    unfold wpX_resultSum
    dsimp only
    refine hX _ (br_f (by decide) ⟨hI, ?_⟩)
    unfold wpY_resultSum
    dsimp only
    exact hY _ (br_t rfl ⟨hI, rfl, ⟨_, tk, tv, hc, cm, rk, rp, rs, rl, rg, yp, ys, yl, yg, yc, yk, yv, rfl, rfl, K⟩⟩)
  · unfold wpX_resultSum
    dsimp only
    refine hX _ (br_t rfl ?_)
    unfold wpY_resultSum
    dsimp only
    exact hY _ (br_f (by decide) ⟨rfl, ⟨_, tk, tv, hc, cm, rk, rp, rs, rl, rg, yp, ys, yl, yg, yc, yk, yv, rfl, rfl, K⟩⟩)
theorem i_vc_resultLeast {k : Nat} {u : SX} {v : SY} (I : i_Rel k u v) (hk : k + 4 ≤ 2048) (v1 : Int32) : wpX_resultLeast (fun r => wpY_resultLeast (fun r' => r' = r ∧ i_Rel (k + 4) u v) v v1) u v1 := by
  obtain ⟨rc, tk, tv, hc, cm, rk, rp, rs, rl, rg, yp, ys, yl, yg, yc, yk, yv, rfl, rfl, K⟩ := I
  obtain ⟨m, rfl, hm⟩ := K.1
  have hm16 : m ≤ 16 := Nat.le_trans hm (pq_fc_le cm 16)
  rcases pq_res (tk := tk) (tv := tv) (hc := hc) (cm := cm) (rk := rk) (rp := rp) (rs := rs) (rl := rl) (rg := rg) (yp := yp) (ys := ys) (yl := yl) (yg := yg) (yc := yc) (yk := yk) (yv := yv) (qk := rk) (qp := rp) (qs := rs) (ql := rl) (qg := rg) hm16 v1 with ⟨j, hj, rfl, hX, hY⟩ | ⟨hX, hY⟩
  · have hI : vp_in (nI j) 16 := vp_in_nI (by omega) (by decide)
    unfold wpX_resultLeast
    dsimp only
    refine hX _ (br_f (by decide) ⟨hI, ?_⟩)
    unfold wpY_resultLeast
    dsimp only
    exact hY _ (br_t rfl ⟨hI, rfl, ⟨_, tk, tv, hc, cm, rk, rp, rs, rl, rg, yp, ys, yl, yg, yc, yk, yv, rfl, rfl, K⟩⟩)
  · unfold wpX_resultLeast
    dsimp only
    refine hX _ (br_t rfl ?_)
    unfold wpY_resultLeast
    dsimp only
    exact hY _ (br_f (by decide) ⟨rfl, ⟨_, tk, tv, hc, cm, rk, rp, rs, rl, rg, yp, ys, yl, yg, yc, yk, yv, rfl, rfl, K⟩⟩)
theorem i_vc_resultGreatest {k : Nat} {u : SX} {v : SY} (I : i_Rel k u v) (hk : k + 4 ≤ 2048) (v1 : Int32) : wpX_resultGreatest (fun r => wpY_resultGreatest (fun r' => r' = r ∧ i_Rel (k + 4) u v) v v1) u v1 := by
  obtain ⟨rc, tk, tv, hc, cm, rk, rp, rs, rl, rg, yp, ys, yl, yg, yc, yk, yv, rfl, rfl, K⟩ := I
  obtain ⟨m, rfl, hm⟩ := K.1
  have hm16 : m ≤ 16 := Nat.le_trans hm (pq_fc_le cm 16)
  rcases pq_res (tk := tk) (tv := tv) (hc := hc) (cm := cm) (rk := rk) (rp := rp) (rs := rs) (rl := rl) (rg := rg) (yp := yp) (ys := ys) (yl := yl) (yg := yg) (yc := yc) (yk := yk) (yv := yv) (qk := rk) (qp := rp) (qs := rs) (ql := rl) (qg := rg) hm16 v1 with ⟨j, hj, rfl, hX, hY⟩ | ⟨hX, hY⟩
  · have hI : vp_in (nI j) 16 := vp_in_nI (by omega) (by decide)
    unfold wpX_resultGreatest
    dsimp only
    refine hX _ (br_f (by decide) ⟨hI, ?_⟩)
    unfold wpY_resultGreatest
    dsimp only
    exact hY _ (br_t rfl ⟨hI, rfl, ⟨_, tk, tv, hc, cm, rk, rp, rs, rl, rg, yp, ys, yl, yg, yc, yk, yv, rfl, rfl, K⟩⟩)
  · unfold wpX_resultGreatest
    dsimp only
    refine hX _ (br_t rfl ?_)
    unfold wpY_resultGreatest
    dsimp only
    exact hY _ (br_f (by decide) ⟨rfl, ⟨_, tk, tv, hc, cm, rk, rp, rs, rl, rg, yp, ys, yl, yg, yc, yk, yv, rfl, rfl, K⟩⟩)
theorem i_vc_pairs {k : Nat} {u : SX} {v : SY} (I : i_Rel k u v) (hk : k + 4 ≤ 2048) (v1 : Int32) : wpX_pairs (fun r => wpY_pairs (fun r' v' => r' = r ∧ i_Rel (k + 4) u v') v v1) u v1 := by
  obtain ⟨rc, tk, tv, hc, cm, rk, rp, rs, rl, rg, yp, ys, yl, yg, yc, yk, yv, rfl, rfl, K⟩ := I
  obtain ⟨n, b, g1, g2, g3, g4⟩ := K.2.1 0 (by decide)
  obtain ⟨n', b', f1, f2, f3, f4⟩ := K.2.1 1 (by decide)
  rw [show 40 * 0 = 0 from rfl] at g3 g4
  rw [show 40 * 1 = 40 from rfl] at f3 f4
  rcases pq_key v1 with ⟨q, hq, rfl, hX, hY⟩ | ⟨hX, hY⟩
  · unfold wpX_pairs
    dsimp only
    refine hX _ (br_f (by decide) ?_)
    refine xq_cp g1 b f1 b' ?_
    unfold wpY_pairs
    dsimp only
    refine hY _ _ (br_t rfl ?_)
    refine yq_lk g2 b f2 b' ⟨?_, ⟨rc, tk, tv, hc, cm, rk, rp, rs, rl, rg, _, _, _, _, yc, yk, yv, rfl, rfl, K⟩⟩
    rw [pq_n_perm _ g3, pq_n_perm _ f3]
  · unfold wpX_pairs
    dsimp only
    refine hX _ (br_t rfl ?_)
    unfold wpY_pairs
    dsimp only
    exact hY _ _ (br_f (by decide) ⟨rfl, ⟨rc, tk, tv, hc, cm, rk, rp, rs, rl, rg, yp, ys, yl, yg, yc, yk, yv, rfl, rfl, K⟩⟩)
theorem i_vc_sum {k : Nat} {u : SX} {v : SY} (I : i_Rel k u v) (hk : k + 4 ≤ 2048) (v1 : Int32) : wpX_sum (fun r => wpY_sum (fun r' v' => r' = r ∧ i_Rel (k + 4) u v') v v1) u v1 := by
  obtain ⟨rc, tk, tv, hc, cm, rk, rp, rs, rl, rg, yp, ys, yl, yg, yc, yk, yv, rfl, rfl, K⟩ := I
  obtain ⟨n, b, g1, g2, g3, g4⟩ := K.2.1 0 (by decide)
  obtain ⟨n', b', f1, f2, f3, f4⟩ := K.2.1 1 (by decide)
  rw [show 40 * 0 = 0 from rfl] at g3 g4
  rw [show 40 * 1 = 40 from rfl] at f3 f4
  rcases pq_key v1 with ⟨q, hq, rfl, hX, hY⟩ | ⟨hX, hY⟩
  · unfold wpX_sum
    dsimp only
    refine hX _ (br_f (by decide) ?_)
    refine xq_sp g1 b f1 b' ?_
    unfold wpY_sum
    dsimp only
    refine hY _ _ (br_t rfl ?_)
    refine yq_lk g2 b f2 b' ⟨?_, ⟨rc, tk, tv, hc, cm, rk, rp, rs, rl, rg, _, _, _, _, yc, yk, yv, rfl, rfl, K⟩⟩
    rw [pq_sm_perm _ g3, pq_sm_perm _ f3]
  · unfold wpX_sum
    dsimp only
    refine hX _ (br_t rfl ?_)
    unfold wpY_sum
    dsimp only
    exact hY _ _ (br_f (by decide) ⟨rfl, ⟨rc, tk, tv, hc, cm, rk, rp, rs, rl, rg, yp, ys, yl, yg, yc, yk, yv, rfl, rfl, K⟩⟩)
theorem i_vc_least {k : Nat} {u : SX} {v : SY} (I : i_Rel k u v) (hk : k + 4 ≤ 2048) (v1 : Int32) : wpX_least (fun r => wpY_least (fun r' v' => r' = r ∧ i_Rel (k + 4) u v') v v1) u v1 := by
  obtain ⟨rc, tk, tv, hc, cm, rk, rp, rs, rl, rg, yp, ys, yl, yg, yc, yk, yv, rfl, rfl, K⟩ := I
  obtain ⟨n, b, g1, g2, g3, g4⟩ := K.2.1 0 (by decide)
  obtain ⟨n', b', f1, f2, f3, f4⟩ := K.2.1 1 (by decide)
  rw [show 40 * 0 = 0 from rfl] at g3 g4
  rw [show 40 * 1 = 40 from rfl] at f3 f4
  rcases pq_key v1 with ⟨q, hq, rfl, hX, hY⟩ | ⟨hX, hY⟩
  · unfold wpX_least
    dsimp only
    refine hX _ (br_f (by decide) ?_)
    refine xq_MI g1 b f1 b' ?_
    unfold wpY_least
    dsimp only
    refine hY _ _ (br_t rfl ?_)
    refine yq_lk g2 b f2 b' ⟨?_, ⟨rc, tk, tv, hc, cm, rk, rp, rs, rl, rg, _, _, _, _, yc, yk, yv, rfl, rfl, K⟩⟩
    exact (pq_MI_u g3 f3 (pq_MIo_MI g4 f4) (pq_MIo_MI (fun a ha => g4 a (g3.mem_iff.mpr ha)) (fun a ha => f4 a (f3.mem_iff.mpr ha)))).symm
  · unfold wpX_least
    dsimp only
    refine hX _ (br_t rfl ?_)
    unfold wpY_least
    dsimp only
    exact hY _ _ (br_f (by decide) ⟨rfl, ⟨rc, tk, tv, hc, cm, rk, rp, rs, rl, rg, yp, ys, yl, yg, yc, yk, yv, rfl, rfl, K⟩⟩)
theorem i_vc_greatest {k : Nat} {u : SX} {v : SY} (I : i_Rel k u v) (hk : k + 4 ≤ 2048) (v1 : Int32) : wpX_greatest (fun r => wpY_greatest (fun r' v' => r' = r ∧ i_Rel (k + 4) u v') v v1) u v1 := by
  obtain ⟨rc, tk, tv, hc, cm, rk, rp, rs, rl, rg, yp, ys, yl, yg, yc, yk, yv, rfl, rfl, K⟩ := I
  obtain ⟨n, b, g1, g2, g3, g4⟩ := K.2.1 0 (by decide)
  obtain ⟨n', b', f1, f2, f3, f4⟩ := K.2.1 1 (by decide)
  rw [show 40 * 0 = 0 from rfl] at g3 g4
  rw [show 40 * 1 = 40 from rfl] at f3 f4
  rcases pq_key v1 with ⟨q, hq, rfl, hX, hY⟩ | ⟨hX, hY⟩
  · unfold wpX_greatest
    dsimp only
    refine hX _ (br_f (by decide) ?_)
    refine xq_MA g1 b f1 b' ?_
    unfold wpY_greatest
    dsimp only
    refine hY _ _ (br_t rfl ?_)
    refine yq_lk g2 b f2 b' ⟨?_, ⟨rc, tk, tv, hc, cm, rk, rp, rs, rl, rg, _, _, _, _, yc, yk, yv, rfl, rfl, K⟩⟩
    exact (pq_MA_u g3 f3 (pq_MAo_MI g4 f4) (pq_MAo_MI (fun a ha => g4 a (g3.mem_iff.mpr ha)) (fun a ha => f4 a (f3.mem_iff.mpr ha)))).symm
  · unfold wpX_greatest
    dsimp only
    refine hX _ (br_t rfl ?_)
    unfold wpY_greatest
    dsimp only
    exact hY _ _ (br_f (by decide) ⟨rfl, ⟨rc, tk, tv, hc, cm, rk, rp, rs, rl, rg, yp, ys, yl, yg, yc, yk, yv, rfl, rfl, K⟩⟩)
theorem i_vc_pairsFrom {k : Nat} {u : SX} {v : SY} (I : i_Rel k u v) (hk : k + 4 ≤ 2048) (v1 : Int32) : wpX_pairsFrom (fun r => wpY_pairsFrom (fun r' => r' = r ∧ i_Rel (k + 4) u v) v v1) u v1 := by
  obtain ⟨rc, tk, tv, hc, cm, rk, rp, rs, rl, rg, yp, ys, yl, yg, yc, yk, yv, rfl, rfl, K⟩ := I
  obtain ⟨n, b, g1, g2, g3, g4⟩ := K.2.1 0 (by decide)
  obtain ⟨n', b', f1, f2, f3, f4⟩ := K.2.1 1 (by decide)
  rw [show 40 * 0 = 0 from rfl] at g3 g4
  rw [show 40 * 1 = 40 from rfl] at f3 f4
  refine xq_pf g1 b f1 b' ?_
  refine yq_pf g2 b f2 b' ⟨?_, ⟨rc, tk, tv, hc, cm, rk, rp, rs, rl, rg, yp, ys, yl, yg, yc, yk, yv, rfl, rfl, K⟩⟩
  rw [pq_sm_perm _ g3]
  exact pq_sm_congr (fun a _ => (pq_sm_perm _ f3).symm)
theorem i_vc_bandsFinished {k : Nat} {u : SX} {v : SY} (I : i_Rel k u v) (hk : k + 4 ≤ 2048) : wpX_bandsFinished (fun r => wpY_bandsFinished (fun r' => r' = r ∧ i_Rel (k + 4) u v) v) u := by
  obtain ⟨rc, tk, tv, hc, cm, rk, rp, rs, rl, rg, yp, ys, yl, yg, yc, yk, yv, rfl, rfl, K⟩ := I
  obtain ⟨r, hX, hY⟩ := pq_bf_l (rc := rc) (tk := tk) (tv := tv) (hc := hc) (cm := cm) (rk := rk) (rp := rp) (rs := rs) (rl := rl) (rg := rg) (yp := yp) (ys := ys) (yl := yl) (yg := yg) (yc := yc) (yk := yk) (yv := yv) (yr := rc) (qk := rk) (qp := rp) (qs := rs) (ql := rl) (qg := rg) K.2.2 4 0 0 rfl
  exact ⟨5, hX _ ⟨5, hY _ ⟨rfl, ⟨rc, tk, tv, hc, cm, rk, rp, rs, rl, rg, yp, ys, yl, yg, yc, yk, yv, rfl, rfl, K⟩⟩⟩⟩
theorem i_vc_bandSum {k : Nat} {u : SX} {v : SY} (I : i_Rel k u v) (hk : k + 4 ≤ 2048) (v1 : Int32) : wpX_bandSum (fun r => wpY_bandSum (fun r' => r' = r ∧ i_Rel (k + 4) u v) v v1) u v1 := by
  obtain ⟨rc, tk, tv, hc, cm, rk, rp, rs, rl, rg, yp, ys, yl, yg, yc, yk, yv, rfl, rfl, K⟩ := I
  rcases pk_ix v1 (n := 4) (by decide) with h | h | ⟨g, hg, rfl⟩
  · exact br_t h (br_t h ⟨rfl, ⟨rc, tk, tv, hc, cm, rk, rp, rs, rl, rg, yp, ys, yl, yg, yc, yk, yv, rfl, rfl, K⟩⟩)
  · have h0 : ¬ v1 < 0 := fun z => absurd (Int32.lt_of_le_of_lt h z) (by decide)
    have h1 : ¬ v1 < 4 := Int32.not_lt.mpr h
    have h2 : ¬ v1 ≤ 3 := fun z => absurd (Int32.le_trans h z) (by decide)
    exact br_f h0 (br_f h1 (br_f h0 (br_f h2 ⟨rfl, ⟨rc, tk, tv, hc, cm, rk, rp, rs, rl, rg, yp, ys, yl, yg, yc, yk, yv, rfl, rfl, K⟩⟩)))
  · have h0 : ¬ nI g < 0 := nI_pos (by omega)
    have h1 : nI g < 4 := nI_lt (b := 4) hg (by decide)
    have h2 : nI g ≤ 3 := nI_le (b := 3) (by omega) (by decide)
    obtain ⟨r, hX, hY⟩ := pq_bd (rc := rc) (tk := tk) (tv := tv) (hc := hc) (cm := cm) (rk := rk) (rp := rp) (rs := rs) (rl := rl) (rg := rg) (yp := yp) (ys := ys) (yl := yl) (yg := yg) (yc := yc) (yk := yk) (yv := yv) (yr := rc) (qk := rk) (qp := rp) (qs := rs) (ql := rl) (qg := rg) hg K.2.2
    by_cases e : r = 0
    · refine br_f h0 (br_t h1 (hX _ (br_t e ?_)))
      exact br_f h0 (br_t h2 (hY _ (br_t e ⟨rfl, ⟨rc, tk, tv, hc, cm, rk, rp, rs, rl, rg, yp, ys, yl, yg, yc, yk, yv, rfl, rfl, K⟩⟩)))
    · refine br_f h0 (br_t h1 (hX _ (br_f e ?_)))
      obtain ⟨m, hrc, hm⟩ := K.1
      have hm16 : m ≤ 16 := Nat.le_trans hm (pq_fc_le cm 16)
      subst hrc
      obtain ⟨r', hX', hY'⟩ := pq_bs_l (tk := tk) (tv := tv) (hc := hc) (cm := cm) (rk := rk) (rp := rp) (rs := rs) (rl := rl) (rg := rg) (yp := yp) (ys := ys) (yl := yl) (yg := yg) (yc := yc) (yk := yk) (yv := yv) (b := nI g) hm16 m 0 0 (by omega)
      refine ⟨m + 1, hX' _ ?_⟩
      refine br_f h0 (br_t h2 (hY _ (br_f e ?_)))
      exact ⟨m + 1, hY' _ ⟨rfl, ⟨_, tk, tv, hc, cm, rk, rp, rs, rl, rg, yp, ys, yl, yg, yc, yk, yv, rfl, rfl, K⟩⟩⟩
theorem pq_feed {tk tv hc yk yv yc : Nat → Int32} {s n : Nat} {k v : Int32} (hs : s < 2) (hn : n < 40) (g1 : hc s = nI n) (g2 : yc s = nI n) (g3 : List.Perm (pq_L tk tv (40 * s) n) (pq_L yk yv (40 * s) n)) (g4 : ∀ p, p ∈ pq_L tk tv (40 * s) n → pq_sml p.2) (hv : pq_sml v) (hK : ∀ s', s' < 2 → pq_St tk tv hc yk yv yc s') : ∀ s', s' < 2 → pq_St (upd tk (40 * s + n) k) (upd tv (40 * s + n) v) (upd hc s (nI (n + 1))) (upd yk (40 * s + n) k) (upd yv (40 * s + n) v) (upd yc s (nI (n + 1))) s' := by
  intro s' hs'
  by_cases e : s' = s
  · subst e
    have e1 : pq_L (upd tk (40 * s' + n) k) (upd tv (40 * s' + n) v) (40 * s') (n + 1) = pq_L tk tv (40 * s') n ++ [(k, v)] := by
      rw [pq_L_snoc, pk_us, pk_us, pq_L_congr (tk' := tk) (tv' := tv) n (40 * s') (fun j h1 h2 => ⟨pk_un (by omega), pk_un (by omega)⟩)]
    have e2 : pq_L (upd yk (40 * s' + n) k) (upd yv (40 * s' + n) v) (40 * s') (n + 1) = pq_L yk yv (40 * s') n ++ [(k, v)] := by
      rw [pq_L_snoc, pk_us, pk_us, pq_L_congr (tk' := yk) (tv' := yv) n (40 * s') (fun j h1 h2 => ⟨pk_un (by omega), pk_un (by omega)⟩)]
    refine ⟨n + 1, by omega, pk_us, pk_us, ?_, ?_⟩
    · rw [e1, e2]
      exact g3.append_right _
    · rw [e1]
      intro p hp
      rcases List.mem_append.mp hp with h | h
      · exact g4 p h
      · rw [List.mem_singleton.mp h]; exact hv
  · exact pq_St_fr (hK s' hs') (fun q h1 h2 => ⟨pk_un (by omega), pk_un (by omega)⟩) (fun q h1 h2 => ⟨pk_un (by omega), pk_un (by omega)⟩) (pk_un e) (pk_un e)
theorem pq_retr {tk tv hc yk yv yc : Nat → Int32} {s n i j : Nat} {k v : Int32} (hs : s < 2) (hn : n ≤ 40) (hi : i < n) (hj : j < n) (g1 : hc s = nI n) (g2 : yc s = nI n) (g3 : List.Perm (pq_L tk tv (40 * s) n) (pq_L yk yv (40 * s) n)) (g4 : ∀ p, p ∈ pq_L tk tv (40 * s) n → pq_sml p.2) (i1 : tk (40 * s + i) = k) (i2 : tv (40 * s + i) = v) (j1 : yk (40 * s + j) = k) (j2 : yv (40 * s + j) = v) (hK : ∀ s', s' < 2 → pq_St tk tv hc yk yv yc s') : ∀ s', s' < 2 → pq_St (upd tk (40 * s + i) (tk (40 * s + (n - 1)))) (upd tv (40 * s + i) (tv (40 * s + (n - 1)))) (upd hc s (nI (n - 1))) (pq_sh yk (40 * s + j) (40 * s + (n - 1))) (pq_sh yv (40 * s + j) (40 * s + (n - 1))) (upd yc s (nI (n - 1))) s' := by
  intro s' hs'
  by_cases e : s' = s
  · subst e
    obtain ⟨m, rfl⟩ : ∃ m, n = m + 1 := ⟨n - 1, by omega⟩
    rw [Nat.add_sub_cancel]
    have p1 := pq_L_swap (tk := tk) (tv := tv) (b := 40 * s') hi
    rw [i1, i2] at p1
    have p2 : List.Perm ((k, v) :: pq_L (pq_sh yk (40 * s' + j) (40 * s' + m)) (pq_sh yv (40 * s' + j) (40 * s' + m)) (40 * s') m) (pq_L yk yv (40 * s') (m + 1)) := by
      obtain ⟨d, rfl⟩ : ∃ d, m = j + d := ⟨m - j, by omega⟩
      rw [pq_L_sh, pq_L_at, j1, j2]
      exact List.perm_middle.symm
    have p3 := (p1.trans g3).trans p2.symm
    refine ⟨m, by omega, pk_us, pk_us, p3.cons_inv, fun p hp => ?_⟩
    exact g4 p (p1.mem_iff.mp (List.mem_cons_of_mem _ hp))
  · refine pq_St_fr (hK s' hs') (fun q h1 h2 => ⟨pk_un (by omega), pk_un (by omega)⟩) (fun q h1 h2 => ⟨pq_sh_out (by omega), pq_sh_out (by omega)⟩) (pk_un e) (pk_un e)
theorem i_vc_feed {k : Nat} {u : SX} {v : SY} (I : i_Rel k u v) (hk : k + 4 ≤ 2048) (v1 : Int32) (v2 : Int32) (v3 : Int32) : wpX_feed (fun r u' => wpY_feed (fun r' v' => r' = r ∧ i_Rel (k + 4) u' v') v v1 v2 v3) u v1 v2 v3 := by
  obtain ⟨rc, tk, tv, hc, cm, rk, rp, rs, rl, rg, yp, ys, yl, yg, yc, yk, yv, rfl, rfl, K⟩ := I
  rcases pq_str v1 with ⟨s, hs, rfl, hX, hY⟩ | ⟨hX, hY⟩
  · obtain ⟨n, b, g1, g2, g3, g4⟩ := K.2.1 s hs
    have hS : vp_in (nI s) 2 := vp_in_nI hs (by decide)
    have eS : (nI s).toNatClampNeg = s := nI_clamp (by omega)
    unfold wpX_feed
    dsimp only
    refine hX _ (br_f (by decide) ?_)
    rcases pq_key v2 with ⟨q, hq, rfl, hX', hY'⟩ | ⟨hX', hY'⟩
    · refine hX' _ (br_f (by decide) ?_)
      by_cases c1 : v3 < -50
      · refine br_t c1 ?_
        unfold wpY_feed
        dsimp only
        exact hY _ _ (br_t rfl (hY' _ _ (br_t rfl (br_t c1 ⟨rfl, ⟨rc, tk, tv, hc, cm, rk, rp, rs, rl, rg, yp, ys, yl, yg, yc, yk, yv, rfl, rfl, K⟩⟩))))
      · refine br_f c1 ?_
        by_cases c2 : v3 ≤ 50
        · refine br_t c2 ?_
          refine xq_cl hs hq K.2.2 ?_
          have hI : vp_in (nI (16 * s + q)) 32 := vp_in_nI (by omega) (by decide)
          by_cases e : cm (16 * s + q) = 0
          · refine br_t e ⟨hS, ?_⟩
            rw [eS, g1]
            by_cases c3 : n < 40
            · have hI' : vp_in (nI (40 * s + n)) 80 := vp_in_nI (by omega) (by decide)
              have e4 : (nI (40 * s + n)).toNatClampNeg = 40 * s + n := nI_clamp (by omega)
              refine br_t (nI_lt (b := 40) c3 (by decide)) ⟨hS, nm_r (e' := nI (40 * s + n)) (by rw [xq_40, nI_add]) ?_⟩
              rw [e4, nI_1]
              refine ⟨hI', nm_e ⟨hI', nm_e ⟨hS, hS, nm_e ⟨hS, ?_⟩⟩⟩⟩
              rw [pk_us]
              unfold wpY_feed
              dsimp only
              refine hY _ _ (br_t rfl (hY' _ _ (br_t rfl (br_f c1 (br_t c2 ?_)))))
              rw [yq_16, nI_clamp (n := 16 * s + q) (by omega), eS, g2]
              refine ⟨hI, br_t e ⟨hS, nm_e (br_t (nI_lt (b := 40) c3 (by decide)) ?_)⟩⟩
              rw [yq_40i, e4, nI_1]
              refine ⟨hI', nm_e ⟨hI', nm_e ⟨hS, nm_e ⟨rfl, ?_⟩⟩⟩⟩
              exact ⟨rc, _, _, _, cm, rk, rp, rs, rl, rg, yp, ys, yl, yg, _, _, _, rfl, rfl, K.1, pq_feed hs c3 g1 g2 g3 g4 ⟨Int32.not_lt.mp c1, c2⟩ K.2.1, K.2.2⟩
            · have c3' : ¬ nI n < 40 := nI_nlt (b := 40) (by omega) (by omega)
              refine br_f c3' ?_
              unfold wpY_feed
              dsimp only
              refine hY _ _ (br_t rfl (hY' _ _ (br_t rfl (br_f c1 (br_t c2 ?_)))))
              rw [yq_16, nI_clamp (n := 16 * s + q) (by omega), eS, g2]
              exact ⟨hI, br_t e ⟨hS, nm_e (br_f c3' ⟨rfl, ⟨rc, tk, tv, hc, cm, rk, rp, rs, rl, rg, yp, ys, yl, yg, yc, yk, yv, rfl, rfl, K⟩⟩)⟩⟩
          · refine br_f e ?_
            unfold wpY_feed
            dsimp only
            refine hY _ _ (br_t rfl (hY' _ _ (br_t rfl (br_f c1 (br_t c2 ?_)))))
            rw [yq_16, nI_clamp (n := 16 * s + q) (by omega)]
            exact ⟨hI, br_f e ⟨rfl, ⟨rc, tk, tv, hc, cm, rk, rp, rs, rl, rg, yp, ys, yl, yg, yc, yk, yv, rfl, rfl, K⟩⟩⟩
        · refine br_f c2 ?_
          unfold wpY_feed
          dsimp only
          exact hY _ _ (br_t rfl (hY' _ _ (br_t rfl (br_f c1 (br_f c2 ⟨rfl, ⟨rc, tk, tv, hc, cm, rk, rp, rs, rl, rg, yp, ys, yl, yg, yc, yk, yv, rfl, rfl, K⟩⟩)))))
    · refine hX' _ (br_t rfl ?_)
      unfold wpY_feed
      dsimp only
      refine hY _ _ (br_t rfl ?_)
      exact hY' _ _ (br_f (by decide) ⟨rfl, ⟨rc, tk, tv, hc, cm, rk, rp, rs, rl, rg, yp, ys, yl, yg, yc, yk, yv, rfl, rfl, K⟩⟩)
  · unfold wpX_feed
    dsimp only
    refine hX _ (br_t rfl ?_)
    unfold wpY_feed
    dsimp only
    exact hY _ _ (br_f (by decide) ⟨rfl, ⟨rc, tk, tv, hc, cm, rk, rp, rs, rl, rg, yp, ys, yl, yg, yc, yk, yv, rfl, rfl, K⟩⟩)
theorem i_vc_retract {k : Nat} {u : SX} {v : SY} (I : i_Rel k u v) (hk : k + 4 ≤ 2048) (v1 : Int32) (v2 : Int32) (v3 : Int32) : wpX_retract (fun r u' => wpY_retract (fun r' v' => r' = r ∧ i_Rel (k + 4) u' v') v v1 v2 v3) u v1 v2 v3 := by
  obtain ⟨rc, tk, tv, hc, cm, rk, rp, rs, rl, rg, yp, ys, yl, yg, yc, yk, yv, rfl, rfl, K⟩ := I
  rcases pq_str v1 with ⟨s, hs, rfl, hX, hY⟩ | ⟨hX, hY⟩
  · obtain ⟨n, b, g1, g2, g3, g4⟩ := K.2.1 s hs
    have hS : vp_in (nI s) 2 := vp_in_nI hs (by decide)
    have eS : (nI s).toNatClampNeg = s := nI_clamp (by omega)
    unfold wpX_retract
    dsimp only
    refine hX _ (br_f (by decide) ?_)
    rcases pq_key v2 with ⟨q, hq, rfl, hX', hY'⟩ | ⟨hX', hY'⟩
    · refine hX' _ (br_f (by decide) (nm_r (xq_40 s) ⟨hS, nm_r (e' := nI (40 * s + n)) (by rw [eS, g1, nI_add]) ?_⟩))
      have HX := xq_rt_l (rc := rc) (tk := tk) (tv := tv) (cm := cm) (rk := rk) (rp := rp) (rs := rs) (rl := rl) (rg := rg) (k := nI q) (v := v3) hs g1 b n 0 (by omega)
      have HY := yq_rt_l (yr := rc) (yp := yp) (ys := ys) (yl := yl) (yg := yg) (yk := yk) (yv := yv) (cm := cm) (qk := rk) (qp := rp) (qs := rs) (ql := rl) (qg := rg) (k := nI q) (v := v3) hs g2 b n 0 (by omega)
      rcases HX with ⟨nX, wX⟩ | ⟨i, i0, i1, i2, i3, wX⟩
      · rcases HY with ⟨nY, wY⟩ | ⟨j, j0, j1, j2, j3, wY⟩
        · refine ⟨n + 1, wX _ ?_⟩
          unfold wpY_retract
          dsimp only
          exact hY _ _ (br_t rfl (hY' _ _ (br_t rfl ⟨n + 1, wY _ ⟨rfl, ⟨rc, tk, tv, hc, cm, rk, rp, rs, rl, rg, yp, ys, yl, yg, yc, yk, yv, rfl, rfl, K⟩⟩⟩)))
        · exfalso
          have hm := g3.mem_iff.mpr (pq_L_in (tk := yk) (tv := yv) (b := 40 * s) j1)
          rw [j2, j3] at hm
          obtain ⟨i, a1, a2, a3⟩ := pq_L_mem _ _ hm
          refine nX (i - 40 * s) (by omega) (by omega) ?_
          rw [show 40 * s + (i - 40 * s) = i by omega]
          exact ⟨(congrArg Prod.fst a3).symm, (congrArg Prod.snd a3).symm⟩
      · rcases HY with ⟨nY, wY⟩ | ⟨j, j0, j1, j2, j3, wY⟩
        · exfalso
          have hm := g3.mem_iff.mp (pq_L_in (tk := tk) (tv := tv) (b := 40 * s) i1)
          rw [i2, i3] at hm
          obtain ⟨j, a1, a2, a3⟩ := pq_L_mem _ _ hm
          refine nY (j - 40 * s) (by omega) (by omega) ?_
          rw [show 40 * s + (j - 40 * s) = j by omega]
          exact ⟨(congrArg Prod.fst a3).symm, (congrArg Prod.snd a3).symm⟩
        · refine ⟨n + 1, wX _ ?_⟩
          unfold wpY_retract
          dsimp only
          refine hY _ _ (br_t rfl (hY' _ _ (br_t rfl ⟨n + 1, wY _ ⟨rfl, ?_⟩⟩)))
          exact ⟨rc, _, _, _, cm, rk, rp, rs, rl, rg, yp, ys, yl, yg, _, _, _, rfl, rfl, K.1, pq_retr hs b i1 j1 g1 g2 g3 g4 i2 i3 j2 j3 K.2.1, K.2.2⟩
    · refine hX' _ (br_t rfl ?_)
      unfold wpY_retract
      dsimp only
      refine hY _ _ (br_t rfl ?_)
      exact hY' _ _ (br_f (by decide) ⟨rfl, ⟨rc, tk, tv, hc, cm, rk, rp, rs, rl, rg, yp, ys, yl, yg, yc, yk, yv, rfl, rfl, K⟩⟩)
  · unfold wpX_retract
    dsimp only
    refine hX _ (br_t rfl ?_)
    unfold wpY_retract
    dsimp only
    exact hY _ _ (br_f (by decide) ⟨rfl, ⟨rc, tk, tv, hc, cm, rk, rp, rs, rl, rg, yp, ys, yl, yg, yc, yk, yv, rfl, rfl, K⟩⟩)
