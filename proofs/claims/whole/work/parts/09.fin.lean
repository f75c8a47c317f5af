theorem xq_pr {post : SX → Prop} {tk tv hc cm rk rp rs rl rg : Nat → Int32} {m m0 m1 : Nat} {key : Int32} (hm : m < 16) (h0 : hc 0 = nI m0) (b0 : m0 ≤ 40) (h1 : hc 1 = nI m1) (b1 : m1 ≤ 40) (hp : post (nI (m + 1), tk, tv, hc, cm, upd rk m key, upd rp m (nI (pq_n key (pq_L tk tv 0 m0)) * nI (pq_n key (pq_L tk tv 40 m1))), upd rs m (pq_sm (pq_v key) (pq_L tk tv 0 m0) * pq_sm (pq_v key) (pq_L tk tv 40 m1)), upd rl m (pq_MIo key (pq_L tk tv 40 m1) 10000 (pq_L tk tv 0 m0)), upd rg m (pq_MAo key (pq_L tk tv 40 m1) (-10000) (pq_L tk tv 0 m0)))) : wpX_putResult post (nI m, tk, tv, hc, cm, rk, rp, rs, rl, rg) key := by
  have hI : vp_in (nI m) 16 := vp_in_nI hm (by decide)
  unfold wpX_putResult
  dsimp only
  rw [nI_clamp (n := m) (by omega)]
  refine br_t (nI_lt (b := 16) hm (by decide)) ⟨hI, nm_e ?_⟩
  refine xq_cp h0 b0 h1 b1 ⟨hI, nm_e ?_⟩
  refine xq_sp h0 b0 h1 b1 ⟨hI, nm_e ?_⟩
  refine xq_MI h0 b0 h1 b1 ⟨hI, nm_e ?_⟩
  refine xq_MA h0 b0 h1 b1 ⟨hI, nm_e (nm_r (nI_1 m) ?_)⟩
  exact hp
/-- a key is finished on both sides -/
theorem pq_fin {tk tv hc cm rk rp rs rl rg yc yk yv : Nat → Int32} {yp ys yl yg : Int32} {m : Nat} {key : Int32} (hm : m < 16) (hf : m + 1 ≤ pq_fc cm 16) (hS : ∀ s, s < 2 → pq_St tk tv hc yk yv yc s) (hb : ∀ j, cm j = 0 ∨ cm j = 1) : ∃ (u : SX) (v : SY), pq_RR u v ∧ (∀ post : SX → Prop, post u → wpX_finishKey post (nI m, tk, tv, hc, cm, rk, rp, rs, rl, rg) key) ∧ (∀ post : SY → Prop, post v → wpY_finish post (nI m, yp, ys, yl, yg, yc, yk, yv, cm, rk, rp, rs, rl, rg) key) := by
  obtain ⟨n, b, g1, g2, g3, g4⟩ := hS 0 (by decide)
  obtain ⟨n', b', f1, f2, f3, f4⟩ := hS 1 (by decide)
  rw [show 40 * 0 = 0 from rfl] at g3 g4
  rw [show 40 * 1 = 40 from rfl] at f3 f4
  obtain ⟨q0, q1, tk', tv', a1, a2, a3, a4, wX⟩ := xq_d2 key tk tv hc g1 b f1 b'
  obtain ⟨c0, c1, yc2, yk2, yv2, d1, d2, d3, d4, wY⟩ := yq_d2 key yc yk yv g2 b f2 b'
  have E1 : nI (pq_n key (pq_L yk yv 0 n)) * nI (pq_n key (pq_L yk yv 40 n')) = nI (pq_n key (pq_L tk tv 0 n)) * nI (pq_n key (pq_L tk tv 40 n')) := by
    rw [pq_n_perm _ g3, pq_n_perm _ f3]
  have E2 : pq_sm (pq_v key) (pq_L yk yv 0 n) * pq_sm (pq_v key) (pq_L yk yv 40 n') = pq_sm (pq_v key) (pq_L tk tv 0 n) * pq_sm (pq_v key) (pq_L tk tv 40 n') := by
    rw [pq_sm_perm _ g3, pq_sm_perm _ f3]
  have E3 : pq_MIo key (pq_L yk yv 40 n') 10000 (pq_L yk yv 0 n) = pq_MIo key (pq_L tk tv 40 n') 10000 (pq_L tk tv 0 n) :=
    (pq_MI_u g3 f3 (pq_MIo_MI g4 f4) (pq_MIo_MI (fun a ha => g4 a (g3.mem_iff.mpr ha)) (fun a ha => f4 a (f3.mem_iff.mpr ha)))).symm
  have E4 : pq_MAo key (pq_L yk yv 40 n') (-10000) (pq_L yk yv 0 n) = pq_MAo key (pq_L tk tv 40 n') (-10000) (pq_L tk tv 0 n) :=
    (pq_MA_u g3 f3 (pq_MAo_MI g4 f4) (pq_MAo_MI (fun a ha => g4 a (g3.mem_iff.mpr ha)) (fun a ha => f4 a (f3.mem_iff.mpr ha)))).symm
  have P0 : List.Perm (pq_L tk' tv' 0 q0) (pq_L yk2 yv2 0 c0) := by
    rw [a3, d3]; exact pq_fl_perm key g3
  have P1 : List.Perm (pq_L tk' tv' 40 q1) (pq_L yk2 yv2 40 c1) := by
    rw [a4, d4]; exact pq_fl_perm key f3
  have l0 : q0 = c0 := by
    have h := P0.length_eq
    rw [pq_L_len, pq_L_len] at h
    exact h
  have l1 : q1 = c1 := by
    have h := P1.length_eq
    rw [pq_L_len, pq_L_len] at h
    exact h
  subst l0
  subst l1
  have hS' : ∀ s, s < 2 → pq_St tk' tv' (upd (upd hc 0 (nI q0)) 1 (nI q1)) yk2 yv2 yc2 s := by
    intro s hs
    obtain rfl | rfl : s = 0 ∨ s = 1 := by omega
    · refine ⟨q0, a1, ?_, d1, P0, fun p hp => g4 p (pq_fl_mem (a3 ▸ hp))⟩
      rw [pk_un (by decide), pk_us]
    · exact ⟨q1, a2, pk_us, d2, P1, fun p hp => f4 p (pq_fl_mem (a4 ▸ hp))⟩
  by_cases e : nI (pq_n key (pq_L tk tv 0 n)) * nI (pq_n key (pq_L tk tv 40 n')) ≤ 0
  · refine ⟨(nI m, tk', tv', upd (upd hc 0 (nI q0)) 1 (nI q1), cm, rk, rp, rs, rl, rg), (nI m, nI (pq_n key (pq_L tk tv 0 n)) * nI (pq_n key (pq_L tk tv 40 n')), pq_sm (pq_v key) (pq_L tk tv 0 n) * pq_sm (pq_v key) (pq_L tk tv 40 n'), pq_MIo key (pq_L tk tv 40 n') 10000 (pq_L tk tv 0 n), pq_MAo key (pq_L tk tv 40 n') (-10000) (pq_L tk tv 0 n), yc2, yk2, yv2, cm, rk, rp, rs, rl, rg), ?_, fun post hp => ?_, fun post hp => ?_⟩
    · exact ⟨_, _, _, _, _, _, _, _, _, _, _, _, _, _, _, _, _, rfl, rfl, ⟨m, rfl, by omega⟩, hS', hb⟩
    · unfold wpX_finishKey
      dsimp only
      refine xq_cp g1 b f1 b' (br_t e ?_)
      exact wX post _ cm rk rp rs rl rg hp
    · unfold wpY_finish
      dsimp only
      refine yq_lk g2 b f2 b' ?_
      rw [E1, E2, E3, E4]
      refine br_t e ?_
      exact wY post _ _ _ _ _ cm rk rp rs rl rg hp
  · refine ⟨(nI (m + 1), tk', tv', upd (upd hc 0 (nI q0)) 1 (nI q1), cm, upd rk m key, upd rp m (nI (pq_n key (pq_L tk tv 0 n)) * nI (pq_n key (pq_L tk tv 40 n'))), upd rs m (pq_sm (pq_v key) (pq_L tk tv 0 n) * pq_sm (pq_v key) (pq_L tk tv 40 n')), upd rl m (pq_MIo key (pq_L tk tv 40 n') 10000 (pq_L tk tv 0 n)), upd rg m (pq_MAo key (pq_L tk tv 40 n') (-10000) (pq_L tk tv 0 n))), (nI (m + 1), nI (pq_n key (pq_L tk tv 0 n)) * nI (pq_n key (pq_L tk tv 40 n')), pq_sm (pq_v key) (pq_L tk tv 0 n) * pq_sm (pq_v key) (pq_L tk tv 40 n'), pq_MIo key (pq_L tk tv 40 n') 10000 (pq_L tk tv 0 n), pq_MAo key (pq_L tk tv 40 n') (-10000) (pq_L tk tv 0 n), yc2, yk2, yv2, cm, upd rk m key, upd rp m (nI (pq_n key (pq_L tk tv 0 n)) * nI (pq_n key (pq_L tk tv 40 n'))), upd rs m (pq_sm (pq_v key) (pq_L tk tv 0 n) * pq_sm (pq_v key) (pq_L tk tv 40 n')), upd rl m (pq_MIo key (pq_L tk tv 40 n') 10000 (pq_L tk tv 0 n)), upd rg m (pq_MAo key (pq_L tk tv 40 n') (-10000) (pq_L tk tv 0 n))), ?_, fun post hp => ?_, fun post hp => ?_⟩
    · exact ⟨_, _, _, _, _, _, _, _, _, _, _, _, _, _, _, _, _, rfl, rfl, ⟨m + 1, rfl, hf⟩, hS', hb⟩
    · unfold wpX_finishKey
      dsimp only
      refine xq_cp g1 b f1 b' (br_f e ?_)
      refine xq_pr hm g1 b f1 b' ?_
      exact wX post _ cm _ _ _ _ _ hp
    · have hI : vp_in (nI m) 16 := vp_in_nI hm (by decide)
      unfold wpY_finish
      dsimp only
      refine yq_lk g2 b f2 b' ?_
      rw [E1, E2, E3, E4]
      refine br_f e (br_f (nI_ge (b := 16) hm (by decide)) ?_)
      rw [nI_clamp (n := m) (by omega)]
      refine ⟨hI, nm_e ⟨hI, nm_e ⟨hI, nm_e ⟨hI, nm_e ⟨hI, nm_e (nm_r (nI_1 m) ?_)⟩⟩⟩⟩⟩
      exact wY post _ _ _ _ _ cm _ _ _ _ _ hp
