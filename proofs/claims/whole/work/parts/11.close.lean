theorem i_vc_close {k : Nat} {u : SX} {v : SY} (I : i_Rel k u v) (hk : k + 4 ≤ 2048) (v1 : Int32) (v2 : Int32) (v3 : Int32) : wpX_close (fun r u' => wpY_close (fun r' v' => r' = r ∧ i_Rel (k + 4) u' v') v v1 v2 v3) u v1 v2 v3 := by
  obtain ⟨rc, tk, tv, hc, cm, rk, rp, rs, rl, rg, yp, ys, yl, yg, yc, yk, yv, rfl, rfl, K⟩ := I
  rcases pq_str v1 with ⟨s, hs, rfl, hX, hY⟩ | ⟨hX, hY⟩
  · unfold wpX_close
    dsimp only
    refine hX _ (br_f (by decide) ?_)
    by_cases c1 : v2 < 0
    · refine br_t c1 ?_
      unfold wpY_close
      dsimp only
      exact hY _ _ (br_t rfl (br_t c1 ⟨rfl, ⟨rc, tk, tv, hc, cm, rk, rp, rs, rl, rg, yp, ys, yl, yg, yc, yk, yv, rfl, rfl, K⟩⟩))
    · refine br_f c1 ?_
      by_cases c2 : v3 < v2
      · refine br_t c2 ?_
        unfold wpY_close
        dsimp only
        exact hY _ _ (br_t rfl (br_f c1 (br_t c2 ⟨rfl, ⟨rc, tk, tv, hc, cm, rk, rp, rs, rl, rg, yp, ys, yl, yg, yc, yk, yv, rfl, rfl, K⟩⟩)))
      · refine br_f c2 ?_
        obtain ⟨f, hf, rfl⟩ := nI_of c1
        have c0 : ¬ v3 < 0 := fun z => absurd (Int32.lt_of_le_of_lt (Int32.not_lt.mp c2) z) c1
        obtain ⟨l, hl, rfl⟩ := nI_of c0
        have hfl : f ≤ l := by
          have h := Int32.not_lt.mp c2
          rw [nI_leI hf hl] at h
          exact h
        by_cases c3 : l < 16
        · refine br_t (nI_lt (b := 16) c3 (by decide)) ?_
          obtain ⟨r, u', v', R', wX, wY⟩ := pq_loop hs c3 (l + 1 - f) f 0 _ _ (by omega) (show pq_RR (rc, tk, tv, hc, cm, rk, rp, rs, rl, rg) (rc, yp, ys, yl, yg, yc, yk, yv, cm, rk, rp, rs, rl, rg) from ⟨rc, tk, tv, hc, cm, rk, rp, rs, rl, rg, yp, ys, yl, yg, yc, yk, yv, rfl, rfl, K⟩)
          refine ⟨_, wX _ ?_⟩
          unfold wpY_close
          dsimp only
          refine hY _ _ (br_t rfl (br_f c1 (br_f c2 (br_t (nI_le (b := 15) (by omega) (by decide)) ⟨_, wY _ ?_⟩))))
          exact ⟨rfl, R'⟩
        · refine br_f (nI_nlt (b := 16) (by omega) hl) ?_
          unfold wpY_close
          dsimp only
          exact hY _ _ (br_t rfl (br_f c1 (br_f c2 (br_f (nI_ge (a := 15) (by omega) hl) ⟨rfl, ⟨rc, tk, tv, hc, cm, rk, rp, rs, rl, rg, yp, ys, yl, yg, yc, yk, yv, rfl, rfl, K⟩⟩))))
  · unfold wpX_close
    dsimp only
    refine hX _ (br_t rfl ?_)
    unfold wpY_close
    dsimp only
    exact hY _ _ (br_f (by decide) ⟨rfl, ⟨rc, tk, tv, hc, cm, rk, rp, rs, rl, rg, yp, ys, yl, yg, yc, yk, yv, rfl, rfl, K⟩⟩)
