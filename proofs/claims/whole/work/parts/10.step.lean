/-- the loop of close, its state as one tuple -/
def xq_C (post : Int32 → SX → Prop) (s l : Int32) (n : Nat) (x k : Int32) (u : SX) : Prop := match u with
  | (rc, tk, tv, hc, cm, rk, rp, rs, rl, rg) => wX_close_33 post s l n x k rc tk tv hc cm rk rp rs rl rg
def yq_C (post : Int32 → SY → Prop) (s l : Int32) (n : Nat) (x k : Int32) (v : SY) : Prop := match v with
  | (rc, yp, ys, yl, yg, yc, yk, yv, cm, rk, rp, rs, rl, rg) => wY_close_34 post s l n x k rc yp ys yl yg yc yk yv cm rk rp rs rl rg
theorem pq_upd_id {f : Nat → Int32} {k : Nat} {x : Int32} (h : f k = x) : upd f k x = f := by
  funext j
  by_cases e : j = k
  · rw [e, pk_us, h]
  · rw [pk_un e]
theorem pq_nar1 : vp_nar .boolean 1 = 1 := rfl
theorem pq_fi_0 {cm : Nat → Int32} {s k : Nat} (hs : s < 2) (h : cm (16 * s + k) = 0) : pq_fi cm k = 0 ∧ (cm k = 0 ∨ cm (16 + k) = 0) := by
  unfold pq_fi
  obtain rfl | rfl : s = 0 ∨ s = 1 := by omega
  · rw [show 16 * 0 + k = k by omega] at h
    rw [if_pos h]
    exact ⟨rfl, Or.inl h⟩
  · rw [show 16 * 1 + k = 16 + k by omega] at h
    refine ⟨?_, Or.inr h⟩
    rw [if_pos h]
    by_cases e : cm k = 0
    · rw [if_pos e]
    · rw [if_neg e]
theorem pq_fi_1 {cm : Nat → Int32} {k : Nat} (h : ¬ pq_fi cm k = 0) : ¬ cm k = 0 ∧ ¬ cm (16 + k) = 0 := by
  unfold pq_fi at h
  by_cases e : cm k = 0
  · rw [if_pos e] at h; exact absurd rfl h
  · rw [if_neg e] at h
    by_cases e' : cm (16 + k) = 0
    · rw [if_pos e'] at h; exact absurd rfl h
    · exact ⟨e, e'⟩
theorem pq_step {s k l : Nat} (hs : s < 2) (hl : k ≤ l) (h16 : l < 16) {u : SX} {v : SY} (R : pq_RR u v) (x : Int32) : ∃ (x' : Int32) (u' : SX) (v' : SY), pq_RR u' v' ∧ (∀ (post : Int32 → SX → Prop) (n : Nat), xq_C post (nI s) (nI l) n x' (nI (k + 1)) u' → xq_C post (nI s) (nI l) (n + 1) x (nI k) u) ∧ (∀ (post : Int32 → SY → Prop) (n : Nat), yq_C post (nI s) (nI l) n x' (nI (k + 1)) v' → yq_C post (nI s) (nI l) (n + 1) x (nI k) v) := by
  obtain ⟨rc, tk, tv, hc, cm, rk, rp, rs, rl, rg, yp, ys, yl, yg, yc, yk, yv, rfl, rfl, K⟩ := R
  have hn : ¬ (nI l < nI k) := nI_nlt hl (by omega)
  have hI : vp_in (nI (16 * s + k)) 32 := vp_in_nI (by omega) (by decide)
  have eI : (nI (16 * s + k)).toNatClampNeg = 16 * s + k := nI_clamp (by omega)
  by_cases e : cm (16 * s + k) = 0
  · have hb' : ∀ j, upd cm (16 * s + k) 1 j = 0 ∨ upd cm (16 * s + k) 1 j = 1 := by
      intro j
      by_cases ej : j = 16 * s + k
      · rw [ej, pk_us]; exact Or.inr rfl
      · rw [pk_un ej]; exact K.2.2 j
    have f0 := pq_fi_0 hs e
    have mono := pq_upd_mono (c := cm) (k := 16 * s + k) (x := 1) (by decide)
    obtain ⟨m, hrc, hm⟩ := K.1
    subst hrc
    by_cases f : pq_fi (upd cm (16 * s + k) 1) k = 0
    · refine ⟨x, (nI m, tk, tv, hc, upd cm (16 * s + k) 1, rk, rp, rs, rl, rg), (nI m, yp, ys, yl, yg, yc, yk, yv, upd cm (16 * s + k) 1, rk, rp, rs, rl, rg), ?_, fun post n hp => ?_, fun post n hp => ?_⟩
      · exact ⟨_, _, _, _, _, _, _, _, _, _, _, _, _, _, _, _, _, rfl, rfl, ⟨m, rfl, Nat.le_trans hm (pq_fc_mono mono 16)⟩, K.2.1, hb'⟩
      · refine br_f hn ?_
        refine xq_cl hs (by omega) K.2.2 ?_
        refine br_t e ?_
        rw [xq_16, eI, pq_nar1]
        refine ⟨hI, nm_e ?_⟩
        refine xq_fi (by omega) hb' ?_
        exact br_t f (nm_r (nI_1 k) hp)
      · refine br_f hn ?_
        refine yq_fi (by omega) ?_
        rw [yq_16, eI, pq_nar1]
        refine ⟨hI, nm_e ?_⟩
        refine br_t f0.1 ?_
        refine yq_fi (by omega) ?_
        exact br_t f (nm_r (nI_1 k) hp)
    · have f1 := pq_fi_1 f
      have hf : m + 1 ≤ pq_fc (upd cm (16 * s + k) 1) 16 :=
        Nat.le_trans (Nat.add_le_add_right hm 1) (pq_fc_new mono f0.2 f1.1 f1.2 16 (by omega))
      have hm16 : m < 16 := Nat.lt_of_lt_of_le (Nat.lt_of_succ_le hf) (pq_fc_le _ 16)
      obtain ⟨u', v', R', wX, wY⟩ := pq_fin (rk := rk) (rp := rp) (rs := rs) (rl := rl) (rg := rg) (yp := yp) (ys := ys) (yl := yl) (yg := yg) (key := nI k) hm16 hf K.2.1 hb'
      refine ⟨x + 1, u', v', R', fun post n hp => ?_, fun post n hp => ?_⟩
      · refine br_f hn ?_
        refine xq_cl hs (by omega) K.2.2 ?_
        refine br_t e ?_
        rw [xq_16, eI, pq_nar1]
        refine ⟨hI, nm_e ?_⟩
        refine xq_fi (by omega) hb' ?_
        refine br_f f (wX _ ?_)
        obtain ⟨a1, a2, a3, a4, a5, a6, a7, a8, a9, a10⟩ := u'
        exact nm_e (nm_r (nI_1 k) hp)
      · refine br_f hn ?_
        refine yq_fi (by omega) ?_
        rw [yq_16, eI, pq_nar1]
        refine ⟨hI, nm_e ?_⟩
        refine br_t f0.1 ?_
        refine yq_fi (by omega) ?_
        refine br_f f (wY _ ?_)
        obtain ⟨a1, a2, a3, a4, a5, a6, a7, a8, a9, a10, a11, a12, a13, a14⟩ := v'
        exact nm_e (nm_r (nI_1 k) hp)
  · have e1 : upd cm (16 * s + k) 1 = cm := by
      refine pq_upd_id ?_
      rcases K.2.2 (16 * s + k) with h | h
      · exact absurd h e
      · exact h
    refine ⟨x, (rc, tk, tv, hc, cm, rk, rp, rs, rl, rg), (rc, yp, ys, yl, yg, yc, yk, yv, cm, rk, rp, rs, rl, rg), ?_, fun post n hp => ?_, fun post n hp => ?_⟩
    · exact ⟨rc, tk, tv, hc, cm, rk, rp, rs, rl, rg, yp, ys, yl, yg, yc, yk, yv, rfl, rfl, K⟩
    · refine br_f hn ?_
      refine xq_cl hs (by omega) K.2.2 ?_
      exact br_f e (nm_r (nI_1 k) hp)
    · refine br_f hn ?_
      refine yq_fi (by omega) ?_
      rw [yq_16, eI, pq_nar1]
      refine ⟨hI, nm_r e1 ?_⟩
      by_cases f : pq_fi cm k = 0
      · refine br_t f ?_
        refine yq_fi (by omega) ?_
        exact br_t f (nm_r (nI_1 k) hp)
      · exact br_f f (nm_r (nI_1 k) hp)
theorem pq_loop {s l : Nat} (hs : s < 2) (h16 : l < 16) : ∀ (d k : Nat) (x : Int32) (u : SX) (v : SY), k + d = l + 1 → pq_RR u v → ∃ (r : Int32) (u' : SX) (v' : SY), pq_RR u' v' ∧ (∀ post : Int32 → SX → Prop, post r u' → xq_C post (nI s) (nI l) (d + 1) x (nI k) u) ∧ (∀ post : Int32 → SY → Prop, post r v' → yq_C post (nI s) (nI l) (d + 1) x (nI k) v) := by
  intro d
  induction d with
  | zero =>
    intro k x u v hk R
    have h : nI l < nI k := nI_lt (by omega) (by omega)
    refine ⟨x, u, v, R, fun post hp => ?_, fun post hp => ?_⟩
    · obtain ⟨a1, a2, a3, a4, a5, a6, a7, a8, a9, a10⟩ := u
      exact br_t h hp
    · obtain ⟨a1, a2, a3, a4, a5, a6, a7, a8, a9, a10, a11, a12, a13, a14⟩ := v
      exact br_t h hp
  | succ d ih =>
    intro k x u v hk R
    obtain ⟨x', u', v', R', wX, wY⟩ := pq_step (k := k) (l := l) hs (by omega) h16 R x
    obtain ⟨r, u2, v2, R2, hX, hY⟩ := ih (k + 1) x' u' v' (by omega) R'
    exact ⟨r, u2, v2, R2, fun post hp => wX post _ (hX post hp), fun post hp => wY post _ (hY post hp)⟩
