variable {H m : Nat} {h t al sw ld : Int32} {tg bs ln vl ow st rt rb rl ra : Nat → Int32}

theorem rq_fin55 {k n : Nat} {r v1 : Int32} (h8 : 8 ≤ H) (h64 : H ≤ 64) (hm : m ≤ k) (hk : k + 5 ≤ 2562) (W : rq_WF H m ow st) (w : vp_in v1 8) (R : rq_FF st H n r) :
    ∃ (r2 : Int32) (u2 : SX), i_Rel (k + 5) u2 u2 ∧ (∀ post : Int32 → SX → Prop, post r2 u2 → wX_alloc_55 post v1 (nI n) r (nI H) t (nI m) sw ld tg bs ln vl ow st rt rb rl ra) ∧
      (∀ post : Int32 → SY → Prop, post r2 u2 → wY_alloc_55 post v1 (nI n) r (nI H) t (nI m) sw ld tg bs ln vl ow st rt rb rl ra) := by
  rcases R with ⟨a, rfl, ha, fr, _⟩ | ⟨rfl, _⟩
  · have n1 : ¬ nI a = -1 := by
      intro q
      have q2 : (nI a).toInt = (-1 : Int32).toInt := by rw [q]
      rw [nI_toInt (by omega), show (-1 : Int32).toInt = -1 by decide] at q2
      omega
    refine ⟨nI a, _, rq_mk (m := m + 1) (t := t) (sw := sw) (ld := ld) (tg := (rq_fold (rq_kS a (nI (m + 1))) (tg, bs, ln, vl, ow, st) n).1) (bs := (rq_fold (rq_kS a (nI (m + 1))) (tg, bs, ln, vl, ow, st) n).2.1) (ln := (rq_fold (rq_kS a (nI (m + 1))) (tg, bs, ln, vl, ow, st) n).2.2.1) (vl := (rq_fold (rq_kS a (nI (m + 1))) (tg, bs, ln, vl, ow, st) n).2.2.2.1)
      (rt := upd rt v1.toNatClampNeg (vp_nar .boolean 1)) (rb := upd rb v1.toNatClampNeg (nI a)) (rl := upd rl v1.toNatClampNeg (nI n)) (ra := upd ra v1.toNatClampNeg (nI a)) h8 h64 (by omega) (rq_WF_K (tg := tg) (bs := bs) (ln := ln) (vl := vl) W (by omega) fr ha), fun post p => ?_, fun post p => ?_⟩
    · refine br_f n1 (nm_r (nI_1 m) ?_)
      refine xq_claim (by omega) (fun z hz => ?_)
      subst hz
      exact xq_setR w p
    · refine br_t (nI_pos' (by omega)) (nm_r (nI_1 m) ?_)
      refine yq_claim w (by omega) (fun z hz => ?_)
      subst hz
      exact p
  · exact ⟨-3, _, rq_mk h8 h64 (by omega) W, fun post p => br_t rfl p, fun post p => br_f (by decide) p⟩
theorem i_vc_alloc {k : Nat} {u : SX} {v : SY} (I : i_Rel k u v) (hk : k + 5 ≤ 2562) (v1 : Int32) (v2 : Int32) : wpX_alloc (fun r u' => wpY_alloc (fun r' v' => r' = r ∧ i_Rel (k + 5) u' v') v v1 v2) u v1 v2 := by
  obtain ⟨H, m, t, sw, ld, tg, bs, ln, vl, ow, st, rt, rb, rl, ra, h8, h64, hm, W, rfl, rfl⟩ := I
  rcases rq_rd v1 with b | g
  · unfold wpX_alloc
    refine xq_bad b (br_t rfl ?_)
    show wpY_alloc _ _ _ _
    unfold wpY_alloc
    exact yq_bad b (br_f rq_d ⟨rfl, rq_mk h8 h64 (by omega) W⟩)
  have w := g.2.2.2
  by_cases a : v2 < 1
  · unfold wpX_alloc
    refine xq_good g (br_f rq_d (br_t a ?_))
    show wpY_alloc _ _ _ _
    unfold wpY_alloc
    exact yq_good g (br_t rfl (br_t a ⟨rfl, rq_mk h8 h64 (by omega) W⟩))
  rcases Classical.em (v2 ≤ nI H) with c | c
  rotate_left
  · unfold wpX_alloc
    refine xq_good g (br_f rq_d (br_f a (br_f c ?_)))
    show wpY_alloc _ _ _ _
    unfold wpY_alloc
    exact yq_good g (br_t rfl (br_f a (br_f c ⟨rfl, rq_mk h8 h64 (by omega) W⟩)))
  have ex : ∃ n : Nat, 1 ≤ n ∧ n ≤ H ∧ v2 = nI n := by
    have a' := rq_ge a
    rw [Int32.le_iff_toInt_le, rq_i1] at a'
    have n0 : ¬ v2 < 0 := by rw [Int32.lt_iff_toInt_lt, rq_i0]; omega
    obtain ⟨n, hn, rfl⟩ := nI_of n0
    rw [nI_toInt hn] at a'
    exact ⟨n, by omega, (nI_leI hn (by omega)).mp c, rfl⟩
  obtain ⟨n, hn, hnH, rfl⟩ := ex
  unfold wpX_alloc
  refine xq_good g (br_f rq_d (br_f a (br_t c (xq_ff h64 hn hnH (fun r R => ?_)))))
  by_cases hr : r = -1
  · have hr0 : ¬ 0 ≤ r := by rw [hr]; decide
    refine br_t hr (xq_cntS h64 ?_)
    by_cases hc : rq_fold (rq_cS st 2) 0 H ≤ 0
    · obtain ⟨r2, u2, S, X, Y⟩ := rq_fin55 (t := t) (sw := sw) (ld := ld) (tg := tg) (bs := bs) (ln := ln) (vl := vl) (rt := rt) (rb := rb) (rl := rl) (ra := ra) h8 h64 hm hk W w R
      refine br_t hc (X _ ?_)
      show wpY_alloc _ _ _ _
      unfold wpY_alloc
      refine yq_good g (br_t rfl (br_f a (br_t c (yq_ff h64 hn hnH (fun r' R' => ?_)))))
      have q := rq_FF_u R R'
      subst q
      exact br_f hr0 (yq_cntS h64 (br_t hc (Y _ ⟨rfl, S⟩)))
    · refine br_f hc (xq_sweep h64 (fun z hz => ?_))
      subst hz
      refine xq_ff h64 hn hnH (fun r2 R2 => ?_)
      obtain ⟨r3, u3, S, X, Y⟩ := rq_fin55 (t := t) (sw := sw + 1) (ld := ld) (tg := (rq_Z H st tg bs ln vl ow).1) (bs := (rq_Z H st tg bs ln vl ow).2.1) (ln := (rq_Z H st tg bs ln vl ow).2.2.1) (vl := (rq_Z H st tg bs ln vl ow).2.2.2.1) (rt := (rq_R H st rt rb).1) (rb := rb) (rl := rl) (ra := ra) h8 h64 hm hk (rq_WF_Z W) w R2
      refine X _ ?_
      show wpY_alloc _ _ _ _
      unfold wpY_alloc
      refine yq_good g (br_t rfl (br_f a (br_t c (yq_ff h64 hn hnH (fun r' R' => ?_)))))
      have q := rq_FF_u R R'
      subst q
      refine br_f hr0 (yq_cntS h64 (br_f hc (yq_sweep h64 (fun z2 hz2 => ?_))))
      subst hz2
      refine yq_ff h64 hn hnH (fun r4 R4 => ?_)
      have q := rq_FF_u R2 R4
      subst q
      exact Y _ ⟨rfl, S⟩
  · have hr0 : 0 ≤ r := by
      rcases R with ⟨a, rfl, ha, _, _⟩ | ⟨e, _⟩
      · exact nI_pos' (by omega)
      · exact absurd e hr
    obtain ⟨r2, u2, S, X, Y⟩ := rq_fin55 (t := t) (sw := sw) (ld := ld) (tg := tg) (bs := bs) (ln := ln) (vl := vl) (rt := rt) (rb := rb) (rl := rl) (ra := ra) h8 h64 hm hk W w R
    refine br_f hr (X _ ?_)
    show wpY_alloc _ _ _ _
    unfold wpY_alloc
    refine yq_good g (br_t rfl (br_f a (br_t c (yq_ff h64 hn hnH (fun r' R' => ?_)))))
    have q := rq_FF_u R R'
    subst q
    exact br_t hr0 (Y _ ⟨rfl, S⟩)
