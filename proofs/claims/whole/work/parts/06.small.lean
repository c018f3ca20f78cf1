theorem i_vc_sweep {k : Nat} {u : SX} {v : SY} (I : i_Rel k u v) (hk : k + 5 ≤ 2562) : wpX_sweep (fun r u' => wpY_sweep (fun r' v' => r' = r ∧ i_Rel (k + 5) u' v') v) u := by
  obtain ⟨H, m, t, sw, ld, tg, bs, ln, vl, ow, st, rt, rb, rl, ra, h8, h64, hm, W, rfl, rfl⟩ := I
  unfold wpX_sweep
  refine xq_sweep h64 (fun z hz => ?_)
  show wpY_sweep _ _
  unfold wpY_sweep
  refine yq_sweep h64 (fun z2 hz2 => ⟨rfl, ?_⟩)
  subst hz hz2
  exact rq_mk h8 h64 (by omega) (rq_WF_Z W)
theorem i_vc_move {k : Nat} {u : SX} {v : SY} (I : i_Rel k u v) (hk : k + 5 ≤ 2562) (v1 : Int32) (v2 : Int32) : wpX_move (fun r u' => wpY_move (fun r' v' => r' = r ∧ i_Rel (k + 5) u' v') v v1 v2) u v1 v2 := by
  obtain ⟨H, m, t, sw, ld, tg, bs, ln, vl, ow, st, rt, rb, rl, ra, h8, h64, hm, W, rfl, rfl⟩ := I
  rcases rq_rd v1 with b | g
  · unfold wpX_move
    refine xq_bad b (br_t rfl ?_)
    show wpY_move _ _ _ _
    unfold wpY_move
    exact yq_bad b (br_f rq_d ⟨rfl, rq_mk h8 h64 (by omega) W⟩)
  · rcases rq_rd v2 with b | g2
    · unfold wpX_move
      refine xq_good g (br_f rq_d (xq_bad b (br_t rfl ?_)))
      show wpY_move _ _ _ _
      unfold wpY_move
      exact yq_good g (br_t rfl (yq_bad b (br_f rq_d ⟨rfl, rq_mk h8 h64 (by omega) W⟩)))
    · unfold wpX_move
      refine xq_good g (br_f rq_d (xq_good g2 (br_f rq_d ⟨g2.2.2.2, g2.2.2.2, g2.2.2.2, g2.2.2.2, xq_setR g.2.2.2 ?_⟩)))
      show wpY_move _ _ _ _
      unfold wpY_move
      exact yq_good g (br_t rfl (yq_good g2 (br_t rfl ⟨g2.2.2.2, g.2.2.2, nm_e ⟨g2.2.2.2, g.2.2.2, nm_e ⟨g2.2.2.2, g.2.2.2, nm_e ⟨g2.2.2.2, g.2.2.2, nm_e ⟨rfl, rq_mk h8 h64 (by omega) W⟩⟩⟩⟩⟩)))
theorem i_vc_restrict {k : Nat} {u : SX} {v : SY} (I : i_Rel k u v) (hk : k + 5 ≤ 2562) (v1 : Int32) (v2 : Int32) (v3 : Int32) (v4 : Int32) : wpX_restrict (fun r u' => wpY_restrict (fun r' v' => r' = r ∧ i_Rel (k + 5) u' v') v v1 v2 v3 v4) u v1 v2 v3 v4 := by
  obtain ⟨H, m, t, sw, ld, tg, bs, ln, vl, ow, st, rt, rb, rl, ra, h8, h64, hm, W, rfl, rfl⟩ := I
  rcases rq_rd v1 with b | g
  · unfold wpX_restrict
    refine xq_bad b (br_t rfl ?_)
    show wpY_restrict _ _ _ _ _ _
    unfold wpY_restrict
    exact yq_bad b (br_f rq_d ⟨rfl, rq_mk h8 h64 (by omega) W⟩)
  · rcases rq_rd v2 with b | g2
    · unfold wpX_restrict
      refine xq_good g (br_f rq_d (xq_bad b (br_t rfl ?_)))
      show wpY_restrict _ _ _ _ _ _
      unfold wpY_restrict
      exact yq_good g (br_t rfl (yq_bad b (br_f rq_d ⟨rfl, rq_mk h8 h64 (by omega) W⟩)))
    · have w := g.2.2.2
      have w2 := g2.2.2.2
      by_cases z : rt v2.toNatClampNeg = 0
      · unfold wpX_restrict
        refine xq_good g (br_f rq_d (xq_good g2 (br_f rq_d ⟨w2, br_t z ?_⟩)))
        show wpY_restrict _ _ _ _ _ _
        unfold wpY_restrict
        exact yq_good g (br_t rfl (yq_good g2 (br_t rfl ⟨w2, br_t z ⟨rfl, rq_mk h8 h64 (by omega) W⟩⟩)))
      · by_cases a : v3 < 0
        · unfold wpX_restrict
          refine xq_good g (br_f rq_d (xq_good g2 (br_f rq_d ⟨w2, br_f z (nm_e (br_t a ?_))⟩)))
          show wpY_restrict _ _ _ _ _ _
          unfold wpY_restrict
          exact yq_good g (br_t rfl (yq_good g2 (br_t rfl ⟨w2, br_f z (br_t a ⟨rfl, rq_mk h8 h64 (by omega) W⟩)⟩)))
        · by_cases c : v4 < 1
          · unfold wpX_restrict
            refine xq_good g (br_f rq_d (xq_good g2 (br_f rq_d ⟨w2, br_f z (nm_e (br_f a (br_t c ?_)))⟩)))
            show wpY_restrict _ _ _ _ _ _
            unfold wpY_restrict
            exact yq_good g (br_t rfl (yq_good g2 (br_t rfl ⟨w2, br_f z (br_f a (br_t c ⟨rfl, rq_mk h8 h64 (by omega) W⟩))⟩)))
          · by_cases d : v3.toInt64 + v4.toInt64 ≤ (rl v2.toNatClampNeg).toInt64
            · unfold wpX_restrict
              refine xq_good g (br_f rq_d (xq_good g2 (br_f rq_d ⟨w2, br_f z (nm_e (br_f a (br_f c ⟨w2, br_t d ⟨w2, nm_e (xq_setR w ?_)⟩⟩)))⟩)))
              show wpY_restrict _ _ _ _ _ _
              unfold wpY_restrict
              exact yq_good g (br_t rfl (yq_good g2 (br_t rfl ⟨w2, br_f z (br_f a (br_f c ⟨w2, br_t d ⟨w2, nm_e ⟨w, nm_e ⟨w, nm_e ⟨w, nm_e ⟨w, nm_e ⟨rfl, rq_mk h8 h64 (by omega) W⟩⟩⟩⟩⟩⟩⟩))⟩)))
            · unfold wpX_restrict
              refine xq_good g (br_f rq_d (xq_good g2 (br_f rq_d ⟨w2, br_f z (nm_e (br_f a (br_f c ⟨w2, br_f d ?_⟩)))⟩)))
              show wpY_restrict _ _ _ _ _ _
              unfold wpY_restrict
              exact yq_good g (br_t rfl (yq_good g2 (br_t rfl ⟨w2, br_f z (br_f a (br_f c ⟨w2, br_f d ⟨rfl, rq_mk h8 h64 (by omega) W⟩⟩))⟩)))
theorem i_vc_addAddr {k : Nat} {u : SX} {v : SY} (I : i_Rel k u v) (hk : k + 5 ≤ 2562) (v1 : Int32) (v2 : Int32) : wpX_addAddr (fun r u' => wpY_addAddr (fun r' v' => r' = r ∧ i_Rel (k + 5) u' v') v v1 v2) u v1 v2 := by
  obtain ⟨H, m, t, sw, ld, tg, bs, ln, vl, ow, st, rt, rb, rl, ra, h8, h64, hm, W, rfl, rfl⟩ := I
  rcases rq_rd v1 with b | g
  · unfold wpX_addAddr
    refine xq_bad b (br_t rfl ?_)
    show wpY_addAddr _ _ _ _
    unfold wpY_addAddr
    exact yq_bad b (br_f rq_d ⟨rfl, rq_mk h8 h64 (by omega) W⟩)
  · unfold wpX_addAddr
    refine xq_good g (br_f rq_d ⟨g.2.2.2, g.2.2.2, nm_e ?_⟩)
    show wpY_addAddr _ _ _ _
    unfold wpY_addAddr
    exact yq_good g (br_t rfl ⟨g.2.2.2, g.2.2.2, nm_e ⟨rfl, rq_mk h8 h64 (by omega) W⟩⟩)
theorem i_vc_storeData {k : Nat} {u : SX} {v : SY} (I : i_Rel k u v) (hk : k + 5 ≤ 2562) (v1 : Int32) (v2 : Int32) : wpX_storeData (fun r u' => wpY_storeData (fun r' v' => r' = r ∧ i_Rel (k + 5) u' v') v v1 v2) u v1 v2 := by
  obtain ⟨H, m, t, sw, ld, tg, bs, ln, vl, ow, st, rt, rb, rl, ra, h8, h64, hm, W, rfl, rfl⟩ := I
  rcases rq_rd v1 with b | g
  · unfold wpX_storeData
    refine xq_bad b (br_t rfl ?_)
    show wpY_storeData _ _ _ _
    unfold wpY_storeData
    exact yq_bad b (br_f rq_d ⟨rfl, rq_mk h8 h64 (by omega) W⟩)
  · have w := g.2.2.2
    rcases rq_acc (t := t) (al := nI m) (sw := sw) (ld := ld) (tg := tg) (bs := bs) (ln := ln) (vl := vl) (ow := ow) (st := st) (rt := rt) (rb := rb) (rl := rl) (ra := ra) h64 w with ⟨f, f0, f1, X, Y⟩ | ⟨wa, a0, X, Y⟩
    · unfold wpX_storeData
      refine xq_good g (br_f rq_d (X _ (br_f f0 ?_)))
      show wpY_storeData _ _ _ _
      unfold wpY_storeData
      exact yq_good g (br_t rfl (Y _ (br_f f1 ⟨rfl, rq_mk h8 h64 (by omega) W⟩)))
    · unfold wpX_storeData
      refine xq_good g (br_f rq_d (X _ (br_t rfl ⟨w, xq_setW wa rfl ?_⟩)))
      show wpY_storeData _ _ _ _
      unfold wpY_storeData
      exact yq_good g (br_t rfl (Y _ (br_t a0 ⟨wa, nm_e ⟨wa, nm_e ⟨wa, nm_e ⟨wa, nm_e ⟨rfl, rq_mk h8 h64 (by omega) W⟩⟩⟩⟩⟩)))
theorem i_vc_loadData {k : Nat} {u : SX} {v : SY} (I : i_Rel k u v) (hk : k + 5 ≤ 2562) (v1 : Int32) : wpX_loadData (fun r u' => wpY_loadData (fun r' v' => r' = r ∧ i_Rel (k + 5) u' v') v v1) u v1 := by
  obtain ⟨H, m, t, sw, ld, tg, bs, ln, vl, ow, st, rt, rb, rl, ra, h8, h64, hm, W, rfl, rfl⟩ := I
  rcases rq_rd v1 with b | g
  · unfold wpX_loadData
    refine xq_bad b (br_t rfl ?_)
    show wpY_loadData _ _ _
    unfold wpY_loadData
    exact yq_bad b (br_f rq_d ⟨rfl, rq_mk h8 h64 (by omega) W⟩)
  · have w := g.2.2.2
    rcases rq_acc (t := t) (al := nI m) (sw := sw) (ld := ld) (tg := tg) (bs := bs) (ln := ln) (vl := vl) (ow := ow) (st := st) (rt := rt) (rb := rb) (rl := rl) (ra := ra) h64 w with ⟨f, f0, f1, X, Y⟩ | ⟨wa, a0, X, Y⟩
    · unfold wpX_loadData
      refine xq_good g (br_f rq_d (X _ (br_f f0 ?_)))
      show wpY_loadData _ _ _
      unfold wpY_loadData
      exact yq_good g (br_t rfl (Y _ (br_f f1 ⟨rfl, rq_mk h8 h64 (by omega) W⟩)))
    · unfold wpX_loadData
      refine xq_good g (br_f rq_d (X _ (br_t rfl ⟨w, wa, nm_e ?_⟩)))
      show wpY_loadData _ _ _
      unfold wpY_loadData
      exact yq_good g (br_t rfl (Y _ (br_t a0 ⟨wa, nm_e ⟨rfl, rq_mk h8 h64 (by omega) W⟩⟩)))
theorem i_vc_storeCap {k : Nat} {u : SX} {v : SY} (I : i_Rel k u v) (hk : k + 5 ≤ 2562) (v1 : Int32) (v2 : Int32) : wpX_storeCap (fun r u' => wpY_storeCap (fun r' v' => r' = r ∧ i_Rel (k + 5) u' v') v v1 v2) u v1 v2 := by
  obtain ⟨H, m, t, sw, ld, tg, bs, ln, vl, ow, st, rt, rb, rl, ra, h8, h64, hm, W, rfl, rfl⟩ := I
  rcases rq_rd v1 with b | g
  · unfold wpX_storeCap
    refine xq_bad b (br_t rfl ?_)
    show wpY_storeCap _ _ _ _
    unfold wpY_storeCap
    exact yq_bad b (br_f rq_d ⟨rfl, rq_mk h8 h64 (by omega) W⟩)
  · rcases rq_rd v2 with b | g2
    · unfold wpX_storeCap
      refine xq_good g (br_f rq_d (xq_bad b (br_t rfl ?_)))
      show wpY_storeCap _ _ _ _
      unfold wpY_storeCap
      exact yq_good g (br_t rfl (yq_bad b (br_f rq_d ⟨rfl, rq_mk h8 h64 (by omega) W⟩)))
    · have w := g.2.2.2
      have w2 := g2.2.2.2
      rcases rq_acc (t := t) (al := nI m) (sw := sw) (ld := ld) (tg := tg) (bs := bs) (ln := ln) (vl := vl) (ow := ow) (st := st) (rt := rt) (rb := rb) (rl := rl) (ra := ra) h64 w with ⟨f, f0, f1, X, Y⟩ | ⟨wa, a0, X, Y⟩
      · unfold wpX_storeCap
        refine xq_good g (br_f rq_d (xq_good g2 (br_f rq_d (X _ (br_f f0 ?_)))))
        show wpY_storeCap _ _ _ _
        unfold wpY_storeCap
        exact yq_good g (br_t rfl (yq_good g2 (br_t rfl (Y _ (br_f f1 ⟨rfl, rq_mk h8 h64 (by omega) W⟩)))))
      · unfold wpX_storeCap
        refine xq_good g (br_f rq_d (xq_good g2 (br_f rq_d (X _ (br_t rfl ⟨w, w2, w2, w2, w2, xq_setW wa rfl ?_⟩)))))
        show wpY_storeCap _ _ _ _
        unfold wpY_storeCap
        exact yq_good g (br_t rfl (yq_good g2 (br_t rfl (Y _ (br_t a0 ⟨w2, wa, nm_e ⟨w2, wa, nm_e ⟨w2, wa, nm_e ⟨w2, wa, nm_e ⟨rfl, rq_mk h8 h64 (by omega) W⟩⟩⟩⟩⟩)))))
theorem i_vc_loadCap {k : Nat} {u : SX} {v : SY} (I : i_Rel k u v) (hk : k + 5 ≤ 2562) (v1 : Int32) (v2 : Int32) : wpX_loadCap (fun r u' => wpY_loadCap (fun r' v' => r' = r ∧ i_Rel (k + 5) u' v') v v1 v2) u v1 v2 := by
  obtain ⟨H, m, t, sw, ld, tg, bs, ln, vl, ow, st, rt, rb, rl, ra, h8, h64, hm, W, rfl, rfl⟩ := I
  rcases rq_rd v1 with b | g
  · unfold wpX_loadCap
    refine xq_bad b (br_t rfl ?_)
    show wpY_loadCap _ _ _ _
    unfold wpY_loadCap
    exact yq_bad b (br_f rq_d ⟨rfl, rq_mk h8 h64 (by omega) W⟩)
  · rcases rq_rd v2 with b | g2
    · unfold wpX_loadCap
      refine xq_good g (br_f rq_d (xq_bad b (br_t rfl ?_)))
      show wpY_loadCap _ _ _ _
      unfold wpY_loadCap
      exact yq_good g (br_t rfl (yq_bad b (br_f rq_d ⟨rfl, rq_mk h8 h64 (by omega) W⟩)))
    · have w := g.2.2.2
      have w2 := g2.2.2.2
      rcases rq_acc (t := t) (al := nI m) (sw := sw) (ld := ld) (tg := tg) (bs := bs) (ln := ln) (vl := vl) (ow := ow) (st := st) (rt := rt) (rb := rb) (rl := rl) (ra := ra) h64 w2 with ⟨f, f0, f1, X, Y⟩ | ⟨wa, a0, X, Y⟩
      · unfold wpX_loadCap
        refine xq_good g (br_f rq_d (xq_good g2 (br_f rq_d (X _ (br_f f0 ?_)))))
        show wpY_loadCap _ _ _ _
        unfold wpY_loadCap
        exact yq_good g (br_t rfl (yq_good g2 (br_t rfl (Y _ (br_f f1 ⟨rfl, rq_mk h8 h64 (by omega) W⟩)))))
      · unfold wpX_loadCap
        refine xq_good g (br_f rq_d (xq_good g2 (br_f rq_d (X _ (br_t rfl ⟨w2, nm_e ⟨wa, wa, wa, wa, xq_setR w ?_⟩⟩)))))
        show wpY_loadCap _ _ _ _
        unfold wpY_loadCap
        exact yq_good g (br_t rfl (yq_good g2 (br_t rfl (Y _ (br_t a0 ⟨wa, w, nm_e ⟨wa, w, nm_e ⟨wa, w, nm_e ⟨wa, w, nm_e ⟨rfl, rq_mk h8 h64 (by omega) W⟩⟩⟩⟩⟩)))))
theorem i_vc_loadedValue {k : Nat} {u : SX} {v : SY} (I : i_Rel k u v) (hk : k + 5 ≤ 2562) : wpX_loadedValue (fun r => wpY_loadedValue (fun r' => r' = r ∧ i_Rel (k + 5) u v) v) u := by
  obtain ⟨H, m, t, sw, ld, tg, bs, ln, vl, ow, st, rt, rb, rl, ra, h8, h64, hm, W, rfl, rfl⟩ := I
  unfold wpX_loadedValue
  show wpY_loadedValue _ _
  unfold wpY_loadedValue
  exact ⟨rfl, rq_mk h8 h64 (by omega) W⟩
