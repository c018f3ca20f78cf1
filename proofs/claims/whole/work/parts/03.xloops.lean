variable {H : Nat} {h t al sw ld : Int32} {tg bs ln vl ow st rt rb rl ra : Nat → Int32}

theorem xq_setW {post : SX → Prop} {p0 p1 p2 p3 p4 : Int32} {j : Nat} (w : vp_in p0 64) (e : p0.toNatClampNeg = j)
    (p : post (h, t, al, sw, ld, upd tg j (vp_nar .boolean p1), upd bs j p2, upd ln j p3, upd vl j p4, ow, st, rt, rb, rl, ra)) :
    wpX_setWord post (h, t, al, sw, ld, tg, bs, ln, vl, ow, st, rt, rb, rl, ra) p0 p1 p2 p3 p4 := by
  subst e
  exact ⟨w, nm_e ⟨w, nm_e ⟨w, nm_e ⟨w, nm_e p⟩⟩⟩⟩
theorem xq_setR {post : SX → Prop} {p0 p1 p2 p3 p4 : Int32} (w : vp_in p0 8)
    (p : post (h, t, al, sw, ld, tg, bs, ln, vl, ow, st, upd rt p0.toNatClampNeg (vp_nar .boolean p1), upd rb p0.toNatClampNeg p2, upd rl p0.toNatClampNeg p3, upd ra p0.toNatClampNeg p4)) :
    wpX_setRegister post (h, t, al, sw, ld, tg, bs, ln, vl, ow, st, rt, rb, rl, ra) p0 p1 p2 p3 p4 :=
  ⟨w, nm_e ⟨w, nm_e ⟨w, nm_e ⟨w, nm_e p⟩⟩⟩⟩

theorem xq_q1 {post : Int32 → Prop} {b : Int32} (y : b < 0) (p : post 0) : wpX_isQuarantined post (h, t, al, sw, ld, tg, bs, ln, vl, ow, st, rt, rb, rl, ra) b := by
  unfold wpX_isQuarantined wpX_isWord
  exact br_t y (br_t rfl p)
theorem xq_q2 {post : Int32 → Prop} {b : Int32} (y : ¬ b < 0) (x : h ≤ b) (p : post 0) : wpX_isQuarantined post (h, t, al, sw, ld, tg, bs, ln, vl, ow, st, rt, rb, rl, ra) b := by
  unfold wpX_isQuarantined wpX_isWord
  exact br_f y (br_t x (br_t rfl p))
theorem xq_q3 {post : Int32 → Prop} {b : Int32} (y : ¬ b < 0) (x : ¬ h ≤ b) (w : vp_in b 64) (q : ¬ st b.toNatClampNeg = 2) (p : post 0) : wpX_isQuarantined post (h, t, al, sw, ld, tg, bs, ln, vl, ow, st, rt, rb, rl, ra) b := by
  unfold wpX_isQuarantined wpX_isWord
  exact br_f y (br_f x (br_f (by decide) ⟨w, br_f q p⟩))
theorem xq_q4 {post : Int32 → Prop} {b : Int32} (y : ¬ b < 0) (x : ¬ h ≤ b) (w : vp_in b 64) (q : st b.toNatClampNeg = 2) (p : post 1) : wpX_isQuarantined post (h, t, al, sw, ld, tg, bs, ln, vl, ow, st, rt, rb, rl, ra) b := by
  unfold wpX_isQuarantined wpX_isWord
  exact br_f y (br_f x (br_f (by decide) ⟨w, br_t q p⟩))
theorem rq_bin {b : Int32} (hH : H ≤ 64) (y : ¬ b < 0) (x : ¬ nI H ≤ b) : vp_in b 64 := by
  rcases rq_hc b hH with q | q | ⟨j, _, _, _, _, _, _, w, _⟩
  · exact absurd q.1 y
  · exact absurd q.2.2.2 x
  · exact w

theorem xq_cntS {post : Int32 → Prop} {s : Int32} (hH : H ≤ 64) (p : post (rq_fold (rq_cS st s) 0 H)) : wpX_countInState post (nI H, t, al, sw, ld, tg, bs, ln, vl, ow, st, rt, rb, rl, ra) s := by
  refine rq_loop (fun n i c => wX_countInState_4 post s (nI H) t al sw ld tg bs ln vl ow st rt rb rl ra n c (nI i)) (rq_cS st s) H 0 ?_ (fun n => br_t (nI_le (Nat.le_refl _) (by omega)) p)
  intro n i c hi k
  have e : (nI i).toNatClampNeg = i := nI_clamp (by omega)
  have g : ¬ nI H ≤ nI i := nI_ge hi (by omega)
  have w : vp_in (nI i) 64 := vp_in_nI (by omega) (by omega)
  by_cases z : st i = s
  · rw [rq_cS_t z] at k
    exact br_f g ⟨w, br_t (by rw [e]; exact z) (nm_e (nm_r (nI_1 i) k))⟩
  · rw [rq_cS_f z] at k
    exact br_f g ⟨w, br_f (by rw [e]; exact z) (nm_r (nI_1 i) k)⟩

theorem xq_cntO {post : Int32 → Prop} {s : Int32} (hH : H ≤ 64) (p : post (rq_fold (rq_cS ow s) 0 H)) : wpX_countOwnedBy post (nI H, t, al, sw, ld, tg, bs, ln, vl, ow, st, rt, rb, rl, ra) s := by
  refine rq_loop (fun n i c => wX_countOwnedBy_4 post s (nI H) t al sw ld tg bs ln vl ow st rt rb rl ra n c (nI i)) (rq_cS ow s) H 0 ?_ (fun n => br_t (nI_le (Nat.le_refl _) (by omega)) p)
  intro n i c hi k
  have e : (nI i).toNatClampNeg = i := nI_clamp (by omega)
  have g : ¬ nI H ≤ nI i := nI_ge hi (by omega)
  have w : vp_in (nI i) 64 := vp_in_nI (by omega) (by omega)
  by_cases z : ow i = s
  · rw [rq_cS_t z] at k
    exact br_f g ⟨w, br_t (by rw [e]; exact z) (nm_e (nm_r (nI_1 i) k))⟩
  · rw [rq_cS_f z] at k
    exact br_f g ⟨w, br_f (by rw [e]; exact z) (nm_r (nI_1 i) k)⟩

theorem xq_long {post : Int32 → Prop} (hH : H ≤ 64) (p : post (rq_fold (rq_lS st) (0, 0) H).1) : ∃ n, wX_longestFreeRun_6 post (nI H) t al sw ld tg bs ln vl ow st rt rb rl ra n 0 0 0 := by
  refine rq_loop (fun n i s => wX_longestFreeRun_6 post (nI H) t al sw ld tg bs ln vl ow st rt rb rl ra n s.1 s.2 (nI i)) (rq_lS st) H (0, 0) ?_ (fun n => br_t (nI_le (Nat.le_refl _) (by omega)) p)
  intro n i s hi k
  have e : (nI i).toNatClampNeg = i := nI_clamp (by omega)
  have g : ¬ nI H ≤ nI i := nI_ge hi (by omega)
  have w : vp_in (nI i) 64 := vp_in_nI (by omega) (by omega)
  by_cases z : st i = 0
  · by_cases y : s.2 + 1 ≤ s.1
    · rw [rq_l1 z y] at k
      exact br_f g ⟨w, br_t (by rw [e]; exact z) (br_t y (nm_r (nI_1 i) k))⟩
    · rw [rq_l2 z y] at k
      exact br_f g ⟨w, br_t (by rw [e]; exact z) (br_f y (nm_r (nI_1 i) k))⟩
  · by_cases y : 0 ≤ s.1
    · rw [rq_l3 z y] at k
      exact br_f g ⟨w, br_f (by rw [e]; exact z) (br_t y (nm_r (nI_1 i) k))⟩
    · rw [rq_l4 z y] at k
      exact br_f g ⟨w, br_f (by rw [e]; exact z) (br_f y (nm_r (nI_1 i) k))⟩

theorem xq_revR {post : Int32 → SX → Prop} (hH : H ≤ 64) (p : post (rq_R H st rt rb).2 (nI H, t, al, sw, ld, tg, bs, ln, vl, ow, st, (rq_R H st rt rb).1, rb, rl, ra)) : wpX_revokeRegisters post (nI H, t, al, sw, ld, tg, bs, ln, vl, ow, st, rt, rb, rl, ra) := by
  refine rq_loop (fun n i s => wX_revokeRegisters_4 post (nI H) t al sw ld n s.2 (nI i) tg bs ln vl ow st s.1 rb rl ra) (rq_vS H rb st) 8 (rt, 0) ?_ (fun n => br_t (nI_le (Nat.le_refl _) (by omega)) p)
  intro n i s hi k
  have e : (nI i).toNatClampNeg = i := nI_clamp (by omega)
  have g : ¬ (8 : Int32) ≤ nI i := nI_ge (b := 8) hi (by omega)
  have w : vp_in (nI i) 8 := vp_in_nI (by omega) (by omega)
  by_cases z : s.1 i = 0
  · rw [rq_v1 z] at k
    exact br_f g ⟨w, br_t (by rw [e]; exact z) (nm_r (nI_1 i) k)⟩
  · have z' : ¬ s.1 (nI i).toNatClampNeg = 0 := by rw [e]; exact z
    by_cases y : rb i < 0
    · rw [rq_v2 z y] at k
      exact br_f g ⟨w, br_f z' ⟨w, xq_q1 (by rw [e]; exact y) (br_t rfl (nm_r (nI_1 i) k))⟩⟩
    · by_cases x : nI H ≤ rb i
      · rw [rq_v3 z y x] at k
        exact br_f g ⟨w, br_f z' ⟨w, xq_q2 (by rw [e]; exact y) (by rw [e]; exact x) (br_t rfl (nm_r (nI_1 i) k))⟩⟩
      · by_cases q : st (rb i).toNatClampNeg = 2
        · rw [rq_v4 z y x q] at k
          exact br_f g ⟨w, br_f z' ⟨w, xq_q4 (by rw [e]; exact y) (by rw [e]; exact x) (by rw [e]; exact rq_bin hH y x) (by rw [e]; exact q) (br_f (by decide) ⟨w, nm_r (by rw [e] <;> rfl) (nm_e (nm_r (nI_1 i) k))⟩)⟩⟩
        · rw [rq_v5 z y x q] at k
          exact br_f g ⟨w, br_f z' ⟨w, xq_q3 (by rw [e]; exact y) (by rw [e]; exact x) (by rw [e]; exact rq_bin hH y x) (by rw [e]; exact q) (br_t rfl (nm_r (nI_1 i) k))⟩⟩

theorem xq_revW {post : Int32 → SX → Prop} (hH : H ≤ 64) (p : post (rq_V H st tg bs).2 (nI H, t, al, sw, ld, (rq_V H st tg bs).1, bs, ln, vl, ow, st, rt, rb, rl, ra)) : wpX_revokeWords post (nI H, t, al, sw, ld, tg, bs, ln, vl, ow, st, rt, rb, rl, ra) := by
  refine rq_loop (fun n i s => wX_revokeWords_4 post (nI H) t al sw ld n s.2 (nI i) s.1 bs ln vl ow st rt rb rl ra) (rq_vS H bs st) H (tg, 0) ?_ (fun n => br_t (nI_le (Nat.le_refl _) (by omega)) p)
  intro n i s hi k
  have e : (nI i).toNatClampNeg = i := nI_clamp (by omega)
  have g : ¬ nI H ≤ nI i := nI_ge (b := H) hi (by omega)
  have w : vp_in (nI i) 64 := vp_in_nI (by omega) (by omega)
  by_cases z : s.1 i = 0
  · rw [rq_v1 z] at k
    exact br_f g ⟨w, br_t (by rw [e]; exact z) (nm_r (nI_1 i) k)⟩
  · have z' : ¬ s.1 (nI i).toNatClampNeg = 0 := by rw [e]; exact z
    by_cases y : bs i < 0
    · rw [rq_v2 z y] at k
      exact br_f g ⟨w, br_f z' ⟨w, xq_q1 (by rw [e]; exact y) (br_t rfl (nm_r (nI_1 i) k))⟩⟩
    · by_cases x : nI H ≤ bs i
      · rw [rq_v3 z y x] at k
        exact br_f g ⟨w, br_f z' ⟨w, xq_q2 (by rw [e]; exact y) (by rw [e]; exact x) (br_t rfl (nm_r (nI_1 i) k))⟩⟩
      · by_cases q : st (bs i).toNatClampNeg = 2
        · rw [rq_v4 z y x q] at k
          exact br_f g ⟨w, br_f z' ⟨w, xq_q4 (by rw [e]; exact y) (by rw [e]; exact x) (by rw [e]; exact rq_bin hH y x) (by rw [e]; exact q) (br_f (by decide) ⟨w, nm_r (by rw [e] <;> rfl) (nm_e (nm_r (nI_1 i) k))⟩)⟩⟩
        · rw [rq_v5 z y x q] at k
          exact br_f g ⟨w, br_f z' ⟨w, xq_q3 (by rw [e]; exact y) (by rw [e]; exact x) (by rw [e]; exact rq_bin hH y x) (by rw [e]; exact q) (br_t rfl (nm_r (nI_1 i) k))⟩⟩

theorem xq_rel {post : SX → Prop} (hH : H ≤ 64) (p : ∀ z : rq_M, z = rq_fold rq_rS (tg, bs, ln, vl, ow, st) H → post (nI H, t, al, sw, ld, z.1, z.2.1, z.2.2.1, z.2.2.2.1, z.2.2.2.2.1, z.2.2.2.2.2, rt, rb, rl, ra)) : wpX_releaseQuarantine post (nI H, t, al, sw, ld, tg, bs, ln, vl, ow, st, rt, rb, rl, ra) := by
  refine rq_loop (fun n i (s : rq_M) => wX_releaseQuarantine_2 post n (nI i) (nI H) t al sw ld s.1 s.2.1 s.2.2.1 s.2.2.2.1 s.2.2.2.2.1 s.2.2.2.2.2 rt rb rl ra) rq_rS H (tg, bs, ln, vl, ow, st) ?_ (fun n => br_t (nI_le (Nat.le_refl _) (by omega)) (p _ rfl))
  intro n i s hi k
  have e : (nI i).toNatClampNeg = i := nI_clamp (by omega)
  have g : ¬ nI H ≤ nI i := nI_ge hi (by omega)
  have w : vp_in (nI i) 64 := vp_in_nI (by omega) (by omega)
  by_cases z : s.2.2.2.2.2 i = 2
  · rw [rq_rS_t z] at k
    exact br_f g ⟨w, br_t (by rw [e]; exact z) (xq_setW w e ⟨w, nm_r (by rw [e] <;> rfl) ⟨w, nm_r (by rw [e] <;> rfl) (nm_r (nI_1 i) k)⟩⟩)⟩
  · rw [rq_rS_f z] at k
    exact br_f g ⟨w, br_f (by rw [e]; exact z) (nm_r (nI_1 i) k)⟩
theorem xq_sweep {post : Int32 → SX → Prop} (hH : H ≤ 64) (p : ∀ z : rq_M, z = rq_Z H st tg bs ln vl ow → post ((rq_R H st rt rb).2 + (rq_V H st tg bs).2) (nI H, t, al, sw + 1, ld, z.1, z.2.1, z.2.2.1, z.2.2.2.1, z.2.2.2.2.1, z.2.2.2.2.2, (rq_R H st rt rb).1, rb, rl, ra)) : wpX_runSweep post (nI H, t, al, sw, ld, tg, bs, ln, vl, ow, st, rt, rb, rl, ra) := by
  unfold wpX_runSweep
  refine xq_revR hH ?_
  refine xq_revW hH ?_
  refine nm_e ?_
  refine xq_rel hH (fun z hz => ?_)
  exact nm_e (p z hz)
theorem xq_claim {post : SX → Prop} {a n : Nat} {o : Int32} (ha : a + n ≤ 64) (p : ∀ z : rq_M, z = rq_fold (rq_kS a o) (tg, bs, ln, vl, ow, st) n → post (h, t, al, sw, ld, z.1, z.2.1, z.2.2.1, z.2.2.2.1, z.2.2.2.2.1, z.2.2.2.2.2, rt, rb, rl, ra)) : wpX_claimWords post (h, t, al, sw, ld, tg, bs, ln, vl, ow, st, rt, rb, rl, ra) (nI a) (nI n) o := by
  refine rq_loop (fun f i (s : rq_M) => wX_claimWords_3 post (nI a) (nI n) o f (nI (a + i)) h t al sw ld s.1 s.2.1 s.2.2.1 s.2.2.2.1 s.2.2.2.2.1 s.2.2.2.2.2 rt rb rl ra) (rq_kS a o) n (tg, bs, ln, vl, ow, st) ?_ (fun f => br_t (by rw [nI_add]; exact nI_le (Nat.le_refl _) (by omega)) (p _ rfl))
  intro f i s hi k
  have e : (nI (a + i)).toNatClampNeg = a + i := nI_clamp (by omega)
  have g : ¬ nI a + nI n ≤ nI (a + i) := by rw [nI_add]; exact nI_ge (by omega) (by omega)
  have w : vp_in (nI (a + i)) 64 := vp_in_nI (by omega) (by omega)
  exact br_f g (xq_setW w e ⟨w, nm_r (by rw [e] <;> rfl) ⟨w, nm_r (by rw [e] <;> rfl) (nm_r (nI_1 (a + i)) k)⟩⟩)
theorem xq_quar {post : SX → Prop} {s : Int32} (hH : H ≤ 64) (p : post (nI H, t, al, sw, ld, tg, bs, ln, vl, ow, rq_fold (rq_qS ow s) st H, rt, rb, rl, ra)) : wpX_quarantineBlock post (nI H, t, al, sw, ld, tg, bs, ln, vl, ow, st, rt, rb, rl, ra) s := by
  refine rq_loop (fun n i c => wX_quarantineBlock_2 post s (nI H) t al sw ld n (nI i) tg bs ln vl ow c rt rb rl ra) (rq_qS ow s) H st ?_ (fun n => br_t (nI_le (Nat.le_refl _) (by omega)) p)
  intro n i c hi k
  have e : (nI i).toNatClampNeg = i := nI_clamp (by omega)
  have g : ¬ nI H ≤ nI i := nI_ge hi (by omega)
  have w : vp_in (nI i) 64 := vp_in_nI (by omega) (by omega)
  by_cases z : ow i = s
  · rw [rq_qS_t z] at k
    exact br_f g ⟨w, br_t (by rw [e]; exact z) ⟨w, nm_r (by rw [e] <;> rfl) (nm_r (nI_1 i) k)⟩⟩
  · rw [rq_qS_f z] at k
    exact br_f g ⟨w, br_f (by rw [e]; exact z) (nm_r (nI_1 i) k)⟩
theorem xq_ff {post : Int32 → Prop} {n : Nat} (hH : H ≤ 64) (hn : 1 ≤ n) (hnH : n ≤ H) (p : ∀ r, rq_FF st H n r → post r) : wpX_firstFit post (nI H, t, al, sw, ld, tg, bs, ln, vl, ow, st, rt, rb, rl, ra) (nI n) := by
  have key : ∀ d i q, i + d = H → rq_FI st n i q → wX_firstFit_4 post (nI n) (nI H) t al sw ld tg bs ln vl ow st rt rb rl ra (d + 1) (nI q) (nI i) := by
    intro d
    induction d with
    | zero =>
      intro i q hi I
      have q' : i = H := by omega
      subst q'
      exact br_t (nI_le (Nat.le_refl _) (by omega)) (p _ (rq_FI_end I))
    | succ d ih =>
      intro i q hi I
      have e : (nI i).toNatClampNeg = i := nI_clamp (by omega)
      have g : ¬ nI H ≤ nI i := nI_ge (by omega) (by omega)
      have w : vp_in (nI i) 64 := vp_in_nI (by omega) (by omega)
      have hq := I.2.1
      by_cases z : st i = 0
      · have z' : st (nI i).toNatClampNeg = 0 := by rw [e]; exact z
        by_cases c : q + 1 = n
        · have e2 : nI i - nI n + 1 = nI (i + 1 - n) := by
            have := I.1
            rw [← pk_sub (by omega), ← nI_1 i]
            grind
          exact br_f g ⟨w, br_t z' (br_t (by rw [nI_1, c]) (by rw [e2]; exact p _ (rq_FI_hit I z c (by omega))))⟩
        · have k := ih (i + 1) (q + 1) (by omega) (rq_FI_free I z c)
          rw [← nI_1 q] at k
          exact br_f g ⟨w, br_t z' (br_f (by rw [nI_1, nI_eq (by omega) (by omega)]; exact c) (nm_r (nI_1 i) k))⟩
      · have k := ih (i + 1) 0 (by omega) (rq_FI_busy I z)
        exact br_f g ⟨w, br_f (by rw [e]; exact z) (br_f (fun y => nI_ne0 (by omega) (by omega) y.symm) (nm_r (nI_1 i) k))⟩
  exact ⟨H + 1, key H 0 0 (by omega) (rq_FI0 hn)⟩
