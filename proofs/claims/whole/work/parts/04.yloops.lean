variable {H : Nat} {h t al sw ld : Int32} {tg bs ln vl ow st rt rb rl ra : Nat → Int32}

theorem yq_cntS {post : Int32 → Prop} {s : Int32} (hH : H ≤ 64) (p : post (rq_fold (rq_cS st s) 0 H)) : wpY_countState post (nI H, t, al, sw, ld, tg, bs, ln, vl, ow, st, rt, rb, rl, ra) s := by
  refine rq_loop (fun n i c => wY_countState_4 post s (nI H) t al sw ld tg bs ln vl ow st rt rb rl ra n c (nI i)) (rq_cS st s) H 0 ?_ (fun n => br_t (nI_le (Nat.le_refl _) (by omega)) p)
  intro n i c hi k
  have e : (nI i).toNatClampNeg = i := nI_clamp (by omega)
  have g : ¬ nI H ≤ nI i := nI_ge hi (by omega)
  have w : vp_in (nI i) 64 := vp_in_nI (by omega) (by omega)
  by_cases z : st i = s
  · rw [rq_cS_t z] at k
    exact br_f g ⟨w, br_t (by rw [e]; exact z) (nm_e (nm_r (nI_1 i) k))⟩
  · rw [rq_cS_f z] at k
    exact br_f g ⟨w, br_f (by rw [e]; exact z) (nm_r (nI_1 i) k)⟩

theorem yq_long {post : Int32 → Prop} (hH : H ≤ 64) (p : post (rq_fold (rq_lS st) (0, 0) H).1) : ∃ n, wY_stat_54 post (nI H) t al sw ld tg bs ln vl ow st rt rb rl ra n 0 0 0 := by
  refine rq_loop (fun n i s => wY_stat_54 post (nI H) t al sw ld tg bs ln vl ow st rt rb rl ra n s.1 s.2 (nI i)) (rq_lS st) H (0, 0) ?_ (fun n => br_t (nI_le (Nat.le_refl _) (by omega)) p)
  intro n i s hi k
  have e : (nI i).toNatClampNeg = i := nI_clamp (by omega)
  have g : ¬ nI H ≤ nI i := nI_ge hi (by omega)
  have w : vp_in (nI i) 64 := vp_in_nI (by omega) (by omega)
  by_cases z : st i = 0
  · by_cases y : s.2 + 1 ≤ s.1
    · rw [rq_l1 z y] at k
      exact br_f g ⟨w, br_t (by rw [e]; exact z) (br_t y (nm_r (nI_1 i) k))⟩
    · rw [rq_l2 z y] at k
      exact br_f g ⟨w, br_t (by rw [e]; exact z) (br_f y (nm_r (nI_1 i) k))⟩
  · by_cases y : 0 ≤ s.1
    · rw [rq_l3 z y] at k
      exact br_f g ⟨w, br_f (by rw [e]; exact z) (br_t y (nm_r (nI_1 i) k))⟩
    · rw [rq_l4 z y] at k
      exact br_f g ⟨w, br_f (by rw [e]; exact z) (br_f y (nm_r (nI_1 i) k))⟩

theorem yq_revR {post : Int32 → SY → Prop} (hH : H ≤ 64) (p : ∃ n, wY_runSweep_74 post (nI H) t al sw ld n (rq_R H st rt rb).2 0 tg bs ln vl ow st (rq_R H st rt rb).1 rb rl ra) : wpY_runSweep post (nI H, t, al, sw, ld, tg, bs, ln, vl, ow, st, rt, rb, rl, ra) := by
  refine rq_loop (fun n i s => wY_runSweep_4 post (nI H) t al sw ld n s.2 (nI i) tg bs ln vl ow st s.1 rb rl ra) (rq_vS H rb st) 8 (rt, 0) ?_ (fun n => br_t (nI_le (Nat.le_refl _) (by omega)) p)
  intro n i s hi k
  have e : (nI i).toNatClampNeg = i := nI_clamp (by omega)
  have g : ¬ (8 : Int32) ≤ nI i := nI_ge (b := 8) hi (by omega)
  have w : vp_in (nI i) 8 := vp_in_nI (by omega) (by omega)
  by_cases z : s.1 i = 0
  · rw [rq_v1 z] at k
    exact br_f g ⟨w, br_t (by rw [e]; exact z) (nm_r (nI_1 i) k)⟩
  · have z' : ¬ s.1 (nI i).toNatClampNeg = 0 := by rw [e]; exact z
    by_cases y : rb i < 0
    · rw [rq_v2 z y] at k
      exact br_f g ⟨w, br_f z' ⟨w, br_t (by rw [e]; exact y) (nm_r (nI_1 i) k)⟩⟩
    · have y' : ¬ rb (nI i).toNatClampNeg < 0 := by rw [e]; exact y
      by_cases x : nI H ≤ rb i
      · rw [rq_v3 z y x] at k
        exact br_f g ⟨w, br_f z' ⟨w, br_f y' ⟨w, br_t (by rw [e]; exact x) (nm_r (nI_1 i) k)⟩⟩⟩
      · have x' : ¬ nI H ≤ rb (nI i).toNatClampNeg := by rw [e]; exact x
        have w2 : vp_in (rb (nI i).toNatClampNeg) 64 := rq_bin hH y' x'
        by_cases q : st (rb i).toNatClampNeg = 2
        · rw [rq_v4 z y x q] at k
          exact br_f g ⟨w, br_f z' ⟨w, br_f y' ⟨w, br_f x' ⟨w, w2, br_t (by rw [e]; exact q) ⟨w, nm_r (by rw [e] <;> rfl) (nm_e (nm_r (nI_1 i) k))⟩⟩⟩⟩⟩
        · rw [rq_v5 z y x q] at k
          exact br_f g ⟨w, br_f z' ⟨w, br_f y' ⟨w, br_f x' ⟨w, w2, br_f (by rw [e]; exact q) (nm_r (nI_1 i) k)⟩⟩⟩⟩

theorem yq_revW {post : Int32 → SY → Prop} {c : Int32} (hH : H ≤ 64) (p : ∃ n, wY_runSweep_146 post (c + (rq_V H st tg bs).2) (nI H) t al sw ld n 0 (rq_V H st tg bs).1 bs ln vl ow st rt rb rl ra) : ∃ n, wY_runSweep_74 post (nI H) t al sw ld n c 0 tg bs ln vl ow st rt rb rl ra := by
  have E := rq_shift (H := H) (b := bs) (st := st) (a := tg) c H
  have p' : ∃ n, wY_runSweep_146 post (rq_fold (rq_vS H bs st) (tg, c) H).2 (nI H) t al sw ld n 0 (rq_fold (rq_vS H bs st) (tg, c) H).1 bs ln vl ow st rt rb rl ra := by
    rw [E]; exact p
  refine rq_loop (fun n i s => wY_runSweep_74 post (nI H) t al sw ld n s.2 (nI i) s.1 bs ln vl ow st rt rb rl ra) (rq_vS H bs st) H (tg, c) ?_ (fun n => br_t (nI_le (Nat.le_refl _) (by omega)) p')
  intro n i s hi k
  have e : (nI i).toNatClampNeg = i := nI_clamp (by omega)
  have g : ¬ nI H ≤ nI i := nI_ge (b := H) hi (by omega)
  have w : vp_in (nI i) 64 := vp_in_nI (by omega) (by omega)
  by_cases z : s.1 i = 0
  · rw [rq_v1 z] at k
    exact br_f g ⟨w, br_t (by rw [e]; exact z) (nm_r (nI_1 i) k)⟩
  · have z' : ¬ s.1 (nI i).toNatClampNeg = 0 := by rw [e]; exact z
    by_cases y : bs i < 0
    · rw [rq_v2 z y] at k
      exact br_f g ⟨w, br_f z' ⟨w, br_t (by rw [e]; exact y) (nm_r (nI_1 i) k)⟩⟩
    · have y' : ¬ bs (nI i).toNatClampNeg < 0 := by rw [e]; exact y
      by_cases x : nI H ≤ bs i
      · rw [rq_v3 z y x] at k
        exact br_f g ⟨w, br_f z' ⟨w, br_f y' ⟨w, br_t (by rw [e]; exact x) (nm_r (nI_1 i) k)⟩⟩⟩
      · have x' : ¬ nI H ≤ bs (nI i).toNatClampNeg := by rw [e]; exact x
        have w2 : vp_in (bs (nI i).toNatClampNeg) 64 := rq_bin hH y' x'
        by_cases q : st (bs i).toNatClampNeg = 2
        · rw [rq_v4 z y x q] at k
          exact br_f g ⟨w, br_f z' ⟨w, br_f y' ⟨w, br_f x' ⟨w, w2, br_t (by rw [e]; exact q) ⟨w, nm_r (by rw [e] <;> rfl) (nm_e (nm_r (nI_1 i) k))⟩⟩⟩⟩⟩
        · rw [rq_v5 z y x q] at k
          exact br_f g ⟨w, br_f z' ⟨w, br_f y' ⟨w, br_f x' ⟨w, w2, br_f (by rw [e]; exact q) (nm_r (nI_1 i) k)⟩⟩⟩⟩

theorem yq_rel {post : Int32 → SY → Prop} {c : Int32} (hH : H ≤ 64) (p : ∀ z : rq_M, z = rq_fold rq_rS (tg, bs, ln, vl, ow, st) H → post c (nI H, t, al, sw + 1, ld, z.1, z.2.1, z.2.2.1, z.2.2.2.1, z.2.2.2.2.1, z.2.2.2.2.2, rt, rb, rl, ra)) : ∃ n, wY_runSweep_146 post c (nI H) t al sw ld n 0 tg bs ln vl ow st rt rb rl ra := by
  refine rq_loop (fun n i (s : rq_M) => wY_runSweep_146 post c (nI H) t al sw ld n (nI i) s.1 s.2.1 s.2.2.1 s.2.2.2.1 s.2.2.2.2.1 s.2.2.2.2.2 rt rb rl ra) rq_rS H (tg, bs, ln, vl, ow, st) ?_ (fun n => br_t (nI_le (Nat.le_refl _) (by omega)) (nm_e (p _ rfl)))
  intro n i s hi k
  have e : (nI i).toNatClampNeg = i := nI_clamp (by omega)
  have g : ¬ nI H ≤ nI i := nI_ge hi (by omega)
  have w : vp_in (nI i) 64 := vp_in_nI (by omega) (by omega)
  by_cases z : s.2.2.2.2.2 i = 2
  · rw [rq_rS_t z] at k
    exact br_f g ⟨w, br_t (by rw [e]; exact z) ⟨w, nm_r (by rw [e] <;> rfl) ⟨w, nm_r (by rw [e] <;> rfl) ⟨w, nm_r (by rw [e] <;> rfl) ⟨w, nm_r (by rw [e] <;> rfl) ⟨w, nm_r (by rw [e] <;> rfl) ⟨w, nm_r (by rw [e] <;> rfl) (nm_r (nI_1 i) k)⟩⟩⟩⟩⟩⟩⟩
  · rw [rq_rS_f z] at k
    exact br_f g ⟨w, br_f (by rw [e]; exact z) (nm_r (nI_1 i) k)⟩
theorem yq_sweep {post : Int32 → SY → Prop} (hH : H ≤ 64) (p : ∀ z : rq_M, z = rq_Z H st tg bs ln vl ow → post ((rq_R H st rt rb).2 + (rq_V H st tg bs).2) (nI H, t, al, sw + 1, ld, z.1, z.2.1, z.2.2.1, z.2.2.2.1, z.2.2.2.2.1, z.2.2.2.2.2, (rq_R H st rt rb).1, rb, rl, ra)) : wpY_runSweep post (nI H, t, al, sw, ld, tg, bs, ln, vl, ow, st, rt, rb, rl, ra) := by
  refine yq_revR hH ?_
  refine yq_revW hH ?_
  exact yq_rel hH p
theorem yq_claim {post : Int32 → SY → Prop} {a n : Nat} {rd : Int32} (v : vp_in rd 8) (ha : a + n ≤ 64) (p : ∀ z : rq_M, z = rq_fold (rq_kS a al) (tg, bs, ln, vl, ow, st) n → post (nI a) (h, t, al, sw, ld, z.1, z.2.1, z.2.2.1, z.2.2.2.1, z.2.2.2.2.1, z.2.2.2.2.2, upd rt rd.toNatClampNeg (vp_nar .boolean 1), upd rb rd.toNatClampNeg (nI a), upd rl rd.toNatClampNeg (nI n), upd ra rd.toNatClampNeg (nI a))) : ∃ f, wY_alloc_75 post rd (nI n) (nI a) h t al sw ld f 0 tg bs ln vl ow st rt rb rl ra := by
  refine rq_loop (fun f i (s : rq_M) => wY_alloc_75 post rd (nI n) (nI a) h t al sw ld f (nI i) s.1 s.2.1 s.2.2.1 s.2.2.2.1 s.2.2.2.2.1 s.2.2.2.2.2 rt rb rl ra) (rq_kS a al) n (tg, bs, ln, vl, ow, st) ?_ (fun f => br_t (nI_le (Nat.le_refl _) (by omega)) ⟨v, nm_e ⟨v, nm_e ⟨v, nm_e ⟨v, nm_e (p _ rfl)⟩⟩⟩⟩)
  intro f i s hi k
  have e : (nI a + nI i).toNatClampNeg = a + i := by rw [nI_add]; exact nI_clamp (by omega)
  have g : ¬ nI n ≤ nI i := nI_ge hi (by omega)
  have w : vp_in (nI a + nI i) 64 := by rw [nI_add]; exact vp_in_nI (by omega) (by omega)
  exact br_f g ⟨w, nm_r (by rw [e] <;> rfl) ⟨w, nm_r (by rw [e] <;> rfl) ⟨w, nm_r (by rw [e] <;> rfl) ⟨w, nm_r (by rw [e] <;> rfl) ⟨w, nm_r (by rw [e] <;> rfl) ⟨w, nm_r (by rw [e] <;> rfl) (nm_r (nI_1 i) k)⟩⟩⟩⟩⟩⟩
theorem yq_quar {post : Int32 → SY → Prop} {s : Int32} {st' : Nat → Int32} (hH : H ≤ 64) (hs : st' = rq_fold (rq_qS ow s) st H)
    (p0 : rq_fold (rq_cS st' 2) 0 H < t → post 0 (nI H, t, al, sw, ld, tg, bs, ln, vl, ow, st', rt, rb, rl, ra))
    (p1 : ¬ rq_fold (rq_cS st' 2) 0 H < t → ∀ z : rq_M, z = rq_Z H st' tg bs ln vl ow → post 1 (nI H, t, al, sw + 1, ld, z.1, z.2.1, z.2.2.1, z.2.2.2.1, z.2.2.2.2.1, z.2.2.2.2.2, (rq_R H st' rt rb).1, rb, rl, ra)) :
    ∃ n, wY_free_135 post s (nI H) t al sw ld n 0 tg bs ln vl ow st rt rb rl ra := by
  refine rq_loop (fun n i c => wY_free_135 post s (nI H) t al sw ld n (nI i) tg bs ln vl ow c rt rb rl ra) (rq_qS ow s) H st ?_ (fun n => br_t (nI_le (Nat.le_refl _) (by omega)) ?_)
  · intro n i c hi k
    have e : (nI i).toNatClampNeg = i := nI_clamp (by omega)
    have g : ¬ nI H ≤ nI i := nI_ge hi (by omega)
    have w : vp_in (nI i) 64 := vp_in_nI (by omega) (by omega)
    by_cases z : ow i = s
    · rw [rq_qS_t z] at k
      exact br_f g ⟨w, br_t (by rw [e]; exact z) ⟨w, nm_r (by rw [e] <;> rfl) (nm_r (nI_1 i) k)⟩⟩
    · rw [rq_qS_f z] at k
      exact br_f g ⟨w, br_f (by rw [e]; exact z) (nm_r (nI_1 i) k)⟩
  · rw [← hs]
    exact yq_cntS hH (br_c p0 (fun q => yq_sweep hH (p1 q)))
theorem yq_start {post : Int32 → SY → Prop} {s rd b : Int32} (hH : H ≤ 64)
    (fin : ∀ x, rq_SI ow s H x → wY_free_70 post rd b s (nI H) t al sw ld tg bs ln vl ow st rt rb rl ra 1 x (rq_fold (rq_cS ow s) 0 H) (nI H)) : ∃ n, wY_free_70 post rd b s (nI H) t al sw ld tg bs ln vl ow st rt rb rl ra n (-1) 0 0 := by
  have key : ∀ d i x, i + d = H → rq_SI ow s i x → wY_free_70 post rd b s (nI H) t al sw ld tg bs ln vl ow st rt rb rl ra (d + 1) x (rq_fold (rq_cS ow s) 0 i) (nI i) := by
    intro d
    induction d with
    | zero =>
      intro i x hi I
      have q' : i = H := by omega
      subst q'
      exact fin x I
    | succ d ih =>
      intro i x hi I
      have e : (nI i).toNatClampNeg = i := nI_clamp (by omega)
      have g : ¬ nI H ≤ nI i := nI_ge (by omega) (by omega)
      have w : vp_in (nI i) 64 := vp_in_nI (by omega) (by omega)
      have st1 : rq_fold (rq_cS ow s) 0 (i + 1) = rq_cS ow s i (rq_fold (rq_cS ow s) 0 i) := rfl
      by_cases z : ow i = s
      · have z' : ow (nI i).toNatClampNeg = s := by rw [e]; exact z
        rw [rq_cS_t z] at st1
        by_cases c : 0 ≤ x
        · have k := ih (i + 1) x (by omega) (rq_SI_old I (rq_nlt c))
          rw [st1] at k
          exact br_f g ⟨w, br_t z' (br_t c (nm_e (nm_r (nI_1 i) k)))⟩
        · have k := ih (i + 1) (nI i) (by omega) (rq_SI_new I (by omega) z (rq_gt c))
          rw [st1] at k
          exact br_f g ⟨w, br_t z' (br_f c (nm_e (nm_r (nI_1 i) k)))⟩
      · have k := ih (i + 1) x (by omega) (rq_SI_no I z)
        rw [st1, rq_cS_f z] at k
        exact br_f g ⟨w, br_f (by rw [e]; exact z) (nm_r (nI_1 i) k)⟩
  exact ⟨H + 1, key H 0 (-1) (by omega) rq_SI0⟩
theorem yq_ff {post : Int32 → Prop} {n : Nat} (hH : H ≤ 64) (hn : 1 ≤ n) (hnH : n ≤ H) (p : ∀ r, rq_FF st H n r → post r) : wpY_firstFit post (nI H, t, al, sw, ld, tg, bs, ln, vl, ow, st, rt, rb, rl, ra) (nI n) := by
  have key : ∀ d a, a + d = H - n + 1 → (∀ b, b < a → ∃ j, j < n ∧ ¬ st (b + j) = 0) → wY_firstFit_2 post (nI n) (nI H) t al sw ld tg bs ln vl ow st rt rb rl ra (d + 1) (nI a) := by
    intro d
    induction d with
    | zero =>
      intro a ha l
      exact br_t (by rw [pk_sub hnH]; exact nI_lt (by omega) (by omega)) (p _ (Or.inr ⟨rfl, fun b hb => l b (by omega)⟩))
    | succ d ih =>
      intro a ha l
      refine br_f (by rw [pk_sub hnH]; exact nI_nlt (by omega) (by omega)) ?_
      have inner : ∀ f i x, i + f = n → rq_OK st a i x → wY_firstFit_17 post (wY_firstFit_2 post (nI n) (nI H) t al sw ld tg bs ln vl ow st rt rb rl ra (d + 1)) (nI n) (nI a) (nI H) t al sw ld tg bs ln vl ow st rt rb rl ra (f + 1) x (nI i) := by
        intro f
        induction f with
        | zero =>
          intro i x hi I
          have q' : i = n := by omega
          subst q'
          rcases I with ⟨rfl, fr⟩ | ⟨rfl, bu⟩
          · exact br_t (nI_le (Nat.le_refl _) (by omega)) (br_f (by decide) (p _ (Or.inl ⟨a, rfl, by omega, fr, l⟩)))
          · refine br_t (nI_le (Nat.le_refl _) (by omega)) (br_t rfl (nm_r (nI_1 a) (ih (a + 1) (by omega) (fun b hb => ?_))))
            by_cases c : b = a
            · rw [c]; exact bu
            · exact l b (by omega)
        | succ f ihf =>
          intro i x hi I
          have e : (nI a + nI i).toNatClampNeg = a + i := by rw [nI_add]; exact nI_clamp (by omega)
          have g : ¬ nI n ≤ nI i := nI_ge (by omega) (by omega)
          have w : vp_in (nI a + nI i) 64 := by rw [nI_add]; exact vp_in_nI (by omega) (by omega)
          by_cases z : st (a + i) = 0
          · exact br_f g ⟨w, br_t (by rw [e]; exact z) (nm_r (nI_1 i) (ihf (i + 1) x (by omega) (rq_OK_free I z)))⟩
          · exact br_f g ⟨w, br_f (by rw [e]; exact z) (nm_r (nI_1 i) (ihf (i + 1) 0 (by omega) (rq_OK_busy z)))⟩
      exact ⟨n + 1, inner n 0 1 (by omega) rq_OK0⟩
  exact ⟨H - n + 1 + 1, key (H - n + 1) 0 (by omega) (fun b hb => absurd hb (Nat.not_lt_zero b))⟩
