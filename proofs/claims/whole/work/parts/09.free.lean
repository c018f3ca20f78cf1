variable {H m : Nat} {h t al sw ld : Int32} {tg bs ln vl ow st rt rb rl ra : Nat → Int32}

theorem xq_blk {post : Int32 → Prop} {j : Nat} {len : Int32} (hH : H ≤ 64) (hj : j < H) (l : st j = 1)
    (p : ∀ r : Int32, ((r = 1 ∧ (j = 0 ∨ ¬ ow (j - 1) = ow j) ∧ rq_fold (rq_cS ow (ow j)) 0 H = len) ∨ (r = 0 ∧ ¬ ((j = 0 ∨ ¬ ow (j - 1) = ow j) ∧ rq_fold (rq_cS ow (ow j)) 0 H = len))) → post r) :
    wpX_isWholeBlock post (nI H, t, al, sw, ld, tg, bs, ln, vl, ow, st, rt, rb, rl, ra) (nI j) len := by
  have e : (nI j).toNatClampNeg = j := nI_clamp (by omega)
  have w : vp_in (nI j) 64 := vp_in_nI (by omega) (by omega)
  have c48 : (j = 0 ∨ ¬ ow (j - 1) = ow j) → wX_isWholeBlock_48 post len (ow j) 1 (nI H) t al sw ld tg bs ln vl ow st rt rb rl ra := fun hs =>
    br_f rq_d (xq_cntO hH (br_c (fun q => p 1 (Or.inl ⟨rfl, hs, q⟩)) (fun q => p 0 (Or.inr ⟨rfl, fun z => q z.2⟩))))
  unfold wpX_isWholeBlock wpX_isWord
  refine br_f (nI_pos (by omega)) (br_f (nI_ge hj (by omega)) (br_f rq_d ⟨w, br_t (by rw [e]; exact l) ⟨w, nm_r (e' := ow j) (by rw [e]) ?_⟩⟩))
  rcases Nat.eq_zero_or_pos j with z | z
  · exact br_t (by rw [z]; exact nI_0) (c48 (Or.inl z))
  · have e1 : nI j - 1 = nI (j - 1) := by
      obtain ⟨i, rfl⟩ : ∃ i, j = i + 1 := ⟨j - 1, by omega⟩
      exact nI_pred i
    have e2 : (nI j - 1).toNatClampNeg = j - 1 := by rw [e1]; exact nI_clamp (by omega)
    refine br_f (nI_ne0 z (by omega)) ⟨by rw [e1]; exact vp_in_nI (by omega) (by omega), ?_⟩
    by_cases q : ow (j - 1) = ow j
    · refine br_t (by rw [e2]; exact q) (br_t rfl (p 0 (Or.inr ⟨rfl, fun y => ?_⟩)))
      rcases y.1 with y | y
      · omega
      · exact y q
    · exact br_f (by rw [e2]; exact q) (c48 (Or.inr q))
theorem i_vc_free {k : Nat} {u : SX} {v : SY} (I : i_Rel k u v) (hk : k + 5 ≤ 2562) (v1 : Int32) : wpX_free (fun r u' => wpY_free (fun r' v' => r' = r ∧ i_Rel (k + 5) u' v') v v1) u v1 := by
  obtain ⟨H, m, t, sw, ld, tg, bs, ln, vl, ow, st, rt, rb, rl, ra, h8, h64, hm, W, rfl, rfl⟩ := I
  rcases rq_rd v1 with b | g
  · unfold wpX_free
    refine xq_bad b (br_t rfl ?_)
    show wpY_free _ _ _
    unfold wpY_free
    exact yq_bad b (br_f rq_d ⟨rfl, rq_mk h8 h64 (by omega) W⟩)
  have w := g.2.2.2
  by_cases z : rt v1.toNatClampNeg = 0
  · unfold wpX_free
    refine xq_good g (br_f rq_d ⟨w, br_t z ?_⟩)
    show wpY_free _ _ _
    unfold wpY_free
    exact yq_good g (br_t rfl ⟨w, br_t z ⟨rfl, rq_mk h8 h64 (by omega) W⟩⟩)
  rcases rq_hc (rb v1.toNatClampNeg) h64 with a | ⟨a, _, _, a2⟩ | ⟨j, hj, ej, a, _, _, a2, wb, eb⟩
  · unfold wpX_free
    refine xq_good g (br_f rq_d ⟨w, br_f z ⟨w, w, ?_⟩⟩)
    unfold wpX_isWholeBlock wpX_isWord
    refine br_t a.1 (br_t rfl (br_t rfl ?_))
    show wpY_free _ _ _
    unfold wpY_free
    exact yq_good g (br_t rfl ⟨w, br_f z ⟨w, nm_e (br_t a.1 ⟨rfl, rq_mk h8 h64 (by omega) W⟩)⟩⟩)
  · unfold wpX_free
    refine xq_good g (br_f rq_d ⟨w, br_f z ⟨w, w, ?_⟩⟩)
    unfold wpX_isWholeBlock wpX_isWord
    refine br_f a (br_t a2 (br_t rfl (br_t rfl ?_)))
    show wpY_free _ _ _
    unfold wpY_free
    exact yq_good g (br_t rfl ⟨w, br_f z ⟨w, nm_e (br_f a (br_t a2 ⟨rfl, rq_mk h8 h64 (by omega) W⟩))⟩⟩)
  by_cases l : st j = 1
  rotate_left
  · unfold wpX_free
    refine xq_good g (br_f rq_d ⟨w, br_f z ⟨w, w, ?_⟩⟩)
    unfold wpX_isWholeBlock wpX_isWord
    refine br_f a (br_f a2 (br_f rq_d ⟨wb, br_f (by rw [eb]; exact l) (br_t rfl ?_)⟩))
    show wpY_free _ _ _
    unfold wpY_free
    exact yq_good g (br_t rfl ⟨w, br_f z ⟨w, nm_e (br_f a (br_f a2 ⟨wb, br_f (by rw [eb]; exact l) ⟨rfl, rq_mk h8 h64 (by omega) W⟩⟩))⟩⟩)
  have s0 : ¬ ow j = 0 := W.2.2.1 j hj l
  unfold wpX_free
  refine xq_good g (br_f rq_d ⟨w, br_f z ⟨w, w, ?_⟩⟩)
  rw [ej]
  refine xq_blk h64 hj l (fun r hr => ?_)
  have ybase : ∀ (post : Int32 → SY → Prop), (∀ a, a ≤ j → ow a = ow j → (∀ x, x < a → ¬ ow x = ow j) → wY_free_70 post v1 (nI j) (ow j) (nI H) t (nI m) sw ld tg bs ln vl ow st rt rb rl ra 1 (nI a) (rq_fold (rq_cS ow (ow j)) 0 H) (nI H)) → wpY_free post (nI H, t, nI m, sw, ld, tg, bs, ln, vl, ow, st, rt, rb, rl, ra) v1 := by
    intro post p
    unfold wpY_free
    refine yq_good g (br_t rfl ⟨w, br_f z ⟨w, nm_e (?_)⟩⟩)
    rw [ej] at a a2 wb eb ⊢
    refine br_f a (br_f a2 ⟨wb, br_t (by rw [eb]; exact l) ⟨wb, nm_r (e' := ow j) (by rw [eb]) ?_⟩⟩)
    refine yq_start h64 (fun x hx => ?_)
    obtain ⟨i, hi, rfl, ei, li⟩ := rq_SI_end hx hj
    exact p i hi ei li
  have HH : nI H ≤ nI H := nI_le (Nat.le_refl _) (by omega)
  rcases hr with ⟨rfl, hs, hc⟩ | ⟨rfl, hn⟩
  · refine br_f rq_d ⟨w, by rw [ej] at wb; exact wb, ?_⟩
    rw [nI_clamp (n := j) (by omega)]
    refine xq_quar h64 ?_
    have yq : ∀ (post : Int32 → SY → Prop), (∃ n, wY_free_135 post (ow j) (nI H) t (nI m) sw ld n 0 tg bs ln vl ow st rt rb rl ra) → wpY_free post (nI H, t, nI m, sw, ld, tg, bs, ln, vl, ow, st, rt, rb, rl, ra) v1 := by
      intro post p
      refine ybase post (fun i hi ei li => ?_)
      have ii : i = j := (rq_start W hj s0 hi ei li).mpr hs
      subst ii
      exact br_t HH (br_f s0 (br_t rfl ⟨w, br_t hc.symm p⟩))
    refine xq_cntS h64 ?_
    by_cases hT : rq_fold (rq_cS (rq_fold (rq_qS ow (ow j)) st H) 2) 0 H < t
    · refine br_t hT ?_
      refine yq _ (yq_quar h64 rfl (fun _ => ?_) (fun q => absurd hT q))
      exact ⟨rfl, rq_mk h8 h64 (by omega) (rq_WF_Q W)⟩
    · refine br_f hT (xq_sweep h64 (fun z1 hz1 => ?_))
      refine yq _ (yq_quar h64 rfl (fun q => absurd q hT) (fun _ z2 hz2 => ⟨rfl, ?_⟩))
      subst hz1 hz2
      exact rq_mk h8 h64 (by omega) (rq_WF_Z (rq_WF_Q W))
  · refine br_t rfl ?_
    refine ybase _ (fun i hi ei li => ?_)
    refine br_t HH (br_f s0 ?_)
    have se := rq_start W hj s0 hi ei li
    by_cases c : i = j
    · refine br_t (by rw [c]) ⟨w, br_f (fun q => hn ⟨se.mp c, q.symm⟩) ⟨rfl, rq_mk h8 h64 (by omega) W⟩⟩
    · exact br_f (fun q => c ((nI_eq (by omega) (by omega)).mp q)) ⟨rfl, rq_mk h8 h64 (by omega) W⟩
