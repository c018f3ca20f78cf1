theorem rq_s3 (x : Int32) : (x < 0 ∨ (¬ x < 0 ∧ 3 < x)) ∨ x = 0 ∨ x = 1 ∨ x = 2 ∨ x = 3 := by
  rcases pk_ix x (n := 4) (by omega) with a | a | ⟨j, hj, rfl⟩
  · exact Or.inl (Or.inl a)
  · left; right
    rw [Int32.le_iff_toInt_le, nI_toInt (by omega)] at a
    have e : (3 : Int32).toInt = 3 := by decide
    rw [Int32.lt_iff_toInt_lt, Int32.lt_iff_toInt_lt, rq_i0, e]
    omega
  · right
    have q : j = 0 ∨ j = 1 ∨ j = 2 ∨ j = 3 := by omega
    rcases q with rfl | rfl | rfl | rfl
    · exact Or.inl rfl
    · exact Or.inr (Or.inl rfl)
    · exact Or.inr (Or.inr (Or.inl rfl))
    · exact Or.inr (Or.inr (Or.inr (rfl)))
theorem rq_s5 (x : Int32) : (x < 0 ∨ (¬ x < 0 ∧ 5 < x)) ∨ x = 0 ∨ x = 1 ∨ x = 2 ∨ x = 3 ∨ x = 4 ∨ x = 5 := by
  rcases pk_ix x (n := 6) (by omega) with a | a | ⟨j, hj, rfl⟩
  · exact Or.inl (Or.inl a)
  · left; right
    rw [Int32.le_iff_toInt_le, nI_toInt (by omega)] at a
    have e : (5 : Int32).toInt = 5 := by decide
    rw [Int32.lt_iff_toInt_lt, Int32.lt_iff_toInt_lt, rq_i0, e]
    omega
  · right
    have q : j = 0 ∨ j = 1 ∨ j = 2 ∨ j = 3 ∨ j = 4 ∨ j = 5 := by omega
    rcases q with rfl | rfl | rfl | rfl | rfl | rfl
    · exact Or.inl rfl
    · exact Or.inr (Or.inl rfl)
    · exact Or.inr (Or.inr (Or.inl rfl))
    · exact Or.inr (Or.inr (Or.inr (Or.inl rfl)))
    · exact Or.inr (Or.inr (Or.inr (Or.inr (Or.inl rfl))))
    · exact Or.inr (Or.inr (Or.inr (Or.inr (Or.inr (rfl)))))
theorem rq_s7 (x : Int32) : (x < 0 ∨ (¬ x < 0 ∧ 7 < x)) ∨ x = 0 ∨ x = 1 ∨ x = 2 ∨ x = 3 ∨ x = 4 ∨ x = 5 ∨ x = 6 ∨ x = 7 := by
  rcases pk_ix x (n := 8) (by omega) with a | a | ⟨j, hj, rfl⟩
  · exact Or.inl (Or.inl a)
  · left; right
    rw [Int32.le_iff_toInt_le, nI_toInt (by omega)] at a
    have e : (7 : Int32).toInt = 7 := by decide
    rw [Int32.lt_iff_toInt_lt, Int32.lt_iff_toInt_lt, rq_i0, e]
    omega
  · right
    have q : j = 0 ∨ j = 1 ∨ j = 2 ∨ j = 3 ∨ j = 4 ∨ j = 5 ∨ j = 6 ∨ j = 7 := by omega
    rcases q with rfl | rfl | rfl | rfl | rfl | rfl | rfl | rfl
    · exact Or.inl rfl
    · exact Or.inr (Or.inl rfl)
    · exact Or.inr (Or.inr (Or.inl rfl))
    · exact Or.inr (Or.inr (Or.inr (Or.inl rfl)))
    · exact Or.inr (Or.inr (Or.inr (Or.inr (Or.inl rfl))))
    · exact Or.inr (Or.inr (Or.inr (Or.inr (Or.inr (Or.inl rfl)))))
    · exact Or.inr (Or.inr (Or.inr (Or.inr (Or.inr (Or.inr (Or.inl rfl))))))
    · exact Or.inr (Or.inr (Or.inr (Or.inr (Or.inr (Or.inr (Or.inr (rfl)))))))
theorem i_vc_reg {k : Nat} {u : SX} {v : SY} (I : i_Rel k u v) (hk : k + 5 ≤ 2562) (v1 : Int32) (v2 : Int32) : wpX_reg (fun r => wpY_reg (fun r' => r' = r ∧ i_Rel (k + 5) u v) v v1 v2) u v1 v2 := by
  obtain ⟨H, m, t, sw, ld, tg, bs, ln, vl, ow, st, rt, rb, rl, ra, h8, h64, hm, W, rfl, rfl⟩ := I
  rcases rq_rd v1 with b | g
  · unfold wpX_reg
    refine xq_bad b (br_t rfl ?_)
    show wpY_reg _ _ _ _
    unfold wpY_reg
    exact yq_bad b (br_f rq_d ⟨rfl, rq_mk h8 h64 (by omega) W⟩)
  have w := g.2.2.2
  rcases rq_s3 v2 with s | rfl | rfl | rfl | rfl
  · have N : ∀ c : Int32, ¬ c < 0 → ¬ (3 : Int32) < c → ¬ v2 = c := by
      intro c h1 h2 q
      subst q
      rcases s with s | ⟨_, s⟩
      · exact h1 s
      · exact h2 s
    rcases s with s | ⟨s, s2⟩
    · unfold wpX_reg
      refine xq_good g (br_f rq_d (br_t s ?_))
      show wpY_reg _ _ _ _
      unfold wpY_reg
      exact yq_good g (br_t rfl (br_f (N 0 (by decide) (by decide)) (br_f (N 1 (by decide) (by decide)) (br_f (N 2 (by decide) (by decide)) (br_f (N 3 (by decide) (by decide)) (⟨rfl, rq_mk h8 h64 (by omega) W⟩))))))
    · unfold wpX_reg
      refine xq_good g (br_f rq_d (br_f s (br_t s2 ?_)))
      show wpY_reg _ _ _ _
      unfold wpY_reg
      exact yq_good g (br_t rfl (br_f (N 0 (by decide) (by decide)) (br_f (N 1 (by decide) (by decide)) (br_f (N 2 (by decide) (by decide)) (br_f (N 3 (by decide) (by decide)) (⟨rfl, rq_mk h8 h64 (by omega) W⟩))))))
  · by_cases z : rt v1.toNatClampNeg = 0
    · unfold wpX_reg
      refine xq_good g (br_f rq_d (br_f (by decide) (br_f (by decide) (br_t rfl ⟨w, br_t z ?_⟩))))
      show wpY_reg _ _ _ _
      unfold wpY_reg
      exact yq_good g (br_t rfl (br_t rfl ⟨w, br_t z ⟨rfl, rq_mk h8 h64 (by omega) W⟩⟩))
    · unfold wpX_reg
      refine xq_good g (br_f rq_d (br_f (by decide) (br_f (by decide) (br_t rfl ⟨w, br_f z ?_⟩))))
      show wpY_reg _ _ _ _
      unfold wpY_reg
      exact yq_good g (br_t rfl (br_t rfl ⟨w, br_f z ⟨rfl, rq_mk h8 h64 (by omega) W⟩⟩))
  · unfold wpX_reg
    refine xq_good g (br_f rq_d (br_f (by decide) (br_f (by decide) (br_f (by decide) (br_t rfl ⟨w, ?_⟩)))))
    show wpY_reg _ _ _ _
    unfold wpY_reg
    exact yq_good g (br_t rfl (br_f (by decide) (br_t rfl ⟨w, rfl, rq_mk h8 h64 (by omega) W⟩)))
  · unfold wpX_reg
    refine xq_good g (br_f rq_d (br_f (by decide) (br_f (by decide) (br_f (by decide) (br_f (by decide) (br_t rfl ⟨w, ?_⟩))))))
    show wpY_reg _ _ _ _
    unfold wpY_reg
    exact yq_good g (br_t rfl (br_f (by decide) (br_f (by decide) (br_t rfl ⟨w, rfl, rq_mk h8 h64 (by omega) W⟩))))
  · unfold wpX_reg
    refine xq_good g (br_f rq_d (br_f (by decide) (br_f (by decide) (br_f (by decide) (br_f (by decide) (br_f (by decide) (br_t rfl ⟨w, ?_⟩)))))))
    show wpY_reg _ _ _ _
    unfold wpY_reg
    exact yq_good g (br_t rfl (br_f (by decide) (br_f (by decide) (br_f (by decide) (br_t rfl ⟨w, rfl, rq_mk h8 h64 (by omega) W⟩)))))
theorem i_vc_mem {k : Nat} {u : SX} {v : SY} (I : i_Rel k u v) (hk : k + 5 ≤ 2562) (v1 : Int32) (v2 : Int32) : wpX_mem (fun r => wpY_mem (fun r' => r' = r ∧ i_Rel (k + 5) u v) v v1 v2) u v1 v2 := by
  obtain ⟨H, m, t, sw, ld, tg, bs, ln, vl, ow, st, rt, rb, rl, ra, h8, h64, hm, W, rfl, rfl⟩ := I
  rcases rq_hc v1 h64 with a | ⟨a, _, a1, a2⟩ | ⟨j, _, _, a, _, a1, a2, w, _⟩
  · unfold wpX_mem wpX_isWord
    refine br_t a.1 (br_t rfl ?_)
    show wpY_mem _ _ _ _
    unfold wpY_mem
    exact br_t a.1 ⟨rfl, rq_mk h8 h64 (by omega) W⟩
  · unfold wpX_mem wpX_isWord
    refine br_f a (br_t a2 (br_t rfl ?_))
    show wpY_mem _ _ _ _
    unfold wpY_mem
    exact br_f a (br_f a1 ⟨rfl, rq_mk h8 h64 (by omega) W⟩)
  rcases rq_s5 v2 with s | rfl | rfl | rfl | rfl | rfl | rfl
  · have N : ∀ c : Int32, ¬ c < 0 → ¬ (5 : Int32) < c → ¬ v2 = c := by
      intro c h1 h2 q
      subst q
      rcases s with s | ⟨_, s⟩
      · exact h1 s
      · exact h2 s
    rcases s with s | ⟨s, s2⟩
    · unfold wpX_mem wpX_isWord
      refine br_f a (br_f a2 (br_f rq_d (br_t s ?_)))
      show wpY_mem _ _ _ _
      unfold wpY_mem
      exact br_f a (br_t a1 (br_f (N 0 (by decide) (by decide)) (br_f (N 1 (by decide) (by decide)) (br_f (N 2 (by decide) (by decide)) (br_f (N 3 (by decide) (by decide)) (br_f (N 4 (by decide) (by decide)) (br_f (N 5 (by decide) (by decide)) (⟨rfl, rq_mk h8 h64 (by omega) W⟩))))))))
    · unfold wpX_mem wpX_isWord
      refine br_f a (br_f a2 (br_f rq_d (br_f s (br_t s2 ?_))))
      show wpY_mem _ _ _ _
      unfold wpY_mem
      exact br_f a (br_t a1 (br_f (N 0 (by decide) (by decide)) (br_f (N 1 (by decide) (by decide)) (br_f (N 2 (by decide) (by decide)) (br_f (N 3 (by decide) (by decide)) (br_f (N 4 (by decide) (by decide)) (br_f (N 5 (by decide) (by decide)) (⟨rfl, rq_mk h8 h64 (by omega) W⟩))))))))
  · by_cases z : tg v1.toNatClampNeg = 0
    · unfold wpX_mem wpX_isWord
      refine br_f a (br_f a2 (br_f rq_d (br_f (by decide) (br_f (by decide) (br_t rfl ⟨w, br_t z ?_⟩)))))
      show wpY_mem _ _ _ _
      unfold wpY_mem
      exact br_f a (br_t a1 (br_t rfl ⟨w, br_t z ⟨rfl, rq_mk h8 h64 (by omega) W⟩⟩))
    · unfold wpX_mem wpX_isWord
      refine br_f a (br_f a2 (br_f rq_d (br_f (by decide) (br_f (by decide) (br_t rfl ⟨w, br_f z ?_⟩)))))
      show wpY_mem _ _ _ _
      unfold wpY_mem
      exact br_f a (br_t a1 (br_t rfl ⟨w, br_f z ⟨rfl, rq_mk h8 h64 (by omega) W⟩⟩))
  · unfold wpX_mem wpX_isWord
    refine br_f a (br_f a2 (br_f rq_d (br_f (by decide) (br_f (by decide) (br_f (by decide) (br_t rfl ⟨w, ?_⟩))))))
    show wpY_mem _ _ _ _
    unfold wpY_mem
    exact br_f a (br_t a1 (br_f (by decide) (br_t rfl ⟨w, rfl, rq_mk h8 h64 (by omega) W⟩)))
  · unfold wpX_mem wpX_isWord
    refine br_f a (br_f a2 (br_f rq_d (br_f (by decide) (br_f (by decide) (br_f (by decide) (br_f (by decide) (br_t rfl ⟨w, ?_⟩)))))))
    show wpY_mem _ _ _ _
    unfold wpY_mem
    exact br_f a (br_t a1 (br_f (by decide) (br_f (by decide) (br_t rfl ⟨w, rfl, rq_mk h8 h64 (by omega) W⟩))))
  · unfold wpX_mem wpX_isWord
    refine br_f a (br_f a2 (br_f rq_d (br_f (by decide) (br_f (by decide) (br_f (by decide) (br_f (by decide) (br_f (by decide) (br_t rfl ⟨w, ?_⟩))))))))
    show wpY_mem _ _ _ _
    unfold wpY_mem
    exact br_f a (br_t a1 (br_f (by decide) (br_f (by decide) (br_f (by decide) (br_t rfl ⟨w, rfl, rq_mk h8 h64 (by omega) W⟩)))))
  · unfold wpX_mem wpX_isWord
    refine br_f a (br_f a2 (br_f rq_d (br_f (by decide) (br_f (by decide) (br_f (by decide) (br_f (by decide) (br_f (by decide) (br_f (by decide) (br_t rfl ⟨w, ?_⟩)))))))))
    show wpY_mem _ _ _ _
    unfold wpY_mem
    exact br_f a (br_t a1 (br_f (by decide) (br_f (by decide) (br_f (by decide) (br_f (by decide) (br_t rfl ⟨w, rfl, rq_mk h8 h64 (by omega) W⟩))))))
  · unfold wpX_mem wpX_isWord
    refine br_f a (br_f a2 (br_f rq_d (br_f (by decide) (br_f (by decide) (br_f (by decide) (br_f (by decide) (br_f (by decide) (br_f (by decide) (br_f (by decide) (br_t rfl ⟨w, ?_⟩))))))))))
    show wpY_mem _ _ _ _
    unfold wpY_mem
    exact br_f a (br_t a1 (br_f (by decide) (br_f (by decide) (br_f (by decide) (br_f (by decide) (br_f (by decide) (br_t rfl ⟨w, rfl, rq_mk h8 h64 (by omega) W⟩)))))))
theorem i_vc_stat {k : Nat} {u : SX} {v : SY} (I : i_Rel k u v) (hk : k + 5 ≤ 2562) (v1 : Int32) : wpX_stat (fun r => wpY_stat (fun r' => r' = r ∧ i_Rel (k + 5) u v) v v1) u v1 := by
  obtain ⟨H, m, t, sw, ld, tg, bs, ln, vl, ow, st, rt, rb, rl, ra, h8, h64, hm, W, rfl, rfl⟩ := I
  rcases rq_s7 v1 with s | rfl | rfl | rfl | rfl | rfl | rfl | rfl | rfl
  · have N : ∀ c : Int32, ¬ c < 0 → ¬ (7 : Int32) < c → ¬ v1 = c := by
      intro c h1 h2 q
      subst q
      rcases s with s | ⟨_, s⟩
      · exact h1 s
      · exact h2 s
    rcases s with s | ⟨s, s2⟩
    · unfold wpX_stat
      refine br_t s ?_
      show wpY_stat _ _ _
      unfold wpY_stat
      exact br_f (N 0 (by decide) (by decide)) (br_f (N 1 (by decide) (by decide)) (br_f (N 2 (by decide) (by decide)) (br_f (N 3 (by decide) (by decide)) (br_f (N 4 (by decide) (by decide)) (br_f (N 5 (by decide) (by decide)) (br_f (N 6 (by decide) (by decide)) (br_f (N 7 (by decide) (by decide)) (⟨rfl, rq_mk h8 h64 (by omega) W⟩))))))))
    · unfold wpX_stat
      refine br_f s (br_t s2 ?_)
      show wpY_stat _ _ _
      unfold wpY_stat
      exact br_f (N 0 (by decide) (by decide)) (br_f (N 1 (by decide) (by decide)) (br_f (N 2 (by decide) (by decide)) (br_f (N 3 (by decide) (by decide)) (br_f (N 4 (by decide) (by decide)) (br_f (N 5 (by decide) (by decide)) (br_f (N 6 (by decide) (by decide)) (br_f (N 7 (by decide) (by decide)) (⟨rfl, rq_mk h8 h64 (by omega) W⟩))))))))
  · unfold wpX_stat
    refine br_f (by decide) (br_f (by decide) (br_t rfl (xq_cntS h64 ?_)))
    show wpY_stat _ _ _
    unfold wpY_stat
    exact br_t rfl (yq_cntS h64 ⟨rfl, rq_mk h8 h64 (by omega) W⟩)
  · unfold wpX_stat
    refine br_f (by decide) (br_f (by decide) (br_f (by decide) (br_t rfl (xq_cntS h64 ?_))))
    show wpY_stat _ _ _
    unfold wpY_stat
    exact br_f (by decide) (br_t rfl (yq_cntS h64 ⟨rfl, rq_mk h8 h64 (by omega) W⟩))
  · unfold wpX_stat
    refine br_f (by decide) (br_f (by decide) (br_f (by decide) (br_f (by decide) (br_t rfl (xq_cntS h64 ?_)))))
    show wpY_stat _ _ _
    unfold wpY_stat
    exact br_f (by decide) (br_f (by decide) (br_t rfl (yq_cntS h64 ⟨rfl, rq_mk h8 h64 (by omega) W⟩)))
  · unfold wpX_stat
    refine br_f (by decide) (br_f (by decide) (br_f (by decide) (br_f (by decide) (br_f (by decide) (br_t rfl ?_)))))
    show wpY_stat _ _ _
    unfold wpY_stat
    exact br_f (by decide) (br_f (by decide) (br_f (by decide) (br_t rfl ⟨rfl, rq_mk h8 h64 (by omega) W⟩)))
  · unfold wpX_stat
    refine br_f (by decide) (br_f (by decide) (br_f (by decide) (br_f (by decide) (br_f (by decide) (br_f (by decide) (br_t rfl (xq_long h64 ?_)))))))
    show wpY_stat _ _ _
    unfold wpY_stat
    exact br_f (by decide) (br_f (by decide) (br_f (by decide) (br_f (by decide) (br_t rfl (yq_long h64 ⟨rfl, rq_mk h8 h64 (by omega) W⟩)))))
  · unfold wpX_stat
    refine br_f (by decide) (br_f (by decide) (br_f (by decide) (br_f (by decide) (br_f (by decide) (br_f (by decide) (br_f (by decide) (br_t rfl ?_)))))))
    show wpY_stat _ _ _
    unfold wpY_stat
    exact br_f (by decide) (br_f (by decide) (br_f (by decide) (br_f (by decide) (br_f (by decide) (br_t rfl ⟨rfl, rq_mk h8 h64 (by omega) W⟩)))))
  · unfold wpX_stat
    refine br_f (by decide) (br_f (by decide) (br_f (by decide) (br_f (by decide) (br_f (by decide) (br_f (by decide) (br_f (by decide) (br_f (by decide) (br_t rfl ?_))))))))
    show wpY_stat _ _ _
    unfold wpY_stat
    exact br_f (by decide) (br_f (by decide) (br_f (by decide) (br_f (by decide) (br_f (by decide) (br_f (by decide) (br_t rfl ⟨rfl, rq_mk h8 h64 (by omega) W⟩))))))
  · unfold wpX_stat
    refine br_f (by decide) (br_f (by decide) (br_f (by decide) (br_f (by decide) (br_f (by decide) (br_f (by decide) (br_f (by decide) (br_f (by decide) (br_f (by decide) (br_t rfl ?_)))))))))
    show wpY_stat _ _ _
    unfold wpY_stat
    exact br_f (by decide) (br_f (by decide) (br_f (by decide) (br_f (by decide) (br_f (by decide) (br_f (by decide) (br_f (by decide) (br_t rfl ⟨rfl, rq_mk h8 h64 (by omega) W⟩)))))))
