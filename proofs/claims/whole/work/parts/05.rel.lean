variable {H m : Nat} {h t al sw ld : Int32} {tg bs ln vl ow st rt rb rl ra : Nat → Int32}

def i_Rel (k : Nat) (u : SX) (v : SY) : Prop := ∃ (H m : Nat) (t sw ld : Int32) (tg bs ln vl ow st rt rb rl ra : Nat → Int32),
  8 ≤ H ∧ H ≤ 64 ∧ m ≤ k ∧ rq_WF H m ow st ∧ u = (nI H, t, nI m, sw, ld, tg, bs, ln, vl, ow, st, rt, rb, rl, ra) ∧ v = (nI H, t, nI m, sw, ld, tg, bs, ln, vl, ow, st, rt, rb, rl, ra)
theorem rq_mk {k : Nat} (h8 : 8 ≤ H) (h64 : H ≤ 64) (hm : m ≤ k) (W : rq_WF H m ow st) : i_Rel k (nI H, t, nI m, sw, ld, tg, bs, ln, vl, ow, st, rt, rb, rl, ra) (nI H, t, nI m, sw, ld, tg, bs, ln, vl, ow, st, rt, rb, rl, ra) :=
  ⟨H, m, t, sw, ld, tg, bs, ln, vl, ow, st, rt, rb, rl, ra, h8, h64, hm, W, rfl, rfl⟩
theorem i_up {k : Nat} {u : SX} {v : SY} (h : i_Rel k u v) : i_Rel (k + 5) u v := by
  obtain ⟨H, m, t, sw, ld, tg, bs, ln, vl, ow, st, rt, rb, rl, ra, h8, h64, hm, W, rfl, rfl⟩ := h
  exact rq_mk h8 h64 (by omega) W
theorem rq_in0 (k0 k1 : Int32) : ∃ H : Nat, 8 ≤ H ∧ H ≤ 64 ∧ (∀ post : Int32 → Prop, post (nI H) → wpX_clamp post k0 8 64) ∧
    (∀ post : SY → Prop, wY_init_108 post k1 (nI H) 0 0 0 0 0 (fun _ => 0) (fun _ => 0) (fun _ => 0) (fun _ => 0) (fun _ => 0) (fun _ => 0) (fun _ => 0) (fun _ => 0) (fun _ => 0) (fun _ => 0) → wpY_init post k0 k1) := by
  by_cases a : 8 ≤ k0
  · by_cases b : k0 ≤ 64
    · have n0 : ¬ k0 < 0 := by
        rw [Int32.lt_iff_toInt_lt, rq_i0]; rw [Int32.le_iff_toInt_le, rq_i8] at a; omega
      obtain ⟨j, hj, rfl⟩ := nI_of2 (M := 64) (n := 64) (by decide) n0 b
      have h8 : 8 ≤ j := (nI_leI (a := 8) (by decide) (by omega)).mp a
      exact ⟨j, h8, hj, fun post p => br_t a (br_t b p), fun post p => br_t a (br_t b p)⟩
    · exact ⟨64, by omega, by omega, fun post p => br_t a (br_f b p), fun post p => br_t a (br_f b p)⟩
  · exact ⟨8, by omega, by omega, fun post p => br_f a p, fun post p => br_f a p⟩
theorem rq_in1 (k1 : Int32) : ∃ t : Int32, (∀ post : Int32 → Prop, post t → wpX_clamp post k1 1 64) ∧
    (∀ (post : SY → Prop) (z : Int32), post (z, t, 0, 0, 0, fun _ => 0, fun _ => 0, fun _ => 0, fun _ => 0, fun _ => 0, fun _ => 0, fun _ => 0, fun _ => 0, fun _ => 0, fun _ => 0) → wY_init_108 post k1 z 0 0 0 0 0 (fun _ => 0) (fun _ => 0) (fun _ => 0) (fun _ => 0) (fun _ => 0) (fun _ => 0) (fun _ => 0) (fun _ => 0) (fun _ => 0) (fun _ => 0)) := by
  by_cases a : 1 ≤ k1
  · by_cases b : k1 ≤ 64
    · exact ⟨k1, fun post p => br_t a (br_t b p), fun post z p => br_t a (br_t b p)⟩
    · exact ⟨64, fun post p => br_t a (br_f b p), fun post z p => br_t a (br_f b p)⟩
  · exact ⟨1, fun post p => br_f a p, fun post z p => br_f a p⟩
theorem rq_WF0 : rq_WF H 0 (fun _ => 0) (fun _ => 0) :=
  ⟨fun w _ => ⟨0, Nat.le_refl _, nI_0.symm⟩, fun _ _ _ => rfl, fun _ _ e => absurd (show (0 : Int32) = 1 from e) (by decide),
   fun _ _ _ _ _ _ => rfl, fun _ _ _ _ _ _ _ _ => rfl⟩
theorem i_vc0 (k0 : Int32) (k1 : Int32) : wpX_init (fun u => wpY_init (fun v => i_Rel 2 u v) k0 k1) k0 k1 := by
  obtain ⟨H, h8, h64, X0, Y0⟩ := rq_in0 k0 k1
  obtain ⟨t, X1, Y1⟩ := rq_in1 k1
  unfold wpX_init
  refine X0 _ (X1 _ ?_)
  refine Y0 _ (Y1 _ _ ?_)
  exact rq_mk (m := 0) h8 h64 (by omega) rq_WF0

def rq_b (x : Int32) : Prop := x < 0 ∨ (¬ x < 0 ∧ 8 ≤ x ∧ ¬ x ≤ 7)
def rq_g (x : Int32) : Prop := ¬ x < 0 ∧ ¬ 8 ≤ x ∧ x ≤ 7 ∧ vp_in x 8
theorem rq_rd (x : Int32) : rq_b x ∨ rq_g x := by
  rcases rq_rc x with a | ⟨a, _, _, b, c, _⟩ | ⟨j, _, _, a, _, _, b, c, _, w, _⟩
  · exact Or.inl (Or.inl a.1)
  · exact Or.inl (Or.inr ⟨a, b, c⟩)
  · exact Or.inr ⟨a, b, c, w⟩
theorem rq_d : ¬ (1 : Int32) = 0 := by decide
theorem xq_bad {post : Int32 → Prop} {x : Int32} (b : rq_b x) (p : post 0) : wpX_isRegister post x := by
  rcases b with a | ⟨a, c, _⟩
  · exact br_t a p
  · exact br_f a (br_t c p)
theorem xq_good {post : Int32 → Prop} {x : Int32} (g : rq_g x) (p : post 1) : wpX_isRegister post x := br_f g.1 (br_f g.2.1 p)
theorem yq_bad {post : Int32 → Prop} {x : Int32} (b : rq_b x) (p : post 1) : wpY_badReg post (h, t, al, sw, ld, tg, bs, ln, vl, ow, st, rt, rb, rl, ra) x := by
  rcases b with a | ⟨a, _, c⟩
  · exact br_t a p
  · exact br_f a (br_f c p)
theorem yq_good {post : Int32 → Prop} {x : Int32} (g : rq_g x) (p : post 0) : wpY_badReg post (h, t, al, sw, ld, tg, bs, ln, vl, ow, st, rt, rb, rl, ra) x := br_f g.1 (br_t g.2.2.1 p)

theorem rq_acc {x : Int32} (hH : H ≤ 64) (w : vp_in x 8) :
    (∃ f : Int32, ¬ f = 0 ∧ ¬ 0 ≤ f ∧ (∀ post : Int32 → Prop, post f → wpX_accessFault post (nI H, t, al, sw, ld, tg, bs, ln, vl, ow, st, rt, rb, rl, ra) x) ∧ (∀ post : Int32 → Prop, post f → wpY_deref post (nI H, t, al, sw, ld, tg, bs, ln, vl, ow, st, rt, rb, rl, ra) x)) ∨
    (vp_in (ra x.toNatClampNeg) 64 ∧ 0 ≤ ra x.toNatClampNeg ∧ (∀ post : Int32 → Prop, post 0 → wpX_accessFault post (nI H, t, al, sw, ld, tg, bs, ln, vl, ow, st, rt, rb, rl, ra) x) ∧ (∀ post : Int32 → Prop, post (ra x.toNatClampNeg) → wpY_deref post (nI H, t, al, sw, ld, tg, bs, ln, vl, ow, st, rt, rb, rl, ra) x)) := by
  by_cases z : rt x.toNatClampNeg = 0
  · exact Or.inl ⟨-4, by decide, by decide, fun post p => ⟨w, br_t z p⟩, fun post p => ⟨w, br_t z p⟩⟩
  by_cases a : ra x.toNatClampNeg < rb x.toNatClampNeg
  · exact Or.inl ⟨-5, by decide, by decide, fun post p => ⟨w, br_f z ⟨w, nm_e ⟨w, w, nm_e ⟨w, br_t a p⟩⟩⟩⟩,
      fun post p => ⟨w, br_f z ⟨w, nm_e ⟨w, nm_e ⟨w, nm_e (br_t ((rq_lt64 _ _).mpr a) p)⟩⟩⟩⟩⟩
  have a' : ¬ (ra x.toNatClampNeg).toInt64 < (rb x.toNatClampNeg).toInt64 := fun q => a ((rq_lt64 _ _).mp q)
  by_cases b : (rb x.toNatClampNeg).toInt64 + (rl x.toNatClampNeg).toInt64 ≤ (ra x.toNatClampNeg).toInt64
  · exact Or.inl ⟨-5, by decide, by decide, fun post p => ⟨w, br_f z ⟨w, nm_e ⟨w, w, nm_e ⟨w, br_f a (br_t b p)⟩⟩⟩⟩,
      fun post p => ⟨w, br_f z ⟨w, nm_e ⟨w, nm_e ⟨w, nm_e (br_f a' (br_t b p))⟩⟩⟩⟩⟩
  rcases rq_hc (ra x.toNatClampNeg) hH with c | ⟨c0, _, c1, c2⟩ | ⟨j, _, _, c0, cz, c1, c2, w2, _⟩
  · exact Or.inl ⟨-5, by decide, by decide, fun post p => ⟨w, br_f z ⟨w, nm_e ⟨w, w, nm_e ⟨w, br_f a (br_f b (br_t c.1 (br_t rfl p)))⟩⟩⟩⟩,
      fun post p => ⟨w, br_f z ⟨w, nm_e ⟨w, nm_e ⟨w, nm_e (br_f a' (br_f b (br_t ((rq_lt0 _).mpr c.1) p)))⟩⟩⟩⟩⟩
  · exact Or.inl ⟨-5, by decide, by decide, fun post p => ⟨w, br_f z ⟨w, nm_e ⟨w, w, nm_e ⟨w, br_f a (br_f b (br_f c0 (br_t c2 (br_t rfl p))))⟩⟩⟩⟩,
      fun post p => ⟨w, br_f z ⟨w, nm_e ⟨w, nm_e ⟨w, nm_e (br_f a' (br_f b (br_f (fun q => c0 ((rq_lt0 _).mp q)) (br_f (fun q => c1 ((rq_lt64 _ _).mp q)) p))))⟩⟩⟩⟩⟩
  · exact Or.inr ⟨w2, cz, fun post p => ⟨w, br_f z ⟨w, nm_e ⟨w, w, nm_e ⟨w, br_f a (br_f b (br_f c0 (br_f c2 (br_f rq_d p))))⟩⟩⟩⟩,
      fun post p => ⟨w, br_f z ⟨w, nm_e ⟨w, nm_e ⟨w, nm_e (br_f a' (br_f b (br_f (fun q => c0 ((rq_lt0 _).mp q)) (br_t ((rq_lt64 _ _).mpr c1) ⟨w, p⟩))))⟩⟩⟩⟩⟩
