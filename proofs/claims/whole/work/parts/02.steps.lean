
theorem rq_cS_t {f : Nat → Int32} {s c : Int32} {i : Nat} (z : f i = s) : rq_cS f s i c = c + 1 := if_pos z
theorem rq_cS_f {f : Nat → Int32} {s c : Int32} {i : Nat} (z : ¬ f i = s) : rq_cS f s i c = c := if_neg z
theorem rq_qS_t {ow st : Nat → Int32} {s : Int32} {i : Nat} (z : ow i = s) : rq_qS ow s i st = upd st i 2 := if_pos z
theorem rq_qS_f {ow st : Nat → Int32} {s : Int32} {i : Nat} (z : ¬ ow i = s) : rq_qS ow s i st = st := if_neg z
theorem rq_rS_t {s : rq_M} {i : Nat} (z : s.2.2.2.2.2 i = 2) : rq_rS i s = rq_put s i 0 0 := if_pos z
theorem rq_rS_f {s : rq_M} {i : Nat} (z : ¬ s.2.2.2.2.2 i = 2) : rq_rS i s = s := if_neg z

/-- one step of a revocation: tags s.1, count s.2; b the bases, st the states -/
def rq_vS (H : Nat) (b st : Nat → Int32) : Nat → (Nat → Int32) × Int32 → (Nat → Int32) × Int32 := fun i s =>
  if s.1 i = 0 then s else if b i < 0 then s else if nI H ≤ b i then s else
    if st (b i).toNatClampNeg = 2 then (upd s.1 i (vp_nar .boolean 0), s.2 + 1) else s
theorem rq_v1 {H i : Nat} {b st : Nat → Int32} {s : (Nat → Int32) × Int32} (z : s.1 i = 0) : rq_vS H b st i s = s := if_pos z
theorem rq_v2 {H i : Nat} {b st : Nat → Int32} {s : (Nat → Int32) × Int32} (z : ¬ s.1 i = 0) (y : b i < 0) : rq_vS H b st i s = s := by
  unfold rq_vS; rw [if_neg z, if_pos y]
theorem rq_v3 {H i : Nat} {b st : Nat → Int32} {s : (Nat → Int32) × Int32} (z : ¬ s.1 i = 0) (y : ¬ b i < 0) (x : nI H ≤ b i) : rq_vS H b st i s = s := by
  unfold rq_vS; rw [if_neg z, if_neg y, if_pos x]
theorem rq_v4 {H i : Nat} {b st : Nat → Int32} {s : (Nat → Int32) × Int32} (z : ¬ s.1 i = 0) (y : ¬ b i < 0) (x : ¬ nI H ≤ b i)
    (q : st (b i).toNatClampNeg = 2) : rq_vS H b st i s = (upd s.1 i (vp_nar .boolean 0), s.2 + 1) := by
  unfold rq_vS; rw [if_neg z, if_neg y, if_neg x, if_pos q]
theorem rq_v5 {H i : Nat} {b st : Nat → Int32} {s : (Nat → Int32) × Int32} (z : ¬ s.1 i = 0) (y : ¬ b i < 0) (x : ¬ nI H ≤ b i)
    (q : ¬ st (b i).toNatClampNeg = 2) : rq_vS H b st i s = s := by
  unfold rq_vS; rw [if_neg z, if_neg y, if_neg x, if_neg q]
theorem rq_shift {H : Nat} {b st a : Nat → Int32} (c : Int32) : ∀ n, rq_fold (rq_vS H b st) (a, c) n = ((rq_fold (rq_vS H b st) (a, 0) n).1, c + (rq_fold (rq_vS H b st) (a, 0) n).2) := by
  intro n
  induction n with
  | zero => show (a, c) = (a, c + 0); rw [Int32.add_zero]
  | succ n ih =>
    show rq_vS H b st n (rq_fold (rq_vS H b st) (a, c) n) = ((rq_vS H b st n (rq_fold (rq_vS H b st) (a, 0) n)).1, c + (rq_vS H b st n (rq_fold (rq_vS H b st) (a, 0) n)).2)
    rw [ih]
    generalize rq_fold (rq_vS H b st) (a, 0) n = s
    by_cases z : s.1 n = 0
    · rw [rq_v1 (s := s) z, rq_v1 (s := (s.1, c + s.2)) z]
    · by_cases y : b n < 0
      · rw [rq_v2 (s := s) z y, rq_v2 (s := (s.1, c + s.2)) z y]
      · by_cases x : nI H ≤ b n
        · rw [rq_v3 (s := s) z y x, rq_v3 (s := (s.1, c + s.2)) z y x]
        · by_cases q : st (b n).toNatClampNeg = 2
          · rw [rq_v4 (s := s) z y x q, rq_v4 (s := (s.1, c + s.2)) z y x q]
            show (upd s.1 n (vp_nar .boolean 0), c + s.2 + 1) = (upd s.1 n (vp_nar .boolean 0), c + (s.2 + 1))
            rw [Int32.add_assoc]
          · rw [rq_v5 (s := s) z y x q, rq_v5 (s := (s.1, c + s.2)) z y x q]
/-- the three steps of a sweep -/
def rq_R (H : Nat) (st rt rb : Nat → Int32) : (Nat → Int32) × Int32 := rq_fold (rq_vS H rb st) (rt, 0) 8
def rq_V (H : Nat) (st tg bs : Nat → Int32) : (Nat → Int32) × Int32 := rq_fold (rq_vS H bs st) (tg, 0) H
def rq_Z (H : Nat) (st tg bs ln vl ow : Nat → Int32) : rq_M := rq_fold rq_rS ((rq_V H st tg bs).1, bs, ln, vl, ow, st) H
theorem rq_WF_Z {H m : Nat} {st tg bs ln vl ow : Nat → Int32} (h : rq_WF H m ow st) : rq_WF H m (rq_Z H st tg bs ln vl ow).2.2.2.2.1 (rq_Z H st tg bs ln vl ow).2.2.2.2.2 := by
  refine rq_WF_rel h (fun w hw => ?_) (fun w hw => ?_)
  · have q := (rq_rF ((rq_V H st tg bs).1, bs, ln, vl, ow, st) H w).1
    unfold rq_Z
    rw [q]
    by_cases c : st w = 2
    · rw [if_pos c, if_pos ⟨hw, c⟩]
    · rw [if_neg c, if_neg (fun z => c z.2)]
  · have q := (rq_rF ((rq_V H st tg bs).1, bs, ln, vl, ow, st) H w).2
    unfold rq_Z
    rw [q]
    by_cases c : st w = 2
    · rw [if_pos c, if_pos ⟨hw, c⟩]
    · rw [if_neg c, if_neg (fun z => c z.2)]
/-- longest (s.1) and running (s.2) count of FREE words -/
def rq_lS (st : Nat → Int32) : Nat → Int32 × Int32 → Int32 × Int32 := fun i s =>
  if st i = 0 then (if s.2 + 1 ≤ s.1 then (s.1, s.2 + 1) else (s.2 + 1, s.2 + 1)) else (if 0 ≤ s.1 then (s.1, 0) else (0, 0))
theorem rq_l1 {st : Nat → Int32} {i : Nat} {s : Int32 × Int32} (z : st i = 0) (y : s.2 + 1 ≤ s.1) : rq_lS st i s = (s.1, s.2 + 1) := by
  unfold rq_lS; rw [if_pos z, if_pos y]
theorem rq_l2 {st : Nat → Int32} {i : Nat} {s : Int32 × Int32} (z : st i = 0) (y : ¬ s.2 + 1 ≤ s.1) : rq_lS st i s = (s.2 + 1, s.2 + 1) := by
  unfold rq_lS; rw [if_pos z, if_neg y]
theorem rq_l3 {st : Nat → Int32} {i : Nat} {s : Int32 × Int32} (z : ¬ st i = 0) (y : 0 ≤ s.1) : rq_lS st i s = (s.1, 0) := by
  unfold rq_lS; rw [if_neg z, if_pos y]
theorem rq_l4 {st : Nat → Int32} {i : Nat} {s : Int32 × Int32} (z : ¬ st i = 0) (y : ¬ 0 ≤ s.1) : rq_lS st i s = (0, 0) := by
  unfold rq_lS; rw [if_neg z, if_neg y]
theorem rq_WF_K {H m a n : Nat} {ow st : Nat → Int32} {tg bs ln vl : Nat → Int32} (h : rq_WF H m ow st) (hm : m + 1 < 2 ^ 31)
    (ha : ∀ j, j < n → st (a + j) = 0) (hH : a + n ≤ H) :
    rq_WF H (m + 1) (rq_fold (rq_kS a (nI (m + 1))) (tg, bs, ln, vl, ow, st) n).2.2.2.2.1 (rq_fold (rq_kS a (nI (m + 1))) (tg, bs, ln, vl, ow, st) n).2.2.2.2.2 :=
  rq_WF_claim h hm ha hH (fun w => (rq_kF (tg, bs, ln, vl, ow, st) a (nI (m + 1)) n w).1) (fun w => (rq_kF (tg, bs, ln, vl, ow, st) a (nI (m + 1)) n w).2)
theorem rq_WF_Q {H m : Nat} {ow st : Nat → Int32} {s : Int32} (h : rq_WF H m ow st) : rq_WF H m ow (rq_fold (rq_qS ow s) st H) := by
  refine rq_WF_quar (s := s) h (fun w hw => ?_)
  rw [rq_qF ow st s H w]
  by_cases c : ow w = s
  · rw [if_pos c, if_pos ⟨hw, c⟩]
  · rw [if_neg c, if_neg (fun z => c z.2)]
