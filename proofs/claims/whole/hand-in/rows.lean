section
theorem pk_us {f : Nat → Int32} {k : Nat} {x : Int32} : upd f k x k = x := if_pos rfl
theorem pk_un {f : Nat → Int32} {k j : Nat} {x : Int32} (h : j ≠ k) : upd f k x j = f j := if_neg h
theorem pk_sub {a b : Nat} (h : b ≤ a) : nI a - nI b = nI (a - b) := by
  obtain ⟨c, rfl⟩ : ∃ c, a = c + b := ⟨a - b, by omega⟩
  rw [← nI_add, Int32.add_sub_cancel, Nat.add_sub_cancel]
theorem pk_m1 (n : Nat) : nI (n + 1) + (-1) = nI n := by
  rw [← nI_1, Int32.add_assoc, show (1 : Int32) + (-1) = 0 from rfl, Int32.add_zero]
theorem pk_ix (x : Int32) {n : Nat} (hn : n < 2 ^ 31) : x < 0 ∨ nI n ≤ x ∨ ∃ j : Nat, j < n ∧ x = nI j := by
  by_cases h : x < 0
  · exact Or.inl h
  · obtain ⟨j, hj, rfl⟩ := nI_of h
    by_cases h2 : j < n
    · exact Or.inr (Or.inr ⟨j, h2, rfl⟩)
    · exact Or.inr (Or.inl (nI_le (by omega) hj))
theorem pk_le {x y : Int32} {A B : Prop} (a b : Nat) (f : a ≤ b → A) (g : b < a → B) (hx : x = nI a := by rfl) (hy : y = nI b := by rfl) (ha : a < 2 ^ 31 := by omega) (hb : b < 2 ^ 31 := by omega) : (x ≤ y → A) ∧ (¬ x ≤ y → B) := by
  subst hx hy
  rw [nI_leI ha hb]
  exact ⟨f, fun z => g (by omega)⟩
theorem pk_lt {x y : Int32} {A B : Prop} (a b : Nat) (f : a < b → A) (g : b ≤ a → B) (hx : x = nI a := by rfl) (hy : y = nI b := by rfl) (ha : a < 2 ^ 31 := by omega) (hb : b < 2 ^ 31 := by omega) : (x < y → A) ∧ (¬ x < y → B) := by
  subst hx hy
  rw [nI_ltI ha hb]
  exact ⟨f, fun z => g (by omega)⟩
theorem pk_eq {x y : Int32} {A B : Prop} (a b : Nat) (f : a = b → A) (g : a ≠ b → B) (hx : x = nI a := by rfl) (hy : y = nI b := by rfl) (ha : a < 2 ^ 31 := by omega) (hb : b < 2 ^ 31 := by omega) : (x = y → A) ∧ (¬ x = y → B) := by
  subst hx hy
  rw [nI_eq ha hb]
  exact ⟨f, g⟩
theorem pk_in {x : Int32} (n N : Nat) (h : n < N) (hx : x = nI n := by rfl) (hN : N < 2 ^ 31 := by omega) : vp_in x N := by
  subst hx
  exact vp_in_nI h hN
theorem pk_cl {x : Int32} (n : Nat) (hx : x = nI n := by rfl) (h : n < 2 ^ 31 := by omega) : x.toNatClampNeg = n := by
  subst hx
  exact nI_clamp h
theorem rq_lt64 (x y : Int32) : x.toInt64 < y.toInt64 ↔ x < y := by
  rw [Int64.lt_iff_toInt_lt, Int32.lt_iff_toInt_lt, Int32.toInt_toInt64, Int32.toInt_toInt64]
theorem rq_le64 (x y : Int32) : x.toInt64 ≤ y.toInt64 ↔ x ≤ y := by
  rw [Int64.le_iff_toInt_le, Int32.le_iff_toInt_le, Int32.toInt_toInt64, Int32.toInt_toInt64]
theorem rq_0l : (0 : Int64) = (0 : Int32).toInt64 := by decide
theorem rq_lt0 (x : Int32) : x.toInt64 < 0 ↔ x < 0 := by rw [rq_0l, rq_lt64]
theorem rq_0le (x : Int32) : 0 ≤ x.toInt64 ↔ 0 ≤ x := by rw [rq_0l, rq_le64]
theorem rq_ge {x y : Int32} (h : ¬ x < y) : y ≤ x := Int32.not_lt.mp h
theorem rq_gt {x y : Int32} (h : ¬ x ≤ y) : y < x := Int32.not_le.mp h
theorem rq_nlt {x y : Int32} (h : y ≤ x) : ¬ x < y := Int32.not_lt.mpr h
theorem rq_nle {x y : Int32} (h : y < x) : ¬ x ≤ y := Int32.not_le.mpr h
theorem rq_i0 : (0 : Int32).toInt = 0 := by decide
theorem rq_i1 : (1 : Int32).toInt = 1 := by decide
theorem rq_i7 : (7 : Int32).toInt = 7 := by decide
theorem rq_i8 : (8 : Int32).toInt = 8 := by decide
theorem rq_rc (x : Int32) : (x < 0 ∧ ¬ 0 ≤ x) ∨ (¬ x < 0 ∧ 0 ≤ x ∧ ¬ x < 8 ∧ 8 ≤ x ∧ ¬ x ≤ 7 ∧ 7 < x) ∨
    (∃ j : Nat, j < 8 ∧ x = nI j ∧ ¬ x < 0 ∧ 0 ≤ x ∧ x < 8 ∧ ¬ 8 ≤ x ∧ x ≤ 7 ∧ ¬ 7 < x ∧ vp_in x 8 ∧ x.toNatClampNeg = j) := by
  rcases pk_ix x (n := 8) (by omega) with h | h | ⟨j, hj, rfl⟩
  · left
    rw [Int32.lt_iff_toInt_lt, rq_i0] at h
    rw [Int32.lt_iff_toInt_lt, Int32.le_iff_toInt_le, rq_i0]
    omega
  · right; left
    rw [Int32.le_iff_toInt_le, nI_toInt (by omega)] at h
    simp only [Int32.lt_iff_toInt_lt, Int32.le_iff_toInt_le, rq_i0, rq_i7, rq_i8]
    omega
  · right; right
    have e : (nI j).toInt = (j : Int) := nI_toInt (by omega)
    refine ⟨j, hj, rfl, ?_, ?_, ?_, ?_, ?_, ?_, vp_in_nI hj (by omega), nI_clamp (by omega)⟩ <;>
      simp only [Int32.lt_iff_toInt_lt, Int32.le_iff_toInt_le, rq_i0, rq_i7, rq_i8, e] <;> omega
theorem rq_hc (x : Int32) {H : Nat} (hH : H ≤ 64) : (x < 0 ∧ ¬ 0 ≤ x) ∨ (¬ x < 0 ∧ 0 ≤ x ∧ ¬ x < nI H ∧ nI H ≤ x) ∨
    (∃ j : Nat, j < H ∧ x = nI j ∧ ¬ x < 0 ∧ 0 ≤ x ∧ x < nI H ∧ ¬ nI H ≤ x ∧ vp_in x 64 ∧ x.toNatClampNeg = j) := by
  rcases pk_ix x (n := H) (by omega) with h | h | ⟨j, hj, rfl⟩
  · left
    rw [Int32.lt_iff_toInt_lt, rq_i0] at h
    rw [Int32.lt_iff_toInt_lt, Int32.le_iff_toInt_le, rq_i0]
    omega
  · right; left
    have e : (nI H).toInt = (H : Int) := nI_toInt (by omega)
    rw [Int32.le_iff_toInt_le, e] at h
    simp only [Int32.lt_iff_toInt_lt, Int32.le_iff_toInt_le, rq_i0, e]
    omega
  · right; right
    have e : (nI j).toInt = (j : Int) := nI_toInt (by omega)
    have e2 : (nI H).toInt = (H : Int) := nI_toInt (by omega)
    refine ⟨j, hj, rfl, ?_, ?_, ?_, ?_, vp_in_nI (by omega) (by omega), nI_clamp (by omega)⟩ <;>
      simp only [Int32.lt_iff_toInt_lt, Int32.le_iff_toInt_le, rq_i0, e, e2] <;> omega
theorem rq_nar0 : vp_nar .boolean 0 = 0 := rfl
theorem rq_nar1 : vp_nar .boolean 1 = 1 := rfl
end
section
/-- a loop that counts up, as a fold over its state -/
def rq_fold {σ : Type} (f : Nat → σ → σ) (s : σ) : Nat → σ
  | 0 => s
  | i + 1 => f i (rq_fold f s i)

theorem rq_loop {σ : Type} (W : Nat → Nat → σ → Prop) (f : Nat → σ → σ) (e : Nat) (s : σ)
    (hs : ∀ n i t, i < e → W n (i + 1) (f i t) → W (n + 1) i t)
    (hx : ∀ n, W (n + 1) e (rq_fold f s e)) : ∃ n, W n 0 s := by
  have key : ∀ d i, i + d = e → W (d + 1) i (rq_fold f s i) := by
    intro d
    induction d with
    | zero =>
      intro i hi
      have h : i = e := by omega
      rw [h]
      exact hx 0
    | succ d ih =>
      intro i hi
      exact hs _ _ _ (by omega) (ih (i + 1) (by omega))
  exact ⟨e + 1, key e 0 (by omega)⟩

/-- owners and states of the heap's words belong together: owners are serials up to m; a FREE word has none, a LIVE word has one;
    one owner's words have one state and are consecutive -/
def rq_WF (H m : Nat) (ow st : Nat → Int32) : Prop :=
  (∀ w, w < H → ∃ o, o ≤ m ∧ ow w = nI o) ∧
  (∀ w, w < H → st w = 0 → ow w = 0) ∧
  (∀ w, w < H → st w = 1 → ¬ ow w = 0) ∧
  (∀ i j, i < H → j < H → ow i = ow j → ¬ ow i = 0 → st i = st j) ∧
  (∀ i j l, i < j → j < l → l < H → ow i = ow l → ¬ ow i = 0 → ow j = ow i)

theorem rq_WF_claim {H m a n : Nat} {ow st ow' st' : Nat → Int32} (h : rq_WF H m ow st) (hm : m + 1 < 2 ^ 31)
    (ha : ∀ j, j < n → st (a + j) = 0) (hH : a + n ≤ H)
    (ho : ∀ w, ow' w = if a ≤ w ∧ w < a + n then nI (m + 1) else ow w)
    (hs : ∀ w, st' w = if a ≤ w ∧ w < a + n then 1 else st w) : rq_WF H (m + 1) ow' st' := by
  obtain ⟨h1, h2, h3, h4, h5⟩ := h
  have hf : ∀ w, a ≤ w ∧ w < a + n → st w = 0 := by
    intro w hw
    have q := ha (w - a) (by omega)
    rwa [show a + (w - a) = w by omega] at q
  have hn0 : ¬ nI (m + 1) = 0 := nI_ne0 (by omega) hm
  have hnew : ∀ w, w < H → ¬ ow w = nI (m + 1) := by
    intro w hw e
    obtain ⟨o, hom, eo⟩ := h1 w hw
    rw [eo, nI_eq (by omega) (by omega)] at e
    omega
  have h10 : ¬ (1 : Int32) = 0 := by decide
  refine ⟨fun w hw => ?_, fun w hw e => ?_, fun w hw e => ?_, fun i j hi hj e z => ?_, fun i j l hij hjl hl e z => ?_⟩
  · by_cases c : a ≤ w ∧ w < a + n
    · exact ⟨m + 1, Nat.le_refl _, by rw [ho w, if_pos c]⟩
    · obtain ⟨o, hom, eo⟩ := h1 w hw
      exact ⟨o, by omega, by rw [ho w, if_neg c]; exact eo⟩
  · by_cases c : a ≤ w ∧ w < a + n
    · rw [hs w, if_pos c] at e
      exact absurd e h10
    · rw [hs w, if_neg c] at e
      rw [ho w, if_neg c]
      exact h2 w hw e
  · by_cases c : a ≤ w ∧ w < a + n
    · rw [ho w, if_pos c]
      exact hn0
    · rw [hs w, if_neg c] at e
      rw [ho w, if_neg c]
      exact h3 w hw e
  · by_cases ci : a ≤ i ∧ i < a + n
    · by_cases cj : a ≤ j ∧ j < a + n
      · rw [hs i, hs j, if_pos ci, if_pos cj]
      · rw [ho i, ho j, if_pos ci, if_neg cj] at e
        exact absurd e.symm (hnew j hj)
    · by_cases cj : a ≤ j ∧ j < a + n
      · rw [ho i, ho j, if_neg ci, if_pos cj] at e
        exact absurd e (hnew i hi)
      · rw [ho i, ho j, if_neg ci, if_neg cj] at e
        rw [ho i, if_neg ci] at z
        rw [hs i, hs j, if_neg ci, if_neg cj]
        exact h4 i j hi hj e z
  · by_cases ci : a ≤ i ∧ i < a + n
    · by_cases cl : a ≤ l ∧ l < a + n
      · rw [ho i, ho j, if_pos ci, if_pos (by omega)]
      · rw [ho i, ho l, if_pos ci, if_neg cl] at e
        exact absurd e.symm (hnew l hl)
    · by_cases cl : a ≤ l ∧ l < a + n
      · rw [ho i, ho l, if_neg ci, if_pos cl] at e
        exact absurd e (hnew i (by omega))
      · rw [ho i, ho l, if_neg ci, if_neg cl] at e
        rw [ho i, if_neg ci] at z
        have ej := h5 i j l hij hjl hl e z
        by_cases cj : a ≤ j ∧ j < a + n
        · exact absurd (ej.symm.trans (h2 j (by omega) (hf j cj))) z
        · rw [ho i, ho j, if_neg ci, if_neg cj]
          exact ej

theorem rq_WF_quar {H m : Nat} {ow st st' : Nat → Int32} {s : Int32} (h : rq_WF H m ow st)
    (hs : ∀ w, w < H → st' w = if ow w = s then 2 else st w) : rq_WF H m ow st' := by
  obtain ⟨h1, h2, h3, h4, h5⟩ := h
  refine ⟨h1, fun w hw e => ?_, fun w hw e => ?_, fun i j hi hj e z => ?_, h5⟩
  · by_cases c : ow w = s
    · rw [hs w hw, if_pos c] at e
      exact absurd e (by decide)
    · rw [hs w hw, if_neg c] at e
      exact h2 w hw e
  · by_cases c : ow w = s
    · rw [hs w hw, if_pos c] at e
      exact absurd e (by decide)
    · rw [hs w hw, if_neg c] at e
      exact h3 w hw e
  · by_cases c : ow j = s
    · rw [hs i hi, hs j hj, if_pos c, if_pos (e.trans c)]
    · rw [hs i hi, hs j hj, if_neg c, if_neg (fun q => c (e.symm.trans q))]
      exact h4 i j hi hj e z

theorem rq_WF_rel {H m : Nat} {ow st ow' st' : Nat → Int32} (h : rq_WF H m ow st)
    (ho : ∀ w, w < H → ow' w = if st w = 2 then 0 else ow w)
    (hs : ∀ w, w < H → st' w = if st w = 2 then 0 else st w) : rq_WF H m ow' st' := by
  obtain ⟨h1, h2, h3, h4, h5⟩ := h
  refine ⟨fun w hw => ?_, fun w hw e => ?_, fun w hw e => ?_, fun i j hi hj e z => ?_, fun i j l hij hjl hl e z => ?_⟩
  · by_cases c : st w = 2
    · exact ⟨0, Nat.zero_le _, by rw [ho w hw, if_pos c]; exact nI_0.symm⟩
    · obtain ⟨o, hom, eo⟩ := h1 w hw
      exact ⟨o, hom, by rw [ho w hw, if_neg c]; exact eo⟩
  · by_cases c : st w = 2
    · rw [ho w hw, if_pos c]
    · rw [hs w hw, if_neg c] at e
      rw [ho w hw, if_neg c]
      exact h2 w hw e
  · by_cases c : st w = 2
    · rw [hs w hw, if_pos c] at e
      exact absurd e (by decide)
    · rw [hs w hw, if_neg c] at e
      rw [ho w hw, if_neg c]
      exact h3 w hw e
  · have ci : ¬ st i = 2 := fun c => z (by rw [ho i hi, if_pos c])
    have cj : ¬ st j = 2 := fun c => z (by rw [e, ho j hj, if_pos c])
    rw [ho i hi, ho j hj, if_neg ci, if_neg cj] at e
    rw [ho i hi, if_neg ci] at z
    rw [hs i hi, hs j hj, if_neg ci, if_neg cj]
    exact h4 i j hi hj e z
  · have hi : i < H := by omega
    have hj : j < H := by omega
    have ci : ¬ st i = 2 := fun c => z (by rw [ho i hi, if_pos c])
    have cl : ¬ st l = 2 := fun c => z (by rw [e, ho l hl, if_pos c])
    rw [ho i hi, ho l hl, if_neg ci, if_neg cl] at e
    rw [ho i hi, if_neg ci] at z
    have ej := h5 i j l hij hjl hl e z
    have sj : st j = st i := h4 j i hj hi ej (fun q => z (ej.symm.trans q))
    rw [ho j hj, ho i hi, if_neg (fun q => ci (sj.symm.trans q)), if_neg ci]
    exact ej

/-- r is the first fit for n words, or -1 where there is none -/
def rq_FF (st : Nat → Int32) (H n : Nat) (r : Int32) : Prop :=
  (∃ a, r = nI a ∧ a + n ≤ H ∧ (∀ j, j < n → st (a + j) = 0) ∧ ∀ b, b < a → ∃ j, j < n ∧ ¬ st (b + j) = 0) ∨
  (r = -1 ∧ ∀ b, b + n ≤ H → ∃ j, j < n ∧ ¬ st (b + j) = 0)

theorem rq_FF_u {st : Nat → Int32} {H n : Nat} {r r' : Int32} (h : rq_FF st H n r) (h' : rq_FF st H n r') : r' = r := by
  rcases h with ⟨a, ea, ha, fa, la⟩ | ⟨e, l⟩
  · rcases h' with ⟨b, eb, hb, fb, lb⟩ | ⟨e', l'⟩
    · rcases Nat.lt_trichotomy a b with c | c | c
      · obtain ⟨j, hj, z⟩ := lb a c
        exact absurd (fa j hj) z
      · rw [ea, eb, c]
      · obtain ⟨j, hj, z⟩ := la b c
        exact absurd (fb j hj) z
    · obtain ⟨j, hj, z⟩ := l' a ha
      exact absurd (fa j hj) z
  · rcases h' with ⟨b, eb, hb, fb, lb⟩ | ⟨e', l'⟩
    · obtain ⟨j, hj, z⟩ := l b hb
      exact absurd (fb j hj) z
    · rw [e, e']

/-- where the block of word b starts: at b, or its lower neighbour belongs to it -/
theorem rq_start {H m a b : Nat} {ow st : Nat → Int32} (h : rq_WF H m ow st) (hb : b < H) (hz : ¬ ow b = 0)
    (ha : a ≤ b) (e : ow a = ow b) (l : ∀ w, w < a → ¬ ow w = ow b) : a = b ↔ (b = 0 ∨ ¬ ow (b - 1) = ow b) := by
  constructor
  · intro q
    by_cases z : b = 0
    · exact Or.inl z
    · exact Or.inr (l (b - 1) (by omega))
  · intro q
    rcases q with q | q
    · omega
    · rcases Nat.lt_or_ge a b with c | c
      · rcases Nat.lt_or_ge a (b - 1) with d | d
        · exact absurd ((h.2.2.2.2 a (b - 1) b d (by omega) hb e (fun q => hz (e.symm.trans q))).trans e) q
        · exact absurd (show ow (b - 1) = ow b by rw [show b - 1 = a by omega]; exact e) q
      · omega

/-- what the loops do, word by word -/
def rq_cS (f : Nat → Int32) (s : Int32) : Nat → Int32 → Int32 := fun i c => if f i = s then c + 1 else c
def rq_qS (ow : Nat → Int32) (s : Int32) : Nat → (Nat → Int32) → (Nat → Int32) := fun i st => if ow i = s then upd st i 2 else st

theorem rq_qF (ow st : Nat → Int32) (s : Int32) : ∀ i w, rq_fold (rq_qS ow s) st i w = if w < i ∧ ow w = s then 2 else st w := by
  intro i
  induction i with
  | zero => intro w; rw [if_neg (by omega)]; rfl
  | succ i ih =>
    intro w
    show rq_qS ow s i (rq_fold (rq_qS ow s) st i) w = _
    unfold rq_qS
    by_cases c : ow i = s
    · rw [if_pos c]
      show (if w = i then 2 else rq_fold (rq_qS ow s) st i w) = _
      by_cases e : w = i
      · rw [if_pos e, if_pos ⟨by omega, by rw [e]; exact c⟩]
      · rw [if_neg e, ih w]
        by_cases d : w < i ∧ ow w = s
        · rw [if_pos d, if_pos ⟨by omega, d.2⟩]
        · rw [if_neg d, if_neg (fun q => d ⟨by omega, q.2⟩)]
    · rw [if_neg c]
      show rq_fold (rq_qS ow s) st i w = _
      rw [ih w]
      by_cases d : w < i ∧ ow w = s
      · rw [if_pos d, if_pos ⟨by omega, d.2⟩]
      · rw [if_neg d, if_neg]
        intro q
        by_cases e : w = i
        · exact c (by rw [← e]; exact q.2)
        · exact d ⟨by omega, q.2⟩

/-- six arrays of the words: tag, base, len, value, owner, state -/
abbrev rq_M : Type := (Nat → Int32) × (Nat → Int32) × (Nat → Int32) × (Nat → Int32) × (Nat → Int32) × (Nat → Int32)
def rq_put (s : rq_M) (i : Nat) (o t : Int32) : rq_M :=
  (upd s.1 i (vp_nar .boolean 0), upd s.2.1 i 0, upd s.2.2.1 i 0, upd s.2.2.2.1 i 0, upd s.2.2.2.2.1 i o, upd s.2.2.2.2.2 i t)
def rq_rS : Nat → rq_M → rq_M := fun i s => if s.2.2.2.2.2 i = 2 then rq_put s i 0 0 else s
def rq_kS (a : Nat) (o : Int32) : Nat → rq_M → rq_M := fun i s => rq_put s (a + i) o 1

theorem rq_rF (s : rq_M) : ∀ i w, (rq_fold rq_rS s i).2.2.2.2.1 w = (if w < i ∧ s.2.2.2.2.2 w = 2 then 0 else s.2.2.2.2.1 w)
    ∧ (rq_fold rq_rS s i).2.2.2.2.2 w = (if w < i ∧ s.2.2.2.2.2 w = 2 then 0 else s.2.2.2.2.2 w) := by
  intro i
  induction i with
  | zero => intro w; rw [if_neg (by omega), if_neg (by omega)]; exact ⟨rfl, rfl⟩
  | succ i ih =>
    intro w
    have hi : (rq_fold rq_rS s i).2.2.2.2.2 i = s.2.2.2.2.2 i := by rw [(ih i).2, if_neg (by omega)]
    have step : rq_fold rq_rS s (i + 1) = rq_rS i (rq_fold rq_rS s i) := rfl
    by_cases c : s.2.2.2.2.2 i = 2
    · have e1 : rq_fold rq_rS s (i + 1) = rq_put (rq_fold rq_rS s i) i 0 0 := by
        rw [step]; exact if_pos (hi.trans c)
      rw [e1]
      by_cases e : w = i
      · subst e
        rw [if_pos ⟨by omega, c⟩, if_pos ⟨by omega, c⟩]
        exact ⟨if_pos rfl, if_pos rfl⟩
      · have q1 : (rq_put (rq_fold rq_rS s i) i 0 0).2.2.2.2.1 w = (rq_fold rq_rS s i).2.2.2.2.1 w := if_neg e
        have q2 : (rq_put (rq_fold rq_rS s i) i 0 0).2.2.2.2.2 w = (rq_fold rq_rS s i).2.2.2.2.2 w := if_neg e
        rw [q1, q2, (ih w).1, (ih w).2]
        by_cases d : w < i ∧ s.2.2.2.2.2 w = 2
        · have d' : w < i + 1 ∧ s.2.2.2.2.2 w = 2 := ⟨by omega, d.2⟩
          rw [if_pos d, if_pos d, if_pos d', if_pos d']
          exact ⟨rfl, rfl⟩
        · have d' : ¬ (w < i + 1 ∧ s.2.2.2.2.2 w = 2) := fun q => d ⟨by omega, q.2⟩
          rw [if_neg d, if_neg d, if_neg d', if_neg d']
          exact ⟨rfl, rfl⟩
    · have e1 : rq_fold rq_rS s (i + 1) = rq_fold rq_rS s i := by
        rw [step]; exact if_neg (fun q => c (hi.symm.trans q))
      rw [e1, (ih w).1, (ih w).2]
      by_cases d : w < i ∧ s.2.2.2.2.2 w = 2
      · have d' : w < i + 1 ∧ s.2.2.2.2.2 w = 2 := ⟨by omega, d.2⟩
        rw [if_pos d, if_pos d, if_pos d', if_pos d']
        exact ⟨rfl, rfl⟩
      · have d' : ¬ (w < i + 1 ∧ s.2.2.2.2.2 w = 2) := by
          intro q
          by_cases e : w = i
          · exact c (by rw [← e]; exact q.2)
          · exact d ⟨by omega, q.2⟩
        rw [if_neg d, if_neg d, if_neg d', if_neg d']
        exact ⟨rfl, rfl⟩

theorem rq_kF (s : rq_M) (a : Nat) (o : Int32) : ∀ n w, (rq_fold (rq_kS a o) s n).2.2.2.2.1 w = (if a ≤ w ∧ w < a + n then o else s.2.2.2.2.1 w)
    ∧ (rq_fold (rq_kS a o) s n).2.2.2.2.2 w = (if a ≤ w ∧ w < a + n then 1 else s.2.2.2.2.2 w) := by
  intro n
  induction n with
  | zero => intro w; rw [if_neg (by omega), if_neg (by omega)]; exact ⟨rfl, rfl⟩
  | succ i ih =>
    intro w
    have step : rq_fold (rq_kS a o) s (i + 1) = rq_put (rq_fold (rq_kS a o) s i) (a + i) o 1 := rfl
    rw [step]
    by_cases e : w = a + i
    · have d' : a ≤ w ∧ w < a + (i + 1) := by omega
      rw [if_pos d', if_pos d']
      exact ⟨if_pos e, if_pos e⟩
    · have q1 : (rq_put (rq_fold (rq_kS a o) s i) (a + i) o 1).2.2.2.2.1 w = (rq_fold (rq_kS a o) s i).2.2.2.2.1 w := if_neg e
      have q2 : (rq_put (rq_fold (rq_kS a o) s i) (a + i) o 1).2.2.2.2.2 w = (rq_fold (rq_kS a o) s i).2.2.2.2.2 w := if_neg e
      rw [q1, q2, (ih w).1, (ih w).2]
      by_cases d : a ≤ w ∧ w < a + i
      · have d' : a ≤ w ∧ w < a + (i + 1) := by omega
        rw [if_pos d, if_pos d, if_pos d', if_pos d']
        exact ⟨rfl, rfl⟩
      · have d' : ¬ (a ≤ w ∧ w < a + (i + 1)) := by omega
        rw [if_neg d, if_neg d, if_neg d', if_neg d']
        exact ⟨rfl, rfl⟩

/-- the running count of X's first fit at word i: q FREE words end there, no fit has ended before -/
def rq_FI (st : Nat → Int32) (n i q : Nat) : Prop :=
  q ≤ i ∧ q < n ∧ (∀ j, i ≤ j + q → j < i → st j = 0) ∧ (q < i → ¬ st (i - q - 1) = 0) ∧ (∀ b, b + n ≤ i → ∃ j, j < n ∧ ¬ st (b + j) = 0)

theorem rq_FI0 {st : Nat → Int32} {n : Nat} (hn : 1 ≤ n) : rq_FI st n 0 0 :=
  ⟨Nat.le_refl _, hn, fun j _ h => absurd h (Nat.not_lt_zero j), fun h => absurd h (Nat.lt_irrefl 0), fun b h => absurd h (by omega)⟩

theorem rq_FI_free {st : Nat → Int32} {n i q : Nat} (h : rq_FI st n i q) (z : st i = 0) (hq : ¬ q + 1 = n) : rq_FI st n (i + 1) (q + 1) := by
  obtain ⟨h1, h2, h3, h4, h5⟩ := h
  refine ⟨by omega, by omega, fun j a b => ?_, fun c => ?_, fun b hb => ?_⟩
  · by_cases e : j = i
    · rw [e]; exact z
    · exact h3 j (by omega) (by omega)
  · have := h4 (by omega)
    rw [show i + 1 - (q + 1) - 1 = i - q - 1 by omega]
    exact this
  · by_cases e : b + n ≤ i
    · exact h5 b e
    · refine ⟨i - q - 1 - b, by omega, ?_⟩
      rw [show b + (i - q - 1 - b) = i - q - 1 by omega]
      exact h4 (by omega)

theorem rq_FI_hit {st : Nat → Int32} {H n i q : Nat} (h : rq_FI st n i q) (z : st i = 0) (hq : q + 1 = n) (hi : i < H) : rq_FF st H n (nI (i + 1 - n)) := by
  obtain ⟨h1, h2, h3, h4, h5⟩ := h
  refine Or.inl ⟨i + 1 - n, rfl, by omega, fun j hj => ?_, fun b hb => h5 b (by omega)⟩
  by_cases e : i + 1 - n + j = i
  · rw [e]; exact z
  · exact h3 _ (by omega) (by omega)

theorem rq_FI_busy {st : Nat → Int32} {n i q : Nat} (h : rq_FI st n i q) (z : ¬ st i = 0) : rq_FI st n (i + 1) 0 := by
  obtain ⟨h1, h2, h3, h4, h5⟩ := h
  refine ⟨by omega, by omega, fun j a b => absurd b (by omega), fun _ => ?_, fun b hb => ?_⟩
  · rw [show i + 1 - 0 - 1 = i by omega]; exact z
  · by_cases e : b + n ≤ i
    · exact h5 b e
    · refine ⟨n - 1, by omega, ?_⟩
      rw [show b + (n - 1) = i by omega]
      exact z

theorem rq_FI_end {st : Nat → Int32} {H n q : Nat} (h : rq_FI st n H q) : rq_FF st H n (-1) := Or.inr ⟨rfl, h.2.2.2.2⟩

/-- the flag of Y's inner loop -/
def rq_OK (st : Nat → Int32) (a k : Nat) (x : Int32) : Prop :=
  (x = 1 ∧ ∀ j, j < k → st (a + j) = 0) ∨ (x = 0 ∧ ∃ j, j < k ∧ ¬ st (a + j) = 0)

theorem rq_OK0 {st : Nat → Int32} {a : Nat} : rq_OK st a 0 1 := Or.inl ⟨rfl, fun j h => absurd h (Nat.not_lt_zero j)⟩
theorem rq_OK_busy {st : Nat → Int32} {a k : Nat} (z : ¬ st (a + k) = 0) : rq_OK st a (k + 1) 0 := Or.inr ⟨rfl, k, by omega, z⟩
theorem rq_OK_free {st : Nat → Int32} {a k : Nat} {x : Int32} (h : rq_OK st a k x) (z : st (a + k) = 0) : rq_OK st a (k + 1) x := by
  rcases h with ⟨e, h⟩ | ⟨e, j, hj, h⟩
  · refine Or.inl ⟨e, fun j hj => ?_⟩
    by_cases q : j = k
    · rw [q]; exact z
    · exact h j (by omega)
  · exact Or.inr ⟨e, j, by omega, h⟩

/-- Y's search for the start of the block of owner s, at word i -/
def rq_SI (ow : Nat → Int32) (s : Int32) (i : Nat) (x : Int32) : Prop :=
  (x = -1 ∧ ∀ w, w < i → ¬ ow w = s) ∨ (∃ a, a < i ∧ x = nI a ∧ ow a = s ∧ ∀ w, w < a → ¬ ow w = s)

theorem rq_SI0 {ow : Nat → Int32} {s : Int32} : rq_SI ow s 0 (-1) := Or.inl ⟨rfl, fun w h => absurd h (Nat.not_lt_zero w)⟩
theorem rq_m1n : (-1 : Int32) < 0 := by decide
theorem rq_SI_new {ow : Nat → Int32} {s x : Int32} {i : Nat} (h : rq_SI ow s i x) (hi : i < 64) (z : ow i = s) (hx : x < 0) : rq_SI ow s (i + 1) (nI i) := by
  rcases h with ⟨e, l⟩ | ⟨a, ha, e, _, _⟩
  · exact Or.inr ⟨i, by omega, rfl, z, l⟩
  · exact absurd (e ▸ hx) (nI_pos (by omega))
theorem rq_SI_old {ow : Nat → Int32} {s x : Int32} {i : Nat} (h : rq_SI ow s i x) (hx : ¬ x < 0) : rq_SI ow s (i + 1) x := by
  rcases h with ⟨e, l⟩ | ⟨a, ha, e, z, l⟩
  · exact absurd (e ▸ rq_m1n) hx
  · exact Or.inr ⟨a, by omega, e, z, l⟩
theorem rq_SI_no {ow : Nat → Int32} {s x : Int32} {i : Nat} (h : rq_SI ow s i x) (z : ¬ ow i = s) : rq_SI ow s (i + 1) x := by
  rcases h with ⟨e, l⟩ | ⟨a, ha, e, z, l⟩
  · refine Or.inl ⟨e, fun w hw => ?_⟩
    by_cases q : w = i
    · rw [q]; exact z
    · exact l w (by omega)
  · exact Or.inr ⟨a, by omega, e, z, l⟩
theorem rq_SI_end {ow : Nat → Int32} {x : Int32} {H b : Nat} (h : rq_SI ow (ow b) H x) (hb : b < H) :
    ∃ a, a ≤ b ∧ x = nI a ∧ ow a = ow b ∧ ∀ w, w < a → ¬ ow w = ow b := by
  rcases h with ⟨_, l⟩ | ⟨a, ha, e, z, l⟩
  · exact absurd rfl (l b hb)
  · refine ⟨a, ?_, e, z, l⟩
    rcases Nat.lt_or_ge b a with c | c
    · exact absurd rfl (l b c)
    · exact c
end
section

theorem rq_cS_t {f : Nat → Int32} {s c : Int32} {i : Nat} (z : f i = s) : rq_cS f s i c = c + 1 := if_pos z
theorem rq_cS_f {f : Nat → Int32} {s c : Int32} {i : Nat} (z : ¬ f i = s) : rq_cS f s i c = c := if_neg z
theorem rq_qS_t {ow st : Nat → Int32} {s : Int32} {i : Nat} (z : ow i = s) : rq_qS ow s i st = upd st i 2 := if_pos z
theorem rq_qS_f {ow st : Nat → Int32} {s : Int32} {i : Nat} (z : ¬ ow i = s) : rq_qS ow s i st = st := if_neg z
theorem rq_rS_t {s : rq_M} {i : Nat} (z : s.2.2.2.2.2 i = 2) : rq_rS i s = rq_put s i 0 0 := if_pos z
theorem rq_rS_f {s : rq_M} {i : Nat} (z : ¬ s.2.2.2.2.2 i = 2) : rq_rS i s = s := if_neg z

/-- one step of a revocation: tags s.1, count s.2; b the bases, st the states -/
def rq_vS (H : Nat) (b st : Nat → Int32) : Nat → (Nat → Int32) × Int32 → (Nat → Int32) × Int32 := fun i s =>
  if s.1 i = 0 then s else if b i < 0 then s else if nI H ≤ b i then s else
    if st (b i).toNatClampNeg = 2 then (upd s.1 i (vp_nar .boolean 0), s.2 + 1) else s
theorem rq_v1 {H i : Nat} {b st : Nat → Int32} {s : (Nat → Int32) × Int32} (z : s.1 i = 0) : rq_vS H b st i s = s := if_pos z
theorem rq_v2 {H i : Nat} {b st : Nat → Int32} {s : (Nat → Int32) × Int32} (z : ¬ s.1 i = 0) (y : b i < 0) : rq_vS H b st i s = s := by
  unfold rq_vS; rw [if_neg z, if_pos y]
theorem rq_v3 {H i : Nat} {b st : Nat → Int32} {s : (Nat → Int32) × Int32} (z : ¬ s.1 i = 0) (y : ¬ b i < 0) (x : nI H ≤ b i) : rq_vS H b st i s = s := by
  unfold rq_vS; rw [if_neg z, if_neg y, if_pos x]
theorem rq_v4 {H i : Nat} {b st : Nat → Int32} {s : (Nat → Int32) × Int32} (z : ¬ s.1 i = 0) (y : ¬ b i < 0) (x : ¬ nI H ≤ b i)
    (q : st (b i).toNatClampNeg = 2) : rq_vS H b st i s = (upd s.1 i (vp_nar .boolean 0), s.2 + 1) := by
  unfold rq_vS; rw [if_neg z, if_neg y, if_neg x, if_pos q]
theorem rq_v5 {H i : Nat} {b st : Nat → Int32} {s : (Nat → Int32) × Int32} (z : ¬ s.1 i = 0) (y : ¬ b i < 0) (x : ¬ nI H ≤ b i)
    (q : ¬ st (b i).toNatClampNeg = 2) : rq_vS H b st i s = s := by
  unfold rq_vS; rw [if_neg z, if_neg y, if_neg x, if_neg q]
theorem rq_shift {H : Nat} {b st a : Nat → Int32} (c : Int32) : ∀ n, rq_fold (rq_vS H b st) (a, c) n = ((rq_fold (rq_vS H b st) (a, 0) n).1, c + (rq_fold (rq_vS H b st) (a, 0) n).2) := by
  intro n
  induction n with
  | zero => show (a, c) = (a, c + 0); rw [Int32.add_zero]
  | succ n ih =>
    show rq_vS H b st n (rq_fold (rq_vS H b st) (a, c) n) = ((rq_vS H b st n (rq_fold (rq_vS H b st) (a, 0) n)).1, c + (rq_vS H b st n (rq_fold (rq_vS H b st) (a, 0) n)).2)
    rw [ih]
    generalize rq_fold (rq_vS H b st) (a, 0) n = s
    by_cases z : s.1 n = 0
    · rw [rq_v1 (s := s) z, rq_v1 (s := (s.1, c + s.2)) z]
    · by_cases y : b n < 0
      · rw [rq_v2 (s := s) z y, rq_v2 (s := (s.1, c + s.2)) z y]
      · by_cases x : nI H ≤ b n
        · rw [rq_v3 (s := s) z y x, rq_v3 (s := (s.1, c + s.2)) z y x]
        · by_cases q : st (b n).toNatClampNeg = 2
          · rw [rq_v4 (s := s) z y x q, rq_v4 (s := (s.1, c + s.2)) z y x q]
            show (upd s.1 n (vp_nar .boolean 0), c + s.2 + 1) = (upd s.1 n (vp_nar .boolean 0), c + (s.2 + 1))
            rw [Int32.add_assoc]
          · rw [rq_v5 (s := s) z y x q, rq_v5 (s := (s.1, c + s.2)) z y x q]
/-- the three steps of a sweep -/
def rq_R (H : Nat) (st rt rb : Nat → Int32) : (Nat → Int32) × Int32 := rq_fold (rq_vS H rb st) (rt, 0) 8
def rq_V (H : Nat) (st tg bs : Nat → Int32) : (Nat → Int32) × Int32 := rq_fold (rq_vS H bs st) (tg, 0) H
def rq_Z (H : Nat) (st tg bs ln vl ow : Nat → Int32) : rq_M := rq_fold rq_rS ((rq_V H st tg bs).1, bs, ln, vl, ow, st) H
theorem rq_WF_Z {H m : Nat} {st tg bs ln vl ow : Nat → Int32} (h : rq_WF H m ow st) : rq_WF H m (rq_Z H st tg bs ln vl ow).2.2.2.2.1 (rq_Z H st tg bs ln vl ow).2.2.2.2.2 := by
  refine rq_WF_rel h (fun w hw => ?_) (fun w hw => ?_)
  · have q := (rq_rF ((rq_V H st tg bs).1, bs, ln, vl, ow, st) H w).1
    unfold rq_Z
    rw [q]
    by_cases c : st w = 2
    · rw [if_pos c, if_pos ⟨hw, c⟩]
    · rw [if_neg c, if_neg (fun z => c z.2)]
  · have q := (rq_rF ((rq_V H st tg bs).1, bs, ln, vl, ow, st) H w).2
    unfold rq_Z
    rw [q]
    by_cases c : st w = 2
    · rw [if_pos c, if_pos ⟨hw, c⟩]
    · rw [if_neg c, if_neg (fun z => c z.2)]
/-- longest (s.1) and running (s.2) count of FREE words -/
def rq_lS (st : Nat → Int32) : Nat → Int32 × Int32 → Int32 × Int32 := fun i s =>
  if st i = 0 then (if s.2 + 1 ≤ s.1 then (s.1, s.2 + 1) else (s.2 + 1, s.2 + 1)) else (if 0 ≤ s.1 then (s.1, 0) else (0, 0))
theorem rq_l1 {st : Nat → Int32} {i : Nat} {s : Int32 × Int32} (z : st i = 0) (y : s.2 + 1 ≤ s.1) : rq_lS st i s = (s.1, s.2 + 1) := by
  unfold rq_lS; rw [if_pos z, if_pos y]
theorem rq_l2 {st : Nat → Int32} {i : Nat} {s : Int32 × Int32} (z : st i = 0) (y : ¬ s.2 + 1 ≤ s.1) : rq_lS st i s = (s.2 + 1, s.2 + 1) := by
  unfold rq_lS; rw [if_pos z, if_neg y]
theorem rq_l3 {st : Nat → Int32} {i : Nat} {s : Int32 × Int32} (z : ¬ st i = 0) (y : 0 ≤ s.1) : rq_lS st i s = (s.1, 0) := by
  unfold rq_lS; rw [if_neg z, if_pos y]
theorem rq_l4 {st : Nat → Int32} {i : Nat} {s : Int32 × Int32} (z : ¬ st i = 0) (y : ¬ 0 ≤ s.1) : rq_lS st i s = (0, 0) := by
  unfold rq_lS; rw [if_neg z, if_neg y]
theorem rq_WF_K {H m a n : Nat} {ow st : Nat → Int32} {tg bs ln vl : Nat → Int32} (h : rq_WF H m ow st) (hm : m + 1 < 2 ^ 31)
    (ha : ∀ j, j < n → st (a + j) = 0) (hH : a + n ≤ H) :
    rq_WF H (m + 1) (rq_fold (rq_kS a (nI (m + 1))) (tg, bs, ln, vl, ow, st) n).2.2.2.2.1 (rq_fold (rq_kS a (nI (m + 1))) (tg, bs, ln, vl, ow, st) n).2.2.2.2.2 :=
  rq_WF_claim h hm ha hH (fun w => (rq_kF (tg, bs, ln, vl, ow, st) a (nI (m + 1)) n w).1) (fun w => (rq_kF (tg, bs, ln, vl, ow, st) a (nI (m + 1)) n w).2)
theorem rq_WF_Q {H m : Nat} {ow st : Nat → Int32} {s : Int32} (h : rq_WF H m ow st) : rq_WF H m ow (rq_fold (rq_qS ow s) st H) := by
  refine rq_WF_quar (s := s) h (fun w hw => ?_)
  rw [rq_qF ow st s H w]
  by_cases c : ow w = s
  · rw [if_pos c, if_pos ⟨hw, c⟩]
  · rw [if_neg c, if_neg (fun z => c z.2)]
end
section
variable {H : Nat} {h t al sw ld : Int32} {tg bs ln vl ow st rt rb rl ra : Nat → Int32}

theorem xq_setW {post : SX → Prop} {p0 p1 p2 p3 p4 : Int32} {j : Nat} (w : vp_in p0 64) (e : p0.toNatClampNeg = j)
    (p : post (h, t, al, sw, ld, upd tg j (vp_nar .boolean p1), upd bs j p2, upd ln j p3, upd vl j p4, ow, st, rt, rb, rl, ra)) :
    wpX_setWord post (h, t, al, sw, ld, tg, bs, ln, vl, ow, st, rt, rb, rl, ra) p0 p1 p2 p3 p4 := by
  subst e
  exact ⟨w, nm_e ⟨w, nm_e ⟨w, nm_e ⟨w, nm_e p⟩⟩⟩⟩
theorem xq_setR {post : SX → Prop} {p0 p1 p2 p3 p4 : Int32} (w : vp_in p0 8)
    (p : post (h, t, al, sw, ld, tg, bs, ln, vl, ow, st, upd rt p0.toNatClampNeg (vp_nar .boolean p1), upd rb p0.toNatClampNeg p2, upd rl p0.toNatClampNeg p3, upd ra p0.toNatClampNeg p4)) :
    wpX_setRegister post (h, t, al, sw, ld, tg, bs, ln, vl, ow, st, rt, rb, rl, ra) p0 p1 p2 p3 p4 :=
  ⟨w, nm_e ⟨w, nm_e ⟨w, nm_e ⟨w, nm_e p⟩⟩⟩⟩

theorem xq_q1 {post : Int32 → Prop} {b : Int32} (y : b < 0) (p : post 0) : wpX_isQuarantined post (h, t, al, sw, ld, tg, bs, ln, vl, ow, st, rt, rb, rl, ra) b := by
  unfold wpX_isQuarantined wpX_isWord
  exact br_t y (br_t rfl p)
theorem xq_q2 {post : Int32 → Prop} {b : Int32} (y : ¬ b < 0) (x : h ≤ b) (p : post 0) : wpX_isQuarantined post (h, t, al, sw, ld, tg, bs, ln, vl, ow, st, rt, rb, rl, ra) b := by
  unfold wpX_isQuarantined wpX_isWord
  exact br_f y (br_t x (br_t rfl p))
theorem xq_q3 {post : Int32 → Prop} {b : Int32} (y : ¬ b < 0) (x : ¬ h ≤ b) (w : vp_in b 64) (q : ¬ st b.toNatClampNeg = 2) (p : post 0) : wpX_isQuarantined post (h, t, al, sw, ld, tg, bs, ln, vl, ow, st, rt, rb, rl, ra) b := by
  unfold wpX_isQuarantined wpX_isWord
  exact br_f y (br_f x (br_f (by decide) ⟨w, br_f q p⟩))
theorem xq_q4 {post : Int32 → Prop} {b : Int32} (y : ¬ b < 0) (x : ¬ h ≤ b) (w : vp_in b 64) (q : st b.toNatClampNeg = 2) (p : post 1) : wpX_isQuarantined post (h, t, al, sw, ld, tg, bs, ln, vl, ow, st, rt, rb, rl, ra) b := by
  unfold wpX_isQuarantined wpX_isWord
  exact br_f y (br_f x (br_f (by decide) ⟨w, br_t q p⟩))
theorem rq_bin {b : Int32} (hH : H ≤ 64) (y : ¬ b < 0) (x : ¬ nI H ≤ b) : vp_in b 64 := by
  rcases rq_hc b hH with q | q | ⟨j, _, _, _, _, _, _, w, _⟩
  · exact absurd q.1 y
  · exact absurd q.2.2.2 x
  · exact w

theorem xq_cntS {post : Int32 → Prop} {s : Int32} (hH : H ≤ 64) (p : post (rq_fold (rq_cS st s) 0 H)) : wpX_countInState post (nI H, t, al, sw, ld, tg, bs, ln, vl, ow, st, rt, rb, rl, ra) s := by
  refine rq_loop (fun n i c => wX_countInState_4 post s (nI H) t al sw ld tg bs ln vl ow st rt rb rl ra n c (nI i)) (rq_cS st s) H 0 ?_ (fun n => br_t (nI_le (Nat.le_refl _) (by omega)) p)
  intro n i c hi k
  have e : (nI i).toNatClampNeg = i := nI_clamp (by omega)
  have g : ¬ nI H ≤ nI i := nI_ge hi (by omega)
  have w : vp_in (nI i) 64 := vp_in_nI (by omega) (by omega)
  by_cases z : st i = s
  · rw [rq_cS_t z] at k
    exact br_f g ⟨w, br_t (by rw [e]; exact z) (nm_e (nm_r (nI_1 i) k))⟩
  · rw [rq_cS_f z] at k
    exact br_f g ⟨w, br_f (by rw [e]; exact z) (nm_r (nI_1 i) k)⟩

theorem xq_cntO {post : Int32 → Prop} {s : Int32} (hH : H ≤ 64) (p : post (rq_fold (rq_cS ow s) 0 H)) : wpX_countOwnedBy post (nI H, t, al, sw, ld, tg, bs, ln, vl, ow, st, rt, rb, rl, ra) s := by
  refine rq_loop (fun n i c => wX_countOwnedBy_4 post s (nI H) t al sw ld tg bs ln vl ow st rt rb rl ra n c (nI i)) (rq_cS ow s) H 0 ?_ (fun n => br_t (nI_le (Nat.le_refl _) (by omega)) p)
  intro n i c hi k
  have e : (nI i).toNatClampNeg = i := nI_clamp (by omega)
  have g : ¬ nI H ≤ nI i := nI_ge hi (by omega)
  have w : vp_in (nI i) 64 := vp_in_nI (by omega) (by omega)
  by_cases z : ow i = s
  · rw [rq_cS_t z] at k
    exact br_f g ⟨w, br_t (by rw [e]; exact z) (nm_e (nm_r (nI_1 i) k))⟩
  · rw [rq_cS_f z] at k
    exact br_f g ⟨w, br_f (by rw [e]; exact z) (nm_r (nI_1 i) k)⟩

theorem xq_long {post : Int32 → Prop} (hH : H ≤ 64) (p : post (rq_fold (rq_lS st) (0, 0) H).1) : ∃ n, wX_longestFreeRun_6 post (nI H) t al sw ld tg bs ln vl ow st rt rb rl ra n 0 0 0 := by
  refine rq_loop (fun n i s => wX_longestFreeRun_6 post (nI H) t al sw ld tg bs ln vl ow st rt rb rl ra n s.1 s.2 (nI i)) (rq_lS st) H (0, 0) ?_ (fun n => br_t (nI_le (Nat.le_refl _) (by omega)) p)
  intro n i s hi k
  have e : (nI i).toNatClampNeg = i := nI_clamp (by omega)
  have g : ¬ nI H ≤ nI i := nI_ge hi (by omega)
  have w : vp_in (nI i) 64 := vp_in_nI (by omega) (by omega)
  by_cases z : st i = 0
  · by_cases y : s.2 + 1 ≤ s.1
    · rw [rq_l1 z y] at k
      exact br_f g ⟨w, br_t (by rw [e]; exact z) (br_t y (nm_r (nI_1 i) k))⟩
    · rw [rq_l2 z y] at k
      exact br_f g ⟨w, br_t (by rw [e]; exact z) (br_f y (nm_r (nI_1 i) k))⟩
  · by_cases y : 0 ≤ s.1
    · rw [rq_l3 z y] at k
      exact br_f g ⟨w, br_f (by rw [e]; exact z) (br_t y (nm_r (nI_1 i) k))⟩
    · rw [rq_l4 z y] at k
      exact br_f g ⟨w, br_f (by rw [e]; exact z) (br_f y (nm_r (nI_1 i) k))⟩

theorem xq_revR {post : Int32 → SX → Prop} (hH : H ≤ 64) (p : post (rq_R H st rt rb).2 (nI H, t, al, sw, ld, tg, bs, ln, vl, ow, st, (rq_R H st rt rb).1, rb, rl, ra)) : wpX_revokeRegisters post (nI H, t, al, sw, ld, tg, bs, ln, vl, ow, st, rt, rb, rl, ra) := by
  refine rq_loop (fun n i s => wX_revokeRegisters_4 post (nI H) t al sw ld n s.2 (nI i) tg bs ln vl ow st s.1 rb rl ra) (rq_vS H rb st) 8 (rt, 0) ?_ (fun n => br_t (nI_le (Nat.le_refl _) (by omega)) p)
  intro n i s hi k
  have e : (nI i).toNatClampNeg = i := nI_clamp (by omega)
  have g : ¬ (8 : Int32) ≤ nI i := nI_ge (b := 8) hi (by omega)
  have w : vp_in (nI i) 8 := vp_in_nI (by omega) (by omega)
  by_cases z : s.1 i = 0
  · rw [rq_v1 z] at k
    exact br_f g ⟨w, br_t (by rw [e]; exact z) (nm_r (nI_1 i) k)⟩
  · have z' : ¬ s.1 (nI i).toNatClampNeg = 0 := by rw [e]; exact z
    by_cases y : rb i < 0
    · rw [rq_v2 z y] at k
      exact br_f g ⟨w, br_f z' ⟨w, xq_q1 (by rw [e]; exact y) (br_t rfl (nm_r (nI_1 i) k))⟩⟩
    · by_cases x : nI H ≤ rb i
      · rw [rq_v3 z y x] at k
        exact br_f g ⟨w, br_f z' ⟨w, xq_q2 (by rw [e]; exact y) (by rw [e]; exact x) (br_t rfl (nm_r (nI_1 i) k))⟩⟩
      · by_cases q : st (rb i).toNatClampNeg = 2
        · rw [rq_v4 z y x q] at k
          exact br_f g ⟨w, br_f z' ⟨w, xq_q4 (by rw [e]; exact y) (by rw [e]; exact x) (by rw [e]; exact rq_bin hH y x) (by rw [e]; exact q) (br_f (by decide) ⟨w, nm_r (by rw [e] <;> rfl) (nm_e (nm_r (nI_1 i) k))⟩)⟩⟩
        · rw [rq_v5 z y x q] at k
          exact br_f g ⟨w, br_f z' ⟨w, xq_q3 (by rw [e]; exact y) (by rw [e]; exact x) (by rw [e]; exact rq_bin hH y x) (by rw [e]; exact q) (br_t rfl (nm_r (nI_1 i) k))⟩⟩

theorem xq_revW {post : Int32 → SX → Prop} (hH : H ≤ 64) (p : post (rq_V H st tg bs).2 (nI H, t, al, sw, ld, (rq_V H st tg bs).1, bs, ln, vl, ow, st, rt, rb, rl, ra)) : wpX_revokeWords post (nI H, t, al, sw, ld, tg, bs, ln, vl, ow, st, rt, rb, rl, ra) := by
  refine rq_loop (fun n i s => wX_revokeWords_4 post (nI H) t al sw ld n s.2 (nI i) s.1 bs ln vl ow st rt rb rl ra) (rq_vS H bs st) H (tg, 0) ?_ (fun n => br_t (nI_le (Nat.le_refl _) (by omega)) p)
  intro n i s hi k
  have e : (nI i).toNatClampNeg = i := nI_clamp (by omega)
  have g : ¬ nI H ≤ nI i := nI_ge (b := H) hi (by omega)
  have w : vp_in (nI i) 64 := vp_in_nI (by omega) (by omega)
  by_cases z : s.1 i = 0
  · rw [rq_v1 z] at k
    exact br_f g ⟨w, br_t (by rw [e]; exact z) (nm_r (nI_1 i) k)⟩
  · have z' : ¬ s.1 (nI i).toNatClampNeg = 0 := by rw [e]; exact z
    by_cases y : bs i < 0
    · rw [rq_v2 z y] at k
      exact br_f g ⟨w, br_f z' ⟨w, xq_q1 (by rw [e]; exact y) (br_t rfl (nm_r (nI_1 i) k))⟩⟩
    · by_cases x : nI H ≤ bs i
      · rw [rq_v3 z y x] at k
        exact br_f g ⟨w, br_f z' ⟨w, xq_q2 (by rw [e]; exact y) (by rw [e]; exact x) (br_t rfl (nm_r (nI_1 i) k))⟩⟩
      · by_cases q : st (bs i).toNatClampNeg = 2
        · rw [rq_v4 z y x q] at k
          exact br_f g ⟨w, br_f z' ⟨w, xq_q4 (by rw [e]; exact y) (by rw [e]; exact x) (by rw [e]; exact rq_bin hH y x) (by rw [e]; exact q) (br_f (by decide) ⟨w, nm_r (by rw [e] <;> rfl) (nm_e (nm_r (nI_1 i) k))⟩)⟩⟩
        · rw [rq_v5 z y x q] at k
          exact br_f g ⟨w, br_f z' ⟨w, xq_q3 (by rw [e]; exact y) (by rw [e]; exact x) (by rw [e]; exact rq_bin hH y x) (by rw [e]; exact q) (br_t rfl (nm_r (nI_1 i) k))⟩⟩

theorem xq_rel {post : SX → Prop} (hH : H ≤ 64) (p : ∀ z : rq_M, z = rq_fold rq_rS (tg, bs, ln, vl, ow, st) H → post (nI H, t, al, sw, ld, z.1, z.2.1, z.2.2.1, z.2.2.2.1, z.2.2.2.2.1, z.2.2.2.2.2, rt, rb, rl, ra)) : wpX_releaseQuarantine post (nI H, t, al, sw, ld, tg, bs, ln, vl, ow, st, rt, rb, rl, ra) := by
  refine rq_loop (fun n i (s : rq_M) => wX_releaseQuarantine_2 post n (nI i) (nI H) t al sw ld s.1 s.2.1 s.2.2.1 s.2.2.2.1 s.2.2.2.2.1 s.2.2.2.2.2 rt rb rl ra) rq_rS H (tg, bs, ln, vl, ow, st) ?_ (fun n => br_t (nI_le (Nat.le_refl _) (by omega)) (p _ rfl))
  intro n i s hi k
  have e : (nI i).toNatClampNeg = i := nI_clamp (by omega)
  have g : ¬ nI H ≤ nI i := nI_ge hi (by omega)
  have w : vp_in (nI i) 64 := vp_in_nI (by omega) (by omega)
  by_cases z : s.2.2.2.2.2 i = 2
  · rw [rq_rS_t z] at k
    exact br_f g ⟨w, br_t (by rw [e]; exact z) (xq_setW w e ⟨w, nm_r (by rw [e] <;> rfl) ⟨w, nm_r (by rw [e] <;> rfl) (nm_r (nI_1 i) k)⟩⟩)⟩
  · rw [rq_rS_f z] at k
    exact br_f g ⟨w, br_f (by rw [e]; exact z) (nm_r (nI_1 i) k)⟩
theorem xq_sweep {post : Int32 → SX → Prop} (hH : H ≤ 64) (p : ∀ z : rq_M, z = rq_Z H st tg bs ln vl ow → post ((rq_R H st rt rb).2 + (rq_V H st tg bs).2) (nI H, t, al, sw + 1, ld, z.1, z.2.1, z.2.2.1, z.2.2.2.1, z.2.2.2.2.1, z.2.2.2.2.2, (rq_R H st rt rb).1, rb, rl, ra)) : wpX_runSweep post (nI H, t, al, sw, ld, tg, bs, ln, vl, ow, st, rt, rb, rl, ra) := by
  unfold wpX_runSweep
  refine xq_revR hH ?_
  refine xq_revW hH ?_
  refine nm_e ?_
  refine xq_rel hH (fun z hz => ?_)
  exact nm_e (p z hz)
theorem xq_claim {post : SX → Prop} {a n : Nat} {o : Int32} (ha : a + n ≤ 64) (p : ∀ z : rq_M, z = rq_fold (rq_kS a o) (tg, bs, ln, vl, ow, st) n → post (h, t, al, sw, ld, z.1, z.2.1, z.2.2.1, z.2.2.2.1, z.2.2.2.2.1, z.2.2.2.2.2, rt, rb, rl, ra)) : wpX_claimWords post (h, t, al, sw, ld, tg, bs, ln, vl, ow, st, rt, rb, rl, ra) (nI a) (nI n) o := by
  refine rq_loop (fun f i (s : rq_M) => wX_claimWords_3 post (nI a) (nI n) o f (nI (a + i)) h t al sw ld s.1 s.2.1 s.2.2.1 s.2.2.2.1 s.2.2.2.2.1 s.2.2.2.2.2 rt rb rl ra) (rq_kS a o) n (tg, bs, ln, vl, ow, st) ?_ (fun f => br_t (by rw [nI_add]; exact nI_le (Nat.le_refl _) (by omega)) (p _ rfl))
  intro f i s hi k
  have e : (nI (a + i)).toNatClampNeg = a + i := nI_clamp (by omega)
  have g : ¬ nI a + nI n ≤ nI (a + i) := by rw [nI_add]; exact nI_ge (by omega) (by omega)
  have w : vp_in (nI (a + i)) 64 := vp_in_nI (by omega) (by omega)
  exact br_f g (xq_setW w e ⟨w, nm_r (by rw [e] <;> rfl) ⟨w, nm_r (by rw [e] <;> rfl) (nm_r (nI_1 (a + i)) k)⟩⟩)
theorem xq_quar {post : SX → Prop} {s : Int32} (hH : H ≤ 64) (p : post (nI H, t, al, sw, ld, tg, bs, ln, vl, ow, rq_fold (rq_qS ow s) st H, rt, rb, rl, ra)) : wpX_quarantineBlock post (nI H, t, al, sw, ld, tg, bs, ln, vl, ow, st, rt, rb, rl, ra) s := by
  refine rq_loop (fun n i c => wX_quarantineBlock_2 post s (nI H) t al sw ld n (nI i) tg bs ln vl ow c rt rb rl ra) (rq_qS ow s) H st ?_ (fun n => br_t (nI_le (Nat.le_refl _) (by omega)) p)
  intro n i c hi k
  have e : (nI i).toNatClampNeg = i := nI_clamp (by omega)
  have g : ¬ nI H ≤ nI i := nI_ge hi (by omega)
  have w : vp_in (nI i) 64 := vp_in_nI (by omega) (by omega)
  by_cases z : ow i = s
  · rw [rq_qS_t z] at k
    exact br_f g ⟨w, br_t (by rw [e]; exact z) ⟨w, nm_r (by rw [e] <;> rfl) (nm_r (nI_1 i) k)⟩⟩
  · rw [rq_qS_f z] at k
    exact br_f g ⟨w, br_f (by rw [e]; exact z) (nm_r (nI_1 i) k)⟩
theorem xq_ff {post : Int32 → Prop} {n : Nat} (hH : H ≤ 64) (hn : 1 ≤ n) (hnH : n ≤ H) (p : ∀ r, rq_FF st H n r → post r) : wpX_firstFit post (nI H, t, al, sw, ld, tg, bs, ln, vl, ow, st, rt, rb, rl, ra) (nI n) := by
  have key : ∀ d i q, i + d = H → rq_FI st n i q → wX_firstFit_4 post (nI n) (nI H) t al sw ld tg bs ln vl ow st rt rb rl ra (d + 1) (nI q) (nI i) := by
    intro d
    induction d with
    | zero =>
      intro i q hi I
      have q' : i = H := by omega
      subst q'
      exact br_t (nI_le (Nat.le_refl _) (by omega)) (p _ (rq_FI_end I))
    | succ d ih =>
      intro i q hi I
      have e : (nI i).toNatClampNeg = i := nI_clamp (by omega)
      have g : ¬ nI H ≤ nI i := nI_ge (by omega) (by omega)
      have w : vp_in (nI i) 64 := vp_in_nI (by omega) (by omega)
      have hq := I.2.1
      by_cases z : st i = 0
      · have z' : st (nI i).toNatClampNeg = 0 := by rw [e]; exact z
        by_cases c : q + 1 = n
        · have e2 : nI i - nI n + 1 = nI (i + 1 - n) := by
            have := I.1
            rw [← pk_sub (by omega), ← nI_1 i]
            grind
          exact br_f g ⟨w, br_t z' (br_t (by rw [nI_1, c]) (by rw [e2]; exact p _ (rq_FI_hit I z c (by omega))))⟩
        · have k := ih (i + 1) (q + 1) (by omega) (rq_FI_free I z c)
          rw [← nI_1 q] at k
          exact br_f g ⟨w, br_t z' (br_f (by rw [nI_1, nI_eq (by omega) (by omega)]; exact c) (nm_r (nI_1 i) k))⟩
      · have k := ih (i + 1) 0 (by omega) (rq_FI_busy I z)
        exact br_f g ⟨w, br_f (by rw [e]; exact z) (br_f (fun y => nI_ne0 (by omega) (by omega) y.symm) (nm_r (nI_1 i) k))⟩
  exact ⟨H + 1, key H 0 0 (by omega) (rq_FI0 hn)⟩
end
section
variable {H : Nat} {h t al sw ld : Int32} {tg bs ln vl ow st rt rb rl ra : Nat → Int32}

theorem yq_cntS {post : Int32 → Prop} {s : Int32} (hH : H ≤ 64) (p : post (rq_fold (rq_cS st s) 0 H)) : wpY_countState post (nI H, t, al, sw, ld, tg, bs, ln, vl, ow, st, rt, rb, rl, ra) s := by
  refine rq_loop (fun n i c => wY_countState_4 post s (nI H) t al sw ld tg bs ln vl ow st rt rb rl ra n c (nI i)) (rq_cS st s) H 0 ?_ (fun n => br_t (nI_le (Nat.le_refl _) (by omega)) p)
  intro n i c hi k
  have e : (nI i).toNatClampNeg = i := nI_clamp (by omega)
  have g : ¬ nI H ≤ nI i := nI_ge hi (by omega)
  have w : vp_in (nI i) 64 := vp_in_nI (by omega) (by omega)
  by_cases z : st i = s
  · rw [rq_cS_t z] at k
    exact br_f g ⟨w, br_t (by rw [e]; exact z) (nm_e (nm_r (nI_1 i) k))⟩
  · rw [rq_cS_f z] at k
    exact br_f g ⟨w, br_f (by rw [e]; exact z) (nm_r (nI_1 i) k)⟩

theorem yq_long {post : Int32 → Prop} (hH : H ≤ 64) (p : post (rq_fold (rq_lS st) (0, 0) H).1) : ∃ n, wY_stat_54 post (nI H) t al sw ld tg bs ln vl ow st rt rb rl ra n 0 0 0 := by
  refine rq_loop (fun n i s => wY_stat_54 post (nI H) t al sw ld tg bs ln vl ow st rt rb rl ra n s.1 s.2 (nI i)) (rq_lS st) H (0, 0) ?_ (fun n => br_t (nI_le (Nat.le_refl _) (by omega)) p)
  intro n i s hi k
  have e : (nI i).toNatClampNeg = i := nI_clamp (by omega)
  have g : ¬ nI H ≤ nI i := nI_ge hi (by omega)
  have w : vp_in (nI i) 64 := vp_in_nI (by omega) (by omega)
  by_cases z : st i = 0
  · by_cases y : s.2 + 1 ≤ s.1
    · rw [rq_l1 z y] at k
      exact br_f g ⟨w, br_t (by rw [e]; exact z) (br_t y (nm_r (nI_1 i) k))⟩
    · rw [rq_l2 z y] at k
      exact br_f g ⟨w, br_t (by rw [e]; exact z) (br_f y (nm_r (nI_1 i) k))⟩
  · by_cases y : 0 ≤ s.1
    · rw [rq_l3 z y] at k
      exact br_f g ⟨w, br_f (by rw [e]; exact z) (br_t y (nm_r (nI_1 i) k))⟩
    · rw [rq_l4 z y] at k
      exact br_f g ⟨w, br_f (by rw [e]; exact z) (br_f y (nm_r (nI_1 i) k))⟩

theorem yq_revR {post : Int32 → SY → Prop} (hH : H ≤ 64) (p : ∃ n, wY_runSweep_74 post (nI H) t al sw ld n (rq_R H st rt rb).2 0 tg bs ln vl ow st (rq_R H st rt rb).1 rb rl ra) : wpY_runSweep post (nI H, t, al, sw, ld, tg, bs, ln, vl, ow, st, rt, rb, rl, ra) := by
  refine rq_loop (fun n i s => wY_runSweep_4 post (nI H) t al sw ld n s.2 (nI i) tg bs ln vl ow st s.1 rb rl ra) (rq_vS H rb st) 8 (rt, 0) ?_ (fun n => br_t (nI_le (Nat.le_refl _) (by omega)) p)
  intro n i s hi k
  have e : (nI i).toNatClampNeg = i := nI_clamp (by omega)
  have g : ¬ (8 : Int32) ≤ nI i := nI_ge (b := 8) hi (by omega)
  have w : vp_in (nI i) 8 := vp_in_nI (by omega) (by omega)
  by_cases z : s.1 i = 0
  · rw [rq_v1 z] at k
    exact br_f g ⟨w, br_t (by rw [e]; exact z) (nm_r (nI_1 i) k)⟩
  · have z' : ¬ s.1 (nI i).toNatClampNeg = 0 := by rw [e]; exact z
    by_cases y : rb i < 0
    · rw [rq_v2 z y] at k
      exact br_f g ⟨w, br_f z' ⟨w, br_t (by rw [e]; exact y) (nm_r (nI_1 i) k)⟩⟩
    · have y' : ¬ rb (nI i).toNatClampNeg < 0 := by rw [e]; exact y
      by_cases x : nI H ≤ rb i
      · rw [rq_v3 z y x] at k
        exact br_f g ⟨w, br_f z' ⟨w, br_f y' ⟨w, br_t (by rw [e]; exact x) (nm_r (nI_1 i) k)⟩⟩⟩
      · have x' : ¬ nI H ≤ rb (nI i).toNatClampNeg := by rw [e]; exact x
        have w2 : vp_in (rb (nI i).toNatClampNeg) 64 := rq_bin hH y' x'
        by_cases q : st (rb i).toNatClampNeg = 2
        · rw [rq_v4 z y x q] at k
          exact br_f g ⟨w, br_f z' ⟨w, br_f y' ⟨w, br_f x' ⟨w, w2, br_t (by rw [e]; exact q) ⟨w, nm_r (by rw [e] <;> rfl) (nm_e (nm_r (nI_1 i) k))⟩⟩⟩⟩⟩
        · rw [rq_v5 z y x q] at k
          exact br_f g ⟨w, br_f z' ⟨w, br_f y' ⟨w, br_f x' ⟨w, w2, br_f (by rw [e]; exact q) (nm_r (nI_1 i) k)⟩⟩⟩⟩

theorem yq_revW {post : Int32 → SY → Prop} {c : Int32} (hH : H ≤ 64) (p : ∃ n, wY_runSweep_146 post (c + (rq_V H st tg bs).2) (nI H) t al sw ld n 0 (rq_V H st tg bs).1 bs ln vl ow st rt rb rl ra) : ∃ n, wY_runSweep_74 post (nI H) t al sw ld n c 0 tg bs ln vl ow st rt rb rl ra := by
  have E := rq_shift (H := H) (b := bs) (st := st) (a := tg) c H
  have p' : ∃ n, wY_runSweep_146 post (rq_fold (rq_vS H bs st) (tg, c) H).2 (nI H) t al sw ld n 0 (rq_fold (rq_vS H bs st) (tg, c) H).1 bs ln vl ow st rt rb rl ra := by
    rw [E]; exact p
  refine rq_loop (fun n i s => wY_runSweep_74 post (nI H) t al sw ld n s.2 (nI i) s.1 bs ln vl ow st rt rb rl ra) (rq_vS H bs st) H (tg, c) ?_ (fun n => br_t (nI_le (Nat.le_refl _) (by omega)) p')
  intro n i s hi k
  have e : (nI i).toNatClampNeg = i := nI_clamp (by omega)
  have g : ¬ nI H ≤ nI i := nI_ge (b := H) hi (by omega)
  have w : vp_in (nI i) 64 := vp_in_nI (by omega) (by omega)
  by_cases z : s.1 i = 0
  · rw [rq_v1 z] at k
    exact br_f g ⟨w, br_t (by rw [e]; exact z) (nm_r (nI_1 i) k)⟩
  · have z' : ¬ s.1 (nI i).toNatClampNeg = 0 := by rw [e]; exact z
    by_cases y : bs i < 0
    · rw [rq_v2 z y] at k
      exact br_f g ⟨w, br_f z' ⟨w, br_t (by rw [e]; exact y) (nm_r (nI_1 i) k)⟩⟩
    · have y' : ¬ bs (nI i).toNatClampNeg < 0 := by rw [e]; exact y
      by_cases x : nI H ≤ bs i
      · rw [rq_v3 z y x] at k
        exact br_f g ⟨w, br_f z' ⟨w, br_f y' ⟨w, br_t (by rw [e]; exact x) (nm_r (nI_1 i) k)⟩⟩⟩
      · have x' : ¬ nI H ≤ bs (nI i).toNatClampNeg := by rw [e]; exact x
        have w2 : vp_in (bs (nI i).toNatClampNeg) 64 := rq_bin hH y' x'
        by_cases q : st (bs i).toNatClampNeg = 2
        · rw [rq_v4 z y x q] at k
          exact br_f g ⟨w, br_f z' ⟨w, br_f y' ⟨w, br_f x' ⟨w, w2, br_t (by rw [e]; exact q) ⟨w, nm_r (by rw [e] <;> rfl) (nm_e (nm_r (nI_1 i) k))⟩⟩⟩⟩⟩
        · rw [rq_v5 z y x q] at k
          exact br_f g ⟨w, br_f z' ⟨w, br_f y' ⟨w, br_f x' ⟨w, w2, br_f (by rw [e]; exact q) (nm_r (nI_1 i) k)⟩⟩⟩⟩

theorem yq_rel {post : Int32 → SY → Prop} {c : Int32} (hH : H ≤ 64) (p : ∀ z : rq_M, z = rq_fold rq_rS (tg, bs, ln, vl, ow, st) H → post c (nI H, t, al, sw + 1, ld, z.1, z.2.1, z.2.2.1, z.2.2.2.1, z.2.2.2.2.1, z.2.2.2.2.2, rt, rb, rl, ra)) : ∃ n, wY_runSweep_146 post c (nI H) t al sw ld n 0 tg bs ln vl ow st rt rb rl ra := by
  refine rq_loop (fun n i (s : rq_M) => wY_runSweep_146 post c (nI H) t al sw ld n (nI i) s.1 s.2.1 s.2.2.1 s.2.2.2.1 s.2.2.2.2.1 s.2.2.2.2.2 rt rb rl ra) rq_rS H (tg, bs, ln, vl, ow, st) ?_ (fun n => br_t (nI_le (Nat.le_refl _) (by omega)) (nm_e (p _ rfl)))
  intro n i s hi k
  have e : (nI i).toNatClampNeg = i := nI_clamp (by omega)
  have g : ¬ nI H ≤ nI i := nI_ge hi (by omega)
  have w : vp_in (nI i) 64 := vp_in_nI (by omega) (by omega)
  by_cases z : s.2.2.2.2.2 i = 2
  · rw [rq_rS_t z] at k
    exact br_f g ⟨w, br_t (by rw [e]; exact z) ⟨w, nm_r (by rw [e] <;> rfl) ⟨w, nm_r (by rw [e] <;> rfl) ⟨w, nm_r (by rw [e] <;> rfl) ⟨w, nm_r (by rw [e] <;> rfl) ⟨w, nm_r (by rw [e] <;> rfl) ⟨w, nm_r (by rw [e] <;> rfl) (nm_r (nI_1 i) k)⟩⟩⟩⟩⟩⟩⟩
  · rw [rq_rS_f z] at k
    exact br_f g ⟨w, br_f (by rw [e]; exact z) (nm_r (nI_1 i) k)⟩
theorem yq_sweep {post : Int32 → SY → Prop} (hH : H ≤ 64) (p : ∀ z : rq_M, z = rq_Z H st tg bs ln vl ow → post ((rq_R H st rt rb).2 + (rq_V H st tg bs).2) (nI H, t, al, sw + 1, ld, z.1, z.2.1, z.2.2.1, z.2.2.2.1, z.2.2.2.2.1, z.2.2.2.2.2, (rq_R H st rt rb).1, rb, rl, ra)) : wpY_runSweep post (nI H, t, al, sw, ld, tg, bs, ln, vl, ow, st, rt, rb, rl, ra) := by
  refine yq_revR hH ?_
  refine yq_revW hH ?_
  exact yq_rel hH p
theorem yq_claim {post : Int32 → SY → Prop} {a n : Nat} {rd : Int32} (v : vp_in rd 8) (ha : a + n ≤ 64) (p : ∀ z : rq_M, z = rq_fold (rq_kS a al) (tg, bs, ln, vl, ow, st) n → post (nI a) (h, t, al, sw, ld, z.1, z.2.1, z.2.2.1, z.2.2.2.1, z.2.2.2.2.1, z.2.2.2.2.2, upd rt rd.toNatClampNeg (vp_nar .boolean 1), upd rb rd.toNatClampNeg (nI a), upd rl rd.toNatClampNeg (nI n), upd ra rd.toNatClampNeg (nI a))) : ∃ f, wY_alloc_75 post rd (nI n) (nI a) h t al sw ld f 0 tg bs ln vl ow st rt rb rl ra := by
  refine rq_loop (fun f i (s : rq_M) => wY_alloc_75 post rd (nI n) (nI a) h t al sw ld f (nI i) s.1 s.2.1 s.2.2.1 s.2.2.2.1 s.2.2.2.2.1 s.2.2.2.2.2 rt rb rl ra) (rq_kS a al) n (tg, bs, ln, vl, ow, st) ?_ (fun f => br_t (nI_le (Nat.le_refl _) (by omega)) ⟨v, nm_e ⟨v, nm_e ⟨v, nm_e ⟨v, nm_e (p _ rfl)⟩⟩⟩⟩)
  intro f i s hi k
  have e : (nI a + nI i).toNatClampNeg = a + i := by rw [nI_add]; exact nI_clamp (by omega)
  have g : ¬ nI n ≤ nI i := nI_ge hi (by omega)
  have w : vp_in (nI a + nI i) 64 := by rw [nI_add]; exact vp_in_nI (by omega) (by omega)
  exact br_f g ⟨w, nm_r (by rw [e] <;> rfl) ⟨w, nm_r (by rw [e] <;> rfl) ⟨w, nm_r (by rw [e] <;> rfl) ⟨w, nm_r (by rw [e] <;> rfl) ⟨w, nm_r (by rw [e] <;> rfl) ⟨w, nm_r (by rw [e] <;> rfl) (nm_r (nI_1 i) k)⟩⟩⟩⟩⟩⟩
theorem yq_quar {post : Int32 → SY → Prop} {s : Int32} {st' : Nat → Int32} (hH : H ≤ 64) (hs : st' = rq_fold (rq_qS ow s) st H)
    (p0 : rq_fold (rq_cS st' 2) 0 H < t → post 0 (nI H, t, al, sw, ld, tg, bs, ln, vl, ow, st', rt, rb, rl, ra))
    (p1 : ¬ rq_fold (rq_cS st' 2) 0 H < t → ∀ z : rq_M, z = rq_Z H st' tg bs ln vl ow → post 1 (nI H, t, al, sw + 1, ld, z.1, z.2.1, z.2.2.1, z.2.2.2.1, z.2.2.2.2.1, z.2.2.2.2.2, (rq_R H st' rt rb).1, rb, rl, ra)) :
    ∃ n, wY_free_135 post s (nI H) t al sw ld n 0 tg bs ln vl ow st rt rb rl ra := by
  refine rq_loop (fun n i c => wY_free_135 post s (nI H) t al sw ld n (nI i) tg bs ln vl ow c rt rb rl ra) (rq_qS ow s) H st ?_ (fun n => br_t (nI_le (Nat.le_refl _) (by omega)) ?_)
  · intro n i c hi k
    have e : (nI i).toNatClampNeg = i := nI_clamp (by omega)
    have g : ¬ nI H ≤ nI i := nI_ge hi (by omega)
    have w : vp_in (nI i) 64 := vp_in_nI (by omega) (by omega)
    by_cases z : ow i = s
    · rw [rq_qS_t z] at k
      exact br_f g ⟨w, br_t (by rw [e]; exact z) ⟨w, nm_r (by rw [e] <;> rfl) (nm_r (nI_1 i) k)⟩⟩
    · rw [rq_qS_f z] at k
      exact br_f g ⟨w, br_f (by rw [e]; exact z) (nm_r (nI_1 i) k)⟩
  · rw [← hs]
    exact yq_cntS hH (br_c p0 (fun q => yq_sweep hH (p1 q)))
theorem yq_start {post : Int32 → SY → Prop} {s rd b : Int32} (hH : H ≤ 64)
    (fin : ∀ x, rq_SI ow s H x → wY_free_70 post rd b s (nI H) t al sw ld tg bs ln vl ow st rt rb rl ra 1 x (rq_fold (rq_cS ow s) 0 H) (nI H)) : ∃ n, wY_free_70 post rd b s (nI H) t al sw ld tg bs ln vl ow st rt rb rl ra n (-1) 0 0 := by
  have key : ∀ d i x, i + d = H → rq_SI ow s i x → wY_free_70 post rd b s (nI H) t al sw ld tg bs ln vl ow st rt rb rl ra (d + 1) x (rq_fold (rq_cS ow s) 0 i) (nI i) := by
    intro d
    induction d with
    | zero =>
      intro i x hi I
      have q' : i = H := by omega
      subst q'
      exact fin x I
    | succ d ih =>
      intro i x hi I
      have e : (nI i).toNatClampNeg = i := nI_clamp (by omega)
      have g : ¬ nI H ≤ nI i := nI_ge (by omega) (by omega)
      have w : vp_in (nI i) 64 := vp_in_nI (by omega) (by omega)
      have st1 : rq_fold (rq_cS ow s) 0 (i + 1) = rq_cS ow s i (rq_fold (rq_cS ow s) 0 i) := rfl
      by_cases z : ow i = s
      · have z' : ow (nI i).toNatClampNeg = s := by rw [e]; exact z
        rw [rq_cS_t z] at st1
        by_cases c : 0 ≤ x
        · have k := ih (i + 1) x (by omega) (rq_SI_old I (rq_nlt c))
          rw [st1] at k
          exact br_f g ⟨w, br_t z' (br_t c (nm_e (nm_r (nI_1 i) k)))⟩
        · have k := ih (i + 1) (nI i) (by omega) (rq_SI_new I (by omega) z (rq_gt c))
          rw [st1] at k
          exact br_f g ⟨w, br_t z' (br_f c (nm_e (nm_r (nI_1 i) k)))⟩
      · have k := ih (i + 1) x (by omega) (rq_SI_no I z)
        rw [st1, rq_cS_f z] at k
        exact br_f g ⟨w, br_f (by rw [e]; exact z) (nm_r (nI_1 i) k)⟩
  exact ⟨H + 1, key H 0 (-1) (by omega) rq_SI0⟩
theorem yq_ff {post : Int32 → Prop} {n : Nat} (hH : H ≤ 64) (hn : 1 ≤ n) (hnH : n ≤ H) (p : ∀ r, rq_FF st H n r → post r) : wpY_firstFit post (nI H, t, al, sw, ld, tg, bs, ln, vl, ow, st, rt, rb, rl, ra) (nI n) := by
  have key : ∀ d a, a + d = H - n + 1 → (∀ b, b < a → ∃ j, j < n ∧ ¬ st (b + j) = 0) → wY_firstFit_2 post (nI n) (nI H) t al sw ld tg bs ln vl ow st rt rb rl ra (d + 1) (nI a) := by
    intro d
    induction d with
    | zero =>
      intro a ha l
      exact br_t (by rw [pk_sub hnH]; exact nI_lt (by omega) (by omega)) (p _ (Or.inr ⟨rfl, fun b hb => l b (by omega)⟩))
    | succ d ih =>
      intro a ha l
      refine br_f (by rw [pk_sub hnH]; exact nI_nlt (by omega) (by omega)) ?_
      have inner : ∀ f i x, i + f = n → rq_OK st a i x → wY_firstFit_17 post (wY_firstFit_2 post (nI n) (nI H) t al sw ld tg bs ln vl ow st rt rb rl ra (d + 1)) (nI n) (nI a) (nI H) t al sw ld tg bs ln vl ow st rt rb rl ra (f + 1) x (nI i) := by
        intro f
        induction f with
        | zero =>
          intro i x hi I
          have q' : i = n := by omega
          subst q'
          rcases I with ⟨rfl, fr⟩ | ⟨rfl, bu⟩
          · exact br_t (nI_le (Nat.le_refl _) (by omega)) (br_f (by decide) (p _ (Or.inl ⟨a, rfl, by omega, fr, l⟩)))
          · refine br_t (nI_le (Nat.le_refl _) (by omega)) (br_t rfl (nm_r (nI_1 a) (ih (a + 1) (by omega) (fun b hb => ?_))))
            by_cases c : b = a
            · rw [c]; exact bu
            · exact l b (by omega)
        | succ f ihf =>
          intro i x hi I
          have e : (nI a + nI i).toNatClampNeg = a + i := by rw [nI_add]; exact nI_clamp (by omega)
          have g : ¬ nI n ≤ nI i := nI_ge (by omega) (by omega)
          have w : vp_in (nI a + nI i) 64 := by rw [nI_add]; exact vp_in_nI (by omega) (by omega)
          by_cases z : st (a + i) = 0
          · exact br_f g ⟨w, br_t (by rw [e]; exact z) (nm_r (nI_1 i) (ihf (i + 1) x (by omega) (rq_OK_free I z)))⟩
          · exact br_f g ⟨w, br_f (by rw [e]; exact z) (nm_r (nI_1 i) (ihf (i + 1) 0 (by omega) (rq_OK_busy z)))⟩
      exact ⟨n + 1, inner n 0 1 (by omega) rq_OK0⟩
  exact ⟨H - n + 1 + 1, key (H - n + 1) 0 (by omega) (fun b hb => absurd hb (Nat.not_lt_zero b))⟩
end
section
variable {H m : Nat} {h t al sw ld : Int32} {tg bs ln vl ow st rt rb rl ra : Nat → Int32}

def i_Rel (k : Nat) (u : SX) (v : SY) : Prop := ∃ (H m : Nat) (t sw ld : Int32) (tg bs ln vl ow st rt rb rl ra : Nat → Int32),
  8 ≤ H ∧ H ≤ 64 ∧ m ≤ k ∧ rq_WF H m ow st ∧ u = (nI H, t, nI m, sw, ld, tg, bs, ln, vl, ow, st, rt, rb, rl, ra) ∧ v = (nI H, t, nI m, sw, ld, tg, bs, ln, vl, ow, st, rt, rb, rl, ra)
theorem rq_mk {k : Nat} (h8 : 8 ≤ H) (h64 : H ≤ 64) (hm : m ≤ k) (W : rq_WF H m ow st) : i_Rel k (nI H, t, nI m, sw, ld, tg, bs, ln, vl, ow, st, rt, rb, rl, ra) (nI H, t, nI m, sw, ld, tg, bs, ln, vl, ow, st, rt, rb, rl, ra) :=
  ⟨H, m, t, sw, ld, tg, bs, ln, vl, ow, st, rt, rb, rl, ra, h8, h64, hm, W, rfl, rfl⟩
theorem i_up {k : Nat} {u : SX} {v : SY} (h : i_Rel k u v) : i_Rel (k + 5) u v := by
  obtain ⟨H, m, t, sw, ld, tg, bs, ln, vl, ow, st, rt, rb, rl, ra, h8, h64, hm, W, rfl, rfl⟩ := h
  exact rq_mk h8 h64 (by omega) W
theorem rq_in0 (k0 k1 : Int32) : ∃ H : Nat, 8 ≤ H ∧ H ≤ 64 ∧ (∀ post : Int32 → Prop, post (nI H) → wpX_clamp post k0 8 64) ∧
    (∀ post : SY → Prop, wY_init_108 post k1 (nI H) 0 0 0 0 0 (fun _ => 0) (fun _ => 0) (fun _ => 0) (fun _ => 0) (fun _ => 0) (fun _ => 0) (fun _ => 0) (fun _ => 0) (fun _ => 0) (fun _ => 0) → wpY_init post k0 k1) := by
  by_cases a : 8 ≤ k0
  · by_cases b : k0 ≤ 64
    · have n0 : ¬ k0 < 0 := by
        rw [Int32.lt_iff_toInt_lt, rq_i0]; rw [Int32.le_iff_toInt_le, rq_i8] at a; omega
      obtain ⟨j, hj, rfl⟩ := nI_of2 (M := 64) (n := 64) (by decide) n0 b
      have h8 : 8 ≤ j := (nI_leI (a := 8) (by decide) (by omega)).mp a
      exact ⟨j, h8, hj, fun post p => br_t a (br_t b p), fun post p => br_t a (br_t b p)⟩
    · exact ⟨64, by omega, by omega, fun post p => br_t a (br_f b p), fun post p => br_t a (br_f b p)⟩
  · exact ⟨8, by omega, by omega, fun post p => br_f a p, fun post p => br_f a p⟩
theorem rq_in1 (k1 : Int32) : ∃ t : Int32, (∀ post : Int32 → Prop, post t → wpX_clamp post k1 1 64) ∧
    (∀ (post : SY → Prop) (z : Int32), post (z, t, 0, 0, 0, fun _ => 0, fun _ => 0, fun _ => 0, fun _ => 0, fun _ => 0, fun _ => 0, fun _ => 0, fun _ => 0, fun _ => 0, fun _ => 0) → wY_init_108 post k1 z 0 0 0 0 0 (fun _ => 0) (fun _ => 0) (fun _ => 0) (fun _ => 0) (fun _ => 0) (fun _ => 0) (fun _ => 0) (fun _ => 0) (fun _ => 0) (fun _ => 0)) := by
  by_cases a : 1 ≤ k1
  · by_cases b : k1 ≤ 64
    · exact ⟨k1, fun post p => br_t a (br_t b p), fun post z p => br_t a (br_t b p)⟩
    · exact ⟨64, fun post p => br_t a (br_f b p), fun post z p => br_t a (br_f b p)⟩
  · exact ⟨1, fun post p => br_f a p, fun post z p => br_f a p⟩
theorem rq_WF0 : rq_WF H 0 (fun _ => 0) (fun _ => 0) :=
  ⟨fun w _ => ⟨0, Nat.le_refl _, nI_0.symm⟩, fun _ _ _ => rfl, fun _ _ e => absurd (show (0 : Int32) = 1 from e) (by decide),
   fun _ _ _ _ _ _ => rfl, fun _ _ _ _ _ _ _ _ => rfl⟩
theorem i_vc0 (k0 : Int32) (k1 : Int32) : wpX_init (fun u => wpY_init (fun v => i_Rel 2 u v) k0 k1) k0 k1 := by
  obtain ⟨H, h8, h64, X0, Y0⟩ := rq_in0 k0 k1
  obtain ⟨t, X1, Y1⟩ := rq_in1 k1
  unfold wpX_init
  refine X0 _ (X1 _ ?_)
  refine Y0 _ (Y1 _ _ ?_)
  exact rq_mk (m := 0) h8 h64 (by omega) rq_WF0

def rq_b (x : Int32) : Prop := x < 0 ∨ (¬ x < 0 ∧ 8 ≤ x ∧ ¬ x ≤ 7)
def rq_g (x : Int32) : Prop := ¬ x < 0 ∧ ¬ 8 ≤ x ∧ x ≤ 7 ∧ vp_in x 8
theorem rq_rd (x : Int32) : rq_b x ∨ rq_g x := by
  rcases rq_rc x with a | ⟨a, _, _, b, c, _⟩ | ⟨j, _, _, a, _, _, b, c, _, w, _⟩
  · exact Or.inl (Or.inl a.1)
  · exact Or.inl (Or.inr ⟨a, b, c⟩)
  · exact Or.inr ⟨a, b, c, w⟩
theorem rq_d : ¬ (1 : Int32) = 0 := by decide
theorem xq_bad {post : Int32 → Prop} {x : Int32} (b : rq_b x) (p : post 0) : wpX_isRegister post x := by
  rcases b with a | ⟨a, c, _⟩
  · exact br_t a p
  · exact br_f a (br_t c p)
theorem xq_good {post : Int32 → Prop} {x : Int32} (g : rq_g x) (p : post 1) : wpX_isRegister post x := br_f g.1 (br_f g.2.1 p)
theorem yq_bad {post : Int32 → Prop} {x : Int32} (b : rq_b x) (p : post 1) : wpY_badReg post (h, t, al, sw, ld, tg, bs, ln, vl, ow, st, rt, rb, rl, ra) x := by
  rcases b with a | ⟨a, _, c⟩
  · exact br_t a p
  · exact br_f a (br_f c p)
theorem yq_good {post : Int32 → Prop} {x : Int32} (g : rq_g x) (p : post 0) : wpY_badReg post (h, t, al, sw, ld, tg, bs, ln, vl, ow, st, rt, rb, rl, ra) x := br_f g.1 (br_t g.2.2.1 p)

theorem rq_acc {x : Int32} (hH : H ≤ 64) (w : vp_in x 8) :
    (∃ f : Int32, ¬ f = 0 ∧ ¬ 0 ≤ f ∧ (∀ post : Int32 → Prop, post f → wpX_accessFault post (nI H, t, al, sw, ld, tg, bs, ln, vl, ow, st, rt, rb, rl, ra) x) ∧ (∀ post : Int32 → Prop, post f → wpY_deref post (nI H, t, al, sw, ld, tg, bs, ln, vl, ow, st, rt, rb, rl, ra) x)) ∨
    (vp_in (ra x.toNatClampNeg) 64 ∧ 0 ≤ ra x.toNatClampNeg ∧ (∀ post : Int32 → Prop, post 0 → wpX_accessFault post (nI H, t, al, sw, ld, tg, bs, ln, vl, ow, st, rt, rb, rl, ra) x) ∧ (∀ post : Int32 → Prop, post (ra x.toNatClampNeg) → wpY_deref post (nI H, t, al, sw, ld, tg, bs, ln, vl, ow, st, rt, rb, rl, ra) x)) := by
  by_cases z : rt x.toNatClampNeg = 0
  · exact Or.inl ⟨-4, by decide, by decide, fun post p => ⟨w, br_t z p⟩, fun post p => ⟨w, br_t z p⟩⟩
  by_cases a : ra x.toNatClampNeg < rb x.toNatClampNeg
  · exact Or.inl ⟨-5, by decide, by decide, fun post p => ⟨w, br_f z ⟨w, nm_e ⟨w, w, nm_e ⟨w, br_t a p⟩⟩⟩⟩,
      fun post p => ⟨w, br_f z ⟨w, nm_e ⟨w, nm_e ⟨w, nm_e (br_t ((rq_lt64 _ _).mpr a) p)⟩⟩⟩⟩⟩
  have a' : ¬ (ra x.toNatClampNeg).toInt64 < (rb x.toNatClampNeg).toInt64 := fun q => a ((rq_lt64 _ _).mp q)
  by_cases b : (rb x.toNatClampNeg).toInt64 + (rl x.toNatClampNeg).toInt64 ≤ (ra x.toNatClampNeg).toInt64
  · exact Or.inl ⟨-5, by decide, by decide, fun post p => ⟨w, br_f z ⟨w, nm_e ⟨w, w, nm_e ⟨w, br_f a (br_t b p)⟩⟩⟩⟩,
      fun post p => ⟨w, br_f z ⟨w, nm_e ⟨w, nm_e ⟨w, nm_e (br_f a' (br_t b p))⟩⟩⟩⟩⟩
  rcases rq_hc (ra x.toNatClampNeg) hH with c | ⟨c0, _, c1, c2⟩ | ⟨j, _, _, c0, cz, c1, c2, w2, _⟩
  · exact Or.inl ⟨-5, by decide, by decide, fun post p => ⟨w, br_f z ⟨w, nm_e ⟨w, w, nm_e ⟨w, br_f a (br_f b (br_t c.1 (br_t rfl p)))⟩⟩⟩⟩,
      fun post p => ⟨w, br_f z ⟨w, nm_e ⟨w, nm_e ⟨w, nm_e (br_f a' (br_f b (br_t ((rq_lt0 _).mpr c.1) p)))⟩⟩⟩⟩⟩
  · exact Or.inl ⟨-5, by decide, by decide, fun post p => ⟨w, br_f z ⟨w, nm_e ⟨w, w, nm_e ⟨w, br_f a (br_f b (br_f c0 (br_t c2 (br_t rfl p))))⟩⟩⟩⟩,
      fun post p => ⟨w, br_f z ⟨w, nm_e ⟨w, nm_e ⟨w, nm_e (br_f a' (br_f b (br_f (fun q => c0 ((rq_lt0 _).mp q)) (br_f (fun q => c1 ((rq_lt64 _ _).mp q)) p))))⟩⟩⟩⟩⟩
  · exact Or.inr ⟨w2, cz, fun post p => ⟨w, br_f z ⟨w, nm_e ⟨w, w, nm_e ⟨w, br_f a (br_f b (br_f c0 (br_f c2 (br_f rq_d p))))⟩⟩⟩⟩,
      fun post p => ⟨w, br_f z ⟨w, nm_e ⟨w, nm_e ⟨w, nm_e (br_f a' (br_f b (br_f (fun q => c0 ((rq_lt0 _).mp q)) (br_t ((rq_lt64 _ _).mpr c1) ⟨w, p⟩))))⟩⟩⟩⟩⟩
end
section
theorem i_vc_sweep {k : Nat} {u : SX} {v : SY} (I : i_Rel k u v) (hk : k + 5 ≤ 2562) : wpX_sweep (fun r u' => wpY_sweep (fun r' v' => r' = r ∧ i_Rel (k + 5) u' v') v) u := by
  obtain ⟨H, m, t, sw, ld, tg, bs, ln, vl, ow, st, rt, rb, rl, ra, h8, h64, hm, W, rfl, rfl⟩ := I
  unfold wpX_sweep
  refine xq_sweep h64 (fun z hz => ?_)
  show wpY_sweep _ _
  unfold wpY_sweep
  refine yq_sweep h64 (fun z2 hz2 => ⟨rfl, ?_⟩)
  subst hz hz2
  exact rq_mk h8 h64 (by omega) (rq_WF_Z W)
theorem i_vc_move {k : Nat} {u : SX} {v : SY} (I : i_Rel k u v) (hk : k + 5 ≤ 2562) (v1 : Int32) (v2 : Int32) : wpX_move (fun r u' => wpY_move (fun r' v' => r' = r ∧ i_Rel (k + 5) u' v') v v1 v2) u v1 v2 := by
  obtain ⟨H, m, t, sw, ld, tg, bs, ln, vl, ow, st, rt, rb, rl, ra, h8, h64, hm, W, rfl, rfl⟩ := I
  rcases rq_rd v1 with b | g
  · unfold wpX_move
    refine xq_bad b (br_t rfl ?_)
    show wpY_move _ _ _ _
    unfold wpY_move
    exact yq_bad b (br_f rq_d ⟨rfl, rq_mk h8 h64 (by omega) W⟩)
  · rcases rq_rd v2 with b | g2
    · unfold wpX_move
      refine xq_good g (br_f rq_d (xq_bad b (br_t rfl ?_)))
      show wpY_move _ _ _ _
      unfold wpY_move
      exact yq_good g (br_t rfl (yq_bad b (br_f rq_d ⟨rfl, rq_mk h8 h64 (by omega) W⟩)))
    · unfold wpX_move
      refine xq_good g (br_f rq_d (xq_good g2 (br_f rq_d ⟨g2.2.2.2, g2.2.2.2, g2.2.2.2, g2.2.2.2, xq_setR g.2.2.2 ?_⟩)))
      show wpY_move _ _ _ _
      unfold wpY_move
      exact yq_good g (br_t rfl (yq_good g2 (br_t rfl ⟨g2.2.2.2, g.2.2.2, nm_e ⟨g2.2.2.2, g.2.2.2, nm_e ⟨g2.2.2.2, g.2.2.2, nm_e ⟨g2.2.2.2, g.2.2.2, nm_e ⟨rfl, rq_mk h8 h64 (by omega) W⟩⟩⟩⟩⟩)))
theorem i_vc_restrict {k : Nat} {u : SX} {v : SY} (I : i_Rel k u v) (hk : k + 5 ≤ 2562) (v1 : Int32) (v2 : Int32) (v3 : Int32) (v4 : Int32) : wpX_restrict (fun r u' => wpY_restrict (fun r' v' => r' = r ∧ i_Rel (k + 5) u' v') v v1 v2 v3 v4) u v1 v2 v3 v4 := by
  obtain ⟨H, m, t, sw, ld, tg, bs, ln, vl, ow, st, rt, rb, rl, ra, h8, h64, hm, W, rfl, rfl⟩ := I
  rcases rq_rd v1 with b | g
  · unfold wpX_restrict
    refine xq_bad b (br_t rfl ?_)
    show wpY_restrict _ _ _ _ _ _
    unfold wpY_restrict
    exact yq_bad b (br_f rq_d ⟨rfl, rq_mk h8 h64 (by omega) W⟩)
  · rcases rq_rd v2 with b | g2
    · unfold wpX_restrict
      refine xq_good g (br_f rq_d (xq_bad b (br_t rfl ?_)))
      show wpY_restrict _ _ _ _ _ _
      unfold wpY_restrict
      exact yq_good g (br_t rfl (yq_bad b (br_f rq_d ⟨rfl, rq_mk h8 h64 (by omega) W⟩)))
    · have w := g.2.2.2
      have w2 := g2.2.2.2
      by_cases z : rt v2.toNatClampNeg = 0
      · unfold wpX_restrict
        refine xq_good g (br_f rq_d (xq_good g2 (br_f rq_d ⟨w2, br_t z ?_⟩)))
        show wpY_restrict _ _ _ _ _ _
        unfold wpY_restrict
        exact yq_good g (br_t rfl (yq_good g2 (br_t rfl ⟨w2, br_t z ⟨rfl, rq_mk h8 h64 (by omega) W⟩⟩)))
      · by_cases a : v3 < 0
        · unfold wpX_restrict
          refine xq_good g (br_f rq_d (xq_good g2 (br_f rq_d ⟨w2, br_f z (nm_e (br_t a ?_))⟩)))
          show wpY_restrict _ _ _ _ _ _
          unfold wpY_restrict
          exact yq_good g (br_t rfl (yq_good g2 (br_t rfl ⟨w2, br_f z (br_t a ⟨rfl, rq_mk h8 h64 (by omega) W⟩)⟩)))
        · by_cases c : v4 < 1
          · unfold wpX_restrict
            refine xq_good g (br_f rq_d (xq_good g2 (br_f rq_d ⟨w2, br_f z (nm_e (br_f a (br_t c ?_)))⟩)))
            show wpY_restrict _ _ _ _ _ _
            unfold wpY_restrict
            exact yq_good g (br_t rfl (yq_good g2 (br_t rfl ⟨w2, br_f z (br_f a (br_t c ⟨rfl, rq_mk h8 h64 (by omega) W⟩))⟩)))
          · by_cases d : v3.toInt64 + v4.toInt64 ≤ (rl v2.toNatClampNeg).toInt64
            · unfold wpX_restrict
              refine xq_good g (br_f rq_d (xq_good g2 (br_f rq_d ⟨w2, br_f z (nm_e (br_f a (br_f c ⟨w2, br_t d ⟨w2, nm_e (xq_setR w ?_)⟩⟩)))⟩)))
              show wpY_restrict _ _ _ _ _ _
              unfold wpY_restrict
              exact yq_good g (br_t rfl (yq_good g2 (br_t rfl ⟨w2, br_f z (br_f a (br_f c ⟨w2, br_t d ⟨w2, nm_e ⟨w, nm_e ⟨w, nm_e ⟨w, nm_e ⟨w, nm_e ⟨rfl, rq_mk h8 h64 (by omega) W⟩⟩⟩⟩⟩⟩⟩))⟩)))
            · unfold wpX_restrict
              refine xq_good g (br_f rq_d (xq_good g2 (br_f rq_d ⟨w2, br_f z (nm_e (br_f a (br_f c ⟨w2, br_f d ?_⟩)))⟩)))
              show wpY_restrict _ _ _ _ _ _
              unfold wpY_restrict
              exact yq_good g (br_t rfl (yq_good g2 (br_t rfl ⟨w2, br_f z (br_f a (br_f c ⟨w2, br_f d ⟨rfl, rq_mk h8 h64 (by omega) W⟩⟩))⟩)))
theorem i_vc_addAddr {k : Nat} {u : SX} {v : SY} (I : i_Rel k u v) (hk : k + 5 ≤ 2562) (v1 : Int32) (v2 : Int32) : wpX_addAddr (fun r u' => wpY_addAddr (fun r' v' => r' = r ∧ i_Rel (k + 5) u' v') v v1 v2) u v1 v2 := by
  obtain ⟨H, m, t, sw, ld, tg, bs, ln, vl, ow, st, rt, rb, rl, ra, h8, h64, hm, W, rfl, rfl⟩ := I
  rcases rq_rd v1 with b | g
  · unfold wpX_addAddr
    refine xq_bad b (br_t rfl ?_)
    show wpY_addAddr _ _ _ _
    unfold wpY_addAddr
    exact yq_bad b (br_f rq_d ⟨rfl, rq_mk h8 h64 (by omega) W⟩)
  · unfold wpX_addAddr
    refine xq_good g (br_f rq_d ⟨g.2.2.2, g.2.2.2, nm_e ?_⟩)
    show wpY_addAddr _ _ _ _
    unfold wpY_addAddr
    exact yq_good g (br_t rfl ⟨g.2.2.2, g.2.2.2, nm_e ⟨rfl, rq_mk h8 h64 (by omega) W⟩⟩)
theorem i_vc_storeData {k : Nat} {u : SX} {v : SY} (I : i_Rel k u v) (hk : k + 5 ≤ 2562) (v1 : Int32) (v2 : Int32) : wpX_storeData (fun r u' => wpY_storeData (fun r' v' => r' = r ∧ i_Rel (k + 5) u' v') v v1 v2) u v1 v2 := by
  obtain ⟨H, m, t, sw, ld, tg, bs, ln, vl, ow, st, rt, rb, rl, ra, h8, h64, hm, W, rfl, rfl⟩ := I
  rcases rq_rd v1 with b | g
  · unfold wpX_storeData
    refine xq_bad b (br_t rfl ?_)
    show wpY_storeData _ _ _ _
    unfold wpY_storeData
    exact yq_bad b (br_f rq_d ⟨rfl, rq_mk h8 h64 (by omega) W⟩)
  · have w := g.2.2.2
    rcases rq_acc (t := t) (al := nI m) (sw := sw) (ld := ld) (tg := tg) (bs := bs) (ln := ln) (vl := vl) (ow := ow) (st := st) (rt := rt) (rb := rb) (rl := rl) (ra := ra) h64 w with ⟨f, f0, f1, X, Y⟩ | ⟨wa, a0, X, Y⟩
    · unfold wpX_storeData
      refine xq_good g (br_f rq_d (X _ (br_f f0 ?_)))
      show wpY_storeData _ _ _ _
      unfold wpY_storeData
      exact yq_good g (br_t rfl (Y _ (br_f f1 ⟨rfl, rq_mk h8 h64 (by omega) W⟩)))
    · unfold wpX_storeData
      refine xq_good g (br_f rq_d (X _ (br_t rfl ⟨w, xq_setW wa rfl ?_⟩)))
      show wpY_storeData _ _ _ _
      unfold wpY_storeData
      exact yq_good g (br_t rfl (Y _ (br_t a0 ⟨wa, nm_e ⟨wa, nm_e ⟨wa, nm_e ⟨wa, nm_e ⟨rfl, rq_mk h8 h64 (by omega) W⟩⟩⟩⟩⟩)))
theorem i_vc_loadData {k : Nat} {u : SX} {v : SY} (I : i_Rel k u v) (hk : k + 5 ≤ 2562) (v1 : Int32) : wpX_loadData (fun r u' => wpY_loadData (fun r' v' => r' = r ∧ i_Rel (k + 5) u' v') v v1) u v1 := by
  obtain ⟨H, m, t, sw, ld, tg, bs, ln, vl, ow, st, rt, rb, rl, ra, h8, h64, hm, W, rfl, rfl⟩ := I
  rcases rq_rd v1 with b | g
  · unfold wpX_loadData
    refine xq_bad b (br_t rfl ?_)
    show wpY_loadData _ _ _
    unfold wpY_loadData
    exact yq_bad b (br_f rq_d ⟨rfl, rq_mk h8 h64 (by omega) W⟩)
  · have w := g.2.2.2
    rcases rq_acc (t := t) (al := nI m) (sw := sw) (ld := ld) (tg := tg) (bs := bs) (ln := ln) (vl := vl) (ow := ow) (st := st) (rt := rt) (rb := rb) (rl := rl) (ra := ra) h64 w with ⟨f, f0, f1, X, Y⟩ | ⟨wa, a0, X, Y⟩
    · unfold wpX_loadData
      refine xq_good g (br_f rq_d (X _ (br_f f0 ?_)))
      show wpY_loadData _ _ _
      unfold wpY_loadData
      exact yq_good g (br_t rfl (Y _ (br_f f1 ⟨rfl, rq_mk h8 h64 (by omega) W⟩)))
    · unfold wpX_loadData
      refine xq_good g (br_f rq_d (X _ (br_t rfl ⟨w, wa, nm_e ?_⟩)))
      show wpY_loadData _ _ _
      unfold wpY_loadData
      exact yq_good g (br_t rfl (Y _ (br_t a0 ⟨wa, nm_e ⟨rfl, rq_mk h8 h64 (by omega) W⟩⟩)))
theorem i_vc_storeCap {k : Nat} {u : SX} {v : SY} (I : i_Rel k u v) (hk : k + 5 ≤ 2562) (v1 : Int32) (v2 : Int32) : wpX_storeCap (fun r u' => wpY_storeCap (fun r' v' => r' = r ∧ i_Rel (k + 5) u' v') v v1 v2) u v1 v2 := by
  obtain ⟨H, m, t, sw, ld, tg, bs, ln, vl, ow, st, rt, rb, rl, ra, h8, h64, hm, W, rfl, rfl⟩ := I
  rcases rq_rd v1 with b | g
  · unfold wpX_storeCap
    refine xq_bad b (br_t rfl ?_)
    show wpY_storeCap _ _ _ _
    unfold wpY_storeCap
    exact yq_bad b (br_f rq_d ⟨rfl, rq_mk h8 h64 (by omega) W⟩)
  · rcases rq_rd v2 with b | g2
    · unfold wpX_storeCap
      refine xq_good g (br_f rq_d (xq_bad b (br_t rfl ?_)))
      show wpY_storeCap _ _ _ _
      unfold wpY_storeCap
      exact yq_good g (br_t rfl (yq_bad b (br_f rq_d ⟨rfl, rq_mk h8 h64 (by omega) W⟩)))
    · have w := g.2.2.2
      have w2 := g2.2.2.2
      rcases rq_acc (t := t) (al := nI m) (sw := sw) (ld := ld) (tg := tg) (bs := bs) (ln := ln) (vl := vl) (ow := ow) (st := st) (rt := rt) (rb := rb) (rl := rl) (ra := ra) h64 w with ⟨f, f0, f1, X, Y⟩ | ⟨wa, a0, X, Y⟩
      · unfold wpX_storeCap
        refine xq_good g (br_f rq_d (xq_good g2 (br_f rq_d (X _ (br_f f0 ?_)))))
        show wpY_storeCap _ _ _ _
        unfold wpY_storeCap
        exact yq_good g (br_t rfl (yq_good g2 (br_t rfl (Y _ (br_f f1 ⟨rfl, rq_mk h8 h64 (by omega) W⟩)))))
      · unfold wpX_storeCap
        refine xq_good g (br_f rq_d (xq_good g2 (br_f rq_d (X _ (br_t rfl ⟨w, w2, w2, w2, w2, xq_setW wa rfl ?_⟩)))))
        show wpY_storeCap _ _ _ _
        unfold wpY_storeCap
        exact yq_good g (br_t rfl (yq_good g2 (br_t rfl (Y _ (br_t a0 ⟨w2, wa, nm_e ⟨w2, wa, nm_e ⟨w2, wa, nm_e ⟨w2, wa, nm_e ⟨rfl, rq_mk h8 h64 (by omega) W⟩⟩⟩⟩⟩)))))
theorem i_vc_loadCap {k : Nat} {u : SX} {v : SY} (I : i_Rel k u v) (hk : k + 5 ≤ 2562) (v1 : Int32) (v2 : Int32) : wpX_loadCap (fun r u' => wpY_loadCap (fun r' v' => r' = r ∧ i_Rel (k + 5) u' v') v v1 v2) u v1 v2 := by
  obtain ⟨H, m, t, sw, ld, tg, bs, ln, vl, ow, st, rt, rb, rl, ra, h8, h64, hm, W, rfl, rfl⟩ := I
  rcases rq_rd v1 with b | g
  · unfold wpX_loadCap
    refine xq_bad b (br_t rfl ?_)
    show wpY_loadCap _ _ _ _
    unfold wpY_loadCap
    exact yq_bad b (br_f rq_d ⟨rfl, rq_mk h8 h64 (by omega) W⟩)
  · rcases rq_rd v2 with b | g2
    · unfold wpX_loadCap
      refine xq_good g (br_f rq_d (xq_bad b (br_t rfl ?_)))
      show wpY_loadCap _ _ _ _
      unfold wpY_loadCap
      exact yq_good g (br_t rfl (yq_bad b (br_f rq_d ⟨rfl, rq_mk h8 h64 (by omega) W⟩)))
    · have w := g.2.2.2
      have w2 := g2.2.2.2
      rcases rq_acc (t := t) (al := nI m) (sw := sw) (ld := ld) (tg := tg) (bs := bs) (ln := ln) (vl := vl) (ow := ow) (st := st) (rt := rt) (rb := rb) (rl := rl) (ra := ra) h64 w2 with ⟨f, f0, f1, X, Y⟩ | ⟨wa, a0, X, Y⟩
      · unfold wpX_loadCap
        refine xq_good g (br_f rq_d (xq_good g2 (br_f rq_d (X _ (br_f f0 ?_)))))
        show wpY_loadCap _ _ _ _
        unfold wpY_loadCap
        exact yq_good g (br_t rfl (yq_good g2 (br_t rfl (Y _ (br_f f1 ⟨rfl, rq_mk h8 h64 (by omega) W⟩)))))
      · unfold wpX_loadCap
        refine xq_good g (br_f rq_d (xq_good g2 (br_f rq_d (X _ (br_t rfl ⟨w2, nm_e ⟨wa, wa, wa, wa, xq_setR w ?_⟩⟩)))))
        show wpY_loadCap _ _ _ _
        unfold wpY_loadCap
        exact yq_good g (br_t rfl (yq_good g2 (br_t rfl (Y _ (br_t a0 ⟨wa, w, nm_e ⟨wa, w, nm_e ⟨wa, w, nm_e ⟨wa, w, nm_e ⟨rfl, rq_mk h8 h64 (by omega) W⟩⟩⟩⟩⟩)))))
theorem i_vc_loadedValue {k : Nat} {u : SX} {v : SY} (I : i_Rel k u v) (hk : k + 5 ≤ 2562) : wpX_loadedValue (fun r => wpY_loadedValue (fun r' => r' = r ∧ i_Rel (k + 5) u v) v) u := by
  obtain ⟨H, m, t, sw, ld, tg, bs, ln, vl, ow, st, rt, rb, rl, ra, h8, h64, hm, W, rfl, rfl⟩ := I
  unfold wpX_loadedValue
  show wpY_loadedValue _ _
  unfold wpY_loadedValue
  exact ⟨rfl, rq_mk h8 h64 (by omega) W⟩
end
section
theorem rq_s3 (x : Int32) : (x < 0 ∨ (¬ x < 0 ∧ 3 < x)) ∨ x = 0 ∨ x = 1 ∨ x = 2 ∨ x = 3 := by
  rcases pk_ix x (n := 4) (by omega) with a | a | ⟨j, hj, rfl⟩
  · exact Or.inl (Or.inl a)
  · left; right
    rw [Int32.le_iff_toInt_le, nI_toInt (by omega)] at a
    have e : (3 : Int32).toInt = 3 := by decide
    rw [Int32.lt_iff_toInt_lt, Int32.lt_iff_toInt_lt, rq_i0, e]
    omega
  · right
    have q : j = 0 ∨ j = 1 ∨ j = 2 ∨ j = 3 := by omega
    rcases q with rfl | rfl | rfl | rfl
    · exact Or.inl rfl
    · exact Or.inr (Or.inl rfl)
    · exact Or.inr (Or.inr (Or.inl rfl))
    · exact Or.inr (Or.inr (Or.inr (rfl)))
theorem rq_s5 (x : Int32) : (x < 0 ∨ (¬ x < 0 ∧ 5 < x)) ∨ x = 0 ∨ x = 1 ∨ x = 2 ∨ x = 3 ∨ x = 4 ∨ x = 5 := by
  rcases pk_ix x (n := 6) (by omega) with a | a | ⟨j, hj, rfl⟩
  · exact Or.inl (Or.inl a)
  · left; right
    rw [Int32.le_iff_toInt_le, nI_toInt (by omega)] at a
    have e : (5 : Int32).toInt = 5 := by decide
    rw [Int32.lt_iff_toInt_lt, Int32.lt_iff_toInt_lt, rq_i0, e]
    omega
  · right
    have q : j = 0 ∨ j = 1 ∨ j = 2 ∨ j = 3 ∨ j = 4 ∨ j = 5 := by omega
    rcases q with rfl | rfl | rfl | rfl | rfl | rfl
    · exact Or.inl rfl
    · exact Or.inr (Or.inl rfl)
    · exact Or.inr (Or.inr (Or.inl rfl))
    · exact Or.inr (Or.inr (Or.inr (Or.inl rfl)))
    · exact Or.inr (Or.inr (Or.inr (Or.inr (Or.inl rfl))))
    · exact Or.inr (Or.inr (Or.inr (Or.inr (Or.inr (rfl)))))
theorem rq_s7 (x : Int32) : (x < 0 ∨ (¬ x < 0 ∧ 7 < x)) ∨ x = 0 ∨ x = 1 ∨ x = 2 ∨ x = 3 ∨ x = 4 ∨ x = 5 ∨ x = 6 ∨ x = 7 := by
  rcases pk_ix x (n := 8) (by omega) with a | a | ⟨j, hj, rfl⟩
  · exact Or.inl (Or.inl a)
  · left; right
    rw [Int32.le_iff_toInt_le, nI_toInt (by omega)] at a
    have e : (7 : Int32).toInt = 7 := by decide
    rw [Int32.lt_iff_toInt_lt, Int32.lt_iff_toInt_lt, rq_i0, e]
    omega
  · right
    have q : j = 0 ∨ j = 1 ∨ j = 2 ∨ j = 3 ∨ j = 4 ∨ j = 5 ∨ j = 6 ∨ j = 7 := by omega
    rcases q with rfl | rfl | rfl | rfl | rfl | rfl | rfl | rfl
    · exact Or.inl rfl
    · exact Or.inr (Or.inl rfl)
    · exact Or.inr (Or.inr (Or.inl rfl))
    · exact Or.inr (Or.inr (Or.inr (Or.inl rfl)))
    · exact Or.inr (Or.inr (Or.inr (Or.inr (Or.inl rfl))))
    · exact Or.inr (Or.inr (Or.inr (Or.inr (Or.inr (Or.inl rfl)))))
    · exact Or.inr (Or.inr (Or.inr (Or.inr (Or.inr (Or.inr (Or.inl rfl))))))
    · exact Or.inr (Or.inr (Or.inr (Or.inr (Or.inr (Or.inr (Or.inr (rfl)))))))
theorem i_vc_reg {k : Nat} {u : SX} {v : SY} (I : i_Rel k u v) (hk : k + 5 ≤ 2562) (v1 : Int32) (v2 : Int32) : wpX_reg (fun r => wpY_reg (fun r' => r' = r ∧ i_Rel (k + 5) u v) v v1 v2) u v1 v2 := by
  obtain ⟨H, m, t, sw, ld, tg, bs, ln, vl, ow, st, rt, rb, rl, ra, h8, h64, hm, W, rfl, rfl⟩ := I
  rcases rq_rd v1 with b | g
  · unfold wpX_reg
    refine xq_bad b (br_t rfl ?_)
    show wpY_reg _ _ _ _
    unfold wpY_reg
    exact yq_bad b (br_f rq_d ⟨rfl, rq_mk h8 h64 (by omega) W⟩)
  have w := g.2.2.2
  rcases rq_s3 v2 with s | rfl | rfl | rfl | rfl
  · have N : ∀ c : Int32, ¬ c < 0 → ¬ (3 : Int32) < c → ¬ v2 = c := by
      intro c h1 h2 q
      subst q
      rcases s with s | ⟨_, s⟩
      · exact h1 s
      · exact h2 s
    rcases s with s | ⟨s, s2⟩
    · unfold wpX_reg
      refine xq_good g (br_f rq_d (br_t s ?_))
      show wpY_reg _ _ _ _
      unfold wpY_reg
      exact yq_good g (br_t rfl (br_f (N 0 (by decide) (by decide)) (br_f (N 1 (by decide) (by decide)) (br_f (N 2 (by decide) (by decide)) (br_f (N 3 (by decide) (by decide)) (⟨rfl, rq_mk h8 h64 (by omega) W⟩))))))
    · unfold wpX_reg
      refine xq_good g (br_f rq_d (br_f s (br_t s2 ?_)))
      show wpY_reg _ _ _ _
      unfold wpY_reg
      exact yq_good g (br_t rfl (br_f (N 0 (by decide) (by decide)) (br_f (N 1 (by decide) (by decide)) (br_f (N 2 (by decide) (by decide)) (br_f (N 3 (by decide) (by decide)) (⟨rfl, rq_mk h8 h64 (by omega) W⟩))))))
  · by_cases z : rt v1.toNatClampNeg = 0
    · unfold wpX_reg
      refine xq_good g (br_f rq_d (br_f (by decide) (br_f (by decide) (br_t rfl ⟨w, br_t z ?_⟩))))
      show wpY_reg _ _ _ _
      unfold wpY_reg
      exact yq_good g (br_t rfl (br_t rfl ⟨w, br_t z ⟨rfl, rq_mk h8 h64 (by omega) W⟩⟩))
    · unfold wpX_reg
      refine xq_good g (br_f rq_d (br_f (by decide) (br_f (by decide) (br_t rfl ⟨w, br_f z ?_⟩))))
      show wpY_reg _ _ _ _
      unfold wpY_reg
      exact yq_good g (br_t rfl (br_t rfl ⟨w, br_f z ⟨rfl, rq_mk h8 h64 (by omega) W⟩⟩))
  · unfold wpX_reg
    refine xq_good g (br_f rq_d (br_f (by decide) (br_f (by decide) (br_f (by decide) (br_t rfl ⟨w, ?_⟩)))))
    show wpY_reg _ _ _ _
    unfold wpY_reg
    exact yq_good g (br_t rfl (br_f (by decide) (br_t rfl ⟨w, rfl, rq_mk h8 h64 (by omega) W⟩)))
  · unfold wpX_reg
    refine xq_good g (br_f rq_d (br_f (by decide) (br_f (by decide) (br_f (by decide) (br_f (by decide) (br_t rfl ⟨w, ?_⟩))))))
    show wpY_reg _ _ _ _
    unfold wpY_reg
    exact yq_good g (br_t rfl (br_f (by decide) (br_f (by decide) (br_t rfl ⟨w, rfl, rq_mk h8 h64 (by omega) W⟩))))
  · unfold wpX_reg
    refine xq_good g (br_f rq_d (br_f (by decide) (br_f (by decide) (br_f (by decide) (br_f (by decide) (br_f (by decide) (br_t rfl ⟨w, ?_⟩)))))))
    show wpY_reg _ _ _ _
    unfold wpY_reg
    exact yq_good g (br_t rfl (br_f (by decide) (br_f (by decide) (br_f (by decide) (br_t rfl ⟨w, rfl, rq_mk h8 h64 (by omega) W⟩)))))
theorem i_vc_mem {k : Nat} {u : SX} {v : SY} (I : i_Rel k u v) (hk : k + 5 ≤ 2562) (v1 : Int32) (v2 : Int32) : wpX_mem (fun r => wpY_mem (fun r' => r' = r ∧ i_Rel (k + 5) u v) v v1 v2) u v1 v2 := by
  obtain ⟨H, m, t, sw, ld, tg, bs, ln, vl, ow, st, rt, rb, rl, ra, h8, h64, hm, W, rfl, rfl⟩ := I
  rcases rq_hc v1 h64 with a | ⟨a, _, a1, a2⟩ | ⟨j, _, _, a, _, a1, a2, w, _⟩
  · unfold wpX_mem wpX_isWord
    refine br_t a.1 (br_t rfl ?_)
    show wpY_mem _ _ _ _
    unfold wpY_mem
    exact br_t a.1 ⟨rfl, rq_mk h8 h64 (by omega) W⟩
  · unfold wpX_mem wpX_isWord
    refine br_f a (br_t a2 (br_t rfl ?_))
    show wpY_mem _ _ _ _
    unfold wpY_mem
    exact br_f a (br_f a1 ⟨rfl, rq_mk h8 h64 (by omega) W⟩)
  rcases rq_s5 v2 with s | rfl | rfl | rfl | rfl | rfl | rfl
  · have N : ∀ c : Int32, ¬ c < 0 → ¬ (5 : Int32) < c → ¬ v2 = c := by
      intro c h1 h2 q
      subst q
      rcases s with s | ⟨_, s⟩
      · exact h1 s
      · exact h2 s
    rcases s with s | ⟨s, s2⟩
    · unfold wpX_mem wpX_isWord
      refine br_f a (br_f a2 (br_f rq_d (br_t s ?_)))
      show wpY_mem _ _ _ _
      unfold wpY_mem
      exact br_f a (br_t a1 (br_f (N 0 (by decide) (by decide)) (br_f (N 1 (by decide) (by decide)) (br_f (N 2 (by decide) (by decide)) (br_f (N 3 (by decide) (by decide)) (br_f (N 4 (by decide) (by decide)) (br_f (N 5 (by decide) (by decide)) (⟨rfl, rq_mk h8 h64 (by omega) W⟩))))))))
    · unfold wpX_mem wpX_isWord
      refine br_f a (br_f a2 (br_f rq_d (br_f s (br_t s2 ?_))))
      show wpY_mem _ _ _ _
      unfold wpY_mem
      exact br_f a (br_t a1 (br_f (N 0 (by decide) (by decide)) (br_f (N 1 (by decide) (by decide)) (br_f (N 2 (by decide) (by decide)) (br_f (N 3 (by decide) (by decide)) (br_f (N 4 (by decide) (by decide)) (br_f (N 5 (by decide) (by decide)) (⟨rfl, rq_mk h8 h64 (by omega) W⟩))))))))
  · by_cases z : tg v1.toNatClampNeg = 0
    · unfold wpX_mem wpX_isWord
      refine br_f a (br_f a2 (br_f rq_d (br_f (by decide) (br_f (by decide) (br_t rfl ⟨w, br_t z ?_⟩)))))
      show wpY_mem _ _ _ _
      unfold wpY_mem
      exact br_f a (br_t a1 (br_t rfl ⟨w, br_t z ⟨rfl, rq_mk h8 h64 (by omega) W⟩⟩))
    · unfold wpX_mem wpX_isWord
      refine br_f a (br_f a2 (br_f rq_d (br_f (by decide) (br_f (by decide) (br_t rfl ⟨w, br_f z ?_⟩)))))
      show wpY_mem _ _ _ _
      unfold wpY_mem
      exact br_f a (br_t a1 (br_t rfl ⟨w, br_f z ⟨rfl, rq_mk h8 h64 (by omega) W⟩⟩))
  · unfold wpX_mem wpX_isWord
    refine br_f a (br_f a2 (br_f rq_d (br_f (by decide) (br_f (by decide) (br_f (by decide) (br_t rfl ⟨w, ?_⟩))))))
    show wpY_mem _ _ _ _
    unfold wpY_mem
    exact br_f a (br_t a1 (br_f (by decide) (br_t rfl ⟨w, rfl, rq_mk h8 h64 (by omega) W⟩)))
  · unfold wpX_mem wpX_isWord
    refine br_f a (br_f a2 (br_f rq_d (br_f (by decide) (br_f (by decide) (br_f (by decide) (br_f (by decide) (br_t rfl ⟨w, ?_⟩)))))))
    show wpY_mem _ _ _ _
    unfold wpY_mem
    exact br_f a (br_t a1 (br_f (by decide) (br_f (by decide) (br_t rfl ⟨w, rfl, rq_mk h8 h64 (by omega) W⟩))))
  · unfold wpX_mem wpX_isWord
    refine br_f a (br_f a2 (br_f rq_d (br_f (by decide) (br_f (by decide) (br_f (by decide) (br_f (by decide) (br_f (by decide) (br_t rfl ⟨w, ?_⟩))))))))
    show wpY_mem _ _ _ _
    unfold wpY_mem
    exact br_f a (br_t a1 (br_f (by decide) (br_f (by decide) (br_f (by decide) (br_t rfl ⟨w, rfl, rq_mk h8 h64 (by omega) W⟩)))))
  · unfold wpX_mem wpX_isWord
    refine br_f a (br_f a2 (br_f rq_d (br_f (by decide) (br_f (by decide) (br_f (by decide) (br_f (by decide) (br_f (by decide) (br_f (by decide) (br_t rfl ⟨w, ?_⟩)))))))))
    show wpY_mem _ _ _ _
    unfold wpY_mem
    exact br_f a (br_t a1 (br_f (by decide) (br_f (by decide) (br_f (by decide) (br_f (by decide) (br_t rfl ⟨w, rfl, rq_mk h8 h64 (by omega) W⟩))))))
  · unfold wpX_mem wpX_isWord
    refine br_f a (br_f a2 (br_f rq_d (br_f (by decide) (br_f (by decide) (br_f (by decide) (br_f (by decide) (br_f (by decide) (br_f (by decide) (br_f (by decide) (br_t rfl ⟨w, ?_⟩))))))))))
    show wpY_mem _ _ _ _
    unfold wpY_mem
    exact br_f a (br_t a1 (br_f (by decide) (br_f (by decide) (br_f (by decide) (br_f (by decide) (br_f (by decide) (br_t rfl ⟨w, rfl, rq_mk h8 h64 (by omega) W⟩)))))))
theorem i_vc_stat {k : Nat} {u : SX} {v : SY} (I : i_Rel k u v) (hk : k + 5 ≤ 2562) (v1 : Int32) : wpX_stat (fun r => wpY_stat (fun r' => r' = r ∧ i_Rel (k + 5) u v) v v1) u v1 := by
  obtain ⟨H, m, t, sw, ld, tg, bs, ln, vl, ow, st, rt, rb, rl, ra, h8, h64, hm, W, rfl, rfl⟩ := I
  rcases rq_s7 v1 with s | rfl | rfl | rfl | rfl | rfl | rfl | rfl | rfl
  · have N : ∀ c : Int32, ¬ c < 0 → ¬ (7 : Int32) < c → ¬ v1 = c := by
      intro c h1 h2 q
      subst q
      rcases s with s | ⟨_, s⟩
      · exact h1 s
      · exact h2 s
    rcases s with s | ⟨s, s2⟩
    · unfold wpX_stat
      refine br_t s ?_
      show wpY_stat _ _ _
      unfold wpY_stat
      exact br_f (N 0 (by decide) (by decide)) (br_f (N 1 (by decide) (by decide)) (br_f (N 2 (by decide) (by decide)) (br_f (N 3 (by decide) (by decide)) (br_f (N 4 (by decide) (by decide)) (br_f (N 5 (by decide) (by decide)) (br_f (N 6 (by decide) (by decide)) (br_f (N 7 (by decide) (by decide)) (⟨rfl, rq_mk h8 h64 (by omega) W⟩))))))))
    · unfold wpX_stat
      refine br_f s (br_t s2 ?_)
      show wpY_stat _ _ _
      unfold wpY_stat
      exact br_f (N 0 (by decide) (by decide)) (br_f (N 1 (by decide) (by decide)) (br_f (N 2 (by decide) (by decide)) (br_f (N 3 (by decide) (by decide)) (br_f (N 4 (by decide) (by decide)) (br_f (N 5 (by decide) (by decide)) (br_f (N 6 (by decide) (by decide)) (br_f (N 7 (by decide) (by decide)) (⟨rfl, rq_mk h8 h64 (by omega) W⟩))))))))
  · unfold wpX_stat
    refine br_f (by decide) (br_f (by decide) (br_t rfl (xq_cntS h64 ?_)))
    show wpY_stat _ _ _
    unfold wpY_stat
    exact br_t rfl (yq_cntS h64 ⟨rfl, rq_mk h8 h64 (by omega) W⟩)
  · unfold wpX_stat
    refine br_f (by decide) (br_f (by decide) (br_f (by decide) (br_t rfl (xq_cntS h64 ?_))))
    show wpY_stat _ _ _
    unfold wpY_stat
    exact br_f (by decide) (br_t rfl (yq_cntS h64 ⟨rfl, rq_mk h8 h64 (by omega) W⟩))
  · unfold wpX_stat
    refine br_f (by decide) (br_f (by decide) (br_f (by decide) (br_f (by decide) (br_t rfl (xq_cntS h64 ?_)))))
    show wpY_stat _ _ _
    unfold wpY_stat
    exact br_f (by decide) (br_f (by decide) (br_t rfl (yq_cntS h64 ⟨rfl, rq_mk h8 h64 (by omega) W⟩)))
  · unfold wpX_stat
    refine br_f (by decide) (br_f (by decide) (br_f (by decide) (br_f (by decide) (br_f (by decide) (br_t rfl ?_)))))
    show wpY_stat _ _ _
    unfold wpY_stat
    exact br_f (by decide) (br_f (by decide) (br_f (by decide) (br_t rfl ⟨rfl, rq_mk h8 h64 (by omega) W⟩)))
  · unfold wpX_stat
    refine br_f (by decide) (br_f (by decide) (br_f (by decide) (br_f (by decide) (br_f (by decide) (br_f (by decide) (br_t rfl (xq_long h64 ?_)))))))
    show wpY_stat _ _ _
    unfold wpY_stat
    exact br_f (by decide) (br_f (by decide) (br_f (by decide) (br_f (by decide) (br_t rfl (yq_long h64 ⟨rfl, rq_mk h8 h64 (by omega) W⟩)))))
  · unfold wpX_stat
    refine br_f (by decide) (br_f (by decide) (br_f (by decide) (br_f (by decide) (br_f (by decide) (br_f (by decide) (br_f (by decide) (br_t rfl ?_)))))))
    show wpY_stat _ _ _
    unfold wpY_stat
    exact br_f (by decide) (br_f (by decide) (br_f (by decide) (br_f (by decide) (br_f (by decide) (br_t rfl ⟨rfl, rq_mk h8 h64 (by omega) W⟩)))))
  · unfold wpX_stat
    refine br_f (by decide) (br_f (by decide) (br_f (by decide) (br_f (by decide) (br_f (by decide) (br_f (by decide) (br_f (by decide) (br_f (by decide) (br_t rfl ?_))))))))
    show wpY_stat _ _ _
    unfold wpY_stat
    exact br_f (by decide) (br_f (by decide) (br_f (by decide) (br_f (by decide) (br_f (by decide) (br_f (by decide) (br_t rfl ⟨rfl, rq_mk h8 h64 (by omega) W⟩))))))
  · unfold wpX_stat
    refine br_f (by decide) (br_f (by decide) (br_f (by decide) (br_f (by decide) (br_f (by decide) (br_f (by decide) (br_f (by decide) (br_f (by decide) (br_f (by decide) (br_t rfl ?_)))))))))
    show wpY_stat _ _ _
    unfold wpY_stat
    exact br_f (by decide) (br_f (by decide) (br_f (by decide) (br_f (by decide) (br_f (by decide) (br_f (by decide) (br_f (by decide) (br_t rfl ⟨rfl, rq_mk h8 h64 (by omega) W⟩)))))))
end
section
variable {H m : Nat} {h t al sw ld : Int32} {tg bs ln vl ow st rt rb rl ra : Nat → Int32}

theorem rq_fin55 {k n : Nat} {r v1 : Int32} (h8 : 8 ≤ H) (h64 : H ≤ 64) (hm : m ≤ k) (hk : k + 5 ≤ 2562) (W : rq_WF H m ow st) (w : vp_in v1 8) (R : rq_FF st H n r) :
    ∃ (r2 : Int32) (u2 : SX), i_Rel (k + 5) u2 u2 ∧ (∀ post : Int32 → SX → Prop, post r2 u2 → wX_alloc_55 post v1 (nI n) r (nI H) t (nI m) sw ld tg bs ln vl ow st rt rb rl ra) ∧
      (∀ post : Int32 → SY → Prop, post r2 u2 → wY_alloc_55 post v1 (nI n) r (nI H) t (nI m) sw ld tg bs ln vl ow st rt rb rl ra) := by
  rcases R with ⟨a, rfl, ha, fr, _⟩ | ⟨rfl, _⟩
  · have n1 : ¬ nI a = -1 := by
      intro q
      have q2 : (nI a).toInt = (-1 : Int32).toInt := by rw [q]
      rw [nI_toInt (by omega), show (-1 : Int32).toInt = -1 by decide] at q2
      omega
    refine ⟨nI a, _, rq_mk (m := m + 1) (t := t) (sw := sw) (ld := ld) (tg := (rq_fold (rq_kS a (nI (m + 1))) (tg, bs, ln, vl, ow, st) n).1) (bs := (rq_fold (rq_kS a (nI (m + 1))) (tg, bs, ln, vl, ow, st) n).2.1) (ln := (rq_fold (rq_kS a (nI (m + 1))) (tg, bs, ln, vl, ow, st) n).2.2.1) (vl := (rq_fold (rq_kS a (nI (m + 1))) (tg, bs, ln, vl, ow, st) n).2.2.2.1)
      (rt := upd rt v1.toNatClampNeg (vp_nar .boolean 1)) (rb := upd rb v1.toNatClampNeg (nI a)) (rl := upd rl v1.toNatClampNeg (nI n)) (ra := upd ra v1.toNatClampNeg (nI a)) h8 h64 (by omega) (rq_WF_K (tg := tg) (bs := bs) (ln := ln) (vl := vl) W (by omega) fr ha), fun post p => ?_, fun post p => ?_⟩
    · refine br_f n1 (nm_r (nI_1 m) ?_)
      refine xq_claim (by omega) (fun z hz => ?_)
      subst hz
      exact xq_setR w p
    · refine br_t (nI_pos' (by omega)) (nm_r (nI_1 m) ?_)
      refine yq_claim w (by omega) (fun z hz => ?_)
      subst hz
      exact p
  · exact ⟨-3, _, rq_mk h8 h64 (by omega) W, fun post p => br_t rfl p, fun post p => br_f (by decide) p⟩
theorem i_vc_alloc {k : Nat} {u : SX} {v : SY} (I : i_Rel k u v) (hk : k + 5 ≤ 2562) (v1 : Int32) (v2 : Int32) : wpX_alloc (fun r u' => wpY_alloc (fun r' v' => r' = r ∧ i_Rel (k + 5) u' v') v v1 v2) u v1 v2 := by
  obtain ⟨H, m, t, sw, ld, tg, bs, ln, vl, ow, st, rt, rb, rl, ra, h8, h64, hm, W, rfl, rfl⟩ := I
  rcases rq_rd v1 with b | g
  · unfold wpX_alloc
    refine xq_bad b (br_t rfl ?_)
    show wpY_alloc _ _ _ _
    unfold wpY_alloc
    exact yq_bad b (br_f rq_d ⟨rfl, rq_mk h8 h64 (by omega) W⟩)
  have w := g.2.2.2
  by_cases a : v2 < 1
  · unfold wpX_alloc
    refine xq_good g (br_f rq_d (br_t a ?_))
    show wpY_alloc _ _ _ _
    unfold wpY_alloc
    exact yq_good g (br_t rfl (br_t a ⟨rfl, rq_mk h8 h64 (by omega) W⟩))
  rcases Classical.em (v2 ≤ nI H) with c | c
  rotate_left
  · unfold wpX_alloc
    refine xq_good g (br_f rq_d (br_f a (br_f c ?_)))
    show wpY_alloc _ _ _ _
    unfold wpY_alloc
    exact yq_good g (br_t rfl (br_f a (br_f c ⟨rfl, rq_mk h8 h64 (by omega) W⟩)))
  have ex : ∃ n : Nat, 1 ≤ n ∧ n ≤ H ∧ v2 = nI n := by
    have a' := rq_ge a
    rw [Int32.le_iff_toInt_le, rq_i1] at a'
    have n0 : ¬ v2 < 0 := by rw [Int32.lt_iff_toInt_lt, rq_i0]; omega
    obtain ⟨n, hn, rfl⟩ := nI_of n0
    rw [nI_toInt hn] at a'
    exact ⟨n, by omega, (nI_leI hn (by omega)).mp c, rfl⟩
  obtain ⟨n, hn, hnH, rfl⟩ := ex
  unfold wpX_alloc
  refine xq_good g (br_f rq_d (br_f a (br_t c (xq_ff h64 hn hnH (fun r R => ?_)))))
  by_cases hr : r = -1
  · have hr0 : ¬ 0 ≤ r := by rw [hr]; decide
    refine br_t hr (xq_cntS h64 ?_)
    by_cases hc : rq_fold (rq_cS st 2) 0 H ≤ 0
    · obtain ⟨r2, u2, S, X, Y⟩ := rq_fin55 (t := t) (sw := sw) (ld := ld) (tg := tg) (bs := bs) (ln := ln) (vl := vl) (rt := rt) (rb := rb) (rl := rl) (ra := ra) h8 h64 hm hk W w R
      refine br_t hc (X _ ?_)
      show wpY_alloc _ _ _ _
      unfold wpY_alloc
      refine yq_good g (br_t rfl (br_f a (br_t c (yq_ff h64 hn hnH (fun r' R' => ?_)))))
      have q := rq_FF_u R R'
      subst q
      exact br_f hr0 (yq_cntS h64 (br_t hc (Y _ ⟨rfl, S⟩)))
    · refine br_f hc (xq_sweep h64 (fun z hz => ?_))
      subst hz
      refine xq_ff h64 hn hnH (fun r2 R2 => ?_)
      obtain ⟨r3, u3, S, X, Y⟩ := rq_fin55 (t := t) (sw := sw + 1) (ld := ld) (tg := (rq_Z H st tg bs ln vl ow).1) (bs := (rq_Z H st tg bs ln vl ow).2.1) (ln := (rq_Z H st tg bs ln vl ow).2.2.1) (vl := (rq_Z H st tg bs ln vl ow).2.2.2.1) (rt := (rq_R H st rt rb).1) (rb := rb) (rl := rl) (ra := ra) h8 h64 hm hk (rq_WF_Z W) w R2
      refine X _ ?_
      show wpY_alloc _ _ _ _
      unfold wpY_alloc
      refine yq_good g (br_t rfl (br_f a (br_t c (yq_ff h64 hn hnH (fun r' R' => ?_)))))
      have q := rq_FF_u R R'
      subst q
      refine br_f hr0 (yq_cntS h64 (br_f hc (yq_sweep h64 (fun z2 hz2 => ?_))))
      subst hz2
      refine yq_ff h64 hn hnH (fun r4 R4 => ?_)
      have q := rq_FF_u R2 R4
      subst q
      exact Y _ ⟨rfl, S⟩
  · have hr0 : 0 ≤ r := by
      rcases R with ⟨a, rfl, ha, _, _⟩ | ⟨e, _⟩
      · exact nI_pos' (by omega)
      · exact absurd e hr
    obtain ⟨r2, u2, S, X, Y⟩ := rq_fin55 (t := t) (sw := sw) (ld := ld) (tg := tg) (bs := bs) (ln := ln) (vl := vl) (rt := rt) (rb := rb) (rl := rl) (ra := ra) h8 h64 hm hk W w R
    refine br_f hr (X _ ?_)
    show wpY_alloc _ _ _ _
    unfold wpY_alloc
    refine yq_good g (br_t rfl (br_f a (br_t c (yq_ff h64 hn hnH (fun r' R' => ?_)))))
    have q := rq_FF_u R R'
    subst q
    exact br_t hr0 (Y _ ⟨rfl, S⟩)
end
section
variable {H m : Nat} {h t al sw ld : Int32} {tg bs ln vl ow st rt rb rl ra : Nat → Int32}

theorem xq_blk {post : Int32 → Prop} {j : Nat} {len : Int32} (hH : H ≤ 64) (hj : j < H) (l : st j = 1)
    (p : ∀ r : Int32, ((r = 1 ∧ (j = 0 ∨ ¬ ow (j - 1) = ow j) ∧ rq_fold (rq_cS ow (ow j)) 0 H = len) ∨ (r = 0 ∧ ¬ ((j = 0 ∨ ¬ ow (j - 1) = ow j) ∧ rq_fold (rq_cS ow (ow j)) 0 H = len))) → post r) :
    wpX_isWholeBlock post (nI H, t, al, sw, ld, tg, bs, ln, vl, ow, st, rt, rb, rl, ra) (nI j) len := by
  have e : (nI j).toNatClampNeg = j := nI_clamp (by omega)
  have w : vp_in (nI j) 64 := vp_in_nI (by omega) (by omega)
  have c48 : (j = 0 ∨ ¬ ow (j - 1) = ow j) → wX_isWholeBlock_48 post len (ow j) 1 (nI H) t al sw ld tg bs ln vl ow st rt rb rl ra := fun hs =>
    br_f rq_d (xq_cntO hH (br_c (fun q => p 1 (Or.inl ⟨rfl, hs, q⟩)) (fun q => p 0 (Or.inr ⟨rfl, fun z => q z.2⟩))))
  unfold wpX_isWholeBlock wpX_isWord
  refine br_f (nI_pos (by omega)) (br_f (nI_ge hj (by omega)) (br_f rq_d ⟨w, br_t (by rw [e]; exact l) ⟨w, nm_r (e' := ow j) (by rw [e]) ?_⟩⟩))
  rcases Nat.eq_zero_or_pos j with z | z
  · exact br_t (by rw [z]; exact nI_0) (c48 (Or.inl z))
  · have e1 : nI j - 1 = nI (j - 1) := by
      obtain ⟨i, rfl⟩ : ∃ i, j = i + 1 := ⟨j - 1, by omega⟩
      exact nI_pred i
    have e2 : (nI j - 1).toNatClampNeg = j - 1 := by rw [e1]; exact nI_clamp (by omega)
    refine br_f (nI_ne0 z (by omega)) ⟨by rw [e1]; exact vp_in_nI (by omega) (by omega), ?_⟩
    by_cases q : ow (j - 1) = ow j
    · refine br_t (by rw [e2]; exact q) (br_t rfl (p 0 (Or.inr ⟨rfl, fun y => ?_⟩)))
      rcases y.1 with y | y
      · omega
      · exact y q
    · exact br_f (by rw [e2]; exact q) (c48 (Or.inr q))
theorem i_vc_free {k : Nat} {u : SX} {v : SY} (I : i_Rel k u v) (hk : k + 5 ≤ 2562) (v1 : Int32) : wpX_free (fun r u' => wpY_free (fun r' v' => r' = r ∧ i_Rel (k + 5) u' v') v v1) u v1 := by
  obtain ⟨H, m, t, sw, ld, tg, bs, ln, vl, ow, st, rt, rb, rl, ra, h8, h64, hm, W, rfl, rfl⟩ := I
  rcases rq_rd v1 with b | g
  · unfold wpX_free
    refine xq_bad b (br_t rfl ?_)
    show wpY_free _ _ _
    unfold wpY_free
    exact yq_bad b (br_f rq_d ⟨rfl, rq_mk h8 h64 (by omega) W⟩)
  have w := g.2.2.2
  by_cases z : rt v1.toNatClampNeg = 0
  · unfold wpX_free
    refine xq_good g (br_f rq_d ⟨w, br_t z ?_⟩)
    show wpY_free _ _ _
    unfold wpY_free
    exact yq_good g (br_t rfl ⟨w, br_t z ⟨rfl, rq_mk h8 h64 (by omega) W⟩⟩)
  rcases rq_hc (rb v1.toNatClampNeg) h64 with a | ⟨a, _, _, a2⟩ | ⟨j, hj, ej, a, _, _, a2, wb, eb⟩
  · unfold wpX_free
    refine xq_good g (br_f rq_d ⟨w, br_f z ⟨w, w, ?_⟩⟩)
    unfold wpX_isWholeBlock wpX_isWord
    refine br_t a.1 (br_t rfl (br_t rfl ?_))
    show wpY_free _ _ _
    unfold wpY_free
    exact yq_good g (br_t rfl ⟨w, br_f z ⟨w, nm_e (br_t a.1 ⟨rfl, rq_mk h8 h64 (by omega) W⟩)⟩⟩)
  · unfold wpX_free
    refine xq_good g (br_f rq_d ⟨w, br_f z ⟨w, w, ?_⟩⟩)
    unfold wpX_isWholeBlock wpX_isWord
    refine br_f a (br_t a2 (br_t rfl (br_t rfl ?_)))
    show wpY_free _ _ _
    unfold wpY_free
    exact yq_good g (br_t rfl ⟨w, br_f z ⟨w, nm_e (br_f a (br_t a2 ⟨rfl, rq_mk h8 h64 (by omega) W⟩))⟩⟩)
  by_cases l : st j = 1
  rotate_left
  · unfold wpX_free
    refine xq_good g (br_f rq_d ⟨w, br_f z ⟨w, w, ?_⟩⟩)
    unfold wpX_isWholeBlock wpX_isWord
    refine br_f a (br_f a2 (br_f rq_d ⟨wb, br_f (by rw [eb]; exact l) (br_t rfl ?_)⟩))
    show wpY_free _ _ _
    unfold wpY_free
    exact yq_good g (br_t rfl ⟨w, br_f z ⟨w, nm_e (br_f a (br_f a2 ⟨wb, br_f (by rw [eb]; exact l) ⟨rfl, rq_mk h8 h64 (by omega) W⟩⟩))⟩⟩)
  have s0 : ¬ ow j = 0 := W.2.2.1 j hj l
  unfold wpX_free
  refine xq_good g (br_f rq_d ⟨w, br_f z ⟨w, w, ?_⟩⟩)
  rw [ej]
  refine xq_blk h64 hj l (fun r hr => ?_)
  have ybase : ∀ (post : Int32 → SY → Prop), (∀ a, a ≤ j → ow a = ow j → (∀ x, x < a → ¬ ow x = ow j) → wY_free_70 post v1 (nI j) (ow j) (nI H) t (nI m) sw ld tg bs ln vl ow st rt rb rl ra 1 (nI a) (rq_fold (rq_cS ow (ow j)) 0 H) (nI H)) → wpY_free post (nI H, t, nI m, sw, ld, tg, bs, ln, vl, ow, st, rt, rb, rl, ra) v1 := by
    intro post p
    unfold wpY_free
    refine yq_good g (br_t rfl ⟨w, br_f z ⟨w, nm_e (?_)⟩⟩)
    rw [ej] at a a2 wb eb ⊢
    refine br_f a (br_f a2 ⟨wb, br_t (by rw [eb]; exact l) ⟨wb, nm_r (e' := ow j) (by rw [eb]) ?_⟩⟩)
    refine yq_start h64 (fun x hx => ?_)
    obtain ⟨i, hi, rfl, ei, li⟩ := rq_SI_end hx hj
    exact p i hi ei li
  have HH : nI H ≤ nI H := nI_le (Nat.le_refl _) (by omega)
  rcases hr with ⟨rfl, hs, hc⟩ | ⟨rfl, hn⟩
  · refine br_f rq_d ⟨w, by rw [ej] at wb; exact wb, ?_⟩
    rw [nI_clamp (n := j) (by omega)]
    refine xq_quar h64 ?_
    have yq : ∀ (post : Int32 → SY → Prop), (∃ n, wY_free_135 post (ow j) (nI H) t (nI m) sw ld n 0 tg bs ln vl ow st rt rb rl ra) → wpY_free post (nI H, t, nI m, sw, ld, tg, bs, ln, vl, ow, st, rt, rb, rl, ra) v1 := by
      intro post p
      refine ybase post (fun i hi ei li => ?_)
      have ii : i = j := (rq_start W hj s0 hi ei li).mpr hs
      subst ii
      exact br_t HH (br_f s0 (br_t rfl ⟨w, br_t hc.symm p⟩))
    refine xq_cntS h64 ?_
    by_cases hT : rq_fold (rq_cS (rq_fold (rq_qS ow (ow j)) st H) 2) 0 H < t
    · refine br_t hT ?_
      refine yq _ (yq_quar h64 rfl (fun _ => ?_) (fun q => absurd hT q))
      exact ⟨rfl, rq_mk h8 h64 (by omega) (rq_WF_Q W)⟩
    · refine br_f hT (xq_sweep h64 (fun z1 hz1 => ?_))
      refine yq _ (yq_quar h64 rfl (fun q => absurd q hT) (fun _ z2 hz2 => ⟨rfl, ?_⟩))
      subst hz1 hz2
      exact rq_mk h8 h64 (by omega) (rq_WF_Z (rq_WF_Q W))
  · refine br_t rfl ?_
    refine ybase _ (fun i hi ei li => ?_)
    refine br_t HH (br_f s0 ?_)
    have se := rq_start W hj s0 hi ei li
    by_cases c : i = j
    · refine br_t (by rw [c]) ⟨w, br_f (fun q => hn ⟨se.mp c, q.symm⟩) ⟨rfl, rq_mk h8 h64 (by omega) W⟩⟩
    · exact br_f (fun q => c ((nI_eq (by omega) (by omega)).mp q)) ⟨rfl, rq_mk h8 h64 (by omega) W⟩
end
