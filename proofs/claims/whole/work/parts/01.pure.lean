/-- a loop that counts up, as a fold over its state -/
def rq_fold {σ : Type} (f : Nat → σ → σ) (s : σ) : Nat → σ
  | 0 => s
  | i + 1 => f i (rq_fold f s i)

theorem rq_loop {σ : Type} (W : Nat → Nat → σ → Prop) (f : Nat → σ → σ) (e : Nat) (s : σ)
    (hs : ∀ n i t, i < e → W n (i + 1) (f i t) → W (n + 1) i t)
    (hx : ∀ n, W (n + 1) e (rq_fold f s e)) : ∃ n, W n 0 s := by
  have key : ∀ d i, i + d = e → W (d + 1) i (rq_fold f s i) := by
    intro d
    induction d with
    | zero =>
      intro i hi
      have h : i = e := by omega
      rw [h]
      exact hx 0
    | succ d ih =>
      intro i hi
      exact hs _ _ _ (by omega) (ih (i + 1) (by omega))
  exact ⟨e + 1, key e 0 (by omega)⟩

/-- owners and states of the heap's words belong together: owners are serials up to m; a FREE word has none, a LIVE word has one;
    one owner's words have one state and are consecutive -/
def rq_WF (H m : Nat) (ow st : Nat → Int32) : Prop :=
  (∀ w, w < H → ∃ o, o ≤ m ∧ ow w = nI o) ∧
  (∀ w, w < H → st w = 0 → ow w = 0) ∧
  (∀ w, w < H → st w = 1 → ¬ ow w = 0) ∧
  (∀ i j, i < H → j < H → ow i = ow j → ¬ ow i = 0 → st i = st j) ∧
  (∀ i j l, i < j → j < l → l < H → ow i = ow l → ¬ ow i = 0 → ow j = ow i)

theorem rq_WF_claim {H m a n : Nat} {ow st ow' st' : Nat → Int32} (h : rq_WF H m ow st) (hm : m + 1 < 2 ^ 31)
    (ha : ∀ j, j < n → st (a + j) = 0) (hH : a + n ≤ H)
    (ho : ∀ w, ow' w = if a ≤ w ∧ w < a + n then nI (m + 1) else ow w)
    (hs : ∀ w, st' w = if a ≤ w ∧ w < a + n then 1 else st w) : rq_WF H (m + 1) ow' st' := by
  obtain ⟨h1, h2, h3, h4, h5⟩ := h
  have hf : ∀ w, a ≤ w ∧ w < a + n → st w = 0 := by
    intro w hw
    have q := ha (w - a) (by omega)
    rwa [show a + (w - a) = w by omega] at q
  have hn0 : ¬ nI (m + 1) = 0 := nI_ne0 (by omega) hm
  have hnew : ∀ w, w < H → ¬ ow w = nI (m + 1) := by
    intro w hw e
    obtain ⟨o, hom, eo⟩ := h1 w hw
    rw [eo, nI_eq (by omega) (by omega)] at e
    omega
  have h10 : ¬ (1 : Int32) = 0 := by decide
  refine ⟨fun w hw => ?_, fun w hw e => ?_, fun w hw e => ?_, fun i j hi hj e z => ?_, fun i j l hij hjl hl e z => ?_⟩
  · by_cases c : a ≤ w ∧ w < a + n
    · exact ⟨m + 1, Nat.le_refl _, by rw [ho w, if_pos c]⟩
    · obtain ⟨o, hom, eo⟩ := h1 w hw
      exact ⟨o, by omega, by rw [ho w, if_neg c]; exact eo⟩
  · by_cases c : a ≤ w ∧ w < a + n
    · rw [hs w, if_pos c] at e
      exact absurd e h10
    · rw [hs w, if_neg c] at e
      rw [ho w, if_neg c]
      exact h2 w hw e
  · by_cases c : a ≤ w ∧ w < a + n
    · rw [ho w, if_pos c]
      exact hn0
    · rw [hs w, if_neg c] at e
      rw [ho w, if_neg c]
      exact h3 w hw e
  · by_cases ci : a ≤ i ∧ i < a + n
    · by_cases cj : a ≤ j ∧ j < a + n
      · rw [hs i, hs j, if_pos ci, if_pos cj]
      · rw [ho i, ho j, if_pos ci, if_neg cj] at e
        exact absurd e.symm (hnew j hj)
    · by_cases cj : a ≤ j ∧ j < a + n
      · rw [ho i, ho j, if_neg ci, if_pos cj] at e
        exact absurd e (hnew i hi)
      · rw [ho i, ho j, if_neg ci, if_neg cj] at e
        rw [ho i, if_neg ci] at z
        rw [hs i, hs j, if_neg ci, if_neg cj]
        exact h4 i j hi hj e z
  · by_cases ci : a ≤ i ∧ i < a + n
    · by_cases cl : a ≤ l ∧ l < a + n
      · rw [ho i, ho j, if_pos ci, if_pos (by omega)]
      · rw [ho i, ho l, if_pos ci, if_neg cl] at e
        exact absurd e.symm (hnew l hl)
    · by_cases cl : a ≤ l ∧ l < a + n
      · rw [ho i, ho l, if_neg ci, if_pos cl] at e
        exact absurd e (hnew i (by omega))
      · rw [ho i, ho l, if_neg ci, if_neg cl] at e
        rw [ho i, if_neg ci] at z
        have ej := h5 i j l hij hjl hl e z
        by_cases cj : a ≤ j ∧ j < a + n
        · exact absurd (ej.symm.trans (h2 j (by omega) (hf j cj))) z
        · rw [ho i, ho j, if_neg ci, if_neg cj]
          exact ej

theorem rq_WF_quar {H m : Nat} {ow st st' : Nat → Int32} {s : Int32} (h : rq_WF H m ow st)
    (hs : ∀ w, w < H → st' w = if ow w = s then 2 else st w) : rq_WF H m ow st' := by
  obtain ⟨h1, h2, h3, h4, h5⟩ := h
  refine ⟨h1, fun w hw e => ?_, fun w hw e => ?_, fun i j hi hj e z => ?_, h5⟩
  · by_cases c : ow w = s
    · rw [hs w hw, if_pos c] at e
      exact absurd e (by decide)
    · rw [hs w hw, if_neg c] at e
      exact h2 w hw e
  · by_cases c : ow w = s
    · rw [hs w hw, if_pos c] at e
      exact absurd e (by decide)
    · rw [hs w hw, if_neg c] at e
      exact h3 w hw e
  · by_cases c : ow j = s
    · rw [hs i hi, hs j hj, if_pos c, if_pos (e.trans c)]
    · rw [hs i hi, hs j hj, if_neg c, if_neg (fun q => c (e.symm.trans q))]
      exact h4 i j hi hj e z

theorem rq_WF_rel {H m : Nat} {ow st ow' st' : Nat → Int32} (h : rq_WF H m ow st)
    (ho : ∀ w, w < H → ow' w = if st w = 2 then 0 else ow w)
    (hs : ∀ w, w < H → st' w = if st w = 2 then 0 else st w) : rq_WF H m ow' st' := by
  obtain ⟨h1, h2, h3, h4, h5⟩ := h
  refine ⟨fun w hw => ?_, fun w hw e => ?_, fun w hw e => ?_, fun i j hi hj e z => ?_, fun i j l hij hjl hl e z => ?_⟩
  · by_cases c : st w = 2
    · exact ⟨0, Nat.zero_le _, by rw [ho w hw, if_pos c]; exact nI_0.symm⟩
    · obtain ⟨o, hom, eo⟩ := h1 w hw
      exact ⟨o, hom, by rw [ho w hw, if_neg c]; exact eo⟩
  · by_cases c : st w = 2
    · rw [ho w hw, if_pos c]
    · rw [hs w hw, if_neg c] at e
      rw [ho w hw, if_neg c]
      exact h2 w hw e
  · by_cases c : st w = 2
    · rw [hs w hw, if_pos c] at e
      exact absurd e (by decide)
    · rw [hs w hw, if_neg c] at e
      rw [ho w hw, if_neg c]
      exact h3 w hw e
  · have ci : ¬ st i = 2 := fun c => z (by rw [ho i hi, if_pos c])
    have cj : ¬ st j = 2 := fun c => z (by rw [e, ho j hj, if_pos c])
    rw [ho i hi, ho j hj, if_neg ci, if_neg cj] at e
    rw [ho i hi, if_neg ci] at z
    rw [hs i hi, hs j hj, if_neg ci, if_neg cj]
    exact h4 i j hi hj e z
  · have hi : i < H := by omega
    have hj : j < H := by omega
    have ci : ¬ st i = 2 := fun c => z (by rw [ho i hi, if_pos c])
    have cl : ¬ st l = 2 := fun c => z (by rw [e, ho l hl, if_pos c])
    rw [ho i hi, ho l hl, if_neg ci, if_neg cl] at e
    rw [ho i hi, if_neg ci] at z
    have ej := h5 i j l hij hjl hl e z
    have sj : st j = st i := h4 j i hj hi ej (fun q => z (ej.symm.trans q))
    rw [ho j hj, ho i hi, if_neg (fun q => ci (sj.symm.trans q)), if_neg ci]
    exact ej

/-- r is the first fit for n words, or -1 where there is none -/
def rq_FF (st : Nat → Int32) (H n : Nat) (r : Int32) : Prop :=
  (∃ a, r = nI a ∧ a + n ≤ H ∧ (∀ j, j < n → st (a + j) = 0) ∧ ∀ b, b < a → ∃ j, j < n ∧ ¬ st (b + j) = 0) ∨
  (r = -1 ∧ ∀ b, b + n ≤ H → ∃ j, j < n ∧ ¬ st (b + j) = 0)

theorem rq_FF_u {st : Nat → Int32} {H n : Nat} {r r' : Int32} (h : rq_FF st H n r) (h' : rq_FF st H n r') : r' = r := by
  rcases h with ⟨a, ea, ha, fa, la⟩ | ⟨e, l⟩
  · rcases h' with ⟨b, eb, hb, fb, lb⟩ | ⟨e', l'⟩
    · rcases Nat.lt_trichotomy a b with c | c | c
      · obtain ⟨j, hj, z⟩ := lb a c
        exact absurd (fa j hj) z
      · rw [ea, eb, c]
      · obtain ⟨j, hj, z⟩ := la b c
        exact absurd (fb j hj) z
    · obtain ⟨j, hj, z⟩ := l' a ha
      exact absurd (fa j hj) z
  · rcases h' with ⟨b, eb, hb, fb, lb⟩ | ⟨e', l'⟩
    · obtain ⟨j, hj, z⟩ := l b hb
      exact absurd (fb j hj) z
    · rw [e, e']

/-- where the block of word b starts: at b, or its lower neighbour belongs to it -/
theorem rq_start {H m a b : Nat} {ow st : Nat → Int32} (h : rq_WF H m ow st) (hb : b < H) (hz : ¬ ow b = 0)
    (ha : a ≤ b) (e : ow a = ow b) (l : ∀ w, w < a → ¬ ow w = ow b) : a = b ↔ (b = 0 ∨ ¬ ow (b - 1) = ow b) := by
  constructor
  · intro q
    by_cases z : b = 0
    · exact Or.inl z
    · exact Or.inr (l (b - 1) (by omega))
  · intro q
    rcases q with q | q
    · omega
    · rcases Nat.lt_or_ge a b with c | c
      · rcases Nat.lt_or_ge a (b - 1) with d | d
        · exact absurd ((h.2.2.2.2 a (b - 1) b d (by omega) hb e (fun q => hz (e.symm.trans q))).trans e) q
        · exact absurd (show ow (b - 1) = ow b by rw [show b - 1 = a by omega]; exact e) q
      · omega

/-- what the loops do, word by word -/
def rq_cS (f : Nat → Int32) (s : Int32) : Nat → Int32 → Int32 := fun i c => if f i = s then c + 1 else c
def rq_qS (ow : Nat → Int32) (s : Int32) : Nat → (Nat → Int32) → (Nat → Int32) := fun i st => if ow i = s then upd st i 2 else st

theorem rq_qF (ow st : Nat → Int32) (s : Int32) : ∀ i w, rq_fold (rq_qS ow s) st i w = if w < i ∧ ow w = s then 2 else st w := by
  intro i
  induction i with
  | zero => intro w; rw [if_neg (by omega)]; rfl
  | succ i ih =>
    intro w
    show rq_qS ow s i (rq_fold (rq_qS ow s) st i) w = _
    unfold rq_qS
    by_cases c : ow i = s
    · rw [if_pos c]
      show (if w = i then 2 else rq_fold (rq_qS ow s) st i w) = _
      by_cases e : w = i
      · rw [if_pos e, if_pos ⟨by omega, by rw [e]; exact c⟩]
      · rw [if_neg e, ih w]
        by_cases d : w < i ∧ ow w = s
        · rw [if_pos d, if_pos ⟨by omega, d.2⟩]
        · rw [if_neg d, if_neg (fun q => d ⟨by omega, q.2⟩)]
    · rw [if_neg c]
      show rq_fold (rq_qS ow s) st i w = _
      rw [ih w]
      by_cases d : w < i ∧ ow w = s
      · rw [if_pos d, if_pos ⟨by omega, d.2⟩]
      · rw [if_neg d, if_neg]
        intro q
        by_cases e : w = i
        · exact c (by rw [← e]; exact q.2)
        · exact d ⟨by omega, q.2⟩

/-- six arrays of the words: tag, base, len, value, owner, state -/
abbrev rq_M : Type := (Nat → Int32) × (Nat → Int32) × (Nat → Int32) × (Nat → Int32) × (Nat → Int32) × (Nat → Int32)
def rq_put (s : rq_M) (i : Nat) (o t : Int32) : rq_M :=
  (upd s.1 i (vp_nar .boolean 0), upd s.2.1 i 0, upd s.2.2.1 i 0, upd s.2.2.2.1 i 0, upd s.2.2.2.2.1 i o, upd s.2.2.2.2.2 i t)
def rq_rS : Nat → rq_M → rq_M := fun i s => if s.2.2.2.2.2 i = 2 then rq_put s i 0 0 else s
def rq_kS (a : Nat) (o : Int32) : Nat → rq_M → rq_M := fun i s => rq_put s (a + i) o 1

theorem rq_rF (s : rq_M) : ∀ i w, (rq_fold rq_rS s i).2.2.2.2.1 w = (if w < i ∧ s.2.2.2.2.2 w = 2 then 0 else s.2.2.2.2.1 w)
    ∧ (rq_fold rq_rS s i).2.2.2.2.2 w = (if w < i ∧ s.2.2.2.2.2 w = 2 then 0 else s.2.2.2.2.2 w) := by
  intro i
  induction i with
  | zero => intro w; rw [if_neg (by omega), if_neg (by omega)]; exact ⟨rfl, rfl⟩
  | succ i ih =>
    intro w
    have hi : (rq_fold rq_rS s i).2.2.2.2.2 i = s.2.2.2.2.2 i := by rw [(ih i).2, if_neg (by omega)]
    have step : rq_fold rq_rS s (i + 1) = rq_rS i (rq_fold rq_rS s i) := rfl
    by_cases c : s.2.2.2.2.2 i = 2
    · have e1 : rq_fold rq_rS s (i + 1) = rq_put (rq_fold rq_rS s i) i 0 0 := by
        rw [step]; exact if_pos (hi.trans c)
      rw [e1]
      by_cases e : w = i
      · subst e
        rw [if_pos ⟨by omega, c⟩, if_pos ⟨by omega, c⟩]
        exact ⟨if_pos rfl, if_pos rfl⟩
      · have q1 : (rq_put (rq_fold rq_rS s i) i 0 0).2.2.2.2.1 w = (rq_fold rq_rS s i).2.2.2.2.1 w := if_neg e
        have q2 : (rq_put (rq_fold rq_rS s i) i 0 0).2.2.2.2.2 w = (rq_fold rq_rS s i).2.2.2.2.2 w := if_neg e
        rw [q1, q2, (ih w).1, (ih w).2]
        by_cases d : w < i ∧ s.2.2.2.2.2 w = 2
        · have d' : w < i + 1 ∧ s.2.2.2.2.2 w = 2 := ⟨by omega, d.2⟩
          rw [if_pos d, if_pos d, if_pos d', if_pos d']
          exact ⟨rfl, rfl⟩
        · have d' : ¬ (w < i + 1 ∧ s.2.2.2.2.2 w = 2) := fun q => d ⟨by omega, q.2⟩
          rw [if_neg d, if_neg d, if_neg d', if_neg d']
          exact ⟨rfl, rfl⟩
    · have e1 : rq_fold rq_rS s (i + 1) = rq_fold rq_rS s i := by
        rw [step]; exact if_neg (fun q => c (hi.symm.trans q))
      rw [e1, (ih w).1, (ih w).2]
      by_cases d : w < i ∧ s.2.2.2.2.2 w = 2
      · have d' : w < i + 1 ∧ s.2.2.2.2.2 w = 2 := ⟨by omega, d.2⟩
        rw [if_pos d, if_pos d, if_pos d', if_pos d']
        exact ⟨rfl, rfl⟩
      · have d' : ¬ (w < i + 1 ∧ s.2.2.2.2.2 w = 2) := by
          intro q
          by_cases e : w = i
          · exact c (by rw [← e]; exact q.2)
          · exact d ⟨by omega, q.2⟩
        rw [if_neg d, if_neg d, if_neg d', if_neg d']
        exact ⟨rfl, rfl⟩

theorem rq_kF (s : rq_M) (a : Nat) (o : Int32) : ∀ n w, (rq_fold (rq_kS a o) s n).2.2.2.2.1 w = (if a ≤ w ∧ w < a + n then o else s.2.2.2.2.1 w)
    ∧ (rq_fold (rq_kS a o) s n).2.2.2.2.2 w = (if a ≤ w ∧ w < a + n then 1 else s.2.2.2.2.2 w) := by
  intro n
  induction n with
  | zero => intro w; rw [if_neg (by omega), if_neg (by omega)]; exact ⟨rfl, rfl⟩
  | succ i ih =>
    intro w
    have step : rq_fold (rq_kS a o) s (i + 1) = rq_put (rq_fold (rq_kS a o) s i) (a + i) o 1 := rfl
    rw [step]
    by_cases e : w = a + i
    · have d' : a ≤ w ∧ w < a + (i + 1) := by omega
      rw [if_pos d', if_pos d']
      exact ⟨if_pos e, if_pos e⟩
    · have q1 : (rq_put (rq_fold (rq_kS a o) s i) (a + i) o 1).2.2.2.2.1 w = (rq_fold (rq_kS a o) s i).2.2.2.2.1 w := if_neg e
      have q2 : (rq_put (rq_fold (rq_kS a o) s i) (a + i) o 1).2.2.2.2.2 w = (rq_fold (rq_kS a o) s i).2.2.2.2.2 w := if_neg e
      rw [q1, q2, (ih w).1, (ih w).2]
      by_cases d : a ≤ w ∧ w < a + i
      · have d' : a ≤ w ∧ w < a + (i + 1) := by omega
        rw [if_pos d, if_pos d, if_pos d', if_pos d']
        exact ⟨rfl, rfl⟩
      · have d' : ¬ (a ≤ w ∧ w < a + (i + 1)) := by omega
        rw [if_neg d, if_neg d, if_neg d', if_neg d']
        exact ⟨rfl, rfl⟩

/-- the running count of X's first fit at word i: q FREE words end there, no fit has ended before -/
def rq_FI (st : Nat → Int32) (n i q : Nat) : Prop :=
  q ≤ i ∧ q < n ∧ (∀ j, i ≤ j + q → j < i → st j = 0) ∧ (q < i → ¬ st (i - q - 1) = 0) ∧ (∀ b, b + n ≤ i → ∃ j, j < n ∧ ¬ st (b + j) = 0)

theorem rq_FI0 {st : Nat → Int32} {n : Nat} (hn : 1 ≤ n) : rq_FI st n 0 0 :=
  ⟨Nat.le_refl _, hn, fun j _ h => absurd h (Nat.not_lt_zero j), fun h => absurd h (Nat.lt_irrefl 0), fun b h => absurd h (by omega)⟩

theorem rq_FI_free {st : Nat → Int32} {n i q : Nat} (h : rq_FI st n i q) (z : st i = 0) (hq : ¬ q + 1 = n) : rq_FI st n (i + 1) (q + 1) := by
  obtain ⟨h1, h2, h3, h4, h5⟩ := h
  refine ⟨by omega, by omega, fun j a b => ?_, fun c => ?_, fun b hb => ?_⟩
  · by_cases e : j = i
    · rw [e]; exact z
    · exact h3 j (by omega) (by omega)
  · have := h4 (by omega)
    rw [show i + 1 - (q + 1) - 1 = i - q - 1 by omega]
    exact this
  · by_cases e : b + n ≤ i
    · exact h5 b e
    · refine ⟨i - q - 1 - b, by omega, ?_⟩
      rw [show b + (i - q - 1 - b) = i - q - 1 by omega]
      exact h4 (by omega)

theorem rq_FI_hit {st : Nat → Int32} {H n i q : Nat} (h : rq_FI st n i q) (z : st i = 0) (hq : q + 1 = n) (hi : i < H) : rq_FF st H n (nI (i + 1 - n)) := by
  obtain ⟨h1, h2, h3, h4, h5⟩ := h
  refine Or.inl ⟨i + 1 - n, rfl, by omega, fun j hj => ?_, fun b hb => h5 b (by omega)⟩
  by_cases e : i + 1 - n + j = i
  · rw [e]; exact z
  · exact h3 _ (by omega) (by omega)

theorem rq_FI_busy {st : Nat → Int32} {n i q : Nat} (h : rq_FI st n i q) (z : ¬ st i = 0) : rq_FI st n (i + 1) 0 := by
  obtain ⟨h1, h2, h3, h4, h5⟩ := h
  refine ⟨by omega, by omega, fun j a b => absurd b (by omega), fun _ => ?_, fun b hb => ?_⟩
  · rw [show i + 1 - 0 - 1 = i by omega]; exact z
  · by_cases e : b + n ≤ i
    · exact h5 b e
    · refine ⟨n - 1, by omega, ?_⟩
      rw [show b + (n - 1) = i by omega]
      exact z

theorem rq_FI_end {st : Nat → Int32} {H n q : Nat} (h : rq_FI st n H q) : rq_FF st H n (-1) := Or.inr ⟨rfl, h.2.2.2.2⟩

/-- the flag of Y's inner loop -/
def rq_OK (st : Nat → Int32) (a k : Nat) (x : Int32) : Prop :=
  (x = 1 ∧ ∀ j, j < k → st (a + j) = 0) ∨ (x = 0 ∧ ∃ j, j < k ∧ ¬ st (a + j) = 0)

theorem rq_OK0 {st : Nat → Int32} {a : Nat} : rq_OK st a 0 1 := Or.inl ⟨rfl, fun j h => absurd h (Nat.not_lt_zero j)⟩
theorem rq_OK_busy {st : Nat → Int32} {a k : Nat} (z : ¬ st (a + k) = 0) : rq_OK st a (k + 1) 0 := Or.inr ⟨rfl, k, by omega, z⟩
theorem rq_OK_free {st : Nat → Int32} {a k : Nat} {x : Int32} (h : rq_OK st a k x) (z : st (a + k) = 0) : rq_OK st a (k + 1) x := by
  rcases h with ⟨e, h⟩ | ⟨e, j, hj, h⟩
  · refine Or.inl ⟨e, fun j hj => ?_⟩
    by_cases q : j = k
    · rw [q]; exact z
    · exact h j (by omega)
  · exact Or.inr ⟨e, j, by omega, h⟩

/-- Y's search for the start of the block of owner s, at word i -/
def rq_SI (ow : Nat → Int32) (s : Int32) (i : Nat) (x : Int32) : Prop :=
  (x = -1 ∧ ∀ w, w < i → ¬ ow w = s) ∨ (∃ a, a < i ∧ x = nI a ∧ ow a = s ∧ ∀ w, w < a → ¬ ow w = s)

theorem rq_SI0 {ow : Nat → Int32} {s : Int32} : rq_SI ow s 0 (-1) := Or.inl ⟨rfl, fun w h => absurd h (Nat.not_lt_zero w)⟩
theorem rq_m1n : (-1 : Int32) < 0 := by decide
theorem rq_SI_new {ow : Nat → Int32} {s x : Int32} {i : Nat} (h : rq_SI ow s i x) (hi : i < 64) (z : ow i = s) (hx : x < 0) : rq_SI ow s (i + 1) (nI i) := by
  rcases h with ⟨e, l⟩ | ⟨a, ha, e, _, _⟩
  · exact Or.inr ⟨i, by omega, rfl, z, l⟩
  · exact absurd (e ▸ hx) (nI_pos (by omega))
theorem rq_SI_old {ow : Nat → Int32} {s x : Int32} {i : Nat} (h : rq_SI ow s i x) (hx : ¬ x < 0) : rq_SI ow s (i + 1) x := by
  rcases h with ⟨e, l⟩ | ⟨a, ha, e, z, l⟩
  · exact absurd (e ▸ rq_m1n) hx
  · exact Or.inr ⟨a, by omega, e, z, l⟩
theorem rq_SI_no {ow : Nat → Int32} {s x : Int32} {i : Nat} (h : rq_SI ow s i x) (z : ¬ ow i = s) : rq_SI ow s (i + 1) x := by
  rcases h with ⟨e, l⟩ | ⟨a, ha, e, z, l⟩
  · refine Or.inl ⟨e, fun w hw => ?_⟩
    by_cases q : w = i
    · rw [q]; exact z
    · exact l w (by omega)
  · exact Or.inr ⟨a, by omega, e, z, l⟩
theorem rq_SI_end {ow : Nat → Int32} {x : Int32} {H b : Nat} (h : rq_SI ow (ow b) H x) (hb : b < H) :
    ∃ a, a ≤ b ∧ x = nI a ∧ ow a = ow b ∧ ∀ w, w < a → ¬ ow w = ow b := by
  rcases h with ⟨_, l⟩ | ⟨a, ha, e, z, l⟩
  · exact absurd rfl (l b hb)
  · refine ⟨a, ?_, e, z, l⟩
    rcases Nat.lt_or_ge b a with c | c
    · exact absurd rfl (l b c)
    · exact c
