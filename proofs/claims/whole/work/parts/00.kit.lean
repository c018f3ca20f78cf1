theorem pk_us {f : Nat → Int32} {k : Nat} {x : Int32} : upd f k x k = x := if_pos rfl
theorem pk_un {f : Nat → Int32} {k j : Nat} {x : Int32} (h : j ≠ k) : upd f k x j = f j := if_neg h
theorem pk_sub {a b : Nat} (h : b ≤ a) : nI a - nI b = nI (a - b) := by
  obtain ⟨c, rfl⟩ : ∃ c, a = c + b := ⟨a - b, by omega⟩
  rw [← nI_add, Int32.add_sub_cancel, Nat.add_sub_cancel]
theorem pk_m1 (n : Nat) : nI (n + 1) + (-1) = nI n := by
  rw [← nI_1, Int32.add_assoc, show (1 : Int32) + (-1) = 0 from rfl, Int32.add_zero]
theorem pk_ix (x : Int32) {n : Nat} (hn : n < 2 ^ 31) : x < 0 ∨ nI n ≤ x ∨ ∃ j : Nat, j < n ∧ x = nI j := by
  by_cases h : x < 0
  · exact Or.inl h
  · obtain ⟨j, hj, rfl⟩ := nI_of h
    by_cases h2 : j < n
    · exact Or.inr (Or.inr ⟨j, h2, rfl⟩)
    · exact Or.inr (Or.inl (nI_le (by omega) hj))
theorem pk_le {x y : Int32} {A B : Prop} (a b : Nat) (f : a ≤ b → A) (g : b < a → B) (hx : x = nI a := by rfl) (hy : y = nI b := by rfl) (ha : a < 2 ^ 31 := by omega) (hb : b < 2 ^ 31 := by omega) : (x ≤ y → A) ∧ (¬ x ≤ y → B) := by
  subst hx hy
  rw [nI_leI ha hb]
  exact ⟨f, fun z => g (by omega)⟩
theorem pk_lt {x y : Int32} {A B : Prop} (a b : Nat) (f : a < b → A) (g : b ≤ a → B) (hx : x = nI a := by rfl) (hy : y = nI b := by rfl) (ha : a < 2 ^ 31 := by omega) (hb : b < 2 ^ 31 := by omega) : (x < y → A) ∧ (¬ x < y → B) := by
  subst hx hy
  rw [nI_ltI ha hb]
  exact ⟨f, fun z => g (by omega)⟩
theorem pk_eq {x y : Int32} {A B : Prop} (a b : Nat) (f : a = b → A) (g : a ≠ b → B) (hx : x = nI a := by rfl) (hy : y = nI b := by rfl) (ha : a < 2 ^ 31 := by omega) (hb : b < 2 ^ 31 := by omega) : (x = y → A) ∧ (¬ x = y → B) := by
  subst hx hy
  rw [nI_eq ha hb]
  exact ⟨f, g⟩
theorem pk_in {x : Int32} (n N : Nat) (h : n < N) (hx : x = nI n := by rfl) (hN : N < 2 ^ 31 := by omega) : vp_in x N := by
  subst hx
  exact vp_in_nI h hN
theorem pk_cl {x : Int32} (n : Nat) (hx : x = nI n := by rfl) (h : n < 2 ^ 31 := by omega) : x.toNatClampNeg = n := by
  subst hx
  exact nI_clamp h
theorem rq_lt64 (x y : Int32) : x.toInt64 < y.toInt64 ↔ x < y := by
  rw [Int64.lt_iff_toInt_lt, Int32.lt_iff_toInt_lt, Int32.toInt_toInt64, Int32.toInt_toInt64]
theorem rq_le64 (x y : Int32) : x.toInt64 ≤ y.toInt64 ↔ x ≤ y := by
  rw [Int64.le_iff_toInt_le, Int32.le_iff_toInt_le, Int32.toInt_toInt64, Int32.toInt_toInt64]
theorem rq_0l : (0 : Int64) = (0 : Int32).toInt64 := by decide
theorem rq_lt0 (x : Int32) : x.toInt64 < 0 ↔ x < 0 := by rw [rq_0l, rq_lt64]
theorem rq_0le (x : Int32) : 0 ≤ x.toInt64 ↔ 0 ≤ x := by rw [rq_0l, rq_le64]
theorem rq_ge {x y : Int32} (h : ¬ x < y) : y ≤ x := Int32.not_lt.mp h
theorem rq_gt {x y : Int32} (h : ¬ x ≤ y) : y < x := Int32.not_le.mp h
theorem rq_nlt {x y : Int32} (h : y ≤ x) : ¬ x < y := Int32.not_lt.mpr h
theorem rq_nle {x y : Int32} (h : y < x) : ¬ x ≤ y := Int32.not_le.mpr h
theorem rq_i0 : (0 : Int32).toInt = 0 := by decide
theorem rq_i1 : (1 : Int32).toInt = 1 := by decide
theorem rq_i7 : (7 : Int32).toInt = 7 := by decide
theorem rq_i8 : (8 : Int32).toInt = 8 := by decide
theorem rq_rc (x : Int32) : (x < 0 ∧ ¬ 0 ≤ x) ∨ (¬ x < 0 ∧ 0 ≤ x ∧ ¬ x < 8 ∧ 8 ≤ x ∧ ¬ x ≤ 7 ∧ 7 < x) ∨
    (∃ j : Nat, j < 8 ∧ x = nI j ∧ ¬ x < 0 ∧ 0 ≤ x ∧ x < 8 ∧ ¬ 8 ≤ x ∧ x ≤ 7 ∧ ¬ 7 < x ∧ vp_in x 8 ∧ x.toNatClampNeg = j) := by
  rcases pk_ix x (n := 8) (by omega) with h | h | ⟨j, hj, rfl⟩
  · left
    rw [Int32.lt_iff_toInt_lt, rq_i0] at h
    rw [Int32.lt_iff_toInt_lt, Int32.le_iff_toInt_le, rq_i0]
    omega
  · right; left
    rw [Int32.le_iff_toInt_le, nI_toInt (by omega)] at h
    simp only [Int32.lt_iff_toInt_lt, Int32.le_iff_toInt_le, rq_i0, rq_i7, rq_i8]
    omega
  · right; right
    have e : (nI j).toInt = (j : Int) := nI_toInt (by omega)
    refine ⟨j, hj, rfl, ?_, ?_, ?_, ?_, ?_, ?_, vp_in_nI hj (by omega), nI_clamp (by omega)⟩ <;>
      simp only [Int32.lt_iff_toInt_lt, Int32.le_iff_toInt_le, rq_i0, rq_i7, rq_i8, e] <;> omega
theorem rq_hc (x : Int32) {H : Nat} (hH : H ≤ 64) : (x < 0 ∧ ¬ 0 ≤ x) ∨ (¬ x < 0 ∧ 0 ≤ x ∧ ¬ x < nI H ∧ nI H ≤ x) ∨
    (∃ j : Nat, j < H ∧ x = nI j ∧ ¬ x < 0 ∧ 0 ≤ x ∧ x < nI H ∧ ¬ nI H ≤ x ∧ vp_in x 64 ∧ x.toNatClampNeg = j) := by
  rcases pk_ix x (n := H) (by omega) with h | h | ⟨j, hj, rfl⟩
  · left
    rw [Int32.lt_iff_toInt_lt, rq_i0] at h
    rw [Int32.lt_iff_toInt_lt, Int32.le_iff_toInt_le, rq_i0]
    omega
  · right; left
    have e : (nI H).toInt = (H : Int) := nI_toInt (by omega)
    rw [Int32.le_iff_toInt_le, e] at h
    simp only [Int32.lt_iff_toInt_lt, Int32.le_iff_toInt_le, rq_i0, e]
    omega
  · right; right
    have e : (nI j).toInt = (j : Int) := nI_toInt (by omega)
    have e2 : (nI H).toInt = (H : Int) := nI_toInt (by omega)
    refine ⟨j, hj, rfl, ?_, ?_, ?_, ?_, vp_in_nI (by omega) (by omega), nI_clamp (by omega)⟩ <;>
      simp only [Int32.lt_iff_toInt_lt, Int32.le_iff_toInt_le, rq_i0, e, e2] <;> omega
theorem rq_nar0 : vp_nar .boolean 0 = 0 := rfl
theorem rq_nar1 : vp_nar .boolean 1 = 1 := rfl
