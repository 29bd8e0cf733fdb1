/-! PURE: single handles, both sides -/
theorem ix_nI {k n : Nat} (h : k < n) (hn : n ≤ 2 ^ 31) : am_ix (nI k) n = some k := by
  unfold am_ix
  have h1 : ¬ nI k < 0 := nI_pos (by omega)
  have h2 : (nI k).toNatClampNeg = k := nI_clamp (by omega)
  rw [if_neg (by rw [h2]; rintro (q | q); exact h1 q; omega), h2]
theorem ix64_0 : am_ix (0 : Int32) 64 = some 0 := by decide
theorem ix64_1 : am_ix (1 : Int32) 64 = some 1 := by decide
theorem ix64_2 : am_ix (2 : Int32) 64 = some 2 := by decide
theorem ix64_3 : am_ix (3 : Int32) 64 = some 3 := by decide
theorem rI_0 (h : HP) (j k : Nat) : h_rI h 0 j k = h.1.1 0 j k := rfl
theorem rI_1 (h : HP) (j k : Nat) : h_rI h 1 j k = h.1.1 1 j k := rfl
theorem rI_2 (h : HP) (j k : Nat) : h_rI h 2 j k = h.1.1 2 j k := rfl
theorem rI_3 (h : HP) (j k : Nat) : h_rI h 3 j k = h.1.1 3 j k := rfl
theorem rI_4 (h : HP) (j k : Nat) : h_rI h 4 j k = h.1.1 4 j k := rfl
theorem rI_5 (h : HP) (j k : Nat) : h_rI h 5 j k = h.1.1 5 j k := rfl
theorem rI_6 (h : HP) (j k : Nat) : h_rI h 6 j k = h.1.1 6 j k := rfl
theorem rI_11 (h : HP) (j k : Nat) : h_rI h 11 j k = h.1.1 11 j k := rfl
theorem rI_7 (h : HP) (j k : Nat) : h_rI h 7 j k = h.2.1 7 j k := rfl
theorem rI_13 (h : HP) (j k : Nat) : h_rI h 13 j k = h.2.1 13 j k := rfl
theorem rJ_12 (h : HP) (j k : Nat) : h_rJ h 12 j k = h.1.2 12 j k := rfl
theorem rJ_7 (h : HP) (j k : Nat) : h_rJ h 7 j k = h.2.2 7 j k := rfl
theorem rJ_14 (h : HP) (j k : Nat) : h_rJ h 14 j k = h.2.2 14 j k := rfl
def b2i (b : Bool) : Int32 := if b then 1 else 0
theorem b2i_t : b2i true = 1 := rfl
theorem b2i_f : b2i false = 0 := rfl
theorem b2i_0 (b : Bool) : b2i b = 0 ↔ b = false := by cases b <;> simp [b2i]
theorem b2i_and (b : Bool) : b2i b &&& 1 = b2i b := by cases b <;> decide
/-- a handle's field, a member's field, of a row -/
def hd (N : Nat → Int32) (i k : Nat) : Int32 := N (4 + 6 * i + k)
def mb (N : Nat → Int32) (i k : Nat) : Int32 := N (52 + 2 * i + k)
def WFh (N : Nat → Int32) (m d i : Nat) : Prop := (∃ k, k < 6 ∧ hd N i 0 = nI k) ∧ (∃ k, k < 16 ∧ hd N i 1 = nI k) ∧ (∃ k, k < 16 ∧ hd N i 2 = nI k) ∧ (∃ k, k ≤ 99 ∧ hd N i 3 = nI k) ∧ ((hd N i 4 = -1 ∧ hd N i 5 = 0) ∨ ∃ p, p < m ∧ hd N i 4 = nI p ∧ ∃ o, o ≤ d ∧ hd N i 5 = nI o)
def WFm (N : Nat → Int32) (i : Nat) : Prop := (∃ k, k < 16 ∧ mb N i 0 = nI k) ∧ (∃ k, k ≤ 9999 ∧ mb N i 1 = nI k)
def WF (N : Nat → Int32) (n m d l : Nat) : Prop := n ≤ 8 ∧ m ≤ 6 ∧ N 0 = nI d ∧ d ≤ 20000 ∧ N 1 = nI l ∧ l ≤ 30 ∧ N 2 = nI n ∧ N 3 = nI m ∧ (∀ i, i < n → WFh N m d i) ∧ (∀ i, i < m → WFm N i)
/-- library j of the class' side is the row N -/
def LC (h : HP) (j n m : Nat) (N : Nat → Int32) : Prop := h.1.1 1 j 0 = N 0 ∧ h.1.1 1 j 1 = N 1 ∧ h.1.1 1 j 3 = N 2 ∧ h.1.1 1 j 5 = N 3 ∧ (∀ i, i < n → ∀ k, k < 6 → h.1.1 0 (8 * j + i) k = hd N i k) ∧ (∀ i, i < m → ∀ k, k < 2 → h.1.1 2 (6 * j + i) k = mb N i k)
def rv (h : HP) : Nat → Int32 := h.2.1 13 0
def sLate (N : Nat → Int32) (i : Nat) : Bool := !decide (hd N i 4 = -1) && !decide (hd N i 5 ≤ N 1)
def sMv (N : Nat → Int32) (i : Nat) : Int32 := if hd N i 0 = 2 ∨ hd N i 0 = 5 then 2 * (if sLate N i then hd N i 5 - N 1 else 0) else if hd N i 0 = 4 then 0 else (if sLate N i then hd N i 5 - N 1 else 0)
def sEnd (N : Nat → Int32) (i : Nat) : Int32 := (hd N i 2 + sMv N i) - (hd N i 2 + sMv N i) / 16 * 16
def sOpens (N : Nat → Int32) (i : Nat) (r : Int32) : Bool :=
  if hd N i 0 = 1 then ((decide (r = hd N i 1) || decide (r = sEnd N i)) && !decide (99 ≤ hd N i 3)) && !decide (50 ≤ hd N i 3)
  else if hd N i 0 = 2 then ((decide (r = hd N i 1) || decide (r = sEnd N i)) && !decide (99 ≤ hd N i 3)) && decide (r = hd N i 1)
  else if hd N i 0 = 3 then ((decide (r = hd N i 1) || decide (r = sEnd N i)) && !decide (99 ≤ hd N i 3)) && (decide (r = hd N i 1) || decide (N 0 - N 0 / 2 * 2 = 0))
  else if hd N i 0 = 4 then (((decide (r = hd N i 1) || decide (r = sEnd N i)) && !decide (99 ≤ hd N i 3)) && !decide (50 ≤ hd N i 3)) || (decide (r = (hd N i 1 + 8) - (hd N i 1 + 8) / 16 * 16) && !decide (10 ≤ hd N i 3))
  else if hd N i 0 = 5 then ((decide (r = hd N i 1) || decide (r = sEnd N i)) && !decide (99 ≤ hd N i 3)) && (decide (r = hd N i 1) || sLate N i)
  else ((decide (r = hd N i 1) || decide (r = sEnd N i)) && !decide (99 ≤ hd N i 3))
def sLead (N : Nat → Int32) (i : Nat) (r : Int32) : Int32 := if r = sEnd N i then hd N i 1 else sEnd N i
def sWears (N : Nat → Int32) (i : Nat) : Int32 := if hd N i 0 = 2 then 2 else if hd N i 0 = 3 then 3 else if hd N i 0 = 4 then (if N 0 - N 0 / 3 * 3 = 0 then 0 else 1) else if hd N i 0 = 5 then 3 else 1
def sPair (N : Nat → Int32) (i j : Nat) : Bool := (decide (hd N i 1 = hd N j 1) && decide (hd N i 2 = hd N j 2)) || (decide (hd N i 1 = hd N j 2) && decide (hd N i 2 = hd N j 1))
theorem nI_m1 {n : Nat} (h : n < 2 ^ 31) : ¬ nI n = -1 := fun e => nI_pos h (by rw [e]; decide)
/-- the reference reads its row -/
theorem its_ok {h : HP} {i k : Nat} (hi : i < 8) (hk : k < 6) : f_X7_its (nI i) (nI k) h = some (hd (rv h) i k, h) := by
  unfold f_X7_its
  rw [show (4 + (6 * nI i)) + nI k = nI (4 + 6 * i + k) by rw [show (4 : Int32) = nI 4 from rfl, show (6 : Int32) = nI 6 from rfl, pk_mul, nI_add, nI_add], ix_nI (by omega) (by decide)]
  rfl
theorem its0 {h : HP} {i : Nat} (hi : i < 8) : f_X7_its (nI i) 0 h = some (hd (rv h) i 0, h) := its_ok (k := 0) hi (by decide)
theorem its1 {h : HP} {i : Nat} (hi : i < 8) : f_X7_its (nI i) 1 h = some (hd (rv h) i 1, h) := its_ok (k := 1) hi (by decide)
theorem its2 {h : HP} {i : Nat} (hi : i < 8) : f_X7_its (nI i) 2 h = some (hd (rv h) i 2, h) := its_ok (k := 2) hi (by decide)
theorem its3 {h : HP} {i : Nat} (hi : i < 8) : f_X7_its (nI i) 3 h = some (hd (rv h) i 3, h) := its_ok (k := 3) hi (by decide)
theorem its4 {h : HP} {i : Nat} (hi : i < 8) : f_X7_its (nI i) 4 h = some (hd (rv h) i 4, h) := its_ok (k := 4) hi (by decide)
theorem its5 {h : HP} {i : Nat} (hi : i < 8) : f_X7_its (nI i) 5 h = some (hd (rv h) i 5, h) := its_ok (k := 5) hi (by decide)
theorem whose_ok {h : HP} {i k : Nat} (hi : i < 6) (hk : k < 2) : f_X7_whose (nI i) (nI k) h = some (mb (rv h) i k, h) := by
  unfold f_X7_whose
  rw [show (52 + (2 * nI i)) + nI k = nI (52 + 2 * i + k) by rw [show (52 : Int32) = nI 52 from rfl, show (2 : Int32) = nI 2 from rfl, pk_mul, nI_add, nI_add], ix_nI (by omega) (by decide)]
  rfl
theorem whose0 {h : HP} {i : Nat} (hi : i < 6) : f_X7_whose (nI i) 0 h = some (mb (rv h) i 0, h) := whose_ok (k := 0) hi (by decide)
theorem whose1 {h : HP} {i : Nat} (hi : i < 6) : f_X7_whose (nI i) 1 h = some (mb (rv h) i 1, h) := whose_ok (k := 1) hi (by decide)
theorem rv_0 (h : HP) : h_rI h 13 0 0 = rv h 0 := rfl
theorem rv_1 (h : HP) : h_rI h 13 0 1 = rv h 1 := rfl
theorem rv_2 (h : HP) : h_rI h 13 0 2 = rv h 2 := rfl
theorem rv_3 (h : HP) : h_rI h 13 0 3 = rv h 3 := rfl
theorem WFh.lent {N : Nat → Int32} {m d i : Nat} (hm : m ≤ 6) (h : WFh N m d i) : hd N i 4 < 0 ↔ hd N i 4 = -1 := by
  rcases h.2.2.2.2 with ⟨e, -⟩ | ⟨p, hp, e, -⟩
  · rw [e]; decide
  · rw [e]
    exact ⟨fun q => absurd q (nI_pos (by omega)), fun q => absurd q (nI_m1 (by omega))⟩
theorem isLate_r {h : HP} {i m d : Nat} (hi : i < 8) (hm : m ≤ 6) (hw : WFh (rv h) m d i) : f_X7_isLate (nI i) h = some (b2i (sLate (rv h) i), h) := by
  have hl := hw.lent hm
  unfold f_X7_isLate sLate
  simp only [its4 hi, its5 hi, Option.bind_some, ix64_1, rv_1, hl]
  by_cases e1 : hd (rv h) i 4 = -1
  · simp [e1, b2i]
  · by_cases e2 : hd (rv h) i 5 ≤ rv h 1
    · simp [e1, e2, b2i]
    · simp [e1, e2, b2i]
theorem isLate_c {h : HP} {a i : Nat} {N : Nat → Int32} (e4 : h.1.1 0 a 4 = hd N i 4) (e5 : h.1.1 0 a 5 = hd N i 5) : f_X0_isLate a (N 1) h = some (b2i (sLate N i), h) := by
  unfold f_X0_isLate sLate
  rw [rI_0, rI_0, e4, e5]
  by_cases e1 : hd N i 4 = -1
  · simp [e1, b2i]
  · by_cases e2 : hd N i 5 ≤ N 1
    · simp [e1, e2, b2i]
    · simp [e1, e2, b2i]
theorem moved_r {h : HP} {i m d : Nat} (hi : i < 8) (hm : m ≤ 6) (hw : WFh (rv h) m d i) : f_X7_moved (nI i) h = some (sMv (rv h) i, h) := by
  unfold f_X7_moved sMv
  simp only [isLate_r hi hm hw, its5 hi, Option.bind_some, ix64_1, rv_1, g_X7_moved_25, its0 hi, b2i_0]
  cases sLate (rv h) i <;> simp only [if_true, if_false, Bool.false_eq_true, Bool.true_eq_false] <;> (repeat' split) <;> simp_all
theorem endOf_r {h : HP} {i m d : Nat} (hi : i < 8) (hm : m ≤ 6) (hw : WFh (rv h) m d i) : f_X7_endOf (nI i) h = some (sEnd (rv h) i, h) := by
  unfold f_X7_endOf sEnd
  simp only [moved_r hi hm hw, its2 hi, Option.bind_some]
theorem rem16 {t : Nat} (h : t < 16) : (nI t + 0) - (nI t + 0) / 16 * 16 = nI t := by
  have : ∀ t, t < 16 → (nI t + 0) - (nI t + 0) / 16 * 16 = nI t := by decide +kernel
  exact this t h
theorem end_c {h : HP} {a i : Nat} {N : Nat → Int32} (e : ∀ k, k < 6 → h.1.1 0 a k = hd N i k) (ht : ∃ k, k < 16 ∧ hd N i 2 = nI k) : f_X0_end a (N 1) h = some (sEnd N i, h) := by
  obtain ⟨t, ht, et⟩ := ht
  unfold f_X0_end sEnd sMv
  simp only [isLate_c (e 4 (by decide)) (e 5 (by decide)), Option.bind_some, g_X0_end_18, rI_0, e 0 (by decide), e 2 (by decide), e 5 (by decide), b2i_0]
  cases sLate N i <;> simp only [if_true, if_false, Bool.false_eq_true, Bool.true_eq_false]
  · by_cases k2 : hd N i 0 = 2
    · simp [k2]
    · by_cases k3 : hd N i 0 = 3
      · simp [k3]
      · by_cases k4 : hd N i 0 = 4
        · simp only [k4, if_true]
          rw [if_neg (by decide), if_neg (by decide), if_neg (by decide), et, rem16 ht]
        · by_cases k5 : hd N i 0 = 5
          · simp [k5]
          · simp [k2, k3, k4, k5]
  · by_cases k2 : hd N i 0 = 2
    · simp [k2]
    · by_cases k3 : hd N i 0 = 3
      · simp [k3]
      · by_cases k4 : hd N i 0 = 4
        · simp only [k4, if_true]
          rw [if_neg (by decide), if_neg (by decide), if_neg (by decide), et, rem16 ht]
        · by_cases k5 : hd N i 0 = 5
          · simp [k5]
          · simp [k2, k3, k4, k5]
