/-! PURE: reach, the class' -/
theorem nI_xor (a b : Nat) : nI a ^^^ nI b = nI (a ^^^ b) := by
  apply Int32.toBitVec_inj.mp
  show BitVec.ofNat 32 a ^^^ BitVec.ofNat 32 b = BitVec.ofNat 32 (a ^^^ b)
  apply BitVec.eq_of_toNat_eq
  rw [BitVec.toNat_xor, BitVec.toNat_ofNat, BitVec.toNat_ofNat, BitVec.toNat_ofNat, Nat.xor_mod_two_pow]
def nw (P R : Nat) : Nat := P &&& (R ^^^ (2 ^ 32 - 1))
theorem nw_nI (P R : Nat) : nI P &&& (nI R ^^^ (-1)) = nI (nw P R) := by
  rw [show (-1 : Int32) = nI (2 ^ 32 - 1) by decide, nI_xor, nI_and]
  rfl
theorem nw_le (P R : Nat) : nw P R ≤ P := Nat.and_le_left
theorem nw_tb {P R : Nat} (hP : P < 65536) (x : Nat) : (nw P R).testBit x = true ↔ (P.testBit x = true ∧ ¬ R.testBit x = true) := by
  unfold nw
  rw [Nat.testBit_and, Nat.testBit_xor, Nat.testBit_two_pow_sub_one]
  by_cases hx : x < 16
  · rw [decide_eq_true (show x < 32 by omega)]
    cases P.testBit x <;> cases R.testBit x <;> decide
  · have h2 : 2 ^ 16 ≤ 2 ^ x := Nat.pow_le_pow_right (by decide) (by omega)
    rw [Nat.testBit_lt_two_pow (Nat.lt_of_lt_of_le hP h2)]
    simp
section FRONT
variable {h : HP} {N : Nat → Int32} {n m d l : Nat}
theorem sq_step {p : Int32} {s k F : Nat} (hF : ∀ x, F.testBit x = true ↔ ((sq N n p s k).testBit x = true ∧ (k = 0 ∨ ¬ (sq N n p s (k - 1)).testBit x = true))) (hP : pN N n p F 0 < 65536) : sq N n p s k ||| nw (pN N n p F 0) (sq N n p s k) = sq N n p s (k + 1) ∧ ∀ x, (nw (pN N n p F 0) (sq N n p s k)).testBit x = true ↔ ((sq N n p s (k + 1)).testBit x = true ∧ (k + 1 = 0 ∨ ¬ (sq N n p s (k + 1 - 1)).testBit x = true)) := by
  have key : ∀ x, (sq N n p s (k + 1)).testBit x = true ↔ ((sq N n p s k).testBit x = true ∨ (nw (pN N n p F 0) (sq N n p s k)).testBit x = true) := by
    intro x
    rw [nw_tb hP, pN_tb p F 0 x]
    show (pN N n p (sq N n p s k) (sq N n p s k)).testBit x = true ↔ _
    rw [pN_tb]
    constructor
    · rintro (z | ⟨r, h1, h2, h3⟩)
      · exact Or.inl z
      · by_cases q : (sq N n p s k).testBit x = true
        · exact Or.inl q
        · refine Or.inr ⟨Or.inr ⟨r, h1, (hF r).mpr ⟨h2, ?_⟩, h3⟩, q⟩
          by_cases k0 : k = 0
          · exact Or.inl k0
          · refine Or.inr (fun z => q ?_)
            obtain ⟨k, rfl⟩ : ∃ z, k = z + 1 := ⟨k - 1, by omega⟩
            exact (pN_tb p _ _ x).mpr (Or.inr ⟨r, h1, z, h3⟩)
    · rintro (z | ⟨z | ⟨r, h1, h2, h3⟩, -⟩)
      · exact Or.inl z
      · rw [Nat.zero_testBit] at z
        cases z
      · exact Or.inr ⟨r, h1, ((hF r).mp h2).1, h3⟩
  constructor
  · apply Nat.eq_of_testBit_eq
    intro x
    rw [Nat.testBit_or]
    have := key x
    cases a : (sq N n p s k).testBit x <;> cases b : (nw (pN N n p F 0) (sq N n p s k)).testBit x <;> cases c : (sq N n p s (k + 1)).testBit x <;> simp [a, b, c] at this ⊢
  · intro x
    rw [key x, nw_tb hP]
    show _ ↔ (_ ∧ (k + 1 = 0 ∨ ¬ (sq N n p s k).testBit x = true))
    exact ⟨fun z => ⟨Or.inr z, Or.inr z.2⟩, fun z => z.1.elim (fun y => (z.2.elim (fun w => absurd w (by omega)) (fun w => absurd y w))) id⟩
end FRONT
