/-! PURE: how many bits -/
theorem nI_and (a b : Nat) : nI a &&& nI b = nI (a &&& b) := by
  apply Int32.toBitVec_inj.mp
  show BitVec.ofNat 32 a &&& BitVec.ofNat 32 b = BitVec.ofNat 32 (a &&& b)
  apply BitVec.eq_of_toNat_eq
  rw [BitVec.toNat_and, BitVec.toNat_ofNat, BitVec.toNat_ofNat, BitVec.toNat_ofNat, Nat.and_mod_two_pow]
theorem nI_or (a b : Nat) : nI a ||| nI b = nI (a ||| b) := by
  apply Int32.toBitVec_inj.mp
  show BitVec.ofNat 32 a ||| BitVec.ofNat 32 b = BitVec.ofNat 32 (a ||| b)
  apply BitVec.eq_of_toNat_eq
  rw [BitVec.toNat_or, BitVec.toNat_ofNat, BitVec.toNat_ofNat, BitVec.toNat_ofNat, Nat.or_mod_two_pow]
theorem nI_subN {a b : Nat} (h : b ≤ a) : nI a - nI b = nI (a - b) := by
  rw [show nI a = nI (a - b) + nI b by rw [nI_add, Nat.sub_add_cancel h], Int32.add_sub_cancel]
theorem nI_ushr {a s : Nat} (h : a < 2 ^ 32) (hs : s < 32) : (Int32.toUInt32 (nI a) >>> (Int32.toUInt32 (nI s) &&& Int32.toUInt32 31)).toInt32 = nI (a >>> s) := by
  apply Int32.toBitVec_inj.mp
  show (BitVec.ofNat 32 a) >>> ((BitVec.ofNat 32 s &&& 31#32) % 32#32) = BitVec.ofNat 32 (a >>> s)
  apply BitVec.eq_of_toNat_eq
  have e : ((BitVec.ofNat 32 s &&& 31#32) % 32#32).toNat = s := by
    rw [BitVec.toNat_umod, BitVec.toNat_and, BitVec.toNat_ofNat, BitVec.toNat_ofNat, BitVec.toNat_ofNat, Nat.mod_eq_of_lt (show s < 2 ^ 32 by omega), show 31 % 2 ^ 32 = 2 ^ 5 - 1 by decide, Nat.and_two_pow_sub_one_eq_mod, Nat.mod_eq_of_lt (show s < 2 ^ 5 by omega), show 32 % 2 ^ 32 = 32 by decide]
    omega
  rw [BitVec.ushiftRight_eq', BitVec.toNat_ushiftRight, e, BitVec.toNat_ofNat, BitVec.toNat_ofNat, Nat.mod_eq_of_lt h, Nat.mod_eq_of_lt]
  exact Nat.lt_of_le_of_lt (Nat.shiftRight_le _ _) h
def np5 (a : Nat) : Nat := Nat.land (a + Nat.shiftRight a 16) 63
def np4 (a : Nat) : Nat := np5 (a + Nat.shiftRight a 8)
def np3 (a : Nat) : Nat := np4 (Nat.land (a + Nat.shiftRight a 4) 252645135)
def np2 (a : Nat) : Nat := np3 (Nat.land a 858993459 + Nat.land (Nat.shiftRight a 2) 858993459)
def np (a : Nat) : Nat := np2 (a - Nat.land (Nat.shiftRight a 1) 1431655765)
theorem land_le1 (a b : Nat) : Nat.land a b ≤ a := Nat.and_le_left
theorem land_le2 (a b : Nat) : Nat.land a b ≤ b := Nat.and_le_right
theorem shr_le (a b : Nat) : Nat.shiftRight a b ≤ a := Nat.shiftRight_le a b
abbrev g41 (a1 : Int32) : Int32 := (a1 + ((Int32.toUInt32 a1 >>> (Int32.toUInt32 16 &&& Int32.toUInt32 31)).toInt32)) &&& 63
abbrev g34 (a1 : Int32) : Int32 := g41 (a1 + ((Int32.toUInt32 a1 >>> (Int32.toUInt32 8 &&& Int32.toUInt32 31)).toInt32))
abbrev g24 (a1 : Int32) : Int32 := g34 ((a1 + ((Int32.toUInt32 a1 >>> (Int32.toUInt32 4 &&& Int32.toUInt32 31)).toInt32)) &&& 252645135)
abbrev g10 (a1 : Int32) : Int32 := g24 ((a1 &&& 858993459) + (((Int32.toUInt32 a1 >>> (Int32.toUInt32 2 &&& Int32.toUInt32 31)).toInt32) &&& 858993459))
abbrev g0 (a1 : Int32) : Int32 := g10 (a1 - (((Int32.toUInt32 a1 >>> (Int32.toUInt32 1 &&& Int32.toUInt32 31)).toInt32) &&& 1431655765))
theorem g41_n {a : Nat} (h : a < 2 ^ 31) : g41 (nI a) = nI (np5 a) := by
  unfold g41
  rw [show (16 : Int32) = nI 16 from rfl, nI_ushr (by omega) (by decide), nI_add, show (63 : Int32) = nI 63 from rfl, nI_and]
  rfl
theorem g34_n {a : Nat} (h : a < 2 ^ 30) : g34 (nI a) = nI (np4 a) := by
  unfold g34
  have := shr_le a 8
  rw [show (8 : Int32) = nI 8 from rfl, nI_ushr (by omega) (by decide), nI_add, g41_n (by show a + Nat.shiftRight a 8 < _; omega)]
  rfl
theorem g24_n {a : Nat} (h : a < 2 ^ 31) : g24 (nI a) = nI (np3 a) := by
  unfold g24
  have := land_le2 (a + Nat.shiftRight a 4) 252645135
  rw [show (4 : Int32) = nI 4 from rfl, nI_ushr (by omega) (by decide), nI_add, show (252645135 : Int32) = nI 252645135 from rfl, nI_and, g34_n (by show Nat.land (a + Nat.shiftRight a 4) 252645135 < _; omega)]
  rfl
theorem g10_n {a : Nat} (h : a < 2 ^ 30) : g10 (nI a) = nI (np2 a) := by
  unfold g10
  have := land_le1 a 858993459
  have h2 := land_le2 (Nat.shiftRight a 2) 858993459
  have h3 := land_le1 (Nat.shiftRight a 2) 858993459
  have := shr_le a 2
  rw [show (2 : Int32) = nI 2 from rfl, nI_ushr (by omega) (by decide), show (858993459 : Int32) = nI 858993459 from rfl, nI_and, nI_and, nI_add, g24_n (by show Nat.land a 858993459 + Nat.land (Nat.shiftRight a 2) 858993459 < _; omega)]
  rfl
theorem g0_n {a : Nat} (h : a < 2 ^ 30) : g0 (nI a) = nI (np a) := by
  unfold g0
  have h1 := land_le1 (Nat.shiftRight a 1) 1431655765
  have := shr_le a 1
  rw [show (1 : Int32) = nI 1 from rfl, nI_ushr (by omega) (by decide), show (1431655765 : Int32) = nI 1431655765 from rfl, nI_and, nI_subN (by show Nat.land (Nat.shiftRight a 1) 1431655765 ≤ _; omega), g10_n (by omega)]
  rfl
def np_ck (x : Nat) : Bool := Nat.beq x 0 || Nat.beq (np x) (np (Nat.land x (x - 1)) + 1)
def np_al (f : Nat → Bool) : Nat → Bool
  | 0 => true
  | n + 1 => f n && np_al f n
theorem np_al_of {f : Nat → Bool} : ∀ {n : Nat}, np_al f n = true → ∀ k, k < n → f k = true
  | 0, _, k, hk => absurd hk (by omega)
  | n + 1, h, k, hk => by
    unfold np_al at h
    rw [Bool.and_eq_true] at h
    by_cases e : k = n
    · subst e
      exact h.1
    · exact np_al_of h.2 k (by omega)
theorem np_all : np_al (fun a => np_al (fun b => np_ck (256 * a + b)) 256) 256 = true := by decide +kernel
theorem np_step {a : Nat} (h : a < 65536) (h0 : ¬ a = 0) : np a = np (a &&& (a - 1)) + 1 := by
  have h1 : np_al (fun b => np_ck (256 * (a / 256) + b)) 256 = true := np_al_of np_all (a / 256) (by omega)
  have h2 : np_ck (256 * (a / 256) + a % 256) = true := np_al_of h1 (a % 256) (by omega)
  rw [show 256 * (a / 256) + a % 256 = a by omega] at h2
  unfold np_ck at h2
  rw [Bool.or_eq_true] at h2
  rcases h2 with h2 | h2
  · exact absurd (Nat.eq_of_beq_eq_true h2) h0
  · exact Nat.eq_of_beq_eq_true h2
theorem np_le (a : Nat) : np a ≤ 63 := land_le2 _ _
theorem bitCount_c {a : Nat} (ha : a < 2 ^ 30) (h : HP) : f_J6_bitCount_0f7a4 (nI a) h = some (nI (np a), h) := by
  show some (g0 (nI a), h) = _
  rw [g0_n ha]
theorem bits_lp (h : HP) : ∀ (n a : Nat) (s : Int32), a < 65536 → np a < n → g_X7_bits_4 n s (nI a) h = some (s + nI (np a), h)
  | 0, a, s, _, hn => absurd hn (by omega)
  | n + 1, a, s, ha, hn => by
    rw [g_X7_bits_4]
    by_cases e : a = 0
    · subst e
      rw [if_pos (show nI 0 = 0 from rfl), show np 0 = 0 by decide, show nI 0 = 0 from rfl, Int32.add_zero]
    · have hs := np_step ha e
      have hl : a &&& (a - 1) ≤ a := Nat.and_le_left
      rw [if_neg (show ¬ nI a = 0 from fun z => e ((nI_eq (by omega) (by decide)).mp (z.trans (show (0 : Int32) = nI 0 from rfl)))), show nI a - 1 = nI (a - 1) from nI_subN (b := 1) (by omega), nI_and, bits_lp h n (a &&& (a - 1)) (s + 1) (by omega) (by omega), hs, ← nI_add, Int32.add_assoc, Int32.add_comm 1]
      rfl
theorem bits_r {a : Nat} (ha : a < 65536) (h : HP) : f_X7_bits (nI a) h = some (nI (np a), h) := by
  unfold f_X7_bits
  rw [bits_lp h am_fu a 0 ha (by have := np_le a; rw [am_fu_eq]; omega), Int32.zero_add]
/-- what a set of at most 16 is -/
theorem bit_nI : ∀ i, i < 16 → (1 : Int32) <<< (nI i &&& 31) = nI (2 ^ i) := by decide +kernel
theorem fo_set {p : Nat → Bool} : ∀ (k i A : Nat), i + k ≤ 16 → A < 2 ^ i → ∃ B, B < 2 ^ (i + k) ∧ fo (stS p) k i (nI A) = nI B
  | 0, i, A, _, h => ⟨A, h, rfl⟩
  | k + 1, i, A, hk, h => by
    unfold fo
    have h2 : 2 ^ i < 2 ^ (i + 1) := Nat.pow_lt_pow_right (by decide) (by omega)
    cases e : p i with
    | true =>
      rw [stS_t e, bit_nI i (by omega), nI_or]
      obtain ⟨B, h1, h2⟩ := fo_set (p := p) k (i + 1) (A ||| 2 ^ i) (by omega) (Nat.or_lt_two_pow (by omega) h2)
      exact ⟨B, by rw [show i + (k + 1) = i + 1 + k by omega]; exact h1, h2⟩
    | false =>
      rw [stS_f e]
      obtain ⟨B, h1, h2⟩ := fo_set (p := p) k (i + 1) A (by omega) (by omega)
      exact ⟨B, by rw [show i + (k + 1) = i + 1 + k by omega]; exact h1, h2⟩
theorem sHolds_nI {N : Nat → Int32} {n : Nat} (hn : n ≤ 8) (m : Int32) : ∃ B, B < 256 ∧ sHolds N n m = nI B := by
  obtain ⟨B, h1, h2⟩ := fo_set (p := fun i => decide (hd N i 4 = m)) n 0 0 (by omega) (by decide)
  refine ⟨B, Nat.lt_of_lt_of_le h1 ?_, h2⟩
  have : 2 ^ (0 + n) ≤ 2 ^ 8 := Nat.pow_le_pow_right (by decide) (by omega)
  exact this
