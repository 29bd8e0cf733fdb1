/-! PURE: sets of rooms as numbers -/
theorem fo_tb {step : Nat → Nat → Nat} {Q : Nat → Nat → Prop} (hs : ∀ i a x, (step i a).testBit x = true ↔ (a.testBit x = true ∨ Q i x)) : ∀ (k t a x : Nat), (fo step k t a).testBit x = true ↔ (a.testBit x = true ∨ ∃ i, t ≤ i ∧ i < t + k ∧ Q i x)
  | 0, t, a, x => by
    show a.testBit x = true ↔ _
    exact ⟨Or.inl, fun z => z.elim id (fun ⟨i, h1, h2, _⟩ => absurd h2 (by omega))⟩
  | k + 1, t, a, x => by
    show (fo step k (t + 1) (step t a)).testBit x = true ↔ _
    rw [fo_tb hs k (t + 1) (step t a) x, hs]
    constructor
    · rintro ((z | z) | ⟨i, h1, h2, z⟩)
      · exact Or.inl z
      · exact Or.inr ⟨t, by omega, by omega, z⟩
      · exact Or.inr ⟨i, by omega, by omega, z⟩
    · rintro (z | ⟨i, h1, h2, z⟩)
      · exact Or.inl (Or.inl z)
      · by_cases e : i = t
        · subst e
          exact Or.inl (Or.inr z)
        · exact Or.inr ⟨i, by omega, by omega, z⟩
def tN (N : Nat → Int32) (A i r a : Nat) : Nat := if (A.testBit r && sOpens N i (nI r)) = true then a ||| 2 ^ vN (sLead N i (nI r)) else a
def hN (N : Nat → Int32) (p : Int32) (A i a : Nat) : Nat := if hd N i 4 = p then fo (tN N A i) 16 0 a else a
def pN (N : Nat → Int32) (n : Nat) (p : Int32) (A a : Nat) : Nat := fo (hN N p A) n 0 a
/-- a turn leads p from r to x -/
def E1 (N : Nat → Int32) (n : Nat) (p : Int32) (r x : Nat) : Prop := ∃ i, i < n ∧ hd N i 4 = p ∧ sOpens N i (nI r) = true ∧ vN (sLead N i (nI r)) = x
section SETS
variable {N : Nat → Int32} {n m d l : Nat}
theorem tN_tb (A i r a x : Nat) : (tN N A i r a).testBit x = true ↔ (a.testBit x = true ∨ (A.testBit r = true ∧ sOpens N i (nI r) = true ∧ vN (sLead N i (nI r)) = x)) := by
  unfold tN
  by_cases q : (A.testBit r && sOpens N i (nI r)) = true
  · rw [if_pos q, Nat.testBit_or, Nat.testBit_two_pow, Bool.or_eq_true, decide_eq_true_iff]
    rw [Bool.and_eq_true] at q
    exact ⟨fun z => z.elim Or.inl (fun z => Or.inr ⟨q.1, q.2, z⟩), fun z => z.elim Or.inl (fun z => Or.inr z.2.2)⟩
  · rw [if_neg q]
    rw [Bool.and_eq_true] at q
    exact ⟨Or.inl, fun z => z.elim id (fun z => absurd ⟨z.1, z.2.1⟩ q)⟩
theorem hN_tb (p : Int32) (A i a x : Nat) : (hN N p A i a).testBit x = true ↔ (a.testBit x = true ∨ (hd N i 4 = p ∧ ∃ r, r < 16 ∧ A.testBit r = true ∧ sOpens N i (nI r) = true ∧ vN (sLead N i (nI r)) = x)) := by
  unfold hN
  by_cases q : hd N i 4 = p
  · rw [if_pos q, fo_tb (fun r a x => tN_tb A i r a x) 16 0 a x]
    exact ⟨fun z => z.elim Or.inl (fun ⟨r, _, h2, z⟩ => Or.inr ⟨q, r, by omega, z⟩), fun z => z.elim Or.inl (fun ⟨_, r, h2, z⟩ => Or.inr ⟨r, by omega, by omega, z⟩)⟩
  · rw [if_neg q]
    exact ⟨Or.inl, fun z => z.elim id (fun z => absurd z.1 q)⟩
theorem pN_tb (p : Int32) (A a x : Nat) : (pN N n p A a).testBit x = true ↔ (a.testBit x = true ∨ ∃ r, r < 16 ∧ A.testBit r = true ∧ E1 N n p r x) := by
  unfold pN
  rw [fo_tb (fun i a x => hN_tb p A i a x) n 0 a x]
  exact ⟨fun z => z.elim Or.inl (fun ⟨i, _, h2, h3, r, h4, h5, h6⟩ => Or.inr ⟨r, h4, h5, i, by omega, h3, h6⟩), fun z => z.elim Or.inl (fun ⟨r, h4, h5, i, h2, h3, h6⟩ => Or.inr ⟨i, by omega, by omega, h3, r, h4, h5, h6⟩)⟩
theorem smod_r : ∀ r, r < 16 → ((nI r &&& 31).toBitVec.smod 32).toNat = r := by decide +kernel
theorem sBit_nI {A r : Nat} (hA : A < 65536) (hr : r < 16) : sBit (nI A) r = A.testBit r := by
  unfold sBit
  rw [pk_shrN (by omega) _ r (smod_r r hr), pk_andN (by have := Nat.div_le_self A (2 ^ r); omega) 1 (by decide), Nat.testBit_eq_decide_div_mod_eq]
  have h2 : A / 2 ^ r % 2 ^ 1 < 2 := Nat.mod_lt _ (by decide)
  by_cases q : A / 2 ^ r % 2 = 1
  · rw [decide_eq_true q, decide_eq_true (show nI (A / 2 ^ r % 2 ^ 1) = 1 by rw [show A / 2 ^ r % 2 ^ 1 = 1 from q]; rfl)]
  · rw [decide_eq_false q, decide_eq_false (show ¬ nI (A / 2 ^ r % 2 ^ 1) = 1 from fun z => q ((nI_eq (b := 1) (by omega) (by decide)).mp z))]
theorem tT_nI (hW : WF N n m d l) {A i r a : Nat} (hA : A < 65536) (hi : i < n) (hr : r < 16) (ha : a < 65536) : tT N (nI A) i r (nI a) = nI (tN N A i r a) ∧ tN N A i r a < 65536 := by
  obtain ⟨k, hk, ek⟩ := sLead_nI (r := nI r) hW hi
  unfold tT tN
  rw [sBit_nI hA hr, ek, vN_nI (by omega), bit_nI k hk, nI_or]
  by_cases q : (A.testBit r && sOpens N i (nI r)) = true
  · rw [if_pos q, if_pos q]
    exact ⟨rfl, Nat.or_lt_two_pow (n := 16) ha (Nat.pow_lt_pow_right (by decide) hk)⟩
  · rw [if_neg q, if_neg q]
    exact ⟨rfl, ha⟩
theorem fo_nI {f : Nat → Int32 → Int32} {g : Nat → Nat → Nat} {K : Nat} (hg : ∀ i a, i < K → a < 65536 → f i (nI a) = nI (g i a) ∧ g i a < 65536) : ∀ (k t a : Nat), t + k ≤ K → a < 65536 → fo f k t (nI a) = nI (fo g k t a) ∧ fo g k t a < 65536
  | 0, t, a, _, ha => ⟨rfl, ha⟩
  | k + 1, t, a, hk, ha => by
    have h1 := hg t a (by omega) ha
    show fo f k (t + 1) (f t (nI a)) = nI (fo g k (t + 1) (g t a)) ∧ fo g k (t + 1) (g t a) < 65536
    rw [h1.1]
    exact fo_nI hg k (t + 1) (g t a) (by omega) h1.2
theorem pT_nI (hW : WF N n m d l) (p : Int32) {A a : Nat} (hA : A < 65536) (ha : a < 65536) : pT N n p (nI A) (nI a) = nI (pN N n p A a) ∧ pN N n p A a < 65536 := by
  refine fo_nI (K := n) (fun i a hi ha => ?_) n 0 a (by omega) ha
  unfold hT hN
  by_cases q : hd N i 4 = p
  · rw [if_pos q, if_pos q]
    exact fo_nI (K := 16) (fun r a hr ha => tT_nI hW hA hi hr ha) 16 0 a (by decide) ha
  · rw [if_neg q, if_neg q]
    exact ⟨rfl, ha⟩
end SETS
