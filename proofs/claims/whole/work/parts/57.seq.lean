/-! PURE: where p comes to by k turns -/
def sq (N : Nat → Int32) (n : Nat) (p : Int32) (s : Nat) : Nat → Nat
  | 0 => 2 ^ s
  | k + 1 => pN N n p (sq N n p s k) (sq N n p s k)
def cnt (A : Nat) : Nat := sm (fun r => if A.testBit r = true then 1 else 0) 16 0
theorem cnt_le (A : Nat) : cnt A ≤ 16 := sm_le (B := 1) 16 0 (fun i _ _ => by
  by_cases q : A.testBit i = true
  · rw [if_pos q]; exact Nat.le_refl _
  · rw [if_neg q]; exact Nat.zero_le _)
theorem sm_mono {w w' : Nat → Nat} : ∀ (k t : Nat), (∀ i, t ≤ i → i < t + k → w i ≤ w' i) → sm w k t ≤ sm w' k t
  | 0, _, _ => Nat.le_refl _
  | k + 1, t, h => by
    have h1 := h t (by omega) (by omega)
    have h2 := sm_mono (w := w) (w' := w') k (t + 1) (fun i a b => h i (by omega) (by omega))
    unfold sm
    omega
theorem sm_strict {w w' : Nat → Nat} : ∀ (k t x : Nat), (∀ i, t ≤ i → i < t + k → w i ≤ w' i) → t ≤ x → x < t + k → w x < w' x → sm w k t < sm w' k t
  | 0, t, x, _, h1, h2, _ => absurd h2 (by omega)
  | k + 1, t, x, h, h1, h2, hx => by
    have ht := h t (by omega) (by omega)
    unfold sm
    by_cases e : x = t
    · subst e
      have := sm_mono (w := w) (w' := w') k (x + 1) (fun i a b => h i (by omega) (by omega))
      omega
    · have := sm_strict (w := w) (w' := w') k (t + 1) x (fun i a b => h i (by omega) (by omega)) (by omega) (by omega) hx
      omega
theorem set_diff {A B : Nat} (hA : A < 65536) (hB : B < 65536) (hs : ∀ x, A.testBit x = true → B.testBit x = true) (hne : ¬ A = B) : ∃ x, x < 16 ∧ B.testBit x = true ∧ A.testBit x = false := by
  apply Classical.byContradiction
  intro hc
  apply hne
  apply Nat.eq_of_testBit_eq
  intro x
  by_cases hx : x < 16
  · cases ea : A.testBit x with
    | true => rw [hs x ea]
    | false =>
      cases eb : B.testBit x with
      | false => rfl
      | true => exact absurd ⟨x, hx, eb, ea⟩ hc
  · have h2 : 2 ^ 16 ≤ 2 ^ x := Nat.pow_le_pow_right (by decide) (by omega)
    rw [Nat.testBit_lt_two_pow (Nat.lt_of_lt_of_le hA h2), Nat.testBit_lt_two_pow (Nat.lt_of_lt_of_le hB h2)]
theorem cnt_lt {A B : Nat} (hA : A < 65536) (hB : B < 65536) (hs : ∀ x, A.testBit x = true → B.testBit x = true) (hne : ¬ A = B) : cnt A < cnt B := by
  obtain ⟨x, h1, h2, h3⟩ := set_diff hA hB hs hne
  refine sm_strict 16 0 x (fun i _ _ => ?_) (Nat.zero_le _) (by omega) ?_
  · by_cases q : A.testBit i = true
    · rw [if_pos q, if_pos (hs i q)]; exact Nat.le_refl _
    · rw [if_neg q]; exact Nat.zero_le _
  · rw [h2, h3]
    decide
section SEQ
variable {N : Nat → Int32} {n m d l : Nat} {p : Int32} {s : Nat}
theorem sq_lt (hW : WF N n m d l) (hs : s < 16) : ∀ k, sq N n p s k < 65536
  | 0 => by
    have h1 : 2 ^ s < 2 ^ 16 := Nat.pow_lt_pow_right (by decide) hs
    exact h1
  | k + 1 => (pT_nI hW p (sq_lt hW hs k) (sq_lt hW hs k)).2
theorem sq_mono (k x : Nat) (h : (sq N n p s k).testBit x = true) : (sq N n p s (k + 1)).testBit x = true := (pN_tb p _ _ x).mpr (Or.inl h)
theorem sq_fix {k : Nat} (h : sq N n p s (k + 1) = sq N n p s k) : ∀ j, sq N n p s (k + j) = sq N n p s k
  | 0 => rfl
  | j + 1 => by
    show pN N n p (sq N n p s (k + j)) (sq N n p s (k + j)) = _
    rw [sq_fix h j]
    exact h
/-- it stands still at the latest after 15 turns -/
theorem sq_still (hW : WF N n m d l) (hs : s < 16) : ∃ K, K ≤ 15 ∧ sq N n p s (K + 1) = sq N n p s K ∧ ∀ k, k < K → ¬ sq N n p s (k + 1) = sq N n p s k := by
  have hc : ∀ k, (∀ j, j < k → ¬ sq N n p s (j + 1) = sq N n p s j) → k + 1 ≤ cnt (sq N n p s k) := by
    intro k
    induction k with
    | zero =>
      intro _
      have : cnt 0 < cnt (sq N n p s 0) := cnt_lt (by decide) (sq_lt hW hs 0) (fun x hx => by rw [Nat.zero_testBit] at hx; cases hx) (fun e => by
        have : 0 < 2 ^ s := Nat.two_pow_pos s
        have e' : 0 = 2 ^ s := e
        omega)
      omega
    | succ k ih =>
      intro h
      have h1 := ih (fun j hj => h j (by omega))
      have h2 := cnt_lt (sq_lt (p := p) hW hs k) (sq_lt hW hs (k + 1)) (sq_mono k) (fun e => h k (by omega) e.symm)
      omega
  have hex : ∃ K, K ≤ 15 ∧ sq N n p s (K + 1) = sq N n p s K := by
    apply Classical.byContradiction
    intro hn
    have := hc 16 (fun j hj e => hn ⟨j, by omega, e⟩)
    have := cnt_le (sq N n p s 16)
    omega
  have hmin : ∀ B K, K ≤ B → K ≤ 15 → sq N n p s (K + 1) = sq N n p s K → ∃ K, K ≤ 15 ∧ sq N n p s (K + 1) = sq N n p s K ∧ ∀ k, k < K → ¬ sq N n p s (k + 1) = sq N n p s k := by
    intro B
    induction B with
    | zero =>
      intro K h1 h2 h3
      exact ⟨K, h2, h3, fun k hk => absurd hk (by omega)⟩
    | succ B ih =>
      intro K h1 h2 h3
      by_cases q : ∃ k, k < K ∧ sq N n p s (k + 1) = sq N n p s k
      · obtain ⟨k, hk, ek⟩ := q
        exact ih k (by omega) (by omega) ek
      · exact ⟨K, h2, h3, fun k hk e => q ⟨k, hk, e⟩⟩
  obtain ⟨K, h1, h2⟩ := hex
  exact hmin 15 K h1 h1 h2
end SEQ
