/-! PURE: count -/
section COUNT
variable {h : HP} {N : Nat → Int32} {n m d l : Nat}
theorem sPair_comm (i j : Nat) : sPair N i j = sPair N j i := by
  unfold sPair
  by_cases a : hd N i 1 = hd N j 1 <;> by_cases b : hd N i 2 = hd N j 2 <;> by_cases c : hd N i 1 = hd N j 2 <;> by_cases e : hd N i 2 = hd N j 1 <;> simp [a, b, c, e, eq_comm] <;> simp_all [eq_comm]
def cT (c : Nat → Bool) (j : Nat) (a : Int32) : Int32 := if c j = true then a + 1 else a
theorem fo_cT (c : Nat → Bool) : ∀ (k t A : Nat), fo (cT c) k t (nI A) = nI (A + sm (fun j => if c j = true then 1 else 0) k t)
  | 0, t, A => rfl
  | k + 1, t, A => by
    show fo (cT c) k (t + 1) (cT c t (nI A)) = nI (A + ((if c t = true then 1 else 0) + sm (fun j => if c j = true then 1 else 0) k (t + 1)))
    unfold cT
    by_cases q : c t = true
    · rw [if_pos q, if_pos q, nI_1]
      exact (fo_cT c k (t + 1) (A + 1)).trans (by rw [Nat.add_assoc])
    · rw [if_neg q, if_neg q, Nat.zero_add]
      exact fo_cT c k (t + 1) A
theorem fo_sm {g : Nat → Int32 → Int32} {w : Nat → Nat} (hg : ∀ i A, g i (nI A) = nI (A + w i)) : ∀ (k t A : Nat), fo g k t (nI A) = nI (A + sm w k t)
  | 0, t, A => rfl
  | k + 1, t, A => by
    show fo g k (t + 1) (g t (nI A)) = nI (A + (w t + sm w k (t + 1)))
    rw [hg, fo_sm hg k (t + 1), Nat.add_assoc]
theorem pairs_r (hW : WF (rv h) n m d l) : f_X7_pairs h = some (nI (sm (fun i => sm (fun j => if sPair (rv h) i j = true then 1 else 0) i 0) n 0), h) := by
  obtain ⟨w1, w2, w3, w4, w5, w6, w7, w8, w9, w10⟩ := hW
  unfold f_X7_pairs
  have := lp_up (g := fun k a x => g_X7_pairs_4 k a x h) (N := n) (step := fun i a => fo (cT (fun j => sPair (rv h) i j)) i 0 a) (fin := fun a => some (a, h)) (fun k i a hi => ?_) (fun k a => ?_) n am_fu 0 0 (by omega) (fu_lt (by omega))
  · refine this.trans ?_
    rw [show (0 : Int32) = nI 0 from rfl, fo_sm (fun i A => fo_cT (fun j => sPair (rv h) i j) i 0 A) n 0 0, Nat.zero_add]
  · show g_X7_pairs_4 (k + 1) a (nI i) h = _
    rw [g_X7_pairs_4, ix64_2]
    show (if h_rI h 13 0 2 ≤ nI i then _ else _) = _
    rw [rv_2, w7, if_neg (nI_le_i (by omega) (by omega) hi)]
    refine (lp_up (g := fun k' a x => g_X7_pairs_16 (g_X7_pairs_4 k) k' a (nI i) x h) (N := i) (step := cT (fun j => sPair (rv h) i j)) (fin := fun a => g_X7_pairs_4 k a (nI i + 1) h) (fun k' j a hj => ?_) (fun k' a => ?_) i am_fu 0 a (by omega) (fu_lt (by omega))).trans ?_
    · show g_X7_pairs_16 (g_X7_pairs_4 k) (k' + 1) a (nI i) (nI j) h = _
      rw [g_X7_pairs_16, if_neg (nI_le_i (by omega) (by omega) hj), arePair_r (by omega) (by omega), nI_1]
      show (if b2i _ = 0 then _ else _) = _
      unfold cT
      rw [b2i_c, show a + 0 = a from Int32.add_zero _]
      by_cases q : sPair (rv h) i j = true
      · rw [if_pos q, if_pos q]
      · rw [if_neg q, if_neg q]
    · show g_X7_pairs_16 (g_X7_pairs_4 k) (k' + 1) a (nI i) (nI i) h = _
      rw [g_X7_pairs_16, if_pos nI_le_n]
    · skip
      rw [nI_1]
  · show g_X7_pairs_4 (k + 1) a (nI n) h = _
    rw [g_X7_pairs_4, ix64_2]
    show (if h_rI h 13 0 2 ≤ nI n then _ else _) = _
    rw [rv_2, w7, if_pos nI_le_n]
theorem pairCount_c {j0 : Nat} (hW : WF N n m d l) (hL : LC h j0 n m N) : f_X1_pairCount j0 h = some (nI (sm (fun i => sm (fun j => if sPair N i j = true then 1 else 0) (n - (i + 1)) (i + 1)) n 0), h) := by
  obtain ⟨w1, w2, w3, w4, w5, w6, w7, w8, w9, w10⟩ := hW
  have e3 : h.1.1 1 j0 3 = nI n := hL.2.2.1.trans w7
  unfold f_X1_pairCount
  have := lp_up (g := fun k a x => g_X1_pairCount_4 k j0 a x h) (N := n) (step := fun i a => fo (cT (fun j => sPair N i j)) (n - (i + 1)) (i + 1) a) (fin := fun a => some (a, h)) (fun k i a hi => ?_) (fun k a => ?_) n am_fu 0 0 (by omega) (fu_lt (by omega))
  · refine this.trans ?_
    rw [show (0 : Int32) = nI 0 from rfl, fo_sm (fun i A => fo_cT (fun j => sPair N i j) (n - (i + 1)) (i + 1) A) n 0 0, Nat.zero_add]
  · show g_X1_pairCount_4 (k + 1) j0 a (nI i) h = _
    rw [g_X1_pairCount_4, rI_1, e3, if_neg (nI_le_i (by omega) (by omega) hi), nI_1]
    refine (lp_up (g := fun k' a x => g_X1_pairCount_16 (g_X1_pairCount_4 k) k' j0 a (nI i) x h) (N := n) (step := cT (fun j => sPair N i j)) (fin := fun a => g_X1_pairCount_4 k j0 a (nI i + 1) h) (fun k' j a hj => ?_) (fun k' a => ?_) (n - (i + 1)) am_fu (i + 1) a (by omega) (fu_lt (by omega))).trans ?_
    · show g_X1_pairCount_16 (g_X1_pairCount_4 k) (k' + 1) j0 a (nI i) (nI j) h = _
      rw [g_X1_pairCount_16, rI_1, e3, if_neg (nI_le_i (by omega) (by omega) hj), ix8 (show i < 8 by omega), ix8 (show j < 8 by omega), nI_1]
      show (f_X0_isPairOf (8 * j0 + i) (8 * j0 + j) h).bind _ = _
      rw [isPair_c (hL.hd hi) (hL.hd hj)]
      show (if b2i _ = 0 then _ else _) = _
      unfold cT
      rw [b2i_c]
      by_cases q : sPair N i j = true
      · rw [if_pos q, if_pos q]
      · rw [if_neg q, if_neg q]
    · show g_X1_pairCount_16 (g_X1_pairCount_4 k) (k' + 1) j0 a (nI i) (nI n) h = _
      rw [g_X1_pairCount_16, rI_1, e3, if_pos nI_le_n]
    · skip
      rw [nI_1]
  · show g_X1_pairCount_4 (k + 1) j0 a (nI n) h = _
    rw [g_X1_pairCount_4, rI_1, e3, if_pos nI_le_n]
theorem pairs_eq (P : Nat → Nat → Nat) (hP : ∀ i j, P i j = P j i) : ∀ n, n ≤ 8 → sm (fun i => sm (fun j => P i j) (n - (i + 1)) (i + 1)) n 0 = sm (fun i => sm (fun j => P i j) i 0) n 0
  | 0, _ => rfl
  | 1, _ => by simp [sm]
  | 2, _ => by simp [sm]; rw [hP 1 0]
  | 3, _ => by simp [sm]; rw [hP 1 0, hP 2 0, hP 2 1]; omega
  | 4, _ => by simp [sm]; rw [hP 1 0, hP 2 0, hP 2 1, hP 3 0, hP 3 1, hP 3 2]; omega
  | 5, _ => by simp [sm]; rw [hP 1 0, hP 2 0, hP 2 1, hP 3 0, hP 3 1, hP 3 2, hP 4 0, hP 4 1, hP 4 2, hP 4 3]; omega
  | 6, _ => by simp [sm]; rw [hP 1 0, hP 2 0, hP 2 1, hP 3 0, hP 3 1, hP 3 2, hP 4 0, hP 4 1, hP 4 2, hP 4 3, hP 5 0, hP 5 1, hP 5 2, hP 5 3, hP 5 4]; omega
  | 7, _ => by simp [sm]; rw [hP 1 0, hP 2 0, hP 2 1, hP 3 0, hP 3 1, hP 3 2, hP 4 0, hP 4 1, hP 4 2, hP 4 3, hP 5 0, hP 5 1, hP 5 2, hP 5 3, hP 5 4, hP 6 0, hP 6 1, hP 6 2, hP 6 3, hP 6 4, hP 6 5]; omega
  | 8, _ => by simp [sm]; rw [hP 1 0, hP 2 0, hP 2 1, hP 3 0, hP 3 1, hP 3 2, hP 4 0, hP 4 1, hP 4 2, hP 4 3, hP 5 0, hP 5 1, hP 5 2, hP 5 3, hP 5 4, hP 6 0, hP 6 1, hP 6 2, hP 6 3, hP 6 4, hP 6 5, hP 7 0, hP 7 1, hP 7 2, hP 7 3, hP 7 4, hP 7 5, hP 7 6]; omega
  | n + 9, h => absurd h (by omega)
theorem op_count (a : Int32) (hI : Inv h) : Okc (f_X6_count a) (f_X7_count a) h := by
  obtain ⟨⟨n, m, d, l, i1, i2, i3⟩, -, ⟨t, t1, t2, t3, -⟩, -⟩ := id hI
  have ep := pairs_eq (fun i j => if sPair (rv h) i j = true then 1 else 0) (fun i j => by rw [sPair_comm]) n i1.1
  have e6 : f_X6_count a h = (if a = 0 then some (rv h 2, h) else if a = 1 then some (nI t, h) else if a = 2 then some (rv h 3, h) else if a = 3 then some (nI (sm (fun i => sm (fun j => if sPair (rv h) i j = true then 1 else 0) i 0) n 0), h) else f_X6_tell (fcode 0) h) := by
    rw [← ep]
    simp -implicitDefEqProofs only [Option.bind_some, b0t, b0f, if_true, if_false, ite_true, ite_false, bind_eta, bind_etaV, rv_c, f_X6_count, rI_1, rI_4, i3.2.2.1, i3.2.2.2.1, t2, pairCount_c i1 i3, fc1]
  have e7 : ∀ c, f_X7_count a (c, h.2) = (if a = 0 then some (rv h 2, (c, h.2)) else if a = 1 then some (nI t, (c, h.2)) else if a = 2 then some (rv h 3, (c, h.2)) else if a = 3 then some (nI (sm (fun i => sm (fun j => if sPair (rv h) i j = true then 1 else 0) i 0) n 0), (c, h.2)) else f_X7_finds (fcode 0) (c, h.2)) := by
    intro c
    simp -implicitDefEqProofs only [Option.bind_some, b0t, b0f, if_true, if_false, ite_true, ite_false, bind_eta, bind_etaV, rv_c, f_X7_count, ix64_2, ix64_3, rv_2, rv_3, rI_7, t3, pairs_r (h := (c, h.2)) i1, fc1]
  by_cases q0 : a = 0
  · exact okV hI _ (e6.trans (if_pos q0)) ((e7 h.1).trans (if_pos q0))
  rw [if_neg q0] at e6
  simp only [if_neg q0] at e7
  by_cases q1 : a = 1
  · exact okV hI _ (e6.trans (if_pos q1)) ((e7 h.1).trans (if_pos q1))
  rw [if_neg q1] at e6
  simp only [if_neg q1] at e7
  by_cases q2 : a = 2
  · exact okV hI _ (e6.trans (if_pos q2)) ((e7 h.1).trans (if_pos q2))
  rw [if_neg q2] at e6
  simp only [if_neg q2] at e7
  by_cases q3 : a = 3
  · exact okV hI _ (e6.trans (if_pos q3)) ((e7 h.1).trans (if_pos q3))
  rw [if_neg q3] at e6
  simp only [if_neg q3] at e7
  exact okF hI 0 (by decide) e6 e7
end COUNT
