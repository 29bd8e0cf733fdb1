/-! PURE: more calls that only read -/
theorem b0t : (b2i true = 0) = False := eq_false (by decide)
theorem b0f : (b2i false = 0) = True := eq_true (by decide)
theorem rv_c (c : (Nat → Nat → Nat → Int32) × (Nat → Nat → Nat → Int64)) (h : HP) : rv (c, h.2) = rv h := rfl
theorem ix8 {i : Nat} (h : i < 8) : am_ix (nI i) 8 = some i := ix_nI h (by decide)
theorem ix6 {i : Nat} (h : i < 6) : am_ix (nI i) 6 = some i := ix_nI h (by decide)
section READS2
variable {h : HP}
theorem op_pair (a b : Int32) (hI : Inv h) : Okc (f_X6_pair a b) (f_X7_pair a b) h := by
  obtain ⟨⟨n, m, d, l, i1, i2, i3⟩, -⟩ := id hI
  have g1 := hasHandle_c i1 i3
  have g2 := fun c => isOne_r (h := (c, h.2)) i1
  have g3 := isOne_r i1
  have hn8 := i1.1
  cases ha : isA a n with
  | false => exact okF hI 0 (by decide) (by simp -implicitDefEqProofs only [Option.bind_some, b0t, b0f, if_true, if_false, ite_true, ite_false, bind_eta, bind_etaV, rv_c, f_X6_pair, g_X6_pair_27, g1, ha, fc1]) (fun c => by simp -implicitDefEqProofs only [Option.bind_some, b0t, b0f, if_true, if_false, ite_true, ite_false, bind_eta, bind_etaV, rv_c, f_X7_pair, g_X7_pair_21, g2, ha, fc1])
  | true =>
    cases hb : isA b n with
    | false => exact okF hI 0 (by decide) (by simp -implicitDefEqProofs only [Option.bind_some, b0t, b0f, if_true, if_false, ite_true, ite_false, bind_eta, bind_etaV, rv_c, f_X6_pair, g_X6_pair_27, g1, ha, hb, fc1]) (fun c => by simp -implicitDefEqProofs only [Option.bind_some, b0t, b0f, if_true, if_false, ite_true, ite_false, bind_eta, bind_etaV, rv_c, f_X7_pair, g_X7_pair_21, g2, ha, hb, fc1])
    | true =>
      by_cases e : a = b
      · subst e
        exact okF hI 0 (by decide) (by simp -implicitDefEqProofs only [Option.bind_some, b0t, b0f, if_true, if_false, ite_true, ite_false, bind_eta, bind_etaV, rv_c, f_X6_pair, g_X6_pair_27, g1, ha, fc1]) (fun c => by simp -implicitDefEqProofs only [Option.bind_some, b0t, b0f, if_true, if_false, ite_true, ite_false, bind_eta, bind_etaV, rv_c, f_X7_pair, g_X7_pair_21, g2, ha, fc1])
      · have ha' := ha
        have hb' := hb
        obtain ⟨i, hi, rfl⟩ := isA_t (by omega) ha
        obtain ⟨j, hj, rfl⟩ := isA_t (by omega) hb
        refine okV hI (b2i (sPair (rv h) i j)) ?_ ?_
        · simp -implicitDefEqProofs only [Option.bind_some, b0t, b0f, if_true, if_false, ite_true, ite_false, bind_eta, bind_etaV, rv_c, f_X6_pair, g1, ha', hb', if_neg e, ix8 (show i < 8 by omega), ix8 (show j < 8 by omega), isPair_c (i3.hd hi) (i3.hd hj)]
          cases sPair (rv h) i j <;> rfl
        · simp -implicitDefEqProofs only [Option.bind_some, b0t, b0f, if_true, if_false, ite_true, ite_false, bind_eta, bind_etaV, rv_c, f_X7_pair, g3, ha', hb', if_neg e, arePair_r (h := h) (show i < 8 by omega) (show j < 8 by omega)]
          cases sPair (rv h) i j <;> rfl
theorem op_about (a b : Int32) (hI : Inv h) : Okc (f_X6_about a b) (f_X7_about a b) h := by
  obtain ⟨⟨n, m, d, l, i1, i2, i3⟩, -⟩ := id hI
  have g1 := hasMember_c i1 i3
  have g2 := fun c => isMember_r (h := (c, h.2)) i1
  have g3 := isMember_r i1
  have hm6 := i1.2.1
  cases ha : isA a m with
  | false => exact okF hI 0 (by decide) (by simp -implicitDefEqProofs only [Option.bind_some, b0t, b0f, if_true, if_false, ite_true, ite_false, bind_eta, bind_etaV, rv_c, f_X6_about, g1, ha, fc1]) (fun c => by simp -implicitDefEqProofs only [Option.bind_some, b0t, b0f, if_true, if_false, ite_true, ite_false, bind_eta, bind_etaV, rv_c, f_X7_about, g_X7_about_17, g2, ha, fc1])
  | true =>
    have ha' := ha
    obtain ⟨i, hi, rfl⟩ := isA_t (by omega) ha
    cases hb : inR b 0 3 with
    | false =>
      have hne : ∀ z : Int32, inR z 0 3 = true → ¬ b = z := fun z hz e => by rw [e, hz] at hb; cases hb
      exact okF hI 0 (by decide) (by simp -implicitDefEqProofs only [Option.bind_some, b0t, b0f, if_true, if_false, ite_true, ite_false, bind_eta, bind_etaV, rv_c, f_X6_about, g1, ha', fc1, hne 0 (by decide), hne 1 (by decide), hne 2 (by decide), hne 3 (by decide)]) (fun c => by simp -implicitDefEqProofs only [Option.bind_some, b0t, b0f, if_true, if_false, ite_true, ite_false, bind_eta, bind_etaV, rv_c, f_X7_about, g_X7_about_17, g2, ha', fc1, in_ok, hb])
    | true =>
      obtain ⟨k, hk, rfl⟩ := inR_of (n := 3) (by decide) hb
      have q6 := i3.mb hi
      have e6 : f_X6_about (nI i) (nI k) h = (if nI k = 0 then some (mb (rv h) i 0, h) else if nI k = 1 then some (mb (rv h) i 1, h) else if nI k = 2 then some (sHolds (rv h) n (nI i), h) else if nI k = 3 then some (sOpenTo (rv h) n (nI i) (mb (rv h) i 0), h) else f_X6_tell (fcode 0) h) := by
        simp -implicitDefEqProofs only [Option.bind_some, b0t, b0f, if_true, if_false, ite_true, ite_false, bind_eta, bind_etaV, rv_c, f_X6_about, g1, ha', fc1, ix6 (show i < 6 by omega), rI_2, q6 0 (by decide), q6 1 (by decide), heldBy_c i1 i3, openToL_c i1 i3 hi]
      have e7 : f_X7_about (nI i) (nI k) h = (if (2 : Int32) ≤ nI k then (if nI k = 2 then some (sHolds (rv h) n (nI i), h) else some (sOpenTo (rv h) n (nI i) (mb (rv h) i 0), h)) else f_X7_whose (nI i) (nI k) h) := by
        simp -implicitDefEqProofs only [Option.bind_some, b0t, b0f, if_true, if_false, ite_true, ite_false, bind_eta, bind_etaV, rv_c, f_X7_about, g3, ha', fc1, in_ok, hb, holds_r i1, openTo_r i1 (show i < 6 by omega)]
      match k, hk with
      | 0, _ => exact okV hI _ e6 (e7.trans (whose0 (by omega)))
      | 1, _ => exact okV hI _ e6 (e7.trans (whose1 (by omega)))
      | 2, _ => exact okV hI _ e6 e7
      | 3, _ => exact okV hI _ e6 e7
theorem op_now (a : Int32) (hI : Inv h) : Okc (f_X6_now a) (f_X7_now a) h := by
  obtain ⟨⟨n, m, d, l, i1, i2, i3⟩, -⟩ := id hI
  have e6 : f_X6_now a h = (if a = 0 then some (rv h 0, h) else if a = 1 then some (sFinesAll (rv h) m, h) else if a = 2 then some (sLentSet (rv h) n, h) else if a = 3 then some (sLateSet (rv h) n, h) else if a = 4 then some (sWearAll (rv h) n, h) else if a = 5 then some (rv h 1, h) else f_X6_tell (fcode 0) h) := by
    simp -implicitDefEqProofs only [Option.bind_some, b0t, b0f, if_true, if_false, ite_true, ite_false, bind_eta, bind_etaV, rv_c, f_X6_now, rI_1, i3.1, i3.2.1, allFines_c i1 i3, allLent_c i1 i3, allLate_c i1 i3, allWear_c i1 i3, fc1]
  have e7 : ∀ c, f_X7_now a (c, h.2) = (if a = 0 then some (rv h 0, (c, h.2)) else if a = 1 then some (sFinesAll (rv h) m, (c, h.2)) else if a = 2 then some (sLentSet (rv h) n, (c, h.2)) else if a = 3 then some (sLateSet (rv h) n, (c, h.2)) else if a = 4 then some (sWearAll (rv h) n, (c, h.2)) else if a = 5 then some (rv h 1, (c, h.2)) else f_X7_finds (fcode 0) (c, h.2)) := by
    intro c
    simp -implicitDefEqProofs only [Option.bind_some, b0t, b0f, if_true, if_false, ite_true, ite_false, bind_eta, bind_etaV, rv_c, f_X7_now, ix64_0, ix64_1, rv_0, rv_1, finesAll_r (h := (c, h.2)) i1, lentSet_r (h := (c, h.2)) i1, lateSet_r (h := (c, h.2)) i1, wearAll_r (h := (c, h.2)) i1, fc1]
  by_cases q0 : a = 0
  · exact okV hI _ (e6.trans (if_pos q0)) ((e7 h.1).trans (if_pos q0))
  rw [if_neg q0] at e6
  simp only [if_neg q0] at e7
  by_cases q1 : a = 1
  · exact okV hI _ (e6.trans (if_pos q1)) ((e7 h.1).trans (if_pos q1))
  rw [if_neg q1] at e6
  simp only [if_neg q1] at e7
  by_cases q2 : a = 2
  · exact okV hI _ (e6.trans (if_pos q2)) ((e7 h.1).trans (if_pos q2))
  rw [if_neg q2] at e6
  simp only [if_neg q2] at e7
  by_cases q3 : a = 3
  · exact okV hI _ (e6.trans (if_pos q3)) ((e7 h.1).trans (if_pos q3))
  rw [if_neg q3] at e6
  simp only [if_neg q3] at e7
  by_cases q4 : a = 4
  · exact okV hI _ (e6.trans (if_pos q4)) ((e7 h.1).trans (if_pos q4))
  rw [if_neg q4] at e6
  simp only [if_neg q4] at e7
  by_cases q5 : a = 5
  · exact okV hI _ (e6.trans (if_pos q5)) ((e7 h.1).trans (if_pos q5))
  rw [if_neg q5] at e6
  simp only [if_neg q5] at e7
  exact okF hI 0 (by decide) e6 e7
theorem op_status (a : Int32) (hI : Inv h) : Okc (f_X6_status a) (f_X7_status a) h := by
  have hT : ITol h := hI.2.2.2.2
  have l6 : ∀ s, g_X6_status_33 am_fu s 0 h = some (fo (fun i x => x + h.2.1 13 1 i) 7 0 s, h) := by
    intro s
    refine (lp_up (g := fun n a i => g_X6_status_33 n a i h) (N := 7) (step := fun i x => x + h.2.1 13 1 i) (fin := fun a => some (a, h)) ?_ ?_ 7 am_fu 0 s (by decide) (fu_lt (by decide))).trans rfl
    · intro n i a hi
      show g_X6_status_33 (n + 1) a (nI i) h = _
      rw [g_X6_status_33]
      rw [show (7 : Int32) = nI 7 from rfl, if_neg (nI_le_i (by omega) (by omega) hi), ix_nI hi (by decide)]
      show g_X6_status_33 n (a + h.1.1 11 1 i) (nI i + 1) h = _
      rw [hT i hi, nI_1]
    · intro n a
      rfl
  have l7 : ∀ s, g_X7_status_21 am_fu a s 0 h = (if (0 : Int32) ≤ a then (am_ix a 7).bind (fun k => some (h.2.1 13 1 k, h)) else some (fo (fun i x => x + h.2.1 13 1 i) 7 0 s, h)) := by
    intro s
    refine (lp_up (g := fun n s i => g_X7_status_21 n a s i h) (N := 7) (step := fun i x => x + h.2.1 13 1 i) (fin := fun s => (if (0 : Int32) ≤ a then (am_ix a 7).bind (fun k => some (h.2.1 13 1 k, h)) else some (s, h))) ?_ ?_ 7 am_fu 0 s (by decide) (fu_lt (by decide))).trans rfl
    · intro n i s hi
      show g_X7_status_21 (n + 1) a s (nI i) h = _
      rw [g_X7_status_21]
      rw [show (7 : Int32) = nI 7 from rfl, if_neg (nI_le_i (by omega) (by omega) hi), ix_nI hi (by decide)]
      show g_X7_status_21 n a (s + h.2.1 13 1 i) (nI i + 1) h = _
      rw [nI_1]
    · intro n s
      show g_X7_status_21 (n + 1) a s (nI 7) h = _
      rw [g_X7_status_21]
      rw [if_pos (by decide)]
      by_cases q : (0 : Int32) ≤ a
      · simp only [if_pos q]
        rfl
      · simp only [if_neg q]
  cases hb : inR a (-1) 6 with
  | false =>
    refine okF hI 0 (by decide) ?_ (fun c => by simp -implicitDefEqProofs only [Option.bind_some, b0t, b0f, if_true, if_false, ite_true, ite_false, bind_eta, bind_etaV, rv_c, f_X7_status, in_ok, hb, fc1])
    unfold f_X6_status inR at *
    by_cases p : a < -1
    · rw [if_pos p]
      unfold g_X6_status_11
      rw [bind_eta, fc1]
    · rw [decide_eq_false p] at hb
      rw [if_neg p, if_neg]
      · unfold g_X6_status_11
        rw [bind_eta, fc1]
      · intro q
        have : ¬ (6 : Int32) < a := fun q2 => by
          rw [Int32.lt_iff_toInt_lt] at q q2
          have e7 : (7 : Int32).toInt = 7 := rfl
          have e6 : (6 : Int32).toInt = 6 := rfl
          omega
        rw [decide_eq_false this] at hb
        cases hb
  | true =>
    have e7 := l7 0
    have e7' : f_X7_status a h = g_X7_status_21 am_fu a 0 0 h := by simp -implicitDefEqProofs only [Option.bind_some, b0t, b0f, if_true, if_false, ite_true, ite_false, bind_eta, bind_etaV, rv_c, f_X7_status, in_ok, hb]
    unfold inR at hb
    simp only [Bool.and_eq_true, Bool.not_eq_true', decide_eq_false_iff_not] at hb
    have p2 : a < 7 := by
      have := hb.2
      rw [Int32.lt_iff_toInt_lt] at this ⊢
      have e7 : (7 : Int32).toInt = 7 := rfl
      have e6 : (6 : Int32).toInt = 6 := rfl
      omega
    have e6 : f_X6_status a h = (if a < 0 then g_X6_status_33 am_fu 0 0 h else (am_ix a 7).bind (fun k => some (h.1.1 11 1 k, h))) := by
      unfold f_X6_status
      rw [if_neg hb.1, if_pos p2]
      rfl
    by_cases q : a < 0
    · rw [if_pos q, l6 0] at e6
      rw [if_neg (Int32.not_le.mpr q)] at e7
      exact okV hI _ e6 (e7'.trans e7)
    · rw [if_neg q] at e6
      rw [if_pos (Int32.not_lt.mp q)] at e7
      obtain ⟨k, hk, rfl⟩ := nI_of2 (n := 7) (M := 7) (by decide) q (Int32.le_of_lt p2)
      have hk7 : k < 7 := by
        rcases Nat.lt_or_ge k 7 with h1 | h1
        · exact h1
        · exfalso
          have : k = 7 := by omega
          subst this
          exact absurd p2 (by decide)
      rw [ix_nI hk7 (by decide)] at e6 e7
      refine okV hI _ e6 ((e7'.trans e7).trans ?_)
      show some (h.2.1 13 1 k, h) = _
      rw [hT k hk7]
end READS2
