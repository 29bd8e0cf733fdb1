/-! PURE: where a handle opens and leads, wears, pairs -/
theorem WFh.kind {N : Nat → Int32} {m d i : Nat} (h : WFh N m d i) : hd N i 0 = 0 ∨ hd N i 0 = 1 ∨ hd N i 0 = 2 ∨ hd N i 0 = 3 ∨ hd N i 0 = 4 ∨ hd N i 0 = 5 := by
  obtain ⟨⟨k, hk, e⟩, -⟩ := h
  rw [e]
  match k, hk with
  | 0, _ => exact Or.inl rfl
  | 1, _ => exact Or.inr (Or.inl rfl)
  | 2, _ => exact Or.inr (Or.inr (Or.inl rfl))
  | 3, _ => exact Or.inr (Or.inr (Or.inr (Or.inl rfl)))
  | 4, _ => exact Or.inr (Or.inr (Or.inr (Or.inr (Or.inl rfl))))
  | 5, _ => exact Or.inr (Or.inr (Or.inr (Or.inr (Or.inr rfl))))
set_option maxHeartbeats 4000000 in
set_option maxRecDepth 40000 in
theorem opens_r {h : HP} {i m d : Nat} {r : Int32} (hi : i < 8) (hm : m ≤ 6) (hw : WFh (rv h) m d i) : f_X7_opens (nI i) r h = some (b2i (sOpens (rv h) i r), h) := by
  have hk := hw.kind
  have c1 : ¬ (1 : Int32) = 0 := by decide
  have c0 : b2i true = 1 := rfl
  have c2 : b2i false = 0 := rfl
  have h61 : ∀ a4 a5 : Bool, g_X7_opens_61 (nI i) r (hd (rv h) i 3) (b2i a4) (b2i a5) h = some (b2i (if hd (rv h) i 0 = 1 then a5 && !decide (50 ≤ hd (rv h) i 3) else if hd (rv h) i 0 = 2 then a5 && a4 else if hd (rv h) i 0 = 3 then a5 && (a4 || decide (rv h 0 - rv h 0 / 2 * 2 = 0)) else if hd (rv h) i 0 = 4 then (a5 && !decide (50 ≤ hd (rv h) i 3)) || (decide (r = (hd (rv h) i 1 + 8) - (hd (rv h) i 1 + 8) / 16 * 16) && !decide (10 ≤ hd (rv h) i 3)) else if hd (rv h) i 0 = 5 then a5 && (a4 || sLate (rv h) i) else a5), h) := by
    intro a4 a5
    have hw50 : hd (rv h) i 3 < 50 ↔ ¬ (50 ≤ hd (rv h) i 3) := by rw [Int32.not_le]
    unfold g_X7_opens_61
    simp only [its0 hi, its1 hi, Option.bind_some, g_X7_opens_175, ix64_0, rv_0, isLate_r hi hm hw, b2i_0, b2i_and, hw50]
    rcases hk with e | e | e | e | e | e <;> rw [e] <;> simp (decide := true) only [if_true, if_false]
    · by_cases p : (50 : Int32) ≤ hd (rv h) i 3 <;> cases a5 <;> simp [p, b2i]
    · cases a4 <;> cases a5 <;> simp [b2i]
    · by_cases p : rv h 0 - rv h 0 / 2 * 2 = 0 <;> cases a4 <;> cases a5 <;> simp [p, b2i]
    · generalize (hd (rv h) i 1 + 8) - (hd (rv h) i 1 + 8) / 16 * 16 = OP
      by_cases q : r = OP
      · simp only [if_pos q, decide_eq_true q]
        by_cases p : (50 : Int32) ≤ hd (rv h) i 3 <;> by_cases q2 : (10 : Int32) ≤ hd (rv h) i 3 <;> cases a5 <;> simp [p, q2, b2i]
      · simp only [if_neg q, decide_eq_false q]
        by_cases p : (50 : Int32) ≤ hd (rv h) i 3 <;> by_cases q2 : (10 : Int32) ≤ hd (rv h) i 3 <;> cases a5 <;> simp [p, q2, b2i]
    · cases a4 <;> cases a5 <;> cases sLate (rv h) i <;> simp [b2i]
  have h50 : ∀ a4 : Bool, g_X7_opens_50 (nI i) r (hd (rv h) i 3) (b2i a4) h = g_X7_opens_61 (nI i) r (hd (rv h) i 3) (b2i a4) (b2i (!decide (99 ≤ hd (rv h) i 3))) h := by
    intro a4
    unfold g_X7_opens_50
    by_cases p : (99 : Int32) ≤ hd (rv h) i 3 <;> simp [p, b2i]
  have h38 : ∀ a4 a5 : Bool, g_X7_opens_38 (nI i) r (hd (rv h) i 3) (b2i a4) (b2i a5) h = g_X7_opens_61 (nI i) r (hd (rv h) i 3) (b2i a4) (b2i ((a4 || a5) && !decide (99 ≤ hd (rv h) i 3))) h := by
    intro a4 a5
    unfold g_X7_opens_38
    rw [h50]
    cases a4 <;> cases a5 <;> simp [b2i]
  have h22 : ∀ a4 : Bool, g_X7_opens_22 (nI i) r (hd (rv h) i 3) (b2i a4) h = g_X7_opens_38 (nI i) r (hd (rv h) i 3) (b2i a4) (b2i (decide (r = sEnd (rv h) i))) h := by
    intro a4
    unfold g_X7_opens_22
    rw [endOf_r hi hm hw]
    show (if r = sEnd (rv h) i then _ else _) = _
    by_cases p : r = sEnd (rv h) i
    · rw [if_pos p, decide_eq_true p]; rfl
    · rw [if_neg p, decide_eq_false p]; rfl
  unfold f_X7_opens
  simp only [its3 hi, its1 hi, Option.bind_some]
  have hfin : g_X7_opens_22 (nI i) r (hd (rv h) i 3) (b2i (decide (r = hd (rv h) i 1))) h = some (b2i (sOpens (rv h) i r), h) := by
    rw [h22, h38, h61]
    rfl
  by_cases p : r = hd (rv h) i 1
  · rw [if_pos p]; rw [decide_eq_true p] at hfin; exact hfin
  · rw [if_neg p]; rw [decide_eq_false p] at hfin; exact hfin
theorem leadsTo_r {h : HP} {i m d : Nat} {r : Int32} (hi : i < 8) (hm : m ≤ 6) (hw : WFh (rv h) m d i) : f_X7_leadsTo (nI i) r h = some (sLead (rv h) i r, h) := by
  unfold f_X7_leadsTo sLead
  simp only [endOf_r hi hm hw, its1 hi, Option.bind_some]
  split <;> rfl
theorem wears_r {h : HP} {i : Nat} (hi : i < 8) : f_X7_wears (nI i) h = some (sWears (rv h) i, h) := by
  unfold f_X7_wears sWears
  simp only [its0 hi, ix64_0, rv_0, Option.bind_some]
  repeat' split
  all_goals (first | rfl | simp_all)
theorem arePair_r {h : HP} {i j : Nat} (hi : i < 8) (hj : j < 8) : f_X7_arePair (nI i) (nI j) h = some (b2i (sPair (rv h) i j), h) := by
  unfold f_X7_arePair sPair
  simp only [its1 hi, its2 hi, its1 hj, its2 hj, g_X7_arePair_44, Option.bind_some]
  by_cases p1 : hd (rv h) i 1 = hd (rv h) j 1 <;> by_cases p2 : hd (rv h) i 2 = hd (rv h) j 2 <;> by_cases p3 : hd (rv h) i 1 = hd (rv h) j 2 <;> by_cases p4 : hd (rv h) i 2 = hd (rv h) j 1 <;> simp only [p1, p2, p3, p4, if_true, if_false, decide_true, decide_false, Bool.and_true, Bool.and_false, Bool.or_false, Bool.false_or, Bool.or_true, Bool.true_or, Bool.false_and, Bool.true_and, b2i, Bool.false_eq_true] <;> simp_all
set_option maxHeartbeats 4000000 in
set_option maxRecDepth 40000 in
/-- the class' handle at a is handle i of N -/
theorem opens_c {h : HP} {a i m d : Nat} {N : Nat → Int32} {r : Int32} (e : ∀ k, k < 6 → h.1.1 0 a k = hd N i k) (hw : WFh N m d i) : f_X0_opensIn a r (N 0) (N 1) h = some (b2i (sOpens N i r), h) := by
  have hk := hw.kind
  have e0 := e 0 (by decide)
  have e1 := e 1 (by decide)
  have e3 := e 3 (by decide)
  have hE := end_c e hw.2.2.1
  have hLa := isLate_c (N := N) (e 4 (by decide)) (e 5 (by decide))
  have h93 : ∀ a5 a6 a7 a8 a9 : Bool, a8 = (a7 && !decide (50 ≤ hd N i 3)) → a9 = (a7 && a5) → a7 = ((a5 || a6) && !decide (99 ≤ hd N i 3)) → g_X0_opensIn_93 a r (N 0) (N 1) (b2i a5) (b2i a6) (b2i a7) (b2i a8) (b2i a9) h = some (b2i (if hd N i 0 = 1 then a7 && !decide (50 ≤ hd N i 3) else if hd N i 0 = 2 then a7 && a5 else if hd N i 0 = 3 then a7 && (a5 || decide (N 0 - N 0 / 2 * 2 = 0)) else if hd N i 0 = 4 then (a7 && !decide (50 ≤ hd N i 3)) || (decide (r = (hd N i 1 + 8) - (hd N i 1 + 8) / 16 * 16) && !decide (10 ≤ hd N i 3)) else if hd N i 0 = 5 then a7 && (a5 || sLate N i) else a7), h) := by
    intro a5 a6 a7 a8 a9 h8 h9 h7
    unfold g_X0_opensIn_93
    simp only [rI_0, e0, e1, e3, f_X0_isOpposite, hLa, Option.bind_some, b2i_0, b2i_and]
    rcases hk with q | q | q | q | q | q <;> rw [q] <;> simp (decide := true) only [if_true, if_false]
    · rw [h8]
    · rw [h9]
    · by_cases p : N 0 - N 0 / 2 * 2 = 0 <;> cases a5 <;> cases a7 <;> simp [p, b2i]
    · rw [h8]
      generalize (hd N i 1 + 8) - (hd N i 1 + 8) / 16 * 16 = OP
      by_cases q : r = OP
      · simp only [if_pos q, decide_eq_true q]
        by_cases p : (50 : Int32) ≤ hd N i 3 <;> by_cases q2 : (10 : Int32) ≤ hd N i 3 <;> cases a7 <;> simp [p, q2, b2i, e3]
      · simp only [if_neg q, decide_eq_false q]
        by_cases p : (50 : Int32) ≤ hd N i 3 <;> by_cases q2 : (10 : Int32) ≤ hd N i 3 <;> cases a7 <;> simp [p, q2, b2i, e3]
    · rw [h9, h7]
      by_cases p : (99 : Int32) ≤ hd N i 3 <;> cases a5 <;> cases a6 <;> cases sLate N i <;> simp [p, b2i]
  have h76 : ∀ a5 a6 a7 a8 : Bool, g_X0_opensIn_76 a r (N 0) (N 1) (b2i a5) (b2i a6) (b2i a7) (b2i a8) h = g_X0_opensIn_93 a r (N 0) (N 1) (b2i a5) (b2i a6) (b2i a7) (b2i a8) (b2i (a7 && a5)) h := by
    intro a5 a6 a7 a8
    unfold g_X0_opensIn_76
    cases a5 <;> cases a7 <;> simp [b2i]
  have h55 : ∀ a5 a6 a7 : Bool, g_X0_opensIn_55 a r (N 0) (N 1) (b2i a5) (b2i a6) (b2i a7) h = g_X0_opensIn_76 a r (N 0) (N 1) (b2i a5) (b2i a6) (b2i a7) (b2i (a7 && !decide (50 ≤ hd N i 3))) h := by
    intro a5 a6 a7
    unfold g_X0_opensIn_55
    rw [rI_0, e3]
    by_cases p : (50 : Int32) ≤ hd N i 3 <;> cases a7 <;> simp [p, b2i]
  have h41 : ∀ a5 a6 : Bool, g_X0_opensIn_41 a r (N 0) (N 1) (b2i a5) (b2i a6) h = g_X0_opensIn_55 a r (N 0) (N 1) (b2i a5) (b2i a6) (b2i (!decide (99 ≤ hd N i 3))) h := by
    intro a5 a6
    unfold g_X0_opensIn_41
    rw [rI_0, e3]
    by_cases p : (99 : Int32) ≤ hd N i 3 <;> simp [p, b2i]
  have h29 : ∀ a5 a6 : Bool, g_X0_opensIn_29 a r (N 0) (N 1) (b2i a5) (b2i a6) h = g_X0_opensIn_55 a r (N 0) (N 1) (b2i a5) (b2i a6) (b2i ((a5 || a6) && !decide (99 ≤ hd N i 3))) h := by
    intro a5 a6
    unfold g_X0_opensIn_29
    rw [h41]
    cases a5 <;> cases a6 <;> simp [b2i]
  have h13 : ∀ a5 : Bool, g_X0_opensIn_13 a r (N 0) (N 1) (b2i a5) h = g_X0_opensIn_29 a r (N 0) (N 1) (b2i a5) (b2i (decide (r = sEnd N i))) h := by
    intro a5
    unfold g_X0_opensIn_13
    rw [hE]
    show (if r = sEnd N i then _ else _) = _
    by_cases p : r = sEnd N i
    · rw [if_pos p, decide_eq_true p]; rfl
    · rw [if_neg p, decide_eq_false p]; rfl
  have hfin : g_X0_opensIn_13 a r (N 0) (N 1) (b2i (decide (r = hd N i 1))) h = some (b2i (sOpens N i r), h) := by
    rw [h13, h29, h55, h76, h93 _ _ _ _ _ rfl rfl rfl]
    rfl
  unfold f_X0_opensIn
  rw [rI_0, e1]
  by_cases p : r = hd N i 1
  · rw [if_pos p]; rw [decide_eq_true p] at hfin; exact hfin
  · rw [if_neg p]; rw [decide_eq_false p] at hfin; exact hfin
theorem ledTo_c {h : HP} {a i m d : Nat} {N : Nat → Int32} {r : Int32} (e : ∀ k, k < 6 → h.1.1 0 a k = hd N i k) (hw : WFh N m d i) : f_X0_ledTo a r (N 1) h = some (sLead N i r, h) := by
  unfold f_X0_ledTo sLead
  rw [end_c e hw.2.2.1]
  show (if r = sEnd N i then some (h_rI h 0 a 1, h) else some (sEnd N i, h)) = _
  rw [rI_0, e 1 (by decide)]
  split <;> rfl
theorem wears_c {h : HP} {a i : Nat} {N : Nat → Int32} (e : ∀ k, k < 6 → h.1.1 0 a k = hd N i k) : f_X0_wears a (N 0) h = some (sWears N i, h) := by
  unfold f_X0_wears sWears
  simp only [rI_0, e 0 (by decide)]
  repeat' split
  all_goals (first | rfl | simp_all)
theorem isPair_c {h : HP} {a b i j : Nat} {N : Nat → Int32} (e : ∀ k, k < 6 → h.1.1 0 a k = hd N i k) (e' : ∀ k, k < 6 → h.1.1 0 b k = hd N j k) : f_X0_isPairOf a b h = some (b2i (sPair N i j), h) := by
  unfold f_X0_isPairOf sPair
  simp only [g_X0_isPairOf_22, rI_0, e 1 (by decide), e 2 (by decide), e' 1 (by decide), e' 2 (by decide)]
  by_cases p1 : hd N i 1 = hd N j 1 <;> by_cases p2 : hd N i 2 = hd N j 2 <;> by_cases p3 : hd N i 1 = hd N j 2 <;> by_cases p4 : hd N i 2 = hd N j 1 <;> simp only [p1, p2, p3, p4, if_true, if_false, decide_true, decide_false, Bool.and_true, Bool.and_false, Bool.or_false, Bool.false_or, Bool.or_true, Bool.true_or, Bool.false_and, Bool.true_and, b2i, Bool.false_eq_true] <;> simp_all
