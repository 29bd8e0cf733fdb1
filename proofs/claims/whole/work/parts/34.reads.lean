/-! PURE: calls that only read -/
theorem b2i_c (b : Bool) {α : Type} (x y : α) : (if b2i b = 0 then x else y) = (if b = true then y else x) := by cases b <;> rfl
section READS
variable {h : HP}
/-- class' side by the invariant: what the library is -/
theorem as_kind (k kd : Int32) (hk : inR k 0 5 = true) (hkd : kd = 0 ∨ kd = 1 ∨ kd = 2 ∨ kd = 3 ∨ kd = 4 ∨ kd = 5) :
    (if k = 0 then true else if k = 1 then decide (kd = 1) || decide (kd = 4) else if k = 2 then decide (kd = 2) || decide (kd = 5) else decide (kd = k)) = (decide (k = 0) || decide (k = kd) || (decide (k = 1) && decide (kd = 4)) || (decide (k = 2) && decide (kd = 5))) := by
  obtain ⟨i, hi, rfl⟩ := inR_of (n := 5) (by decide) hk
  match i, hi with
  | 0, _ => rcases hkd with rfl | rfl | rfl | rfl | rfl | rfl <;> decide
  | 1, _ => rcases hkd with rfl | rfl | rfl | rfl | rfl | rfl <;> decide
  | 2, _ => rcases hkd with rfl | rfl | rfl | rfl | rfl | rfl <;> decide
  | 3, _ => rcases hkd with rfl | rfl | rfl | rfl | rfl | rfl <;> decide
  | 4, _ => rcases hkd with rfl | rfl | rfl | rfl | rfl | rfl <;> decide
  | 5, _ => rcases hkd with rfl | rfl | rfl | rfl | rfl | rfl <;> decide
theorem isOfKind_c {a : Nat} {k kd : Int32} (e : h.1.1 0 a 0 = kd) : f_X0_isOfKind a k h = some (b2i (if k = 0 then true else if k = 1 then decide (kd = 1) || decide (kd = 4) else if k = 2 then decide (kd = 2) || decide (kd = 5) else decide (kd = k)), h) := by
  unfold f_X0_isOfKind
  simp only [rI_0, e]
  by_cases k0 : k = 0
  · simp [k0, b2i]
  · by_cases k1 : k = 1
    · by_cases q : kd = 1 <;> by_cases q2 : kd = 4 <;> simp [k1, q, q2, b2i]
    · by_cases k2 : k = 2
      · by_cases q : kd = 2 <;> by_cases q2 : kd = 5 <;> simp [k2, q, q2, b2i]
      · by_cases q : kd = k <;> simp [k0, k1, k2, q, b2i]
theorem op_of (a b : Int32) (hI : Inv h) : Okc (f_X6_of a b) (f_X7_of a b) h := by
  obtain ⟨⟨n, m, d, l, i1, i2, i3⟩, -⟩ := id hI
  cases ha : isA a n with
  | false =>
    refine okF hI 0 (by decide) ?_ (fun c => ?_)
    · unfold f_X6_of
      rw [hasHandle_c i1 i3, ha]
      show (f_X6_tell (-1000000001) h).bind _ = _
      rw [bind_eta, fc1]
    · unfold f_X7_of
      rw [isOne_r (h := (c, h.2)) i1, ha]
      show g_X7_of_18 (c, h.2) = _
      unfold g_X7_of_18
      rw [bind_eta, fc1]
  | true =>
    obtain ⟨i, hi, rfl⟩ := isA_t (by have := i1.1; omega) ha
    have hn8 := i1.1
    have hwh := i1.2.2.2.2.2.2.2.2.1 i hi
    have hm6 := i1.2.1
    have hh := i3.hd hi
    rw [show 8 * 0 + i = i by omega] at hh
    have e6 : f_X6_of (nI i) b h = (if b = 0 then some (hd (rv h) i 0, h) else if b = 1 then some (hd (rv h) i 1, h) else if b = 2 then some (hd (rv h) i 2, h) else if b = 3 then some (hd (rv h) i 3, h) else if b = 4 then some (hd (rv h) i 4, h) else if b = 5 then some (hd (rv h) i 5, h) else if b = 6 then some (b2i (sLate (rv h) i), h) else if b = 7 then some (sEnd (rv h) i, h) else if b = 8 then some (sWears (rv h) i, h) else f_X6_tell (fcode 0) h) := by
      unfold f_X6_of
      rw [hasHandle_c i1 i3, ha]
      show (am_ix (nI i) 8).bind _ = _
      rw [ix_nI (by omega) (by decide)]
      simp only [Option.bind_some, show 8 * 0 + i = i by omega, rI_0, rI_1, i3.1, i3.2.1, hh 0 (by decide), hh 1 (by decide), hh 2 (by decide), hh 3 (by decide), hh 4 (by decide), hh 5 (by decide), isLate_c (N := rv h) (hh 4 (by decide)) (hh 5 (by decide)), end_c hh hwh.2.2.1, wears_c hh, b2i_0, bind_eta, fc1]
      have e9 : (if sLate (rv h) i = false then some ((0 : Int32), h) else some (1, h)) = some (b2i (sLate (rv h) i), h) := by cases sLate (rv h) i <;> rfl
      rw [e9]
    cases hb : inR b 0 8 with
    | false =>
      refine okF hI 0 (by decide) ?_ (fun c => ?_)
      · rw [e6]
        have hne : ∀ z : Int32, inR z 0 8 = true → ¬ b = z := fun z hz e => by rw [e, hz] at hb; cases hb
        rw [if_neg (hne 0 (by decide)), if_neg (hne 1 (by decide)), if_neg (hne 2 (by decide)), if_neg (hne 3 (by decide)), if_neg (hne 4 (by decide)), if_neg (hne 5 (by decide)), if_neg (hne 6 (by decide)), if_neg (hne 7 (by decide)), if_neg (hne 8 (by decide))]
      · unfold f_X7_of
        rw [isOne_r (h := (c, h.2)) i1, ha]
        show (f_X7_in b 0 8 (c, h.2)).bind _ = _
        rw [in_ok, hb]
        show g_X7_of_18 (c, h.2) = _
        unfold g_X7_of_18
        rw [bind_eta, fc1]
    | true =>
      have e7 : f_X7_of (nI i) b h = (if b = 6 then some (b2i (sLate (rv h) i), h) else if b = 7 then some (sEnd (rv h) i, h) else if b = 8 then some (sWears (rv h) i, h) else f_X7_its (nI i) b h) := by
        unfold f_X7_of
        rw [isOne_r i1, ha]
        show (f_X7_in b 0 8 h).bind _ = _
        rw [in_ok, hb]
        show (if b = 6 then _ else _) = _
        simp only [isLate_r (by omega) hm6 hwh, endOf_r (by omega) hm6 hwh, wears_r (i := i) (by omega), Option.bind_some, b2i_0, bind_eta]
        have e9 : (if sLate (rv h) i = false then some ((0 : Int32), h) else some (1, h)) = some (b2i (sLate (rv h) i), h) := by cases sLate (rv h) i <;> rfl
        rw [e9]
      obtain ⟨k, hk, rfl⟩ := inR_of (n := 8) (by decide) hb
      match k, hk with
      | 0, _ => exact okV hI _ e6 (e7.trans (its0 (by omega)))
      | 1, _ => exact okV hI _ e6 (e7.trans (its1 (by omega)))
      | 2, _ => exact okV hI _ e6 (e7.trans (its2 (by omega)))
      | 3, _ => exact okV hI _ e6 (e7.trans (its3 (by omega)))
      | 4, _ => exact okV hI _ e6 (e7.trans (its4 (by omega)))
      | 5, _ => exact okV hI _ e6 (e7.trans (its5 (by omega)))
      | 6, _ => exact okV hI _ e6 e7
      | 7, _ => exact okV hI _ e6 e7
      | 8, _ => exact okV hI _ e6 e7
theorem op_as (a b : Int32) (hI : Inv h) : Okc (f_X6_as a b) (f_X7_as a b) h := by
  obtain ⟨⟨n, m, d, l, i1, i2, i3⟩, -⟩ := id hI
  cases ha : isA a n with
  | false =>
    refine okF hI 0 (by decide) ?_ (fun c => ?_)
    · unfold f_X6_as
      rw [hasHandle_c i1 i3, ha]
      show g_X6_as_18 h = _
      unfold g_X6_as_18
      rw [bind_eta, fc1]
    · unfold f_X7_as
      rw [isOne_r (h := (c, h.2)) i1, ha]
      show g_X7_as_15 (c, h.2) = _
      unfold g_X7_as_15
      rw [bind_eta, fc1]
  | true =>
    cases hb : inR b 0 5 with
    | false =>
      refine okF hI 0 (by decide) ?_ (fun c => ?_)
      · unfold f_X6_as
        rw [hasHandle_c i1 i3, ha]
        show (f_X6_isKind b h).bind _ = _
        rw [isKind_c, hb]
        show g_X6_as_18 h = _
        unfold g_X6_as_18
        rw [bind_eta, fc1]
      · unfold f_X7_as
        rw [isOne_r (h := (c, h.2)) i1, ha]
        show (f_X7_isKind b (c, h.2)).bind _ = _
        rw [isKind_r, hb]
        show g_X7_as_15 (c, h.2) = _
        unfold g_X7_as_15
        rw [bind_eta, fc1]
    | true =>
      obtain ⟨i, hi, rfl⟩ := isA_t (by have := i1.1; omega) ha
      have hn8 := i1.1
      have hwh := i1.2.2.2.2.2.2.2.2.1 i hi
      have hh := i3.hd hi
      have hK := as_kind b (hd (rv h) i 0) hb hwh.kind
      have e6 : f_X6_as (nI i) b h = if (decide (b = 0) || decide (b = hd (rv h) i 0) || (decide (b = 1) && decide (hd (rv h) i 0 = 4)) || (decide (b = 2) && decide (hd (rv h) i 0 = 5))) = true then some (hd (rv h) i 3, h) else f_X6_tell (fcode 2) h := by
        unfold f_X6_as
        rw [hasHandle_c i1 i3, ha]
        show (f_X6_isKind b h).bind _ = _
        rw [isKind_c, hb]
        show (am_ix (nI i) 8).bind _ = _
        rw [ix_nI (by omega) (by decide)]
        show (f_X0_isOfKind (8 * 0 + i) b h).bind _ = _
        rw [isOfKind_c (hh 0 (by decide)), hK]
        show (if b2i _ = 0 then _ else _) = _
        rw [b2i_c, bind_eta, fc3]
        show (if _ then some (h.1.1 0 (8 * 0 + i) 3, h) else _) = _
        rw [hh 3 (by decide)]
      have e7 : ∀ c, f_X7_as (nI i) b (c, h.2) = if (decide (b = 0) || decide (b = hd (rv h) i 0) || (decide (b = 1) && decide (hd (rv h) i 0 = 4)) || (decide (b = 2) && decide (hd (rv h) i 0 = 5))) = true then some (hd (rv h) i 3, (c, h.2)) else f_X7_finds (fcode 2) (c, h.2) := by
        intro c
        unfold f_X7_as
        rw [isOne_r (h := (c, h.2)) i1, ha]
        show (f_X7_isKind b (c, h.2)).bind _ = _
        rw [isKind_r, hb]
        show (f_X7_its (nI i) 0 (c, h.2)).bind _ = _
        rw [its0 (by omega)]
        have e63 : g_X7_as_63 (nI i) 1 (c, h.2) = some (hd (rv h) i 3, (c, h.2)) := by
          unfold g_X7_as_63
          rw [if_neg (by decide), its3 (by omega)]
          rfl
        have e60 : g_X7_as_63 (nI i) 0 (c, h.2) = f_X7_finds (fcode 2) (c, h.2) := by
          unfold g_X7_as_63
          rw [if_pos rfl, bind_eta, fc3]
        show (if b = 0 then g_X7_as_63 (nI i) 1 (c, h.2) else if b = hd (rv h) i 0 then g_X7_as_63 (nI i) 1 (c, h.2) else if b = 1 then (if hd (rv h) i 0 = 4 then g_X7_as_63 (nI i) 1 (c, h.2) else g_X7_as_48 (nI i) b (hd (rv h) i 0) (c, h.2)) else g_X7_as_48 (nI i) b (hd (rv h) i 0) (c, h.2)) = _
        unfold g_X7_as_48
        rw [e63, e60]
        generalize hd (rv h) i 0 = kd
        by_cases q0 : b = 0
        · simp [q0]
        · by_cases q1 : b = kd
          · simp [q1]
          · by_cases q2 : b = 1
            · subst q2
              by_cases q3 : kd = 4
              · simp [q3]
              · simp [q3, q1]
            · by_cases q3 : b = 2
              · subst q3
                by_cases q4 : kd = 5
                · simp [q4]
                · simp [q4, q1]
              · simp [q0, q1, q2, q3]
      by_cases q : (decide (b = 0) || decide (b = hd (rv h) i 0) || (decide (b = 1) && decide (hd (rv h) i 0 = 4)) || (decide (b = 2) && decide (hd (rv h) i 0 = 5))) = true
      · exact okV hI _ (e6.trans (if_pos q)) ((e7 h.1).trans (if_pos q))
      · exact okF hI 2 (by decide) (e6.trans (if_neg q)) (fun c => (e7 c).trans (if_neg q))
theorem op_leads (a b : Int32) (hI : Inv h) : Okc (f_X6_leads a b) (f_X7_leads a b) h := by
  obtain ⟨⟨n, m, d, l, i1, i2, i3⟩, -⟩ := id hI
  cases ha : isA a n with
  | false =>
    refine okF hI 0 (by decide) ?_ (fun c => ?_)
    · unfold f_X6_leads
      rw [hasHandle_c i1 i3, ha]
      show g_X6_leads_18 h = _
      unfold g_X6_leads_18
      rw [bind_eta, fc1]
    · unfold f_X7_leads
      rw [isOne_r (h := (c, h.2)) i1, ha]
      show g_X7_leads_15 (c, h.2) = _
      unfold g_X7_leads_15
      rw [bind_eta, fc1]
  | true =>
    cases hb : inR b 0 15 with
    | false =>
      refine okF hI 0 (by decide) ?_ (fun c => ?_)
      · unfold f_X6_leads
        rw [hasHandle_c i1 i3, ha]
        show (f_X6_isRoom b h).bind _ = _
        rw [isRoom_c, hb]
        show g_X6_leads_18 h = _
        unfold g_X6_leads_18
        rw [bind_eta, fc1]
      · unfold f_X7_leads
        rw [isOne_r (h := (c, h.2)) i1, ha]
        show (f_X7_isRoom b (c, h.2)).bind _ = _
        rw [isRoom_r, hb]
        show g_X7_leads_15 (c, h.2) = _
        unfold g_X7_leads_15
        rw [bind_eta, fc1]
    | true =>
      obtain ⟨i, hi, rfl⟩ := isA_t (by have := i1.1; omega) ha
      have hn8 := i1.1
      have hwh := i1.2.2.2.2.2.2.2.2.1 i hi
      have e6 : f_X6_leads (nI i) b h = if sOpens (rv h) i b = true then some (sLead (rv h) i b, h) else f_X6_tell (fcode 3) h := by
        unfold f_X6_leads
        rw [hasHandle_c i1 i3, ha]
        show (f_X6_isRoom b h).bind _ = _
        rw [isRoom_c, hb]
        show (f_X1_opensIn 0 (nI i) b h).bind _ = _
        rw [opensIn_c i1 i3 hi]
        show (if b2i _ = 0 then _ else _) = _
        rw [b2i_c, bind_eta, bind_eta, fc4, ledToL_c i1 i3 hi]
      have e7 : ∀ c, f_X7_leads (nI i) b (c, h.2) = if sOpens (rv h) i b = true then some (sLead (rv h) i b, (c, h.2)) else f_X7_finds (fcode 3) (c, h.2) := by
        intro c
        unfold f_X7_leads
        rw [isOne_r (h := (c, h.2)) i1, ha]
        show (f_X7_isRoom b (c, h.2)).bind _ = _
        rw [isRoom_r, hb]
        show (f_X7_opens (nI i) b (c, h.2)).bind _ = _
        rw [opens_r (h := (c, h.2)) (i := i) (by omega) i1.2.1 hwh]
        show (if b2i _ = 0 then _ else _) = _
        rw [b2i_c, bind_eta, bind_eta, fc4, leadsTo_r (h := (c, h.2)) (i := i) (by omega) i1.2.1 hwh]
        rfl
      by_cases q : sOpens (rv h) i b = true
      · exact okV hI _ (e6.trans (if_pos q)) ((e7 h.1).trans (if_pos q))
      · exact okF hI 3 (by decide) (e6.trans (if_neg q)) (fun c => (e7 c).trans (if_neg q))
end READS
