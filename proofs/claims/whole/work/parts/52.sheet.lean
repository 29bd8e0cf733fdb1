/-! PURE: sheet -/
section SHEET
variable {h : HP}
theorem start_c {s : Nat} (hs : s < 4) (bits sz : Int32) (h : HP) : ∃ g, f_X3_start s bits sz h = some g ∧ g.2 = h.2 ∧ (∀ c, ¬ c = 3 → g.1.1 c = h.1.1 c) ∧ (∀ s', ¬ s' = s → g.1.1 3 s' = h.1.1 3 s') ∧ g.1.1 3 s 0 = bits ∧ g.1.1 3 s 1 = sz ∧ (∀ s', ¬ s' = s → g.1.2 12 s' = h.1.2 12 s') ∧ ∀ k, k < 40 → g.1.2 12 s k = 0 := by
  refine ⟨fo (fun i g => h_wJ g 12 s i 0) 40 0 (h_wI (h_wI h 3 s 0 bits) 3 s 1 sz), ?_, ?_⟩
  · unfold f_X3_start
    refine lp_up (g := fun n g x => g_X3_start_12 n s x g) (N := 40) (fin := fun g => some g) (fun n i g hi => ?_) (fun n g => ?_) 40 am_fu 0 _ (by decide) (fu_lt (by decide))
    · show g_X3_start_12 (n + 1) s (nI i) g = _
      rw [g_X3_start_12, if_neg (show ¬ (40 : Int32) ≤ nI i from nI_le_i (n := 40) (by omega) (by decide) hi), ix_nI hi (by decide), nI_1]
      rfl
    · rfl
  · have := fo_inv (step := fun i g => h_wJ g 12 s i 0) (P := fun t g => g.2 = h.2 ∧ (∀ c, ¬ c = 3 → g.1.1 c = h.1.1 c) ∧ (∀ s', ¬ s' = s → g.1.1 3 s' = h.1.1 3 s') ∧ g.1.1 3 s 0 = bits ∧ g.1.1 3 s 1 = sz ∧ (∀ s', ¬ s' = s → g.1.2 12 s' = h.1.2 12 s') ∧ ∀ k, k < t → g.1.2 12 s k = 0) (N := 40) (fun i g hi hP => ?_) 40 0 (h_wI (h_wI h 3 s 0 bits) 3 s 1 sz) (by decide) ?_
    · exact this
    · obtain ⟨p1, p2, p3, p4, p5, p6, p7⟩ := hP
      rw [wJ_12]
      refine ⟨p1, p2, p3, p4, p5, fun s' hs' => ?_, fun k hk => ?_⟩
      · dsimp only
        rw [up_j hs']
        exact p6 s' hs'
      · dsimp only
        by_cases e : k = i
        · rw [e, up_s]
        · rw [up_k e]
          exact p7 k (by omega)
    · rw [wI_3, wI_3]
      refine ⟨rfl, fun c hc => ?_, fun s' hs' => ?_, ?_, ?_, fun _ _ => rfl, fun k hk => absurd hk (by omega)⟩ <;> dsimp only
      · rw [up_c hc, up_c hc]
      · rw [up_j hs', up_j hs']
      · rw [up_k (by decide), up_s]
      · rw [up_s]
theorem clear_r {s : Nat} (hs : s < 4) (h : HP) : ∃ g, g_X7_sheet_86 am_fu (nI s) 0 h = some (g.2.1 13 5 s, g) ∧ g.1 = h.1 ∧ g.2.1 = h.2.1 ∧ (∀ s', s' < 4 → ¬ s' = s → ∀ k, k < 40 → g.2.2 14 0 (40 * s' + k) = h.2.2 14 0 (40 * s' + k)) ∧ ∀ k, k < 40 → g.2.2 14 0 (40 * s + k) = 0 := by
  refine ⟨fo (fun i g => h_wJ g 14 0 (40 * s + i) 0) 40 0 h, ?_, ?_⟩
  · refine lp_up (g := fun n g x => g_X7_sheet_86 n (nI s) x g) (N := 40) (fin := fun g => some (g.2.1 13 5 s, g)) (fun n i g hi => ?_) (fun n g => ?_) 40 am_fu 0 _ (by decide) (fu_lt (by decide))
    · show g_X7_sheet_86 (n + 1) (nI s) (nI i) g = _
      rw [g_X7_sheet_86, if_neg (show ¬ (40 : Int32) ≤ nI i from nI_le_i (n := 40) (by omega) (by decide) hi), ix160 hs hi, nI_1]
      rfl
    · show g_X7_sheet_86 (n + 1) (nI s) (nI 40) g = _
      rw [g_X7_sheet_86, if_pos (by decide), ix4 hs]
      rfl
  · have := fo_inv (step := fun i g => h_wJ g 14 0 (40 * s + i) 0) (P := fun t g => g.1 = h.1 ∧ g.2.1 = h.2.1 ∧ (∀ s', s' < 4 → ¬ s' = s → ∀ k, k < 40 → g.2.2 14 0 (40 * s' + k) = h.2.2 14 0 (40 * s' + k)) ∧ ∀ k, k < t → g.2.2 14 0 (40 * s + k) = 0) (N := 40) (fun i g hi hP => ?_) 40 0 h (by decide) ⟨rfl, rfl, fun _ _ _ _ _ => rfl, fun k hk => absurd hk (by omega)⟩
    · exact this
    · obtain ⟨p1, p2, p3, p4⟩ := hP
      rw [wJ_14]
      refine ⟨p1, p2, fun s' h4 hs' k hk => ?_, fun k hk => ?_⟩
      · dsimp only
        rw [up_k (by omega)]
        exact p3 s' h4 hs' k hk
      · dsimp only
        by_cases e : k = i
        · rw [e, up_s]
        · rw [up_k (by omega)]
          exact p4 k (by omega)
theorem sheet36 {s z : Nat} {bits v : Int32} (hI : Inv h) (hs : s < 4) (hb : bits = 0 ∨ bits = 8 ∨ bits = 16 ∨ bits = 64) (hz : z ≤ 40) (ev : (if bits = 0 then 0 else v) = nI z) (h0 : (0 : Int32) ≤ v) (h4 : v ≤ 40) : Okc (g_X6_sheet_36 (nI s) bits v) (g_X7_sheet_36 (nI s) bits v) h := by
  obtain ⟨iL, iI, iT, iS, iF⟩ := hI
  obtain ⟨g, a1, a2, a3, a4, a5, a6, a7, a8⟩ := start_c hs bits (nI z) h
  obtain ⟨r, b1, b2, b3, b4, b5⟩ := clear_r hs (h_wI (h_wI g 13 4 s bits) 13 5 s (nI z))
  have kR : ∀ c j, ¬ (c = 13 ∧ (j = 4 ∨ j = 5)) → r.2.1 c j = h.2.1 c j := fun c j hq => by
    rw [b3, wI_13, wI_13]
    dsimp only
    funext k
    rw [upx (fun y => hq ⟨y.1, Or.inr y.2⟩), upx (fun y => hq ⟨y.1, Or.inl y.2⟩), a2]
  have k4 : ∀ s', r.2.1 13 4 s' = if s' = s then bits else h.2.1 13 4 s' := fun s' => by
    rw [b3, wI_13, wI_13]
    dsimp only
    rw [up_j (by decide)]
    by_cases q : s' = s
    · rw [if_pos q, q, up_s]
    · rw [if_neg q, up_k q, a2]
  have k5 : ∀ s', r.2.1 13 5 s' = if s' = s then nI z else h.2.1 13 5 s' := fun s' => by
    rw [b3, wI_13, wI_13]
    dsimp only
    by_cases q : s' = s
    · rw [if_pos q, q, up_s]
    · rw [if_neg q, up_k q, up_j (by decide), a2]
  have kc : r.1 = g.1 := b2
  refine ⟨nI z, g, r, ?_, ?_, ?_⟩
  · unfold g_X6_sheet_36 g_X6_sheet_76
    rw [if_pos h0, if_pos h4, ix4 hs, Option.bind_some]
    by_cases q : bits = 0
    · rw [if_pos q]
      rw [if_pos q] at ev
      rw [ev, a1]
      show some (g.1.1 3 s 1, g) = _
      rw [a6]
    · rw [if_neg q]
      rw [if_neg q] at ev
      rw [ev, a1]
      show some (g.1.1 3 s 1, g) = _
      rw [a6]
  · unfold g_X7_sheet_36
    have e5 : r.2.1 13 5 s = nI z := by rw [k5, if_pos rfl]
    rw [e5] at b1
    rw [if_pos h0, if_pos h4, ix4 hs, Option.bind_some]
    by_cases q : bits = 0
    · rw [if_pos q, Option.bind_some]
      rw [if_pos q] at ev
      have hz0 : z = 0 := ((nI_eq (a := 0) (by decide) (by omega)).mp ev).symm
      subst hz0
      exact b1
    · rw [if_neg q, Option.bind_some]
      rw [if_neg q] at ev
      rw [ev]
      exact b1
  · refine ⟨ilib_congr (kR 13 0 (by omega)) (by rw [kc]; exact a3 1 (by decide)) (by rw [kc]; exact a3 0 (by decide)) (by rw [kc]; exact a3 2 (by decide)) iL, iimg_congr (by rw [kc, a3 6 (by decide)]) (by rw [kR 7 0 (by omega)]) (kR 13 6 (by omega)) (by rw [kc]; exact a3 1 (by decide)) (by rw [kc]; exact a3 0 (by decide)) (by rw [kc]; exact a3 2 (by decide)) iI, itap_congr (by rw [kc, a3 4 (by decide)]) (by rw [kR 7 0 (by omega)]) (kR 13 3 (by omega)) (by rw [kc, a3 11 (by decide)]) iT, fun s' hs' => ?_, itol_congr (by rw [kc, a3 11 (by decide)]) (kR 13 1 (by omega)) iF⟩
    rw [kc, k4, k5]
    by_cases q : s' = s
    · subst q
      rw [if_pos rfl, if_pos rfl]
      exact ⟨a5, a6, hb, ⟨z, hz, rfl⟩, fun k hk => (a8 k hk).trans (b5 k hk).symm⟩
    · rw [if_neg q, if_neg q, a4 s' q, a7 s' q]
      obtain ⟨c1, c2, c3, c4, c5⟩ := iS s' hs'
      refine ⟨c1, c2, c3, c4, fun k hk => (c5 k hk).trans ?_⟩
      rw [b4 s' hs' q k hk, wI_13, wI_13]
      show h.2.2 14 0 _ = g.2.2 14 0 _
      rw [a2]
theorem op_sheet (a b v : Int32) (hI : Inv h) : Okc (f_X6_sheet a b v) (f_X7_sheet a b v) h := by
  cases ha : inR a 0 3 with
  | false => exact okF hI 0 (by decide) (by simp -implicitDefEqProofs only [Option.bind_some, b0t, b0f, if_true, if_false, ite_true, ite_false, bind_eta, bind_etaV, rv_c, f_X6_sheet, g_X6_sheet_29, isSheet_c, ha, fc1]) (fun c => by simp -implicitDefEqProofs only [Option.bind_some, b0t, b0f, if_true, if_false, ite_true, ite_false, bind_eta, bind_etaV, rv_c, f_X7_sheet, g_X7_sheet_29, isSheet_r, ha, fc1])
  | true =>
    have ha' := ha
    obtain ⟨s, hs, rfl⟩ := inR_of (n := 3) (by decide) ha
    have hs4 : s < 4 := by omega
    by_cases hb : b = 0 ∨ b = 8 ∨ b = 16 ∨ b = 64
    · have e6 : f_X6_sheet (nI s) b v h = g_X6_sheet_36 (nI s) b v h := by
        simp -implicitDefEqProofs only [Option.bind_some, b0t, b0f, if_true, if_false, ite_true, ite_false, bind_eta, bind_etaV, rv_c, f_X6_sheet, isSheet_c, ha']
        rcases hb with q | q | q | q <;> subst q <;> rfl
      have e7 : ∀ g, f_X7_sheet (nI s) b v g = g_X7_sheet_36 (nI s) b v g := fun g => by
        simp -implicitDefEqProofs only [Option.bind_some, b0t, b0f, if_true, if_false, ite_true, ite_false, bind_eta, bind_etaV, rv_c, f_X7_sheet, isSheet_r, ha']
        rcases hb with q | q | q | q <;> subst q <;> rfl
      by_cases h0 : (0 : Int32) ≤ v
      · by_cases h4 : v ≤ 40
        · obtain ⟨z, hz, rfl⟩ := nI_of2 (n := 40) (M := 40) (by decide) (Int32.not_lt.mpr h0) h4
          obtain ⟨r, x, y, r1, r2, r3⟩ := sheet36 (z := if b = 0 then 0 else z) (v := nI z) hI hs4 hb (by by_cases q : b = 0 <;> simp [q] <;> omega) (by by_cases q : b = 0 <;> simp [q] <;> rfl) h0 h4
          exact ⟨r, x, y, e6.trans r1, (e7 x).trans r2, r3⟩
        · refine okF hI 0 (by decide) (e6.trans ?_) (fun c => (e7 _).trans ?_)
          · simp -implicitDefEqProofs only [Option.bind_some, b0t, b0f, if_true, if_false, ite_true, ite_false, bind_eta, bind_etaV, rv_c, g_X6_sheet_36, if_pos h0, if_neg h4, fc1]
          · simp -implicitDefEqProofs only [Option.bind_some, b0t, b0f, if_true, if_false, ite_true, ite_false, bind_eta, bind_etaV, rv_c, g_X7_sheet_36, if_pos h0, if_neg h4, fc1]
      · refine okF hI 6 (by decide) (e6.trans ?_) (fun c => (e7 _).trans ?_)
        · simp -implicitDefEqProofs only [Option.bind_some, b0t, b0f, if_true, if_false, ite_true, ite_false, bind_eta, bind_etaV, rv_c, g_X6_sheet_36, if_neg h0, fc7]
        · simp -implicitDefEqProofs only [Option.bind_some, b0t, b0f, if_true, if_false, ite_true, ite_false, bind_eta, bind_etaV, rv_c, g_X7_sheet_36, if_neg h0, fc7]
    · have n0 : ¬ b = 0 := fun z => hb (Or.inl z)
      have n8 : ¬ b = 8 := fun z => hb (Or.inr (Or.inl z))
      have n16 : ¬ b = 16 := fun z => hb (Or.inr (Or.inr (Or.inl z)))
      have n64 : ¬ b = 64 := fun z => hb (Or.inr (Or.inr (Or.inr z)))
      exact okF hI 0 (by decide) (by simp -implicitDefEqProofs only [Option.bind_some, b0t, b0f, if_true, if_false, ite_true, ite_false, bind_eta, bind_etaV, rv_c, f_X6_sheet, g_X6_sheet_29, isSheet_c, ha', if_neg n0, if_neg n8, if_neg n16, if_neg n64, fc1]) (fun c => by simp -implicitDefEqProofs only [Option.bind_some, b0t, b0f, if_true, if_false, ite_true, ite_false, bind_eta, bind_etaV, rv_c, f_X7_sheet, g_X7_sheet_29, isSheet_r, ha', if_neg n0, if_neg n8, if_neg n16, if_neg n64, fc1])
end SHEET
