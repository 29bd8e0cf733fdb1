/-! PURE: what would be: late, uses -/
section WHATIF
variable {h : HP}
theorem okF2 {F6 F7 : HP → Option (Int32 × HP)} {hc : HP} (k : Nat) (hk : k < 7) (e6 : F6 h = f_X6_tell (fcode k) hc) (e7 : ∀ c, ∃ r, F7 (c, hc.2) = f_X7_finds (fcode k) (c, r) ∧ Inv (hc.1, r)) : Okc F6 F7 h := by
  obtain ⟨r, r1, r2⟩ := e7 (am_up hc.1.1 11 1 k (hc.1.1 11 1 k + 1), hc.1.2)
  refine ⟨fcode k, _, _, e6.trans (tell_ok hk hc), ?_, inv_find r2 hk⟩
  rw [finds_ok hk] at r1
  exact r1
theorem inv_back {r : HP} (hI : Inv h) (hR : Rest h r) (hL : ∀ n m N, n ≤ 8 → m ≤ 6 → LC h 0 n m N → LC r 0 n m N) (e : ∀ k, k < 64 → rv r k = rv h k) : Inv r := by
  obtain ⟨⟨n, m, d, l, i1, i2, i3⟩, -⟩ := id hI
  exact hI.rest hR ⟨n, m, d, l, i1.agree e, i2, (hL n m _ i1.1 i1.2.1 i3).agree i1.1 i1.2.1 e⟩
theorem inv_backR {r : HP} (hI : Inv h) (hR : Rest h r) (e1 : r.1 = h.1) (e : ∀ k, k < 64 → rv r k = rv h k) : Inv r := inv_back hI hR (fun _ _ _ _ _ hL => LC.ref hL e1) e
/-- saved, changed, brought back -/
theorem back_r {g1 g2 : HP} (a2 : FR 2 h g1) (a3 : ∀ k, k < 64 → g1.2.1 13 2 k = rv h k) (b2 : FR 0 g1 g2) : ∃ r, f_X7_moveAll 0 2 g2 = some r ∧ Rest h r ∧ r.1 = h.1 ∧ ∀ k, k < 64 → rv r k = rv h k := by
  obtain ⟨r, r1, r2, r3⟩ := mv_from (r := 2) (Or.inl rfl) g2
  refine ⟨r, r1, ((a2.rest (Or.inr rfl)).trans (b2.rest (Or.inl rfl))).trans (r2.rest (Or.inl rfl)), (r2.1.trans b2.1).trans a2.1, fun k hk => ?_⟩
  rw [r3 k hk, b2.row (by omega)]
  exact a3 k hk
theorem rvFR {g : HP} (a2 : FR 2 h g) : rv g = rv h := a2.row (by omega)
theorem late_lp {N : Nat → Int32} {n m d l i S : Nat} (hW : WF N n m d l) (hd9 : d ≤ 9999) (hi : i < n) (hS : S ≤ 61) (hno : ∀ s, s < S → sLate (dayR N n m d l s) i = false) (hyes : S = 61 ∨ sLate (dayR N n m d l S) i = true) : ∀ (k f s : Nat) (g : HP), s + k = S → k < f → rv g = dayR N n m d l s → ∃ g', g_X7_late_26 f (nI i) (nI s) g = g_X7_late_50 (nI S) g' ∧ FR 0 g g'
  | 0, f, s, g, h1, h2, e => by
    obtain ⟨f, rfl⟩ : ∃ z, f = z + 1 := ⟨f - 1, by omega⟩
    have : s = S := by omega
    subst this
    refine ⟨g, ?_, FR.rfl' 0 g⟩
    rw [g_X7_late_26]
    by_cases q : s = 61
    · subst q
      rw [if_pos (by decide)]
    · rw [if_neg (show ¬ (60 : Int32) < nI s from fun z => q (by have := (nI_ltI (a := 60) (by decide) (by omega)).mp z; omega))]
      have hn8 := hW.1
      have hw := (hW.day (T := s) (by omega)).2.2.2.2.2.2.2.2.1 i hi
      rw [isLate_r (m := m) (d := d + s) (by omega) hW.2.1 (by rw [e]; exact hw), e]
      rcases hyes with y | y
      · exact absurd y q
      · rw [y]
        rfl
  | k + 1, f, s, g, h1, h2, e => by
    obtain ⟨f, rfl⟩ : ∃ z, f = z + 1 := ⟨f - 1, by omega⟩
    have hn8 := hW.1
    have h4 := hW.2.2.2.1
    have hw := (hW.day (T := s) (by omega)).2.2.2.2.2.2.2.2.1 i hi
    obtain ⟨g1, a1, a2, a3⟩ := oneDay_r (h := g) hW.dn (s := s) (dd := d) (o := oN N) (fi := fN N) e (by omega) (fun i hi => by have := (oN_nI hW hi).2; omega)
    obtain ⟨g', b1, b2⟩ := late_lp hW hd9 hi hS hno hyes k f (s + 1) g1 (by omega) (by omega) a3
    refine ⟨g', ?_, a2.trans b2⟩
    rw [g_X7_late_26, if_neg (show ¬ (60 : Int32) < nI s from fun z => by have := (nI_ltI (a := 60) (by decide) (by omega)).mp z; omega), isLate_r (m := m) (d := d + s) (by omega) hW.2.1 (by rw [e]; exact hw), e, hno s (by omega)]
    show (f_X7_oneDay g).bind _ = _
    rw [a1, nI_1]
    exact b1
theorem sLate_day {N : Nat → Int32} {n m d l i s : Nat} (hW : WF N n m d l) (hd9 : d ≤ 9999) (hs : s ≤ 61) (hi : i < n) : sLate (dayR N n m d l s) i = (!decide (hd N i 4 = -1) && decide (l < oN N i + s)) := by
  have hn8 := hW.1
  have h4 := hW.2.2.2.1
  have hl := hW.2.2.2.2.2.1
  have ho := oN_nI hW hi
  unfold sLate dayR
  rw [hd_mk (by omega) (by decide), hd_mk5 hi, mkR_p (by decide) (by decide), hW.2.2.2.2.1]
  by_cases q : hd N i 4 = -1
  · rw [decide_eq_true q]
    rfl
  · rw [decide_eq_false q]
    unfold oS
    rw [if_neg q]
    by_cases z : l < oN N i + s
    · rw [decide_eq_true z, decide_eq_false (fun y => by have := (nI_leI (by omega) (by omega)).mp y; omega)]
      rfl
    · rw [decide_eq_false z, decide_eq_true ((nI_leI (by omega) (by omega)).mpr (by omega))]
      rfl
theorem op_late (a : Int32) (hI : Inv h) : Okc (f_X6_late a) (f_X7_late a) h := by
  obtain ⟨⟨n, m, d, l, i1, i2, i3⟩, -⟩ := id hI
  have g1 := hasHandle_c i1 i3
  have g2 := fun c => isOne_r (h := (c, h.2)) i1
  have hn8 := i1.1
  have hl := i1.2.2.2.2.2.1
  cases ha : isA a n with
  | false => exact okF hI 0 (by decide) (by simp -implicitDefEqProofs only [Option.bind_some, b0t, b0f, if_true, if_false, ite_true, ite_false, bind_eta, bind_etaV, rv_c, f_X6_late, g1, ha, fc1]) (fun c => by simp -implicitDefEqProofs only [Option.bind_some, b0t, b0f, if_true, if_false, ite_true, ite_false, bind_eta, bind_etaV, rv_c, f_X7_late, g2, ha, fc1])
  | true =>
    have ha' := ha
    obtain ⟨i, hi, rfl⟩ := isA_t (by omega) ha
    have h8 : i < 8 := by omega
    have ho := oN_nI i1 hi
    have hW' := fun c => (i1 : WF (rv (c, h.2)) n m d l)
    by_cases q : hd (rv h) i 4 = -1
    · refine okF2 (hc := h) 3 (by decide) ?_ (fun c => ?_)
      · simp -implicitDefEqProofs only [Option.bind_some, b0t, b0f, if_true, if_false, ite_true, ite_false, bind_eta, bind_etaV, rv_c, f_X6_late, g_X6_late_64, g1, ha', ix8 h8, f_J9_max_7cf53, isLent_c (i3.hd hi 4 (by decide)), decide_eq_true q, Bool.not_true, fc4]
      · obtain ⟨x1, a1, a2, a3⟩ := mv_to (r := 2) (Or.inl rfl) (c, h.2)
        have ex : rv x1 = rv h := rvFR (h := (c, h.2)) a2
        obtain ⟨x2, b1, b2⟩ := late_lp (S := 61) i1 i2 hi (by omega) (fun s hs => by rw [sLate_day i1 i2 (by omega) hi, decide_eq_true q]; rfl) (Or.inl rfl) 61 am_fu 0 x1 (by omega) (fu_lt (by omega)) (ex.trans (dayR_0 i1).symm)
        obtain ⟨r, r1, r2, r3, r4⟩ := back_r a2 a3 b2
        refine ⟨r.2, ?_, ?_⟩
        · simp -implicitDefEqProofs only [Option.bind_some, b0t, b0f, if_true, if_false, ite_true, ite_false, bind_eta, bind_etaV, rv_c, f_X7_late, g2, ha', a1]
          refine b1.trans ?_
          unfold g_X7_late_50
          rw [r1, Option.bind_some, if_neg (by decide), bind_eta, fc4]
          show f_X7_finds (fcode 3) (r.1, r.2) = _
          rw [r3]
        · have e0 : ((h.1, r.2) : HP).2 = r.2 := rfl
          obtain ⟨y1, y2, y3, y4, y5, y6, y7, y8, y9, y10, y11, y12, y13, y14, y15, y16⟩ := r2
          exact inv_backR hI ⟨rfl, rfl, fun _ _ => rfl, fun _ _ => rfl, rfl, rfl, rfl, rfl, y9, y10, y11, y12, y13, y14, y15, y16⟩ rfl r4
    · have hS : l + 1 - oN (rv h) i ≤ 31 := by omega
      obtain ⟨x1, a1, a2, a3⟩ := mv_to (r := 2) (Or.inl rfl) h
      have ex : rv x1 = rv h := rvFR a2
      obtain ⟨x2, b1, b2⟩ := late_lp (S := l + 1 - oN (rv h) i) i1 i2 hi (by omega) (fun s hs => by rw [sLate_day i1 i2 (by omega) hi, decide_eq_false (show ¬ l < oN (rv h) i + s by omega), Bool.and_false]) (Or.inr (by rw [sLate_day i1 i2 (by omega) hi, decide_eq_false q, decide_eq_true (show l < oN (rv h) i + (l + 1 - oN (rv h) i) by omega)]; rfl)) (l + 1 - oN (rv h) i) am_fu 0 x1 (by omega) (fu_lt (by omega)) (ex.trans (dayR_0 i1).symm)
      obtain ⟨r, r1, r2, r3, r4⟩ := back_r a2 a3 b2
      refine ⟨nI (l + 1 - oN (rv h) i), h, r, ?_, ?_, inv_backR hI r2 r3 r4⟩
      · have eM : (if (0 : Int32) < nI l - nI (oN (rv h) i) + 1 then nI l - nI (oN (rv h) i) + 1 else 0) = nI (l + 1 - oN (rv h) i) := by
          have h4 := i1.2.2.2.1
          by_cases z : oN (rv h) i ≤ l
          · rw [pk_sub z, nI_1, if_pos (show (0 : Int32) < nI (l - oN (rv h) i + 1) from (nI_ltI (a := 0) (by omega) (by omega)).mpr (by omega)), show l + 1 - oN (rv h) i = l - oN (rv h) i + 1 by omega]
          · rw [if_neg, show l + 1 - oN (rv h) i = 0 by omega]
            · rfl
            · rw [show nI l - nI (oN (rv h) i) + 1 = nI (l + 1) - nI (oN (rv h) i) by rw [← nI_1, Int32.sub_eq_add_neg, Int32.sub_eq_add_neg, Int32.add_assoc, Int32.add_comm _ 1, ← Int32.add_assoc]]
              intro y
              rw [Int32.lt_iff_toInt_lt, pk_sub_toInt (by omega) (by omega)] at y
              have : (0 : Int32).toInt = 0 := by decide
              omega
        simp -implicitDefEqProofs only [Option.bind_some, b0t, b0f, if_true, if_false, ite_true, ite_false, bind_eta, bind_etaV, rv_c, f_X6_late, g1, ha', ix8 h8, f_J9_max_7cf53, isLent_c (i3.hd hi 4 (by decide)), decide_eq_false q, Bool.not_false, rI_1, i3.2.1, i1.2.2.2.2.1, rI_0, i3.hd hi 5 (by decide), ho.1, eM]
        rw [if_neg (show ¬ (60 : Int32) < nI (l + 1 - oN (rv h) i) from fun z => by have := (nI_ltI (a := 60) (by decide) (by omega)).mp z; omega)]
      · have g3 := isOne_r i1
        simp -implicitDefEqProofs only [Option.bind_some, b0t, b0f, if_true, if_false, ite_true, ite_false, bind_eta, bind_etaV, rv_c, f_X7_late, g3, ha', a1]
        refine b1.trans ?_
        unfold g_X7_late_50
        rw [r1]
        show (if nI (l + 1 - oN (rv h) i) ≤ 60 then _ else _) = _
        rw [if_pos (show nI (l + 1 - oN (rv h) i) ≤ 60 from (nI_leI (b := 60) (by omega) (by decide)).mpr (by omega))]
end WHATIF
