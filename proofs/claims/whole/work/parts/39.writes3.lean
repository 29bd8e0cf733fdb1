/-! PURE: members, backs, uses -/
section WRITES3
variable {h : HP} {n m d l : Nat}
def addmN (N : Nat → Int32) (m : Nat) (x0 : Int32) : Nat → Int32 := upn (upn (upn N (52 + 2 * m + 0) x0) (52 + 2 * m + 1) 0) 3 (nI m + 1)
theorem addMember_c {N : Nat → Int32} {j : Nat} (hj : j < 2) (hW : WF N n m d l) (hL : LC h j n m N) (hm : m < 6) (x0 : Int32) : ∃ hc, f_X1_addMember j x0 h = some (nI m, hc) ∧ Rest h hc ∧ hc.2 = h.2 ∧ LC hc j n (m + 1) (addmN N m x0) := by
  have e3 : h.1.1 1 j 5 = nI m := hL.2.2.2.1.trans hW.2.2.2.2.2.2.2.1
  have eq1 : h_rI (h_wI h 2 (6 * j + m) 0 x0) 1 j 5 = nI m := by
    simp only [wI_2, rI_1, up_c (show ¬ 1 = 2 by decide)]
    exact e3
  have eq2 : h_rI (h_wI (h_wI h 2 (6 * j + m) 0 x0) 2 (6 * j + m) 1 0) 1 j 5 = nI m := by
    simp only [wI_2, rI_1, up_c (show ¬ 1 = 2 by decide)]
    exact e3
  refine ⟨h_wI (h_wI (h_wI h 2 (6 * j + m) 0 x0) 2 (6 * j + m) 1 0) 1 j 5 (nI m + 1), ?_, ?_, rfl, ?_⟩
  · unfold f_X1_addMember
    rw [rI_1, e3, ix6 hm]
    simp only [Option.bind_some, eq1, ix6 hm, eq2]
    have : ∀ g : HP, h_rI (h_wI g 1 j 5 (nI m + 1)) 1 j 5 - 1 = nI m := fun g => by
      rw [rI_1, wI_1]
      dsimp only
      rw [up_s, nI_pm1]
    rw [this]
  · exact ((Rest.w2 (by omega)).trans (Rest.w2 (by omega))).trans (Rest.w1 hj)
  · exact lc_w1 (lc_addm hL hW.1) (by omega)
theorem addMember_r (hW : WF (rv h) n m d l) (hm : m < 6) (x0 : Int32) : ∃ h2, f_X7_addMember x0 h = some h2 ∧ Rest h h2 ∧ h2.1 = h.1 ∧ rv h2 = addmN (rv h) m x0 := by
  have e2 : rv h 3 = nI m := hW.2.2.2.2.2.2.2.1
  have eN : rv (h_wI (h_wI h 13 0 (52 + 2 * m + 0) x0) 13 0 (52 + 2 * m + 1) 0) = upn (upn (rv h) (52 + 2 * m + 0) x0) (52 + 2 * m + 1) 0 := by
    rw [rv_w, rv_w]
  refine ⟨h_wI (h_wI (h_wI h 13 0 (52 + 2 * m + 0) x0) 13 0 (52 + 2 * m + 1) 0) 13 0 3 (nI m + 1), ?_, ?_, rfl, ?_⟩
  · unfold f_X7_addMember
    rw [ix64_3]
    simp -implicitDefEqProofs only [Option.bind_some, b0t, b0f, if_true, if_false, ite_true, ite_false, bind_eta, bind_etaV, rv_c, rv_3, e2]
    rw [show (52 + (2 * nI m)) + (1 : Int32) = nI (52 + 2 * m + 1) from imb m 1, imb0, ix_nI (show 52 + 2 * m + 0 < 64 by omega) (by decide), ix_nI (show 52 + 2 * m + 1 < 64 by omega) (by decide)]
    simp -implicitDefEqProofs only [Option.bind_some, b0t, b0f, if_true, if_false, ite_true, ite_false, bind_eta, bind_etaV, rv_c, ix64_3, rv_3, eN]
    iterate 2 rw [upn_n (by omega)]
    rw [e2]
  · exact ((Rest.w13 (Or.inl rfl)).trans (Rest.w13 (Or.inl rfl))).trans (Rest.w13 (Or.inl rfl))
  · rw [rv_w, eN]
    rfl
theorem WF.addm {N : Nat → Int32} {x0 : Int32} (hW : WF N n m d l) (hm : m < 6) (k0 : ∃ k, k < 16 ∧ x0 = nI k) : WF (addmN N m x0) n (m + 1) d l := by
  obtain ⟨w1, w2, w3, w4, w5, w6, w7, w8, w9, w10⟩ := hW
  have lo : ∀ p, p < 4 → ¬ p = 3 → addmN N m x0 p = N p := by
    intro p hp hp2
    unfold addmN
    rw [upn_n hp2]
    iterate 2 rw [upn_n (by omega)]
  refine ⟨w1, by omega, by rw [lo 0 (by decide) (by decide)]; exact w3, w4, by rw [lo 1 (by decide) (by decide)]; exact w5, w6, by rw [lo 2 (by decide) (by decide)]; exact w7, ?_, fun i hi => ?_, fun i hi => ?_⟩
  · unfold addmN
    rw [upn_s, nI_1]
  · have eh : ∀ k, k < 6 → hd (addmN N m x0) i k = hd N i k := by
      intro k hk
      unfold addmN
      rw [hd_lo (by decide), hd_mb (by omega) hk, hd_mb (by omega) hk]
    have := wfh_mem (m' := m + 1) (by omega) (w9 i hi)
    unfold WFh at *
    rw [eh 0 (by decide), eh 1 (by decide), eh 2 (by decide), eh 3 (by decide), eh 4 (by decide), eh 5 (by decide)]
    exact this
  · by_cases q : i = m
    · subst q
      have e0 : mb (addmN N i x0) i 0 = x0 := by
        unfold addmN
        rw [mb_lo (by decide), mb_n (by decide) (by decide) (by omega)]
        exact mb_s
      have e1 : mb (addmN N i x0) i 1 = 0 := by
        unfold addmN
        rw [mb_lo (by decide)]
        exact mb_s
      unfold WFm
      rw [e0, e1]
      exact ⟨k0, 0, by decide, rfl⟩
    · have em : ∀ k, k < 2 → mb (addmN N m x0) i k = mb N i k := by
        intro k hk
        unfold addmN
        rw [mb_lo (by decide), mb_n (by decide) hk (by omega), mb_n (by decide) hk (by omega)]
      have := w10 i (by omega)
      unfold WFm at *
      rw [em 0 (by decide), em 1 (by decide)]
      exact this
theorem nI_ne {a b : Nat} (ha : a < 2 ^ 31) (hb : b < 2 ^ 31) (h : ¬ a = b) : ¬ nI a = nI b := fun z => by
  have := congrArg Int32.toInt z
  rw [nI_toInt ha, nI_toInt hb] at this
  omega
theorem op_member (a : Int32) (hI : Inv h) : Okc (f_X6_member a) (f_X7_member a) h := by
  obtain ⟨⟨n, m, d, l, i1, i2, i3⟩, -⟩ := id hI
  have hm6 := i1.2.1
  cases ha : inR a 0 15 with
  | false => exact okF hI 0 (by decide) (by simp -implicitDefEqProofs only [Option.bind_some, b0t, b0f, if_true, if_false, ite_true, ite_false, bind_eta, bind_etaV, rv_c, f_X6_member, isRoom_c, ha, fc1]) (fun c => by simp -implicitDefEqProofs only [Option.bind_some, b0t, b0f, if_true, if_false, ite_true, ite_false, bind_eta, bind_etaV, rv_c, f_X7_member, isRoom_r, ha, fc1])
  | true =>
    have e3 : h.1.1 1 0 5 = nI m := i3.2.2.2.1.trans i1.2.2.2.2.2.2.2.1
    have e2 : rv h 3 = nI m := i1.2.2.2.2.2.2.2.1
    by_cases q : m = 6
    · subst q
      refine okF hI 1 (by decide) ?_ (fun c => ?_)
      · simp -implicitDefEqProofs only [Option.bind_some, b0t, b0f, if_true, if_false, ite_true, ite_false, bind_eta, bind_etaV, rv_c, f_X6_member, isRoom_c, ha, f_X1_hasPlaceForMember, rI_1, e3, fc2]
        rw [if_pos (show (6 : Int32) ≤ nI 6 by decide)]
        simp -implicitDefEqProofs only [Option.bind_some, b0t, b0f, if_true, if_false, ite_true, ite_false, bind_eta, bind_etaV, rv_c, if_pos (show (0 : Int32) = 0 from rfl)]
      · simp -implicitDefEqProofs only [Option.bind_some, b0t, b0f, if_true, if_false, ite_true, ite_false, bind_eta, bind_etaV, rv_c, f_X7_member, isRoom_r, ha, ix64_3, rv_3, e2, fc2]
        rw [if_pos (show nI 6 = (6 : Int32) from rfl)]
    · have hm : m < 6 := by omega
      obtain ⟨k0, hk0, rfl⟩ := inR_of (n := 15) (by decide) ha
      obtain ⟨c1, c2, c3, c4, c5⟩ := addMember_c (by decide) i1 i3 hm (nI k0)
      have i1' : WF (rv c1) n m d l := by
        unfold rv
        rw [c4]
        exact i1
      obtain ⟨r1, r2, r3, r4, r5⟩ := addMember_r i1' hm (nI k0)
      have er : rv c1 = rv h := by
        unfold rv
        rw [c4]
      rw [er] at r5
      refine okW hI (nI m) c1 r1 _ ?_ ?_ c3 r3 r4 r5 c5 (i1.addm hm ⟨k0, by omega, rfl⟩) i2
      · simp -implicitDefEqProofs only [Option.bind_some, b0t, b0f, if_true, if_false, ite_true, ite_false, bind_eta, bind_etaV, rv_c, f_X6_member, isRoom_c, ha, f_X1_hasPlaceForMember, rI_1, e3]
        rw [if_neg (show ¬ (6 : Int32) ≤ nI m from nI_le_i (n := 6) (by omega) (by decide) hm)]
        simp -implicitDefEqProofs only [Option.bind_some, b0t, b0f, if_true, if_false, ite_true, ite_false, bind_eta, bind_etaV, rv_c, if_neg (show ¬ (1 : Int32) = 0 by decide), c2]
      · simp -implicitDefEqProofs only [Option.bind_some, b0t, b0f, if_true, if_false, ite_true, ite_false, bind_eta, bind_etaV, rv_c, f_X7_member, isRoom_r, ha, ix64_3, rv_3, er, e2]
        rw [if_neg (show ¬ nI m = (6 : Int32) from nI_ne (b := 6) (by omega) (by decide) q)]
        simp -implicitDefEqProofs only [Option.bind_some, b0t, b0f, if_true, if_false, ite_true, ite_false, bind_eta, bind_etaV, rv_c, r2, rv_3, r5]
        unfold addmN
        rw [upn_s, nI_pm1]
/-- a handle's loan is rewritten: member x4, days x5 -/
theorem WF.loan {N : Nat → Int32} {x4 x5 : Int32} {i : Nat} (hW : WF N n m d l) (hi : i < n) (hx : (x4 = -1 ∧ x5 = 0) ∨ ∃ p, p < m ∧ x4 = nI p ∧ ∃ o, o ≤ d ∧ x5 = nI o) : WF (upn (upn N (4 + 6 * i + 4) x4) (4 + 6 * i + 5) x5) n m d l := by
  obtain ⟨w1, w2, w3, w4, w5, w6, w7, w8, w9, w10⟩ := hW
  have lo : ∀ p, p < 4 → upn (upn N (4 + 6 * i + 4) x4) (4 + 6 * i + 5) x5 p = N p := by
    intro p hp
    iterate 2 rw [upn_n (by omega)]
  refine ⟨w1, w2, by rw [lo 0 (by decide)]; exact w3, w4, by rw [lo 1 (by decide)]; exact w5, w6, by rw [lo 2 (by decide)]; exact w7, by rw [lo 3 (by decide)]; exact w8, fun i' hi' => ?_, fun i' hi' => ?_⟩
  · by_cases q : i' = i
    · subst q
      obtain ⟨v1, v2, v3, v4, v5⟩ := w9 i' hi'
      unfold WFh
      rw [hd_n (by decide) (by decide) (by omega), hd_n (by decide) (by decide) (by omega), hd_n (by decide) (by decide) (by omega), hd_n (by decide) (by decide) (by omega), hd_n (by decide) (by decide) (by omega), hd_n (by decide) (by decide) (by omega), hd_n (by decide) (by decide) (by omega), hd_n (by decide) (by decide) (by omega), hd_n (i' := i') (k' := 4) (by decide) (by decide) (by omega), hd_s, hd_s]
      exact ⟨v1, v2, v3, v4, hx⟩
    · have eh : ∀ k, k < 6 → hd (upn (upn N (4 + 6 * i + 4) x4) (4 + 6 * i + 5) x5) i' k = hd N i' k := by
        intro k hk
        rw [hd_n (by decide) hk (fun z => q z.1), hd_n (by decide) hk (fun z => q z.1)]
      have := w9 i' hi'
      unfold WFh at *
      rw [eh 0 (by decide), eh 1 (by decide), eh 2 (by decide), eh 3 (by decide), eh 4 (by decide), eh 5 (by decide)]
      exact this
  · have := w10 i' hi'
    unfold WFm at *
    rw [mb_hd (by omega) (by decide), mb_hd (by omega) (by decide), mb_hd (by omega) (by decide), mb_hd (by omega) (by decide)]
    exact this
theorem lends_r {i : Nat} (hi : i < 8) (h : HP) (v : Int32) : f_X7_lends (nI i) v h = some (h_wI (h_wI h 13 0 (4 + 6 * i + 4) v) 13 0 (4 + 6 * i + 5) 0) := by
  unfold f_X7_lends
  simp -implicitDefEqProofs only [Option.bind_some, b0t, b0f, if_true, if_false, ite_true, ite_false, bind_eta, bind_etaV, rv_c, puts4 hi, puts5 hi]
theorem op_back (a : Int32) (hI : Inv h) : Okc (f_X6_back a) (f_X7_back a) h := by
  obtain ⟨⟨n, m, d, l, i1, i2, i3⟩, -⟩ := id hI
  have g1 := hasHandle_c i1 i3
  have g2 := fun c => isOne_r (h := (c, h.2)) i1
  have hn8 := i1.1
  cases ha : isA a n with
  | false => exact okF hI 0 (by decide) (by simp -implicitDefEqProofs only [Option.bind_some, b0t, b0f, if_true, if_false, ite_true, ite_false, bind_eta, bind_etaV, rv_c, f_X6_back, g1, ha, fc1]) (fun c => by simp -implicitDefEqProofs only [Option.bind_some, b0t, b0f, if_true, if_false, ite_true, ite_false, bind_eta, bind_etaV, rv_c, f_X7_back, g2, ha, fc1])
  | true =>
    have ha' := ha
    obtain ⟨i, hi, rfl⟩ := isA_t (by omega) ha
    have h8 : i < 8 := by omega
    by_cases q : hd (rv h) i 4 = -1
    · refine okF hI 4 (by decide) ?_ (fun c => ?_)
      · simp -implicitDefEqProofs only [Option.bind_some, b0t, b0f, if_true, if_false, ite_true, ite_false, bind_eta, bind_etaV, rv_c, f_X6_back, g1, ha', ix8 h8, isLent_c (i3.hd hi 4 (by decide)), q, decide_true, Bool.not_true, fc5]
      · simp -implicitDefEqProofs only [Option.bind_some, b0t, b0f, if_true, if_false, ite_true, ite_false, bind_eta, bind_etaV, rv_c, f_X7_back, g2, ha', its4 h8, q, fc5]
    · refine okW hI (hd (rv h) i 5) (h_wI (h_wI h 0 (8 * 0 + i) 4 (-1)) 0 (8 * 0 + i) 5 0) (h_wI (h_wI (h_wI (h_wI h 0 (8 * 0 + i) 4 (-1)) 0 (8 * 0 + i) 5 0) 13 0 (4 + 6 * i + 4) (-1)) 13 0 (4 + 6 * i + 5) 0) _ ?_ ?_ ((Rest.w0 (by omega)).trans (Rest.w0 (by omega))) ((Rest.w13 (Or.inl rfl)).trans (Rest.w13 (Or.inl rfl))) rfl ((rv_w _ _ _).trans (congrArg (fun z => upn z _ _) (rv_w _ _ _))) (lc_w0 (lc_w0 i3 hn8 hi (by decide)) hn8 hi (by decide)) (i1.loan hi (Or.inl ⟨rfl, rfl⟩)) i2
      · simp -implicitDefEqProofs only [Option.bind_some, b0t, b0f, if_true, if_false, ite_true, ite_false, bind_eta, bind_etaV, rv_c, f_X6_back, g1, ha', ix8 h8, isLent_c (i3.hd hi 4 (by decide)), decide_eq_false q, Bool.not_false, rI_0, i3.hd hi 5 (by decide)]
      · simp only [wI_0]
        simp -implicitDefEqProofs only [Option.bind_some, b0t, b0f, if_true, if_false, ite_true, ite_false, bind_eta, bind_etaV, rv_c, f_X7_back, g2, ha', its4 h8, its5 h8, if_neg q, lends_r h8]
end WRITES3
