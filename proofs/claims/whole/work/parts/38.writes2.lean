/-! PURE: more calls that change the library -/
section WRITES2
variable {h : HP} {n m d l : Nat}
theorem rvw0 (h : HP) (a k : Nat) (v : Int32) : rv (h_wI h 0 a k v) = rv h := rfl
theorem rvw1 (h : HP) (a k : Nat) (v : Int32) : rv (h_wI h 1 a k v) = rv h := rfl
theorem rvw2 (h : HP) (a k : Nat) (v : Int32) : rv (h_wI h 2 a k v) = rv h := rfl
theorem nI_pm1 (n : Nat) : nI n + 1 - 1 = nI n := by
  rw [Int32.add_sub_cancel]
/-- the class adds a handle -/
def addhN (N : Nat → Int32) (n : Nat) (x0 x1 x2 x3 : Int32) : Nat → Int32 := upn (upn (upn (upn (upn (upn (upn N (4 + 6 * n + 0) x0) (4 + 6 * n + 1) x1) (4 + 6 * n + 2) x2) (4 + 6 * n + 3) x3) (4 + 6 * n + 4) (-1)) (4 + 6 * n + 5) 0) 2 (nI n + 1)
theorem addHandle_c {N : Nat → Int32} {j : Nat} (hj : j < 2) (hW : WF N n m d l) (hL : LC h j n m N) (hn : n < 8) (x0 x1 x2 x3 : Int32) : ∃ hc, f_X1_addHandle j x0 x1 x2 x3 h = some (nI n, hc) ∧ Rest h hc ∧ hc.2 = h.2 ∧ LC hc j (n + 1) m (addhN N n x0 x1 x2 x3) := by
  have e3 : h.1.1 1 j 3 = nI n := hL.2.2.1.trans hW.2.2.2.2.2.2.1
  have eq : ∀ x4 x5, h_rI (h_wI (h_wI (h_wI (h_wI (h_wI (h_wI h 0 (8 * j + n) 0 x0) 0 (8 * j + n) 1 x1) 0 (8 * j + n) 2 x2) 0 (8 * j + n) 3 x3) 0 (8 * j + n) 4 x4) 0 (8 * j + n) 5 x5) 1 j 3 = nI n := by
    intro x4 x5
    simp only [wI_0, rI_1, up_c (show ¬ 1 = 0 by decide)]
    exact e3
  refine ⟨h_wI (h_wI (h_wI (h_wI (h_wI (h_wI (h_wI h 0 (8 * j + n) 0 x0) 0 (8 * j + n) 1 x1) 0 (8 * j + n) 2 x2) 0 (8 * j + n) 3 x3) 0 (8 * j + n) 4 (-1)) 0 (8 * j + n) 5 0) 1 j 3 (nI n + 1), ?_, ?_, rfl, ?_⟩
  · unfold f_X1_addHandle
    rw [rI_1, e3, ix8 hn]
    simp only [Option.bind_some, eq]
    have : ∀ g : HP, h_rI (h_wI g 1 j 3 (nI n + 1)) 1 j 3 - 1 = nI n := fun g => by
      rw [rI_1, wI_1]
      dsimp only
      rw [up_s, nI_pm1]
    rw [this]
  · exact ((((((Rest.w0 (by omega)).trans (Rest.w0 (by omega))).trans (Rest.w0 (by omega))).trans (Rest.w0 (by omega))).trans (Rest.w0 (by omega))).trans (Rest.w0 (by omega))).trans (Rest.w1 hj)
  · exact lc_w1 (lc_addh hL hn) (by omega)
theorem addHandle_r (hW : WF (rv h) n m d l) (hn : n < 8) (x0 x1 x2 x3 : Int32) : ∃ h2, f_X7_addHandle x0 x1 x2 x3 h = some h2 ∧ Rest h h2 ∧ h2.1 = h.1 ∧ rv h2 = addhN (rv h) n x0 x1 x2 x3 := by
  have e2 : rv h 2 = nI n := hW.2.2.2.2.2.2.1
  have eN : rv (h_wI (h_wI (h_wI (h_wI (h_wI (h_wI h 13 0 (4 + 6 * n + 0) x0) 13 0 (4 + 6 * n + 1) x1) 13 0 (4 + 6 * n + 2) x2) 13 0 (4 + 6 * n + 3) x3) 13 0 (4 + 6 * n + 4) (-1)) 13 0 (4 + 6 * n + 5) 0) = upn (upn (upn (upn (upn (upn (rv h) (4 + 6 * n + 0) x0) (4 + 6 * n + 1) x1) (4 + 6 * n + 2) x2) (4 + 6 * n + 3) x3) (4 + 6 * n + 4) (-1)) (4 + 6 * n + 5) 0 := by
    rw [rv_w, rv_w, rv_w, rv_w, rv_w, rv_w]
  refine ⟨h_wI (h_wI (h_wI (h_wI (h_wI (h_wI (h_wI h 13 0 (4 + 6 * n + 0) x0) 13 0 (4 + 6 * n + 1) x1) 13 0 (4 + 6 * n + 2) x2) 13 0 (4 + 6 * n + 3) x3) 13 0 (4 + 6 * n + 4) (-1)) 13 0 (4 + 6 * n + 5) 0) 13 0 2 (nI n + 1), ?_, ?_, rfl, ?_⟩
  · unfold f_X7_addHandle
    rw [ix64_2]
    simp -implicitDefEqProofs only [Option.bind_some, b0t, b0f, if_true, if_false, ite_true, ite_false, bind_eta, bind_etaV, rv_c, rv_2, e2, puts0 hn, puts1 hn, puts2 hn, puts3 hn, puts4 hn, puts5 hn, ix64_2, eN]
    iterate 6 rw [upn_n (by omega)]
    rw [e2]
  · exact ((((((Rest.w13 (Or.inl rfl)).trans (Rest.w13 (Or.inl rfl))).trans (Rest.w13 (Or.inl rfl))).trans (Rest.w13 (Or.inl rfl))).trans (Rest.w13 (Or.inl rfl))).trans (Rest.w13 (Or.inl rfl))).trans (Rest.w13 (Or.inl rfl))
  · rw [rv_w, eN]
    rfl
theorem hd6_o {N : Nat → Int32} {x0 x1 x2 x3 : Int32} {i k : Nat} (hk : k < 6) (h : ¬ i = n) : hd (addhN N n x0 x1 x2 x3) i k = hd N i k := by
  unfold addhN
  rw [hd_lo (by decide), hd_n (by decide) hk (fun z => h z.1), hd_n (by decide) hk (fun z => h z.1), hd_n (by decide) hk (fun z => h z.1), hd_n (by decide) hk (fun z => h z.1), hd_n (by decide) hk (fun z => h z.1), hd_n (by decide) hk (fun z => h z.1)]
theorem WF.addh {N : Nat → Int32} {x0 x1 x2 x3 : Int32} (hW : WF N n m d l) (hn : n < 8) (k0 : ∃ k, k < 6 ∧ x0 = nI k) (k1 : ∃ k, k < 16 ∧ x1 = nI k) (k2 : ∃ k, k < 16 ∧ x2 = nI k) (k3 : ∃ k, k ≤ 99 ∧ x3 = nI k) : WF (addhN N n x0 x1 x2 x3) (n + 1) m d l := by
  obtain ⟨w1, w2, w3, w4, w5, w6, w7, w8, w9, w10⟩ := hW
  have lo : ∀ p, p < 4 → ¬ p = 2 → addhN N n x0 x1 x2 x3 p = N p := by
    intro p hp hp2
    unfold addhN
    rw [upn_n hp2]
    iterate 6 rw [upn_n (by omega)]
  refine ⟨by omega, w2, by rw [lo 0 (by decide) (by decide)]; exact w3, w4, by rw [lo 1 (by decide) (by decide)]; exact w5, w6, ?_, by rw [lo 3 (by decide) (by decide)]; exact w8, fun i hi => ?_, fun i hi => ?_⟩
  · unfold addhN
    rw [upn_s, nI_1]
  · by_cases q : i = n
    · subst q
      have e0 : hd (addhN N i x0 x1 x2 x3) i 0 = x0 := by
        unfold addhN
        rw [hd_lo (by decide)]
        iterate 5 rw [hd_n (by decide) (by decide) (by omega)]
        exact hd_s
      have e1 : hd (addhN N i x0 x1 x2 x3) i 1 = x1 := by
        unfold addhN
        rw [hd_lo (by decide)]
        iterate 4 rw [hd_n (by decide) (by decide) (by omega)]
        exact hd_s
      have e2 : hd (addhN N i x0 x1 x2 x3) i 2 = x2 := by
        unfold addhN
        rw [hd_lo (by decide)]
        iterate 3 rw [hd_n (by decide) (by decide) (by omega)]
        exact hd_s
      have e3 : hd (addhN N i x0 x1 x2 x3) i 3 = x3 := by
        unfold addhN
        rw [hd_lo (by decide)]
        iterate 2 rw [hd_n (by decide) (by decide) (by omega)]
        exact hd_s
      have e4 : hd (addhN N i x0 x1 x2 x3) i 4 = -1 := by
        unfold addhN
        rw [hd_lo (by decide)]
        rw [hd_n (by decide) (by decide) (by omega)]
        exact hd_s
      have e5 : hd (addhN N i x0 x1 x2 x3) i 5 = 0 := by
        unfold addhN
        rw [hd_lo (by decide)]
        exact hd_s
      unfold WFh
      rw [e0, e1, e2, e3, e4, e5]
      exact ⟨k0, k1, k2, k3, Or.inl ⟨rfl, rfl⟩⟩
    · have := w9 i (by omega)
      unfold WFh at *
      rw [hd6_o (by decide) q, hd6_o (by decide) q, hd6_o (by decide) q, hd6_o (by decide) q, hd6_o (by decide) q, hd6_o (by decide) q]
      exact this
  · have := w10 i hi
    have em : ∀ k, mb (addhN N n x0 x1 x2 x3) i k = mb N i k := by
      intro k
      unfold addhN
      rw [mb_lo (by decide), mb_hd hn (by decide), mb_hd hn (by decide), mb_hd hn (by decide), mb_hd hn (by decide), mb_hd hn (by decide), mb_hd hn (by decide)]
    unfold WFm at *
    rw [em, em]
    exact this
theorem op_handle (a b c : Int32) (hI : Inv h) : Okc (f_X6_handle a b c) (f_X7_handle a b c) h := by
  obtain ⟨⟨n, m, d, l, i1, i2, i3⟩, -⟩ := id hI
  have hn8 := i1.1
  cases ha : inR a 0 5 with
  | false => exact okF hI 0 (by decide) (by simp -implicitDefEqProofs only [Option.bind_some, b0t, b0f, if_true, if_false, ite_true, ite_false, bind_eta, bind_etaV, rv_c, f_X6_handle, g_X6_handle_21, isKind_c, ha, fc1]) (fun c => by simp -implicitDefEqProofs only [Option.bind_some, b0t, b0f, if_true, if_false, ite_true, ite_false, bind_eta, bind_etaV, rv_c, f_X7_handle, g_X7_handle_21, isKind_r, ha, fc1])
  | true =>
    cases hb : inR b 0 15 with
    | false => exact okF hI 0 (by decide) (by simp -implicitDefEqProofs only [Option.bind_some, b0t, b0f, if_true, if_false, ite_true, ite_false, bind_eta, bind_etaV, rv_c, f_X6_handle, g_X6_handle_21, isKind_c, ha, isRoom_c, hb, fc1]) (fun c => by simp -implicitDefEqProofs only [Option.bind_some, b0t, b0f, if_true, if_false, ite_true, ite_false, bind_eta, bind_etaV, rv_c, f_X7_handle, g_X7_handle_21, isKind_r, ha, isRoom_r, hb, fc1])
    | true =>
      cases hc : inR c 0 15 with
      | false => exact okF hI 0 (by decide) (by simp -implicitDefEqProofs only [Option.bind_some, b0t, b0f, if_true, if_false, ite_true, ite_false, bind_eta, bind_etaV, rv_c, f_X6_handle, g_X6_handle_21, isKind_c, ha, isRoom_c, hb, hc, fc1]) (fun c => by simp -implicitDefEqProofs only [Option.bind_some, b0t, b0f, if_true, if_false, ite_true, ite_false, bind_eta, bind_etaV, rv_c, f_X7_handle, g_X7_handle_21, isKind_r, ha, isRoom_r, hb, hc, fc1])
      | true =>
        have e3 : h.1.1 1 0 3 = nI n := i3.2.2.1.trans i1.2.2.2.2.2.2.1
        have e2 : rv h 2 = nI n := i1.2.2.2.2.2.2.1
        by_cases q : n = 8
        · subst q
          refine okF hI 1 (by decide) ?_ (fun c => ?_)
          · simp -implicitDefEqProofs only [Option.bind_some, b0t, b0f, if_true, if_false, ite_true, ite_false, bind_eta, bind_etaV, rv_c, f_X6_handle, isKind_c, ha, isRoom_c, hb, hc, f_X1_hasPlaceForHandle, rI_1, e3, fc2]
            rw [if_pos (show (8 : Int32) ≤ nI 8 by decide)]
            simp -implicitDefEqProofs only [Option.bind_some, b0t, b0f, if_true, if_false, ite_true, ite_false, bind_eta, bind_etaV, rv_c, if_pos (show (0 : Int32) = 0 from rfl)]
          · simp -implicitDefEqProofs only [Option.bind_some, b0t, b0f, if_true, if_false, ite_true, ite_false, bind_eta, bind_etaV, rv_c, f_X7_handle, isKind_r, ha, isRoom_r, hb, hc, ix64_2, rv_2, e2, fc2]
            rw [if_pos (show nI 8 = (8 : Int32) from rfl)]
        · have hn : n < 8 := by omega
          obtain ⟨k0, hk0, rfl⟩ := inR_of (n := 5) (by decide) ha
          obtain ⟨k1, hk1, rfl⟩ := inR_of (n := 15) (by decide) hb
          obtain ⟨k2, hk2, rfl⟩ := inR_of (n := 15) (by decide) hc
          obtain ⟨c1, c2, c3, c4, c5⟩ := addHandle_c (by decide) i1 i3 hn (nI k0) (nI k1) (nI k2) 0
          have i1' : WF (rv c1) n m d l := by
            unfold rv
            rw [c4]
            exact i1
          obtain ⟨r1, r2, r3, r4, r5⟩ := addHandle_r i1' hn (nI k0) (nI k1) (nI k2) 0
          have er : rv c1 = rv h := by
            unfold rv
            rw [c4]
          rw [er] at r5
          refine okW hI (nI n) c1 r1 _ ?_ ?_ c3 r3 r4 r5 c5 (i1.addh hn ⟨k0, by omega, rfl⟩ ⟨k1, by omega, rfl⟩ ⟨k2, by omega, rfl⟩ ⟨0, by decide, rfl⟩) i2
          · simp -implicitDefEqProofs only [Option.bind_some, b0t, b0f, if_true, if_false, ite_true, ite_false, bind_eta, bind_etaV, rv_c, f_X6_handle, isKind_c, ha, isRoom_c, hb, hc, f_X1_hasPlaceForHandle, rI_1, e3]
            rw [if_neg (show ¬ (8 : Int32) ≤ nI n from nI_le_i (n := 8) (by omega) (by decide) hn)]
            simp -implicitDefEqProofs only [Option.bind_some, b0t, b0f, if_true, if_false, ite_true, ite_false, bind_eta, bind_etaV, rv_c, if_neg (show ¬ (1 : Int32) = 0 by decide), c2]
          · simp -implicitDefEqProofs only [Option.bind_some, b0t, b0f, if_true, if_false, ite_true, ite_false, bind_eta, bind_etaV, rv_c, f_X7_handle, isKind_r, ha, isRoom_r, hb, hc, ix64_2, rv_2, er, e2]
            rw [if_neg (show ¬ nI n = (8 : Int32) from fun z => by
              have := congrArg Int32.toInt z
              rw [nI_toInt (by omega)] at this
              have e8 : (8 : Int32).toInt = 8 := by decide
              omega)]
            simp -implicitDefEqProofs only [Option.bind_some, b0t, b0f, if_true, if_false, ite_true, ite_false, bind_eta, bind_etaV, rv_c, r2, rv_2, r5]
            unfold addhN
            rw [upn_s, nI_pm1]
end WRITES2
