/-! PURE: feed -/
section FEED
variable {h : HP}
def TT (x y : HP) (t : Nat) : Prop := x.1.1 4 0 1 = nI t ∧ y.2.1 7 0 4 = nI t ∧ ∀ k, k < t → x.1.1 11 0 k = y.2.1 13 3 k ∧ ∃ b, b < 256 ∧ y.2.1 13 3 k = nI b
def FX (x x' : HP) : Prop := x'.2 = x.2 ∧ x'.1.2 = x.1.2 ∧ (∀ c, ¬ c = 4 → ¬ c = 11 → x'.1.1 c = x.1.1 c) ∧ x'.1.1 11 1 = x.1.1 11 1
def FY (y y' : HP) : Prop := y'.1 = y.1 ∧ y'.2.2 = y.2.2 ∧ (∀ c j, ¬ c = 7 → ¬ (c = 13 ∧ j = 3) → y'.2.1 c j = y.2.1 c j) ∧ ∀ k, ¬ k = 4 → y'.2.1 7 0 k = y.2.1 7 0 k
theorem feed_lp (a : Int32) : ∀ (k f t : Nat) (x y : HP), t + k ≤ 120 → k < f → TT x y t → ∃ x' y', g_X6_feed_39 f a (nI k - 1) x = some (nI (t + k), x') ∧ FX x x' ∧ g_X7_feed_38 f a (nI k - 1) y = some (nI (t + k), y') ∧ FY y y' ∧ TT x' y' (t + k)
  | 0, f, t, x, y, h1, h2, hT => by
    obtain ⟨f, rfl⟩ : ∃ z, f = z + 1 := ⟨f - 1, by omega⟩
    obtain ⟨t1, t2, t3⟩ := id hT
    refine ⟨x, y, ?_, ⟨rfl, rfl, fun _ _ _ => rfl, rfl⟩, ?_, ⟨rfl, rfl, fun _ _ _ _ => rfl, fun _ _ => rfl⟩, hT⟩
    · rw [g_X6_feed_39, if_pos (by decide), rI_4, t1]
      rfl
    · rw [g_X7_feed_38, if_pos (by decide), rI_7, t2]
      rfl
  | k + 1, f, t, x, y, h1, h2, hT => by
    obtain ⟨f, rfl⟩ : ∃ z, f = z + 1 := ⟨f - 1, by omega⟩
    obtain ⟨t1, t2, t3⟩ := id hT
    have ht : t < 120 := by omega
    obtain ⟨v, hv, ev⟩ := pk_andE (a >>> ((8 * nI k) &&& 31)) (m := 255) 8 (by decide)
    have r4 : h_rI (h_wI x 11 0 t (nI v)) 4 0 1 = nI t := by
      rw [wI_11, rI_4]
      dsimp only
      rw [up_c (by decide)]
      exact t1
    have r7 : h_rI (h_wI y 13 3 t (nI v)) 7 0 4 = nI t := by
      rw [wI_13, rI_7]
      dsimp only
      rw [up_c (by decide)]
      exact t2
    have hT' : TT (h_wI (h_wI x 11 0 t (nI v)) 4 0 1 (nI (t + 1))) (h_wI (h_wI y 13 3 t (nI v)) 7 0 4 (nI (t + 1))) (t + 1) := by
      rw [wI_4, wI_11, wI_7, wI_13]
      refine ⟨?_, ?_, fun q hq => ?_⟩ <;> dsimp only
      · rw [up_s]
      · rw [up_s]
      · rw [up_c (show ¬ 11 = 4 by decide), up_c (show ¬ 13 = 7 by decide)]
        by_cases e : q = t
        · rw [e, up_s, up_s]
          exact ⟨rfl, v, hv, rfl⟩
        · rw [up_k e, up_k e]
          exact t3 q (by omega)
    obtain ⟨x', y', a1, a2, a3, a4, a5⟩ := feed_lp a k f (t + 1) _ _ (by omega) (by omega) hT'
    have ek : nI (k + 1) - 1 = nI k := nI_pred k
    have em : nI k + -1 = nI k - 1 := (Int32.sub_eq_add_neg _ _).symm
    have et : t + 1 + k = t + (k + 1) := by omega
    rw [et] at a1 a3 a5
    refine ⟨x', y', ?_, ?_, ?_, ?_, a5⟩
    · rw [ek, g_X6_feed_39, if_neg (nI_pos (by omega)), ev]
      unfold f_X4_add
      rw [rI_4, t1, ix_nI ht (by decide), Option.bind_some, r4, Option.bind_some, nI_1, em]
      exact a1
    · obtain ⟨b1, b2, b3, b4⟩ := a2
      rw [wI_4, wI_11] at b1 b2 b3 b4
      refine ⟨b1, b2, fun c q4 q11 => ?_, ?_⟩
      · rw [b3 c q4 q11]
        dsimp only
        rw [up_c q4, up_c q11]
      · rw [b4]
        dsimp only
        rw [up_c (by decide), up_j (by decide)]
    · rw [ek, g_X7_feed_38, if_neg (nI_pos (by omega)), ev, rI_7, t2, ix_nI ht (by decide), Option.bind_some, r7, nI_1, em]
      exact a3
    · obtain ⟨b1, b2, b3, b4⟩ := a4
      rw [wI_7, wI_13] at b1 b2 b3 b4
      refine ⟨b1, b2, fun c j q7 q13 => ?_, fun q hq => ?_⟩
      · rw [b3 c j q7 q13]
        dsimp only
        rw [up_c q7]
        funext q
        exact upx q13
      · rw [b4 q hq]
        dsimp only
        rw [up_k hq, up_c (by decide)]
theorem op_feed (a b : Int32) (hI : Inv h) : Okc (f_X6_feed a b) (f_X7_feed a b) h := by
  obtain ⟨iL, iI, iT, iS, iF⟩ := id hI
  obtain ⟨t, t1, t2, t3, t4⟩ := id iT
  cases ha : inR b 1 4 with
  | false =>
    refine okF hI 0 (by decide) ?_ (fun c => by simp -implicitDefEqProofs only [Option.bind_some, b0t, b0f, if_true, if_false, ite_true, ite_false, bind_eta, bind_etaV, rv_c, f_X7_feed, in_ok, ha, fc1])
    unfold inR at ha
    by_cases p : b < 1
    · simp -implicitDefEqProofs only [Option.bind_some, b0t, b0f, if_true, if_false, ite_true, ite_false, bind_eta, bind_etaV, rv_c, f_X6_feed, g_X6_feed_10, if_pos p, fc1]
    · rw [decide_eq_false p] at ha
      have p2 : ¬ b ≤ 4 := by
        intro q
        rw [decide_eq_false (Int32.not_lt.mpr q)] at ha
        cases ha
      simp -implicitDefEqProofs only [Option.bind_some, b0t, b0f, if_true, if_false, ite_true, ite_false, bind_eta, bind_etaV, rv_c, f_X6_feed, g_X6_feed_10, if_neg p, if_neg p2, fc1]
  | true =>
    have ha' := ha
    unfold inR at ha
    simp only [Bool.and_eq_true, Bool.not_eq_true', decide_eq_false_iff_not] at ha
    obtain ⟨p, q⟩ := ha
    have p0 : ¬ b < 0 := fun z => p (Int32.lt_trans z (by decide))
    have q' := Int32.not_lt.mp q
    obtain ⟨k, hk, rfl⟩ := nI_of2 (n := 4) (M := 4) (by decide) p0 q'
    by_cases z : t + k ≤ 120
    · have zI : nI t + nI k ≤ 120 := by rw [nI_add]; exact (nI_leI (b := 120) (by omega) (by decide)).mpr z
      have zN : ¬ (120 : Int32) < nI t + nI k := Int32.not_lt.mpr zI
      obtain ⟨x', y0, a1, a2, -, -, -⟩ := feed_lp a k am_fu t h h z (fu_lt (by omega)) ⟨t2, t3, t4⟩
      obtain ⟨x2, y', b1, -, b3, b4, b5⟩ := feed_lp a k am_fu t h x' z (fu_lt (by omega)) (by unfold TT; rw [a2.1]; exact ⟨t2, t3, t4⟩)
      rw [a1] at b1
      have hx2 : x' = x2 := congrArg Prod.snd (Option.some.inj b1)
      rw [← hx2] at b5
      obtain ⟨c1, c2, c3, c4⟩ := a2
      obtain ⟨d1, d2, d3, d4⟩ := b4
      refine ⟨nI (t + k), x', y', ?_, ?_, ?_⟩
      · simp -implicitDefEqProofs only [Option.bind_some, b0t, b0f, if_true, if_false, ite_true, ite_false, bind_eta, bind_etaV, rv_c, f_X6_feed, if_neg p, if_pos q', f_X4_hasPlaceFor, rI_4, t2, if_neg zN]
        rw [if_neg (by decide)]
        exact a1
      · have e7 : h_rI x' 7 0 4 = nI t := by
          show x'.2.1 7 0 4 = _
          rw [c1]
          exact t3
        simp -implicitDefEqProofs only [Option.bind_some, b0t, b0f, if_true, if_false, ite_true, ite_false, bind_eta, bind_etaV, rv_c, f_X7_feed, in_ok, ha', e7, if_pos zI]
        exact b3
      · have kC : ∀ c, ¬ c = 4 → ¬ c = 11 → y'.1.1 c = h.1.1 c := fun c w1 w2 => by rw [d1]; exact c3 c w1 w2
        have kR : ∀ c j, ¬ c = 7 → ¬ (c = 13 ∧ j = 3) → y'.2.1 c j = h.2.1 c j := fun c j w1 w2 => by rw [d3 c j w1 w2, c1]
        have k7 : ∀ w, ¬ w = 4 → y'.2.1 7 0 w = h.2.1 7 0 w := fun w hw => by rw [d4 w hw, c1]
        refine ⟨ilib_congr (kR 13 0 (by decide) (by omega)) (kC 1 (by decide) (by decide)) (kC 0 (by decide) (by decide)) (kC 2 (by decide) (by decide)) iL, iimg_congr (by rw [kC 6 (by decide) (by decide)]) (k7 17 (by decide)) (kR 13 6 (by decide) (by omega)) (kC 1 (by decide) (by decide)) (kC 0 (by decide) (by decide)) (kC 2 (by decide) (by decide)) iI, ⟨t + k, z, ?_, b5.2.1, ?_⟩, ishe_congr (kC 3 (by decide) (by decide)) (kR 13 4 (by decide) (by omega)) (kR 13 5 (by decide) (by omega)) (by rw [d1, c2]) (by rw [d2, c1]) iS, itol_congr (by rw [d1]; exact c4) (kR 13 1 (by decide) (by omega)) iF⟩
        · rw [d1]
          exact b5.1
        · rw [d1]
          exact b5.2.2
    · have zI : ¬ nI t + nI k ≤ 120 := by rw [nI_add]; exact fun w => z ((nI_leI (b := 120) (by omega) (by decide)).mp w)
      have zN : (120 : Int32) < nI t + nI k := Int32.not_le.mp zI
      refine okF hI 1 (by decide) ?_ (fun c => ?_)
      · simp -implicitDefEqProofs only [Option.bind_some, b0t, b0f, if_true, if_false, ite_true, ite_false, bind_eta, bind_etaV, rv_c, f_X6_feed, if_neg p, if_pos q', f_X4_hasPlaceFor, rI_4, t2, if_pos zN, fc2]
      · simp -implicitDefEqProofs only [Option.bind_some, b0t, b0f, if_true, if_false, ite_true, ite_false, bind_eta, bind_etaV, rv_c, f_X7_feed, in_ok, ha', rI_7, t3, if_neg zI, fc2]
end FEED
