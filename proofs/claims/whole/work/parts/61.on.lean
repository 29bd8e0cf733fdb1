/-! PURE: on -/
section ON
variable {h : HP}
theorem inR01 {b : Int32} (hb : inR b 0 1 = true) : b = 0 ∨ b = 1 := by
  obtain ⟨k, hk, rfl⟩ := inR_of (n := 1) (by decide) hb
  match k, hk with
  | 0, _ => exact Or.inl rfl
  | 1, _ => exact Or.inr rfl
theorem op_on (a b c : Int32) (hI : Inv h) : Okc (f_X6_on a b c) (f_X7_on a b c) h := by
  obtain ⟨⟨n, m, d, l, i1, i2, i3⟩, -⟩ := id hI
  have g1 := hasMember_c i1 i3
  have g2 := fun c => isMember_r (h := (c, h.2)) i1
  have hm6 := i1.2.1
  have hn8 := i1.1
  cases ha : isA a m with
  | false => exact okF hI 0 (by decide) (by simp -implicitDefEqProofs only [Option.bind_some, b0t, b0f, if_true, if_false, ite_true, ite_false, bind_eta, bind_etaV, rv_c, f_X6_on, g_X6_on_29, g1, ha, fc1]) (fun c => by simp -implicitDefEqProofs only [Option.bind_some, b0t, b0f, if_true, if_false, ite_true, ite_false, bind_eta, bind_etaV, rv_c, f_X7_on, g_X7_on_27, g2, ha, fc1])
  | true =>
    cases hb : inR b 0 60 with
    | false => exact okF hI 0 (by decide) (by simp -implicitDefEqProofs only [Option.bind_some, b0t, b0f, if_true, if_false, ite_true, ite_false, bind_eta, bind_etaV, rv_c, f_X6_on, g_X6_on_29, g1, ha, isUpTo_c, hb, fc1]) (fun c => by simp -implicitDefEqProofs only [Option.bind_some, b0t, b0f, if_true, if_false, ite_true, ite_false, bind_eta, bind_etaV, rv_c, f_X7_on, g_X7_on_27, g2, ha, in_ok, hb, fc1])
    | true =>
      cases hc : inR c 0 1 with
      | false =>
        refine okF hI 0 (by decide) ?_ (fun c => by simp -implicitDefEqProofs only [Option.bind_some, b0t, b0f, if_true, if_false, ite_true, ite_false, bind_eta, bind_etaV, rv_c, f_X7_on, g_X7_on_27, g2, ha, in_ok, hb, hc, fc1])
        unfold inR at hc
        by_cases p : c < 0
        · simp -implicitDefEqProofs only [Option.bind_some, b0t, b0f, if_true, if_false, ite_true, ite_false, bind_eta, bind_etaV, rv_c, f_X6_on, g_X6_on_29, g1, ha, isUpTo_c, hb, if_pos p, fc1]
        · rw [decide_eq_false p] at hc
          have p2 : ¬ c ≤ 1 := by
            intro q
            rw [decide_eq_false (Int32.not_lt.mpr q)] at hc
            cases hc
          simp -implicitDefEqProofs only [Option.bind_some, b0t, b0f, if_true, if_false, ite_true, ite_false, bind_eta, bind_etaV, rv_c, f_X6_on, g_X6_on_29, g1, ha, isUpTo_c, hb, if_neg p, if_neg p2, fc1]
      | true =>
        have ha' := ha
        obtain ⟨p, hp, rfl⟩ := isA_t (by omega) ha
        obtain ⟨T, hT, rfl⟩ := inR_of (n := 60) (by decide) hb
        have h6 : p < 6 := by omega
        have hWd := i1.day (T := T) (by omega)
        rcases inR01 hc with rfl | rfl
        · obtain ⟨x1, a1, a2, a3⟩ := mv_to (r := 2) (Or.inl rfl) h
          have ex : rv x1 = rv h := rvFR a2
          obtain ⟨x2, b1, b2, b3⟩ := passes_r (h := x1) (n := n) (m := m) (d := d) (l := l) (T := T) (by rw [ex]; exact i1) (by omega)
          obtain ⟨r, r1, r2, r3, r4⟩ := back_r a2 a3 b2
          have eV : mb (rv x2) p 1 = nI (min 9999 (fN (rv h) p + due (rv h) n l T p (oN (rv h)))) := by
            rw [b3, ex]
            unfold dayR
            rw [mb_mk1 hn8 hp]
            rfl
          refine ⟨nI (min 9999 (fN (rv h) p + due (rv h) n l T p (oN (rv h)))), h, r, ?_, ?_, inv_backR hI r2 r3 r4⟩
          · simp -implicitDefEqProofs only [Option.bind_some, b0t, b0f, if_true, if_false, ite_true, ite_false, bind_eta, bind_etaV, rv_c, f_X6_on, g1, ha', isUpTo_c, hb, if_neg (show ¬ (0 : Int32) < 0 by decide), if_pos (show (0 : Int32) ≤ 1 by decide), rI_1, i3.2.1, i1.2.2.2.2.1, finesAhead_c i1 i3 hp (show T ≤ 100 by omega) i1.2.2.2.2.2.1]
          · have g3 := isMember_r i1
            simp -implicitDefEqProofs only [Option.bind_some, b0t, b0f, if_true, if_false, ite_true, ite_false, bind_eta, bind_etaV, rv_c, f_X7_on, g_X7_on_66, g3, ha', in_ok, hb, hc, a1, b1, whose1 h6, eV, r1]
        · obtain ⟨s, hs, es⟩ := (i1.2.2.2.2.2.2.2.2.2 p hp).1
          obtain ⟨x, c1, c2, c3⟩ := becomes_c (a := 1) (by decide) i1 i3
          obtain ⟨g, d1, d2, d3⟩ := goOn_c i1 c3 (T := T) (by omega)
          have hF : FB 1 h g := c2.trans d2
          have ed : mb (dayR (rv h) n m d l T) p 0 = nI s := (mb_mk0 hn8).trans es
          have eg : rv g = rv h := by unfold rv; rw [hF.1]
          obtain ⟨x1, a1, a2, a3⟩ := mv_to (r := 2) (Or.inl rfl) g
          have ex : rv x1 = rv h := (rvFR a2).trans eg
          obtain ⟨x2, b1, b2, b3⟩ := passes_r (h := x1) (n := n) (m := m) (d := d) (l := l) (T := T) (by rw [ex]; exact i1) (by omega)
          rw [ex] at b3
          obtain ⟨r, r1, r2, r3, r4⟩ := back_r a2 a3 b2
          refine ⟨nI (sq (dayR (rv h) n m d l T) n (nI p) s 15), g, r, ?_, ?_, ?_⟩
          · simp -implicitDefEqProofs only [Option.bind_some, b0t, b0f, if_true, if_false, ite_true, ite_false, bind_eta, bind_etaV, rv_c, f_X6_on, g1, ha', isUpTo_c, hb, if_neg (show ¬ (1 : Int32) < 0 by decide), if_pos (show (1 : Int32) ≤ 1 by decide), if_neg (show ¬ (1 : Int32) = 0 by decide), c1, d1, reachOf_c hWd d3 hp hs ed]
          · have g3 : f_X7_isMember (nI p) g = some (b2i (isA (nI p) m), g) := isMember_r (n := n) (m := m) (d := d) (l := l) (by rw [eg]; exact i1) (nI p)
            have rr : f_X7_reachOf (nI p) x2 = some (nI (sq (dayR (rv h) n m d l T) n (nI p) s 15), x2) := by
              rw [reachOf_r (h := x2) (n := n) (m := m) (d := d + T) (l := l) (by rw [b3]; exact hWd) h6 hs (by rw [b3]; exact ed), b3]
            simp -implicitDefEqProofs only [Option.bind_some, b0t, b0f, if_true, if_false, ite_true, ite_false, bind_eta, bind_etaV, rv_c, f_X7_on, g_X7_on_66, g3, ha', in_ok, hb, hc, a1, b1, if_neg (show ¬ (1 : Int32) = 0 by decide), rr, r1]
          · refine inv_back hI ((hF.rest (by decide)).trans r2) (fun n m N hn hm hL => LC.ref (hF.lc (by decide) hn hm hL) r3) (fun k hk => ?_)
            rw [r4 k hk, eg]
end ON
