/-! PURE: uses -/
section USES
variable {h : HP}
theorem WF.wear {N : Nat → Int32} {n m d l i : Nat} (hW : WF N n m d l) (hi : i < n) : WF (upn N (4 + 6 * i + 3) (sWear1 N i)) n m d l := by
  obtain ⟨v1, v2, v3, v4, v5⟩ := hW.2.2.2.2.2.2.2.2.1 i hi
  obtain ⟨w, hw, ew⟩ := sWear1_nI (hW.2.2.2.2.2.2.2.2.1 i hi)
  refine hW.uh hi (by decide) ⟨?_, ?_, ?_, ⟨w, hw, by rw [hd_s, ew]⟩, ?_⟩
  · rw [hd_n (by decide) (by decide) (by omega)]; exact v1
  · rw [hd_n (by decide) (by decide) (by omega)]; exact v2
  · rw [hd_n (by decide) (by decide) (by omega)]; exact v3
  · rw [hd_n (by decide) (by decide) (by omega), hd_n (by decide) (by decide) (by omega)]; exact v5
theorem uses_lp {n m d l i : Nat} (hi : i < n) (w0 : Int32) : ∀ (k f s : Nat) (N : Nat → Int32) (room : Int32) (x y : HP), s + k = 99 → k < f → WF N n m d l → LC x 1 n m N → rv y = N → ∃ v x' y', g_X6_uses_41 f (nI i) room (nI s) x = some (v, x') ∧ FB 1 x x' ∧ g_X7_uses_35 f (nI i) w0 room (nI s) y = g_X7_uses_72 (nI i) w0 v y' ∧ FR 0 y y' ∧ ∀ q, ¬ q = 4 + 6 * i + 3 → rv y' q = N q
  | 0, f, s, N, room, x, y, h1, h2, hW, hL, e => by
    obtain ⟨f, rfl⟩ : ∃ z, f = z + 1 := ⟨f - 1, by omega⟩
    have : s = 99 := by omega
    subst this
    refine ⟨nI 99, x, y, ?_, FB.rfl' 1 x, ?_, FR.rfl' 0 y, fun q _ => by rw [e]⟩
    · rw [g_X6_uses_41, if_pos (by decide)]
    · rw [g_X7_uses_35, if_pos (by decide)]
  | k + 1, f, s, N, room, x, y, h1, h2, hW, hL, e => by
    obtain ⟨f, rfl⟩ : ∃ z, f = z + 1 := ⟨f - 1, by omega⟩
    have hn8 := hW.1
    have h8 : i < 8 := by omega
    have hwh := hW.2.2.2.2.2.2.2.2.1 i hi
    have hwy : WFh (rv y) m d i := by rw [e]; exact hwh
    have n99 : ¬ (99 : Int32) ≤ nI s := nI_le_i (n := 99) (by omega) (by decide) (by omega)
    have e6 : g_X6_uses_41 (f + 1) (nI i) room (nI s) x = if sOpens N i room = true then g_X6_uses_41 f (nI i) (sLead N i room) (nI (s + 1)) (h_wI x 0 (8 * 1 + i) 3 (sWear1 N i)) else some (nI s, x) := by
      rw [g_X6_uses_41, if_neg n99, opensIn_c hW hL hi, nI_1]
      show (if b2i _ = 0 then _ else _) = _
      rw [b2i_c, ledToL_c hW hL hi, Option.bind_some, ix8 h8, Option.bind_some, rI_1, hL.1, wearOnce_c hL hi]
      rfl
    have e7 : g_X7_uses_35 (f + 1) (nI i) w0 room (nI s) y = if sOpens N i room = true then g_X7_uses_35 f (nI i) w0 (sLead N i room) (nI (s + 1)) (h_wI y 13 0 (4 + 6 * i + 3) (sWear1 N i)) else g_X7_uses_72 (nI i) w0 (nI s) y := by
      rw [g_X7_uses_35, if_neg n99, opens_r (h := y) (i := i) h8 hW.2.1 hwy, nI_1, e]
      show (if b2i _ = 0 then _ else _) = _
      rw [b2i_c, leadsTo_r (h := y) (i := i) h8 hW.2.1 hwy, Option.bind_some, wearsBy_r hwy h8, e]
      rfl
    by_cases q : sOpens N i room = true
    · rw [if_pos q] at e6 e7
      obtain ⟨v, x', y', a1, a2, a3, a4, a5⟩ := uses_lp hi w0 k f (s + 1) (upn N (4 + 6 * i + 3) (sWear1 N i)) (sLead N i room) (h_wI x 0 (8 * 1 + i) 3 (sWear1 N i)) (h_wI y 13 0 (4 + 6 * i + 3) (sWear1 N i)) (by omega) (by omega) (hW.wear hi) (lc_w0 hL hn8 hi (by decide)) (by rw [rv_w, e])
      exact ⟨v, x', y', e6.trans a1, (FB.w0 x h8 3 _).trans a2, e7.trans a3, (FR.w0 y _ _).trans a4, fun z hz => (a5 z hz).trans (upn_n hz)⟩
    · rw [if_neg q] at e6 e7
      exact ⟨nI s, x, y, e6, FB.rfl' 1 x, e7, FR.rfl' 0 y, fun z _ => by rw [e]⟩
theorem op_uses (a b : Int32) (hI : Inv h) : Okc (f_X6_uses a b) (f_X7_uses a b) h := by
  obtain ⟨⟨n, m, d, l, i1, i2, i3⟩, -⟩ := id hI
  have g1 := hasHandle_c i1 i3
  have g2 := fun c => isOne_r (h := (c, h.2)) i1
  have hn8 := i1.1
  cases ha : isA a n with
  | false => exact okF hI 0 (by decide) (by simp -implicitDefEqProofs only [Option.bind_some, b0t, b0f, if_true, if_false, ite_true, ite_false, bind_eta, bind_etaV, rv_c, f_X6_uses, g_X6_uses_18, g1, ha, fc1]) (fun c => by simp -implicitDefEqProofs only [Option.bind_some, b0t, b0f, if_true, if_false, ite_true, ite_false, bind_eta, bind_etaV, rv_c, f_X7_uses, g_X7_uses_15, g2, ha, fc1])
  | true =>
    cases hb : inR b 0 15 with
    | false => exact okF hI 0 (by decide) (by simp -implicitDefEqProofs only [Option.bind_some, b0t, b0f, if_true, if_false, ite_true, ite_false, bind_eta, bind_etaV, rv_c, f_X6_uses, g_X6_uses_18, g1, ha, isRoom_c, hb, fc1]) (fun c => by simp -implicitDefEqProofs only [Option.bind_some, b0t, b0f, if_true, if_false, ite_true, ite_false, bind_eta, bind_etaV, rv_c, f_X7_uses, g_X7_uses_15, g2, ha, isRoom_r, hb, fc1])
    | true =>
      have ha' := ha
      obtain ⟨i, hi, rfl⟩ := isA_t (by omega) ha
      have h8 : i < 8 := by omega
      obtain ⟨x, c1, c2, c3⟩ := becomes_c (a := 1) (by decide) i1 i3
      have ex : rv x = rv h := by unfold rv; rw [c2.1]
      obtain ⟨v, x', y0, a1, a2, -, -, -⟩ := uses_lp hi (hd (rv h) i 3) 99 am_fu 0 (rv h) b x h (by omega) (fu_lt (by omega)) i1 c3 rfl
      have a12 : FB 1 h x' := c2.trans a2
      have ex' : rv x' = rv h := by unfold rv; rw [a12.1]
      obtain ⟨v', x'', y', b1, -, b3, b4, b5⟩ := uses_lp hi (hd (rv h) i 3) 99 am_fu 0 (rv h) b x x' (by omega) (fu_lt (by omega)) i1 c3 ex'
      have hv : v' = v := by
        rw [a1] at b1
        exact (congrArg Prod.fst (Option.some.inj b1)).symm
      rw [hv] at b3
      refine ⟨v, x', h_wI y' 13 0 (4 + 6 * i + 3) (hd (rv h) i 3), ?_, ?_, ?_⟩
      · simp -implicitDefEqProofs only [Option.bind_some, b0t, b0f, if_true, if_false, ite_true, ite_false, bind_eta, bind_etaV, rv_c, f_X6_uses, g1, ha', isRoom_c, hb, c1]
        exact a1
      · have g3 : f_X7_isOne (nI i) x' = some (b2i (isA (nI i) n), x') := isOne_r (n := n) (m := m) (d := d) (l := l) (by rw [ex']; exact i1) (nI i)
        simp -implicitDefEqProofs only [Option.bind_some, b0t, b0f, if_true, if_false, ite_true, ite_false, bind_eta, bind_etaV, rv_c, f_X7_uses, g3, ha', isRoom_r, hb, its3 h8, ex']
        refine b3.trans ?_
        unfold g_X7_uses_72
        simp -implicitDefEqProofs only [Option.bind_some, b0t, b0f, if_true, if_false, ite_true, ite_false, bind_eta, bind_etaV, rv_c, puts3 h8]
      · refine inv_back hI ((a12.rest (by decide)).trans ((b4.rest (Or.inl rfl)).trans (Rest.w13 (Or.inl rfl)))) (fun n m N hn hm hL => ?_) (fun k hk => ?_)
        · exact LC.ref (a12.lc (by decide) hn hm hL) b4.1
        · rw [rv_w]
          by_cases z : k = 4 + 6 * i + 3
          · subst z
            rw [upn_s]
            rfl
          · rw [upn_n z, b5 k z]
end USES
