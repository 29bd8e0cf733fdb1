/-! PURE: the best kind -/
theorem upn_upn {N : Nat → Int32} {p : Nat} {v w : Int32} : upn (upn N p v) p w = upn N p w := by
  funext q
  by_cases e : q = p
  · rw [e, upn_s, upn_s]
  · rw [upn_n e, upn_n e, upn_n e]
def kdF (V : Nat → Nat) : Nat → Nat → Nat → Nat → Nat
  | 0, _, b, _ => b
  | c + 1, k, b, w => if V k ≤ w then kdF V c (k + 1) b w else kdF V c (k + 1) k (V k)
section KIND
variable {h : HP} {N : Nat → Int32} {n m d l : Nat}
theorem WF.kinds {i k : Nat} (hW : WF N n m d l) (hi : i < n) (hk : k < 6) : WF (upn N (4 + 6 * i + 0) (nI k)) n m d l := by
  obtain ⟨w1, w2, w3, w4, w5⟩ := hW.2.2.2.2.2.2.2.2.1 i hi
  refine hW.uh hi (by decide) ⟨⟨k, hk, hd_s⟩, ?_, ?_, ?_, ?_⟩
  · rw [hd_n (by decide) (by decide) (by omega)]; exact w2
  · rw [hd_n (by decide) (by decide) (by omega)]; exact w3
  · rw [hd_n (by decide) (by decide) (by omega)]; exact w4
  · rw [hd_n (by decide) (by decide) (by omega), hd_n (by decide) (by decide) (by omega)]; exact w5
def kdV (N : Nat → Int32) (n i p s k : Nat) : Nat := np (sq (upn N (4 + 6 * i + 0) (nI k)) n (nI p) s 15)
theorem kdV_pos {i p s k : Nat} (hW : WF N n m d l) (hi : i < n) (hs : s < 16) (hk : k < 6) : 0 < kdV N n i p s k := by
  have hl := sq_lt (p := nI p) (hW.kinds hi hk) hs 15
  have h0 : ¬ sq (upn N (4 + 6 * i + 0) (nI k)) n (nI p) s 15 = 0 := fun e => by
    have := sq_self (N := upn N (4 + 6 * i + 0) (nI k)) (n := n) (p := nI p) (s := s) 15
    rw [e, Nat.zero_testBit] at this
    cases this
  have := np_step hl h0
  unfold kdV
  omega
theorem kind_c1 {i p s k f : Nat} {x : HP} {v best most : Int32} (hW : WF N n m d l) (hi : i < n) (hp : p < m) (hs : s < 16) (es : mb N p 0 = nI s) (hk : k < 6) (hL : LC x 1 n m (upn N (4 + 6 * i + 0) v)) : LC (h_wI x 0 (8 * 1 + i) 0 (nI k)) 1 n m (upn N (4 + 6 * i + 0) (nI k)) ∧ g_X6_kind_67 (f + 1) (nI p) (nI i) best most (nI k) x = if nI (kdV N n i p s k) ≤ most then g_X6_kind_67 f (nI p) (nI i) best most (nI (k + 1)) (h_wI x 0 (8 * 1 + i) 0 (nI k)) else g_X6_kind_67 f (nI p) (nI i) (nI k) (nI (kdV N n i p s k)) (nI (k + 1)) (h_wI x 0 (8 * 1 + i) 0 (nI k)) := by
  have hn8 := hW.1
  have hL2 : LC (h_wI x 0 (8 * 1 + i) 0 (nI k)) 1 n m (upn N (4 + 6 * i + 0) (nI k)) := by
    have := lc_w0 (k := 0) (v := nI k) hL hn8 hi (by decide)
    rw [upn_upn] at this
    exact this
  have hWk := hW.kinds hi hk
  have hl := sq_lt (p := nI p) hWk hs 15
  refine ⟨hL2, ?_⟩
  rw [g_X6_kind_67, if_neg (show ¬ (6 : Int32) ≤ nI k from nI_le_i (n := 6) (by omega) (by decide) hk), ix8 (by omega), Option.bind_some, reachOf_c hWk hL2 hp hs ((mb_hd (by omega) (by decide)).trans es), Option.bind_some, bitCount_c (by omega), Option.bind_some, nI_1]
  rfl
theorem kind_r1 {i p s k f : Nat} {y : HP} {v own best most : Int32} (hW : WF N n m d l) (hi : i < n) (hp : p < m) (hs : s < 16) (es : mb N p 0 = nI s) (hk : k < 6) (e : rv y = upn N (4 + 6 * i + 0) v) : rv (h_wI y 13 0 (4 + 6 * i + 0) (nI k)) = upn N (4 + 6 * i + 0) (nI k) ∧ g_X7_kind_56 (f + 1) (nI p) (nI i) own best most (nI k) y = if nI (kdV N n i p s k) ≤ most then g_X7_kind_56 f (nI p) (nI i) own best most (nI (k + 1)) (h_wI y 13 0 (4 + 6 * i + 0) (nI k)) else g_X7_kind_56 f (nI p) (nI i) own (nI k) (nI (kdV N n i p s k)) (nI (k + 1)) (h_wI y 13 0 (4 + 6 * i + 0) (nI k)) := by
  have hn8 := hW.1
  have hm6 := hW.2.1
  have er : rv (h_wI y 13 0 (4 + 6 * i + 0) (nI k)) = upn N (4 + 6 * i + 0) (nI k) := by rw [rv_w, e, upn_upn]
  have hWk := hW.kinds hi hk
  have hl := sq_lt (p := nI p) hWk hs 15
  refine ⟨er, ?_⟩
  rw [g_X7_kind_56, if_neg (show ¬ (5 : Int32) < nI k from fun z => by have := (nI_ltI (a := 5) (by decide) (by omega)).mp z; omega), puts0 (by omega), Option.bind_some, reachOf_r (n := n) (m := m) (d := d) (l := l) (by rw [er]; exact hWk) (show p < 6 by omega) hs (by rw [er]; exact (mb_hd (by omega) (by decide)).trans es), Option.bind_some, er, bits_r hl, Option.bind_some]
  unfold g_X7_kind_94
  rw [nI_1]
  show (if nI (kdV N n i p s k) ≤ most then _ else _) = _
  by_cases q : nI (kdV N n i p s k) ≤ most
  · rw [if_pos q, if_pos q, if_pos (show nI (np (sq (upn N (4 + 6 * i + 0) (nI k)) n (nI p) s 15)) ≤ most from q)]
  · rw [if_neg q, if_neg q, if_neg (show ¬ nI (np (sq (upn N (4 + 6 * i + 0) (nI k)) n (nI p) s 15)) ≤ most from q)]
    rfl
theorem kind_c {i p s : Nat} (hW : WF N n m d l) (hi : i < n) (hp : p < m) (hs : s < 16) (es : mb N p 0 = nI s) : ∀ (c f k best most : Nat) (x : HP) (v : Int32), k + c = 6 → c < f → most ≤ 63 → LC x 1 n m (upn N (4 + 6 * i + 0) v) → ∃ x', FB 1 x x' ∧ g_X6_kind_67 f (nI p) (nI i) (nI best) (nI most) (nI k) x = some (nI (kdF (kdV N n i p s) c k best most), x')
  | 0, f, k, best, most, x, v, h1, h2, h3, hL => by
    obtain ⟨f, rfl⟩ : ∃ z, f = z + 1 := ⟨f - 1, by omega⟩
    have : k = 6 := by omega
    subst this
    refine ⟨x, FB.rfl' 1 x, ?_⟩
    rw [g_X6_kind_67, if_pos (by decide)]
    rfl
  | c + 1, f, k, best, most, x, v, h1, h2, h3, hL => by
    obtain ⟨f, rfl⟩ : ∃ z, f = z + 1 := ⟨f - 1, by omega⟩
    have hn8 := hW.1
    obtain ⟨a1, a2⟩ := kind_c1 (f := f) (best := nI best) (most := nI most) hW hi hp hs es (show k < 6 by omega) hL
    have hv : kdV N n i p s k ≤ 63 := np_le _
    have hw := FB.w0 (a := 1) x (show i < 8 by omega) 0 (nI k)
    rw [a2]
    unfold kdF
    by_cases q : kdV N n i p s k ≤ most
    · obtain ⟨x', b1, b2⟩ := kind_c hW hi hp hs es c f (k + 1) best most _ _ (by omega) (by omega) h3 a1
      exact ⟨x', hw.trans b1, by rw [if_pos ((nI_leI (by omega) (by omega)).mpr q), if_pos q, b2]⟩
    · obtain ⟨x', b1, b2⟩ := kind_c hW hi hp hs es c f (k + 1) k (kdV N n i p s k) _ _ (by omega) (by omega) hv a1
      exact ⟨x', hw.trans b1, by rw [if_neg (fun z => q ((nI_leI (by omega) (by omega)).mp z)), if_neg q, b2]⟩
theorem kind_r {i p s : Nat} {own : Int32} (hW : WF N n m d l) (hi : i < n) (hp : p < m) (hs : s < 16) (es : mb N p 0 = nI s) : ∀ (c f k best most : Nat) (y : HP) (v : Int32), k + c = 6 → c < f → most ≤ 63 → rv y = upn N (4 + 6 * i + 0) v → ∃ y', FR 0 y y' ∧ rv y' = upn N (4 + 6 * i + 0) own ∧ g_X7_kind_56 f (nI p) (nI i) own (nI best) (nI most) (nI k) y = some (nI (kdF (kdV N n i p s) c k best most), y')
  | 0, f, k, best, most, y, v, h1, h2, h3, e => by
    obtain ⟨f, rfl⟩ : ∃ z, f = z + 1 := ⟨f - 1, by omega⟩
    have : k = 6 := by omega
    subst this
    have hn8 := hW.1
    refine ⟨h_wI y 13 0 (4 + 6 * i + 0) own, FR.w0 y _ _, by rw [rv_w, e, upn_upn], ?_⟩
    rw [g_X7_kind_56, if_pos (by decide), puts0 (by omega)]
    rfl
  | c + 1, f, k, best, most, y, v, h1, h2, h3, e => by
    obtain ⟨f, rfl⟩ : ∃ z, f = z + 1 := ⟨f - 1, by omega⟩
    obtain ⟨a1, a2⟩ := kind_r1 (f := f) (own := own) (best := nI best) (most := nI most) hW hi hp hs es (show k < 6 by omega) e
    have hv : kdV N n i p s k ≤ 63 := np_le _
    have hw := FR.w0 y (4 + 6 * i + 0) (nI k)
    rw [a2]
    unfold kdF
    by_cases q : kdV N n i p s k ≤ most
    · obtain ⟨y', b1, b2, b3⟩ := kind_r (own := own) hW hi hp hs es c f (k + 1) best most _ _ (by omega) (by omega) h3 a1
      exact ⟨y', hw.trans b1, b2, by rw [if_pos ((nI_leI (by omega) (by omega)).mpr q), if_pos q, b3]⟩
    · obtain ⟨y', b1, b2, b3⟩ := kind_r (own := own) hW hi hp hs es c f (k + 1) k (kdV N n i p s k) _ _ (by omega) (by omega) hv a1
      exact ⟨y', hw.trans b1, b2, by rw [if_neg (fun z => q ((nI_leI (by omega) (by omega)).mp z)), if_neg q, b3]⟩
theorem op_kind (a b : Int32) (hI : Inv h) : Okc (f_X6_kind a b) (f_X7_kind a b) h := by
  obtain ⟨⟨n, m, d, l, i1, i2, i3⟩, -⟩ := id hI
  have g1 := hasMember_c i1 i3
  have g2 := fun c => isMember_r (h := (c, h.2)) i1
  have m1 := hasHandle_c i1 i3
  have m2 := fun c => isOne_r (h := (c, h.2)) i1
  have hm6 := i1.2.1
  have hn8 := i1.1
  cases ha : isA a m with
  | false => exact okF hI 0 (by decide) (by simp -implicitDefEqProofs only [Option.bind_some, b0t, b0f, if_true, if_false, ite_true, ite_false, bind_eta, bind_etaV, rv_c, f_X6_kind, g_X6_kind_22, g1, ha, fc1]) (fun c => by simp -implicitDefEqProofs only [Option.bind_some, b0t, b0f, if_true, if_false, ite_true, ite_false, bind_eta, bind_etaV, rv_c, f_X7_kind, g_X7_kind_16, g2, ha, fc1])
  | true =>
    cases hb : isA b n with
    | false => exact okF hI 0 (by decide) (by simp -implicitDefEqProofs only [Option.bind_some, b0t, b0f, if_true, if_false, ite_true, ite_false, bind_eta, bind_etaV, rv_c, f_X6_kind, g_X6_kind_22, g1, ha, m1, hb, fc1]) (fun c => by simp -implicitDefEqProofs only [Option.bind_some, b0t, b0f, if_true, if_false, ite_true, ite_false, bind_eta, bind_etaV, rv_c, f_X7_kind, g_X7_kind_16, g2, ha, m2, hb, fc1])
    | true =>
      have ha' := ha
      have hb' := hb
      obtain ⟨p, hp, rfl⟩ := isA_t (by omega) ha
      obtain ⟨i, hi, rfl⟩ := isA_t (by omega) hb
      have h8 : i < 8 := by omega
      by_cases q : hd (rv h) i 4 = nI p
      · obtain ⟨s, hs, es⟩ := (i1.2.2.2.2.2.2.2.2.2 p hp).1
        obtain ⟨x, c1, c2, c3⟩ := becomes_c (a := 1) (by decide) i1 i3
        have eU : upn (rv h) (4 + 6 * i + 0) (hd (rv h) i 0) = rv h := upn_same rfl
        have hV := kdV_pos (p := p) (k := 0) i1 hi hs (by decide)
        have hV2 : kdV (rv h) n i p s 0 ≤ 63 := np_le _
        obtain ⟨a1, a2⟩ := kind_c1 (N := rv h) (x := x) (f := 999) (best := nI 0) (most := nI 0) (v := hd (rv h) i 0) i1 hi hp hs es (show 0 < 6 by decide) (by rw [eU]; exact c3)
        obtain ⟨x', b1, b2⟩ := kind_c (N := rv h) i1 hi hp hs es 5 999 1 0 (kdV (rv h) n i p s 0) _ _ (by decide) (by decide) hV2 a1
        have hF : FB 1 h x' := c2.trans ((FB.w0 (a := 1) x h8 0 (nI 0)).trans b1)
        refine okX hI hF (nI (kdF (kdV (rv h) n i p s) 5 1 0 (kdV (rv h) n i p s 0))) ?_ ?_
        · simp -implicitDefEqProofs only [Option.bind_some, b0t, b0f, if_true, if_false, ite_true, ite_false, bind_eta, bind_etaV, rv_c, f_X6_kind, g1, ha', m1, hb', holds_c i1 i3 hi, decide_eq_true q, c1]
          rw [show am_fu = 999 + 1 from am_fu_eq]
          refine a2.trans ?_
          rw [if_neg (fun z => by have := (nI_leI (by omega) (by decide)).mp z; omega)]
          exact b2
        · have er : rv x' = rv h := fb_rv hF
          obtain ⟨r1, r2⟩ := kind_r1 (N := rv h) (y := x') (f := 999) (own := hd (rv h) i 0) (best := nI 0) (most := -1) (v := hd (rv h) i 0) i1 hi hp hs es (show 0 < 6 by decide) (by rw [eU]; exact er)
          obtain ⟨y, s1, s2, s3⟩ := kind_r (N := rv h) (own := hd (rv h) i 0) i1 hi hp hs es 5 999 1 0 (kdV (rv h) n i p s 0) _ _ (by decide) (by decide) hV2 r1
          have hR := (FR.w0 x' (4 + 6 * i + 0) (nI 0)).trans s1
          refine ⟨y, ?_, hR.rest (Or.inl rfl), hR.1, fun k hk => by rw [s2, er, eU]⟩
          have g3 := fun z => isMember_r (h := x') (n := n) (m := m) (d := d) (l := l) (by rw [er]; exact i1) z
          have m3 := fun z => isOne_r (h := x') (n := n) (m := m) (d := d) (l := l) (by rw [er]; exact i1) z
          simp -implicitDefEqProofs only [Option.bind_some, b0t, b0f, if_true, if_false, ite_true, ite_false, bind_eta, bind_etaV, rv_c, f_X7_kind, g3, ha', m3, hb', its4 h8, its0 h8, er, q]
          rw [show am_fu = 999 + 1 from am_fu_eq]
          refine r2.trans ?_
          rw [if_neg (fun z => by
            have : nI (kdV (rv h) n i p s 0) < 0 := Int32.lt_of_le_of_lt z (by decide)
            exact nI_pos (by omega) this)]
          exact s3
      · exact okF hI 4 (by decide) (by simp -implicitDefEqProofs only [Option.bind_some, b0t, b0f, if_true, if_false, ite_true, ite_false, bind_eta, bind_etaV, rv_c, f_X6_kind, g1, ha', m1, hb', holds_c i1 i3 hi, decide_eq_false q, fc5]) (fun c => by simp -implicitDefEqProofs only [Option.bind_some, b0t, b0f, if_true, if_false, ite_true, ite_false, bind_eta, bind_etaV, rv_c, f_X7_kind, g2, ha', m2, hb', its4 h8, if_neg q, fc5])
end KIND
