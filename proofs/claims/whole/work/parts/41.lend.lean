/-! PURE: lend, use -/
def cP (N : Nat → Int32) (p : Int32) (i t : Nat) : Bool := decide (hd N t 4 = p) && (!decide (t = i) && sPair N t i)
def sHasPair (N : Nat → Int32) (n : Nat) (p : Int32) (i : Nat) : Bool := fo (fun t a => a || cP N p i t) n 0 false
theorem fo_true {f : Nat → Bool} : ∀ (k i : Nat), fo (fun t a => a || f t) k i true = true
  | 0, _ => rfl
  | k + 1, i => by
    unfold fo
    rw [Bool.true_or]
    exact fo_true k (i + 1)
section LEND
variable {h : HP} {n m d l : Nat}
theorem hasPair_r (hW : WF (rv h) n m d l) {i : Nat} (hi : i < 8) (p : Int32) : f_X7_hasPair p (nI i) h = some (b2i (sHasPair (rv h) n p i), h) := by
  obtain ⟨w1, w2, w3, w4, w5, w6, w7, w8, w9, w10⟩ := hW
  unfold f_X7_hasPair sHasPair
  refine lp_up (g := fun k (a : Bool) x => g_X7_hasPair_5 k p (nI i) (b2i a) x h) (N := n) (fin := fun a => some (b2i a, h)) (fun k t a ht => ?_) (fun k a => ?_) n am_fu 0 false (by omega) (fu_lt (by omega))
  · show g_X7_hasPair_5 (k + 1) p (nI i) (b2i a) (nI t) h = g_X7_hasPair_5 k p (nI i) (b2i (a || cP (rv h) p i t)) (nI (t + 1)) h
    rw [g_X7_hasPair_5, ix64_2]
    show (if h_rI h 13 0 2 ≤ nI t then _ else _) = _
    rw [rv_2, w7, if_neg (nI_le_i (by omega) (by omega) ht), nI_1]
    cases a with
    | true =>
      rw [if_neg (by decide), Bool.true_or]
      rfl
    | false =>
      rw [if_pos (by decide), its4 (by omega), Bool.false_or]
      show (if hd (rv h) t 4 = p then _ else _) = _
      unfold cP
      by_cases q : hd (rv h) t 4 = p
      · rw [if_pos q, decide_eq_true q, Bool.true_and]
        by_cases q2 : t = i
        · subst q2
          rw [if_pos rfl, decide_eq_true (rfl : t = t)]
          rfl
        · rw [if_neg (nI_ne (by omega) (by omega) q2), decide_eq_false q2, arePair_r (by omega) hi]
          show (if b2i _ = 0 then _ else _) = _
          cases sPair (rv h) t i <;> rfl
      · rw [if_neg q, decide_eq_false q]
        rfl
  · show g_X7_hasPair_5 (k + 1) p (nI i) (b2i a) (nI n) h = _
    rw [g_X7_hasPair_5, ix64_2]
    show (if h_rI h 13 0 2 ≤ nI n then _ else _) = _
    rw [rv_2, w7, if_pos nI_le_n, b2i_and]
theorem holdsPair_lp {N : Nat → Int32} {j : Nat} (hW : WF N n m d l) (hL : LC h j n m N) {i : Nat} (hi : i < n) (p : Int32) : ∀ (k f t : Nat), t + k = n → k < f → g_X1_holdsPairOf_2 f j p (nI i) (nI t) h = some (b2i (fo (fun t a => a || cP N p i t) k t false), h)
  | 0, f, t, h1, h2 => by
    obtain ⟨f, rfl⟩ : ∃ z, f = z + 1 := ⟨f - 1, by omega⟩
    rw [g_X1_holdsPairOf_2, rI_1, hL.2.2.1, hW.2.2.2.2.2.2.1, show t = n by omega, if_pos nI_le_n]
    rfl
  | k + 1, f, t, h1, h2 => by
    obtain ⟨f, rfl⟩ : ∃ z, f = z + 1 := ⟨f - 1, by omega⟩
    have hn8 := hW.1
    have ih := holdsPair_lp hW hL hi p k f (t + 1) (by omega) (by omega)
    rw [g_X1_holdsPairOf_2, rI_1, hL.2.2.1, hW.2.2.2.2.2.2.1, if_neg (nI_le_i (by omega) (by omega) (show t < n by omega)), nI_1]
    show _ = some (b2i (fo (fun t a => a || cP N p i t) k (t + 1) (false || cP N p i t)), h)
    rw [Bool.false_or]
    by_cases q2 : t = i
    · have ec : cP N p i t = false := by
        unfold cP
        rw [decide_eq_true q2, Bool.not_true, Bool.false_and, Bool.and_false]
      rw [if_pos (congrArg nI q2), ih, ec]
    · rw [if_neg (nI_ne (by omega) (by omega) q2), holds_c hW hL (show t < n by omega)]
      show (if b2i _ = 0 then _ else _) = _
      by_cases q : hd N t 4 = p
      · have ec : cP N p i t = sPair N t i := by
          unfold cP
          rw [decide_eq_true q, decide_eq_false q2, Bool.not_false, Bool.true_and, Bool.true_and]
        rw [decide_eq_true q, if_neg (by decide), ix8 (by omega), ix8 (by omega)]
        show (f_X0_isPairOf (8 * j + t) (8 * j + i) h).bind _ = _
        rw [isPair_c (hL.hd (show t < n by omega)) (hL.hd hi), ec]
        show (if b2i _ = 0 then _ else _) = _
        cases sPair N t i with
        | false => exact (if_pos (by decide)).trans ih
        | true =>
          rw [fo_true]
          exact if_neg (by decide)
      · have ec : cP N p i t = false := by
          unfold cP
          rw [decide_eq_false q, Bool.false_and]
        rw [decide_eq_false q, ec]
        exact (if_pos (by decide)).trans ih
theorem holdsPairOf_c {N : Nat → Int32} {j : Nat} (hW : WF N n m d l) (hL : LC h j n m N) {i : Nat} (hi : i < n) (p : Int32) : f_X1_holdsPairOf j p (nI i) h = some (b2i (sHasPair N n p i), h) :=
  holdsPair_lp hW hL hi p n am_fu 0 (by omega) (fu_lt (by have := hW.1; omega))
theorem heldCount_c {N : Nat → Int32} {j : Nat} (hW : WF N n m d l) (hL : LC h j n m N) (p : Int32) : f_X1_heldCount j p h = some (g0 (sHolds N n p), h) := by
  unfold f_X1_heldCount
  simp -implicitDefEqProofs only [Option.bind_some, b0t, b0f, if_true, if_false, ite_true, ite_false, bind_eta, bind_etaV, rv_c, heldBy_c hW hL]
  rfl
theorem bits_h {N : Nat → Int32} (hn : n ≤ 8) (p : Int32) (h : HP) : f_X7_bits (sHolds N n p) h = some (g0 (sHolds N n p), h) := by
  obtain ⟨B, h1, h2⟩ := sHolds_nI (N := N) hn p
  rw [h2, bits_r (by omega), g0_n (by omega)]
theorem handsFull_c {N : Nat → Int32} {j : Nat} (hW : WF N n m d l) (hL : LC h j n m N) (p : Int32) : f_X1_hasHandsFull j p h = some (b2i (!decide (g0 (sHolds N n p) < 3)), h) := by
  unfold f_X1_hasHandsFull
  simp -implicitDefEqProofs only [Option.bind_some, b0t, b0f, if_true, if_false, ite_true, ite_false, bind_eta, bind_etaV, rv_c, heldCount_c hW hL]
  by_cases q : g0 (sHolds N n p) < 3
  · rw [if_pos q, decide_eq_true q]; rfl
  · rw [if_neg q, decide_eq_false q]; rfl
theorem upn_same {N : Nat → Int32} {p : Nat} {v : Int32} (e : N p = v) : upn N p v = N := by
  funext q
  by_cases z : q = p
  · subst z
    rw [upn_s, e]
  · rw [upn_n z]
theorem op_lend (a b : Int32) (hI : Inv h) : Okc (f_X6_lend a b) (f_X7_lend a b) h := by
  obtain ⟨⟨n, m, d, l, i1, i2, i3⟩, -⟩ := id hI
  have g1 := hasHandle_c i1 i3
  have g2 := fun c => isOne_r (h := (c, h.2)) i1
  have m1 := hasMember_c i1 i3
  have m2 := fun c => isMember_r (h := (c, h.2)) i1
  have hn8 := i1.1
  have hm6 := i1.2.1
  cases ha : isA a n with
  | false => exact okF hI 0 (by decide) (by simp -implicitDefEqProofs only [Option.bind_some, b0t, b0f, if_true, if_false, ite_true, ite_false, bind_eta, bind_etaV, rv_c, f_X6_lend, g_X6_lend_22, g1, ha, fc1]) (fun c => by simp -implicitDefEqProofs only [Option.bind_some, b0t, b0f, if_true, if_false, ite_true, ite_false, bind_eta, bind_etaV, rv_c, f_X7_lend, g_X7_lend_16, g2, ha, fc1])
  | true =>
    cases hb : isA b m with
    | false => exact okF hI 0 (by decide) (by simp -implicitDefEqProofs only [Option.bind_some, b0t, b0f, if_true, if_false, ite_true, ite_false, bind_eta, bind_etaV, rv_c, f_X6_lend, g_X6_lend_22, g1, ha, m1, hb, fc1]) (fun c => by simp -implicitDefEqProofs only [Option.bind_some, b0t, b0f, if_true, if_false, ite_true, ite_false, bind_eta, bind_etaV, rv_c, f_X7_lend, g_X7_lend_16, g2, ha, m2, hb, fc1])
    | true =>
      have ha' := ha
      have hb' := hb
      obtain ⟨i, hi, rfl⟩ := isA_t (by omega) ha
      obtain ⟨p, hp, rfl⟩ := isA_t (by omega) hb
      have h8 : i < 8 := by omega
      by_cases q : hd (rv h) i 4 = -1
      · have hh := fun c => holds_r (h := (c, h.2)) i1 (nI p)
        have hq := fun c => hasPair_r (h := (c, h.2)) i1 h8 (nI p)
        have e6 : f_X6_lend (nI i) (nI p) h = if g0 (sHolds (rv h) n (nI p)) < 3 then (if sHasPair (rv h) n (nI p) i = true then f_X6_tell (fcode 2) h else (f_X1_heldCount 0 (nI p) (h_wI h 0 (8 * 0 + i) 4 (nI p)))) else f_X6_tell (fcode 1) h := by
          simp -implicitDefEqProofs only [Option.bind_some, b0t, b0f, if_true, if_false, ite_true, ite_false, bind_eta, bind_etaV, rv_c, f_X6_lend, g1, ha', m1, hb', ix8 h8, isLent_c (i3.hd hi 4 (by decide)), q, decide_true, Bool.not_true, handsFull_c i1 i3]
          by_cases q3 : g0 (sHolds (rv h) n (nI p)) < 3
          · simp -implicitDefEqProofs only [Option.bind_some, b0t, b0f, if_true, if_false, ite_true, ite_false, bind_eta, bind_etaV, rv_c, if_pos q3, decide_eq_true q3, Bool.not_true, holdsPairOf_c i1 i3 hi]
            cases sHasPair (rv h) n (nI p) i with
            | true => simp -implicitDefEqProofs only [Option.bind_some, b0t, b0f, if_true, if_false, ite_true, ite_false, bind_eta, bind_etaV, rv_c, fc3]
            | false => simp -implicitDefEqProofs only [Option.bind_some, b0t, b0f, if_true, if_false, ite_true, ite_false, bind_eta, bind_etaV, rv_c, Bool.false_eq_true]
          · simp -implicitDefEqProofs only [Option.bind_some, b0t, b0f, if_true, if_false, ite_true, ite_false, bind_eta, bind_etaV, rv_c, if_neg q3, decide_eq_false q3, Bool.not_false, fc2]
        have e7 : ∀ c, f_X7_lend (nI i) (nI p) (c, h.2) = if g0 (sHolds (rv h) n (nI p)) < 3 then (if sHasPair (rv h) n (nI p) i = true then f_X7_finds (fcode 2) (c, h.2) else (f_X7_holds (nI p) (h_wI (h_wI (c, h.2) 13 0 (4 + 6 * i + 4) (nI p)) 13 0 (4 + 6 * i + 5) 0)).bind (fun z => f_X7_bits z.1 z.2)) else f_X7_finds (fcode 1) (c, h.2) := by
          intro c
          simp -implicitDefEqProofs only [Option.bind_some, b0t, b0f, if_true, if_false, ite_true, ite_false, bind_eta, bind_etaV, rv_c, f_X7_lend, g2, ha', m2, hb', its4 h8, q, hh, bits_h hn8]
          by_cases q3 : g0 (sHolds (rv h) n (nI p)) < 3
          · simp -implicitDefEqProofs only [Option.bind_some, b0t, b0f, if_true, if_false, ite_true, ite_false, bind_eta, bind_etaV, rv_c, if_pos q3, hq]
            cases sHasPair (rv h) n (nI p) i with
            | true => simp -implicitDefEqProofs only [Option.bind_some, b0t, b0f, if_true, if_false, ite_true, ite_false, bind_eta, bind_etaV, rv_c, fc3]
            | false => simp -implicitDefEqProofs only [Option.bind_some, b0t, b0f, if_true, if_false, ite_true, ite_false, bind_eta, bind_etaV, rv_c, Bool.false_eq_true, lends_r h8]
          · simp -implicitDefEqProofs only [Option.bind_some, b0t, b0f, if_true, if_false, ite_true, ite_false, bind_eta, bind_etaV, rv_c, if_neg q3, fc2]
        by_cases q3 : g0 (sHolds (rv h) n (nI p)) < 3
        · rw [if_pos q3] at e6
          simp only [if_pos q3] at e7
          by_cases q4 : sHasPair (rv h) n (nI p) i = true
          · exact okF hI 2 (by decide) (e6.trans (if_pos q4)) (fun c => (e7 c).trans (if_pos q4))
          · rw [if_neg q4] at e6
            simp only [if_neg q4] at e7
            have e5 : hd (rv h) i 5 = 0 := by
              rcases (i1.2.2.2.2.2.2.2.2.1 i hi).2.2.2.2 with z | ⟨x, hx, z, -⟩
              · exact z.2
              · rw [q] at z
                exact absurd z.symm (nI_m1 (by omega))
            have i1' := i1.loan (x4 := nI p) (x5 := 0) hi (Or.inr ⟨p, hp, rfl, 0, by omega, rfl⟩)
            have eS : upn (upn (rv h) (4 + 6 * i + 4) (nI p)) (4 + 6 * i + 5) 0 = upn (rv h) (4 + 6 * i + 4) (nI p) := upn_same (by rw [upn_n (by omega)]; exact e5)
            have hL' : LC (h_wI h 0 (8 * 0 + i) 4 (nI p)) 0 n m (upn (upn (rv h) (4 + 6 * i + 4) (nI p)) (4 + 6 * i + 5) 0) := by
              rw [eS]
              exact lc_w0 i3 hn8 hi (by decide)
            have eR : rv (h_wI (h_wI (h_wI h 0 (8 * 0 + i) 4 (nI p)) 13 0 (4 + 6 * i + 4) (nI p)) 13 0 (4 + 6 * i + 5) 0) = upn (upn (rv h) (4 + 6 * i + 4) (nI p)) (4 + 6 * i + 5) 0 := by
              rw [rv_w, rv_w, rvw0]
            rw [heldCount_c i1' hL'] at e6
            have e7' := e7 (h_wI h 0 (8 * 0 + i) 4 (nI p)).1
            refine okW hI _ _ (h_wI (h_wI (h_wI h 0 (8 * 0 + i) 4 (nI p)) 13 0 (4 + 6 * i + 4) (nI p)) 13 0 (4 + 6 * i + 5) 0) _ e6 (e7'.trans ?_) (Rest.w0 (by omega)) ((Rest.w13 (Or.inl rfl)).trans (Rest.w13 (Or.inl rfl))) rfl eR hL' i1' i2
            show (f_X7_holds (nI p) (h_wI (h_wI (h_wI h 0 (8 * 0 + i) 4 (nI p)) 13 0 (4 + 6 * i + 4) (nI p)) 13 0 (4 + 6 * i + 5) 0)).bind (fun z => f_X7_bits z.1 z.2) = _
            rw [holds_r (n := n) (m := m) (d := d) (l := l) (by rw [eR]; exact i1'), eR]
            show f_X7_bits (sHolds _ n (nI p)) _ = _
            rw [bits_h hn8]
        · exact okF hI 1 (by decide) (e6.trans (if_neg q3)) (fun c => (e7 c).trans (if_neg q3))
      · refine okF hI 4 (by decide) ?_ (fun c => ?_)
        · simp -implicitDefEqProofs only [Option.bind_some, b0t, b0f, if_true, if_false, ite_true, ite_false, bind_eta, bind_etaV, rv_c, f_X6_lend, g1, ha', m1, hb', ix8 h8, isLent_c (i3.hd hi 4 (by decide)), decide_eq_false q, Bool.not_false, fc5]
        · simp -implicitDefEqProofs only [Option.bind_some, b0t, b0f, if_true, if_false, ite_true, ite_false, bind_eta, bind_etaV, rv_c, f_X7_lend, g2, ha', m2, hb', its4 h8, if_neg q, fc5]
/-- rooms stay rooms -/
theorem sEnd_nI {N : Nat → Int32} {i : Nat} (hW : WF N n m d l) (hi : i < n) : ∃ k, k < 16 ∧ sEnd N i = nI k := by
  obtain ⟨v1, v2, ⟨t, ht, et⟩, v4, v5⟩ := hW.2.2.2.2.2.2.2.2.1 i hi
  obtain ⟨w1, w2, w3, w4, w5, w6, w7, w8, w9, w10⟩ := hW
  have hx : ∃ y, y ≤ 20000 ∧ (if sLate N i then hd N i 5 - N 1 else 0) = nI y := by
    cases e : sLate N i with
    | false => exact ⟨0, by omega, rfl⟩
    | true =>
      rcases v5 with ⟨v5, v6⟩ | ⟨p, hp, v5, o, ho, v6⟩
      · unfold sLate at e
        rw [v5] at e
        simp at e
      · unfold sLate at e
        simp only [Bool.and_eq_true, Bool.not_eq_true', decide_eq_false_iff_not] at e
        rw [v6, w5, nI_leI (by omega) (by omega)] at e
        refine ⟨o - l, by omega, ?_⟩
        rw [v6, w5]
        exact pk_sub (by omega)
  obtain ⟨y, hy, ey⟩ := hx
  have hm : ∃ z, z ≤ 40000 ∧ sMv N i = nI z := by
    unfold sMv
    rw [ey]
    by_cases q : hd N i 0 = 2 ∨ hd N i 0 = 5
    · rw [if_pos q]
      exact ⟨2 * y, by omega, pk_mul 2 y⟩
    · rw [if_neg q]
      by_cases q2 : hd N i 0 = 4
      · rw [if_pos q2]
        exact ⟨0, by omega, rfl⟩
      · rw [if_neg q2]
        exact ⟨y, by omega, rfl⟩
  obtain ⟨z, hz, ez⟩ := hm
  refine ⟨(t + z) % 16, by omega, ?_⟩
  unfold sEnd
  rw [et, ez, nI_add]
  exact pk_rem (d := 16) (by omega) (by decide) (by decide)
theorem sLead_nI {N : Nat → Int32} {i : Nat} {r : Int32} (hW : WF N n m d l) (hi : i < n) : ∃ k, k < 16 ∧ sLead N i r = nI k := by
  unfold sLead
  by_cases q : r = sEnd N i
  · rw [if_pos q]
    exact (hW.2.2.2.2.2.2.2.2.1 i hi).2.1
  · rw [if_neg q]
    exact sEnd_nI hW hi
theorem sWears_nI {N : Nat → Int32} {i : Nat} : ∃ k, k ≤ 3 ∧ sWears N i = nI k := by
  unfold sWears
  by_cases q2 : hd N i 0 = 2
  · rw [if_pos q2]; exact ⟨2, by omega, rfl⟩
  rw [if_neg q2]
  by_cases q3 : hd N i 0 = 3
  · rw [if_pos q3]; exact ⟨3, by omega, rfl⟩
  rw [if_neg q3]
  by_cases q4 : hd N i 0 = 4
  · rw [if_pos q4]
    by_cases q : N 0 - N 0 / 3 * 3 = 0
    · rw [if_pos q]; exact ⟨0, by omega, rfl⟩
    · rw [if_neg q]; exact ⟨1, by omega, rfl⟩
  rw [if_neg q4]
  by_cases q5 : hd N i 0 = 5
  · rw [if_pos q5]; exact ⟨3, by omega, rfl⟩
  rw [if_neg q5]
  exact ⟨1, by omega, rfl⟩
def sWear1 (N : Nat → Int32) (i : Nat) : Int32 := if hd N i 3 + sWears N i < 99 then hd N i 3 + sWears N i else 99
theorem sWear1_nI {N : Nat → Int32} {i : Nat} (hW : WFh N m d i) : ∃ k, k ≤ 99 ∧ sWear1 N i = nI k := by
  obtain ⟨v1, v2, v3, ⟨k, hk, ek⟩, v5⟩ := hW
  obtain ⟨w, hw, ew⟩ := sWears_nI (N := N) (i := i)
  unfold sWear1
  rw [ek, ew, nI_add]
  by_cases q : nI (k + w) < 99
  · rw [if_pos q]
    refine ⟨k + w, ?_, rfl⟩
    have := (nI_ltI (a := k + w) (b := 99) (by omega) (by decide)).mp q
    omega
  · rw [if_neg q]
    exact ⟨99, by omega, rfl⟩
theorem wearOnce_c {N : Nat → Int32} {j i : Nat} (hL : LC h j n m N) (hi : i < n) : f_X0_wearOnce (8 * j + i) (N 0) h = some (h_wI h 0 (8 * j + i) 3 (sWear1 N i)) := by
  unfold f_X0_wearOnce
  simp -implicitDefEqProofs only [Option.bind_some, b0t, b0f, if_true, if_false, ite_true, ite_false, bind_eta, bind_etaV, rv_c, wears_c (hL.hd hi), f_J9_min_7cf53, rI_0, hL.hd hi 3 (by decide)]
  rfl
theorem wearsBy_r {i : Nat} (hW : WFh (rv h) m d i) (hi : i < 8) : f_X7_wearsBy (nI i) h = some (h_wI h 13 0 (4 + 6 * i + 3) (sWear1 (rv h) i)) := by
  obtain ⟨v1, v2, v3, ⟨k, hk, ek⟩, v5⟩ := hW
  obtain ⟨w, hw, ew⟩ := sWears_nI (N := rv h) (i := i)
  unfold f_X7_wearsBy f_X7_held
  simp -implicitDefEqProofs only [Option.bind_some, b0t, b0f, if_true, if_false, ite_true, ite_false, bind_eta, bind_etaV, rv_c, its3 hi, wears_r hi]
  unfold sWear1
  rw [ek, ew, nI_add, if_pos (nI_pos' (by omega))]
  by_cases q : k + w < 99
  · rw [if_pos (show nI (k + w) < 99 from (nI_ltI (b := 99) (by omega) (by decide)).mpr q), if_pos (show nI (k + w) ≤ 99 from (nI_leI (b := 99) (by omega) (by decide)).mpr (by omega))]
    simp -implicitDefEqProofs only [Option.bind_some, b0t, b0f, if_true, if_false, ite_true, ite_false, bind_eta, bind_etaV, rv_c, puts3 hi]
  · rw [if_neg (show ¬ nI (k + w) < 99 from fun z => q ((nI_ltI (b := 99) (by omega) (by decide)).mp z))]
    by_cases q2 : k + w = 99
    · rw [q2, if_pos (show nI 99 ≤ 99 by decide)]
      simp -implicitDefEqProofs only [Option.bind_some, b0t, b0f, if_true, if_false, ite_true, ite_false, bind_eta, bind_etaV, rv_c, puts3 hi]
      rfl
    · rw [if_neg (show ¬ nI (k + w) ≤ 99 from fun z => q (by have := (nI_leI (b := 99) (by omega) (by decide)).mp z; omega))]
      simp -implicitDefEqProofs only [Option.bind_some, b0t, b0f, if_true, if_false, ite_true, ite_false, bind_eta, bind_etaV, rv_c, puts3 hi]
theorem op_use (a b : Int32) (hI : Inv h) : Okc (f_X6_use a b) (f_X7_use a b) h := by
  obtain ⟨⟨n, m, d, l, i1, i2, i3⟩, -⟩ := id hI
  have g1 := hasHandle_c i1 i3
  have g2 := fun c => isOne_r (h := (c, h.2)) i1
  have m1 := hasMember_c i1 i3
  have m2 := fun c => isMember_r (h := (c, h.2)) i1
  have hn8 := i1.1
  have hm6 := i1.2.1
  cases ha : isA a m with
  | false => exact okF hI 0 (by decide) (by simp -implicitDefEqProofs only [Option.bind_some, b0t, b0f, if_true, if_false, ite_true, ite_false, bind_eta, bind_etaV, rv_c, f_X6_use, g_X6_use_22, m1, ha, fc1]) (fun c => by simp -implicitDefEqProofs only [Option.bind_some, b0t, b0f, if_true, if_false, ite_true, ite_false, bind_eta, bind_etaV, rv_c, f_X7_use, g_X7_use_16, m2, ha, fc1])
  | true =>
    cases hb : isA b n with
    | false => exact okF hI 0 (by decide) (by simp -implicitDefEqProofs only [Option.bind_some, b0t, b0f, if_true, if_false, ite_true, ite_false, bind_eta, bind_etaV, rv_c, f_X6_use, g_X6_use_22, m1, ha, g1, hb, fc1]) (fun c => by simp -implicitDefEqProofs only [Option.bind_some, b0t, b0f, if_true, if_false, ite_true, ite_false, bind_eta, bind_etaV, rv_c, f_X7_use, g_X7_use_16, m2, ha, g2, hb, fc1])
    | true =>
      have ha' := ha
      have hb' := hb
      obtain ⟨p, hp, rfl⟩ := isA_t (by omega) ha
      obtain ⟨i, hi, rfl⟩ := isA_t (by omega) hb
      have h8 : i < 8 := by omega
      have h6 : p < 6 := by omega
      have hwh := i1.2.2.2.2.2.2.2.2.1 i hi
      by_cases q : hd (rv h) i 4 = nI p
      · have o7 := fun c => opens_r (h := (c, h.2)) (i := i) (r := mb (rv h) p 0) h8 hm6 hwh
        have l7 := fun c => leadsTo_r (h := (c, h.2)) (i := i) (r := mb (rv h) p 0) h8 hm6 hwh
        cases q2 : sOpens (rv h) i (mb (rv h) p 0) with
        | false =>
          refine okF hI 4 (by decide) ?_ (fun c => ?_)
          · simp -implicitDefEqProofs only [Option.bind_some, b0t, b0f, if_true, if_false, ite_true, ite_false, bind_eta, bind_etaV, rv_c, f_X6_use, g_X6_use_66, m1, ha', g1, hb', ix6 h6, holds_c i1 i3 hi, decide_eq_true q, rI_2, i3.mb hp 0 (by decide), opensIn_c i1 i3 hi, q2, fc5]
          · simp -implicitDefEqProofs only [Option.bind_some, b0t, b0f, if_true, if_false, ite_true, ite_false, bind_eta, bind_etaV, rv_c, f_X7_use, g_X7_use_49, m2, ha', g2, hb', whose0 h6, its4 h8, if_pos q, o7, q2, fc5]
        | true =>
          obtain ⟨k, hk, ek⟩ := sLead_nI (r := mb (rv h) p 0) i1 hi
          have i1' : WF (upn (rv h) (52 + 2 * p + 0) (nI k)) n m d l := i1.um hp (by decide) (by
            refine ⟨⟨k, hk, mb_s⟩, ?_⟩
            rw [mb_n (by decide) (by decide) (by omega)]
            exact (i1.2.2.2.2.2.2.2.2.2 p hp).2)
          have hL' : LC (h_wI h 2 (6 * 0 + p) 0 (nI k)) 0 n m (upn (rv h) (52 + 2 * p + 0) (nI k)) := lc_w2 i3 hn8 hp (by decide)
          obtain ⟨w, hw, ew⟩ := sWear1_nI (i1'.2.2.2.2.2.2.2.2.1 i hi)
          have hL2 := lc_w0 (v := sWear1 (upn (rv h) (52 + 2 * p + 0) (nI k)) i) hL' hn8 hi (show 3 < 6 by decide)
          refine okW hI (nI k) _ (h_wI (h_wI (h_wI (h_wI h 2 (6 * 0 + p) 0 (nI k)) 0 (8 * 0 + i) 3 (sWear1 (upn (rv h) (52 + 2 * p + 0) (nI k)) i)) 13 0 (52 + 2 * p + 0) (nI k)) 13 0 (4 + 6 * i + 3) (sWear1 (upn (rv h) (52 + 2 * p + 0) (nI k)) i)) _ ?_ ?_ ((Rest.w2 (by omega)).trans (Rest.w0 (by omega))) ((Rest.w13 (Or.inl rfl)).trans (Rest.w13 (Or.inl rfl))) rfl ((rv_w _ _ _).trans (congrArg (fun z => upn z _ _) (rv_w _ _ _))) hL2 (i1'.uh hi (by decide) ?_) i2
          · simp -implicitDefEqProofs only [Option.bind_some, b0t, b0f, if_true, if_false, ite_true, ite_false, bind_eta, bind_etaV, rv_c, f_X6_use, m1, ha', g1, hb', ix6 h6, holds_c i1 i3 hi, decide_eq_true q, rI_2, i3.mb hp 0 (by decide), opensIn_c i1 i3 hi, q2, ledToL_c i1 i3 hi, ek, ix8 h8, rI_1, hL'.1, wearOnce_c hL' hi]
            have := hL2.mb hp 0 (by decide)
            rw [this, mb_hd h8 (by decide), mb_s]
          · rw [wI_0, wI_2]
            simp -implicitDefEqProofs only [Option.bind_some, b0t, b0f, if_true, if_false, ite_true, ite_false, bind_eta, bind_etaV, rv_c, f_X7_use, m2, ha', g2, hb', whose0 h6, its4 h8, if_pos q, o7, q2, l7, ek, imb0, ix_nI (show 52 + 2 * p + 0 < 64 by omega) (show 64 ≤ 2 ^ 31 by decide)]
            rw [wearsBy_r (m := m) (d := d) (by rw [rv_w]; exact i1'.2.2.2.2.2.2.2.2.1 i hi) h8]
            simp -implicitDefEqProofs only [Option.bind_some, b0t, b0f, if_true, if_false, ite_true, ite_false, bind_eta, bind_etaV, rv_c, whose0 h6, rv_w]
            rw [mb_hd h8 (by decide), mb_s]
          · obtain ⟨v1, v2, v3, v4, v5⟩ := i1'.2.2.2.2.2.2.2.2.1 i hi
            refine ⟨?_, ?_, ?_, ⟨w, hw, by rw [hd_s, ew]⟩, ?_⟩
            · rw [hd_n (by decide) (by decide) (by omega)]; exact v1
            · rw [hd_n (by decide) (by decide) (by omega)]; exact v2
            · rw [hd_n (by decide) (by decide) (by omega)]; exact v3
            · rw [hd_n (by decide) (by decide) (by omega), hd_n (by decide) (by decide) (by omega)]; exact v5
      · refine okF hI 4 (by decide) ?_ (fun c => ?_)
        · simp -implicitDefEqProofs only [Option.bind_some, b0t, b0f, if_true, if_false, ite_true, ite_false, bind_eta, bind_etaV, rv_c, f_X6_use, g_X6_use_66, m1, ha', g1, hb', ix6 h6, holds_c i1 i3 hi, decide_eq_false q, fc5]
        · simp -implicitDefEqProofs only [Option.bind_some, b0t, b0f, if_true, if_false, ite_true, ite_false, bind_eta, bind_etaV, rv_c, f_X7_use, g_X7_use_49, m2, ha', g2, hb', whose0 h6, its4 h8, if_neg q, fc5]
end LEND
