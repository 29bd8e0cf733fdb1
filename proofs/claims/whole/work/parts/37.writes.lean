/-! PURE: calls that change the library -/
section WRITES
variable {h : HP} {n m d l : Nat}
theorem becomes_r {p : Nat} (hp : p < 64) (h : HP) (v : Int32) : f_X7_becomes (nI p) v h = some (rv h p, h_wI h 13 0 p v) := by
  unfold f_X7_becomes
  rw [ix_nI hp (by decide)]
  rfl
theorem ihd (i k : Nat) : (4 + (6 * nI i)) + nI k = nI (4 + 6 * i + k) := by rw [show (4 : Int32) = nI 4 from rfl, show (6 : Int32) = nI 6 from rfl, pk_mul, nI_add, nI_add]
theorem ihd0 (i : Nat) : 4 + (6 * nI i) = nI (4 + 6 * i + 0) := by rw [show (4 : Int32) = nI 4 from rfl, show (6 : Int32) = nI 6 from rfl, pk_mul, nI_add]; rfl
theorem imb (i k : Nat) : (52 + (2 * nI i)) + nI k = nI (52 + 2 * i + k) := by rw [show (52 : Int32) = nI 52 from rfl, show (2 : Int32) = nI 2 from rfl, pk_mul, nI_add, nI_add]
theorem imb0 (i : Nat) : 52 + (2 * nI i) = nI (52 + 2 * i + 0) := by rw [show (52 : Int32) = nI 52 from rfl, show (2 : Int32) = nI 2 from rfl, pk_mul, nI_add]; rfl
theorem puts_r {i k : Nat} (hi : i < 8) (hk : k < 6) (h : HP) (v : Int32) : f_X7_puts (nI i) (nI k) v h = some (h_wI h 13 0 (4 + 6 * i + k) v) := by
  unfold f_X7_puts
  rw [ihd, ix_nI (by omega) (by decide)]
  rfl
theorem puts0 {i : Nat} (hi : i < 8) (h : HP) (v : Int32) : f_X7_puts (nI i) 0 v h = some (h_wI h 13 0 (4 + 6 * i + 0) v) := puts_r (k := 0) hi (by decide) h v
theorem puts1 {i : Nat} (hi : i < 8) (h : HP) (v : Int32) : f_X7_puts (nI i) 1 v h = some (h_wI h 13 0 (4 + 6 * i + 1) v) := puts_r (k := 1) hi (by decide) h v
theorem puts2 {i : Nat} (hi : i < 8) (h : HP) (v : Int32) : f_X7_puts (nI i) 2 v h = some (h_wI h 13 0 (4 + 6 * i + 2) v) := puts_r (k := 2) hi (by decide) h v
theorem puts3 {i : Nat} (hi : i < 8) (h : HP) (v : Int32) : f_X7_puts (nI i) 3 v h = some (h_wI h 13 0 (4 + 6 * i + 3) v) := puts_r (k := 3) hi (by decide) h v
theorem puts4 {i : Nat} (hi : i < 8) (h : HP) (v : Int32) : f_X7_puts (nI i) 4 v h = some (h_wI h 13 0 (4 + 6 * i + 4) v) := puts_r (k := 4) hi (by decide) h v
theorem puts5 {i : Nat} (hi : i < 8) (h : HP) (v : Int32) : f_X7_puts (nI i) 5 v h = some (h_wI h 13 0 (4 + 6 * i + 5) v) := puts_r (k := 5) hi (by decide) h v
theorem wfh_lo {N : Nat → Int32} {v : Int32} {p i : Nat} (hp : p < 4) (h : WFh N m d i) : WFh (upn N p v) m d i := by
  unfold WFh at *
  simp only [hd_lo hp]
  exact h
theorem wfm_lo {N : Nat → Int32} {v : Int32} {p i : Nat} (hp : p < 4) (h : WFm N i) : WFm (upn N p v) i := by
  unfold WFm at *
  simp only [mb_lo hp]
  exact h
theorem wfh_day {N : Nat → Int32} {d' i : Nat} (hd : d ≤ d') (h : WFh N m d i) : WFh N m d' i := by
  obtain ⟨a, b, c, e, f⟩ := h
  refine ⟨a, b, c, e, ?_⟩
  rcases f with f | ⟨p, hp, f, o, ho, g⟩
  · exact Or.inl f
  · exact Or.inr ⟨p, hp, f, o, by omega, g⟩
theorem wfh_mem {N : Nat → Int32} {m' i : Nat} (hm : m ≤ m') (h : WFh N m d i) : WFh N m' d i := by
  obtain ⟨a, b, c, e, f⟩ := h
  refine ⟨a, b, c, e, ?_⟩
  rcases f with f | ⟨p, hp, f, o, ho, g⟩
  · exact Or.inl f
  · exact Or.inr ⟨p, by omega, f, o, ho, g⟩
/-- the class wrote (hc), then the reference (h2): the library is N' on both sides -/
theorem okW {F6 F7 : HP → Option (Int32 × HP)} (hI : Inv h) (r : Int32) (hc h2 : HP) (N' : Nat → Int32) (e6 : F6 h = some (r, hc)) (e7 : F7 hc = some (r, h2)) (hR : Rest h hc) (hR2 : Rest hc h2) (e1 : h2.1 = hc.1) (eN : rv h2 = N') (hL : LC hc 0 n m N') (hW : WF N' n m d l) (hd : d ≤ 9999) : Okc F6 F7 h :=
  ⟨r, hc, h2, e6, e7, hI.rest (hR.trans hR2) ⟨n, m, d, l, by rw [eN]; exact hW, hd, by rw [eN]; exact LC.ref hL e1⟩⟩
theorem okW1 {F6 F7 : HP → Option (Int32 × HP)} (hI : Inv h) (r : Int32) (hc : HP) (p : Nat) (v : Int32) (e6 : F6 h = some (r, hc)) (hc2 : rv hc = rv h) (e7 : F7 hc = some (r, h_wI hc 13 0 p v)) (hR : Rest h hc) (hL : LC hc 0 n m (upn (rv h) p v)) (hW : WF (upn (rv h) p v) n m d l) (hd : d ≤ 9999) : Okc F6 F7 h :=
  okW hI r hc _ (upn (rv h) p v) e6 e7 hR (Rest.w13 (Or.inl rfl)) rfl (by rw [rv_w, hc2]) hL hW hd
theorem op_loan (a : Int32) (hI : Inv h) : Okc (f_X6_loan a) (f_X7_loan a) h := by
  obtain ⟨⟨n, m, d, l, i1, i2, i3⟩, -⟩ := id hI
  cases ha : inR a 0 30 with
  | false => exact okF hI 0 (by decide) (by simp -implicitDefEqProofs only [Option.bind_some, b0t, b0f, if_true, if_false, ite_true, ite_false, bind_eta, bind_etaV, rv_c, f_X6_loan, isUpTo_c, ha, fc1]) (fun c => by simp -implicitDefEqProofs only [Option.bind_some, b0t, b0f, if_true, if_false, ite_true, ite_false, bind_eta, bind_etaV, rv_c, f_X7_loan, in_ok, ha, fc1])
  | true =>
    have ha' := ha
    obtain ⟨k, hk, rfl⟩ := inR_of (n := 30) (by decide) ha
    refine okW1 hI (rv h 1) (h_wI h 1 0 1 (nI k)) 1 (nI k) ?_ rfl ?_ (Rest.w1 (by decide)) (lc_w1 i3 (by omega)) (l := k) (d := d) (m := m) (n := n) ?_ i2
    · simp -implicitDefEqProofs only [Option.bind_some, b0t, b0f, if_true, if_false, ite_true, ite_false, bind_eta, bind_etaV, rv_c, f_X6_loan, isUpTo_c, ha', rI_1, i3.2.1]
    · simp -implicitDefEqProofs only [Option.bind_some, b0t, b0f, if_true, if_false, ite_true, ite_false, bind_eta, bind_etaV, rv_c, f_X7_loan, in_ok, ha', show (1 : Int32) = nI 1 from rfl, becomes_r (show 1 < 64 by decide)]
      rfl
    · obtain ⟨w1, w2, w3, w4, w5, w6, w7, w8, w9, w10⟩ := i1
      exact ⟨w1, w2, w3, w4, rfl, hk, w7, w8, fun i hi => wfh_lo (by decide) (w9 i hi), fun i hi => wfm_lo (by decide) (w10 i hi)⟩
theorem op_turn (a b : Int32) (hI : Inv h) : Okc (f_X6_turn a b) (f_X7_turn a b) h := by
  obtain ⟨⟨n, m, d, l, i1, i2, i3⟩, -⟩ := id hI
  have g1 := hasHandle_c i1 i3
  have g2 := fun c => isOne_r (h := (c, h.2)) i1
  have hn8 := i1.1
  cases ha : isA a n with
  | false => exact okF hI 0 (by decide) (by simp -implicitDefEqProofs only [Option.bind_some, b0t, b0f, if_true, if_false, ite_true, ite_false, bind_eta, bind_etaV, rv_c, f_X6_turn, g_X6_turn_18, g1, ha, fc1]) (fun c => by simp -implicitDefEqProofs only [Option.bind_some, b0t, b0f, if_true, if_false, ite_true, ite_false, bind_eta, bind_etaV, rv_c, f_X7_turn, g_X7_turn_29, g2, ha, fc1])
  | true =>
    cases hb : inR b 0 5 with
    | false => exact okF hI 0 (by decide) (by simp -implicitDefEqProofs only [Option.bind_some, b0t, b0f, if_true, if_false, ite_true, ite_false, bind_eta, bind_etaV, rv_c, f_X6_turn, g_X6_turn_18, g1, ha, isKind_c, hb, fc1]) (fun c => by simp -implicitDefEqProofs only [Option.bind_some, b0t, b0f, if_true, if_false, ite_true, ite_false, bind_eta, bind_etaV, rv_c, f_X7_turn, g_X7_turn_29, g2, ha, isKind_r, hb, fc1])
    | true =>
      have ha' := ha
      obtain ⟨i, hi, rfl⟩ := isA_t (by omega) ha
      obtain ⟨k, hk, rfl⟩ := inR_of (n := 5) (by decide) hb
      refine okW1 hI (hd (rv h) i 0) (h_wI h 0 (8 * 0 + i) 0 (nI k)) (4 + 6 * i + 0) (nI k) ?_ rfl ?_ (Rest.w0 (by omega)) (lc_w0 i3 hn8 hi (by decide)) (l := l) (d := d) (m := m) (n := n) (i1.uh hi (by decide) ?_) i2
      · simp -implicitDefEqProofs only [Option.bind_some, b0t, b0f, if_true, if_false, ite_true, ite_false, bind_eta, bind_etaV, rv_c, f_X6_turn, g1, ha', isKind_c, hb, ix8 (show i < 8 by omega), rI_0, i3.hd hi 0 (by decide)]
      · rw [wI_0]
        simp -implicitDefEqProofs only [Option.bind_some, b0t, b0f, if_true, if_false, ite_true, ite_false, bind_eta, bind_etaV, rv_c, f_X7_turn, g2, ha', isKind_r, hb, ihd0, becomes_r (show 4 + 6 * i + 0 < 64 by omega)]
        rfl
      · obtain ⟨w1, w2, w3, w4, w5⟩ := i1.2.2.2.2.2.2.2.2.1 i hi
        refine ⟨⟨k, by omega, hd_s⟩, ?_, ?_, ?_, ?_⟩
        · rw [hd_n (by decide) (by decide) (by omega)]; exact w2
        · rw [hd_n (by decide) (by decide) (by omega)]; exact w3
        · rw [hd_n (by decide) (by decide) (by omega)]; exact w4
        · rw [hd_n (by decide) (by decide) (by omega), hd_n (by decide) (by decide) (by omega)]; exact w5
theorem op_set (a b v : Int32) (hI : Inv h) : Okc (f_X6_set a b v) (f_X7_set a b v) h := by
  obtain ⟨⟨n, m, d, l, i1, i2, i3⟩, -⟩ := id hI
  have g1 := hasHandle_c i1 i3
  have g2 := fun c => isOne_r (h := (c, h.2)) i1
  have hn8 := i1.1
  -- the reference, told by what the value may be
  have e7 : ∀ c, f_X7_set a b v (c, h.2) = g_X7_set_37 a b v (b2i (if b = 1 then inR v 0 15 else if b = 2 then inR v 0 15 else if b = 3 then inR v 0 99 else false)) (c, h.2) := by
    intro c
    unfold f_X7_set
    by_cases q1 : b = 1
    · simp -implicitDefEqProofs only [Option.bind_some, b0t, b0f, if_true, if_false, ite_true, ite_false, bind_eta, bind_etaV, rv_c, q1, isRoom_r]
    · by_cases q2 : b = 2
      · simp -implicitDefEqProofs only [Option.bind_some, b0t, b0f, if_true, if_false, ite_true, ite_false, bind_eta, bind_etaV, rv_c, q2, if_neg (show ¬ (2 : Int32) = 1 by decide), isRoom_r]
      · by_cases q3 : b = 3
        · simp -implicitDefEqProofs only [Option.bind_some, b0t, b0f, if_true, if_false, ite_true, ite_false, bind_eta, bind_etaV, rv_c, q3, if_neg (show ¬ (3 : Int32) = 1 by decide), if_neg (show ¬ (3 : Int32) = 2 by decide), in_ok]
          cases inR v 0 99 <;> rfl
        · simp -implicitDefEqProofs only [Option.bind_some, b0t, b0f, if_true, if_false, ite_true, ite_false, bind_eta, bind_etaV, rv_c, if_neg q1, if_neg q2, if_neg q3]
          rfl
  cases ha : isA a n with
  | false => exact okF hI 0 (by decide) (by simp -implicitDefEqProofs only [Option.bind_some, b0t, b0f, if_true, if_false, ite_true, ite_false, bind_eta, bind_etaV, rv_c, f_X6_set, g_X6_set_21, g1, ha, fc1]) (fun c => by simp -implicitDefEqProofs only [Option.bind_some, b0t, b0f, if_true, if_false, ite_true, ite_false, bind_eta, bind_etaV, rv_c, e7, g_X7_set_37, g_X7_set_68, g2, ha, fc1])
  | true =>
    cases hb : inR b 1 3 with
    | false =>
      have hne : ∀ z : Int32, inR z 1 3 = true → ¬ b = z := fun z hz e => by rw [e, hz] at hb; cases hb
      refine okF hI 0 (by decide) ?_ (fun c => by simp -implicitDefEqProofs only [Option.bind_some, b0t, b0f, if_true, if_false, ite_true, ite_false, bind_eta, bind_etaV, rv_c, e7, if_neg (hne 1 (by decide)), if_neg (hne 2 (by decide)), if_neg (hne 3 (by decide)), g_X7_set_37, g_X7_set_68, g2, ha, fc1])
      unfold inR at hb
      by_cases p : b < 1
      · simp -implicitDefEqProofs only [Option.bind_some, b0t, b0f, if_true, if_false, ite_true, ite_false, bind_eta, bind_etaV, rv_c, f_X6_set, g_X6_set_21, g1, ha, if_pos p, fc1]
      · rw [decide_eq_false p] at hb
        have p2 : ¬ b ≤ 3 := by
          intro q
          rw [decide_eq_false (Int32.not_lt.mpr q)] at hb
          cases hb
        simp -implicitDefEqProofs only [Option.bind_some, b0t, b0f, if_true, if_false, ite_true, ite_false, bind_eta, bind_etaV, rv_c, f_X6_set, g_X6_set_21, g1, ha, if_neg p, if_neg p2, fc1]
    | true =>
      have ha' := ha
      obtain ⟨i, hi, rfl⟩ := isA_t (by omega) ha
      obtain ⟨w1, w2, w3, w4, w5⟩ := i1.2.2.2.2.2.2.2.2.1 i hi
      have hb3 : b = 1 ∨ b = 2 ∨ b = 3 := by
        unfold inR at hb
        simp only [Bool.and_eq_true, Bool.not_eq_true', decide_eq_false_iff_not] at hb
        obtain ⟨p, q⟩ := hb
        have p0 : ¬ b < 0 := fun z => p (Int32.lt_trans z (by decide))
        obtain ⟨k, hk, rfl⟩ := nI_of2 (n := 3) (M := 3) (by decide) p0 (Int32.not_lt.mp q)
        match k, hk with
        | 0, _ => exact absurd (by decide) p
        | 1, _ => exact Or.inl rfl
        | 2, _ => exact Or.inr (Or.inl rfl)
        | 3, _ => exact Or.inr (Or.inr rfl)
      rcases hb3 with rfl | rfl | rfl
      · cases hv : inR v 0 15 with
        | false => exact okF hI 0 (by decide) (by simp -implicitDefEqProofs only [Option.bind_some, b0t, b0f, if_true, if_false, ite_true, ite_false, bind_eta, bind_etaV, rv_c, f_X6_set, g_X6_set_52, g1, ha', if_neg (show ¬ (1 : Int32) < 1 by decide), if_pos (show (1 : Int32) ≤ 3 by decide), if_neg (show ¬ (1 : Int32) = 3 by decide), isRoom_c, hv, fc1]) (fun c => by simp -implicitDefEqProofs only [Option.bind_some, b0t, b0f, if_true, if_false, ite_true, ite_false, bind_eta, bind_etaV, rv_c, e7, hv, g_X7_set_37, g_X7_set_68, g2, ha', fc1])
        | true =>
          obtain ⟨k, hk, rfl⟩ := inR_of (n := 15) (by decide) hv
          refine okW1 hI (hd (rv h) i 1) (h_wI h 0 (8 * 0 + i) 1 (nI k)) (4 + 6 * i + 1) (nI k) ?_ rfl ?_ (Rest.w0 (by omega)) (lc_w0 i3 hn8 hi (by decide)) (l := l) (d := d) (m := m) (n := n) (i1.uh hi (by decide) ?_) i2
          · simp -implicitDefEqProofs only [Option.bind_some, b0t, b0f, if_true, if_false, ite_true, ite_false, bind_eta, bind_etaV, rv_c, f_X6_set, g_X6_set_59, g1, ha', if_neg (show ¬ (1 : Int32) < 1 by decide), if_pos (show (1 : Int32) ≤ 3 by decide), if_neg (show ¬ (1 : Int32) = 3 by decide), isRoom_c, hv, ix8 (show i < 8 by omega), rI_0, i3.hd hi 1 (by decide)]
          · rw [wI_0]
            simp -implicitDefEqProofs only [Option.bind_some, b0t, b0f, if_true, if_false, ite_true, ite_false, bind_eta, bind_etaV, rv_c, e7, hv, g_X7_set_37, g2, ha']
            rw [show (1 : Int32) = nI 1 from rfl, ihd, becomes_r (show 4 + 6 * i + 1 < 64 by omega)]
            rfl
          · refine ⟨?_, ⟨k, by omega, hd_s⟩, ?_, ?_, ?_⟩
            · rw [hd_n (by decide) (by decide) (by omega)]; exact w1
            · rw [hd_n (by decide) (by decide) (by omega)]; exact w3
            · rw [hd_n (by decide) (by decide) (by omega)]; exact w4
            · rw [hd_n (by decide) (by decide) (by omega), hd_n (by decide) (by decide) (by omega)]; exact w5
      · cases hv : inR v 0 15 with
        | false => exact okF hI 0 (by decide) (by simp -implicitDefEqProofs only [Option.bind_some, b0t, b0f, if_true, if_false, ite_true, ite_false, bind_eta, bind_etaV, rv_c, f_X6_set, g_X6_set_52, g1, ha', if_neg (show ¬ (2 : Int32) < 1 by decide), if_pos (show (2 : Int32) ≤ 3 by decide), if_neg (show ¬ (2 : Int32) = 3 by decide), isRoom_c, hv, fc1]) (fun c => by simp -implicitDefEqProofs only [Option.bind_some, b0t, b0f, if_true, if_false, ite_true, ite_false, bind_eta, bind_etaV, rv_c, e7, if_neg (show ¬ (2 : Int32) = 1 by decide), hv, g_X7_set_37, g_X7_set_68, g2, ha', fc1])
        | true =>
          obtain ⟨k, hk, rfl⟩ := inR_of (n := 15) (by decide) hv
          refine okW1 hI (hd (rv h) i 2) (h_wI h 0 (8 * 0 + i) 2 (nI k)) (4 + 6 * i + 2) (nI k) ?_ rfl ?_ (Rest.w0 (by omega)) (lc_w0 i3 hn8 hi (by decide)) (l := l) (d := d) (m := m) (n := n) (i1.uh hi (by decide) ?_) i2
          · simp -implicitDefEqProofs only [Option.bind_some, b0t, b0f, if_true, if_false, ite_true, ite_false, bind_eta, bind_etaV, rv_c, f_X6_set, g_X6_set_59, g1, ha', if_neg (show ¬ (2 : Int32) < 1 by decide), if_pos (show (2 : Int32) ≤ 3 by decide), if_neg (show ¬ (2 : Int32) = 3 by decide), if_neg (show ¬ (2 : Int32) = 1 by decide), isRoom_c, hv, ix8 (show i < 8 by omega), rI_0, i3.hd hi 2 (by decide)]
          · rw [wI_0]
            simp -implicitDefEqProofs only [Option.bind_some, b0t, b0f, if_true, if_false, ite_true, ite_false, bind_eta, bind_etaV, rv_c, e7, if_neg (show ¬ (2 : Int32) = 1 by decide), hv, g_X7_set_37, g2, ha']
            rw [show (4 + (6 * nI i)) + (2 : Int32) = nI (4 + 6 * i + 2) from ihd i 2, becomes_r (show 4 + 6 * i + 2 < 64 by omega)]
            rfl
          · refine ⟨?_, ?_, ⟨k, by omega, hd_s⟩, ?_, ?_⟩
            · rw [hd_n (by decide) (by decide) (by omega)]; exact w1
            · rw [hd_n (by decide) (by decide) (by omega)]; exact w2
            · rw [hd_n (by decide) (by decide) (by omega)]; exact w4
            · rw [hd_n (by decide) (by decide) (by omega), hd_n (by decide) (by decide) (by omega)]; exact w5
      · cases hv : inR v 0 99 with
        | false => exact okF hI 0 (by decide) (by simp -implicitDefEqProofs only [Option.bind_some, b0t, b0f, if_true, if_false, ite_true, ite_false, bind_eta, bind_etaV, rv_c, f_X6_set, g_X6_set_52, g1, ha', if_neg (show ¬ (3 : Int32) < 1 by decide), if_pos (show (3 : Int32) ≤ 3 by decide), isUpTo_c, hv, fc1]) (fun c => by simp -implicitDefEqProofs only [Option.bind_some, b0t, b0f, if_true, if_false, ite_true, ite_false, bind_eta, bind_etaV, rv_c, e7, if_neg (show ¬ (3 : Int32) = 1 by decide), if_neg (show ¬ (3 : Int32) = 2 by decide), hv, g_X7_set_37, g_X7_set_68, g2, ha', fc1])
        | true =>
          obtain ⟨k, hk, rfl⟩ := inR_of (n := 99) (by decide) hv
          refine okW1 hI (hd (rv h) i 3) (h_wI h 0 (8 * 0 + i) 3 (nI k)) (4 + 6 * i + 3) (nI k) ?_ rfl ?_ (Rest.w0 (by omega)) (lc_w0 i3 hn8 hi (by decide)) (l := l) (d := d) (m := m) (n := n) (i1.uh hi (by decide) ?_) i2
          · simp -implicitDefEqProofs only [Option.bind_some, b0t, b0f, if_true, if_false, ite_true, ite_false, bind_eta, bind_etaV, rv_c, f_X6_set, g_X6_set_59, g1, ha', if_neg (show ¬ (3 : Int32) < 1 by decide), if_pos (show (3 : Int32) ≤ 3 by decide), if_neg (show ¬ (3 : Int32) = 1 by decide), if_neg (show ¬ (3 : Int32) = 2 by decide), isUpTo_c, hv, ix8 (show i < 8 by omega), rI_0, i3.hd hi 3 (by decide)]
          · rw [wI_0]
            simp -implicitDefEqProofs only [Option.bind_some, b0t, b0f, if_true, if_false, ite_true, ite_false, bind_eta, bind_etaV, rv_c, e7, if_neg (show ¬ (3 : Int32) = 1 by decide), if_neg (show ¬ (3 : Int32) = 2 by decide), hv, g_X7_set_37, g2, ha']
            rw [show (4 + (6 * nI i)) + (3 : Int32) = nI (4 + 6 * i + 3) from ihd i 3, becomes_r (show 4 + 6 * i + 3 < 64 by omega)]
            rfl
          · refine ⟨?_, ?_, ?_, ⟨k, by omega, hd_s⟩, ?_⟩
            · rw [hd_n (by decide) (by decide) (by omega)]; exact w1
            · rw [hd_n (by decide) (by decide) (by omega)]; exact w2
            · rw [hd_n (by decide) (by decide) (by omega)]; exact w3
            · rw [hd_n (by decide) (by decide) (by omega), hd_n (by decide) (by decide) (by omega)]; exact w5
theorem op_place (a b v : Int32) (hI : Inv h) : Okc (f_X6_place a b v) (f_X7_place a b v) h := by
  obtain ⟨⟨n, m, d, l, i1, i2, i3⟩, -⟩ := id hI
  have g1 := hasMember_c i1 i3
  have g2 := fun c => isMember_r (h := (c, h.2)) i1
  have hn8 := i1.1
  have hm6 := i1.2.1
  have e7 : ∀ c, f_X7_place a b v (c, h.2) = g_X7_place_32 a b v (b2i (if b = 0 then inR v 0 15 else if b = 1 then inR v 0 9999 else false)) (c, h.2) := by
    intro c
    unfold f_X7_place
    by_cases q1 : b = 0
    · simp -implicitDefEqProofs only [Option.bind_some, b0t, b0f, if_true, if_false, ite_true, ite_false, bind_eta, bind_etaV, rv_c, q1, isRoom_r]
    · by_cases q3 : b = 1
      · simp -implicitDefEqProofs only [Option.bind_some, b0t, b0f, if_true, if_false, ite_true, ite_false, bind_eta, bind_etaV, rv_c, q3, if_neg (show ¬ (1 : Int32) = 0 by decide), in_ok]
        cases inR v 0 9999 <;> rfl
      · simp -implicitDefEqProofs only [Option.bind_some, b0t, b0f, if_true, if_false, ite_true, ite_false, bind_eta, bind_etaV, rv_c, if_neg q1, if_neg q3]
        rfl
  cases ha : isA a m with
  | false => exact okF hI 0 (by decide) (by simp -implicitDefEqProofs only [Option.bind_some, b0t, b0f, if_true, if_false, ite_true, ite_false, bind_eta, bind_etaV, rv_c, f_X6_place, g_X6_place_20, g1, ha, fc1]) (fun c => by simp -implicitDefEqProofs only [Option.bind_some, b0t, b0f, if_true, if_false, ite_true, ite_false, bind_eta, bind_etaV, rv_c, e7, g_X7_place_32, g_X7_place_63, g2, ha, fc1])
  | true =>
    cases hb : inR b 0 1 with
    | false =>
      have hne : ∀ z : Int32, inR z 0 1 = true → ¬ b = z := fun z hz e => by rw [e, hz] at hb; cases hb
      refine okF hI 0 (by decide) ?_ (fun c => by simp -implicitDefEqProofs only [Option.bind_some, b0t, b0f, if_true, if_false, ite_true, ite_false, bind_eta, bind_etaV, rv_c, e7, if_neg (hne 1 (by decide)), if_neg (hne 0 (by decide)), g_X7_place_32, g_X7_place_63, g2, ha, fc1])
      unfold inR at hb
      by_cases p : b < 0
      · simp -implicitDefEqProofs only [Option.bind_some, b0t, b0f, if_true, if_false, ite_true, ite_false, bind_eta, bind_etaV, rv_c, f_X6_place, g_X6_place_20, g1, ha, if_pos p, fc1]
      · rw [decide_eq_false p] at hb
        have p2 : ¬ b ≤ 1 := by
          intro q
          rw [decide_eq_false (Int32.not_lt.mpr q)] at hb
          cases hb
        simp -implicitDefEqProofs only [Option.bind_some, b0t, b0f, if_true, if_false, ite_true, ite_false, bind_eta, bind_etaV, rv_c, f_X6_place, g_X6_place_20, g1, ha, if_neg p, if_neg p2, fc1]
    | true =>
      have ha' := ha
      obtain ⟨i, hi, rfl⟩ := isA_t (by omega) ha
      obtain ⟨w1, w2⟩ := i1.2.2.2.2.2.2.2.2.2 i hi
      have hb3 : b = 0 ∨ b = 1 := by
        obtain ⟨k, hk, rfl⟩ := inR_of (n := 1) (by decide) hb
        match k, hk with
        | 0, _ => exact Or.inl rfl
        | 1, _ => exact Or.inr rfl
      rcases hb3 with rfl | rfl
      · cases hv : inR v 0 15 with
        | false => exact okF hI 0 (by decide) (by simp -implicitDefEqProofs only [Option.bind_some, b0t, b0f, if_true, if_false, ite_true, ite_false, bind_eta, bind_etaV, rv_c, f_X6_place, g_X6_place_51, g1, ha', if_neg (show ¬ (0 : Int32) < 0 by decide), if_pos (show (0 : Int32) ≤ 1 by decide), isRoom_c, hv, fc1]) (fun c => by simp -implicitDefEqProofs only [Option.bind_some, b0t, b0f, if_true, if_false, ite_true, ite_false, bind_eta, bind_etaV, rv_c, e7, hv, g_X7_place_32, g_X7_place_63, g2, ha', fc1])
        | true =>
          obtain ⟨k, hk, rfl⟩ := inR_of (n := 15) (by decide) hv
          refine okW1 hI (mb (rv h) i 0) (h_wI h 2 (6 * 0 + i) 0 (nI k)) (52 + 2 * i + 0) (nI k) ?_ rfl ?_ (Rest.w2 (by omega)) (lc_w2 i3 hn8 hi (by decide)) (l := l) (d := d) (m := m) (n := n) (i1.um hi (by decide) ?_) i2
          · simp -implicitDefEqProofs only [Option.bind_some, b0t, b0f, if_true, if_false, ite_true, ite_false, bind_eta, bind_etaV, rv_c, f_X6_place, g_X6_place_58, g1, ha', if_neg (show ¬ (0 : Int32) < 0 by decide), if_pos (show (0 : Int32) ≤ 1 by decide), isRoom_c, hv, ix6 (show i < 6 by omega), rI_2, i3.mb hi 0 (by decide)]
          · rw [wI_2]
            simp -implicitDefEqProofs only [Option.bind_some, b0t, b0f, if_true, if_false, ite_true, ite_false, bind_eta, bind_etaV, rv_c, e7, hv, g_X7_place_32, g2, ha']
            rw [show (52 + (2 * nI i)) + (0 : Int32) = nI (52 + 2 * i + 0) from imb i 0, becomes_r (show 52 + 2 * i + 0 < 64 by omega)]
            rfl
          · refine ⟨⟨k, by omega, mb_s⟩, ?_⟩
            rw [mb_n (by decide) (by decide) (by omega)]; exact w2
      · cases hv : inR v 0 9999 with
        | false => exact okF hI 0 (by decide) (by simp -implicitDefEqProofs only [Option.bind_some, b0t, b0f, if_true, if_false, ite_true, ite_false, bind_eta, bind_etaV, rv_c, f_X6_place, g_X6_place_51, g1, ha', if_neg (show ¬ (1 : Int32) < 0 by decide), if_pos (show (1 : Int32) ≤ 1 by decide), if_neg (show ¬ (1 : Int32) = 0 by decide), isUpTo_c, hv, fc1]) (fun c => by simp -implicitDefEqProofs only [Option.bind_some, b0t, b0f, if_true, if_false, ite_true, ite_false, bind_eta, bind_etaV, rv_c, e7, if_neg (show ¬ (1 : Int32) = 0 by decide), hv, g_X7_place_32, g_X7_place_63, g2, ha', fc1])
        | true =>
          obtain ⟨k, hk, rfl⟩ := inR_of (n := 9999) (by decide) hv
          refine okW1 hI (mb (rv h) i 1) (h_wI h 2 (6 * 0 + i) 1 (nI k)) (52 + 2 * i + 1) (nI k) ?_ rfl ?_ (Rest.w2 (by omega)) (lc_w2 i3 hn8 hi (by decide)) (l := l) (d := d) (m := m) (n := n) (i1.um hi (by decide) ?_) i2
          · simp -implicitDefEqProofs only [Option.bind_some, b0t, b0f, if_true, if_false, ite_true, ite_false, bind_eta, bind_etaV, rv_c, f_X6_place, g_X6_place_58, g1, ha', if_neg (show ¬ (1 : Int32) < 0 by decide), if_pos (show (1 : Int32) ≤ 1 by decide), if_neg (show ¬ (1 : Int32) = 0 by decide), isUpTo_c, hv, ix6 (show i < 6 by omega), rI_2, i3.mb hi 1 (by decide)]
          · rw [wI_2]
            simp -implicitDefEqProofs only [Option.bind_some, b0t, b0f, if_true, if_false, ite_true, ite_false, bind_eta, bind_etaV, rv_c, e7, if_neg (show ¬ (1 : Int32) = 0 by decide), hv, g_X7_place_32, g2, ha']
            rw [show (52 + (2 * nI i)) + (1 : Int32) = nI (52 + 2 * i + 1) from imb i 1, becomes_r (show 52 + 2 * i + 1 < 64 by omega)]
            rfl
          · refine ⟨?_, ⟨k, by omega, mb_s⟩⟩
            rw [mb_n (by decide) (by decide) (by omega)]; exact w1
end WRITES
