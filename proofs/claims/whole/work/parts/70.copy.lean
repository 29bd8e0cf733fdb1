/-! PURE: copy -/
def ptB (z a b : Int32) : Bool := !decide (a < 0) && (!decide (b < 0) && (!decide (z < b) && !decide (z - b < a)))
theorem ptB_t {z : Nat} {a b : Int32} (hz : z ≤ 40) (q : ptB (nI z) a b = true) : ∃ i c, a = nI i ∧ b = nI c ∧ i + c ≤ z := by
  unfold ptB at q
  simp only [Bool.and_eq_true, Bool.not_eq_true', decide_eq_false_iff_not] at q
  obtain ⟨q1, q2, q3, q4⟩ := q
  obtain ⟨i, hi, rfl⟩ := nI_of q1
  obtain ⟨c, hc, rfl⟩ := nI_of q2
  have h3 : ¬ z < c := fun y => q3 ((nI_ltI (by omega) hc).mpr y)
  rw [pk_sub (by omega)] at q4
  have h4 : ¬ z - c < i := fun y => q4 ((nI_ltI (by omega) hi).mpr y)
  exact ⟨i, c, rfl, rfl, by omega⟩
section COPY
variable {h : HP}
theorem part_c {s : Nat} {a b z : Int32} (e : h.1.1 3 s 1 = z) : f_X3_hasPart s a b h = some (b2i (ptB z a b), h) := by
  unfold f_X3_hasPart ptB
  rw [rI_3, e]
  by_cases q1 : a < 0 <;> by_cases q2 : b < 0 <;> by_cases q3 : z < b <;> by_cases q4 : z - b < a <;> simp [q1, q2, q3, q4, b2i]
theorem part_r {s : Nat} {a b z : Int32} (hs : s < 4) (e : h.2.1 13 5 s = z) : f_X7_isPart (nI s) a b h = some (b2i (ptB z a b), h) := by
  unfold f_X7_isPart ptB
  simp only [ix4 hs, Option.bind_some, rI_13, e]
  by_cases q1 : a < 0 <;> by_cases q2 : b < 0 <;> by_cases q3 : z < b <;> by_cases q4 : z - b < a <;> simp [q1, q2, q3, q4, b2i]
theorem ix160b {s i k : Nat} (h : 40 * s + i + k < 160) : am_ix (((40 * nI s) + nI i) + nI k) 160 = some (40 * s + i + k) := by
  rw [show (40 : Int32) = nI 40 from rfl, pk_mul, nI_add, nI_add, ix_nI h (by decide)]
theorem cp_lent {s fr c : Nat} {a3 a4 : Int32} (hs : s < 4) (hc : fr + c ≤ 40) : ∀ (j f i : Nat) (y : HP), i + j = c → j < f → ∃ y', y'.1 = y.1 ∧ y'.2.1 = y.2.1 ∧ (∀ c' j k, ¬ (c' = 14 ∧ j = 1) → y'.2.2 c' j k = y.2.2 c' j k) ∧ (∀ k, k < i → y'.2.2 14 1 k = y.2.2 14 1 k) ∧ (∀ k, i ≤ k → k < c → y'.2.2 14 1 k = y.2.2 14 0 (40 * s + fr + k)) ∧ g_X7_copy_102 f (nI s) (nI fr) a3 a4 (nI c) (nI i) y = g_X7_copy_139 am_fu a3 a4 (nI c) (nI 0) y'
  | 0, f, i, y, h1, h2 => by
    obtain ⟨f, rfl⟩ : ∃ z, f = z + 1 := ⟨f - 1, by omega⟩
    refine ⟨y, rfl, rfl, fun _ _ _ _ => rfl, fun _ _ => rfl, fun k a b => absurd b (by omega), ?_⟩
    rw [g_X7_copy_102, show i = c by omega, if_pos nI_le_n]
    rfl
  | j + 1, f, i, y, h1, h2 => by
    obtain ⟨f, rfl⟩ : ∃ z, f = z + 1 := ⟨f - 1, by omega⟩
    have hi : i < c := by omega
    obtain ⟨y', a1, a2, a3', a4', a5, a6⟩ := cp_lent (a3 := a3) (a4 := a4) hs hc j f (i + 1) (h_wJ y 14 1 i (y.2.2 14 0 (40 * s + fr + i))) (by omega) (by omega)
    rw [wJ_14] at a1 a2 a3' a4' a5
    refine ⟨y', a1, a2, fun c' j k hq => (a3' c' j k hq).trans (upx hq), fun k hk => (a4' k (by omega)).trans (up_k (by omega)), fun k h3 h4 => ?_, ?_⟩
    · by_cases q : k = i
      · subst q
        exact (a4' k (by omega)).trans up_s
      · rw [a5 k (by omega) h4]
        show am_up y.2.2 14 1 i (y.2.2 14 0 (40 * s + fr + i)) 14 0 (40 * s + fr + k) = _
        exact upx (by omega)
    · rw [g_X7_copy_102, if_neg (nI_le_i (by omega) (by omega) hi), ix160b (by omega), Option.bind_some, ix_nI (show i < 40 by omega) (by decide), Option.bind_some, rJ_14, nI_1]
      exact a6
theorem cp_put {t to c : Nat} (ht : t < 4) (hc : to + c ≤ 40) : ∀ (j f i : Nat) (y : HP), i + j = c → j < f → ∃ y', y'.1 = y.1 ∧ y'.2.1 = y.2.1 ∧ (∀ c' j k, ¬ (c' = 14 ∧ j = 0) → y'.2.2 c' j k = y.2.2 c' j k) ∧ (∀ k, y'.2.2 14 0 k = if 40 * t + to + i ≤ k ∧ k < 40 * t + to + c then y.2.2 14 1 (k - (40 * t + to)) else y.2.2 14 0 k) ∧ g_X7_copy_139 f (nI t) (nI to) (nI c) (nI i) y = some (nI c, y')
  | 0, f, i, y, h1, h2 => by
    obtain ⟨f, rfl⟩ : ∃ z, f = z + 1 := ⟨f - 1, by omega⟩
    refine ⟨y, rfl, rfl, fun _ _ _ _ => rfl, fun k => (if_neg (by omega)).symm, ?_⟩
    rw [g_X7_copy_139, show i = c by omega, if_pos nI_le_n]
  | j + 1, f, i, y, h1, h2 => by
    obtain ⟨f, rfl⟩ : ∃ z, f = z + 1 := ⟨f - 1, by omega⟩
    have hi : i < c := by omega
    obtain ⟨y', a1, a2, a3, a4, a5⟩ := cp_put ht hc j f (i + 1) (h_wJ y 14 0 (40 * t + to + i) (y.2.2 14 1 i)) (by omega) (by omega)
    rw [wJ_14] at a1 a2 a3 a4
    refine ⟨y', a1, a2, fun c' j k hq => (a3 c' j k hq).trans (upx hq), fun k => ?_, ?_⟩
    · rw [a4 k]
      show (if _ then am_up y.2.2 14 0 (40 * t + to + i) (y.2.2 14 1 i) 14 1 (k - (40 * t + to)) else am_up y.2.2 14 0 (40 * t + to + i) (y.2.2 14 1 i) 14 0 k) = _
      rw [upx (show ¬ (14 = 14 ∧ 1 = 0) by omega)]
      by_cases q : k = 40 * t + to + i
      · subst q
        rw [if_neg (by omega), if_pos (by omega), up_s, show 40 * t + to + i - (40 * t + to) = i by omega]
      · rw [up_k q]
        by_cases q2 : 40 * t + to + (i + 1) ≤ k ∧ k < 40 * t + to + c
        · rw [if_pos q2, if_pos (by omega)]
        · rw [if_neg q2, if_neg (by omega)]
    · rw [g_X7_copy_139, if_neg (nI_le_i (by omega) (by omega) hi), ix_nI (show i < 40 by omega) (by decide), Option.bind_some, ix160b (by omega), Option.bind_some, rJ_14, nI_1]
      exact a5
theorem op_copy (a b e f g : Int32) (hI : Inv h) : Okc (f_X6_copy a b e f g) (f_X7_copy a b e f g) h := by
  obtain ⟨iL, iI, iT, iS, iF⟩ := id hI
  cases ha : inR a 0 3 with
  | false => exact okF hI 0 (by decide) (by simp -implicitDefEqProofs only [Option.bind_some, b0t, b0f, if_true, if_false, ite_true, ite_false, bind_eta, bind_etaV, rv_c, f_X6_copy, g_X6_copy_14, isSheet_c, ha, fc1]) (fun c => by simp -implicitDefEqProofs only [Option.bind_some, b0t, b0f, if_true, if_false, ite_true, ite_false, bind_eta, bind_etaV, rv_c, f_X7_copy, g_X7_copy_14, isSheet_r, ha, fc1])
  | true =>
    cases he : inR e 0 3 with
    | false => exact okF hI 0 (by decide) (by simp -implicitDefEqProofs only [Option.bind_some, b0t, b0f, if_true, if_false, ite_true, ite_false, bind_eta, bind_etaV, rv_c, f_X6_copy, g_X6_copy_14, isSheet_c, ha, he, fc1]) (fun c => by simp -implicitDefEqProofs only [Option.bind_some, b0t, b0f, if_true, if_false, ite_true, ite_false, bind_eta, bind_etaV, rv_c, f_X7_copy, g_X7_copy_14, isSheet_r, ha, he, fc1])
    | true =>
      have ha' := ha
      have he' := he
      obtain ⟨s, hs, rfl⟩ := inR_of (n := 3) (by decide) ha
      obtain ⟨t, ht, rfl⟩ := inR_of (n := 3) (by decide) he
      have hs4 : s < 4 := by omega
      have ht4 : t < 4 := by omega
      obtain ⟨s1, s2, s3, ⟨z, hz, s4⟩, s5⟩ := iS s hs4
      obtain ⟨t1, t2, t3, ⟨y, hy, t4⟩, t5⟩ := iS t ht4
      by_cases q : h.2.1 13 4 s = 0
      · refine okF hI 5 (by decide) ?_ (fun c => ?_)
        · simp -implicitDefEqProofs only [Option.bind_some, b0t, b0f, if_true, if_false, ite_true, ite_false, bind_eta, bind_etaV, rv_c, f_X6_copy, g_X6_copy_53, isSheet_c, ha', he', ix4 hs4, ix4 ht4, missing_c, s1, decide_eq_true q, fc6]
        · simp -implicitDefEqProofs only [Option.bind_some, b0t, b0f, if_true, if_false, ite_true, ite_false, bind_eta, bind_etaV, rv_c, f_X7_copy, g_X7_copy_39, isSheet_r, ha', he', ix4 hs4, ix4 ht4, rI_13, q, fc6]
      · by_cases q2 : h.2.1 13 4 t = 0
        · refine okF hI 5 (by decide) ?_ (fun c => ?_)
          · simp -implicitDefEqProofs only [Option.bind_some, b0t, b0f, if_true, if_false, ite_true, ite_false, bind_eta, bind_etaV, rv_c, f_X6_copy, g_X6_copy_53, isSheet_c, ha', he', ix4 hs4, ix4 ht4, missing_c, s1, t1, decide_eq_false q, decide_eq_true q2, fc6]
          · simp -implicitDefEqProofs only [Option.bind_some, b0t, b0f, if_true, if_false, ite_true, ite_false, bind_eta, bind_etaV, rv_c, f_X7_copy, g_X7_copy_39, isSheet_r, ha', he', ix4 hs4, ix4 ht4, rI_13, if_neg q, q2, fc6]
        · by_cases q3 : h.2.1 13 4 s = h.2.1 13 4 t
          · have pc1 := part_c (h := h) (s := s) (a := b) (b := g) (s2.trans s4)
            have pc2 := part_c (h := h) (s := t) (a := f) (b := g) (t2.trans t4)
            have pr1 := fun c => part_r (h := (c, h.2)) (s := s) (a := b) (b := g) hs4 s4
            have pr2 := fun c => part_r (h := (c, h.2)) (s := t) (a := f) (b := g) ht4 t4
            cases p1 : ptB (nI z) b g with
            | false =>
              refine okF hI 0 (by decide) ?_ (fun c => ?_)
              · simp -implicitDefEqProofs only [Option.bind_some, b0t, b0f, if_true, if_false, ite_true, ite_false, bind_eta, bind_etaV, rv_c, f_X6_copy, g_X6_copy_104, isSheet_c, ha', he', ix4 hs4, ix4 ht4, missing_c, s1, t1, decide_eq_false q, decide_eq_false q2, rI_3, if_pos q3, pc1, p1, fc1]
              · simp -implicitDefEqProofs only [Option.bind_some, b0t, b0f, if_true, if_false, ite_true, ite_false, bind_eta, bind_etaV, rv_c, f_X7_copy, g_X7_copy_92, isSheet_r, ha', he', ix4 hs4, ix4 ht4, rI_13, if_neg q, if_neg q2, if_pos q3, pr1, p1, fc1]
            | true =>
              cases p2 : ptB (nI y) f g with
              | false =>
                refine okF hI 0 (by decide) ?_ (fun c => ?_)
                · simp -implicitDefEqProofs only [Option.bind_some, b0t, b0f, if_true, if_false, ite_true, ite_false, bind_eta, bind_etaV, rv_c, f_X6_copy, g_X6_copy_104, isSheet_c, ha', he', ix4 hs4, ix4 ht4, missing_c, s1, t1, decide_eq_false q, decide_eq_false q2, rI_3, if_pos q3, pc1, p1, pc2, p2, fc1]
                · simp -implicitDefEqProofs only [Option.bind_some, b0t, b0f, if_true, if_false, ite_true, ite_false, bind_eta, bind_etaV, rv_c, f_X7_copy, g_X7_copy_92, isSheet_r, ha', he', ix4 hs4, ix4 ht4, rI_13, if_neg q, if_neg q2, if_pos q3, pr1, p1, pr2, p2, fc1]
              | true =>
                have p1' := p1
                have p2' := p2
                obtain ⟨fr, c, rfl, rfl, hc⟩ := ptB_t hz p1
                obtain ⟨to, c', rfl, hcc, hc'⟩ := ptB_t hy p2
                have hce : c' = c := (nI_eq (a := c') (b := c) (by omega) (by omega)).mp hcc.symm
                subst hce
                have ecl : (h_cp h s t fr to c').2 = h.2 := rfl
                have no : ¬ (nI fr < 0 ∨ nI to < 0 ∨ nI c' < 0 ∨ 40 < Int32.toNatClampNeg (nI fr) + Int32.toNatClampNeg (nI c') ∨ 40 < Int32.toNatClampNeg (nI to) + Int32.toNatClampNeg (nI c')) := by
                  rw [nI_clamp (by omega), nI_clamp (by omega), nI_clamp (by omega)]
                  rintro (w | w | w | w | w)
                  · exact nI_pos (by omega) w
                  · exact nI_pos (by omega) w
                  · exact nI_pos (by omega) w
                  · omega
                  · omega
                obtain ⟨y1, a1, a2, a3, a4, a5, a6⟩ := cp_lent (s := s) (fr := fr) (c := c') (a3 := nI t) (a4 := nI to) hs4 (by omega) c' am_fu 0 ((h_cp h s t fr to c').1, h.2) (by omega) (fu_lt (by omega))
                obtain ⟨y2, b1, b2, b3, b4, b5⟩ := cp_put (t := t) (to := to) (c := c') ht4 (by omega) c' am_fu 0 y1 (by omega) (fu_lt (by omega))
                have e1 : y2.1 = (h_cp h s t fr to c').1 := b1.trans a1
                have e2 : y2.2.1 = h.2.1 := b2.trans a2
                have eW : ∀ k, y2.2.2 14 0 k = if 40 * t + to + 0 ≤ k ∧ k < 40 * t + to + c' then h.2.2 14 0 (40 * s + fr + (k - (40 * t + to))) else h.2.2 14 0 k := fun k => by
                  rw [b4 k]
                  by_cases w : 40 * t + to + 0 ≤ k ∧ k < 40 * t + to + c'
                  · rw [if_pos w, if_pos w, a5 _ (by omega) (by omega)]
                  · rw [if_neg w, if_neg w, a3 14 0 k (by omega)]
                refine ⟨nI c', h_cp h s t fr to c', y2, ?_, ?_, ?_, ?_, ?_, fun s' hs' => ?_, ?_⟩
                · simp -implicitDefEqProofs only [Option.bind_some, b0t, b0f, if_true, if_false, ite_true, ite_false, bind_eta, bind_etaV, rv_c, f_X6_copy, isSheet_c, ha', he', ix4 hs4, ix4 ht4, missing_c, s1, t1, decide_eq_false q, decide_eq_false q2, rI_3, if_pos q3, pc1, p1', pc2, p2', if_neg no]
                  rw [nI_clamp (by omega), nI_clamp (by omega), nI_clamp (by omega)]
                · show f_X7_copy (nI s) (nI fr) (nI t) (nI to) (nI c') ((h_cp h s t fr to c').1, h.2) = _
                  simp -implicitDefEqProofs only [Option.bind_some, b0t, b0f, if_true, if_false, ite_true, ite_false, bind_eta, bind_etaV, rv_c, f_X7_copy, isSheet_r, ha', he', ix4 hs4, ix4 ht4, rI_13, if_neg q, if_neg q2, if_pos q3, pr1, p1', pr2, p2']
                  exact a6.trans b5
                · refine ilib_congr (h := h) ?_ ?_ ?_ ?_ iL
                  all_goals first | (rw [e2]; done) | (rw [e1]; rfl)
                · refine iimg_congr (h := h) ?_ ?_ ?_ ?_ ?_ ?_ iI
                  all_goals first | (rw [e2]; done) | (rw [e1]; rfl)
                · refine itap_congr (h := h) ?_ ?_ ?_ ?_ iT
                  all_goals first | (rw [e2]; done) | (rw [e1]; rfl)
                · obtain ⟨A, B, C, E, F⟩ := iS s' hs'
                  rw [e2, e1]
                  refine ⟨A, B, C, E, fun k hk => ?_⟩
                  rw [eW]
                  show (if 12 = 12 ∧ s' = t then va_cpy (h.1.2 12 s) (h.1.2 12 t) fr to c' k else h.1.2 12 s' k) = _
                  by_cases w : s' = t
                  · subst w
                    rw [if_pos ⟨rfl, rfl⟩]
                    by_cases w2 : to ≤ k ∧ k < to + c'
                    · rw [pk_cpy_in w2.1 w2.2, if_pos (by omega), s5 _ (by omega)]
                      exact congrArg (h.2.2 14 0) (by omega)
                    · rw [pk_cpy_out (by omega), if_neg (by omega)]
                      exact F k hk
                  · rw [if_neg (fun w2 => w w2.2), if_neg (by omega)]
                    exact F k hk
                · refine itol_congr (h := h) ?_ ?_ iF
                  all_goals first | (rw [e2]; done) | (rw [e1]; rfl)
          · refine okF hI 2 (by decide) ?_ (fun c => ?_)
            · simp -implicitDefEqProofs only [Option.bind_some, b0t, b0f, if_true, if_false, ite_true, ite_false, bind_eta, bind_etaV, rv_c, f_X6_copy, isSheet_c, ha', he', ix4 hs4, ix4 ht4, missing_c, s1, t1, decide_eq_false q, decide_eq_false q2, rI_3, if_neg q3, fc3]
            · simp -implicitDefEqProofs only [Option.bind_some, b0t, b0f, if_true, if_false, ite_true, ite_false, bind_eta, bind_etaV, rv_c, f_X7_copy, isSheet_r, ha', he', ix4 hs4, ix4 ht4, rI_13, if_neg q, if_neg q2, if_neg q3, fc3]
end COPY
