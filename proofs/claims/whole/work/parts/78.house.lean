/-! PURE: house -/
section HOUSE
variable {h : HP}
theorem mv7_to (h : HP) : ∃ g, f_X7_moveAll 1 7 h = some g ∧ FR 7 h g ∧ ∀ k, k < 64 → g.2.1 13 7 k = rv h k := by
  have hl : am_len 13 7 = 64 := by decide
  refine ⟨fo (fun i g => h_wI g 13 7 i (h_rI g 13 0 i)) 64 0 h, ?_, ?_⟩
  · unfold f_X7_moveAll
    refine lp_up (g := fun n g x => g_X7_moveAll_2 n 1 7 x g) (N := 64) (fin := fun g => some g) (fun n i g hi => ?_) (fun n g => ?_) 64 am_fu 0 h (by decide) (fu_lt (by decide))
    · show g_X7_moveAll_2 (n + 1) 1 7 (nI i) g = _
      rw [g_X7_moveAll_2, if_neg (show ¬ (64 : Int32) ≤ nI i from nI_le_i (n := 64) (by omega) (by decide) hi), if_neg (show ¬ (1 : Int32) = 0 by decide), hl, ix_nI hi (by decide), nI_1]
      rfl
    · rfl
  · have := fo_inv (step := fun i g => h_wI g 13 7 i (h_rI g 13 0 i)) (P := fun t g => FR 7 h g ∧ ∀ k, k < t → g.2.1 13 7 k = rv h k) (N := 64) (fun i g hi hP => ?_) 64 0 h (by decide) ⟨⟨rfl, rfl, fun _ _ _ _ => rfl⟩, fun k hk => absurd hk (by omega)⟩
    · exact this
    · obtain ⟨p1, p2⟩ := hP
      refine ⟨p1.w i _, fun k hk => ?_⟩
      rw [wI_13]
      show am_up g.2.1 13 7 i (g.2.1 13 0 i) 13 7 k = _
      by_cases e : k = i
      · subst e
        rw [up_s, p1.2.2 13 0 k (by omega)]
        rfl
      · rw [up_k e]
        exact p2 k (by omega)
theorem mv7_from (h : HP) : ∃ g, f_X7_moveAll 0 7 h = some g ∧ FR 0 h g ∧ ∀ k, k < 64 → rv g k = h.2.1 13 7 k := by
  have hl : am_len 13 7 = 64 := by decide
  refine ⟨fo (fun i g => h_wI g 13 0 i (h_rI g 13 7 i)) 64 0 h, ?_, ?_⟩
  · unfold f_X7_moveAll
    refine lp_up (g := fun n g x => g_X7_moveAll_2 n 0 7 x g) (N := 64) (fin := fun g => some g) (fun n i g hi => ?_) (fun n g => ?_) 64 am_fu 0 h (by decide) (fu_lt (by decide))
    · show g_X7_moveAll_2 (n + 1) 0 7 (nI i) g = _
      rw [g_X7_moveAll_2, if_neg (show ¬ (64 : Int32) ≤ nI i from nI_le_i (n := 64) (by omega) (by decide) hi), if_pos rfl, hl, ix_nI hi (by decide), nI_1]
      rfl
    · rfl
  · have := fo_inv (step := fun i g => h_wI g 13 0 i (h_rI g 13 7 i)) (P := fun t g => FR 0 h g ∧ ∀ k, k < t → rv g k = h.2.1 13 7 k) (N := 64) (fun i g hi hP => ?_) 64 0 h (by decide) ⟨⟨rfl, rfl, fun _ _ _ _ => rfl⟩, fun k hk => absurd hk (by omega)⟩
    · exact this
    · obtain ⟨p1, p2⟩ := hP
      refine ⟨p1.w i _, fun k hk => ?_⟩
      rw [rv_w]
      by_cases e : k = i
      · subst e
        rw [upn_s]
        exact p1.2.2 13 7 k (by omega)
      · rw [upn_n e]
        exact p2 k (by omega)
theorem inv_house {h2 : HP} (hI : Inv h) (hL : ∃ n m d l, ILib h2 n m d l) (a1 : ∀ c j k, c = 3 ∨ c = 6 ∨ c = 11 ∨ (c = 1 ∧ j = 2) ∨ (c = 0 ∧ 16 ≤ j) ∨ (c = 2 ∧ 12 ≤ j) → h2.1.1 c j k = h.1.1 c j k) (a2 : h2.1.2 = h.1.2) (b1 : ∀ c j k, (c = 7 ∧ j = 0 ∧ k = 17) ∨ (c = 13 ∧ (j = 1 ∨ j = 4 ∨ j = 5 ∨ j = 6)) → h2.2.1 c j k = h.2.1 c j k) (b2 : ∀ k, h2.2.2 14 0 k = h.2.2 14 0 k) (t1 : h2.1.1 4 0 1 = 0) (t2 : h2.2.1 7 0 4 = 0) : Inv h2 := by
  obtain ⟨-, i4, i5, i6, i7⟩ := hI
  refine ⟨hL, ?_, ?_, ?_, ?_⟩
  · obtain ⟨a, c⟩ := i4
    have e17 := b1 7 0 17 (by omega)
    have e6 : h2.2.1 13 6 = h.2.1 13 6 := funext fun k => b1 13 6 k (by omega)
    refine ⟨by rw [a1 6 0 3 (by omega), e17]; exact a, ?_⟩
    rw [e17, e6]
    rcases c with c | ⟨c, n, m, d, l, c1, c2, c3⟩
    · exact Or.inl c
    · exact Or.inr ⟨c, n, m, d, l, c1, c2, LC.congr c3 (funext fun k => a1 1 2 k (by omega)) (fun i hi => funext fun k => a1 0 _ k (by omega)) (fun i hi => funext fun k => a1 2 _ k (by omega))⟩
  · exact ⟨0, by omega, t1, t2, fun k hk => absurd hk (by omega)⟩
  · intro s hs
    obtain ⟨A, B, C, E, F⟩ := i6 s hs
    rw [a1 3 s 0 (by omega), a1 3 s 1 (by omega), b1 13 4 s (by omega), b1 13 5 s (by omega), a2]
    refine ⟨A, B, C, E, fun k hk => ?_⟩
    rw [b2]
    exact F k hk
  · intro k hk
    rw [a1 11 1 k (by omega), b1 13 1 k (by omega)]
    exact i7 k hk
theorem m1_neg {st : Nat} (h : st ≤ 120) : -1 - nI st < 0 := by
  have e : -1 - nI st = nI 0 - nI (st + 1) := by
    rw [← nI_1, show nI 0 = (0 : Int32) from rfl, Int32.zero_sub, Int32.neg_add, Int32.sub_eq_add_neg (-1), Int32.sub_eq_add_neg (-nI st)]
    exact Int32.add_comm _ _
  rw [e]
  exact pk_sneg (by omega) (by omega)
theorem op_house (hI : Inv h) : Okc f_X6_house f_X7_house h := by
  obtain ⟨⟨n, m, d, l, i1, i2, i3⟩, iI, ⟨t, ht, t1, t2, t3⟩, iS, iF⟩ := id hI
  have hn8 := i1.1
  have hm6 := i1.2.1
  -- the tape's bytes
  have hbx : ∃ b : Nat → Nat, (∀ k, b k < 256) ∧ ∀ k, k < t → h.2.1 13 3 k = nI (b k) := by
    refine ⟨fun k => if k < t then vN (h.2.1 13 3 k) else 0, fun k => ?_, fun k hk => ?_⟩
    · by_cases q : k < t
      · obtain ⟨-, v, hv, e⟩ := t3 k q
        show (if k < t then vN (h.2.1 13 3 k) else 0) < 256
        rw [if_pos q, e, vN_nI (by omega)]
        exact hv
      · show (if k < t then vN (h.2.1 13 3 k) else 0) < 256
        rw [if_neg q]
        decide
    · obtain ⟨-, v, hv, e⟩ := t3 k hk
      show _ = nI (if k < t then vN (h.2.1 13 3 k) else 0)
      rw [if_pos hk, e, vN_nI (by omega)]
  obtain ⟨b, hb, eb⟩ := hbx
  -- the class' text stands at its first token
  obtain ⟨x0, c1, c2, c3⟩ := becomes_c (a := 1) (by decide) i1 i3
  have hP0 : TP b t x0 := ⟨(c2.2.2 4 0 1 (by omega) (by omega) (by omega)).trans t1, fun k hk => (c2.2.2 11 0 k (by omega) (by omega) (by omega)).trans ((t3 k hk).1.trans (eb k hk))⟩
  obtain ⟨x1, s1, s2, s3⟩ := step_c (e := 0) ht hb (Nat.zero_le _) (hP0.f5 (F5.w x0 0 4 0)) (w5s x0 4 0)
  have hF1 : F5 x0 x1 := (F5.w x0 0 4 0).trans s2
  have hX1 : HX h x1 := c2.x.trans hF1.x
  have hP1 : TP b t x1 := hP0.f5 hF1
  have hL1 : LC x1 1 n m (rv h) := c3.f5 hF1
  have e6 : ∀ r x', g_X5_parse_11 am_fu (nI 1) x1 = some (r, x') → f_X6_house h = if r < 0 then some (r, h_wI x' 4 0 1 0) else (f_X1_becomes 0 1 (h_wI x' 4 0 1 0)).bind (fun q_4 => some (r, q_4)) := fun r x' er => by
    have er' : g_X5_parse_11 am_fu 1 x1 = some (r, x') := er
    unfold f_X6_house f_X5_parse f_X4_clear
    rw [c1, Option.bind_some, s1, Option.bind_some, er', Option.bind_some, Option.bind_some]
  -- the reference's run, from any class side
  have ref : ∀ c, ∃ y1, JP b t (rv h) n m d l 0 x1 y1 ∧ y1.1 = c ∧ (∀ k, k < 64 → y1.2.1 13 7 k = rv h k) ∧ (∀ c' j k, ¬ (c' = 13 ∧ j = 7) → ¬ (c' = 7 ∧ j = 0 ∧ 5 ≤ k ∧ k ≤ 10) → y1.2.1 c' j k = h.2.1 c' j k) ∧ y1.2.2 = h.2.2 ∧ f_X7_house (c, h.2) = g_X7_house_23 am_fu 0 1 y1 := fun c => by
    obtain ⟨y0, a1, a2, a3⟩ := mv7_to (c, h.2)
    have k7 : ∀ c' j k, ¬ (c' = 13 ∧ j = 7) → y0.2.1 c' j k = h.2.1 c' j k := fun c' j k hq => a2.2.2 c' j k hq
    have w : ∀ c' j k, ¬ (c' = 7 ∧ j = 0 ∧ 5 ≤ k ∧ k ≤ 10) → (h_wI (h_wI y0 7 0 7 0) 7 0 10 1).2.1 c' j k = y0.2.1 c' j k := fun c' j k hq => by
      rw [wI_7, wI_7]
      show am_up (am_up y0.2.1 7 0 7 0) 7 0 10 1 c' j k = _
      unfold am_up
      rw [if_neg (fun z => hq ⟨z.1, z.2.1, by omega, by omega⟩), if_neg (fun z => hq ⟨z.1, z.2.1, by omega, by omega⟩)]
    have erv : rv (h_wI (h_wI y0 7 0 7 0) 7 0 10 1) = rv h := funext fun k => (w 13 0 k (by omega)).trans (k7 13 0 k (by omega))
    refine ⟨h_wI (h_wI y0 7 0 7 0) 7 0 10 1, ⟨hP1, ⟨(w 7 0 4 (by omega)).trans ((k7 7 0 4 (by omega)).trans t2), fun k hk => (w 13 3 k (by omega)).trans ((k7 13 3 k (by omega)).trans (eb k hk))⟩, s3, ?_, w7s _ _ _, hL1, erv, i1, Nat.zero_le _⟩, a2.1, fun k hk => (w 13 7 k (by omega)).trans (a3 k hk), fun c' j k h1 h2 => (w c' j k h2).trans (k7 c' j k h1), a2.2.1, ?_⟩
    · rw [w7n _ _ (by decide), w7s]
      rfl
    · unfold f_X7_house
      rw [a1, Option.bind_some]
  have run : ∀ y1, JP b t (rv h) n m d l 0 x1 y1 → PR d t x1 y1 (g_X5_parse_11 am_fu (nI 1) x1) (g_X7_house_23 am_fu 0 1 y1) := fun y1 hJ => loop_J ht hb 61 am_fu 0 0 n m l (rv h) x1 y1 (by omega) (fu_lt (by decide)) (by omega) hJ
  obtain ⟨y1, hJ1, -⟩ := ref h.1
  obtain ⟨x', y0', hX2, hY2, res⟩ := run y1 hJ1
  have hX : HX h x' := hX1.trans hX2
  have w4 : ∀ c j k, ¬ (c = 4 ∧ j = 0 ∧ k = 1) → (h_wI x' 4 0 1 0).1.1 c j k = x'.1.1 c j k := fun c j k hq => by
    rw [wI_4]
    show am_up x'.1.1 4 0 1 0 c j k = _
    unfold am_up
    rw [if_neg hq]
  have w4s : (h_wI x' 4 0 1 0).1.1 4 0 1 = 0 := by
    rw [wI_4]
    show am_up x'.1.1 4 0 1 0 4 0 1 = 0
    exact up_s
  have hx2 : (h_wI x' 4 0 1 0).2 = h.2 := by
    rw [wI_4]
    exact hX.1
  rcases res with ⟨K, N', n', m', l', hK, r1, -, r3, -, r5⟩ | ⟨-, st, hst, r1, -, -⟩
  · -- it is a house
    have hLc : LC (h_wI x' 4 0 1 0) 1 n' m' N' := LC.congr r3 (funext fun k => w4 1 1 k (by omega)) (fun i _ => funext fun k => w4 0 _ k (by omega)) (fun i _ => funext fun k => w4 2 _ k (by omega))
    obtain ⟨g, g1, g2, g3⟩ := becomes_c (a := 0) (b := 1) (by decide) r5 hLc
    have eg : g.2 = h.2 := g2.1.trans hx2
    have e6' : f_X6_house h = some (nI K, g) := by
      rw [e6 _ _ r1, if_neg (nI_pos (by omega)), g1]
      rfl
    obtain ⟨y2, hJ2, k1, k2, k3, k4, k5⟩ := ref g.1
    obtain ⟨x'', y', hX3, hY3, res2⟩ := run y2 hJ2
    rcases res2 with ⟨K2, N2, n2, m2, l2, hK2, q1, q2, q3, q4, q5⟩ | ⟨-, st, hst, q1, -, -⟩
    · have eq0 := Option.some.inj (r1.symm.trans q1)
      have eqK : nI K = nI K2 := congrArg Prod.fst eq0
      have eqx : x' = x'' := congrArg Prod.snd eq0
      rw [← eqK] at q2
      subst eqx
      have hLc2 : LC (h_wI x' 4 0 1 0) 1 n2 m2 N2 := LC.congr q3 (funext fun k => w4 1 1 k (by omega)) (fun i _ => funext fun k => w4 0 _ k (by omega)) (fun i _ => funext fun k => w4 2 _ k (by omega))
      obtain ⟨g', g1', g2', g3'⟩ := becomes_c (a := 0) (b := 1) (by decide) q5 hLc2
      have egg : g' = g := Option.some.inj (g1'.symm.trans g1)
      rw [egg] at g3'
      have hw7 : ∀ c j k, ¬ (c = 7 ∧ j = 0 ∧ (k = 10 ∨ k = 4)) → (h_wI (h_wI y' 7 0 10 1) 7 0 4 0).2.1 c j k = y'.2.1 c j k := fun c j k hq => by
        rw [wI_7, wI_7]
        show am_up (am_up y'.2.1 7 0 10 1) 7 0 4 0 c j k = _
        unfold am_up
        rw [if_neg (fun z => hq ⟨z.1, z.2.1, Or.inr z.2.2⟩), if_neg (fun z => hq ⟨z.1, z.2.1, Or.inl z.2.2⟩)]
      have e1 : (h_wI (h_wI y' 7 0 10 1) 7 0 4 0).1 = g.1 := hY3.1.trans k1
      have erv : rv (h_wI (h_wI y' 7 0 10 1) 7 0 4 0) = N2 := (funext fun k => hw7 13 0 k (by omega)).trans q4
      refine ⟨nI K, g, h_wI (h_wI y' 7 0 10 1) 7 0 4 0, e6', ?_, ?_⟩
      · have : f_X7_house g = g_X7_house_23 am_fu 0 1 y2 := by
          rw [← k5]
          show f_X7_house (g.1, g.2) = _
          rw [eg]
        rw [this, q2]
        unfold g_X7_house_91
        rw [if_pos (show (1 : Int32) &&& 1 = 1 by decide), rI_7, w7n _ _ (by decide), w7s, if_neg (by decide)]
      · refine inv_house hI ⟨n2, m2, d, l2, by rw [erv]; exact q5, i2, by rw [erv]; exact LC.ref g3' e1⟩ (fun c j k hq => ?_) ?_ (fun c j k hq => ?_) (fun k => ?_) ?_ (w7s _ _ _)
        · rw [e1, g2.2.2 c j k (by omega) (by omega) (by omega), w4 c j k (by omega)]
          exact hX.2.2 c j k (by omega) (by omega) (by omega) (by omega)
        · rw [e1, g2.2.1]
          exact hX.2.1
        · rw [hw7 c j k (by omega), hY3.2.1 c j k (by omega) (by omega)]
          exact k3 c j k (by omega) (by omega)
        · show y'.2.2 14 0 k = _
          rw [hY3.2.2 14 0 k (by decide), k4]
        · rw [e1, g2.2.2 4 0 1 (by omega) (by omega) (by omega)]
          exact w4s
    · have eq0 := Option.some.inj (r1.symm.trans q1)
      have eqK : nI K = -1 - nI st := congrArg Prod.fst eq0
      exact absurd (by rw [eqK]; exact m1_neg (by omega)) (nI_pos (n := K) (by omega))
  · -- it is none
    have e6' : f_X6_house h = some (-1 - nI st, h_wI x' 4 0 1 0) := by
      rw [e6 _ _ r1, if_pos (m1_neg (by omega))]
    obtain ⟨y2, hJ2, k1, k2, k3, k4, k5⟩ := ref (h_wI x' 4 0 1 0).1
    obtain ⟨x'', y', hX3, hY3, res2⟩ := run y2 hJ2
    rcases res2 with ⟨K2, N2, n2, m2, l2, hK2, q1, -⟩ | ⟨K2, st2, hst2, q1, q2, q3⟩
    · have eq0 := Option.some.inj (r1.symm.trans q1)
      have eqK := (Prod.mk.inj eq0).1
      exact absurd (by rw [← eqK]; exact m1_neg (by omega)) (nI_pos (n := K2) (by omega))
    · have eq0 := Option.some.inj (r1.symm.trans q1)
      have eqK := (Prod.mk.inj eq0).1
      have hw7 : ∀ c j k, ¬ (c = 7 ∧ j = 0 ∧ (k = 10 ∨ k = 4)) → (h_wI (h_wI y' 7 0 10 0) 7 0 4 0).2.1 c j k = y'.2.1 c j k := fun c j k hq => by
        rw [wI_7, wI_7]
        show am_up (am_up y'.2.1 7 0 10 0) 7 0 4 0 c j k = _
        unfold am_up
        rw [if_neg (fun z => hq ⟨z.1, z.2.1, Or.inr z.2.2⟩), if_neg (fun z => hq ⟨z.1, z.2.1, Or.inl z.2.2⟩)]
      obtain ⟨r, u1, u2, u3⟩ := mv7_from (h_wI (h_wI y' 7 0 10 0) 7 0 4 0)
      have e1 : r.1 = (h_wI x' 4 0 1 0).1 := u2.1.trans (hY3.1.trans k1)
      have ev : ∀ k, k < 64 → rv r k = rv h k := fun k hk => by
        rw [u3 k hk, hw7 13 7 k (by omega), hY3.2.1 13 7 k (by omega) (by omega), k2 k hk]
      refine ⟨-1 - nI st, h_wI x' 4 0 1 0, r, e6', ?_, ?_⟩
      · have : f_X7_house (h_wI x' 4 0 1 0) = g_X7_house_23 am_fu 0 1 y2 := by
          rw [← k5]
          show f_X7_house ((h_wI x' 4 0 1 0).1, (h_wI x' 4 0 1 0).2) = _
          rw [hx2]
        rw [this, q2]
        unfold g_X7_house_91
        rw [if_pos (show (0 : Int32) &&& 1 = 0 by decide), rI_7, w7n _ _ (by decide), w7s, if_pos rfl, u1, Option.bind_some, rI_7, u2.2.2 7 0 6 (by omega), hw7 7 0 6 (by omega), q3, eqK]
      · have hLx : LC (h_wI x' 4 0 1 0) 0 n m (rv h) := LC.congr i3 (funext fun k => (w4 1 0 k (by omega)).trans (hX.2.2 1 0 k (by omega) (by omega) (by omega) (by omega))) (fun i hi => funext fun k => (w4 0 _ k (by omega)).trans (hX.2.2 0 _ k (by omega) (by omega) (by omega) (by omega))) (fun i hi => funext fun k => (w4 2 _ k (by omega)).trans (hX.2.2 2 _ k (by omega) (by omega) (by omega) (by omega)))
        refine inv_house hI ⟨n, m, d, l, i1.agree ev, i2, (LC.ref hLx e1).agree hn8 hm6 ev⟩ (fun c j k hq => ?_) ?_ (fun c j k hq => ?_) (fun k => ?_) ?_ ?_
        · rw [e1, w4 c j k (by omega)]
          exact hX.2.2 c j k (by omega) (by omega) (by omega) (by omega)
        · rw [e1]
          show x'.1.2 = _
          exact hX.2.1
        · rw [u2.2.2 c j k (by omega), hw7 c j k (by omega), hY3.2.1 c j k (by omega) (by omega)]
          exact k3 c j k (by omega) (by omega)
        · rw [u2.2.1]
          show y'.2.2 14 0 k = _
          rw [hY3.2.2 14 0 k (by decide), k4]
        · rw [e1]
          exact w4s
        · rw [u2.2.2 7 0 4 (by omega)]
          exact w7s _ _ _
end HOUSE
