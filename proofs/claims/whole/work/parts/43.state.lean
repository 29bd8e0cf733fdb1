/-! PURE: wipe, tear, image, undo -/
section STATE
variable {h : HP}
theorem ilib_congr {h h' : HP} (e : h'.2.1 13 0 = h.2.1 13 0) (e1 : h'.1.1 1 = h.1.1 1) (e0 : h'.1.1 0 = h.1.1 0) (e2 : h'.1.1 2 = h.1.1 2) (hI : ∃ n m d l, ILib h n m d l) : ∃ n m d l, ILib h' n m d l := by
  obtain ⟨n, m, d, l, i1, i2, i3⟩ := hI
  have er : rv h' = rv h := e
  refine ⟨n, m, d, l, by rw [er]; exact i1, i2, ?_⟩
  rw [er]
  exact LC.congr i3 (by rw [e1]) (fun i _ => by rw [e0]) (fun i _ => by rw [e2])
theorem iimg_congr {h h' : HP} (e6 : h'.1.1 6 0 3 = h.1.1 6 0 3) (e7 : h'.2.1 7 0 17 = h.2.1 7 0 17) (e : h'.2.1 13 6 = h.2.1 13 6) (e1 : h'.1.1 1 = h.1.1 1) (e0 : h'.1.1 0 = h.1.1 0) (e2 : h'.1.1 2 = h.1.1 2) (hI : IImg h) : IImg h' := by
  obtain ⟨a, b⟩ := hI
  refine ⟨by rw [e6, e7]; exact a, ?_⟩
  rw [e7, e]
  rcases b with b | ⟨b, n, m, d, l, c1, c2, c3⟩
  · exact Or.inl b
  · exact Or.inr ⟨b, n, m, d, l, c1, c2, LC.congr c3 (by rw [e1]) (fun i _ => by rw [e0]) (fun i _ => by rw [e2])⟩
theorem itap_congr {h h' : HP} (e4 : h'.1.1 4 0 1 = h.1.1 4 0 1) (e7 : h'.2.1 7 0 4 = h.2.1 7 0 4) (e : h'.2.1 13 3 = h.2.1 13 3) (e1 : h'.1.1 11 0 = h.1.1 11 0) (hI : ITap h) : ITap h' := by
  obtain ⟨t, a, b, c, f⟩ := hI
  exact ⟨t, a, by rw [e4]; exact b, by rw [e7]; exact c, by rw [e1, e]; exact f⟩
theorem ishe_congr {h h' : HP} (e3 : h'.1.1 3 = h.1.1 3) (e4 : h'.2.1 13 4 = h.2.1 13 4) (e5 : h'.2.1 13 5 = h.2.1 13 5) (e1 : h'.1.2 12 = h.1.2 12) (e2 : h'.2.2 14 0 = h.2.2 14 0) (hI : IShe h) : IShe h' := by
  unfold IShe at *
  rw [e3, e4, e5, e1, e2]
  exact hI
theorem itol_congr {h h' : HP} (e3 : h'.1.1 11 1 = h.1.1 11 1) (e4 : h'.2.1 13 1 = h.2.1 13 1) (hI : ITol h) : ITol h' := by
  unfold ITol at *
  rw [e3, e4]
  exact hI
theorem op_wipe (hI : Inv h) : Okc f_X6_wipe f_X7_wipe h := by
  obtain ⟨iL, iI, iT, iS, iF⟩ := hI
  obtain ⟨t, a, b, c, f⟩ := id iT
  refine ⟨nI t, h_wI h 4 0 1 0, h_wI (h_wI h 4 0 1 0) 7 0 4 0, ?_, ?_, ?_⟩
  · show some (h.1.1 4 0 1, _) = _
    rw [b]
  · show some (h.2.1 7 0 4, _) = _
    rw [c]
  · rw [wI_7, wI_4]
    refine ⟨ilib_congr ?_ ?_ ?_ ?_ iL, iimg_congr ?_ ?_ ?_ ?_ ?_ ?_ iI, ⟨0, by decide, ?_, ?_, fun k hk => absurd hk (by omega)⟩, ishe_congr ?_ ?_ ?_ ?_ ?_ iS, itol_congr ?_ ?_ iF⟩ <;> dsimp only <;> first | rfl | rw [up_c (by decide)] | rw [up_k (by decide)] | (rw [up_s]; rfl) | rw [up_s, up_s]
theorem op_tear (hI : Inv h) : Okc f_X6_tear f_X7_tear h := by
  obtain ⟨iL, iI, iT, iS, iF⟩ := hI
  obtain ⟨a, b⟩ := id iI
  refine ⟨if h.1.1 6 0 3 = 0 then 0 else 1, h_wI h 6 0 3 0, h_wI (h_wI h 6 0 3 0) 7 0 17 0, ?_, ?_, ?_⟩
  · unfold f_X6_tear g_X6_tear_12
    rw [rI_6]
    by_cases q : h.1.1 6 0 3 = 0
    · rw [if_pos q, if_pos q]
    · rw [if_neg q, if_neg q]
  · unfold f_X7_tear g_X7_tear_12
    show (if h.2.1 7 0 17 = 0 then _ else _) = _
    rw [a]
    by_cases q : h.2.1 7 0 17 = 0
    · rw [if_pos q, if_pos q]
    · rw [if_neg q, if_neg q]
  · rw [wI_7, wI_6]
    refine ⟨ilib_congr ?_ ?_ ?_ ?_ iL, ⟨?_, Or.inl ?_⟩, itap_congr ?_ ?_ ?_ ?_ iT, ishe_congr ?_ ?_ ?_ ?_ ?_ iS, itol_congr ?_ ?_ iF⟩ <;> dsimp only <;> first | rfl | rw [up_c (by decide)] | rw [up_k (by decide)] | (rw [up_s]; rfl) | rw [up_s, up_s]
/-- rows that agree as far as they are read -/
theorem WF.agree {N N' : Nat → Int32} {n m d l : Nat} (hW : WF N n m d l) (e : ∀ k, k < 64 → N' k = N k) : WF N' n m d l := by
  obtain ⟨w1, w2, w3, w4, w5, w6, w7, w8, w9, w10⟩ := hW
  have eh : ∀ i, i < n → ∀ k, k < 6 → hd N' i k = hd N i k := fun i hi k hk => e _ (by omega)
  have em : ∀ i, i < m → ∀ k, k < 2 → mb N' i k = mb N i k := fun i hi k hk => e _ (by omega)
  refine ⟨w1, w2, by rw [e 0 (by decide)]; exact w3, w4, by rw [e 1 (by decide)]; exact w5, w6, by rw [e 2 (by decide)]; exact w7, by rw [e 3 (by decide)]; exact w8, fun i hi => ?_, fun i hi => ?_⟩
  · unfold WFh
    rw [eh i hi 0 (by decide), eh i hi 1 (by decide), eh i hi 2 (by decide), eh i hi 3 (by decide), eh i hi 4 (by decide), eh i hi 5 (by decide)]
    exact w9 i hi
  · unfold WFm
    rw [em i hi 0 (by decide), em i hi 1 (by decide)]
    exact w10 i hi
theorem LC.agree {N N' : Nat → Int32} {j n m : Nat} (hL : LC h j n m N) (hn : n ≤ 8) (hm : m ≤ 6) (e : ∀ k, k < 64 → N' k = N k) : LC h j n m N' := by
  obtain ⟨a, b, c, f, g, i⟩ := hL
  refine ⟨by rw [e 0 (by decide)]; exact a, by rw [e 1 (by decide)]; exact b, by rw [e 2 (by decide)]; exact c, by rw [e 3 (by decide)]; exact f, fun t ht k hk => (g t ht k hk).trans (e _ (by omega)).symm, fun t ht k hk => (i t ht k hk).trans (e _ (by omega)).symm⟩
theorem FB.lc {g : HP} {a b n m : Nat} {N : Nat → Int32} (hF : FB a h g) (hab : ¬ b = a) (hn : n ≤ 8) (hm : m ≤ 6) (hL : LC h b n m N) : LC g b n m N :=
  LC.congr hL (funext (fun k => hF.2.2 1 b k (by omega) (by omega) (by omega))) (fun i hi => funext (fun k => hF.2.2 0 (8 * b + i) k (by omega) (by omega) (by omega))) (fun i hi => funext (fun k => hF.2.2 2 (6 * b + i) k (by omega) (by omega) (by omega)))
theorem FB.cls {g : HP} {a c : Nat} (hF : FB a h g) (h0 : ¬ c = 0) (h1 : ¬ c = 1) (h2 : ¬ c = 2) : g.1.1 c = h.1.1 c := funext (fun j => funext (fun k => hF.2.2 c j k (by omega) (by omega) (by omega)))
theorem op_image (hI : Inv h) : Okc f_X6_image f_X7_image h := by
  obtain ⟨⟨n, m, d, l, i1, i2, i3⟩, iI, iT, iS, iF⟩ := hI
  obtain ⟨g, c1, c2, c3⟩ := becomes_c (a := 2) (by decide) i1 i3
  obtain ⟨r, r1, r2, r3⟩ := mv_to (r := 6) (Or.inr rfl) (h_wI g 6 0 3 1)
  have er : rv g = rv h := by unfold rv; rw [c2.1]
  have hw : rv (h_wI g 6 0 3 1) = rv h := er
  rw [hw] at r3
  have erv : rv r = rv h := (r2.row (by omega)).trans er
  have e17 : r.2.1 13 6 = fun k => r.2.1 13 6 k := rfl
  have hn8 := i1.1
  have hm6 := i1.2.1
  refine ⟨1, h_wI g 6 0 3 1, h_wI r 7 0 17 1, ?_, ?_, ?_⟩
  · unfold f_X6_image
    rw [c1]
    rfl
  · unfold f_X7_image
    rw [r1]
    rfl
  · have k1 : (h_wI r 7 0 17 1).1 = (h_wI g 6 0 3 1).1 := r2.1
    have kC : ∀ c, ¬ c = 0 → ¬ c = 1 → ¬ c = 2 → ¬ c = 6 → (h_wI r 7 0 17 1).1.1 c = h.1.1 c := fun c q0 q1 q2 q6 => by
      rw [k1, wI_6]
      exact (up_c q6).trans (c2.cls q0 q1 q2)
    have kR : ∀ c j, ¬ c = 7 → ¬ (c = 13 ∧ j = 6) → (h_wI r 7 0 17 1).2.1 c j = h.2.1 c j := fun c j q7 q => by
      rw [wI_7]
      dsimp only
      rw [up_c q7, r2.row q]
      show g.2.1 c j = _
      rw [c2.1]
    have kL : ∀ {j : Nat} {n m : Nat} {N : Nat → Int32}, LC g j n m N → LC (h_wI r 7 0 17 1) j n m N := fun hL => by
      refine LC.congr hL ?_ (fun i _ => ?_) (fun i _ => ?_) <;> rw [k1, wI_6] <;> dsimp only <;> rw [up_c (by decide)]
    refine ⟨⟨n, m, d, l, ?_, i2, ?_⟩, ⟨?_, Or.inr ⟨?_, n, m, d, l, ?_, i2, ?_⟩⟩, itap_congr ?_ ?_ ?_ ?_ iT, ishe_congr ?_ ?_ ?_ ?_ ?_ iS, itol_congr ?_ ?_ iF⟩
    · show WF (rv r) n m d l
      rw [erv]
      exact i1
    · show LC _ 0 n m (rv r)
      rw [erv]
      exact kL (c2.lc (by decide) hn8 hm6 i3)
    · rw [k1, wI_6, wI_7]
      dsimp only
      rw [up_s, up_s]
    · rw [wI_7]
      dsimp only
      rw [up_s]
    · have : (h_wI r 7 0 17 1).2.1 13 6 = r.2.1 13 6 := by rw [wI_7]; dsimp only; rw [up_c (by decide)]
      rw [this]
      exact i1.agree r3
    · have : (h_wI r 7 0 17 1).2.1 13 6 = r.2.1 13 6 := by rw [wI_7]; dsimp only; rw [up_c (by decide)]
      rw [this]
      exact (kL c3).agree hn8 hm6 r3
    · rw [kC 4 (by decide) (by decide) (by decide) (by decide)]
    · rw [wI_7]
      dsimp only
      rw [up_k (by decide), r2.row (by omega)]
      show g.2.1 7 0 4 = _
      rw [c2.1]
    · exact kR 13 3 (by decide) (by omega)
    · rw [kC 11 (by decide) (by decide) (by decide) (by decide)]
    · rw [kC 3 (by decide) (by decide) (by decide) (by decide)]
    · exact kR 13 4 (by decide) (by omega)
    · exact kR 13 5 (by decide) (by omega)
    · rw [k1]
      show g.1.2 12 = _
      rw [c2.2.1]
    · show r.2.2 14 0 = _
      rw [r2.2.1]
      show g.2.2 14 0 = _
      rw [c2.1]
    · rw [kC 11 (by decide) (by decide) (by decide) (by decide)]
    · exact kR 13 1 (by decide) (by omega)
theorem op_undo (hI : Inv h) : Okc f_X6_undo f_X7_undo h := by
  obtain ⟨⟨n0, m0, d0, l0, i1, i2, i3⟩, iI, iT, iS, iF⟩ := id hI
  obtain ⟨a, b⟩ := id iI
  rcases b with b | ⟨b, n, m, d, l, b1, b2, b3⟩
  · refine okF hI 3 (by decide) ?_ (fun c => ?_)
    · simp -implicitDefEqProofs only [Option.bind_some, b0t, b0f, if_true, if_false, ite_true, ite_false, bind_eta, bind_etaV, rv_c, f_X6_undo, rI_6, a, b, fc4]
    · simp -implicitDefEqProofs only [Option.bind_some, b0t, b0f, if_true, if_false, ite_true, ite_false, bind_eta, bind_etaV, rv_c, f_X7_undo, rI_7, b, fc4]
  · obtain ⟨g, c1, c2, c3⟩ := becomes_c (a := 0) (by decide) b1 b3
    obtain ⟨r, r1, r2, r3⟩ := mv_from (r := 6) (Or.inr rfl) g
    have eg : g.2.1 13 6 = h.2.1 13 6 := by rw [c2.1]
    rw [eg] at r3
    have hn8 := b1.1
    have hm6 := b1.2.1
    have k1 : r.1 = g.1 := r2.1
    have kC : ∀ c, ¬ c = 0 → ¬ c = 1 → ¬ c = 2 → r.1.1 c = h.1.1 c := fun c q0 q1 q2 => by
      rw [k1]
      exact c2.cls q0 q1 q2
    have kR : ∀ c j, ¬ (c = 13 ∧ j = 0) → r.2.1 c j = h.2.1 c j := fun c j q => by
      rw [r2.row q, c2.1]
    refine ⟨nI n, g, r, ?_, ?_, ?_⟩
    · unfold f_X6_undo
      rw [rI_6, a, b, if_neg (by decide), c1]
      show some (g.1.1 1 0 3, g) = _
      rw [c3.2.2.1, b1.2.2.2.2.2.2.1]
    · unfold f_X7_undo
      have : h_rI g 7 0 17 = 1 := by
        show g.2.1 7 0 17 = 1
        rw [c2.1]
        exact b
      rw [this, if_neg (by decide), r1, ix64_2]
      show some (rv r 2, r) = _
      rw [r3 2 (by decide), b1.2.2.2.2.2.2.1]
    · refine ⟨⟨n, m, d, l, b1.agree r3, b2, (LC.ref c3 k1).agree hn8 hm6 r3⟩, ⟨?_, Or.inr ⟨?_, n, m, d, l, ?_, b2, ?_⟩⟩, itap_congr ?_ ?_ ?_ ?_ iT, ishe_congr ?_ ?_ ?_ ?_ ?_ iS, itol_congr ?_ ?_ iF⟩
      · rw [kC 6 (by decide) (by decide) (by decide), kR 7 0 (by omega)]
        exact a
      · rw [kR 7 0 (by omega)]
        exact b
      · rw [kR 13 6 (by omega)]
        exact b1
      · rw [kR 13 6 (by omega)]
        exact LC.ref (c2.lc (by decide) hn8 hm6 b3) k1
      · rw [kC 4 (by decide) (by decide) (by decide)]
      · rw [kR 7 0 (by omega)]
      · exact kR 13 3 (by omega)
      · rw [kC 11 (by decide) (by decide) (by decide)]
      · rw [kC 3 (by decide) (by decide) (by decide)]
      · exact kR 13 4 (by omega)
      · exact kR 13 5 (by omega)
      · rw [k1, c2.2.1]
      · rw [r2.2.1, c2.1]
      · rw [kC 11 (by decide) (by decide) (by decide)]
      · exact kR 13 1 (by omega)
end STATE
