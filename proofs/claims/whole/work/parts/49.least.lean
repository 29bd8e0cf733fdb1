/-! PURE: least -/
/-- the reference's row stands as it did, and is saved -/
def FT (b g : HP) : Prop := g.1 = b.1 ∧ g.2.2 = b.2.2 ∧ (∀ c j k, ¬ (c = 13 ∧ (j = 0 ∨ j = 2)) → g.2.1 c j k = b.2.1 c j k) ∧ (∀ k, k < 64 → g.2.1 13 2 k = rv b k) ∧ ∀ k, k < 64 → rv g k = rv b k
section LEAST
variable {h : HP}
theorem FT.rest {b g : HP} (hF : FT b g) : Rest b g := by
  obtain ⟨f1, f2, f3, f4, f5⟩ := hF
  refine ⟨by rw [f1], by rw [f1], fun i hi => by rw [f1], fun i hi => by rw [f1], by rw [f1], by rw [f1], by rw [f1], by rw [f1], f3 7 0 4 (by omega), f3 7 0 17 (by omega), funext fun k => f3 _ _ k (by omega), funext fun k => f3 _ _ k (by omega), funext fun k => f3 _ _ k (by omega), funext fun k => f3 _ _ k (by omega), funext fun k => f3 _ _ k (by omega), by rw [f2]⟩
theorem ft_start (b : HP) : ∃ g, f_X7_moveAll 1 2 b = some g ∧ FT b g := by
  obtain ⟨g, g1, g2, g3⟩ := mv_to (r := 2) (Or.inl rfl) b
  exact ⟨g, g1, g2.1, g2.2.1, fun c j k hq => g2.2.2 c j k (fun z => hq ⟨z.1, Or.inr z.2⟩), g3, fun k _ => by rw [rvFR g2]⟩
theorem ft_again {b g g2 : HP} (hF : FT b g) (hR : FR 0 g g2) : ∃ g3, f_X7_moveAll 0 2 g2 = some g3 ∧ FT b g3 := by
  obtain ⟨f1, f2, f3, f4, f5⟩ := hF
  obtain ⟨r, r1, r2, r3⟩ := mv_from (r := 2) (Or.inl rfl) g2
  refine ⟨r, r1, (r2.1.trans hR.1).trans f1, (r2.2.1.trans hR.2.1).trans f2, fun c j k hq => ?_, fun k hk => ?_, fun k hk => ?_⟩
  · rw [r2.2.2 c j k (fun z => hq ⟨z.1, Or.inl z.2⟩), hR.2.2 c j k (fun z => hq ⟨z.1, Or.inl z.2⟩), f3 c j k hq]
  · rw [r2.2.2 13 2 k (by omega), hR.2.2 13 2 k (by omega), f4 k hk]
  · rw [r3 k hk, hR.2.2 13 2 k (by omega), f4 k hk]
theorem WF.loans {N : Nat → Int32} {n m d l s : Nat} (hW : WF N n m d l) (hs : s ≤ 30) : WF (upn N 1 (nI s)) n m d s := by
  obtain ⟨w1, w2, w3, w4, w5, w6, w7, w8, w9, w10⟩ := hW
  exact ⟨w1, w2, w3, w4, rfl, hs, w7, w8, fun i hi => wfh_lo (by decide) (w9 i hi), fun i hi => wfm_lo (by decide) (w10 i hi)⟩
def vL (N : Nat → Int32) (n T p s : Nat) : Nat := min 9999 (fN N p + due N n s T p (oN N))
theorem least_c {N : Nat → Int32} {n m d l p T s f : Nat} {fine : Int32} (hW : WF N n m d l) (hL : LC h 0 n m N) (hp : p < m) (hT : T ≤ 60) (hs : s ≤ 30) : g_X6_least_43 (f + 1) (nI p) (nI T) fine (nI s) h = if fine < nI (vL N n T p s) then g_X6_least_43 f (nI p) (nI T) fine (nI (s + 1)) h else some (nI s, h) := by
  rw [g_X6_least_43, if_neg (show ¬ (30 : Int32) < nI s from fun z => by have := (nI_ltI (a := 30) (by decide) (by omega)).mp z; omega), finesAhead_c hW hL hp (by omega) hs, nI_1]
  rfl
theorem least_r {b g : HP} {n m d l p T s f : Nat} {fine : Int32} (hW : WF (rv b) n m d l) (hd9 : d ≤ 9999) (hp : p < m) (hT : T ≤ 60) (hs : s ≤ 30) (hF : FT b g) : ∃ g', FT b g' ∧ g_X7_least_47 (f + 1) (nI p) (nI T) fine (nI s) 0 g = if fine < nI (vL (rv b) n T p s) then g_X7_least_47 f (nI p) (nI T) fine (nI (s + 1)) 0 g' else g_X7_least_47 f (nI p) (nI T) fine (nI s) 1 g' := by
  have hn8 := hW.1
  have hm6 := hW.2.1
  have h4 := hW.2.2.2.1
  obtain ⟨f1, f2, f3, f4, f5⟩ := id hF
  have hWg : WF (rv (h_wI g 13 0 1 (nI s))) n m d s := by
    rw [rv_w]
    exact (hW.agree f5).loans hs
  obtain ⟨g2, a1, a2, a3⟩ := passes_r (T := T) hWg (by omega)
  obtain ⟨g3, b1, b2⟩ := ft_again hF ((FR.w0 g 1 (nI s)).trans a2)
  have eh : ∀ i, i < n → ∀ k, k < 6 → hd (rv (h_wI g 13 0 1 (nI s))) i k = hd (rv b) i k := fun i hi k hk => by
    rw [rv_w, hd_lo (by decide)]
    exact f5 _ (by omega)
  have em : mb (rv (h_wI g 13 0 1 (nI s))) p 1 = mb (rv b) p 1 := by
    rw [rv_w, mb_lo (by decide)]
    exact f5 _ (by omega)
  have eV : mb (rv g2) p 1 = nI (vL (rv b) n T p s) := by
    rw [a3]
    unfold dayR
    rw [mb_mk1 hn8 hp]
    unfold fS vL
    have e1 : fN (rv (h_wI g 13 0 1 (nI s))) p = fN (rv b) p := by unfold fN; rw [em]
    have e2 : due (rv (h_wI g 13 0 1 (nI s))) n s T p (oN (rv (h_wI g 13 0 1 (nI s)))) = due (rv b) n s T p (oN (rv b)) := sm_congr n 0 (fun i _ hi => by
      unfold oN
      rw [eh i (by omega) 4 (by decide), eh i (by omega) 5 (by decide)])
    rw [e1, e2]
  refine ⟨g3, b2, ?_⟩
  rw [g_X7_least_47, if_neg (show ¬ (30 : Int32) < nI s from fun z => by have := (nI_ltI (a := 30) (by decide) (by omega)).mp z; omega), if_pos rfl, ix64_1, Option.bind_some, a1, Option.bind_some, whose1 (by omega), eV, Option.bind_some]
  unfold g_X7_least_87
  rw [b1]
  by_cases q : fine < nI (vL (rv b) n T p s)
  · rw [if_pos q, if_pos q, Option.bind_some, if_pos rfl, nI_1]
  · rw [if_neg q, if_neg q, Option.bind_some, if_neg (by decide), show nI s + 0 = nI s from Int32.add_zero _]
theorem least_end {g : HP} {f : Nat} {p T fine s : Int32} : g_X7_least_47 (f + 1) p T fine s 1 g = some (s, g) := by
  rw [g_X7_least_47]
  unfold g_X7_least_116
  rw [if_neg (show ¬ (1 : Int32) = 0 by decide), if_neg (show ¬ (1 : Int32) = 0 by decide)]
  by_cases q : (30 : Int32) < s
  · rw [if_pos q]
  · rw [if_neg q]
theorem least_lp {b : HP} {n m d l n' m' d' l' p T : Nat} {fine : Int32} (hW : WF (rv b) n m d l) (hd9 : d ≤ 9999) (hW' : WF (rv b) n m d' l') (hL : LC h 0 n m (rv b)) (hp : p < m) (hT : T ≤ 60) : ∀ (k f s : Nat) (g : HP), s + k = 31 → k + 1 < f → FT b g → (∃ v g', (∃ s', s ≤ s' ∧ s' ≤ 30 ∧ ¬ fine < nI (vL (rv b) n T p s')) ∧ g_X6_least_43 f (nI p) (nI T) fine (nI s) h = some (v, h) ∧ g_X7_least_47 f (nI p) (nI T) fine (nI s) 0 g = some (v, g') ∧ FT b g') ∨ (∃ g', (∀ s', s ≤ s' → s' ≤ 30 → fine < nI (vL (rv b) n T p s')) ∧ g_X6_least_43 f (nI p) (nI T) fine (nI s) h = f_X6_tell (fcode 3) h ∧ g_X7_least_47 f (nI p) (nI T) fine (nI s) 0 g = f_X7_finds (fcode 3) g' ∧ FT b g')
  | 0, f, s, g, h1, h2, hF => by
    obtain ⟨f, rfl⟩ : ∃ z, f = z + 1 := ⟨f - 1, by omega⟩
    have : s = 31 := by omega
    subst this
    refine Or.inr ⟨g, fun s' _ _ => absurd (show s' ≤ 30 by assumption) (by omega), ?_, ?_, hF⟩
    · rw [g_X6_least_43, if_pos (by decide), bind_eta, fc4]
    · rw [g_X7_least_47, if_pos (by decide)]
      unfold g_X7_least_116
      rw [if_pos rfl, bind_eta, fc4]
  | k + 1, f, s, g, h1, h2, hF => by
    obtain ⟨f, rfl⟩ : ∃ z, f = z + 1 := ⟨f - 1, by omega⟩
    obtain ⟨f, rfl⟩ : ∃ z, f = z + 1 := ⟨f - 1, by omega⟩
    have c := least_c (f := f + 1) (fine := fine) hW hL hp hT (show s ≤ 30 by omega)
    obtain ⟨g', r1, r2⟩ := least_r (f := f + 1) (fine := fine) hW hd9 hp hT (show s ≤ 30 by omega) hF
    by_cases q : fine < nI (vL (rv b) n T p s)
    · rw [if_pos q] at c r2
      rcases least_lp (n' := n') (m' := m') hW hd9 hW' hL hp hT k (f + 1) (s + 1) g' (by omega) (by omega) r1 with ⟨v, g2, ⟨s', a, a', a''⟩, x1, x2, x3⟩ | ⟨g2, a, x1, x2, x3⟩
      · exact Or.inl ⟨v, g2, ⟨s', by omega, a', a''⟩, c.trans x1, r2.trans x2, x3⟩
      · refine Or.inr ⟨g2, fun s' y1 y2 => ?_, c.trans x1, r2.trans x2, x3⟩
        by_cases z : s' = s
        · rw [z]; exact q
        · exact a s' (by omega) y2
    · rw [if_neg q] at c r2
      exact Or.inl ⟨nI s, g', ⟨s, Nat.le_refl _, by omega, q⟩, c, r2.trans least_end, r1⟩
theorem op_least (a b : Int32) (hI : Inv h) : Okc (f_X6_least a b) (f_X7_least a b) h := by
  obtain ⟨⟨n, m, d, l, i1, i2, i3⟩, -⟩ := id hI
  have g1 := hasMember_c i1 i3
  have g2 := fun c => isMember_r (h := (c, h.2)) i1
  have hm6 := i1.2.1
  cases ha : isA a m with
  | false => exact okF hI 0 (by decide) (by simp -implicitDefEqProofs only [Option.bind_some, b0t, b0f, if_true, if_false, ite_true, ite_false, bind_eta, bind_etaV, rv_c, f_X6_least, g_X6_least_20, g1, ha, fc1]) (fun c => by simp -implicitDefEqProofs only [Option.bind_some, b0t, b0f, if_true, if_false, ite_true, ite_false, bind_eta, bind_etaV, rv_c, f_X7_least, g_X7_least_18, g2, ha, fc1])
  | true =>
    cases hb : inR b 0 60 with
    | false => exact okF hI 0 (by decide) (by simp -implicitDefEqProofs only [Option.bind_some, b0t, b0f, if_true, if_false, ite_true, ite_false, bind_eta, bind_etaV, rv_c, f_X6_least, g_X6_least_20, g1, ha, isUpTo_c, hb, fc1]) (fun c => by simp -implicitDefEqProofs only [Option.bind_some, b0t, b0f, if_true, if_false, ite_true, ite_false, bind_eta, bind_etaV, rv_c, f_X7_least, g_X7_least_18, g2, ha, in_ok, hb, fc1])
    | true =>
      have ha' := ha
      obtain ⟨p, hp, rfl⟩ := isA_t (by omega) ha
      obtain ⟨T, hT, rfl⟩ := inR_of (n := 60) (by decide) hb
      have h6 : p < 6 := by omega
      have e6 : f_X6_least (nI p) (nI T) h = g_X6_least_43 am_fu (nI p) (nI T) (mb (rv h) p 1) (nI 0) h := by
        simp -implicitDefEqProofs only [Option.bind_some, b0t, b0f, if_true, if_false, ite_true, ite_false, bind_eta, bind_etaV, rv_c, f_X6_least, g1, ha', isUpTo_c, hb, ix6 h6, rI_2, i3.mb hp 1 (by decide)]
        rfl
      have e7 : ∀ c, ∃ g, FT (c, h.2) g ∧ f_X7_least (nI p) (nI T) (c, h.2) = g_X7_least_47 am_fu (nI p) (nI T) (mb (rv h) p 1) (nI 0) 0 g := fun c => by
        obtain ⟨g, a1, a2⟩ := ft_start (c, h.2)
        refine ⟨g, a2, ?_⟩
        have : mb (rv g) p 1 = mb (rv h) p 1 := a2.2.2.2.2 _ (by omega)
        simp -implicitDefEqProofs only [Option.bind_some, b0t, b0f, if_true, if_false, ite_true, ite_false, bind_eta, bind_etaV, rv_c, f_X7_least, g2, ha', in_ok, hb, a1, whose1 h6, this]
        rfl
      obtain ⟨g, x1, x2⟩ := e7 h.1
      rcases least_lp (b := h) (n' := 0) (m' := 0) (fine := mb (rv h) p 1) i1 i2 i1 i3 hp hT 31 am_fu 0 g (by omega) (fu_lt (by omega)) x1 with ⟨v, g', y0, y1, y2, y3⟩ | ⟨g', y0, y1, y2, y3⟩
      · exact ⟨v, h, g', e6.trans y1, x2.trans y2, inv_backR hI y3.rest y3.1 y3.2.2.2.2⟩
      · refine okF2 (hc := h) 3 (by decide) (e6.trans y1) (fun c => ?_)
        obtain ⟨gc, z1, z2⟩ := e7 c
        rcases least_lp (h := h) (b := (c, h.2)) (n' := 0) (m' := 0) (fine := mb (rv h) p 1) i1 i2 i1 i3 hp hT 31 am_fu 0 gc (by omega) (fu_lt (by omega)) z1 with ⟨v, g2', ⟨s', w1, w2, w3⟩, -⟩ | ⟨g2', -, -, w2, w3⟩
        · exact absurd (y0 s' w1 w2) w3
        · refine ⟨g2'.2, ?_, ?_⟩
          · rw [z2, w2]
            show f_X7_finds (fcode 3) (g2'.1, g2'.2) = _
            rw [w3.1]
          · obtain ⟨u1, u2, u3, u4, u5, u6, u7, u8, u9, u10, u11, u12, u13, u14, u15, u16⟩ := w3.rest
            exact inv_backR hI ⟨rfl, rfl, fun _ _ => rfl, fun _ _ => rfl, rfl, rfl, rfl, rfl, u9, u10, u11, u12, u13, u14, u15, u16⟩ rfl w3.2.2.2.2
end LEAST
