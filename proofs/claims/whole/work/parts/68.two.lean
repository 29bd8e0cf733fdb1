/-! PURE: which two are wanted -/
def twoF (F : Nat → Int32) : Nat → Nat → Int32
  | 0, _ => -1
  | c + 1, k => if F k = -1 then twoF F c (k + 1) else 10 * nI k + F k
def twG (N : Nat → Int32) (n p s r a c : Nat) : Int32 := farK (wtB (lnt N a p) n p s r) (n - c) c
def twF (N : Nat → Int32) (n p s r a : Nat) : Int32 := if mayB N n (nI p) a = true then twG N n p s r a (a + 1) else -1
section TWO
variable {h : HP} {N : Nat → Int32} {n m d l : Nat}
theorem twG_or {p s r a c : Nat} (hc : c ≤ n) : twG N n p s r a c = -1 ∨ ∃ b, b < n ∧ twG N n p s r a c = nI b := by
  rcases farK_or (q := wtB (lnt N a p) n p s r) (n - c) c with ⟨z, -⟩ | ⟨i, -, hi, -, -, z⟩
  · exact Or.inl z
  · exact Or.inr ⟨i, by omega, z⟩
theorem ten (a b : Nat) : 10 * nI a + nI b = nI (10 * a + b) := by
  rw [show (10 : Int32) = nI 10 from rfl, pk_mul, nI_add]
theorem twoF_or {p s r : Nat} (hn : n ≤ 8) : ∀ (c k : Nat), k + c = n → twoF (twF N n p s r) c k = -1 ∨ ∃ v, v < 100 ∧ twoF (twF N n p s r) c k = nI v
  | 0, _, _ => Or.inl rfl
  | c + 1, k, h1 => by
    unfold twoF
    by_cases q : twF N n p s r k = -1
    · rw [if_pos q]
      exact twoF_or hn c (k + 1) (by omega)
    · rw [if_neg q]
      unfold twF at q ⊢
      by_cases q2 : mayB N n (nI p) k = true
      · rw [if_pos q2] at q ⊢
        rcases twG_or (N := N) (p := p) (s := s) (r := r) (a := k) (c := k + 1) (n := n) (by omega) with z | ⟨b, hb, z⟩
        · exact absurd z q
        · rw [z, ten]
          exact Or.inr ⟨10 * k + b, by omega, rfl⟩
      · rw [if_neg q2] at q
        exact absurd rfl q
theorem two_c {p s r : Nat} (hW : WF N n m d l) (hp : p < m) (hs : s < 16) (hr : r < 16) (e : mb N p 0 = nI s) : ∀ (c f a : Nat) (x : HP), a + c = n → c < f → LC x 1 n m N → ∃ x', FB 1 x x' ∧ g_X6_two_57 f (nI p) (nI r) (nI a) x = if twoF (twF N n p s r) c a = -1 then f_X6_tell (fcode 3) x' else some (twoF (twF N n p s r) c a, x')
  | 0, f, a, x, h1, h2, hL => by
    obtain ⟨f, rfl⟩ : ∃ z, f = z + 1 := ⟨f - 1, by omega⟩
    refine ⟨x, FB.rfl' 1 x, ?_⟩
    rw [g_X6_two_57, rI_1, hL.2.2.1, hW.2.2.2.2.2.2.1, show a = n by omega, if_pos nI_le_n, bind_eta, fc4]
    rfl
  | c + 1, f, a, x, h1, h2, hL => by
    obtain ⟨f, rfl⟩ : ∃ z, f = z + 1 := ⟨f - 1, by omega⟩
    have hn8 := hW.1
    have hi : a < n := by omega
    have h8 : a < 8 := by omega
    have hu : twoF (twF N n p s r) (c + 1) a = if twF N n p s r a = -1 then twoF (twF N n p s r) c (a + 1) else 10 * nI a + twF N n p s r a := rfl
    rw [g_X6_two_57, rI_1, hL.2.2.1, hW.2.2.2.2.2.2.1, if_neg (nI_le_i (by omega) (by omega) hi), mayLend_c hW hL hi, Option.bind_some, b2i_c, nI_1]
    cases q : mayB N n (nI p) a with
    | false =>
      obtain ⟨x', a1, a2⟩ := two_c hW hp hs hr e c f (a + 1) x (by omega) (by omega) hL
      have qw : twF N n p s r a = -1 := by unfold twF; rw [q, if_neg (by decide)]
      refine ⟨x', a1, ?_⟩
      rw [if_neg (by decide), a2, hu, if_pos qw]
    | true =>
      have q4 := mayB_free q
      have hWl := (hW.lent1 hi hp q4).2
      have hL1 : LC (h_wI x 0 (8 * 1 + a) 4 (nI p)) 1 n m (lnt N a p) := lc_w0 hL hn8 hi (by decide)
      obtain ⟨x2, b1, b2, b3⟩ := want_c (j := 1) hWl hp hs hr ((mb_lnt h8).trans e) (n - (a + 1)) am_fu (a + 1) _ (by omega) (fu_lt (by omega)) hL1
      have hL2 : LC (h_wI x2 0 (8 * 1 + a) 4 (-1)) 1 n m N := by
        have := lc_w0 (k := 4) (v := -1) b2 hn8 hi (by decide)
        rw [lnt_back q4] at this
        exact this
      have hF : FB 1 x (h_wI x2 0 (8 * 1 + a) 4 (-1)) := ((FB.w0 x h8 4 _).trans b1).trans (FB.w0 _ h8 4 _)
      have qw : twF N n p s r a = twG N n p s r a (a + 1) := by unfold twF; rw [q, if_pos rfl]
      have b3' : f_X1_firstWanted 1 (nI p) (nI r) (nI (a + 1)) (h_wI x 0 (8 * 1 + a) 4 (nI p)) = some (twG N n p s r a (a + 1), x2) := b3
      rw [if_pos rfl, ix8 h8, Option.bind_some, b3', Option.bind_some, Option.bind_some]
      by_cases z : twG N n p s r a (a + 1) = -1
      · obtain ⟨x', a1, a2⟩ := two_c hW hp hs hr e c f (a + 1) _ (by omega) (by omega) hL2
        refine ⟨x', hF.trans a1, ?_⟩
        rw [if_pos z, a2, hu, if_pos (qw.trans z)]
      · refine ⟨_, hF, ?_⟩
        rw [if_neg z, hu, if_neg (fun y => z (qw.symm.trans y)), qw]
        rcases twG_or (N := N) (p := p) (s := s) (r := r) (a := a) (c := a + 1) (n := n) (by omega) with y | ⟨b, hb, y⟩
        · exact absurd y z
        · rw [y, ten, if_neg (nI_m1 (by omega))]
/-- for a first one that may not be had -/
theorem two_no {b : HP} {p r a : Nat} {best : Int32} {k59 : Int32 → Int32 → Int32 → Int32 → HP → Option (Int32 × HP)} (hW : WF (rv b) n m d l) (ha : a < n) (q : mayB (rv b) n (nI p) a = false) (e : rv h = rv b) : ∀ (c f : Nat), a < c → c ≤ n → c < f → g_X7_two_74 k59 f (nI p) (nI r) best (nI a) (nI c + (-1)) h = k59 (nI p) (nI r) best (nI a + (-1)) h
  | 0, f, h0, h1, h2 => absurd h0 (by omega)
  | c + 1, f, h0, h1, h2 => by
    obtain ⟨f, rfl⟩ : ∃ z, f = z + 1 := ⟨f - 1, by omega⟩
    have hn8 := hW.1
    have h8 : a < 8 := by omega
    have hWy : WF (rv h) n m d l := by rw [e]; exact hW
    rw [g_X7_two_74, pk_m1]
    by_cases z : c = a
    · rw [z, if_pos nI_le_n]
    · rw [if_neg (nI_le_i (n := c) (by omega) (by omega) (by omega)), mayHave_r hWy h8, Option.bind_some, b2i_c, e, q, if_neg (by decide)]
      exact two_no hW ha q e c f (by omega) (by omega) (by omega)
def twS (N : Nat → Int32) (n p s r a : Nat) (best : Int32) (c : Nat) : Int32 := if twG N n p s r a c = -1 then best else 10 * nI a + twG N n p s r a c
theorem two_in {b : HP} {p s r a : Nat} {best : Int32} {k59 : Int32 → Int32 → Int32 → Int32 → HP → Option (Int32 × HP)} (hW : WF (rv b) n m d l) (hp : p < m) (hs : s < 16) (hr : r < 16) (es : mb (rv b) p 0 = nI s) (ha : a < n) (q : mayB (rv b) n (nI p) a = true) : ∀ (c f : Nat) (y : HP), a < c → c ≤ n → c < f → FQ b y → (∀ k, k < 64 → y.2.1 13 2 k = rv b k) → ∃ y', FQ b y' ∧ (∀ k, k < 64 → y'.2.1 13 2 k = rv b k) ∧ g_X7_two_74 k59 f (nI p) (nI r) (twS (rv b) n p s r a best c) (nI a) (nI c + (-1)) y = k59 (nI p) (nI r) (twS (rv b) n p s r a best (a + 1)) (nI a + (-1)) y'
  | 0, f, y, h0, h1, h2, hF, hv => absurd h0 (by omega)
  | c + 1, f, y, h0, h1, h2, hF, hv => by
    obtain ⟨f, rfl⟩ : ∃ z, f = z + 1 := ⟨f - 1, by omega⟩
    have hn8 := hW.1
    have hm6 := hW.2.1
    have h8 : a < 8 := by omega
    have ey : rv y = rv b := hF.2.2.2
    have hWy : WF (rv y) n m d l := by rw [ey]; exact hW
    by_cases z : c = a
    · subst z
      refine ⟨y, hF, hv, ?_⟩
      rw [g_X7_two_74, pk_m1, if_pos nI_le_n]
    · have hc : c < n := by omega
      have hc8 : c < 8 := by omega
      have q4 := mayB_free q
      obtain ⟨h5, hWl⟩ := hW.lent1 ha hp q4
      have eg : twG (rv b) n p s r a c = if wtB (lnt (rv b) a p) n p s r c = true then nI c else twG (rv b) n p s r a (c + 1) := by
        unfold twG
        rw [show n - c = n - (c + 1) + 1 by omega]
        rfl
      have e1 : rv (h_wI (h_wI y 13 0 (4 + 6 * a + 4) (nI p)) 13 0 (4 + 6 * a + 5) 0) = lnt (rv b) a p := by
        rw [lends_rv (by rw [ey]; exact h5), ey]
      have hR1 : FR 0 y (h_wI (h_wI y 13 0 (4 + 6 * a + 4) (nI p)) 13 0 (4 + 6 * a + 5) 0) := (FR.w0 y _ _).trans (FR.w0 _ _ _)
      have hf1 : ∀ k, 64 ≤ k → rv (h_wI (h_wI y 13 0 (4 + 6 * a + 4) (nI p)) 13 0 (4 + 6 * a + 5) 0) k = rv y k := fun k hk => by rw [rv_w, rv_w, upn_n (by omega), upn_n (by omega)]
      have hsv : ∀ k, k < 64 → y.2.1 13 2 k = rv y k := fun k hk => by rw [hv k hk, ey]
      rw [g_X7_two_74, pk_m1, if_neg (nI_le_i (n := c) (by omega) (by omega) (by omega)), mayHave_r hWy h8, Option.bind_some, b2i_c, ey, q, if_pos rfl, lends_r h8, Option.bind_some, mayHave_r (n := n) (m := m) (d := d) (l := l) (by rw [e1]; exact hWl) hc8, Option.bind_some, b2i_c, e1]
      cases qb : mayB (lnt (rv b) a p) n (nI p) c with
      | false =>
        have qw : wtB (lnt (rv b) a p) n p s r c = false := by unfold wtB; rw [qb, Bool.false_and]
        obtain ⟨y3, c1, c2, c3⟩ := undo_r hsv hR1 hf1
        obtain ⟨y', a1, a2, a3⟩ := two_in (best := best) (k59 := k59) hW hp hs hr es ha q c f y3 (by omega) (by omega) (by omega) (hF.of0 c2 c3) (fun k hk => by rw [c2.2.2 13 2 k (by omega)]; exact hv k hk)
        refine ⟨y', a1, a2, ?_⟩
        rw [if_neg (by decide), ← a3]
        unfold g_X7_two_137
        rw [c1, Option.bind_some]
        unfold twS
        rw [eg, if_neg (show ¬ wtB (lnt (rv b) a p) n p s r c = true by rw [qw]; decide)]
      | true =>
        have q5 := mayB_free qb
        obtain ⟨h6, hWm⟩ := hWl.lent1 hc hp q5
        have e2 : rv (h_wI (h_wI (h_wI (h_wI y 13 0 (4 + 6 * a + 4) (nI p)) 13 0 (4 + 6 * a + 5) 0) 13 0 (4 + 6 * c + 4) (nI p)) 13 0 (4 + 6 * c + 5) 0) = lnt (lnt (rv b) a p) c p := by
          rw [lends_rv (by rw [e1]; exact h6), e1]
        have hR2 : FR 0 y (h_wI (h_wI (h_wI (h_wI y 13 0 (4 + 6 * a + 4) (nI p)) 13 0 (4 + 6 * a + 5) 0) 13 0 (4 + 6 * c + 4) (nI p)) 13 0 (4 + 6 * c + 5) 0) := hR1.trans ((FR.w0 _ _ _).trans (FR.w0 _ _ _))
        have hf2 : ∀ k, 64 ≤ k → rv (h_wI (h_wI (h_wI (h_wI y 13 0 (4 + 6 * a + 4) (nI p)) 13 0 (4 + 6 * a + 5) 0) 13 0 (4 + 6 * c + 4) (nI p)) 13 0 (4 + 6 * c + 5) 0) k = rv y k := fun k hk => by rw [rv_w, rv_w, upn_n (by omega), upn_n (by omega), hf1 k hk]
        obtain ⟨y3, c1, c2, c3⟩ := undo_r hsv hR2 hf2
        obtain ⟨y', a1, a2, a3⟩ := two_in (best := best) (k59 := k59) hW hp hs hr es ha q c f y3 (by omega) (by omega) (by omega) (hF.of0 c2 c3) (fun k hk => by rw [c2.2.2 13 2 k (by omega)]; exact hv k hk)
        refine ⟨y', a1, a2, ?_⟩
        rw [if_pos rfl, lends_r hc8, Option.bind_some, comes_r (n := n) (m := m) (d := d) (l := l) (by rw [e2]; exact hWm) (show p < 6 by omega) hs hr (by rw [e2]; exact (mb_lnt hc8).trans ((mb_lnt h8).trans es)), Option.bind_some, b2i_c, e2, ← a3]
        unfold g_X7_two_137
        rw [c1, Option.bind_some, Option.bind_some]
        cases qr : (sq (lnt (lnt (rv b) a p) c p) n (nI p) s 15).testBit r with
        | true =>
          have qw : wtB (lnt (rv b) a p) n p s r c = true := by unfold wtB; rw [qb, qr]; rfl
          rw [if_pos rfl]
          unfold twS
          rw [eg, if_pos qw, if_neg (nI_m1 (by omega))]
        | false =>
          have qw : wtB (lnt (rv b) a p) n p s r c = false := by unfold wtB; rw [qr, Bool.and_false]
          rw [if_neg (by decide)]
          unfold twS
          rw [eg, if_neg (show ¬ wtB (lnt (rv b) a p) n p s r c = true by rw [qw]; decide)]
theorem two_r {b : HP} {p s r : Nat} (hW : WF (rv b) n m d l) (hp : p < m) (hs : s < 16) (hr : r < 16) (es : mb (rv b) p 0 = nI s) : ∀ (c f : Nat) (y : HP), c ≤ n → c < f → FQ b y → (∀ k, k < 64 → y.2.1 13 2 k = rv b k) → ∃ y', FQ b y' ∧ g_X7_two_59 f (nI p) (nI r) (twoF (twF (rv b) n p s r) (n - c) c) (nI c + (-1)) y = if 0 ≤ twoF (twF (rv b) n p s r) n 0 then some (twoF (twF (rv b) n p s r) n 0, y') else f_X7_finds (fcode 3) y'
  | 0, f, y, h1, h2, hF, hv => by
    obtain ⟨f, rfl⟩ : ∃ z, f = z + 1 := ⟨f - 1, by omega⟩
    refine ⟨y, hF, ?_⟩
    rw [g_X7_two_59, if_pos dn_0, bind_eta, fc4]
    rfl
  | c + 1, f, y, h1, h2, hF, hv => by
    obtain ⟨f, rfl⟩ : ∃ z, f = z + 1 := ⟨f - 1, by omega⟩
    have hn8 := hW.1
    have hc : c < n := by omega
    have ey : rv y = rv b := hF.2.2.2
    have hu : twoF (twF (rv b) n p s r) (n - c) c = if twF (rv b) n p s r c = -1 then twoF (twF (rv b) n p s r) (n - (c + 1)) (c + 1) else 10 * nI c + twF (rv b) n p s r c := by
      rw [show n - c = n - (c + 1) + 1 by omega]
      rfl
    rw [g_X7_two_59, pk_m1, if_neg (nI_pos (by omega)), ix64_2, Option.bind_some, rv_2, ey, hW.2.2.2.2.2.2.1, dn_s]
    cases q : mayB (rv b) n (nI p) c with
    | false =>
      have qw : twF (rv b) n p s r c = -1 := by unfold twF; rw [q, if_neg (by decide)]
      rw [qw, if_pos rfl] at hu
      obtain ⟨y', a1, a2⟩ := two_r hW hp hs hr es c f y (by omega) (by omega) hF hv
      rw [hu] at a2
      refine ⟨y', a1, ?_⟩
      rw [two_no hW hc q ey n am_fu (by omega) (by omega) (fu_lt (by omega)), a2]
    | true =>
      have qw : twF (rv b) n p s r c = twG (rv b) n p s r c (c + 1) := by unfold twF; rw [q, if_pos rfl]
      obtain ⟨y2, b1, b2, b3⟩ := two_in (best := twoF (twF (rv b) n p s r) (n - (c + 1)) (c + 1)) (k59 := g_X7_two_59 f) hW hp hs hr es hc q n am_fu y (by omega) (by omega) (fu_lt (by omega)) hF hv
      have e0 : twS (rv b) n p s r c (twoF (twF (rv b) n p s r) (n - (c + 1)) (c + 1)) n = twoF (twF (rv b) n p s r) (n - (c + 1)) (c + 1) := by
        unfold twS twG
        rw [show n - n = 0 by omega]
        exact if_pos rfl
      have e1 : twS (rv b) n p s r c (twoF (twF (rv b) n p s r) (n - (c + 1)) (c + 1)) (c + 1) = twoF (twF (rv b) n p s r) (n - c) c := by
        unfold twS
        rw [hu, qw]
      rw [e0, e1] at b3
      obtain ⟨y', a1, a2⟩ := two_r hW hp hs hr es c f y2 (by omega) (by omega) b1 b2
      refine ⟨y', a1, ?_⟩
      rw [b3, a2]
theorem op_two (a b : Int32) (hI : Inv h) : Okc (f_X6_two a b) (f_X7_two a b) h := by
  obtain ⟨⟨n, m, d, l, i1, i2, i3⟩, -⟩ := id hI
  have g1 := hasMember_c i1 i3
  have g2 := fun c => isMember_r (h := (c, h.2)) i1
  have hm6 := i1.2.1
  have hn8 := i1.1
  cases ha : isA a m with
  | false => exact okF hI 0 (by decide) (by simp -implicitDefEqProofs only [Option.bind_some, b0t, b0f, if_true, if_false, ite_true, ite_false, bind_eta, bind_etaV, rv_c, f_X6_two, g_X6_two_18, g1, ha, fc1]) (fun c => by simp -implicitDefEqProofs only [Option.bind_some, b0t, b0f, if_true, if_false, ite_true, ite_false, bind_eta, bind_etaV, rv_c, f_X7_two, g_X7_two_15, g2, ha, fc1])
  | true =>
    cases hb : inR b 0 15 with
    | false => exact okF hI 0 (by decide) (by simp -implicitDefEqProofs only [Option.bind_some, b0t, b0f, if_true, if_false, ite_true, ite_false, bind_eta, bind_etaV, rv_c, f_X6_two, g_X6_two_18, g1, ha, isRoom_c, hb, fc1]) (fun c => by simp -implicitDefEqProofs only [Option.bind_some, b0t, b0f, if_true, if_false, ite_true, ite_false, bind_eta, bind_etaV, rv_c, f_X7_two, g_X7_two_15, g2, ha, isRoom_r, hb, fc1])
    | true =>
      have ha' := ha
      obtain ⟨p, hp, rfl⟩ := isA_t (by omega) ha
      obtain ⟨r, hr, rfl⟩ := inR_of (n := 15) (by decide) hb
      have h6 : p < 6 := by omega
      have hr16 : r < 16 := by omega
      obtain ⟨s, hs, es⟩ := (i1.2.2.2.2.2.2.2.2.2 p hp).1
      have cr := fun c => comes_r (h := (c, h.2)) i1 h6 hs hr16 es
      cases q : (sq (rv h) n (nI p) s 15).testBit r with
      | true => exact okF hI 4 (by decide) (by simp -implicitDefEqProofs only [Option.bind_some, b0t, b0f, if_true, if_false, ite_true, ite_false, bind_eta, bind_etaV, rv_c, f_X6_two, g1, ha', isRoom_c, hb, canCome_c i1 i3 hp hs hr16 es, q, fc5]) (fun c => by simp -implicitDefEqProofs only [Option.bind_some, b0t, b0f, if_true, if_false, ite_true, ite_false, bind_eta, bind_etaV, rv_c, f_X7_two, g2, ha', isRoom_r, hb, cr, q, fc5])
      | false =>
        obtain ⟨x, c1, c2, c3⟩ := becomes_c (a := 1) (by decide) i1 i3
        obtain ⟨x', d1, d2⟩ := two_c i1 hp hs hr16 es n am_fu 0 x (by omega) (fu_lt (by omega)) c3
        have hF : FB 1 h x' := c2.trans d1
        have e6 : f_X6_two (nI p) (nI r) h = if twoF (twF (rv h) n p s r) n 0 = -1 then f_X6_tell (fcode 3) x' else some (twoF (twF (rv h) n p s r) n 0, x') := by
          simp -implicitDefEqProofs only [Option.bind_some, b0t, b0f, if_true, if_false, ite_true, ite_false, bind_eta, bind_etaV, rv_c, f_X6_two, g1, ha', isRoom_c, hb, canCome_c i1 i3 hp hs hr16 es, q, c1]
          exact d2
        have e7 : ∀ c, ∃ r', f_X7_two (nI p) (nI r) (c, x'.2) = (if 0 ≤ twoF (twF (rv h) n p s r) n 0 then some (twoF (twF (rv h) n p s r) n 0, r') else f_X7_finds (fcode 3) r') ∧ Rest (c, x'.2) r' ∧ r'.1 = c ∧ ∀ k, k < 64 → rv r' k = rv x' k := fun c => by
          have er : rv (c, x'.2) = rv h := (show rv (c, x'.2) = rv x' from rfl).trans (fb_rv hF)
          have hWc : WF (rv (c, x'.2)) n m d l := by rw [er]; exact i1
          obtain ⟨y1, b1, b2, b3⟩ := mv_to (r := 2) (Or.inl rfl) (c, x'.2)
          have ey1 : rv y1 = rv h := (rvFR b2).trans er
          obtain ⟨y', a1, a2⟩ := two_r (b := (c, x'.2)) hWc hp hs hr16 (by rw [er]; exact es) n am_fu y1 (by omega) (fu_lt (by omega)) ((FQ.rfl' _).of2 b2) b3
          refine ⟨y', ?_, a1.rest, a1.1, fun k _ => by rw [a1.2.2.2]; rfl⟩
          have g3 := fun z => isMember_r hWc z
          have cr3 := comes_r hWc h6 hs hr16 (by rw [er]; exact es)
          rw [er] at cr3 a2
          rw [show n - n = 0 by omega] at a2
          simp -implicitDefEqProofs only [Option.bind_some, b0t, b0f, if_true, if_false, ite_true, ite_false, bind_eta, bind_etaV, rv_c, f_X7_two, g3, ha', isRoom_r, hb, cr3, q, b1, ix64_2, rv_2, ey1, i1.2.2.2.2.2.2.1, dn_s]
          exact a2
        rcases twoF_or (N := rv h) (p := p) (s := s) (r := r) hn8 n 0 (by omega) with z | ⟨i, hi, z⟩
        · rw [z, if_pos rfl] at e6
          refine okXF hI hF 3 (by decide) e6 (fun c => ?_)
          obtain ⟨r', r1, r2⟩ := e7 c
          rw [z, if_neg (by decide)] at r1
          exact ⟨r', r1, r2⟩
        · rw [z, if_neg (nI_m1 (by omega))] at e6
          refine okX hI hF (nI i) e6 ?_
          obtain ⟨r', r1, r2⟩ := e7 x'.1
          rw [z, if_pos (nI_pos' (by omega))] at r1
          exact ⟨r', r1, r2⟩
end TWO
