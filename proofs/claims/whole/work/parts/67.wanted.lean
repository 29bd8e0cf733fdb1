/-! PURE: which handle is wanted -/
def mayB (N : Nat → Int32) (n : Nat) (p : Int32) (i : Nat) : Bool := decide (hd N i 4 = -1) && (decide (g0 (sHolds N n p) < 3) && !sHasPair N n p i)
def lnt (N : Nat → Int32) (i p : Nat) : Nat → Int32 := upn N (4 + 6 * i + 4) (nI p)
def wtB (N : Nat → Int32) (n p s r i : Nat) : Bool := mayB N n (nI p) i && (sq (lnt N i p) n (nI p) s 15).testBit r
/-- the reference's row stands as it did, exactly -/
def FQ (b g : HP) : Prop := g.1 = b.1 ∧ g.2.2 = b.2.2 ∧ (∀ c j k, ¬ (c = 13 ∧ (j = 0 ∨ j = 2)) → g.2.1 c j k = b.2.1 c j k) ∧ rv g = rv b
section WANTED
variable {h : HP} {N : Nat → Int32} {n m d l : Nat}
theorem FQ.rest {b g : HP} (hF : FQ b g) : Rest b g := by
  obtain ⟨f1, f2, f3, f5⟩ := hF
  refine ⟨by rw [f1], by rw [f1], fun i hi => by rw [f1], fun i hi => by rw [f1], by rw [f1], by rw [f1], by rw [f1], by rw [f1], f3 7 0 4 (by omega), f3 7 0 17 (by omega), funext fun k => f3 _ _ k (by omega), funext fun k => f3 _ _ k (by omega), funext fun k => f3 _ _ k (by omega), funext fun k => f3 _ _ k (by omega), funext fun k => f3 _ _ k (by omega), by rw [f2]⟩
theorem FQ.rfl' (b : HP) : FQ b b := ⟨rfl, rfl, fun _ _ _ _ => rfl, rfl⟩
theorem FQ.of0 {b y z : HP} (hF : FQ b y) (hR : FR 0 y z) (e : rv z = rv y) : FQ b z := by
  obtain ⟨f1, f2, f3, f5⟩ := hF
  exact ⟨hR.1.trans f1, hR.2.1.trans f2, fun c j k hq => (hR.2.2 c j k (fun w => hq ⟨w.1, Or.inl w.2⟩)).trans (f3 c j k hq), e.trans f5⟩
theorem FQ.of2 {b y z : HP} (hF : FQ b y) (hR : FR 2 y z) : FQ b z := by
  obtain ⟨f1, f2, f3, f5⟩ := hF
  exact ⟨hR.1.trans f1, hR.2.1.trans f2, fun c j k hq => (hR.2.2 c j k (fun w => hq ⟨w.1, Or.inr w.2⟩)).trans (f3 c j k hq), (rvFR hR).trans f5⟩
/-- bringing a saved row back leaves what lies behind it -/
theorem mv_far (h : HP) : ∃ g, f_X7_moveAll 0 2 h = some g ∧ ∀ k, 64 ≤ k → rv g k = rv h k := by
  have hl : am_len 13 2 = 64 := by decide
  refine ⟨fo (fun i g => h_wI g 13 0 i (h_rI g 13 2 i)) 64 0 h, ?_, ?_⟩
  · unfold f_X7_moveAll
    refine lp_up (g := fun n g x => g_X7_moveAll_2 n 0 2 x g) (N := 64) (fin := fun g => some g) (fun n i g hi => ?_) (fun n g => ?_) 64 am_fu 0 h (by decide) (fu_lt (by decide))
    · show g_X7_moveAll_2 (n + 1) 0 2 (nI i) g = _
      rw [g_X7_moveAll_2, if_neg (show ¬ (64 : Int32) ≤ nI i from nI_le_i (n := 64) (by omega) (by decide) hi), if_pos rfl, hl, ix_nI hi (by decide), nI_1]
      rfl
    · rfl
  · refine fo_inv (step := fun i g => h_wI g 13 0 i (h_rI g 13 2 i)) (P := fun t g => ∀ k, 64 ≤ k → rv g k = rv h k) (N := 64) (fun i g hi hP k hk => ?_) 64 0 h (by decide) (fun k _ => rfl)
    rw [rv_w, upn_n (by omega)]
    exact hP k hk
theorem undo_r {y y2 : HP} (hs : ∀ k, k < 64 → y.2.1 13 2 k = rv y k) (hR : FR 0 y y2) (hf : ∀ k, 64 ≤ k → rv y2 k = rv y k) : ∃ y3, f_X7_moveAll 0 2 y2 = some y3 ∧ FR 0 y y3 ∧ rv y3 = rv y := by
  obtain ⟨r, r1, r2, r3⟩ := mv_from (r := 2) (Or.inl rfl) y2
  obtain ⟨g, a1, a2⟩ := mv_far y2
  have : g = r := Option.some.inj (a1.symm.trans r1)
  subst this
  refine ⟨g, a1, hR.trans r2, funext (fun k => ?_)⟩
  by_cases q : k < 64
  · rw [r3 k q, hR.2.2 13 2 k (by omega), hs k q]
  · rw [a2 k (by omega), hf k (by omega)]
theorem WF.lent1 {i p : Nat} (hW : WF N n m d l) (hi : i < n) (hp : p < m) (q : hd N i 4 = -1) : hd N i 5 = 0 ∧ WF (lnt N i p) n m d l := by
  have hm6 := hW.2.1
  have e5 : hd N i 5 = 0 := by
    rcases (hW.2.2.2.2.2.2.2.2.1 i hi).2.2.2.2 with z | ⟨x, hx, z, -⟩
    · exact z.2
    · rw [q] at z
      exact absurd z.symm (nI_m1 (by omega))
  have i1' := hW.loan (x4 := nI p) (x5 := 0) hi (Or.inr ⟨p, hp, rfl, 0, by omega, rfl⟩)
  have eS : upn (upn N (4 + 6 * i + 4) (nI p)) (4 + 6 * i + 5) 0 = upn N (4 + 6 * i + 4) (nI p) := upn_same (by rw [upn_n (by omega)]; exact e5)
  rw [eS] at i1'
  exact ⟨e5, i1'⟩
theorem lnt_back {i p : Nat} (q : hd N i 4 = -1) : upn (lnt N i p) (4 + 6 * i + 4) (-1) = N := by
  unfold lnt
  rw [upn_upn]
  exact upn_same q
theorem lends_rv {y : HP} {i p : Nat} (h5 : hd (rv y) i 5 = 0) : rv (h_wI (h_wI y 13 0 (4 + 6 * i + 4) (nI p)) 13 0 (4 + 6 * i + 5) 0) = lnt (rv y) i p := by
  rw [rv_w, rv_w]
  exact upn_same (by rw [upn_n (by omega)]; exact h5)
theorem mb_lnt {i p k x : Nat} (hi : i < 8) : mb (lnt N i p) x k = mb N x k := mb_hd hi (by decide)
theorem mayLend_c {j i : Nat} {p : Int32} (hW : WF N n m d l) (hL : LC h j n m N) (hi : i < n) : f_X1_mayLend j (nI i) p h = some (b2i (mayB N n p i), h) := by
  have hn8 := hW.1
  unfold f_X1_mayLend mayB
  rw [ix8 (by omega), Option.bind_some, isLent_c (hL.hd hi 4 (by decide)), Option.bind_some, handsFull_c hW hL, Option.bind_some, holdsPairOf_c hW hL hi, Option.bind_some, b2i_c, b2i_c, b2i_c]
  by_cases q1 : hd N i 4 = -1 <;> by_cases q2 : g0 (sHolds N n p) < 3 <;> cases sHasPair N n p i <;> simp [q1, q2, b2i]
theorem mayHave_r {i : Nat} {p : Int32} (hW : WF (rv h) n m d l) (hi : i < 8) : f_X7_mayHave p (nI i) h = some (b2i (mayB (rv h) n p i), h) := by
  have hn8 := hW.1
  have e3 : (3 : Int32) ≤ g0 (sHolds (rv h) n p) ↔ ¬ g0 (sHolds (rv h) n p) < 3 := by rw [Int32.not_lt]
  unfold f_X7_mayHave mayB
  rw [its4 hi, Option.bind_some, holds_r hW, Option.bind_some, bits_h hn8, Option.bind_some, hasPair_r hW hi, Option.bind_some, b2i_c]
  simp only [e3]
  by_cases q1 : hd (rv h) i 4 = -1 <;> by_cases q2 : g0 (sHolds (rv h) n p) < 3 <;> cases sHasPair (rv h) n p i <;> simp [q1, q2, b2i]
theorem comes_r {p s r : Nat} (hW : WF (rv h) n m d l) (hp : p < 6) (hs : s < 16) (hr : r < 16) (e : mb (rv h) p 0 = nI s) : f_X7_comes (nI p) (nI r) h = some (b2i ((sq (rv h) n (nI p) s 15).testBit r), h) := by
  have hl := sq_lt (p := nI p) hW hs 15
  unfold f_X7_comes
  rw [reachOf_r hW hp hs e, Option.bind_some]
  cases q : (sq (rv h) n (nI p) s 15).testBit r with
  | true => exact if_pos ((bit1_nI hl hr).mpr q)
  | false => exact if_neg (fun z => by have := (bit1_nI hl hr).mp z; rw [q] at this; cases this)
theorem canCome_c {j p s r : Nat} (hW : WF N n m d l) (hL : LC h j n m N) (hp : p < m) (hs : s < 16) (hr : r < 16) (e : mb N p 0 = nI s) : f_X1_canCome j (nI p) (nI r) h = some (b2i ((sq N n (nI p) s 15).testBit r), h) := by
  have hl := sq_lt (p := nI p) hW hs 15
  unfold f_X1_canCome
  rw [reachOf_c hW hL hp hs e, Option.bind_some]
  cases q : (sq N n (nI p) s 15).testBit r with
  | true => exact if_neg (fun z => by have := (bit0_nI hl hr).mp z; rw [q] at this; cases this)
  | false => exact if_pos ((bit0_nI hl hr).mpr q)
theorem mayB_free {p : Int32} {i : Nat} (q : mayB N n p i = true) : hd N i 4 = -1 := by
  unfold mayB at q
  rw [Bool.and_eq_true] at q
  exact of_decide_eq_true q.1
theorem want_c {j p s r : Nat} (hW : WF N n m d l) (hp : p < m) (hs : s < 16) (hr : r < 16) (e : mb N p 0 = nI s) : ∀ (c f i : Nat) (x : HP), i + c = n → c < f → LC x j n m N → ∃ x', FB j x x' ∧ LC x' j n m N ∧ g_X1_firstWanted_3 f j (nI p) (nI r) (nI i) x = some (farK (wtB N n p s r) c i, x')
  | 0, f, i, x, h1, h2, hL => by
    obtain ⟨f, rfl⟩ : ∃ z, f = z + 1 := ⟨f - 1, by omega⟩
    refine ⟨x, FB.rfl' j x, hL, ?_⟩
    rw [g_X1_firstWanted_3, rI_1, hL.2.2.1, hW.2.2.2.2.2.2.1, show i = n by omega, if_pos nI_le_n]
    rfl
  | c + 1, f, i, x, h1, h2, hL => by
    obtain ⟨f, rfl⟩ : ∃ z, f = z + 1 := ⟨f - 1, by omega⟩
    have hn8 := hW.1
    have hi : i < n := by omega
    have h8 : i < 8 := by omega
    have hu : farK (wtB N n p s r) (c + 1) i = if wtB N n p s r i = true then nI i else farK (wtB N n p s r) c (i + 1) := rfl
    rw [g_X1_firstWanted_3, rI_1, hL.2.2.1, hW.2.2.2.2.2.2.1, if_neg (nI_le_i (by omega) (by omega) hi), mayLend_c hW hL hi, Option.bind_some, b2i_c, nI_1]
    cases q : mayB N n (nI p) i with
    | false =>
      obtain ⟨x', a1, a2, a3⟩ := want_c hW hp hs hr e c f (i + 1) x (by omega) (by omega) hL
      have qw : wtB N n p s r i = false := by unfold wtB; rw [q, Bool.false_and]
      refine ⟨x', a1, a2, ?_⟩
      rw [if_neg (by decide), a3, hu, if_neg (show ¬ wtB N n p s r i = true by rw [qw]; decide)]
    | true =>
      have q4 := mayB_free q
      have hWl := (hW.lent1 hi hp q4).2
      have hL1 : LC (h_wI x 0 (8 * j + i) 4 (nI p)) j n m (lnt N i p) := lc_w0 hL hn8 hi (by decide)
      have hL2 : LC (h_wI (h_wI x 0 (8 * j + i) 4 (nI p)) 0 (8 * j + i) 4 (-1)) j n m N := by
        have := lc_w0 (k := 4) (v := -1) hL1 hn8 hi (by decide)
        rw [lnt_back q4] at this
        exact this
      have hF : FB j x (h_wI (h_wI x 0 (8 * j + i) 4 (nI p)) 0 (8 * j + i) 4 (-1)) := (FB.w0 x h8 4 _).trans (FB.w0 _ h8 4 _)
      have hl := sq_lt (p := nI p) hWl hs 15
      rw [if_pos rfl, ix8 h8, Option.bind_some, reachOf_c hWl hL1 hp hs ((mb_lnt h8).trans e), Option.bind_some, Option.bind_some]
      cases qb : (sq (lnt N i p) n (nI p) s 15).testBit r with
      | true =>
        have qw : wtB N n p s r i = true := by unfold wtB; rw [q, qb]; rfl
        refine ⟨_, hF, hL2, ?_⟩
        rw [if_neg (fun z => by have := (bit0_nI hl hr).mp z; rw [qb] at this; cases this), hu, if_pos qw]
      | false =>
        have qw : wtB N n p s r i = false := by unfold wtB; rw [qb, Bool.and_false]
        obtain ⟨x', a1, a2, a3⟩ := want_c hW hp hs hr e c f (i + 1) _ (by omega) (by omega) hL2
        refine ⟨x', hF.trans a1, a2, ?_⟩
        rw [if_pos ((bit0_nI hl hr).mpr qb), a3, hu, if_neg (show ¬ wtB N n p s r i = true by rw [qw]; decide)]
theorem want_r {b : HP} {p s r : Nat} (hW : WF (rv b) n m d l) (hp : p < m) (hs : s < 16) (hr : r < 16) (e : mb (rv b) p 0 = nI s) : ∀ (c f : Nat) (y : HP), c ≤ n → c < f → FQ b y → ∃ y', FQ b y' ∧ g_X7_wanted_50 f (nI p) (nI r) (farK (wtB (rv b) n p s r) (n - c) c) (nI c + (-1)) y = if 0 ≤ farK (wtB (rv b) n p s r) n 0 then some (farK (wtB (rv b) n p s r) n 0, y') else f_X7_finds (fcode 3) y'
  | 0, f, y, h1, h2, hF => by
    obtain ⟨f, rfl⟩ : ∃ z, f = z + 1 := ⟨f - 1, by omega⟩
    refine ⟨y, hF, ?_⟩
    rw [g_X7_wanted_50, if_pos dn_0, bind_eta, fc4]
    rfl
  | c + 1, f, y, h1, h2, hF => by
    obtain ⟨f, rfl⟩ : ∃ z, f = z + 1 := ⟨f - 1, by omega⟩
    have hn8 := hW.1
    have hm6 := hW.2.1
    have hi : c < n := by omega
    have h8 : c < 8 := by omega
    have ey : rv y = rv b := hF.2.2.2
    have hWy : WF (rv y) n m d l := by rw [ey]; exact hW
    have hu : farK (wtB (rv b) n p s r) (n - c) c = if wtB (rv b) n p s r c = true then nI c else farK (wtB (rv b) n p s r) (n - (c + 1)) (c + 1) := by
      rw [show n - c = n - (c + 1) + 1 by omega]
      rfl
    rw [g_X7_wanted_50, pk_m1, if_neg (nI_pos (by omega)), mayHave_r hWy h8, Option.bind_some, b2i_c, ey]
    cases q : mayB (rv b) n (nI p) c with
    | false =>
      obtain ⟨y', a1, a2⟩ := want_r hW hp hs hr e c f y (by omega) (by omega) hF
      have qw : wtB (rv b) n p s r c = false := by unfold wtB; rw [q, Bool.false_and]
      rw [hu, if_neg (show ¬ wtB (rv b) n p s r c = true by rw [qw]; decide)] at a2
      refine ⟨y', a1, ?_⟩
      rw [if_neg (by decide), a2]
    | true =>
      have q4 := mayB_free q
      obtain ⟨h5, hWl⟩ := hW.lent1 hi hp q4
      obtain ⟨y1, b1, b2, b3⟩ := mv_to (r := 2) (Or.inl rfl) y
      have e1 : rv y1 = rv b := (rvFR b2).trans ey
      have e2 : rv (h_wI (h_wI y1 13 0 (4 + 6 * c + 4) (nI p)) 13 0 (4 + 6 * c + 5) 0) = lnt (rv b) c p := by
        rw [lends_rv (by rw [e1]; exact h5), e1]
      obtain ⟨y3, c1, c2, c3⟩ := undo_r (y := y1) (y2 := h_wI (h_wI y1 13 0 (4 + 6 * c + 4) (nI p)) 13 0 (4 + 6 * c + 5) 0) (fun k hk => by rw [b3 k hk, rvFR b2]) ((FR.w0 y1 _ _).trans (FR.w0 _ _ _)) (fun k hk => by rw [rv_w, rv_w, upn_n (by omega), upn_n (by omega)])
      have hF3 : FQ b y3 := (hF.of2 b2).of0 c2 c3
      obtain ⟨y', a1, a2⟩ := want_r hW hp hs hr e c f y3 (by omega) (by omega) hF3
      refine ⟨y', a1, ?_⟩
      rw [if_pos rfl, b1, Option.bind_some, lends_r h8, Option.bind_some, comes_r (n := n) (m := m) (d := d) (l := l) (by rw [e2]; exact hWl) (show p < 6 by omega) hs hr (by rw [e2]; exact (mb_lnt h8).trans e), Option.bind_some, b2i_c, e2]
      unfold g_X7_wanted_96
      rw [c1, Option.bind_some, Option.bind_some]
      cases qb : (sq (lnt (rv b) c p) n (nI p) s 15).testBit r with
      | true =>
        have qw : wtB (rv b) n p s r c = true := by unfold wtB; rw [q, qb]; rfl
        rw [hu, if_pos qw] at a2
        rw [if_pos rfl, a2]
      | false =>
        have qw : wtB (rv b) n p s r c = false := by unfold wtB; rw [qb, Bool.and_false]
        rw [hu, if_neg (show ¬ wtB (rv b) n p s r c = true by rw [qw]; decide)] at a2
        rw [if_neg (by decide), a2]
theorem op_wanted (a b : Int32) (hI : Inv h) : Okc (f_X6_wanted a b) (f_X7_wanted a b) h := by
  obtain ⟨⟨n, m, d, l, i1, i2, i3⟩, -⟩ := id hI
  have g1 := hasMember_c i1 i3
  have g2 := fun c => isMember_r (h := (c, h.2)) i1
  have hm6 := i1.2.1
  have hn8 := i1.1
  cases ha : isA a m with
  | false => exact okF hI 0 (by decide) (by simp -implicitDefEqProofs only [Option.bind_some, b0t, b0f, if_true, if_false, ite_true, ite_false, bind_eta, bind_etaV, rv_c, f_X6_wanted, g_X6_wanted_18, g1, ha, fc1]) (fun c => by simp -implicitDefEqProofs only [Option.bind_some, b0t, b0f, if_true, if_false, ite_true, ite_false, bind_eta, bind_etaV, rv_c, f_X7_wanted, g_X7_wanted_15, g2, ha, fc1])
  | true =>
    cases hb : inR b 0 15 with
    | false => exact okF hI 0 (by decide) (by simp -implicitDefEqProofs only [Option.bind_some, b0t, b0f, if_true, if_false, ite_true, ite_false, bind_eta, bind_etaV, rv_c, f_X6_wanted, g_X6_wanted_18, g1, ha, isRoom_c, hb, fc1]) (fun c => by simp -implicitDefEqProofs only [Option.bind_some, b0t, b0f, if_true, if_false, ite_true, ite_false, bind_eta, bind_etaV, rv_c, f_X7_wanted, g_X7_wanted_15, g2, ha, isRoom_r, hb, fc1])
    | true =>
      have ha' := ha
      obtain ⟨p, hp, rfl⟩ := isA_t (by omega) ha
      obtain ⟨r, hr, rfl⟩ := inR_of (n := 15) (by decide) hb
      have h6 : p < 6 := by omega
      have hr16 : r < 16 := by omega
      obtain ⟨s, hs, es⟩ := (i1.2.2.2.2.2.2.2.2.2 p hp).1
      have cr := fun c => comes_r (h := (c, h.2)) i1 h6 hs hr16 es
      cases q : (sq (rv h) n (nI p) s 15).testBit r with
      | true => exact okF hI 4 (by decide) (by simp -implicitDefEqProofs only [Option.bind_some, b0t, b0f, if_true, if_false, ite_true, ite_false, bind_eta, bind_etaV, rv_c, f_X6_wanted, g1, ha', isRoom_c, hb, canCome_c i1 i3 hp hs hr16 es, q, fc5]) (fun c => by simp -implicitDefEqProofs only [Option.bind_some, b0t, b0f, if_true, if_false, ite_true, ite_false, bind_eta, bind_etaV, rv_c, f_X7_wanted, g2, ha', isRoom_r, hb, cr, q, fc5])
      | false =>
        obtain ⟨x, c1, c2, c3⟩ := becomes_c (a := 1) (by decide) i1 i3
        obtain ⟨x', d1, d2, d3⟩ := want_c i1 hp hs hr16 es n am_fu 0 x (by omega) (fu_lt (by omega)) c3
        have hF : FB 1 h x' := c2.trans d1
        have e6 : f_X6_wanted (nI p) (nI r) h = if farK (wtB (rv h) n p s r) n 0 = -1 then f_X6_tell (fcode 3) x' else some (farK (wtB (rv h) n p s r) n 0, x') := by
          have d3' : f_X1_firstWanted 1 (nI p) (nI r) 0 x = some (farK (wtB (rv h) n p s r) n 0, x') := d3
          simp -implicitDefEqProofs only [Option.bind_some, b0t, b0f, if_true, if_false, ite_true, ite_false, bind_eta, bind_etaV, rv_c, f_X6_wanted, g1, ha', isRoom_c, hb, canCome_c i1 i3 hp hs hr16 es, q, c1, d3', fc4]
        have e7 : ∀ c, ∃ r', f_X7_wanted (nI p) (nI r) (c, x'.2) = (if 0 ≤ farK (wtB (rv h) n p s r) n 0 then some (farK (wtB (rv h) n p s r) n 0, r') else f_X7_finds (fcode 3) r') ∧ Rest (c, x'.2) r' ∧ r'.1 = c ∧ ∀ k, k < 64 → rv r' k = rv x' k := fun c => by
          have er : rv (c, x'.2) = rv h := (show rv (c, x'.2) = rv x' from rfl).trans (fb_rv hF)
          have hWc : WF (rv (c, x'.2)) n m d l := by rw [er]; exact i1
          obtain ⟨y', a1, a2⟩ := want_r (b := (c, x'.2)) hWc hp hs hr16 (by rw [er]; exact es) n am_fu (c, x'.2) (by omega) (fu_lt (by omega)) (FQ.rfl' _)
          refine ⟨y', ?_, a1.rest, a1.1, fun k _ => by rw [a1.2.2.2]; rfl⟩
          have g3 := fun z => isMember_r hWc z
          have cr3 := comes_r hWc h6 hs hr16 (by rw [er]; exact es)
          rw [er] at cr3 a2
          rw [show n - n = 0 by omega] at a2
          simp -implicitDefEqProofs only [Option.bind_some, b0t, b0f, if_true, if_false, ite_true, ite_false, bind_eta, bind_etaV, rv_c, f_X7_wanted, g3, ha', isRoom_r, hb, cr3, q, ix64_2, rv_2, er, i1.2.2.2.2.2.2.1, dn_s]
          exact a2
        rcases farK_or (q := wtB (rv h) n p s r) n 0 with ⟨z, -⟩ | ⟨i, -, hi, -, -, z⟩
        · rw [z, if_pos rfl] at e6
          refine okXF hI hF 3 (by decide) e6 (fun c => ?_)
          obtain ⟨r', r1, r2⟩ := e7 c
          rw [z, if_neg (by decide)] at r1
          exact ⟨r', r1, r2⟩
        · rw [z, if_neg (nI_m1 (by omega))] at e6
          refine okX hI hF (nI i) e6 ?_
          obtain ⟨r', r1, r2⟩ := e7 x'.1
          rw [z, if_pos (nI_pos' (by omega))] at r1
          exact ⟨r', r1, r2⟩
end WANTED
