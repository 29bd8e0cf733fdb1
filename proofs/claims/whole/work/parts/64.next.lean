/-! PURE: the first turn of a shortest way; next -/
theorem dn_0 : nI 0 + (-1) < 0 := by decide
theorem dn_s (n : Nat) : nI n - 1 = nI n + (-1) := Int32.sub_eq_add_neg _ _
section NEXT
variable {h : HP} {N : Nat → Int32} {n m d l : Nat}
theorem sq_self {p : Int32} {s : Nat} : ∀ k, (sq N n p s k).testBit s = true
  | 0 => by
    show (2 ^ s).testBit s = true
    rw [Nat.testBit_two_pow]
    exact decide_eq_true rfl
  | k + 1 => sq_mono k s (sq_self k)
theorem sq0_tb {p : Int32} {s x : Nat} : (sq N n p s 0).testBit x = true ↔ s = x := by
  show (2 ^ s).testBit x = true ↔ _
  rw [Nat.testBit_two_pow, decide_eq_true_iff]
/-- by k + 1 turns: here, or by k turns from where one turn leads -/
theorem sq_head {p : Int32} {s : Nat} (hs : s < 16) : ∀ k x, (sq N n p s (k + 1)).testBit x = true ↔ (x = s ∨ ∃ y, E1 N n p s y ∧ (sq N n p y k).testBit x = true)
  | 0, x => by
    show (pN N n p (sq N n p s 0) (sq N n p s 0)).testBit x = true ↔ _
    rw [pN_tb]
    constructor
    · rintro (z | ⟨r, h1, h2, h3⟩)
      · exact Or.inl (sq0_tb.mp z).symm
      · rw [← sq0_tb.mp h2] at h3
        exact Or.inr ⟨x, h3, sq_self 0⟩
    · rintro (z | ⟨y, h1, h2⟩)
      · exact Or.inl (sq0_tb.mpr z.symm)
      · rw [sq0_tb.mp h2] at h1
        exact Or.inr ⟨s, hs, sq_self 0, h1⟩
  | k + 1, x => by
    show (pN N n p (sq N n p s (k + 1)) (sq N n p s (k + 1))).testBit x = true ↔ _
    rw [pN_tb]
    constructor
    · rintro (z | ⟨r, h1, h2, h3⟩)
      · rcases (sq_head hs k x).mp z with z | ⟨y, a, b⟩
        · exact Or.inl z
        · exact Or.inr ⟨y, a, sq_mono k x b⟩
      · rcases (sq_head hs k r).mp h2 with z | ⟨y, a, b⟩
        · rw [z] at h3
          exact Or.inr ⟨x, h3, sq_self (k + 1)⟩
        · exact Or.inr ⟨y, a, (pN_tb p _ _ x).mpr (Or.inr ⟨r, h1, b, h3⟩)⟩
    · rintro (z | ⟨y, a, b⟩)
      · rw [z]
        exact Or.inl (sq_self (k + 1))
      · rcases (pN_tb p _ _ x).mp b with z | ⟨r, h1, h2, h3⟩
        · exact Or.inl ((sq_head hs k x).mpr (Or.inr ⟨y, a, z⟩))
        · exact Or.inr ⟨r, h1, (sq_head hs k r).mpr (Or.inr ⟨y, a, h2⟩), h3⟩
def nxB (N : Nat → Int32) (n : Nat) (p : Int32) (s r : Nat) (u : Int32) (i : Nat) : Bool := decide (hd N i 4 = p) && (sOpens N i (nI s) && decide (farI N n p (vN (sLead N i (nI s))) r = u))
theorem far_first {p : Int32} {s r t : Nat} (hs : s < 16) (hne : ¬ r = s) (ht : t < 16) (h1 : (sq N n p s t).testBit r = true) (h2 : ∀ j, j < t → (sq N n p s j).testBit r = false) : ∃ u, t = u + 1 ∧ ∃ i, i < n ∧ nxB N n p s r (nI u) i = true := by
  have ht0 : ¬ t = 0 := fun e => by
    rw [e] at h1
    exact hne (sq0_tb.mp h1).symm
  obtain ⟨u, rfl⟩ : ∃ z, t = z + 1 := ⟨t - 1, by omega⟩
  refine ⟨u, rfl, ?_⟩
  rcases (sq_head hs u r).mp h1 with z | ⟨y, ⟨i, hi, a, b, c⟩, f⟩
  · exact absurd z hne
  · refine ⟨i, hi, ?_⟩
    have e : farI N n p y r = nI u := farK_yes 16 0 u (by omega) (by omega) f (fun j _ hj => by
      cases q : (sq N n p y j).testBit r with
      | false => rfl
      | true =>
        have := (sq_head hs j r).mpr (Or.inr ⟨y, ⟨i, hi, a, b, c⟩, q⟩)
        rw [h2 (j + 1) (by omega)] at this
        cases this)
    unfold nxB
    rw [decide_eq_true a, b, c, e, decide_eq_true rfl]
    rfl
theorem first_lp {j : Nat} (hW : WF N n m d l) (hL : LC h j n m N) {p : Int32} {s r u : Nat} (hs : s < 16) (hr : r < 16) (hu : u < 16) : ∀ (c f i : Nat), i + c = n → c < f → g_X1_firstOnWay_22 f j p (nI r) (nI s) (nI (u + 1)) (nI i) h = some (farK (nxB N n p s r (nI u)) c i, h)
  | 0, f, i, h1, h2 => by
    obtain ⟨f, rfl⟩ : ∃ z, f = z + 1 := ⟨f - 1, by omega⟩
    rw [g_X1_firstOnWay_22, rI_1, hL.2.2.1, hW.2.2.2.2.2.2.1, show i = n by omega, if_pos nI_le_n]
    rfl
  | c + 1, f, i, h1, h2 => by
    obtain ⟨f, rfl⟩ : ∃ z, f = z + 1 := ⟨f - 1, by omega⟩
    have hn8 := hW.1
    have hi : i < n := by omega
    obtain ⟨y, hy, ey⟩ := sLead_nI (r := nI s) hW hi
    have ih := first_lp (p := p) hW hL hs hr hu c f (i + 1) (by omega) (by omega)
    rw [g_X1_firstOnWay_22, rI_1, hL.2.2.1, hW.2.2.2.2.2.2.1, if_neg (nI_le_i (by omega) (by omega) hi), if_neg (nI_nle (by omega) (by omega)), holds_c hW hL hi, Option.bind_some, opensIn_c hW hL hi, Option.bind_some, ledToL_c hW hL hi, Option.bind_some, ey, turnsTo_c hW hL hy hr, Option.bind_some, nI_1, nI_pred, b2i_c, b2i_c]
    show _ = some ((if nxB N n p s r (nI u) i = true then nI i else farK (nxB N n p s r (nI u)) c (i + 1)), h)
    unfold nxB
    rw [ey, vN_nI (by omega)]
    by_cases q1 : hd N i 4 = p
    · rw [if_pos (decide_eq_true q1), decide_eq_true q1, Bool.true_and]
      cases q2 : sOpens N i (nI s) with
      | true =>
        rw [if_pos rfl, Bool.true_and]
        by_cases q3 : farI N n p y r = nI u
        · rw [if_pos q3, if_pos (decide_eq_true q3)]
        · rw [if_neg q3, if_neg (by rw [decide_eq_false q3]; decide)]
          exact ih
      | false =>
        rw [if_neg (by decide), Bool.false_and, if_neg (by decide)]
        exact ih
    · rw [if_neg (by rw [decide_eq_false q1]; decide), decide_eq_false q1, Bool.false_and, if_neg (by decide)]
      exact ih
theorem next_lp (hW : WF (rv h) n m d l) {p : Int32} {s r u : Nat} (hs : s < 16) (hr : r < 16) : ∀ (c f : Nat), c ≤ n → c < f → g_X7_next_75 f p (nI r) (nI s) (nI (u + 1)) (farK (nxB (rv h) n p s r (nI u)) (n - c) c) (nI c + (-1)) h = some (farK (nxB (rv h) n p s r (nI u)) n 0, h)
  | 0, f, h1, h2 => by
    obtain ⟨f, rfl⟩ : ∃ z, f = z + 1 := ⟨f - 1, by omega⟩
    rw [g_X7_next_75, if_pos dn_0]
    rfl
  | c + 1, f, h1, h2 => by
    obtain ⟨f, rfl⟩ : ∃ z, f = z + 1 := ⟨f - 1, by omega⟩
    have hn8 := hW.1
    have hi : c < n := by omega
    have h8 : c < 8 := by omega
    obtain ⟨y, hy, ey⟩ := sLead_nI (r := nI s) hW hi
    have ih := next_lp hW (p := p) (u := u) hs hr c f (by omega) (by omega)
    have hu : farK (nxB (rv h) n p s r (nI u)) (n - c) c = if nxB (rv h) n p s r (nI u) c = true then nI c else farK (nxB (rv h) n p s r (nI u)) (n - (c + 1)) (c + 1) := by
      rw [show n - c = n - (c + 1) + 1 by omega]
      rfl
    rw [hu] at ih
    have hwh := hW.2.2.2.2.2.2.2.2.1 c hi
    rw [g_X7_next_75, pk_m1, if_neg (nI_pos (by omega)), its4 h8, Option.bind_some, opens_r (h := h) (i := c) h8 hW.2.1 hwh, Option.bind_some, leadsTo_r (h := h) (i := c) h8 hW.2.1 hwh, Option.bind_some, ey, far_r hW hy hr, Option.bind_some, nI_pred, b2i_c]
    unfold nxB at ih
    rw [ey, vN_nI (by omega)] at ih
    by_cases q1 : hd (rv h) c 4 = p
    · rw [if_pos q1]
      rw [decide_eq_true q1, Bool.true_and] at ih
      cases q2 : sOpens (rv h) c (nI s) with
      | true =>
        rw [if_pos rfl]
        rw [q2, Bool.true_and] at ih
        by_cases q3 : farI (rv h) n p y r = nI u
        · rw [if_pos q3]
          rw [if_pos (decide_eq_true q3)] at ih
          exact ih
        · rw [if_neg q3]
          rw [if_neg (by rw [decide_eq_false q3]; decide)] at ih
          exact ih
      | false =>
        rw [if_neg (by decide)]
        rw [q2, Bool.false_and, if_neg (by decide)] at ih
        exact ih
    · rw [if_neg q1]
      rw [decide_eq_false q1, Bool.false_and, if_neg (by decide)] at ih
      exact ih
theorem op_next (a b : Int32) (hI : Inv h) : Okc (f_X6_next a b) (f_X7_next a b) h := by
  obtain ⟨⟨n, m, d, l, i1, i2, i3⟩, -⟩ := id hI
  have g1 := hasMember_c i1 i3
  have g2 := fun c => isMember_r (h := (c, h.2)) i1
  have hm6 := i1.2.1
  have hn8 := i1.1
  cases ha : isA a m with
  | false => exact okF hI 0 (by decide) (by simp -implicitDefEqProofs only [Option.bind_some, b0t, b0f, if_true, if_false, ite_true, ite_false, bind_eta, bind_etaV, rv_c, f_X6_next, g_X6_next_18, g1, ha, fc1]) (fun c => by simp -implicitDefEqProofs only [Option.bind_some, b0t, b0f, if_true, if_false, ite_true, ite_false, bind_eta, bind_etaV, rv_c, f_X7_next, g_X7_next_15, g2, ha, fc1])
  | true =>
    cases hb : inR b 0 15 with
    | false => exact okF hI 0 (by decide) (by simp -implicitDefEqProofs only [Option.bind_some, b0t, b0f, if_true, if_false, ite_true, ite_false, bind_eta, bind_etaV, rv_c, f_X6_next, g_X6_next_18, g1, ha, isRoom_c, hb, fc1]) (fun c => by simp -implicitDefEqProofs only [Option.bind_some, b0t, b0f, if_true, if_false, ite_true, ite_false, bind_eta, bind_etaV, rv_c, f_X7_next, g_X7_next_15, g2, ha, isRoom_r, hb, fc1])
    | true =>
      have ha' := ha
      obtain ⟨p, hp, rfl⟩ := isA_t (by omega) ha
      obtain ⟨r, hr, rfl⟩ := inR_of (n := 15) (by decide) hb
      have h6 : p < 6 := by omega
      have hr16 : r < 16 := by omega
      obtain ⟨s, hs, es⟩ := (i1.2.2.2.2.2.2.2.2.2 p hp).1
      have fr := fun c => far_r (h := (c, h.2)) (p := nI p) i1 hs hr16
      by_cases q : s = r
      · subst q
        exact okF hI 4 (by decide) (by simp -implicitDefEqProofs only [Option.bind_some, b0t, b0f, if_true, if_false, ite_true, ite_false, bind_eta, bind_etaV, rv_c, f_X6_next, g1, ha', isRoom_c, hb, ix6 h6, rI_2, i3.mb hp 0 (by decide), es, fc5]) (fun c => by simp -implicitDefEqProofs only [Option.bind_some, b0t, b0f, if_true, if_false, ite_true, ite_false, bind_eta, bind_etaV, rv_c, f_X7_next, g2, ha', isRoom_r, hb, whose0 h6, es, fc5])
      · have qI : ¬ nI s = nI r := nI_ne (by omega) (by omega) q
        have e6 : f_X6_next (nI p) (nI r) h = (g_X1_firstOnWay_22 am_fu 0 (nI p) (nI r) (nI s) (farI (rv h) n (nI p) s r) 0 h).bind (fun q_4 => if q_4.1 = ((-1) : Int32) then f_X6_tell (fcode 3) q_4.2 else some (q_4.1, q_4.2)) := by
          simp -implicitDefEqProofs only [Option.bind_some, b0t, b0f, if_true, if_false, ite_true, ite_false, bind_eta, bind_etaV, rv_c, f_X6_next, f_X1_firstOnWay, g1, ha', isRoom_c, hb, ix6 h6, rI_2, i3.mb hp 0 (by decide), es, if_neg qI, turnsTo_c i1 i3 hs hr16, fc4]
        have e7 : ∀ c, f_X7_next (nI p) (nI r) (c, h.2) = if 0 ≤ farI (rv h) n (nI p) s r then g_X7_next_75 am_fu (nI p) (nI r) (nI s) (farI (rv h) n (nI p) s r) (-1) (nI n + (-1)) (c, h.2) else f_X7_finds (fcode 3) (c, h.2) := fun c => by
          simp -implicitDefEqProofs only [Option.bind_some, b0t, b0f, if_true, if_false, ite_true, ite_false, bind_eta, bind_etaV, rv_c, f_X7_next, g2, ha', isRoom_r, hb, whose0 h6, es, if_neg qI, fr, ix64_2, rv_2, i1.2.2.2.2.2.2.1, dn_s, fc4]
        rcases farK_or (q := fun k => (sq (rv h) n (nI p) s k).testBit r) 16 0 with ⟨z, -⟩ | ⟨t, -, ht, z1, z2, z⟩
        · have z' : farI (rv h) n (nI p) s r = -1 := z
          rw [z'] at e6
          simp only [z'] at e7
          refine okF hI 3 (by decide) (e6.trans ?_) (fun c => (e7 c).trans (if_neg (by decide)))
          have : g_X1_firstOnWay_22 am_fu 0 (nI p) (nI r) (nI s) (-1) 0 h = some (-1, h) := by
            rw [show am_fu = 999 + 1 from am_fu_eq, g_X1_firstOnWay_22, if_pos (show (-1 : Int32) ≤ 0 by decide)]
            by_cases w : h_rI h 1 0 3 ≤ 0
            · rw [if_pos w]
            · rw [if_neg w]
          rw [this, Option.bind_some, if_pos rfl]
        · have z' : farI (rv h) n (nI p) s r = nI t := z
          obtain ⟨u, rfl, i, hi, ei⟩ := far_first hs (fun e => q e.symm) (show t < 16 by omega) z1 (fun j hj => z2 j (by omega) hj)
          rcases farK_or (q := nxB (rv h) n (nI p) s r (nI u)) n 0 with ⟨-, y⟩ | ⟨i', -, hi', -, -, y⟩
          · rw [y i (by omega) (by omega)] at ei
            cases ei
          · have fl := first_lp (p := nI p) i1 i3 hs hr16 (show u < 16 by omega) n am_fu 0 (by omega) (fu_lt (by omega))
            rw [nI_0, y] at fl
            rw [z', fl, Option.bind_some] at e6
            simp only [z'] at e7
            refine okV hI (nI i') (e6.trans (if_neg (nI_m1 (by omega)))) (((e7 h.1).trans (if_pos (nI_pos' (by omega)))).trans ?_)
            have := next_lp (h := h) i1 (p := nI p) (u := u) hs hr16 n am_fu (by omega) (fu_lt (by omega))
            rw [show n - n = 0 by omega, y] at this
            exact this
end NEXT
