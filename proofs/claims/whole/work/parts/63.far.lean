/-! PURE: how few turns; way -/
/-- the first of c from k on, or -1 -/
def farK (q : Nat → Bool) : Nat → Nat → Int32
  | 0, _ => -1
  | c + 1, k => if q k = true then nI k else farK q c (k + 1)
theorem farK_no {q : Nat → Bool} : ∀ (c k : Nat), (∀ i, k ≤ i → i < k + c → q i = false) → farK q c k = -1
  | 0, _, _ => rfl
  | c + 1, k, h => by
    unfold farK
    rw [if_neg (by rw [h k (by omega) (by omega)]; decide)]
    exact farK_no c (k + 1) (fun i a b => h i (by omega) (by omega))
theorem farK_yes {q : Nat → Bool} : ∀ (c k i : Nat), k ≤ i → i < k + c → q i = true → (∀ j, k ≤ j → j < i → q j = false) → farK q c k = nI i
  | 0, k, i, h1, h2, _, _ => absurd h2 (by omega)
  | c + 1, k, i, h1, h2, h3, h4 => by
    unfold farK
    by_cases e : k = i
    · subst e
      rw [if_pos h3]
    · rw [if_neg (by rw [h4 k (by omega) (by omega)]; decide)]
      exact farK_yes c (k + 1) i (by omega) (by omega) h3 (fun j a b => h4 j (by omega) b)
theorem farK_or {q : Nat → Bool} : ∀ (c k : Nat), (farK q c k = -1 ∧ ∀ i, k ≤ i → i < k + c → q i = false) ∨ ∃ i, k ≤ i ∧ i < k + c ∧ q i = true ∧ (∀ j, k ≤ j → j < i → q j = false) ∧ farK q c k = nI i
  | 0, _ => Or.inl ⟨rfl, fun i a b => absurd b (by omega)⟩
  | c + 1, k => by
    cases e : q k with
    | true => exact Or.inr ⟨k, by omega, by omega, e, fun j a b => absurd b (by omega), by unfold farK; rw [if_pos e]⟩
    | false =>
      have hu : farK q (c + 1) k = farK q c (k + 1) := by
        show (if q k = true then nI k else farK q c (k + 1)) = _
        rw [if_neg (by rw [e]; decide)]
      rw [hu]
      rcases farK_or (q := q) c (k + 1) with ⟨a, b⟩ | ⟨i, a, b, c', d, f⟩
      · refine Or.inl ⟨a, fun i h1 h2 => ?_⟩
        by_cases z : i = k
        · rw [z]; exact e
        · exact b i (by omega) (by omega)
      · refine Or.inr ⟨i, by omega, by omega, c', fun j h1 h2 => ?_, f⟩
        by_cases z : j = k
        · rw [z]; exact e
        · exact d j (by omega) h2
theorem farK_congr {q q' : Nat → Bool} : ∀ (c k : Nat), (∀ i, k ≤ i → i < k + c → q i = q' i) → farK q c k = farK q' c k
  | 0, _, _ => rfl
  | c + 1, k, h => by
    unfold farK
    rw [h k (by omega) (by omega), farK_congr c (k + 1) (fun i a b => h i (by omega) (by omega))]
theorem bit1_nI {A r : Nat} (hA : A < 65536) (hr : r < 16) : ((nI A) >>> (nI r &&& 31)) &&& 1 = 1 ↔ A.testBit r = true := by
  rw [← sBit_nI hA hr]
  unfold sBit
  rw [decide_eq_true_iff]
theorem bit0_nI {A r : Nat} (hA : A < 65536) (hr : r < 16) : ((nI A) >>> (nI r &&& 31)) &&& 1 = 0 ↔ A.testBit r = false := by
  rw [bit01, bit1_nI hA hr, Bool.not_eq_true]
def farI (N : Nat → Int32) (n : Nat) (p : Int32) (s r : Nat) : Int32 := farK (fun k => (sq N n p s k).testBit r) 16 0
section FAR
variable {h : HP} {N : Nat → Int32} {n m d l : Nat}
theorem turns_lp {j : Nat} (hW : WF N n m d l) (hL : LC h j n m N) {p : Int32} {s r : Nat} (hs : s < 16) (hr : r < 16) : ∀ (c f k F : Nat), k + c = 16 → c < f → F < 65536 → (∀ x, F.testBit x = true ↔ ((sq N n p s k).testBit x = true ∧ (k = 0 ∨ ¬ (sq N n p s (k - 1)).testBit x = true))) → (∀ i, i < k → (sq N n p s i).testBit r = false) → g_X1_turnsTo_12 f j p (nI r) (nI (sq N n p s k)) (nI F) (nI k) h = some (farK (fun k => (sq N n p s k).testBit r) c k, h)
  | 0, f, k, F, h1, h2, hF, hb, hno => by
    obtain ⟨f, rfl⟩ : ∃ z, f = z + 1 := ⟨f - 1, by omega⟩
    have : k = 16 := by omega
    subst this
    rw [g_X1_turnsTo_12, if_pos (by decide)]
    rfl
  | c + 1, f, k, F, h1, h2, hF, hb, hno => by
    obtain ⟨f, rfl⟩ : ∃ z, f = z + 1 := ⟨f - 1, by omega⟩
    have l1 := sq_lt (p := p) hW hs k
    rw [g_X1_turnsTo_12, if_neg (show ¬ (16 : Int32) ≤ nI k from nI_le_i (n := 16) (by omega) (by decide) (by omega))]
    by_cases q : F = 0
    · subst q
      rw [if_pos (show nI 0 = 0 from rfl)]
      have hz : ∀ x, (sq N n p s k).testBit x = true → ¬ k = 0 ∧ (sq N n p s (k - 1)).testBit x = true := fun x hx => by
        have := hb x
        rw [Nat.zero_testBit] at this
        refine ⟨fun k0 => ?_, ?_⟩
        · exact absurd (this.mpr ⟨hx, Or.inl k0⟩) (by decide)
        · apply Classical.byContradiction
          intro y
          exact absurd (this.mpr ⟨hx, Or.inr y⟩) (by decide)
      by_cases k0 : k = 0
      · subst k0
        have : (sq N n p s 0).testBit s = true := by
          show (2 ^ s).testBit s = true
          rw [Nat.testBit_two_pow]
          exact decide_eq_true rfl
        exact absurd rfl (hz s this).1
      · obtain ⟨k, rfl⟩ : ∃ z, k = z + 1 := ⟨k - 1, by omega⟩
        have e : sq N n p s (k + 1) = sq N n p s k := by
          apply Nat.eq_of_testBit_eq
          intro x
          cases a : (sq N n p s (k + 1)).testBit x with
          | true => exact ((hz x a).2).symm
          | false =>
            cases b : (sq N n p s k).testBit x with
            | false => rfl
            | true =>
              rw [sq_mono k x b] at a
              cases a
        rw [farK_no (c + 1) (k + 1) (fun i a b => by
          show (sq N n p s i).testBit r = false
          have := sq_fix e (i - k)
          rw [show k + (i - k) = i by omega] at this
          rw [this]
          exact hno k (by omega))]
    · have hP := pT_nI hW p (A := F) (a := 0) hF (by decide)
      have st := sq_step hb hP.2
      rw [if_neg (show ¬ nI F = 0 from fun z => q ((nI_eq (b := 0) (by omega) (by decide)).mp z))]
      have eF : F.testBit r = (sq N n p s k).testBit r := by
        have := hb r
        cases b : (sq N n p s k).testBit r with
        | false =>
          rw [b] at this
          cases a : F.testBit r with
          | false => rfl
          | true => exact absurd (this.mp a).1 (by decide)
        | true =>
          refine this.mpr ⟨b, ?_⟩
          by_cases k0 : k = 0
          · exact Or.inl k0
          · exact Or.inr (by rw [hno (k - 1) (by omega)]; decide)
      cases b : (sq N n p s k).testBit r with
      | true =>
        rw [if_neg (fun z => by have := (bit0_nI hF hr).mp z; rw [eF, b] at this; cases this)]
        unfold farK
        rw [if_pos b]
      | false =>
        rw [if_pos ((bit0_nI hF hr).mpr (eF.trans b)), oneTurn_c hW hL, show (0 : Int32) = nI 0 from rfl, hP.1, Option.bind_some, nw_nI, nI_or, st.1, nI_1]
        unfold farK
        rw [if_neg (by rw [b]; decide)]
        exact turns_lp hW hL hs hr c f (k + 1) _ (by omega) (by omega) (by have := nw_le (pN N n p F 0) (sq N n p s k); have := hP.2; omega) st.2 (fun i hi => by
          by_cases z : i = k
          · rw [z]; exact b
          · exact hno i (by omega))
theorem turnsTo_c {j : Nat} {p : Int32} {s r : Nat} (hW : WF N n m d l) (hL : LC h j n m N) (hs : s < 16) (hr : r < 16) : f_X1_turnsTo j p (nI s) (nI r) h = some (farI N n p s r, h) := by
  unfold f_X1_turnsTo
  rw [bit_nI s hs]
  exact turns_lp hW hL hs hr 16 am_fu 0 (2 ^ s) (by omega) (fu_lt (by decide)) (sq_lt (p := p) hW hs 0) (fun x => ⟨fun z => ⟨z, Or.inl rfl⟩, fun z => z.1⟩) (fun i hi => absurd hi (by omega))
theorem far_lp (hW : WF (rv h) n m d l) {p : Int32} {s r K : Nat} (hs : s < 16) (hr : r < 16) (hK15 : K ≤ 15) (hK : sq (rv h) n p s (K + 1) = sq (rv h) n p s K) (hno : ∀ k, k < K → ¬ sq (rv h) n p s (k + 1) = sq (rv h) n p s k) : ∀ (j f k : Nat), k + j = K → j + 1 < f → g_X7_far_11 f p (nI r) (nI (sq (rv h) n p s k)) (nI k) 1 h = some (farK (fun k => (sq (rv h) n p s k).testBit r) (16 - k) k, h)
  | 0, f, k, h1, h2 => by
    obtain ⟨f, rfl⟩ : ∃ z, f = z + 1 + 1 := ⟨f - 2, by omega⟩
    have : k = K := by omega
    subst this
    have l1 := sq_lt (p := p) hW hs k
    rw [g_X7_far_11, if_neg (by decide)]
    cases b : (sq (rv h) n p s k).testBit r with
    | true =>
      rw [if_neg (fun z => by have := (bit0_nI l1 hr).mp z; rw [b] at this; cases this)]
      unfold g_X7_far_58
      rw [if_pos ((bit1_nI l1 hr).mpr b), farK_yes (16 - k) k k (by omega) (by omega) b (fun j a c => absurd c (by omega))]
    | false =>
      rw [if_pos ((bit0_nI l1 hr).mpr b), oneMore_r hW, (pT_nI hW p l1 l1).1, Option.bind_some]
      show (if nI (sq (rv h) n p s (k + 1)) = nI (sq (rv h) n p s k) then g_X7_far_11 (f + 1) p (nI r) (nI (sq (rv h) n p s (k + 1))) (nI k + 1) 0 h else _) = _
      rw [hK, if_pos rfl, g_X7_far_11, if_pos rfl]
      unfold g_X7_far_58
      rw [if_neg (fun z => by have := (bit1_nI l1 hr).mp z; rw [b] at this; cases this), farK_no (16 - k) k (fun i a c => by
        show (sq (rv h) n p s i).testBit r = false
        have := sq_fix hK (i - k)
        rw [show k + (i - k) = i by omega] at this
        rw [this]
        exact b)]
  | j + 1, f, k, h1, h2 => by
    obtain ⟨f, rfl⟩ : ∃ z, f = z + 1 := ⟨f - 1, by omega⟩
    have l1 := sq_lt (p := p) hW hs k
    have l2 := sq_lt (p := p) hW hs (k + 1)
    rw [g_X7_far_11, if_neg (by decide)]
    cases b : (sq (rv h) n p s k).testBit r with
    | true =>
      rw [if_neg (fun z => by have := (bit0_nI l1 hr).mp z; rw [b] at this; cases this)]
      unfold g_X7_far_58
      rw [if_pos ((bit1_nI l1 hr).mpr b), farK_yes (16 - k) k k (by omega) (by omega) b (fun j a c => absurd c (by omega))]
    | false =>
      rw [if_pos ((bit0_nI l1 hr).mpr b), oneMore_r hW, (pT_nI hW p l1 l1).1, Option.bind_some]
      show (if nI (sq (rv h) n p s (k + 1)) = nI (sq (rv h) n p s k) then _ else g_X7_far_11 f p (nI r) (nI (sq (rv h) n p s (k + 1))) (nI k + 1) 1 h) = _
      rw [if_neg (nI_ne (by omega) (by omega) (hno k (by omega))), nI_1, far_lp hW hs hr hK15 hK hno j f (k + 1) (by omega) (by omega)]
      rw [show 16 - k = 16 - (k + 1) + 1 by omega]
      show _ = some ((if (sq (rv h) n p s k).testBit r = true then nI k else farK (fun k => (sq (rv h) n p s k).testBit r) (16 - (k + 1)) (k + 1)), h)
      rw [if_neg (by rw [b]; decide)]
theorem far_r {p : Int32} {s r : Nat} (hW : WF (rv h) n m d l) (hs : s < 16) (hr : r < 16) : f_X7_far p (nI s) (nI r) h = some (farI (rv h) n p s r, h) := by
  obtain ⟨K, k1, k2, k3⟩ := sq_still (p := p) hW hs
  unfold f_X7_far
  rw [bit_nI s hs]
  exact far_lp hW hs hr k1 k2 k3 K am_fu 0 (by omega) (fu_lt (by omega))
theorem op_way (a b : Int32) (hI : Inv h) : Okc (f_X6_way a b) (f_X7_way a b) h := by
  obtain ⟨⟨n, m, d, l, i1, i2, i3⟩, -⟩ := id hI
  have g1 := hasMember_c i1 i3
  have g2 := fun c => isMember_r (h := (c, h.2)) i1
  have hm6 := i1.2.1
  cases ha : isA a m with
  | false => exact okF hI 0 (by decide) (by simp -implicitDefEqProofs only [Option.bind_some, b0t, b0f, if_true, if_false, ite_true, ite_false, bind_eta, bind_etaV, rv_c, f_X6_way, g_X6_way_18, g1, ha, fc1]) (fun c => by simp -implicitDefEqProofs only [Option.bind_some, b0t, b0f, if_true, if_false, ite_true, ite_false, bind_eta, bind_etaV, rv_c, f_X7_way, g_X7_way_15, g2, ha, fc1])
  | true =>
    cases hb : inR b 0 15 with
    | false => exact okF hI 0 (by decide) (by simp -implicitDefEqProofs only [Option.bind_some, b0t, b0f, if_true, if_false, ite_true, ite_false, bind_eta, bind_etaV, rv_c, f_X6_way, g_X6_way_18, g1, ha, isRoom_c, hb, fc1]) (fun c => by simp -implicitDefEqProofs only [Option.bind_some, b0t, b0f, if_true, if_false, ite_true, ite_false, bind_eta, bind_etaV, rv_c, f_X7_way, g_X7_way_15, g2, ha, isRoom_r, hb, fc1])
    | true =>
      have ha' := ha
      obtain ⟨p, hp, rfl⟩ := isA_t (by omega) ha
      obtain ⟨r, hr, rfl⟩ := inR_of (n := 15) (by decide) hb
      have h6 : p < 6 := by omega
      have hr16 : r < 16 := by omega
      obtain ⟨s, hs, es⟩ := (i1.2.2.2.2.2.2.2.2.2 p hp).1
      have fr := fun c => far_r (h := (c, h.2)) (p := nI p) i1 hs hr16
      have e6 : f_X6_way (nI p) (nI r) h = if farI (rv h) n (nI p) s r = -1 then f_X6_tell (fcode 3) h else some (farI (rv h) n (nI p) s r, h) := by
        simp -implicitDefEqProofs only [Option.bind_some, b0t, b0f, if_true, if_false, ite_true, ite_false, bind_eta, bind_etaV, rv_c, f_X6_way, g1, ha', isRoom_c, hb, ix6 h6, rI_2, i3.mb hp 0 (by decide), es, turnsTo_c i1 i3 hs hr16, fc4]
      have e7 : ∀ c, f_X7_way (nI p) (nI r) (c, h.2) = if 0 ≤ farI (rv h) n (nI p) s r then some (farI (rv h) n (nI p) s r, (c, h.2)) else f_X7_finds (fcode 3) (c, h.2) := fun c => by
        simp -implicitDefEqProofs only [Option.bind_some, b0t, b0f, if_true, if_false, ite_true, ite_false, bind_eta, bind_etaV, rv_c, f_X7_way, g2, ha', isRoom_r, hb, whose0 h6, es, fr, fc4]
      rcases farK_or (q := fun k => (sq (rv h) n (nI p) s k).testBit r) 16 0 with ⟨z, -⟩ | ⟨i, -, hi, -, -, z⟩
      · have z' : farI (rv h) n (nI p) s r = -1 := z
        rw [z'] at e6
        simp only [z'] at e7
        exact okF hI 3 (by decide) (e6.trans (if_pos rfl)) (fun c => (e7 c).trans (if_neg (by decide)))
      · have z' : farI (rv h) n (nI p) s r = nI i := z
        rw [z'] at e6
        simp only [z'] at e7
        exact okV hI (nI i) (e6.trans (if_neg (nI_m1 (by omega)))) ((e7 h.1).trans (if_pos (nI_pos' (by omega))))
end FAR
