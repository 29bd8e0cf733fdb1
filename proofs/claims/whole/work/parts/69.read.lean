/-! PURE: read -/
def ldB (N : Nat → Int32) (p : Int32) (a v : Nat) (i : Nat) : Bool := decide (hd N i 4 = p) && (sOpens N i (nI a) && decide (sLead N i (nI a) = nI v))
theorem fo_any {f : Nat → Bool} : ∀ (k i : Nat), fo (fun t a => a || f t) k i false = true ↔ ∃ j, i ≤ j ∧ j < i + k ∧ f j = true
  | 0, i => ⟨fun z => (by cases z), fun ⟨j, h1, h2, _⟩ => absurd h2 (by omega)⟩
  | k + 1, i => by
    show fo (fun t a => a || f t) k (i + 1) (false || f i) = true ↔ _
    rw [Bool.false_or]
    cases q : f i with
    | true =>
      rw [fo_true]
      exact ⟨fun _ => ⟨i, by omega, by omega, q⟩, fun _ => rfl⟩
    | false =>
      rw [fo_any k (i + 1)]
      constructor
      · rintro ⟨j, h1, h2, h3⟩
        exact ⟨j, by omega, by omega, h3⟩
      · rintro ⟨j, h1, h2, h3⟩
        refine ⟨j, ?_, by omega, h3⟩
        by_cases e : j = i
        · rw [e, q] at h3
          cases h3
        · omega
theorem pow16 {v : Nat} (hv : v < 16) : 2 ^ v < 65536 := by
  have h1 : 2 ^ v < 2 ^ 16 := Nat.pow_lt_pow_right (by decide) hv
  exact h1
section READ
variable {h : HP} {N : Nat → Int32} {n m d l : Nat}
theorem isLed_r {p : Int32} {a v : Nat} (hW : WF (rv h) n m d l) : f_X7_isLed p (nI a) (nI v) h = some (b2i (fo (fun t c => c || ldB (rv h) p a v t) n 0 false), h) := by
  obtain ⟨w1, w2, w3, w4, w5, w6, w7, w8, w9, w10⟩ := hW
  unfold f_X7_isLed
  refine lp_up (g := fun k (c : Bool) x => g_X7_isLed_6 k p (nI a) (nI v) (b2i c) x h) (N := n) (fin := fun c => some (b2i c, h)) (fun k t c ht => ?_) (fun k c => ?_) n am_fu 0 false (by omega) (fu_lt (by omega))
  · show g_X7_isLed_6 (k + 1) p (nI a) (nI v) (b2i c) (nI t) h = g_X7_isLed_6 k p (nI a) (nI v) (b2i (c || ldB (rv h) p a v t)) (nI (t + 1)) h
    have hwh := w9 t ht
    rw [g_X7_isLed_6, ix64_2]
    show (if h_rI h 13 0 2 ≤ nI t then _ else _) = _
    rw [rv_2, w7, if_neg (nI_le_i (by omega) (by omega) ht), nI_1]
    cases c with
    | true =>
      rw [if_neg (by decide), Bool.true_or]
      rfl
    | false =>
      rw [if_pos (by decide), its4 (by omega), Option.bind_some, Bool.false_or]
      unfold ldB
      by_cases q : hd (rv h) t 4 = p
      · rw [if_pos q, decide_eq_true q, Bool.true_and, opens_r (h := h) (i := t) (by omega) w2 hwh, Option.bind_some, b2i_c]
        cases q2 : sOpens (rv h) t (nI a) with
        | true =>
          rw [if_pos rfl, Bool.true_and, leadsTo_r (h := h) (i := t) (by omega) w2 hwh, Option.bind_some]
          by_cases q3 : sLead (rv h) t (nI a) = nI v
          · rw [if_pos q3, decide_eq_true q3]
            rfl
          · rw [if_neg q3, decide_eq_false q3]
            rfl
        | false =>
          rw [if_neg (by decide), Bool.false_and]
          rfl
      · rw [if_neg q, decide_eq_false q, Bool.false_and]
        rfl
  · show g_X7_isLed_6 (k + 1) p (nI a) (nI v) (b2i c) (nI n) h = _
    rw [g_X7_isLed_6, ix64_2]
    show (if h_rI h 13 0 2 ≤ nI n then _ else _) = _
    rw [rv_2, w7, if_pos nI_le_n, b2i_and]
theorem led_E1 {p : Int32} {a v : Nat} (hW : WF N n m d l) (hv : v < 16) : fo (fun t c => c || ldB N p a v t) n 0 false = true ↔ E1 N n p a v := by
  rw [fo_any]
  constructor
  · rintro ⟨i, -, hi, h3⟩
    unfold ldB at h3
    rw [Bool.and_eq_true, Bool.and_eq_true] at h3
    exact ⟨i, by omega, of_decide_eq_true h3.1, h3.2.1, by rw [of_decide_eq_true h3.2.2, vN_nI (by omega)]⟩
  · rintro ⟨i, hi, h1, h2, h3⟩
    obtain ⟨y, hy, ey⟩ := sLead_nI (r := nI a) hW hi
    rw [ey, vN_nI (by omega)] at h3
    refine ⟨i, by omega, by omega, ?_⟩
    unfold ldB
    rw [decide_eq_true h1, h2, ey, h3, decide_eq_true rfl]
    rfl
theorem turn1_tb {p : Int32} {a v : Nat} (ha : a < 16) : (pN N n p (2 ^ a) 0).testBit v = true ↔ E1 N n p a v := by
  rw [pN_tb]
  constructor
  · rintro (z | ⟨r, h1, h2, h3⟩)
    · rw [Nat.zero_testBit] at z
      cases z
    · rw [Nat.testBit_two_pow, decide_eq_true_iff] at h2
      rw [h2]
      exact h3
  · intro z
    refine Or.inr ⟨a, ha, ?_, z⟩
    rw [Nat.testBit_two_pow]
    exact decide_eq_true rfl
theorem room_v {w : Int64} (h0 : ¬ lg_cmp w 0 < 0) (h1 : ¬ 0 ≤ lg_cmp w 16) : ∃ k : Nat, k < 16 ∧ w.toInt = (k : Int) ∧ Int64.toInt32 w = nI k := by
  rw [lg_cmp_lt, Int64.lt_iff_toInt_lt] at h0
  rw [lg_cmp_ge, Int64.le_iff_toInt_le] at h1
  have e0 : (0 : Int64).toInt = 0 := by decide
  have e9 : (16 : Int64).toInt = 16 := by decide
  obtain ⟨k, hk, e, e'⟩ := long_nI (v := w) (B := 15) (by decide) (by omega) (by omega)
  exact ⟨k, by omega, e, e'⟩
theorem read_lp {p s z : Nat} (hW : WF (rv h) n m d l) (hL : LC h 0 n m (rv h)) (hs : s < 4) (hz : z ≤ 40) (e3 : h.1.1 3 s 1 = nI z) (e5 : h.2.1 13 5 s = nI z) (hv : ∀ k, k < 40 → h.1.2 12 s k = h.2.2 14 0 (40 * s + k)) : ∀ (c f k a A : Nat), k + c = z → c < f → a < 16 → A < 65536 → (∀ v, v < 16 → (A.testBit v = true ↔ ((k = 0 ∧ v = a) ∨ (¬ k = 0 ∧ E1 (rv h) n (nI p) a v)))) → ∃ r, g_X6_read_73 f (nI p) s (nI A) (nI k) h = some (r, h) ∧ g_X7_read_42 f (nI s) (nI p) (nI a) (nI k) h = some (r, h)
  | 0, f, k, a, A, h1, h2, ha, hA, hb => by
    obtain ⟨f, rfl⟩ : ∃ z, f = z + 1 := ⟨f - 1, by omega⟩
    refine ⟨0, ?_, ?_⟩
    · rw [g_X6_read_73, rI_3, e3, show k = z by omega, if_pos nI_le_n]
    · rw [g_X7_read_42, ix4 hs, Option.bind_some, rI_13, e5, show k = z by omega, if_pos nI_le_n]
  | c + 1, f, k, a, A, h1, h2, ha, hA, hb => by
    obtain ⟨f, rfl⟩ : ∃ z, f = z + 1 := ⟨f - 1, by omega⟩
    have hk40 : k < 40 := by omega
    have nk : ¬ nI z ≤ nI k := nI_le_i (by omega) (by omega) (by omega)
    have e6 : g_X6_read_73 (f + 1) (nI p) s (nI A) (nI k) h = if lg_cmp (h.1.2 12 s k) 0 < 0 then some (1 + nI k, h) else (if 0 ≤ lg_cmp (h.1.2 12 s k) 16 then some (1 + nI k, h) else (if (nI A >>> ((Int64.toInt32 (h.1.2 12 s k)) &&& 31)) &&& 1 = 0 then some (1 + nI k, h) else (f_X1_oneTurnFrom 0 (nI p) (1 <<< ((Int64.toInt32 (h.1.2 12 s k)) &&& 31)) h).bind (fun q_2 => g_X6_read_73 f (nI p) s q_2.1 (nI (k + 1)) q_2.2))) := by
      rw [g_X6_read_73, rI_3, e3, if_neg nk, ix_nI hk40 (by decide), Option.bind_some, rJ_12, nI_1]
    have e7 : g_X7_read_42 (f + 1) (nI s) (nI p) (nI a) (nI k) h = if lg_cmp (h.1.2 12 s k) 0 < 0 then some (1 + nI k, h) else (if 0 ≤ lg_cmp (h.1.2 12 s k) 16 then some (1 + nI k, h) else g_X7_read_88 (g_X7_read_42 f) (nI s) (nI p) (nI a) (nI k) (h.1.2 12 s k) 1 h) := by
      rw [g_X7_read_42, ix4 hs, Option.bind_some, rI_13, e5, if_neg nk, ix160 hs hk40, Option.bind_some, rJ_14, ← hv k hk40]
      unfold g_X7_read_88 g_X7_read_129
      rw [if_pos rfl, if_pos rfl]
    by_cases q0 : lg_cmp (h.1.2 12 s k) 0 < 0
    · rw [if_pos q0] at e6 e7
      exact ⟨_, e6, e7⟩
    rw [if_neg q0] at e6 e7
    by_cases q1 : 0 ≤ lg_cmp (h.1.2 12 s k) 16
    · rw [if_pos q1] at e6 e7
      exact ⟨_, e6, e7⟩
    rw [if_neg q1] at e6 e7
    obtain ⟨v, hv16, ev, ei⟩ := room_v q0 q1
    have hP := pT_nI hW (nI p) (A := 2 ^ v) (a := 0) (pow16 hv16) (by decide)
    have hP1 : pT (rv h) n (nI p) (nI (2 ^ v)) 0 = nI (pN (rv h) n (nI p) (2 ^ v) 0) := hP.1
    rw [ei, bit_nI v hv16, oneTurn_c hW hL, Option.bind_some, hP1] at e6
    have e8 : g_X7_read_88 (g_X7_read_42 f) (nI s) (nI p) (nI a) (nI k) (h.1.2 12 s k) 1 h = if A.testBit v = true then g_X7_read_42 f (nI s) (nI p) (nI v) (nI (k + 1)) h else some (1 + nI k, h) := by
      unfold g_X7_read_88
      rw [if_neg (show ¬ (1 : Int32) = 0 by decide)]
      unfold g_X7_read_129
      by_cases k0 : k = 0
      · subst k0
        rw [if_pos (show nI 0 = 0 from rfl), if_neg (show ¬ (1 : Int32) = 0 by decide), if_pos (show (0 : Int32) = 0 from rfl), ei, nI_1]
        by_cases q : v = a
        · have hq : lg_cmp (h.1.2 12 s 0) (Int32.toInt64 (nI a)) = 0 := by
            rw [lg_cmp_eq, ← Int64.toInt_inj, ev, Int32.toInt_toInt64, nI_toInt (by omega), q]
          rw [if_pos hq, if_pos ((hb v hv16).mpr (Or.inl ⟨rfl, q⟩))]
        · have hq : ¬ lg_cmp (h.1.2 12 s 0) (Int32.toInt64 (nI a)) = 0 := by
            rw [lg_cmp_eq, ← Int64.toInt_inj, ev, Int32.toInt_toInt64, nI_toInt (by omega)]
            omega
          rw [if_neg hq, if_neg (fun y => (hb v hv16).mp y |>.elim (fun w => q w.2) (fun w => w.1 rfl))]
      · rw [if_neg (show ¬ nI k = 0 from fun z => k0 ((nI_eq (b := 0) (by omega) (by decide)).mp z)), ei, isLed_r hW, Option.bind_some, b2i_c, nI_1]
        have := led_E1 (p := nI p) (a := a) hW hv16
        by_cases q : fo (fun t c => c || ldB (rv h) (nI p) a v t) n 0 false = true
        · rw [if_pos q, if_pos ((hb v hv16).mpr (Or.inr ⟨k0, this.mp q⟩))]
        · rw [if_neg q, if_neg (fun y => (hb v hv16).mp y |>.elim (fun w => k0 w.1) (fun w => q (this.mpr w.2)))]
    rw [e8] at e7
    by_cases qb : A.testBit v = true
    · rw [if_neg (fun y => by have := (bit0_nI hA hv16).mp y; rw [qb] at this; cases this)] at e6
      rw [if_pos qb] at e7
      obtain ⟨r, r1, r2⟩ := read_lp (p := p) hW hL hs hz e3 e5 hv c f (k + 1) v (pN (rv h) n (nI p) (2 ^ v) 0) (by omega) (by omega) hv16 hP.2 (fun u hu => by
        rw [turn1_tb hv16]
        exact ⟨fun y => Or.inr ⟨by omega, y⟩, fun y => y.elim (fun w => absurd w.1 (by omega)) (fun w => w.2)⟩)
      exact ⟨r, e6.trans r1, e7.trans r2⟩
    · have qb' : A.testBit v = false := by
        cases y : A.testBit v with
        | false => rfl
        | true => exact absurd y qb
      rw [if_pos ((bit0_nI hA hv16).mpr qb')] at e6
      rw [if_neg qb] at e7
      exact ⟨_, e6, e7⟩
theorem op_read (a b : Int32) (hI : Inv h) : Okc (f_X6_read a b) (f_X7_read a b) h := by
  obtain ⟨⟨n, m, d, l, i1, i2, i3⟩, -⟩ := id hI
  have iS : IShe h := hI.2.2.2.1
  have hn8 := i1.1
  have hm6 := i1.2.1
  have g1 := hasMember_c i1 i3
  have g2 := fun c => isMember_r (h := (c, h.2)) i1
  cases ha : inR a 0 3 with
  | false =>
    refine okF hI 0 (by decide) (by simp -implicitDefEqProofs only [Option.bind_some, b0t, b0f, if_true, if_false, ite_true, ite_false, bind_eta, bind_etaV, rv_c, f_X6_read, isSheet_c, ha, fc1]) (fun c => ?_)
    simp -implicitDefEqProofs only [Option.bind_some, b0t, b0f, if_true, if_false, ite_true, ite_false, bind_eta, bind_etaV, rv_c, f_X7_read, f_X7_badSheet, isSheet_r, ha, fc1]
    rw [if_neg (by decide)]
  | true =>
    have ha' := ha
    obtain ⟨s, hs, rfl⟩ := inR_of (n := 3) (by decide) ha
    have hs4 : s < 4 := by omega
    obtain ⟨s1, s2, s3, ⟨z, hz, s4⟩, s5⟩ := iS s hs4
    by_cases q : h.2.1 13 4 s = 0
    · refine okF hI 5 (by decide) ?_ (fun c => ?_)
      · simp -implicitDefEqProofs only [Option.bind_some, b0t, b0f, if_true, if_false, ite_true, ite_false, bind_eta, bind_etaV, rv_c, f_X6_read, isSheet_c, ha', ix4 hs4, missing_c, s1, decide_eq_true q, fc6]
      · unfold f_X7_read
        rw [badSheet_r hs4 (c, h.2) ha', if_pos q, Option.bind_some, if_neg (show ¬ fcode 5 = 0 by decide), bind_eta]
    · have bs : ∀ c, f_X7_badSheet (nI s) (c, h.2) = some (0, (c, h.2)) := fun c => (badSheet_r hs4 (c, h.2) ha').trans (if_neg q)
      cases hb : isA b m with
      | false =>
        refine okF hI 0 (by decide) ?_ (fun c => ?_)
        · simp -implicitDefEqProofs only [Option.bind_some, b0t, b0f, if_true, if_false, ite_true, ite_false, bind_eta, bind_etaV, rv_c, f_X6_read, isSheet_c, ha', ix4 hs4, missing_c, s1, decide_eq_false q, g1, hb, fc1]
        · simp -implicitDefEqProofs only [Option.bind_some, b0t, b0f, if_true, if_false, ite_true, ite_false, bind_eta, bind_etaV, rv_c, f_X7_read, bs, g2, hb, fc1]
      | true =>
        have hb' := hb
        obtain ⟨p, hp, rfl⟩ := isA_t (by omega) hb
        have h6 : p < 6 := by omega
        obtain ⟨t, ht, et⟩ := (i1.2.2.2.2.2.2.2.2.2 p hp).1
        obtain ⟨r, r1, r2⟩ := read_lp (p := p) i1 i3 hs4 hz (s2.trans s4) s4 s5 z am_fu 0 t (2 ^ t) (by omega) (fu_lt (by omega)) ht (pow16 ht) (fun v hv => by
          rw [Nat.testBit_two_pow, decide_eq_true_iff]
          exact ⟨fun y => Or.inl ⟨rfl, y.symm⟩, fun y => y.elim (fun w => w.2.symm) (fun w => absurd rfl w.1)⟩)
        refine okV hI r ?_ ?_
        · simp -implicitDefEqProofs only [Option.bind_some, b0t, b0f, if_true, if_false, ite_true, ite_false, bind_eta, bind_etaV, rv_c, f_X6_read, isSheet_c, ha', ix4 hs4, missing_c, s1, decide_eq_false q, g1, hb', ix6 h6, rI_2, i3.mb hp 0 (by decide), et, bit_nI t ht]
          exact r1
        · have bs' : f_X7_badSheet (nI s) h = some (0, h) := bs h.1
          have g3 := isMember_r i1
          simp -implicitDefEqProofs only [Option.bind_some, b0t, b0f, if_true, if_false, ite_true, ite_false, bind_eta, bind_etaV, rv_c, f_X7_read, bs', g3, hb', whose0 h6, et]
          exact r2
end READ
