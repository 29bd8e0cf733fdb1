/-! PURE: reach, both -/
section REACH2
variable {h : HP} {N : Nat → Int32} {n m d l : Nat}
theorem sq_15 (hW : WF N n m d l) {p : Int32} {s : Nat} (hs : s < 16) {k : Nat} (hk : k ≤ 15) (e : sq N n p s (k + 1) = sq N n p s k) : sq N n p s 15 = sq N n p s k := by
  have := sq_fix e (15 - k)
  rw [show k + (15 - k) = 15 by omega] at this
  exact this
theorem front_lp {j : Nat} (hW : WF N n m d l) (hL : LC h j n m N) {p : Int32} {s : Nat} (hs : s < 16) : ∀ (c f k F : Nat), k + c = 16 → c < f → F < 65536 → (∀ x, F.testBit x = true ↔ ((sq N n p s k).testBit x = true ∧ (k = 0 ∨ ¬ (sq N n p s (k - 1)).testBit x = true))) → g_X1_reachOf_17 f j p (nI (sq N n p s k)) (nI F) (nI k) h = some (nI (sq N n p s 15), h)
  | 0, f, k, F, h1, h2, hF, hb => by
    obtain ⟨f, rfl⟩ : ∃ z, f = z + 1 := ⟨f - 1, by omega⟩
    have : k = 16 := by omega
    subst this
    obtain ⟨K, k1, k2, -⟩ := sq_still (p := p) hW hs
    rw [g_X1_reachOf_17, if_pos (by decide), sq_15 hW hs k1 k2, ← sq_fix k2 (16 - K), show K + (16 - K) = 16 by omega]
  | c + 1, f, k, F, h1, h2, hF, hb => by
    obtain ⟨f, rfl⟩ : ∃ z, f = z + 1 := ⟨f - 1, by omega⟩
    have l1 := sq_lt (p := p) hW hs k
    rw [g_X1_reachOf_17, if_neg (show ¬ (16 : Int32) ≤ nI k from nI_le_i (n := 16) (by omega) (by decide) (by omega))]
    by_cases q : F = 0
    · subst q
      rw [if_pos (show nI 0 = 0 from rfl)]
      have hz : ∀ x, (sq N n p s k).testBit x = true → ¬ k = 0 ∧ (sq N n p s (k - 1)).testBit x = true := fun x hx => by
        have := hb x
        rw [Nat.zero_testBit] at this
        refine ⟨fun k0 => ?_, ?_⟩
        · exact absurd (this.mpr ⟨hx, Or.inl k0⟩) (by decide)
        · apply Classical.byContradiction
          intro y
          exact absurd (this.mpr ⟨hx, Or.inr y⟩) (by decide)
      by_cases k0 : k = 0
      · subst k0
        have : (sq N n p s 0).testBit s = true := by
          show (2 ^ s).testBit s = true
          rw [Nat.testBit_two_pow]
          exact decide_eq_true rfl
        exact absurd rfl (hz s this).1
      · obtain ⟨k, rfl⟩ : ∃ z, k = z + 1 := ⟨k - 1, by omega⟩
        have e : sq N n p s (k + 1) = sq N n p s k := by
          apply Nat.eq_of_testBit_eq
          intro x
          cases a : (sq N n p s (k + 1)).testBit x with
          | true => exact ((hz x a).2).symm
          | false =>
            cases b : (sq N n p s k).testBit x with
            | false => rfl
            | true =>
              rw [sq_mono k x b] at a
              cases a
        rw [sq_15 hW hs (by omega) e, e]
    · have hP := pT_nI hW p (A := F) (a := 0) hF (by decide)
      have st := sq_step hb hP.2
      rw [if_neg (show ¬ nI F = 0 from fun z => q ((nI_eq (b := 0) (by omega) (by decide)).mp z)), oneTurn_c hW hL, show (0 : Int32) = nI 0 from rfl, hP.1, Option.bind_some, nw_nI, nI_or, st.1, nI_1]
      exact front_lp hW hL hs c f (k + 1) _ (by omega) (by omega) (by have := nw_le (pN N n p F 0) (sq N n p s k); have := hP.2; omega) st.2
theorem reachOf_c {j p s : Nat} (hW : WF N n m d l) (hL : LC h j n m N) (hp : p < m) (hs : s < 16) (e : mb N p 0 = nI s) : f_X1_reachOf j (nI p) h = some (nI (sq N n (nI p) s 15), h) := by
  have hm6 := hW.2.1
  unfold f_X1_reachOf
  rw [ix6 (by omega), Option.bind_some, rI_2, hL.mb hp 0 (by decide), e, bit_nI s hs]
  exact front_lp hW hL hs 16 am_fu 0 (2 ^ s) (by omega) (fu_lt (by decide)) (sq_lt (p := nI p) hW hs 0) (fun x => ⟨fun z => ⟨z, Or.inl rfl⟩, fun z => z.1⟩)
theorem op_reach (a : Int32) (hI : Inv h) : Okc (f_X6_reach a) (f_X7_reach a) h := by
  obtain ⟨⟨n, m, d, l, i1, i2, i3⟩, -⟩ := id hI
  have g1 := hasMember_c i1 i3
  have g2 := fun c => isMember_r (h := (c, h.2)) i1
  have hm6 := i1.2.1
  cases ha : isA a m with
  | false => exact okF hI 0 (by decide) (by simp -implicitDefEqProofs only [Option.bind_some, b0t, b0f, if_true, if_false, ite_true, ite_false, bind_eta, bind_etaV, rv_c, f_X6_reach, g1, ha, fc1]) (fun c => by simp -implicitDefEqProofs only [Option.bind_some, b0t, b0f, if_true, if_false, ite_true, ite_false, bind_eta, bind_etaV, rv_c, f_X7_reach, g2, ha, fc1])
  | true =>
    have ha' := ha
    obtain ⟨p, hp, rfl⟩ := isA_t (by omega) ha
    obtain ⟨s, hs, es⟩ := (i1.2.2.2.2.2.2.2.2.2 p hp).1
    refine okV hI (nI (sq (rv h) n (nI p) s 15)) ?_ ?_
    · simp -implicitDefEqProofs only [Option.bind_some, b0t, b0f, if_true, if_false, ite_true, ite_false, bind_eta, bind_etaV, rv_c, f_X6_reach, g1, ha', reachOf_c i1 i3 hp hs es]
    · have g3 := isMember_r i1
      simp -implicitDefEqProofs only [Option.bind_some, b0t, b0f, if_true, if_false, ite_true, ite_false, bind_eta, bind_etaV, rv_c, f_X7_reach, g3, ha', reachOf_r i1 (show p < 6 by omega) hs es]
end REACH2
