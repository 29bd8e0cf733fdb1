/-! PURE: the start, and every run of calls -/
theorem inv_hp0 : Inv hp0 := by
  refine ⟨⟨0, 0, 0, 5, ⟨by decide, by decide, rfl, by decide, rfl, by decide, rfl, rfl, fun i hi => absurd hi (by omega), fun i hi => absurd hi (by omega)⟩, by decide, rfl, rfl, rfl, rfl, fun i hi => absurd hi (by omega), fun i hi => absurd hi (by omega)⟩, ⟨rfl, Or.inl rfl⟩, ⟨0, by decide, rfl, rfl, fun k hk => absurd hk (by omega)⟩, fun s hs => ⟨rfl, rfl, Or.inl rfl, ⟨0, by decide, rfl⟩, fun k hk => rfl⟩, fun k hk => rfl⟩
theorem law_lp {X : (Nat → Int32) × Nat} (hX : X.2 ≤ 3072) : ∀ (c f a : Nat) (h : HP), X.2 ≤ a + 6 * c + 5 → a ≤ 3072 → c < f → Inv h → ∃ h2, g_L_law_18 X f (nI a) h = some (1, h2)
  | c, f, a, h, h1, h0, h2, hI => by
    obtain ⟨f, rfl⟩ : ∃ z, f = z + 1 := ⟨f - 1, by omega⟩
    have e6 : (Int32.ofNat X.2 - 6).toInt = (X.2 : Int) - 6 := pk_sub_toInt (a := X.2) (b := 6) (by omega) (by omega)
    have ea : (nI a).toInt = a := nI_toInt (by omega)
    by_cases q : a + 6 ≤ X.2
    · obtain ⟨c, rfl⟩ : ∃ z, c = z + 1 := ⟨c - 1, by omega⟩
      have hk : ∀ h', Inv h' → ∃ h2, g_L_law_18 X f (nI a + 6) h' = some (1, h2) := fun h' hI' => by
        rw [show (6 : Int32) = nI 6 from rfl, nI_add]
        exact law_lp hX c f (a + 6) h' (by omega) (by omega) (by omega) hI'
      rw [g_L_law_18, if_neg (show ¬ Int32.ofNat X.2 - 6 < nI a from fun z => by rw [Int32.lt_iff_toInt_lt] at z; omega), ix_nI (show a < X.2 by omega) (by omega), Option.bind_some]
      generalize (X.1 a) &&& 63 = z
      by_cases z0 : z = 0
      · rw [if_pos z0]
        exact lw_handle hI q hX hk
      rw [if_neg z0]
      by_cases z1 : z = 1
      · rw [if_pos z1]
        exact lw_of hI q hX hk
      rw [if_neg z1]
      by_cases z2 : z = 2
      · rw [if_pos z2]
        exact lw_set hI q hX hk
      rw [if_neg z2]
      by_cases z3 : z = 3
      · rw [if_pos z3]
        exact lw_turn hI q hX hk
      rw [if_neg z3]
      by_cases z4 : z = 4
      · rw [if_pos z4]
        exact lw_as hI q hX hk
      rw [if_neg z4]
      by_cases z5 : z = 5
      · rw [if_pos z5]
        exact lw_leads hI q hX hk
      rw [if_neg z5]
      by_cases z6 : z = 6
      · rw [if_pos z6]
        exact lw_pair hI q hX hk
      rw [if_neg z6]
      by_cases z7 : z = 7
      · rw [if_pos z7]
        exact lw_member hI q hX hk
      rw [if_neg z7]
      by_cases z8 : z = 8
      · rw [if_pos z8]
        exact lw_about hI q hX hk
      rw [if_neg z8]
      by_cases z9 : z = 9
      · rw [if_pos z9]
        exact lw_place hI q hX hk
      rw [if_neg z9]
      by_cases z10 : z = 10
      · rw [if_pos z10]
        exact lw_loan hI q hX hk
      rw [if_neg z10]
      by_cases z11 : z = 11
      · rw [if_pos z11]
        exact lw_lend hI q hX hk
      rw [if_neg z11]
      by_cases z12 : z = 12
      · rw [if_pos z12]
        exact lw_back hI q hX hk
      rw [if_neg z12]
      by_cases z13 : z = 13
      · rw [if_pos z13]
        exact lw_use hI q hX hk
      rw [if_neg z13]
      by_cases z14 : z = 14
      · rw [if_pos z14]
        exact lw_days hI q hX hk
      rw [if_neg z14]
      by_cases z15 : z = 15
      · rw [if_pos z15]
        exact lw_now hI q hX hk
      rw [if_neg z15]
      by_cases z16 : z = 16
      · rw [if_pos z16]
        exact lw_on hI q hX hk
      rw [if_neg z16]
      by_cases z17 : z = 17
      · rw [if_pos z17]
        exact lw_late hI q hX hk
      rw [if_neg z17]
      by_cases z18 : z = 18
      · rw [if_pos z18]
        exact lw_reach hI q hX hk
      rw [if_neg z18]
      by_cases z19 : z = 19
      · rw [if_pos z19]
        exact lw_way hI q hX hk
      rw [if_neg z19]
      by_cases z20 : z = 20
      · rw [if_pos z20]
        exact lw_next hI q hX hk
      rw [if_neg z20]
      by_cases z21 : z = 21
      · rw [if_pos z21]
        exact lw_wanted hI q hX hk
      rw [if_neg z21]
      by_cases z22 : z = 22
      · rw [if_pos z22]
        exact lw_two hI q hX hk
      rw [if_neg z22]
      by_cases z23 : z = 23
      · rw [if_pos z23]
        exact lw_meet hI q hX hk
      rw [if_neg z23]
      by_cases z24 : z = 24
      · rw [if_pos z24]
        exact lw_kind hI q hX hk
      rw [if_neg z24]
      by_cases z25 : z = 25
      · rw [if_pos z25]
        exact lw_least hI q hX hk
      rw [if_neg z25]
      by_cases z26 : z = 26
      · rw [if_pos z26]
        exact lw_uses hI q hX hk
      rw [if_neg z26]
      by_cases z27 : z = 27
      · rw [if_pos z27]
        exact lw_feed hI q hX hk
      rw [if_neg z27]
      by_cases z28 : z = 28
      · rw [if_pos z28]
        exact lw_wipe hI q hX hk
      rw [if_neg z28]
      by_cases z29 : z = 29
      · rw [if_pos z29]
        exact lw_house hI q hX hk
      rw [if_neg z29]
      by_cases z30 : z = 30
      · rw [if_pos z30]
        exact lw_sheet hI q hX hk
      rw [if_neg z30]
      by_cases z31 : z = 31
      · rw [if_pos z31]
        exact lw_write hI q hX hk
      rw [if_neg z31]
      by_cases z32 : z = 32
      · rw [if_pos z32]
        exact lw_copy hI q hX hk
      rw [if_neg z32]
      by_cases z33 : z = 33
      · rw [if_pos z33]
        exact lw_lays hI q hX hk
      rw [if_neg z33]
      by_cases z34 : z = 34
      · rw [if_pos z34]
        exact lw_book hI q hX hk
      rw [if_neg z34]
      by_cases z35 : z = 35
      · rw [if_pos z35]
        exact lw_read hI q hX hk
      rw [if_neg z35]
      by_cases z36 : z = 36
      · rw [if_pos z36]
        exact lw_image hI q hX hk
      rw [if_neg z36]
      by_cases z37 : z = 37
      · rw [if_pos z37]
        exact lw_undo hI q hX hk
      rw [if_neg z37]
      by_cases z38 : z = 38
      · rw [if_pos z38]
        exact lw_tear hI q hX hk
      rw [if_neg z38]
      by_cases z39 : z = 39
      · rw [if_pos z39]
        exact lw_count hI q hX hk
      rw [if_neg z39]
      by_cases z40 : z = 40
      · rw [if_pos z40]
        exact lw_status hI q hX hk
      rw [if_neg z40]
      exact hk h hI
    · refine ⟨h, ?_⟩
      rw [g_L_law_18, if_pos (show Int32.ofNat X.2 - 6 < nI a from by rw [Int32.lt_iff_toInt_lt]; omega)]
theorem pure_law {L : Nat} {xs : Nat → Int32} (hL : L ≤ 3072) : ∃ h', f_L_law (xs, L) hp0 = some (1, h') := by
  unfold f_L_law
  exact law_lp (X := (xs, L)) hL 600 am_fu 0 hp0 (show L ≤ 0 + 6 * 600 + 5 by omega) (by decide) (fu_lt (by decide)) inv_hp0
