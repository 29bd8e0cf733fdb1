/-! PURE: the law's calls -/
theorem law_k {F6 F7 : HP → Option (Int32 × HP)} {h : HP} {k : HP → Option (Int32 × HP)} (hO : Okc F6 F7 h) (hk : ∀ h', Inv h' → ∃ h2, k h' = some (1, h2)) : ∃ h2, (F6 h).bind (fun q => (F7 q.2).bind (fun q2 => if q.1 = q2.1 then k q2.2 else some (0, q2.2))) = some ((1 : Int32), h2) := by
  obtain ⟨r, h1, h2, e1, e2, hI⟩ := hO
  obtain ⟨h3, e3⟩ := hk h2 hI
  exact ⟨h3, by rw [e1, Option.bind_some, e2, Option.bind_some, if_pos rfl, e3]⟩
theorem law_kJ {F6 F7 : HP → Option (Int64 × HP)} {h : HP} {k : HP → Option (Int32 × HP)} (hO : Okc F6 F7 h) (hk : ∀ h', Inv h' → ∃ h2, k h' = some (1, h2)) : ∃ h2, (F6 h).bind (fun q => (F7 q.2).bind (fun q2 => if lg_cmp q.1 q2.1 = (0 : Int32) then k q2.2 else some (0, q2.2))) = some ((1 : Int32), h2) := by
  obtain ⟨r, h1, h2, e1, e2, hI⟩ := hO
  obtain ⟨h3, e3⟩ := hk h2 hI
  exact ⟨h3, by rw [e1, Option.bind_some, e2, Option.bind_some, if_pos ((lg_cmp_eq r r).mpr rfl), e3]⟩
section CALLS
variable {X : (Nat → Int32) × Nat} {a : Nat} {h : HP} {k18 : Int32 → HP → Option (Int32 × HP)}
theorem lw_i1 (ha : a + 6 ≤ X.2) (hX : X.2 ≤ 3072) : am_ix (nI a + 1) X.2 = some (a + 1) := by
  rw [nI_1]
  exact ix_nI (by omega) (by omega)
theorem lw_i2 (ha : a + 6 ≤ X.2) (hX : X.2 ≤ 3072) : am_ix (nI a + 2) X.2 = some (a + 2) := by
  rw [show (2 : Int32) = nI 2 from rfl, nI_add]
  exact ix_nI (by omega) (by omega)
theorem lw_i3 (ha : a + 6 ≤ X.2) (hX : X.2 ≤ 3072) : am_ix (nI a + 3) X.2 = some (a + 3) := by
  rw [show (3 : Int32) = nI 3 from rfl, nI_add]
  exact ix_nI (by omega) (by omega)
theorem lw_i4 (ha : a + 6 ≤ X.2) (hX : X.2 ≤ 3072) : am_ix (nI a + 4) X.2 = some (a + 4) := by
  rw [show (4 : Int32) = nI 4 from rfl, nI_add]
  exact ix_nI (by omega) (by omega)
theorem lw_i5 (ha : a + 6 ≤ X.2) (hX : X.2 ≤ 3072) : am_ix (nI a + 5) X.2 = some (a + 5) := by
  rw [show (5 : Int32) = nI 5 from rfl, nI_add]
  exact ix_nI (by omega) (by omega)
theorem lw_handle (hI : Inv h) (ha : a + 6 ≤ X.2) (hX : X.2 ≤ 3072) (hk : ∀ h', Inv h' → ∃ h2, k18 (nI a + 6) h' = some (1, h2)) : ∃ h2, g_L_law_212 X k18 (nI a) h = some (1, h2) := by
  unfold g_L_law_212 g_L_law_1486
  simp -implicitDefEqProofs only [lw_i1 ha hX, lw_i2 ha hX, lw_i3 ha hX, Option.bind_some]
  exact law_k (op_handle _ _ _ hI) hk
theorem lw_of (hI : Inv h) (ha : a + 6 ≤ X.2) (hX : X.2 ≤ 3072) (hk : ∀ h', Inv h' → ∃ h2, k18 (nI a + 6) h' = some (1, h2)) : ∃ h2, g_L_law_255 X k18 (nI a) h = some (1, h2) := by
  unfold g_L_law_255 g_L_law_1486
  simp -implicitDefEqProofs only [lw_i1 ha hX, lw_i2 ha hX, Option.bind_some]
  exact law_k (op_of _ _ hI) hk
theorem lw_set (hI : Inv h) (ha : a + 6 ≤ X.2) (hX : X.2 ≤ 3072) (hk : ∀ h', Inv h' → ∃ h2, k18 (nI a + 6) h' = some (1, h2)) : ∃ h2, g_L_law_288 X k18 (nI a) h = some (1, h2) := by
  unfold g_L_law_288 g_L_law_1486
  simp -implicitDefEqProofs only [lw_i1 ha hX, lw_i2 ha hX, lw_i3 ha hX, Option.bind_some]
  exact law_k (op_set _ _ _ hI) hk
theorem lw_turn (hI : Inv h) (ha : a + 6 ≤ X.2) (hX : X.2 ≤ 3072) (hk : ∀ h', Inv h' → ∃ h2, k18 (nI a + 6) h' = some (1, h2)) : ∃ h2, g_L_law_331 X k18 (nI a) h = some (1, h2) := by
  unfold g_L_law_331 g_L_law_1486
  simp -implicitDefEqProofs only [lw_i1 ha hX, lw_i2 ha hX, Option.bind_some]
  exact law_k (op_turn _ _ hI) hk
theorem lw_as (hI : Inv h) (ha : a + 6 ≤ X.2) (hX : X.2 ≤ 3072) (hk : ∀ h', Inv h' → ∃ h2, k18 (nI a + 6) h' = some (1, h2)) : ∃ h2, g_L_law_364 X k18 (nI a) h = some (1, h2) := by
  unfold g_L_law_364 g_L_law_1486
  simp -implicitDefEqProofs only [lw_i1 ha hX, lw_i2 ha hX, Option.bind_some]
  exact law_k (op_as _ _ hI) hk
theorem lw_leads (hI : Inv h) (ha : a + 6 ≤ X.2) (hX : X.2 ≤ 3072) (hk : ∀ h', Inv h' → ∃ h2, k18 (nI a + 6) h' = some (1, h2)) : ∃ h2, g_L_law_397 X k18 (nI a) h = some (1, h2) := by
  unfold g_L_law_397 g_L_law_1486
  simp -implicitDefEqProofs only [lw_i1 ha hX, lw_i2 ha hX, Option.bind_some]
  exact law_k (op_leads _ _ hI) hk
theorem lw_pair (hI : Inv h) (ha : a + 6 ≤ X.2) (hX : X.2 ≤ 3072) (hk : ∀ h', Inv h' → ∃ h2, k18 (nI a + 6) h' = some (1, h2)) : ∃ h2, g_L_law_430 X k18 (nI a) h = some (1, h2) := by
  unfold g_L_law_430 g_L_law_1486
  simp -implicitDefEqProofs only [lw_i1 ha hX, lw_i2 ha hX, Option.bind_some]
  exact law_k (op_pair _ _ hI) hk
theorem lw_member (hI : Inv h) (ha : a + 6 ≤ X.2) (hX : X.2 ≤ 3072) (hk : ∀ h', Inv h' → ∃ h2, k18 (nI a + 6) h' = some (1, h2)) : ∃ h2, g_L_law_463 X k18 (nI a) h = some (1, h2) := by
  unfold g_L_law_463 g_L_law_1486
  simp -implicitDefEqProofs only [lw_i1 ha hX, Option.bind_some]
  exact law_k (op_member _ hI) hk
theorem lw_about (hI : Inv h) (ha : a + 6 ≤ X.2) (hX : X.2 ≤ 3072) (hk : ∀ h', Inv h' → ∃ h2, k18 (nI a + 6) h' = some (1, h2)) : ∃ h2, g_L_law_486 X k18 (nI a) h = some (1, h2) := by
  unfold g_L_law_486 g_L_law_1486
  simp -implicitDefEqProofs only [lw_i1 ha hX, lw_i2 ha hX, Option.bind_some]
  exact law_k (op_about _ _ hI) hk
theorem lw_place (hI : Inv h) (ha : a + 6 ≤ X.2) (hX : X.2 ≤ 3072) (hk : ∀ h', Inv h' → ∃ h2, k18 (nI a + 6) h' = some (1, h2)) : ∃ h2, g_L_law_519 X k18 (nI a) h = some (1, h2) := by
  unfold g_L_law_519 g_L_law_1486
  simp -implicitDefEqProofs only [lw_i1 ha hX, lw_i2 ha hX, lw_i3 ha hX, Option.bind_some]
  exact law_k (op_place _ _ _ hI) hk
theorem lw_loan (hI : Inv h) (ha : a + 6 ≤ X.2) (hX : X.2 ≤ 3072) (hk : ∀ h', Inv h' → ∃ h2, k18 (nI a + 6) h' = some (1, h2)) : ∃ h2, g_L_law_562 X k18 (nI a) h = some (1, h2) := by
  unfold g_L_law_562 g_L_law_1486
  simp -implicitDefEqProofs only [lw_i1 ha hX, Option.bind_some]
  exact law_k (op_loan _ hI) hk
theorem lw_lend (hI : Inv h) (ha : a + 6 ≤ X.2) (hX : X.2 ≤ 3072) (hk : ∀ h', Inv h' → ∃ h2, k18 (nI a + 6) h' = some (1, h2)) : ∃ h2, g_L_law_585 X k18 (nI a) h = some (1, h2) := by
  unfold g_L_law_585 g_L_law_1486
  simp -implicitDefEqProofs only [lw_i1 ha hX, lw_i2 ha hX, Option.bind_some]
  exact law_k (op_lend _ _ hI) hk
theorem lw_back (hI : Inv h) (ha : a + 6 ≤ X.2) (hX : X.2 ≤ 3072) (hk : ∀ h', Inv h' → ∃ h2, k18 (nI a + 6) h' = some (1, h2)) : ∃ h2, g_L_law_618 X k18 (nI a) h = some (1, h2) := by
  unfold g_L_law_618 g_L_law_1486
  simp -implicitDefEqProofs only [lw_i1 ha hX, Option.bind_some]
  exact law_k (op_back _ hI) hk
theorem lw_use (hI : Inv h) (ha : a + 6 ≤ X.2) (hX : X.2 ≤ 3072) (hk : ∀ h', Inv h' → ∃ h2, k18 (nI a + 6) h' = some (1, h2)) : ∃ h2, g_L_law_641 X k18 (nI a) h = some (1, h2) := by
  unfold g_L_law_641 g_L_law_1486
  simp -implicitDefEqProofs only [lw_i1 ha hX, lw_i2 ha hX, Option.bind_some]
  exact law_k (op_use _ _ hI) hk
theorem lw_days (hI : Inv h) (ha : a + 6 ≤ X.2) (hX : X.2 ≤ 3072) (hk : ∀ h', Inv h' → ∃ h2, k18 (nI a + 6) h' = some (1, h2)) : ∃ h2, g_L_law_674 X k18 (nI a) h = some (1, h2) := by
  unfold g_L_law_674 g_L_law_1486
  simp -implicitDefEqProofs only [lw_i1 ha hX, Option.bind_some]
  exact law_k (op_days _ hI) hk
theorem lw_now (hI : Inv h) (ha : a + 6 ≤ X.2) (hX : X.2 ≤ 3072) (hk : ∀ h', Inv h' → ∃ h2, k18 (nI a + 6) h' = some (1, h2)) : ∃ h2, g_L_law_697 X k18 (nI a) h = some (1, h2) := by
  unfold g_L_law_697 g_L_law_1486
  simp -implicitDefEqProofs only [lw_i1 ha hX, Option.bind_some]
  exact law_k (op_now _ hI) hk
theorem lw_on (hI : Inv h) (ha : a + 6 ≤ X.2) (hX : X.2 ≤ 3072) (hk : ∀ h', Inv h' → ∃ h2, k18 (nI a + 6) h' = some (1, h2)) : ∃ h2, g_L_law_720 X k18 (nI a) h = some (1, h2) := by
  unfold g_L_law_720 g_L_law_1486
  simp -implicitDefEqProofs only [lw_i1 ha hX, lw_i2 ha hX, lw_i3 ha hX, Option.bind_some]
  exact law_k (op_on _ _ _ hI) hk
theorem lw_late (hI : Inv h) (ha : a + 6 ≤ X.2) (hX : X.2 ≤ 3072) (hk : ∀ h', Inv h' → ∃ h2, k18 (nI a + 6) h' = some (1, h2)) : ∃ h2, g_L_law_763 X k18 (nI a) h = some (1, h2) := by
  unfold g_L_law_763 g_L_law_1486
  simp -implicitDefEqProofs only [lw_i1 ha hX, Option.bind_some]
  exact law_k (op_late _ hI) hk
theorem lw_reach (hI : Inv h) (ha : a + 6 ≤ X.2) (hX : X.2 ≤ 3072) (hk : ∀ h', Inv h' → ∃ h2, k18 (nI a + 6) h' = some (1, h2)) : ∃ h2, g_L_law_786 X k18 (nI a) h = some (1, h2) := by
  unfold g_L_law_786 g_L_law_1486
  simp -implicitDefEqProofs only [lw_i1 ha hX, Option.bind_some]
  exact law_k (op_reach _ hI) hk
theorem lw_way (hI : Inv h) (ha : a + 6 ≤ X.2) (hX : X.2 ≤ 3072) (hk : ∀ h', Inv h' → ∃ h2, k18 (nI a + 6) h' = some (1, h2)) : ∃ h2, g_L_law_809 X k18 (nI a) h = some (1, h2) := by
  unfold g_L_law_809 g_L_law_1486
  simp -implicitDefEqProofs only [lw_i1 ha hX, lw_i2 ha hX, Option.bind_some]
  exact law_k (op_way _ _ hI) hk
theorem lw_next (hI : Inv h) (ha : a + 6 ≤ X.2) (hX : X.2 ≤ 3072) (hk : ∀ h', Inv h' → ∃ h2, k18 (nI a + 6) h' = some (1, h2)) : ∃ h2, g_L_law_842 X k18 (nI a) h = some (1, h2) := by
  unfold g_L_law_842 g_L_law_1486
  simp -implicitDefEqProofs only [lw_i1 ha hX, lw_i2 ha hX, Option.bind_some]
  exact law_k (op_next _ _ hI) hk
theorem lw_wanted (hI : Inv h) (ha : a + 6 ≤ X.2) (hX : X.2 ≤ 3072) (hk : ∀ h', Inv h' → ∃ h2, k18 (nI a + 6) h' = some (1, h2)) : ∃ h2, g_L_law_875 X k18 (nI a) h = some (1, h2) := by
  unfold g_L_law_875 g_L_law_1486
  simp -implicitDefEqProofs only [lw_i1 ha hX, lw_i2 ha hX, Option.bind_some]
  exact law_k (op_wanted _ _ hI) hk
theorem lw_two (hI : Inv h) (ha : a + 6 ≤ X.2) (hX : X.2 ≤ 3072) (hk : ∀ h', Inv h' → ∃ h2, k18 (nI a + 6) h' = some (1, h2)) : ∃ h2, g_L_law_908 X k18 (nI a) h = some (1, h2) := by
  unfold g_L_law_908 g_L_law_1486
  simp -implicitDefEqProofs only [lw_i1 ha hX, lw_i2 ha hX, Option.bind_some]
  exact law_k (op_two _ _ hI) hk
theorem lw_meet (hI : Inv h) (ha : a + 6 ≤ X.2) (hX : X.2 ≤ 3072) (hk : ∀ h', Inv h' → ∃ h2, k18 (nI a + 6) h' = some (1, h2)) : ∃ h2, g_L_law_941 X k18 (nI a) h = some (1, h2) := by
  unfold g_L_law_941 g_L_law_1486
  simp -implicitDefEqProofs only [lw_i1 ha hX, lw_i2 ha hX, Option.bind_some]
  exact law_k (op_meet _ _ hI) hk
theorem lw_kind (hI : Inv h) (ha : a + 6 ≤ X.2) (hX : X.2 ≤ 3072) (hk : ∀ h', Inv h' → ∃ h2, k18 (nI a + 6) h' = some (1, h2)) : ∃ h2, g_L_law_974 X k18 (nI a) h = some (1, h2) := by
  unfold g_L_law_974 g_L_law_1486
  simp -implicitDefEqProofs only [lw_i1 ha hX, lw_i2 ha hX, Option.bind_some]
  exact law_k (op_kind _ _ hI) hk
theorem lw_least (hI : Inv h) (ha : a + 6 ≤ X.2) (hX : X.2 ≤ 3072) (hk : ∀ h', Inv h' → ∃ h2, k18 (nI a + 6) h' = some (1, h2)) : ∃ h2, g_L_law_1007 X k18 (nI a) h = some (1, h2) := by
  unfold g_L_law_1007 g_L_law_1486
  simp -implicitDefEqProofs only [lw_i1 ha hX, lw_i2 ha hX, Option.bind_some]
  exact law_k (op_least _ _ hI) hk
theorem lw_uses (hI : Inv h) (ha : a + 6 ≤ X.2) (hX : X.2 ≤ 3072) (hk : ∀ h', Inv h' → ∃ h2, k18 (nI a + 6) h' = some (1, h2)) : ∃ h2, g_L_law_1040 X k18 (nI a) h = some (1, h2) := by
  unfold g_L_law_1040 g_L_law_1486
  simp -implicitDefEqProofs only [lw_i1 ha hX, lw_i2 ha hX, Option.bind_some]
  exact law_k (op_uses _ _ hI) hk
theorem lw_feed (hI : Inv h) (ha : a + 6 ≤ X.2) (hX : X.2 ≤ 3072) (hk : ∀ h', Inv h' → ∃ h2, k18 (nI a + 6) h' = some (1, h2)) : ∃ h2, g_L_law_1073 X k18 (nI a) h = some (1, h2) := by
  unfold g_L_law_1073 g_L_law_1486
  simp -implicitDefEqProofs only [lw_i1 ha hX, lw_i2 ha hX, Option.bind_some]
  exact law_k (op_feed _ _ hI) hk
theorem lw_wipe (hI : Inv h) (ha : a + 6 ≤ X.2) (hX : X.2 ≤ 3072) (hk : ∀ h', Inv h' → ∃ h2, k18 (nI a + 6) h' = some (1, h2)) : ∃ h2, g_L_law_1106 X k18 (nI a) h = some (1, h2) := by
  unfold g_L_law_1106 g_L_law_1486
  exact law_k (op_wipe hI) hk
theorem lw_house (hI : Inv h) (ha : a + 6 ≤ X.2) (hX : X.2 ≤ 3072) (hk : ∀ h', Inv h' → ∃ h2, k18 (nI a + 6) h' = some (1, h2)) : ∃ h2, g_L_law_1119 X k18 (nI a) h = some (1, h2) := by
  unfold g_L_law_1119 g_L_law_1486
  exact law_k (op_house hI) hk
theorem lw_sheet (hI : Inv h) (ha : a + 6 ≤ X.2) (hX : X.2 ≤ 3072) (hk : ∀ h', Inv h' → ∃ h2, k18 (nI a + 6) h' = some (1, h2)) : ∃ h2, g_L_law_1132 X k18 (nI a) h = some (1, h2) := by
  unfold g_L_law_1132 g_L_law_1486
  simp -implicitDefEqProofs only [lw_i1 ha hX, lw_i2 ha hX, lw_i3 ha hX, Option.bind_some]
  exact law_k (op_sheet _ _ _ hI) hk
theorem lw_write (hI : Inv h) (ha : a + 6 ≤ X.2) (hX : X.2 ≤ 3072) (hk : ∀ h', Inv h' → ∃ h2, k18 (nI a + 6) h' = some (1, h2)) : ∃ h2, g_L_law_1175 X k18 (nI a) h = some (1, h2) := by
  unfold g_L_law_1175 g_L_law_1486
  simp -implicitDefEqProofs only [lw_i1 ha hX, lw_i2 ha hX, lw_i3 ha hX, lw_i4 ha hX, Option.bind_some]
  exact law_kJ (op_write _ _ _ hI) hk
theorem lw_copy (hI : Inv h) (ha : a + 6 ≤ X.2) (hX : X.2 ≤ 3072) (hk : ∀ h', Inv h' → ∃ h2, k18 (nI a + 6) h' = some (1, h2)) : ∃ h2, g_L_law_1249 X k18 (nI a) h = some (1, h2) := by
  unfold g_L_law_1249 g_L_law_1486
  simp -implicitDefEqProofs only [lw_i1 ha hX, lw_i2 ha hX, lw_i3 ha hX, lw_i4 ha hX, lw_i5 ha hX, Option.bind_some]
  exact law_k (op_copy _ _ _ _ _ hI) hk
theorem lw_lays (hI : Inv h) (ha : a + 6 ≤ X.2) (hX : X.2 ≤ 3072) (hk : ∀ h', Inv h' → ∃ h2, k18 (nI a + 6) h' = some (1, h2)) : ∃ h2, g_L_law_1312 X k18 (nI a) h = some (1, h2) := by
  unfold g_L_law_1312 g_L_law_1486
  simp -implicitDefEqProofs only [lw_i1 ha hX, Option.bind_some]
  exact law_k (op_lays _ hI) hk
theorem lw_book (hI : Inv h) (ha : a + 6 ≤ X.2) (hX : X.2 ≤ 3072) (hk : ∀ h', Inv h' → ∃ h2, k18 (nI a + 6) h' = some (1, h2)) : ∃ h2, g_L_law_1335 X k18 (nI a) h = some (1, h2) := by
  unfold g_L_law_1335 g_L_law_1486
  simp -implicitDefEqProofs only [lw_i1 ha hX, lw_i2 ha hX, Option.bind_some]
  exact law_k (op_book _ _ hI) hk
theorem lw_read (hI : Inv h) (ha : a + 6 ≤ X.2) (hX : X.2 ≤ 3072) (hk : ∀ h', Inv h' → ∃ h2, k18 (nI a + 6) h' = some (1, h2)) : ∃ h2, g_L_law_1368 X k18 (nI a) h = some (1, h2) := by
  unfold g_L_law_1368 g_L_law_1486
  simp -implicitDefEqProofs only [lw_i1 ha hX, lw_i2 ha hX, Option.bind_some]
  exact law_k (op_read _ _ hI) hk
theorem lw_image (hI : Inv h) (ha : a + 6 ≤ X.2) (hX : X.2 ≤ 3072) (hk : ∀ h', Inv h' → ∃ h2, k18 (nI a + 6) h' = some (1, h2)) : ∃ h2, g_L_law_1401 X k18 (nI a) h = some (1, h2) := by
  unfold g_L_law_1401 g_L_law_1486
  exact law_k (op_image hI) hk
theorem lw_undo (hI : Inv h) (ha : a + 6 ≤ X.2) (hX : X.2 ≤ 3072) (hk : ∀ h', Inv h' → ∃ h2, k18 (nI a + 6) h' = some (1, h2)) : ∃ h2, g_L_law_1414 X k18 (nI a) h = some (1, h2) := by
  unfold g_L_law_1414 g_L_law_1486
  exact law_k (op_undo hI) hk
theorem lw_tear (hI : Inv h) (ha : a + 6 ≤ X.2) (hX : X.2 ≤ 3072) (hk : ∀ h', Inv h' → ∃ h2, k18 (nI a + 6) h' = some (1, h2)) : ∃ h2, g_L_law_1427 X k18 (nI a) h = some (1, h2) := by
  unfold g_L_law_1427 g_L_law_1486
  exact law_k (op_tear hI) hk
theorem lw_count (hI : Inv h) (ha : a + 6 ≤ X.2) (hX : X.2 ≤ 3072) (hk : ∀ h', Inv h' → ∃ h2, k18 (nI a + 6) h' = some (1, h2)) : ∃ h2, g_L_law_1440 X k18 (nI a) h = some (1, h2) := by
  unfold g_L_law_1440 g_L_law_1486
  simp -implicitDefEqProofs only [lw_i1 ha hX, Option.bind_some]
  exact law_k (op_count _ hI) hk
theorem lw_status (hI : Inv h) (ha : a + 6 ≤ X.2) (hX : X.2 ≤ 3072) (hk : ∀ h', Inv h' → ∃ h2, k18 (nI a + 6) h' = some (1, h2)) : ∃ h2, g_L_law_1463 X k18 (nI a) h = some (1, h2) := by
  unfold g_L_law_1463 g_L_law_1486
  simp -implicitDefEqProofs only [lw_i1 ha hX, Option.bind_some]
  exact law_k (op_status _ hI) hk
end CALLS
