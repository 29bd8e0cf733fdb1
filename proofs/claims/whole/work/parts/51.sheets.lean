/-! PURE: sheets: write -/
theorem bv_n8 (x : BitVec 64) : (x <<< 56).sshiftRight 56 = (x.setWidth 8).signExtend 64 := by
  apply BitVec.eq_of_getLsbD_eq
  intro i hi
  rw [BitVec.getLsbD_sshiftRight, BitVec.getLsbD_signExtend]
  simp only [BitVec.msb_eq_getLsbD_last, BitVec.getLsbD_shiftLeft, BitVec.getLsbD_setWidth, hi]
  by_cases q : i < 8
  · simp [q, show 56 + i < 64 by omega, show ¬ 64 ≤ i by omega]
  · simp [q, show ¬ 56 + i < 64 by omega, show ¬ 64 ≤ i by omega]
theorem bv_n16 (x : BitVec 64) : (x <<< 48).sshiftRight 48 = (x.setWidth 16).signExtend 64 := by
  apply BitVec.eq_of_getLsbD_eq
  intro i hi
  rw [BitVec.getLsbD_sshiftRight, BitVec.getLsbD_signExtend]
  simp only [BitVec.msb_eq_getLsbD_last, BitVec.getLsbD_shiftLeft, BitVec.getLsbD_setWidth, hi]
  by_cases q : i < 16
  · simp [q, show 48 + i < 64 by omega, show ¬ 64 ≤ i by omega]
  · simp [q, show ¬ 48 + i < 64 by omega, show ¬ 64 ≤ i by omega]
theorem nar8 (x : Int64) : (x <<< (Int32.toInt64 56 &&& 63)) >>> (Int32.toInt64 56 &&& 63) = Int32.toInt64 ((Int32.toInt8 (Int64.toInt32 x)).toInt32) := by
  apply Int64.toBitVec_inj.mp
  show (x.toBitVec <<< (56#64)).sshiftRight' (56#64) = _
  rw [show (x.toBitVec <<< (56#64)) = x.toBitVec <<< 56 from rfl]
  show (x.toBitVec <<< 56).sshiftRight 56 = _
  rw [bv_n8]
  show _ = (((x.toBitVec.signExtend 32).signExtend 8).signExtend 32).signExtend 64
  apply BitVec.eq_of_getLsbD_eq
  intro i hi
  simp only [BitVec.getLsbD_signExtend, BitVec.msb_eq_getLsbD_last, BitVec.getLsbD_setWidth, hi]
  by_cases q : i < 8
  · simp [q, show i < 32 by omega]
  · by_cases q2 : i < 32
    · simp [q, q2]
    · simp [q, q2]
theorem nar16 (x : Int64) : (x <<< (Int32.toInt64 48 &&& 63)) >>> (Int32.toInt64 48 &&& 63) = Int32.toInt64 ((Int32.toInt16 (Int64.toInt32 x)).toInt32) := by
  apply Int64.toBitVec_inj.mp
  show (x.toBitVec <<< (48#64)).sshiftRight' (48#64) = _
  rw [show (x.toBitVec <<< (48#64)) = x.toBitVec <<< 48 from rfl]
  show (x.toBitVec <<< 48).sshiftRight 48 = _
  rw [bv_n16]
  show _ = (((x.toBitVec.signExtend 32).signExtend 16).signExtend 32).signExtend 64
  apply BitVec.eq_of_getLsbD_eq
  intro i hi
  simp only [BitVec.getLsbD_signExtend, BitVec.msb_eq_getLsbD_last, BitVec.getLsbD_setWidth, hi]
  by_cases q : i < 16
  · simp [q, show i < 32 by omega]
  · by_cases q2 : i < 32
    · simp [q, q2]
    · simp [q, q2]
section SHEETS
variable {h : HP}
theorem okFJ {F6 F7 : HP → Option (Int64 × HP)} (hI : Inv h) (k : Nat) (hk : k < 7) (e6 : F6 h = (f_X6_tell (fcode k) h).bind (fun q => some (Int32.toInt64 q.1, q.2))) (e7 : ∀ c, F7 (c, h.2) = (f_X7_finds (fcode k) (c, h.2)).bind (fun q => some (Int32.toInt64 q.1, q.2))) : Okc F6 F7 h := by
  refine ⟨(fcode k).toInt64, _, _, e6.trans (by rw [tell_ok hk h]; rfl), ?_, inv_find hI hk⟩
  have := e7 (am_up h.1.1 11 1 k (h.1.1 11 1 k + 1), h.1.2)
  rw [finds_ok hk] at this
  exact this
theorem pred_lt' {n : Nat} (hn : n < 2 ^ 30) (x : Int32) : nI n - 1 < x ↔ nI n ≤ x := by
  have h1 : (nI n - 1).toInt = (n : Int) - 1 := pk_sub_toInt (a := n) (b := 1) (by omega) (by omega)
  have h2 : (nI n).toInt = n := nI_toInt (by omega)
  rw [Int32.le_iff_toInt_le, Int32.lt_iff_toInt_lt]
  omega
theorem in_isA {z : Nat} (hz : z < 2 ^ 30) (b : Int32) (h : HP) : f_X7_in b 0 (nI z - 1) h = some (b2i (isA b z), h) := by
  rw [in_ok]
  unfold inR isA
  simp only [pred_lt' hz b]
/-- what a sheet of so many bits keeps of a value -/
def sNar (bits : Int32) (v : Int64) : Int64 := if bits = 8 then Int32.toInt64 ((Int32.toInt8 (Int64.toInt32 v)).toInt32) else if bits = 16 then Int32.toInt64 ((Int32.toInt16 (Int64.toInt32 v)).toInt32) else v
theorem narrow_r (bits : Int32) (v : Int64) (h : HP) : f_X7_narrow bits v h = some (sNar bits v, h) := by
  unfold f_X7_narrow sNar
  by_cases q : bits = 8
  · rw [if_pos q, if_pos q, nar8]
  · rw [if_neg q, if_neg q]
    by_cases q2 : bits = 16
    · rw [if_pos q2, if_pos q2, nar16]
    · rw [if_neg q2, if_neg q2]
theorem put_c {s k z : Nat} {bits : Int32} (e0 : h.1.1 3 s 0 = bits) (e1 : h.1.1 3 s 1 = nI z) (hz : z ≤ 40) (hk : k < z) (v : Int64) : f_X3_put s (nI k) v h = some (h_wJ h 12 s k (sNar bits v)) := by
  unfold f_X3_put sNar
  rw [if_neg (nI_pos (by omega)), rI_3, e1, if_pos ((nI_ltI (by omega) (by omega)).mpr hk), rI_3, e0, ix_nI (show k < 40 by omega) (by decide)]
  by_cases q : bits = 8
  · rw [if_pos q, if_pos q]
    rfl
  · rw [if_neg q, if_neg q]
    by_cases q2 : bits = 16
    · rw [if_pos q2, if_pos q2]
      rfl
    · rw [if_neg q2, if_neg q2]
      rfl
theorem missing_c {s : Nat} : f_X3_isMissing s h = some (b2i (decide (h.1.1 3 s 0 = 0)), h) := by
  unfold f_X3_isMissing
  rw [rI_3]
  by_cases q : h.1.1 3 s 0 = 0
  · rw [if_pos q, decide_eq_true q]
    rfl
  · rw [if_neg q, decide_eq_false q]
    rfl
theorem ix4 {s : Nat} (hs : s < 4) : am_ix (nI s) 4 = some s := ix_nI hs (by decide)
theorem ix160 {s k : Nat} (hs : s < 4) (hk : k < 40) : am_ix ((40 * nI s) + nI k) 160 = some (40 * s + k) := by
  rw [show (40 : Int32) = nI 40 from rfl, pk_mul, nI_add, ix_nI (by omega) (by decide)]
theorem inv_put {s k : Nat} (hI : Inv h) (hs : s < 4) (x : Int64) : Inv (h_wJ (h_wJ h 12 s k x) 14 0 (40 * s + k) x) ∨ 40 ≤ k := by
  by_cases hk : 40 ≤ k
  · exact Or.inr hk
  refine Or.inl ?_
  obtain ⟨iL, iI, iT, iS, iF⟩ := hI
  rw [wJ_14, wJ_12]
  refine ⟨ilib_congr rfl rfl rfl rfl iL, iimg_congr rfl rfl rfl rfl rfl rfl iI, itap_congr rfl rfl rfl rfl iT, fun s' hs' => ?_, itol_congr rfl rfl iF⟩
  obtain ⟨a, b, c, e, f⟩ := iS s' hs'
  refine ⟨a, b, c, e, fun k' hk' => ?_⟩
  show am_up h.1.2 12 s k x 12 s' k' = am_up h.2.2 14 0 (40 * s + k) x 14 0 (40 * s' + k')
  by_cases q : s' = s
  · subst q
    by_cases q2 : k' = k
    · subst q2
      rw [up_s, up_s]
    · rw [up_k q2, up_k (by omega)]
      exact f k' hk'
  · rw [up_j q, up_k (by omega)]
    exact f k' hk'
theorem op_write (a b : Int32) (v : Int64) (hI : Inv h) : Okc (f_X6_write a b v) (f_X7_write a b v) h := by
  have iS : IShe h := hI.2.2.2.1
  cases ha : inR a 0 3 with
  | false => exact okFJ hI 0 (by decide) (by simp -implicitDefEqProofs only [Option.bind_some, b0t, b0f, if_true, if_false, ite_true, ite_false, bind_eta, bind_etaV, rv_c, f_X6_write, isSheet_c, ha, fc1]) (fun c => by simp -implicitDefEqProofs only [Option.bind_some, b0t, b0f, if_true, if_false, ite_true, ite_false, bind_eta, bind_etaV, rv_c, f_X7_write, isSheet_r, ha, fc1])
  | true =>
    have ha' := ha
    obtain ⟨s, hs, rfl⟩ := inR_of (n := 3) (by decide) ha
    have hs4 : s < 4 := by omega
    obtain ⟨s1, s2, s3, ⟨z, hz, s4⟩, s5⟩ := iS s hs4
    by_cases q : h.2.1 13 4 s = 0
    · refine okFJ hI 5 (by decide) ?_ (fun c => ?_)
      · simp -implicitDefEqProofs only [Option.bind_some, b0t, b0f, if_true, if_false, ite_true, ite_false, bind_eta, bind_etaV, rv_c, f_X6_write, isSheet_c, ha', ix4 hs4, missing_c, s1, decide_eq_true q, fc6]
      · simp -implicitDefEqProofs only [Option.bind_some, b0t, b0f, if_true, if_false, ite_true, ite_false, bind_eta, bind_etaV, rv_c, f_X7_write, isSheet_r, ha', ix4 hs4, rI_13, q, fc6]
    · cases hb : isA b z with
      | false =>
        refine okFJ hI 0 (by decide) ?_ (fun c => ?_)
        · simp -implicitDefEqProofs only [Option.bind_some, b0t, b0f, if_true, if_false, ite_true, ite_false, bind_eta, bind_etaV, rv_c, f_X6_write, g_X6_write_53, isSheet_c, ha', ix4 hs4, missing_c, s1, decide_eq_false q, rI_3, s2, s4, fc1]
          unfold isA at hb
          by_cases p : b < 0
          · rw [if_pos p]
          · rw [if_neg p]
            rw [decide_eq_false p] at hb
            rw [if_neg]
            intro y
            rw [decide_eq_false (Int32.not_le.mpr y)] at hb
            cases hb
        · simp -implicitDefEqProofs only [Option.bind_some, b0t, b0f, if_true, if_false, ite_true, ite_false, bind_eta, bind_etaV, rv_c, f_X7_write, isSheet_r, ha', ix4 hs4, rI_13, if_neg q, s4, in_isA (show z < 2 ^ 30 by omega), hb, fc1]
      | true =>
        have hb' := hb
        obtain ⟨k, hk, rfl⟩ := isA_t (by omega) hb
        have hk40 : k < 40 := by omega
        refine ⟨h.2.2 14 0 (40 * s + k), h_wJ h 12 s k (sNar (h.2.1 13 4 s) v), h_wJ (h_wJ h 12 s k (sNar (h.2.1 13 4 s) v)) 14 0 (40 * s + k) (sNar (h.2.1 13 4 s) v), ?_, ?_, ?_⟩
        · simp -implicitDefEqProofs only [Option.bind_some, b0t, b0f, if_true, if_false, ite_true, ite_false, bind_eta, bind_etaV, rv_c, f_X6_write, isSheet_c, ha', ix4 hs4, missing_c, s1, decide_eq_false q, rI_3, s2, s4]
          rw [if_neg (nI_pos (by omega)), if_pos ((nI_ltI (by omega) (by omega)).mpr hk), ix_nI hk40 (by decide), Option.bind_some, put_c (s1.trans rfl) (s2.trans s4) hz hk, Option.bind_some, rJ_12, s5 k hk40]
        · rw [wJ_12]
          simp -implicitDefEqProofs only [Option.bind_some, b0t, b0f, if_true, if_false, ite_true, ite_false, bind_eta, bind_etaV, rv_c, f_X7_write, isSheet_r, ha', ix4 hs4, rI_13, if_neg q, s4, in_isA (show z < 2 ^ 30 by omega), hb', ix160 hs4 hk40, narrow_r, rJ_14]
        · rcases inv_put hI hs4 (k := k) (sNar (h.2.1 13 4 s) v) with y | y
          · exact y
          · omega
end SHEETS
