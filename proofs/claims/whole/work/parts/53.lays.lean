/-! PURE: lays -/
section LAYS
variable {h : HP}
theorem long_nI {v : Int64} {B : Nat} (hB : B < 2 ^ 31) (h0 : ¬ v.toInt < 0) (h1 : v.toInt ≤ B) : ∃ k, k ≤ B ∧ v.toInt = (k : Int) ∧ Int64.toInt32 v = nI k := by
  refine ⟨v.toInt.toNat, by omega, by omega, Int32.toInt_inj.mp ?_⟩
  rw [Int64.toInt_toInt32, nI_toInt (by omega), Int.bmod_eq_of_le (by omega) (by omega)]
  omega
theorem lays_v {v : Int64} (h0 : ¬ lg_cmp v 0 < 0) (h1 : ¬ 0 < lg_cmp v 99) : ∃ k, k ≤ 99 ∧ Int64.toInt32 v = nI k := by
  rw [lg_cmp_lt, Int64.lt_iff_toInt_lt] at h0
  rw [lg_cmp_gt, Int64.lt_iff_toInt_lt] at h1
  have e0 : (0 : Int64).toInt = 0 := by decide
  have e9 : (99 : Int64).toInt = 99 := by decide
  obtain ⟨k, hk, -, e⟩ := long_nI (v := v) (B := 99) (by decide) (by omega) (by omega)
  exact ⟨k, hk, e⟩
theorem WF.wr {N : Nat → Int32} {n m d l i : Nat} {v : Int32} (hW : WF N n m d l) (hi : i < n) (hv : ∃ k, k ≤ 99 ∧ v = nI k) : WF (upn N (4 + 6 * i + 3) v) n m d l := by
  obtain ⟨v1, v2, v3, v4, v5⟩ := hW.2.2.2.2.2.2.2.2.1 i hi
  obtain ⟨k, hk, ek⟩ := hv
  refine hW.uh hi (by decide) ⟨?_, ?_, ?_, ⟨k, hk, by rw [hd_s, ek]⟩, ?_⟩
  · rw [hd_n (by decide) (by decide) (by omega)]; exact v1
  · rw [hd_n (by decide) (by decide) (by omega)]; exact v2
  · rw [hd_n (by decide) (by decide) (by omega)]; exact v3
  · rw [hd_n (by decide) (by decide) (by omega), hd_n (by decide) (by decide) (by omega)]; exact v5
theorem lays_lp {n m d l s z : Nat} {W : Nat → Int64} (hs : s < 4) (hz : z ≤ 40) : ∀ (k f t : Nat) (N : Nat → Int32) (cnt : Int32) (x y : HP), t + k = n → k < f → WF N n m d l → LC x 0 n m N → rv y = N → x.1.1 3 s 1 = nI z → y.2.1 13 5 s = nI z → (∀ q, q < 40 → x.1.2 12 s q = W q) → (∀ q, q < 40 → y.2.2 14 0 (40 * s + q) = W q) → ∃ v N' x' y', g_X6_lays_41 f s cnt (nI t) x = some (v, x') ∧ FB 0 x x' ∧ g_X7_lays_21 f (nI s) cnt (nI t) y = some (v, y') ∧ FR 0 y y' ∧ WF N' n m d l ∧ LC x' 0 n m N' ∧ rv y' = N'
  | 0, f, t, N, cnt, x, y, h1, h2, hW, hL, e, ex, ey, hx, hy => by
    obtain ⟨f, rfl⟩ : ∃ z, f = z + 1 := ⟨f - 1, by omega⟩
    refine ⟨cnt, N, x, y, ?_, FB.rfl' 0 x, ?_, FR.rfl' 0 y, hW, hL, e⟩
    · rw [g_X6_lays_41, rI_1, hL.2.2.1, hW.2.2.2.2.2.2.1, show t = n by omega, if_pos (nI_le_n (n := n))]
      by_cases q : h_rI x 3 s 1 ≤ nI n
      · rw [if_pos q]
      · rw [if_neg q]
    · rw [g_X7_lays_21, ix4 hs, Option.bind_some, ix64_2, Option.bind_some, rv_2, e, hW.2.2.2.2.2.2.1, show t = n by omega, if_pos (nI_le_n (n := n))]
      by_cases q : h_rI y 13 5 s ≤ nI n
      · rw [if_pos q]
      · rw [if_neg q]
  | k + 1, f, t, N, cnt, x, y, h1, h2, hW, hL, e, ex, ey, hx, hy => by
    obtain ⟨f, rfl⟩ : ∃ z, f = z + 1 := ⟨f - 1, by omega⟩
    have hn8 := hW.1
    have ht : t < n := by omega
    have h8 : t < 8 := by omega
    by_cases qz : nI z ≤ nI t
    · refine ⟨cnt, N, x, y, ?_, FB.rfl' 0 x, ?_, FR.rfl' 0 y, hW, hL, e⟩
      · rw [g_X6_lays_41, rI_3, ex, if_pos qz]
      · rw [g_X7_lays_21, ix4 hs, Option.bind_some, rI_13, ey, if_pos qz]
    · have ht40 : t < 40 := by
        rw [nI_leI (by omega) (by omega)] at qz
        omega
      have e6 : g_X6_lays_41 (f + 1) s cnt (nI t) x = if lg_cmp (W t) 0 < 0 then g_X6_lays_41 f s cnt (nI (t + 1)) x else if 0 < lg_cmp (W t) 99 then g_X6_lays_41 f s cnt (nI (t + 1)) x else g_X6_lays_41 f s (cnt + 1) (nI (t + 1)) (h_wI x 0 (8 * 0 + t) 3 (Int64.toInt32 (W t))) := by
        rw [g_X6_lays_41, rI_3, ex, if_neg qz, rI_1, hL.2.2.1, hW.2.2.2.2.2.2.1, if_neg (nI_le_i (by omega) (by omega) ht), ix_nI ht40 (by decide), Option.bind_some, rJ_12, hx t ht40, ix8 h8, nI_1]
        rfl
      have e7 : g_X7_lays_21 (f + 1) (nI s) cnt (nI t) y = if lg_cmp (W t) 0 < 0 then g_X7_lays_21 f (nI s) cnt (nI (t + 1)) y else if 0 < lg_cmp (W t) 99 then g_X7_lays_21 f (nI s) cnt (nI (t + 1)) y else g_X7_lays_21 f (nI s) (cnt + 1) (nI (t + 1)) (h_wI y 13 0 (4 + 6 * t + 3) (Int64.toInt32 (W t))) := by
        rw [g_X7_lays_21, ix4 hs, Option.bind_some, rI_13, ey, if_neg qz, ix64_2, Option.bind_some, rv_2, e, hW.2.2.2.2.2.2.1, if_neg (nI_le_i (by omega) (by omega) ht), ix160 hs ht40, Option.bind_some, rJ_14, hy t ht40, puts3 h8, nI_1]
        rfl
      by_cases q0 : lg_cmp (W t) 0 < 0
      · rw [if_pos q0] at e6 e7
        obtain ⟨v, N', x', y', a1, a2, a3, a4, a5⟩ := lays_lp hs hz k f (t + 1) N cnt x y (by omega) (by omega) hW hL e ex ey hx hy
        exact ⟨v, N', x', y', e6.trans a1, a2, e7.trans a3, a4, a5⟩
      · rw [if_neg q0] at e6 e7
        by_cases q1 : 0 < lg_cmp (W t) 99
        · rw [if_pos q1] at e6 e7
          obtain ⟨v, N', x', y', a1, a2, a3, a4, a5⟩ := lays_lp hs hz k f (t + 1) N cnt x y (by omega) (by omega) hW hL e ex ey hx hy
          exact ⟨v, N', x', y', e6.trans a1, a2, e7.trans a3, a4, a5⟩
        · rw [if_neg q1] at e6 e7
          obtain ⟨v, N', x', y', a1, a2, a3, a4, a5⟩ := lays_lp hs hz k f (t + 1) (upn N (4 + 6 * t + 3) (Int64.toInt32 (W t))) (cnt + 1) (h_wI x 0 (8 * 0 + t) 3 (Int64.toInt32 (W t))) (h_wI y 13 0 (4 + 6 * t + 3) (Int64.toInt32 (W t))) (by omega) (by omega) (hW.wr ht (lays_v q0 q1)) (lc_w0 hL hn8 ht (by decide)) (by rw [rv_w, e]) (by rw [wI_0]; dsimp only; rw [up_c (by decide)]; exact ex) (by rw [wI_13]; dsimp only; rw [up_j (by decide)]; exact ey) hx hy
          exact ⟨v, N', x', y', e6.trans a1, (FB.w0 x h8 3 _).trans a2, e7.trans a3, (FR.w0 y _ _).trans a4, a5⟩
theorem badSheet_r {s : Nat} (hs : s < 4) (h : HP) (ha : inR (nI s) 0 3 = true) : f_X7_badSheet (nI s) h = if h.2.1 13 4 s = 0 then some (fcode 5, h) else some (0, h) := by
  simp -implicitDefEqProofs only [Option.bind_some, b0t, b0f, if_true, if_false, ite_true, ite_false, bind_eta, bind_etaV, rv_c, f_X7_badSheet, isSheet_r, ha, ix4 hs, rI_13, fc6]
theorem op_lays (a : Int32) (hI : Inv h) : Okc (f_X6_lays a) (f_X7_lays a) h := by
  obtain ⟨⟨n, m, d, l, i1, i2, i3⟩, -⟩ := id hI
  have iS : IShe h := hI.2.2.2.1
  have hn8 := i1.1
  cases ha : inR a 0 3 with
  | false =>
    refine okF hI 0 (by decide) (by simp -implicitDefEqProofs only [Option.bind_some, b0t, b0f, if_true, if_false, ite_true, ite_false, bind_eta, bind_etaV, rv_c, f_X6_lays, isSheet_c, ha, fc1]) (fun c => ?_)
    simp -implicitDefEqProofs only [Option.bind_some, b0t, b0f, if_true, if_false, ite_true, ite_false, bind_eta, bind_etaV, rv_c, f_X7_lays, f_X7_badSheet, isSheet_r, ha, fc1]
    rw [if_neg (by decide)]
  | true =>
    have ha' := ha
    obtain ⟨s, hs, rfl⟩ := inR_of (n := 3) (by decide) ha
    have hs4 : s < 4 := by omega
    obtain ⟨s1, s2, s3, ⟨z, hz, s4⟩, s5⟩ := iS s hs4
    by_cases q : h.2.1 13 4 s = 0
    · refine okF hI 5 (by decide) ?_ (fun c => ?_)
      · simp -implicitDefEqProofs only [Option.bind_some, b0t, b0f, if_true, if_false, ite_true, ite_false, bind_eta, bind_etaV, rv_c, f_X6_lays, isSheet_c, ha', ix4 hs4, missing_c, s1, decide_eq_true q, fc6]
      · unfold f_X7_lays
        rw [badSheet_r hs4 (c, h.2) ha', if_pos q, Option.bind_some, if_neg (show ¬ fcode 5 = 0 by decide), bind_eta]
    · obtain ⟨v, N', x', y0, a1, a2, -, -, -, a6, -⟩ := lays_lp (W := fun k => h.1.2 12 s k) hs4 hz n am_fu 0 (rv h) 0 h h (by omega) (fu_lt (by omega)) i1 i3 rfl (s2.trans s4) s4 (fun _ _ => rfl) (fun k hk => (s5 k hk).symm)
      have ex' : rv x' = rv h := by unfold rv; rw [a2.1]
      obtain ⟨v', N2, x2, y', b1, -, b3, b4, b5, b6, b7⟩ := lays_lp (W := fun k => h.1.2 12 s k) hs4 hz n am_fu 0 (rv h) 0 h x' (by omega) (fu_lt (by omega)) i1 i3 ex' (s2.trans s4) (by rw [a2.1]; exact s4) (fun _ _ => rfl) (fun k hk => by rw [a2.1]; exact (s5 k hk).symm)
      rw [a1] at b1
      have hv : v = v' := congrArg Prod.fst (Option.some.inj b1)
      have hx2 : x' = x2 := congrArg Prod.snd (Option.some.inj b1)
      rw [← hv] at b3
      rw [← hx2] at b6
      refine okW hI v x' y' N2 ?_ ?_ (a2.rest (by decide)) (b4.rest (Or.inl rfl)) b4.1 b7 b6 b5 i2
      · simp -implicitDefEqProofs only [Option.bind_some, b0t, b0f, if_true, if_false, ite_true, ite_false, bind_eta, bind_etaV, rv_c, f_X6_lays, isSheet_c, ha', ix4 hs4, missing_c, s1, decide_eq_false q]
        exact a1
      · unfold f_X7_lays
        rw [badSheet_r hs4 x' ha', if_neg (by rw [a2.1]; exact q), Option.bind_some, if_pos rfl]
        exact b3
end LAYS
