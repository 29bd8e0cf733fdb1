/-! PURE: book -/
section BOOK
variable {h : HP} {N : Nat → Int32} {n m d l : Nat}
/-- a sheet's numbers were written, from t on, and nothing else of the class -/
def BC (s : Nat) (W : Nat → Int64) (z t : Nat) (x x' : HP) : Prop := x'.2 = x.2 ∧ x'.1.1 = x.1.1 ∧ (∀ c j k, ¬ (c = 12 ∧ j = s) → x'.1.2 c j k = x.1.2 c j k) ∧ ∀ k, x'.1.2 12 s k = if t ≤ k ∧ k < z then W k else x.1.2 12 s k
theorem BC.w {s z t : Nat} {W : Nat → Int64} {x x' : HP} (hB : BC s W z (t + 1) (h_wJ x 12 s t (W t)) x') (ht : t < z) : BC s W z t x x' := by
  obtain ⟨a, b, c, e⟩ := hB
  rw [wJ_12] at a b c e
  refine ⟨a, b, fun c' j k hq => (c c' j k hq).trans (upx hq), fun k => ?_⟩
  rw [e k]
  by_cases q : k = t
  · subst q
    rw [if_neg (by omega), if_pos ⟨Nat.le_refl _, ht⟩]
    exact up_s
  · by_cases q2 : t + 1 ≤ k ∧ k < z
    · rw [if_pos q2, if_pos ⟨by omega, q2.2⟩]
    · rw [if_neg q2, if_neg (fun y => q2 ⟨by omega, y.2⟩)]
      exact up_k q
theorem BC.rfl' {s z t : Nat} {W : Nat → Int64} (hz : z ≤ t) (x : HP) : BC s W z t x x := ⟨rfl, rfl, fun _ _ _ _ => rfl, fun k => (if_neg (by omega)).symm⟩
def bkW (N : Nat → Int32) (n p l : Nat) (bits : Int32) (t : Nat) : Int64 := sNar bits (Int32.toInt64 (nI (vL N n t p l)))
theorem book_c {p s z : Nat} {bits : Int32} (hW : WF N n m d l) (hp : p < m) (hz : z ≤ 40) : ∀ (c f t : Nat) (x : HP), t + c = z → c < f → LC x 0 n m N → x.1.1 3 s 0 = bits → x.1.1 3 s 1 = nI z → ∃ x', BC s (bkW N n p l bits) z t x x' ∧ g_X6_book_57 f (nI p) s (nI t) x = some (nI z, x')
  | 0, f, t, x, h1, h2, hL, e0, e1 => by
    obtain ⟨f, rfl⟩ : ∃ z, f = z + 1 := ⟨f - 1, by omega⟩
    refine ⟨x, BC.rfl' (by omega) x, ?_⟩
    rw [g_X6_book_57, rI_3, e1, show t = z by omega, if_pos nI_le_n]
  | c + 1, f, t, x, h1, h2, hL, e0, e1 => by
    obtain ⟨f, rfl⟩ : ∃ z, f = z + 1 := ⟨f - 1, by omega⟩
    have ht : t < z := by omega
    have hL2 : LC (h_wJ x 12 s t (bkW N n p l bits t)) 0 n m N := by
      rw [wJ_12]
      exact hL
    obtain ⟨x', a1, a2⟩ := book_c (s := s) (bits := bits) hW hp hz c f (t + 1) (h_wJ x 12 s t (bkW N n p l bits t)) (by omega) (by omega) hL2 (by rw [wJ_12]; exact e0) (by rw [wJ_12]; exact e1)
    refine ⟨x', a1.w ht, ?_⟩
    rw [g_X6_book_57, rI_3, e1, if_neg (nI_le_i (by omega) (by omega) ht), rI_1, hL.2.1, hW.2.2.2.2.1, finesAhead_c hW hL hp (show t ≤ 100 by omega) hW.2.2.2.2.2.1, Option.bind_some, put_c e0 e1 hz ht, Option.bind_some, nI_1]
    exact a2
/-- and of the reference -/
def BR (s : Nat) (W : Nat → Int64) (z t : Nat) (y y' : HP) : Prop := y'.1 = y.1 ∧ (∀ c j k, ¬ (c = 13 ∧ j = 0) → y'.2.1 c j k = y.2.1 c j k) ∧ (∀ c j k, ¬ (c = 14 ∧ j = 0) → y'.2.2 c j k = y.2.2 c j k) ∧ ∀ k, y'.2.2 14 0 k = if 40 * s + t ≤ k ∧ k < 40 * s + z then W (k - 40 * s) else y.2.2 14 0 k
theorem book_r {p s z : Nat} {bits : Int32} (hW : WF N n m d l) (hd9 : d ≤ 9999) (hp : p < m) (hs : s < 4) (hz : z ≤ 40) : ∀ (c f t : Nat) (y : HP), t + c = z → c < f → rv y = dayR N n m d l t → y.2.1 13 4 s = bits → y.2.1 13 5 s = nI z → ∃ y', BR s (bkW N n p l bits) z t y y' ∧ g_X7_book_43 f (nI s) (nI p) (nI t) y = (f_X7_moveAll 0 2 y').bind (fun q_2 => (am_ix (nI s) 4).bind (fun k_3 => some (h_rI q_2 13 5 k_3, q_2)))
  | 0, f, t, y, h1, h2, e, e4, e5 => by
    obtain ⟨f, rfl⟩ : ∃ z, f = z + 1 := ⟨f - 1, by omega⟩
    refine ⟨y, ⟨rfl, fun _ _ _ _ => rfl, fun _ _ _ _ => rfl, fun k => (if_neg (by omega)).symm⟩, ?_⟩
    rw [g_X7_book_43, ix4 hs, Option.bind_some, rI_13, e5, show t = z by omega, if_pos nI_le_n]
  | c + 1, f, t, y, h1, h2, e, e4, e5 => by
    obtain ⟨f, rfl⟩ : ∃ z, f = z + 1 := ⟨f - 1, by omega⟩
    have ht : t < z := by omega
    have hn8 := hW.1
    have hm6 := hW.2.1
    have h4 := hW.2.2.2.1
    have hk40 : t < 40 := by omega
    have eV : mb (rv y) p 1 = nI (vL N n t p l) := by
      rw [e]
      unfold dayR
      rw [mb_mk1 hn8 hp]
      rfl
    have e' : rv (h_wJ y 14 0 (40 * s + t) (bkW N n p l bits t)) = dayR N n m d l t := by
      rw [wJ_14]
      exact e
    obtain ⟨g, a1, a2, a3⟩ := oneDay_r (h := h_wJ y 14 0 (40 * s + t) (bkW N n p l bits t)) hW.dn (s := t) (dd := d) (o := oN N) (fi := fN N) e' (by omega) (fun i hi => by have := (oN_nI hW hi).2; omega)
    obtain ⟨f1, f2, f3⟩ := id a2
    obtain ⟨y', b1, b2⟩ := book_r (p := p) (bits := bits) hW hd9 hp hs hz c f (t + 1) g (by omega) (by omega) a3 (by rw [f3 13 4 s (by omega)]; exact e4) (by rw [f3 13 5 s (by omega)]; exact e5)
    refine ⟨y', ?_, ?_⟩
    · obtain ⟨c1, c2, c3, c4⟩ := b1
      refine ⟨c1.trans f1, fun c' j k hq => (c2 c' j k hq).trans (f3 c' j k hq), fun c' j k hq => ?_, fun k => ?_⟩
      · rw [c3 c' j k hq, f2, wJ_14]
        exact upx hq
      · rw [c4 k, f2, wJ_14]
        show (if 40 * s + (t + 1) ≤ k ∧ k < 40 * s + z then _ else am_up y.2.2 14 0 (40 * s + t) (bkW N n p l bits t) 14 0 k) = _
        by_cases q : k = 40 * s + t
        · subst q
          rw [if_neg (by omega), if_pos (by omega), up_s, show 40 * s + t - 40 * s = t by omega]
        · rw [up_k q]
          by_cases q2 : 40 * s + (t + 1) ≤ k ∧ k < 40 * s + z
          · rw [if_pos q2, if_pos (by omega)]
          · rw [if_neg q2, if_neg (by omega)]
    · rw [g_X7_book_43, ix4 hs, Option.bind_some, rI_13, e5, if_neg (nI_le_i (by omega) (by omega) ht), Option.bind_some, whose1 (by omega), Option.bind_some, eV, rI_13, e4, narrow_r, Option.bind_some, ix160 hs hk40, Option.bind_some]
      show (f_X7_oneDay (h_wJ y 14 0 (40 * s + t) (bkW N n p l bits t))).bind _ = _
      rw [a1, Option.bind_some, nI_1, b2, ix4 hs]
theorem op_book (a b : Int32) (hI : Inv h) : Okc (f_X6_book a b) (f_X7_book a b) h := by
  obtain ⟨⟨n, m, d, l, i1, i2, i3⟩, iI, iT, iS, iF⟩ := id hI
  have hn8 := i1.1
  have hm6 := i1.2.1
  have g1 := hasMember_c i1 i3
  have g2 := fun c => isMember_r (h := (c, h.2)) i1
  cases ha : inR a 0 3 with
  | false =>
    refine okF hI 0 (by decide) (by simp -implicitDefEqProofs only [Option.bind_some, b0t, b0f, if_true, if_false, ite_true, ite_false, bind_eta, bind_etaV, rv_c, f_X6_book, isSheet_c, ha, fc1]) (fun c => ?_)
    simp -implicitDefEqProofs only [Option.bind_some, b0t, b0f, if_true, if_false, ite_true, ite_false, bind_eta, bind_etaV, rv_c, f_X7_book, f_X7_badSheet, isSheet_r, ha, fc1]
    rw [if_neg (by decide)]
  | true =>
    have ha' := ha
    obtain ⟨s, hs, rfl⟩ := inR_of (n := 3) (by decide) ha
    have hs4 : s < 4 := by omega
    obtain ⟨s1, s2, s3, ⟨z, hz, s4⟩, s5⟩ := iS s hs4
    by_cases q : h.2.1 13 4 s = 0
    · refine okF hI 5 (by decide) ?_ (fun c => ?_)
      · simp -implicitDefEqProofs only [Option.bind_some, b0t, b0f, if_true, if_false, ite_true, ite_false, bind_eta, bind_etaV, rv_c, f_X6_book, isSheet_c, ha', ix4 hs4, missing_c, s1, decide_eq_true q, fc6]
      · unfold f_X7_book
        rw [badSheet_r hs4 (c, h.2) ha', if_pos q, Option.bind_some, if_neg (show ¬ fcode 5 = 0 by decide), bind_eta]
    · have bs : ∀ c, f_X7_badSheet (nI s) (c, h.2) = some (0, (c, h.2)) := fun c => (badSheet_r hs4 (c, h.2) ha').trans (if_neg q)
      cases hb : isA b m with
      | false =>
        refine okF hI 0 (by decide) ?_ (fun c => ?_)
        · simp -implicitDefEqProofs only [Option.bind_some, b0t, b0f, if_true, if_false, ite_true, ite_false, bind_eta, bind_etaV, rv_c, f_X6_book, isSheet_c, ha', ix4 hs4, missing_c, s1, decide_eq_false q, g1, hb, fc1]
        · simp -implicitDefEqProofs only [Option.bind_some, b0t, b0f, if_true, if_false, ite_true, ite_false, bind_eta, bind_etaV, rv_c, f_X7_book, bs, g2, hb, fc1]
      | true =>
        have hb' := hb
        obtain ⟨p, hp, rfl⟩ := isA_t (by omega) hb
        obtain ⟨x, x1, x2⟩ := book_c (s := s) (bits := h.2.1 13 4 s) i1 hp hz z am_fu 0 h (by omega) (fu_lt (by omega)) i3 s1 (s2.trans s4)
        obtain ⟨X1, X2, X3, X4⟩ := x1
        have ec : x = (x.1, h.2) := by rw [← X1]
        obtain ⟨y1, a1, a2, a3⟩ := mv_to (r := 2) (Or.inl rfl) (x.1, h.2)
        obtain ⟨f1, f2, f3⟩ := id a2
        obtain ⟨y2, b1, b2⟩ := book_r (p := p) (s := s) (z := z) (bits := h.2.1 13 4 s) i1 i2 hp hs4 hz z am_fu 0 y1 (by omega) (fu_lt (by omega)) (by rw [rvFR a2, dayR_0 i1]; rfl) (f3 13 4 s (by omega)) ((f3 13 5 s (by omega)).trans s4)
        obtain ⟨Y1, Y2, Y3, Y4⟩ := b1
        obtain ⟨r, r1, r2, r3⟩ := mv_from (r := 2) (Or.inl rfl) y2
        obtain ⟨R1, R2, R3⟩ := id r2
        have er : ∀ c j k, ¬ (c = 13 ∧ (j = 0 ∨ j = 2)) → r.2.1 c j k = h.2.1 c j k := fun c j k hq => by
          rw [R3 c j k (fun w => hq ⟨w.1, Or.inl w.2⟩), Y2 c j k (fun w => hq ⟨w.1, Or.inl w.2⟩), f3 c j k (fun w => hq ⟨w.1, Or.inr w.2⟩)]
        have ev : ∀ k, k < 64 → rv r k = rv h k := fun k hk => by
          rw [r3 k hk, Y2 13 2 k (by omega), a3 k hk]
          rfl
        have e1 : r.1 = x.1 := by rw [R1, Y1, f1]
        have eW : ∀ k, r.2.2 14 0 k = if 40 * s + 0 ≤ k ∧ k < 40 * s + z then bkW (rv h) n p l (h.2.1 13 4 s) (k - 40 * s) else h.2.2 14 0 k := fun k => by
          rw [R2, Y4 k, f2]
        refine ⟨nI z, x, r, ?_, ?_, ⟨n, m, d, l, i1.agree ev, i2, ?_⟩, ?_, ?_, fun s' hs' => ?_, ?_⟩
        · simp -implicitDefEqProofs only [Option.bind_some, b0t, b0f, if_true, if_false, ite_true, ite_false, bind_eta, bind_etaV, rv_c, f_X6_book, isSheet_c, ha', ix4 hs4, missing_c, s1, decide_eq_false q, g1, hb']
          exact x2
        · rw [ec]
          simp -implicitDefEqProofs only [Option.bind_some, b0t, b0f, if_true, if_false, ite_true, ite_false, bind_eta, bind_etaV, rv_c, f_X7_book, bs, g2, hb', a1]
          refine b2.trans ?_
          rw [r1, Option.bind_some, ix4 hs4, Option.bind_some, rI_13, er 13 5 s (by omega), s4]
        · refine LC.agree ?_ hn8 hm6 ev
          unfold LC at *
          rw [e1, X2]
          exact i3
        · refine iimg_congr ?_ ?_ ?_ ?_ ?_ ?_ iI
          all_goals first | (rw [e1, X2]; done) | exact er _ _ _ (by omega) | exact funext (fun k => er _ _ k (by omega))
        · refine itap_congr ?_ ?_ ?_ ?_ iT
          all_goals first | (rw [e1, X2]; done) | exact er _ _ _ (by omega) | exact funext (fun k => er _ _ k (by omega))
        · obtain ⟨A, B, C, E, F⟩ := iS s' hs'
          rw [e1, X2, er 13 4 s' (by omega), er 13 5 s' (by omega)]
          refine ⟨A, B, C, E, fun k hk => ?_⟩
          rw [eW]
          by_cases w : s' = s
          · subst w
            rw [X4 k]
            by_cases w2 : 0 ≤ k ∧ k < z
            · rw [if_pos w2, if_pos (by omega), show 40 * s' + k - 40 * s' = k by omega]
            · rw [if_neg w2, if_neg (by omega)]
              exact F k hk
          · rw [X3 12 s' k (fun w2 => w w2.2), if_neg (by omega)]
            exact F k hk
        · refine itol_congr ?_ ?_ iF
          all_goals first | (rw [e1, X2]; done) | exact er _ _ _ (by omega) | exact funext (fun k => er _ _ k (by omega))
end BOOK
