/-! PURE: handles, members, loans told in the text -/
section ITEM
variable {b : Nat → Nat} {T : Nat} {N : Nat → Int32} {n m d l e e0 : Nat} {x y x0 y0 : HP}
theorem IR.bad {cx : Option (Int32 × HP)} {cy : Option HP} {z : HP} {st : Nat} (e1 : cx = some (0, x)) (e2 : cy = some z) (hX : HX x0 x) (hY : HY y0 z) (hB : JB T st x z) : IR b T d e0 x0 y0 cx cy := Or.inr ⟨x, z, st, e1, e2, hX, hY, hB⟩
/-- the wear, or none, and the handle is there -/
theorem wear_J {K A B : Nat} (hT : T ≤ 120) (hb : ∀ k, b k < 256) (hK : K < 6) (hA : A < 16) (hB : B < 16) (hn : n < 8) (he : e0 < e) (hX : HX x0 x) (hY : HY y0 y) (hJ : JS b T N n m d l e x y) : IR b T d e0 x0 y0 ((f_X5_takeWord 4 x).bind (fun q_7 => if q_7.1 = (0 : Int32) then (g_X5_takeHandle_83 (nI K) (nI A) (nI B) 0 q_7.2) else ((f_X5_takeNumber 99 q_7.2).bind (fun q_8 => g_X5_takeHandle_83 (nI K) (nI A) (nI B) q_8.1 q_8.2)))) ((f_X7_mayWant 456399 0 99 0 y).bind (fun q_6 => if h_rI q_6.2 7 0 10 = (0 : Int32) then (some q_6.2) else ((f_X7_addHandle (nI K) (nI A) (nI B) q_6.1 q_6.2).bind (fun q_7 => some q_7)))) := by
  -- a handle with wear w comes
  have add : ∀ {w e' : Nat} {x1 y1 : HP}, w ≤ 99 → e0 < e' → HX x0 x1 → HY y0 y1 → JS b T N n m d l e' x1 y1 → IR b T d e0 x0 y0 (g_X5_takeHandle_83 (nI K) (nI A) (nI B) (nI w) x1) (if h_rI y1 7 0 10 = (0 : Int32) then (some y1) else ((f_X7_addHandle (nI K) (nI A) (nI B) (nI w) y1).bind (fun q_7 => some q_7))) := by
    intro w e' x1 y1 hw he' hX1 hY1 hJ1
    obtain ⟨j1, j2, j3, j4, j5, j6, j7, j8, j9⟩ := id hJ1
    obtain ⟨x2, a1, a2, a3⟩ := addh_c j8 j6 hn (nI K) (nI A) (nI B) (nI w)
    obtain ⟨y2, b1, b2, b3⟩ := addh_r (y := y1) (by rw [j7]; exact j8) hn (nI K) (nI A) (nI B) (nI w)
    rw [j7] at b3
    refine Or.inl ⟨x2, y2, _, n + 1, m, l, e', ?_, ?_, hX1.trans a2.x, hY1.trans b2.y, hJ1.lib a2 b2 a3 b3 (j8.addh hn ⟨K, hK, rfl⟩ ⟨A, hA, rfl⟩ ⟨B, hB, rfl⟩ ⟨w, hw, rfl⟩), he'⟩
    · unfold g_X5_takeHandle_83
      rw [if_neg (nI_m1 (by omega)), a1]
      rfl
    · rw [rI_7, j5, if_neg (by decide), b1]
      rfl
  have hg : y.2.1 7 0 10 = 1 := hJ.2.2.2.2.1
  have hup := tkE_up (b := b) (T := T) hJ.2.2.2.2.2.2.2.2
  have ew := (hJ.words (c := 4) hT hb (by decide)).2
  rcases hJ.word (c := 4) hT hb (by decide) with ⟨w1, x1, y1, w2, w3, w4, w5, w6⟩ | ⟨w1, w2, w3⟩
  · -- a word, then a number
    obtain ⟨x1', y1', s1, s2, s3, s4, s5⟩ := hJ.step hT hb
    have t1 : f_X5_takeWord 4 x = some (1, x1') := by
      unfold f_X5_takeWord
      rw [(hJ.words (c := 4) hT hb (by decide)).1, w1, Option.bind_some, if_neg (show ¬ b2i true = 0 by decide), s1]
      rfl
    have t2 : f_X7_mayWant 456399 0 99 0 y = (f_X7_wantNumber 0 99 y1').bind (fun q_3 => some (q_3.1, q_3.2)) := by
      unfold f_X7_mayWant
      rw [rI_7, hg, if_neg (by decide), show f_X7_isWord 456399 y = some (b2i (isW b T e 4), y) from ew, w1, Option.bind_some, if_neg (show ¬ b2i true = 0 by decide), s2]
      rfl
    rw [t1, t2, Option.bind_some, if_neg (show ¬ (1 : Int32) = 0 by decide)]
    rcases s5.num (B := 99) hT hb (by decide) with ⟨v, x2, y2, hv, u1, u2, u3, u4, u5⟩ | ⟨u1, v, u2⟩
    · have u1' : f_X5_takeNumber 99 x1' = some (nI v, x2) := u1
      have u2' : f_X7_wantNumber 0 99 y1' = some (nI v, y2) := u2
      have hup2 := tkE_up (b := b) (T := T) s5.2.2.2.2.2.2.2.2
      rw [u1', u2', Option.bind_some, Option.bind_some, Option.bind_some]
      exact add hv (by omega) ((hX.trans s3).trans u3) ((hY.trans s4).trans u4) u5
    · have u1' : f_X5_takeNumber 99 x1' = some (-1, x1') := u1
      have u2' : f_X7_wantNumber 0 99 y1' = some (v, h_wI y1' 7 0 10 0) := u2
      rw [u1', u2', Option.bind_some, Option.bind_some, Option.bind_some]
      refine IR.bad (x := x1') (z := h_wI y1' 7 0 10 0) ?_ ?_ (hX.trans s3) ((hY.trans s4).trans (HY.bad _ _)) s5.bad
      · unfold g_X5_takeHandle_83
        rw [if_pos rfl]
      · rw [rI_7, w7s, if_pos rfl]
  · have t2 : f_X7_mayWant 456399 0 99 0 y = some (0, y) := by
      unfold f_X7_mayWant
      rw [rI_7, hg, if_neg (by decide), show f_X7_isWord 456399 y = some (b2i (isW b T e 4), y) from ew, w1, Option.bind_some, if_pos (show b2i false = 0 by decide)]
    rw [w2, t2, Option.bind_some, Option.bind_some, if_pos rfl]
    exact add (w := 0) (by omega) he hX hY hJ
theorem handle_J {K : Nat} (hT : T ≤ 120) (hb : ∀ k, b k < 256) (hK : K < 6) (hk0 : ¬ tkK b T e = 0) (hJ : JS b T N n m d l e x y) : IR b T d e x y (f_X5_takeHandle (nI K) x) (f_X7_wantHandle (nI K) y) := by
  obtain ⟨j1, j2, j3, j4, j5, j6, j7, j8, j9⟩ := id hJ
  have hn8 := j8.1
  have e3 : x.1.1 1 1 3 = nI n := j6.2.2.1.trans j8.2.2.2.2.2.2.1
  have e2 : rv y 2 = nI n := by rw [j7]; exact j8.2.2.2.2.2.2.1
  unfold f_X5_takeHandle f_X1_hasPlaceForHandle f_X7_wantHandle
  rw [rI_1, e3, ix64_2, Option.bind_some, rv_2, e2]
  by_cases q : n = 8
  · subst q
    rw [if_pos (show (8 : Int32) ≤ nI 8 by decide), Option.bind_some, if_pos rfl, if_pos (show (8 : Int32) ≤ nI 8 by decide)]
    refine IR.bad (x := x) (z := h_wI y 7 0 10 0) rfl ?_ (HX.rfl' x) (HY.bad y 0) hJ.bad
    unfold g_X7_wantHandle_17
    rw [if_pos (show (0 : Int32) &&& 1 = 0 by decide), rI_7, w7s, if_pos rfl]
  · have hn : n < 8 := by omega
    have q8 : ¬ (8 : Int32) ≤ nI n := nI_le_i (n := 8) (by omega) (by decide) hn
    obtain ⟨x1, y1, s1, s2, s3, s4, s5⟩ := hJ.step hT hb
    have hE := (tkE_ge (b := b) j9).2.2 hk0
    have hS := (tkS_ge (b := b) j9).1
    rw [if_neg q8, Option.bind_some, if_neg (show ¬ (1 : Int32) = 0 by decide), if_neg q8, s1, Option.bind_some]
    unfold g_X7_wantHandle_17
    rw [if_pos (show (1 : Int32) &&& 1 = 1 by decide), w7_same j5, rI_7, j5, if_neg (show ¬ (1 : Int32) = 0 by decide), s2, Option.bind_some]
    rcases s5.word (c := 2) hT hb (by decide) with ⟨-, x2, y2, w2, w3, w4, w5, w6⟩ | ⟨-, w2, w3⟩
    · have w3' : f_X7_wantWord 131638 y1 = some y2 := w3
      have up2 := tkE_up (b := b) (T := T) s5.2.2.2.2.2.2.2.2
      rw [w2, w3', Option.bind_some, Option.bind_some, if_neg (show ¬ (1 : Int32) = 0 by decide)]
      rcases w6.num (B := 15) hT hb (by decide) with ⟨A, x3, y3, hA, u1, u2, u3, u4, u5⟩ | ⟨u1, v, u2⟩
      · have u1' : f_X5_takeNumber 15 x2 = some (nI A, x3) := u1
        have u2' : f_X7_wantNumber 0 15 y2 = some (nI A, y3) := u2
        have up3 := tkE_up (b := b) (T := T) w6.2.2.2.2.2.2.2.2
        rw [u1', u2', Option.bind_some, Option.bind_some, if_neg (nI_m1 (by omega))]
        rcases u5.word (c := 3) hT hb (by decide) with ⟨-, x4, y4, v2, v3, v4, v5, v6⟩ | ⟨-, v2, v3⟩
        · have v3' : f_X7_wantWord 555 y3 = some y4 := v3
          have up4 := tkE_up (b := b) (T := T) u5.2.2.2.2.2.2.2.2
          dsimp only
          rw [v2, v3', Option.bind_some, Option.bind_some, if_neg (show ¬ (1 : Int32) = 0 by decide)]
          rcases v6.num (B := 15) hT hb (by decide) with ⟨B, x5, y5, hB, z1, z2, z3, z4, z5⟩ | ⟨z1, v, z2⟩
          · have z1' : f_X5_takeNumber 15 x4 = some (nI B, x5) := z1
            have z2' : f_X7_wantNumber 0 15 y4 = some (nI B, y5) := z2
            have up5 := tkE_up (b := b) (T := T) v6.2.2.2.2.2.2.2.2
            dsimp only
            rw [z1', z2', Option.bind_some, Option.bind_some, if_neg (nI_m1 (by omega))]
            exact wear_J hT hb hK (by omega) (by omega) hn (by omega) ((((s3.trans w4).trans u3).trans v4).trans z3) ((((s4.trans w5).trans u4).trans v5).trans z4) z5
          · have z1' : f_X5_takeNumber 15 x4 = some (-1, x4) := z1
            have z2' : f_X7_wantNumber 0 15 y4 = some (v, h_wI y4 7 0 10 0) := z2
            have hB := v6.bad
            dsimp only
            rw [z1', z2', Option.bind_some, Option.bind_some, if_pos rfl]
            dsimp only
            rw [mW_bad hB.2.2, Option.bind_some]
            dsimp only
            rw [rI_7, hB.2.2, if_pos rfl]
            exact IR.bad rfl rfl (((s3.trans w4).trans u3).trans v4) ((((s4.trans w5).trans u4).trans v5).trans (HY.bad _ _)) hB
        · have v3' : f_X7_wantWord 555 y3 = some (h_wI y3 7 0 10 0) := v3
          have hB := u5.bad
          dsimp only
          rw [v2, v3', Option.bind_some, Option.bind_some, if_pos rfl, wN_bad hB.2.2, Option.bind_some]
          dsimp only
          rw [mW_bad hB.2.2, Option.bind_some]
          dsimp only
          rw [rI_7, hB.2.2, if_pos rfl]
          exact IR.bad rfl rfl ((s3.trans w4).trans u3) (((s4.trans w5).trans u4).trans (HY.bad _ _)) hB
      · have u1' : f_X5_takeNumber 15 x2 = some (-1, x2) := u1
        have u2' : f_X7_wantNumber 0 15 y2 = some (v, h_wI y2 7 0 10 0) := u2
        have hB := w6.bad
        rw [u1', u2', Option.bind_some, Option.bind_some, if_pos rfl]
        dsimp only
        rw [wW_bad hB.2.2, Option.bind_some, wN_bad hB.2.2, Option.bind_some]
        dsimp only
        rw [mW_bad hB.2.2, Option.bind_some]
        dsimp only
        rw [rI_7, hB.2.2, if_pos rfl]
        exact IR.bad rfl rfl (s3.trans w4) ((s4.trans w5).trans (HY.bad _ _)) hB
    · have w3' : f_X7_wantWord 131638 y1 = some (h_wI y1 7 0 10 0) := w3
      have hB := s5.bad
      rw [w2, w3', Option.bind_some, Option.bind_some, if_pos rfl, wN_bad hB.2.2, Option.bind_some]
      dsimp only
      rw [wW_bad hB.2.2, Option.bind_some, wN_bad hB.2.2, Option.bind_some]
      dsimp only
      rw [mW_bad hB.2.2, Option.bind_some]
      dsimp only
      rw [rI_7, hB.2.2, if_pos rfl]
      exact IR.bad rfl rfl s3 (s4.trans (HY.bad _ _)) hB
theorem member_J (hT : T ≤ 120) (hb : ∀ k, b k < 256) (hk0 : ¬ tkK b T e = 0) (hJ : JS b T N n m d l e x y) : IR b T d e x y (f_X5_takeMember x) (f_X7_wantMember y) := by
  obtain ⟨j1, j2, j3, j4, j5, j6, j7, j8, j9⟩ := id hJ
  have hm6 := j8.2.1
  have e3 : x.1.1 1 1 5 = nI m := j6.2.2.2.1.trans j8.2.2.2.2.2.2.2.1
  have e2 : rv y 3 = nI m := by rw [j7]; exact j8.2.2.2.2.2.2.2.1
  unfold f_X5_takeMember f_X1_hasPlaceForMember f_X7_wantMember
  rw [rI_1, e3, ix64_3, Option.bind_some, rv_3, e2]
  by_cases q : m = 6
  · subst q
    rw [if_pos (show (6 : Int32) ≤ nI 6 by decide), Option.bind_some, if_pos rfl, if_pos (show (6 : Int32) ≤ nI 6 by decide)]
    refine IR.bad (x := x) (z := h_wI y 7 0 10 0) rfl ?_ (HX.rfl' x) (HY.bad y 0) hJ.bad
    unfold g_X7_wantMember_17
    rw [if_pos (show (0 : Int32) &&& 1 = 0 by decide), rI_7, w7s, if_pos rfl]
  · have hm : m < 6 := by omega
    have q6 : ¬ (6 : Int32) ≤ nI m := nI_le_i (n := 6) (by omega) (by decide) hm
    obtain ⟨x1, y1, s1, s2, s3, s4, s5⟩ := hJ.step hT hb
    have hE := (tkE_ge (b := b) j9).2.2 hk0
    have hS := (tkS_ge (b := b) j9).1
    rw [if_neg q6, Option.bind_some, if_neg (show ¬ (1 : Int32) = 0 by decide), if_neg q6, s1, Option.bind_some]
    unfold g_X7_wantMember_17
    rw [if_pos (show (1 : Int32) &&& 1 = 1 by decide), w7_same j5, rI_7, j5, if_neg (show ¬ (1 : Int32) = 0 by decide), s2, Option.bind_some]
    have add : ∀ {w e' : Nat} {x1 y1 : HP}, w < 16 → e < e' → HX x x1 → HY y y1 → JS b T N n m d l e' x1 y1 → IR b T d e x y (g_X5_takeMember_35 (nI w) x1) (if h_rI y1 7 0 10 = (0 : Int32) then (some y1) else ((f_X7_addMember (nI w) y1).bind (fun q_3 => some q_3))) := by
      intro w e' x1 y1 hw he' hX1 hY1 hJ1
      obtain ⟨j1, j2, j3, j4, j5, j6, j7, j8, j9⟩ := id hJ1
      obtain ⟨x2, a1, a2, a3⟩ := addm_c j8 j6 hm (nI w)
      obtain ⟨y2, b1, b2, b3⟩ := addm_r (y := y1) (by rw [j7]; exact j8) hm (nI w)
      rw [j7] at b3
      refine Or.inl ⟨x2, y2, _, n, m + 1, l, e', ?_, ?_, hX1.trans a2.x, hY1.trans b2.y, hJ1.lib a2 b2 a3 b3 (j8.addm hm ⟨w, hw, rfl⟩), he'⟩
      · unfold g_X5_takeMember_35
        rw [if_neg (nI_m1 (by omega)), a1]
        rfl
      · rw [rI_7, j5, if_neg (by decide), b1]
        rfl
    have hg : y1.2.1 7 0 10 = 1 := s5.2.2.2.2.1
    have ew := (s5.words (c := 5) hT hb (by decide))
    have hup := tkE_up (b := b) (T := T) s5.2.2.2.2.2.2.2.2
    cases w1 : isW b T (tkE b T e) 5 with
    | true =>
      obtain ⟨x2, y2, v1, v2, v3, v4, v5⟩ := s5.step hT hb
      have t1 : f_X5_takeWord 5 x1 = some (1, x2) := by
        unfold f_X5_takeWord
        rw [ew.1, w1, Option.bind_some, if_neg (show ¬ b2i true = 0 by decide), v1]
        rfl
      have t2 : f_X7_mayWant 47 0 15 0 y1 = (f_X7_wantNumber 0 15 y2).bind (fun q_3 => some (q_3.1, q_3.2)) := by
        unfold f_X7_mayWant
        rw [rI_7, hg, if_neg (by decide), show f_X7_isWord 47 y1 = some (b2i (isW b T (tkE b T e) 5), y1) from ew.2, w1, Option.bind_some, if_neg (show ¬ b2i true = 0 by decide), v2]
        rfl
      rw [t1, t2, Option.bind_some, if_neg (show ¬ (1 : Int32) = 0 by decide)]
      have hup2 := tkE_up (b := b) (T := T) v5.2.2.2.2.2.2.2.2
      rcases v5.num (B := 15) hT hb (by decide) with ⟨v, x3, y3, hv, u1, u2, u3, u4, u5⟩ | ⟨u1, v, u2⟩
      · have u1' : f_X5_takeNumber 15 x2 = some (nI v, x3) := u1
        have u2' : f_X7_wantNumber 0 15 y2 = some (nI v, y3) := u2
        rw [u1', u2', Option.bind_some, Option.bind_some, Option.bind_some]
        exact add (by omega) (by omega) ((s3.trans v3).trans u3) ((s4.trans v4).trans u4) u5
      · have u1' : f_X5_takeNumber 15 x2 = some (-1, x2) := u1
        have u2' : f_X7_wantNumber 0 15 y2 = some (v, h_wI y2 7 0 10 0) := u2
        rw [u1', u2', Option.bind_some, Option.bind_some, Option.bind_some]
        refine IR.bad (x := x2) (z := h_wI y2 7 0 10 0) ?_ ?_ (s3.trans v3) ((s4.trans v4).trans (HY.bad _ _)) v5.bad
        · unfold g_X5_takeMember_35
          rw [if_pos rfl]
        · rw [rI_7, w7s, if_pos rfl]
    | false =>
      have t1 : f_X5_takeWord 5 x1 = some (0, x1) := by
        unfold f_X5_takeWord
        rw [ew.1, w1, Option.bind_some, if_pos (show b2i false = 0 by decide)]
      have t2 : f_X7_mayWant 47 0 15 0 y1 = some (0, y1) := by
        unfold f_X7_mayWant
        rw [rI_7, hg, if_neg (by decide), show f_X7_isWord 47 y1 = some (b2i (isW b T (tkE b T e) 5), y1) from ew.2, w1, Option.bind_some, if_pos (show b2i false = 0 by decide)]
      rw [t1, t2, Option.bind_some, Option.bind_some, if_pos rfl]
      exact add (w := 0) (by omega) (by omega) s3 s4 s5
end ITEM
