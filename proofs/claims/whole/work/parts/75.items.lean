/-! PURE: an item of the text, both sides -/
def HX (x0 x : HP) : Prop := x.2 = x0.2 ∧ x.1.2 = x0.1.2 ∧ ∀ c j k, ¬ c = 5 → ¬ (c = 1 ∧ j = 1) → ¬ (c = 0 ∧ 8 ≤ j ∧ j < 16) → ¬ (c = 2 ∧ 6 ≤ j ∧ j < 12) → x.1.1 c j k = x0.1.1 c j k
def HY (y0 y : HP) : Prop := y.1 = y0.1 ∧ (∀ c j k, ¬ (c = 7 ∧ j = 0 ∧ 5 ≤ k ∧ k ≤ 10) → ¬ (c = 13 ∧ j = 0) → y.2.1 c j k = y0.2.1 c j k) ∧ ∀ c j k, ¬ c = 7 → y.2.2 c j k = y0.2.2 c j k
theorem HX.rfl' (x : HP) : HX x x := ⟨rfl, rfl, fun _ _ _ _ _ _ _ => rfl⟩
theorem HX.trans {x y z : HP} (p : HX x y) (q : HX y z) : HX x z := ⟨q.1.trans p.1, q.2.1.trans p.2.1, fun c j k h1 h2 h3 h4 => (q.2.2 c j k h1 h2 h3 h4).trans (p.2.2 c j k h1 h2 h3 h4)⟩
theorem F5.x {x y : HP} (p : F5 x y) : HX x y := ⟨p.1, p.2.1, fun c j k h1 _ _ _ => p.2.2 c j k h1⟩
theorem FB.x {x y : HP} (p : FB 1 x y) : HX x y := ⟨p.1, p.2.1, fun c j k _ h2 h3 h4 => p.2.2 c j k h2 (fun z => h3 ⟨z.1, by omega, by omega⟩) (fun z => h4 ⟨z.1, by omega, by omega⟩)⟩
theorem HY.rfl' (x : HP) : HY x x := ⟨rfl, fun _ _ _ _ _ => rfl, fun _ _ _ _ => rfl⟩
theorem HY.trans {x y z : HP} (p : HY x y) (q : HY y z) : HY x z := ⟨q.1.trans p.1, fun c j k h1 h2 => (q.2.1 c j k h1 h2).trans (p.2.1 c j k h1 h2), fun c j k h => (q.2.2 c j k h).trans (p.2.2 c j k h)⟩
theorem F7.y {x y : HP} (p : F7 x y) : HY x y := ⟨p.1, fun c j k h1 _ => p.2.1 c j k (fun z => h1 ⟨z.1, z.2.1, by omega, by omega⟩), p.2.2⟩
theorem FR.y {x y : HP} (p : FR 0 x y) : HY x y := ⟨p.1, fun c j k _ h2 => p.2.2 c j k h2, fun c j k _ => by rw [p.2.1]⟩
theorem HY.bad (y : HP) (v : Int32) : HY y (h_wI y 7 0 10 v) := by
  rw [wI_7]
  refine ⟨rfl, fun c j k h1 _ => ?_, fun _ _ _ _ => rfl⟩
  show am_up y.2.1 7 0 10 v c j k = _
  unfold am_up
  rw [if_neg (fun z => h1 ⟨z.1, z.2.1, by omega, by omega⟩)]
theorem w7_same {y : HP} {v : Int32} (e : y.2.1 7 0 10 = v) : h_wI y 7 0 10 v = y := by
  rw [wI_7]
  have : am_up y.2.1 7 0 10 v = y.2.1 := by
    funext c j k
    unfold am_up
    by_cases q : c = 7 ∧ j = 0 ∧ k = 10
    · rw [if_pos q, q.1, q.2.1, q.2.2, e]
    · rw [if_neg q]
  rw [this]
section ITEMS
variable {b : Nat → Nat} {T : Nat} {N : Nat → Int32} {n m d l e : Nat} {x y : HP}
def JS (b : Nat → Nat) (T : Nat) (N : Nat → Int32) (n m d l e : Nat) (x y : HP) : Prop := TP b T x ∧ TQ b T y ∧ CT b T e x ∧ RT b T e y ∧ y.2.1 7 0 10 = 1 ∧ LC x 1 n m N ∧ rv y = N ∧ WF N n m d l ∧ e ≤ T
def JB (T st : Nat) (x y : HP) : Prop := (x.1.1 5 0 3 = nI st ∧ st ≤ T) ∧ y.2.1 7 0 6 = nI st ∧ y.2.1 7 0 10 = 0
theorem JS.bad (hJ : JS b T N n m d l e x y) : JB T (tkS b T e) x (h_wI y 7 0 10 0) := by
  obtain ⟨j1, j2, j3, j4, j5, j6, j7, j8, j9⟩ := hJ
  exact ⟨⟨j3.2.1, (tkS_ge j9).2⟩, (w7n y _ (by decide)).trans j4.2.1, w7s y 10 0⟩
theorem LC.f5 {x x' : HP} (hL : LC x 1 n m N) (hF : F5 x x') : LC x' 1 n m N := LC.congr hL (funext fun k => hF.2.2 1 1 k (by decide)) (fun i _ => funext fun k => hF.2.2 0 _ k (by decide)) (fun i _ => funext fun k => hF.2.2 2 _ k (by decide))
theorem rv_f7 {y y' : HP} (hF : F7 y y') : rv y' = rv y := funext fun k => hF.2.1 13 0 k (by omega)
theorem JS.step (hT : T ≤ 120) (hb : ∀ k, b k < 256) (hJ : JS b T N n m d l e x y) : ∃ x' y', f_X5_step x = some x' ∧ f_X7_advance y = some y' ∧ HX x x' ∧ HY y y' ∧ JS b T N n m d l (tkE b T e) x' y' := by
  obtain ⟨j1, j2, j3, j4, j5, j6, j7, j8, j9⟩ := hJ
  have hE := tkE_ge (b := b) j9
  obtain ⟨x', a1, a2, a3⟩ := step_c hT hb hE.2.1 j1 j3.2.2.1
  obtain ⟨y', b1, b2, b3⟩ := step_r hT hb hE.2.1 j2 j4.2.2.1
  exact ⟨x', y', a1, b1, a2.x, b2.y, j1.f5 a2, j2.f7 b2, a3, b3, (b2.2.1 7 0 10 (by omega)).trans j5, j6.f5 a2, (rv_f7 b2).trans j7, j8, hE.2.1⟩
theorem JS.words {c : Nat} (hT : T ≤ 120) (hb : ∀ k, b k < 256) (hc : c < 12) (hJ : JS b T N n m d l e x y) : f_X5_isWord c x = some (b2i (isW b T e c), x) ∧ f_X7_isWord (lN (wV c)) y = some (b2i (isW b T e c), y) := by
  obtain ⟨j1, j2, j3, j4, j5, j6, j7, j8, j9⟩ := hJ
  exact ⟨isWord_c hT hb hc j9 j1 j3, isWord_r hc j9 j4⟩
theorem wW_bad {V : Int64} (hg : y.2.1 7 0 10 = 0) : f_X7_wantWord V y = some y := by
  unfold f_X7_wantWord g_X7_wantWord_21
  rw [rI_7, hg, if_pos rfl, if_pos (by decide), w7_same hg, rI_7, hg, if_pos rfl]
theorem wN_bad {p q : Int32} (hg : y.2.1 7 0 10 = 0) : f_X7_wantNumber p q y = some (y.2.1 7 0 9, y) := by
  unfold f_X7_wantNumber g_X7_wantNumber_35
  rw [rI_7, hg, if_pos rfl, if_pos (by decide), w7_same hg, rI_7, hg, if_pos rfl]
  rfl
theorem mW_bad {V : Int64} {p q r : Int32} (hg : y.2.1 7 0 10 = 0) : f_X7_mayWant V p q r y = some (r, y) := by
  unfold f_X7_mayWant
  rw [rI_7, hg, if_pos rfl]
theorem JS.word {c : Nat} (hT : T ≤ 120) (hb : ∀ k, b k < 256) (hc : c < 12) (hJ : JS b T N n m d l e x y) : (isW b T e c = true ∧ ∃ x' y', f_X5_takeWord c x = some (1, x') ∧ f_X7_wantWord (lN (wV c)) y = some y' ∧ HX x x' ∧ HY y y' ∧ JS b T N n m d l (tkE b T e) x' y') ∨ (isW b T e c = false ∧ f_X5_takeWord c x = some (0, x) ∧ f_X7_wantWord (lN (wV c)) y = some (h_wI y 7 0 10 0)) := by
  obtain ⟨w1, w2⟩ := hJ.words hT hb hc
  have hg : y.2.1 7 0 10 = 1 := hJ.2.2.2.2.1
  unfold f_X5_takeWord f_X7_wantWord g_X7_wantWord_21
  rw [w1, Option.bind_some, rI_7, hg, if_neg (show ¬ (1 : Int32) = 0 by decide), w2, Option.bind_some, b2i_c, b2i_c]
  cases isW b T e c with
  | true =>
    obtain ⟨x', y', a1, a2, a3, a4, a5⟩ := hJ.step hT hb
    refine Or.inl ⟨rfl, x', y', ?_, ?_, a3, a4, a5⟩
    · rw [if_pos rfl, a1]
      rfl
    · rw [if_pos rfl, if_pos (show (1 : Int32) &&& 1 = 1 by decide), w7_same hg, rI_7, hg, if_neg (by decide), a2]
      rfl
  | false =>
    refine Or.inr ⟨rfl, ?_, ?_⟩
    · rw [if_neg (by decide)]
    · rw [if_neg (by decide), if_pos (show (0 : Int32) &&& 1 = 0 by decide), rI_7, w7s, if_pos rfl]
theorem JS.num {B : Nat} (hT : T ≤ 120) (hb : ∀ k, b k < 256) (hB : B ≤ 99) (hJ : JS b T N n m d l e x y) : (∃ v x' y', v ≤ B ∧ f_X5_takeNumber (nI B) x = some (nI v, x') ∧ f_X7_wantNumber 0 (nI B) y = some (nI v, y') ∧ HX x x' ∧ HY y y' ∧ JS b T N n m d l (tkE b T e) x' y') ∨ (f_X5_takeNumber (nI B) x = some (-1, x) ∧ ∃ v, f_X7_wantNumber 0 (nI B) y = some (v, h_wI y 7 0 10 0)) := by
  have hg : y.2.1 7 0 10 = 1 := hJ.2.2.2.2.1
  obtain ⟨c2, c3, c4, c5⟩ := hJ.2.2.1
  obtain ⟨r5, r6, r7, r8, r9, -⟩ := hJ.2.2.2.1
  have hk := tkK_le (b := b) (T := T) e
  have badN : ∀ v, g_X7_wantNumber_35 v 0 y = some (v, h_wI y 7 0 10 0) := fun v => by
    unfold g_X7_wantNumber_35
    rw [if_pos (show (0 : Int32) &&& 1 = 0 by decide), rI_7, w7s, if_pos rfl]
  unfold f_X5_takeNumber f_X7_wantNumber
  rw [rI_5, c2, rI_7, hg, if_neg (show ¬ (1 : Int32) = 0 by decide), rI_7, r5]
  by_cases q : tkK b T e = 2
  · have hv : tkV b T e ≤ 1000 := nV_le _ _ 0 (by omega)
    have hu : tkU b T e ≤ 20000 := nU_le _ _ 0 hb (by omega)
    have hR := tkVU (b := b) (T := T) e
    unfold Rl at hR
    rw [if_pos (show nI (tkK b T e) = 2 by rw [q]; rfl), if_pos (show nI (min 3 (tkK b T e)) = 2 by rw [q]; rfl), rI_5, c5 q, rI_7, r9 q, show (0 : Int32) = nI 0 from rfl, in_ok, inR_nI (by omega) (by decide) (by omega), Option.bind_some]
    dsimp only
    rw [show nI 0 = (0 : Int32) from rfl, b2i_c]
    by_cases z : tkV b T e ≤ B
    · have huv : tkU b T e = tkV b T e := by omega
      obtain ⟨x', y', a1, a2, a3, a4, a5⟩ := hJ.step hT hb
      refine Or.inl ⟨tkV b T e, x', y', z, ?_, ?_, a3, a4, a5⟩
      · rw [if_pos ((nI_leI (by omega) (by omega)).mpr z), a1]
        rfl
      · rw [huv, if_pos (decide_eq_true ⟨Nat.zero_le _, z⟩)]
        unfold g_X7_wantNumber_35
        rw [if_pos (show (1 : Int32) &&& 1 = 1 by decide), w7_same hg, rI_7, hg, if_neg (by decide), a2]
        rfl
    · refine Or.inr ⟨?_, nI (tkU b T e), ?_⟩
      · rw [if_neg (fun w => z ((nI_leI (by omega) (by omega)).mp w))]
      · rw [if_neg (by rw [decide_eq_false (show ¬ (0 ≤ tkU b T e ∧ tkU b T e ≤ B) by omega)]; decide), badN]
  · refine Or.inr ⟨?_, y.2.1 7 0 9, ?_⟩
    · rw [if_neg (show ¬ nI (tkK b T e) = 2 from fun z => q ((nI_eq (b := 2) (by omega) (by decide)).mp z))]
    · rw [if_neg (show ¬ nI (min 3 (tkK b T e)) = 2 from fun z => q (by have := (nI_eq (b := 2) (by omega) (by decide)).mp z; omega)), badN]
      rfl
/-- what comes of an item -/
def IR (b : Nat → Nat) (T d e : Nat) (x0 y0 : HP) (cx : Option (Int32 × HP)) (cy : Option HP) : Prop := (∃ x' y' N' n' m' l' e', cx = some (1, x') ∧ cy = some y' ∧ HX x0 x' ∧ HY y0 y' ∧ JS b T N' n' m' d l' e' x' y' ∧ e < e') ∨ (∃ x' y' st, cx = some (0, x') ∧ cy = some y' ∧ HX x0 x' ∧ HY y0 y' ∧ JB T st x' y')
theorem tkE_up {e : Nat} (he : e ≤ T) : e ≤ tkE b T e := Nat.le_trans (tkS_ge (b := b) he).1 (tkE_ge (b := b) he).1
theorem addh_c (hW : WF N n m d l) (hL : LC x 1 n m N) (hn : n < 8) (x0 x1 x2 x3 : Int32) : ∃ hc, f_X1_addHandle 1 x0 x1 x2 x3 x = some (nI n, hc) ∧ FB 1 x hc ∧ LC hc 1 (n + 1) m (addhN N n x0 x1 x2 x3) := by
  obtain ⟨hc, a1, -, -, a4⟩ := addHandle_c (by decide) hW hL hn x0 x1 x2 x3
  refine ⟨hc, a1, ?_, a4⟩
  have e3 : x.1.1 1 1 3 = nI n := hL.2.2.1.trans hW.2.2.2.2.2.2.1
  unfold f_X1_addHandle at a1
  rw [rI_1, e3, ix8 hn, Option.bind_some] at a1
  have a2 := congrArg Prod.snd (Option.some.inj a1)
  dsimp only at a2
  rw [← a2]
  exact ((((((FB.w0 x hn _ _).trans (FB.w0 _ hn _ _)).trans (FB.w0 _ hn _ _)).trans (FB.w0 _ hn _ _)).trans (FB.w0 _ hn _ _)).trans (FB.w0 _ hn _ _)).trans (FB.w1 _ _ _)
theorem addm_c (hW : WF N n m d l) (hL : LC x 1 n m N) (hm : m < 6) (x0 : Int32) : ∃ hc, f_X1_addMember 1 x0 x = some (nI m, hc) ∧ FB 1 x hc ∧ LC hc 1 n (m + 1) (addmN N m x0) := by
  obtain ⟨hc, a1, -, -, a4⟩ := addMember_c (by decide) hW hL hm x0
  refine ⟨hc, a1, ?_, a4⟩
  have e3 : x.1.1 1 1 5 = nI m := hL.2.2.2.1.trans hW.2.2.2.2.2.2.2.1
  have eq1 : h_rI (h_wI x 2 (6 * 1 + m) 0 x0) 1 1 5 = nI m := by
    simp only [wI_2, rI_1, up_c (show ¬ 1 = 2 by decide)]
    exact e3
  unfold f_X1_addMember at a1
  rw [rI_1, e3, ix6 hm, Option.bind_some, eq1, ix6 hm, Option.bind_some] at a1
  have a2 := congrArg Prod.snd (Option.some.inj a1)
  dsimp only at a2
  rw [← a2]
  exact ((FB.w2 x hm _ _).trans (FB.w2 _ hm _ _)).trans (FB.w1 _ _ _)
theorem addh_r (hW : WF (rv y) n m d l) (hn : n < 8) (x0 x1 x2 x3 : Int32) : ∃ h2, f_X7_addHandle x0 x1 x2 x3 y = some h2 ∧ FR 0 y h2 ∧ rv h2 = addhN (rv y) n x0 x1 x2 x3 := by
  obtain ⟨h2, a1, -, -, a4⟩ := addHandle_r hW hn x0 x1 x2 x3
  refine ⟨h2, a1, ?_, a4⟩
  have e2 : rv y 2 = nI n := hW.2.2.2.2.2.2.1
  unfold f_X7_addHandle at a1
  rw [ix64_2, Option.bind_some, rv_2, e2, puts0 hn, Option.bind_some, puts1 hn, Option.bind_some, puts2 hn, Option.bind_some, puts3 hn, Option.bind_some, puts4 hn, Option.bind_some, puts5 hn, Option.bind_some, Option.bind_some, Option.bind_some] at a1
  have a2 := Option.some.inj a1
  rw [← a2]
  exact ((((((FR.w0 y _ _).trans (FR.w0 _ _ _)).trans (FR.w0 _ _ _)).trans (FR.w0 _ _ _)).trans (FR.w0 _ _ _)).trans (FR.w0 _ _ _)).trans (FR.w0 _ _ _)
theorem addm_r (hW : WF (rv y) n m d l) (hm : m < 6) (x0 : Int32) : ∃ h2, f_X7_addMember x0 y = some h2 ∧ FR 0 y h2 ∧ rv h2 = addmN (rv y) m x0 := by
  obtain ⟨h2, a1, -, -, a4⟩ := addMember_r hW hm x0
  refine ⟨h2, a1, ?_, a4⟩
  have e2 : rv y 3 = nI m := hW.2.2.2.2.2.2.2.1
  unfold f_X7_addMember at a1
  rw [ix64_3, Option.bind_some, rv_3, e2, show (52 + (2 * nI m)) + (1 : Int32) = nI (52 + 2 * m + 1) from imb m 1, imb0, ix_nI (show 52 + 2 * m + 0 < 64 by omega) (by decide), Option.bind_some, ix_nI (show 52 + 2 * m + 1 < 64 by omega) (by decide), Option.bind_some, Option.bind_some, Option.bind_some] at a1
  have a2 := Option.some.inj a1
  rw [← a2]
  exact ((FR.w0 y _ _).trans (FR.w0 _ _ _)).trans (FR.w0 _ _ _)
/-- the library grew on both sides -/
theorem JS.lib {x' y' : HP} {N' : Nat → Int32} {n' m' l' : Nat} (hJ : JS b T N n m d l e x y) (hF : FB 1 x x') (hR : FR 0 y y') (hL : LC x' 1 n' m' N') (eN : rv y' = N') (hW : WF N' n' m' d l') : JS b T N' n' m' d l' e x' y' := by
  obtain ⟨j1, j2, j3, j4, j5, j6, j7, j8, j9⟩ := hJ
  have h5 : ∀ k, x'.1.1 5 0 k = x.1.1 5 0 k := fun k => hF.2.2 5 0 k (by omega) (by omega) (by omega)
  have h7 : ∀ k, y'.2.1 7 0 k = y.2.1 7 0 k := fun k => hR.2.2 7 0 k (by omega)
  refine ⟨⟨(hF.2.2 4 0 1 (by omega) (by omega) (by omega)).trans j1.1, fun k hk => (hF.2.2 11 0 k (by omega) (by omega) (by omega)).trans (j1.2 k hk)⟩, ⟨(h7 4).trans j2.1, fun k hk => (hR.2.2 13 3 k (by omega)).trans (j2.2 k hk)⟩, ?_, ?_, (h7 10).trans j5, hL, eN, hW, j9⟩
  · unfold CT at *
    rw [h5, h5, h5, h5]
    exact j3
  · unfold RT at *
    rw [h7, h7, h7, h7, hR.2.1]
    exact j4
end ITEMS
