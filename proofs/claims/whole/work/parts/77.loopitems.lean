/-! PURE: items, one behind another -/
def sOf (k : Nat) : Nat := if k = 0 then 11 else 5 + k
section LITEMS
variable {b : Nat → Nat} {T : Nat} {N : Nat → Int32} {n m d l e : Nat} {x y : HP}
theorem nameOf_c {k : Nat} (hk : k < 6) (h : HP) : f_X5_nameOf (nI k) h = some (sOf k, h) := by
  unfold f_X5_nameOf
  match k, hk with
  | 0, _ => rfl
  | 1, _ => rfl
  | 2, _ => rfl
  | 3, _ => rfl
  | 4, _ => rfl
  | 5, _ => rfl
theorem sOf_lt {k : Nat} (hk : k < 6) : sOf k < 12 := by
  unfold sOf
  split <;> omega
theorem named_c (hT : T ≤ 120) (hb : ∀ k, b k < 256) (hJ : JS b T N n m d l e x y) : ∀ (c f k : Nat), k + c = 6 → c < f → g_X5_namedKind_2 f (nI k) x = some (farK (fun k => isW b T e (sOf k)) c k, x)
  | 0, f, k, h1, h2 => by
    obtain ⟨f, rfl⟩ : ∃ z, f = z + 1 := ⟨f - 1, by omega⟩
    have : k = 6 := by omega
    subst this
    rw [g_X5_namedKind_2, if_pos (by decide)]
    rfl
  | c + 1, f, k, h1, h2 => by
    obtain ⟨f, rfl⟩ : ∃ z, f = z + 1 := ⟨f - 1, by omega⟩
    have hk : k < 6 := by omega
    rw [g_X5_namedKind_2, if_neg (show ¬ (6 : Int32) ≤ nI k from nI_le_i (n := 6) (by omega) (by decide) hk), nameOf_c hk, Option.bind_some]
    dsimp only
    rw [(hJ.words hT hb (sOf_lt hk)).1, Option.bind_some, b2i_c, nI_1]
    show _ = some ((if isW b T e (sOf k) = true then nI k else farK (fun k => isW b T e (sOf k)) c (k + 1)), x)
    cases isW b T e (sOf k) with
    | true => rw [if_pos rfl, if_pos rfl]
    | false =>
      rw [if_neg (by decide), if_neg (by decide)]
      exact named_c hT hb hJ c f (k + 1) (by omega) (by omega)
theorem kindHere_r (hT : T ≤ 120) (hb : ∀ k, b k < 256) (hJ : JS b T N n m d l e x y) : f_X7_kindHere y = some (farK (fun k => isW b T e (sOf k)) 6 0, y) := by
  have w0 : f_X7_isWord 115601504 y = some (b2i (isW b T e 11), y) := (hJ.words (c := 11) hT hb (by decide)).2
  have w1 : f_X7_isWord 1418437 y = some (b2i (isW b T e 6), y) := (hJ.words (c := 6) hT hb (by decide)).2
  have w2 : f_X7_isWord 50684 y = some (b2i (isW b T e 7), y) := (hJ.words (c := 7) hT hb (by decide)).2
  have w3 : f_X7_isWord 365666 y = some (b2i (isW b T e 8), y) := (hJ.words (c := 8) hT hb (by decide)).2
  have w4 : f_X7_isWord 227126 y = some (b2i (isW b T e 9), y) := (hJ.words (c := 9) hT hb (by decide)).2
  have w5 : f_X7_isWord 6411644 y = some (b2i (isW b T e 10), y) := (hJ.words (c := 10) hT hb (by decide)).2
  unfold f_X7_kindHere
  rw [w0, Option.bind_some, w1, Option.bind_some, w2, Option.bind_some, w3, Option.bind_some, w4, Option.bind_some, w5, Option.bind_some, b2i_c, b2i_c, b2i_c, b2i_c, b2i_c, b2i_c]
  show _ = some ((if isW b T e 11 = true then nI 0 else if isW b T e 6 = true then nI 1 else if isW b T e 7 = true then nI 2 else if isW b T e 8 = true then nI 3 else if isW b T e 9 = true then nI 4 else if isW b T e 10 = true then nI 5 else -1), y)
  cases isW b T e 11 with
  | true => rfl
  | false =>
    cases isW b T e 6 with
    | true => rfl
    | false =>
      cases isW b T e 7 with
      | true => rfl
      | false =>
        cases isW b T e 8 with
        | true => rfl
        | false =>
          cases isW b T e 9 with
          | true => rfl
          | false =>
            cases isW b T e 10 with
            | true => rfl
            | false => rfl
theorem isW_K {c : Nat} (h : isW b T e c = true) : ¬ tkK b T e = 0 := by
  unfold isW at h
  have := (of_decide_eq_true h).1
  omega
theorem IR.map {cx : Option (Int32 × HP)} {cy : Option HP} (h : IR b T d e x y cx cy) : IR b T d e x y (cx.bind (fun q => some (q.1 &&& 1, q.2))) (cy.bind (fun q => some q)) := by
  rcases h with ⟨x', y', N', n', m', l', e', e1, e2, h3⟩ | ⟨x', y', st, e1, e2, h3⟩
  · rw [e1, e2]
    exact Or.inl ⟨x', y', N', n', m', l', e', by rw [Option.bind_some, show (1 : Int32) &&& 1 = 1 by decide], rfl, h3⟩
  · rw [e1, e2]
    exact Or.inr ⟨x', y', st, by rw [Option.bind_some, show (0 : Int32) &&& 1 = 0 by decide], rfl, h3⟩
theorem item_J (hT : T ≤ 120) (hb : ∀ k, b k < 256) (hJ : JS b T N n m d l e x y) : IR b T d e x y (f_X5_takeItem x) (f_X7_wantItem y) := by
  have nk : f_X5_namedKind x = some (farK (fun k => isW b T e (sOf k)) 6 0, x) := named_c hT hb hJ 6 am_fu 0 (by omega) (fu_lt (by decide))
  have kh := kindHere_r hT hb hJ
  unfold f_X5_takeItem f_X7_wantItem
  rw [nk, kh, Option.bind_some, Option.bind_some]
  dsimp only
  rcases farK_or (q := fun k => isW b T e (sOf k)) 6 0 with ⟨z, -⟩ | ⟨K, -, hK, hw, -, z⟩
  · rw [z, if_pos rfl, if_pos (show (-1 : Int32) < 0 by decide)]
    have w0 := hJ.words (c := 0) hT hb (by decide)
    have w0' : f_X7_isWord 189450486 y = some (b2i (isW b T e 0), y) := w0.2
    rw [w0.1, w0', Option.bind_some, Option.bind_some]
    dsimp only
    rw [b2i_c, b2i_c]
    cases q : isW b T e 0 with
    | true =>
      rw [if_pos rfl, if_pos rfl]
      exact (member_J hT hb (isW_K q) hJ).map
    | false =>
      rw [if_neg (by decide), if_neg (by decide)]
      have w1 := hJ.words (c := 1) hT hb (by decide)
      have w1' : f_X7_isWord 247172 y = some (b2i (isW b T e 1), y) := w1.2
      unfold f_X5_takeWord
      rw [w1.1, w1', Option.bind_some, Option.bind_some]
      dsimp only
      rw [b2i_c, b2i_c]
      cases q1 : isW b T e 1 with
      | false =>
        rw [if_neg (by decide), if_neg (by decide), Option.bind_some, if_pos rfl]
        exact IR.bad rfl rfl (HX.rfl' x) (HY.bad y 0) hJ.bad
      | true =>
        obtain ⟨x1, y1, s1, s2, s3, s4, s5⟩ := hJ.step hT hb
        have j9 := hJ.2.2.2.2.2.2.2.2
        have hE := (tkE_ge (b := b) j9).2.2 (isW_K q1)
        have hS := (tkS_ge (b := b) j9).1
        have hup2 := tkE_up (b := b) (T := T) s5.2.2.2.2.2.2.2.2
        rw [if_pos rfl, if_pos rfl, s1, s2, Option.bind_some, Option.bind_some, Option.bind_some, if_neg (show ¬ (1 : Int32) = 0 by decide)]
        unfold f_X5_takeLoan
        rcases s5.num (B := 30) hT hb (by decide) with ⟨v, x2, y2, hv, u1, u2, u3, u4, u5⟩ | ⟨u1, v, u2⟩
        · have u1' : f_X5_takeNumber 30 x1 = some (nI v, x2) := u1
          have u2' : f_X7_wantNumber 0 30 y1 = some (nI v, y2) := u2
          obtain ⟨j1, j2, j3, j4, j5, j6, j7, j8, j9⟩ := id u5
          dsimp only
          rw [u1', u2', Option.bind_some, Option.bind_some]
          dsimp only
          rw [if_neg (nI_m1 (by omega)), Option.bind_some, if_neg (show ¬ (1 : Int32) = 0 by decide), rI_7, j5, if_neg (show ¬ (1 : Int32) = 0 by decide), ix64_1, Option.bind_some]
          refine Or.inl ⟨h_wI x2 1 1 1 (nI v), h_wI y2 13 0 1 (nI v), upn N 1 (nI v), n, m, v, tkE b T (tkE b T e), rfl, rfl, (s3.trans u3).trans (FB.w1 (a := 1) x2 1 (nI v)).x, (s4.trans u4).trans (FR.w0 y2 1 (nI v)).y, ?_, by omega⟩
          exact u5.lib (FB.w1 (a := 1) x2 1 (nI v)) (FR.w0 y2 1 (nI v)) (lc_w1 j6 (by omega)) (by rw [rv_w, j7]) (j8.loans hv)
        · have u1' : f_X5_takeNumber 30 x1 = some (-1, x1) := u1
          have u2' : f_X7_wantNumber 0 30 y1 = some (v, h_wI y1 7 0 10 0) := u2
          dsimp only
          rw [u1', u2', Option.bind_some, Option.bind_some]
          dsimp only
          rw [if_pos rfl, Option.bind_some, if_pos rfl, rI_7, w7s, if_pos rfl, ix64_1, Option.bind_some, Option.bind_some]
          have hB := s5.bad
          refine IR.bad rfl rfl s3 ((s4.trans (HY.bad _ _)).trans (FR.w0 _ 1 _).y) (st := tkS b T (tkE b T e)) ⟨hB.1, ?_, ?_⟩
          · rw [(FR.w0 (h_wI y1 7 0 10 0) 1 _).2.2 7 0 6 (by omega)]
            exact hB.2.1
          · rw [(FR.w0 (h_wI y1 7 0 10 0) 1 _).2.2 7 0 10 (by omega)]
            exact hB.2.2
  · rw [z, if_neg (nI_m1 (by omega)), if_neg (nI_pos (by omega)), kh, z, Option.bind_some]
    exact (handle_J hT hb (by omega) (isW_K hw) hJ).map
/-- the class stands at a token, the reference ahead of it -/
def JP (b : Nat → Nat) (T : Nat) (N : Nat → Int32) (n m d l e : Nat) (x y : HP) : Prop := TP b T x ∧ TQ b T y ∧ CT b T e x ∧ y.2.1 7 0 7 = nI e ∧ y.2.1 7 0 10 = 1 ∧ LC x 1 n m N ∧ rv y = N ∧ WF N n m d l ∧ e ≤ T
theorem JP.step (hT : T ≤ 120) (hb : ∀ k, b k < 256) (hJ : JP b T N n m d l e x y) : ∃ y', f_X7_advance y = some y' ∧ HY y y' ∧ JS b T N n m d l e x y' := by
  obtain ⟨j1, j2, j3, j4, j5, j6, j7, j8, j9⟩ := hJ
  obtain ⟨y', b1, b2, b3⟩ := step_r hT hb j9 j2 j4
  exact ⟨y', b1, b2.y, j1, j2.f7 b2, j3, b3, (b2.2.1 7 0 10 (by omega)).trans j5, j6, (rv_f7 b2).trans j7, j8, j9⟩
/-- what comes of the text -/
def PR (d : Nat) (T : Nat) (x0 y0 : HP) (cx cy : Option (Int32 × HP)) : Prop := ∃ x' y', HX x0 x' ∧ HY y0 y' ∧ ((∃ K N' n' m' l', K ≤ 100 ∧ cx = some (nI K, x') ∧ cy = g_X7_house_91 (nI K) 1 y' ∧ LC x' 1 n' m' N' ∧ rv y' = N' ∧ WF N' n' m' d l') ∨ (∃ K st, st ≤ T ∧ cx = some (-1 - nI st, x') ∧ cy = g_X7_house_91 K 0 y' ∧ y'.2.1 7 0 6 = nI st))
theorem cl3 {x : Nat} : cl x = 3 ↔ x = 59 := by
  unfold cl
  constructor
  · intro h
    repeat' split at h
    all_goals omega
  · intro h
    rw [if_neg (by omega), if_neg (by omega), if_pos h]
theorem loop_J (hT : T ≤ 120) (hb : ∀ k, b k < 256) : ∀ (c f k e n m l : Nat) (N : Nat → Int32) (x y : HP), k + c = 61 → c + 1 < f → 2 * k ≤ e → JP b T N n m d l e x y → PR d T x y (g_X5_parse_11 f (nI (k + 1)) x) (g_X7_house_23 f (nI k) 1 y)
  | 0, f, k, e, n, m, l, N, x, y, h1, h2, h3, hJ => by
    have := hJ.2.2.2.2.2.2.2.2
    omega
  | c + 1, f, k, e, n, m, l, N, x, y, h1, h2, h3, hJ => by
    obtain ⟨f, rfl⟩ : ∃ z, f = z + 1 + 1 := ⟨f - 2, by omega⟩
    obtain ⟨y1, a1, a2, a3⟩ := hJ.step hT hb
    have hit := item_J hT hb a3
    have stop : ∀ (K : Int32) (z : HP), g_X7_house_23 (f + 1) K 0 z = if h_rI z 7 0 10 = (0 : Int32) then (g_X7_house_91 K 0 z) else (if h_rI z 7 0 5 = (0 : Int32) then (g_X7_house_91 K 1 z) else (g_X7_house_91 K 0 z)) := fun K z => by
      rw [g_X7_house_23, if_pos rfl]
    rw [g_X5_parse_11, if_neg (show ¬ (120 : Int32) < nI (k + 1) from fun z => by have := (nI_ltI (a := 120) (by decide) (by omega)).mp z; omega), g_X7_house_23, if_neg (show ¬ (1 : Int32) = 0 by decide), a1, Option.bind_some, nI_1]
    rcases hit with ⟨x', y', N', n', m', l', e', r1, r2, r3, r4, r5, r6⟩ | ⟨x', y', st, r1, r2, r3, r4, r5⟩
    · obtain ⟨j1, j2, j3, j4, j5, j6, j7, j8, j9⟩ := id r5
      have hk := tkK_le (b := b) (T := T) e'
      have hS := tkS_ge (b := b) j9
      have hE := tkE_ge (b := b) j9
      rw [r1, r2, Option.bind_some, Option.bind_some]
      dsimp only
      rw [if_neg (show ¬ (1 : Int32) = 0 by decide), rI_5, j3.1, rI_7, j5, if_neg (show ¬ (1 : Int32) = 0 by decide), rI_7, j4.1]
      by_cases k3 : 3 ≤ tkK b T e'
      · rw [if_neg (show ¬ nI (tkK b T e') = 0 from nI_ne0 (by omega) (by omega)), if_pos (show nI (min 3 (tkK b T e')) = 3 by rw [show min 3 (tkK b T e') = 3 by omega]; rfl), rI_7, j4.2.2.2.2.2 k3]
        have hbs := hb (tkS b T e')
        have hcl : tkK b T e' = cl (b (tkS b T e')) := by
          have : tkS b T e' < T := tkK_lt (by omega)
          show (if tkS b T e' < T then cl (b (tkS b T e')) else 0) = _
          rw [if_pos this]
        by_cases k33 : tkK b T e' = 3
        · have h59 : b (tkS b T e') = 59 := cl3.mp (hcl.symm.trans k33)
          rw [if_pos (show nI (tkK b T e') = 3 by rw [k33]; rfl), if_pos (show nI (b (tkS b T e')) = 59 by rw [h59]; rfl), nI_1]
          obtain ⟨x2, c1, c2, c3⟩ := step_c hT hb hE.2.1 j1 j3.2.2.1
          have hE1 := hE.2.2 (by omega)
          have hJ2 : JP b T N' n' m' d l' (tkE b T e') x2 y' := ⟨j1.f5 c2, j2, c3, j4.2.2.1, j5, j6.f5 c2, j7, j8, hE.2.1⟩
          rw [c1, Option.bind_some]
          obtain ⟨x3, y3, p1, p2, p3⟩ := loop_J hT hb c (f + 1) (k + 1) (tkE b T e') n' m' l' N' x2 y' (by omega) (by omega) (by omega) hJ2
          exact ⟨x3, y3, (r3.trans c2.x).trans p1, (a2.trans r4).trans p2, p3⟩
        · have h59 : ¬ b (tkS b T e') = 59 := fun z => k33 (hcl.trans (cl3.mpr z))
          rw [if_neg (show ¬ nI (tkK b T e') = 3 from fun z => k33 ((nI_eq (b := 3) (by omega) (by decide)).mp z)), if_neg (show ¬ nI (b (tkS b T e')) = 59 from fun z => h59 ((nI_eq (b := 59) (by omega) (by decide)).mp z)), stop, rI_7, j5, if_neg (show ¬ (1 : Int32) = 0 by decide), rI_7, j4.1, if_neg (show ¬ nI (min 3 (tkK b T e')) = 0 from nI_ne0 (by omega) (by omega)), rI_5, j3.2.1]
          exact ⟨x', y', r3, a2.trans r4, Or.inr ⟨_, tkS b T e', hS.2, rfl, rfl, j4.2.1⟩⟩
      · rw [if_neg (show ¬ nI (min 3 (tkK b T e')) = 3 from fun z => k3 (by have := (nI_eq (b := 3) (by omega) (by decide)).mp z; omega)), stop, rI_7, j5, if_neg (show ¬ (1 : Int32) = 0 by decide), rI_7, j4.1]
        by_cases k0 : tkK b T e' = 0
        · rw [k0, if_pos (show nI 0 = 0 from rfl), if_pos (show nI (min 3 0) = 0 from rfl)]
          exact ⟨x', y', r3, a2.trans r4, Or.inl ⟨k + 1, N', n', m', l', by omega, rfl, by rw [nI_1], j6, j7, j8⟩⟩
        · rw [if_neg (show ¬ nI (tkK b T e') = 0 from nI_ne0 (by omega) (by omega)), if_neg (show ¬ nI (min 3 (tkK b T e')) = 0 from nI_ne0 (by omega) (by omega)), if_neg (show ¬ nI (tkK b T e') = 3 from fun z => k3 (by have := (nI_eq (b := 3) (by omega) (by decide)).mp z; omega)), rI_5, j3.2.1]
          exact ⟨x', y', r3, a2.trans r4, Or.inr ⟨_, tkS b T e', hS.2, rfl, rfl, j4.2.1⟩⟩
    · rw [r1, r2, Option.bind_some, Option.bind_some]
      dsimp only
      rw [if_pos rfl, rI_7, r5.2.2, if_pos rfl, stop, rI_7, r5.2.2, if_pos rfl, rI_5, r5.1.1]
      exact ⟨x', y', r3, a2.trans r4, Or.inr ⟨_, st, r5.1.2, rfl, rfl, r5.2.1⟩⟩
end LITEMS
