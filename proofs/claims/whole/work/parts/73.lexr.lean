/-! PURE: how the reference takes the tokens -/
def hsh (b : Nat → Nat) (s : Nat) : Nat → Nat
  | 0 => 0
  | n + 1 => 27 * hsh b s n + (b (s + n) - 96)
def wdN (b : Nat → Nat) (s n : Nat) : Int64 := if n ≤ 12 then lN (hsh b s n) else -1
def nU (b : Nat → Nat) : Nat → Nat → Nat → Nat
  | 0, _, a => a
  | c + 1, i, a => nU b c (i + 1) (if a ≤ 999 then 10 * a + b i - 48 else 10000)
def tkU (b : Nat → Nat) (T e : Nat) : Nat := nU b (tkE b T e - tkS b T e) (tkS b T e) 0
section LEXR
variable {b : Nat → Nat} {T : Nat}
def TQ (b : Nat → Nat) (T : Nat) (y : HP) : Prop := y.2.1 7 0 4 = nI T ∧ ∀ k, k < T → y.2.1 13 3 k = nI (b k)
def F7 (y y' : HP) : Prop := y'.1 = y.1 ∧ (∀ c j k, ¬ (c = 7 ∧ j = 0 ∧ 5 ≤ k ∧ k ≤ 9) → y'.2.1 c j k = y.2.1 c j k) ∧ ∀ c j k, ¬ c = 7 → y'.2.2 c j k = y.2.2 c j k
theorem F7.rfl' (x : HP) : F7 x x := ⟨rfl, fun _ _ _ _ => rfl, fun _ _ _ _ => rfl⟩
theorem F7.trans {x y z : HP} (p : F7 x y) (q : F7 y z) : F7 x z := ⟨q.1.trans p.1, fun c j k h => (q.2.1 c j k h).trans (p.2.1 c j k h), fun c j k h => (q.2.2 c j k h).trans (p.2.2 c j k h)⟩
theorem F7.w (x : HP) {k : Nat} (v : Int32) (hk : 5 ≤ k ∧ k ≤ 9) : F7 x (h_wI x 7 0 k v) := by
  rw [wI_7]
  refine ⟨rfl, fun c j' k' h => ?_, fun _ _ _ _ => rfl⟩
  show am_up x.2.1 7 0 k v c j' k' = _
  unfold am_up
  rw [if_neg (fun z => h ⟨z.1, z.2.1, by omega, by omega⟩)]
theorem F7.wJ (x : HP) (k : Nat) (v : Int64) : F7 x (h_wJ x 7 0 k v) := by
  rw [wJ_7]
  exact ⟨rfl, fun _ _ _ _ => rfl, fun c j' k' h => upx (fun z => h z.1)⟩
theorem TQ.f7 {x x' : HP} (hT : TQ b T x) (hF : F7 x x') : TQ b T x' := ⟨(hF.2.1 7 0 4 (by omega)).trans hT.1, fun k hk => (hF.2.1 13 3 k (by omega)).trans (hT.2 k hk)⟩
theorem w7s (x : HP) (k : Nat) (v : Int32) : (h_wI x 7 0 k v).2.1 7 0 k = v := by
  rw [wI_7]
  exact up_s
theorem w7n (x : HP) {k k' : Nat} (v : Int32) (h : ¬ k' = k) : (h_wI x 7 0 k v).2.1 7 0 k' = x.2.1 7 0 k' := by
  rw [wI_7]
  exact up_k h
theorem w7j (x : HP) (k : Nat) (v : Int32) : (h_wI x 7 0 k v).2.2 = x.2.2 := rfl
theorem wJ7s (x : HP) (k : Nat) (v : Int64) : (h_wJ x 7 0 k v).2.2 7 0 k = v := by
  rw [wJ_7]
  exact up_s
theorem wJ7i (x : HP) (k : Nat) (v : Int64) : (h_wJ x 7 0 k v).2.1 = x.2.1 := rfl
def byI (b : Nat → Nat) (T k : Nat) : Int32 := if k < T then nI (b k) else -1
theorem byteAt_r {y : HP} {k : Nat} (hT : T ≤ 120) (hk : k ≤ T) (hQ : TQ b T y) : f_X7_byteAt (nI k) y = some (byI b T k, y) := by
  unfold f_X7_byteAt byI
  rw [rI_7, hQ.1]
  by_cases q : k < T
  · rw [if_neg (nI_le_i (by omega) (by omega) q), ix120 (by omega), if_pos q, Option.bind_some, rI_13, hQ.2 k q]
  · rw [if_pos ((nI_leI (by omega) (by omega)).mpr (by omega)), if_neg q]
theorem isLet_r (v : Int32) (y : HP) : f_X7_isLetter v y = some (b2i (inR v 97 122), y) := by
  unfold f_X7_isLetter
  rw [in_ok]
  show some (b2i _ &&& 1, y) = _
  rw [b2i_and]
theorem isDig_r (v : Int32) (y : HP) : f_X7_isDigit v y = some (b2i (inR v 48 57), y) := by
  unfold f_X7_isDigit
  rw [in_ok]
  show some (b2i _ &&& 1, y) = _
  rw [b2i_and]
theorem inR_nI {x lo hi : Nat} (hx : x < 2 ^ 31) (hl : lo < 2 ^ 31) (hh : hi < 2 ^ 31) : inR (nI x) (nI lo) (nI hi) = decide (lo ≤ x ∧ x ≤ hi) := by
  unfold inR
  by_cases q : x < lo
  · rw [decide_eq_true ((nI_ltI hx hl).mpr q), decide_eq_false (show ¬ (lo ≤ x ∧ x ≤ hi) by omega)]
    rfl
  · rw [decide_eq_false (fun z => q ((nI_ltI hx hl).mp z))]
    by_cases q2 : hi < x
    · rw [decide_eq_true ((nI_ltI hh hx).mpr q2), decide_eq_false (show ¬ (lo ≤ x ∧ x ≤ hi) by omega)]
      rfl
    · rw [decide_eq_false (fun z => q2 ((nI_ltI hh hx).mp z)), decide_eq_true (show lo ≤ x ∧ x ≤ hi by omega)]
      rfl
theorem let_by {k : Nat} (hb : ∀ k, b k < 256) : inR (byI b T k) 97 122 = decide (k < T ∧ cl (b k) = 1) := by
  have hbk := hb k
  unfold byI
  by_cases q : k < T
  · rw [if_pos q, show (97 : Int32) = nI 97 from rfl, show (122 : Int32) = nI 122 from rfl, inR_nI (by omega) (by decide) (by decide)]
    by_cases z : cl (b k) = 1
    · rw [decide_eq_true (cl1 z), decide_eq_true ⟨q, z⟩]
    · have z2 : ¬ (97 ≤ b k ∧ b k ≤ 122) := fun w => by
        apply z
        unfold cl
        rw [if_pos w]
      rw [decide_eq_false z2, decide_eq_false (show ¬ (k < T ∧ cl (b k) = 1) from fun w => z w.2)]
  · rw [if_neg q, decide_eq_false (fun w => q w.1)]
    decide
theorem dig_by {k : Nat} (hb : ∀ k, b k < 256) : inR (byI b T k) 48 57 = decide (k < T ∧ cl (b k) = 2) := by
  have hbk := hb k
  unfold byI
  by_cases q : k < T
  · rw [if_pos q, show (48 : Int32) = nI 48 from rfl, show (57 : Int32) = nI 57 from rfl, inR_nI (by omega) (by decide) (by decide)]
    by_cases z : cl (b k) = 2
    · rw [decide_eq_true (cl2 z), decide_eq_true ⟨q, z⟩]
    · have z2 : ¬ (48 ≤ b k ∧ b k ≤ 57) := fun w => by
        apply z
        unfold cl
        rw [if_neg (by omega), if_pos w]
      rw [decide_eq_false z2, decide_eq_false (show ¬ (k < T ∧ cl (b k) = 2) from fun w => z w.2)]
  · rw [if_neg q, decide_eq_false (fun w => q w.1)]
    decide
def srt (b : Nat → Nat) (T k : Nat) : Nat := if k < T then min 3 (cl (b k)) else 0
theorem adv_r {s : Nat} {y : HP} (hT : T ≤ 120) (hb : ∀ k, b k < 256) (hs : s ≤ T) (hQ : TQ b T y) : (f_X7_byteAt (nI s) y).bind (fun q_2 => if (0 : Int32) ≤ q_2.1 then ((f_X7_isLetter q_2.1 q_2.2).bind (fun q_3 => if q_3.1 = (0 : Int32) then ((f_X7_isDigit q_2.1 q_3.2).bind (fun q_4 => if q_4.1 = (0 : Int32) then (g_X7_advance_83 q_2.1 3 q_4.2) else (g_X7_advance_83 q_2.1 2 q_4.2))) else (g_X7_advance_83 q_2.1 1 q_3.2))) else (g_X7_advance_83 q_2.1 0 q_2.2)) = g_X7_advance_83 (byI b T s) (nI (srt b T s)) y := by
  have hbk := hb s
  have hcl := cl_le (b s)
  rw [byteAt_r hT hs hQ, Option.bind_some]
  dsimp only
  rw [isLet_r, Option.bind_some, isDig_r, Option.bind_some, b2i_c, b2i_c, let_by hb, dig_by hb]
  unfold srt
  by_cases q : s < T
  · rw [if_pos (show (0 : Int32) ≤ byI b T s by unfold byI; rw [if_pos q]; exact nI_pos' (by omega)), if_pos q]
    by_cases z : cl (b s) = 1
    · rw [if_pos (decide_eq_true ⟨q, z⟩), z]
      rfl
    · rw [if_neg (by rw [decide_eq_false (fun w => z w.2)]; decide)]
      by_cases z2 : cl (b s) = 2
      · rw [if_pos (decide_eq_true ⟨q, z2⟩), z2]
        rfl
      · rw [if_neg (by rw [decide_eq_false (fun w => z2 w.2)]; decide), show min 3 (cl (b s)) = 3 by omega]
        rfl
  · rw [if_neg (show ¬ (0 : Int32) ≤ byI b T s by unfold byI; rw [if_neg q]; decide), if_neg q]
    rfl
theorem skip_r (hT : T ≤ 120) (hb : ∀ k, b k < 256) : ∀ (c f k : Nat) (y : HP), k + c = T → c < f → TQ b T y → y.2.1 7 0 6 = nI k → ∃ y', F7 y y' ∧ y'.2.1 7 0 6 = nI (skp b c k) ∧ g_X7_advance_8 f y = g_X7_advance_83 (byI b T (skp b c k)) (nI (srt b T (skp b c k))) (h_wI y' 7 0 7 (nI (skp b c k)))
  | 0, f, k, y, h1, h2, hQ, e => by
    obtain ⟨f, rfl⟩ : ∃ z, f = z + 1 := ⟨f - 1, by omega⟩
    refine ⟨y, F7.rfl' y, e, ?_⟩
    have e6 : h_rI (h_wI y 7 0 7 (nI k)) 7 0 6 = nI k := by rw [rI_7, w7n _ _ (by decide), e]
    rw [g_X7_advance_8, rI_7, e, byteAt_r hT (by omega) hQ, Option.bind_some]
    dsimp only
    rw [if_neg (show ¬ byI b T k = 32 by unfold byI; rw [if_neg (by omega)]; decide), show h_rI y 7 0 6 = nI k from e, e6]
    exact adv_r hT hb (by omega) (hQ.f7 (F7.w y _ (by omega)))
  | c + 1, f, k, y, h1, h2, hQ, e => by
    obtain ⟨f, rfl⟩ : ∃ z, f = z + 1 := ⟨f - 1, by omega⟩
    have hk : k < T := by omega
    have hbk := hb k
    have e6 : h_rI (h_wI y 7 0 7 (nI k)) 7 0 6 = nI k := by rw [rI_7, w7n _ _ (by decide), e]
    rw [g_X7_advance_8, rI_7, e, byteAt_r hT (by omega) hQ, Option.bind_some]
    dsimp only
    rw [rI_7, e, nI_1]
    unfold skp
    by_cases q : b k = 32
    · obtain ⟨y', a1, a2, a3⟩ := skip_r hT hb c f (k + 1) (h_wI y 7 0 6 (nI (k + 1))) (by omega) (by omega) (hQ.f7 (F7.w y _ (by omega))) (w7s y 6 _)
      refine ⟨y', (F7.w y _ (by omega)).trans a1, ?_, ?_⟩
      · rw [if_pos q]; exact a2
      · rw [if_pos (show byI b T k = 32 by unfold byI; rw [if_pos hk, q]; rfl), if_pos q, a3]
    · refine ⟨y, F7.rfl' y, ?_, ?_⟩
      · rw [if_neg q]; exact e
      · rw [if_neg (show ¬ byI b T k = 32 by unfold byI; rw [if_pos hk]; exact fun z => q ((nI_eq (b := 32) (by omega) (by decide)).mp z)), if_neg q, e6]
        exact adv_r hT hb (by omega) (hQ.f7 (F7.w y _ (by omega)))
theorem wd_step {s n : Nat} (h : 97 ≤ b (s + n) ∧ b (s + n) ≤ 122) (hn : ¬ 12 ≤ n) : ((27 * wdN b s n) + (Int32.toInt64 (nI (b (s + n))))) - 96 = wdN b s (n + 1) := by
  unfold wdN
  rw [if_pos (by omega), if_pos (by omega), nI_l (by omega), show (27 : Int64) = lN 27 from rfl, show (96 : Int64) = lN 96 from rfl, lN_mul, lN_add, lN_sub (by omega)]
  show lN (27 * hsh b s n + b (s + n) - 96) = lN (27 * hsh b s n + (b (s + n) - 96))
  rw [show 27 * hsh b s n + b (s + n) - 96 = 27 * hsh b s n + (b (s + n) - 96) by omega]
theorem letters_r {s : Nat} (hT : T ≤ 120) (hb : ∀ k, b k < 256) : ∀ (c f n : Nat) (y : HP), s + n + c = T → c < f → TQ b T y → y.2.1 7 0 5 = 1 → y.2.1 7 0 6 = nI s → y.2.1 7 0 7 = nI (s + n) → y.2.2 7 0 8 = wdN b s n → ∃ y', F7 y y' ∧ y'.2.1 7 0 5 = 1 ∧ y'.2.1 7 0 6 = nI s ∧ y'.2.1 7 0 7 = nI (rnn b 1 c (s + n)) ∧ y'.2.2 7 0 8 = wdN b s (rnn b 1 c (s + n) - s) ∧ g_X7_advance_126 f y = g_X7_advance_207 am_fu y'
  | 0, f, n, y, h1, h2, hQ, e5, e6, e7, e8 => by
    obtain ⟨f, rfl⟩ : ∃ z, f = z + 1 := ⟨f - 1, by omega⟩
    refine ⟨y, F7.rfl' y, e5, e6, e7, ?_, ?_⟩
    · show _ = wdN b s (s + n - s)
      rw [show s + n - s = n by omega, e8]
    · rw [g_X7_advance_126, rI_7, e5, if_pos rfl, rI_7, e7, byteAt_r hT (by omega) hQ, Option.bind_some]
      dsimp only
      rw [isLet_r, Option.bind_some, b2i_c, let_by hb, if_neg (by rw [decide_eq_false (fun w => absurd w.1 (by omega))]; decide)]
  | c + 1, f, n, y, h1, h2, hQ, e5, e6, e7, e8 => by
    obtain ⟨f, rfl⟩ : ∃ z, f = z + 1 := ⟨f - 1, by omega⟩
    have hk : s + n < T := by omega
    have hbk := hb (s + n)
    rw [g_X7_advance_126, rI_7, e5, if_pos rfl, rI_7, e7, byteAt_r hT (by omega) hQ, Option.bind_some]
    dsimp only
    rw [isLet_r, Option.bind_some, b2i_c, let_by hb]
    dsimp only
    unfold rnn
    by_cases z : cl (b (s + n)) = 1
    · rw [if_pos z, if_pos (decide_eq_true ⟨hk, z⟩), rI_7, e7, rI_7, e6, pk_sub (by omega), show s + n - s = n by omega, byteAt_r hT (by omega) hQ, Option.bind_some]
      dsimp only
      have eby : byI b T (s + n) = nI (b (s + n)) := by unfold byI; rw [if_pos hk]
      have hgo : ∀ w, w = wdN b s (n + 1) → ∃ y', F7 y y' ∧ y'.2.1 7 0 5 = 1 ∧ y'.2.1 7 0 6 = nI s ∧ y'.2.1 7 0 7 = nI (rnn b 1 c (s + n + 1)) ∧ y'.2.2 7 0 8 = wdN b s (rnn b 1 c (s + n + 1) - s) ∧ g_X7_advance_191 (g_X7_advance_126 f) w y = g_X7_advance_207 am_fu y' := fun w hw => by
        have e7' : h_rI (h_wJ y 7 0 8 w) 7 0 7 + 1 = nI (s + (n + 1)) := by
          rw [rI_7, wJ7i, e7, nI_1]
          rfl
        have hF : F7 y (h_wI (h_wJ y 7 0 8 w) 7 0 7 (nI (s + (n + 1)))) := (F7.wJ y 8 w).trans (F7.w _ _ (by omega))
        obtain ⟨y', a1, a2, a3, a4, a5, a6⟩ := letters_r (s := s) hT hb c f (n + 1) (h_wI (h_wJ y 7 0 8 w) 7 0 7 (nI (s + (n + 1)))) (by omega) (by omega) (hQ.f7 hF) (by rw [w7n _ _ (by decide), wJ7i, e5]) (by rw [w7n _ _ (by decide), wJ7i, e6]) (w7s _ _ _) (by rw [w7j, wJ7s, hw])
        refine ⟨y', hF.trans a1, a2, a3, a4, a5, ?_⟩
        unfold g_X7_advance_191
        rw [e7', a6]
      by_cases q : 12 ≤ n
      · rw [if_pos (show (12 : Int32) ≤ nI n from (nI_leI (a := 12) (by decide) (by omega)).mpr q)]
        refine hgo (-1) ?_
        unfold wdN
        rw [if_neg (by omega)]
      · rw [if_neg (show ¬ (12 : Int32) ≤ nI n from fun y => q ((nI_leI (a := 12) (by decide) (by omega)).mp y)), rJ_7, e8, eby]
        exact hgo _ (wd_step (cl1 z) q)
    · rw [if_neg z, if_neg (by rw [decide_eq_false (fun w => z w.2)]; decide)]
      refine ⟨y, F7.rfl' y, e5, e6, e7, ?_, rfl⟩
      rw [show s + n - s = n by omega, e8]
theorem digits_r (hT : T ≤ 120) (hb : ∀ k, b k < 256) : ∀ (c f k a : Nat) (y : HP), k + c = T → c < f → a ≤ 10000 → TQ b T y → y.2.1 7 0 5 = 2 → y.2.1 7 0 7 = nI k → y.2.1 7 0 9 = nI a → ∃ y', F7 y y' ∧ y'.2.1 7 0 5 = 2 ∧ y'.2.1 7 0 6 = y.2.1 7 0 6 ∧ y'.2.1 7 0 7 = nI (rnn b 2 c k) ∧ y'.2.1 7 0 9 = nI (nU b (rnn b 2 c k - k) k a) ∧ g_X7_advance_207 f y = some y'
  | 0, f, k, a, y, h1, h2, ha, hQ, e5, e7, e9 => by
    obtain ⟨f, rfl⟩ : ∃ z, f = z + 1 := ⟨f - 1, by omega⟩
    refine ⟨y, F7.rfl' y, e5, rfl, e7, ?_, ?_⟩
    · show _ = nI (nU b (k - k) k a)
      rw [show k - k = 0 by omega]
      exact e9
    · rw [g_X7_advance_207, rI_7, e5, if_pos rfl, rI_7, e7, byteAt_r hT (by omega) hQ, Option.bind_some]
      dsimp only
      rw [isDig_r, Option.bind_some, b2i_c, dig_by hb, if_neg (by rw [decide_eq_false (fun w => absurd w.1 (by omega))]; decide)]
  | c + 1, f, k, a, y, h1, h2, ha, hQ, e5, e7, e9 => by
    obtain ⟨f, rfl⟩ : ∃ z, f = z + 1 := ⟨f - 1, by omega⟩
    have hk : k < T := by omega
    have hbk := hb k
    rw [g_X7_advance_207, rI_7, e5, if_pos rfl, rI_7, e7, byteAt_r hT (by omega) hQ, Option.bind_some]
    dsimp only
    rw [isDig_r, Option.bind_some, b2i_c, dig_by hb]
    dsimp only
    unfold rnn
    by_cases z : cl (b k) = 2
    · have hz := cl2 z
      rw [if_pos z, if_pos (decide_eq_true ⟨hk, z⟩), rI_7, e9, rI_7, e7, byteAt_r hT (by omega) hQ, Option.bind_some]
      dsimp only
      have eby : byI b T k = nI (b k) := by unfold byI; rw [if_pos hk]
      have hge := rnn_ge (b := b) (q := 2) c (k + 1)
      have hgo : ∀ w, w = nI (if a ≤ 999 then 10 * a + b k - 48 else 10000) → ∃ y', F7 y y' ∧ y'.2.1 7 0 5 = 2 ∧ y'.2.1 7 0 6 = y.2.1 7 0 6 ∧ y'.2.1 7 0 7 = nI (rnn b 2 c (k + 1)) ∧ y'.2.1 7 0 9 = nI (nU b (rnn b 2 c (k + 1) - k) k a) ∧ g_X7_advance_265 (g_X7_advance_207 f) w y = some y' := fun w hw => by
        have e7' : h_rI (h_wI y 7 0 9 w) 7 0 7 + 1 = nI (k + 1) := by
          rw [rI_7, w7n _ _ (by decide), e7, nI_1]
        have hF : F7 y (h_wI (h_wI y 7 0 9 w) 7 0 7 (nI (k + 1))) := (F7.w y _ (by omega)).trans (F7.w _ _ (by omega))
        obtain ⟨y', a1, a2, a3, a4, a5, a6⟩ := digits_r hT hb c f (k + 1) (if a ≤ 999 then 10 * a + b k - 48 else 10000) (h_wI (h_wI y 7 0 9 w) 7 0 7 (nI (k + 1))) (by omega) (by omega) (by split <;> omega) (hQ.f7 hF) (by rw [w7n _ _ (by decide), w7n _ _ (by decide), e5]) (w7s _ _ _) (by rw [w7n _ _ (by decide), w7s, hw])
        refine ⟨y', hF.trans a1, a2, ?_, a4, ?_, ?_⟩
        · rw [a3, w7n _ _ (by decide), w7n _ _ (by decide)]
        · rw [a5, show rnn b 2 c (k + 1) - k = rnn b 2 c (k + 1) - (k + 1) + 1 by omega]
          rfl
        · unfold g_X7_advance_265
          rw [e7', a6]
      by_cases q : a ≤ 999
      · rw [if_pos (show nI a ≤ (999 : Int32) from (nI_leI (b := 999) (by omega) (by decide)).mpr q), eby]
        refine hgo _ ?_
        rw [if_pos q, show (10 : Int32) = nI 10 from rfl, pk_mul, nI_add, show (48 : Int32) = nI 48 from rfl, pk_sub (by omega)]
      · rw [if_neg (show ¬ nI a ≤ (999 : Int32) from fun y => q ((nI_leI (b := 999) (by omega) (by decide)).mp y))]
        refine hgo _ ?_
        rw [if_neg q]
        rfl
    · rw [if_neg z, if_neg (by rw [decide_eq_false (fun w => z w.2)]; decide)]
      refine ⟨y, F7.rfl' y, e5, rfl, e7, ?_, rfl⟩
      rw [show k - k = 0 by omega]
      exact e9
/-- the reference stands at the token behind e -/
def RT (b : Nat → Nat) (T e : Nat) (y : HP) : Prop := y.2.1 7 0 5 = nI (min 3 (tkK b T e)) ∧ y.2.1 7 0 6 = nI (tkS b T e) ∧ y.2.1 7 0 7 = nI (tkE b T e) ∧ (tkK b T e = 1 → y.2.2 7 0 8 = wdN b (tkS b T e) (tkE b T e - tkS b T e)) ∧ (tkK b T e = 2 → y.2.1 7 0 9 = nI (tkU b T e)) ∧ (3 ≤ tkK b T e → y.2.1 7 0 9 = nI (b (tkS b T e)))
theorem rnn_s {q s : Nat} (h : s < T) (z : cl (b s) = q) : rnn b q (T - s) s = rnn b q (T - (s + 1)) (s + 1) := by
  rw [show T - s = T - (s + 1) + 1 by omega]
  show (if cl (b s) = q then rnn b q (T - (s + 1)) (s + 1) else s) = _
  rw [if_pos z]
theorem step_r {e : Nat} {y : HP} (hT : T ≤ 120) (hb : ∀ k, b k < 256) (he : e ≤ T) (hQ : TQ b T y) (e7 : y.2.1 7 0 7 = nI e) : ∃ y', f_X7_advance y = some y' ∧ F7 y y' ∧ RT b T e y' := by
  obtain ⟨y1, a1, a2, a3⟩ := skip_r hT hb (T - e) am_fu e (h_wI y 7 0 6 (nI e)) (by omega) (fu_lt (by omega)) (hQ.f7 (F7.w y _ (by omega))) (w7s y 6 _)
  have hF1 : F7 y y1 := (F7.w y _ (by omega)).trans a1
  have hS := tkS_ge (b := b) he
  have hE := tkE_ge (b := b) he
  have es : f_X7_advance y = g_X7_advance_83 (byI b T (tkS b T e)) (nI (srt b T (tkS b T e))) (h_wI y1 7 0 7 (nI (tkS b T e))) := by
    unfold f_X7_advance
    rw [rI_7, e7]
    exact a3
  have a2' : y1.2.1 7 0 6 = nI (tkS b T e) := a2
  have hsr : srt b T (tkS b T e) = min 3 (tkK b T e) := by
    unfold srt tkK
    by_cases q : tkS b T e < T
    · rw [if_pos q, if_pos q]
    · rw [if_neg q, if_neg q]
      rfl
  rw [es, hsr]
  have hk4 : tkK b T e ≤ 4 := by
    unfold tkK
    split
    · exact (cl_le _).2
    · omega
  -- what 83 and 105 write
  have go : ∀ (v : Int32), ∃ y2, y2 = h_wI (h_wJ (h_wI (h_wI y1 7 0 7 (nI (tkS b T e))) 7 0 5 (nI (min 3 (tkK b T e)))) 7 0 8 0) 7 0 9 v ∧ F7 y y2 ∧ y2.2.1 7 0 5 = nI (min 3 (tkK b T e)) ∧ y2.2.1 7 0 6 = nI (tkS b T e) ∧ y2.2.1 7 0 7 = nI (tkS b T e) ∧ y2.2.2 7 0 8 = 0 ∧ y2.2.1 7 0 9 = v := fun v => by
    refine ⟨_, rfl, hF1.trans ((F7.w _ _ (by omega)).trans ((F7.w _ _ (by omega)).trans ((F7.wJ _ _ _).trans (F7.w _ _ (by omega))))), ?_, ?_, ?_, ?_, ?_⟩
    · rw [w7n _ _ (by decide), wJ7i, w7s]
    · rw [w7n _ _ (by decide), wJ7i, w7n _ _ (by decide), w7n _ _ (by decide), a2']
    · rw [w7n _ _ (by decide), wJ7i, w7n _ _ (by decide), w7s]
    · rw [w7j, wJ7s]
    · rw [w7s]
  have e5 : h_rI (h_wJ (h_wI (h_wI y1 7 0 7 (nI (tkS b T e))) 7 0 5 (nI (min 3 (tkK b T e)))) 7 0 8 0) 7 0 5 = nI (min 3 (tkK b T e)) := by
    rw [rI_7, wJ7i, w7s]
  unfold g_X7_advance_83
  rw [e5]
  unfold g_X7_advance_105
  by_cases k2 : tkK b T e = 2
  · have hs : tkS b T e < T := tkK_lt (by omega)
    have hc : cl (b (tkS b T e)) = 2 := by rw [← k2]; unfold tkK; rw [if_pos hs]
    obtain ⟨y2, f0, f1, f5, f6, f7, f8, f9⟩ := go 0
    have m3 : nI (min 3 (tkK b T e)) = 2 := by rw [k2]; rfl
    rw [if_pos m3, ← f0, rI_7, f5, m3, if_neg (by decide)]
    rw [m3] at f5
    have hEr : tkE b T e = rnn b 2 (T - tkS b T e) (tkS b T e) := by
      rw [rnn_s hs hc]
      unfold tkE
      rw [if_pos hs, if_pos (Or.inr k2), k2]
    obtain ⟨y3, c1, c2, c3, c4, c5, c6⟩ := digits_r hT hb (T - tkS b T e) am_fu (tkS b T e) 0 y2 (by omega) (fu_lt (by omega)) (by omega) (hQ.f7 f1) f5 f7 f9
    rw [← hEr] at c4 c5
    refine ⟨y3, ?_, f1.trans c1, by rw [c2, m3], c3.trans f6, c4, fun z => absurd z (by omega), fun _ => c5, fun z => absurd z (by omega)⟩
    rw [show am_fu = 999 + 1 from am_fu_eq, g_X7_advance_126, rI_7, f5, if_neg (by decide)]
    exact c6
  · have n2 : ¬ nI (min 3 (tkK b T e)) = 2 := fun z => k2 (by have := (nI_eq (b := 2) (by omega) (by decide)).mp z; omega)
    rw [if_neg n2]
    obtain ⟨y2, f0, f1, f5, f6, f7, f8, f9⟩ := go (byI b T (tkS b T e))
    rw [← f0, rI_7, f5]
    by_cases k3 : 3 ≤ tkK b T e
    · have hs : tkS b T e < T := tkK_lt (by omega)
      have m3 : nI (min 3 (tkK b T e)) = 3 := by rw [show min 3 (tkK b T e) = 3 by omega]; rfl
      have hEr : tkE b T e = tkS b T e + 1 := by unfold tkE; rw [if_pos hs, if_neg (by omega)]
      rw [if_pos m3, rI_7, f7, nI_1, ← hEr]
      have h5 : (h_wI y2 7 0 7 (nI (tkE b T e))).2.1 7 0 5 = 3 := by rw [w7n _ _ (by decide), f5, m3]
      refine ⟨h_wI y2 7 0 7 (nI (tkE b T e)), ?_, f1.trans (F7.w _ _ (by omega)), h5.trans m3.symm, ?_, w7s _ _ _, fun z => absurd z (by omega), fun z => absurd z (by omega), fun _ => ?_⟩
      · rw [show am_fu = 999 + 1 from am_fu_eq, g_X7_advance_126, rI_7, h5, if_neg (by decide), show am_fu = 999 + 1 from am_fu_eq, g_X7_advance_207, rI_7, h5, if_neg (by decide)]
      · rw [w7n _ _ (by decide), f6]
      · rw [w7n _ _ (by decide), f9]
        unfold byI
        rw [if_pos hs]
    · have n3 : ¬ nI (min 3 (tkK b T e)) = 3 := fun z => k3 (by have := (nI_eq (b := 3) (by omega) (by decide)).mp z; omega)
      rw [if_neg n3]
      by_cases k1 : tkK b T e = 1
      · have hs : tkS b T e < T := tkK_lt (by omega)
        have hc : cl (b (tkS b T e)) = 1 := by rw [← k1]; unfold tkK; rw [if_pos hs]
        have m3 : nI (min 3 (tkK b T e)) = 1 := by rw [k1]; rfl
        rw [m3] at f5
        have hEr : tkE b T e = rnn b 1 (T - tkS b T e) (tkS b T e) := by
          rw [rnn_s hs hc]
          unfold tkE
          rw [if_pos hs, if_pos (Or.inl k1), k1]
        obtain ⟨y3, c1, c2, c3, c4, c5, c6⟩ := letters_r (s := tkS b T e) hT hb (T - tkS b T e) am_fu 0 y2 (by omega) (fu_lt (by omega)) (hQ.f7 f1) f5 f6 f7 (f8.trans rfl)
        rw [Nat.add_zero, ← hEr] at c4 c5
        refine ⟨y3, ?_, f1.trans c1, by rw [c2, m3], c3, c4, fun _ => c5, fun z => absurd z (by omega), fun z => absurd z (by omega)⟩
        rw [c6, show am_fu = 999 + 1 from am_fu_eq, g_X7_advance_207, rI_7, c2, if_neg (by decide)]
      · have k0 : tkK b T e = 0 := by omega
        have m3 : nI (min 3 (tkK b T e)) = 0 := by rw [k0]; rfl
        have hns : ¬ tkS b T e < T := fun z => by
          unfold tkK at k0
          rw [if_pos z] at k0
          have := (cl_le (b (tkS b T e))).1
          omega
        have hEr : tkE b T e = tkS b T e := by unfold tkE; rw [if_neg hns]
        refine ⟨y2, ?_, f1, f5, f6, by rw [hEr]; exact f7, fun z => absurd z (by omega), fun z => absurd z (by omega), fun z => absurd z (by omega)⟩
        rw [m3] at f5
        rw [show am_fu = 999 + 1 from am_fu_eq, g_X7_advance_126, rI_7, f5, if_neg (by decide), show am_fu = 999 + 1 from am_fu_eq, g_X7_advance_207, rI_7, f5, if_neg (by decide)]
end LEXR
