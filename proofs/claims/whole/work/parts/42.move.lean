/-! PURE: copies of a library -/
theorem upx {α : Type} {f : Nat → Nat → Nat → α} {c j k c' j' k' : Nat} {v : α} (h : ¬ (c' = c ∧ j' = j)) : am_up f c j k v c' j' k' = f c' j' k' := by
  unfold am_up
  rw [if_neg (fun q => h ⟨q.1, q.2.1⟩)]
theorem fo_inv {α : Type} {step : Nat → α → α} {P : Nat → α → Prop} {N : Nat} (hs : ∀ i a, i < N → P i a → P (i + 1) (step i a)) : ∀ (k i : Nat) (a : α), i + k ≤ N → P i a → P (i + k) (fo step k i a)
  | 0, _, _, _, h => h
  | k + 1, i, a, hk, h => by
    rw [show i + (k + 1) = i + 1 + k by omega]
    exact fo_inv hs k (i + 1) (step i a) (by omega) (hs i a (by omega) h)
/-- a reference's row r was written, and nothing else -/
def FR (r : Nat) (h g : HP) : Prop := g.1 = h.1 ∧ g.2.2 = h.2.2 ∧ ∀ c j k, ¬ (c = 13 ∧ j = r) → g.2.1 c j k = h.2.1 c j k
theorem FR.w {r : Nat} {h g : HP} (hF : FR r h g) (k : Nat) (v : Int32) : FR r h (h_wI g 13 r k v) := by
  obtain ⟨a, b, c⟩ := hF
  rw [wI_13]
  exact ⟨a, b, fun c' j' k' hq => (upx hq).trans (c c' j' k' hq)⟩
theorem FR.row {r : Nat} {h g : HP} (hF : FR r h g) {c j : Nat} (hq : ¬ (c = 13 ∧ j = r)) : g.2.1 c j = h.2.1 c j := funext (fun k => hF.2.2 c j k hq)
theorem mv_to {r : Nat} (hr : r = 2 ∨ r = 6) (h : HP) : ∃ g, f_X7_moveAll 1 r h = some g ∧ FR r h g ∧ ∀ k, k < 64 → g.2.1 13 r k = rv h k := by
  have hl : am_len 13 r = 64 := by rcases hr with rfl | rfl <;> decide
  have hr0 : ¬ 0 = r := by omega
  refine ⟨fo (fun i g => h_wI g 13 r i (h_rI g 13 0 i)) 64 0 h, ?_, ?_⟩
  · unfold f_X7_moveAll
    refine lp_up (g := fun n g x => g_X7_moveAll_2 n 1 r x g) (N := 64) (fin := fun g => some g) (fun n i g hi => ?_) (fun n g => ?_) 64 am_fu 0 h (by decide) (fu_lt (by decide))
    · show g_X7_moveAll_2 (n + 1) 1 r (nI i) g = _
      rw [g_X7_moveAll_2, if_neg (show ¬ (64 : Int32) ≤ nI i from nI_le_i (n := 64) (by omega) (by decide) hi), if_neg (show ¬ (1 : Int32) = 0 by decide), hl, ix_nI hi (by decide), nI_1]
      rfl
    · rfl
  · have := fo_inv (step := fun i g => h_wI g 13 r i (h_rI g 13 0 i)) (P := fun t g => FR r h g ∧ ∀ k, k < t → g.2.1 13 r k = rv h k) (N := 64) (fun i g hi hP => ?_) 64 0 h (by decide) ⟨⟨rfl, rfl, fun _ _ _ _ => rfl⟩, fun k hk => absurd hk (by omega)⟩
    · exact this
    · obtain ⟨p1, p2⟩ := hP
      refine ⟨p1.w i _, fun k hk => ?_⟩
      rw [wI_13]
      show am_up g.2.1 13 r i (g.2.1 13 0 i) 13 r k = _
      by_cases e : k = i
      · subst e
        rw [up_s, p1.2.2 13 0 k (by omega)]
        rfl
      · rw [up_k e]
        exact p2 k (by omega)
theorem mv_from {r : Nat} (hr : r = 2 ∨ r = 6) (h : HP) : ∃ g, f_X7_moveAll 0 r h = some g ∧ FR 0 h g ∧ ∀ k, k < 64 → rv g k = h.2.1 13 r k := by
  have hl : am_len 13 r = 64 := by rcases hr with rfl | rfl <;> decide
  have hr0 : ¬ r = 0 := by omega
  refine ⟨fo (fun i g => h_wI g 13 0 i (h_rI g 13 r i)) 64 0 h, ?_, ?_⟩
  · unfold f_X7_moveAll
    refine lp_up (g := fun n g x => g_X7_moveAll_2 n 0 r x g) (N := 64) (fin := fun g => some g) (fun n i g hi => ?_) (fun n g => ?_) 64 am_fu 0 h (by decide) (fu_lt (by decide))
    · show g_X7_moveAll_2 (n + 1) 0 r (nI i) g = _
      rw [g_X7_moveAll_2, if_neg (show ¬ (64 : Int32) ≤ nI i from nI_le_i (n := 64) (by omega) (by decide) hi), if_pos rfl, hl, ix_nI hi (by decide), nI_1]
      rfl
    · rfl
  · have := fo_inv (step := fun i g => h_wI g 13 0 i (h_rI g 13 r i)) (P := fun t g => FR 0 h g ∧ ∀ k, k < t → rv g k = h.2.1 13 r k) (N := 64) (fun i g hi hP => ?_) 64 0 h (by decide) ⟨⟨rfl, rfl, fun _ _ _ _ => rfl⟩, fun k hk => absurd hk (by omega)⟩
    · exact this
    · obtain ⟨p1, p2⟩ := hP
      refine ⟨p1.w i _, fun k hk => ?_⟩
      rw [rv_w]
      by_cases e : k = i
      · subst e
        rw [upn_s]
        exact p1.2.2 13 r k (by omega)
      · rw [upn_n e]
        exact p2 k (by omega)
/-- the class' library a was written, and nothing else -/
def FB (a : Nat) (h g : HP) : Prop := g.2 = h.2 ∧ g.1.2 = h.1.2 ∧ ∀ c j k, ¬ (c = 1 ∧ j = a) → ¬ (c = 0 ∧ 8 * a ≤ j ∧ j < 8 * a + 8) → ¬ (c = 2 ∧ 6 * a ≤ j ∧ j < 6 * a + 6) → g.1.1 c j k = h.1.1 c j k
theorem FB.rfl' (a : Nat) (h : HP) : FB a h h := ⟨rfl, rfl, fun _ _ _ _ _ _ => rfl⟩
theorem FB.trans {a : Nat} {x y z : HP} (p : FB a x y) (q : FB a y z) : FB a x z := ⟨q.1.trans p.1, q.2.1.trans p.2.1, fun c j k h1 h2 h3 => (q.2.2 c j k h1 h2 h3).trans (p.2.2 c j k h1 h2 h3)⟩
theorem FB.w0 {a i : Nat} (h : HP) (hi : i < 8) (k : Nat) (v : Int32) : FB a h (h_wI h 0 (8 * a + i) k v) := by
  rw [wI_0]
  exact ⟨rfl, rfl, fun c j k' _ h2 _ => upx (fun z => h2 ⟨z.1, by omega, by omega⟩)⟩
theorem FB.w1 {a : Nat} (h : HP) (k : Nat) (v : Int32) : FB a h (h_wI h 1 a k v) := by
  rw [wI_1]
  exact ⟨rfl, rfl, fun c j k' h1 _ _ => upx h1⟩
theorem FB.w2 {a i : Nat} (h : HP) (hi : i < 6) (k : Nat) (v : Int32) : FB a h (h_wI h 2 (6 * a + i) k v) := by
  rw [wI_2]
  exact ⟨rfl, rfl, fun c j k' _ _ h3 => upx (fun z => h3 ⟨z.1, by omega, by omega⟩)⟩
theorem cp0 {x y : Nat} (hxy : ¬ y = x) (h : HP) : ∃ g, f_X0_becomes x y h = some g ∧ g.2 = h.2 ∧ g.1.2 = h.1.2 ∧ (∀ c j k, ¬ (c = 0 ∧ j = x) → g.1.1 c j k = h.1.1 c j k) ∧ ∀ k, k < 6 → g.1.1 0 x k = h.1.1 0 y k := by
  have q : ¬ (0 = 0 ∧ y = x) := fun z => hxy z.2
  refine ⟨_, rfl, rfl, rfl, fun c j k hc => ?_, fun k hk => ?_⟩
  · simp only [wI_0]
    rw [upx hc, upx hc, upx hc, upx hc, upx hc, upx hc]
  · simp only [wI_0, rI_0]
    match k, hk with
    | 0, _ => rw [up_k (by decide), up_k (by decide), up_k (by decide), up_k (by decide), up_k (by decide), up_s]
    | 1, _ => rw [up_k (by decide), up_k (by decide), up_k (by decide), up_k (by decide), up_s, upx q]
    | 2, _ => rw [up_k (by decide), up_k (by decide), up_k (by decide), up_s, upx q, upx q]
    | 3, _ => rw [up_k (by decide), up_k (by decide), up_s, upx q, upx q, upx q]
    | 4, _ => rw [up_k (by decide), up_s, upx q, upx q, upx q, upx q]
    | 5, _ => rw [up_s, upx q, upx q, upx q, upx q, upx q]
theorem cp2 {x y : Nat} (hxy : ¬ y = x) (h : HP) : ∃ g, f_X2_becomes x y h = some g ∧ g.2 = h.2 ∧ g.1.2 = h.1.2 ∧ (∀ c j k, ¬ (c = 2 ∧ j = x) → g.1.1 c j k = h.1.1 c j k) ∧ ∀ k, k < 2 → g.1.1 2 x k = h.1.1 2 y k := by
  have q : ¬ (2 = 2 ∧ y = x) := fun z => hxy z.2
  refine ⟨_, rfl, rfl, rfl, fun c j k hc => ?_, fun k hk => ?_⟩
  · simp only [wI_2]
    rw [upx hc, upx hc]
  · simp only [wI_2, rI_2]
    match k, hk with
    | 0, _ => rw [up_k (by decide), up_s]
    | 1, _ => rw [up_s, upx q]
theorem cpM {a b m : Nat} (hab : ¬ b = a) (hm : m ≤ 6) : ∀ (k f t : Nat) (h : HP), t + k = m → k < f → h.1.1 1 a 5 = nI m → ∃ g, g_X1_becomes_65 f a b (nI t) h = some g ∧ FB a h g ∧ (∀ j k, g.1.1 0 j k = h.1.1 0 j k) ∧ (∀ j k, g.1.1 1 j k = h.1.1 1 j k) ∧ (∀ i, i < t → ∀ k, g.1.1 2 (6 * a + i) k = h.1.1 2 (6 * a + i) k) ∧ ∀ i, t ≤ i → i < m → ∀ k, k < 2 → g.1.1 2 (6 * a + i) k = h.1.1 2 (6 * b + i) k
  | 0, f, t, h, h1, h2, e => by
    obtain ⟨f, rfl⟩ : ∃ z, f = z + 1 := ⟨f - 1, by omega⟩
    refine ⟨h, ?_, FB.rfl' a h, fun _ _ => rfl, fun _ _ => rfl, fun _ _ _ => rfl, fun i h3 h4 => absurd h4 (by omega)⟩
    rw [g_X1_becomes_65, rI_1, e, show t = m by omega, if_pos nI_le_n]
  | k + 1, f, t, h, h1, h2, e => by
    obtain ⟨f, rfl⟩ : ∃ z, f = z + 1 := ⟨f - 1, by omega⟩
    obtain ⟨g1, c1, c2, c3, c4, c5⟩ := cp2 (x := 6 * a + t) (y := 6 * b + t) (by omega) h
    have e' : g1.1.1 1 a 5 = nI m := by rw [c4 1 a 5 (by omega)]; exact e
    obtain ⟨g, d1, d2, d3, d4, d5, d6⟩ := cpM hab hm k f (t + 1) g1 (by omega) (by omega) e'
    have hF : FB a h g1 := ⟨c2, c3, fun c j k _ _ z3 => c4 c j k (fun z => z3 ⟨z.1, by omega, by omega⟩)⟩
    refine ⟨g, ?_, hF.trans d2, fun j k => (d3 j k).trans (c4 0 j k (by omega)), fun j k => (d4 j k).trans (c4 1 j k (by omega)), fun i hi k => (d5 i (by omega) k).trans (c4 2 (6 * a + i) k (by omega)), fun i h3 h4 k hk => ?_⟩
    · rw [g_X1_becomes_65, rI_1, e, if_neg (nI_le_i (by omega) (by omega) (show t < m by omega)), ix6 (show t < 6 by omega), nI_1]
      show (f_X2_becomes (6 * a + t) (6 * b + t) h).bind _ = _
      rw [c1]
      exact d1
    · by_cases q : i = t
      · subst q
        rw [d5 i (by omega) k, c5 k hk]
      · rw [d6 i (by omega) h4 k hk, c4 2 (6 * b + i) k (by omega)]
theorem cpH {a b n m : Nat} (hab : ¬ b = a) (hn : n ≤ 8) (hm : m ≤ 6) : ∀ (k f t : Nat) (h : HP), t + k = n → k < f → h.1.1 1 a 3 = nI n → h.1.1 1 b 5 = nI m → ∃ g, g_X1_becomes_26 f a b (nI t) h = some g ∧ FB a h g ∧ g.1.1 1 a 5 = nI m ∧ (∀ k, ¬ k = 5 → g.1.1 1 a k = h.1.1 1 a k) ∧ (∀ i, i < t → ∀ k, g.1.1 0 (8 * a + i) k = h.1.1 0 (8 * a + i) k) ∧ (∀ i, t ≤ i → i < n → ∀ k, k < 6 → g.1.1 0 (8 * a + i) k = h.1.1 0 (8 * b + i) k) ∧ ∀ i, i < m → ∀ k, k < 2 → g.1.1 2 (6 * a + i) k = h.1.1 2 (6 * b + i) k
  | 0, f, t, h, h1, h2, e, e5 => by
    obtain ⟨f, rfl⟩ : ∃ z, f = z + 1 := ⟨f - 1, by omega⟩
    obtain ⟨g, d1, d2, d3, d4, d5, d6⟩ := cpM (a := a) (b := b) (m := m) hab hm m am_fu 0 (h_wI h 1 a 5 (nI m)) (by omega) (fu_lt (by omega)) (by rw [wI_1]; exact up_s)
    refine ⟨g, ?_, (FB.w1 h 5 (nI m)).trans d2, ?_, fun k hk => ?_, fun i hi k => ?_, fun i h3 h4 => absurd h4 (by omega), fun i hi k hk => ?_⟩
    · rw [g_X1_becomes_26, rI_1, e, show t = n by omega, if_pos nI_le_n, rI_1, e5]
      exact d1
    · rw [d4, wI_1]
      exact up_s
    · rw [d4, wI_1]
      exact up_k hk
    · rw [d3, wI_1]
      dsimp only
      rw [up_c (by decide)]
    · rw [d6 i (by omega) hi k hk, wI_1]
      dsimp only
      rw [up_c (by decide)]
  | k + 1, f, t, h, h1, h2, e, e5 => by
    obtain ⟨f, rfl⟩ : ∃ z, f = z + 1 := ⟨f - 1, by omega⟩
    obtain ⟨g1, c1, c2, c3, c4, c5⟩ := cp0 (x := 8 * a + t) (y := 8 * b + t) (by omega) h
    have e' : g1.1.1 1 a 3 = nI n := by rw [c4 1 a 3 (by omega)]; exact e
    have e5' : g1.1.1 1 b 5 = nI m := by rw [c4 1 b 5 (by omega)]; exact e5
    obtain ⟨g, d1, d2, d3, d4, d5, d6, d7⟩ := cpH hab hn hm k f (t + 1) g1 (by omega) (by omega) e' e5'
    have hF : FB a h g1 := ⟨c2, c3, fun c j k _ z2 _ => c4 c j k (fun z => z2 ⟨z.1, by omega, by omega⟩)⟩
    refine ⟨g, ?_, hF.trans d2, d3, fun k hk => (d4 k hk).trans (c4 1 a k (by omega)), fun i hi k => (d5 i (by omega) k).trans (c4 0 (8 * a + i) k (by omega)), fun i h3 h4 k hk => ?_, fun i hi k hk => (d7 i hi k hk).trans (c4 2 (6 * b + i) k (by omega))⟩
    · rw [g_X1_becomes_26, rI_1, e, if_neg (nI_le_i (by omega) (by omega) (show t < n by omega)), ix8 (show t < 8 by omega), nI_1]
      show (f_X0_becomes (8 * a + t) (8 * b + t) h).bind _ = _
      rw [c1]
      exact d1
    · by_cases q : i = t
      · subst q
        rw [d5 i (by omega) k, c5 k hk]
      · rw [d6 i (by omega) h4 k hk, c4 0 (8 * b + i) k (by omega)]
/-- library a becomes library b -/
theorem becomes_c {h : HP} {a b n m d l : Nat} {N : Nat → Int32} (hab : ¬ b = a) (hW : WF N n m d l) (hL : LC h b n m N) : ∃ g, f_X1_becomes a b h = some g ∧ FB a h g ∧ LC g a n m N := by
  obtain ⟨w1, w2, w3, w4, w5, w6, w7, w8, w9, w10⟩ := hW
  obtain ⟨l1, l2, l3, l4, l5, l6⟩ := hL
  have hq : ¬ (1 = 1 ∧ b = a) := fun z => hab z.2
  have r1 : h_rI (h_wI h 1 a 0 (N 0)) 1 b 1 = N 1 := by rw [wI_1, rI_1]; exact (upx hq).trans l2
  have r2 : h_rI (h_wI (h_wI h 1 a 0 (N 0)) 1 a 1 (N 1)) 1 b 3 = N 2 := by rw [wI_1, wI_1, rI_1]; exact (upx hq).trans ((upx hq).trans l3)
  obtain ⟨g, d1, d2, d3, d4, d5, d6, d7⟩ := cpH (a := a) (b := b) (n := n) (m := m) hab w1 w2 n am_fu 0 (h_wI (h_wI (h_wI h 1 a 0 (N 0)) 1 a 1 (N 1)) 1 a 3 (N 2)) (by omega) (fu_lt (by omega)) (by rw [wI_1]; exact up_s.trans w7) (by simp only [wI_1]; rw [upx hq, upx hq, upx hq, l4, w8])
  refine ⟨g, ?_, (((FB.w1 h 0 (N 0)).trans (FB.w1 _ 1 (N 1))).trans (FB.w1 _ 3 (N 2))).trans d2, ?_, ?_, ?_, ?_, fun i hi k hk => ?_, fun i hi k hk => ?_⟩
  · unfold f_X1_becomes
    rw [rI_1, l1, r1, r2]
    exact d1
  · rw [d4 0 (by decide)]
    simp only [wI_1]
    rw [up_k (by decide), up_k (by decide), up_s]
  · rw [d4 1 (by decide)]
    simp only [wI_1]
    rw [up_k (by decide), up_s]
  · rw [d4 3 (by decide)]
    simp only [wI_1]
    rw [up_s]
  · rw [d3, w8]
  · rw [d6 i (by omega) hi k hk]
    simp only [wI_1]
    rw [upx (by omega), upx (by omega), upx (by omega)]
    exact l5 i hi k hk
  · rw [d7 i hi k hk]
    simp only [wI_1]
    rw [upx (by omega), upx (by omega), upx (by omega)]
    exact l6 i hi k hk
