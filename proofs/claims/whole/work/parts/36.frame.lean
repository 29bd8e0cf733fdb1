/-! PURE: what a write changes -/
def upn (N : Nat → Int32) (p : Nat) (v : Int32) : Nat → Int32 := fun q => if q = p then v else N q
section FRAME
variable {N : Nat → Int32} {v : Int32}
theorem upn_s {p : Nat} : upn N p v p = v := if_pos rfl
theorem upn_n {p q : Nat} (h : ¬ q = p) : upn N p v q = N q := if_neg h
theorem rv_w (h : HP) (p : Nat) (v : Int32) : rv (h_wI h 13 0 p v) = upn (rv h) p v := by
  funext q
  show am_up h.2.1 13 0 p v 13 0 q = _
  by_cases e : q = p
  · subst e
    rw [up_s, upn_s]
  · rw [up_k e, upn_n e]
    rfl
theorem hd_s {i k : Nat} : hd (upn N (4 + 6 * i + k) v) i k = v := upn_s
theorem hd_n {i k i' k' : Nat} (hk : k < 6) (hk' : k' < 6) (h : ¬ (i' = i ∧ k' = k)) : hd (upn N (4 + 6 * i + k) v) i' k' = hd N i' k' := upn_n (by omega)
theorem mb_hd {i k i' k' : Nat} (hi : i < 8) (hk : k < 6) : mb (upn N (4 + 6 * i + k) v) i' k' = mb N i' k' := upn_n (by omega)
theorem mb_s {i k : Nat} : mb (upn N (52 + 2 * i + k) v) i k = v := upn_s
theorem mb_n {i k i' k' : Nat} (hk : k < 2) (hk' : k' < 2) (h : ¬ (i' = i ∧ k' = k)) : mb (upn N (52 + 2 * i + k) v) i' k' = mb N i' k' := upn_n (by omega)
theorem hd_mb {i k i' k' : Nat} (hi : i' < 8) (hk : k' < 6) : hd (upn N (52 + 2 * i + k) v) i' k' = hd N i' k' := upn_n (by omega)
theorem hd_lo {p i k : Nat} (h : p < 4) : hd (upn N p v) i k = hd N i k := upn_n (by omega)
theorem mb_lo {p i k : Nat} (h : p < 4) : mb (upn N p v) i k = mb N i k := upn_n (by omega)
variable {h : HP} {j n m d l : Nat}
theorem lc_w0 {i k : Nat} (hL : LC h j n m N) (hn : n ≤ 8) (hi : i < n) (hk : k < 6) : LC (h_wI h 0 (8 * j + i) k v) j n m (upn N (4 + 6 * i + k) v) := by
  obtain ⟨a, b, c, e, f, g⟩ := hL
  rw [wI_0]
  refine ⟨?_, ?_, ?_, ?_, fun i' hi' k' hk' => ?_, fun i' hi' k' hk' => ?_⟩
  · show am_up h.1.1 0 (8 * j + i) k v 1 j 0 = _
    rw [up_c (by decide), upn_n (by omega), a]
  · show am_up h.1.1 0 (8 * j + i) k v 1 j 1 = _
    rw [up_c (by decide), upn_n (by omega), b]
  · show am_up h.1.1 0 (8 * j + i) k v 1 j 3 = _
    rw [up_c (by decide), upn_n (by omega), c]
  · show am_up h.1.1 0 (8 * j + i) k v 1 j 5 = _
    rw [up_c (by decide), upn_n (by omega), e]
  · show am_up h.1.1 0 (8 * j + i) k v 0 (8 * j + i') k' = _
    by_cases q : i' = i
    · subst q
      by_cases q : k' = k
      · subst q
        rw [up_s, hd_s]
      · rw [up_k q, hd_n hk hk' (fun z => q z.2), f i' hi' k' hk']
    · rw [up_j (by omega), hd_n hk hk' (fun z => q z.1), f i' hi' k' hk']
  · show am_up h.1.1 0 (8 * j + i) k v 2 (6 * j + i') k' = _
    rw [up_c (by decide), mb_hd (by omega) hk, g i' hi' k' hk']
theorem lc_w2 {i k : Nat} (hL : LC h j n m N) (hn : n ≤ 8) (hi : i < m) (hk : k < 2) : LC (h_wI h 2 (6 * j + i) k v) j n m (upn N (52 + 2 * i + k) v) := by
  obtain ⟨a, b, c, e, f, g⟩ := hL
  rw [wI_2]
  refine ⟨?_, ?_, ?_, ?_, fun i' hi' k' hk' => ?_, fun i' hi' k' hk' => ?_⟩
  · show am_up h.1.1 2 (6 * j + i) k v 1 j 0 = _
    rw [up_c (by decide), upn_n (by omega), a]
  · show am_up h.1.1 2 (6 * j + i) k v 1 j 1 = _
    rw [up_c (by decide), upn_n (by omega), b]
  · show am_up h.1.1 2 (6 * j + i) k v 1 j 3 = _
    rw [up_c (by decide), upn_n (by omega), c]
  · show am_up h.1.1 2 (6 * j + i) k v 1 j 5 = _
    rw [up_c (by decide), upn_n (by omega), e]
  · show am_up h.1.1 2 (6 * j + i) k v 0 (8 * j + i') k' = _
    rw [up_c (by decide), hd_mb (by omega) hk', f i' hi' k' hk']
  · show am_up h.1.1 2 (6 * j + i) k v 2 (6 * j + i') k' = _
    by_cases q : i' = i
    · subst q
      by_cases q : k' = k
      · subst q
        rw [up_s, mb_s]
      · rw [up_k q, mb_n hk hk' (fun z => q z.2), g i' hi' k' hk']
    · rw [up_j (by omega), mb_n hk hk' (fun z => q z.1), g i' hi' k' hk']
/-- a library's own field k, the row's place p -/
theorem lc_w1 {k p : Nat} (hL : LC h j n m N) (hp : (k = 0 ∧ p = 0) ∨ (k = 1 ∧ p = 1) ∨ (k = 3 ∧ p = 2) ∨ (k = 5 ∧ p = 3)) : LC (h_wI h 1 j k v) j n m (upn N p v) := by
  obtain ⟨a, b, c, e, f, g⟩ := hL
  rw [wI_1]
  have f' : ∀ i', i' < n → ∀ k', k' < 6 → am_up h.1.1 1 j k v 0 (8 * j + i') k' = hd (upn N p v) i' k' := fun i' hi' k' hk' => by
    rw [up_c (by decide), hd_lo (by omega), f i' hi' k' hk']
  have g' : ∀ i', i' < m → ∀ k', k' < 2 → am_up h.1.1 1 j k v 2 (6 * j + i') k' = mb (upn N p v) i' k' := fun i' hi' k' hk' => by
    rw [up_c (by decide), mb_lo (by omega), g i' hi' k' hk']
  have x : ∀ {k' p' : Nat}, h.1.1 1 j k' = N p' → (k' = k ∧ p' = p ∨ ¬ k' = k ∧ ¬ p' = p) → am_up h.1.1 1 j k v 1 j k' = upn N p v p' := by
    intro k' p' e1 e2
    rcases e2 with ⟨rfl, rfl⟩ | ⟨e2, e3⟩
    · rw [up_s, upn_s]
    · rw [up_k e2, upn_n e3, e1]
  exact ⟨x a (by omega), x b (by omega), x c (by omega), x e (by omega), f', g'⟩
theorem lc_addh {x0 x1 x2 x3 x4 x5 : Int32} (hL : LC h j n m N) (hn : n < 8) : LC (h_wI (h_wI (h_wI (h_wI (h_wI (h_wI h 0 (8 * j + n) 0 x0) 0 (8 * j + n) 1 x1) 0 (8 * j + n) 2 x2) 0 (8 * j + n) 3 x3) 0 (8 * j + n) 4 x4) 0 (8 * j + n) 5 x5) j (n + 1) m (upn (upn (upn (upn (upn (upn N (4 + 6 * n + 0) x0) (4 + 6 * n + 1) x1) (4 + 6 * n + 2) x2) (4 + 6 * n + 3) x3) (4 + 6 * n + 4) x4) (4 + 6 * n + 5) x5) := by
  obtain ⟨a, b, c, e, f, g⟩ := hL
  simp only [wI_0]
  refine ⟨?_, ?_, ?_, ?_, fun i' hi' k' hk' => ?_, fun i' hi' k' hk' => ?_⟩
  · simp only [up_c (show ¬ 1 = 0 by decide)]
    iterate 6 rw [upn_n (by omega)]
    exact a
  · simp only [up_c (show ¬ 1 = 0 by decide)]
    iterate 6 rw [upn_n (by omega)]
    exact b
  · simp only [up_c (show ¬ 1 = 0 by decide)]
    iterate 6 rw [upn_n (by omega)]
    exact c
  · simp only [up_c (show ¬ 1 = 0 by decide)]
    iterate 6 rw [upn_n (by omega)]
    exact e
  · by_cases q : i' = n
    · subst q
      dsimp only
      match k', hk' with
      | 0, _ => rw [up_k (by decide), up_k (by decide), up_k (by decide), up_k (by decide), up_k (by decide), up_s, hd_n (by decide) (by decide) (by omega), hd_n (by decide) (by decide) (by omega), hd_n (by decide) (by decide) (by omega), hd_n (by decide) (by decide) (by omega), hd_n (by decide) (by decide) (by omega), hd_s]
      | 1, _ => rw [up_k (by decide), up_k (by decide), up_k (by decide), up_k (by decide), up_s, hd_n (by decide) (by decide) (by omega), hd_n (by decide) (by decide) (by omega), hd_n (by decide) (by decide) (by omega), hd_n (by decide) (by decide) (by omega), hd_s]
      | 2, _ => rw [up_k (by decide), up_k (by decide), up_k (by decide), up_s, hd_n (by decide) (by decide) (by omega), hd_n (by decide) (by decide) (by omega), hd_n (by decide) (by decide) (by omega), hd_s]
      | 3, _ => rw [up_k (by decide), up_k (by decide), up_s, hd_n (by decide) (by decide) (by omega), hd_n (by decide) (by decide) (by omega), hd_s]
      | 4, _ => rw [up_k (by decide), up_s, hd_n (by decide) (by decide) (by omega), hd_s]
      | 5, _ => rw [up_s, hd_s]
    · dsimp only
      have q' : ¬ 8 * j + i' = 8 * j + n := by omega
      rw [up_j q', up_j q', up_j q', up_j q', up_j q', up_j q']
      rw [hd_n (by decide) hk' (by omega), hd_n (by decide) hk' (by omega), hd_n (by decide) hk' (by omega), hd_n (by decide) hk' (by omega), hd_n (by decide) hk' (by omega), hd_n (by decide) hk' (by omega)]
      exact f i' (by omega) k' hk'
  · simp only [up_c (show ¬ 2 = 0 by decide)]
    rw [mb_hd hn (by decide), mb_hd hn (by decide), mb_hd hn (by decide), mb_hd hn (by decide), mb_hd hn (by decide), mb_hd hn (by decide)]
    exact g i' hi' k' hk'
theorem lc_addm {x0 x1 : Int32} (hL : LC h j n m N) (hn : n ≤ 8) : LC (h_wI (h_wI h 2 (6 * j + m) 0 x0) 2 (6 * j + m) 1 x1) j n (m + 1) (upn (upn N (52 + 2 * m + 0) x0) (52 + 2 * m + 1) x1) := by
  obtain ⟨a, b, c, e, f, g⟩ := hL
  simp only [wI_2]
  refine ⟨?_, ?_, ?_, ?_, fun i' hi' k' hk' => ?_, fun i' hi' k' hk' => ?_⟩
  · simp only [up_c (show ¬ 1 = 2 by decide)]
    iterate 2 rw [upn_n (by omega)]
    exact a
  · simp only [up_c (show ¬ 1 = 2 by decide)]
    iterate 2 rw [upn_n (by omega)]
    exact b
  · simp only [up_c (show ¬ 1 = 2 by decide)]
    iterate 2 rw [upn_n (by omega)]
    exact c
  · simp only [up_c (show ¬ 1 = 2 by decide)]
    iterate 2 rw [upn_n (by omega)]
    exact e
  · simp only [up_c (show ¬ 0 = 2 by decide)]
    rw [hd_mb (by omega) hk', hd_mb (by omega) hk']
    exact f i' hi' k' hk'
  · by_cases q : i' = m
    · subst q
      dsimp only
      match k', hk' with
      | 0, _ => rw [up_k (by decide), up_s, mb_n (by decide) (by decide) (by omega), mb_s]
      | 1, _ => rw [up_s, mb_s]
    · dsimp only
      have q' : ¬ 6 * j + i' = 6 * j + m := by omega
      rw [up_j q', up_j q']
      rw [mb_n (by decide) hk' (by omega), mb_n (by decide) hk' (by omega)]
      exact g i' (by omega) k' hk'
/-- well-formed again -/
theorem WF.uh {i k : Nat} (hW : WF N n m d l) (hi : i < n) (hk : k < 6) (h : WFh (upn N (4 + 6 * i + k) v) m d i) : WF (upn N (4 + 6 * i + k) v) n m d l := by
  obtain ⟨w1, w2, w3, w4, w5, w6, w7, w8, w9, w10⟩ := hW
  refine ⟨w1, w2, by rw [upn_n (by omega)]; exact w3, w4, by rw [upn_n (by omega)]; exact w5, w6, by rw [upn_n (by omega)]; exact w7, by rw [upn_n (by omega)]; exact w8, fun i' hi' => ?_, fun i' hi' => ?_⟩
  · by_cases q : i' = i
    · subst q
      exact h
    · have := w9 i' hi'
      unfold WFh at *
      rw [hd_n hk (by decide) (fun z => q z.1), hd_n hk (by decide) (fun z => q z.1), hd_n hk (by decide) (fun z => q z.1), hd_n hk (by decide) (fun z => q z.1), hd_n hk (by decide) (fun z => q z.1), hd_n hk (by decide) (fun z => q z.1)]
      exact this
  · have := w10 i' hi'
    unfold WFm at *
    rw [mb_hd (by omega) hk, mb_hd (by omega) hk]
    exact this
theorem WF.um {i k : Nat} (hW : WF N n m d l) (hi : i < m) (hk : k < 2) (h : WFm (upn N (52 + 2 * i + k) v) i) : WF (upn N (52 + 2 * i + k) v) n m d l := by
  obtain ⟨w1, w2, w3, w4, w5, w6, w7, w8, w9, w10⟩ := hW
  refine ⟨w1, w2, by rw [upn_n (by omega)]; exact w3, w4, by rw [upn_n (by omega)]; exact w5, w6, by rw [upn_n (by omega)]; exact w7, by rw [upn_n (by omega)]; exact w8, fun i' hi' => ?_, fun i' hi' => ?_⟩
  · have := w9 i' hi'
    unfold WFh at *
    simp only [hd_mb (show i' < 8 by omega) (show 0 < 6 by decide), hd_mb (show i' < 8 by omega) (show 1 < 6 by decide), hd_mb (show i' < 8 by omega) (show 2 < 6 by decide), hd_mb (show i' < 8 by omega) (show 3 < 6 by decide), hd_mb (show i' < 8 by omega) (show 4 < 6 by decide), hd_mb (show i' < 8 by omega) (show 5 < 6 by decide)]
    exact this
  · by_cases q : i' = i
    · subst q
      exact h
    · have := w10 i' hi'
      unfold WFm at *
      rw [mb_n hk (by decide) (fun z => q z.1), mb_n hk (by decide) (fun z => q z.1)]
      exact this
/-- all but the library (the first and the tried one) is as it was -/
def Rest (h h' : HP) : Prop := h'.1.1 6 = h.1.1 6 ∧ h'.1.1 1 2 = h.1.1 1 2 ∧ (∀ i, 16 ≤ i → h'.1.1 0 i = h.1.1 0 i) ∧ (∀ i, 12 ≤ i → h'.1.1 2 i = h.1.1 2 i) ∧ h'.1.1 4 = h.1.1 4 ∧ h'.1.1 11 = h.1.1 11 ∧ h'.1.1 3 = h.1.1 3 ∧ h'.1.2 12 = h.1.2 12 ∧ h'.2.1 7 0 4 = h.2.1 7 0 4 ∧ h'.2.1 7 0 17 = h.2.1 7 0 17 ∧ h'.2.1 13 1 = h.2.1 13 1 ∧ h'.2.1 13 3 = h.2.1 13 3 ∧ h'.2.1 13 4 = h.2.1 13 4 ∧ h'.2.1 13 5 = h.2.1 13 5 ∧ h'.2.1 13 6 = h.2.1 13 6 ∧ h'.2.2 14 = h.2.2 14
theorem Rest.rfl' (h : HP) : Rest h h := ⟨rfl, rfl, fun _ _ => rfl, fun _ _ => rfl, rfl, rfl, rfl, rfl, rfl, rfl, rfl, rfl, rfl, rfl, rfl, rfl⟩
theorem Rest.trans {h1 h2 h3 : HP} (a : Rest h1 h2) (b : Rest h2 h3) : Rest h1 h3 := by
  obtain ⟨a1, a2, a3, a4, a5, a6, a7, a8, a9, a10, a11, a12, a13, a14, a15, a16⟩ := a
  obtain ⟨b1, b2, b3, b4, b5, b6, b7, b8, b9, b10, b11, b12, b13, b14, b15, b16⟩ := b
  exact ⟨b1.trans a1, b2.trans a2, fun i hi => (b3 i hi).trans (a3 i hi), fun i hi => (b4 i hi).trans (a4 i hi), b5.trans a5, b6.trans a6, b7.trans a7, b8.trans a8, b9.trans a9, b10.trans a10, b11.trans a11, b12.trans a12, b13.trans a13, b14.trans a14, b15.trans a15, b16.trans a16⟩
theorem Rest.w0 {a k : Nat} (ha : a < 16) : Rest h (h_wI h 0 a k v) := by
  rw [wI_0]
  refine ⟨?_, ?_, fun i hi => ?_, fun i hi => ?_, ?_, ?_, ?_, rfl, ?_, ?_, ?_, ?_, ?_, ?_, ?_, rfl⟩ <;> dsimp only <;> first | rfl | rw [up_c (by decide)] | rw [up_j (by omega)]
theorem Rest.w1 {a k : Nat} (ha : a < 2) : Rest h (h_wI h 1 a k v) := by
  rw [wI_1]
  refine ⟨?_, ?_, fun i hi => ?_, fun i hi => ?_, ?_, ?_, ?_, rfl, ?_, ?_, ?_, ?_, ?_, ?_, ?_, rfl⟩ <;> dsimp only <;> first | rfl | rw [up_c (by decide)] | rw [up_j (by omega)]
theorem Rest.w2 {a k : Nat} (ha : a < 12) : Rest h (h_wI h 2 a k v) := by
  rw [wI_2]
  refine ⟨?_, ?_, fun i hi => ?_, fun i hi => ?_, ?_, ?_, ?_, rfl, ?_, ?_, ?_, ?_, ?_, ?_, ?_, rfl⟩ <;> dsimp only <;> first | rfl | rw [up_c (by decide)] | rw [up_j (by omega)]
theorem Rest.w13 {a k : Nat} (ha : a = 0 ∨ a = 2) : Rest h (h_wI h 13 a k v) := by
  rw [wI_13]
  refine ⟨?_, ?_, fun i hi => ?_, fun i hi => ?_, ?_, ?_, ?_, rfl, ?_, ?_, ?_, ?_, ?_, ?_, ?_, rfl⟩ <;> dsimp only <;> first | rfl | rw [up_c (by decide)] | rw [up_j (by omega)]
theorem Inv.rest {h h' : HP} (hI : Inv h) (hR : Rest h h') (hL : ∃ n m d l, ILib h' n m d l) : Inv h' := by
  obtain ⟨-, i4, i5, i6, i7⟩ := hI
  obtain ⟨b1, b2, b3, b4, b5, b6, b7, b8, b9, b10, b11, b12, b13, b14, b15, b16⟩ := hR
  refine ⟨hL, ?_, ?_, ?_, ?_⟩
  · obtain ⟨a, b⟩ := i4
    refine ⟨by rw [b1, b10]; exact a, ?_⟩
    rw [b10, b15]
    rcases b with b | ⟨b, n, m, d, l, c1, c2, c3⟩
    · exact Or.inl b
    · exact Or.inr ⟨b, n, m, d, l, c1, c2, LC.congr c3 b2 (fun i hi => b3 _ (by omega)) (fun i hi => b4 _ (by omega))⟩
  · obtain ⟨t, a, b, c, e⟩ := i5
    exact ⟨t, a, by rw [b5]; exact b, by rw [b9]; exact c, by rw [b6, b12]; exact e⟩
  · unfold IShe at *
    rw [b7, b13, b14, b8, b16]
    exact i6
  · unfold ITol at *
    rw [b6, b11]
    exact i7
/-- a class-side write doesn't change the reference's row, nor the other way -/
theorem LC.ref {h h' : HP} (hL : LC h j n m N) (e : h'.1 = h.1) : LC h' j n m N := by
  unfold LC at *
  rw [e]
  exact hL
end FRAME
