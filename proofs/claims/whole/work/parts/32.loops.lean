/-! PURE: loops over the handles and the members of a row, both sides -/
def fo {α : Type} (step : Nat → α → α) : Nat → Nat → α → α
  | 0, _, a => a
  | k + 1, i, a => fo step k (i + 1) (step i a)
theorem lp_up {α ρ : Type} {g : Nat → α → Int32 → Option ρ} {N : Nat} {step : Nat → α → α} {fin : α → Option ρ} (hs : ∀ n i a, i < N → g (n + 1) a (nI i) = g n (step i a) (nI (i + 1))) (he : ∀ n a, g (n + 1) a (nI N) = fin a) :
    ∀ (k n i : Nat) (a : α), i + k = N → k < n → g n a (nI i) = fin (fo step k i a)
  | 0, n, i, a, h1, h2 => by
    obtain ⟨n, rfl⟩ : ∃ z, n = z + 1 := ⟨n - 1, by omega⟩
    rw [show i = N by omega, he]
    rfl
  | k + 1, n, i, a, h1, h2 => by
    obtain ⟨n, rfl⟩ : ∃ z, n = z + 1 := ⟨n - 1, by omega⟩
    rw [hs n i a (by omega), lp_up hs he k n (i + 1) (step i a) (by omega) (by omega)]
    rfl
theorem fo_congr {α : Type} {s1 s2 : Nat → α → α} : ∀ (k i : Nat) (a : α), (∀ t a, i ≤ t → t < i + k → s1 t a = s2 t a) → fo s1 k i a = fo s2 k i a
  | 0, _, _, _ => rfl
  | k + 1, i, a, h => by
    unfold fo
    rw [h i a (by omega) (by omega)]
    exact fo_congr k (i + 1) _ (fun t a h1 h2 => h t a (by omega) (by omega))
theorem fu_lt {n : Nat} (h : n < 1000) : n < am_fu := by rw [am_fu_eq]; exact h
theorem nI_le_i {i n : Nat} (hi : i < 2 ^ 31) (hn : n < 2 ^ 31) (h : i < n) : ¬ nI n ≤ nI i := by rw [nI_leI hn hi]; omega
theorem nI_le_n {n : Nat} : nI n ≤ nI n := Int32.le_refl _
def stS (p : Nat → Bool) (i : Nat) (a : Int32) : Int32 := cond (p i) (a ||| (1 <<< (nI i &&& 31))) a
theorem stS_t {p : Nat → Bool} {i : Nat} {a : Int32} (h : p i = true) : stS p i a = a ||| (1 <<< (nI i &&& 31)) := by unfold stS; rw [h]; rfl
theorem stS_f {p : Nat → Bool} {i : Nat} {a : Int32} (h : p i = false) : stS p i a = a := by unfold stS; rw [h]; rfl
def sHolds (N : Nat → Int32) (n : Nat) (m : Int32) : Int32 := fo (stS (fun i => decide (hd N i 4 = m))) n 0 0
def sOpenTo (N : Nat → Int32) (n : Nat) (m : Int32) (r : Int32) : Int32 := fo (stS (fun i => decide (hd N i 4 = m) && sOpens N i r)) n 0 0
def sLentSet (N : Nat → Int32) (n : Nat) : Int32 := fo (stS (fun i => !decide (hd N i 4 = -1))) n 0 0
def sLateSet (N : Nat → Int32) (n : Nat) : Int32 := fo (stS (fun i => sLate N i)) n 0 0
def sWearAll (N : Nat → Int32) (n : Nat) : Int32 := fo (fun i a => a + hd N i 3) n 0 0
def sFinesAll (N : Nat → Int32) (m : Nat) : Int32 := fo (fun i a => a + mb N i 1) m 0 0
theorem or0 (a : Int32) : a ||| 0 = a := Int32.or_zero
section REF
variable {h : HP} {n m d l : Nat}
theorem holds_r (hW : WF (rv h) n m d l) (p : Int32) : f_X7_holds p h = some (sHolds (rv h) n p, h) := by
  obtain ⟨w1, w2, w3, w4, w5, w6, w7, w8, w9, w10⟩ := hW
  unfold f_X7_holds sHolds
  refine lp_up (g := fun k a x => g_X7_holds_4 k p a x h) (N := n) (fin := fun a => some (a, h)) (fun k i a hi => ?_) (fun k a => ?_) n am_fu 0 0 (by omega) (fu_lt (by omega))
  · show g_X7_holds_4 (k + 1) p a (nI i) h = _
    rw [g_X7_holds_4, ix64_2]
    show (if h_rI h 13 0 2 ≤ nI i then _ else _) = _
    rw [rv_2, w7, if_neg (nI_le_i (by omega) (by omega) hi), its4 (by omega)]
    show (if hd (rv h) i 4 = p then _ else _) = _
    rw [nI_1, or0]
    by_cases q : hd (rv h) i 4 = p
    · rw [if_pos q, stS_t (decide_eq_true q)]
    · rw [if_neg q, stS_f (decide_eq_false q)]
  · show g_X7_holds_4 (k + 1) p a (nI n) h = _
    rw [g_X7_holds_4, ix64_2]
    show (if h_rI h 13 0 2 ≤ nI n then _ else _) = _
    rw [rv_2, w7, if_pos nI_le_n]
theorem openTo_r (hW : WF (rv h) n m d l) {p : Nat} (hp : p < 6) : f_X7_openTo (nI p) h = some (sOpenTo (rv h) n (nI p) (mb (rv h) p 0), h) := by
  obtain ⟨w1, w2, w3, w4, w5, w6, w7, w8, w9, w10⟩ := hW
  unfold f_X7_openTo sOpenTo
  refine lp_up (g := fun k a x => g_X7_openTo_4 k (nI p) a x h) (N := n) (fin := fun a => some (a, h)) (fun k i a hi => ?_) (fun k a => ?_) n am_fu 0 0 (by omega) (fu_lt (by omega))
  · show g_X7_openTo_4 (k + 1) (nI p) a (nI i) h = _
    rw [g_X7_openTo_4, ix64_2]
    show (if h_rI h 13 0 2 ≤ nI i then _ else _) = _
    rw [rv_2, w7, if_neg (nI_le_i (by omega) (by omega) hi), its4 (by omega)]
    show (if hd (rv h) i 4 = nI p then _ else _) = _
    rw [nI_1, or0]
    by_cases q : hd (rv h) i 4 = nI p
    · rw [if_pos q, whose0 hp]
      show (f_X7_opens (nI i) (mb (rv h) p 0) h).bind _ = _
      rw [opens_r (by omega) w2 (w9 i hi)]
      show (if b2i (sOpens (rv h) i (mb (rv h) p 0)) = 0 then _ else _) = _
      simp only [b2i_0, or0]
      cases e : sOpens (rv h) i (mb (rv h) p 0)
      · rw [stS_f (by simp [e])]; rfl
      · rw [stS_t (by simp [e, q])]; rfl
    · rw [if_neg q, stS_f (by simp [q])]
  · show g_X7_openTo_4 (k + 1) (nI p) a (nI n) h = _
    rw [g_X7_openTo_4, ix64_2]
    show (if h_rI h 13 0 2 ≤ nI n then _ else _) = _
    rw [rv_2, w7, if_pos nI_le_n]
theorem lentSet_r (hW : WF (rv h) n m d l) : f_X7_lentSet h = some (sLentSet (rv h) n, h) := by
  obtain ⟨w1, w2, w3, w4, w5, w6, w7, w8, w9, w10⟩ := hW
  unfold f_X7_lentSet sLentSet
  refine lp_up (g := fun k a x => g_X7_lentSet_4 k a x h) (N := n) (fin := fun a => some (a, h)) (fun k i a hi => ?_) (fun k a => ?_) n am_fu 0 0 (by omega) (fu_lt (by omega))
  · show g_X7_lentSet_4 (k + 1) a (nI i) h = _
    rw [g_X7_lentSet_4, ix64_2]
    show (if h_rI h 13 0 2 ≤ nI i then _ else _) = _
    rw [rv_2, w7, if_neg (nI_le_i (by omega) (by omega) hi), its4 (by omega)]
    show (if hd (rv h) i 4 < 0 then _ else _) = _
    rw [nI_1, or0]
    have hl := (w9 i hi).lent w2
    by_cases q : hd (rv h) i 4 = -1
    · rw [if_pos (hl.mpr q), stS_f (by simp [q])]
    · rw [if_neg (fun z => q (hl.mp z)), stS_t (by simp [q])]
  · show g_X7_lentSet_4 (k + 1) a (nI n) h = _
    rw [g_X7_lentSet_4, ix64_2]
    show (if h_rI h 13 0 2 ≤ nI n then _ else _) = _
    rw [rv_2, w7, if_pos nI_le_n]
theorem lateSet_r (hW : WF (rv h) n m d l) : f_X7_lateSet h = some (sLateSet (rv h) n, h) := by
  obtain ⟨w1, w2, w3, w4, w5, w6, w7, w8, w9, w10⟩ := hW
  unfold f_X7_lateSet sLateSet
  refine lp_up (g := fun k a x => g_X7_lateSet_4 k a x h) (N := n) (fin := fun a => some (a, h)) (fun k i a hi => ?_) (fun k a => ?_) n am_fu 0 0 (by omega) (fu_lt (by omega))
  · show g_X7_lateSet_4 (k + 1) a (nI i) h = _
    rw [g_X7_lateSet_4, ix64_2]
    show (if h_rI h 13 0 2 ≤ nI i then _ else _) = _
    rw [rv_2, w7, if_neg (nI_le_i (by omega) (by omega) hi), isLate_r (by omega) w2 (w9 i hi)]
    show (if b2i (sLate (rv h) i) = 0 then _ else _) = _
    rw [nI_1, or0]
    simp only [b2i_0]
    cases e : sLate (rv h) i
    · rw [stS_f e]; rfl
    · rw [stS_t e]; rfl
  · show g_X7_lateSet_4 (k + 1) a (nI n) h = _
    rw [g_X7_lateSet_4, ix64_2]
    show (if h_rI h 13 0 2 ≤ nI n then _ else _) = _
    rw [rv_2, w7, if_pos nI_le_n]
theorem wearAll_r (hW : WF (rv h) n m d l) : f_X7_wearAll h = some (sWearAll (rv h) n, h) := by
  obtain ⟨w1, w2, w3, w4, w5, w6, w7, w8, w9, w10⟩ := hW
  unfold f_X7_wearAll sWearAll
  refine lp_up (g := fun k a x => g_X7_wearAll_4 k a x h) (N := n) (fin := fun a => some (a, h)) (fun k i a hi => ?_) (fun k a => ?_) n am_fu 0 0 (by omega) (fu_lt (by omega))
  · show g_X7_wearAll_4 (k + 1) a (nI i) h = _
    rw [g_X7_wearAll_4, ix64_2]
    show (if h_rI h 13 0 2 ≤ nI i then _ else _) = _
    rw [rv_2, w7, if_neg (nI_le_i (by omega) (by omega) hi), its3 (by omega), nI_1]
    rfl
  · show g_X7_wearAll_4 (k + 1) a (nI n) h = _
    rw [g_X7_wearAll_4, ix64_2]
    show (if h_rI h 13 0 2 ≤ nI n then _ else _) = _
    rw [rv_2, w7, if_pos nI_le_n]
theorem finesAll_r (hW : WF (rv h) n m d l) : f_X7_finesAll h = some (sFinesAll (rv h) m, h) := by
  obtain ⟨w1, w2, w3, w4, w5, w6, w7, w8, w9, w10⟩ := hW
  unfold f_X7_finesAll sFinesAll
  refine lp_up (g := fun k a x => g_X7_finesAll_4 k a x h) (N := m) (fin := fun a => some (a, h)) (fun k i a hi => ?_) (fun k a => ?_) m am_fu 0 0 (by omega) (fu_lt (by omega))
  · show g_X7_finesAll_4 (k + 1) a (nI i) h = _
    rw [g_X7_finesAll_4, ix64_3]
    show (if h_rI h 13 0 3 ≤ nI i then _ else _) = _
    rw [rv_3, w8, if_neg (nI_le_i (by omega) (by omega) hi), whose1 (by omega), nI_1]
    rfl
  · show g_X7_finesAll_4 (k + 1) a (nI m) h = _
    rw [g_X7_finesAll_4, ix64_3]
    show (if h_rI h 13 0 3 ≤ nI m then _ else _) = _
    rw [rv_3, w8, if_pos nI_le_n]
end REF
section CLS
variable {h : HP} {N : Nat → Int32} {j n m d l : Nat}
theorem LC.hd {i : Nat} (hL : LC h j n m N) (hi : i < n) : ∀ k, k < 6 → h.1.1 0 (8 * j + i) k = hd N i k := hL.2.2.2.2.1 i hi
theorem LC.mb {i : Nat} (hL : LC h j n m N) (hi : i < m) : ∀ k, k < 2 → h.1.1 2 (6 * j + i) k = mb N i k := hL.2.2.2.2.2 i hi
theorem holds_c {i : Nat} {p : Int32} (hW : WF N n m d l) (hL : LC h j n m N) (hi : i < n) : f_X1_holds j p (nI i) h = some (b2i (decide (hd N i 4 = p)), h) := by
  unfold f_X1_holds
  have := hW.1
  rw [ix_nI (by omega) (by decide)]
  show (if h.1.1 0 (8 * j + i) 4 = p then _ else _) = _
  rw [hL.hd hi 4 (by decide)]
  by_cases q : hd N i 4 = p
  · rw [if_pos q, decide_eq_true q]; rfl
  · rw [if_neg q, decide_eq_false q]; rfl
theorem opensIn_c {i : Nat} {r : Int32} (hW : WF N n m d l) (hL : LC h j n m N) (hi : i < n) : f_X1_opensIn j (nI i) r h = some (b2i (sOpens N i r), h) := by
  unfold f_X1_opensIn
  have := hW.1
  rw [ix_nI (by omega) (by decide)]
  show (f_X0_opensIn (8 * j + i) r (h.1.1 1 j 0) (h.1.1 1 j 1) h).bind _ = _
  rw [hL.1, hL.2.1, opens_c (hL.hd hi) (hW.2.2.2.2.2.2.2.2.1 i hi)]
  show some (b2i _ &&& 1, h) = _
  rw [b2i_and]
theorem ledToL_c {i : Nat} {r : Int32} (hW : WF N n m d l) (hL : LC h j n m N) (hi : i < n) : f_X1_ledTo j (nI i) r h = some (sLead N i r, h) := by
  unfold f_X1_ledTo
  have := hW.1
  rw [ix_nI (by omega) (by decide)]
  show (f_X0_ledTo (8 * j + i) r (h.1.1 1 j 1) h).bind _ = _
  rw [hL.2.1, ledTo_c (hL.hd hi) (hW.2.2.2.2.2.2.2.2.1 i hi)]
  rfl
theorem heldBy_c {p : Int32} (hW : WF N n m d l) (hL : LC h j n m N) : f_X1_heldBy j p h = some (sHolds N n p, h) := by
  have hW' := hW
  obtain ⟨w1, w2, w3, w4, w5, w6, w7, w8, w9, w10⟩ := hW
  unfold f_X1_heldBy sHolds
  refine lp_up (g := fun k a x => g_X1_heldBy_4 k j p a x h) (N := n) (fin := fun a => some (a, h)) (fun k i a hi => ?_) (fun k a => ?_) n am_fu 0 0 (by omega) (fu_lt (by omega))
  · show g_X1_heldBy_4 (k + 1) j p a (nI i) h = _
    rw [g_X1_heldBy_4, rI_1, hL.2.2.1, w7, if_neg (nI_le_i (by omega) (by omega) hi), holds_c hW' hL hi]
    show (if b2i _ = 0 then _ else _) = _
    rw [nI_1]
    simp only [b2i_0]
    cases e : decide (hd N i 4 = p)
    · rw [stS_f e]; rfl
    · rw [stS_t e]; rfl
  · show g_X1_heldBy_4 (k + 1) j p a (nI n) h = _
    rw [g_X1_heldBy_4, rI_1, hL.2.2.1, w7, if_pos nI_le_n]
theorem openToL_c {p : Nat} (hW : WF N n m d l) (hL : LC h j n m N) (hp : p < m) : f_X1_openTo j (nI p) h = some (sOpenTo N n (nI p) (mb N p 0), h) := by
  have hW' := hW
  obtain ⟨w1, w2, w3, w4, w5, w6, w7, w8, w9, w10⟩ := hW
  unfold f_X1_openTo sOpenTo
  refine lp_up (g := fun k a x => g_X1_openTo_4 k j (nI p) a x h) (N := n) (fin := fun a => some (a, h)) (fun k i a hi => ?_) (fun k a => ?_) n am_fu 0 0 (by omega) (fu_lt (by omega))
  · show g_X1_openTo_4 (k + 1) j (nI p) a (nI i) h = _
    rw [g_X1_openTo_4, rI_1, hL.2.2.1, w7, if_neg (nI_le_i (by omega) (by omega) hi), holds_c hW' hL hi]
    show (if b2i _ = 0 then _ else (am_ix (nI p) 6).bind _) = _
    rw [nI_1, ix_nI (by omega) (by decide)]
    simp only [b2i_0, Option.bind_some, rI_2, hL.mb hp 0 (by decide), opensIn_c hW' hL hi]
    cases e : decide (hd N i 4 = nI p)
    · rw [stS_f (by simp only [e]; rfl)]; rfl
    · cases e2 : sOpens N i (mb N p 0)
      · rw [stS_f (by simp only [e, e2]; rfl)]; rfl
      · rw [stS_t (by simp only [e, e2]; rfl)]; rfl
  · show g_X1_openTo_4 (k + 1) j (nI p) a (nI n) h = _
    rw [g_X1_openTo_4, rI_1, hL.2.2.1, w7, if_pos nI_le_n]
theorem isLent_c {a i : Nat} (e : h.1.1 0 a 4 = hd N i 4) : f_X0_isLent a h = some (b2i (!decide (hd N i 4 = -1)), h) := by
  unfold f_X0_isLent
  rw [rI_0, e]
  by_cases q : hd N i 4 = -1
  · rw [if_pos q, decide_eq_true q]; rfl
  · rw [if_neg q, decide_eq_false q]; rfl
theorem allLent_c (hW : WF N n m d l) (hL : LC h j n m N) : f_X1_allLent j h = some (sLentSet N n, h) := by
  obtain ⟨w1, w2, w3, w4, w5, w6, w7, w8, w9, w10⟩ := hW
  unfold f_X1_allLent sLentSet
  refine lp_up (g := fun k a x => g_X1_allLent_4 k j a x h) (N := n) (fin := fun a => some (a, h)) (fun k i a hi => ?_) (fun k a => ?_) n am_fu 0 0 (by omega) (fu_lt (by omega))
  · show g_X1_allLent_4 (k + 1) j a (nI i) h = _
    rw [g_X1_allLent_4, rI_1, hL.2.2.1, w7, if_neg (nI_le_i (by omega) (by omega) hi), ix_nI (by omega) (by decide)]
    show (f_X0_isLent (8 * j + i) h).bind _ = _
    rw [isLent_c (hL.hd hi 4 (by decide)), nI_1]
    show (if b2i _ = 0 then _ else _) = _
    simp only [b2i_0]
    cases e : decide (hd N i 4 = -1)
    · rw [stS_t (by simp only [e]; rfl)]; rfl
    · rw [stS_f (by simp only [e]; rfl)]; rfl
  · show g_X1_allLent_4 (k + 1) j a (nI n) h = _
    rw [g_X1_allLent_4, rI_1, hL.2.2.1, w7, if_pos nI_le_n]
theorem allLate_c (hW : WF N n m d l) (hL : LC h j n m N) : f_X1_allLate j h = some (sLateSet N n, h) := by
  obtain ⟨w1, w2, w3, w4, w5, w6, w7, w8, w9, w10⟩ := hW
  unfold f_X1_allLate sLateSet
  refine lp_up (g := fun k a x => g_X1_allLate_4 k j a x h) (N := n) (fin := fun a => some (a, h)) (fun k i a hi => ?_) (fun k a => ?_) n am_fu 0 0 (by omega) (fu_lt (by omega))
  · show g_X1_allLate_4 (k + 1) j a (nI i) h = _
    rw [g_X1_allLate_4, rI_1, hL.2.2.1, w7, if_neg (nI_le_i (by omega) (by omega) hi), ix_nI (by omega) (by decide)]
    show (f_X0_isLate (8 * j + i) (h.1.1 1 j 1) h).bind _ = _
    rw [hL.2.1, isLate_c (hL.hd hi 4 (by decide)) (hL.hd hi 5 (by decide)), nI_1]
    show (if b2i _ = 0 then _ else _) = _
    simp only [b2i_0]
    cases e : sLate N i
    · rw [stS_f e]; rfl
    · rw [stS_t e]; rfl
  · show g_X1_allLate_4 (k + 1) j a (nI n) h = _
    rw [g_X1_allLate_4, rI_1, hL.2.2.1, w7, if_pos nI_le_n]
theorem allWear_c (hW : WF N n m d l) (hL : LC h j n m N) : f_X1_allWear j h = some (sWearAll N n, h) := by
  obtain ⟨w1, w2, w3, w4, w5, w6, w7, w8, w9, w10⟩ := hW
  unfold f_X1_allWear sWearAll
  refine lp_up (g := fun k a x => g_X1_allWear_4 k j a x h) (N := n) (fin := fun a => some (a, h)) (fun k i a hi => ?_) (fun k a => ?_) n am_fu 0 0 (by omega) (fu_lt (by omega))
  · show g_X1_allWear_4 (k + 1) j a (nI i) h = _
    rw [g_X1_allWear_4, rI_1, hL.2.2.1, w7, if_neg (nI_le_i (by omega) (by omega) hi), ix_nI (by omega) (by decide), nI_1]
    show g_X1_allWear_4 k j (a + h.1.1 0 (8 * j + i) 3) _ h = _
    rw [hL.hd hi 3 (by decide)]
  · show g_X1_allWear_4 (k + 1) j a (nI n) h = _
    rw [g_X1_allWear_4, rI_1, hL.2.2.1, w7, if_pos nI_le_n]
theorem allFines_c (hW : WF N n m d l) (hL : LC h j n m N) : f_X1_allFines j h = some (sFinesAll N m, h) := by
  obtain ⟨w1, w2, w3, w4, w5, w6, w7, w8, w9, w10⟩ := hW
  unfold f_X1_allFines sFinesAll
  refine lp_up (g := fun k a x => g_X1_allFines_4 k j a x h) (N := m) (fin := fun a => some (a, h)) (fun k i a hi => ?_) (fun k a => ?_) m am_fu 0 0 (by omega) (fu_lt (by omega))
  · show g_X1_allFines_4 (k + 1) j a (nI i) h = _
    rw [g_X1_allFines_4, rI_1, hL.2.2.2.1, w8, if_neg (nI_le_i (by omega) (by omega) hi), ix_nI (by omega) (by decide), nI_1]
    show g_X1_allFines_4 k j (a + h.1.1 2 (6 * j + i) 1) _ h = _
    rw [hL.mb hi 1 (by decide)]
  · show g_X1_allFines_4 (k + 1) j a (nI m) h = _
    rw [g_X1_allFines_4, rI_1, hL.2.2.2.1, w8, if_pos nI_le_n]
end CLS
