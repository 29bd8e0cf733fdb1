/-! PURE: the invariant, findings, arguments -/
def IImg (h : HP) : Prop := h.1.1 6 0 3 = h.2.1 7 0 17 ∧ (h.2.1 7 0 17 = 0 ∨ (h.2.1 7 0 17 = 1 ∧ ∃ n m d l, WF (h.2.1 13 6) n m d l ∧ d ≤ 9999 ∧ LC h 2 n m (h.2.1 13 6)))
def ITap (h : HP) : Prop := ∃ t, t ≤ 120 ∧ h.1.1 4 0 1 = nI t ∧ h.2.1 7 0 4 = nI t ∧ ∀ k, k < t → h.1.1 11 0 k = h.2.1 13 3 k ∧ ∃ b, b < 256 ∧ h.2.1 13 3 k = nI b
def IShe (h : HP) : Prop := ∀ s, s < 4 → h.1.1 3 s 0 = h.2.1 13 4 s ∧ h.1.1 3 s 1 = h.2.1 13 5 s ∧ (h.2.1 13 4 s = 0 ∨ h.2.1 13 4 s = 8 ∨ h.2.1 13 4 s = 16 ∨ h.2.1 13 4 s = 64) ∧ (∃ z, z ≤ 40 ∧ h.2.1 13 5 s = nI z) ∧ ∀ k, k < 40 → h.1.2 12 s k = h.2.2 14 0 (40 * s + k)
def ITol (h : HP) : Prop := ∀ k, k < 7 → h.1.1 11 1 k = h.2.1 13 1 k
def ILib (h : HP) (n m d l : Nat) : Prop := WF (rv h) n m d l ∧ d ≤ 9999 ∧ LC h 0 n m (rv h)
def Inv (h : HP) : Prop := (∃ n m d l, ILib h n m d l) ∧ IImg h ∧ ITap h ∧ IShe h ∧ ITol h
/-- a call: both answer alike, and all is as it must be again -/
def Okc {ρ : Type} (F6 F7 : HP → Option (ρ × HP)) (h : HP) : Prop := ∃ r h1 h2, F6 h = some (r, h1) ∧ F7 h1 = some (r, h2) ∧ Inv h2
theorem wI_11 (h : HP) (j k : Nat) (v : Int32) : h_wI h 11 j k v = ((am_up h.1.1 11 j k v, h.1.2), h.2) := rfl
theorem wI_0 (h : HP) (j k : Nat) (v : Int32) : h_wI h 0 j k v = ((am_up h.1.1 0 j k v, h.1.2), h.2) := rfl
theorem wI_1 (h : HP) (j k : Nat) (v : Int32) : h_wI h 1 j k v = ((am_up h.1.1 1 j k v, h.1.2), h.2) := rfl
theorem wI_2 (h : HP) (j k : Nat) (v : Int32) : h_wI h 2 j k v = ((am_up h.1.1 2 j k v, h.1.2), h.2) := rfl
theorem wI_3 (h : HP) (j k : Nat) (v : Int32) : h_wI h 3 j k v = ((am_up h.1.1 3 j k v, h.1.2), h.2) := rfl
theorem wI_4 (h : HP) (j k : Nat) (v : Int32) : h_wI h 4 j k v = ((am_up h.1.1 4 j k v, h.1.2), h.2) := rfl
theorem wI_5 (h : HP) (j k : Nat) (v : Int32) : h_wI h 5 j k v = ((am_up h.1.1 5 j k v, h.1.2), h.2) := rfl
theorem wI_6 (h : HP) (j k : Nat) (v : Int32) : h_wI h 6 j k v = ((am_up h.1.1 6 j k v, h.1.2), h.2) := rfl
theorem wI_7 (h : HP) (j k : Nat) (v : Int32) : h_wI h 7 j k v = (h.1, (am_up h.2.1 7 j k v, h.2.2)) := rfl
theorem wI_13 (h : HP) (j k : Nat) (v : Int32) : h_wI h 13 j k v = (h.1, (am_up h.2.1 13 j k v, h.2.2)) := rfl
theorem wJ_12 (h : HP) (j k : Nat) (v : Int64) : h_wJ h 12 j k v = ((h.1.1, am_up h.1.2 12 j k v), h.2) := rfl
theorem wJ_14 (h : HP) (j k : Nat) (v : Int64) : h_wJ h 14 j k v = (h.1, (h.2.1, am_up h.2.2 14 j k v)) := rfl
theorem wJ_7 (h : HP) (j k : Nat) (v : Int64) : h_wJ h 7 j k v = (h.1, (h.2.1, am_up h.2.2 7 j k v)) := rfl
theorem up_c {α : Type} {f : Nat → Nat → Nat → α} {c j k c' : Nat} {v : α} (h : ¬ c' = c) : am_up f c j k v c' = f c' := by
  funext j' k'
  unfold am_up
  rw [if_neg (fun q => h q.1)]
theorem up_j {α : Type} {f : Nat → Nat → Nat → α} {c j k j' : Nat} {v : α} (h : ¬ j' = j) : am_up f c j k v c j' = f c j' := by
  funext k'
  unfold am_up
  rw [if_neg (fun q => h q.2.1)]
theorem up_k {α : Type} {f : Nat → Nat → Nat → α} {c j k k' : Nat} {v : α} (h : ¬ k' = k) : am_up f c j k v c j k' = f c j k' := by
  unfold am_up
  rw [if_neg (fun q => h q.2.2)]
theorem up_s {α : Type} {f : Nat → Nat → Nat → α} {c j k : Nat} {v : α} : am_up f c j k v c j k = v := by
  unfold am_up
  rw [if_pos ⟨rfl, rfl, rfl⟩]
/-- the class' side of what a library is, told by its cells -/
theorem LC.congr {h h' : HP} {j n m : Nat} {N : Nat → Int32} (hL : LC h j n m N) (e1 : h'.1.1 1 j = h.1.1 1 j) (e0 : ∀ i, i < n → h'.1.1 0 (8 * j + i) = h.1.1 0 (8 * j + i)) (e2 : ∀ i, i < m → h'.1.1 2 (6 * j + i) = h.1.1 2 (6 * j + i)) : LC h' j n m N := by
  obtain ⟨a, b, c, d, e, f⟩ := hL
  exact ⟨by rw [e1]; exact a, by rw [e1]; exact b, by rw [e1]; exact c, by rw [e1]; exact d, fun i hi k hk => by rw [e0 i hi]; exact e i hi k hk, fun i hi k hk => by rw [e2 i hi]; exact f i hi k hk⟩
def fcode (k : Nat) : Int32 := -1000000001 - nI k
theorem fcode_ix : ∀ k, k < 7 → (-1000000001 : Int32) - fcode k = nI k := by decide +kernel
theorem tell_ok {k : Nat} (hk : k < 7) (h : HP) : f_X6_tell (fcode k) h = some (fcode k, h_wI h 11 1 k (h.1.1 11 1 k + 1)) := by
  unfold f_X6_tell
  rw [fcode_ix k hk, if_neg (nI_pos (by omega)), show (7 : Int32) = nI 7 from rfl, if_neg (nI_le_i (by omega) (by omega) hk), ix_nI hk (by decide)]
  rfl
theorem finds_ok {k : Nat} (hk : k < 7) (h : HP) : f_X7_finds (fcode k) h = some (fcode k, h_wI h 13 1 k (h.2.1 13 1 k + 1)) := by
  unfold f_X7_finds
  rw [fcode_ix k hk, ix_nI hk (by decide)]
  rfl
/-- both told the same finding -/
theorem inv_find {h : HP} (hI : Inv h) {k : Nat} (hk : k < 7) : Inv (h_wI (h_wI h 11 1 k (h.1.1 11 1 k + 1)) 13 1 k (h.2.1 13 1 k + 1)) := by
  obtain ⟨⟨n, m, d, l, i1, i2, i3⟩, i4, i5, i6, i7⟩ := hI
  rw [wI_13, wI_11]
  refine ⟨⟨n, m, d, l, ?_, i2, ?_⟩, ?_, ?_, ?_, ?_⟩
  · show WF (am_up h.2.1 13 1 k (h.2.1 13 1 k + 1) 13 0) n m d l
    rw [up_j (by decide)]
    exact i1
  · show LC _ 0 n m (am_up h.2.1 13 1 k (h.2.1 13 1 k + 1) 13 0)
    rw [up_j (by decide)]
    refine LC.congr (h := h) i3 ?_ (fun i hi => ?_) (fun i hi => ?_) <;> dsimp only <;> rw [up_c (by decide)]
  · obtain ⟨a, b⟩ := i4
    refine ⟨?_, ?_⟩
    · dsimp only
      rw [up_c (by decide), up_c (by decide)]
      exact a
    · dsimp only
      rw [up_c (by decide), up_j (by decide)]
      rcases b with b | ⟨b, n, m, d, l, b1, b2, b3⟩
      · exact Or.inl b
      · refine Or.inr ⟨b, n, m, d, l, b1, b2, ?_⟩
        refine LC.congr (h := h) b3 ?_ (fun i hi => ?_) (fun i hi => ?_) <;> dsimp only <;> rw [up_c (by decide)]
  · obtain ⟨t, a, b, c, e⟩ := i5
    refine ⟨t, a, ?_, ?_, fun k' hk' => ?_⟩ <;> dsimp only
    · rw [up_c (by decide)]; exact b
    · rw [up_c (by decide)]; exact c
    · rw [up_j (by decide), up_j (by decide)]; exact e k' hk'
  · intro s hs
    obtain ⟨a, b, c, e, f⟩ := i6 s hs
    dsimp only
    rw [up_c (by decide), up_j (by decide), up_j (by decide)]
    exact ⟨a, b, c, e, f⟩
  · intro k' hk'
    dsimp only
    by_cases e : k' = k
    · subst e
      rw [up_s, up_s, i7 k' hk']
    · rw [up_k e, up_k e]
      exact i7 k' hk'
theorem okF {F6 F7 : HP → Option (Int32 × HP)} {h : HP} (hI : Inv h) (k : Nat) (hk : k < 7) (e6 : F6 h = f_X6_tell (fcode k) h) (e7 : ∀ c, F7 (c, h.2) = f_X7_finds (fcode k) (c, h.2)) : Okc F6 F7 h := by
  refine ⟨fcode k, _, _, e6.trans (tell_ok hk h), ?_, inv_find hI hk⟩
  have := e7 (am_up h.1.1 11 1 k (h.1.1 11 1 k + 1), h.1.2)
  rw [finds_ok hk] at this
  exact this
theorem okV {ρ : Type} {F6 F7 : HP → Option (ρ × HP)} {h : HP} (hI : Inv h) (r : ρ) (e6 : F6 h = some (r, h)) (e7 : F7 h = some (r, h)) : Okc F6 F7 h := ⟨r, h, h, e6, e7, hI⟩
theorem fc1 : (-1000000001 : Int32) = fcode 0 := by decide
theorem fc2 : (-1000000002 : Int32) = fcode 1 := by decide
theorem fc3 : (-1000000003 : Int32) = fcode 2 := by decide
theorem fc4 : (-1000000004 : Int32) = fcode 3 := by decide
theorem fc5 : (-1000000005 : Int32) = fcode 4 := by decide
theorem fc6 : (-1000000006 : Int32) = fcode 5 := by decide
theorem fc7 : (-1000000007 : Int32) = fcode 6 := by decide
theorem bind_eta (o : Option (Int32 × HP)) : o.bind (fun q => some (q.1, q.2)) = o := by cases o <;> rfl
theorem bind_etaV (o : Option HP) : o.bind (fun q => some q) = o := by cases o <;> rfl
def inR (a lo hi : Int32) : Bool := !decide (a < lo) && !decide (hi < a)
theorem in_ok (a lo hi : Int32) (h : HP) : f_X7_in a lo hi h = some (b2i (inR a lo hi), h) := by
  unfold f_X7_in inR
  by_cases p : a < lo <;> by_cases q : hi < a <;> simp [p, q, b2i]
theorem le_succ {a b : Int32} (h : b.toInt = a.toInt + 1) (x : Int32) : b ≤ x ↔ a < x := by
  rw [Int32.le_iff_toInt_le, Int32.lt_iff_toInt_lt]
  omega
theorem isRoom_r (a : Int32) (h : HP) : f_X7_isRoom a h = some (b2i (inR a 0 15), h) := by
  unfold f_X7_isRoom
  rw [in_ok]
  show some (b2i _ &&& 1, h) = _
  rw [b2i_and]
theorem isKind_r (a : Int32) (h : HP) : f_X7_isKind a h = some (b2i (inR a 0 5), h) := by
  unfold f_X7_isKind
  rw [in_ok]
  show some (b2i _ &&& 1, h) = _
  rw [b2i_and]
theorem isSheet_r (a : Int32) (h : HP) : f_X7_isSheet a h = some (b2i (inR a 0 3), h) := by
  unfold f_X7_isSheet
  rw [in_ok]
  show some (b2i _ &&& 1, h) = _
  rw [b2i_and]
theorem cls_in {a b x : Int32} (hb : b.toInt = a.toInt + 1) (h : HP) : (if x < 0 then some ((0 : Int32), h) else (if b ≤ x then some (0, h) else some (1, h))) = some (b2i (inR x 0 a), h) := by
  unfold inR
  by_cases p : x < 0
  · simp [p, b2i]
  · by_cases q : a < x
    · simp [p, q, (le_succ hb x).mpr q, b2i]
    · simp [p, q, mt (le_succ hb x).mp q, b2i]
theorem isRoom_c (a : Int32) (h : HP) : f_X6_isRoom a h = some (b2i (inR a 0 15), h) := cls_in (by decide) h
theorem isKind_c (a : Int32) (h : HP) : f_X6_isKind a h = some (b2i (inR a 0 5), h) := cls_in (by decide) h
theorem isSheet_c (a : Int32) (h : HP) : f_X6_isSheet a h = some (b2i (inR a 0 3), h) := cls_in (by decide) h
theorem isUpTo_c (a b : Int32) (h : HP) : f_X6_isUpTo a b h = some (b2i (inR a 0 b), h) := by
  unfold f_X6_isUpTo inR
  by_cases p : a < 0 <;> by_cases q : b < a <;> simp [p, q, b2i]
theorem inR_of {a hi : Int32} {n : Nat} (hn : hi.toInt = n) (h : inR a 0 hi = true) : ∃ k, k ≤ n ∧ a = nI k := by
  unfold inR at h
  simp only [Bool.and_eq_true, Bool.not_eq_true', decide_eq_false_iff_not] at h
  exact nI_of2 hn h.1 (Int32.not_lt.mp h.2)
/-- an argument that names one of n, or not -/
theorem arg_c {x : Int32} {n : Nat} (hn : n ≤ 8) (h : HP) : (if x < 0 then some ((0 : Int32), h) else (if nI n ≤ x then some (0, h) else some (1, h))) = some (b2i (!decide (x < 0) && !decide (nI n ≤ x)), h) := by
  by_cases p : x < 0 <;> by_cases q : nI n ≤ x <;> simp [p, q, b2i]
theorem pred_lt {n : Nat} (hn : n ≤ 8) (x : Int32) : nI n - 1 < x ↔ nI n ≤ x := by
  have h1 : (nI n - 1).toInt = (n : Int) - 1 := pk_sub_toInt (a := n) (b := 1) (by omega) (by omega)
  have h2 : (nI n).toInt = n := nI_toInt (by omega)
  rw [Int32.le_iff_toInt_le, Int32.lt_iff_toInt_lt]
  omega
def isA (x : Int32) (n : Nat) : Bool := !decide (x < 0) && !decide (nI n ≤ x)
theorem isA_t {x : Int32} {n : Nat} (hn : n < 2 ^ 31) (h : isA x n = true) : ∃ i, i < n ∧ x = nI i := by
  unfold isA at h
  simp only [Bool.and_eq_true, Bool.not_eq_true', decide_eq_false_iff_not] at h
  rcases pk_ix x hn with q | q | q
  · exact absurd q h.1
  · exact absurd q h.2
  · exact q
theorem isA_nI {i n : Nat} (h : i < n) (hn : n < 2 ^ 31) : isA (nI i) n = true := by
  unfold isA
  rw [decide_eq_false (nI_pos (by omega)), decide_eq_false (nI_le_i (by omega) hn h)]
  rfl
theorem hasHandle_c {h : HP} {N : Nat → Int32} {j n m d l : Nat} (hW : WF N n m d l) (hL : LC h j n m N) (x : Int32) : f_X1_hasHandle j x h = some (b2i (isA x n), h) := by
  unfold f_X1_hasHandle
  rw [rI_1, hL.2.2.1, hW.2.2.2.2.2.2.1]
  exact arg_c hW.1 h
theorem hasMember_c {h : HP} {N : Nat → Int32} {j n m d l : Nat} (hW : WF N n m d l) (hL : LC h j n m N) (x : Int32) : f_X1_hasMember j x h = some (b2i (isA x m), h) := by
  unfold f_X1_hasMember
  rw [rI_1, hL.2.2.2.1, hW.2.2.2.2.2.2.2.1]
  exact arg_c (by have := hW.2.1; omega) h
theorem isOne_r {h : HP} {n m d l : Nat} (hW : WF (rv h) n m d l) (x : Int32) : f_X7_isOne x h = some (b2i (isA x n), h) := by
  unfold f_X7_isOne
  rw [ix64_2]
  show (f_X7_in x 0 (h_rI h 13 0 2 - 1) h).bind _ = _
  rw [rv_2, hW.2.2.2.2.2.2.1, in_ok]
  show some (b2i _ &&& 1, h) = _
  rw [b2i_and]
  unfold inR isA
  simp only [pred_lt hW.1 x]
theorem isMember_r {h : HP} {n m d l : Nat} (hW : WF (rv h) n m d l) (x : Int32) : f_X7_isMember x h = some (b2i (isA x m), h) := by
  unfold f_X7_isMember
  rw [ix64_3]
  show (f_X7_in x 0 (h_rI h 13 0 3 - 1) h).bind _ = _
  rw [rv_3, hW.2.2.2.2.2.2.2.1, in_ok]
  show some (b2i _ &&& 1, h) = _
  rw [b2i_and]
  unfold inR isA
  simp only [pred_lt (n := m) (by have := hW.2.1; omega) x]
