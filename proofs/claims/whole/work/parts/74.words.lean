/-! PURE: words and numbers of the text, both sides -/
def wcs : List (List Nat) := [[109, 101, 109, 98, 101, 114], [108, 111, 97, 110], [102, 114, 111, 109], [116, 111], [119, 101, 97, 114], [97, 116], [98, 114, 97, 115, 115], [98, 111, 110, 101], [114, 111, 112, 101], [107, 110, 111, 98], [108, 97, 116, 99, 104], [104, 97, 110, 100, 108, 101]]
def wVs : List Nat := [189450486, 247172, 131638, 555, 456399, 47, 1418437, 50684, 365666, 227126, 6411644, 115601504]
def wch (c i : Nat) : Nat := (wcs.getD c []).getD i 0
def wln (c : Nat) : Nat := am_bln.getD c 0
def wV (c : Nat) : Nat := wVs.getD c 0
theorem w_hsh : ∀ c, c < 12 → hsh (wch c) 0 (wln c) = wV c := by decide +kernel
theorem w_let : ∀ c, c < 12 → ∀ i, i < wln c → 97 ≤ wch c i ∧ wch c i ≤ 122 := by decide +kernel
theorem w_len : ∀ c, c < 12 → 1 ≤ wln c ∧ wln c ≤ 6 := by decide +kernel
theorem w_V : ∀ c, c < 12 → wV c < 2 ^ 31 := by decide +kernel
theorem w_lenI : ∀ c, c < 12 → (Int32.ofNat (am_bln.getD c 0)) >>> ((Int32.toInt8 0).toInt32 &&& 31) = nI (wln c) := by decide +kernel
theorem w_chI : ∀ c, c < 12 → ∀ i, i < wln c → (Int32.toUInt32 ((Int32.toUInt32 ((Int32.toUInt32 (((am_byt.getD c []).getD i 0) &&& 255) % 65536).toInt32)).toUInt16.toUInt32.toInt32)).toUInt16.toUInt32.toInt32 = nI (wch c i) := by decide +kernel
theorem len_c {c : Nat} (hc : c < 12) (h : HP) : f_J0_length_8abf5 c h = some (nI (wln c), h) := by
  unfold f_J0_length_8abf5 f_J0_coder_7d493
  rw [Option.bind_some]
  dsimp only
  rw [w_lenI c hc]
theorem chr_c {c i : Nat} (hc : c < 12) (hi : i < wln c) (h : HP) : f_J0_charAt_5068e c (nI i) h = some (nI (wch c i), h) := by
  have hl := w_len c hc
  have hi' : i < am_bln.getD c 0 := hi
  unfold f_J0_charAt_5068e f_J0_isLatin1_aae02 f_J1_charAt_3b067 f_J0_checkIndex_df160 f_J3_checkIndex_8e157
  rw [Option.bind_some]
  dsimp only
  rw [if_neg (show ¬ (1 : Int32) = 0 by decide), if_neg (nI_pos (by omega)), if_pos (show nI i < Int32.ofNat (am_bln.getD c 0) from (nI_ltI (b := wln c) (by omega) (by omega)).mpr hi), Option.bind_some, Option.bind_some, ix_nI hi' (by have : am_bln.getD c 0 = wln c := rfl; omega), Option.bind_some, Option.bind_some]
  dsimp only
  rw [w_chI c hc i hi]
theorem hsh_pos {b : Nat → Nat} {s n : Nat} (h : ∀ i, i < n + 1 → 97 ≤ b (s + i) ∧ b (s + i) ≤ 122) : 0 < hsh b s (n + 1) := by
  have := h n (by omega)
  show 0 < 27 * hsh b s n + (b (s + n) - 96)
  omega
theorem hsh_inj {b1 b2 : Nat → Nat} {s1 s2 : Nat} : ∀ (n1 n2 : Nat), (∀ i, i < n1 → 97 ≤ b1 (s1 + i) ∧ b1 (s1 + i) ≤ 122) → (∀ i, i < n2 → 97 ≤ b2 (s2 + i) ∧ b2 (s2 + i) ≤ 122) → hsh b1 s1 n1 = hsh b2 s2 n2 → n1 = n2 ∧ ∀ i, i < n1 → b1 (s1 + i) = b2 (s2 + i)
  | 0, 0, _, _, _ => ⟨rfl, fun i hi => absurd hi (by omega)⟩
  | 0, n2 + 1, _, h2, e => absurd e (by have := hsh_pos h2; show ¬ 0 = _; omega)
  | n1 + 1, 0, h1, _, e => absurd e (by have := hsh_pos h1; show ¬ _ = 0; omega)
  | n1 + 1, n2 + 1, h1, h2, e => by
    have a1 := h1 n1 (by omega)
    have a2 := h2 n2 (by omega)
    have e' : 27 * hsh b1 s1 n1 + (b1 (s1 + n1) - 96) = 27 * hsh b2 s2 n2 + (b2 (s2 + n2) - 96) := e
    have e1 : hsh b1 s1 n1 = hsh b2 s2 n2 := by omega
    have e2 : b1 (s1 + n1) = b2 (s2 + n2) := by omega
    obtain ⟨r1, r2⟩ := hsh_inj n1 n2 (fun i hi => h1 i (by omega)) (fun i hi => h2 i (by omega)) e1
    refine ⟨by omega, fun i hi => ?_⟩
    by_cases q : i = n1
    · rw [q, e2, r1]
    · exact r2 i (by omega)
theorem hsh_cong {b1 b2 : Nat → Nat} {s1 s2 : Nat} : ∀ (n : Nat), (∀ i, i < n → b1 (s1 + i) = b2 (s2 + i)) → hsh b1 s1 n = hsh b2 s2 n
  | 0, _ => rfl
  | n + 1, h => by
    show 27 * hsh b1 s1 n + (b1 (s1 + n) - 96) = 27 * hsh b2 s2 n + (b2 (s2 + n) - 96)
    rw [hsh_cong n (fun i hi => h i (by omega)), h n (by omega)]
theorem hsh_lt {b : Nat → Nat} {s : Nat} : ∀ (n : Nat), (∀ i, i < n → 97 ≤ b (s + i) ∧ b (s + i) ≤ 122) → hsh b s n < 27 ^ n
  | 0, _ => Nat.one_pos
  | n + 1, h => by
    have h1 := hsh_lt n (fun i hi => h i (by omega))
    have h2 := h n (by omega)
    show 27 * hsh b s n + (b (s + n) - 96) < 27 ^ (n + 1)
    rw [Nat.pow_succ]
    omega
section WORDS
variable {b : Nat → Nat} {T : Nat}
def isW (b : Nat → Nat) (T e c : Nat) : Bool := decide (tkK b T e = 1 ∧ tkE b T e - tkS b T e = wln c ∧ ∀ i, i < wln c → b (tkS b T e + i) = wch c i)
theorem word_lp {s c : Nat} {x : HP} (hT : T ≤ 120) (hb : ∀ k, b k < 256) (hc : c < 12) (hP : TP b T x) (e3 : x.1.1 5 0 3 = nI s) (hs : s + wln c ≤ T) : ∀ (k f i : Nat), i + k = wln c → k < f → g_X5_isWord_28 f c (nI i) x = some (b2i (decide (∀ j, j < wln c → i ≤ j → b (s + j) = wch c j)), x)
  | 0, f, i, h1, h2 => by
    obtain ⟨f, rfl⟩ : ∃ z, f = z + 1 := ⟨f - 1, by omega⟩
    rw [g_X5_isWord_28, len_c hc, Option.bind_some]
    dsimp only
    rw [show i = wln c by omega, if_pos nI_le_n, decide_eq_true (show ∀ j, j < wln c → wln c ≤ j → b (s + j) = wch c j from fun j a d => absurd a (by omega))]
    rfl
  | k + 1, f, i, h1, h2 => by
    obtain ⟨f, rfl⟩ : ∃ z, f = z + 1 := ⟨f - 1, by omega⟩
    have hl := w_len c hc
    have hi : i < wln c := by omega
    have hbk := hb (s + i)
    have hw := w_let c hc i hi
    rw [g_X5_isWord_28, len_c hc, Option.bind_some]
    dsimp only
    rw [if_neg (nI_le_i (by omega) (by omega) hi), rI_5, e3, nI_add, ix120 (by omega), Option.bind_some, chr_c hc hi, Option.bind_some, rI_11, hP.2 (s + i) (by omega), nI_1, word_lp hT hb hc hP e3 hs k f (i + 1) (by omega) (by omega)]
    by_cases q : b (s + i) = wch c i
    · rw [if_pos (show nI (b (s + i)) = nI (wch c i) by rw [q])]
      by_cases z : ∀ j, j < wln c → i + 1 ≤ j → b (s + j) = wch c j
      · have z2 : ∀ j, j < wln c → i ≤ j → b (s + j) = wch c j := fun j a d => by
          by_cases y : j = i
          · rw [y]; exact q
          · exact z j a (by omega)
        rw [decide_eq_true z, decide_eq_true z2]
      · have z2 : ¬ ∀ j, j < wln c → i ≤ j → b (s + j) = wch c j := fun y => z (fun j a d => y j a (by omega))
        rw [decide_eq_false z, decide_eq_false z2]
    · rw [if_neg (show ¬ nI (b (s + i)) = nI (wch c i) from nI_ne (by omega) (by omega) q), decide_eq_false (show ¬ ∀ j, j < wln c → i ≤ j → b (s + j) = wch c j from fun y => q (y i hi (Nat.le_refl _)))]
      rfl
theorem tkK_le (e : Nat) : tkK b T e ≤ 4 := by
  unfold tkK
  split
  · exact (cl_le _).2
  · omega
theorem isWord_c {e c : Nat} {x : HP} (hT : T ≤ 120) (hb : ∀ k, b k < 256) (hc : c < 12) (he : e ≤ T) (hP : TP b T x) (hC : CT b T e x) : f_X5_isWord c x = some (b2i (isW b T e c), x) := by
  obtain ⟨c2, c3, c4, -⟩ := hC
  have hk := tkK_le (b := b) (T := T) e
  have hE := tkE_ge (b := b) he
  have hl := w_len c hc
  unfold f_X5_isWord isW
  rw [rI_5, c2]
  by_cases q : tkK b T e = 1
  · rw [if_pos (show nI (tkK b T e) = 1 by rw [q]; rfl), len_c hc, Option.bind_some]
    dsimp only
    rw [rI_5, c4, rI_5, c3, pk_sub hE.1]
    by_cases q2 : tkE b T e - tkS b T e = wln c
    · rw [if_pos (show nI (tkE b T e - tkS b T e) = nI (wln c) by rw [q2])]
      have := word_lp (s := tkS b T e) hT hb hc hP c3 (by omega) (wln c) am_fu 0 (by omega) (fu_lt (by omega))
      rw [nI_0] at this
      rw [this]
      by_cases z : ∀ i, i < wln c → b (tkS b T e + i) = wch c i
      · rw [decide_eq_true (show ∀ j, j < wln c → 0 ≤ j → b (tkS b T e + j) = wch c j from fun j d _ => z j d), decide_eq_true (show tkK b T e = 1 ∧ tkE b T e - tkS b T e = wln c ∧ ∀ i, i < wln c → b (tkS b T e + i) = wch c i from ⟨q, q2, z⟩)]
      · rw [decide_eq_false (show ¬ ∀ j, j < wln c → 0 ≤ j → b (tkS b T e + j) = wch c j from fun y => z (fun j d => y j d (Nat.zero_le _))), decide_eq_false (show ¬ (tkK b T e = 1 ∧ tkE b T e - tkS b T e = wln c ∧ ∀ i, i < wln c → b (tkS b T e + i) = wch c i) from fun y => z y.2.2)]
    · rw [if_neg (nI_ne (by omega) (by omega) q2), decide_eq_false (fun y => q2 y.2.1)]
      rfl
  · rw [if_neg (show ¬ nI (tkK b T e) = 1 from fun z => q ((nI_eq (b := 1) (by omega) (by decide)).mp z)), decide_eq_false (fun y => q y.1)]
    rfl
theorem isWord_r {e c : Nat} {y : HP} (hc : c < 12) (he : e ≤ T) (hR : RT b T e y) : f_X7_isWord (lN (wV c)) y = some (b2i (isW b T e c), y) := by
  obtain ⟨r5, r6, r7, r8, -⟩ := hR
  have hk := tkK_le (b := b) (T := T) e
  have hE := tkE_ge (b := b) he
  have hl := w_len c hc
  unfold f_X7_isWord isW
  rw [rI_7, r5]
  by_cases q : tkK b T e = 1
  · have hlet : ∀ i, i < tkE b T e - tkS b T e → 97 ≤ b (tkS b T e + i) ∧ b (tkS b T e + i) ≤ 122 := fun i hi => cl1 ((tk_in (Or.inl q) (by omega) (by omega)).trans q)
    rw [if_pos (show nI (min 3 (tkK b T e)) = 1 by rw [q]; rfl), rJ_7, r8 q]
    have key : lg_cmp (wdN b (tkS b T e) (tkE b T e - tkS b T e)) (lN (wV c)) = 0 ↔ (tkE b T e - tkS b T e = wln c ∧ ∀ i, i < wln c → b (tkS b T e + i) = wch c i) := by
      rw [lg_cmp_eq]
      have hV := w_V c hc
      unfold wdN
      by_cases z : tkE b T e - tkS b T e ≤ 12
      · have hlt := hsh_lt (tkE b T e - tkS b T e) hlet
        have hp : 27 ^ (tkE b T e - tkS b T e) ≤ 27 ^ 12 := Nat.pow_le_pow_right (by decide) z
        have h12 : (27 : Nat) ^ 12 < 2 ^ 63 := by decide
        rw [if_pos z, pk_lEQ (by omega) (by omega), ← w_hsh c hc]
        constructor
        · intro w
          obtain ⟨w1, w2⟩ := hsh_inj (s2 := 0) _ _ hlet (fun i hi => by rw [Nat.zero_add]; exact w_let c hc i hi) w
          refine ⟨w1, fun i hi => ?_⟩
          rw [w2 i (by omega), Nat.zero_add]
        · rintro ⟨w1, w2⟩
          rw [w1]
          exact hsh_cong _ (fun i hi => by rw [Nat.zero_add]; exact w2 i hi)
      · rw [if_neg z]
        constructor
        · intro w
          have h1 := congrArg Int64.toInt w
          rw [lN_toInt hV] at h1
          have h2 : (-1 : Int64).toInt = -1 := by decide
          omega
        · rintro ⟨w1, -⟩
          omega
    by_cases z : tkE b T e - tkS b T e = wln c ∧ ∀ i, i < wln c → b (tkS b T e + i) = wch c i
    · rw [if_pos (key.mpr z), decide_eq_true ⟨q, z⟩]
      rfl
    · rw [if_neg (fun w => z (key.mp w)), decide_eq_false (fun w => z w.2)]
      rfl
  · rw [if_neg (show ¬ nI (min 3 (tkK b T e)) = 1 from fun z => q (by have := (nI_eq (b := 1) (by omega) (by decide)).mp z; omega)), decide_eq_false (fun y => q y.1)]
    rfl
/-- numbers -/
def Rl (v u : Nat) : Prop := (v = u ∧ u ≤ 999) ∨ (1000 ≤ v ∧ 1000 ≤ u)
theorem nU_big : ∀ (c i a : Nat), 1000 ≤ a → 1000 ≤ nU b c i a
  | 0, _, a, h => h
  | c + 1, i, a, h => by
    unfold nU
    rw [if_neg (by omega)]
    exact nU_big c (i + 1) 10000 (by omega)
theorem nVU : ∀ (c i v u : Nat), Rl v u → Rl (nV b c i v) (nU b c i u)
  | 0, _, _, _, h => h
  | c + 1, i, v, u, h => by
    unfold nV nU
    rcases h with ⟨rfl, h⟩ | ⟨h1, h2⟩
    · rw [if_neg (by omega), if_pos h]
      refine nVU c (i + 1) _ _ ?_
      unfold Rl
      omega
    · rw [if_pos h1, if_neg (by omega)]
      exact Or.inr ⟨h1, nU_big c (i + 1) 10000 (by omega)⟩
theorem tkVU (e : Nat) : Rl (tkV b T e) (tkU b T e) := nVU _ _ 0 0 (Or.inl ⟨rfl, by omega⟩)
theorem nU_le : ∀ (c i a : Nat), (∀ k, b k < 256) → a ≤ 20000 → nU b c i a ≤ 20000
  | 0, _, a, _, h => h
  | c + 1, i, a, hb, h => by
    unfold nU
    have := hb i
    exact nU_le c (i + 1) _ hb (by split <;> omega)
end WORDS
