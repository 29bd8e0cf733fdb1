/-! PURE: rows told by day, days out and fines -/
def mkR (N : Nat → Int32) (n m dd : Nat) (o f : Nat → Nat) : Nat → Int32 := fun q => if q = 0 then nI dd else if 4 ≤ q ∧ q < 4 + 6 * n ∧ q % 6 = 3 then nI (o ((q - 4) / 6)) else if 52 ≤ q ∧ q < 52 + 2 * m ∧ q % 2 = 1 then nI (f ((q - 52) / 2)) else N q
def upF (f : Nat → Nat) (i v : Nat) : Nat → Nat := fun q => if q = i then v else f q
section ROWS
variable {N : Nat → Int32} {n m dd : Nat} {o f : Nat → Nat}
theorem mkR_0 : mkR N n m dd o f 0 = nI dd := if_pos rfl
theorem mkR_p {p : Nat} (h0 : ¬ p = 0) (hp : p < 4) : mkR N n m dd o f p = N p := by
  unfold mkR
  rw [if_neg h0, if_neg (by omega), if_neg (by omega)]
theorem hd_mk5 {i : Nat} (hi : i < n) : hd (mkR N n m dd o f) i 5 = nI (o i) := by
  unfold hd mkR
  rw [if_neg (by omega), if_pos (by omega), show (4 + 6 * i + 5 - 4) / 6 = i by omega]
theorem hd_mk {i k : Nat} (hi : i < 8) (hk : k < 5) : hd (mkR N n m dd o f) i k = hd N i k := by
  unfold hd mkR
  rw [if_neg (by omega), if_neg (by omega), if_neg (by omega)]
theorem mb_mk1 {p : Nat} (hn : n ≤ 8) (hp : p < m) : mb (mkR N n m dd o f) p 1 = nI (f p) := by
  unfold mb mkR
  rw [if_neg (by omega), if_neg (by omega), if_pos (by omega), show (52 + 2 * p + 1 - 52) / 2 = p by omega]
theorem mb_mk0 {p : Nat} (hn : n ≤ 8) : mb (mkR N n m dd o f) p 0 = mb N p 0 := by
  unfold mb mkR
  rw [if_neg (by omega), if_neg (by omega), if_neg (by omega)]
theorem mkR_congr {o' f' : Nat → Nat} (ho : ∀ i, i < n → o i = o' i) (hf : ∀ p, p < m → f p = f' p) : mkR N n m dd o f = mkR N n m dd o' f' := by
  funext q
  unfold mkR
  by_cases h0 : q = 0
  · rw [if_pos h0, if_pos h0]
  rw [if_neg h0, if_neg h0]
  by_cases h1 : 4 ≤ q ∧ q < 4 + 6 * n ∧ q % 6 = 3
  · rw [if_pos h1, if_pos h1, ho _ (by omega)]
  rw [if_neg h1, if_neg h1]
  by_cases h2 : 52 ≤ q ∧ q < 52 + 2 * m ∧ q % 2 = 1
  · rw [if_pos h2, if_pos h2, hf _ (by omega)]
  rw [if_neg h2, if_neg h2]
theorem mkR_o {i v : Nat} (hi : i < n) : upn (mkR N n m dd o f) (4 + 6 * i + 5) (nI v) = mkR N n m dd (upF o i v) f := by
  funext q
  by_cases e : q = 4 + 6 * i + 5
  · subst e
    rw [upn_s]
    unfold mkR upF
    rw [if_neg (by omega), if_pos (by omega), if_pos (by omega)]
  · rw [upn_n e]
    unfold mkR upF
    by_cases h1 : 4 ≤ q ∧ q < 4 + 6 * n ∧ q % 6 = 3
    · rw [if_neg (show ¬ (q - 4) / 6 = i by omega)]
    · rw [if_neg h1, if_neg h1]
theorem mkR_f {p v : Nat} (hn : n ≤ 8) (hp : p < m) : upn (mkR N n m dd o f) (52 + 2 * p + 1) (nI v) = mkR N n m dd o (upF f p v) := by
  funext q
  by_cases e : q = 52 + 2 * p + 1
  · subst e
    rw [upn_s]
    unfold mkR upF
    rw [if_neg (by omega), if_neg (by omega), if_pos (by omega), if_pos (by omega)]
  · rw [upn_n e]
    unfold mkR upF
    by_cases h1 : 52 ≤ q ∧ q < 52 + 2 * m ∧ q % 2 = 1
    · rw [if_neg (show ¬ (q - 52) / 2 = p by omega)]
    · rw [if_neg h1, if_neg h1]
theorem mkR_d {v : Nat} : upn (mkR N n m dd o f) 0 (nI v) = mkR N n m v o f := by
  funext q
  by_cases e : q = 0
  · subst e
    rw [upn_s]
    rfl
  · rw [upn_n e]
    unfold mkR
    rw [if_neg e, if_neg e]
def vN (x : Int32) : Nat := x.toNatClampNeg
theorem vN_nI {k : Nat} (h : k < 2 ^ 31) : vN (nI k) = k := nI_clamp h
def oN (N : Nat → Int32) (i : Nat) : Nat := vN (hd N i 5)
def fN (N : Nat → Int32) (p : Nat) : Nat := vN (mb N p 1)
theorem mkR_self {d l : Nat} (hW : WF N n m d l) : mkR N n m d (oN N) (fN N) = N := by
  obtain ⟨w1, w2, w3, w4, w5, w6, w7, w8, w9, w10⟩ := hW
  funext q
  unfold mkR
  by_cases h0 : q = 0
  · rw [if_pos h0, h0, w3]
  rw [if_neg h0]
  by_cases h1 : 4 ≤ q ∧ q < 4 + 6 * n ∧ q % 6 = 3
  · rw [if_pos h1]
    have e : hd N ((q - 4) / 6) 5 = N q := congrArg N (show 4 + 6 * ((q - 4) / 6) + 5 = q by omega)
    have : ∃ k, k < 2 ^ 31 ∧ hd N ((q - 4) / 6) 5 = nI k := by
      rcases (w9 ((q - 4) / 6) (by omega)).2.2.2.2 with ⟨-, z⟩ | ⟨-, -, -, k, hk, z⟩
      · exact ⟨0, by decide, z⟩
      · exact ⟨k, by omega, z⟩
    obtain ⟨k, hk, z⟩ := this
    unfold oN
    rw [z, vN_nI hk, ← z, e]
  rw [if_neg h1]
  by_cases h2 : 52 ≤ q ∧ q < 52 + 2 * m ∧ q % 2 = 1
  · rw [if_pos h2]
    have e : mb N ((q - 52) / 2) 1 = N q := congrArg N (show 52 + 2 * ((q - 52) / 2) + 1 = q by omega)
    obtain ⟨k, hk, z⟩ := (w10 ((q - 52) / 2) (by omega)).2
    unfold fN
    rw [z, vN_nI (by omega), ← z, e]
  rw [if_neg h2]
theorem oN_nI {d l i : Nat} (hW : WF N n m d l) (hi : i < n) : hd N i 5 = nI (oN N i) ∧ oN N i ≤ d := by
  rcases (hW.2.2.2.2.2.2.2.2.1 i hi).2.2.2.2 with ⟨-, z⟩ | ⟨-, -, -, k, hk, z⟩
  · unfold oN
    rw [z]
    exact ⟨by decide, Nat.zero_le _⟩
  · have := hW.2.2.2.1
    unfold oN
    rw [z, vN_nI (by omega)]
    exact ⟨rfl, hk⟩
theorem fN_nI {d l p : Nat} (hW : WF N n m d l) (hp : p < m) : mb N p 1 = nI (fN N p) ∧ fN N p ≤ 9999 := by
  obtain ⟨k, hk, z⟩ := (hW.2.2.2.2.2.2.2.2.2 p hp).2
  unfold fN
  rw [z, vN_nI (by omega)]
  exact ⟨rfl, hk⟩
/-- sums -/
def sm (w : Nat → Nat) : Nat → Nat → Nat
  | 0, _ => 0
  | k + 1, t => w t + sm w k (t + 1)
theorem sm_congr {w w' : Nat → Nat} : ∀ (k t : Nat), (∀ i, t ≤ i → i < t + k → w i = w' i) → sm w k t = sm w' k t
  | 0, _, _ => rfl
  | k + 1, t, h => by
    unfold sm
    rw [h t (by omega) (by omega), sm_congr k (t + 1) (fun i h1 h2 => h i (by omega) (by omega))]
theorem sm_add {w w' : Nat → Nat} : ∀ (k t : Nat), sm w k t + sm w' k t = sm (fun i => w i + w' i) k t
  | 0, _ => rfl
  | k + 1, t => by
    unfold sm
    rw [← sm_add k (t + 1)]
    omega
theorem sm_le {w : Nat → Nat} {B : Nat} : ∀ (k t : Nat), (∀ i, t ≤ i → i < t + k → w i ≤ B) → sm w k t ≤ k * B
  | 0, _, _ => by rw [Nat.zero_mul]; exact Nat.le_refl _
  | k + 1, t, h => by
    have h1 := h t (by omega) (by omega)
    have h2 := sm_le (w := w) (B := B) k (t + 1) (fun i a b => h i (by omega) (by omega))
    unfold sm
    rw [Nat.succ_mul]
    omega
/-- what p owes for t days more, with loans of l days -/
def due (N : Nat → Int32) (n l t p : Nat) (o : Nat → Nat) : Nat := sm (fun i => if hd N i 4 = nI p then min t (o i + t - l) else 0) n 0
def oS (N : Nat → Int32) (o : Nat → Nat) (t : Nat) : Nat → Nat := fun i => if hd N i 4 = -1 then o i else o i + t
def fS (N : Nat → Int32) (n l t : Nat) (o f : Nat → Nat) : Nat → Nat := fun p => min 9999 (f p + due N n l t p o)
end ROWS
