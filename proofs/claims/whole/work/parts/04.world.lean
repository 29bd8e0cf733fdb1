/-! THE ABSTRACT HEAP AS A WORLD OF CELLS -/
/-- what is fixed in a run: classes and slots, classes of rows, where the cells lie, the texts and their bytes, the script, a static that nobody looks at -/
abbrev AG : Type := va_G × (Nat → ClassId) × (Nat → Nat) × (Nat → Nat) × (Nat → Nat) × (Nat × Nat × (Nat → Int32)) × Value
def am_off (c : Nat) : Nat := match c with
  | 0 => 0
  | 1 => 24
  | 2 => 27
  | 3 => 45
  | 4 => 49
  | 5 => 50
  | 6 => 51
  | 7 => 52
  | 8 => 53
  | 9 => 56
  | 10 => 59
  | 11 => 60
  | 12 => 62
  | 13 => 66
  | 14 => 74
  | _ => 76
def am_dec (i : Nat) : Nat × Nat := if i < 24 then (0, i) else if i < 27 then (1, i - 24) else if i < 45 then (2, i - 27) else if i < 49 then (3, i - 45) else if i < 50 then (4, 0) else if i < 51 then (5, 0) else if i < 52 then (6, 0) else if i < 53 then (7, 0) else if i < 56 then (8, i - 53) else if i < 59 then (9, i - 56) else if i < 60 then (10, 0) else if i < 62 then (11, i - 60) else if i < 66 then (12, i - 62) else if i < 74 then (13, i - 66) else (14, i - 74)
theorem am_dec_off : ∀ c, c < 15 → ∀ j, j < am_cnt c → am_dec (am_off c + j) = (c, j) ∧ am_off c + j < 76 := by decide +kernel
theorem am_off_dec : ∀ i, i < 76 → (am_dec i).1 < 15 ∧ (am_dec i).2 < am_cnt (am_dec i).1 ∧ am_off (am_dec i).1 + (am_dec i).2 = i := by decide +kernel
def am_loc (G : AG) (q : Nat × Nat) : Nat := match q.1 with
  | 15 => G.2.2.2.2.2.1.1
  | 16 => G.2.2.2.1 q.2
  | 17 => G.2.2.2.2.1 q.2
  | c => G.2.2.1 (am_off c + q.2)
def am_tr (G : AG) : AV → Value
  | .inl x => .int x
  | .inr (.inl x) => .long x
  | .inr (.inr (.inl q)) => .ref (am_loc G q)
  | .inr (.inr (.inr _)) => G.2.2.2.2.2.2
def am_wv : AV → Prop
  | .inr (.inr (.inl q)) => q.2 < am_cnt q.1
  | _ => True
def am_fv (G : AG) (h : HP) (c j k : Nat) : Value := match am_ft c k with
  | 2 => .long (h_rJ h c j k)
  | 3 => .ref (am_loc G (am_rf c j k))
  | _ => .int (h_rI h c j k)
def am_cell (G : AG) (h : HP) (c j : Nat) : va_E := match c with
  | 8 => .inl (G.2.1 8, 8, .inr (.inr (.inr (.inr (fun i => some (am_loc G (am_rf 8 j i)))))))
  | 9 => .inl (G.2.1 9, 6, .inr (.inr (.inr (.inr (fun i => some (am_loc G (am_rf 9 j i)))))))
  | 10 => .inl (G.2.1 10, 4, .inr (.inr (.inr (.inr (fun i => some (am_loc G (am_rf 10 j i)))))))
  | 11 => .inl (G.2.1 11, am_len 11 j, .inl (fun k => h_rI h 11 j k))
  | 12 => .inl (G.2.1 12, am_len 12 j, .inr (.inl (fun k => h_rJ h 12 j k)))
  | 13 => .inl (G.2.1 11, am_len 13 j, .inl (fun k => h_rI h 13 j k))
  | 14 => .inl (G.2.1 12, am_len 14 j, .inr (.inl (fun k => h_rJ h 14 j k)))
  | c => .inr (c, (List.range (am_fl c).length).map (am_fv G h c j))
def am_w (G : AG) (h : HP) : va_W := (List.range 76).map (fun i => (G.2.2.1 i, am_cell G h (am_dec i).1 (am_dec i).2))
def am_reg (G : AG) : Nat → Prop := fun q => ∃ i, i < 76 ∧ q = G.2.2.1 i
def am_tys (G : AG) : List (ClassId × FieldType) := [(G.2.1 8, .object RX0), (G.2.1 9, .object RX2), (G.2.1 10, .object RX3), (G.2.1 11, .int), (G.2.1 12, .long)]
def am_six (i : Nat) : Nat := ([44, 53, 66, 72, 74, 83, 98, 100, 102, 104, 106, 108] : List Nat).getD i 0
def am_stx (i : Nat) : String := (["member", "loan", "from", "to", "wear", "at", "brass", "bone", "rope", "knob", "latch", "handle"] : List String).getD i ""
/-- what holds of the tables, of what nobody writes, and of where the cells lie -/
def am_E (G : AG) (U : State) : Prop :=
  va_K G.1 vwCl (am_tys G) U ∧ va_X G.2.2.2.2.2.1.1 G.2.2.2.2.2.1.2.1 G.2.2.2.2.2.1.2.2 U U.heap ∧ ¬ am_reg G G.2.2.2.2.2.1.1 ∧ vk_S 12 am_bln am_byt G.2.2.2.1 G.2.2.2.2.1 (am_reg G) U U.heap ∧ (∀ i, i < 12 → vk_R RX5 (am_six i) (am_stx i) (G.2.2.2.1 i) U) ∧
  va_Z "java/lang/String" "COMPACT_STRINGS" "Z" (.int 1) (am_reg G) U U.heap ∧ va_Z "jdk/internal/util/Preconditions" "SIOOBE_FORMATTER" "Ljava/util/function/BiFunction;" G.2.2.2.2.2.2 (am_reg G) U U.heap ∧ G.2.2.2.2.2.2.category = 1 ∧ (∀ i j, i < 76 → j < 76 → G.2.2.1 i = G.2.2.1 j → i = j)
theorem am_E.call {G : AG} {U : State} {g : JFrame} {mk : MethodId} {a : Array Value} (h : am_E G U) : am_E G (U.calling g mk a) := by
  obtain ⟨h1, h2, h3, h4, h5, h6, h7, h8⟩ := h
  exact ⟨va_K.moved (u := U) (U := U.calling g mk a) (Vm.Alike.refl U.vm) h1, va_X.moved (u := U) (U := U.calling g mk a) (Vm.Alike.refl U.vm) h2, h3, vk_S.moved (u := U) (U := U.calling g mk a) (Vm.Alike.refl U.vm) h4, fun i hi => vk_R.same (u := U) (U := U.calling g mk a) rfl (h5 i hi), va_Z.moved (u := U) (U := U.calling g mk a) (Vm.Alike.refl U.vm) h6, va_Z.moved (u := U) (U := U.calling g mk a) (Vm.Alike.refl U.vm) h7, h8⟩
theorem am_E.go {G : AG} {s U : State} {locs : List Loc} (h : am_E G s) (hS : va_S (am_reg G) s.heap U.heap locs) (hW : s.WarmedH U.vm) : am_E G U := by
  obtain ⟨h1, h2, h3, h4, h5, h6, h7, h8⟩ := h
  have hq := hS.2.1
  refine ⟨va_K.moved hW.alike h1, va_X.moved hW.alike (h2.kept (hq _ ?_ h3)), h3, vk_S.moved hW.alike (h4.kept hq), fun i hi => vk_R.warm hW (h5 i hi), va_Z.moved hW.alike (h6.kept hq), va_Z.moved hW.alike (h7.kept hq), h8⟩
  obtain ⟨scr, hs, -⟩ := h2
  exact (Array.getElem?_eq_some_iff.mp hs).1
theorem am_w_at (G : AG) (h : HP) {c j : Nat} (hc : c < 15) (hj : j < am_cnt c) : (am_w G h)[am_off c + j]? = some (G.2.2.1 (am_off c + j), am_cell G h c j) := by
  obtain ⟨h1, h2⟩ := am_dec_off c hc j hj
  rw [am_w, List.getElem?_map, List.getElem?_range h2]
  simp [h1]
theorem am_D (G : AG) (hi : ∀ i j, i < 76 → j < 76 → G.2.2.1 i = G.2.2.1 j → i = j) (h : HP) : va_D (am_reg G) (am_w G h) := by
  have key : ∀ (k : Nat) (q : Nat × va_E), (am_w G h)[k]? = some q → k < 76 ∧ q.1 = G.2.2.1 k := by
    intro k q hq
    have hk : k < 76 := by
      have := (List.getElem?_eq_some_iff.mp hq).1
      simpa [am_w] using this
    rw [am_w, List.getElem?_map, List.getElem?_range hk] at hq
    cases hq
    exact ⟨hk, rfl⟩
  refine ⟨fun i j p q hp hq e => ?_, fun k q hq => ?_⟩
  · obtain ⟨a1, a2⟩ := key i p hp
    obtain ⟨b1, b2⟩ := key j q hq
    exact hi i j a1 b1 (by rw [← a2, ← b2, e])
  · obtain ⟨a1, a2⟩ := key k q hq
    exact ⟨k, a1, a2⟩
theorem am_cell_congr (G : AG) {h h2 : HP} {c j : Nat} (e1 : ∀ k, h_rI h2 c j k = h_rI h c j k) (e2 : ∀ k, h_rJ h2 c j k = h_rJ h c j k) : am_cell G h2 c j = am_cell G h c j := by
  have e3 : am_fv G h2 c j = am_fv G h c j := by
    funext k
    unfold am_fv
    rw [e1, e2]
  unfold am_cell
  split <;> first | rfl | (simp only [e1]; done) | (simp only [e2]; done) | (rw [e3]; done)
/-- one cell's change is the world's -/
theorem am_w_set (G : AG) {h h2 : HP} {c j : Nat} (hc : c < 15) (hj : j < am_cnt c) (e : ∀ c' j' k, ¬ (c' = c ∧ j' = j) → h_rI h2 c' j' k = h_rI h c' j' k ∧ h_rJ h2 c' j' k = h_rJ h c' j' k) :
    (am_w G h).set (am_off c + j) (G.2.2.1 (am_off c + j), am_cell G h2 c j) = am_w G h2 := by
  obtain ⟨h1, h2'⟩ := am_dec_off c hc j hj
  apply List.ext_getElem?
  intro i
  rw [List.getElem?_set]
  by_cases hi : am_off c + j = i
  · subst hi
    rw [if_pos rfl, if_pos (by simpa [am_w] using h2')]
    rw [am_w_at G h2 hc hj]
  · rw [if_neg hi]
    by_cases hl : i < 76
    · obtain ⟨g1, g2, g3⟩ := am_off_dec i hl
      have hne : ¬ ((am_dec i).1 = c ∧ (am_dec i).2 = j) := by
        rintro ⟨e1, e2⟩
        rw [e1, e2] at g3
        exact hi g3
      have hh := am_cell_congr G (fun k => (e _ _ k hne).1) (fun k => (e _ _ k hne).2)
      simp only [am_w, List.getElem?_map, List.getElem?_range hl, Option.map_some, hh]
    · simp [am_w, hl]
theorem h_rI_wI (h : HP) (c j k c' j' k' : Nat) (v : Int32) : h_rI (h_wI h c j k v) c' j' k' = if c' = c ∧ j' = j ∧ k' = k then v else h_rI h c' j' k' := by
  unfold h_rI h_wI
  cases e1 : am_rs c <;> cases e2 : am_rs c' <;> simp only [am_up]
  · have hn : ¬ (c' = c ∧ j' = j ∧ k' = k) := fun q => by rw [q.1, e1] at e2; cases e2
    rw [if_neg hn]
  · have hn : ¬ (c' = c ∧ j' = j ∧ k' = k) := fun q => by rw [q.1, e1] at e2; cases e2
    rw [if_neg hn]
theorem h_rJ_wI (h : HP) (c j k c' j' k' : Nat) (v : Int32) : h_rJ (h_wI h c j k v) c' j' k' = h_rJ h c' j' k' := by
  unfold h_rJ h_wI
  cases am_rs c <;> cases am_rs c' <;> rfl
theorem h_rJ_wJ (h : HP) (c j k c' j' k' : Nat) (v : Int64) : h_rJ (h_wJ h c j k v) c' j' k' = if c' = c ∧ j' = j ∧ k' = k then v else h_rJ h c' j' k' := by
  unfold h_rJ h_wJ
  cases e1 : am_rs c <;> cases e2 : am_rs c' <;> simp only [am_up]
  · have hn : ¬ (c' = c ∧ j' = j ∧ k' = k) := fun q => by rw [q.1, e1] at e2; cases e2
    rw [if_neg hn]
  · have hn : ¬ (c' = c ∧ j' = j ∧ k' = k) := fun q => by rw [q.1, e1] at e2; cases e2
    rw [if_neg hn]
theorem h_rI_wJ (h : HP) (c j k c' j' k' : Nat) (v : Int64) : h_rI (h_wJ h c j k v) c' j' k' = h_rI h c' j' k' := by
  unfold h_rI h_wJ
  cases am_rs c <;> cases am_rs c' <;> rfl
theorem am_w_wI (G : AG) (h : HP) {c j : Nat} (k : Nat) (v : Int32) (hc : c < 15) (hj : j < am_cnt c) : (am_w G h).set (am_off c + j) (G.2.2.1 (am_off c + j), am_cell G (h_wI h c j k v) c j) = am_w G (h_wI h c j k v) :=
  am_w_set G hc hj (fun c' j' k' hn => ⟨by rw [h_rI_wI, if_neg (fun q => hn ⟨q.1, q.2.1⟩)], h_rJ_wI _ _ _ _ _ _ _ _⟩)
theorem am_w_wJ (G : AG) (h : HP) {c j : Nat} (k : Nat) (v : Int64) (hc : c < 15) (hj : j < am_cnt c) : (am_w G h).set (am_off c + j) (G.2.2.1 (am_off c + j), am_cell G (h_wJ h c j k v) c j) = am_w G (h_wJ h c j k v) :=
  am_w_set G hc hj (fun c' j' k' hn => ⟨h_rI_wJ _ _ _ _ _ _ _ _, by rw [h_rJ_wJ, if_neg (fun q => hn ⟨q.1, q.2.1⟩)]⟩)
theorem h_rJ_cp (h : HP) (j1 j2 sp dp n c j k : Nat) : h_rJ (h_cp h j1 j2 sp dp n) c j k = if c = 12 ∧ j = j2 then va_cpy (h_rJ h 12 j1) (h_rJ h 12 j2) sp dp n k else h_rJ h c j k := by
  have e12 : am_rs 12 = false := rfl
  have e0 : ∀ j, h_rJ h 12 j = h.1.2 12 j := fun j => by funext k; simp [h_rJ, e12]
  rw [e0, e0]
  unfold h_rJ h_cp
  cases e2 : am_rs c
  · rfl
  · have hn : ¬ (c = 12 ∧ j = j2) := fun q => by rw [q.1, e12] at e2; cases e2
    simp only [if_neg hn]
theorem h_rI_cp (h : HP) (j1 j2 sp dp n c j k : Nat) : h_rI (h_cp h j1 j2 sp dp n) c j k = h_rI h c j k := by
  unfold h_rI h_cp
  cases am_rs c <;> rfl
theorem am_w_cp (G : AG) (h : HP) {j1 j2 : Nat} (sp dp n : Nat) (hj : j2 < 4) : (am_w G h).set (am_off 12 + j2) (G.2.2.1 (am_off 12 + j2), am_cell G (h_cp h j1 j2 sp dp n) 12 j2) = am_w G (h_cp h j1 j2 sp dp n) :=
  am_w_set G (by decide) hj (fun c' j' k' hn => ⟨h_rI_cp _ _ _ _ _ _ _ _ _, by rw [h_rJ_cp, if_neg hn]⟩)
/-- an object's fields behind a put -/
theorem am_fs_wI (G : AG) (h : HP) {c j k n : Nat} (v : Int32) (hk : am_ft c k = 0 ∨ am_ft c k = 1) : ((List.range n).map (am_fv G h c j)).set k (.int v) = (List.range n).map (am_fv G (h_wI h c j k v) c j) := by
  apply List.ext_getElem?
  intro i
  rw [List.getElem?_set]
  by_cases hi : k = i
  · subst hi
    rw [if_pos rfl]
    by_cases hl : k < n
    · rw [if_pos (by simpa using hl), List.getElem?_map, List.getElem?_range hl]
      have : am_fv G (h_wI h c j k v) c j k = .int v := by
        unfold am_fv
        rcases hk with e | e <;> simp [e, h_rI_wI]
      simp [this]
    · simp [hl]
  · rw [if_neg hi]
    by_cases hl : i < n
    · have : am_fv G (h_wI h c j k v) c j i = am_fv G h c j i := by
        unfold am_fv
        rw [h_rI_wI, h_rJ_wI, if_neg (fun q => hi q.2.2.symm)]
      simp [List.getElem?_map, List.getElem?_range hl, this]
    · simp [hl]
theorem am_fs_wJ (G : AG) (h : HP) {c j k n : Nat} (v : Int64) (hk : am_ft c k = 2) : ((List.range n).map (am_fv G h c j)).set k (.long v) = (List.range n).map (am_fv G (h_wJ h c j k v) c j) := by
  apply List.ext_getElem?
  intro i
  rw [List.getElem?_set]
  by_cases hi : k = i
  · subst hi
    rw [if_pos rfl]
    by_cases hl : k < n
    · rw [if_pos (by simpa using hl), List.getElem?_map, List.getElem?_range hl]
      have : am_fv G (h_wJ h c j k v) c j k = .long v := by
        unfold am_fv
        simp [hk, h_rJ_wJ]
      simp [this]
    · simp [hl]
  · rw [if_neg hi]
    by_cases hl : i < n
    · have : am_fv G (h_wJ h c j k v) c j i = am_fv G h c j i := by
        unfold am_fv
        rw [h_rI_wJ, h_rJ_wJ, if_neg (fun q => hi q.2.2.symm)]
      simp [List.getElem?_map, List.getElem?_range hl, this]
    · simp [hl]
theorem am_cell_o (G : AG) (h : HP) {c j : Nat} (hc : c < 8) : am_cell G h c j = .inr (c, (List.range (am_fl c).length).map (am_fv G h c j)) := by
  unfold am_cell
  split <;> first | omega | rfl
theorem am_loc_o (G : AG) {c j : Nat} (hc : c < 15) : am_loc G (c, j) = G.2.2.1 (am_off c + j) := by
  unfold am_loc
  dsimp only
  split <;> first | omega | rfl
