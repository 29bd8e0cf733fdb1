/-! PURE: a day goes by; days go by -/
theorem FR.trans {r : Nat} {x y z : HP} (p : FR r x y) (q : FR r y z) : FR r x z := ⟨q.1.trans p.1, q.2.1.trans p.2.1, fun c j k h => (q.2.2 c j k h).trans (p.2.2 c j k h)⟩
theorem FR.rfl' (r : Nat) (h : HP) : FR r h h := ⟨rfl, rfl, fun _ _ _ _ => rfl⟩
theorem FR.w0 (h : HP) (k : Nat) (v : Int32) : FR 0 h (h_wI h 13 0 k v) := (FR.rfl' 0 h).w k v
theorem held_r {x : Nat} (hx : x < 2 ^ 30) (h : HP) : f_X7_held (nI x) 0 9999 h = some (nI (min 9999 x), h) := by
  unfold f_X7_held
  rw [if_pos (nI_pos' (by omega))]
  by_cases q : x ≤ 9999
  · rw [if_pos (show nI x ≤ 9999 from (nI_leI (b := 9999) (by omega) (by decide)).mpr q), show min 9999 x = x by omega]
  · rw [if_neg (show ¬ nI x ≤ 9999 from fun z => q ((nI_leI (b := 9999) (by omega) (by decide)).mp z)), show min 9999 x = 9999 by omega]
    rfl
theorem isLate_d {h : HP} {i : Nat} (hi : i < 8) (hl : hd (rv h) i 4 < 0 ↔ hd (rv h) i 4 = -1) : f_X7_isLate (nI i) h = some (b2i (sLate (rv h) i), h) := by
  unfold f_X7_isLate sLate
  simp only [its4 hi, its5 hi, Option.bind_some, ix64_1, rv_1, hl]
  by_cases e1 : hd (rv h) i 4 = -1
  · simp [e1, b2i]
  · by_cases e2 : hd (rv h) i 5 ≤ rv h 1
    · simp [e1, e2, b2i]
    · simp [e1, e2, b2i]
section DAYS
variable {N : Nat → Int32} {n m l : Nat}
/-- what days need of a row -/
def DN (N : Nat → Int32) (n m l : Nat) : Prop := n ≤ 8 ∧ m ≤ 6 ∧ N 1 = nI l ∧ l ≤ 30 ∧ N 2 = nI n ∧ ∀ i, i < n → hd N i 4 = -1 ∨ ∃ p, p < m ∧ hd N i 4 = nI p
theorem WF.dn {d : Nat} (hW : WF N n m d l) : DN N n m l := by
  obtain ⟨w1, w2, w3, w4, w5, w6, w7, w8, w9, w10⟩ := hW
  refine ⟨w1, w2, w5, w6, w7, fun i hi => ?_⟩
  rcases (w9 i hi).2.2.2.2 with z | ⟨p, hp, z, -⟩
  · exact Or.inl z.1
  · exact Or.inr ⟨p, hp, z⟩
def wD (N : Nat → Int32) (l : Nat) (o : Nat → Nat) (p i : Nat) : Nat := if hd N i 4 = nI p ∧ l < o i + 1 then 1 else 0
theorem day_lp (hD : DN N n m l) : ∀ (k f t dd : Nat) (o fi : Nat → Nat) (h : HP), t + k = n → k < f → rv h = mkR N n m dd o fi → dd < 2 ^ 20 → (∀ i, t ≤ i → i < n → o i < 2 ^ 20) → (∀ p, p < m → fi p ≤ 9999) → ∃ g, g_X7_oneDay_2 f (nI t) h = some g ∧ FR 0 h g ∧ rv g = mkR N n m (dd + 1) (fun i => if t ≤ i ∧ ¬ hd N i 4 = -1 then o i + 1 else o i) (fun p => min 9999 (fi p + sm (wD N l o p) k t))
  | 0, f, t, dd, o, fi, h, h1, h2, e, hdd, ho, hf => by
    obtain ⟨f, rfl⟩ : ∃ z, f = z + 1 := ⟨f - 1, by omega⟩
    obtain ⟨d1, d2, d3, d4, d5, d6⟩ := hD
    refine ⟨h_wI h 13 0 0 (nI (dd + 1)), ?_, FR.w0 h 0 _, ?_⟩
    · rw [g_X7_oneDay_2, ix64_2]
      show (if h_rI h 13 0 2 ≤ nI t then _ else _) = _
      rw [rv_2, e, mkR_p (by decide) (by decide), d5, show t = n by omega, if_pos nI_le_n, ix64_0]
      show some (h_wI h 13 0 0 (h_rI h 13 0 0 + 1)) = _
      rw [rv_0, e, mkR_0, nI_1]
    · rw [rv_w, e, mkR_d]
      refine mkR_congr (fun i hi => ?_) (fun p hp => ?_)
      · rw [if_neg (by omega)]
      · have := hf p hp
        unfold sm
        omega
  | k + 1, f, t, dd, o, fi, h, h1, h2, e, hdd, ho, hf => by
    obtain ⟨f, rfl⟩ : ∃ z, f = z + 1 := ⟨f - 1, by omega⟩
    obtain ⟨d1, d2, d3, d4, d5, d6⟩ := id hD
    have ht : t < n := by omega
    have h8 : t < 8 := by omega
    have hot := ho t (Nat.le_refl t) ht
    have e0 : g_X7_oneDay_2 (f + 1) (nI t) h = if hd N t 4 < 0 then g_X7_oneDay_35 (g_X7_oneDay_2 f) (nI t) (nI t) 5 (nI (o t)) 0 h else g_X7_oneDay_35 (g_X7_oneDay_2 f) (nI t) (nI t) 5 (nI (o t)) 1 h := by
      rw [g_X7_oneDay_2, ix64_2]
      show (if h_rI h 13 0 2 ≤ nI t then _ else _) = _
      rw [rv_2, e, mkR_p (by decide) (by decide), d5, if_neg (nI_le_i (by omega) (by omega) ht), its5 h8]
      show (f_X7_its (nI t) 4 h).bind _ = _
      rw [its4 h8, e, hd_mk5 ht, hd_mk h8 (by decide)]
      rfl
    rw [e0]
    rcases d6 t ht with q | ⟨p, hp, q⟩
    · -- not lent
      obtain ⟨g, g1, g2, g3⟩ := day_lp hD k f (t + 1) dd (upF o t (o t)) fi (h_wI h 13 0 (4 + 6 * t + 5) (nI (o t))) (by omega) (by omega) (by rw [rv_w, e, mkR_o ht]) hdd (fun i ha hi => by
        unfold upF
        rw [if_neg (by omega)]
        exact ho i (by omega) hi) hf
      refine ⟨g, ?_, (FR.w0 h _ _).trans g2, ?_⟩
      · rw [q, if_pos (by decide)]
        unfold g_X7_oneDay_35
        rw [puts5 h8, show nI (o t) + 0 = nI (o t) from Int32.add_zero _]
        show (f_X7_isLate (nI t) (h_wI h 13 0 (4 + 6 * t + 5) (nI (o t)))).bind _ = _
        have e4 : hd (rv (h_wI h 13 0 (4 + 6 * t + 5) (nI (o t)))) t 4 = -1 := by rw [rv_w, e, mkR_o ht, hd_mk h8 (by decide), q]
        rw [isLate_d h8 (by rw [e4]; decide)]
        have : sLate (rv (h_wI h 13 0 (4 + 6 * t + 5) (nI (o t)))) t = false := by
          unfold sLate
          rw [e4]
          rfl
        rw [this, nI_1]
        exact g1
      · rw [g3]
        refine mkR_congr (fun i hi => ?_) (fun p' hp' => ?_)
        · unfold upF
          by_cases z : i = t
          · subst z
            rw [if_neg (by omega), if_pos rfl, if_neg (fun y => y.2 q)]
          · rw [if_neg z]
            by_cases y : t + 1 ≤ i ∧ ¬ hd N i 4 = -1
            · rw [if_pos y, if_pos ⟨by omega, y.2⟩]
            · rw [if_neg y, if_neg (fun x => y ⟨by omega, x.2⟩)]
        · have e1 : sm (wD N l (upF o t (o t)) p') k (t + 1) = sm (wD N l o p') k (t + 1) := sm_congr k (t + 1) (fun i a b => by
            unfold wD upF
            rw [if_neg (show ¬ i = t by omega)])
          have e2 : wD N l o p' t = 0 := by
            unfold wD
            rw [if_neg]
            intro y
            rw [q] at y
            exact nI_m1 (by omega) y.1.symm
          show min 9999 (fi p' + sm (wD N l (upF o t (o t)) p') k (t + 1)) = min 9999 (fi p' + (wD N l o p' t + sm (wD N l o p') k (t + 1)))
          rw [e1, e2]
          omega
    · -- lent to p
      have qn : ¬ hd N t 4 = -1 := by rw [q]; exact nI_m1 (by omega)
      have eR : rv (h_wI h 13 0 (4 + 6 * t + 5) (nI (o t + 1))) = mkR N n m dd (upF o t (o t + 1)) fi := by rw [rv_w, e, mkR_o ht]
      have e4 : hd (rv (h_wI h 13 0 (4 + 6 * t + 5) (nI (o t + 1)))) t 4 = nI p := by rw [eR, hd_mk h8 (by decide), q]
      have eL : sLate (rv (h_wI h 13 0 (4 + 6 * t + 5) (nI (o t + 1)))) t = decide (l < o t + 1) := by
        unfold sLate
        rw [e4, decide_eq_false (nI_m1 (by omega)), eR, hd_mk5 ht, mkR_p (by decide) (by decide), d3]
        unfold upF
        rw [if_pos rfl]
        by_cases z : l < o t + 1
        · rw [decide_eq_true z, decide_eq_false (fun y => by have := (nI_leI (by omega) (by omega)).mp y; omega)]
          rfl
        · rw [decide_eq_false z, decide_eq_true ((nI_leI (by omega) (by omega)).mpr (by omega))]
          rfl
      have ho' : ∀ i, t + 1 ≤ i → i < n → upF o t (o t + 1) i < 2 ^ 20 := fun i ha hi => by
        unfold upF
        rw [if_neg (by omega)]
        exact ho i (by omega) hi
      have eO : ∀ i, i < n → (if t + 1 ≤ i ∧ ¬ hd N i 4 = -1 then upF o t (o t + 1) i + 1 else upF o t (o t + 1) i) = (if t ≤ i ∧ ¬ hd N i 4 = -1 then o i + 1 else o i) := fun i hi => by
        unfold upF
        by_cases z : i = t
        · subst z
          rw [if_neg (by omega), if_pos rfl, if_pos ⟨Nat.le_refl _, qn⟩]
        · rw [if_neg z]
          by_cases y : t + 1 ≤ i ∧ ¬ hd N i 4 = -1
          · rw [if_pos y, if_pos ⟨by omega, y.2⟩]
          · rw [if_neg y, if_neg (fun x => y ⟨by omega, x.2⟩)]
      have e1 : ∀ p', sm (wD N l (upF o t (o t + 1)) p') k (t + 1) = sm (wD N l o p') k (t + 1) := fun p' => sm_congr k (t + 1) (fun i a b => by
        unfold wD upF
        rw [if_neg (show ¬ i = t by omega)])
      have eV : g_X7_oneDay_35 (g_X7_oneDay_2 f) (nI t) (nI t) 5 (nI (o t)) 1 h = (f_X7_isLate (nI t) (h_wI h 13 0 (4 + 6 * t + 5) (nI (o t + 1)))).bind (fun q_2 => if q_2.1 = (0 : Int32) then (g_X7_oneDay_2 f (nI t + 1) q_2.2) else ((f_X7_its (nI t) 4 q_2.2).bind (fun q_3 => (am_ix ((52 + (2 * q_3.1)) + 1) 64).bind (fun k_4 => (f_X7_held ((h_rI q_3.2 13 0 k_4) + 1) 0 9999 q_3.2).bind (fun q_5 => (am_ix ((52 + (2 * q_3.1)) + 1) 64).bind (fun k_6 => g_X7_oneDay_2 f (nI t + 1) (h_wI q_5.2 13 0 k_6 q_5.1))))))) := by
        unfold g_X7_oneDay_35
        rw [puts5 h8, nI_1]
        rfl
      rw [if_neg (show ¬ hd N t 4 < 0 by rw [q]; exact nI_pos (by omega)), eV, isLate_d h8 (by rw [e4]; exact ⟨fun z => absurd z (nI_pos (by omega)), fun z => absurd z (nI_m1 (by omega))⟩), eL]
      show ∃ g, (if b2i _ = 0 then _ else _) = some g ∧ _
      have hfp := hf p hp
      by_cases z : l < o t + 1
      · have eF : mb (rv (h_wI h 13 0 (4 + 6 * t + 5) (nI (o t + 1)))) p 1 = nI (fi p) := by rw [eR, mb_mk1 d1 hp]
        obtain ⟨g, g1, g2, g3⟩ := day_lp hD k f (t + 1) dd (upF o t (o t + 1)) (upF fi p (min 9999 (fi p + 1))) (h_wI (h_wI h 13 0 (4 + 6 * t + 5) (nI (o t + 1))) 13 0 (52 + 2 * p + 1) (nI (min 9999 (fi p + 1)))) (by omega) (by omega) (by rw [rv_w, eR, mkR_f d1 hp]) hdd ho' (fun p' hp' => by
          unfold upF
          by_cases y : p' = p
          · rw [if_pos y]; omega
          · rw [if_neg y]; exact hf p' hp')
        refine ⟨g, ?_, ((FR.w0 h _ _).trans (FR.w0 _ _ _)).trans g2, ?_⟩
        · rw [decide_eq_true z, if_neg (by decide)]
          show (f_X7_its (nI t) 4 (h_wI h 13 0 (4 + 6 * t + 5) (nI (o t + 1)))).bind _ = _
          rw [its4 h8, e4]
          show (am_ix ((52 + 2 * nI p) + 1) 64).bind _ = _
          rw [show (52 + (2 * nI p)) + (1 : Int32) = nI (52 + 2 * p + 1) from imb p 1, ix_nI (show 52 + 2 * p + 1 < 64 by omega) (by decide)]
          show (f_X7_held (mb (rv (h_wI h 13 0 (4 + 6 * t + 5) (nI (o t + 1)))) p 1 + 1) 0 9999 _).bind _ = _
          rw [eF, nI_1, held_r (by omega), nI_1]
          exact g1
        · rw [g3]
          refine mkR_congr eO (fun p' hp' => ?_)
          show min 9999 (upF fi p (min 9999 (fi p + 1)) p' + sm (wD N l (upF o t (o t + 1)) p') k (t + 1)) = min 9999 (fi p' + (wD N l o p' t + sm (wD N l o p') k (t + 1)))
          rw [e1]
          unfold upF
          by_cases y : p' = p
          · subst y
            have : wD N l o p' t = 1 := by
              unfold wD
              rw [if_pos ⟨q, z⟩]
            rw [if_pos rfl, this]
            omega
          · have : wD N l o p' t = 0 := by
              unfold wD
              rw [if_neg]
              intro x
              rw [q] at x
              exact nI_ne (by omega) (by omega) y x.1.symm
            rw [if_neg y, this]
            omega
      · obtain ⟨g, g1, g2, g3⟩ := day_lp hD k f (t + 1) dd (upF o t (o t + 1)) fi (h_wI h 13 0 (4 + 6 * t + 5) (nI (o t + 1))) (by omega) (by omega) eR hdd ho' hf
        refine ⟨g, ?_, (FR.w0 h _ _).trans g2, ?_⟩
        · rw [decide_eq_false z, if_pos (by decide), nI_1]
          exact g1
        · rw [g3]
          refine mkR_congr eO (fun p' hp' => ?_)
          show min 9999 (fi p' + sm (wD N l (upF o t (o t + 1)) p') k (t + 1)) = min 9999 (fi p' + (wD N l o p' t + sm (wD N l o p') k (t + 1)))
          have : wD N l o p' t = 0 := by
            unfold wD
            rw [if_neg (fun x => z x.2)]
          rw [e1, this]
          omega
/-- one day more, in the closed form -/
theorem oneDay_r (hD : DN N n m l) {s dd : Nat} {o fi : Nat → Nat} {h : HP} (e : rv h = mkR N n m (dd + s) (oS N o s) (fS N n l s o fi)) (hdd : dd + s < 2 ^ 20) (ho : ∀ i, i < n → o i + s < 2 ^ 20) : ∃ g, f_X7_oneDay h = some g ∧ FR 0 h g ∧ rv g = mkR N n m (dd + (s + 1)) (oS N o (s + 1)) (fS N n l (s + 1) o fi) := by
  obtain ⟨d1, d2, d3, d4, d5, d6⟩ := id hD
  obtain ⟨g, g1, g2, g3⟩ := day_lp hD n am_fu 0 (dd + s) (oS N o s) (fS N n l s o fi) h (by omega) (fu_lt (by omega)) e hdd (fun i _ hi => by
    have := ho i hi
    unfold oS
    by_cases z : hd N i 4 = -1
    · rw [if_pos z]; omega
    · rw [if_neg z]; omega) (fun p _ => by unfold fS; omega)
  refine ⟨g, g1, g2, ?_⟩
  rw [g3]
  refine mkR_congr (fun i hi => ?_) (fun p hp => ?_)
  · unfold oS
    by_cases z : hd N i 4 = -1
    · rw [if_neg (fun y => y.2 z), if_pos z, if_pos z]
    · rw [if_pos ⟨Nat.zero_le _, z⟩, if_neg z, if_neg z]
      rfl
  · have e1 : due N n l s p o + sm (wD N l (oS N o s) p) n 0 = due N n l (s + 1) p o := by
      unfold due
      rw [sm_add]
      refine sm_congr n 0 (fun i _ hi => ?_)
      unfold wD oS
      by_cases q : hd N i 4 = nI p
      · have qn : ¬ hd N i 4 = -1 := by rw [q]; exact nI_m1 (by omega)
        rw [if_pos q, if_pos q, if_neg qn]
        by_cases z : l < o i + s + 1
        · rw [if_pos ⟨q, z⟩]
          omega
        · rw [if_neg (fun y => z y.2)]
          omega
      · rw [if_neg q, if_neg q, if_neg (fun y => q y.1)]
    show min 9999 (fS N n l s o fi p + sm (wD N l (oS N o s) p) n 0) = fS N n l (s + 1) o fi p
    unfold fS
    rw [← e1]
    omega
theorem passes_lp (hD : DN N n m l) {T dd : Nat} {o fi : Nat → Nat} (hT : dd + T < 2 ^ 20) (ho : ∀ i, i < n → o i + T < 2 ^ 20) : ∀ (k f s : Nat) (h : HP), s + k = T → k < f → rv h = mkR N n m (dd + s) (oS N o s) (fS N n l s o fi) → ∃ g, g_X7_passes_2 f (nI T) (nI s) h = some g ∧ FR 0 h g ∧ rv g = mkR N n m (dd + T) (oS N o T) (fS N n l T o fi)
  | 0, f, s, h, h1, h2, e => by
    obtain ⟨f, rfl⟩ : ∃ z, f = z + 1 := ⟨f - 1, by omega⟩
    have : s = T := by omega
    subst this
    refine ⟨h, ?_, FR.rfl' 0 h, e⟩
    rw [g_X7_passes_2, if_pos nI_le_n]
  | k + 1, f, s, h, h1, h2, e => by
    obtain ⟨f, rfl⟩ : ∃ z, f = z + 1 := ⟨f - 1, by omega⟩
    obtain ⟨g1, a1, a2, a3⟩ := oneDay_r hD e (by omega) (fun i hi => by have := ho i hi; omega)
    obtain ⟨g, b1, b2, b3⟩ := passes_lp hD hT ho k f (s + 1) g1 (by omega) (by omega) a3
    refine ⟨g, ?_, a2.trans b2, b3⟩
    rw [g_X7_passes_2, if_neg (nI_le_i (by omega) (by omega) (show s < T by omega)), a1, nI_1]
    exact b1
theorem oS_0 (o : Nat → Nat) : oS N o 0 = o := by
  funext i
  unfold oS
  by_cases z : hd N i 4 = -1
  · rw [if_pos z]
  · rw [if_neg z]
    rfl
theorem due_0 (p : Nat) (o : Nat → Nat) : due N n l 0 p o = 0 := by
  have := sm_le (w := fun i => if hd N i 4 = nI p then min 0 (o i + 0 - l) else 0) (B := 0) n 0 (fun i _ _ => by
    by_cases q : hd N i 4 = nI p
    · show (if hd N i 4 = nI p then min 0 (o i + 0 - l) else 0) ≤ 0
      rw [if_pos q]; omega
    · show (if hd N i 4 = nI p then min 0 (o i + 0 - l) else 0) ≤ 0
      rw [if_neg q]; omega)
  unfold due
  omega
/-- the row after t days -/
def dayR (N : Nat → Int32) (n m d l t : Nat) : Nat → Int32 := mkR N n m (d + t) (oS N (oN N) t) (fS N n l t (oN N) (fN N))
theorem dayR_0 {d : Nat} (hW : WF N n m d l) : dayR N n m d l 0 = N := by
  unfold dayR
  refine Eq.trans (mkR_congr (fun i hi => ?_) (fun p hp => ?_)) (mkR_self hW)
  · rw [oS_0]
  · unfold fS
    rw [due_0]
    have := (fN_nI hW hp).2
    omega
theorem passes_r {d T : Nat} {h : HP} (hW : WF (rv h) n m d l) (hT : T ≤ 100) : ∃ g, f_X7_passes (nI T) h = some g ∧ FR 0 h g ∧ rv g = dayR (rv h) n m d l T := by
  have h4 := hW.2.2.2.1
  exact passes_lp (N := rv h) hW.dn (T := T) (dd := d) (o := oN (rv h)) (fi := fN (rv h)) (by omega) (fun i hi => by have := (oN_nI hW hi).2; omega) T am_fu 0 h (by omega) (fu_lt (by omega)) (dayR_0 hW).symm
end DAYS
