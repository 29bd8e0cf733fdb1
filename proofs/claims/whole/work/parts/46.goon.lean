/-! PURE: the class' days -/
section GOON
variable {h : HP} {N : Nat → Int32} {j n m d l : Nat}
theorem ahead1 {T l' o : Nat} (hT : T ≤ 100) (hl : l' ≤ 30) (ho : o ≤ 30000) (acc : Nat) : (nI acc + (if (0 : Int32) < (if (nI o + nI T) - nI l' < nI T then (nI o + nI T) - nI l' else nI T) then (if (nI o + nI T) - nI l' < nI T then (nI o + nI T) - nI l' else nI T) else 0)) = nI (acc + min T (o + T - l')) := by
  rw [nI_add]
  by_cases q : l' ≤ o + T
  · rw [pk_sub q]
    by_cases q2 : o + T - l' < T
    · rw [if_pos ((nI_ltI (by omega) (by omega)).mpr q2), show min T (o + T - l') = o + T - l' by omega]
      by_cases q3 : 0 < o + T - l'
      · rw [if_pos (show (0 : Int32) < nI (o + T - l') from (nI_ltI (a := 0) (by omega) (by omega)).mpr q3), nI_add]
      · rw [if_neg (show ¬ (0 : Int32) < nI (o + T - l') from fun z => q3 ((nI_ltI (a := 0) (by omega) (by omega)).mp z)), show o + T - l' = 0 by omega]
        exact Int32.add_zero _
    · rw [if_neg (fun z => q2 ((nI_ltI (by omega) (by omega)).mp z)), show min T (o + T - l') = T by omega]
      by_cases q3 : 0 < T
      · rw [if_pos (show (0 : Int32) < nI T from (nI_ltI (a := 0) (by omega) (by omega)).mpr q3), nI_add]
      · rw [if_neg (show ¬ (0 : Int32) < nI T from fun z => q3 ((nI_ltI (a := 0) (by omega) (by omega)).mp z)), show T = 0 by omega]
        exact Int32.add_zero _
  · have hneg := pk_sneg (a := o + T) (b := l') (by omega) (by omega)
    rw [if_pos (show nI (o + T) - nI l' < nI T from by
      rw [Int32.lt_iff_toInt_lt] at hneg ⊢
      rw [nI_toInt (show T < 2 ^ 31 by omega)]
      have : (0 : Int32).toInt = 0 := by decide
      omega), if_neg (fun z => by
      rw [Int32.lt_iff_toInt_lt] at hneg z
      omega), show o + T - l' = 0 by omega, show min T 0 = 0 by omega]
    exact Int32.add_zero _
theorem ahead_lp (hW : WF N n m d l) (hL : LC h j n m N) {p T l' : Nat} (hp : p < m) (hT : T ≤ 100) (hl : l' ≤ 30) : ∀ (k f t acc : Nat), t + k = n → k < f → acc + k * 100 < 2 ^ 20 → g_X1_finesAhead_14 f j (nI p) (nI T) (nI l') (nI acc) (nI t) h = some (nI (min 9999 (acc + sm (fun i => if hd N i 4 = nI p then min T (oN N i + T - l') else 0) k t)), h)
  | 0, f, t, acc, h1, h2, h3 => by
    obtain ⟨f, rfl⟩ : ∃ z, f = z + 1 := ⟨f - 1, by omega⟩
    rw [g_X1_finesAhead_14, rI_1, hL.2.2.1, hW.2.2.2.2.2.2.1, show t = n by omega, if_pos nI_le_n]
    unfold f_J9_min_7cf53 sm
    show some (if nI acc < 9999 then nI acc else 9999, h) = _
    by_cases q : acc < 9999
    · rw [if_pos (show nI acc < 9999 from (nI_ltI (b := 9999) (by omega) (by decide)).mpr q), show min 9999 (acc + 0) = acc by omega]
    · rw [if_neg (show ¬ nI acc < 9999 from fun z => q ((nI_ltI (b := 9999) (by omega) (by decide)).mp z)), show min 9999 (acc + 0) = 9999 by omega]
      rfl
  | k + 1, f, t, acc, h1, h2, h3 => by
    obtain ⟨f, rfl⟩ : ∃ z, f = z + 1 := ⟨f - 1, by omega⟩
    have hn8 := hW.1
    have h4 := hW.2.2.2.1
    have ht : t < n := by omega
    have hot := oN_nI hW ht
    rw [g_X1_finesAhead_14, rI_1, hL.2.2.1, hW.2.2.2.2.2.2.1, if_neg (nI_le_i (by omega) (by omega) ht), holds_c hW hL ht, nI_1]
    show (if b2i _ = 0 then _ else _) = _
    show _ = some (nI (min 9999 (acc + ((if hd N t 4 = nI p then min T (oN N t + T - l') else 0) + sm (fun i => if hd N i 4 = nI p then min T (oN N i + T - l') else 0) k (t + 1)))), h)
    by_cases q : hd N t 4 = nI p
    · rw [decide_eq_true q, if_neg (by decide), ix8 (by omega), if_pos q]
      show g_X1_finesAhead_14 f j (nI p) (nI T) (nI l') (nI acc + (if (0 : Int32) < (if (h.1.1 0 (8 * j + t) 5 + nI T) - nI l' < nI T then (h.1.1 0 (8 * j + t) 5 + nI T) - nI l' else nI T) then (if (h.1.1 0 (8 * j + t) 5 + nI T) - nI l' < nI T then (h.1.1 0 (8 * j + t) 5 + nI T) - nI l' else nI T) else 0)) (nI (t + 1)) h = _
      rw [hL.hd ht 5 (by decide), hot.1, ahead1 hT hl (by omega), ahead_lp hW hL hp hT hl k f (t + 1) (acc + min T (oN N t + T - l')) (by omega) (by omega) (by omega)]
      rw [Nat.add_assoc]
    · rw [decide_eq_false q, if_pos (by decide), if_neg q, Nat.zero_add]
      exact ahead_lp hW hL hp hT hl k f (t + 1) acc (by omega) (by omega) (by omega)
theorem finesAhead_c (hW : WF N n m d l) (hL : LC h j n m N) {p T l' : Nat} (hp : p < m) (hT : T ≤ 100) (hl : l' ≤ 30) : f_X1_finesAhead j (nI p) (nI T) (nI l') h = some (nI (min 9999 (fN N p + due N n l' T p (oN N))), h) := by
  have hn8 := hW.1
  have hm6 := hW.2.1
  have hf := fN_nI hW hp
  unfold f_X1_finesAhead
  rw [ix6 (by omega)]
  show g_X1_finesAhead_14 am_fu j (nI p) (nI T) (nI l') (h.1.1 2 (6 * j + p) 1) 0 h = _
  rw [hL.mb hp 1 (by decide), hf.1]
  exact ahead_lp hW hL hp hT hl n am_fu 0 (fN N p) (by omega) (fu_lt (by omega)) (by omega)
/-- rows with the same loans owe the same -/
theorem oN_mk {dd i : Nat} {o f : Nat → Nat} (hi : i < n) (ho : o i < 2 ^ 31) : oN (mkR N n m dd o f) i = o i := by
  unfold oN
  rw [hd_mk5 hi, vN_nI ho]
theorem fN_mk {dd p : Nat} {o f : Nat → Nat} (hn : n ≤ 8) (hp : p < m) (hf : f p < 2 ^ 31) : fN (mkR N n m dd o f) p = f p := by
  unfold fN
  rw [mb_mk1 hn hp, vN_nI hf]
theorem goOnM (hW : WF N n m d l) {T : Nat} (hT : T ≤ 100) : ∀ (k f t : Nat) (h : HP), t + k = m → k < f → LC h j n m (mkR N n m d (oN N) (fun q => if q < t then fS N n l T (oN N) (fN N) q else fN N q)) → WF (mkR N n m d (oN N) (fun q => if q < t then fS N n l T (oN N) (fN N) q else fN N q)) n m d l → ∃ g, g_X1_goOn_2 f j (nI T) (nI t) h = g_X1_goOn_37 am_fu j (nI T) 0 g ∧ FB j h g ∧ LC g j n m (mkR N n m d (oN N) (fS N n l T (oN N) (fN N)))
  | 0, f, t, h, h1, h2, hL, hW' => by
    obtain ⟨f, rfl⟩ : ∃ z, f = z + 1 := ⟨f - 1, by omega⟩
    refine ⟨h, ?_, FB.rfl' j h, ?_⟩
    · rw [g_X1_goOn_2, rI_1, hL.2.2.2.1, hW'.2.2.2.2.2.2.2.1, show t = m by omega, if_pos nI_le_n]
    · rw [mkR_congr (N := N) (n := n) (m := m) (dd := d) (o' := oN N) (f' := fun q => if q < t then fS N n l T (oN N) (fN N) q else fN N q) (fun i hi => rfl) (fun p hp => (if_pos (show p < t by omega)).symm)]
      exact hL
  | k + 1, f, t, h, h1, h2, hL, hW' => by
    obtain ⟨f, rfl⟩ : ∃ z, f = z + 1 := ⟨f - 1, by omega⟩
    have hn8 := hW.1
    have hm6 := hW.2.1
    have h4 := hW.2.2.2.1
    have ht : t < m := by omega
    have hf := fN_nI hW ht
    have eA := finesAhead_c hW' hL ht hT hW.2.2.2.2.2.1
    have ef : fN (mkR N n m d (oN N) (fun q => if q < t then fS N n l T (oN N) (fN N) q else fN N q)) t = fN N t := by
      rw [fN_mk hn8 ht]
      · exact if_neg (by omega)
      · show (if t < t then fS N n l T (oN N) (fN N) t else fN N t) < 2 ^ 31
        rw [if_neg (by omega)]
        omega
    have ed : due (mkR N n m d (oN N) (fun q => if q < t then fS N n l T (oN N) (fN N) q else fN N q)) n l T t (oN (mkR N n m d (oN N) (fun q => if q < t then fS N n l T (oN N) (fN N) q else fN N q))) = due N n l T t (oN N) := by
      refine sm_congr n 0 (fun i _ hi => ?_)
      rw [hd_mk (by omega) (by decide), oN_mk (by omega) (by have := (oN_nI hW (show i < n by omega)).2; omega)]
    rw [ef, ed] at eA
    have eU : upn (mkR N n m d (oN N) (fun q => if q < t then fS N n l T (oN N) (fN N) q else fN N q)) (52 + 2 * t + 1) (nI (min 9999 (fN N t + due N n l T t (oN N)))) = mkR N n m d (oN N) (fun q => if q < t + 1 then fS N n l T (oN N) (fN N) q else fN N q) := by
      rw [mkR_f hn8 ht]
      refine mkR_congr (fun i hi => rfl) (fun p hp => ?_)
      unfold upF
      dsimp only
      by_cases q : p = t
      · subst q
        rw [if_pos rfl, if_pos (by omega)]
        rfl
      · rw [if_neg q]
        by_cases q2 : p < t
        · rw [if_pos q2, if_pos (by omega)]
        · rw [if_neg q2, if_neg (by omega)]
    have hL2 : LC (h_wI h 2 (6 * j + t) 1 (nI (min 9999 (fN N t + due N n l T t (oN N))))) j n m (mkR N n m d (oN N) (fun q => if q < t + 1 then fS N n l T (oN N) (fN N) q else fN N q)) := by
      rw [← eU]
      exact lc_w2 hL hn8 ht (by decide)
    have hW2 : WF (mkR N n m d (oN N) (fun q => if q < t + 1 then fS N n l T (oN N) (fN N) q else fN N q)) n m d l := by
      rw [← eU]
      refine hW'.um ht (by decide) ⟨?_, ⟨_, ?_, mb_s⟩⟩
      · rw [mb_n (by decide) (by decide) (by omega)]
        exact (hW'.2.2.2.2.2.2.2.2.2 t ht).1
      · omega
    obtain ⟨g, g1, g2, g3⟩ := goOnM hW hT k f (t + 1) _ (by omega) (by omega) hL2 hW2
    refine ⟨g, ?_, (FB.w2 h (show t < 6 by omega) 1 _).trans g2, g3⟩
    rw [g_X1_goOn_2, rI_1, hL.2.2.2.1, hW'.2.2.2.2.2.2.2.1, if_neg (nI_le_i (by omega) (by omega) ht), ix6 (by omega), nI_1]
    show (f_X1_finesAhead j (nI t) (nI T) (h.1.1 1 j 1) h).bind _ = _
    rw [hL.2.1, hW'.2.2.2.2.1, eA]
    exact g1
theorem goOnH (hn8 : n ≤ 8) {T : Nat} {dd : Nat} {o F : Nat → Nat} (e2 : N 2 = nI n) : ∀ (k f t : Nat) (h : HP), t + k = n → k < f → LC h j n m (mkR N n m dd (fun i => if i < t then oS N o T i else o i) F) → ∃ g, g_X1_goOn_37 f j (nI T) (nI t) h = some g ∧ FB j h g ∧ LC g j n m (mkR N n m (dd + T) (oS N o T) F)
  | 0, f, t, h, h1, h2, hL => by
    obtain ⟨f, rfl⟩ : ∃ z, f = z + 1 := ⟨f - 1, by omega⟩
    refine ⟨h_wI h 1 j 0 (nI (dd + T)), ?_, FB.w1 h 0 _, ?_⟩
    · rw [g_X1_goOn_37, rI_1, hL.2.2.1, mkR_p (by decide) (by decide), e2, show t = n by omega, if_pos nI_le_n, rI_1, hL.1, mkR_0, nI_add]
    · have := lc_w1 (k := 0) (p := 0) (v := nI (dd + T)) hL (by omega)
      rw [mkR_d] at this
      rw [mkR_congr (N := N) (n := n) (m := m) (dd := dd + T) (o' := fun i => if i < t then oS N o T i else o i) (f' := F) (fun i hi => (if_pos (show i < t by omega)).symm) (fun p hp => rfl)]
      exact this
  | k + 1, f, t, h, h1, h2, hL => by
    obtain ⟨f, rfl⟩ : ∃ z, f = z + 1 := ⟨f - 1, by omega⟩
    have ht : t < n := by omega
    have e4 : h.1.1 0 (8 * j + t) 4 = hd N t 4 := (hL.hd ht 4 (by decide)).trans (hd_mk (by omega) (by decide))
    have e5 : h.1.1 0 (8 * j + t) 5 = nI (o t) := by
      rw [hL.hd ht 5 (by decide), hd_mk5 ht, if_neg (by omega)]
    have e0 : g_X1_goOn_37 (f + 1) j (nI T) (nI t) h = if b2i (!decide (hd N t 4 = -1)) = 0 then g_X1_goOn_37 f j (nI T) (nI (t + 1)) h else g_X1_goOn_37 f j (nI T) (nI (t + 1)) (h_wI h 0 (8 * j + t) 5 (nI (o t) + nI T)) := by
      rw [g_X1_goOn_37, rI_1, hL.2.2.1, mkR_p (by decide) (by decide), e2, if_neg (nI_le_i (by omega) (by omega) ht), ix8 (by omega), nI_1]
      show (f_X0_isLent (8 * j + t) h).bind _ = _
      rw [isLent_c e4]
      show (if b2i _ = 0 then _ else g_X1_goOn_37 f j (nI T) (nI (t + 1)) (h_wI h 0 (8 * j + t) 5 (h.1.1 0 (8 * j + t) 5 + nI T))) = _
      rw [e5]
    by_cases q : hd N t 4 = -1
    · have hL2 : LC h j n m (mkR N n m dd (fun i => if i < t + 1 then oS N o T i else o i) F) := by
        rw [mkR_congr (N := N) (n := n) (m := m) (dd := dd) (o' := fun i => if i < t then oS N o T i else o i) (f' := F) (fun i hi => ?_) (fun p hp => rfl)]
        · exact hL
        · by_cases z : i = t
          · subst z
            rw [if_pos (by omega), if_neg (by omega)]
            unfold oS
            rw [if_pos q]
          · by_cases z2 : i < t
            · rw [if_pos (by omega), if_pos z2]
            · rw [if_neg (by omega), if_neg z2]
      obtain ⟨g, g1, g2, g3⟩ := goOnH hn8 e2 k f (t + 1) h (by omega) (by omega) hL2
      refine ⟨g, ?_, g2, g3⟩
      rw [e0, decide_eq_true q, if_pos (by decide)]
      exact g1
    · have hL2 : LC (h_wI h 0 (8 * j + t) 5 (nI (o t + T))) j n m (mkR N n m dd (fun i => if i < t + 1 then oS N o T i else o i) F) := by
        have := lc_w0 (k := 5) (v := nI (o t + T)) hL hn8 ht (by decide)
        rw [mkR_o ht] at this
        rw [mkR_congr (N := N) (n := n) (m := m) (dd := dd) (o' := upF (fun i => if i < t then oS N o T i else o i) t (o t + T)) (f' := F) (fun i hi => ?_) (fun p hp => rfl)]
        · exact this
        · unfold upF
          by_cases z : i = t
          · subst z
            rw [if_pos (by omega), if_pos rfl]
            unfold oS
            rw [if_neg q]
          · rw [if_neg z]
            by_cases z2 : i < t
            · rw [if_pos (by omega)]
              exact (if_pos z2).symm
            · rw [if_neg (by omega)]
              exact (if_neg z2).symm
      obtain ⟨g, g1, g2, g3⟩ := goOnH hn8 e2 k f (t + 1) _ (by omega) (by omega) hL2
      refine ⟨g, ?_, (FB.w0 h (show t < 8 by omega) 5 _).trans g2, g3⟩
      rw [e0, decide_eq_false q, if_neg (by decide), nI_add]
      exact g1
theorem goOn_c (hW : WF N n m d l) (hL : LC h j n m N) {T : Nat} (hT : T ≤ 100) : ∃ g, f_X1_goOn j (nI T) h = some g ∧ FB j h g ∧ LC g j n m (dayR N n m d l T) := by
  have eS : mkR N n m d (oN N) (fun q => if q < 0 then fS N n l T (oN N) (fN N) q else fN N q) = N :=
    Eq.trans (mkR_congr (fun i hi => rfl) (fun p hp => if_neg (by omega))) (mkR_self hW)
  obtain ⟨g, g1, g2, g3⟩ := goOnM (j := j) hW hT m am_fu 0 h (by omega) (fu_lt (by have := hW.2.1; omega)) (by rw [eS]; exact hL) (by rw [eS]; exact hW)
  have eH : mkR N n m d (fun i => if i < 0 then oS N (oN N) T i else oN N i) (fS N n l T (oN N) (fN N)) = mkR N n m d (oN N) (fS N n l T (oN N) (fN N)) := mkR_congr (fun i hi => if_neg (by omega)) (fun p hp => rfl)
  obtain ⟨g', k1, k2, k3⟩ := goOnH (T := T) hW.1 (hW.2.2.2.2.2.2.1) n am_fu 0 g (by omega) (fu_lt (by have := hW.1; omega)) (by rw [eH]; exact g3)
  exact ⟨g', g1.trans k1, g2.trans k2, k3⟩
theorem WF.day (hW : WF N n m d l) {T : Nat} (hT : d + T ≤ 20000) : WF (dayR N n m d l T) n m (d + T) l := by
  obtain ⟨w1, w2, w3, w4, w5, w6, w7, w8, w9, w10⟩ := id hW
  unfold dayR
  refine ⟨w1, w2, mkR_0, hT, (mkR_p (by decide) (by decide)).trans w5, w6, (mkR_p (by decide) (by decide)).trans w7, (mkR_p (by decide) (by decide)).trans w8, fun i hi => ?_, fun p hp => ?_⟩
  · obtain ⟨v1, v2, v3, v4, v5⟩ := w9 i hi
    have ho := oN_nI hW hi
    unfold WFh
    rw [hd_mk (by omega) (by decide), hd_mk (by omega) (by decide), hd_mk (by omega) (by decide), hd_mk (by omega) (by decide), hd_mk (by omega) (by decide), hd_mk5 hi]
    refine ⟨v1, v2, v3, v4, ?_⟩
    unfold oS
    rcases v5 with ⟨z, z2⟩ | ⟨p, hp, z, x, hx, z2⟩
    · rw [if_pos z, ← ho.1]
      exact Or.inl ⟨z, z2⟩
    · rw [if_neg (by rw [z]; exact nI_m1 (by omega))]
      exact Or.inr ⟨p, hp, z, oN N i + T, by omega, rfl⟩
  · unfold WFm
    rw [mb_mk0 w1, mb_mk1 w1 hp]
    exact ⟨(w10 p hp).1, _, by unfold fS; omega, rfl⟩
theorem FB.rest {g : HP} {a : Nat} (ha : a < 2) (hF : FB a h g) : Rest h g := by
  obtain ⟨f1, f2, f3⟩ := id hF
  refine ⟨hF.cls (by decide) (by decide) (by decide), funext (fun k => f3 1 2 k (by omega) (by omega) (by omega)), fun i hi => funext (fun k => f3 0 i k (by omega) (by omega) (by omega)), fun i hi => funext (fun k => f3 2 i k (by omega) (by omega) (by omega)), hF.cls (by decide) (by decide) (by decide), hF.cls (by decide) (by decide) (by decide), hF.cls (by decide) (by decide) (by decide), by rw [f2], ?_, ?_, ?_, ?_, ?_, ?_, ?_, ?_⟩ <;> rw [f1]
theorem FR.rest {g : HP} {r : Nat} (hr : r = 0 ∨ r = 2) (hF : FR r h g) : Rest h g := by
  obtain ⟨f1, f2, f3⟩ := id hF
  refine ⟨by rw [f1], by rw [f1], fun i hi => by rw [f1], fun i hi => by rw [f1], by rw [f1], by rw [f1], by rw [f1], by rw [f1], f3 7 0 4 (by omega), f3 7 0 17 (by omega), hF.row (by omega), hF.row (by omega), hF.row (by omega), hF.row (by omega), hF.row (by omega), by rw [f2]⟩
theorem op_days (a : Int32) (hI : Inv h) : Okc (f_X6_days a) (f_X7_days a) h := by
  obtain ⟨⟨n, m, d, l, i1, i2, i3⟩, -⟩ := id hI
  cases ha : inR a 1 60 with
  | false =>
    refine okF hI 0 (by decide) ?_ (fun c => by simp -implicitDefEqProofs only [Option.bind_some, b0t, b0f, if_true, if_false, ite_true, ite_false, bind_eta, bind_etaV, rv_c, f_X7_days, in_ok, ha, fc1])
    unfold inR at ha
    by_cases p : a < 1
    · simp -implicitDefEqProofs only [Option.bind_some, b0t, b0f, if_true, if_false, ite_true, ite_false, bind_eta, bind_etaV, rv_c, f_X6_days, g_X6_days_11, if_pos p, fc1]
    · rw [decide_eq_false p] at ha
      have p2 : ¬ a ≤ 60 := by
        intro q
        rw [decide_eq_false (Int32.not_lt.mpr q)] at ha
        cases ha
      simp -implicitDefEqProofs only [Option.bind_some, b0t, b0f, if_true, if_false, ite_true, ite_false, bind_eta, bind_etaV, rv_c, f_X6_days, g_X6_days_11, if_neg p, if_neg p2, fc1]
  | true =>
    have ha' := ha
    unfold inR at ha
    simp only [Bool.and_eq_true, Bool.not_eq_true', decide_eq_false_iff_not] at ha
    obtain ⟨p, q⟩ := ha
    have p0 : ¬ a < 0 := fun z => p (Int32.lt_trans z (by decide))
    have q' := Int32.not_lt.mp q
    obtain ⟨T, hT, rfl⟩ := nI_of2 (n := 60) (M := 60) (by decide) p0 q'
    have e0 : rv h 0 = nI d := i1.2.2.1
    by_cases z : d + T ≤ 9999
    · have zI : nI d + nI T ≤ 9999 := by rw [nI_add]; exact (nI_leI (b := 9999) (by omega) (by decide)).mpr z
      obtain ⟨g, g1, g2, g3⟩ := goOn_c i1 i3 (T := T) (by omega)
      have er : rv g = rv h := by unfold rv; rw [g2.1]
      obtain ⟨r, r1, r2, r3⟩ := passes_r (h := g) (n := n) (m := m) (d := d) (l := l) (T := T) (by rw [er]; exact i1) (by omega)
      rw [er] at r3
      have hW' := i1.day (T := T) (by omega)
      refine okW hI (sFinesAll (dayR (rv h) n m d l T) m) g r _ ?_ ?_ (g2.rest (by decide)) (r2.rest (Or.inl rfl)) r2.1 r3 g3 hW' z
      · simp -implicitDefEqProofs only [Option.bind_some, b0t, b0f, if_true, if_false, ite_true, ite_false, bind_eta, bind_etaV, rv_c, f_X6_days, if_neg p, if_pos q', rI_1, i3.1, e0, if_pos zI, g1, allFines_c hW' g3]
      · simp -implicitDefEqProofs only [Option.bind_some, b0t, b0f, if_true, if_false, ite_true, ite_false, bind_eta, bind_etaV, rv_c, f_X7_days, in_ok, ha', ix64_0, rv_0, er, e0, if_pos zI, r1]
        rw [finesAll_r (h := r) (n := n) (m := m) (d := d + T) (l := l) (by rw [r3]; exact hW'), r3]
    · have zI : ¬ nI d + nI T ≤ 9999 := by rw [nI_add]; exact fun y => z ((nI_leI (b := 9999) (by omega) (by decide)).mp y)
      refine okF hI 4 (by decide) ?_ (fun c => ?_)
      · simp -implicitDefEqProofs only [Option.bind_some, b0t, b0f, if_true, if_false, ite_true, ite_false, bind_eta, bind_etaV, rv_c, f_X6_days, if_neg p, if_pos q', rI_1, i3.1, e0, if_neg zI, fc5]
      · simp -implicitDefEqProofs only [Option.bind_some, b0t, b0f, if_true, if_false, ite_true, ite_false, bind_eta, bind_etaV, rv_c, f_X7_days, in_ok, ha', ix64_0, rv_0, e0, if_neg zI, fc5]
end GOON
