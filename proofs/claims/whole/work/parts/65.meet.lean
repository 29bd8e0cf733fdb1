/-! PURE: what would be, on both sides; meet -/
theorem rest_mix {h x r : HP} {c : (Nat → Nat → Nat → Int32) × (Nat → Nat → Nat → Int64)} (hF : Rest h x) (hR : Rest (c, x.2) r) : Rest h (x.1, r.2) := by
  obtain ⟨a1, a2, a3, a4, a5, a6, a7, a8, a9, a10, a11, a12, a13, a14, a15, a16⟩ := hF
  obtain ⟨b1, b2, b3, b4, b5, b6, b7, b8, b9, b10, b11, b12, b13, b14, b15, b16⟩ := hR
  exact ⟨a1, a2, a3, a4, a5, a6, a7, a8, b9.trans a9, b10.trans a10, b11.trans a11, b12.trans a12, b13.trans a13, b14.trans a14, b15.trans a15, b16.trans a16⟩
theorem fb_rv {a : Nat} {h x : HP} (hF : FB a h x) : rv x = rv h := by
  show x.2.1 13 0 = h.2.1 13 0
  rw [hF.1]
theorem okX {F6 F7 : HP → Option (Int32 × HP)} {h x : HP} (hI : Inv h) (hF : FB 1 h x) (v : Int32) (e6 : F6 h = some (v, x)) (e7 : ∃ r, F7 x = some (v, r) ∧ Rest x r ∧ r.1 = x.1 ∧ ∀ k, k < 64 → rv r k = rv x k) : Okc F6 F7 h := by
  obtain ⟨r, r1, r2, r3, r4⟩ := e7
  exact ⟨v, x, r, e6, r1, inv_back hI ((hF.rest (by decide)).trans r2) (fun n m N hn hm hL => LC.ref (hF.lc (by decide) hn hm hL) r3) (fun k hk => by rw [r4 k hk, fb_rv hF])⟩
theorem okXF {F6 F7 : HP → Option (Int32 × HP)} {h x : HP} (hI : Inv h) (hF : FB 1 h x) (k : Nat) (hk : k < 7) (e6 : F6 h = f_X6_tell (fcode k) x) (e7 : ∀ c, ∃ r, F7 (c, x.2) = f_X7_finds (fcode k) r ∧ Rest (c, x.2) r ∧ r.1 = c ∧ ∀ k, k < 64 → rv r k = rv x k) : Okc F6 F7 h := by
  refine okF2 (hc := x) k hk e6 (fun c => ?_)
  obtain ⟨r, r1, r2, r3, r4⟩ := e7 c
  refine ⟨r.2, ?_, ?_⟩
  · rw [r1]
    show f_X7_finds (fcode k) (r.1, r.2) = _
    rw [r3]
  · exact inv_back hI (rest_mix (hF.rest (by decide)) r2) (fun n m N hn hm hL => LC.ref (h := x) (hF.lc (by decide) hn hm hL) rfl) (fun k hk => by
      rw [← fb_rv hF]
      exact r4 k hk)
section MEET
variable {h : HP} {N : Nat → Int32} {n m d l : Nat}
def mtB (N : Nat → Int32) (n m d l p o s t : Nat) (k : Nat) : Bool := !decide (nI (sq (dayR N n m d l k) n (nI p) s 15) &&& nI (sq (dayR N n m d l k) n (nI o) t 15) = 0)
theorem meet_c (hW : WF N n m d l) (hd9 : d ≤ 9999) {p o s t : Nat} (hp : p < m) (ho : o < m) (hs : s < 16) (ht : t < 16) (es : mb N p 0 = nI s) (et : mb N o 0 = nI t) : ∀ (c f k : Nat) (x : HP), k + c = 61 → c < f → LC x 1 n m (dayR N n m d l k) → ∃ x', FB 1 x x' ∧ g_X6_meet_47 f (nI p) (nI o) (nI k) x = if farK (mtB N n m d l p o s t) c k = -1 then f_X6_tell (fcode 3) x' else some (farK (mtB N n m d l p o s t) c k, x')
  | 0, f, k, x, h1, h2, hL => by
    obtain ⟨f, rfl⟩ : ∃ z, f = z + 1 := ⟨f - 1, by omega⟩
    have : k = 61 := by omega
    subst this
    refine ⟨x, FB.rfl' 1 x, ?_⟩
    rw [g_X6_meet_47, if_pos (by decide), bind_eta, fc4]
    rfl
  | c + 1, f, k, x, h1, h2, hL => by
    obtain ⟨f, rfl⟩ : ∃ z, f = z + 1 := ⟨f - 1, by omega⟩
    have hn8 := hW.1
    have hWd := hW.day (T := k) (by omega)
    have e1 : mb (dayR N n m d l k) p 0 = nI s := (mb_mk0 hn8).trans es
    have e2 : mb (dayR N n m d l k) o 0 = nI t := (mb_mk0 hn8).trans et
    have hu : farK (mtB N n m d l p o s t) (c + 1) k = if mtB N n m d l p o s t k = true then nI k else farK (mtB N n m d l p o s t) c (k + 1) := rfl
    have e0 : g_X6_meet_47 (f + 1) (nI p) (nI o) (nI k) x = if nI (sq (dayR N n m d l k) n (nI p) s 15) &&& nI (sq (dayR N n m d l k) n (nI o) t 15) = 0 then (f_X1_goOn 1 1 x).bind (fun q => g_X6_meet_47 f (nI p) (nI o) (nI (k + 1)) q) else some (nI k, x) := by
      rw [g_X6_meet_47, if_neg (show ¬ (60 : Int32) < nI k from fun z => by have := (nI_ltI (a := 60) (by decide) (by omega)).mp z; omega), reachOf_c hWd hL hp hs e1, Option.bind_some, reachOf_c hWd hL ho ht e2, Option.bind_some, nI_1]
    by_cases q : nI (sq (dayR N n m d l k) n (nI p) s 15) &&& nI (sq (dayR N n m d l k) n (nI o) t 15) = 0
    · have qb : mtB N n m d l p o s t k = false := by unfold mtB; rw [decide_eq_true q]; rfl
      obtain ⟨g, g1, g2, g3⟩ := goOn_c hWd hL (T := 1) (by decide)
      rw [dayR_comp hW (by omega)] at g3
      obtain ⟨x', a1, a2⟩ := meet_c hW hd9 hp ho hs ht es et c f (k + 1) g (by omega) (by omega) g3
      refine ⟨x', g2.trans a1, ?_⟩
      have g1' : f_X1_goOn 1 1 x = some g := g1
      rw [e0, if_pos q, g1', Option.bind_some, a2, hu, if_neg (show ¬ mtB N n m d l p o s t k = true by rw [qb]; decide)]
    · have qb : mtB N n m d l p o s t k = true := by unfold mtB; rw [decide_eq_false q]; rfl
      refine ⟨x, FB.rfl' 1 x, ?_⟩
      rw [e0, if_neg q, hu, if_pos qb, if_neg (nI_m1 (by omega))]
theorem meet_r (hW : WF N n m d l) (hd9 : d ≤ 9999) {p o s t : Nat} (hp : p < m) (ho : o < m) (hs : s < 16) (ht : t < 16) (es : mb N p 0 = nI s) (et : mb N o 0 = nI t) : ∀ (c f k : Nat) (y : HP), k + c = 61 → c < f → rv y = dayR N n m d l k → ∃ y', FR 0 y y' ∧ g_X7_meet_39 f (nI p) (nI o) (nI k) y = g_X7_meet_69 (if farK (mtB N n m d l p o s t) c k = -1 then nI 61 else farK (mtB N n m d l p o s t) c k) y'
  | 0, f, k, y, h1, h2, e => by
    obtain ⟨f, rfl⟩ : ∃ z, f = z + 1 := ⟨f - 1, by omega⟩
    have : k = 61 := by omega
    subst this
    refine ⟨y, FR.rfl' 0 y, ?_⟩
    rw [g_X7_meet_39, if_pos (by decide)]
    rfl
  | c + 1, f, k, y, h1, h2, e => by
    obtain ⟨f, rfl⟩ : ∃ z, f = z + 1 := ⟨f - 1, by omega⟩
    have hn8 := hW.1
    have hm6 := hW.2.1
    have hWd := hW.day (T := k) (by omega)
    have hWy : WF (rv y) n m (d + k) l := by rw [e]; exact hWd
    have e1 : mb (rv y) p 0 = nI s := by rw [e]; exact (mb_mk0 hn8).trans es
    have e2 : mb (rv y) o 0 = nI t := by rw [e]; exact (mb_mk0 hn8).trans et
    have hu : farK (mtB N n m d l p o s t) (c + 1) k = if mtB N n m d l p o s t k = true then nI k else farK (mtB N n m d l p o s t) c (k + 1) := rfl
    have e0 : g_X7_meet_39 (f + 1) (nI p) (nI o) (nI k) y = if nI (sq (dayR N n m d l k) n (nI p) s 15) &&& nI (sq (dayR N n m d l k) n (nI o) t 15) = 0 then (f_X7_oneDay y).bind (fun q => g_X7_meet_39 f (nI p) (nI o) (nI (k + 1)) q) else g_X7_meet_69 (nI k) y := by
      rw [g_X7_meet_39, if_neg (show ¬ (60 : Int32) < nI k from fun z => by have := (nI_ltI (a := 60) (by decide) (by omega)).mp z; omega), reachOf_r hWy (show p < 6 by omega) hs e1, Option.bind_some, reachOf_r hWy (show o < 6 by omega) ht e2, Option.bind_some, nI_1, e]
    by_cases q : nI (sq (dayR N n m d l k) n (nI p) s 15) &&& nI (sq (dayR N n m d l k) n (nI o) t 15) = 0
    · have qb : mtB N n m d l p o s t k = false := by unfold mtB; rw [decide_eq_true q]; rfl
      have h4 := hW.2.2.2.1
      obtain ⟨g1, a1, a2, a3⟩ := oneDay_r (h := y) hW.dn (s := k) (dd := d) (o := oN N) (fi := fN N) e (by omega) (fun i hi => by have := (oN_nI hW hi).2; omega)
      obtain ⟨y', b1, b2⟩ := meet_r hW hd9 hp ho hs ht es et c f (k + 1) g1 (by omega) (by omega) a3
      refine ⟨y', a2.trans b1, ?_⟩
      rw [e0, if_pos q, a1, Option.bind_some, b2, hu, if_neg (show ¬ mtB N n m d l p o s t k = true by rw [qb]; decide)]
    · have qb : mtB N n m d l p o s t k = true := by unfold mtB; rw [decide_eq_false q]; rfl
      refine ⟨y, FR.rfl' 0 y, ?_⟩
      rw [e0, if_neg q, hu, if_pos qb, if_neg (nI_m1 (by omega))]
theorem op_meet (a b : Int32) (hI : Inv h) : Okc (f_X6_meet a b) (f_X7_meet a b) h := by
  obtain ⟨⟨n, m, d, l, i1, i2, i3⟩, -⟩ := id hI
  have g1 := hasMember_c i1 i3
  have g2 := fun c => isMember_r (h := (c, h.2)) i1
  have hm6 := i1.2.1
  have hn8 := i1.1
  cases ha : isA a m with
  | false => exact okF hI 0 (by decide) (by simp -implicitDefEqProofs only [Option.bind_some, b0t, b0f, if_true, if_false, ite_true, ite_false, bind_eta, bind_etaV, rv_c, f_X6_meet, g_X6_meet_27, g1, ha, fc1]) (fun c => by simp -implicitDefEqProofs only [Option.bind_some, b0t, b0f, if_true, if_false, ite_true, ite_false, bind_eta, bind_etaV, rv_c, f_X7_meet, g_X7_meet_21, g2, ha, fc1])
  | true =>
    cases hb : isA b m with
    | false => exact okF hI 0 (by decide) (by simp -implicitDefEqProofs only [Option.bind_some, b0t, b0f, if_true, if_false, ite_true, ite_false, bind_eta, bind_etaV, rv_c, f_X6_meet, g_X6_meet_27, g1, ha, hb, fc1]) (fun c => by simp -implicitDefEqProofs only [Option.bind_some, b0t, b0f, if_true, if_false, ite_true, ite_false, bind_eta, bind_etaV, rv_c, f_X7_meet, g_X7_meet_21, g2, ha, hb, fc1])
    | true =>
      by_cases q : a = b
      · exact okF hI 0 (by decide) (by simp -implicitDefEqProofs only [Option.bind_some, b0t, b0f, if_true, if_false, ite_true, ite_false, bind_eta, bind_etaV, rv_c, f_X6_meet, g_X6_meet_27, g1, ha, hb, if_pos q, fc1]) (fun c => by simp -implicitDefEqProofs only [Option.bind_some, b0t, b0f, if_true, if_false, ite_true, ite_false, bind_eta, bind_etaV, rv_c, f_X7_meet, g_X7_meet_21, g2, ha, hb, if_pos q, fc1])
      · have ha' := ha
        have hb' := hb
        obtain ⟨p, hp, rfl⟩ := isA_t (by omega) ha
        obtain ⟨o, ho, rfl⟩ := isA_t (by omega) hb
        obtain ⟨s, hs, es⟩ := (i1.2.2.2.2.2.2.2.2.2 p hp).1
        obtain ⟨t, ht, et⟩ := (i1.2.2.2.2.2.2.2.2.2 o ho).1
        obtain ⟨x, c1, c2, c3⟩ := becomes_c (a := 1) (by decide) i1 i3
        obtain ⟨x', d1, d2⟩ := meet_c i1 i2 hp ho hs ht es et 61 am_fu 0 x (by omega) (fu_lt (by decide)) (by rw [dayR_0 i1]; exact c3)
        have hF : FB 1 h x' := c2.trans d1
        have e6 : f_X6_meet (nI p) (nI o) h = g_X6_meet_47 am_fu (nI p) (nI o) (nI 0) x := by
          simp -implicitDefEqProofs only [Option.bind_some, b0t, b0f, if_true, if_false, ite_true, ite_false, bind_eta, bind_etaV, rv_c, f_X6_meet, g1, ha', hb', if_neg q, c1]
          rfl
        have e7 : ∀ c, ∃ r, f_X7_meet (nI p) (nI o) (c, x'.2) = (if (if farK (mtB (rv h) n m d l p o s t) 61 0 = -1 then nI 61 else farK (mtB (rv h) n m d l p o s t) 61 0) ≤ 60 then some ((if farK (mtB (rv h) n m d l p o s t) 61 0 = -1 then nI 61 else farK (mtB (rv h) n m d l p o s t) 61 0), r) else f_X7_finds (fcode 3) r) ∧ Rest (c, x'.2) r ∧ r.1 = c ∧ ∀ k, k < 64 → rv r k = rv x' k := fun c => by
          have er : rv (c, x'.2) = rv h := (show rv (c, x'.2) = rv x' from rfl).trans (fb_rv hF)
          obtain ⟨y1, a1, a2, a3⟩ := mv_to (r := 2) (Or.inl rfl) (c, x'.2)
          obtain ⟨y2, b1, b2⟩ := meet_r i1 i2 hp ho hs ht es et 61 am_fu 0 y1 (by omega) (fu_lt (by decide)) (by rw [rvFR a2, dayR_0 i1]; exact er)
          obtain ⟨r, r1, r2, r3, r4⟩ := back_r a2 a3 b1
          refine ⟨r, ?_, r2, r3, r4⟩
          have g3 := fun z => isMember_r (h := (c, x'.2)) (n := n) (m := m) (d := d) (l := l) (by rw [er]; exact i1) z
          simp -implicitDefEqProofs only [Option.bind_some, b0t, b0f, if_true, if_false, ite_true, ite_false, bind_eta, bind_etaV, rv_c, f_X7_meet, g3, ha', hb', if_neg q, a1]
          refine b2.trans ?_
          unfold g_X7_meet_69
          rw [r1, Option.bind_some, bind_eta, fc4]
        rcases farK_or (q := mtB (rv h) n m d l p o s t) 61 0 with ⟨z, -⟩ | ⟨i, -, hi, -, -, z⟩
        · rw [z, if_pos rfl] at d2
          refine okXF hI hF 3 (by decide) (e6.trans d2) (fun c => ?_)
          obtain ⟨r, r1, r2⟩ := e7 c
          rw [z, if_pos rfl, if_neg (by decide)] at r1
          exact ⟨r, r1, r2⟩
        · rw [z, if_neg (nI_m1 (by omega))] at d2
          refine okX hI hF (nI i) (e6.trans d2) ?_
          obtain ⟨r, r1, r2⟩ := e7 x'.1
          rw [z, if_neg (nI_m1 (by omega)), if_pos (show nI i ≤ 60 from (nI_leI (b := 60) (by omega) (by decide)).mpr (by omega))] at r1
          exact ⟨r, r1, r2⟩
end MEET
