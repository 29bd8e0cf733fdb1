/-! PURE: the text's tokens, and how the class takes them -/
def cl (x : Nat) : Nat := if 97 ≤ x ∧ x ≤ 122 then 1 else if 48 ≤ x ∧ x ≤ 57 then 2 else if x = 59 then 3 else 4
def skp (b : Nat → Nat) : Nat → Nat → Nat
  | 0, k => k
  | c + 1, k => if b k = 32 then skp b c (k + 1) else k
def rnn (b : Nat → Nat) (q : Nat) : Nat → Nat → Nat
  | 0, k => k
  | c + 1, k => if cl (b k) = q then rnn b q c (k + 1) else k
def tkS (b : Nat → Nat) (T e : Nat) : Nat := skp b (T - e) e
def tkK (b : Nat → Nat) (T e : Nat) : Nat := if tkS b T e < T then cl (b (tkS b T e)) else 0
def tkE (b : Nat → Nat) (T e : Nat) : Nat := if tkS b T e < T then (if tkK b T e = 1 ∨ tkK b T e = 2 then rnn b (tkK b T e) (T - (tkS b T e + 1)) (tkS b T e + 1) else tkS b T e + 1) else tkS b T e
def nV (b : Nat → Nat) : Nat → Nat → Nat → Nat
  | 0, _, a => a
  | c + 1, i, a => if 1000 ≤ a then a else nV b c (i + 1) (min 1000 (a * 10 + b i - 48))
def tkV (b : Nat → Nat) (T e : Nat) : Nat := nV b (tkE b T e - tkS b T e) (tkS b T e) 0
section LEX
variable {b : Nat → Nat} {T : Nat}
theorem skp_ge : ∀ (c k : Nat), k ≤ skp b c k ∧ skp b c k ≤ k + c
  | 0, k => ⟨Nat.le_refl _, Nat.le_refl _⟩
  | c + 1, k => by
    unfold skp
    by_cases q : b k = 32
    · rw [if_pos q]
      have := skp_ge c (k + 1)
      omega
    · rw [if_neg q]
      omega
theorem rnn_ge {q : Nat} : ∀ (c k : Nat), k ≤ rnn b q c k ∧ rnn b q c k ≤ k + c
  | 0, k => ⟨Nat.le_refl _, Nat.le_refl _⟩
  | c + 1, k => by
    unfold rnn
    by_cases z : cl (b k) = q
    · rw [if_pos z]
      have := rnn_ge (q := q) c (k + 1)
      omega
    · rw [if_neg z]
      omega
theorem rnn_all {q : Nat} : ∀ (c k i : Nat), k ≤ i → i < rnn b q c k → cl (b i) = q
  | 0, k, i, h1, h2 => absurd h2 (by unfold rnn; omega)
  | c + 1, k, i, h1, h2 => by
    unfold rnn at h2
    by_cases z : cl (b k) = q
    · rw [if_pos z] at h2
      by_cases e : i = k
      · rw [e]; exact z
      · exact rnn_all c (k + 1) i (by omega) h2
    · rw [if_neg z] at h2
      omega
theorem skp_not : ∀ (c k : Nat), k + c = T → skp b c k < T → ¬ b (skp b c k) = 32
  | 0, k, h1, h2 => absurd h2 (by unfold skp; omega)
  | c + 1, k, h1, h2 => by
    unfold skp at h2 ⊢
    by_cases q : b k = 32
    · rw [if_pos q] at h2 ⊢
      exact skp_not c (k + 1) (by omega) h2
    · rw [if_neg q]
      exact q
theorem tkS_ge {e : Nat} (he : e ≤ T) : e ≤ tkS b T e ∧ tkS b T e ≤ T := by
  have := skp_ge (b := b) (T - e) e
  unfold tkS
  omega
theorem cl_le (x : Nat) : 1 ≤ cl x ∧ cl x ≤ 4 := by
  unfold cl
  repeat' split
  all_goals omega
theorem tkK_lt {e : Nat} (h : ¬ tkK b T e = 0) : tkS b T e < T := by
  unfold tkK at h
  by_cases q : tkS b T e < T
  · exact q
  · rw [if_neg q] at h
    exact absurd rfl h
theorem tkE_ge {e : Nat} (he : e ≤ T) : tkS b T e ≤ tkE b T e ∧ tkE b T e ≤ T ∧ (¬ tkK b T e = 0 → tkS b T e + 1 ≤ tkE b T e) := by
  have h1 := tkS_ge (b := b) he
  unfold tkE
  by_cases q : tkS b T e < T
  · rw [if_pos q]
    by_cases q2 : tkK b T e = 1 ∨ tkK b T e = 2
    · rw [if_pos q2]
      have := rnn_ge (b := b) (q := tkK b T e) (T - (tkS b T e + 1)) (tkS b T e + 1)
      omega
    · rw [if_neg q2]
      omega
  · rw [if_neg q]
    exact ⟨Nat.le_refl _, h1.2, fun z => absurd (tkK_lt z) q⟩
theorem tk_in {e i : Nat} (hk : tkK b T e = 1 ∨ tkK b T e = 2) (h1 : tkS b T e ≤ i) (h2 : i < tkE b T e) : cl (b i) = tkK b T e := by
  have hs : tkS b T e < T := tkK_lt (by omega)
  by_cases q : i = tkS b T e
  · rw [q]
    unfold tkK
    rw [if_pos hs]
  · unfold tkE at h2
    rw [if_pos hs, if_pos hk] at h2
    exact rnn_all _ _ i (by omega) h2
/-- the class' tape -/
def TP (b : Nat → Nat) (T : Nat) (x : HP) : Prop := x.1.1 4 0 1 = nI T ∧ ∀ k, k < T → x.1.1 11 0 k = nI (b k)
def F5 (x x' : HP) : Prop := x'.2 = x.2 ∧ x'.1.2 = x.1.2 ∧ ∀ c j k, ¬ c = 5 → x'.1.1 c j k = x.1.1 c j k
theorem F5.rfl' (x : HP) : F5 x x := ⟨rfl, rfl, fun _ _ _ _ => rfl⟩
theorem F5.trans {x y z : HP} (p : F5 x y) (q : F5 y z) : F5 x z := ⟨q.1.trans p.1, q.2.1.trans p.2.1, fun c j k h => (q.2.2 c j k h).trans (p.2.2 c j k h)⟩
theorem F5.w (x : HP) (j k : Nat) (v : Int32) : F5 x (h_wI x 5 j k v) := by
  rw [wI_5]
  exact ⟨rfl, rfl, fun c j' k' h => upx (fun z => h z.1)⟩
theorem TP.f5 {x x' : HP} (hT : TP b T x) (hF : F5 x x') : TP b T x' := ⟨(hF.2.2 4 0 1 (by decide)).trans hT.1, fun k hk => (hF.2.2 11 0 k (by decide)).trans (hT.2 k hk)⟩
theorem w5s (x : HP) (k : Nat) (v : Int32) : (h_wI x 5 0 k v).1.1 5 0 k = v := by
  rw [wI_5]
  exact up_s
theorem w5n (x : HP) {k k' : Nat} (v : Int32) (h : ¬ k' = k) : (h_wI x 5 0 k v).1.1 5 0 k' = x.1.1 5 0 k' := by
  rw [wI_5]
  exact up_k h
theorem tokW {x : Nat} (hx : x < 256) (h : HP) : f_X5_tokenWith (nI x) h = some (nI (cl x), h) := by
  have e1 : nI x < 97 ↔ x < 97 := nI_ltI (b := 97) (by omega) (by decide)
  have e2 : 122 < nI x ↔ 122 < x := nI_ltI (a := 122) (by decide) (by omega)
  have e3 : nI x < 48 ↔ x < 48 := nI_ltI (b := 48) (by omega) (by decide)
  have e4 : 57 < nI x ↔ 57 < x := nI_ltI (a := 57) (by decide) (by omega)
  have e5 : nI x = 59 ↔ x = 59 := nI_eq (b := 59) (by omega) (by decide)
  unfold f_X5_tokenWith g_X5_tokenWith_14 g_X5_tokenWith_28 cl
  simp only [e1, e2, e3, e4, e5]
  by_cases q1 : x < 97
  · rw [if_pos q1, if_neg (show ¬ (97 ≤ x ∧ x ≤ 122) by omega)]
    by_cases q3 : x < 48
    · rw [if_pos q3, if_neg (show ¬ (48 ≤ x ∧ x ≤ 57) by omega), if_neg (show ¬ x = 59 by omega), if_neg (show ¬ x = 59 by omega)]
      rfl
    · rw [if_neg q3]
      by_cases q4 : 57 < x
      · rw [if_pos q4, if_neg (show ¬ (48 ≤ x ∧ x ≤ 57) by omega)]
        by_cases q5 : x = 59
        · rw [if_pos q5, if_pos q5]
          rfl
        · rw [if_neg q5, if_neg q5]
          rfl
      · rw [if_neg q4, if_pos (show 48 ≤ x ∧ x ≤ 57 by omega)]
        rfl
  · rw [if_neg q1]
    by_cases q2 : 122 < x
    · rw [if_pos q2, if_neg (show ¬ (97 ≤ x ∧ x ≤ 122) by omega), if_neg (show ¬ x < 48 by omega), if_pos (show 57 < x by omega), if_neg (show ¬ (48 ≤ x ∧ x ≤ 57) by omega), if_neg (show ¬ x = 59 by omega), if_neg (show ¬ x = 59 by omega)]
      rfl
    · rw [if_neg q2, if_pos (show 97 ≤ x ∧ x ≤ 122 by omega)]
      rfl
theorem ix120 {k : Nat} (h : k < 120) : am_ix (nI k) 120 = some k := ix_nI h (by decide)
theorem skip_c (hT : T ≤ 120) (hb : ∀ k, b k < 256) : ∀ (c f k : Nat) (x : HP), k + c = T → c < f → TP b T x → x.1.1 5 0 3 = nI k → ∃ x', F5 x x' ∧ x'.1.1 5 0 3 = nI (skp b c k) ∧ g_X5_step_8 f x = g_X5_step_52 x'
  | 0, f, k, x, h1, h2, hP, e => by
    obtain ⟨f, rfl⟩ : ∃ z, f = z + 1 := ⟨f - 1, by omega⟩
    refine ⟨x, F5.rfl' x, e, ?_⟩
    rw [g_X5_step_8, rI_4, hP.1, rI_5, e, show k = T by omega, if_pos nI_le_n]
  | c + 1, f, k, x, h1, h2, hP, e => by
    obtain ⟨f, rfl⟩ : ∃ z, f = z + 1 := ⟨f - 1, by omega⟩
    have hk : k < T := by omega
    have hbk := hb k
    have e0 : g_X5_step_8 (f + 1) x = if nI (b k) = 32 then g_X5_step_8 f (h_wI x 5 0 3 (nI (k + 1))) else g_X5_step_52 x := by
      rw [g_X5_step_8, rI_4, hP.1, rI_5, e, if_neg (nI_le_i (by omega) (by omega) hk), ix120 (by omega), Option.bind_some, rI_11, hP.2 k hk, nI_1]
    unfold skp
    by_cases q : b k = 32
    · obtain ⟨x', a1, a2, a3⟩ := skip_c hT hb c f (k + 1) (h_wI x 5 0 3 (nI (k + 1))) (by omega) (by omega) (hP.f5 (F5.w x 0 3 _)) (w5s x 3 _)
      refine ⟨x', (F5.w x 0 3 _).trans a1, ?_, ?_⟩
      · rw [if_pos q]; exact a2
      · rw [e0, if_pos (show nI (b k) = 32 by rw [q]; rfl), a3]
    · refine ⟨x, F5.rfl' x, ?_, ?_⟩
      · rw [if_neg q]; exact e
      · rw [e0, if_neg (show ¬ nI (b k) = 32 from fun z => q ((nI_eq (b := 32) (by omega) (by decide)).mp z))]
theorem run_c {q : Nat} (hT : T ≤ 120) (hb : ∀ k, b k < 256) (hq : q ≤ 4) : ∀ (c f k : Nat) (x : HP), k + c = T → c < f → TP b T x → x.1.1 5 0 4 = nI k → x.1.1 5 0 2 = nI q → ∃ x', F5 x x' ∧ x'.1.1 5 0 4 = nI (rnn b q c k) ∧ x'.1.1 5 0 2 = nI q ∧ x'.1.1 5 0 3 = x.1.1 5 0 3 ∧ g_X5_step_131 f 1 x = g_X5_step_184 x'
  | 0, f, k, x, h1, h2, hP, e, eq => by
    obtain ⟨f, rfl⟩ : ∃ z, f = z + 1 := ⟨f - 1, by omega⟩
    refine ⟨x, F5.rfl' x, e, eq, rfl, ?_⟩
    rw [g_X5_step_131, if_neg (show ¬ (1 : Int32) = 0 by decide), rI_4, hP.1, rI_5, e, show k = T by omega, if_pos nI_le_n]
  | c + 1, f, k, x, h1, h2, hP, e, eq => by
    obtain ⟨f, rfl⟩ : ∃ z, f = z + 1 := ⟨f - 1, by omega⟩
    have hk : k < T := by omega
    have hbk := hb k
    have hcl := cl_le (b k)
    have e0 : g_X5_step_131 (f + 1) 1 x = if nI (cl (b k)) = nI q then g_X5_step_131 f 1 (h_wI x 5 0 4 (nI (k + 1))) else g_X5_step_184 x := by
      rw [g_X5_step_131, if_neg (show ¬ (1 : Int32) = 0 by decide), rI_4, hP.1, rI_5, e, if_neg (nI_le_i (by omega) (by omega) hk), ix120 (by omega), Option.bind_some, rI_11, hP.2 k hk, tokW hbk, Option.bind_some, rI_5, eq, rI_5, e, nI_1]
    unfold rnn
    by_cases z : cl (b k) = q
    · obtain ⟨x', a1, a2, a3, a4, a5⟩ := run_c hT hb hq c f (k + 1) (h_wI x 5 0 4 (nI (k + 1))) (by omega) (by omega) (hP.f5 (F5.w x 0 4 _)) (w5s x 4 _) ((w5n x _ (by decide)).trans eq)
      refine ⟨x', (F5.w x 0 4 _).trans a1, ?_, a3, a4.trans (w5n x _ (by decide)), ?_⟩
      · rw [if_pos z]; exact a2
      · rw [e0, if_pos (by rw [z]), a5]
    · refine ⟨x, F5.rfl' x, ?_, eq, rfl, ?_⟩
      · rw [if_neg z]; exact e
      · rw [e0, if_neg (nI_ne (by omega) (by omega) z)]
theorem cl2 {x : Nat} (h : cl x = 2) : 48 ≤ x ∧ x ≤ 57 := by
  unfold cl at h
  repeat' split at h
  all_goals omega
theorem cl1 {x : Nat} (h : cl x = 1) : 97 ≤ x ∧ x ≤ 122 := by
  unfold cl at h
  repeat' split at h
  all_goals omega
theorem nV_le : ∀ (c i a : Nat), a ≤ 1000 → nV b c i a ≤ 1000
  | 0, i, a, h => h
  | c + 1, i, a, h => by
    unfold nV
    by_cases q : 1000 ≤ a
    · rw [if_pos q]; exact h
    · rw [if_neg q]; exact nV_le c (i + 1) _ (by omega)
theorem num_c {en : Nat} (hT : T ≤ 120) (hen : en ≤ T) {x : HP} (hP : TP b T x) (e4 : x.1.1 5 0 4 = nI en) : ∀ (c f i a : Nat), i + c = en → c < f → a ≤ 1000 → (∀ k, i ≤ k → k < en → cl (b k) = 2) → g_X5_numberHere_7 f (nI a) (nI i) x = some (nI (nV b c i a), x)
  | 0, f, i, a, h1, h2, ha, hd => by
    obtain ⟨f, rfl⟩ : ∃ z, f = z + 1 := ⟨f - 1, by omega⟩
    rw [g_X5_numberHere_7, rI_5, e4, show i = en by omega, if_pos nI_le_n]
    rfl
  | c + 1, f, i, a, h1, h2, ha, hd => by
    obtain ⟨f, rfl⟩ : ∃ z, f = z + 1 := ⟨f - 1, by omega⟩
    have hbk := cl2 (hd i (by omega) (by omega))
    rw [g_X5_numberHere_7, rI_5, e4, if_neg (nI_le_i (by omega) (by omega) (by omega))]
    unfold nV
    by_cases q : 1000 ≤ a
    · rw [if_pos (show (1000 : Int32) ≤ nI a from (nI_leI (a := 1000) (by decide) (by omega)).mpr q), if_pos q]
    · have ev : ((nI a * 10) + nI (b i)) - 48 = nI (a * 10 + b i - 48) := by
        rw [show (10 : Int32) = nI 10 from rfl, pk_mul, nI_add, show (48 : Int32) = nI 48 from rfl, pk_sub (by omega)]
      have em : (if nI (a * 10 + b i - 48) < 1000 then nI (a * 10 + b i - 48) else 1000) = nI (min 1000 (a * 10 + b i - 48)) := by
        by_cases z : a * 10 + b i - 48 < 1000
        · rw [if_pos (show nI (a * 10 + b i - 48) < 1000 from (nI_ltI (b := 1000) (by omega) (by decide)).mpr z), show min 1000 (a * 10 + b i - 48) = a * 10 + b i - 48 by omega]
        · rw [if_neg (show ¬ nI (a * 10 + b i - 48) < 1000 from fun y => z ((nI_ltI (b := 1000) (by omega) (by decide)).mp y)), show min 1000 (a * 10 + b i - 48) = 1000 by omega]
          rfl
      rw [if_neg (show ¬ (1000 : Int32) ≤ nI a from fun y => q ((nI_leI (a := 1000) (by decide) (by omega)).mp y)), if_neg q, ix120 (by omega), Option.bind_some, rI_11, hP.2 i (by omega)]
      unfold f_J9_min_7cf53
      rw [ev, em, Option.bind_some, nI_1]
      exact num_c hT hen hP e4 c f (i + 1) (min 1000 (a * 10 + b i - 48)) (by omega) (by omega) (by omega) (fun k h3 h4 => hd k (by omega) h4)
/-- the class stands at the token behind e -/
def CT (b : Nat → Nat) (T e : Nat) (x : HP) : Prop := x.1.1 5 0 2 = nI (tkK b T e) ∧ x.1.1 5 0 3 = nI (tkS b T e) ∧ x.1.1 5 0 4 = nI (tkE b T e) ∧ (tkK b T e = 2 → x.1.1 5 0 5 = nI (tkV b T e))
theorem s184_c {e : Nat} (hT : T ≤ 120) (he : e ≤ T) {x : HP} (hP : TP b T x) (h2 : x.1.1 5 0 2 = nI (tkK b T e)) (h3 : x.1.1 5 0 3 = nI (tkS b T e)) (h4 : x.1.1 5 0 4 = nI (tkE b T e)) (hk : tkK b T e ≤ 4) : ∃ x', g_X5_step_184 x = some x' ∧ F5 x x' ∧ CT b T e x' := by
  have hE := tkE_ge (b := b) he
  unfold g_X5_step_184
  rw [rI_5, h2]
  by_cases q : tkK b T e = 2
  · rw [if_pos (show nI (tkK b T e) = 2 by rw [q]; rfl)]
    unfold f_X5_numberHere
    have := num_c hT hE.2.1 hP h4 (tkE b T e - tkS b T e) am_fu (tkS b T e) 0 (by omega) (fu_lt (by omega)) (by omega) (fun k a c => by rw [← q]; exact tk_in (Or.inr q) a c)
    have this' : g_X5_numberHere_7 am_fu 0 (nI (tkS b T e)) x = some (nI (tkV b T e), x) := this
    rw [rI_5, h3, this', Option.bind_some]
    refine ⟨_, rfl, F5.w x 0 5 _, (w5n x _ (by decide)).trans h2, (w5n x _ (by decide)).trans h3, (w5n x _ (by decide)).trans h4, fun _ => w5s x 5 _⟩
  · rw [if_neg (show ¬ nI (tkK b T e) = 2 from fun z => q ((nI_eq (b := 2) (by omega) (by decide)).mp z))]
    exact ⟨_, rfl, F5.w x 0 5 _, (w5n x _ (by decide)).trans h2, (w5n x _ (by decide)).trans h3, (w5n x _ (by decide)).trans h4, fun z => absurd z q⟩
theorem step_c {e : Nat} {x : HP} (hT : T ≤ 120) (hb : ∀ k, b k < 256) (he : e ≤ T) (hP : TP b T x) (e4 : x.1.1 5 0 4 = nI e) : ∃ x', f_X5_step x = some x' ∧ F5 x x' ∧ CT b T e x' := by
  obtain ⟨x1, a1, a2, a3⟩ := skip_c hT hb (T - e) am_fu e (h_wI x 5 0 3 (nI e)) (by omega) (fu_lt (by omega)) (hP.f5 (F5.w x 0 3 _)) (w5s x 3 _)
  have hF1 : F5 x x1 := (F5.w x 0 3 _).trans a1
  have hP1 := hP.f5 hF1
  have hS := tkS_ge (b := b) he
  have a2' : x1.1.1 5 0 3 = nI (tkS b T e) := a2
  have es : f_X5_step x = g_X5_step_52 x1 := by
    unfold f_X5_step
    rw [rI_5, e4]
    exact a3
  have hP2 : TP b T (h_wI x1 5 0 4 (nI (tkS b T e))) := hP1.f5 (F5.w x1 0 4 _)
  have hF2 : F5 x (h_wI x1 5 0 4 (nI (tkS b T e))) := hF1.trans (F5.w x1 0 4 _)
  rw [es]
  unfold g_X5_step_52
  have r1 : h_rI x1 5 0 3 = nI (tkS b T e) := a2'
  have r2 : h_rI (h_wI x1 5 0 4 (nI (tkS b T e))) 5 0 3 = nI (tkS b T e) := (w5n x1 _ (by decide)).trans a2'
  have r3 : h_rI (h_wI x1 5 0 4 (nI (tkS b T e))) 4 0 1 = nI T := hP2.1
  rw [r1, r2, r3]
  by_cases q : tkS b T e < T
  · have hbk := hb (tkS b T e)
    have hcl := cl_le (b (tkS b T e))
    have hk : tkK b T e = cl (b (tkS b T e)) := by unfold tkK; rw [if_pos q]
    rw [if_pos ((nI_ltI (by omega) (by omega)).mpr q), ix120 (by omega), Option.bind_some, rI_11, hP2.2 _ q, tokW hbk, Option.bind_some, ← hk]
    have e4' : h_rI (h_wI (h_wI x1 5 0 4 (nI (tkS b T e))) 5 0 2 (nI (tkK b T e))) 5 0 4 + 1 = nI (tkS b T e + 1) := by
      rw [rI_5, w5n _ _ (by decide), w5s, nI_1]
    rw [e4']
    have e2' : h_rI (h_wI (h_wI (h_wI x1 5 0 4 (nI (tkS b T e))) 5 0 2 (nI (tkK b T e))) 5 0 4 (nI (tkS b T e + 1))) 5 0 2 = nI (tkK b T e) := by
      rw [rI_5, w5n _ _ (by decide), w5s]
    rw [e2']
    generalize hx2 : h_wI (h_wI (h_wI x1 5 0 4 (nI (tkS b T e))) 5 0 2 (nI (tkK b T e))) 5 0 4 (nI (tkS b T e + 1)) = x2
    have hF3 : F5 x x2 := by
      rw [← hx2]
      exact hF2.trans ((F5.w _ 0 2 _).trans (F5.w _ 0 4 _))
    have hP3 := hP.f5 hF3
    have y4 : x2.1.1 5 0 4 = nI (tkS b T e + 1) := by rw [← hx2, w5s]
    have y2 : x2.1.1 5 0 2 = nI (tkK b T e) := by rw [← hx2, w5n _ _ (by decide), w5s]
    have y3 : x2.1.1 5 0 3 = nI (tkS b T e) := by rw [← hx2, w5n _ _ (by decide), w5n _ _ (by decide), w5n _ _ (by decide), a2']
    by_cases q2 : tkK b T e = 1 ∨ tkK b T e = 2
    · have hE : tkE b T e = rnn b (tkK b T e) (T - (tkS b T e + 1)) (tkS b T e + 1) := by unfold tkE; rw [if_pos q, if_pos q2]
      obtain ⟨x3, c1, c2, c3, c4, c5⟩ := run_c (q := tkK b T e) hT hb (by omega) (T - (tkS b T e + 1)) am_fu (tkS b T e + 1) x2 (by omega) (fu_lt (by omega)) hP3 y4 y2
      rw [← hE] at c2
      obtain ⟨x4, d1, d2, d3⟩ := s184_c hT he (hP3.f5 c1) c3 (c4.trans y3) c2 (by omega)
      refine ⟨x4, ?_, hF3.trans (c1.trans d2), d3⟩
      rcases q2 with q2 | q2
      · rw [if_pos (show nI (tkK b T e) = 1 by rw [q2]; rfl), c5, d1]
      · rw [if_neg (show ¬ nI (tkK b T e) = 1 by rw [q2]; decide), if_pos (show nI (tkK b T e) = 2 by rw [q2]; rfl), c5, d1]
    · have hE : tkE b T e = tkS b T e + 1 := by unfold tkE; rw [if_pos q, if_neg q2]
      rw [← hE] at y4
      obtain ⟨x4, d1, d2, d3⟩ := s184_c hT he hP3 y2 y3 y4 (by omega)
      refine ⟨x4, ?_, hF3.trans d2, d3⟩
      have k1 : ¬ nI (tkK b T e) = 1 := fun z => q2 (Or.inl ((nI_eq (b := 1) (by omega) (by decide)).mp z))
      have k2 : ¬ nI (tkK b T e) = 2 := fun z => q2 (Or.inr ((nI_eq (b := 2) (by omega) (by decide)).mp z))
      rw [if_neg k1, if_neg k2, show am_fu = 999 + 1 from am_fu_eq, g_X5_step_131, if_pos rfl, d1]
  · have hk : tkK b T e = 0 := by unfold tkK; rw [if_neg q]
    have hE : tkE b T e = tkS b T e := by unfold tkE; rw [if_neg q]
    rw [if_neg (fun z => q ((nI_ltI (by omega) (by omega)).mp z))]
    refine ⟨_, rfl, hF2.trans (F5.w _ 0 2 _), ?_, ?_, ?_, fun z => absurd z (by omega)⟩
    · rw [w5s, hk]
      rfl
    · rw [w5n _ _ (by decide), w5n _ _ (by decide), a2']
    · rw [w5n _ _ (by decide), w5s, hE]
end LEX
