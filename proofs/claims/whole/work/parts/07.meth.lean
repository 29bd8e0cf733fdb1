/-! METHODS: a contract out of the abstract machine's run; a call out of a contract -/
def am_tb : List Cond := lw_tbl.filter goodWord
theorem am_tb_mem {w : Cond} (h : w ∈ lw_tbl ∧ goodWord w = true) : w ∈ am_tb := List.mem_filter.mpr h
def am_ws (y : MethodName) (cc : ByteArray) (mL : Nat) (ret : Option FieldType) : List Cond := .code y cc mL ret :: am_tb
def am_Rm (fr lo : Nat) : Room := { frames := fr, cells := 0, slots := 0, locals := lo }
/-- the locals at a method's entry -/
def am_l0 : List AV → List AV
  | [] => []
  | v :: r => match am_isL v with
    | true => v :: am_un :: am_l0 r
    | false => v :: am_l0 r
def am_L0 (n : Nat) (as : List AV) : List AV := am_l0 as ++ List.replicate (n - (am_l0 as).length) am_un
/-- a method's contract: whatever F answers, the method does -/
def am_M (l : Launch) (G : AG) (y : MethodName) (cc : ByteArray) (mL : Nat) (ret : Option FieldType) (fr lo : Nat) (rc : Option Nat) (F : AF) : Prop :=
  ∀ (as : List AV) (h h' : HP) (r : Option AV), am_app F as h = some (r, h') → (∀ v ∈ as, am_wv v) → (∀ k, rc = some k → ∃ (j : Nat) (as' : List AV), as = .inr (.inr (.inl (k, j))) :: as') ∧ (∀ v, r = some v → am_wv v) ∧
    Met l y (am_ws y cc mL ret) (am_Rm fr lo) (va_Pc (as.map (am_tr G)) (fun U => am_E G U ∧ va_P G.1 vwCl (am_w G h) U.heap)) (fun _ st oc t => oc = .returned (r.map (am_tr G)) ∧ va_P G.1 vwCl (am_w G h') t.heap ∧ va_F (am_reg G) st t) 0 0 (am_reg G)
/-- a method's body: from its entry the run comes to what f says -/
def am_B {ρ : Type} (l : Launch) (G : AG) (nL : Nat) (cc : ByteArray) (own : String) (Ts : List Cond) (P : AP) (Rr : AR ρ) (f : List AV → HP → Option ρ) : Prop :=
  ∀ (p : Program) (e : Env) (R : Room) (s : State) (m : MethodId) (args : Array Value) (below : List Frame) (meth : Method) (c : Code) (cells slots : Nat) (Q : ρ → State → Prop), am_X p l e R s m args below meth c cells slots G nL cc own Ts P Rr Q →
    ∀ (as : List AV) (h : HP) (r : ρ), f as h = some r → am_W p l e R s m args below meth c cells slots G nL (Q r) 0 (am_L0 nL as) [] h
/-- a callee by invokevirtual -/
def am_cvOK (l : Launch) (G : AG) (own : String) (fr lo : Nat) (x : Nat × Nat × AF) : Prop :=
  ∃ (y : MethodName) (cc : ByteArray) (mL : Nat) (ret : Option FieldType) (f2 l2 rc : Nat) (C : String), am_M l G y cc mL ret f2 l2 (some rc) x.2.2 ∧
    (Cond.methodLink own x.1 y ∈ am_tb ∧ Cond.instanceMethod y ∈ am_tb ∧ Cond.selects C y y ∈ am_tb ∧ Cond.initialized C ∈ am_tb ∧ Cond.code y cc mL ret ∈ am_tb) ∧
    (y.cls = C ∧ y.cls ≠ "java/lang/invoke/MethodHandle" ∧ y.cls ≠ "java/lang/invoke/VarHandle" ∧ (parseMethodDescriptor y.desc).map (fun d => d.parameters.length + 1) = some x.2.1) ∧
    ((rc < 8 ∧ vwCl[rc]?.map (fun q => q.1) = some C) ∨ (rc = 16 ∧ C = "java/lang/String")) ∧ f2 + 1 ≤ fr ∧ 8 + (mL + 11) + l2 ≤ lo
/-- Math.max and Math.min -/
def f_J9_max_7cf53 (a1 a2 : Int32) (h : HP) : Option (Int32 × HP) := some (if a1 < a2 then a2 else a1, h)
def fl_J9_max_7cf53 : List AV → HP → Option (Int32 × HP) := fun as h => match as with
  | [.inl a1, .inl a2] => f_J9_max_7cf53 a1 a2 h
  | _ => none
def F_J9_max_7cf53 : AF := .inl fl_J9_max_7cf53
def f_J9_min_7cf53 (a1 a2 : Int32) (h : HP) : Option (Int32 × HP) := some (if a2 < a1 then a2 else a1, h)
def fl_J9_min_7cf53 : List AV → HP → Option (Int32 × HP) := fun as h => match as with
  | [.inl a1, .inl a2] => f_J9_min_7cf53 a1 a2 h
  | _ => none
def F_J9_min_7cf53 : AF := .inl fl_J9_min_7cf53
/-- a callee by invokestatic -/
def am_csOK (l : Launch) (G : AG) (own : String) (fr lo : Nat) (x : Nat × Nat × AF) : Prop :=
  (∃ (y : MethodName) (cc : ByteArray) (mL : Nat) (ret : Option FieldType) (f2 l2 : Nat), am_M l G y cc mL ret f2 l2 none x.2.2 ∧
    (Cond.methodLink own x.1 y ∈ am_tb ∧ Cond.static y ∈ am_tb ∧ Cond.initialized y.cls ∈ am_tb ∧ Cond.code y cc mL ret ∈ am_tb) ∧
    (y.cls ≠ "java/lang/invoke/MethodHandle" ∧ y.cls ≠ "java/lang/invoke/VarHandle" ∧ (parseMethodDescriptor y.desc).map (fun d => d.parameters.length) = some x.2.1) ∧ f2 + 1 ≤ fr ∧ 8 + (mL + 11) + l2 ≤ lo) ∨
  (x.2.2 = F_J9_max_7cf53 ∧ (Cond.methodLink own x.1 Lib.Math.max.name ∈ am_tb ∧ Cond.static Lib.Math.max.name ∈ am_tb ∧ Cond.initialized "java/lang/Math" ∈ am_tb ∧ Cond.code Lib.Math.max.name Lib.Math.max.code 2 (some .int) ∈ am_tb) ∧ 1 ≤ fr ∧ 21 ≤ lo) ∨
  (x.2.2 = F_J9_min_7cf53 ∧ (Cond.methodLink own x.1 Lib.Math.min.name ∈ am_tb ∧ Cond.static Lib.Math.min.name ∈ am_tb ∧ Cond.initialized "java/lang/Math" ∈ am_tb ∧ Cond.code Lib.Math.min.name Lib.Math.min.code 2 (some .int) ∈ am_tb) ∧ 1 ≤ fr ∧ 21 ≤ lo)
theorem am_good {Ts : List Cond} (hsub : ∀ w ∈ am_tb, w ∈ Ts) {ws : List Cond} (h : ∀ w ∈ ws, w ∈ am_tb) : GoodIn Ts ws := fun w hw => ⟨hsub w (h w hw), good_of_word (List.mem_filter.mp (h w hw)).2⟩
theorem am_blind {G : AG} {as : List Value} {h : HP} : FrameBlind (va_Pc as (fun U => am_E G U ∧ va_P G.1 vwCl (am_w G h) U.heap)) := fun _ _ _ _ q => ⟨q.1, q.2.1.call, q.2.2⟩
section AMC
variable {p : Program} {l : Launch} {e : Env} {R : Room} {s : State} {m : MethodId} {args : Array Value} {below : List Frame} {meth : Method} {c : Code} {cells slots : Nat} {G : AG} {nL : Nat} {cc : ByteArray} {own : String} {Ts : List Cond} {fr lo : Nat}
theorem am_pre {as : List AV} {h : HP} {H : Heap} {locs : List Loc} (hE : am_E G s) (hP : va_P G.1 vwCl (am_w G h) H) (hS : va_S (am_reg G) s.heap H locs) : ∀ U : State, U.heap = H → s.WarmedH U.vm → va_Pc (as.map (am_tr G)) (fun U => am_E G U ∧ va_P G.1 vwCl (am_w G h) U.heap) (as.map (am_tr G)).toArray U := by
  intro U hU hW
  exact ⟨rfl, hE.go (by rw [hU]; exact hS) hW, by rw [hU]; exact hP⟩
theorem am_recv {h : HP} {H : Heap} {locs : List Loc} (hE : am_E G s) (hP : va_P G.1 vwCl (am_w G h) H) (hS : va_S (am_reg G) s.heap H locs) {rc j : Nat} {C : String} (hj : j < am_cnt rc) (h1 : (rc < 8 ∧ vwCl[rc]?.map (fun q => q.1) = some C) ∨ (rc = 16 ∧ C = "java/lang/String")) :
    ∃ cellB : Cell, H[am_loc G (rc, j)]? = some cellB ∧ cellB.vm.isStatics = false ∧ s.vm.findClass C = some cellB.cls := by
  rcases h1 with ⟨h1, h2⟩ | ⟨h1, h2⟩
  · cases hq : vwCl[rc]? with
    | none => rw [hq] at h2; cases h2
    | some q =>
      rw [hq] at h2
      have e2 : q.1 = C := Option.some.inj h2
      have hat := am_w_at G h (c := rc) (by omega) hj
      rw [am_cell_o G h h1] at hat
      rw [am_loc_o G (by omega), ← e2]
      exact va_recv hE.1 hP hq hat
  · subst h1
    rw [h2]
    exact vk_recv hE.2.2.2.1 hj hS
theorem am_cV {x : Nat × Nat × AF} (hx : p.tables.exec = Jvm.exec) (hb : c.code = cc) (hml : c.maxLocals = nL) (hown : s.vm.findClass own = some m.cls) (hts : ∀ w ∈ Ts, w.before args s = true) (hsub : ∀ w ∈ am_tb, w ∈ Ts) (hE : am_E G s) (hfr : fr ≤ R.frames) (hlo : lo ≤ R.locals) (hcs : cells ≤ R.cells ∧ slots ≤ R.slots)
    (hv : am_cvOK l G own fr lo x) : am_C p l e R s m args below meth c cells slots G nL cc (.invokevirtual x.1) x.2.1 x.2.2 := by
  obtain ⟨y, c2, mL, ret, f2, l2, rc, C, hM, ⟨w1, w2, w3, w4, w5⟩, ⟨d1, d2, d3, d4⟩, h1, hf2, hl2⟩ := hv
  intro as h h' r happ hlen hwa
  obtain ⟨m1, m2, m3⟩ := hM as h h' r happ hwa
  obtain ⟨j, as', e1⟩ := m1 rc rfl
  subst e1
  refine ⟨m2, fun pc rest H locs ls hd hsz hr8 hP hS => ?_⟩
  have hj : j < am_cnt rc := hwa _ List.mem_cons_self
  have hn : (parseMethodDescriptor y.desc).map (fun d => d.parameters.length) = some as'.length := by
    cases hq : parseMethodDescriptor y.desc with
    | none => rw [hq] at d4; cases d4
    | some q =>
      rw [hq] at d4
      have h5 : q.parameters.length + 1 = x.2.1 := Option.some.inj d4
      rw [← hlen] at h5
      show some q.parameters.length = _
      rw [Nat.succ.inj h5]
  have hst : (F0 m pc ls (((Sum.inr (Sum.inr (Sum.inl (rc, j))) :: as' : List AV).map (am_tr G)).reverse ++ rest.map (am_tr G))).stack = (as'.map (am_tr G)).reverse ++ .ref (am_loc G (rc, j)) :: rest.map (am_tr G) := by
    show ((am_tr G (.inr (.inr (.inl (rc, j)))) :: as'.map (am_tr G)).reverse ++ rest.map (am_tr G)) = _
    rw [List.reverse_cons, List.append_assoc]
    rfl
  have hin : ∀ w ∈ wsV own x.1 C y (am_ws y c2 mL ret), w ∈ am_tb := by
    intro w hw
    rcases List.mem_append.mp hw with hw | hw
    · rcases List.mem_cons.mp hw with rfl | hw
      · exact w1
      rcases List.mem_cons.mp hw with rfl | hw
      · exact w2
      rcases List.mem_cons.mp hw with rfl | hw
      · exact w3
      rcases List.mem_cons.mp hw with rfl | hw
      · exact w4
      cases hw
    · rcases List.mem_cons.mp hw with rfl | hw
      · exact w5
      · exact hw
  exact va_runV (As := as'.map (am_tr G)) (rest := rest.map (am_tr G)) ⟨hx, hb, hml, hown, hts⟩ m3 (cwV (as'.length) hts (am_good hsub hin) rfl rfl rfl ⟨d1, d2, d3, hn⟩ ⟨Nat.le_trans hf2 hfr, Nat.le_trans hl2 hlo⟩)
    ⟨am_blind, am_recv hE hP hS hj h1, am_pre (as := Sum.inr (Sum.inr (Sum.inl (rc, j))) :: as') hE hP hS⟩ rfl (by simp) hsz hst (lv_room (by rw [am_sz_eq hE.2.2.2.2.2.2.2.1]; exact hr8)) hd ⟨hcs.1, hcs.2⟩
theorem am_cS {x : Nat × Nat × AF} (hx : p.tables.exec = Jvm.exec) (hb : c.code = cc) (hml : c.maxLocals = nL) (hown : s.vm.findClass own = some m.cls) (hts : ∀ w ∈ Ts, w.before args s = true) (hsub : ∀ w ∈ am_tb, w ∈ Ts) (hE : am_E G s) (hfr : fr ≤ R.frames) (hlo : lo ≤ R.locals) (hcs : cells ≤ R.cells ∧ slots ≤ R.slots)
    (hv : am_csOK l G own fr lo x) : am_C p l e R s m args below meth c cells slots G nL cc (.invokestatic x.1) x.2.1 x.2.2 := by
  rcases hv with ⟨y, c2, mL, ret, f2, l2, hM, ⟨w1, w2, w4, w5⟩, ⟨d2, d3, d4⟩, hf2, hl2⟩ | ⟨hF, ⟨w1, w2, w4, w5⟩, hf2, hl2⟩ | ⟨hF, ⟨w1, w2, w4, w5⟩, hf2, hl2⟩
  rotate_left
  · intro as h h' r happ hlen hwa
    rw [hF] at happ
    obtain ⟨q, e1, e2⟩ := Option.map_eq_some_iff.mp (show (fl_J9_max_7cf53 as h).map (fun q => ((some (.inl q.1) : Option AV), q.2)) = some (r, h') from happ)
    unfold fl_J9_max_7cf53 at e1
    split at e1
    · rename_i a1 a2
      cases e1
      cases e2
      refine ⟨fun v hv => by cases hv; exact trivial, fun pc rest H locs ls hd hsz hr8 hP hS => ?_⟩
      intro T hT X
      obtain ⟨vm', X', st⟩ := va_mathMaxV X hx hown (hts _ (hsub _ w1)) (hts _ (hsub _ w2)) (hts _ (hsub _ w4)) (hts _ (hsub _ w5)) (g := F0 m pc ls (.int a2 :: .int a1 :: rest.map (am_tr G))) rfl (hsz.trans hml.symm) (a := a1) (b := a2) (rest := rest.map (am_tr G)) rfl (by rw [hb]; exact hd) (Nat.le_trans hf2 hfr) (by rw [am_sz_eq hE.2.2.2.2.2.2.2.1]; show 2 * 0 + _ + 13 ≤ _; omega) hcs.1 hcs.2
      exact ⟨some (.int (if a1 < a2 then a2 else a1)), T, T.setVm vm', T.setVm vm', [], hT, by rw [List.append_nil]; exact X', (fun q hq => by cases hq), rfl, rfl, ⟨rfl, by show va_P _ _ _ T.heap; rw [hT]; exact hP, Nat.le_refl _, fun _ _ _ => rfl⟩, st⟩
    · cases e1
  · intro as h h' r happ hlen hwa
    rw [hF] at happ
    obtain ⟨q, e1, e2⟩ := Option.map_eq_some_iff.mp (show (fl_J9_min_7cf53 as h).map (fun q => ((some (.inl q.1) : Option AV), q.2)) = some (r, h') from happ)
    unfold fl_J9_min_7cf53 at e1
    split at e1
    · rename_i a1 a2
      cases e1
      cases e2
      refine ⟨fun v hv => by cases hv; exact trivial, fun pc rest H locs ls hd hsz hr8 hP hS => ?_⟩
      intro T hT X
      obtain ⟨vm', X', st⟩ := X.mathMinV hx hown (hts _ (hsub _ w1)) (hts _ (hsub _ w2)) (hts _ (hsub _ w4)) (hts _ (hsub _ w5)) (g := F0 m pc ls (.int a2 :: .int a1 :: rest.map (am_tr G))) rfl (hsz.trans hml.symm) (a := a1) (b := a2) (rest := rest.map (am_tr G)) rfl (by rw [hb]; exact hd) (Nat.le_trans hf2 hfr) (by rw [am_sz_eq hE.2.2.2.2.2.2.2.1]; show 2 * 0 + _ + 13 ≤ _; omega) hcs.1 hcs.2
      exact ⟨some (.int (if a2 < a1 then a2 else a1)), T, T.setVm vm', T.setVm vm', [], hT, by rw [List.append_nil]; exact X', (fun q hq => by cases hq), rfl, rfl, ⟨rfl, by show va_P _ _ _ T.heap; rw [hT]; exact hP, Nat.le_refl _, fun _ _ _ => rfl⟩, st⟩
    · cases e1
  intro as h h' r happ hlen hwa
  obtain ⟨-, m2, m3⟩ := hM as h h' r happ hwa
  refine ⟨m2, fun pc rest H locs ls hd hsz hr8 hP hS => ?_⟩
  have hin : ∀ w ∈ va_wsS own x.1 y (am_ws y c2 mL ret), w ∈ am_tb := by
    intro w hw
    rcases List.mem_append.mp hw with hw | hw
    · rcases List.mem_cons.mp hw with rfl | hw
      · exact w1
      rcases List.mem_cons.mp hw with rfl | hw
      · exact w2
      rcases List.mem_cons.mp hw with rfl | hw
      · exact w4
      cases hw
    · rcases List.mem_cons.mp hw with rfl | hw
      · exact w5
      · exact hw
  exact va_runS (As := as.map (am_tr G)) (rest := rest.map (am_tr G)) ⟨hx, hb, hml, hown, hts⟩ m3 (va_cwS (as.length) hts (am_good hsub hin) rfl rfl rfl ⟨d2, d3, by rw [hlen]; exact d4⟩ ⟨Nat.le_trans hf2 hfr, Nat.le_trans hl2 hlo⟩)
    ⟨am_blind, am_pre hE hP hS⟩ rfl (by simp) hsz rfl (lv_room (by rw [am_sz_eq hE.2.2.2.2.2.2.2.1]; exact hr8)) hd ⟨hcs.1, hcs.2⟩
end AMC
theorem am_l0_nth {G : AG} (hs : G.2.2.2.2.2.2.category = 1) : ∀ (as : List AV) (k i : Nat) (v : AV), am_nth (am_l0 as) i = some v → v ≠ am_un → (k + i, am_tr G v) ∈ lv_args k (as.map (am_tr G))
  | [], _, _, _, h, _ => by cases h
  | w :: r, k, i, v, h, hv => by
    unfold am_l0 at h
    have hc := am_cat hs w
    cases e : am_isL w with
    | true =>
      rw [e] at h hc
      match i, h with
      | 0, h => cases h; exact List.mem_cons_self
      | 1, h => exact absurd (Option.some.inj h).symm hv
      | i + 2, h =>
        have ih := am_l0_nth hs r (k + 2) i v h hv
        refine List.mem_cons_of_mem _ ?_
        rw [if_pos hc, show k + (i + 2) = k + 2 + i by omega]
        exact ih
    | false =>
      rw [e] at h hc
      match i, h with
      | 0, h => cases h; exact List.mem_cons_self
      | i + 1, h =>
        have ih := am_l0_nth hs r (k + 1) i v h hv
        refine List.mem_cons_of_mem _ ?_
        rw [if_neg (by rw [hc]; decide), show k + (i + 1) = k + 1 + i by omega]
        exact ih
theorem am_l0_len {G : AG} (hs : G.2.2.2.2.2.2.category = 1) : ∀ (as : List AV), (lg_sl (as.map (am_tr G))).length = (am_l0 as).length
  | [] => rfl
  | w :: r => by
    have ih := am_l0_len hs r
    have hc := am_cat hs w
    unfold am_l0
    unfold lg_sl at ih ⊢
    rw [List.map_cons, List.flatMap_cons, List.length_append, ih]
    cases e : am_isL w with
    | true =>
      rw [e] at hc
      rw [if_pos hc]
      simp
      omega
    | false =>
      rw [e] at hc
      rw [if_neg (by rw [hc]; decide)]
      simp
      omega
theorem am_nth_app : ∀ (a b : List AV) (i : Nat) (v : AV), am_nth (a ++ b) i = some v → am_nth a i = some v ∨ v ∈ b
  | [], b, i, v, h => Or.inr (am_nth_mem b i v h)
  | w :: a, b, 0, v, h => Or.inl h
  | w :: a, b, i + 1, v, h => am_nth_app a b i v h
theorem am_LR0 {G : AG} (hs : G.2.2.2.2.2.2.category = 1) (as : List AV) {n : Nat} (hn : (am_l0 as).length ≤ n) : am_LR G n ((lg_sl (as.map (am_tr G)) ++ List.replicate (n - (lg_sl (as.map (am_tr G))).length) Slot.unset).toArray) (am_L0 n as) := by
  have hl := lv_entry (as.map (am_tr G)) (n := n) (by rw [am_l0_len hs]; exact hn)
  refine ⟨by simp [am_L0]; omega, hl.1, hl.2.1, fun i v hi hv => ?_⟩
  rcases am_nth_app _ _ _ _ hi with q | q
  · have := am_l0_nth hs as 0 i v q hv
    rw [Nat.zero_add] at this
    exact hl.2.2 _ this
  · exact absurd (List.eq_of_mem_replicate q) hv
theorem am_L0_wf : ∀ (as : List AV), (∀ v ∈ as, am_wv v) → ∀ v ∈ am_l0 as, am_wv v
  | [], _, v, h => by cases h
  | w :: r, hw, v, h => by
    have h2 := List.forall_mem_cons.mp hw
    unfold am_l0 at h
    cases e : am_isL w with
    | true =>
      rw [e] at h
      rcases List.mem_cons.mp h with rfl | h
      · exact h2.1
      rcases List.mem_cons.mp h with rfl | h
      · exact trivial
      exact am_L0_wf r h2.2 v h
    | false =>
      rw [e] at h
      rcases List.mem_cons.mp h with rfl | h
      · exact h2.1
      exact am_L0_wf r h2.2 v h
/-- what a return means for the type that comes back -/
def am_rk {ρ : Type} (ret : Option FieldType) (Rr : AR ρ) (toR : ρ → Option AV × HP) : Prop :=
  (∀ v h r, Rr.1 v h = some r → ∃ (ty : FieldType) (w : Int32), ret = some ty ∧ narrow ty (.int v) = .int w ∧ toR r = (some (.inl w), h)) ∧
  (∀ h r, Rr.2.1 h = some r → ret = none ∧ toR r = (none, h)) ∧
  (∀ v h r, Rr.2.2.1 v h = some r → ret = some .long ∧ toR r = (some (.inr (.inl v)), h)) ∧
  (∀ v h r, Rr.2.2.2 v h = some r → (∃ nm, ret = some (.object nm)) ∧ toR r = (some (.inr (.inr (.inl v))), h))
set_option maxHeartbeats 1000000 in
theorem am_M_of {ρ : Type} {l : Launch} {G : AG} {y : MethodName} {cc : ByteArray} {mL : Nat} {ret : Option FieldType} {fr lo : Nat} {rc : Option Nat} {F : AF} {f : List AV → HP → Option ρ} {toR : ρ → Option AV × HP} {P : AP} {Rr : AR ρ} {own : String}
    (hy : plainName y.cls = true) (hcls : y.cls = own) (happ : ∀ as h, am_app F as h = (f as h).map toR) (hsh : ∀ as h x, f as h = some x → (∀ k, rc = some k → ∃ (j : Nat) (as' : List AV), as = .inr (.inr (.inl (k, j))) :: as') ∧ (am_l0 as).length ≤ mL)
    (hwr : ∀ as h x, f as h = some x → ∀ v, (toR x).1 = some v → am_wv v) (hrk : am_rk ret Rr toR)
    (hF : ∀ x ∈ P.1, am_fok own am_tb x) (hK : ∀ x ∈ P.2.1, am_kok own am_tb x) (hS : ∀ x ∈ P.2.2.1, am_sok own am_tb x) (hV : ∀ x ∈ P.2.2.2.1, am_cvOK l G own fr lo x) (hC : ∀ x ∈ P.2.2.2.2.1, am_csOK l G own fr lo x) (hA : ∀ x ∈ P.2.2.2.2.2, am_aok own am_tb (am_Rm fr lo) x)
    (hB : am_B l G mL cc own am_tb P Rr f) : am_M l G y cc mL ret fr lo rc F := by
  intro as h h' r hr hwa
  rw [happ] at hr
  obtain ⟨x, hx1, hx2⟩ := Option.map_eq_some_iff.mp hr
  obtain ⟨s1, s2⟩ := hsh as h x hx1
  refine ⟨s1, fun v hv => hwr as h x hx1 v (by rw [hx2]; exact hv), ?_⟩
  refine Met.ofW (cc := cc) (maxL := mL) (ret := ret) hy rfl ?_
  intro p e s m args below meth c s₁ B hml hv
  obtain ⟨rfl, hE, hP⟩ := hv
  have hx := B.exec
  have hb := B.bytes
  have hrt := B.returns
  have hts0 := atoms_spec (ws := am_ws y cc mL ret) B.pre
  have hts : ∀ w ∈ am_tb, w.before (as.map (am_tr G)).toArray s = true := fun w hw => hts0 w (List.mem_cons_of_mem _ hw)
  have hown : s.vm.findClass own = some m.cls := by rw [← hcls]; exact findClass_of_methodNamed B.named
  have hlocks := B.notSynchronized
  have ecat := hE.2.2.2.2.2.2.2.1
  have hS0 : va_S (am_reg G) s.heap s.heap [] := va_S.rf
  have hq : ∀ (r' : Option AV) (h2 : HP) (H : Heap) (locs : List Loc), (r', h2) = (r, h') → va_P G.1 vwCl (am_w G h2) H → va_S (am_reg G) s.heap H locs → ∀ t : State, t.heap = H → s.WarmedH t.vm → (fun (_ : Array Value) (st : State) (oc : Outcome) (t : State) => oc = .returned (r.map (am_tr G)) ∧ va_P G.1 vwCl (am_w G h') t.heap ∧ va_F (am_reg G) st t) (as.map (am_tr G)).toArray s (.returned (r'.map (am_tr G))) t := by
    intro r' h2 H locs e9 hP9 hS9 t ht _
    cases e9
    exact ⟨rfl, by rw [ht]; exact hP9, hS9.F ht⟩
  have CX : am_X p l e (headSpec (am_ws y cc mL ret) (am_Rm fr lo)).room s m (as.map (am_tr G)).toArray below meth c 0 0 G mL cc own am_tb P Rr (fun x => fun t => toR x = (r, h') → MQ below (fun _ st oc t => oc = .returned (r.map (am_tr G)) ∧ va_P G.1 vwCl (am_w G h') t.heap ∧ va_F (am_reg G) st t) (as.map (am_tr G)).toArray s 0 0 (am_reg G) t) := by
    refine ⟨hx, hb, hml, hown, hts, hE, hF, hK, hS, fun ix n F9 h9 => ?_, fun ix n F9 h9 => ?_, hA, ?_, ?_, ?_, ?_⟩
    · exact am_cV (x := (ix, n, F9)) hx hb hml hown hts (fun _ q => q) hE (Nat.le_refl fr) (Nat.le_refl lo) ⟨Nat.le_refl 0, Nat.le_refl 0⟩ (hV _ (am_get_mem _ _ _ h9))
    · exact am_cS (x := (ix, n, F9)) hx hb hml hown hts (fun _ q => q) hE (Nat.le_refl fr) (Nat.le_refl lo) ⟨Nat.le_refl 0, Nat.le_refl 0⟩ (hC _ (am_get_mem _ _ _ h9))
    · intro v h2 x2 pc ls H locs hret hwv hd hP9 hS9
      rcases v with v | v | v | v
      · obtain ⟨ty, w, e1, e2, e3⟩ := hrk.1 v h2 x2 hret
        intro T hT X9
        by_cases e4 : toR x2 = (r, h')
        · rw [e3] at e4
          obtain ⟨t, a1, b1⟩ := am_nret (Qc := fun _ st oc t => oc = .returned (r.map (am_tr G)) ∧ va_P G.1 vwCl (am_w G h') t.heap ∧ va_F (am_reg G) st t) (free := am_reg G) hx hb (hrt.trans e1) e2 (hq _ h2 H locs e4 hP9 hS9) hS9.2.2 hd hlocks T hT X9
          exact ⟨t, a1, fun _ => b1⟩
        · obtain ⟨t, a1, b1⟩ := am_nret (Qc := fun _ _ _ _ => True) (free := am_reg G) hx hb (hrt.trans e1) e2 (fun _ _ _ => trivial) hS9.2.2 hd hlocks T hT X9
          exact ⟨t, a1, fun q => absurd q e4⟩
      · cases hret
      · cases hret
      · cases hret
    · intro v h2 x2 pc ls H locs hret hwv hd hP9 hS9
      rcases v with v | v | v | v
      · cases hret
      · cases hret
      · cases hret
      · obtain ⟨e1, e3⟩ := hrk.2.1 h2 x2 hret
        intro T hT X9
        by_cases e4 : toR x2 = (r, h')
        · rw [e3] at e4
          obtain ⟨t, a1, b1⟩ := W.vret (Qc := fun _ st oc t => oc = .returned (r.map (am_tr G)) ∧ va_P G.1 vwCl (am_w G h') t.heap ∧ va_F (am_reg G) st t) (free := am_reg G) hx hb (hrt.trans e1) (hq _ h2 H locs e4 hP9 hS9) hS9.2.2 hd hlocks T hT X9
          exact ⟨t, a1, fun _ => b1⟩
        · obtain ⟨t, a1, b1⟩ := W.vret (Qc := fun _ _ _ _ => True) (free := am_reg G) hx hb (hrt.trans e1) (fun _ _ _ => trivial) hS9.2.2 hd hlocks T hT X9
          exact ⟨t, a1, fun q => absurd q e4⟩
    · intro v h2 x2 pc ls H locs hret hwv hd hP9 hS9
      rcases v with v | v | v | v
      · cases hret
      · obtain ⟨e1, e3⟩ := hrk.2.2.1 v h2 x2 hret
        intro T hT X9
        by_cases e4 : toR x2 = (r, h')
        · rw [e3] at e4
          obtain ⟨t, a1, b1⟩ := W.lret (Qc := fun _ st oc t => oc = .returned (r.map (am_tr G)) ∧ va_P G.1 vwCl (am_w G h') t.heap ∧ va_F (am_reg G) st t) (free := am_reg G) hx hb (hrt.trans e1) (hq _ h2 H locs e4 hP9 hS9) hS9.2.2 hd hlocks T hT X9
          exact ⟨t, a1, fun _ => b1⟩
        · obtain ⟨t, a1, b1⟩ := W.lret (Qc := fun _ _ _ _ => True) (free := am_reg G) hx hb (hrt.trans e1) (fun _ _ _ => trivial) hS9.2.2 hd hlocks T hT X9
          exact ⟨t, a1, fun q => absurd q e4⟩
      · cases hret
      · cases hret
    · intro v h2 x2 pc ls H locs hret hwv hd hP9 hS9
      rcases v with v | v | v | v
      · cases hret
      · cases hret
      · obtain ⟨⟨nm, e1⟩, e3⟩ := hrk.2.2.2 v h2 x2 hret
        intro T hT X9
        by_cases e4 : toR x2 = (r, h')
        · rw [e3] at e4
          obtain ⟨t, a1, b1⟩ := W.aret (Qc := fun _ st oc t => oc = .returned (r.map (am_tr G)) ∧ va_P G.1 vwCl (am_w G h') t.heap ∧ va_F (am_reg G) st t) (free := am_reg G) hx hb (hrt.trans e1) (Or.inl ⟨nm, rfl⟩) (Or.inr ⟨_, rfl⟩) (hq _ h2 H locs e4 hP9 hS9) hS9.2.2 hd hlocks T hT X9
          exact ⟨t, a1, fun _ => b1⟩
        · obtain ⟨t, a1, b1⟩ := W.aret (Qc := fun _ _ _ _ => True) (free := am_reg G) hx hb (hrt.trans e1) (Or.inl ⟨nm, rfl⟩) (Or.inr ⟨_, rfl⟩) (fun _ _ _ => trivial) hS9.2.2 hd hlocks T hT X9
          exact ⟨t, a1, fun q => absurd q e4⟩
      · cases hret
  have hgo := hB p e _ s m _ below meth c 0 0 _ CX as h x hx1
  rw [lg_entry_eq]
  have hw0 : ∀ v ∈ am_L0 mL as, am_wv v := fun v hv => by
    rcases List.mem_append.mp hv with q | q
    · exact am_L0_wf as hwa v q
    · rw [List.eq_of_mem_replicate q]; exact trivial
  intro T hT X9
  obtain ⟨t, a1, b1⟩ := hgo s.heap [] _ hP hS0 (am_LR0 ecat as s2) hw0 (fun _ q => by cases q) T hT X9
  exact ⟨t, a1, b1 hx2⟩
