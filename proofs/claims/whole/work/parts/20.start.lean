/-! THE CLAIM OUT OF ONE WALK OF THE LAW'S BODY. Your part is whole_start (and what it stands on); all else here is the same for every law, but numbers. -/
def R_law : String := "HandleLoansLaw"
def lw_P (b : Addr) (xs : List Int32) (args : Array Value) (s : State) : Prop := args = #[.ref b] ∧ s.IntsAt b xs ∧ xs.length ≤ 3072 ∧ (Jvm.Cond.and given_1 narrow_1).before args s = true
def lw_Q (_ : Array Value) (s : State) (o : Outcome) (t : State) : Prop := o = .returned (some (.int 1)) ∧ Framed s o t [] 600000 7302250
def lw_Z (below : List Frame) (a : Array Value) (s : State) : State → Prop := fun t => ∃ o, t.status = .running ∧ Ended t below o ∧ lw_Q a s o t
/-- the law's own end, with 1 on the stack, nothing written that was there before, its room as the claim has it -/
theorem lw_ret {p : Program} {l : Launch} {e : Env} {s : State} {m : MethodId} {below : List Frame} {meth : Method} {c : Code} {b : Nat} (hx : p.tables.exec = Jvm.exec) (hb : c.code = code) (hr : meth.sig.returnType = ret) (hlocks : meth.locks = false) {pc : Nat} {H : Heap} {ls : Array Slot} (hdg : decode code pc = .ok (.ireturn, 1)) : W p l e room_1 s m #[Value.ref b] below meth c H [] 600000 7302250 (lw_Z below #[Value.ref b] s) (F0 m pc ls [.int 1]) := by
  intro T hT X
  obtain ⟨fs, hret, hrun, hended, hW, hframe⟩ := X.leave (v := some (.int 1)) (hlocks := hlocks) (fun h => by rw [hr] at h; cases h)
  have hmeth' : T.vm.method? m = some meth := X.method'
  refine ⟨T.setFrames fs, ?_, .returned (some (.int 1)), hrun, hended, rfl, ⟨_, rfl⟩, hW, hframe⟩
  jvm_step X.here [X.here.top, hx, hb, hdg, hmeth', hr, ret, narrow_b1]
  (try refine ⟨rfl, ?_⟩); (try refine ⟨rfl, ?_⟩)
  first | (intro acts; rw [hret _ acts rfl rfl rfl]) | rw [hret _ _ rfl rfl rfl]
  exact Steps.refl _
/-- what holds at the law's entry: the machine, the code, the tables' words (any of lw_tbl by 'hts w (by decide +kernel)'), the script of L ints xs at the cell b, what the Statement gives of the start (any of its parts by flat_of_before) -/
def lw_At (p : Program) (s : State) (m : MethodId) (meth : Method) (c : Code) (b L : Nat) (xs : Nat → Int32) : Prop :=
  p.tables.exec = Jvm.exec ∧ c.code = code ∧ meth.sig.returnType = ret ∧ c.maxLocals = 4 ∧ s.vm.findClass R_law = some m.cls ∧ (∀ w ∈ lw_tbl, w.before #[Value.ref b] s = true) ∧ va_X b L xs s s.heap ∧ b < s.heap.size ∧ meth.locks = false ∧ (Jvm.Cond.and given_1 narrow_1).before #[Value.ref b] s = true

theorem cvs_L_law (l : Launch) (G : AG) : ∀ x ∈ P_L_law.2.2.2.1, am_cvOK l G RL 10 215 x := (List.forall_mem_cons.mpr ⟨cv_RL_13 l G (by decide) (by decide), (List.forall_mem_cons.mpr ⟨cv_RL_17 l G (by decide) (by decide), (List.forall_mem_cons.mpr ⟨cv_RL_18 l G (by decide) (by decide), (List.forall_mem_cons.mpr ⟨cv_RL_22 l G (by decide) (by decide), (List.forall_mem_cons.mpr ⟨cv_RL_23 l G (by decide) (by decide), (List.forall_mem_cons.mpr ⟨cv_RL_26 l G (by decide) (by decide), (List.forall_mem_cons.mpr ⟨cv_RL_27 l G (by decide) (by decide), (List.forall_mem_cons.mpr ⟨cv_RL_30 l G (by decide) (by decide), (List.forall_mem_cons.mpr ⟨cv_RL_31 l G (by decide) (by decide), (List.forall_mem_cons.mpr ⟨cv_RL_34 l G (by decide) (by decide), (List.forall_mem_cons.mpr ⟨cv_RL_35 l G (by decide) (by decide), (List.forall_mem_cons.mpr ⟨cv_RL_38 l G (by decide) (by decide), (List.forall_mem_cons.mpr ⟨cv_RL_39 l G (by decide) (by decide), (List.forall_mem_cons.mpr ⟨cv_RL_42 l G (by decide) (by decide), (List.forall_mem_cons.mpr ⟨cv_RL_43 l G (by decide) (by decide), (List.forall_mem_cons.mpr ⟨cv_RL_47 l G (by decide) (by decide), (List.forall_mem_cons.mpr ⟨cv_RL_48 l G (by decide) (by decide), (List.forall_mem_cons.mpr ⟨cv_RL_51 l G (by decide) (by decide), (List.forall_mem_cons.mpr ⟨cv_RL_52 l G (by decide) (by decide), (List.forall_mem_cons.mpr ⟨cv_RL_55 l G (by decide) (by decide), (List.forall_mem_cons.mpr ⟨cv_RL_56 l G (by decide) (by decide), (List.forall_mem_cons.mpr ⟨cv_RL_59 l G (by decide) (by decide), (List.forall_mem_cons.mpr ⟨cv_RL_60 l G (by decide) (by decide), (List.forall_mem_cons.mpr ⟨cv_RL_63 l G (by decide) (by decide), (List.forall_mem_cons.mpr ⟨cv_RL_64 l G (by decide) (by decide), (List.forall_mem_cons.mpr ⟨cv_RL_67 l G (by decide) (by decide), (List.forall_mem_cons.mpr ⟨cv_RL_68 l G (by decide) (by decide), (List.forall_mem_cons.mpr ⟨cv_RL_71 l G (by decide) (by decide), (List.forall_mem_cons.mpr ⟨cv_RL_72 l G (by decide) (by decide), (List.forall_mem_cons.mpr ⟨cv_RL_75 l G (by decide) (by decide), (List.forall_mem_cons.mpr ⟨cv_RL_76 l G (by decide) (by decide), (List.forall_mem_cons.mpr ⟨cv_RL_79 l G (by decide) (by decide), (List.forall_mem_cons.mpr ⟨cv_RL_80 l G (by decide) (by decide), (List.forall_mem_cons.mpr ⟨cv_RL_83 l G (by decide) (by decide), (List.forall_mem_cons.mpr ⟨cv_RL_84 l G (by decide) (by decide), (List.forall_mem_cons.mpr ⟨cv_RL_87 l G (by decide) (by decide), (List.forall_mem_cons.mpr ⟨cv_RL_88 l G (by decide) (by decide), (List.forall_mem_cons.mpr ⟨cv_RL_91 l G (by decide) (by decide), (List.forall_mem_cons.mpr ⟨cv_RL_92 l G (by decide) (by decide), (List.forall_mem_cons.mpr ⟨cv_RL_95 l G (by decide) (by decide), (List.forall_mem_cons.mpr ⟨cv_RL_96 l G (by decide) (by decide), (List.forall_mem_cons.mpr ⟨cv_RL_99 l G (by decide) (by decide), (List.forall_mem_cons.mpr ⟨cv_RL_100 l G (by decide) (by decide), (List.forall_mem_cons.mpr ⟨cv_RL_103 l G (by decide) (by decide), (List.forall_mem_cons.mpr ⟨cv_RL_104 l G (by decide) (by decide), (List.forall_mem_cons.mpr ⟨cv_RL_107 l G (by decide) (by decide), (List.forall_mem_cons.mpr ⟨cv_RL_108 l G (by decide) (by decide), (List.forall_mem_cons.mpr ⟨cv_RL_111 l G (by decide) (by decide), (List.forall_mem_cons.mpr ⟨cv_RL_112 l G (by decide) (by decide), (List.forall_mem_cons.mpr ⟨cv_RL_115 l G (by decide) (by decide), (List.forall_mem_cons.mpr ⟨cv_RL_116 l G (by decide) (by decide), (List.forall_mem_cons.mpr ⟨cv_RL_119 l G (by decide) (by decide), (List.forall_mem_cons.mpr ⟨cv_RL_120 l G (by decide) (by decide), (List.forall_mem_cons.mpr ⟨cv_RL_123 l G (by decide) (by decide), (List.forall_mem_cons.mpr ⟨cv_RL_124 l G (by decide) (by decide), (List.forall_mem_cons.mpr ⟨cv_RL_127 l G (by decide) (by decide), (List.forall_mem_cons.mpr ⟨cv_RL_128 l G (by decide) (by decide), (List.forall_mem_cons.mpr ⟨cv_RL_132 l G (by decide) (by decide), (List.forall_mem_cons.mpr ⟨cv_RL_133 l G (by decide) (by decide), (List.forall_mem_cons.mpr ⟨cv_RL_136 l G (by decide) (by decide), (List.forall_mem_cons.mpr ⟨cv_RL_137 l G (by decide) (by decide), (List.forall_mem_cons.mpr ⟨cv_RL_140 l G (by decide) (by decide), (List.forall_mem_cons.mpr ⟨cv_RL_143 l G (by decide) (by decide), (List.forall_mem_cons.mpr ⟨cv_RL_147 l G (by decide) (by decide), (List.forall_mem_cons.mpr ⟨cv_RL_148 l G (by decide) (by decide), (List.forall_mem_cons.mpr ⟨cv_RL_152 l G (by decide) (by decide), (List.forall_mem_cons.mpr ⟨cv_RL_153 l G (by decide) (by decide), (List.forall_mem_cons.mpr ⟨cv_RL_156 l G (by decide) (by decide), (List.forall_mem_cons.mpr ⟨cv_RL_157 l G (by decide) (by decide), (List.forall_mem_cons.mpr ⟨cv_RL_160 l G (by decide) (by decide), (List.forall_mem_cons.mpr ⟨cv_RL_161 l G (by decide) (by decide), (List.forall_mem_cons.mpr ⟨cv_RL_164 l G (by decide) (by decide), (List.forall_mem_cons.mpr ⟨cv_RL_165 l G (by decide) (by decide), (List.forall_mem_cons.mpr ⟨cv_RL_168 l G (by decide) (by decide), (List.forall_mem_cons.mpr ⟨cv_RL_169 l G (by decide) (by decide), (List.forall_mem_cons.mpr ⟨cv_RL_172 l G (by decide) (by decide), (List.forall_mem_cons.mpr ⟨cv_RL_173 l G (by decide) (by decide), (List.forall_mem_cons.mpr ⟨cv_RL_176 l G (by decide) (by decide), (List.forall_mem_cons.mpr ⟨cv_RL_177 l G (by decide) (by decide), (List.forall_mem_cons.mpr ⟨cv_RL_180 l G (by decide) (by decide), (List.forall_mem_cons.mpr ⟨cv_RL_181 l G (by decide) (by decide), (List.forall_mem_cons.mpr ⟨cv_RL_184 l G (by decide) (by decide), (fun _ q => by cases q)⟩)⟩)⟩)⟩)⟩)⟩)⟩)⟩)⟩)⟩)⟩)⟩)⟩)⟩)⟩)⟩)⟩)⟩)⟩)⟩)⟩)⟩)⟩)⟩)⟩)⟩)⟩)⟩)⟩)⟩)⟩)⟩)⟩)⟩)⟩)⟩)⟩)⟩)⟩)⟩)⟩)⟩)⟩)⟩)⟩)⟩)⟩)⟩)⟩)⟩)⟩)⟩)⟩)⟩)⟩)⟩)⟩)⟩)⟩)⟩)⟩)⟩)⟩)⟩)⟩)⟩)⟩)⟩)⟩)⟩)⟩)⟩)⟩)⟩)⟩)⟩)⟩)⟩)⟩)⟩)⟩)⟩)
def hp0 : HP := ((fun c _ k => match c with
  | 0 => (match k with
    | 4 => -1
    | _ => 0)
  | 1 => (match k with
    | 1 => 5
    | _ => 0)
  | _ => 0, fun _ _ _ => 0), (fun c j k => match c with
  | 13 => (match j with
    | 0 => upd (fun _ => 0) 1 5 k
    | _ => 0)
  | _ => 0, fun _ _ _ => 0))
theorem st_q {D : va_G} {cl : List vw_C} {H : Heap} {a n : Nat} {cA : ClassId} {f g : Nat → Option Nat} (h : va_at D cl (a, .inl (cA, n, .inr (.inr (.inr (.inr f))))) H) (e : ∀ j, j < n → f j = g j) : va_at D cl (a, .inl (cA, n, .inr (.inr (.inr (.inr g))))) H := by
  have h1 : H[a]? = some (vp_cell cA (n, .inr (.inr (.inr (.inr f))))) := h
  show H[a]? = some (vp_cell cA (n, .inr (.inr (.inr (.inr g)))))
  rw [h1, vp_cell_q, vp_cell_q]
  congr 1
  unfold arrV
  congr 1
  apply Array.ext
  · simp
  · intro i h2 h3
    have h4 : i < n := by simpa using h2
    simp [e i h4]
theorem st_K {s : State} {args : Array Value} (hts : ∀ w ∈ lw_tbl, w.before args s = true) : ∃ (D : va_G) (cy : Nat → ClassId), va_K D vwCl [(cy 8, .object RX0), (cy 9, .object RX2), (cy 10, .object RX3), (cy 11, .int), (cy 12, .long)] s := by
  have htb : ∀ w ∈ am_tb, w.before args s = true := fun w h => hts w (List.mem_filter.mp h).1
  obtain ⟨c0, iS0, hKn0⟩ := u_known (C := RX0) (T := TX0) (N := 6) (n := 6) htb uw_0 (htb _ (am_tb_mem (we_0 _ (List.mem_of_getElem? (i := 11) rfl))))
  obtain ⟨c1, iS1, hKn1⟩ := u_known (C := RX1) (T := TX1) (N := 6) (n := 6) htb uw_1 (htb _ (am_tb_mem (we_0 _ (List.mem_of_getElem? (i := 21) rfl))))
  obtain ⟨c2, iS2, hKn2⟩ := u_known (C := RX2) (T := TX2) (N := 2) (n := 2) htb uw_2 (htb _ (am_tb_mem (we_0 _ (List.mem_of_getElem? (i := 16) rfl))))
  obtain ⟨c3, iS3, hKn3⟩ := u_known (C := RX3) (T := TX3) (N := 3) (n := 3) htb uw_3 (htb _ (am_tb_mem (we_0 _ (List.mem_of_getElem? (i := 36) rfl))))
  obtain ⟨c4, iS4, hKn4⟩ := u_known (C := RX4) (T := TX4) (N := 2) (n := 2) htb uw_4 (htb _ (am_tb_mem (we_0 _ (List.mem_of_getElem? (i := 26) rfl))))
  obtain ⟨c5, iS5, hKn5⟩ := u_known (C := RX5) (T := TX5) (N := 6) (n := 6) htb uw_5 (htb _ (am_tb_mem (we_0 _ (List.mem_of_getElem? (i := 31) rfl))))
  obtain ⟨c6, iS6, hKn6⟩ := u_known (C := RX6) (T := TX6) (N := 8) (n := 8) htb uw_6 (htb _ (am_tb_mem (we_0 _ (List.mem_of_getElem? (i := 41) rfl))))
  obtain ⟨c7, iS7, hKn7⟩ := u_known (C := RX7) (T := TX7) (N := 18) (n := 18) htb uw_7 (htb _ (am_tb_mem (we_0 _ (List.mem_of_getElem? (i := 42) rfl))))
  obtain ⟨aI, kI, pI, f1I, f2I, f3I⟩ := Cond.arrayClass_spec (htb (.arrayClass .int) (am_tb_mem (we_0 _ (List.mem_of_getElem? (i := 7) rfl))))
  obtain ⟨aJ, kJ, pJ, f1J, f2J, f3J⟩ := Cond.arrayClass_spec (htb (.arrayClass .long) (am_tb_mem (we_0 _ (List.mem_of_getElem? (i := 5) rfl))))
  obtain ⟨p8, a8, k8, g18, -, g28, g38, g48⟩ := Cond.arrayOver_spec (hts (.arrayOver (.object RX0)) (tb_1 _ (List.mem_of_getElem? (i := 31) rfl)))
  obtain ⟨p9, a9, k9, g19, -, g29, g39, g49⟩ := Cond.arrayOver_spec (hts (.arrayOver (.object RX2)) (tb_1 _ (List.mem_of_getElem? (i := 69) rfl)))
  obtain ⟨p10, a10, k10, g110, -, g210, g310, g410⟩ := Cond.arrayOver_spec (hts (.arrayOver (.object RX3)) (tb_1 _ (List.mem_of_getElem? (i := 155) rfl)))
  refine ⟨(fun k => if k = 0 then c0 else if k = 1 then c1 else if k = 2 then c2 else if k = 3 then c3 else if k = 4 then c4 else if k = 5 then c5 else if k = 6 then c6 else c7, fun k => if k = 0 then iS0 else if k = 1 then iS1 else if k = 2 then iS2 else if k = 3 then iS3 else if k = 4 then iS4 else if k = 5 then iS5 else if k = 6 then iS6 else iS7), (fun k => if k = 8 then a8 else if k = 9 then a9 else if k = 10 then a10 else if k = 11 then aI else aJ), fun k q hq => ?_, fun k q hq => ?_⟩
  · match k, hq with
    | 0, hq => cases hq; exact hKn0
    | 1, hq => cases hq; exact hKn1
    | 2, hq => cases hq; exact hKn2
    | 3, hq => cases hq; exact hKn3
    | 4, hq => cases hq; exact hKn4
    | 5, hq => cases hq; exact hKn5
    | 6, hq => cases hq; exact hKn6
    | 7, hq => cases hq; exact hKn7
    | k + 8, hq => simp [vwCl] at hq
  · match k, hq with
    | 0, hq => cases hq; exact ⟨fun N z => ⟨(fun k h => by cases h), k8, g28, p8, g38⟩, k8, p8, g28, g38, g18, g48⟩
    | 1, hq => cases hq; exact ⟨fun N z => ⟨(fun k h => by cases h), k9, g29, p9, g39⟩, k9, p9, g29, g39, g19, g49⟩
    | 2, hq => cases hq; exact ⟨fun N z => ⟨(fun k h => by cases h), k10, g210, p10, g310⟩, k10, p10, g210, g310, g110, g410⟩
    | 3, hq => cases hq; exact ⟨fun N z => ⟨(fun k h => by cases h), kI, f2I, pI, f3I⟩, f1I⟩
    | 4, hq => cases hq; exact ⟨fun N z => ⟨(fun k h => by cases h), kJ, f2J, pJ, f3J⟩, f1J⟩
    | k + 5, hq => simp at hq
theorem st_S {s : State} {args : Array Value} {A : Nat → Prop} (hgv : (Jvm.Cond.and given_1 narrow_1).before args s = true) (hA : ∀ a : Nat, a < s.heap.size → ¬ A a) : ∃ adK adV : Nat → Nat, vk_S 12 am_bln am_byt adK adV A s s.heap ∧ ∀ i : Nat, i < 12 → (Term.string RX5 (am_six i)).eval args s none [] s = some (.ref (adK i)) := by
  have hs := flat_of_before _ hgv
  have m1 : ∀ i, i < 12 → Cond.exactly (Term.string RX5 (am_six i)) "java/lang/String" ∈ flatC (Jvm.Cond.and given_1 narrow_1) := by decide +kernel
  have m2 : ∀ i, i < 12 → Cond.eq (.field (Term.string RX5 (am_six i)) "java/lang/String" "coder" "B") (.int 0) ∈ flatC (Jvm.Cond.and given_1 narrow_1) := by decide +kernel
  have m3 : ∀ i, i < 12 → Cond.arrayOf (.field (Term.string RX5 (am_six i)) "java/lang/String" "value" "[B") .byte ∈ flatC (Jvm.Cond.and given_1 narrow_1) := by decide +kernel
  have m4 : ∀ i, i < 12 → Cond.eq (.length (.field (Term.string RX5 (am_six i)) "java/lang/String" "value" "[B")) (.int (Int32.ofNat (am_bln.getD i 0))) ∈ flatC (Jvm.Cond.and given_1 narrow_1) := by decide +kernel
  have m5 : ∀ i, i < 12 → ∀ j, j < am_bln.getD i 0 → Cond.eq (.elem (.field (Term.string RX5 (am_six i)) "java/lang/String" "value" "[B") (.int (Int32.ofNat j))) (.int ((am_byt.getD i []).getD j 0)) ∈ flatC (Jvm.Cond.and given_1 narrow_1) := by decide +kernel
  have m6 : ∀ i, i < 12 → ∀ j, j < 12 → i ≠ j → Cond.not (Cond.eq (Term.string RX5 (am_six i)) (Term.string RX5 (am_six j))) ∈ flatC (Jvm.Cond.and given_1 narrow_1) ∨ Cond.not (Cond.eq (Term.string RX5 (am_six j)) (Term.string RX5 (am_six i))) ∈ flatC (Jvm.Cond.and given_1 narrow_1) := by decide +kernel
  have m7 : ∀ i, i < 12 → am_bln.getD i 0 < 2 ^ 31 := by decide +kernel
  exact vk_Sof (tm := fun i => Term.string RX5 (am_six i)) m7 (fun i hi => hs _ (m1 i hi)) (fun i hi => hs _ (m2 i hi)) (fun i hi => hs _ (m3 i hi)) (fun i hi => hs _ (m4 i hi)) (fun i hi j hj => hs _ (m5 i hi j hj)) (fun i j hi hj hn => (m6 i hi j hj hn).elim (fun q => Or.inl (hs _ q)) (fun q => Or.inr (hs _ q))) hA
theorem st_W : ∀ i, i < 12 → Cond.stringRef RX5 (am_six i) (am_stx i) ∈ lw_tbl := fun i hi => match i, hi with
  | 0, _ => tb_3 _ (List.mem_of_getElem? (i := 164) rfl)
  | 1, _ => tb_3 _ (List.mem_of_getElem? (i := 172) rfl)
  | 2, _ => tb_3 _ (List.mem_of_getElem? (i := 152) rfl)
  | 3, _ => tb_3 _ (List.mem_of_getElem? (i := 161) rfl)
  | 4, _ => tb_3 _ (List.mem_of_getElem? (i := 162) rfl)
  | 5, _ => tb_3 _ (List.mem_of_getElem? (i := 170) rfl)
  | 6, _ => tb_3 _ (List.mem_of_getElem? (i := 89) rfl)
  | 7, _ => tb_3 _ (List.mem_of_getElem? (i := 90) rfl)
  | 8, _ => tb_3 _ (List.mem_of_getElem? (i := 91) rfl)
  | 9, _ => tb_3 _ (List.mem_of_getElem? (i := 92) rfl)
  | 10, _ => tb_3 _ (List.mem_of_getElem? (i := 93) rfl)
  | 11, _ => tb_3 _ (List.mem_of_getElem? (i := 94) rfl)
  | n + 12, h => absurd h (by omega)
def st_pm : List Nat := [3, 4, 5, 6, 7, 8, 9, 10, 20, 21, 22, 23, 24, 25, 26, 27, 37, 38, 39, 40, 41, 42, 43, 44, 1, 18, 35, 12, 13, 14, 15, 16, 17, 29, 30, 31, 32, 33, 34, 46, 47, 48, 49, 50, 51, 56, 58, 60, 62, 52, 54, 0, 65, 2, 19, 36, 11, 28, 45, 55, 53, 64, 57, 59, 61, 63, 66, 67, 68, 69, 70, 71, 74, 75, 72, 73]
theorem st_pm_inj : ∀ i, i < 76 → ∀ j, j < 76 → st_pm.getD i 0 = st_pm.getD j 0 → i = j := by decide +kernel
theorem st_pm_lt : ∀ i, i < 76 → st_pm.getD i 0 < 76 := by decide +kernel
abbrev st_ads (q1 : Nat) (q3 : Nat) (u2 : Nat → Nat) (u4 : Nat → Nat) : List Nat := [q1, u2 0, u2 1, u2 2, u2 3, u2 4, u2 5, u2 6, u2 7, u2 8, u2 9, u2 10, u2 11, u2 12, u2 13, u2 14, u2 15, u2 16, u2 17, u2 18, u2 19, u2 20, u2 21, u2 22, u2 23, u2 24, u2 25, u2 26, u2 27, u2 28, u2 29, u2 30, u2 31, u2 32, u2 33, u2 34, u2 35, u2 36, u2 37, u2 38, u2 39, u2 40, u2 41, u2 42, u2 43, u2 44, u2 45, u2 46, u2 47, u2 48, u2 49, u2 50, u2 51, u2 52, u2 53, u2 54, u2 55, u2 56, u2 57, u2 58, u2 59, u2 60, u2 61, u2 62, u2 63, q3, u4 0, u4 1, u4 2, u4 3, u4 4, u4 5, u4 6, u4 7, u4 8, u4 9]
abbrev st_w (G : AG) (q1 : Nat) (q3 : Nat) (u2 : Nat → Nat) (u4 : Nat → Nat) : va_W := [(q1, .inr (6, [.ref (u2 0), .ref (u2 17), .ref (u2 34), .int 0, .ref (u2 51), .ref (u2 53), .ref (u2 54), .ref (u2 63)])), (u2 0, .inr (1, [.int 0, .int 5, .ref (u2 1), .int 0, .ref (u2 10), .int 0])), wQ G (u2 1) 8 8 (va_up (va_up (va_up (va_up (va_up (va_up (va_up (va_up (fun _ => none) 0 (some (u2 2))) 1 (some (u2 3))) 2 (some (u2 4))) 3 (some (u2 5))) 4 (some (u2 6))) 5 (some (u2 7))) 6 (some (u2 8))) 7 (some (u2 9))), wH (u2 2), wH (u2 3), wH (u2 4), wH (u2 5), wH (u2 6), wH (u2 7), wH (u2 8), wH (u2 9), wQ G (u2 10) 9 6 (va_up (va_up (va_up (va_up (va_up (va_up (fun _ => none) 0 (some (u2 11))) 1 (some (u2 12))) 2 (some (u2 13))) 3 (some (u2 14))) 4 (some (u2 15))) 5 (some (u2 16))), wMe (u2 11), wMe (u2 12), wMe (u2 13), wMe (u2 14), wMe (u2 15), wMe (u2 16), (u2 17, .inr (1, [.int 0, .int 5, .ref (u2 18), .int 0, .ref (u2 27), .int 0])), wQ G (u2 18) 8 8 (va_up (va_up (va_up (va_up (va_up (va_up (va_up (va_up (fun _ => none) 0 (some (u2 19))) 1 (some (u2 20))) 2 (some (u2 21))) 3 (some (u2 22))) 4 (some (u2 23))) 5 (some (u2 24))) 6 (some (u2 25))) 7 (some (u2 26))), wH (u2 19), wH (u2 20), wH (u2 21), wH (u2 22), wH (u2 23), wH (u2 24), wH (u2 25), wH (u2 26), wQ G (u2 27) 9 6 (va_up (va_up (va_up (va_up (va_up (va_up (fun _ => none) 0 (some (u2 28))) 1 (some (u2 29))) 2 (some (u2 30))) 3 (some (u2 31))) 4 (some (u2 32))) 5 (some (u2 33))), wMe (u2 28), wMe (u2 29), wMe (u2 30), wMe (u2 31), wMe (u2 32), wMe (u2 33), (u2 34, .inr (1, [.int 0, .int 5, .ref (u2 35), .int 0, .ref (u2 44), .int 0])), wQ G (u2 35) 8 8 (va_up (va_up (va_up (va_up (va_up (va_up (va_up (va_up (fun _ => none) 0 (some (u2 36))) 1 (some (u2 37))) 2 (some (u2 38))) 3 (some (u2 39))) 4 (some (u2 40))) 5 (some (u2 41))) 6 (some (u2 42))) 7 (some (u2 43))), wH (u2 36), wH (u2 37), wH (u2 38), wH (u2 39), wH (u2 40), wH (u2 41), wH (u2 42), wH (u2 43), wQ G (u2 44) 9 6 (va_up (va_up (va_up (va_up (va_up (va_up (fun _ => none) 0 (some (u2 45))) 1 (some (u2 46))) 2 (some (u2 47))) 3 (some (u2 48))) 4 (some (u2 49))) 5 (some (u2 50))), wMe (u2 45), wMe (u2 46), wMe (u2 47), wMe (u2 48), wMe (u2 49), wMe (u2 50), (u2 51, .inr (4, [.ref (u2 52), .int 0])), wI G (u2 52) 120 (fun _ => 0), (u2 53, .inr (5, [.ref (u2 51), .ref (u2 17), .int 0, .int 0, .int 0, .int 0])), wQ G (u2 54) 10 4 (va_up (va_up (va_up (va_up (fun _ => none) 0 (some (u2 55))) 1 (some (u2 57))) 2 (some (u2 59))) 3 (some (u2 61))), (u2 55, .inr (3, [.int 0, .int 0, .ref (u2 56)])), wJ G (u2 56) 40 (fun _ => 0), (u2 57, .inr (3, [.int 0, .int 0, .ref (u2 58)])), wJ G (u2 58) 40 (fun _ => 0), (u2 59, .inr (3, [.int 0, .int 0, .ref (u2 60)])), wJ G (u2 60) 40 (fun _ => 0), (u2 61, .inr (3, [.int 0, .int 0, .ref (u2 62)])), wJ G (u2 62) 40 (fun _ => 0), wI G (u2 63) 7 (fun _ => 0), (q3, .inr (7, [.ref (u4 0), .ref (u4 1), .ref (u4 2), .ref (u4 3), .int 0, .int 0, .int 0, .int 0, .long 0, .int 0, .int 0, .ref (u4 4), .ref (u4 5), .ref (u4 6), .ref (u4 7), .ref (u4 8), .ref (u4 9), .int 0])), wI G (u4 0) 64 (upd (fun _ => 0) 1 5), wI G (u4 1) 7 (fun _ => 0), wI G (u4 2) 64 (fun _ => 0), wI G (u4 3) 120 (fun _ => 0), wI G (u4 4) 4 (fun _ => 0), wI G (u4 5) 4 (fun _ => 0), wJ G (u4 6) 160 (fun _ => 0), wJ G (u4 7) 40 (fun _ => 0), wI G (u4 8) 64 (fun _ => 0), wI G (u4 9) 64 (fun _ => 0)]
set_option maxRecDepth 20000 in
set_option maxHeartbeats 4000000 in
/-- the cells behind both constructors are the abstract heap hp0 -/
theorem st_world (G : AG) (q1 : Nat) (q3 : Nat) (u2 : Nat → Nat) (u4 : Nat → Nat) (hlo : G.2.2.1 = fun i => (st_ads q1 q3 u2 u4).getD (st_pm.getD i 0) 0) {H : Heap} (hP : va_P G.1 vwCl (st_w G q1 q3 u2 u4) H) : va_P G.1 vwCl (am_w G hp0) H := by
  obtain ⟨D, cy, lo, G4⟩ := G
  dsimp only at hlo
  subst hlo
  have key : ∀ k, k < 76 → va_at D vwCl ((st_ads q1 q3 u2 u4).getD (st_pm.getD k 0) 0, am_cell (D, cy, (fun i => (st_ads q1 q3 u2 u4).getD (st_pm.getD i 0) 0), G4) hp0 (am_dec k).1 (am_dec k).2) H := fun k hk => match k, hk with
    | 0, _ => hP 3 _ rfl
    | 1, _ => hP 4 _ rfl
    | 2, _ => hP 5 _ rfl
    | 3, _ => hP 6 _ rfl
    | 4, _ => hP 7 _ rfl
    | 5, _ => hP 8 _ rfl
    | 6, _ => hP 9 _ rfl
    | 7, _ => hP 10 _ rfl
    | 8, _ => hP 20 _ rfl
    | 9, _ => hP 21 _ rfl
    | 10, _ => hP 22 _ rfl
    | 11, _ => hP 23 _ rfl
    | 12, _ => hP 24 _ rfl
    | 13, _ => hP 25 _ rfl
    | 14, _ => hP 26 _ rfl
    | 15, _ => hP 27 _ rfl
    | 16, _ => hP 37 _ rfl
    | 17, _ => hP 38 _ rfl
    | 18, _ => hP 39 _ rfl
    | 19, _ => hP 40 _ rfl
    | 20, _ => hP 41 _ rfl
    | 21, _ => hP 42 _ rfl
    | 22, _ => hP 43 _ rfl
    | 23, _ => hP 44 _ rfl
    | 24, _ => hP 1 _ rfl
    | 25, _ => hP 18 _ rfl
    | 26, _ => hP 35 _ rfl
    | 27, _ => hP 12 _ rfl
    | 28, _ => hP 13 _ rfl
    | 29, _ => hP 14 _ rfl
    | 30, _ => hP 15 _ rfl
    | 31, _ => hP 16 _ rfl
    | 32, _ => hP 17 _ rfl
    | 33, _ => hP 29 _ rfl
    | 34, _ => hP 30 _ rfl
    | 35, _ => hP 31 _ rfl
    | 36, _ => hP 32 _ rfl
    | 37, _ => hP 33 _ rfl
    | 38, _ => hP 34 _ rfl
    | 39, _ => hP 46 _ rfl
    | 40, _ => hP 47 _ rfl
    | 41, _ => hP 48 _ rfl
    | 42, _ => hP 49 _ rfl
    | 43, _ => hP 50 _ rfl
    | 44, _ => hP 51 _ rfl
    | 45, _ => hP 56 _ rfl
    | 46, _ => hP 58 _ rfl
    | 47, _ => hP 60 _ rfl
    | 48, _ => hP 62 _ rfl
    | 49, _ => hP 52 _ rfl
    | 50, _ => hP 54 _ rfl
    | 51, _ => hP 0 _ rfl
    | 52, _ => hP 65 _ rfl
    | 53, _ => st_q (hP 2 _ rfl) (fun j hj => match j, hj with | 0, _ => rfl | 1, _ => rfl | 2, _ => rfl | 3, _ => rfl | 4, _ => rfl | 5, _ => rfl | 6, _ => rfl | 7, _ => rfl | n + 8, h => absurd h (by omega))
    | 54, _ => st_q (hP 19 _ rfl) (fun j hj => match j, hj with | 0, _ => rfl | 1, _ => rfl | 2, _ => rfl | 3, _ => rfl | 4, _ => rfl | 5, _ => rfl | 6, _ => rfl | 7, _ => rfl | n + 8, h => absurd h (by omega))
    | 55, _ => st_q (hP 36 _ rfl) (fun j hj => match j, hj with | 0, _ => rfl | 1, _ => rfl | 2, _ => rfl | 3, _ => rfl | 4, _ => rfl | 5, _ => rfl | 6, _ => rfl | 7, _ => rfl | n + 8, h => absurd h (by omega))
    | 56, _ => st_q (hP 11 _ rfl) (fun j hj => match j, hj with | 0, _ => rfl | 1, _ => rfl | 2, _ => rfl | 3, _ => rfl | 4, _ => rfl | 5, _ => rfl | n + 6, h => absurd h (by omega))
    | 57, _ => st_q (hP 28 _ rfl) (fun j hj => match j, hj with | 0, _ => rfl | 1, _ => rfl | 2, _ => rfl | 3, _ => rfl | 4, _ => rfl | 5, _ => rfl | n + 6, h => absurd h (by omega))
    | 58, _ => st_q (hP 45 _ rfl) (fun j hj => match j, hj with | 0, _ => rfl | 1, _ => rfl | 2, _ => rfl | 3, _ => rfl | 4, _ => rfl | 5, _ => rfl | n + 6, h => absurd h (by omega))
    | 59, _ => st_q (hP 55 _ rfl) (fun j hj => match j, hj with | 0, _ => rfl | 1, _ => rfl | 2, _ => rfl | 3, _ => rfl | n + 4, h => absurd h (by omega))
    | 60, _ => hP 53 _ rfl
    | 61, _ => hP 64 _ rfl
    | 62, _ => hP 57 _ rfl
    | 63, _ => hP 59 _ rfl
    | 64, _ => hP 61 _ rfl
    | 65, _ => hP 63 _ rfl
    | 66, _ => hP 66 _ rfl
    | 67, _ => hP 67 _ rfl
    | 68, _ => hP 68 _ rfl
    | 69, _ => hP 69 _ rfl
    | 70, _ => hP 70 _ rfl
    | 71, _ => hP 71 _ rfl
    | 72, _ => hP 74 _ rfl
    | 73, _ => hP 75 _ rfl
    | 74, _ => hP 72 _ rfl
    | 75, _ => hP 73 _ rfl
    | n + 76, h => absurd h (by omega)
  intro k q hq
  have hk : k < 76 := by
    have := (List.getElem?_eq_some_iff.mp hq).1
    simpa [am_w] using this
  rw [am_w, List.getElem?_map, List.getElem?_range hk] at hq
  cases hq
  exact key k hk
set_option maxRecDepth 100000 in
set_option maxHeartbeats 8000000 in
/-- from the law's entry: if the abstract law answers 1, the real one does -/
theorem start_of {p : Program} {e : Env} {s : State} {m : MethodId} {below : List Frame} {meth : Method} {c : Code} (l : Launch) {b L : Nat} {xs : Nat → Int32} (hpure : ∃ h', f_L_law (xs, L) hp0 = some (1, h')) (C0 : lw_At p s m meth c b L xs) : W p l e room_1 s m #[Value.ref b] below meth c s.heap [] 0 0 (lw_Z below #[Value.ref b] s) (entryFrame m ([Value.ref b] : List Value).toArray 4) := by
  obtain ⟨hx, hb, hr, hml, hown, htsA, hX, hbl, hlocks, hgv⟩ := id C0
  have hts : ∀ w ∈ am_tb, w.before #[Value.ref b] s = true := fun w h => htsA w (List.mem_filter.mp h).1
  obtain ⟨A, hAd⟩ : ∃ A : Nat → Prop, A = fun q => s.heap.size ≤ q := ⟨_, rfl⟩
  have hA : ∀ q : Nat, s.heap.size ≤ q → A q := fun q h => by rw [hAd]; exact h
  have hAn : ∀ a : Nat, a < s.heap.size → ¬ A a := fun a h => by rw [hAd]; exact Nat.not_le.mpr h
  obtain ⟨D, cy, hK0⟩ := st_K htsA
  obtain ⟨adK, adV, hSt, hStE⟩ := st_S (A := A) hgv hAn
  have hfl := flat_of_before _ hgv
  have hZ1 : va_Z "java/lang/String" "COMPACT_STRINGS" "Z" (.int 1) A s s.heap := va_Zof (htsA (.laysStatic "java/lang/String" "COMPACT_STRINGS" "Z") (tb_3 _ (List.mem_of_getElem? (i := 108) rfl))) (hts (.initialized "java/lang/String") (am_tb_mem (we_0 _ (List.mem_of_getElem? (i := 51) rfl)))) (va_eqi (hfl _ (by decide +kernel))) hAn
  have hZ2 : va_Zq "jdk/internal/util/Preconditions" "SIOOBE_FORMATTER" "Ljava/util/function/BiFunction;" A s s.heap := va_Zqof (htsA (.laysStatic "jdk/internal/util/Preconditions" "SIOOBE_FORMATTER" "Ljava/util/function/BiFunction;") (tb_3 _ (List.mem_of_getElem? (i := 124) rfl))) (hts (.initialized "jdk/internal/util/Preconditions") (am_tb_mem (we_0 _ (List.mem_of_getElem? (i := 52) rfl)))) (hfl _ (by decide +kernel)) hAn
  obtain ⟨sio, hZ2, hsc⟩ : ∃ sio : Value, va_Z "jdk/internal/util/Preconditions" "SIOOBE_FORMATTER" "Ljava/util/function/BiFunction;" sio A s s.heap ∧ sio.category = 1 := by
    rcases hZ2 with h | ⟨t, h⟩
    · exact ⟨.null, h, rfl⟩
    · exact ⟨.ref t, h, rfl⟩
  obtain ⟨G, hG⟩ : ∃ G : AG, G = (D, cy, (fun _ => 0), adK, adV, (b, L, xs), sio) := ⟨_, rfl⟩
  have hK : va_K G.1 vwCl (am_tys G) s := by rw [hG]; exact hK0
  have hCE : ct_E s := ⟨va_AO.of (htsA (.arrayOver (.object RX0)) (tb_1 _ (List.mem_of_getElem? (i := 31) rfl))), va_AO.of (htsA (.arrayOver (.object RX2)) (tb_1 _ (List.mem_of_getElem? (i := 69) rfl))), va_AO.of (htsA (.arrayOver (.object RX3)) (tb_1 _ (List.mem_of_getElem? (i := 155) rfl))), va_Nw.of rfl (htsA (.methodLinkNest RX1 28 yX2_init "HandleLoans") (tb_1 _ (List.mem_of_getElem? (i := 71) rfl)))⟩
  have hS : va_S A s.heap s.heap [] := va_S.rf
  have hP : va_P G.1 vwCl [] s.heap := fun k q h => by simp at h
  have hD : va_D A [] := ⟨fun i j p q h => by simp at h, fun k q h => by simp at h⟩
  have hl := lv_entry ([.ref b]) (n := 4) (Nat.le_of_ble_eq_true rfl)
  rw [lg_entry_eq]
  generalize (lg_sl ([.ref b]) ++ List.replicate (4 - (lg_sl ([.ref b])).length) Slot.unset).toArray = ls at hl ⊢
  have hl : lv_has ls 4 [(0, .ref b)] := hl
  refine va_new (ci := 6) (fs := [.null, .null, .null, .int 0, .null, .null, .null, .null]) (C := RX6) (T := TX6) (N := 8) hx hb hts uw_6 tyX6 tyX6_ok hown (hts _ (am_tb_mem (we_0 _ (List.mem_of_getElem? (i := 43) rfl)))) (hts _ (am_tb_mem (we_0 _ (List.mem_of_getElem? (i := 41) rfl)))) (hts _ (am_tb_mem (wd_1 _ (List.mem_of_getElem? (i := 19) rfl)))) hK hP hD hS hA rfl (by decide +kernel) (Nat.le_of_ble_eq_true rfl) (Nat.le_of_ble_eq_true rfl) dL_law_0 (fun q1 H hP hD hS => ?_)
  have hP : va_P G.1 vwCl [(q1, .inr (6, [.null, .null, .null, .int 0, .null, .null, .null, .null]))] H := hP
  have hD : va_D A [(q1, .inr (6, [.null, .null, .null, .int 0, .null, .null, .null, .null]))] := hD
  refine W.widen (k := 1) (n := 8) (Nat.le_of_ble_eq_true rfl) (Nat.le_of_ble_eq_true rfl) ?_
  refine lv_dup hx hb dL_law_3 rfl ?_
  have hPc := hP.sub (ws' := [(q1, .inr (6, [.null, .null, .null, .int 0, .null, .null, .null, .null]))]) [0] rfl
  have hDc := hD.sub (ws' := [(q1, .inr (6, [.null, .null, .null, .int 0, .null, .null, .null, .null]))]) [0] (by decide) rfl
  have hFc := va_free (wc := [(q1, .inr (6, [.null, .null, .null, .int 0, .null, .null, .null, .null]))]) hD hS hA [0] rfl
  refine va_callv (va_runI (As := []) (rest := [.ref q1]) ⟨hx, hb, hml, hown, hts⟩ (c_X6_init l G q1 H.size) (cwI 0 hts (am_good (fun _ q => q) (ct_in (am_tb_mem (we_0 _ (List.mem_of_getElem? (i := 44) rfl))))) rfl rfl rfl (hts _ (am_tb_mem (wd_1 _ (List.mem_of_getElem? (i := 19) rfl)))) (hts _ (am_tb_mem (we_0 _ (List.mem_of_getElem? (i := 45) rfl)))) (hts _ (am_tb_mem (we_0 _ (List.mem_of_getElem? (i := 46) rfl)))) rfl (by decide +kernel) ⟨(Nat.le_of_ble_eq_true rfl), (Nat.le_of_ble_eq_true rfl)⟩) ⟨ct_blind, fun U hU hW => ⟨rfl, by rw [hU], by rw [hU]; exact hPc, va_K.moved hW.alike hK, hDc.weaken (fun _ _ _ _ => trivial), hCE.go hW⟩⟩ rfl rfl hl.1 rfl (lv_room (Nat.le_of_ble_eq_true rfl)) dL_law_4 ⟨(Nat.le_of_ble_eq_true rfl), (Nat.le_of_ble_eq_true rfl)⟩) hS (fun q _ h => hFc q h) hFc (fun u2 t H1 locs ht hvm hw hB hz1 hk1 hS => ?_)
  obtain ⟨hP1, hD1⟩ := hB
  rw [ht] at hP1
  obtain ⟨hP, hD⟩ := va_join (wr := []) (w1 := [(q1, .inr (6, [.ref (u2 0), .ref (u2 17), .ref (u2 34), .int 0, .ref (u2 51), .ref (u2 53), .ref (u2 54), .ref (u2 63)])), (u2 0, .inr (1, [.int 0, .int 5, .ref (u2 1), .int 0, .ref (u2 10), .int 0])), wQ G (u2 1) 8 8 (va_up (va_up (va_up (va_up (va_up (va_up (va_up (va_up (fun _ => none) 0 (some (u2 2))) 1 (some (u2 3))) 2 (some (u2 4))) 3 (some (u2 5))) 4 (some (u2 6))) 5 (some (u2 7))) 6 (some (u2 8))) 7 (some (u2 9))), wH (u2 2), wH (u2 3), wH (u2 4), wH (u2 5), wH (u2 6), wH (u2 7), wH (u2 8), wH (u2 9), wQ G (u2 10) 9 6 (va_up (va_up (va_up (va_up (va_up (va_up (fun _ => none) 0 (some (u2 11))) 1 (some (u2 12))) 2 (some (u2 13))) 3 (some (u2 14))) 4 (some (u2 15))) 5 (some (u2 16))), wMe (u2 11), wMe (u2 12), wMe (u2 13), wMe (u2 14), wMe (u2 15), wMe (u2 16), (u2 17, .inr (1, [.int 0, .int 5, .ref (u2 18), .int 0, .ref (u2 27), .int 0])), wQ G (u2 18) 8 8 (va_up (va_up (va_up (va_up (va_up (va_up (va_up (va_up (fun _ => none) 0 (some (u2 19))) 1 (some (u2 20))) 2 (some (u2 21))) 3 (some (u2 22))) 4 (some (u2 23))) 5 (some (u2 24))) 6 (some (u2 25))) 7 (some (u2 26))), wH (u2 19), wH (u2 20), wH (u2 21), wH (u2 22), wH (u2 23), wH (u2 24), wH (u2 25), wH (u2 26), wQ G (u2 27) 9 6 (va_up (va_up (va_up (va_up (va_up (va_up (fun _ => none) 0 (some (u2 28))) 1 (some (u2 29))) 2 (some (u2 30))) 3 (some (u2 31))) 4 (some (u2 32))) 5 (some (u2 33))), wMe (u2 28), wMe (u2 29), wMe (u2 30), wMe (u2 31), wMe (u2 32), wMe (u2 33), (u2 34, .inr (1, [.int 0, .int 5, .ref (u2 35), .int 0, .ref (u2 44), .int 0])), wQ G (u2 35) 8 8 (va_up (va_up (va_up (va_up (va_up (va_up (va_up (va_up (fun _ => none) 0 (some (u2 36))) 1 (some (u2 37))) 2 (some (u2 38))) 3 (some (u2 39))) 4 (some (u2 40))) 5 (some (u2 41))) 6 (some (u2 42))) 7 (some (u2 43))), wH (u2 36), wH (u2 37), wH (u2 38), wH (u2 39), wH (u2 40), wH (u2 41), wH (u2 42), wH (u2 43), wQ G (u2 44) 9 6 (va_up (va_up (va_up (va_up (va_up (va_up (fun _ => none) 0 (some (u2 45))) 1 (some (u2 46))) 2 (some (u2 47))) 3 (some (u2 48))) 4 (some (u2 49))) 5 (some (u2 50))), wMe (u2 45), wMe (u2 46), wMe (u2 47), wMe (u2 48), wMe (u2 49), wMe (u2 50), (u2 51, .inr (4, [.ref (u2 52), .int 0])), wI G (u2 52) 120 (fun _ => 0), (u2 53, .inr (5, [.ref (u2 51), .ref (u2 17), .int 0, .int 0, .int 0, .int 0])), wQ G (u2 54) 10 4 (va_up (va_up (va_up (va_up (fun _ => none) 0 (some (u2 55))) 1 (some (u2 57))) 2 (some (u2 59))) 3 (some (u2 61))), (u2 55, .inr (3, [.int 0, .int 0, .ref (u2 56)])), wJ G (u2 56) 40 (fun _ => 0), (u2 57, .inr (3, [.int 0, .int 0, .ref (u2 58)])), wJ G (u2 58) 40 (fun _ => 0), (u2 59, .inr (3, [.int 0, .int 0, .ref (u2 60)])), wJ G (u2 60) 40 (fun _ => 0), (u2 61, .inr (3, [.int 0, .int 0, .ref (u2 62)])), wJ G (u2 62) 40 (fun _ => 0), wI G (u2 63) 7 (fun _ => 0)]) hP hD [0] [] rfl rfl (by decide) (by decide) hk1 hFc hP1 hD1
  generalize H1 = H at hP hS ⊢
  have hP : va_P G.1 vwCl [(q1, .inr (6, [.ref (u2 0), .ref (u2 17), .ref (u2 34), .int 0, .ref (u2 51), .ref (u2 53), .ref (u2 54), .ref (u2 63)])), (u2 0, .inr (1, [.int 0, .int 5, .ref (u2 1), .int 0, .ref (u2 10), .int 0])), wQ G (u2 1) 8 8 (va_up (va_up (va_up (va_up (va_up (va_up (va_up (va_up (fun _ => none) 0 (some (u2 2))) 1 (some (u2 3))) 2 (some (u2 4))) 3 (some (u2 5))) 4 (some (u2 6))) 5 (some (u2 7))) 6 (some (u2 8))) 7 (some (u2 9))), wH (u2 2), wH (u2 3), wH (u2 4), wH (u2 5), wH (u2 6), wH (u2 7), wH (u2 8), wH (u2 9), wQ G (u2 10) 9 6 (va_up (va_up (va_up (va_up (va_up (va_up (fun _ => none) 0 (some (u2 11))) 1 (some (u2 12))) 2 (some (u2 13))) 3 (some (u2 14))) 4 (some (u2 15))) 5 (some (u2 16))), wMe (u2 11), wMe (u2 12), wMe (u2 13), wMe (u2 14), wMe (u2 15), wMe (u2 16), (u2 17, .inr (1, [.int 0, .int 5, .ref (u2 18), .int 0, .ref (u2 27), .int 0])), wQ G (u2 18) 8 8 (va_up (va_up (va_up (va_up (va_up (va_up (va_up (va_up (fun _ => none) 0 (some (u2 19))) 1 (some (u2 20))) 2 (some (u2 21))) 3 (some (u2 22))) 4 (some (u2 23))) 5 (some (u2 24))) 6 (some (u2 25))) 7 (some (u2 26))), wH (u2 19), wH (u2 20), wH (u2 21), wH (u2 22), wH (u2 23), wH (u2 24), wH (u2 25), wH (u2 26), wQ G (u2 27) 9 6 (va_up (va_up (va_up (va_up (va_up (va_up (fun _ => none) 0 (some (u2 28))) 1 (some (u2 29))) 2 (some (u2 30))) 3 (some (u2 31))) 4 (some (u2 32))) 5 (some (u2 33))), wMe (u2 28), wMe (u2 29), wMe (u2 30), wMe (u2 31), wMe (u2 32), wMe (u2 33), (u2 34, .inr (1, [.int 0, .int 5, .ref (u2 35), .int 0, .ref (u2 44), .int 0])), wQ G (u2 35) 8 8 (va_up (va_up (va_up (va_up (va_up (va_up (va_up (va_up (fun _ => none) 0 (some (u2 36))) 1 (some (u2 37))) 2 (some (u2 38))) 3 (some (u2 39))) 4 (some (u2 40))) 5 (some (u2 41))) 6 (some (u2 42))) 7 (some (u2 43))), wH (u2 36), wH (u2 37), wH (u2 38), wH (u2 39), wH (u2 40), wH (u2 41), wH (u2 42), wH (u2 43), wQ G (u2 44) 9 6 (va_up (va_up (va_up (va_up (va_up (va_up (fun _ => none) 0 (some (u2 45))) 1 (some (u2 46))) 2 (some (u2 47))) 3 (some (u2 48))) 4 (some (u2 49))) 5 (some (u2 50))), wMe (u2 45), wMe (u2 46), wMe (u2 47), wMe (u2 48), wMe (u2 49), wMe (u2 50), (u2 51, .inr (4, [.ref (u2 52), .int 0])), wI G (u2 52) 120 (fun _ => 0), (u2 53, .inr (5, [.ref (u2 51), .ref (u2 17), .int 0, .int 0, .int 0, .int 0])), wQ G (u2 54) 10 4 (va_up (va_up (va_up (va_up (fun _ => none) 0 (some (u2 55))) 1 (some (u2 57))) 2 (some (u2 59))) 3 (some (u2 61))), (u2 55, .inr (3, [.int 0, .int 0, .ref (u2 56)])), wJ G (u2 56) 40 (fun _ => 0), (u2 57, .inr (3, [.int 0, .int 0, .ref (u2 58)])), wJ G (u2 58) 40 (fun _ => 0), (u2 59, .inr (3, [.int 0, .int 0, .ref (u2 60)])), wJ G (u2 60) 40 (fun _ => 0), (u2 61, .inr (3, [.int 0, .int 0, .ref (u2 62)])), wJ G (u2 62) 40 (fun _ => 0), wI G (u2 63) 7 (fun _ => 0)] H := hP
  have hD : va_D A [(q1, .inr (6, [.ref (u2 0), .ref (u2 17), .ref (u2 34), .int 0, .ref (u2 51), .ref (u2 53), .ref (u2 54), .ref (u2 63)])), (u2 0, .inr (1, [.int 0, .int 5, .ref (u2 1), .int 0, .ref (u2 10), .int 0])), wQ G (u2 1) 8 8 (va_up (va_up (va_up (va_up (va_up (va_up (va_up (va_up (fun _ => none) 0 (some (u2 2))) 1 (some (u2 3))) 2 (some (u2 4))) 3 (some (u2 5))) 4 (some (u2 6))) 5 (some (u2 7))) 6 (some (u2 8))) 7 (some (u2 9))), wH (u2 2), wH (u2 3), wH (u2 4), wH (u2 5), wH (u2 6), wH (u2 7), wH (u2 8), wH (u2 9), wQ G (u2 10) 9 6 (va_up (va_up (va_up (va_up (va_up (va_up (fun _ => none) 0 (some (u2 11))) 1 (some (u2 12))) 2 (some (u2 13))) 3 (some (u2 14))) 4 (some (u2 15))) 5 (some (u2 16))), wMe (u2 11), wMe (u2 12), wMe (u2 13), wMe (u2 14), wMe (u2 15), wMe (u2 16), (u2 17, .inr (1, [.int 0, .int 5, .ref (u2 18), .int 0, .ref (u2 27), .int 0])), wQ G (u2 18) 8 8 (va_up (va_up (va_up (va_up (va_up (va_up (va_up (va_up (fun _ => none) 0 (some (u2 19))) 1 (some (u2 20))) 2 (some (u2 21))) 3 (some (u2 22))) 4 (some (u2 23))) 5 (some (u2 24))) 6 (some (u2 25))) 7 (some (u2 26))), wH (u2 19), wH (u2 20), wH (u2 21), wH (u2 22), wH (u2 23), wH (u2 24), wH (u2 25), wH (u2 26), wQ G (u2 27) 9 6 (va_up (va_up (va_up (va_up (va_up (va_up (fun _ => none) 0 (some (u2 28))) 1 (some (u2 29))) 2 (some (u2 30))) 3 (some (u2 31))) 4 (some (u2 32))) 5 (some (u2 33))), wMe (u2 28), wMe (u2 29), wMe (u2 30), wMe (u2 31), wMe (u2 32), wMe (u2 33), (u2 34, .inr (1, [.int 0, .int 5, .ref (u2 35), .int 0, .ref (u2 44), .int 0])), wQ G (u2 35) 8 8 (va_up (va_up (va_up (va_up (va_up (va_up (va_up (va_up (fun _ => none) 0 (some (u2 36))) 1 (some (u2 37))) 2 (some (u2 38))) 3 (some (u2 39))) 4 (some (u2 40))) 5 (some (u2 41))) 6 (some (u2 42))) 7 (some (u2 43))), wH (u2 36), wH (u2 37), wH (u2 38), wH (u2 39), wH (u2 40), wH (u2 41), wH (u2 42), wH (u2 43), wQ G (u2 44) 9 6 (va_up (va_up (va_up (va_up (va_up (va_up (fun _ => none) 0 (some (u2 45))) 1 (some (u2 46))) 2 (some (u2 47))) 3 (some (u2 48))) 4 (some (u2 49))) 5 (some (u2 50))), wMe (u2 45), wMe (u2 46), wMe (u2 47), wMe (u2 48), wMe (u2 49), wMe (u2 50), (u2 51, .inr (4, [.ref (u2 52), .int 0])), wI G (u2 52) 120 (fun _ => 0), (u2 53, .inr (5, [.ref (u2 51), .ref (u2 17), .int 0, .int 0, .int 0, .int 0])), wQ G (u2 54) 10 4 (va_up (va_up (va_up (va_up (fun _ => none) 0 (some (u2 55))) 1 (some (u2 57))) 2 (some (u2 59))) 3 (some (u2 61))), (u2 55, .inr (3, [.int 0, .int 0, .ref (u2 56)])), wJ G (u2 56) 40 (fun _ => 0), (u2 57, .inr (3, [.int 0, .int 0, .ref (u2 58)])), wJ G (u2 58) 40 (fun _ => 0), (u2 59, .inr (3, [.int 0, .int 0, .ref (u2 60)])), wJ G (u2 60) 40 (fun _ => 0), (u2 61, .inr (3, [.int 0, .int 0, .ref (u2 62)])), wJ G (u2 62) 40 (fun _ => 0), wI G (u2 63) 7 (fun _ => 0)] := hD
  refine W.widen (k := 65) (n := 559) (Nat.le_of_ble_eq_true rfl) (Nat.le_of_ble_eq_true rfl) ?_
  refine lv_astore_n (lv' := [(1, .ref q1), (0, .ref b)]) hx hb dL_law_7 rfl hl (by decide) rfl (fun ls hl => ?_)
  refine va_new (ci := 7) (fs := [.null, .null, .null, .null, .int 0, .int 0, .int 0, .int 0, .long 0, .int 0, .int 0, .null, .null, .null, .null, .null, .null, .int 0]) (C := RX7) (T := TX7) (N := 18) hx hb hts uw_7 tyX7 tyX7_ok hown (hts _ (am_tb_mem (we_0 _ (List.mem_of_getElem? (i := 47) rfl)))) (hts _ (am_tb_mem (we_0 _ (List.mem_of_getElem? (i := 42) rfl)))) (hts _ (am_tb_mem (wd_1 _ (List.mem_of_getElem? (i := 26) rfl)))) hK hP hD hS hA rfl (by decide +kernel) (Nat.le_of_ble_eq_true rfl) (Nat.le_of_ble_eq_true rfl) dL_law_8 (fun q3 H hP hD hS => ?_)
  have hP : va_P G.1 vwCl [(q1, .inr (6, [.ref (u2 0), .ref (u2 17), .ref (u2 34), .int 0, .ref (u2 51), .ref (u2 53), .ref (u2 54), .ref (u2 63)])), (u2 0, .inr (1, [.int 0, .int 5, .ref (u2 1), .int 0, .ref (u2 10), .int 0])), wQ G (u2 1) 8 8 (va_up (va_up (va_up (va_up (va_up (va_up (va_up (va_up (fun _ => none) 0 (some (u2 2))) 1 (some (u2 3))) 2 (some (u2 4))) 3 (some (u2 5))) 4 (some (u2 6))) 5 (some (u2 7))) 6 (some (u2 8))) 7 (some (u2 9))), wH (u2 2), wH (u2 3), wH (u2 4), wH (u2 5), wH (u2 6), wH (u2 7), wH (u2 8), wH (u2 9), wQ G (u2 10) 9 6 (va_up (va_up (va_up (va_up (va_up (va_up (fun _ => none) 0 (some (u2 11))) 1 (some (u2 12))) 2 (some (u2 13))) 3 (some (u2 14))) 4 (some (u2 15))) 5 (some (u2 16))), wMe (u2 11), wMe (u2 12), wMe (u2 13), wMe (u2 14), wMe (u2 15), wMe (u2 16), (u2 17, .inr (1, [.int 0, .int 5, .ref (u2 18), .int 0, .ref (u2 27), .int 0])), wQ G (u2 18) 8 8 (va_up (va_up (va_up (va_up (va_up (va_up (va_up (va_up (fun _ => none) 0 (some (u2 19))) 1 (some (u2 20))) 2 (some (u2 21))) 3 (some (u2 22))) 4 (some (u2 23))) 5 (some (u2 24))) 6 (some (u2 25))) 7 (some (u2 26))), wH (u2 19), wH (u2 20), wH (u2 21), wH (u2 22), wH (u2 23), wH (u2 24), wH (u2 25), wH (u2 26), wQ G (u2 27) 9 6 (va_up (va_up (va_up (va_up (va_up (va_up (fun _ => none) 0 (some (u2 28))) 1 (some (u2 29))) 2 (some (u2 30))) 3 (some (u2 31))) 4 (some (u2 32))) 5 (some (u2 33))), wMe (u2 28), wMe (u2 29), wMe (u2 30), wMe (u2 31), wMe (u2 32), wMe (u2 33), (u2 34, .inr (1, [.int 0, .int 5, .ref (u2 35), .int 0, .ref (u2 44), .int 0])), wQ G (u2 35) 8 8 (va_up (va_up (va_up (va_up (va_up (va_up (va_up (va_up (fun _ => none) 0 (some (u2 36))) 1 (some (u2 37))) 2 (some (u2 38))) 3 (some (u2 39))) 4 (some (u2 40))) 5 (some (u2 41))) 6 (some (u2 42))) 7 (some (u2 43))), wH (u2 36), wH (u2 37), wH (u2 38), wH (u2 39), wH (u2 40), wH (u2 41), wH (u2 42), wH (u2 43), wQ G (u2 44) 9 6 (va_up (va_up (va_up (va_up (va_up (va_up (fun _ => none) 0 (some (u2 45))) 1 (some (u2 46))) 2 (some (u2 47))) 3 (some (u2 48))) 4 (some (u2 49))) 5 (some (u2 50))), wMe (u2 45), wMe (u2 46), wMe (u2 47), wMe (u2 48), wMe (u2 49), wMe (u2 50), (u2 51, .inr (4, [.ref (u2 52), .int 0])), wI G (u2 52) 120 (fun _ => 0), (u2 53, .inr (5, [.ref (u2 51), .ref (u2 17), .int 0, .int 0, .int 0, .int 0])), wQ G (u2 54) 10 4 (va_up (va_up (va_up (va_up (fun _ => none) 0 (some (u2 55))) 1 (some (u2 57))) 2 (some (u2 59))) 3 (some (u2 61))), (u2 55, .inr (3, [.int 0, .int 0, .ref (u2 56)])), wJ G (u2 56) 40 (fun _ => 0), (u2 57, .inr (3, [.int 0, .int 0, .ref (u2 58)])), wJ G (u2 58) 40 (fun _ => 0), (u2 59, .inr (3, [.int 0, .int 0, .ref (u2 60)])), wJ G (u2 60) 40 (fun _ => 0), (u2 61, .inr (3, [.int 0, .int 0, .ref (u2 62)])), wJ G (u2 62) 40 (fun _ => 0), wI G (u2 63) 7 (fun _ => 0), (q3, .inr (7, [.null, .null, .null, .null, .int 0, .int 0, .int 0, .int 0, .long 0, .int 0, .int 0, .null, .null, .null, .null, .null, .null, .int 0]))] H := hP
  have hD : va_D A [(q1, .inr (6, [.ref (u2 0), .ref (u2 17), .ref (u2 34), .int 0, .ref (u2 51), .ref (u2 53), .ref (u2 54), .ref (u2 63)])), (u2 0, .inr (1, [.int 0, .int 5, .ref (u2 1), .int 0, .ref (u2 10), .int 0])), wQ G (u2 1) 8 8 (va_up (va_up (va_up (va_up (va_up (va_up (va_up (va_up (fun _ => none) 0 (some (u2 2))) 1 (some (u2 3))) 2 (some (u2 4))) 3 (some (u2 5))) 4 (some (u2 6))) 5 (some (u2 7))) 6 (some (u2 8))) 7 (some (u2 9))), wH (u2 2), wH (u2 3), wH (u2 4), wH (u2 5), wH (u2 6), wH (u2 7), wH (u2 8), wH (u2 9), wQ G (u2 10) 9 6 (va_up (va_up (va_up (va_up (va_up (va_up (fun _ => none) 0 (some (u2 11))) 1 (some (u2 12))) 2 (some (u2 13))) 3 (some (u2 14))) 4 (some (u2 15))) 5 (some (u2 16))), wMe (u2 11), wMe (u2 12), wMe (u2 13), wMe (u2 14), wMe (u2 15), wMe (u2 16), (u2 17, .inr (1, [.int 0, .int 5, .ref (u2 18), .int 0, .ref (u2 27), .int 0])), wQ G (u2 18) 8 8 (va_up (va_up (va_up (va_up (va_up (va_up (va_up (va_up (fun _ => none) 0 (some (u2 19))) 1 (some (u2 20))) 2 (some (u2 21))) 3 (some (u2 22))) 4 (some (u2 23))) 5 (some (u2 24))) 6 (some (u2 25))) 7 (some (u2 26))), wH (u2 19), wH (u2 20), wH (u2 21), wH (u2 22), wH (u2 23), wH (u2 24), wH (u2 25), wH (u2 26), wQ G (u2 27) 9 6 (va_up (va_up (va_up (va_up (va_up (va_up (fun _ => none) 0 (some (u2 28))) 1 (some (u2 29))) 2 (some (u2 30))) 3 (some (u2 31))) 4 (some (u2 32))) 5 (some (u2 33))), wMe (u2 28), wMe (u2 29), wMe (u2 30), wMe (u2 31), wMe (u2 32), wMe (u2 33), (u2 34, .inr (1, [.int 0, .int 5, .ref (u2 35), .int 0, .ref (u2 44), .int 0])), wQ G (u2 35) 8 8 (va_up (va_up (va_up (va_up (va_up (va_up (va_up (va_up (fun _ => none) 0 (some (u2 36))) 1 (some (u2 37))) 2 (some (u2 38))) 3 (some (u2 39))) 4 (some (u2 40))) 5 (some (u2 41))) 6 (some (u2 42))) 7 (some (u2 43))), wH (u2 36), wH (u2 37), wH (u2 38), wH (u2 39), wH (u2 40), wH (u2 41), wH (u2 42), wH (u2 43), wQ G (u2 44) 9 6 (va_up (va_up (va_up (va_up (va_up (va_up (fun _ => none) 0 (some (u2 45))) 1 (some (u2 46))) 2 (some (u2 47))) 3 (some (u2 48))) 4 (some (u2 49))) 5 (some (u2 50))), wMe (u2 45), wMe (u2 46), wMe (u2 47), wMe (u2 48), wMe (u2 49), wMe (u2 50), (u2 51, .inr (4, [.ref (u2 52), .int 0])), wI G (u2 52) 120 (fun _ => 0), (u2 53, .inr (5, [.ref (u2 51), .ref (u2 17), .int 0, .int 0, .int 0, .int 0])), wQ G (u2 54) 10 4 (va_up (va_up (va_up (va_up (fun _ => none) 0 (some (u2 55))) 1 (some (u2 57))) 2 (some (u2 59))) 3 (some (u2 61))), (u2 55, .inr (3, [.int 0, .int 0, .ref (u2 56)])), wJ G (u2 56) 40 (fun _ => 0), (u2 57, .inr (3, [.int 0, .int 0, .ref (u2 58)])), wJ G (u2 58) 40 (fun _ => 0), (u2 59, .inr (3, [.int 0, .int 0, .ref (u2 60)])), wJ G (u2 60) 40 (fun _ => 0), (u2 61, .inr (3, [.int 0, .int 0, .ref (u2 62)])), wJ G (u2 62) 40 (fun _ => 0), wI G (u2 63) 7 (fun _ => 0), (q3, .inr (7, [.null, .null, .null, .null, .int 0, .int 0, .int 0, .int 0, .long 0, .int 0, .int 0, .null, .null, .null, .null, .null, .null, .int 0]))] := hD
  refine W.widen (k := 66) (n := 577) (Nat.le_of_ble_eq_true rfl) (Nat.le_of_ble_eq_true rfl) ?_
  refine lv_dup hx hb dL_law_11 rfl ?_
  have hPc := hP.sub (ws' := [(q3, .inr (7, [.null, .null, .null, .null, .int 0, .int 0, .int 0, .int 0, .long 0, .int 0, .int 0, .null, .null, .null, .null, .null, .null, .int 0]))]) [65] rfl
  have hDc := hD.sub (ws' := [(q3, .inr (7, [.null, .null, .null, .null, .int 0, .int 0, .int 0, .int 0, .long 0, .int 0, .int 0, .null, .null, .null, .null, .null, .null, .int 0]))]) [65] (by decide) rfl
  have hFc := va_free (wc := [(q3, .inr (7, [.null, .null, .null, .null, .int 0, .int 0, .int 0, .int 0, .long 0, .int 0, .int 0, .null, .null, .null, .null, .null, .null, .int 0]))]) hD hS hA [65] rfl
  refine va_callv (va_runI (As := []) (rest := [.ref q3]) ⟨hx, hb, hml, hown, hts⟩ (c_X7_init l G q3 H.size) (cwI 0 hts (am_good (fun _ q => q) (ct_in (am_tb_mem (we_0 _ (List.mem_of_getElem? (i := 48) rfl))))) rfl rfl rfl (hts _ (am_tb_mem (wd_1 _ (List.mem_of_getElem? (i := 26) rfl)))) (hts _ (am_tb_mem (we_0 _ (List.mem_of_getElem? (i := 49) rfl)))) (hts _ (am_tb_mem (we_0 _ (List.mem_of_getElem? (i := 50) rfl)))) rfl (by decide +kernel) ⟨(Nat.le_of_ble_eq_true rfl), (Nat.le_of_ble_eq_true rfl)⟩) ⟨ct_blind, fun U hU hW => ⟨rfl, by rw [hU], by rw [hU]; exact hPc, va_K.moved hW.alike hK, hDc.weaken (fun _ _ _ _ => trivial), hCE.go hW⟩⟩ rfl rfl hl.1 rfl (lv_room (Nat.le_of_ble_eq_true rfl)) dL_law_12 ⟨(Nat.le_of_ble_eq_true rfl), (Nat.le_of_ble_eq_true rfl)⟩) hS (fun q _ h => hFc q h) hFc (fun u4 t H1 locs ht hvm hw hB hz1 hk1 hS => ?_)
  obtain ⟨hP1, hD1⟩ := hB
  rw [ht] at hP1
  obtain ⟨hP, hD⟩ := va_join (wr := [(q1, .inr (6, [.ref (u2 0), .ref (u2 17), .ref (u2 34), .int 0, .ref (u2 51), .ref (u2 53), .ref (u2 54), .ref (u2 63)])), (u2 0, .inr (1, [.int 0, .int 5, .ref (u2 1), .int 0, .ref (u2 10), .int 0])), wQ G (u2 1) 8 8 (va_up (va_up (va_up (va_up (va_up (va_up (va_up (va_up (fun _ => none) 0 (some (u2 2))) 1 (some (u2 3))) 2 (some (u2 4))) 3 (some (u2 5))) 4 (some (u2 6))) 5 (some (u2 7))) 6 (some (u2 8))) 7 (some (u2 9))), wH (u2 2), wH (u2 3), wH (u2 4), wH (u2 5), wH (u2 6), wH (u2 7), wH (u2 8), wH (u2 9), wQ G (u2 10) 9 6 (va_up (va_up (va_up (va_up (va_up (va_up (fun _ => none) 0 (some (u2 11))) 1 (some (u2 12))) 2 (some (u2 13))) 3 (some (u2 14))) 4 (some (u2 15))) 5 (some (u2 16))), wMe (u2 11), wMe (u2 12), wMe (u2 13), wMe (u2 14), wMe (u2 15), wMe (u2 16), (u2 17, .inr (1, [.int 0, .int 5, .ref (u2 18), .int 0, .ref (u2 27), .int 0])), wQ G (u2 18) 8 8 (va_up (va_up (va_up (va_up (va_up (va_up (va_up (va_up (fun _ => none) 0 (some (u2 19))) 1 (some (u2 20))) 2 (some (u2 21))) 3 (some (u2 22))) 4 (some (u2 23))) 5 (some (u2 24))) 6 (some (u2 25))) 7 (some (u2 26))), wH (u2 19), wH (u2 20), wH (u2 21), wH (u2 22), wH (u2 23), wH (u2 24), wH (u2 25), wH (u2 26), wQ G (u2 27) 9 6 (va_up (va_up (va_up (va_up (va_up (va_up (fun _ => none) 0 (some (u2 28))) 1 (some (u2 29))) 2 (some (u2 30))) 3 (some (u2 31))) 4 (some (u2 32))) 5 (some (u2 33))), wMe (u2 28), wMe (u2 29), wMe (u2 30), wMe (u2 31), wMe (u2 32), wMe (u2 33), (u2 34, .inr (1, [.int 0, .int 5, .ref (u2 35), .int 0, .ref (u2 44), .int 0])), wQ G (u2 35) 8 8 (va_up (va_up (va_up (va_up (va_up (va_up (va_up (va_up (fun _ => none) 0 (some (u2 36))) 1 (some (u2 37))) 2 (some (u2 38))) 3 (some (u2 39))) 4 (some (u2 40))) 5 (some (u2 41))) 6 (some (u2 42))) 7 (some (u2 43))), wH (u2 36), wH (u2 37), wH (u2 38), wH (u2 39), wH (u2 40), wH (u2 41), wH (u2 42), wH (u2 43), wQ G (u2 44) 9 6 (va_up (va_up (va_up (va_up (va_up (va_up (fun _ => none) 0 (some (u2 45))) 1 (some (u2 46))) 2 (some (u2 47))) 3 (some (u2 48))) 4 (some (u2 49))) 5 (some (u2 50))), wMe (u2 45), wMe (u2 46), wMe (u2 47), wMe (u2 48), wMe (u2 49), wMe (u2 50), (u2 51, .inr (4, [.ref (u2 52), .int 0])), wI G (u2 52) 120 (fun _ => 0), (u2 53, .inr (5, [.ref (u2 51), .ref (u2 17), .int 0, .int 0, .int 0, .int 0])), wQ G (u2 54) 10 4 (va_up (va_up (va_up (va_up (fun _ => none) 0 (some (u2 55))) 1 (some (u2 57))) 2 (some (u2 59))) 3 (some (u2 61))), (u2 55, .inr (3, [.int 0, .int 0, .ref (u2 56)])), wJ G (u2 56) 40 (fun _ => 0), (u2 57, .inr (3, [.int 0, .int 0, .ref (u2 58)])), wJ G (u2 58) 40 (fun _ => 0), (u2 59, .inr (3, [.int 0, .int 0, .ref (u2 60)])), wJ G (u2 60) 40 (fun _ => 0), (u2 61, .inr (3, [.int 0, .int 0, .ref (u2 62)])), wJ G (u2 62) 40 (fun _ => 0), wI G (u2 63) 7 (fun _ => 0)]) (w1 := [(q3, .inr (7, [.ref (u4 0), .ref (u4 1), .ref (u4 2), .ref (u4 3), .int 0, .int 0, .int 0, .int 0, .long 0, .int 0, .int 0, .ref (u4 4), .ref (u4 5), .ref (u4 6), .ref (u4 7), .ref (u4 8), .ref (u4 9), .int 0])), wI G (u4 0) 64 (upd (fun _ => 0) 1 5), wI G (u4 1) 7 (fun _ => 0), wI G (u4 2) 64 (fun _ => 0), wI G (u4 3) 120 (fun _ => 0), wI G (u4 4) 4 (fun _ => 0), wI G (u4 5) 4 (fun _ => 0), wJ G (u4 6) 160 (fun _ => 0), wJ G (u4 7) 40 (fun _ => 0), wI G (u4 8) 64 (fun _ => 0), wI G (u4 9) 64 (fun _ => 0)]) hP hD [65] [0, 1, 2, 3, 4, 5, 6, 7, 8, 9, 10, 11, 12, 13, 14, 15, 16, 17, 18, 19, 20, 21, 22, 23, 24, 25, 26, 27, 28, 29, 30, 31, 32, 33, 34, 35, 36, 37, 38, 39, 40, 41, 42, 43, 44, 45, 46, 47, 48, 49, 50, 51, 52, 53, 54, 55, 56, 57, 58, 59, 60, 61, 62, 63, 64] rfl rfl (by decide) (by decide) hk1 hFc hP1 hD1
  generalize H1 = H at hP hS ⊢
  have hP : va_P G.1 vwCl [(q1, .inr (6, [.ref (u2 0), .ref (u2 17), .ref (u2 34), .int 0, .ref (u2 51), .ref (u2 53), .ref (u2 54), .ref (u2 63)])), (u2 0, .inr (1, [.int 0, .int 5, .ref (u2 1), .int 0, .ref (u2 10), .int 0])), wQ G (u2 1) 8 8 (va_up (va_up (va_up (va_up (va_up (va_up (va_up (va_up (fun _ => none) 0 (some (u2 2))) 1 (some (u2 3))) 2 (some (u2 4))) 3 (some (u2 5))) 4 (some (u2 6))) 5 (some (u2 7))) 6 (some (u2 8))) 7 (some (u2 9))), wH (u2 2), wH (u2 3), wH (u2 4), wH (u2 5), wH (u2 6), wH (u2 7), wH (u2 8), wH (u2 9), wQ G (u2 10) 9 6 (va_up (va_up (va_up (va_up (va_up (va_up (fun _ => none) 0 (some (u2 11))) 1 (some (u2 12))) 2 (some (u2 13))) 3 (some (u2 14))) 4 (some (u2 15))) 5 (some (u2 16))), wMe (u2 11), wMe (u2 12), wMe (u2 13), wMe (u2 14), wMe (u2 15), wMe (u2 16), (u2 17, .inr (1, [.int 0, .int 5, .ref (u2 18), .int 0, .ref (u2 27), .int 0])), wQ G (u2 18) 8 8 (va_up (va_up (va_up (va_up (va_up (va_up (va_up (va_up (fun _ => none) 0 (some (u2 19))) 1 (some (u2 20))) 2 (some (u2 21))) 3 (some (u2 22))) 4 (some (u2 23))) 5 (some (u2 24))) 6 (some (u2 25))) 7 (some (u2 26))), wH (u2 19), wH (u2 20), wH (u2 21), wH (u2 22), wH (u2 23), wH (u2 24), wH (u2 25), wH (u2 26), wQ G (u2 27) 9 6 (va_up (va_up (va_up (va_up (va_up (va_up (fun _ => none) 0 (some (u2 28))) 1 (some (u2 29))) 2 (some (u2 30))) 3 (some (u2 31))) 4 (some (u2 32))) 5 (some (u2 33))), wMe (u2 28), wMe (u2 29), wMe (u2 30), wMe (u2 31), wMe (u2 32), wMe (u2 33), (u2 34, .inr (1, [.int 0, .int 5, .ref (u2 35), .int 0, .ref (u2 44), .int 0])), wQ G (u2 35) 8 8 (va_up (va_up (va_up (va_up (va_up (va_up (va_up (va_up (fun _ => none) 0 (some (u2 36))) 1 (some (u2 37))) 2 (some (u2 38))) 3 (some (u2 39))) 4 (some (u2 40))) 5 (some (u2 41))) 6 (some (u2 42))) 7 (some (u2 43))), wH (u2 36), wH (u2 37), wH (u2 38), wH (u2 39), wH (u2 40), wH (u2 41), wH (u2 42), wH (u2 43), wQ G (u2 44) 9 6 (va_up (va_up (va_up (va_up (va_up (va_up (fun _ => none) 0 (some (u2 45))) 1 (some (u2 46))) 2 (some (u2 47))) 3 (some (u2 48))) 4 (some (u2 49))) 5 (some (u2 50))), wMe (u2 45), wMe (u2 46), wMe (u2 47), wMe (u2 48), wMe (u2 49), wMe (u2 50), (u2 51, .inr (4, [.ref (u2 52), .int 0])), wI G (u2 52) 120 (fun _ => 0), (u2 53, .inr (5, [.ref (u2 51), .ref (u2 17), .int 0, .int 0, .int 0, .int 0])), wQ G (u2 54) 10 4 (va_up (va_up (va_up (va_up (fun _ => none) 0 (some (u2 55))) 1 (some (u2 57))) 2 (some (u2 59))) 3 (some (u2 61))), (u2 55, .inr (3, [.int 0, .int 0, .ref (u2 56)])), wJ G (u2 56) 40 (fun _ => 0), (u2 57, .inr (3, [.int 0, .int 0, .ref (u2 58)])), wJ G (u2 58) 40 (fun _ => 0), (u2 59, .inr (3, [.int 0, .int 0, .ref (u2 60)])), wJ G (u2 60) 40 (fun _ => 0), (u2 61, .inr (3, [.int 0, .int 0, .ref (u2 62)])), wJ G (u2 62) 40 (fun _ => 0), wI G (u2 63) 7 (fun _ => 0), (q3, .inr (7, [.ref (u4 0), .ref (u4 1), .ref (u4 2), .ref (u4 3), .int 0, .int 0, .int 0, .int 0, .long 0, .int 0, .int 0, .ref (u4 4), .ref (u4 5), .ref (u4 6), .ref (u4 7), .ref (u4 8), .ref (u4 9), .int 0])), wI G (u4 0) 64 (upd (fun _ => 0) 1 5), wI G (u4 1) 7 (fun _ => 0), wI G (u4 2) 64 (fun _ => 0), wI G (u4 3) 120 (fun _ => 0), wI G (u4 4) 4 (fun _ => 0), wI G (u4 5) 4 (fun _ => 0), wJ G (u4 6) 160 (fun _ => 0), wJ G (u4 7) 40 (fun _ => 0), wI G (u4 8) 64 (fun _ => 0), wI G (u4 9) 64 (fun _ => 0)] H := hP
  have hD : va_D A [(q1, .inr (6, [.ref (u2 0), .ref (u2 17), .ref (u2 34), .int 0, .ref (u2 51), .ref (u2 53), .ref (u2 54), .ref (u2 63)])), (u2 0, .inr (1, [.int 0, .int 5, .ref (u2 1), .int 0, .ref (u2 10), .int 0])), wQ G (u2 1) 8 8 (va_up (va_up (va_up (va_up (va_up (va_up (va_up (va_up (fun _ => none) 0 (some (u2 2))) 1 (some (u2 3))) 2 (some (u2 4))) 3 (some (u2 5))) 4 (some (u2 6))) 5 (some (u2 7))) 6 (some (u2 8))) 7 (some (u2 9))), wH (u2 2), wH (u2 3), wH (u2 4), wH (u2 5), wH (u2 6), wH (u2 7), wH (u2 8), wH (u2 9), wQ G (u2 10) 9 6 (va_up (va_up (va_up (va_up (va_up (va_up (fun _ => none) 0 (some (u2 11))) 1 (some (u2 12))) 2 (some (u2 13))) 3 (some (u2 14))) 4 (some (u2 15))) 5 (some (u2 16))), wMe (u2 11), wMe (u2 12), wMe (u2 13), wMe (u2 14), wMe (u2 15), wMe (u2 16), (u2 17, .inr (1, [.int 0, .int 5, .ref (u2 18), .int 0, .ref (u2 27), .int 0])), wQ G (u2 18) 8 8 (va_up (va_up (va_up (va_up (va_up (va_up (va_up (va_up (fun _ => none) 0 (some (u2 19))) 1 (some (u2 20))) 2 (some (u2 21))) 3 (some (u2 22))) 4 (some (u2 23))) 5 (some (u2 24))) 6 (some (u2 25))) 7 (some (u2 26))), wH (u2 19), wH (u2 20), wH (u2 21), wH (u2 22), wH (u2 23), wH (u2 24), wH (u2 25), wH (u2 26), wQ G (u2 27) 9 6 (va_up (va_up (va_up (va_up (va_up (va_up (fun _ => none) 0 (some (u2 28))) 1 (some (u2 29))) 2 (some (u2 30))) 3 (some (u2 31))) 4 (some (u2 32))) 5 (some (u2 33))), wMe (u2 28), wMe (u2 29), wMe (u2 30), wMe (u2 31), wMe (u2 32), wMe (u2 33), (u2 34, .inr (1, [.int 0, .int 5, .ref (u2 35), .int 0, .ref (u2 44), .int 0])), wQ G (u2 35) 8 8 (va_up (va_up (va_up (va_up (va_up (va_up (va_up (va_up (fun _ => none) 0 (some (u2 36))) 1 (some (u2 37))) 2 (some (u2 38))) 3 (some (u2 39))) 4 (some (u2 40))) 5 (some (u2 41))) 6 (some (u2 42))) 7 (some (u2 43))), wH (u2 36), wH (u2 37), wH (u2 38), wH (u2 39), wH (u2 40), wH (u2 41), wH (u2 42), wH (u2 43), wQ G (u2 44) 9 6 (va_up (va_up (va_up (va_up (va_up (va_up (fun _ => none) 0 (some (u2 45))) 1 (some (u2 46))) 2 (some (u2 47))) 3 (some (u2 48))) 4 (some (u2 49))) 5 (some (u2 50))), wMe (u2 45), wMe (u2 46), wMe (u2 47), wMe (u2 48), wMe (u2 49), wMe (u2 50), (u2 51, .inr (4, [.ref (u2 52), .int 0])), wI G (u2 52) 120 (fun _ => 0), (u2 53, .inr (5, [.ref (u2 51), .ref (u2 17), .int 0, .int 0, .int 0, .int 0])), wQ G (u2 54) 10 4 (va_up (va_up (va_up (va_up (fun _ => none) 0 (some (u2 55))) 1 (some (u2 57))) 2 (some (u2 59))) 3 (some (u2 61))), (u2 55, .inr (3, [.int 0, .int 0, .ref (u2 56)])), wJ G (u2 56) 40 (fun _ => 0), (u2 57, .inr (3, [.int 0, .int 0, .ref (u2 58)])), wJ G (u2 58) 40 (fun _ => 0), (u2 59, .inr (3, [.int 0, .int 0, .ref (u2 60)])), wJ G (u2 60) 40 (fun _ => 0), (u2 61, .inr (3, [.int 0, .int 0, .ref (u2 62)])), wJ G (u2 62) 40 (fun _ => 0), wI G (u2 63) 7 (fun _ => 0), (q3, .inr (7, [.ref (u4 0), .ref (u4 1), .ref (u4 2), .ref (u4 3), .int 0, .int 0, .int 0, .int 0, .long 0, .int 0, .int 0, .ref (u4 4), .ref (u4 5), .ref (u4 6), .ref (u4 7), .ref (u4 8), .ref (u4 9), .int 0])), wI G (u4 0) 64 (upd (fun _ => 0) 1 5), wI G (u4 1) 7 (fun _ => 0), wI G (u4 2) 64 (fun _ => 0), wI G (u4 3) 120 (fun _ => 0), wI G (u4 4) 4 (fun _ => 0), wI G (u4 5) 4 (fun _ => 0), wJ G (u4 6) 160 (fun _ => 0), wJ G (u4 7) 40 (fun _ => 0), wI G (u4 8) 64 (fun _ => 0), wI G (u4 9) 64 (fun _ => 0)] := hD
  refine W.widen (k := 76) (n := 1168) (Nat.le_of_ble_eq_true rfl) (Nat.le_of_ble_eq_true rfl) ?_
  refine lv_astore_n (lv' := [(2, .ref q3), (1, .ref q1), (0, .ref b)]) hx hb dL_law_15 rfl hl (by decide) rfl (fun ls hl => ?_)
  have hP : va_P G.1 vwCl (st_w G q1 q3 u2 u4) H := hP
  have hD : va_D A (st_w G q1 q3 u2 u4) := hD
  obtain ⟨G2, hG2⟩ : ∃ G2 : AG, G2 = (D, cy, (fun i => (st_ads q1 q3 u2 u4).getD (st_pm.getD i 0) 0), adK, adV, (b, L, xs), sio) := ⟨_, rfl⟩
  have hP2 : va_P G2.1 vwCl (am_w G2 hp0) H := by
    refine st_world G2 q1 q3 u2 u4 (by rw [hG2]) ?_
    rw [hG2]
    rw [hG] at hP
    exact hP
  have hadr : ∀ k, k < 76 → ∃ ce, (st_w G q1 q3 u2 u4)[k]? = some ((st_ads q1 q3 u2 u4).getD k 0, ce) := by
    intro k hk
    have h1 : (st_ads q1 q3 u2 u4)[k]? = ((st_w G q1 q3 u2 u4).map (fun q => q.1))[k]? := rfl
    have h2 : k < (st_w G q1 q3 u2 u4).length := hk
    rw [List.getElem?_map, List.getElem?_eq_getElem h2] at h1
    refine ⟨((st_w G q1 q3 u2 u4)[k]).2, ?_⟩
    rw [List.getElem?_eq_getElem h2, List.getD_eq_getElem?_getD, h1]
    rfl
  have hinj : ∀ i j, i < 76 → j < 76 → G2.2.2.1 i = G2.2.2.1 j → i = j := by
    intro i j hi hj he
    rw [hG2] at he
    obtain ⟨e1, f1⟩ := hadr _ (st_pm_lt i hi)
    obtain ⟨e2, f2⟩ := hadr _ (st_pm_lt j hj)
    exact st_pm_inj i hi j hj (hD.1 _ _ _ _ f1 f2 he)
  have hreg : ∀ q, am_reg G2 q → A q := by
    rintro q ⟨i, hi, rfl⟩
    obtain ⟨e1, f1⟩ := hadr _ (st_pm_lt i hi)
    rw [hG2]
    exact hD.2 _ _ f1
  have hE : am_E G2 s := by
    refine ⟨by rw [hG2]; exact hK0, by rw [hG2]; exact hX, ?_, ?_, ?_, va_Z.narrow hZ1 hreg, ?_, by rw [hG2]; exact hsc, hinj⟩
    · intro q
      have := hreg _ q
      rw [hG2] at this
      exact hAn b hbl this
    · have := vk_S.narrow hSt hreg
      rw [hG2] at this ⊢
      exact this
    · intro i hi
      have := vk_R.of (htsA _ (st_W i hi)) (hStE i hi)
      rw [hG2]
      exact this
    · have := va_Z.narrow hZ2 hreg
      rw [hG2] at this ⊢
      exact this
  refine va_forget (fun q hq => by have := hS.2.2 q hq; rw [hAd] at this; exact this) ?_
  have hS2 : va_S (am_reg G2) s.heap H [] := ⟨hS.1, fun q h1 _ => hS.2.1 q h1 (hAn q h1), fun _ q => by cases q⟩
  obtain ⟨h', hp⟩ := hpure
  have CX : am_X p l e room_1 s m #[Value.ref b] below meth c 76 1168 G2 4 cL_law RL am_tb P_L_law am_rI (fun r t => r.1 = 1 → lw_Z below #[Value.ref b] s t) := by
    refine ⟨hx, hb, hml, hown, hts, hE, pf_RL, pk_RL, ps_RL, fun ix n F9 h9 => ?_, fun ix n F9 h9 => ?_, (fun _ q => by cases q), ?_, ?_, ?_, ?_⟩
    · exact am_cV (x := (ix, n, F9)) (fr := 10) (lo := 215) hx hb hml hown hts (fun _ q => q) hE (by decide) (by decide) ⟨Nat.le_of_ble_eq_true rfl, Nat.le_of_ble_eq_true rfl⟩ (cvs_L_law l G2 _ (am_get_mem _ _ _ h9))
    · cases h9
    · intro v h2 x2 pc ls H locs hret hwv hd hP9 hS9
      rcases v with v | v | v | v
      · by_cases hv : v = 1
        · subst hv
          intro T hT X9
          have hloc : ∀ q ∈ locs, s.heap.size ≤ q.base := fun q hq => by have := hreg _ (hS9.2.2 q hq); rw [hAd] at this; exact this
          obtain ⟨t, a1, b1⟩ := va_forget hloc (W.widen (k := 600000) (n := 7302250) (Nat.le_of_ble_eq_true rfl) (Nat.le_of_ble_eq_true rfl) (lw_ret (l := l) (e := e) (H := H) (ls := ls) hx hb hr hlocks hd)) T hT X9
          exact ⟨t, a1, fun _ => b1⟩
        · intro T hT X9
          refine ⟨_, Steps.refl _, fun q => absurd ?_ hv⟩
          have e9 : (some (v, h2) : Option (Int32 × HP)) = some x2 := hret
          cases e9
          exact q
      · cases hret
      · cases hret
      · cases hret
    · intro v h2 x2 pc ls H locs hret
      rcases v with v | v | v | v <;> cases hret
    · intro v h2 x2 pc ls H locs hret
      rcases v with v | v | v | v <;> cases hret
    · intro v h2 x2 pc ls H locs hret
      rcases v with v | v | v | v <;> cases hret
  have hw := w_L_law CX hp0 (r := (1, h')) (by
    have : (G2.2.2.2.2.2.1.2.2, G2.2.2.2.2.2.1.2.1) = (xs, L) := by rw [hG2]
    rw [this]
    exact hp)
  have hLR : am_LR G2 4 ls [.inr (.inr (.inl (15, 0))), .inr (.inr (.inl (6, 0))), .inr (.inr (.inl (7, 0))), .inr (.inr (.inr ()))] := by
    refine ⟨rfl, hl.1, hl.2.1, fun i v hi hv => ?_⟩
    match i, hi with
    | 0, hi =>
      cases hi
      rw [hG2]
      exact lv_at hl 2 rfl
    | 1, hi =>
      cases hi
      rw [hG2]
      exact lv_at hl 1 rfl
    | 2, hi =>
      cases hi
      rw [hG2]
      exact lv_at hl 0 rfl
    | 3, hi =>
      cases hi
      exact absurd rfl hv
  intro T hT X9
  obtain ⟨t, a1, b1⟩ := hw H [] ls hP2 hS2 hLR (by
    intro v hv
    simp only [List.mem_cons, List.not_mem_nil, or_false] at hv
    rcases hv with rfl | rfl | rfl | rfl
    · exact (by decide : 0 < am_cnt 15)
    · exact (by decide : 0 < am_cnt 6)
    · exact (by decide : 0 < am_cnt 7)
    · exact trivial) (fun _ q => by cases q) T hT X9
  exact ⟨t, a1, b1 rfl⟩
